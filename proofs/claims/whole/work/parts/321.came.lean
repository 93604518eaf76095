theorem came_loop {X M : Mem} {e : ET} {s sz : Nat} (ok : Eok e) (h3 : X 1 3 = nI e.1) (hX : ∀ p, p < e.1 → X (25 + p) 0 = nI (e.2.2.1 1 p) ∧ X (25 + p) 1 = nI (e.2.2.1 2 p)) (m3 : M 0 0 = nI e.1) (hM : ∀ p, p < e.1 → M 1 p = nI (e.2.2.1 1 p) ∧ M 2 p = nI (e.2.2.1 2 p)) (hs : s < 4) (hsz : sz ≤ 40) (x2 : X (90 + s) 2 = nI sz) (m2 : M 29 s = nI sz) (hc : ∀ k, k < 40 → X (94 + s) k = M 30 (40 * s + k)) : ∀ (r k f1 f2 : Nat), k + r = sz → r < f1 → r < f2 → ∃ v, f_X10_came_40 X s f1 (nI k) = some v ∧ f_X11_came_40 M (nI s) f2 (nI k) = some v := by
  intro r
  induction r with
  | zero =>
    intro k f1 f2 hk hf1 hf2
    obtain ⟨g1, rfl⟩ : ∃ g, f1 = g + 1 := ⟨f1 - 1, by omega⟩
    obtain ⟨g2, rfl⟩ : ∃ g, f2 = g + 1 := ⟨f2 - 1, by omega⟩
    refine ⟨-1, ?_, ?_⟩
    · rw [f_X10_came_40, x2, if_pos (show nI sz ≤ nI k from (by simp (disch := omega) only [fa_lt, fa_le, fa_eq, nI_toInt, Int32.reduceToInt, im1] <;> omega))]
    · rw [f_X11_came_40, if_pos (iblt hs (by decide)), nI_clamp (by omega), m2, if_pos (show nI sz ≤ nI k from (by simp (disch := omega) only [fa_lt, fa_le, fa_eq, nI_toInt, Int32.reduceToInt, im1] <;> omega))]
  | succ r ih =>
    intro k f1 f2 hk hf1 hf2
    obtain ⟨g1, rfl⟩ : ∃ g, f1 = g + 1 := ⟨f1 - 1, by omega⟩
    obtain ⟨g2, rfl⟩ : ∃ g, f2 = g + 1 := ⟨f2 - 1, by omega⟩
    rw [f_X10_came_40, x2, if_neg (show ¬ nI sz ≤ nI k from (by simp (disch := omega) only [fa_lt, fa_le, fa_eq, nI_toInt, Int32.reduceToInt, im1] <;> omega)), if_pos (iblt (show k < 40 by omega) (by decide)), nI_clamp (show k < 2 ^ 31 by omega), hc k (by omega), xwho ok h3 hX (by omega)]
    rw [f_X11_came_40, if_pos (iblt hs (by decide)), nI_clamp (show s < 2 ^ 31 by omega), m2, if_neg (show ¬ nI sz ≤ nI k from (by simp (disch := omega) only [fa_lt, fa_le, fa_eq, nI_toInt, Int32.reduceToInt, im1] <;> omega)), mwho ok m3 hM (by omega), show (40 : Int32) * nI s = nI (40 * s) from pk_mul 40 s, nI_add, if_pos (iblt (show 40 * s + k < 160 by omega) (by decide)), nI_clamp (show 40 * s + k < 2 ^ 31 by omega)]
    simp only [Option.bind]
    by_cases c : M 30 (40 * s + k) = mk (coB e k) e.1
    · rw [if_pos c, if_pos c, nI_1]
      exact ih (k + 1) g1 g2 (by omega) (by omega) (by omega)
    · rw [if_neg c, if_neg c]
      exact ⟨_, rfl, rfl⟩
/-- came: promise 24 -/
theorem s_came : S_22 Rel := by
  intro X M a hR
  have hR0 := hR
  have hsh := hR.sh
  obtain ⟨e, d, nm, tp, ok, hX, hM, -, -, -, -, -⟩ := hR
  unfold f_X10_came f_X11_came
  rcases cl a 4 (by decide) with ⟨s, hs, rfl⟩ | h1
  · rw [is_in hs, if_neg t10, wi_in (a := nI s) (by simp (disch := omega) only [fa_lt, fa_le, fa_eq, nI_toInt, Int32.reduceToInt, im1] <;> omega) (by simp (disch := omega) only [fa_lt, fa_le, fa_eq, nI_toInt, Int32.reduceToInt, im1] <;> omega), if_neg t10]
    simp only [if_pos (iblt hs (by decide)), nI_clamp (show s < 2 ^ 31 by omega)]
    unfold f_X6_isMissing
    rcases hsh s hs with ⟨q1, q2⟩ | ⟨so, sz, q1, q2, q3, q4, q5, q6, q7⟩
    · rw [q1, q2, if_pos rfl, if_neg t10, if_pos rfl]
      exact ⟨_, _, rfl, rfl, rfl, hR0⟩
    · rw [q3, q4, if_neg (so_ne q1), if_pos t00, if_neg (so_ne q1), q5, q6]
      by_cases c : 1 ≤ nI sz
      · rw [if_pos c, if_pos c]
        obtain ⟨v, h1, h2⟩ := came_loop ok.eW hX.1.1 (fun p hp => ⟨(hX.1.2.2.1 p hp).1, (hX.1.2.2.1 p hp).2.1⟩) hM.1.1 (fun p hp => ⟨(hM.1.2.2.1 p hp).1, (hM.1.2.2.1 p hp).2.1⟩) hs q2 q5 q6 q7 sz 0 FU FU (by omega) (by rw [FU_eq]; omega) (by rw [FU_eq]; omega)
        exact ⟨v, v, h1, h2, rfl, hR0⟩
      · rw [if_neg c, if_neg c]
        exact ⟨_, _, rfl, rfl, rfl, hR0⟩
  · rw [is_out h1, wi_out (a := a) (by simp (disch := omega) only [fa_lt, fa_le, fa_eq, nI_toInt, Int32.reduceToInt, im1] <;> omega), if_pos t00, if_pos t00]
    exact ⟨_, _, rfl, rfl, rfl, hR0⟩
