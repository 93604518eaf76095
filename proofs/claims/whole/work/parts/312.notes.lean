theorem upd2_id {X : Mem} {i k : Nat} {v : Int32} (h : X i k = v) : upd2 X i k v = X := by
  funext j q
  rw [u2]
  by_cases c : j = i
  · rw [if_pos c]
    by_cases c2 : q = k
    · rw [if_pos c2, c, c2, h]
    · rw [if_neg c2, c]
  · rw [if_neg c]
theorem at_toInt (a : Int32) {k : Nat} (hk : k < 10) : (a + 3 * nI k).toInt = if a.toInt + 3 * k < 2147483648 then a.toInt + 3 * k else a.toInt + 3 * k - 4294967296 := by
  have h3 : (3 : Int32) * nI k = nI (3 * k) := pk_mul 3 k
  have := fb_rng a
  rw [h3, Int32.toInt_add, nI_toInt (by omega)]
  simp only [Int.bmod]
  split <;> split <;> omega
theorem notes_loop {n s so sz : Nat} {a : Int32} (hs : s < 4) (hso : so < 3) (hsz : sz ≤ 40) (hn : n ≤ 10) : ∀ (r k : Nat) (c : Int32) (X M : Mem) (f1 f2 : Nat), k + r = n → r < f1 → r < f2 → Rel X M → X 5 0 = 1 → X (90 + s) 1 = nI so → X (90 + s) 2 = nI sz → M 28 s = nI so → M 29 s = nI sz → ∃ v X' M', f_X10_notes_76 a (nI n) s f1 c (nI k) X = some (v, X') ∧ f_X11_notes_64 (nI s) a (nI n) f2 c (nI k) M = some (v, M') ∧ Rel X' M' := by
  intro r
  induction r with
  | zero =>
    intro k c X M f1 f2 hk hf1 hf2 hR h5 x1 x2 m1 m2
    obtain ⟨g1, rfl⟩ : ∃ g, f1 = g + 1 := ⟨f1 - 1, by omega⟩
    obtain ⟨g2, rfl⟩ : ∃ g, f2 = g + 1 := ⟨f2 - 1, by omega⟩
    have : k = n := by omega
    subst this
    refine ⟨c, X, M, ?_, ?_, hR⟩
    · rw [f_X10_notes_76, if_pos (show nI k ≤ nI k from (by simp (disch := omega) only [fa_lt, fa_le, fa_eq, nI_toInt, Int32.reduceToInt, im1] <;> omega))]
    · rw [f_X11_notes_64, if_pos (show nI k ≤ nI k from (by simp (disch := omega) only [fa_lt, fa_le, fa_eq, nI_toInt, Int32.reduceToInt, im1] <;> omega))]
  | succ r ih =>
    intro k c X M f1 f2 hk hf1 hf2 hR h5 x1 x2 m1 m2
    obtain ⟨g1, rfl⟩ : ∃ g, f1 = g + 1 := ⟨f1 - 1, by omega⟩
    obtain ⟨g2, rfl⟩ : ∃ g, f2 = g + 1 := ⟨f2 - 1, by omega⟩
    have hA := at_toInt a (show k < 10 by omega)
    have rgA := fb_rng a
    have h3 : (3 : Int64) * (nI k).toInt64 = lN (3 * k) := by rw [nI_l (by omega)]; exact lN_mul 3 k
    have hL : (a.toInt64 + 3 * (nI k).toInt64).toInt = a.toInt + 3 * k := by
      rw [h3, fb_addL] <;> rw [Int32.toInt_toInt64, pf_lI (by omega)] <;> omega
    have hL2 : (a.toInt64 + 3 * (nI k).toInt64 + 2).toInt = a.toInt + 3 * k + 2 := by
      have h2 : (2 : Int64).toInt = 2 := by decide
      rw [fb_addL, hL, h2] <;> rw [hL, h2] <;> omega
    have l0 : (0 : Int64).toInt = 0 := by decide
    rw [f_X10_notes_76, f_X11_notes_64]
    simp only [if_pos (iblt hs (by decide)), nI_clamp (show s < 2 ^ 31 by omega), m2]
    rw [if_neg (show ¬ nI n ≤ nI k from (by simp (disch := omega) only [fa_lt, fa_le, fa_eq, nI_toInt, Int32.reduceToInt, im1] <;> omega)), if_neg (show ¬ nI n ≤ nI k from (by simp (disch := omega) only [fa_lt, fa_le, fa_eq, nI_toInt, Int32.reduceToInt, im1] <;> omega))]
    by_cases good : 0 ≤ a.toInt + 3 * k ∧ a.toInt + 3 * k + 2 < sz
    · obtain ⟨p, hp⟩ : ∃ p : Nat, a.toInt + 3 * k = p := ⟨(a.toInt + 3 * k).toNat, by omega⟩
      rw [hp] at hA hL hL2 good
      have eA : a + 3 * nI k = nI p := by
        apply Int32.toInt_inj.mp
        rw [hA, nI_toInt (by omega)]
        split <;> omega
      have eL : a.toInt64 + 3 * (nI k).toInt64 = lN p := by
        apply Int64.toInt_inj.mp
        rw [hL, pf_lI (by omega)]
      have e2 : nI p + 2 = nI (p + 2) := nI_add p 2
      rw [eA, eL, e2, has_in x2 hsz (by omega), if_neg t10, has_in x2 hsz (by omega), if_neg t10, nI_1, lN_i, show (40 : Int32) * nI s = nI (40 * s) from pk_mul 40 s, nI_add, show nI (40 * s + p) + 2 = nI (40 * s + p + 2) from nI_add _ 2, nI_1, if_neg (show ¬ lg_cmp (lN p) 0 < 0 by rw [lgc_lt, pf_lI (by omega), l0]; omega), if_pos (show lg_cmp (lN p + 2) (nI sz).toInt64 < 0 by rw [lgc_lt, show lN p + 2 = lN (p + 2) from lN_add p 2, pf_lI (by omega), nI_l (by omega), pf_lI (by omega)]; omega)]
      simp only [if_pos (iblt (show p < 40 by omega) (by decide)), if_pos (iblt (show p + 1 < 40 by omega) (by decide)), if_pos (iblt (show p + 2 < 40 by omega) (by decide)), if_pos (iblt (show 40 * s + p < 160 by omega) (by decide)), if_pos (iblt (show 40 * s + p + 1 < 160 by omega) (by decide)), if_pos (iblt (show 40 * s + p + 2 < 160 by omega) (by decide)), nI_clamp (show p < 2 ^ 31 by omega), nI_clamp (show p + 1 < 2 ^ 31 by omega), nI_clamp (show p + 2 < 2 ^ 31 by omega), nI_clamp (show 40 * s + p < 2 ^ 31 by omega), nI_clamp (show 40 * s + p + 1 < 2 ^ 31 by omega), nI_clamp (show 40 * s + p + 2 < 2 ^ 31 by omega), nI_1]
      have cells : ∀ q, q < 40 → X (94 + s) q = M 30 (40 * s + q) := by
        rcases hR.sh s hs with ⟨q1, q2⟩ | ⟨so2, sz2, q1, q2, q3, q4, q5, q6, q7⟩
        · rw [x1] at q1
          exact absurd q1 (so_ne hso)
        · exact q7
      rw [cells p (by omega), cells (p + 1) (by omega), cells (p + 2) (by omega), ← Nat.add_assoc, ← Nat.add_assoc]
      obtain ⟨v, X', M', b1, b2, b3, b4, b5⟩ := note_step (M 30 (40 * s + p)) (M 30 (40 * s + p + 1)) (M 30 (40 * s + p + 2)) hR.stale
      rw [b1, b2]
      simp only [Option.bind]
      have h5' : X' 5 0 = 1 := by rw [b4 5 (Or.inr rfl)]; exact h5
      rw [upd2_id h5'] at b3
      have y1 : X' (90 + s) 1 = nI so := by rw [b4 (90 + s) (by omega)]; exact x1
      have y2 : X' (90 + s) 2 = nI sz := by rw [b4 (90 + s) (by omega)]; exact x2
      have w1 : M' 28 s = nI so := by rw [b5 28 (by decide)]; exact m1
      have w2 : M' 29 s = nI sz := by rw [b5 29 (by decide)]; exact m2
      by_cases cv : v < 0
      · simp only [if_pos cv]
        exact ih (k + 1) c X' M' g1 g2 (by omega) (by omega) (by omega) b3 h5' y1 y2 w1 w2
      · simp only [if_neg cv]
        exact ih (k + 1) (c + 1) X' M' g1 g2 (by omega) (by omega) (by omega) b3 h5' y1 y2 w1 w2
    · refine ⟨-12, X, M, ?_, ?_, hR⟩
      · by_cases c1 : f_X6_has X s (a + 3 * nI k) = 0
        · rw [if_pos c1]
        · rw [if_neg c1]
          have in1 : 0 ≤ (a + 3 * nI k).toInt ∧ (a + 3 * nI k).toInt < sz := by
            by_cases q : 0 ≤ (a + 3 * nI k).toInt ∧ (a + 3 * nI k).toInt < sz
            · exact q
            · exact absurd (has_out x2 hsz (by omega)) c1
          have : (a + 3 * nI k + 2).toInt = (a + 3 * nI k).toInt + 2 := by
            have h2 : (2 : Int32).toInt = 2 := by decide
            rw [fb_addI, h2] <;> rw [h2] <;> omega
          rw [has_out x2 hsz (Or.inr (by
            rw [this]
            rw [hA] at in1 ⊢
            split at in1 <;> omega)), if_pos t00]
      · by_cases c1 : lg_cmp (a.toInt64 + 3 * (nI k).toInt64) 0 < 0
        · rw [if_pos c1]
        · rw [if_neg c1]
          rw [lgc_lt, hL, l0] at c1
          rw [if_neg (show ¬ lg_cmp (a.toInt64 + 3 * (nI k).toInt64 + 2) (nI sz).toInt64 < 0 by rw [lgc_lt, hL2, nI_l (by omega), pf_lI (by omega)]; omega)]
/-- notes: promise 31 -/
theorem s_notes : S_29 Rel := by
  intro X M a1 a2 a3 a4 hR
  unfold f_X10_notes f_X11_notes
  rcases cl a1 4 (by decide) with ⟨s, hs, rfl⟩ | h1
  · rw [is_in hs, if_neg t10, wi_in (a := nI s) (by simp (disch := omega) only [fa_lt, fa_le, fa_eq, nI_toInt, Int32.reduceToInt, im1] <;> omega) (by simp (disch := omega) only [fa_lt, fa_le, fa_eq, nI_toInt, Int32.reduceToInt, im1] <;> omega), if_neg t10]
    rcases cl a2 3 (by decide) with ⟨o, ho, rfl⟩ | h3
    · rw [if_neg (show ¬ nI o < 0 from (by simp (disch := omega) only [fa_lt, fa_le, fa_eq, nI_toInt, Int32.reduceToInt, im1] <;> omega)), if_neg (show ¬ 2 < nI o from (by simp (disch := omega) only [fa_lt, fa_le, fa_eq, nI_toInt, Int32.reduceToInt, im1] <;> omega)), wi_in (a := nI o) (by simp (disch := omega) only [fa_lt, fa_le, fa_eq, nI_toInt, Int32.reduceToInt, im1] <;> omega) (by simp (disch := omega) only [fa_lt, fa_le, fa_eq, nI_toInt, Int32.reduceToInt, im1] <;> omega), if_neg t10]
      rcases cl a4 11 (by decide) with ⟨n, hn, rfl⟩ | h4
      · rw [if_neg (show ¬ nI n < 0 from (by simp (disch := omega) only [fa_lt, fa_le, fa_eq, nI_toInt, Int32.reduceToInt, im1] <;> omega)), if_pos (show nI n ≤ 10 from (by simp (disch := omega) only [fa_lt, fa_le, fa_eq, nI_toInt, Int32.reduceToInt, im1] <;> omega)), wi_in (a := nI n) (by simp (disch := omega) only [fa_lt, fa_le, fa_eq, nI_toInt, Int32.reduceToInt, im1] <;> omega) (by simp (disch := omega) only [fa_lt, fa_le, fa_eq, nI_toInt, Int32.reduceToInt, im1] <;> omega), if_neg t10]
        simp only [if_pos (iblt hs (by decide)), nI_clamp (show s < 2 ^ 31 by omega)]
        unfold f_X6_isMissing
        rcases hR.sh s hs with ⟨q1, q2⟩ | ⟨so, sz, q1, q2, q3, q4, q5, q6, q7⟩
        · rw [q1, q2, if_pos rfl, if_neg t10, if_pos rfl]
          exact ans rfl rfl hR
        · rw [q3, q4, if_neg (so_ne q1), if_pos t00, if_neg (so_ne q1)]
          by_cases ce : nI so = nI o
          · rw [if_pos ce, if_pos ce]
            obtain ⟨v, X', M', b1, b2, b3⟩ := notes_loop (a := a3) hs q1 q2 (show n ≤ 10 by omega) n 0 0 (upd2 X 5 0 1) M FU FU (by omega) (by rw [FU_eq]; omega) (by rw [FU_eq]; omega) hR.stale u2s (by rw [u2n (by omega)]; exact q3) (by rw [u2n (by omega)]; exact q5) q4 q6
            exact ans b1 b2 b3
          · rw [if_neg ce, if_neg ce]
            exact ans rfl rfl hR
      · rw [wi_out (a := a4) (by simp (disch := omega) only [fa_lt, fa_le, fa_eq, nI_toInt, Int32.reduceToInt, im1] <;> omega), if_pos t00]
        by_cases c : a4 < 0
        · rw [if_pos c]
          exact ans rfl rfl hR
        · have c2 : ¬ a4.toInt < 0 := fun q => c (by rw [fa_lt]; exact q)
          rw [if_neg c, if_neg (show ¬ a4 ≤ 10 from (by simp (disch := omega) only [fa_lt, fa_le, fa_eq, nI_toInt, Int32.reduceToInt, im1] <;> omega))]
          exact ans rfl rfl hR
    · rw [wi_out (a := a2) (by simp (disch := omega) only [fa_lt, fa_le, fa_eq, nI_toInt, Int32.reduceToInt, im1] <;> omega), if_pos t00]
      by_cases c : a2 < 0
      · rw [if_pos c]
        exact ans rfl rfl hR
      · have c2 : ¬ a2.toInt < 0 := fun q => c (by rw [fa_lt]; exact q)
        rw [if_neg c, if_pos (show 2 < a2 from (by simp (disch := omega) only [fa_lt, fa_le, fa_eq, nI_toInt, Int32.reduceToInt, im1] <;> omega))]
        exact ans rfl rfl hR
  · rw [is_out h1, wi_out (a := a1) (by simp (disch := omega) only [fa_lt, fa_le, fa_eq, nI_toInt, Int32.reduceToInt, im1] <;> omega), if_pos t00, if_pos t00]
    exact ans rfl rfl hR
