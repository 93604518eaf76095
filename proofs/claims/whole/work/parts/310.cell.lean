theorem Rel.sh {X M : Mem} (hR : Rel X M) : Rsh X M := by
  obtain ⟨e, d, nm, tp, ok, hX, hM, hma, hta, him, hsh, hst⟩ := hR
  exact hsh
theorem has_in {X : Mem} {i sz j : Nat} (h : X (90 + i) 2 = nI sz) (hs : sz ≤ 40) (hj : j < sz) : f_X6_has X i (nI j) = 1 := by
  unfold f_X6_has
  rw [h, if_neg (by simp (disch := omega) only [fa_lt, fa_le, fa_eq, nI_toInt, Int32.reduceToInt, im1] <;> omega), if_neg (by simp (disch := omega) only [fa_lt, fa_le, fa_eq, nI_toInt, Int32.reduceToInt, im1] <;> omega)]
theorem has_out {X : Mem} {i sz : Nat} {a : Int32} (h : X (90 + i) 2 = nI sz) (hs : sz ≤ 40) (ha : a.toInt < 0 ∨ (sz : Int) ≤ a.toInt) : f_X6_has X i a = 0 := by
  unfold f_X6_has
  rw [h]
  by_cases c : a < 0
  · rw [if_pos c]
  · have c2 : ¬ a.toInt < 0 := fun q => c (by rw [fa_lt]; exact q)
    rw [if_neg c, if_pos (by simp (disch := omega) only [fa_lt, fa_le, fa_eq, nI_toInt, Int32.reduceToInt, im1] <;> omega)]
/-- one cell of both written -/
theorem cell_put {X M : Mem} {i so sz j : Nat} {v : Int32} (hR : Rel X M) (hi : i < 4) (hj : j < 40) : Rel (upd2 X (94 + i) j v) (upd2 M 30 (40 * i + j) v) := by
  refine hR.sheets (fun c hc => u2n (by omega)) (fun c hc => u2n (by omega)) (fun q hq => ?_)
  rw [u2n (show 90 + q ≠ 94 + i by omega), u2n (show (28 : Nat) ≠ 30 by decide), u2n (show (29 : Nat) ≠ 30 by decide)]
  rcases hR.sh q hq with h | ⟨so2, sz2, q1, q2, q3, q4, q5, q6, q7⟩
  · exact Or.inl h
  · refine Or.inr ⟨so2, sz2, q1, q2, q3, q4, q5, q6, fun k hk => ?_⟩
    by_cases c : q = i
    · subst c
      by_cases c : k = j
      · subst c
        rw [u2s, u2s]
      · rw [u2t c, u2t (by omega)]
        exact q7 k hk
    · rw [u2n (show 94 + q ≠ 94 + i by omega), u2t (by omega)]
      exact q7 k hk
theorem so_ne {so : Nat} (h : so < 3) : ¬ nI so = -1 := by rw [fa_eq, nI_toInt (by omega), im1]; omega
/-- cell: promise 29 -/
theorem s_cell : S_27 Rel := by
  intro X M a b v hR
  unfold f_X10_cell f_X11_cell
  rcases cl a 4 (by decide) with ⟨i, hi, rfl⟩ | h1
  · rw [is_in hi, if_neg t10, wi_in (by simp (disch := omega) only [fa_lt, fa_le, fa_eq, nI_toInt, Int32.reduceToInt, im1] <;> omega) (by simp (disch := omega) only [fa_lt, fa_le, fa_eq, nI_toInt, Int32.reduceToInt, im1] <;> omega), if_neg t10]
    simp only [if_pos (iblt hi (by decide)), nI_clamp (show i < 2 ^ 31 by omega)]
    unfold f_X6_isMissing
    rcases hR.sh i hi with ⟨q1, q2⟩ | ⟨so, sz, q1, q2, q3, q4, q5, q6, q7⟩
    · rw [q1, q2, if_pos rfl, if_neg t10, if_pos rfl]
      exact ans rfl rfl hR
    · rw [q3, q4, if_neg (so_ne q1), if_pos t00, if_neg (so_ne q1)]
      rcases cl b sz (by omega) with ⟨j, hj, rfl⟩ | h2
      · rw [has_in q5 q2 hj, if_neg t10, q6, wn_in hj (by omega), if_neg t10]
        unfold f_X6_put
        rw [q3]
        have e40 : (40 : Int32) * nI i + nI j = nI (40 * i + j) := by rw [show (40 : Int32) * nI i = nI (40 * i) from pk_mul 40 i, nI_add]
        rw [e40]
        simp only [if_pos (iblt (show j < 40 by omega) (by decide)), if_pos (iblt (show 40 * i + j < 160 by omega) (by decide)), nI_clamp (show j < 2 ^ 31 by omega), nI_clamp (show 40 * i + j < 2 ^ 31 by omega)]
        match so, q1 with
        | 0, _ =>
          simp only [if_pos (show nI 0 = 0 from rfl)]
          exact ans rfl rfl (cell_put (so := 0) (sz := 0) hR hi (by omega))
        | 1, _ =>
          simp only [if_neg (show ¬ nI 1 = 0 by decide), if_pos (show nI 1 = 1 from rfl)]
          exact ans rfl rfl (cell_put (so := 0) (sz := 0) hR hi (by omega))
        | 2, _ =>
          simp only [if_neg (show ¬ nI 2 = 0 by decide), if_neg (show ¬ nI 2 = 1 by decide)]
          exact ans rfl rfl (cell_put (so := 0) (sz := 0) hR hi (by omega))
        | k + 3, h => exact absurd h (by omega)
      · rw [has_out q5 q2 h2, if_pos t00, q6, wn_out (by omega) h2, if_pos t00]
        exact ans rfl rfl hR
  · rw [is_out h1, wi_out (a := a) (by simp (disch := omega) only [fa_lt, fa_le, fa_eq, nI_toInt, Int32.reduceToInt, im1] <;> omega), if_pos t00, if_pos t00]
    exact ans rfl rfl hR
theorem hr_in {X : Mem} {i sz j n : Nat} (h : X (90 + i) 2 = nI sz) (hs : sz ≤ 40) (hj : j + n ≤ sz) : f_X6_hasRun X i (nI j) (nI n) = 1 := by
  unfold f_X6_hasRun
  rw [h, if_neg (by simp (disch := omega) only [fa_lt, fa_le, fa_eq, nI_toInt, Int32.reduceToInt, im1] <;> omega), if_neg (by simp (disch := omega) only [fa_lt, fa_le, fa_eq, nI_toInt, Int32.reduceToInt, im1] <;> omega), pk_sub (by omega), if_neg (by simp (disch := omega) only [fa_lt, fa_le, fa_eq, nI_toInt, Int32.reduceToInt, im1] <;> omega)]
theorem hr_out {X : Mem} {i sz j n : Nat} (h : X (90 + i) 2 = nI sz) (hs : sz ≤ 40) (hj' : j < 2 ^ 31) (hn : n < 2 ^ 31) (hj : sz < j + n) : f_X6_hasRun X i (nI j) (nI n) = 0 := by
  unfold f_X6_hasRun
  rw [h, if_neg (by simp (disch := omega) only [fa_lt, fa_le, fa_eq, nI_toInt, Int32.reduceToInt, im1] <;> omega), if_neg (by simp (disch := omega) only [fa_lt, fa_le, fa_eq, nI_toInt, Int32.reduceToInt, im1] <;> omega)]
  have : (nI sz - nI n).toInt = (sz : Int) - n := by
    rw [fb_subI] <;> rw [nI_toInt (by omega), nI_toInt (by omega)] <;> omega
  rw [if_pos (by rw [fa_lt, this, nI_toInt (by omega)]; omega)]
theorem hr_neg {X : Mem} {i : Nat} {a n : Int32} (h : a.toInt < 0 ∨ n.toInt < 0) : f_X6_hasRun X i a n = 0 := by
  unfold f_X6_hasRun
  by_cases c : a < 0
  · rw [if_pos c]
  · have c2 : ¬ a.toInt < 0 := fun q => c (by rw [fa_lt]; exact q)
    rw [if_neg c, if_pos (by simp (disch := omega) only [fa_lt, fa_le, fa_eq, nI_toInt, Int32.reduceToInt, im1] <;> omega)]
