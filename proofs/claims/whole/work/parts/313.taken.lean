def tkP (X M : Mem) (i j k c f1 f2 : Nat) : Prop := ∃ b : Bool, f_X7_isUnder_7 X i (nI j) f1 (nI k) (nI c) = some (if b = true then 1 else 0) ∧ f_X11_taken_30 M (nI i) (nI j) f2 (nI k) = some (if b = true then M 8 i else -13)
theorem tk0 {X M : Mem} {i j c f1 f2 : Nat} (hi : i < 10) (hj : j < 6) (hc : c < 6) : tkP X M i j 0 c (f1 + 2) (f2 + 1) := by
  unfold tkP
  rw [f_X7_isUnder_7, f_X11_taken_30, if_neg (show ¬ 6 ≤ nI c from (by simp (disch := omega) only [fa_lt, fa_le, fa_eq, nI_toInt, Int32.reduceToInt, im1] <;> omega)), if_neg (show ¬ nI 0 = -1 by decide)]
  by_cases h : nI 0 = nI j
  · refine ⟨true, ?_, ?_⟩
    · rw [if_pos h]
      rfl
    · simp only [if_pos h, if_pos (iblt hi (by decide)), nI_clamp (show i < 2 ^ 31 by omega)]
      rfl
  · refine ⟨false, ?_, ?_⟩
    · rw [if_neg h, if_pos (show ibd (nI 0) 6 by decide), f_X7_isUnder_7, show ([-1, 0, 0, 1, 2, 3] : List Int32).getD (Int32.toNatClampNeg (nI 0)) 0 = -1 by decide]
      by_cases h6 : 6 ≤ nI c + 1
      · rw [if_pos h6]
        rfl
      · rw [if_neg h6, if_pos rfl]
        rfl
    · simp only [if_neg h, if_pos (show nI 0 ≤ 0 by decide)]
      rfl
theorem tkS {X M : Mem} {i j k q c f1 f2 : Nat} (hi : i < 10) (hj : j < 6) (hc : c < 6) (hk : k < 6) (k0 : 0 < k) (hq : ([-1, 0, 0, 1, 2, 3] : List Int32).getD (Int32.toNatClampNeg (nI k)) 0 = nI q) (hq2 : (k = 1 ∧ q = 0) ∨ (k = 2 ∧ q = 0) ∨ (2 < k ∧ q = k - 2)) (h : tkP X M i j q (c + 1) f1 f2) : tkP X M i j k c (f1 + 1) (f2 + 1) := by
  unfold tkP at *
  obtain ⟨b, h1, h2⟩ := h
  rw [f_X7_isUnder_7, f_X11_taken_30, if_neg (show ¬ 6 ≤ nI c from (by simp (disch := omega) only [fa_lt, fa_le, fa_eq, nI_toInt, Int32.reduceToInt, im1] <;> omega)), if_neg (show ¬ nI k = -1 by rw [fa_eq, nI_toInt (by omega), im1]; omega)]
  by_cases h : nI k = nI j
  · refine ⟨true, ?_, ?_⟩
    · rw [if_pos h]
      rfl
    · simp only [if_pos h, if_pos (iblt hi (by decide)), nI_clamp (show i < 2 ^ 31 by omega)]
      rfl
  · refine ⟨b, ?_, ?_⟩
    · rw [if_neg h, if_pos (iblt hk (by decide)), hq, nI_1]
      exact h1
    · rw [if_neg h, if_neg (show ¬ nI k ≤ 0 from (by simp (disch := omega) only [fa_lt, fa_le, fa_eq, nI_toInt, Int32.reduceToInt, im1] <;> omega))]
      rcases hq2 with ⟨a1, a2⟩ | ⟨a1, a2⟩ | ⟨a1, a2⟩
      · subst a1
        subst a2
        rw [if_pos (show nI 1 = 1 from rfl)]
        exact h2
      · subst a1
        subst a2
        rw [if_neg (show ¬ nI 2 = 1 by decide), if_pos (show nI 2 = 2 from rfl)]
        exact h2
      · rw [if_neg (show ¬ nI k = 1 from (by simp (disch := omega) only [fa_lt, fa_le, fa_eq, nI_toInt, Int32.reduceToInt, im1] <;> omega)), if_neg (show ¬ nI k = 2 from (by simp (disch := omega) only [fa_lt, fa_le, fa_eq, nI_toInt, Int32.reduceToInt, im1] <;> omega)), show nI k - 2 = nI (k - 2) from pk_sub (b := 2) (by omega), ← a2]
        exact h2
theorem tkA {X M : Mem} {i j k f1 f2 : Nat} (hi : i < 10) (hj : j < 6) (hk : k < 6) : tkP X M i j k 0 (f1 + 6) (f2 + 6) := by
  match k, hk with
  | 0, _ => exact tk0 hi hj (by decide)
  | 1, _ => exact tkS hi hj (by decide) (by decide) (by decide) (q := 0) (by decide) (by decide) (tk0 hi hj (by decide))
  | 2, _ => exact tkS hi hj (by decide) (by decide) (by decide) (q := 0) (by decide) (by decide) (tk0 hi hj (by decide))
  | 3, _ => exact tkS hi hj (by decide) (by decide) (by decide) (q := 1) (by decide) (by decide) (tkS hi hj (by decide) (by decide) (by decide) (q := 0) (by decide) (by decide) (tk0 hi hj (by decide)))
  | 4, _ => exact tkS hi hj (by decide) (by decide) (by decide) (q := 2) (by decide) (by decide) (tkS hi hj (by decide) (by decide) (by decide) (q := 0) (by decide) (by decide) (tk0 hi hj (by decide)))
  | 5, _ => exact tkS hi hj (by decide) (by decide) (by decide) (q := 3) (by decide) (by decide) (tkS hi hj (by decide) (by decide) (by decide) (q := 1) (by decide) (by decide) (tkS hi hj (by decide) (by decide) (by decide) (q := 0) (by decide) (by decide) (tk0 hi hj (by decide))))
  | k + 6, h => exact absurd h (by omega)
/-- taken: promise 32 -/
theorem s_taken : S_30 Rel := by
  intro X M a b hR
  have hR0 := hR
  obtain ⟨e, d, nm, tp, ok, hX, hM, -, -, -, -, -⟩ := hR
  have x4 : X 1 4 = nI e.2.1 := hX.1.2.1
  have m5 : M 0 5 = nI e.2.1 := hM.1.2.1
  have n10 := ok.2.1
  unfold f_X10_taken f_X11_taken
  rcases cl b 6 (by decide) with ⟨j, hj, rfl⟩ | hb
  · rw [if_neg (show ¬ nI j < 0 from (by simp (disch := omega) only [fa_lt, fa_le, fa_eq, nI_toInt, Int32.reduceToInt, im1] <;> omega)), if_pos (show nI j < 6 from (by simp (disch := omega) only [fa_lt, fa_le, fa_eq, nI_toInt, Int32.reduceToInt, im1] <;> omega)), wi_in (by simp (disch := omega) only [fa_lt, fa_le, fa_eq, nI_toInt, Int32.reduceToInt, im1] <;> omega) (by simp (disch := omega) only [fa_lt, fa_le, fa_eq, nI_toInt, Int32.reduceToInt, im1] <;> omega), if_neg t10]
    rcases cl a e.2.1 (by omega) with ⟨i, hi, rfl⟩ | h
    · obtain ⟨q0, q1, q2, q3, q4, q5, q6, q7⟩ := hX.1.2.2.2.1 i hi
      obtain ⟨r0, r1, r2, r3⟩ := hM.1.2.2.2.1 i hi
      have i10 : i < 10 := by omega
      rw [hs_in x4 hi n10, in_in m5 hi n10, if_neg t10, if_neg t10, if_pos (iblt i10 (by decide)), if_pos (iblt i10 (by decide)), nI_clamp (by omega)]
      unfold f_X7_isUnder
      rw [q0, r0]
      obtain ⟨bb, h1, h2⟩ : tkP X M i j (e.2.2.1 5 i) 0 (3994 + 6) (3994 + 6) := tkA i10 hj (ok.2.2.2 i hi).1
      have h1 : f_X7_isUnder_7 X i (nI j) FU (nI ((eW e (d.2.2 d.2.1)).2.2.1 5 i)) 0 = some (if bb = true then 1 else 0) := h1
      have h2 : f_X11_taken_30 M (nI i) (nI j) FU (nI ((eW e (d.2.2 d.2.1)).2.2.1 5 i)) = some (if bb = true then M 8 i else -13) := h2
      rw [h1, h2]
      cases bb with
      | false => exact ⟨_, _, rfl, rfl, rfl, hR0⟩
      | true => exact ⟨_, _, rfl, rfl, q3.trans r3.symm, hR0⟩
    · rw [hs_out x4 n10 h, in_out m5 n10 h, if_pos t00, if_pos t00]
      exact ⟨_, _, rfl, rfl, rfl, hR0⟩
  · rw [wi_out (a := b) (by simp (disch := omega) only [fa_lt, fa_le, fa_eq, nI_toInt, Int32.reduceToInt, im1] <;> omega), if_pos t00]
    by_cases c : b < 0
    · rw [if_pos c]
      exact ⟨_, _, rfl, rfl, rfl, hR0⟩
    · have c2 : ¬ b.toInt < 0 := fun q => c (by rw [fa_lt]; exact q)
      rw [if_neg c, if_neg (show ¬ b < 6 from (by simp (disch := omega) only [fa_lt, fa_le, fa_eq, nI_toInt, Int32.reduceToInt, im1] <;> omega))]
      exact ⟨_, _, rfl, rfl, rfl, hR0⟩
