theorem lgc_lt (x y : Int64) : lg_cmp x y < 0 ↔ x.toInt < y.toInt := by
  unfold lg_cmp
  by_cases h : x > y
  · rw [if_pos h]
    have h' : y.toInt < x.toInt := (fa_lt64 y x).mp h
    exact ⟨fun q => absurd q (by decide), fun q => absurd q (by omega)⟩
  · rw [if_neg h]
    have h' : ¬ y.toInt < x.toInt := fun q => h ((fa_lt64 y x).mpr q)
    by_cases e : x = y
    · rw [if_pos e, e]
      exact ⟨fun q => absurd q (by decide), fun q => absurd q (by omega)⟩
    · rw [if_neg e]
      have : x.toInt ≠ y.toInt := fun q => e ((fa_eq64 x y).mpr q)
      exact ⟨fun _ => by omega, fun _ => by decide⟩
theorem lgc_gt (x y : Int64) : 0 < lg_cmp x y ↔ y.toInt < x.toInt := by
  unfold lg_cmp
  by_cases h : x > y
  · rw [if_pos h]
    have h' : y.toInt < x.toInt := (fa_lt64 y x).mp h
    exact ⟨fun _ => h', fun _ => by decide⟩
  · rw [if_neg h]
    have h' : ¬ y.toInt < x.toInt := fun q => h ((fa_lt64 y x).mpr q)
    refine ⟨fun q => ?_, fun q => absurd q h'⟩
    by_cases e : x = y
    · rw [if_pos e] at q
      exact absurd q (by decide)
    · rw [if_neg e] at q
      exact absurd q (by decide)
theorem lgc_le (x y : Int64) : lg_cmp x y ≤ 0 ↔ x.toInt ≤ y.toInt := by
  have h1 := lgc_gt x y
  constructor
  · intro h
    by_cases c : x.toInt ≤ y.toInt
    · exact c
    · have := h1.mpr (by omega)
      rw [fa_lt] at this
      rw [fa_le] at h
      omega
  · intro h
    by_cases c : lg_cmp x y ≤ 0
    · exact c
    · have : 0 < lg_cmp x y := by
        rw [fa_le] at c
        rw [fa_lt]
        omega
      have := h1.mp this
      omega
theorem mcp1 {M : Mem} {s o i j n : Nat} {k : Mem → Option (Int32 × Mem)} (hs : s < 4) (hi : i + n ≤ 40) : ∃ M', f_X11_copy_117 (nI s) (nI i) (nI o) (nI j) (nI n) k FU 0 M = k M' ∧ (∀ c, c ≠ 31 → M' c = M c) ∧ ∀ q, q < n → M' 31 q = M 30 (40 * s + i + q) := by
  have h := lp0 (F := fun fu x A => f_X11_copy_117 (nI s) (nI i) (nI o) (nI j) (nI n) k fu x A) (a := M) k n (fun q A => (∀ c, c ≠ 31 → A c = M c) ∧ ∀ p, p < q → A 31 p = M 30 (40 * s + i + p)) ⟨fun _ _ => rfl, fun _ h => absurd h (Nat.not_lt_zero _)⟩ (fun fu q A hq hI => ⟨upd2 A 31 q (M 30 (40 * s + i + q)), by
    show f_X11_copy_117 (nI s) (nI i) (nI o) (nI j) (nI n) k (fu + 1) (nI q) A = _
    rw [f_X11_copy_117, if_neg (show ¬ nI n ≤ nI q from (by simp (disch := omega) only [fa_lt, fa_le, fa_eq, nI_toInt, Int32.reduceToInt, im1] <;> omega)), show (40 : Int32) * nI s = nI (40 * s) from pk_mul 40 s, nI_add, nI_add, if_pos (iblt (show 40 * s + i + q < 160 by omega) (by decide)), if_pos (iblt (show q < 40 by omega) (by decide)), nI_clamp (by omega), nI_clamp (by omega), nI_1, hI.1 30 (by decide)], fun c hc => by rw [u2n hc]; exact hI.1 c hc, fun p hp => by
      by_cases c : p = q
      · rw [c, u2s]
      · rw [u2t c]; exact hI.2 p (by omega)⟩) (fun fu A hI => by
    show f_X11_copy_117 (nI s) (nI i) (nI o) (nI j) (nI n) k (fu + 1) (nI n) A = _
    rw [f_X11_copy_117, if_pos (show nI n ≤ nI n from (by simp (disch := omega) only [fa_lt, fa_le, fa_eq, nI_toInt, Int32.reduceToInt, im1] <;> omega))]) (by omega)
  exact h
theorem mcp2 {M : Mem} {o j n : Nat} (ho : o < 4) (hj : j + n ≤ 40) : ∃ M', f_X11_copy_154 (nI o) (nI j) (nI n) FU 0 M = some (nI n, M') ∧ (∀ c, c ≠ 30 → M' c = M c) ∧ (∀ q, q < n → M' 30 (40 * o + j + q) = M 31 q) ∧ ∀ q, (q < 40 * o + j ∨ 40 * o + j + n ≤ q) → M' 30 q = M 30 q := by
  have h := lp0 (F := fun fu x A => f_X11_copy_154 (nI o) (nI j) (nI n) fu x A) (a := M) (fun A => some (nI n, A)) n (fun q A => (∀ c, c ≠ 30 → A c = M c) ∧ (∀ p, p < q → A 30 (40 * o + j + p) = M 31 p) ∧ ∀ p, (p < 40 * o + j ∨ 40 * o + j + n ≤ p) → A 30 p = M 30 p) ⟨fun _ _ => rfl, fun _ h => absurd h (Nat.not_lt_zero _), fun _ _ => rfl⟩ (fun fu q A hq hI => ⟨upd2 A 30 (40 * o + j + q) (M 31 q), by
    show f_X11_copy_154 (nI o) (nI j) (nI n) (fu + 1) (nI q) A = _
    rw [f_X11_copy_154, if_neg (show ¬ nI n ≤ nI q from (by simp (disch := omega) only [fa_lt, fa_le, fa_eq, nI_toInt, Int32.reduceToInt, im1] <;> omega)), show (40 : Int32) * nI o = nI (40 * o) from pk_mul 40 o, nI_add, nI_add, if_pos (iblt (show q < 40 by omega) (by decide)), if_pos (iblt (show 40 * o + j + q < 160 by omega) (by decide)), nI_clamp (by omega), nI_clamp (by omega), nI_1, hI.1 31 (by decide)], fun c hc => by rw [u2n hc]; exact hI.1 c hc, fun p hp => by
      by_cases c : p = q
      · rw [c, u2s]
      · rw [u2t (by omega)]; exact hI.2.1 p (by omega), fun p hp => by rw [u2t (by omega)]; exact hI.2.2 p hp⟩) (fun fu A hI => by
    show f_X11_copy_154 (nI o) (nI j) (nI n) (fu + 1) (nI n) A = _
    rw [f_X11_copy_154, if_pos (show nI n ≤ nI n from (by simp (disch := omega) only [fa_lt, fa_le, fa_eq, nI_toInt, Int32.reduceToInt, im1] <;> omega))]) (by omega)
  exact h
theorem nlI {a b : Nat} (ha : a < 2 ^ 31) (hb : b < 2 ^ 31) : ((nI a).toInt64 + (nI b).toInt64).toInt = (a : Int) + b := by
  rw [nI_l ha, nI_l hb, lN_add, pf_lI (by omega)]
  omega
/-- copy: promise 30 -/
theorem s_copy : S_28 Rel := by
  intro X M a1 a2 a3 a4 a5 hR
  unfold f_X10_copy f_X11_copy
  rcases cl a1 4 (by decide) with ⟨s, hs, rfl⟩ | h1
  · rw [is_in hs, if_neg t10, wi_in (a := nI s) (by simp (disch := omega) only [fa_lt, fa_le, fa_eq, nI_toInt, Int32.reduceToInt, im1] <;> omega) (by simp (disch := omega) only [fa_lt, fa_le, fa_eq, nI_toInt, Int32.reduceToInt, im1] <;> omega), if_neg t10]
    rcases cl a3 4 (by decide) with ⟨o, ho, rfl⟩ | h3
    · rw [is_in ho, if_neg t10, wi_in (a := nI o) (by simp (disch := omega) only [fa_lt, fa_le, fa_eq, nI_toInt, Int32.reduceToInt, im1] <;> omega) (by simp (disch := omega) only [fa_lt, fa_le, fa_eq, nI_toInt, Int32.reduceToInt, im1] <;> omega), if_neg t10]
      simp only [if_pos (iblt hs (by decide)), if_pos (iblt ho (by decide)), nI_clamp (show s < 2 ^ 31 by omega), nI_clamp (show o < 2 ^ 31 by omega)]
      unfold f_X6_isMissing
      rcases hR.sh s hs with ⟨q1, q2⟩ | ⟨so, sz, q1, q2, q3, q4, q5, q6, q7⟩
      · rw [q1, q2, if_pos rfl, if_neg t10, if_pos rfl]
        exact ans rfl rfl hR
      · rw [q3, q4, if_neg (so_ne q1), if_pos t00, if_neg (so_ne q1)]
        rcases hR.sh o ho with ⟨r1, r2⟩ | ⟨to, tz, r1, r2, r3, r4, r5, r6, r7⟩
        · rw [r1, r2, if_pos rfl, if_neg t10, if_pos rfl]
          exact ans rfl rfl hR
        · rw [r3, r4, if_neg (so_ne r1), if_pos t00, if_neg (so_ne r1)]
          by_cases ce : so = to
          · subst ce
            simp only [if_true]
            by_cases c2 : a2.toInt < 0
            · rw [hr_neg (Or.inl c2), if_pos t00, if_pos (show a2 < 0 from (by simp (disch := omega) only [fa_lt, fa_le, fa_eq, nI_toInt, Int32.reduceToInt, im1] <;> omega))]
              exact ans rfl rfl hR
            · rw [if_neg (show ¬ a2 < 0 from (by simp (disch := omega) only [fa_lt, fa_le, fa_eq, nI_toInt, Int32.reduceToInt, im1] <;> omega))]
              by_cases c5 : a5.toInt < 0
              · rw [hr_neg (Or.inr c5), if_pos t00, if_pos (show a5 < 0 from (by simp (disch := omega) only [fa_lt, fa_le, fa_eq, nI_toInt, Int32.reduceToInt, im1] <;> omega))]
                by_cases c4 : a4 < 0
                · rw [if_pos c4]
                  exact ans rfl rfl hR
                · rw [if_neg c4]
                  exact ans rfl rfl hR
              · rw [if_neg (show ¬ a5 < 0 from (by simp (disch := omega) only [fa_lt, fa_le, fa_eq, nI_toInt, Int32.reduceToInt, im1] <;> omega))]
                obtain ⟨i, hi, rfl⟩ := ge_nI (a := a2) (by omega)
                obtain ⟨n, hn, rfl⟩ := ge_nI (a := a5) (by omega)
                by_cases c4 : a4.toInt < 0
                · rw [hr_neg (i := o) (Or.inl c4), if_pos t00, if_pos (show a4 < 0 from (by simp (disch := omega) only [fa_lt, fa_le, fa_eq, nI_toInt, Int32.reduceToInt, im1] <;> omega))]
                  by_cases cr : f_X6_hasRun X s (nI i) (nI n) = 0
                  · rw [if_pos cr]
                    exact ans rfl rfl hR
                  · rw [if_neg cr]
                    exact ans rfl rfl hR
                · obtain ⟨j, hj, rfl⟩ := ge_nI (a := a4) (by omega)
                  rw [if_neg (show ¬ nI j < 0 from (by simp (disch := omega) only [fa_lt, fa_le, fa_eq, nI_toInt, Int32.reduceToInt, im1] <;> omega)), q6, r6]
                  by_cases g1 : i + n ≤ sz
                  · rw [hr_in q5 q2 g1, if_neg t10, if_neg (show ¬ 0 < lg_cmp ((nI i).toInt64 + (nI n).toInt64) (nI sz).toInt64 by rw [lgc_gt, nlI hi hn, nI_l (by omega), pf_lI (by omega)]; omega)]
                    by_cases g2 : j + n ≤ tz
                    · rw [hr_in r5 r2 g2, if_neg t10, if_pos (show lg_cmp ((nI j).toInt64 + (nI n).toInt64) (nI tz).toInt64 ≤ 0 by rw [lgc_le, nlI hj hn, nI_l (by omega), pf_lI (by omega)]; omega)]
                      simp only [if_pos (show ¬ nI i < 0 from (by simp (disch := omega) only [fa_lt, fa_le, fa_eq, nI_toInt, Int32.reduceToInt, im1] <;> omega)), if_pos (show ¬ nI j < 0 from (by simp (disch := omega) only [fa_lt, fa_le, fa_eq, nI_toInt, Int32.reduceToInt, im1] <;> omega)), if_pos (show ¬ nI n < 0 from (by simp (disch := omega) only [fa_lt, fa_le, fa_eq, nI_toInt, Int32.reduceToInt, im1] <;> omega)), nI_clamp hi, nI_clamp hj, nI_clamp hn, if_pos (show i + n ≤ 40 by omega), if_pos (show j + n ≤ 40 by omega)]
                      obtain ⟨M1, e1, f1, f2⟩ := mcp1 (M := M) (s := s) (o := o) (i := i) (j := j) (n := n) (k := fun A => f_X11_copy_154 (nI o) (nI j) (nI n) FU 0 A) hs (by omega)
                      obtain ⟨M2, e2, g3, g4, g5⟩ := mcp2 (M := M1) (o := o) (j := j) (n := n) ho (by omega)
                      rw [e1, e2]
                      refine ans rfl rfl (hR.sheets (fun c hc => ?_) (fun c hc => ?_) (fun q hq => ?_))
                      · show cpy2 _ _ _ _ _ _ c = _
                        unfold cpy2
                        rw [if_neg (by omega)]
                      · rw [g3 c (by omega), f1 c (by omega)]
                      · have hc : ∀ c, c ≠ 94 + o → cpy2 X (94 + s) (94 + o) i j n c = X c := fun c hc => if_neg hc
                        have hc2 : cpy2 X (94 + s) (94 + o) i j n (94 + o) = va_cpy (X (94 + s)) (X (94 + o)) i j n := if_pos rfl
                        show (cpy2 X (94 + s) (94 + o) i j n (90 + q) 1 = -1 ∧ _) ∨ ∃ so sz, _ ∧ _ ∧ _ ∧ _ ∧ cpy2 X (94 + s) (94 + o) i j n (90 + q) 2 = _ ∧ _ ∧ ∀ k, k < 40 → cpy2 X (94 + s) (94 + o) i j n (94 + q) k = _
                        rw [hc (90 + q) (by omega), g3 28 (by decide), g3 29 (by decide), f1 28 (by decide), f1 29 (by decide)]
                        by_cases cq : q = o
                        · subst cq
                          refine Or.inr ⟨so, tz, r1, r2, r3, r4, r5, r6, fun k hk => ?_⟩
                          rw [hc2]
                          by_cases ck : j ≤ k ∧ k < j + n
                          · rw [pk_cpy_in ck.1 ck.2, q7 _ (by omega), show 40 * q + k = 40 * q + j + (k - j) by omega, g4 _ (by omega), f2 _ (by omega)]
                            congr 1
                            omega
                          · rw [pk_cpy_out (by omega), r7 k hk, g5 _ (by omega), f1 30 (by decide)]
                        · rcases hR.sh q hq with h | ⟨so2, sz2, p1, p2, p3, p4, p5, p6, p7⟩
                          · exact Or.inl h
                          · refine Or.inr ⟨so2, sz2, p1, p2, p3, p4, p5, p6, fun k hk => ?_⟩
                            rw [hc (94 + q) (by omega), p7 k hk, g5 _ (by omega), f1 30 (by decide)]
                    · rw [hr_out r5 r2 hj hn (by omega), if_pos t00, if_neg (show ¬ lg_cmp ((nI j).toInt64 + (nI n).toInt64) (nI tz).toInt64 ≤ 0 by rw [lgc_le, nlI hj hn, nI_l (by omega), pf_lI (by omega)]; omega)]
                      exact ans rfl rfl hR
                  · rw [hr_out q5 q2 hi hn (by omega), if_pos t00, if_pos (show 0 < lg_cmp ((nI i).toInt64 + (nI n).toInt64) (nI sz).toInt64 by rw [lgc_gt, nlI hi hn, nI_l (by omega), pf_lI (by omega)]; omega)]
                    exact ans rfl rfl hR
          · rw [if_neg (show ¬ nI so = nI to from (by simp (disch := omega) only [fa_lt, fa_le, fa_eq, nI_toInt, Int32.reduceToInt, im1] <;> omega)), if_neg (show ¬ nI so = nI to from (by simp (disch := omega) only [fa_lt, fa_le, fa_eq, nI_toInt, Int32.reduceToInt, im1] <;> omega))]
            exact ans rfl rfl hR
    · rw [is_out h3, wi_out (a := a3) (by simp (disch := omega) only [fa_lt, fa_le, fa_eq, nI_toInt, Int32.reduceToInt, im1] <;> omega), if_pos t00, if_pos t00]
      exact ans rfl rfl hR
  · rw [is_out h1, wi_out (a := a1) (by simp (disch := omega) only [fa_lt, fa_le, fa_eq, nI_toInt, Int32.reduceToInt, im1] <;> omega), if_pos t00, if_pos t00]
    exact ans rfl rfl hR
