theorem Rel.bounds {X M : Mem} (hR : Rel X M) : ∃ np nn, np ≤ 5 ∧ nn ≤ 10 ∧ X 1 3 = nI np ∧ M 0 0 = nI np ∧ X 1 4 = nI nn ∧ M 0 5 = nI nn ∧ (∀ p, p < np → X (25 + p) 0 = M 1 p ∧ X (25 + p) 1 = M 2 p ∧ X (25 + p) 2 = M 3 p ∧ X (25 + p) 3 = M 4 p) ∧ ∀ n, n < nn → X (30 + n) 0 = M 5 n ∧ X (30 + n) 1 = M 6 n ∧ X (30 + n) 2 = M 7 n ∧ X (30 + n) 3 = M 8 n := by
  obtain ⟨e, d, nm, tp, ok, hX, hM, -, -, -, -, -⟩ := hR
  refine ⟨e.1, e.2.1, ok.1, ok.2.1, hX.1.1, hM.1.1, hX.1.2.1, hM.1.2.1, fun p hp => ?_, fun n hn => ?_⟩
  · obtain ⟨a1, a2, a3, a4⟩ := hX.1.2.2.1 p hp
    obtain ⟨b1, b2, b3, b4⟩ := hM.1.2.2.1 p hp
    exact ⟨a1.trans b1.symm, a2.trans b2.symm, a3.trans b3.symm, a4.trans b4.symm⟩
  · obtain ⟨a1, a2, a3, a4, -⟩ := hX.1.2.2.2.1 n hn
    obtain ⟨b1, b2, b3, b4⟩ := hM.1.2.2.2.1 n hn
    exact ⟨a1.trans b1.symm, a2.trans b2.symm, a3.trans b3.symm, a4.trans b4.symm⟩
/-- set: promise 4 -/
theorem s_set : S_2 Rel := by
  intro X M a1 a2 a3 hR
  obtain ⟨np, nn, p5, n10, x3, m0, x4, m5, hp, hn⟩ := hR.bounds
  rcases cl a1 5 (by decide) with ⟨k, hk, rfl⟩ | h1
  · by_cases k4 : k = 4
    · subst k4
      unfold f_X10_set f_X11_set
      rw [if_pos (show nI 4 = 4 from rfl), wi_in (by simp (disch := omega) only [fa_lt, fa_le, fa_eq, nI_toInt, Int32.reduceToInt, im1] <;> omega) (by simp (disch := omega) only [fa_lt, fa_le, fa_eq, nI_toInt, Int32.reduceToInt, im1] <;> omega), if_neg t10, if_pos (show nI 4 = 4 from rfl)]
      unfold f_X10_moveSlip
      rcases cl a2 nn (by omega) with ⟨i, hi, rfl⟩ | h2
      · rw [hs_in x4 hi n10, in_in m5 hi n10, if_neg t10, if_neg t10, if_pos (show Int32.toInt (nI 4) < 0 ∨ 3 < Int32.toInt (nI 4) by decide)]
        rcases cl a3 48 (by decide) with ⟨v, hv, rfl⟩ | h3
        · rw [wi_in (by simp (disch := omega) only [fa_lt, fa_le, fa_eq, nI_toInt, Int32.reduceToInt, im1] <;> omega) (by simp (disch := omega) only [fa_lt, fa_le, fa_eq, nI_toInt, Int32.reduceToInt, im1] <;> omega), if_neg t10, if_pos (iblt (show i < 10 by omega) (by decide))]
          have : f_X10_isHour (nI v) = 1 := by
            unfold f_X10_isHour
            rw [if_neg (by simp (disch := omega) only [fa_lt, fa_le, fa_eq, nI_toInt, Int32.reduceToInt, im1] <;> omega), if_neg (by simp (disch := omega) only [fa_lt, fa_le, fa_eq, nI_toInt, Int32.reduceToInt, im1] <;> omega)]
          rw [this, if_neg t10]
          simp only [if_pos (iblt (show i < 10 by omega) (by decide)), nI_clamp (show i < 2 ^ 31 by omega), (hn i hi).2.1]
          exact ans rfl rfl (put_n hR m5 (by omega) hi hv)
        · rw [wi_out (a := a3) (by simp (disch := omega) only [fa_lt, fa_le, fa_eq, nI_toInt, Int32.reduceToInt, im1] <;> omega), if_pos t00]
          have : f_X10_isHour a3 = 0 := by
            unfold f_X10_isHour
            by_cases c : a3 < 0
            · rw [if_pos c]
            · have c2 : ¬ a3.toInt < 0 := fun q => c (by rw [fa_lt]; exact q)
              rw [if_neg c, if_pos (by simp (disch := omega) only [fa_lt, fa_le, fa_eq, nI_toInt, Int32.reduceToInt, im1] <;> omega)]
          rw [this, if_pos t00]
          exact ans rfl rfl hR
      · rw [hs_out x4 n10 h2, in_out m5 n10 h2, if_pos t00, if_pos t00]
        exact ans rfl rfl hR
    · have k3 : k < 4 := by omega
      unfold f_X10_set f_X11_set
      rw [if_neg (show ¬ nI k = 4 from (by simp (disch := omega) only [fa_lt, fa_le, fa_eq, nI_toInt, Int32.reduceToInt, im1] <;> omega)), if_neg (show ¬ nI k < 0 from (by simp (disch := omega) only [fa_lt, fa_le, fa_eq, nI_toInt, Int32.reduceToInt, im1] <;> omega)), if_neg (show ¬ 3 < nI k from (by simp (disch := omega) only [fa_lt, fa_le, fa_eq, nI_toInt, Int32.reduceToInt, im1] <;> omega)), wi_in (a := nI k) (by simp (disch := omega) only [fa_lt, fa_le, fa_eq, nI_toInt, Int32.reduceToInt, im1] <;> omega) (by simp (disch := omega) only [fa_lt, fa_le, fa_eq, nI_toInt, Int32.reduceToInt, im1] <;> omega), if_neg t10, if_neg (show ¬ nI k = 4 from (by simp (disch := omega) only [fa_lt, fa_le, fa_eq, nI_toInt, Int32.reduceToInt, im1] <;> omega))]
      rcases cl a2 np (by omega) with ⟨i, hi, rfl⟩ | h2
      · rw [hg_in x3 hi p5, ip_in m0 hi p5, if_neg t10, if_neg t10, if_neg (show ¬ (Int32.toInt (nI k) < 0 ∨ 3 < Int32.toInt (nI k)) by rw [nI_toInt (by omega)]; omega)]
        obtain ⟨g0, g1, g2, g3⟩ := hp i hi
        have hi5 : i < 5 := by omega
        simp only [if_pos (iblt hi5 (by decide)), nI_clamp (show i < 2 ^ 31 by omega)]
        match k, k3 with
        | 0, _ =>
          rw [if_pos (show nI 0 = 0 from rfl)]
          by_cases c : 0 ≤ a3.toInt ∧ a3.toInt ≤ 47
          · obtain ⟨v, hv, rfl⟩ := ge_nI c.1
            rw [nI_toInt (by omega)] at c
            rw [fi_in (k := nI 0) (lo := 0) (hi := 47) (by decide) rfl rfl (by simp (disch := omega) only [nI_toInt, Int32.reduceToInt]; omega), wi_in (by simp (disch := omega) only [fa_lt, fa_le, fa_eq, nI_toInt, Int32.reduceToInt, im1] <;> omega) (by simp (disch := omega) only [fa_lt, fa_le, fa_eq, nI_toInt, Int32.reduceToInt, im1] <;> omega), if_neg t10]
            exact ans (v := M 1 i) (congrArg (fun z => some (z, _)) g0) rfl (put_p hR m0 (by omega) hi (k := 0) (by decide) (by omega))
          · rw [fi_out (k := nI 0) (lo := 0) (hi := 47) (by decide) rfl rfl (by simp only [Int32.reduceToInt]; omega), wi_out (a := a3) (by simp (disch := omega) only [fa_lt, fa_le, fa_eq, nI_toInt, Int32.reduceToInt, im1] <;> omega), if_pos t00]
            exact ans rfl rfl hR
        | 1, _ =>
          rw [if_neg (show ¬ nI 1 = 0 by decide), if_pos (show nI 1 = 1 from rfl)]
          by_cases c : 1 ≤ a3.toInt ∧ a3.toInt ≤ 24
          · obtain ⟨v, hv, rfl⟩ := ge_nI (show 0 ≤ a3.toInt by omega)
            rw [nI_toInt (by omega)] at c
            rw [fi_in (k := nI 1) (lo := 1) (hi := 24) (by decide) rfl rfl (by simp (disch := omega) only [nI_toInt, Int32.reduceToInt]; omega), wi_in (by simp (disch := omega) only [fa_lt, fa_le, fa_eq, nI_toInt, Int32.reduceToInt, im1] <;> omega) (by simp (disch := omega) only [fa_lt, fa_le, fa_eq, nI_toInt, Int32.reduceToInt, im1] <;> omega), if_neg t10]
            exact ans (v := M 2 i) (congrArg (fun z => some (z, _)) g1) rfl (put_p hR m0 (by omega) hi (k := 1) (by decide) (by omega))
          · rw [fi_out (k := nI 1) (lo := 1) (hi := 24) (by decide) rfl rfl (by simp only [Int32.reduceToInt]; omega), wi_out (a := a3) (by simp (disch := omega) only [fa_lt, fa_le, fa_eq, nI_toInt, Int32.reduceToInt, im1] <;> omega), if_pos t00]
            exact ans rfl rfl hR
        | 2, _ =>
          rw [if_neg (show ¬ nI 2 = 0 by decide), if_neg (show ¬ nI 2 = 1 by decide), if_pos (show nI 2 = 2 from rfl)]
          by_cases c : 0 ≤ a3.toInt ∧ a3.toInt ≤ 12
          · obtain ⟨v, hv, rfl⟩ := ge_nI c.1
            rw [nI_toInt (by omega)] at c
            rw [fi_in (k := nI 2) (lo := 0) (hi := 12) (by decide) rfl rfl (by simp (disch := omega) only [nI_toInt, Int32.reduceToInt]; omega), wi_in (by simp (disch := omega) only [fa_lt, fa_le, fa_eq, nI_toInt, Int32.reduceToInt, im1] <;> omega) (by simp (disch := omega) only [fa_lt, fa_le, fa_eq, nI_toInt, Int32.reduceToInt, im1] <;> omega), if_neg t10]
            exact ans (v := M 3 i) (congrArg (fun z => some (z, _)) g2) rfl (put_p hR m0 (by omega) hi (k := 2) (by decide) (by omega))
          · rw [fi_out (k := nI 2) (lo := 0) (hi := 12) (by decide) rfl rfl (by simp only [Int32.reduceToInt]; omega), wi_out (a := a3) (by simp (disch := omega) only [fa_lt, fa_le, fa_eq, nI_toInt, Int32.reduceToInt, im1] <;> omega), if_pos t00]
            exact ans rfl rfl hR
        | 3, _ =>
          rw [if_neg (show ¬ nI 3 = 0 by decide), if_neg (show ¬ nI 3 = 1 by decide), if_neg (show ¬ nI 3 = 2 by decide), if_pos (show nI 3 = 3 from rfl)]
          by_cases c : 0 ≤ a3.toInt ∧ a3.toInt ≤ 9
          · obtain ⟨v, hv, rfl⟩ := ge_nI c.1
            rw [nI_toInt (by omega)] at c
            rw [fi_in (k := nI 3) (lo := 0) (hi := 9) (by decide) rfl rfl (by simp (disch := omega) only [nI_toInt, Int32.reduceToInt]; omega), wi_in (by simp (disch := omega) only [fa_lt, fa_le, fa_eq, nI_toInt, Int32.reduceToInt, im1] <;> omega) (by simp (disch := omega) only [fa_lt, fa_le, fa_eq, nI_toInt, Int32.reduceToInt, im1] <;> omega), if_neg t10]
            exact ans (v := M 4 i) (congrArg (fun z => some (z, _)) g3) rfl (put_p hR m0 (by omega) hi (k := 3) (by decide) (by omega))
          · rw [fi_out (k := nI 3) (lo := 0) (hi := 9) (by decide) rfl rfl (by simp only [Int32.reduceToInt]; omega), wi_out (a := a3) (by simp (disch := omega) only [fa_lt, fa_le, fa_eq, nI_toInt, Int32.reduceToInt, im1] <;> omega), if_pos t00]
            exact ans rfl rfl hR
        | k + 4, h => exact absurd h (by omega)
      · rw [hg_out x3 p5 h2, ip_out m0 p5 h2, if_pos t00, if_pos t00]
        exact ans rfl rfl hR
  · unfold f_X10_set f_X11_set
    rw [wi_out (a := a1) (by simp (disch := omega) only [fa_lt, fa_le, fa_eq, nI_toInt, Int32.reduceToInt, im1] <;> omega), if_pos t00, if_neg (show ¬ a1 = 4 from (by simp (disch := omega) only [fa_lt, fa_le, fa_eq, nI_toInt, Int32.reduceToInt, im1] <;> omega))]
    by_cases c : a1 < 0
    · rw [if_pos c]
      exact ans rfl rfl hR
    · have c2 : ¬ a1.toInt < 0 := fun q => c (by rw [fa_lt]; exact q)
      rw [if_neg c, if_pos (show 3 < a1 from (by simp (disch := omega) only [fa_lt, fa_le, fa_eq, nI_toInt, Int32.reduceToInt, im1] <;> omega))]
      exact ans rfl rfl hR
