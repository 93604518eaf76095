theorem hs_in {X : Mem} {n j : Nat} (h4 : X 1 4 = nI n) (hj : j < n) (hn : n ≤ 10) : f_X8_hasSlip X (nI j) = 1 := by
  unfold f_X8_hasSlip
  rw [h4, if_neg (by simp (disch := omega) only [fa_lt, fa_le, fa_eq, nI_toInt, Int32.reduceToInt, im1] <;> omega), if_neg (by simp (disch := omega) only [fa_lt, fa_le, fa_eq, nI_toInt, Int32.reduceToInt, im1] <;> omega)]
theorem hs_out {X : Mem} {n : Nat} {a : Int32} (h4 : X 1 4 = nI n) (hn : n ≤ 10) (h : a.toInt < 0 ∨ (n : Int) ≤ a.toInt) : f_X8_hasSlip X a = 0 := by
  unfold f_X8_hasSlip
  rw [h4]
  by_cases c : a < 0
  · rw [if_pos c]
  · have c2 : ¬ a.toInt < 0 := by
      have := c
      simp only [fa_lt, Int32.reduceToInt] at this
      omega
    rw [if_neg c, if_pos (by simp (disch := omega) only [fa_lt, fa_le, fa_eq, nI_toInt, Int32.reduceToInt, im1] <;> omega)]
theorem hg_in {X : Mem} {n j : Nat} (h4 : X 1 3 = nI n) (hj : j < n) (hn : n ≤ 5) : f_X8_hasGuest X (nI j) = 1 := by
  unfold f_X8_hasGuest
  rw [h4, if_neg (by simp (disch := omega) only [fa_lt, fa_le, fa_eq, nI_toInt, Int32.reduceToInt, im1] <;> omega), if_neg (by simp (disch := omega) only [fa_lt, fa_le, fa_eq, nI_toInt, Int32.reduceToInt, im1] <;> omega)]
theorem hg_out {X : Mem} {n : Nat} {a : Int32} (h4 : X 1 3 = nI n) (hn : n ≤ 5) (h : a.toInt < 0 ∨ (n : Int) ≤ a.toInt) : f_X8_hasGuest X a = 0 := by
  unfold f_X8_hasGuest
  rw [h4]
  by_cases c : a < 0
  · rw [if_pos c]
  · have c2 : ¬ a.toInt < 0 := by
      have := c
      simp only [fa_lt, Int32.reduceToInt] at this
      omega
    rw [if_neg c, if_pos (by simp (disch := omega) only [fa_lt, fa_le, fa_eq, nI_toInt, Int32.reduceToInt, im1] <;> omega)]
theorem n1I {n : Nat} (hn : n < 1000) : (nI n - 1).toInt = (n : Int) - 1 := pk_sub_toInt (b := 1) (by omega) (by omega)
theorem wn_in {n j : Nat} (hj : j < n) (hn : n < 1000) : f_X11_within (nI j) 0 (nI n - 1) = 1 := wi_in (by simp (disch := omega) only [fa_lt, fa_le, fa_eq, nI_toInt, Int32.reduceToInt, im1] <;> omega) (by rw [n1I hn, nI_toInt (by omega)]; omega)
theorem wn_out {n : Nat} {a : Int32} (hn : n < 1000) (h : a.toInt < 0 ∨ (n : Int) ≤ a.toInt) : f_X11_within a 0 (nI n - 1) = 0 := wi_out (by rw [n1I hn]; simp only [Int32.reduceToInt]; omega)
theorem in_in {M : Mem} {n j : Nat} (h4 : M 0 5 = nI n) (hj : j < n) (hn : n ≤ 10) : f_X11_isNote M (nI j) = 1 := by
  unfold f_X11_isNote
  rw [h4, wn_in hj (by omega)]
theorem in_out {M : Mem} {n : Nat} {a : Int32} (h4 : M 0 5 = nI n) (hn : n ≤ 10) (h : a.toInt < 0 ∨ (n : Int) ≤ a.toInt) : f_X11_isNote M a = 0 := by
  unfold f_X11_isNote
  rw [h4, wn_out (by omega) h]
theorem ip_in {M : Mem} {n j : Nat} (h4 : M 0 0 = nI n) (hj : j < n) (hn : n ≤ 5) : f_X11_isPerson M (nI j) = 1 := by
  unfold f_X11_isPerson
  rw [h4, wn_in hj (by omega)]
theorem ip_out {M : Mem} {n : Nat} {a : Int32} (h4 : M 0 0 = nI n) (hn : n ≤ 5) (h : a.toInt < 0 ∨ (n : Int) ≤ a.toInt) : f_X11_isPerson M a = 0 := by
  unfold f_X11_isPerson
  rw [h4, wn_out (by omega) h]
/-- force: promise 8 -/
theorem s_force : S_6 Rel := by
  intro X M a hR
  have hR0 := hR
  obtain ⟨e, d, nm, tp, ok, hX, hM, hma, hta, him, hsh, hst⟩ := hR
  obtain ⟨⟨x1, x2, x3, x4, x5, x6, x7⟩, x8, x9, x10, x11⟩ := hX
  obtain ⟨⟨m1, m2, m3, m4, m5, m6, m7⟩, m8, m9⟩ := hM
  refine ⟨_, _, rfl, rfl, ?_⟩
  unfold f_X10_force f_X11_force
  rw [x10, m8]
  rcases cl a d.1 (by omega) with ⟨j, hj, rfl⟩ | h
  · rw [if_neg (by simp (disch := omega) only [fa_lt, fa_le, fa_eq, nI_toInt, Int32.reduceToInt, im1] <;> omega), if_pos (by simp (disch := omega) only [fa_lt, fa_le, fa_eq, nI_toInt, Int32.reduceToInt, im1] <;> omega), wn_in hj (by omega), if_neg (by decide)]
    refine ⟨x5.trans m5.symm, e, (d.1, j, d.2.2), nm, tp, ok, ⟨⟨x1, x2, fun p hp => ?_, fun n hn => ?_, rfl, by show j < 6; omega, (x11 j hj).cg (by intros; simp (disch := omega) only [u2n]) (by intros; simp (disch := omega) only [u2n])⟩, hj, x9, x10, fun k hk => (x11 k hk).cg ?_ ?_⟩, ⟨⟨m1, m2, m3, m4, rfl, by show j < 6; omega, (m9 j hj).cg rfl rfl⟩, m8, fun k hk => (m9 k hk).cg rfl rfl⟩, (hma.cg rfl rfl rfl rfl rfl rfl), (hta.cg rfl rfl rfl rfl), (him.cg ok.1 rfl rfl (by intros; simp (disch := omega) only [u2n]) (fun k hk => (by simp (disch := omega) only [u2n, u2t])) (by intros; simp (disch := omega) only [u2n])), (hsh.cg (by intros; simp (disch := omega) only [u2n]) (by intros; simp (disch := omega) only [u2n])), Or.inl rfl⟩
    · have := x3 p hp
      have hp5 : p < 5 := Nat.lt_of_lt_of_le hp ok.1
      simp (disch := omega) only [u2n]
      exact this
    · have := x4 n hn
      have hp5 : n < 10 := Nat.lt_of_lt_of_le hn ok.2.1
      simp (disch := omega) only [u2n]
      exact this
    · have hk : k < d.1 := hk
      simp (disch := omega) only [u2n]
    · have hk : k < d.1 := hk
      simp (disch := omega) only [u2n]
  · rw [wn_out (by omega) h, if_pos rfl]
    by_cases c : a < 0
    · rw [if_pos c]
      exact ⟨rfl, hR0⟩
    · have c2 : ¬ a.toInt < 0 := by
        have := c
        simp only [fa_lt, Int32.reduceToInt] at this
        omega
      rw [if_neg c, if_neg (by simp (disch := omega) only [fa_lt, fa_le, fa_eq, nI_toInt, Int32.reduceToInt, im1] <;> omega)]
      exact ⟨rfl, hR0⟩
/-- count: promise 27 -/
theorem s_count : S_25 Rel := by
  intro X M a hR
  have hR0 := hR
  obtain ⟨e, d, nm, tp, ok, ⟨⟨x1, x2, x3, x4, x5, x6, x7⟩, x8, x9, x10, x11⟩, ⟨⟨m1, m2, m3, m4, m5, m6, m7⟩, m8, m9⟩, ⟨r1, r2, r3, r4⟩, ⟨t1, t2, t3, t4⟩, him, hsh, hst⟩ := hR
  unfold f_X10_count f_X11_count
  have e1 : X 1 3 = M 0 0 := x1.trans m1.symm
  have e2 : X 1 4 = M 0 5 := x2.trans m2.symm
  have e3 : X 1 6 = M 0 16 := x5.trans m5.symm
  rw [e1, e2, r2, r3, x10, m8, t2, t3, e3]
  by_cases c : a.toInt < 0 ∨ 5 < a.toInt
  · rw [if_pos c]
    exact ⟨_, _, rfl, rfl, rfl, hR0⟩
  · rw [if_neg c]
    rcases cl a 6 (by decide) with ⟨j, hj, rfl⟩ | h
    · match j, hj with
      | 0, _ => exact ⟨_, _, rfl, rfl, rfl, hR0⟩
      | 1, _ => exact ⟨_, _, rfl, rfl, rfl, hR0⟩
      | 2, _ => exact ⟨_, _, rfl, rfl, rfl, hR0⟩
      | 3, _ => exact ⟨_, _, rfl, rfl, rfl, hR0⟩
      | 4, _ => exact ⟨_, _, rfl, rfl, rfl, hR0⟩
      | 5, _ => exact ⟨_, _, rfl, rfl, rfl, hR0⟩
      | j + 6, h => exact absurd h (by omega)
    · exact absurd h (by omega)
/-- mark: promise 20 -/
theorem s_mark : S_18 Rel := by
  intro X M a b hR
  have hR0 := hR
  obtain ⟨e, d, nm, tp, ok, hX, hM, ⟨r1, r2, r3, r4⟩, hta, him, hsh, hst⟩ := hR
  have x4 : X 1 4 = nI e.2.1 := hX.1.2.1
  have m5 : M 0 5 = nI e.2.1 := hM.1.2.1
  have n10 := ok.2.1
  unfold f_X10_mark f_X11_mark
  rcases cl a e.2.1 (by omega) with ⟨i, hi, rfl⟩ | h
  · rw [hs_in x4 hi n10, in_in m5 hi n10, if_neg t10, if_neg t10]
    rcases cl b e.2.1 (by omega) with ⟨j, hj, rfl⟩ | h
    · rw [hs_in x4 hj n10, in_in m5 hj n10, if_neg t10, if_neg t10]
      by_cases c : i = j
      · subst c
        rw [if_pos rfl, if_pos rfl]
        exact ⟨_, _, rfl, rfl, rfl, hR0⟩
      · rw [if_neg (by simp (disch := omega) only [fa_lt, fa_le, fa_eq, nI_toInt, Int32.reduceToInt, im1] <;> omega), if_neg (by simp (disch := omega) only [fa_lt, fa_le, fa_eq, nI_toInt, Int32.reduceToInt, im1] <;> omega)]
        unfold f_X3_add
        simp only [u2n (show (85:Nat) ≠ 86 by decide), u2n (show (0:Nat) ≠ 9 by decide)]
        rw [r2, r3]
        by_cases hf : nm = 20
        · subst hf
          rw [if_neg (by decide), if_pos (by decide)]
          exact ⟨_, _, rfl, rfl, rfl, hR0⟩
        · have hl : nm < 20 := by omega
          rw [if_pos (by simp (disch := omega) only [fa_lt, fa_le, fa_eq, nI_toInt, Int32.reduceToInt, im1] <;> omega), if_pos (iblt hl (by decide)), if_pos (iblt hl (by decide)), if_neg (by simp (disch := omega) only [fa_lt, fa_le, fa_eq, nI_toInt, Int32.reduceToInt, im1] <;> omega), if_pos (iblt hl (by decide)), if_pos (iblt hl (by decide)), nI_clamp (by omega)]
          simp only [u2n (show (85:Nat) ≠ 87 by decide), u2n (show (85:Nat) ≠ 86 by decide), u2n (show (0:Nat) ≠ 9 by decide), u2n (show (0:Nat) ≠ 10 by decide), r2, r3, nI_1]
          refine ⟨_, _, rfl, rfl, ?_, ?_⟩
          · rfl
          · refine ⟨e, d, nm + 1, tp, ok, (hX.cg ok rfl rfl rfl rfl (by intros; simp (disch := omega) only [u2n])), (hM.cg rfl rfl rfl rfl (by intros; simp (disch := omega) only [u2n])), ⟨by omega, rfl, rfl, fun k hk => ?_⟩, (hta.cg rfl rfl rfl rfl), Rim.more (Nat.le_refl _) (Nat.le_refl _) (Nat.le_succ _) (Nat.le_refl _) (him.cg ok.1 rfl rfl (by intros; simp (disch := omega) only [u2n]) (fun k hk => (by simp (disch := omega) only [u2n, u2t])) (by intros; simp (disch := omega) only [u2n])), (hsh.cg (by intros; simp (disch := omega) only [u2n]) (by intros; simp (disch := omega) only [u2n])), (hst.cg ok.eW rfl rfl (by intros; simp (disch := omega) only [u2n]) (by intros; simp (disch := omega) only [u2n]))⟩
            by_cases hkm : k = nm
            · subst hkm
              exact ⟨i, j, hi, hj, c, by simp (disch := omega) only [u2n, u2s], by simp (disch := omega) only [u2n, u2s], by simp (disch := omega) only [u2n, u2s], by simp (disch := omega) only [u2n, u2s]⟩
            · obtain ⟨a, b, q1, q2, q3, q4, q5, q6, q7⟩ := r4 k (by omega)
              refine ⟨a, b, q1, q2, q3, ?_, ?_, ?_, ?_⟩ <;> (simp (disch := omega) only [u2n, u2t]; assumption)
    · rw [hs_out x4 n10 h, in_out m5 n10 h, if_pos t00, if_pos t00]
      exact ⟨_, _, rfl, rfl, rfl, hR0⟩
  · rw [hs_out x4 n10 h, in_out m5 n10 h, if_pos t00, if_pos t00]
    exact ⟨_, _, rfl, rfl, rfl, hR0⟩
