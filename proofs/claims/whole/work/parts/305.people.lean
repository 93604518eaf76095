def fup (F : Nat → Nat → Nat) (k i v : Nat) : Nat → Nat → Nat := fun q j => if q = k ∧ j = i then v else F q j
theorem fup_s {F : Nat → Nat → Nat} {k i v : Nat} : fup F k i v k i = v := by unfold fup; rw [if_pos ⟨rfl, rfl⟩]
theorem fup_k {F : Nat → Nat → Nat} {k i v q j : Nat} (h : q ≠ k) : fup F k i v q j = F q j := by unfold fup; rw [if_neg (fun c => h c.1)]
theorem fup_i {F : Nat → Nat → Nat} {k i v q j : Nat} (h : j ≠ i) : fup F k i v q j = F q j := by unfold fup; rw [if_neg (fun c => h c.2)]
theorem fi_in {M : Mem} {k v lo hi : Int32} (h1 : ibd k 4) (hlo : ([0, 1, 0, 0] : List Int32).getD (Int32.toNatClampNeg k) 0 = lo) (hhi : ([47, 24, 12, 9] : List Int32).getD (Int32.toNatClampNeg k) 0 = hi) (h : lo.toInt ≤ v.toInt ∧ v.toInt ≤ hi.toInt) : f_X10_fits M k v = some 1 := by
  unfold f_X10_fits
  rw [if_pos h1, hlo, hhi, if_neg (by simp (disch := omega) only [fa_lt, fa_le, fa_eq, nI_toInt, Int32.reduceToInt, im1] <;> omega), if_pos h1, if_neg (by simp (disch := omega) only [fa_lt, fa_le, fa_eq, nI_toInt, Int32.reduceToInt, im1] <;> omega)]
theorem fi_out {M : Mem} {k v lo hi : Int32} (h1 : ibd k 4) (hlo : ([0, 1, 0, 0] : List Int32).getD (Int32.toNatClampNeg k) 0 = lo) (hhi : ([47, 24, 12, 9] : List Int32).getD (Int32.toNatClampNeg k) 0 = hi) (h : v.toInt < lo.toInt ∨ hi.toInt < v.toInt) : f_X10_fits M k v = some 0 := by
  unfold f_X10_fits
  rw [if_pos h1, hlo, hhi]
  by_cases c : v < lo
  · rw [if_pos c]
  · have c2 : ¬ v.toInt < lo.toInt := fun q => c ((fa_lt _ _).mpr q)
    rw [if_neg c, if_pos h1, if_pos (by simp (disch := omega) only [fa_lt, fa_le, fa_eq, nI_toInt, Int32.reduceToInt, im1] <;> omega)]
theorem ge_nI {a : Int32} (h : 0 ≤ a.toInt) : ∃ w : Nat, w < 2 ^ 31 ∧ a = nI w := nI_of (by rw [fa_lt]; simp only [Int32.reduceToInt]; omega)
/-- person: promise 2 -/
theorem s_person : S_0 Rel := by
  intro X M a1 a2 a3 hR
  have hR0 := hR
  obtain ⟨e, d, nm, tp, ok, ⟨⟨x1, x2, x3, x4, x5, x6, x7⟩, x8, x9, x10, x11⟩, ⟨⟨m1, m2, m3, m4, m5, m6, m7⟩, m8, m9⟩, hma, hta, him, hsh, hst⟩ := hR
  have hma0 := hma
  rcases cl a1 48 (by decide) with ⟨f, hf, rfl⟩ | h1
  · rcases (show (∃ v, 1 ≤ v ∧ v < 25 ∧ a2 = nI v) ∨ (a2.toInt < 1 ∨ 25 ≤ a2.toInt) from by
      rcases cl a2 25 (by decide) with ⟨v, hv, rfl⟩ | h
      · by_cases c : 1 ≤ v
        · exact Or.inl ⟨v, c, hv, rfl⟩
        · exact Or.inr (Or.inl (by rw [nI_toInt (by omega)]; omega))
      · exact Or.inr (by omega)) with ⟨v, hv1, hv, rfl⟩ | h2
    · rcases cl a3 130 (by decide) with ⟨w, hw, rfl⟩ | h3
      · have q1 : nI w / 10 = nI (w / 10) := pk_div (d := 10) (by omega) (by decide) (by decide)
        have q2 : nI w - nI w / 10 * 10 = nI (w % 10) := pk_rem (d := 10) (by omega) (by decide) (by decide)
        rw [q1] at q2
        unfold f_X10_person f_X11_person
        rw [q1, q2, fi_in (k := 0) (lo := 0) (hi := 47) (by decide) rfl rfl (by simp (disch := omega) only [nI_toInt, Int32.reduceToInt]; omega)]
        simp only [Option.bind]
        rw [if_neg t10, fi_in (k := 1) (lo := 1) (hi := 24) (by decide) rfl rfl (by simp (disch := omega) only [nI_toInt, Int32.reduceToInt]; omega)]
        simp only [Option.bind]
        rw [if_neg t10, if_neg (show ¬ nI w < 0 from (by simp (disch := omega) only [fa_lt, fa_le, fa_eq, nI_toInt, Int32.reduceToInt, im1] <;> omega)), fi_in (k := 2) (lo := 0) (hi := 12) (by decide) rfl rfl (by simp (disch := omega) only [nI_toInt, Int32.reduceToInt]; omega)]
        simp only [Option.bind]
        rw [if_neg t10, fi_in (k := 3) (lo := 0) (hi := 9) (by decide) rfl rfl (by simp (disch := omega) only [nI_toInt, Int32.reduceToInt]; omega)]
        simp only [Option.bind]
        rw [if_neg t10, wi_in (by simp (disch := omega) only [fa_lt, fa_le, fa_eq, nI_toInt, Int32.reduceToInt, im1] <;> omega) (by simp (disch := omega) only [fa_lt, fa_le, fa_eq, nI_toInt, Int32.reduceToInt, im1] <;> omega), if_neg t10, wi_in (by simp (disch := omega) only [fa_lt, fa_le, fa_eq, nI_toInt, Int32.reduceToInt, im1] <;> omega) (by simp (disch := omega) only [fa_lt, fa_le, fa_eq, nI_toInt, Int32.reduceToInt, im1] <;> omega), if_neg t10, wi_in (by simp (disch := omega) only [fa_lt, fa_le, fa_eq, nI_toInt, Int32.reduceToInt, im1] <;> omega) (by simp (disch := omega) only [fa_lt, fa_le, fa_eq, nI_toInt, Int32.reduceToInt, im1] <;> omega), if_neg t10]
        unfold f_X8_addGuest
        have x1 : X 1 3 = nI e.1 := x1
        have m1 : M 0 0 = nI e.1 := m1
        simp only [u2n (show (0:Nat) ≠ 1 by decide), u2n (show (0:Nat) ≠ 2 by decide), u2n (show (0:Nat) ≠ 3 by decide), u2n (show (0:Nat) ≠ 4 by decide), m1, x1]
        have n5 := ok.1
        by_cases hn : e.1 = 5
        · rw [hn, if_neg (show ¬ nI 5 < 5 by decide), if_pos (show nI 5 = 5 by decide)]
          exact ans rfl rfl hR0.stale
        · have hl : e.1 < 5 := by omega
          rw [if_pos (show nI e.1 < 5 from (by simp (disch := omega) only [fa_lt, fa_le, fa_eq, nI_toInt, Int32.reduceToInt, im1] <;> omega)), if_pos (iblt hl (by decide)), if_neg (show ¬ nI e.1 = 5 from (by simp (disch := omega) only [fa_lt, fa_le, fa_eq, nI_toInt, Int32.reduceToInt, im1] <;> omega)), if_pos (iblt hl (by decide)), if_pos (iblt hl (by decide)), if_pos (iblt hl (by decide)), if_pos (iblt hl (by decide)), nI_clamp (by omega)]
          simp (disch := omega) only [u2n, u2s, x1, m1, nI_1, nI_pred]
          refine ans rfl rfl ⟨(e.1 + 1, e.2.1, fup (fup (fup (fup e.2.2.1 1 e.1 f) 2 e.1 v) 3 e.1 (w / 10)) 4 e.1 (w % 10), e.2.2.2), d, nm, tp, ⟨hl, ok.2.1, fun p hp => ?_, fun n hn => ?_⟩, ⟨⟨(by simp (disch := omega) only [u2n, u2t, u2s, eW]), Eq.trans (by simp (disch := omega) only [u2n, u2t, u2s, eW]) x2, fun p hp => ?_, fun n hn => ?_, Eq.trans (by simp (disch := omega) only [u2n, u2t, u2s, eW]) x5, x6, x7.cg (by intros; simp (disch := omega) only [u2n]) (by intros; simp (disch := omega) only [u2n])⟩, x8, x9, Eq.trans (by simp (disch := omega) only [u2n, u2t, u2s, eW]) x10, fun k hk => (x11 k hk).cg (by have : k < d.1 := hk; simp (disch := omega) only [u2n]) (by have : k < d.1 := hk; simp (disch := omega) only [u2n])⟩, ⟨⟨(by simp (disch := omega) only [u2n, u2t, u2s, eW]), m2, fun p hp => ?_, fun n hn => ?_, m5, m6, m7.cg rfl rfl⟩, m8, fun k hk => (m9 k hk).cg rfl rfl⟩, (hma.cg (by simp (disch := omega) only [u2n, u2t, u2s, eW]) (by simp (disch := omega) only [u2n, u2t, u2s, eW]) (by simp (disch := omega) only [u2n, u2t, u2s, eW]) (by simp (disch := omega) only [u2n, u2t, u2s, eW]) (by simp (disch := omega) only [u2n, u2t, u2s, eW]) (by simp (disch := omega) only [u2n, u2t, u2s, eW])), (hta.cg (by simp (disch := omega) only [u2n, u2t, u2s, eW]) (by simp (disch := omega) only [u2n, u2t, u2s, eW]) (by simp (disch := omega) only [u2n, u2t, u2s, eW]) (by simp (disch := omega) only [u2n, u2t, u2s, eW])), Rim.more (Nat.le_succ _) (Nat.le_refl _) (Nat.le_refl _) (Nat.le_refl _) ((him.cg ok.1 (by simp (disch := omega) only [u2n, u2t, u2s, eW]) (by simp (disch := omega) only [u2n, u2t, u2s, eW]) (by intros; simp (disch := omega) only [u2n]) (fun k hk => (by simp (disch := omega) only [u2n, u2t])) (by intros; simp (disch := omega) only [u2n]))), (hsh.cg (by intros; simp (disch := omega) only [u2n]) (by intros; simp (disch := omega) only [u2n])), Or.inl rfl⟩
          · by_cases c : p = e.1
            · subst c
              simp (disch := omega) only [fup_s, fup_k]
              omega
            · simp (disch := omega) only [fup_i]
              exact ok.2.2.1 p (by have : p < e.1 + 1 := hp; omega)
          · simp (disch := omega) only [fup_k]
            exact ok.2.2.2 n hn
          · have hp : p < e.1 + 1 := hp
            by_cases c : p = e.1
            · subst c
              simp (disch := omega) only [fup_s, fup_k, eW, u2n, u2s, u2t, and_self]
            · simp (disch := omega) only [fup_i, eW, u2n]
              exact x3 p (by show p < e.1; omega)
          · have hn : n < e.2.1 := hn
            have n10 := ok.2.1
            simp (disch := omega) only [fup_k, eW, u2n]
            exact x4 n hn
          · have hp : p < e.1 + 1 := hp
            by_cases c : p = e.1
            · subst c
              simp (disch := omega) only [fup_s, fup_k, eW, u2n, u2s, u2t, and_self]
            · simp (disch := omega) only [fup_i, eW, u2n, u2t]
              exact m3 p (by show p < e.1; omega)
          · simp (disch := omega) only [fup_k, eW, u2n]
            exact m4 n hn
      · unfold f_X10_person f_X11_person
        rw [fi_in (k := 0) (lo := 0) (hi := 47) (by decide) rfl rfl (by simp (disch := omega) only [nI_toInt, Int32.reduceToInt]; omega)]
        simp only [Option.bind]
        rw [if_neg t10, fi_in (k := 1) (lo := 1) (hi := 24) (by decide) rfl rfl (by simp (disch := omega) only [nI_toInt, Int32.reduceToInt]; omega)]
        simp only [Option.bind]
        rw [if_neg t10, wi_in (by simp (disch := omega) only [fa_lt, fa_le, fa_eq, nI_toInt, Int32.reduceToInt, im1] <;> omega) (by simp (disch := omega) only [fa_lt, fa_le, fa_eq, nI_toInt, Int32.reduceToInt, im1] <;> omega), if_neg t10, wi_in (by simp (disch := omega) only [fa_lt, fa_le, fa_eq, nI_toInt, Int32.reduceToInt, im1] <;> omega) (by simp (disch := omega) only [fa_lt, fa_le, fa_eq, nI_toInt, Int32.reduceToInt, im1] <;> omega), if_neg t10, wi_out (a := a3) (by simp (disch := omega) only [fa_lt, fa_le, fa_eq, nI_toInt, Int32.reduceToInt, im1] <;> omega), if_pos t00]
        by_cases c : a3 < 0
        · rw [if_pos c]
          exact ans rfl rfl hR0
        · have c2 : ¬ a3.toInt < 0 := fun q => c (by rw [fa_lt]; exact q)
          obtain ⟨w, hw, rfl⟩ := ge_nI (a := a3) (by omega)
          rw [nI_toInt (by omega)] at h3 c2
          rw [if_neg c, show nI w / 10 = nI (w / 10) from pk_div (d := 10) (by omega) (by decide) (by decide), fi_out (k := 2) (lo := 0) (hi := 12) (by decide) rfl rfl (by simp (disch := omega) only [nI_toInt, Int32.reduceToInt]; omega)]
          exact ans rfl rfl hR0
    · unfold f_X10_person f_X11_person
      rw [fi_in (k := 0) (lo := 0) (hi := 47) (by decide) rfl rfl (by simp (disch := omega) only [nI_toInt, Int32.reduceToInt]; omega)]
      simp only [Option.bind]
      rw [if_neg t10, fi_out (k := 1) (lo := 1) (hi := 24) (by decide) rfl rfl (by simp (disch := omega) only [nI_toInt, Int32.reduceToInt]; omega), wi_in (by simp (disch := omega) only [fa_lt, fa_le, fa_eq, nI_toInt, Int32.reduceToInt, im1] <;> omega) (by simp (disch := omega) only [fa_lt, fa_le, fa_eq, nI_toInt, Int32.reduceToInt, im1] <;> omega), if_neg t10, wi_out (a := a2) (by simp (disch := omega) only [fa_lt, fa_le, fa_eq, nI_toInt, Int32.reduceToInt, im1] <;> omega), if_pos t00]
      exact ans rfl rfl hR0
  · unfold f_X10_person f_X11_person
    rw [fi_out (k := 0) (lo := 0) (hi := 47) (by decide) rfl rfl (by simp (disch := omega) only [nI_toInt, Int32.reduceToInt]; omega), wi_out (a := a1) (by simp (disch := omega) only [fa_lt, fa_le, fa_eq, nI_toInt, Int32.reduceToInt, im1] <;> omega), if_pos t00]
    exact ans rfl rfl hR0
