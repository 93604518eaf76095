theorem bk15 {X : Mem} {np : Nat} {k : Mem → Option (Int32 × Mem)} (h3 : X 98 1 = nI np) (hp : np ≤ 5) : ∃ A, f_X10_back_15 k FU 0 X = k A ∧ (∀ c, (c < 25 ∨ 25 + np ≤ c) → A c = X c) ∧ ∀ p, p < np → ∀ t, t < 4 → A (25 + p) t = X (101 + p) t := by
  have h := lp0 (F := fun fu x A => f_X10_back_15 k fu x A) (a := X) k np (fun q A => (∀ c, (c < 25 ∨ 25 + np ≤ c) → A c = X c) ∧ ∀ p, p < q → ∀ t, t < 4 → A (25 + p) t = X (101 + p) t) ⟨fun _ _ => rfl, fun _ h => absurd h (Nat.not_lt_zero _)⟩ (fun fu q A hq hI => ⟨cpy2 A (101 + q) (25 + q) 0 0 4, by
    show f_X10_back_15 k (fu + 1) (nI q) A = _
    rw [f_X10_back_15, hI.1 98 (by omega), h3, if_neg (show ¬ nI np ≤ nI q from (by simp (disch := omega) only [fa_lt, fa_le, fa_eq, nI_toInt, Int32.reduceToInt, im1] <;> omega)), if_pos (iblt (show q < 5 by omega) (by decide)), if_pos (iblt (show q < 5 by omega) (by decide)), nI_clamp (by omega), z0, z4, nI_1], fun c hc => by rw [cpy_ne (by omega)]; exact hI.1 c hc, fun p hp t ht => by
      by_cases c : p = q
      · rw [c, cpy_eq ht, hI.1 _ (by omega)]
      · rw [cpy_ne (by omega)]
        exact hI.2 p (by omega) t ht⟩) (fun fu A hI => by
    show f_X10_back_15 k (fu + 1) (nI np) A = _
    rw [f_X10_back_15, hI.1 98 (by omega), h3, if_pos (show nI np ≤ nI np from (by simp (disch := omega) only [fa_lt, fa_le, fa_eq, nI_toInt, Int32.reduceToInt, im1] <;> omega))]) (by omega)
  exact h
theorem bk61 {X : Mem} {nn : Nat} (h4 : X 98 3 = nI nn) (hn : nn ≤ 10) : ∃ A, f_X10_back_61 FU 0 X = some (X 98 5, upd2 (upd2 (upd2 A 85 2 (X 98 5)) 1 6 (X 98 6)) 5 0 1) ∧ (∀ c, (c < 30 ∨ 30 + nn ≤ c) → A c = X c) ∧ (∀ n, n < nn → A (30 + n) 1 = X 100 n) ∧ ∀ c t, t ≠ 1 → A c t = X c t := by
  have h := lp0 (F := fun fu x A => f_X10_back_61 fu x A) (a := X) (fun A => some (X 98 5, upd2 (upd2 (upd2 A 85 2 (X 98 5)) 1 6 (X 98 6)) 5 0 1)) nn (fun q A => (∀ c, (c < 30 ∨ 30 + nn ≤ c) → A c = X c) ∧ (∀ n, n < q → A (30 + n) 1 = X 100 n) ∧ ∀ c t, t ≠ 1 → A c t = X c t) ⟨fun _ _ => rfl, fun _ h => absurd h (Nat.not_lt_zero _), fun _ _ _ => rfl⟩ (fun fu q A hq hI => ⟨upd2 A (30 + q) 1 (X 100 q), by
    show f_X10_back_61 (fu + 1) (nI q) A = _
    rw [f_X10_back_61, hI.1 98 (by omega), h4, if_neg (show ¬ nI nn ≤ nI q from (by simp (disch := omega) only [fa_lt, fa_le, fa_eq, nI_toInt, Int32.reduceToInt, im1] <;> omega)), if_pos (iblt (show q < 10 by omega) (by decide)), if_pos (iblt (show q < 10 by omega) (by decide)), nI_clamp (by omega), hI.1 100 (by omega), nI_1], fun c hc => by rw [u2n (by omega)]; exact hI.1 c hc, fun n hn => by
      by_cases c : n = q
      · rw [c, u2s]
      · rw [u2n (by omega)]
        exact hI.2.1 n (by omega), fun c t ht => by
      by_cases d : c = 30 + q
      · rw [d, u2t ht]
        exact hI.2.2 _ t ht
      · rw [u2n d]
        exact hI.2.2 c t ht⟩) (fun fu A hI => by
    show f_X10_back_61 (fu + 1) (nI nn) A = _
    rw [f_X10_back_61, hI.1 98 (by omega), h4, if_pos (show nI nn ≤ nI nn from (by simp (disch := omega) only [fa_lt, fa_le, fa_eq, nI_toInt, Int32.reduceToInt, im1] <;> omega))]
    simp (disch := omega) only [u2n, u2s, hI.1]) (by omega)
  exact h
theorem mb12 {X : Mem} {np : Nat} {k : Mem → Option (Int32 × Mem)} (h3 : X 0 35 = nI np) (hp : np ≤ 5) : ∃ A, f_X11_back_12 k FU 0 X = k A ∧ (∀ c, (c < 1 ∨ 5 ≤ c) → A c = X c) ∧ (∀ p, p < np → A 1 p = X 23 p ∧ A 2 p = X 24 p ∧ A 3 p = X 25 p ∧ A 4 p = X 26 p) ∧ ∀ c p, np ≤ p → A c p = X c p := by
  have h := lp0 (F := fun fu x A => f_X11_back_12 k fu x A) (a := X) k np (fun q A => (∀ c, (c < 1 ∨ 5 ≤ c) → A c = X c) ∧ (∀ p, p < q → A 1 p = X 23 p ∧ A 2 p = X 24 p ∧ A 3 p = X 25 p ∧ A 4 p = X 26 p) ∧ ∀ c p, np ≤ p → A c p = X c p) ⟨fun _ _ => rfl, fun _ h => absurd h (Nat.not_lt_zero _), fun _ _ _ => rfl⟩ (fun fu q A hq hI => ⟨upd2 (upd2 (upd2 (upd2 A 1 q (X 23 q)) 2 q (X 24 q)) 3 q (X 25 q)) 4 q (X 26 q), by
    show f_X11_back_12 k (fu + 1) (nI q) A = _
    rw [f_X11_back_12, hI.1 0 (by omega), h3, if_neg (show ¬ nI np ≤ nI q from (by simp (disch := omega) only [fa_lt, fa_le, fa_eq, nI_toInt, Int32.reduceToInt, im1] <;> omega))]
    simp (disch := omega) only [if_pos (iblt (show q < 5 by omega) (by decide)), nI_clamp, u2n, hI.1, nI_1], fun c hc => by
      simp (disch := omega) only [u2n]
      exact hI.1 c hc, fun p hp => by
      by_cases c : p = q
      · subst c
        simp (disch := omega) only [u2n, u2s, and_self]
      · simp (disch := omega) only [u2n, u2t]
        exact hI.2.1 p (by omega), fun c p hp => by
      have := hI.2.2 c p hp
      rw [u2q (by omega), u2q (by omega), u2q (by omega), u2q (by omega)]
      exact this⟩) (fun fu A hI => by
    show f_X11_back_12 k (fu + 1) (nI np) A = _
    rw [f_X11_back_12, hI.1 0 (by omega), h3, if_pos (show nI np ≤ nI np from (by simp (disch := omega) only [fa_lt, fa_le, fa_eq, nI_toInt, Int32.reduceToInt, im1] <;> omega))]) (by omega)
  exact h
theorem mb76 {X : Mem} {nn : Nat} (h4 : X 0 36 = nI nn) (hn : nn ≤ 10) : ∃ A, f_X11_back_76 FU 0 X = some (X 0 37, upd2 (upd2 A 0 10 (X 0 37)) 0 16 (X 0 38)) ∧ (∀ c, c ≠ 6 → A c = X c) ∧ (∀ n, n < nn → A 6 n = X 27 n) ∧ ∀ n, nn ≤ n → A 6 n = X 6 n := by
  have h := lp0 (F := fun fu x A => f_X11_back_76 fu x A) (a := X) (fun A => some (X 0 37, upd2 (upd2 A 0 10 (X 0 37)) 0 16 (X 0 38))) nn (fun q A => (∀ c, c ≠ 6 → A c = X c) ∧ (∀ n, n < q → A 6 n = X 27 n) ∧ ∀ n, nn ≤ n → A 6 n = X 6 n) ⟨fun _ _ => rfl, fun _ h => absurd h (Nat.not_lt_zero _), fun _ _ => rfl⟩ (fun fu q A hq hI => ⟨upd2 A 6 q (X 27 q), by
    show f_X11_back_76 (fu + 1) (nI q) A = _
    rw [f_X11_back_76, hI.1 0 (by omega), h4, if_neg (show ¬ nI nn ≤ nI q from (by simp (disch := omega) only [fa_lt, fa_le, fa_eq, nI_toInt, Int32.reduceToInt, im1] <;> omega)), if_pos (iblt (show q < 10 by omega) (by decide)), if_pos (iblt (show q < 10 by omega) (by decide)), nI_clamp (by omega), hI.1 27 (by omega), nI_1], fun c hc => by rw [u2n hc]; exact hI.1 c hc, fun n hn => by
      by_cases c : n = q
      · rw [c, u2s]
      · rw [u2t c]
        exact hI.2.1 n (by omega), fun n hn => by rw [u2t (by omega)]; exact hI.2.2 n hn⟩) (fun fu A hI => by
    show f_X11_back_76 (fu + 1) (nI nn) A = _
    rw [f_X11_back_76, hI.1 0 (by omega), h4, if_pos (show nI nn ≤ nI nn from (by simp (disch := omega) only [fa_lt, fa_le, fa_eq, nI_toInt, Int32.reduceToInt, im1] <;> omega))]
    simp (disch := omega) only [u2n, u2s, u2t, hI.1]) (by omega)
  exact h
/-- back: promise 26 -/
theorem s_back : S_24 Rel := by
  intro X M hR
  have hR0 := hR
  obtain ⟨e, d, nm, tp, ok, hX, hM, hma, hta, him, hsh, hst⟩ := hR
  unfold f_X10_back f_X11_back
  have him0 := him
  rcases him with ⟨i1, i2⟩ | ⟨i1, i2, op, on, om, ol, b1, b2, b3, b4, x1, m1, x3, m3, x5, m5, x6, m6, hpp, hnn⟩
  · rw [i1, i2, if_pos t00, if_pos t00]
    exact ans rfl rfl hR0
  · have p5 := ok.1
    have n10 := ok.2.1
    have nm20 := hma.1
    rw [i1, i2, if_neg t10, if_neg t10]
    obtain ⟨A, eA, a1, a2⟩ := bk15 (k := fun M_11 => f_X10_back_61 FU 0 M_11) x1 (by omega)
    have a98 : A 98 = X 98 := a1 98 (by omega)
    obtain ⟨B, eB, q1, q2, q3⟩ := bk61 (X := A) (by rw [a98]; exact x3) (show on ≤ 10 by omega)
    rw [a98, x5, x6] at eB
    obtain ⟨C, eC, c1, c2, c3⟩ := mb12 (k := fun M_15 => f_X11_back_76 FU 0 M_15) m1 (by omega)
    have c0 : C 0 = M 0 := c1 0 (by omega)
    obtain ⟨D, eD, d1, d2, d3⟩ := mb76 (X := C) (by rw [c0]; exact m3) (show on ≤ 10 by omega)
    rw [c0, m5, m6] at eD
    rw [eA, eB, eC, eD]
    refine ans rfl rfl ?_
    have B1 : B 1 = X 1 := by rw [q1 1 (by omega), a1 1 (by omega)]
    have Y1 : ∀ k, k ≠ 6 → upd2 (upd2 (upd2 B 85 2 (nI om)) 1 6 (nI ol)) 5 0 1 1 k = X 1 k := fun k hk => by
      rw [u2n (by decide), u2t hk, u2n (by decide), B1]
    have Yc : ∀ c, c ≠ 1 → c ≠ 5 → c ≠ 85 → (c < 25 ∨ 40 ≤ c) → upd2 (upd2 (upd2 B 85 2 (nI om)) 1 6 (nI ol)) 5 0 1 c = X c := fun c h1 h2 h3 h4 => by
      rw [u2n h2, u2n h1, u2n h3, q1 c (by omega), a1 c (by omega)]
    have N0 : ∀ k, k ≠ 10 → k ≠ 16 → upd2 (upd2 D 0 10 (nI om)) 0 16 (nI ol) 0 k = M 0 k := fun k h1 h2 => by
      rw [u2t h2, u2t h1, d1 0 (by decide), c0]
    have Nc : ∀ c, 6 < c → upd2 (upd2 D 0 10 (nI om)) 0 16 (nI ol) c = M c := fun c hc => by
      rw [u2n (by omega), u2n (by omega), d1 c (by omega), c1 c (by omega)]
    have olt : ol < d.1 := b4
    have d6 : d.1 ≤ 6 := hX.2.2.1
    refine ⟨(e.1, e.2.1, fun k i => if 1 ≤ k ∧ k ≤ 4 ∧ i < op then (M (22 + k) i).toNatClampNeg else if k = 6 ∧ i < on then (M 27 i).toNatClampNeg else e.2.2.1 k i, e.2.2.2), (d.1, ol, d.2.2), om, tp, ⟨ok.1, ok.2.1, fun p hp => ?_, fun n hn => ?_⟩, ⟨⟨?_, ?_, fun p hp => ?_, fun n hn => ?_, ?_, by show ol < 6; have := hX.2.2.1; omega, (hX.2.2.2.2 ol olt).cg (Yc _ (by omega) (by omega) (by omega) (by omega)) (Yc _ (by omega) (by omega) (by omega) (by omega))⟩, b4, hX.2.2.1, (Y1 5 (by decide)).trans hX.2.2.2.1, fun k hk => (hX.2.2.2.2 k hk).cg (Yc _ (by omega) (by omega) (by omega) (by have : k < d.1 := hk; omega)) (Yc _ (by omega) (by omega) (by omega) (by have : k < d.1 := hk; omega))⟩, ⟨⟨?_, ?_, fun p hp => ?_, fun n hn => ?_, u2s, by show ol < 6; have := hX.2.2.1; omega, (hM.2.2 ol olt).cg (Nc _ (by omega)) (Nc _ (by omega))⟩, (N0 15 (by decide) (by decide)).trans hM.2.1, fun k hk => (hM.2.2 k hk).cg (Nc _ (by omega)) (Nc _ (by omega))⟩, ⟨by omega, ?_, ?_, fun i hi => ?_⟩, hta.cg (congrFun (Yc 19 (by omega) (by omega) (by omega) (by omega)) _) (Yc _ (by omega) (by omega) (by omega) (by omega)) (N0 13 (by decide) (by decide)) (Nc _ (by omega)), ?_, hsh.cg (fun c hc => Yc c (by omega) (by omega) (by omega) (by omega)) (fun c hc => Nc c (by omega)), Or.inl u2s⟩
    · have hp : p < e.1 := hp
      by_cases cp : p < op
      · obtain ⟨f, v, r, t, o1, o2, o3, o4, o5, g1, g2, g3, g4, g5, g6, g7, g8⟩ := hpp p cp
        simp only [cp, and_true]
        simp only [show (1 : Nat) ≤ 1 from Nat.le_refl 1, show (1 : Nat) ≤ 4 by decide, show (1 : Nat) ≤ 2 by decide, show (2 : Nat) ≤ 4 by decide, show (1 : Nat) ≤ 3 by decide, show (3 : Nat) ≤ 4 by decide, show (4 : Nat) ≤ 4 by decide, and_self, if_true]
        rw [show 22 + 1 = 23 from rfl, show 22 + 2 = 24 from rfl, show 22 + 3 = 25 from rfl, show 22 + 4 = 26 from rfl, g2, g4, g6, g8, nI_clamp (by omega), nI_clamp (by omega), nI_clamp (by omega), nI_clamp (by omega)]
        exact ⟨o1, o2, o3, o4, o5⟩
      · have := ok.2.2.1 p hp
        simp only [cp, and_false, if_false]
        simpa using this
    · have hn : n < e.2.1 := hn
      have := ok.2.2.2 n hn
      simp only [show ¬ (1 ≤ 5 ∧ 5 ≤ 4 ∧ n < op) by omega, show ¬ (1 ≤ 6 ∧ 6 ≤ 4 ∧ n < op) by omega, show ¬ (1 ≤ 7 ∧ 7 ≤ 4 ∧ n < op) by omega, show ¬ (1 ≤ 8 ∧ 8 ≤ 4 ∧ n < op) by omega, show ¬ (5 = 6 ∧ n < on) by omega, show ¬ (7 = 6 ∧ n < on) by omega, show ¬ (8 = 6 ∧ n < on) by omega, if_false, true_and]
      by_cases cn : n < on
      · obtain ⟨h, o1, g1, g2⟩ := hnn n cn
        rw [if_pos cn, g2, nI_clamp (by omega)]
        omega
      · rw [if_neg cn]
        exact this
    · exact (Y1 3 (by decide)).trans hX.1.1
    · exact (Y1 4 (by decide)).trans hX.1.2.1
    · have hp : p < e.1 := hp
      obtain ⟨f0, f1, f2, f3⟩ := hX.1.2.2.1 p hp
      have Yp : ∀ t, upd2 (upd2 (upd2 B 85 2 (nI om)) 1 6 (nI ol)) 5 0 1 (25 + p) t = A (25 + p) t := fun t => by
        rw [u2n (by omega), u2n (by omega), u2n (by omega), q1 (25 + p) (by omega)]
      simp only [eW, Yp]
      by_cases cp : p < op
      · obtain ⟨f, v, r, t, o1, o2, o3, o4, o5, g1, g2, g3, g4, g5, g6, g7, g8⟩ := hpp p cp
        simp only [cp, and_true]
        simp only [show (1 : Nat) ≤ 1 from Nat.le_refl 1, show (1 : Nat) ≤ 4 by decide, show (1 : Nat) ≤ 2 by decide, show (2 : Nat) ≤ 4 by decide, show (1 : Nat) ≤ 3 by decide, show (3 : Nat) ≤ 4 by decide, show (4 : Nat) ≤ 4 by decide, and_self, if_true]
        rw [show 22 + 1 = 23 from rfl, show 22 + 2 = 24 from rfl, show 22 + 3 = 25 from rfl, show 22 + 4 = 26 from rfl, g2, g4, g6, g8, nI_clamp (by omega), nI_clamp (by omega), nI_clamp (by omega), nI_clamp (by omega), a2 p cp 0 (by decide), a2 p cp 1 (by decide), a2 p cp 2 (by decide), a2 p cp 3 (by decide)]
        exact ⟨g1, g3, g5, g7⟩
      · simp only [cp, and_false, if_false, a1 (25 + p) (by omega)]
        simpa using ⟨f0, f1, f2, f3⟩
    · have hn : n < e.2.1 := hn
      obtain ⟨f0, f1, f2, f3, f4, f5, f6, f7⟩ := hX.1.2.2.2.1 n hn
      have Yp : ∀ t, upd2 (upd2 (upd2 B 85 2 (nI om)) 1 6 (nI ol)) 5 0 1 (30 + n) t = B (30 + n) t := fun t => by
        rw [u2n (by omega), u2n (by omega), u2n (by omega)]
      have Yq : ∀ t, t ≠ 1 → B (30 + n) t = X (30 + n) t := fun t ht => by rw [q3 _ t ht, a1 (30 + n) (by omega)]
      simp only [eW, Yp, Yq 0 (by decide), Yq 2 (by decide), Yq 3 (by decide), Yq 4 (by decide), Yq 5 (by decide), Yq 6 (by decide), Yq 7 (by decide)]
      simp only [show ¬ (1 ≤ 5 ∧ 5 ≤ 4 ∧ n < op) by omega, show ¬ (1 ≤ 6 ∧ 6 ≤ 4 ∧ n < op) by omega, show ¬ (1 ≤ 7 ∧ 7 ≤ 4 ∧ n < op) by omega, show ¬ (1 ≤ 8 ∧ 8 ≤ 4 ∧ n < op) by omega, show ¬ (5 = 6 ∧ n < on) by omega, show ¬ (7 = 6 ∧ n < on) by omega, show ¬ (8 = 6 ∧ n < on) by omega, if_false, true_and]
      refine ⟨f0, ?_, f2, f3, f4, f5, f6, f7⟩
      by_cases cn : n < on
      · obtain ⟨h, o1, g1, g2⟩ := hnn n cn
        rw [if_pos cn, g2, nI_clamp (by omega), q2 n cn, a1 100 (by omega), g1]
      · rw [if_neg cn, q1 (30 + n) (by omega), a1 (30 + n) (by omega)]
        exact f1
    · rw [u2n (by decide), u2s]
    · exact (N0 0 (by decide) (by decide)).trans hM.1.1
    · exact (N0 5 (by decide) (by decide)).trans hM.1.2.1
    · have hp : p < e.1 := hp
      obtain ⟨f0, f1, f2, f3⟩ := hM.1.2.2.1 p hp
      have Np : ∀ c, 1 ≤ c → c < 5 → upd2 (upd2 D 0 10 (nI om)) 0 16 (nI ol) c p = C c p := fun c h1 h2 => by
        rw [u2n (by omega), u2n (by omega), d1 c (by omega)]
      rw [Np 1 (by decide) (by decide), Np 2 (by decide) (by decide), Np 3 (by decide) (by decide), Np 4 (by decide) (by decide)]
      simp only [eW]
      by_cases cp : p < op
      · obtain ⟨f, v, r, t, o1, o2, o3, o4, o5, g1, g2, g3, g4, g5, g6, g7, g8⟩ := hpp p cp
        obtain ⟨w1, w2, w3, w4⟩ := c2 p cp
        simp only [cp, and_true]
        simp only [show (1 : Nat) ≤ 1 from Nat.le_refl 1, show (1 : Nat) ≤ 4 by decide, show (1 : Nat) ≤ 2 by decide, show (2 : Nat) ≤ 4 by decide, show (1 : Nat) ≤ 3 by decide, show (3 : Nat) ≤ 4 by decide, show (4 : Nat) ≤ 4 by decide, and_self, if_true]
        rw [show 22 + 1 = 23 from rfl, show 22 + 2 = 24 from rfl, show 22 + 3 = 25 from rfl, show 22 + 4 = 26 from rfl, w1, w2, w3, w4, g2, g4, g6, g8, nI_clamp (by omega), nI_clamp (by omega), nI_clamp (by omega), nI_clamp (by omega)]
        exact ⟨rfl, rfl, rfl, rfl⟩
      · simp only [cp, and_false, if_false, c3 _ p (show op ≤ p by omega)]
        simpa using ⟨f0, f1, f2, f3⟩
    · have hn : n < e.2.1 := hn
      obtain ⟨f0, f1, f2, f3⟩ := hM.1.2.2.2.1 n hn
      have Np : ∀ c, 5 ≤ c → c < 9 → c ≠ 6 → upd2 (upd2 D 0 10 (nI om)) 0 16 (nI ol) c n = M c n := fun c h1 h2 h3 => by
        rw [u2n (by omega), u2n (by omega), d1 c h3, c1 c (by omega)]
      rw [Np 5 (by decide) (by decide) (by decide), Np 7 (by decide) (by decide) (by decide), Np 8 (by decide) (by decide) (by decide), u2n (show (6 : Nat) ≠ 0 by decide), u2n (show (6 : Nat) ≠ 0 by decide)]
      simp only [eW]
      simp only [show ¬ (1 ≤ 5 ∧ 5 ≤ 4 ∧ n < op) by omega, show ¬ (1 ≤ 6 ∧ 6 ≤ 4 ∧ n < op) by omega, show ¬ (1 ≤ 7 ∧ 7 ≤ 4 ∧ n < op) by omega, show ¬ (1 ≤ 8 ∧ 8 ≤ 4 ∧ n < op) by omega, show ¬ (5 = 6 ∧ n < on) by omega, show ¬ (7 = 6 ∧ n < on) by omega, show ¬ (8 = 6 ∧ n < on) by omega, if_false, true_and]
      refine ⟨f0, ?_, f2, f3⟩
      by_cases cn : n < on
      · obtain ⟨h, o1, g1, g2⟩ := hnn n cn
        rw [if_pos cn, g2, nI_clamp (by omega), d2 n cn, c1 27 (by omega), g2]
      · rw [if_neg cn, d3 n (by omega), c1 6 (by omega)]
        exact f1
    · rw [u2n (by decide), u2n (by decide), u2s]
    · rw [u2t (by decide), u2s]
    · obtain ⟨a, b, o1, o2, o3, o4, o5, o6, o7⟩ := hma.2.2.2 i (by omega)
      refine ⟨a, b, o1, o2, o3, ?_, ?_, ?_, ?_⟩
      · rw [Yc 86 (by omega) (by omega) (by omega) (by omega)]
        exact o4
      · rw [Nc 9 (by omega)]
        exact o5
      · rw [Yc 87 (by omega) (by omega) (by omega) (by omega)]
        exact o6
      · rw [Nc 10 (by omega)]
        exact o7
    · refine Or.inr ⟨?_, (N0 34 (by decide) (by decide)).trans i2, op, on, om, ol, b1, b2, Nat.le_refl _, b4, ?_, (N0 35 (by decide) (by decide)).trans m1, ?_, (N0 36 (by decide) (by decide)).trans m3, ?_, (N0 37 (by decide) (by decide)).trans m5, ?_, (N0 38 (by decide) (by decide)).trans m6, fun p hp => ?_, fun n hn => ?_⟩
      · rw [Yc 98 (by omega) (by omega) (by omega) (by omega)]
        exact i1
      · rw [Yc 98 (by omega) (by omega) (by omega) (by omega)]
        exact x1
      · rw [Yc 98 (by omega) (by omega) (by omega) (by omega)]
        exact x3
      · rw [Yc 98 (by omega) (by omega) (by omega) (by omega)]
        exact x5
      · rw [Yc 98 (by omega) (by omega) (by omega) (by omega)]
        exact x6
      · rw [Yc (101 + p) (by omega) (by omega) (by omega) (by omega), Nc 23 (by omega), Nc 24 (by omega), Nc 25 (by omega), Nc 26 (by omega)]
        exact hpp p hp
      · rw [Yc 100 (by omega) (by omega) (by omega) (by omega), Nc 27 (by omega)]
        exact hnn n hn
