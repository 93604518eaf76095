theorem cpy_ne {X : Mem} {i j a b n c : Nat} (h : c ≠ j) : cpy2 X i j a b n c = X c := if_neg h
theorem cpy_eq {X : Mem} {i j n k : Nat} (h : k < n) : cpy2 X i j 0 0 n j k = X i k := by
  have : cpy2 X i j 0 0 n j = va_cpy (X i) (X j) 0 0 n := if_pos rfl
  rw [this, pk_cpy_in (Nat.zero_le _) (by omega)]
  congr 1
  omega
theorem cpy_out {X : Mem} {i j n k : Nat} (h : n ≤ k) : cpy2 X i j 0 0 n j k = X j k := by
  have : cpy2 X i j 0 0 n j = va_cpy (X i) (X j) 0 0 n := if_pos rfl
  rw [this, pk_cpy_out (by omega)]
theorem z0 : Int32.toNatClampNeg 0 = 0 := by decide
theorem z4 : Int32.toNatClampNeg 4 = 4 := by decide
theorem im24 {X : Mem} {np : Nat} {k : Mem → Option (Int32 × Mem)} (h3 : X 1 3 = nI np) (hp : np ≤ 5) : ∃ A, f_X10_image_24 k FU 0 X = k A ∧ (∀ c, (c < 101 ∨ 106 ≤ c) → A c = X c) ∧ ∀ p, p < np → ∀ t, t < 4 → A (101 + p) t = X (25 + p) t := by
  have h := lp0 (F := fun fu x A => f_X10_image_24 k fu x A) (a := X) k np (fun q A => (∀ c, (c < 101 ∨ 106 ≤ c) → A c = X c) ∧ ∀ p, p < q → ∀ t, t < 4 → A (101 + p) t = X (25 + p) t) ⟨fun _ _ => rfl, fun _ h => absurd h (Nat.not_lt_zero _)⟩ (fun fu q A hq hI => ⟨cpy2 A (25 + q) (101 + q) 0 0 4, by
    show f_X10_image_24 k (fu + 1) (nI q) A = _
    rw [f_X10_image_24, hI.1 1 (by omega), h3, if_neg (show ¬ nI np ≤ nI q from (by simp (disch := omega) only [fa_lt, fa_le, fa_eq, nI_toInt, Int32.reduceToInt, im1] <;> omega)), if_pos (iblt (show q < 5 by omega) (by decide)), if_pos (iblt (show q < 5 by omega) (by decide)), nI_clamp (by omega), z0, z4, nI_1], fun c hc => by rw [cpy_ne (by omega)]; exact hI.1 c hc, fun p hp t ht => by
      by_cases c : p = q
      · rw [c, cpy_eq ht, hI.1 _ (by omega)]
      · rw [cpy_ne (by omega)]
        exact hI.2 p (by omega) t ht⟩) (fun fu A hI => by
    show f_X10_image_24 k (fu + 1) (nI np) A = _
    rw [f_X10_image_24, hI.1 1 (by omega), h3, if_pos (show nI np ≤ nI np from (by simp (disch := omega) only [fa_lt, fa_le, fa_eq, nI_toInt, Int32.reduceToInt, im1] <;> omega))]) (by omega)
  exact h
theorem im84 {X : Mem} {nn : Nat} (h4 : X 1 4 = nI nn) (hn : nn ≤ 10) : ∃ A, f_X10_image_84 FU 0 X = some (X 85 2, upd2 (upd2 A 98 5 (X 85 2)) 98 6 (X 1 6)) ∧ (∀ c, c ≠ 100 → A c = X c) ∧ ∀ n, n < nn → A 100 n = X (30 + n) 1 := by
  have h := lp0 (F := fun fu x A => f_X10_image_84 fu x A) (a := X) (fun A => some (X 85 2, upd2 (upd2 A 98 5 (X 85 2)) 98 6 (X 1 6))) nn (fun q A => (∀ c, c ≠ 100 → A c = X c) ∧ ∀ n, n < q → A 100 n = X (30 + n) 1) ⟨fun _ _ => rfl, fun _ h => absurd h (Nat.not_lt_zero _)⟩ (fun fu q A hq hI => ⟨upd2 A 100 q (X (30 + q) 1), by
    show f_X10_image_84 (fu + 1) (nI q) A = _
    rw [f_X10_image_84, hI.1 1 (by omega), h4, if_neg (show ¬ nI nn ≤ nI q from (by simp (disch := omega) only [fa_lt, fa_le, fa_eq, nI_toInt, Int32.reduceToInt, im1] <;> omega)), if_pos (iblt (show q < 10 by omega) (by decide)), if_pos (iblt (show q < 10 by omega) (by decide)), nI_clamp (by omega), hI.1 _ (by omega), nI_1], fun c hc => by rw [u2n hc]; exact hI.1 c hc, fun n hn => by
      by_cases c : n = q
      · rw [c, u2s]
      · rw [u2t c]
        exact hI.2 n (by omega)⟩) (fun fu A hI => by
    show f_X10_image_84 (fu + 1) (nI nn) A = _
    rw [f_X10_image_84, hI.1 1 (by omega), h4, if_pos (show nI nn ≤ nI nn from (by simp (disch := omega) only [fa_lt, fa_le, fa_eq, nI_toInt, Int32.reduceToInt, im1] <;> omega))]
    simp (disch := omega) only [u2n, hI.1]) (by omega)
  exact h
theorem mi39 {X : Mem} {np : Nat} {k : Mem → Option (Int32 × Mem)} (h3 : X 0 0 = nI np) (hp : np ≤ 5) : ∃ A, f_X11_image_39 k FU 0 X = k A ∧ (∀ c, (c < 23 ∨ 27 ≤ c) → A c = X c) ∧ ∀ p, p < np → A 23 p = X 1 p ∧ A 24 p = X 2 p ∧ A 25 p = X 3 p ∧ A 26 p = X 4 p := by
  have h := lp0 (F := fun fu x A => f_X11_image_39 k fu x A) (a := X) k np (fun q A => (∀ c, (c < 23 ∨ 27 ≤ c) → A c = X c) ∧ ∀ p, p < q → A 23 p = X 1 p ∧ A 24 p = X 2 p ∧ A 25 p = X 3 p ∧ A 26 p = X 4 p) ⟨fun _ _ => rfl, fun _ h => absurd h (Nat.not_lt_zero _)⟩ (fun fu q A hq hI => ⟨upd2 (upd2 (upd2 (upd2 A 23 q (X 1 q)) 24 q (X 2 q)) 25 q (X 3 q)) 26 q (X 4 q), by
    show f_X11_image_39 k (fu + 1) (nI q) A = _
    rw [f_X11_image_39, hI.1 0 (by omega), h3, if_neg (show ¬ nI np ≤ nI q from (by simp (disch := omega) only [fa_lt, fa_le, fa_eq, nI_toInt, Int32.reduceToInt, im1] <;> omega))]
    simp (disch := omega) only [if_pos (iblt (show q < 5 by omega) (by decide)), nI_clamp, u2n, hI.1, nI_1], fun c hc => by
      simp (disch := omega) only [u2n]
      exact hI.1 c hc, fun p hp => by
      by_cases c : p = q
      · subst c
        simp (disch := omega) only [u2n, u2s, and_self]
      · simp (disch := omega) only [u2n, u2t]
        exact hI.2 p (by omega)⟩) (fun fu A hI => by
    show f_X11_image_39 k (fu + 1) (nI np) A = _
    rw [f_X11_image_39, hI.1 0 (by omega), h3, if_pos (show nI np ≤ nI np from (by simp (disch := omega) only [fa_lt, fa_le, fa_eq, nI_toInt, Int32.reduceToInt, im1] <;> omega))]) (by omega)
  exact h
theorem mi103 {X : Mem} {nn : Nat} (h4 : X 0 5 = nI nn) (hn : nn ≤ 10) : ∃ A, f_X11_image_103 FU 0 X = some (X 0 10, A) ∧ (∀ c, c ≠ 27 → A c = X c) ∧ ∀ n, n < nn → A 27 n = X 6 n := by
  have h := lp0 (F := fun fu x A => f_X11_image_103 fu x A) (a := X) (fun A => some (X 0 10, A)) nn (fun q A => (∀ c, c ≠ 27 → A c = X c) ∧ ∀ n, n < q → A 27 n = X 6 n) ⟨fun _ _ => rfl, fun _ h => absurd h (Nat.not_lt_zero _)⟩ (fun fu q A hq hI => ⟨upd2 A 27 q (X 6 q), by
    show f_X11_image_103 (fu + 1) (nI q) A = _
    rw [f_X11_image_103, hI.1 0 (by omega), h4, if_neg (show ¬ nI nn ≤ nI q from (by simp (disch := omega) only [fa_lt, fa_le, fa_eq, nI_toInt, Int32.reduceToInt, im1] <;> omega)), if_pos (iblt (show q < 10 by omega) (by decide)), if_pos (iblt (show q < 10 by omega) (by decide)), nI_clamp (by omega), hI.1 _ (by omega), nI_1], fun c hc => by rw [u2n hc]; exact hI.1 c hc, fun n hn => by
      by_cases c : n = q
      · rw [c, u2s]
      · rw [u2t c]
        exact hI.2 n (by omega)⟩) (fun fu A hI => by
    show f_X11_image_103 (fu + 1) (nI nn) A = _
    rw [f_X11_image_103, hI.1 0 (by omega), h4, if_pos (show nI nn ≤ nI nn from (by simp (disch := omega) only [fa_lt, fa_le, fa_eq, nI_toInt, Int32.reduceToInt, im1] <;> omega))]) (by omega)
  exact h
/-- image: promise 25 -/
theorem s_image : S_23 Rel := by
  intro X M hR
  obtain ⟨e, d, nm, tp, ok, hX, hM, hma, hta, him, hsh, hst⟩ := hR
  have x3 : X 1 3 = nI e.1 := hX.1.1
  have x4 : X 1 4 = nI e.2.1 := hX.1.2.1
  have m0 : M 0 0 = nI e.1 := hM.1.1
  have m5 : M 0 5 = nI e.2.1 := hM.1.2.1
  unfold f_X10_image f_X11_image
  simp only [u2n (show (1 : Nat) ≠ 98 by decide), x3]
  simp (disch := omega) only [u2t, m0, m5]
  obtain ⟨A, eA, a1, a2⟩ := im24 (X := upd2 (upd2 X 98 0 1) 98 1 (nI e.1)) (k := fun M_10 => f_X10_image_84 FU 0 (upd2 M_10 98 3 (M_10 1 4))) (by simp only [u2n (show (1 : Nat) ≠ 98 by decide)]; exact x3) ok.1
  have a14 : A 1 = X 1 := by rw [a1 1 (by omega), u2n (by decide), u2n (by decide)]
  rw [eA, a14, x4]
  obtain ⟨B, eB, b1, b2⟩ := im84 (X := upd2 A 98 3 (nI e.2.1)) (by rw [u2n (by decide), a14]; exact x4) ok.2.1
  have b85 : upd2 A 98 3 (nI e.2.1) 85 2 = X 85 2 := by rw [u2n (by decide), a1 85 (by omega), u2n (by decide), u2n (by decide)]
  have b16 : upd2 A 98 3 (nI e.2.1) 1 6 = X 1 6 := by rw [u2n (by decide), a14]
  rw [eB, b85, b16]
  obtain ⟨C, eC, c1, c2⟩ := mi39 (X := upd2 (upd2 (upd2 (upd2 (upd2 M 0 34 1) 0 35 (nI e.1)) 0 36 (nI e.2.1)) 0 37 (M 0 10)) 0 38 (M 0 16)) (k := fun M_14 => f_X11_image_103 FU 0 M_14) (by simp (disch := omega) only [u2t]; exact m0) ok.1
  rw [eC]
  obtain ⟨D, eD, d1, d2⟩ := mi103 (X := C) (by rw [c1 0 (by omega)]; simp (disch := omega) only [u2t]; exact m5) ok.2.1
  have c10 : C 0 10 = M 0 10 := by rw [c1 0 (by omega)]; simp (disch := omega) only [u2t]
  rw [eD, c10]
  have mm : X 85 2 = M 0 10 := hma.2.1.trans hma.2.2.1.symm
  have xs : ∀ c, c < 98 ∨ 106 ≤ c → upd2 (upd2 B 98 5 (X 85 2)) 98 6 (X 1 6) c = X c := fun c hc => by
    rw [u2n (by omega), u2n (by omega), b1 c (by omega), u2n (by omega), a1 c (by omega), u2n (by omega), u2n (by omega)]
  have ms : ∀ c, (0 < c ∧ c < 23) ∨ 28 ≤ c → D c = M c := fun c hc => by
    rw [d1 c (by omega), c1 c (by omega)]
    simp (disch := omega) only [u2n]
  have ms0 : ∀ k, k < 34 ∨ 39 ≤ k → D 0 k = M 0 k := fun k hk => by
    rw [d1 0 (by omega), c1 0 (by omega)]
    simp (disch := omega) only [u2t]
  refine ⟨_, _, rfl, rfl, mm, ?_⟩
  show Rel (upd2 (upd2 B 98 5 (X 85 2)) 98 6 (X 1 6)) D
  refine ⟨e, d, nm, tp, ok, hX.cg ok (congrFun (xs 1 (by omega)) _) (congrFun (xs 1 (by omega)) _) (congrFun (xs 1 (by omega)) _) (congrFun (xs 1 (by omega)) _) (fun c hc => xs c (by omega)), hM.cg (ms0 _ (by omega)) (ms0 _ (by omega)) (ms0 _ (by omega)) (ms0 _ (by omega)) (fun c hc => ms c (by omega)), hma.cg (congrFun (xs 85 (by omega)) _) (xs _ (by omega)) (xs _ (by omega)) (ms0 _ (by omega)) (ms _ (by omega)) (ms _ (by omega)), hta.cg (congrFun (xs 19 (by omega)) _) (xs _ (by omega)) (ms0 _ (by omega)) (ms _ (by omega)), Or.inr ?_, hsh.cg (fun c hc => xs c (by omega)) (fun c hc => ms c (by omega)), hst.cg ok.eW (congrFun (xs 5 (by omega)) _) (xs _ (by omega)) (fun c hc => xs c (by omega)) (fun c hc => xs c (by omega))⟩
  have D0 : ∀ k, D 0 k = upd2 (upd2 (upd2 (upd2 (upd2 M 0 34 1) 0 35 (nI e.1)) 0 36 (nI e.2.1)) 0 37 (M 0 10)) 0 38 (M 0 16) 0 k := fun k => by rw [d1 0 (by omega), c1 0 (by omega)]
  have Y98 : ∀ k, k < 5 → upd2 (upd2 B 98 5 (X 85 2)) 98 6 (X 1 6) 98 k = upd2 A 98 3 (nI e.2.1) 98 k := fun k hk => by
    rw [u2t (by omega), u2t (by omega), b1 98 (by omega)]
  have A98 : ∀ k, A 98 k = upd2 (upd2 X 98 0 1) 98 1 (nI e.1) 98 k := fun k => by rw [a1 98 (by omega)]
  refine ⟨?_, ?_, e.1, e.2.1, nm, d.2.1, Nat.le_refl _, Nat.le_refl _, Nat.le_refl _, hX.2.1, ?_, ?_, ?_, ?_, ?_, ?_, ?_, ?_, fun p hp => ?_, fun n hn => ?_⟩
  · show upd2 (upd2 B 98 5 (X 85 2)) 98 6 (X 1 6) 98 0 = 1
    rw [Y98 0 (by decide), u2t (by decide), A98, u2t (by decide), u2s]
  · show D 0 34 = 1
    rw [D0, u2t (by decide), u2t (by decide), u2t (by decide), u2t (by decide), u2s]
  · show upd2 (upd2 B 98 5 (X 85 2)) 98 6 (X 1 6) 98 1 = _
    rw [Y98 1 (by decide), u2t (by decide), A98, u2s]
  · show D 0 35 = _
    rw [D0, u2t (by decide), u2t (by decide), u2t (by decide), u2s]
  · show upd2 (upd2 B 98 5 (X 85 2)) 98 6 (X 1 6) 98 3 = _
    rw [Y98 3 (by decide), u2s]
  · show D 0 36 = _
    rw [D0, u2t (by decide), u2t (by decide), u2s]
  · show upd2 (upd2 B 98 5 (X 85 2)) 98 6 (X 1 6) 98 5 = _
    rw [u2t (by decide), u2s]
    exact hma.2.1
  · show D 0 37 = _
    rw [D0, u2t (by decide), u2s]
    exact hma.2.2.1
  · show upd2 (upd2 B 98 5 (X 85 2)) 98 6 (X 1 6) 98 6 = _
    rw [u2s]
    exact hX.1.2.2.2.2.1
  · show D 0 38 = _
    rw [D0, u2s]
    exact hM.1.2.2.2.2.1
  · obtain ⟨g0, g1, g2, g3⟩ := hX.1.2.2.1 p hp
    obtain ⟨k0, k1, k2, k3⟩ := hM.1.2.2.1 p hp
    obtain ⟨o1, o2, o3, o4, o5⟩ := ok.2.2.1 p hp
    have p5 := ok.1
    have Y1 : ∀ t, t < 4 → upd2 (upd2 B 98 5 (X 85 2)) 98 6 (X 1 6) (101 + p) t = X (25 + p) t := fun t ht => by
      rw [u2n (by omega), u2n (by omega), b1 (101 + p) (by omega), u2n (by omega), a2 p hp t ht, u2n (by omega), u2n (by omega)]
    obtain ⟨w1, w2, w3, w4⟩ := c2 p hp
    simp (disch := omega) only [u2n] at w1 w2 w3 w4
    refine ⟨e.2.2.1 1 p, e.2.2.1 2 p, e.2.2.1 3 p, e.2.2.1 4 p, o1, o2, o3, o4, o5, (Y1 0 (by decide)).trans g0, ?_, (Y1 1 (by decide)).trans g1, ?_, (Y1 2 (by decide)).trans g2, ?_, (Y1 3 (by decide)).trans g3, ?_⟩
    · show D 23 p = _
      rw [d1 23 (by decide), w1]
      exact k0
    · show D 24 p = _
      rw [d1 24 (by decide), w2]
      exact k1
    · show D 25 p = _
      rw [d1 25 (by decide), w3]
      exact k2
    · show D 26 p = _
      rw [d1 26 (by decide), w4]
      exact k3
  · obtain ⟨g0, g1, -⟩ := hX.1.2.2.2.1 n hn
    obtain ⟨k0, k1, -⟩ := hM.1.2.2.2.1 n hn
    have n10 := ok.2.1
    refine ⟨e.2.2.1 6 n, (ok.2.2.2 n hn).2.1, ?_, ?_⟩
    · show upd2 (upd2 B 98 5 (X 85 2)) 98 6 (X 1 6) 100 n = _
      rw [u2n (by decide), u2n (by decide), b2 n hn, u2n (by omega), a1 (30 + n) (by omega), u2n (by omega), u2n (by omega)]
      exact g1
    · show D 27 n = _
      rw [d2 n hn, c1 6 (by decide)]
      simp (disch := omega) only [u2n]
      exact k1
