theorem ndO_n {M : Mem} {a b : Nat → Nat} {nm N : Nat} {ex : Option (Nat × Nat)} (h : MkX M a b nm N) (hN : N ≤ 10) (he : ∀ p q, ex = some (p, q) → p < N ∧ q < N ∧ p ≠ q) : (∀ n m, ndO a b nm ex n m = true → m < 10) ∧ ∀ n, ndO a b nm ex n n = false := by
  have key : ∀ n m, ndO a b nm ex n m = true → m < N ∧ n ≠ m := by
    intro n m w
    match ex, he, w with
    | none, _, w =>
      unfold ndO at w
      rw [Bool.or_false] at w
      have := ndk_lt h w
      exact ⟨this.1, this.2.2⟩
    | some (p, q), he, w =>
      rw [ndO_s, Bool.or_eq_true] at w
      rcases w with w | w
      · have := ndk_lt h w
        exact ⟨this.1, this.2.2⟩
      · have := he p q rfl
        simp only [Bool.and_eq_true, decide_eq_true_eq] at w
        omega
  refine ⟨fun n m w => by have := (key n m w).1; omega, fun n => ?_⟩
  cases w : ndO a b nm ex n n
  · rfl
  · exact absurd rfl (key n n w).2
theorem all_m0 {X M : Mem} {L : Nat → Int64} {a b : Nat → Nat} {nm N : Nat} (hN : N ≤ 10) (hX : MkX X a b nm N) (h : MkM M a b nm N) (h5 : M 0 5 = nI N) : ∃ A Z, f_X11_all M L (-1) (-1) = some (lN (WS (ndO a b nm none) N (2 ^ N - 1)), Z, A) ∧ ∀ c, c ≠ 22 → Z c = M c := by
  have hS2 := p1024 hN
  obtain ⟨d1, d2⟩ := ndO_n (ex := none) hX hN (fun p q w => absurd w (by intro v; cases v))
  unfold f_X11_all
  generalize hK : (fun M_23 => (if (-1 : Int32) = (-1) then (f_X11_all_86 M_23 (((1 : Int32) <<< ((M_23 0 5) &&& 31))) (fun L_33 => (f_X11_all_116 M_23 (((1 : Int32) <<< ((M_23 0 5) &&& 31))) FU (0) (vp_updL L_33 (Int32.toNatClampNeg (0)) (1)))) FU (0) L) else (if ibd (-1) 10 then (if ibd (-1) 10 then (f_X11_all_86 (upd2 M_23 22 (Int32.toNatClampNeg (-1)) (((M_23 22 (Int32.toNatClampNeg (-1))) ||| ((1 : Int32) <<< (-1 &&& 31))))) (((1 : Int32) <<< (((upd2 M_23 22 (Int32.toNatClampNeg (-1)) (((M_23 22 (Int32.toNatClampNeg (-1))) ||| ((1 : Int32) <<< (-1 &&& 31))))) 0 5) &&& 31))) (fun L_60 => (f_X11_all_116 (upd2 M_23 22 (Int32.toNatClampNeg (-1)) (((M_23 22 (Int32.toNatClampNeg (-1))) ||| ((1 : Int32) <<< (-1 &&& 31))))) (((1 : Int32) <<< (((upd2 M_23 22 (Int32.toNatClampNeg (-1)) (((M_23 22 (Int32.toNatClampNeg (-1))) ||| ((1 : Int32) <<< (-1 &&& 31))))) 0 5) &&& 31))) FU (0) (vp_updL L_60 (Int32.toNatClampNeg (0)) (1)))) FU (0) L) else none) else none)) : Mem → Option (Int64 × Mem × (Nat → Int64))) = K
  obtain ⟨A, a1, a2, a3⟩ := zero_m (L := L) (M := M) (x1 := -1) (x2 := -1) (K := fun M_10 => f_X11_all_23 L (-1) (-1) K FU 0 M_10)
  rw [a1]
  obtain ⟨B, b1, b2, b3⟩ := needs_m (L := L) (x1 := -1) (x2 := -1) (K := K) (M := A) hN ⟨h.1, by rw [a3 0 (by decide)]; exact h.2.1, fun i hi => by rw [a3 9 (by decide), a3 10 (by decide)]; exact h.2.2 i hi⟩ a2
  have B5 : B 0 5 = nI N := by rw [b3 0 (by decide), a3 0 (by decide)]; exact h5
  rw [b1, ← hK]
  dsimp only
  rw [if_pos rfl, B5, p2I N (by omega)]
  obtain ⟨L1, l1, l2⟩ := lzero_m (M := B) (L := L) (T := 2 ^ N) (K := fun L_33 => (f_X11_all_116 B (nI (2 ^ N)) FU (0) (vp_updL L_33 (Int32.toNatClampNeg (0)) (1)))) hS2
  rw [l1]
  obtain ⟨L2, e1⟩ := alls_m (M := B) (nd := ndO a b nm none) (L := vp_updL L1 0 1) hN B5 (fun n hn m hm => by
    rw [b2 n (by omega) m hm]
    unfold ndO
    rw [Bool.or_false]) d1 d2 (fun S hS => by
    by_cases c : S = 0
    · rw [c, pk_uLs, if_pos rfl]
    · rw [pk_uLn c, if_neg c, l2 S hS])
  exact ⟨L2, B, e1, fun c hc => by rw [b3 c hc, a3 c hc]⟩
theorem all_m1 {X M : Mem} {L : Nat → Int64} {a b : Nat → Nat} {nm N p q : Nat} (hN : N ≤ 10) (hX : MkX X a b nm N) (h : MkM M a b nm N) (h5 : M 0 5 = nI N) (hp : p < N) (hq : q < N) (hpq : p ≠ q) : ∃ A Z, f_X11_all M L (nI p) (nI q) = some (lN (WS (ndO a b nm (some (p, q))) N (2 ^ N - 1)), Z, A) ∧ ∀ c, c ≠ 22 → Z c = M c := by
  have hS2 := p1024 hN
  obtain ⟨d1, d2⟩ := ndO_n (ex := some (p, q)) hX hN (fun p' q' w => by cases w; exact ⟨hp, hq, hpq⟩)
  unfold f_X11_all
  generalize hK : (fun M_23 => (if nI p = (-1) then (f_X11_all_86 M_23 (((1 : Int32) <<< ((M_23 0 5) &&& 31))) (fun L_33 => (f_X11_all_116 M_23 (((1 : Int32) <<< ((M_23 0 5) &&& 31))) FU (0) (vp_updL L_33 (Int32.toNatClampNeg (0)) (1)))) FU (0) L) else (if ibd (nI q) 10 then (if ibd (nI q) 10 then (f_X11_all_86 (upd2 M_23 22 (Int32.toNatClampNeg (nI q)) (((M_23 22 (Int32.toNatClampNeg (nI q))) ||| ((1 : Int32) <<< (nI p &&& 31))))) (((1 : Int32) <<< (((upd2 M_23 22 (Int32.toNatClampNeg (nI q)) (((M_23 22 (Int32.toNatClampNeg (nI q))) ||| ((1 : Int32) <<< (nI p &&& 31))))) 0 5) &&& 31))) (fun L_60 => (f_X11_all_116 (upd2 M_23 22 (Int32.toNatClampNeg (nI q)) (((M_23 22 (Int32.toNatClampNeg (nI q))) ||| ((1 : Int32) <<< (nI p &&& 31))))) (((1 : Int32) <<< (((upd2 M_23 22 (Int32.toNatClampNeg (nI q)) (((M_23 22 (Int32.toNatClampNeg (nI q))) ||| ((1 : Int32) <<< (nI p &&& 31))))) 0 5) &&& 31))) FU (0) (vp_updL L_60 (Int32.toNatClampNeg (0)) (1)))) FU (0) L) else none) else none)) : Mem → Option (Int64 × Mem × (Nat → Int64))) = K
  obtain ⟨A, a1, a2, a3⟩ := zero_m (L := L) (M := M) (x1 := nI p) (x2 := nI q) (K := fun M_10 => f_X11_all_23 L (nI p) (nI q) K FU 0 M_10)
  rw [a1]
  obtain ⟨B, b1, b2, b3⟩ := needs_m (L := L) (x1 := nI p) (x2 := nI q) (K := K) (M := A) hN ⟨h.1, by rw [a3 0 (by decide)]; exact h.2.1, fun i hi => by rw [a3 9 (by decide), a3 10 (by decide)]; exact h.2.2 i hi⟩ a2
  have B5 : B 0 5 = nI N := by rw [b3 0 (by decide), a3 0 (by decide)]; exact h5
  rw [b1, ← hK]
  dsimp only
  simp only [if_neg (show ¬ nI p = -1 from (by simp (disch := omega) only [fa_lt, fa_le, fa_eq, nI_toInt, Int32.reduceToInt, im1] <;> omega)), if_pos (iblt (show q < 10 by omega) (by decide)), nI_clamp (show q < 2 ^ 31 by omega), u2n (show (0 : Nat) ≠ 22 by decide), B5, p2I N (by omega)]
  generalize hC : upd2 B 22 q (B 22 q ||| ((1 : Int32) <<< (nI p &&& 31))) = C
  have C5 : C 0 5 = nI N := by rw [← hC, u2n (by decide)]; exact B5
  obtain ⟨L1, l1, l2⟩ := lzero_m (M := C) (L := L) (T := 2 ^ N) (K := fun L_33 => (f_X11_all_116 C (nI (2 ^ N)) FU (0) (vp_updL L_33 (Int32.toNatClampNeg (0)) (1)))) hS2
  rw [l1]
  obtain ⟨L2, e1⟩ := alls_m (M := C) (nd := ndO a b nm (some (p, q))) (L := vp_updL L1 0 1) hN C5 (fun n hn m hm => by
    rw [ndO_s, ← hC]
    by_cases c : n = q
    · subst c
      rw [u2s, b_or, b2 n (by omega) m hm, bt_sh (by omega) hm, decide_eq_true rfl, Bool.true_and]
      congr 1
      exact decide_eq_decide.mpr ⟨fun w => w.symm, fun w => w.symm⟩
    · rw [u2t c, b2 n (by omega) m hm, decide_eq_false (fun w => c w.symm), Bool.false_and, Bool.or_false]) d1 d2 (fun S hS => by
    by_cases c : S = 0
    · rw [c, pk_uLs, if_pos rfl]
    · rw [pk_uLn c, if_neg c, l2 S hS])
  exact ⟨L2, C, e1, fun c hc => by rw [← hC, u2n hc, b3 c hc, a3 c hc]⟩
theorem Rel.mks {X M : Mem} (hR : Rel X M) : ∃ N nm a b, N ≤ 10 ∧ X 1 4 = nI N ∧ M 0 5 = nI N ∧ MkX X a b nm N ∧ MkM M a b nm N := by
  obtain ⟨e, d, nm, tp, ok, hX, hM, hma, -, -, -, -⟩ := hR
  obtain ⟨m1, m2, m3, m4⟩ := hma
  have n10 := ok.2.1
  have key : ∀ i, i < nm → (X 86 i).toNatClampNeg < e.2.1 ∧ (X 87 i).toNatClampNeg < e.2.1 ∧ (X 86 i).toNatClampNeg ≠ (X 87 i).toNatClampNeg ∧ X 86 i = nI (X 86 i).toNatClampNeg ∧ X 87 i = nI (X 87 i).toNatClampNeg ∧ M 9 i = nI (X 86 i).toNatClampNeg ∧ M 10 i = nI (X 87 i).toNatClampNeg := by
    intro i hi
    obtain ⟨a, b, q1, q2, q3, q4, q5, q6, q7⟩ := m4 i hi
    rw [q4, q6, q5, q7, nI_clamp (by omega), nI_clamp (by omega)]
    exact ⟨q1, q2, q3, rfl, rfl, rfl, rfl⟩
  exact ⟨e.2.1, nm, fun i => (X 86 i).toNatClampNeg, fun i => (X 87 i).toNatClampNeg, n10, hX.1.2.1, hM.1.2.1, ⟨m1, m2, fun i hi => by
    obtain ⟨q1, q2, q3, q4, q5, q6, q7⟩ := key i hi
    exact ⟨q1, q2, q3, q4, q5⟩⟩, ⟨m1, m3, fun i hi => by
    obtain ⟨q1, q2, q3, q4, q5, q6, q7⟩ := key i hi
    exact ⟨q1, q2, q3, q6, q7⟩⟩⟩
theorem Rel.ord {X M Y Z : Mem} (hR : Rel X M) (f : ∀ c, c ≠ 88 → c ≠ 89 → Y c = X c) (g : ∀ c, c ≠ 22 → Z c = M c) : Rel Y Z := by
  obtain ⟨e, d, nm, tp, ok, hX, hM, hma, hta, him, hsh, hst⟩ := hR
  have f1 : Y 1 = X 1 := f 1 (by decide) (by decide)
  have g0 : Z 0 = M 0 := g 0 (by decide)
  exact ⟨e, d, nm, tp, ok, hX.cg ok (by rw [f1]) (by rw [f1]) (by rw [f1]) (by rw [f1]) (fun c hc => f c (by omega) (by omega)), hM.cg (by rw [g0]) (by rw [g0]) (by rw [g0]) (by rw [g0]) (fun c hc => g c (by omega)), hma.cg (by rw [f 85 (by decide) (by decide)]) (f 86 (by decide) (by decide)) (f 87 (by decide) (by decide)) (by rw [g0]) (g 9 (by decide)) (g 10 (by decide)), hta.cg (by rw [f 19 (by decide) (by decide)]) (f 58 (by decide) (by decide)) (by rw [g0]) (g 11 (by decide)), him.cg ok.1 (f 98 (by decide) (by decide)) (f 100 (by decide) (by decide)) (fun c hc => f c (by omega) (by omega)) (fun k _ => by rw [g0]) (fun c hc => g c (by omega)), hsh.cg (fun c hc => f c (by omega) (by omega)) (fun c hc => g c (by omega)), hst.cg ok.eW (by rw [f 5 (by decide) (by decide)]) (f 6 (by decide) (by decide)) (fun c hc => f c (by omega) (by omega)) (fun c hc => f c (by omega) (by omega))⟩
/-- orders: promise 21 -/
theorem s_orders : S_19 Rel := by
  intro X M L hR
  obtain ⟨N, nm, a, b, hN, x4, m5, hX, hM⟩ := hR.mks
  obtain ⟨Y, y1, -, -, y2⟩ := orders_x0 hN hX
  obtain ⟨A, Z, z1, z2⟩ := all_m0 (L := L) hN hX hM m5
  have hb := WS_b (nd := ndO a b nm none) hN (2 ^ N - 1)
  unfold f_X10_orders f_X11_orders
  rw [x4, y1, z1, Option.bind_some, Option.bind_some]
  exact ⟨_, _, rfl, rfl, nI_l (by omega), hR.ord y2 z2⟩
theorem mod_half {y r : Nat} (h : 0 < r) (hr : r < y) : 2 * (y % r) < y := by
  have h1 := Nat.mod_lt y h
  rcases Nat.lt_or_ge y (2 * r) with c | c
  · have : y % r = y - r := by
      rw [Nat.mod_eq_sub_mod (by omega), Nat.mod_eq_of_lt (by omega)]
    omega
  · omega
theorem gcd_x : ∀ (m x y k fu : Nat), x < 2 ^ 31 → y < 2 ^ 31 → y < 2 ^ m → k + 2 * m ≤ 99 → 2 * m + 1 < fu → f_X10_greatestDivisor_7 fu (nI x) (nI y) (nI k) = some (nI (Nat.gcd x y)) := by
  intro m
  induction m with
  | zero =>
    intro x y k fu hx hy hm hk hf
    obtain ⟨g, rfl⟩ : ∃ g, fu = g + 1 := ⟨fu - 1, by omega⟩
    have : y = 0 := by omega
    subst this
    rw [f_X10_greatestDivisor_7, if_neg (show ¬ 100 ≤ nI k from (by simp (disch := omega) only [fa_lt, fa_le, fa_eq, nI_toInt, Int32.reduceToInt, im1] <;> omega)), if_pos (show nI 0 = 0 from rfl), Nat.gcd_zero_right]
  | succ m ih =>
    intro x y k fu hx hy hm hk hf
    obtain ⟨g, rfl⟩ : ∃ g, fu = g + 1 := ⟨fu - 1, by omega⟩
    rw [f_X10_greatestDivisor_7, if_neg (show ¬ 100 ≤ nI k from (by simp (disch := omega) only [fa_lt, fa_le, fa_eq, nI_toInt, Int32.reduceToInt, im1] <;> omega))]
    by_cases c : y = 0
    · subst c
      rw [if_pos (show nI 0 = 0 from rfl), Nat.gcd_zero_right]
    · have hyn : ¬ nI y = 0 := (by simp (disch := omega) only [fa_lt, fa_le, fa_eq, nI_toInt, Int32.reduceToInt, im1] <;> omega)
      have hr := Nat.mod_lt x (show 0 < y by omega)
      rw [if_neg hyn, if_pos hyn, pk_rem hx (by omega) hy, nI_1]
      obtain ⟨g, rfl⟩ : ∃ q, g = q + 1 := ⟨g - 1, by omega⟩
      rw [f_X10_greatestDivisor_7, if_neg (show ¬ 100 ≤ nI (k + 1) from (by simp (disch := omega) only [fa_lt, fa_le, fa_eq, nI_toInt, Int32.reduceToInt, im1] <;> omega))]
      have eg : Nat.gcd x y = Nat.gcd y (x % y) := by rw [Nat.gcd_comm x y, Nat.gcd_rec y x, Nat.gcd_comm]
      by_cases c2 : x % y = 0
      · rw [if_pos (show nI (x % y) = 0 by rw [c2]; rfl), eg, c2, Nat.gcd_zero_right]
      · have hrn : ¬ nI (x % y) = 0 := (by simp (disch := omega) only [fa_lt, fa_le, fa_eq, nI_toInt, Int32.reduceToInt, im1] <;> omega)
        have hh := mod_half (show 0 < x % y by omega) hr
        have hr2 := Nat.mod_lt y (show 0 < x % y by omega)
        rw [if_neg hrn, if_pos hrn, pk_rem hy (by omega) (by omega), nI_1, eg, show Nat.gcd y (x % y) = Nat.gcd (x % y) (y % (x % y)) by rw [Nat.gcd_comm y (x % y), Nat.gcd_rec (x % y) y, Nat.gcd_comm]]
        exact ih (x % y) (y % (x % y)) (k + 1 + 1) g (by omega) (by omega) (by rw [Nat.pow_succ] at hm; omega) (by omega) (by omega)
theorem gcd_m {M : Mem} {L : Nat → Int64} {a3 : Int32} {u v : Int64} : ∀ (m x y fu : Nat), x < 2 ^ 31 → y < 2 ^ 31 → y < 2 ^ m → 2 * m + 1 < fu → 0 < Nat.gcd x y → f_X11_odds_68 M L a3 u v fu (lN x) (lN y) = some (if a3 = 0 then v / lN (Nat.gcd x y) else u / lN (Nat.gcd x y), M, L) := by
  have fin : ∀ (g fu : Nat), 0 < g → g < 2 ^ 31 → f_X11_odds_68 M L a3 u v (fu + 1) (lN g) (lN 0) = some (if a3 = 0 then v / lN g else u / lN g, M, L) := by
    intro g fu hg hg2
    have hn : ¬ lN g = 0 := fun w => by
      have := (fb_lN_inj (b := 0) (by omega) (by decide)).mp w
      omega
    rw [f_X11_odds_68, if_pos (show lg_cmp (lN 0) 0 = 0 from (lg_cmp_eq _ _).mpr rfl), if_pos hn, if_pos hn]
    split <;> rfl
  intro m
  induction m with
  | zero =>
    intro x y fu hx hy hm hf hg
    obtain ⟨g, rfl⟩ : ∃ g, fu = g + 1 := ⟨fu - 1, by omega⟩
    have : y = 0 := by omega
    subst this
    rw [Nat.gcd_zero_right] at hg ⊢
    exact fin x g hg hx
  | succ m ih =>
    intro x y fu hx hy hm hf hg
    obtain ⟨g, rfl⟩ : ∃ g, fu = g + 1 := ⟨fu - 1, by omega⟩
    by_cases c : y = 0
    · subst c
      rw [Nat.gcd_zero_right] at hg ⊢
      exact fin x g hg hx
    · have hyn : ¬ lN y = 0 := fun w => c ((fb_lN_inj (b := 0) (by omega) (by decide)).mp w)
      have hr := Nat.mod_lt x (show 0 < y by omega)
      rw [f_X11_odds_68, if_neg (fun w => hyn ((lg_cmp_eq _ _).mp w)), if_pos hyn, pk_lRem (by omega) (by omega) (by omega)]
      obtain ⟨g, rfl⟩ : ∃ q, g = q + 1 := ⟨g - 1, by omega⟩
      have eg : Nat.gcd x y = Nat.gcd y (x % y) := by rw [Nat.gcd_comm x y, Nat.gcd_rec y x, Nat.gcd_comm]
      by_cases c2 : x % y = 0
      · rw [eg, c2, Nat.gcd_zero_right]
        exact fin y g (by omega) hy
      · have hrn : ¬ lN (x % y) = 0 := fun w => c2 ((fb_lN_inj (b := 0) (by omega) (by decide)).mp w)
        have hh := mod_half (show 0 < x % y by omega) hr
        have hr2 := Nat.mod_lt y (show 0 < x % y by omega)
        have e2 : Nat.gcd y (x % y) = Nat.gcd (x % y) (y % (x % y)) := by rw [Nat.gcd_comm y (x % y), Nat.gcd_rec (x % y) y, Nat.gcd_comm]
        rw [f_X11_odds_68, if_neg (fun w => hrn ((lg_cmp_eq _ _).mp w)), if_pos hrn, pk_lRem (by omega) (by omega) (by omega), eg, e2]
        exact ih (x % y) (y % (x % y)) g (by omega) (by omega) (by rw [Nat.pow_succ] at hm; omega) (by omega) (by rw [← e2, ← eg]; exact hg)
/-- odds: promise 22 -/
theorem s_odds : S_20 Rel := by
  intro X M L a1 a2 a3 hR
  obtain ⟨N, nm, a, b, hN, x4, m5, hX, hM⟩ := hR.mks
  unfold f_X10_odds f_X11_odds
  rcases cl a1 N (by omega) with ⟨p, hp, rfl⟩ | hc
  · rw [hs_in x4 hp hN, if_neg t10, in_in m5 hp hN, if_neg t10]
    rcases cl a2 N (by omega) with ⟨q, hq, rfl⟩ | hc
    · rw [hs_in x4 hq hN, if_neg t10, in_in m5 hq hN, if_neg t10]
      by_cases cpq : p = q
      · rw [if_pos (congrArg nI cpq), if_pos (congrArg nI cpq)]
        exact ⟨_, _, rfl, rfl, rfl, hR⟩
      · rw [if_neg (show ¬ nI p = nI q from (by simp (disch := omega) only [fa_lt, fa_le, fa_eq, nI_toInt, Int32.reduceToInt, im1] <;> omega)), if_neg (show ¬ nI p = nI q from (by simp (disch := omega) only [fa_lt, fa_le, fa_eq, nI_toInt, Int32.reduceToInt, im1] <;> omega))]
        rcases two_or (b := a3) with h | ⟨h1, h2⟩
        · have hin : (0 : Int32).toInt ≤ a3.toInt ∧ a3.toInt ≤ (1 : Int32).toInt := by rcases h with rfl | rfl <;> decide
          have h0 : ¬ a3 < 0 ∧ ¬ 1 < a3 := by rcases h with rfl | rfl <;> decide
          obtain ⟨Y, y1, -, -, y2⟩ := orders_x0 hN hX
          obtain ⟨A, Z, z1, z2⟩ := all_m0 (L := L) hN hX hM m5
          have hb := WS_b (nd := ndO a b nm none) hN (2 ^ N - 1)
          rw [if_neg h0.1, if_neg h0.2, wi_in hin.1 hin.2, if_neg t10, x4, y1, z1, Option.bind_some, Option.bind_some]
          dsimp only
          generalize hW : WS (ndO a b nm none) N (2 ^ N - 1) = W at *
          have hR2 : Rel Y Z := hR.ord y2 z2
          by_cases cW : W = 0
          · rw [if_neg (show ¬ 1 ≤ nI W from (by simp (disch := omega) only [fa_lt, fa_le, fa_eq, nI_toInt, Int32.reduceToInt, im1] <;> omega)), if_pos ((lg_cmp_eq _ _).mpr (by rw [cW]; rfl))]
            exact ⟨_, _, rfl, rfl, rfl, hR2⟩
          · have hWn : ¬ lN W = 0 := fun w => cW ((fb_lN_inj (b := 0) (by omega) (by decide)).mp w)
            have hXY : MkX Y a b nm N := ⟨hX.1, by rw [y2 85 (by decide) (by decide)]; exact hX.2.1, fun i hi => by rw [y2 86 (by decide) (by decide), y2 87 (by decide) (by decide)]; exact hX.2.2 i hi⟩
            have hMZ : MkM Z a b nm N := ⟨hM.1, by rw [z2 0 (by decide)]; exact hM.2.1, fun i hi => by rw [z2 9 (by decide), z2 10 (by decide)]; exact hM.2.2 i hi⟩
            obtain ⟨Y2, u1, u2'⟩ := orders_x1 hN hXY hp hq
            obtain ⟨A2, Z2, v1, v2⟩ := all_m1 (L := A) hN hXY hMZ (by rw [z2 0 (by decide)]; exact m5) hp hq cpq
            have hb2 := WS_b (nd := ndO a b nm (some (p, q))) hN (2 ^ N - 1)
            rw [if_pos (show 1 ≤ nI W from (by simp (disch := omega) only [fa_lt, fa_le, fa_eq, nI_toInt, Int32.reduceToInt, im1] <;> omega)), if_neg (fun w => hWn ((lg_cmp_eq _ _).mp w)), y2 1 (by decide) (by decide), x4, u1, v1, Option.bind_some, Option.bind_some]
            dsimp only
            generalize hV : WS (ndO a b nm (some (p, q))) N (2 ^ N - 1) = V at *
            have hR3 : Rel Y2 Z2 := hR2.ord u2' v2
            have hg : 0 < Nat.gcd W V := Nat.gcd_pos_of_pos_left V (by omega)
            have hgle : Nat.gcd W V ≤ W := Nat.gcd_le_left V (by omega)
            have g1 : f_X10_greatestDivisor (nI W) (nI V) = some (nI (Nat.gcd W V)) := gcd_x 22 W V 0 FU (by omega) (by omega) (by omega) (by omega) (by rw [FU_eq]; omega)
            have g2 := gcd_m (M := Z2) (L := A2) (a3 := a3) (u := lN W) (v := lN V) 22 V W FU (by omega) (by omega) (by omega) (by rw [FU_eq]; omega) (by rw [Nat.gcd_comm]; exact hg)
            rw [Nat.gcd_comm V W] at g2
            have hd1 : V / Nat.gcd W V ≤ V := Nat.div_le_self _ _
            have hd2 : W / Nat.gcd W V ≤ W := Nat.div_le_self _ _
            rw [g1, g2, Option.bind_some, if_pos (show 1 ≤ nI (Nat.gcd W V) from (by simp (disch := omega) only [fa_lt, fa_le, fa_eq, nI_toInt, Int32.reduceToInt, im1] <;> omega))]
            have hgn : ¬ nI (Nat.gcd W V) = 0 := (by simp (disch := omega) only [fa_lt, fa_le, fa_eq, nI_toInt, Int32.reduceToInt, im1] <;> omega)
            rw [if_pos hgn, if_pos hgn, pk_div (by omega) hg (by omega), pk_div (by omega) hg (by omega), pk_lDiv (by omega) hg (by omega), pk_lDiv (by omega) hg (by omega), nI_l (by omega), nI_l (by omega)]
            by_cases c3 : a3 = 0
            · rw [if_pos c3, if_pos c3]
              exact ⟨_, _, rfl, rfl, rfl, hR3⟩
            · rw [if_neg c3, if_neg c3]
              exact ⟨_, _, rfl, rfl, rfl, hR3⟩
        · rw [wi_out (a := a3) (by simp only [Int32.reduceToInt]; omega), if_pos t00]
          rcases h1 with w | w
          · rw [if_pos w]
            exact ⟨_, _, rfl, rfl, rfl, hR⟩
          · rw [if_neg w.1, if_pos (show 1 < a3 by have := w.2; rw [fa_le] at this; rw [fa_lt]; omega)]
            exact ⟨_, _, rfl, rfl, rfl, hR⟩
    · rw [hs_out x4 hN hc, if_pos t00, in_out m5 hN hc, if_pos t00]
      exact ⟨_, _, rfl, rfl, rfl, hR⟩
  · rw [hs_out x4 hN hc, if_pos t00, in_out m5 hN hc, if_pos t00]
    exact ⟨_, _, rfl, rfl, rfl, hR⟩
