def ndk (a b : Nat → Nat) (k n m : Nat) : Bool := (List.range k).any fun i => decide (b i = n) && decide (a i = m)
theorem ndk_s (a b : Nat → Nat) (k n m : Nat) : ndk a b (k + 1) n m = (ndk a b k n m || (decide (b k = n) && decide (a k = m))) := by
  unfold ndk
  rw [List.range_succ, List.any_append]
  simp
/-- the marks, and perhaps one more -/
def ndO (a b : Nat → Nat) (k : Nat) (ex : Option (Nat × Nat)) (n m : Nat) : Bool := ndk a b k n m || (match ex with
  | none => false
  | some (p, q) => decide (q = n) && decide (p = m))
theorem ndO_s (a b : Nat → Nat) (k p q n m : Nat) : ndO a b k (some (p, q)) n m = (ndk a b k n m || (decide (q = n) && decide (p = m))) := rfl
def MkX (M : Mem) (a b : Nat → Nat) (nm N : Nat) : Prop := nm ≤ 20 ∧ M 85 2 = nI nm ∧ ∀ i, i < nm → a i < N ∧ b i < N ∧ a i ≠ b i ∧ M 86 i = nI (a i) ∧ M 87 i = nI (b i)
def MkM (M : Mem) (a b : Nat → Nat) (nm N : Nat) : Prop := nm ≤ 20 ∧ M 0 10 = nI nm ∧ ∀ i, i < nm → a i < N ∧ b i < N ∧ a i ≠ b i ∧ M 9 i = nI (a i) ∧ M 10 i = nI (b i)
theorem needs_x {M : Mem} {a b : Nat → Nat} {nm N : Nat} {x1 x2 x3 : Int32} {K : Mem → Option (Int32 × Mem)} (hN : N ≤ 10) (h : MkX M a b nm N) (h0 : ∀ n, n < 10 → M 88 n = 0) : ∃ A, f_X3_ordersOf_11 x1 x2 x3 K FU 0 M = K A ∧ (∀ n, n < 10 → ∀ m, m < 32 → bt (A 88 n) m = ndk a b nm n m) ∧ ∀ c, c ≠ 88 → A c = M c := by
  obtain ⟨h1, h2, h3⟩ := h
  refine lp0 (F := fun fu y A => f_X3_ordersOf_11 x1 x2 x3 K fu y A) (a := M) K nm (fun k A => (∀ n, n < 10 → ∀ m, m < 32 → bt (A 88 n) m = ndk a b k n m) ∧ ∀ c, c ≠ 88 → A c = M c) ⟨fun n hn m hm => by rw [h0 n hn, b_0]; rfl, fun _ _ => rfl⟩ (fun fu k A hk hI => ?_) (fun fu A hI => ?_) (by omega)
  · obtain ⟨i1, i2⟩ := hI
    obtain ⟨q1, q2, q3, q4, q5⟩ := h3 k hk
    show ∃ a', f_X3_ordersOf_11 x1 x2 x3 K (fu + 1) (nI k) A = f_X3_ordersOf_11 x1 x2 x3 K fu (nI (k + 1)) a' ∧ _
    rw [f_X3_ordersOf_11, i2 85 (by decide), h2, if_neg (show ¬ nI nm ≤ nI k from (by simp (disch := omega) only [fa_lt, fa_le, fa_eq, nI_toInt, Int32.reduceToInt, im1] <;> omega))]
    simp only [if_pos (iblt (show k < 20 by omega) (by decide)), nI_clamp (show k < 2 ^ 31 by omega), i2 86 (by decide), i2 87 (by decide), q4, q5, if_pos (iblt (show b k < 10 by omega) (by decide)), nI_clamp (show b k < 2 ^ 31 by omega), nI_1]
    refine ⟨_, rfl, fun n hn m hm => ?_, fun c hc => by rw [u2n hc]; exact i2 c hc⟩
    rw [ndk_s]
    by_cases cn : n = b k
    · subst cn
      rw [u2s, b_or, i1 _ hn m hm, bt_sh (by omega) hm, decide_eq_true rfl, Bool.true_and]
      congr 1
      exact decide_eq_decide.mpr ⟨fun w => w.symm, fun w => w.symm⟩
    · rw [u2t cn, i1 n hn m hm, decide_eq_false (fun w => cn w.symm), Bool.false_and, Bool.or_false]
  · show f_X3_ordersOf_11 x1 x2 x3 K (fu + 1) (nI nm) A = K A
    rw [f_X3_ordersOf_11, hI.2 85 (by decide), h2, if_pos (show nI nm ≤ nI nm from (by simp (disch := omega) only [fa_lt, fa_le, fa_eq, nI_toInt, Int32.reduceToInt, im1] <;> omega))]
theorem ndk_lt {M : Mem} {a b : Nat → Nat} {nm N : Nat} (h : MkX M a b nm N) {n m : Nat} (hn : ndk a b nm n m = true) : m < N ∧ n < N ∧ n ≠ m := by
  unfold ndk at hn
  rw [List.any_eq_true] at hn
  obtain ⟨i, hi, q⟩ := hn
  rw [List.mem_range] at hi
  rw [Bool.and_eq_true, decide_eq_true_eq, decide_eq_true_eq] at q
  obtain ⟨h1, h2, h3, -⟩ := h.2.2 i hi
  omega
theorem orders_x0 {M : Mem} {a b : Nat → Nat} {nm N : Nat} (hN : N ≤ 10) (h : MkX M a b nm N) : ∃ Y, f_X3_ordersOf M (nI N) (-1) (-1) = some (nI (WS (ndO a b nm none) N (2 ^ N - 1)), Y) ∧ (∀ j, j < 2 ^ N → Y 89 j = nI (WS (ndO a b nm none) N j)) ∧ (∀ n, n < N → ∀ m, m < 32 → bt (Y 88 n) m = ndO a b nm none n m) ∧ ∀ c, c ≠ 88 → c ≠ 89 → Y c = M c := by
  have hS2 := p1024 hN
  have hp : 0 < 2 ^ N := Nat.two_pow_pos N
  unfold f_X3_ordersOf
  obtain ⟨A, a1, a2, a3, -⟩ := fill_ok M 88 10 0 (by decide)
  rw [a1, Option.bind_some]
  obtain ⟨B, b1, b2, b3⟩ := needs_x (x1 := nI N) (x2 := -1) (x3 := -1) (K := fun M_14 => (if (-1 : Int32) = (-1) then (f_X3_ordersOf_89 (nI N) ((((1 : Int32) <<< (nI N &&& 31)) - 1)) FU (1) (upd2 M_14 89 0 (1))) else (if (-1 : Int32) = (-1) then (f_X3_ordersOf_89 (nI N) ((((1 : Int32) <<< (nI N &&& 31)) - 1)) FU (1) (upd2 M_14 89 0 (1))) else (if ibd (-1) 10 then (if ibd (-1) 10 then (f_X3_ordersOf_89 (nI N) ((((1 : Int32) <<< (nI N &&& 31)) - 1)) FU (1) (upd2 (upd2 M_14 88 (Int32.toNatClampNeg (-1)) (((M_14 88 (Int32.toNatClampNeg (-1))) ||| ((1 : Int32) <<< (-1 &&& 31))))) 89 0 (1))) else none) else none)))) (M := A) hN ⟨h.1, by rw [a2 85 (by decide)]; exact h.2.1, fun i hi => by rw [a2 86 (by decide), a2 87 (by decide)]; exact h.2.2 i hi⟩ a3
  rw [b1, if_pos rfl, p2I N (by omega), show nI (2 ^ N) - 1 = nI (2 ^ N - 1) from pk_sub (b := 1) hp]
  obtain ⟨Y, y1, y2, y3⟩ := alls_x (M := upd2 B 89 0 1) (nd := ndO a b nm none) hN (fun n hn m hm => by
    rw [u2n (by decide), b2 n (by omega) m hm]
    unfold ndO
    rw [Bool.or_false]) (fun n m w => by
    unfold ndO at w
    rw [Bool.or_false] at w
    have := ndk_lt h w
    omega) u2s
  refine ⟨Y, y1, y2, fun n hn m hm => ?_, fun c h1 h2 => by rw [y3 c h2, u2n h2, b3 c h1, a2 c h1]⟩
  rw [y3 88 (by decide), u2n (by decide), b2 n (by omega) m hm]
  unfold ndO
  rw [Bool.or_false]
theorem orders_x1 {M : Mem} {a b : Nat → Nat} {nm N p q : Nat} (hN : N ≤ 10) (h : MkX M a b nm N) (hpN : p < N) (hqN : q < N) : ∃ Y, f_X3_ordersOf M (nI N) (nI p) (nI q) = some (nI (WS (ndO a b nm (some (p, q))) N (2 ^ N - 1)), Y) ∧ ∀ c, c ≠ 88 → c ≠ 89 → Y c = M c := by
  have hS2 := p1024 hN
  have hp : 0 < 2 ^ N := Nat.two_pow_pos N
  unfold f_X3_ordersOf
  obtain ⟨A, a1, a2, a3, -⟩ := fill_ok M 88 10 0 (by decide)
  rw [a1, Option.bind_some]
  generalize hK : (fun M_14 => (if nI p = (-1) then (f_X3_ordersOf_89 (nI N) ((((1 : Int32) <<< (nI N &&& 31)) - 1)) FU (1) (upd2 M_14 89 0 (1))) else (if nI q = (-1) then (f_X3_ordersOf_89 (nI N) ((((1 : Int32) <<< (nI N &&& 31)) - 1)) FU (1) (upd2 M_14 89 0 (1))) else (if ibd (nI q) 10 then (if ibd (nI q) 10 then (f_X3_ordersOf_89 (nI N) ((((1 : Int32) <<< (nI N &&& 31)) - 1)) FU (1) (upd2 (upd2 M_14 88 (Int32.toNatClampNeg (nI q)) (((M_14 88 (Int32.toNatClampNeg (nI q))) ||| ((1 : Int32) <<< (nI p &&& 31))))) 89 0 (1))) else none) else none))) : Mem → Option (Int32 × Mem)) = K
  obtain ⟨B, b1, b2, b3⟩ := needs_x (x1 := nI N) (x2 := nI p) (x3 := nI q) (K := K) (M := A) hN ⟨h.1, by rw [a2 85 (by decide)]; exact h.2.1, fun i hi => by rw [a2 86 (by decide), a2 87 (by decide)]; exact h.2.2 i hi⟩ a3
  rw [b1, ← hK]
  simp only [if_neg (show ¬ nI p = -1 from (by simp (disch := omega) only [fa_lt, fa_le, fa_eq, nI_toInt, Int32.reduceToInt, im1] <;> omega)), if_neg (show ¬ nI q = -1 from (by simp (disch := omega) only [fa_lt, fa_le, fa_eq, nI_toInt, Int32.reduceToInt, im1] <;> omega)), if_pos (iblt (show q < 10 by omega) (by decide)), nI_clamp (show q < 2 ^ 31 by omega), p2I N (by omega), show nI (2 ^ N) - 1 = nI (2 ^ N - 1) from pk_sub (b := 1) hp]
  obtain ⟨Y, y1, y2, y3⟩ := alls_x (M := upd2 (upd2 B 88 q (B 88 q ||| ((1 : Int32) <<< (nI p &&& 31)))) 89 0 1) (nd := ndO a b nm (some (p, q))) hN (fun n hn m hm => by
    rw [u2n (by decide), ndO_s]
    by_cases c : n = q
    · subst c
      rw [u2s, b_or, b2 n (by omega) m hm, bt_sh (by omega) hm, decide_eq_true rfl, Bool.true_and]
      congr 1
      exact decide_eq_decide.mpr ⟨fun w => w.symm, fun w => w.symm⟩
    · rw [u2t c, b2 n (by omega) m hm, decide_eq_false (fun w => c w.symm), Bool.false_and, Bool.or_false]) (fun n m w => by
    rw [ndO_s, Bool.or_eq_true] at w
    rcases w with w | w
    · have := ndk_lt h w
      omega
    · simp only [Bool.and_eq_true, decide_eq_true_eq] at w
      omega) u2s
  exact ⟨Y, y1, fun c h1 h2 => by rw [y3 c h2, u2n h2, u2n h1, b3 c h1, a2 c h1]⟩
