/-! the class's orders -/
def smN (nd : Nat → Nat → Bool) (N S : Nat) : Nat := fb_sm (fun n => if cnB nd S n = true then WS nd N (S ^^^ 2 ^ n) else 0) N
theorem ways_x {M : Mem} {nd : Nat → Nat → Bool} {N S : Nat} (hN : N ≤ 10) (hS : S < 2 ^ N) (h88 : ∀ n, n < N → ∀ m, m < 32 → bt (M 88 n) m = nd n m) (hd : ∀ n m, nd n m = true → m < 10) (h89 : ∀ j, j < S → M 89 j = nI (WS nd N j)) : f_X3_waysOf M (nI S) (nI N) = some (nI (smN nd N S)) := by
  have hS2 := p1024 hN
  unfold f_X3_waysOf
  obtain ⟨z, z1, z2⟩ := lp0 (F := fun fu y a => f_X3_waysOf_5 M (nI S) (nI N) fu a y) (a := (0 : Int32)) (fun a => some a) N (fun q a => a = nI (fb_sm (fun n => if cnB nd S n = true then WS nd N (S ^^^ 2 ^ n) else 0) q)) rfl (fun fu q a hq hI => by
    show ∃ a', f_X3_waysOf_5 M (nI S) (nI N) (fu + 1) a (nI q) = f_X3_waysOf_5 M (nI S) (nI N) fu a' (nI (q + 1)) ∧ _
    rw [f_X3_waysOf_5, if_neg (show ¬ nI N ≤ nI q from (by simp (disch := omega) only [fa_lt, fa_le, fa_eq, nI_toInt, Int32.reduceToInt, im1] <;> omega)), nI_1]
    by_cases c1 : S.testBit q = true
    · rw [if_neg (fun w => (s_tst (by omega)).mp w c1), if_pos (iblt (show q < 10 by omega) (by decide)), nI_clamp (by omega)]
      by_cases c2 : okB nd S q = true
      · have hrm := rm_lt c1
        rw [if_pos ((s_ok (h88 q hq) (hd q)).mpr c2), s_rm (by omega) c1, if_pos (iblt (show S ^^^ 2 ^ q < 1024 by omega) (by decide)), nI_clamp (by omega), h89 _ hrm]
        refine ⟨_, rfl, ?_⟩
        rw [fb_sm_succ, if_pos (show cnB nd S q = true by unfold cnB; rw [c1, c2]; rfl), hI, nI_add]
      · rw [if_neg (fun w => c2 ((s_ok (h88 q hq) (hd q)).mp w))]
        refine ⟨_, rfl, ?_⟩
        rw [fb_sm_succ, if_neg (show ¬ cnB nd S q = true by unfold cnB; rw [c1, Bool.true_and]; exact c2), hI, Nat.add_zero]
    · rw [if_pos ((s_tst (by omega)).mpr c1)]
      refine ⟨_, rfl, ?_⟩
      rw [fb_sm_succ, if_neg (fun w => c1 (cnB_t w)), hI, Nat.add_zero]) (fun fu a hI => by
    show f_X3_waysOf_5 M (nI S) (nI N) (fu + 1) a (nI N) = _
    rw [f_X3_waysOf_5, if_pos (show nI N ≤ nI N from (by simp (disch := omega) only [fa_lt, fa_le, fa_eq, nI_toInt, Int32.reduceToInt, im1] <;> omega))]) (by omega)
  have z1 : f_X3_waysOf_5 M (nI S) (nI N) FU 0 0 = some z := z1
  rw [z1, z2]
  rfl
theorem alls_x {M : Mem} {nd : Nat → Nat → Bool} {N : Nat} (hN : N ≤ 10) (h88 : ∀ n, n < N → ∀ m, m < 32 → bt (M 88 n) m = nd n m) (hd : ∀ n m, nd n m = true → m < 10) (h0 : M 89 0 = 1) : ∃ Y, f_X3_ordersOf_89 (nI N) (nI (2 ^ N - 1)) FU 1 M = some (nI (WS nd N (2 ^ N - 1)), Y) ∧ (∀ j, j < 2 ^ N → Y 89 j = nI (WS nd N j)) ∧ ∀ c, c ≠ 89 → Y c = M c := by
  have hS2 := p1024 hN
  have hp : 0 < 2 ^ N := Nat.two_pow_pos N
  obtain ⟨A, a1, -, a2, a3⟩ := lpU (fun fu y A => f_X3_ordersOf_89 (nI N) (nI (2 ^ N - 1)) fu y A) (fun A => some (A 89 (2 ^ N - 1), A)) (2 ^ N) (fun S A => 0 < S ∧ (∀ j, j < S → A 89 j = nI (WS nd N j)) ∧ ∀ c, c ≠ 89 → A c = M c) (fun fu S A hS hI => by
    obtain ⟨i0, i1, i2⟩ := hI
    have c0 : S ≠ 0 := by omega
    · show ∃ a', f_X3_ordersOf_89 (nI N) (nI (2 ^ N - 1)) (fu + 1) (nI S) A = f_X3_ordersOf_89 (nI N) (nI (2 ^ N - 1)) fu (nI (S + 1)) a' ∧ _
      rw [f_X3_ordersOf_89, if_neg (show ¬ nI (2 ^ N - 1) < nI S from (by simp (disch := omega) only [fa_lt, fa_le, fa_eq, nI_toInt, Int32.reduceToInt, im1] <;> omega)), ways_x hN hS (fun n hn m hm => by rw [i2 88 (by decide)]; exact h88 n hn m hm) hd i1, Option.bind_some, if_pos (iblt (show S < 1024 by omega) (by decide)), nI_clamp (by omega), nI_1]
      refine ⟨_, rfl, by omega, fun j hj => ?_, fun c hc => by rw [u2n hc]; exact i2 c hc⟩
      by_cases cj : j = S
      · subst cj
        rw [u2s, WS_s c0]
        rfl
      · rw [u2t cj]
        exact i1 j (by omega)) (fun fu A hI => by
    show f_X3_ordersOf_89 (nI N) (nI (2 ^ N - 1)) (fu + 1) (nI (2 ^ N)) A = _
    rw [f_X3_ordersOf_89, if_pos (show nI (2 ^ N - 1) < nI (2 ^ N) from (by simp (disch := omega) only [fa_lt, fa_le, fa_eq, nI_toInt, Int32.reduceToInt, im1] <;> omega)), if_pos (iblt (show 2 ^ N - 1 < 1024 by omega) (by decide)), nI_clamp (by omega)]) (2 ^ N - 1) FU 1 M (by omega) (by rw [FU_eq]; omega) ⟨Nat.lt_succ_self 0, fun j hj => by
      have : j = 0 := by omega
      subst this
      rw [h0]
      rfl, fun _ _ => rfl⟩
  refine ⟨A, ?_, a2, a3⟩
  have a1 : f_X3_ordersOf_89 (nI N) (nI (2 ^ N - 1)) FU 1 M = some (A 89 (2 ^ N - 1), A) := a1
  rw [a1, a2 _ (by omega)]
