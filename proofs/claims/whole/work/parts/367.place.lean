theorem bc_ok : ∀ S, S < 1024 → f_J6_bitCount_0f7a4 (nI S) = nI (pcS S) := by decide +kernel
/-- the least, the greatest of the places behind k sets -/
def BP (Q : Nat → Prop) (g k : Nat) (v : Int32) : Prop := (v = -1 ∧ ∀ S, S < k → ¬ Q S) ∨ ∃ S, S < k ∧ Q S ∧ v = nI (pcS S) ∧ ∀ T, T < k → Q T → if g = 0 then pcS S ≤ pcS T else pcS T ≤ pcS S
theorem BP.no {Q : Nat → Prop} {g k : Nat} {v : Int32} (h : BP Q g k v) (hq : ¬ Q k) : BP Q g (k + 1) v := by
  rcases h with ⟨h1, h2⟩ | ⟨S, h1, h2, h3, h4⟩
  · refine Or.inl ⟨h1, fun S hS w => ?_⟩
    by_cases c : S = k
    · rw [c] at w
      exact hq w
    · exact h2 S (by omega) w
  · refine Or.inr ⟨S, by omega, h2, h3, fun T hT w => ?_⟩
    by_cases c : T = k
    · rw [c] at w
      exact absurd w hq
    · exact h4 T (by omega) w
theorem pc10 (S : Nat) : pcS S ≤ 10 := fb_ct_le _ 10
theorem far_x {M : Mem} {nd : Nat → Nat → Bool} {N n g : Nat} (hN : N ≤ 10) (hn : n < N) (hg : g < 2) (h88 : ∀ n, n < N → ∀ m, m < 32 → bt (M 88 n) m = nd n m) (hd : ∀ n m, nd n m = true → m < 10) (h89 : ∀ j, j < 2 ^ N → M 89 j = nI (WS nd N j)) : ∃ v, f_X3_farthestPlace M (nI N) (nI n) (nI g) = some v ∧ BP (Qn nd N n) g (2 ^ N) v := by
  have hS2 := p1024 hN
  unfold f_X3_farthestPlace
  refine lp0 (F := fun fu y a => f_X3_farthestPlace_6 M (nI N) (nI n) (nI g) fu a y) (a := (-1 : Int32)) (fun a => some a) (2 ^ N) (fun S a => BP (Qn nd N n) g S a) (Or.inl ⟨rfl, fun S h => absurd h (Nat.not_lt_zero _)⟩) (fun fu S a hS hI => ?_) (fun fu a hI => ?_) (by omega)
  · show ∃ a', f_X3_farthestPlace_6 M (nI N) (nI n) (nI g) (fu + 1) a (nI S) = f_X3_farthestPlace_6 M (nI N) (nI n) (nI g) fu a' (nI (S + 1)) ∧ _
    have hb := WS_b (nd := nd) hN S
    rw [f_X3_farthestPlace_6, p2I N (by omega), if_neg (show ¬ nI (2 ^ N) ≤ nI S from (by simp (disch := omega) only [fa_lt, fa_le, fa_eq, nI_toInt, Int32.reduceToInt, im1] <;> omega)), if_pos (iblt (show S < 1024 by omega) (by decide)), nI_clamp (show S < 2 ^ 31 by omega), h89 S hS, nI_1, bc_ok S (by omega), nI_clamp (show n < 2 ^ 31 by omega)]
    by_cases c1 : WS nd N S = 0
    · rw [if_pos (show nI (WS nd N S) ≤ 0 by rw [c1]; decide)]
      exact ⟨a, rfl, hI.no (fun w => by have := w.1; omega)⟩
    · rw [if_neg (show ¬ nI (WS nd N S) ≤ 0 from (by simp (disch := omega) only [fa_lt, fa_le, fa_eq, nI_toInt, Int32.reduceToInt, im1] <;> omega))]
      by_cases c2 : S.testBit n = true
      · rw [if_neg (fun w => (s_tst (by omega)).mp w c2)]
        exact ⟨a, rfl, hI.no (fun w => by rw [w.2.1] at c2; exact absurd c2 (by decide))⟩
      · rw [if_pos ((s_tst (by omega)).mpr c2), if_pos (iblt (show n < 10 by omega) (by decide))]
        by_cases c3 : okB nd S n = true
        · have hQ : Qn nd N n S := ⟨by omega, ts_nt c2, c3⟩
          rw [if_pos ((s_ok (h88 n hn) (hd n)).mpr c3)]
          rcases hI with ⟨h1, h2⟩ | ⟨B, h1, h2, h3, h4⟩
          · rw [if_pos h1]
            refine ⟨_, rfl, Or.inr ⟨S, by omega, hQ, rfl, fun T hT w => ?_⟩⟩
            by_cases cT : T = S
            · rw [cT]
              split <;> exact Nat.le_refl _
            · exact absurd w (h2 T (by omega))
          · have pB := pc10 B
            have pS := pc10 S
            subst h3
            rw [if_neg (show ¬ nI (pcS B) = -1 from (by simp (disch := omega) only [fa_lt, fa_le, fa_eq, nI_toInt, Int32.reduceToInt, im1] <;> omega))]
            have keep : (if g = 0 then pcS B ≤ pcS S else pcS S ≤ pcS B) → BP (Qn nd N n) g (S + 1) (nI (pcS B)) := fun w => Or.inr ⟨B, by omega, h2, rfl, fun T hT q => by
              by_cases cT : T = S
              · rw [cT]
                exact w
              · exact h4 T (by omega) q⟩
            have take : (if g = 0 then pcS S ≤ pcS B else pcS B ≤ pcS S) → BP (Qn nd N n) g (S + 1) (nI (pcS S)) := fun w => Or.inr ⟨S, by omega, hQ, rfl, fun T hT q => by
              by_cases cT : T = S
              · rw [cT]
                split <;> exact Nat.le_refl _
              · have := h4 T (by omega) q
                by_cases cg : g = 0
                · rw [if_pos cg] at this w ⊢
                  omega
                · rw [if_neg cg] at this w ⊢
                  omega⟩
            by_cases cg : g = 0
            · rw [if_pos (show nI g = 0 by rw [cg]; rfl)]
              by_cases c4 : pcS B ≤ pcS S
              · rw [if_pos (show nI (pcS B) ≤ nI (pcS S) from (by simp (disch := omega) only [fa_lt, fa_le, fa_eq, nI_toInt, Int32.reduceToInt, im1] <;> omega))]
                exact ⟨_, rfl, keep (by rw [if_pos cg]; exact c4)⟩
              · rw [if_neg (show ¬ nI (pcS B) ≤ nI (pcS S) from (by simp (disch := omega) only [fa_lt, fa_le, fa_eq, nI_toInt, Int32.reduceToInt, im1] <;> omega))]
                exact ⟨_, rfl, take (by rw [if_pos cg]; omega)⟩
            · rw [if_neg (show ¬ nI g = 0 from (by simp (disch := omega) only [fa_lt, fa_le, fa_eq, nI_toInt, Int32.reduceToInt, im1] <;> omega))]
              by_cases c4 : pcS S ≤ pcS B
              · rw [if_pos (show nI (pcS S) ≤ nI (pcS B) from (by simp (disch := omega) only [fa_lt, fa_le, fa_eq, nI_toInt, Int32.reduceToInt, im1] <;> omega))]
                exact ⟨_, rfl, keep (by rw [if_neg cg]; exact c4)⟩
              · rw [if_neg (show ¬ nI (pcS S) ≤ nI (pcS B) from (by simp (disch := omega) only [fa_lt, fa_le, fa_eq, nI_toInt, Int32.reduceToInt, im1] <;> omega))]
                exact ⟨_, rfl, take (by rw [if_neg cg]; omega)⟩
        · rw [if_neg (fun w => c3 ((s_ok (h88 n hn) (hd n)).mp w))]
          exact ⟨a, rfl, hI.no (fun w => c3 w.2.2)⟩
  · show f_X3_farthestPlace_6 M (nI N) (nI n) (nI g) (fu + 1) a (nI (2 ^ N)) = some a
    rw [f_X3_farthestPlace_6, p2I N (by omega), if_pos (show nI (2 ^ N) ≤ nI (2 ^ N) from (by simp (disch := omega) only [fa_lt, fa_le, fa_eq, nI_toInt, Int32.reduceToInt, im1] <;> omega))]
/-- which end of a mark leads to which -/
def UV (w : Nat) (a b u v : Nat → Nat) : Prop := (w = 0 ∧ u = b ∧ v = a) ∨ (w = 1 ∧ u = a ∧ v = b)
theorem in52 {M : Mem} {L : Nat → Int64} {a b u v : Nat → Nat} {nm N w S : Nat} {x4 : Int32} {K : Int32 → Option (Int32 × Mem × (Nat → Int64))} (hN : N ≤ 10) (h : MkM M a b nm N) (hw : UV w a b u v) (hS : S < 2 ^ N) : f_X11_place_52 M L (nI w) x4 K FU (nI S) 0 = K (nI (stp u v S nm)) := by
  have hS2 := p1024 hN
  obtain ⟨h1, h2, h3⟩ := h
  have hv : ∀ m, m < nm → v m < N := fun m hm => by
    obtain ⟨q1, q2, -⟩ := h3 m hm
    rcases hw with ⟨-, -, rfl⟩ | ⟨-, -, rfl⟩ <;> assumption
  obtain ⟨z, z1, z2⟩ := lp0 (F := fun fu y a => f_X11_place_52 M L (nI w) x4 K fu a y) (a := nI S) K nm (fun k x => x = nI (stp u v S k)) rfl (fun fu k x hk hI => by
    obtain ⟨q1, q2, q3, q4, q5⟩ := h3 k hk
    have hl := stp_lt (u := u) hv hS k (by omega)
    subst hI
    show ∃ a', f_X11_place_52 M L (nI w) x4 K (fu + 1) (nI (stp u v S k)) (nI k) = f_X11_place_52 M L (nI w) x4 K fu a' (nI (k + 1)) ∧ _
    rw [f_X11_place_52, h2, if_neg (show ¬ nI nm ≤ nI k from (by simp (disch := omega) only [fa_lt, fa_le, fa_eq, nI_toInt, Int32.reduceToInt, im1] <;> omega))]
    simp only [if_pos (iblt (show k < 20 by omega) (by decide)), nI_clamp (show k < 2 ^ 31 by omega), q4, q5, nI_1, stp]
    rcases hw with ⟨rfl, rfl, rfl⟩ | ⟨rfl, rfl, rfl⟩
    · rw [if_pos (show nI 0 = 0 from rfl)]
      simp only [if_neg (show ¬ nI 0 = 1 by decide)]
      by_cases c : (stp u v S k).testBit (u k) = true
      · rw [if_pos ((s_tst1 (by omega)).mpr c), if_pos c, s_ad (by omega)]
        exact ⟨_, rfl, rfl⟩
      · rw [if_neg (fun q => c ((s_tst1 (by omega)).mp q)), if_neg c]
        exact ⟨_, rfl, rfl⟩
    · rw [if_neg (show ¬ nI 1 = 0 by decide), if_pos (show nI 1 = 1 from rfl)]
      by_cases c : (stp u v S k).testBit (u k) = true
      · rw [if_pos ((s_tst1 (by omega)).mpr c), if_pos c, s_ad (by omega)]
        exact ⟨_, rfl, rfl⟩
      · rw [if_neg (fun q => c ((s_tst1 (by omega)).mp q)), if_neg c]
        exact ⟨_, rfl, rfl⟩) (fun fu x hI => by
    show f_X11_place_52 M L (nI w) x4 K (fu + 1) x (nI nm) = K x
    rw [f_X11_place_52, h2, if_pos (show nI nm ≤ nI nm from (by simp (disch := omega) only [fa_lt, fa_le, fa_eq, nI_toInt, Int32.reduceToInt, im1] <;> omega))]) (by omega)
  have z1 : f_X11_place_52 M L (nI w) x4 K FU (nI S) 0 = K z := z1
  rw [z1, z2]
theorem place_m {M : Mem} {L : Nat → Int64} {a b u v : Nat → Nat} {nm N w n : Nat} (hN : N ≤ 10) (hn : n < N) (h5 : M 0 5 = nI N) (h : MkM M a b nm N) (hw : UV w a b u v) : f_X11_place_40 M L (nI w) FU ((1 : Int32) <<< (nI n &&& 31)) 0 = some (if w = 0 then nI (pcS (rnd u v nm n N) - 1) else nI (N - pcS (rnd u v nm n N)), M, L) := by
  have hS2 := p1024 hN
  have hv : ∀ m, m < nm → v m < N := fun m hm => by
    obtain ⟨q1, q2, -⟩ := h.2.2 m hm
    rcases hw with ⟨-, -, rfl⟩ | ⟨-, -, rfl⟩ <;> assumption
  have hlt := fun t => rnd_lt (u := u) hv hn t
  have h1 : 1 ≤ pcS (rnd u v nm n N) := by
    have hs : SB 0 (rnd u v nm n N) := fun i hi => by rw [Nat.zero_testBit] at hi; exact absurd hi (by decide)
    have := pc_lt hs (show n < 10 by omega) (rnd_self u v nm n N) (Nat.zero_testBit n)
    omega
  have h2 := pc_le hN (hlt N)
  obtain ⟨z, z1, z2⟩ := lp0 (F := fun fu y a => f_X11_place_40 M L (nI w) fu a y) (a := nI (2 ^ n)) (fun x => some (if w = 0 then nI (pcS (rnd u v nm n N) - 1) else nI (N - pcS (rnd u v nm n N)), M, L)) N (fun t x => x = nI (rnd u v nm n t)) rfl (fun fu t x ht hI => by
    subst hI
    show ∃ a', f_X11_place_40 M L (nI w) (fu + 1) (nI (rnd u v nm n t)) (nI t) = f_X11_place_40 M L (nI w) fu a' (nI (t + 1)) ∧ _
    rw [f_X11_place_40, h5, if_neg (show ¬ nI N ≤ nI t from (by simp (disch := omega) only [fa_lt, fa_le, fa_eq, nI_toInt, Int32.reduceToInt, im1] <;> omega)), in52 hN h hw (hlt t), nI_1]
    exact ⟨_, rfl, rfl⟩) (fun fu x hI => by
    subst hI
    have := hlt N
    show f_X11_place_40 M L (nI w) (fu + 1) (nI (rnd u v nm n N)) (nI N) = _
    rw [f_X11_place_40, h5, if_pos (show nI N ≤ nI N from (by simp (disch := omega) only [fa_lt, fa_le, fa_eq, nI_toInt, Int32.reduceToInt, im1] <;> omega)), bc_ok _ (by omega)]
    have e1 : nI (pcS (rnd u v nm n N)) - 1 = nI (pcS (rnd u v nm n N) - 1) := pk_sub (b := 1) h1
    have e2 : nI N - 1 = nI (N - 1) := pk_sub (b := 1) (by omega)
    rw [e1, e2, pk_sub (by omega)]
    rcases hw with ⟨rfl, -, -⟩ | ⟨rfl, -, -⟩
    · rw [if_pos (show nI 0 = 0 from rfl), if_pos rfl]
    · rw [if_neg (show ¬ nI 1 = 0 by decide), if_neg (by decide), show N - 1 - (pcS (rnd u v nm n N) - 1) = N - pcS (rnd u v nm n N) by omega]) (by omega)
  rw [p2I n (by omega)]
  exact z1
theorem ndk_i {a b : Nat → Nat} {nm n m : Nat} : ndO a b nm none n m = true ↔ ∃ i, i < nm ∧ b i = n ∧ a i = m := by
  unfold ndO ndk
  rw [Bool.or_false, List.any_eq_true]
  constructor
  · rintro ⟨i, hi, q⟩
    rw [Bool.and_eq_true, decide_eq_true_eq, decide_eq_true_eq] at q
    exact ⟨i, List.mem_range.mp hi, q⟩
  · rintro ⟨i, hi, q1, q2⟩
    exact ⟨i, List.mem_range.mpr hi, by rw [Bool.and_eq_true, decide_eq_true_eq, decide_eq_true_eq]; exact ⟨q1, q2⟩⟩
theorem least_ok {X : Mem} {a b : Nat → Nat} {nm N n : Nat} {v : Int32} (hN : N ≤ 10) (hn : n < N) (hX : MkX X a b nm N) (hW : 0 < WS (ndO a b nm none) N (2 ^ N - 1)) (hv : BP (Qn (ndO a b nm none) N n) 0 (2 ^ N) v) : v = nI (pcS (rnd b a nm n N) - 1) := by
  obtain ⟨d1, d2⟩ := ndO_n (ex := none) hX hN (fun p q w => absurd w (by intro v; cases v))
  have hp : 0 < 2 ^ N := Nat.two_pow_pos N
  have hva : ∀ m, m < nm → a m < N := fun m hm => (hX.2.2 m hm).1
  have hA := rnd_lt (u := b) hva hn N
  have hAn := rnd_self b a nm n N
  have hC := rnd_done (u := b) hN hva hn
  have hin := fun C (hC : Cl b a nm C) (hn : C.testBit n = true) => rnd_in hC hn N
  generalize rnd b a nm n N = A at hA hAn hC hin ⊢
  have dn_cl : ∀ C, Dn (ndO a b nm none) C → Cl b a nm C := fun C h m hm hb => h _ _ hb (ndk_i.mpr ⟨m, hm, rfl, rfl⟩)
  have cl_dn : ∀ C, Cl b a nm C → Dn (ndO a b nm none) C := fun C h i j hi hnd => by
    obtain ⟨m, hm, q1, q2⟩ := ndk_i.mp hnd
    rw [← q2]
    exact h m hm (by rw [q1]; exact hi)
  have with_n : ∀ S, S < 2 ^ N → Qn (ndO a b nm none) N n S → SB (A ^^^ 2 ^ n) S := by
    intro S hS hQ i hi
    have hD := WS_dn d1 (S + 1) S (Nat.lt_succ_self S) hQ.1
    have h1 : Dn (ndO a b nm none) (S ||| 2 ^ n) := fun i j hi hnd => by
      rw [fb_bit_set, Bool.or_eq_true, decide_eq_true_eq] at hi
      rw [fb_bit_set]
      rcases hi with w | w
      · rw [hD i j w hnd]
        rfl
      · rw [w] at hnd
        rw [okB_iff.mp hQ.2.2 j (d1 n j hnd) hnd]
        rfl
    have := hin _ (dn_cl _ h1) (by rw [fb_bit_set]; simp) i (by rw [rm_b hAn, Bool.and_eq_true] at hi; exact hi.1)
    rw [fb_bit_set, Bool.or_eq_true, decide_eq_true_eq] at this
    rcases this with w | w
    · exact w
    · rw [w, rm_b hAn] at hi
      simp at hi
  have full_n : (2 ^ N - 1).testBit n = true := by rw [Nat.testBit_two_pow_sub_one]; exact decide_eq_true hn
  obtain ⟨S0, s1, s2⟩ := Q_ex (N := N) (n := n) d1 (d2 n) (2 ^ N) (2 ^ N - 1) (by omega) (by omega) hW full_n
  have hlt : A ^^^ 2 ^ n < 2 ^ N := by have := rm_lt hAn; omega
  have hDA : Dn (ndO a b nm none) (A ^^^ 2 ^ n) := fun i j hi hnd => by
    have h0 := with_n S0 s1 s2 i hi
    have hD := WS_dn d1 (S0 + 1) S0 (Nat.lt_succ_self S0) s2.1
    have hj := hD i j h0 hnd
    rw [rm_b hAn] at hi ⊢
    rw [Bool.and_eq_true] at hi
    rw [cl_dn A hC i j hi.1 hnd]
    by_cases c : j = n
    · rw [c, s2.2.1] at hj
      exact absurd hj (by decide)
    · simp [c]
  have hQA : Qn (ndO a b nm none) N n (A ^^^ 2 ^ n) := ⟨WS_of hDA hlt hW, by rw [rm_b hAn]; simp, okB_iff.mpr (fun m hm hnd => by
    rw [rm_b hAn, cl_dn A hC n m hAn hnd]
    by_cases c : m = n
    · rw [c, d2 n] at hnd
      exact absurd hnd (by decide)
    · simp [c])⟩
  have hpc := pc_rm (show n < 10 by omega) hAn
  rcases hv with ⟨-, h2⟩ | ⟨S, h1, h2, h3, h4⟩
  · exact absurd hQA (h2 _ hlt)
  · have q1 := pc_sub (with_n S h1 h2)
    have q2 := h4 _ hlt hQA
    rw [if_pos rfl] at q2
    rw [h3]
    congr 1
    omega
theorem pc_cpl {A N : Nat} (hN : N ≤ 10) (hA : A < 2 ^ N) : pcS ((2 ^ N - 1) ^^^ A) + pcS A = N := by
  have h := fb_ct_or (p := fun i => ((2 ^ N - 1) ^^^ A).testBit i) (q := fun i => A.testBit i) (n := 10) (fun k hk w => by
    rw [Nat.testBit_xor, Nat.testBit_two_pow_sub_one] at w
    have hk2 := bit_lt hA w.2
    rw [decide_eq_true hk2, w.2] at w
    exact absurd w.1 (by decide))
  have e : fb_ct (fun k => ((2 ^ N - 1) ^^^ A).testBit k || A.testBit k) 10 = fb_ct (fun i => decide (i < N)) 10 := fb_ct_cong (fun k hk => by
    rw [Nat.testBit_xor, Nat.testBit_two_pow_sub_one]
    cases hk2 : A.testBit k
    · simp
    · rw [decide_eq_true (bit_lt hA hk2)]
      rfl)
  have h2 : ∀ N, N < 11 → fb_ct (fun i => decide (i < N)) 10 = N := by decide
  rw [e, h2 N (by omega)] at h
  exact h.symm
theorem most_ok {X : Mem} {a b : Nat → Nat} {nm N n : Nat} {v : Int32} (hN : N ≤ 10) (hn : n < N) (hX : MkX X a b nm N) (hW : 0 < WS (ndO a b nm none) N (2 ^ N - 1)) (hv : BP (Qn (ndO a b nm none) N n) 1 (2 ^ N) v) : v = nI (N - pcS (rnd a b nm n N)) := by
  obtain ⟨d1, d2⟩ := ndO_n (ex := none) hX hN (fun p q w => absurd w (by intro v; cases v))
  have hp : 0 < 2 ^ N := Nat.two_pow_pos N
  have hva : ∀ m, m < nm → b m < N := fun m hm => (hX.2.2 m hm).2.1
  have hA := rnd_lt (u := a) hva hn N
  have hAn := rnd_self a b nm n N
  have hC := rnd_done (u := a) hN hva hn
  have hin := fun C (hC : Cl a b nm C) (hn : C.testBit n = true) => rnd_in hC hn N
  generalize rnd a b nm n N = A at hA hAn hC hin ⊢
  have cb : ∀ S, S < 2 ^ N → ∀ i, ((2 ^ N - 1) ^^^ S).testBit i = (decide (i < N) && !S.testBit i) := by
    intro S hS i
    rw [Nat.testBit_xor, Nat.testBit_two_pow_sub_one]
    cases h : S.testBit i
    · simp
    · rw [decide_eq_true (bit_lt hS h)]
      rfl
  have cl : ∀ S, (2 ^ N - 1) ^^^ S < 2 ^ N ∨ ¬ S < 2 ^ N := by
    intro S
    by_cases h : S < 2 ^ N
    · left
      apply Nat.lt_pow_two_of_testBit
      intro i hi
      rw [cb S h, decide_eq_false (by omega)]
      rfl
    · exact Or.inr h
  have apart : ∀ S, S < 2 ^ N → Qn (ndO a b nm none) N n S → ∀ i, A.testBit i = true → S.testBit i = false := by
    intro S hS hQ i hi
    have hD := WS_dn d1 (S + 1) S (Nat.lt_succ_self S) hQ.1
    have h1 : Cl a b nm ((2 ^ N - 1) ^^^ S) := fun m hm h => by
      rw [cb S hS] at h ⊢
      rw [Bool.and_eq_true] at h
      rw [decide_eq_true (hva m hm), Bool.true_and]
      cases h2 : S.testBit (b m)
      · rfl
      · have := hD (b m) (a m) h2 (ndk_i.mpr ⟨m, hm, rfl, rfl⟩)
        rw [this] at h
        exact absurd h.2 (by decide)
    have := hin _ h1 (by rw [cb S hS, decide_eq_true hn, hQ.2.1]; rfl) i hi
    rw [cb S hS, Bool.and_eq_true] at this
    simpa using this.2
  have full_n : (2 ^ N - 1).testBit n = true := by rw [Nat.testBit_two_pow_sub_one]; exact decide_eq_true hn
  obtain ⟨S0, s1, s2⟩ := Q_ex (N := N) (n := n) d1 (d2 n) (2 ^ N) (2 ^ N - 1) (by omega) (by omega) hW full_n
  have hU : (2 ^ N - 1) ^^^ A < 2 ^ N := (cl A).resolve_right (fun w => w hA)
  have hDU : Dn (ndO a b nm none) ((2 ^ N - 1) ^^^ A) := fun i j hi hnd => by
    obtain ⟨m, hm, q1, q2⟩ := ndk_i.mp hnd
    rw [cb A hA] at hi ⊢
    rw [Bool.and_eq_true] at hi
    obtain ⟨r1, r2, -⟩ := hX.2.2 m hm
    rw [decide_eq_true (show j < N by omega), Bool.true_and]
    cases h2 : A.testBit j
    · rfl
    · have := hC m hm (by rw [q2]; exact h2)
      rw [q1] at this
      rw [this] at hi
      exact absurd hi.2 (by decide)
  have hQU : Qn (ndO a b nm none) N n ((2 ^ N - 1) ^^^ A) := ⟨WS_of hDU hU hW, by rw [cb A hA, hAn]; simp, okB_iff.mpr (fun m hm hnd => by
    obtain ⟨i, hi, q1, q2⟩ := ndk_i.mp hnd
    obtain ⟨r1, r2, -⟩ := hX.2.2 i hi
    have h0 := okB_iff.mp s2.2.2 m hm hnd
    rw [cb A hA, decide_eq_true (show m < N by omega), Bool.true_and]
    cases h2 : A.testBit m
    · rfl
    · rw [apart S0 s1 s2 m h2] at h0
      exact absurd h0 (by decide))⟩
  have hpc := pc_cpl hN hA
  rcases hv with ⟨-, h2⟩ | ⟨S, h1, h2, h3, h4⟩
  · exact absurd hQU (h2 _ hU)
  · have q1 : pcS S ≤ pcS ((2 ^ N - 1) ^^^ A) := pc_sub (fun i hi => by
      rw [cb A hA, decide_eq_true (bit_lt h1 hi), Bool.true_and]
      cases h2' : A.testBit i
      · rfl
      · rw [apart S h1 h2 i h2'] at hi
        exact absurd hi (by decide))
    have q2 := h4 _ hU hQU
    rw [if_neg (by decide)] at q2
    rw [h3]
    congr 1
    omega
/-- place: promise 23 -/
theorem s_place : S_21 Rel := by
  intro X M L a1 a2 hR
  obtain ⟨N, nm, a, b, hN, x4, m5, hX, hM⟩ := hR.mks
  unfold f_X10_place f_X11_place
  rcases cl a1 N (by omega) with ⟨n, hn, rfl⟩ | hc
  · rw [hs_in x4 hn hN, if_neg t10, in_in m5 hn hN, if_neg t10]
    rcases two_or (b := a2) with h | ⟨h1, h2⟩
    · have hin : (0 : Int32).toInt ≤ a2.toInt ∧ a2.toInt ≤ (1 : Int32).toInt := by rcases h with rfl | rfl <;> decide
      have h0 : ¬ a2 < 0 ∧ a2 ≤ 1 := by rcases h with rfl | rfl <;> decide
      obtain ⟨d1, d2⟩ := ndO_n (ex := none) hX hN (fun p q w => absurd w (by intro v; cases v))
      obtain ⟨Y, y1, y3, y4, y2⟩ := orders_x0 hN hX
      obtain ⟨A, Z, z1, z2⟩ := all_m0 (L := L) hN hX hM m5
      have hb := WS_b (nd := ndO a b nm none) hN (2 ^ N - 1)
      have hR2 : Rel Y Z := hR.ord y2 z2
      have hMZ : MkM Z a b nm N := ⟨hM.1, by rw [z2 0 (by decide)]; exact hM.2.1, fun i hi => by rw [z2 9 (by decide), z2 10 (by decide)]; exact hM.2.2 i hi⟩
      rw [if_neg h0.1, if_pos h0.2, wi_in hin.1 hin.2, if_neg t10, x4, y1, z1, Option.bind_some, Option.bind_some]
      dsimp only
      by_cases cW : WS (ndO a b nm none) N (2 ^ N - 1) = 0
      · rw [if_neg (show ¬ 1 ≤ nI (WS (ndO a b nm none) N (2 ^ N - 1)) by rw [cW]; decide), if_pos ((lg_cmp_eq _ _).mpr (by rw [cW]; rfl))]
        exact ⟨_, _, rfl, rfl, rfl, hR2⟩
      · have hW : 0 < WS (ndO a b nm none) N (2 ^ N - 1) := by omega
        rw [if_pos (show 1 ≤ nI (WS (ndO a b nm none) N (2 ^ N - 1)) from (by simp (disch := omega) only [fa_lt, fa_le, fa_eq, nI_toInt, Int32.reduceToInt, im1] <;> omega)), if_neg (show ¬ lg_cmp (lN (WS (ndO a b nm none) N (2 ^ N - 1))) 0 = 0 from fun w => cW ((fb_lN_inj (b := 0) (by omega) (by decide)).mp ((lg_cmp_eq _ _).mp w))), y2 1 (by decide) (by decide), x4]
        rcases h with rfl | rfl
        · obtain ⟨v, v1, v2⟩ := far_x (g := 0) hN hn (by decide) y4 d1 y3
          have e := least_ok hN hn hX hW v2
          have pm := place_m (L := A) (w := 0) hN hn (by rw [z2 0 (by decide)]; exact m5) hMZ (Or.inl ⟨rfl, rfl, rfl⟩)
          rw [if_pos rfl] at pm
          rw [if_neg (by decide), show f_X3_farthestPlace Y (nI N) (nI n) 0 = some v from v1, show f_X11_place_40 Z A 0 FU ((1 : Int32) <<< (nI n &&& 31)) 0 = _ from pm, Option.bind_some]
          exact ⟨_, _, rfl, rfl, e, hR2⟩
        · obtain ⟨v, v1, v2⟩ := far_x (g := 1) hN hn (by decide) y4 d1 y3
          have e := most_ok hN hn hX hW v2
          have pm := place_m (L := A) (w := 1) hN hn (by rw [z2 0 (by decide)]; exact m5) hMZ (Or.inr ⟨rfl, rfl, rfl⟩)
          rw [if_neg (by decide)] at pm
          rw [if_pos rfl, show f_X3_farthestPlace Y (nI N) (nI n) 1 = some v from v1, show f_X11_place_40 Z A 1 FU ((1 : Int32) <<< (nI n &&& 31)) 0 = _ from pm, Option.bind_some]
          exact ⟨_, _, rfl, rfl, e, hR2⟩
    · rw [wi_out (a := a2) (by simp only [Int32.reduceToInt]; omega), if_pos t00]
      rcases h1 with w | w
      · rw [if_pos w]
        exact ⟨_, _, rfl, rfl, rfl, hR⟩
      · rw [if_neg w.1, if_neg w.2]
        exact ⟨_, _, rfl, rfl, rfl, hR⟩
  · rw [hs_out x4 hN hc, if_pos t00, in_out m5 hN hc, if_pos t00]
    exact ⟨_, _, rfl, rfl, rfl, hR⟩
