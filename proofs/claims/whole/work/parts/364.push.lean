/-! the model's orders -/
theorem needs_m {L : Nat → Int64} {M : Mem} {a b : Nat → Nat} {nm N : Nat} {x1 x2 : Int32} {K : Mem → Option (Int64 × Mem × (Nat → Int64))} (hN : N ≤ 10) (h : MkM M a b nm N) (h0 : ∀ n, n < 10 → M 22 n = 0) : ∃ A, f_X11_all_23 L x1 x2 K FU 0 M = K A ∧ (∀ n, n < 10 → ∀ m, m < 32 → bt (A 22 n) m = ndk a b nm n m) ∧ ∀ c, c ≠ 22 → A c = M c := by
  obtain ⟨h1, h2, h3⟩ := h
  refine lp0 (F := fun fu y A => f_X11_all_23 L x1 x2 K fu y A) (a := M) K nm (fun k A => (∀ n, n < 10 → ∀ m, m < 32 → bt (A 22 n) m = ndk a b k n m) ∧ ∀ c, c ≠ 22 → A c = M c) ⟨fun n hn m hm => by rw [h0 n hn, b_0]; rfl, fun _ _ => rfl⟩ (fun fu k A hk hI => ?_) (fun fu A hI => ?_) (by omega)
  · obtain ⟨i1, i2⟩ := hI
    obtain ⟨q1, q2, q3, q4, q5⟩ := h3 k hk
    show ∃ a', f_X11_all_23 L x1 x2 K (fu + 1) (nI k) A = f_X11_all_23 L x1 x2 K fu (nI (k + 1)) a' ∧ _
    rw [f_X11_all_23, i2 0 (by decide), h2, if_neg (show ¬ nI nm ≤ nI k from (by simp (disch := omega) only [fa_lt, fa_le, fa_eq, nI_toInt, Int32.reduceToInt, im1] <;> omega))]
    simp only [if_pos (iblt (show k < 20 by omega) (by decide)), nI_clamp (show k < 2 ^ 31 by omega), i2 9 (by decide), i2 10 (by decide), q4, q5, if_pos (iblt (show b k < 10 by omega) (by decide)), nI_clamp (show b k < 2 ^ 31 by omega), nI_1]
    refine ⟨_, rfl, fun n hn m hm => ?_, fun c hc => by rw [u2n hc]; exact i2 c hc⟩
    rw [ndk_s]
    by_cases cn : n = b k
    · subst cn
      rw [u2s, b_or, i1 _ hn m hm, bt_sh (by omega) hm, decide_eq_true rfl, Bool.true_and]
      congr 1
      exact decide_eq_decide.mpr ⟨fun w => w.symm, fun w => w.symm⟩
    · rw [u2t cn, i1 n hn m hm, decide_eq_false (fun w => cn w.symm), Bool.false_and, Bool.or_false]
  · show f_X11_all_23 L x1 x2 K (fu + 1) (nI nm) A = K A
    rw [f_X11_all_23, hI.2 0 (by decide), h2, if_pos (show nI nm ≤ nI nm from (by simp (disch := omega) only [fa_lt, fa_le, fa_eq, nI_toInt, Int32.reduceToInt, im1] <;> omega))]
theorem zero_m {L : Nat → Int64} {M : Mem} {x1 x2 : Int32} {K : Mem → Option (Int64 × Mem × (Nat → Int64))} : ∃ A, f_X11_all_2 L x1 x2 K FU 0 M = K A ∧ (∀ n, n < 10 → A 22 n = 0) ∧ ∀ c, c ≠ 22 → A c = M c := by
  refine lp0 (F := fun fu y A => f_X11_all_2 L x1 x2 K fu y A) (a := M) K 10 (fun k A => (∀ n, n < k → A 22 n = 0) ∧ ∀ c, c ≠ 22 → A c = M c) ⟨fun n hn => absurd hn (Nat.not_lt_zero _), fun _ _ => rfl⟩ (fun fu k A hk hI => ?_) (fun fu A hI => ?_) (by omega)
  · show ∃ a', f_X11_all_2 L x1 x2 K (fu + 1) (nI k) A = f_X11_all_2 L x1 x2 K fu (nI (k + 1)) a' ∧ _
    rw [f_X11_all_2, if_neg (show ¬ 10 ≤ nI k from (by simp (disch := omega) only [fa_lt, fa_le, fa_eq, nI_toInt, Int32.reduceToInt, im1] <;> omega)), if_pos (iblt hk (by decide)), nI_clamp (by omega), nI_1]
    refine ⟨_, rfl, fun n hn => ?_, fun c hc => by rw [u2n hc]; exact hI.2 c hc⟩
    by_cases cn : n = k
    · rw [cn, u2s]
    · rw [u2t cn]
      exact hI.1 n (by omega)
  · show f_X11_all_2 L x1 x2 K (fu + 1) (nI 10) A = K A
    rw [f_X11_all_2, if_pos (show 10 ≤ nI 10 by decide)]
theorem lzero_m {M : Mem} {L : Nat → Int64} {T : Nat} {K : (Nat → Int64) → Option (Int64 × Mem × (Nat → Int64))} (hT : T ≤ 1024) : ∃ A, f_X11_all_86 M (nI T) K FU 0 L = K A ∧ ∀ n, n < T → A n = 0 := by
  refine lp0 (F := fun fu y A => f_X11_all_86 M (nI T) K fu y A) (a := L) K T (fun k A => ∀ n, n < k → A n = 0) (fun n hn => absurd hn (Nat.not_lt_zero _)) (fun fu k A hk hI => ?_) (fun fu A hI => ?_) (by omega)
  · show ∃ a', f_X11_all_86 M (nI T) K (fu + 1) (nI k) A = f_X11_all_86 M (nI T) K fu (nI (k + 1)) a' ∧ _
    rw [f_X11_all_86, if_neg (show ¬ nI T ≤ nI k from (by simp (disch := omega) only [fa_lt, fa_le, fa_eq, nI_toInt, Int32.reduceToInt, im1] <;> omega)), if_pos (iblt (show k < 1024 by omega) (by decide)), nI_clamp (by omega), nI_1]
    refine ⟨_, rfl, fun n hn => ?_⟩
    by_cases cn : n = k
    · rw [cn, pk_uLs]
    · rw [pk_uLn cn]
      exact hI n (by omega)
  · show f_X11_all_86 M (nI T) K (fu + 1) (nI T) A = K A
    rw [f_X11_all_86, if_pos (show nI T ≤ nI T from (by simp (disch := omega) only [fa_lt, fa_le, fa_eq, nI_toInt, Int32.reduceToInt, im1] <;> omega))]
/-- what has come to set S when all sets below i were gone on with -/
def PQ (nd : Nat → Nat → Bool) (N S i : Nat) : Nat := if S = 0 then 1 else fb_sm (fun n => if cnB nd S n = true ∧ S ^^^ 2 ^ n < i then WS nd N (S ^^^ 2 ^ n) else 0) N
def PR (nd : Nat → Nat → Bool) (N S i k : Nat) : Nat := fb_sm (fun n => if cnB nd S n = true ∧ S ^^^ 2 ^ n = i then WS nd N i else 0) k
theorem PQ_done {nd : Nat → Nat → Bool} {N S i : Nat} (h : S ≤ i) : PQ nd N S i = WS nd N S := by
  unfold PQ
  by_cases c : S = 0
  · rw [if_pos c, c, WS_0]
  · rw [if_neg c, WS_s c]
    apply fb_sm_cong
    intro n _
    by_cases w : cnB nd S n = true
    · have := rm_lt (cnB_t w)
      rw [if_pos w, if_pos ⟨w, by omega⟩]
    · rw [if_neg w, if_neg (fun q => w q.1)]
theorem PQ_step {nd : Nat → Nat → Bool} {N S i : Nat} : PQ nd N S (i + 1) = PQ nd N S i + PR nd N S i N := by
  unfold PQ PR
  by_cases c : S = 0
  · subst c
    rw [if_pos rfl, if_pos rfl]
    have : fb_sm (fun n => if cnB nd 0 n = true ∧ 0 ^^^ 2 ^ n = i then WS nd N i else 0) N = fb_sm (fun _ => 0) N := fb_sm_cong (fun n _ => by
      rw [if_neg (fun q => by
        have := cnB_t q.1
        rw [Nat.zero_testBit] at this
        exact absurd this (by decide))])
    rw [this, fb_sm_const]
    omega
  · rw [if_neg c, if_neg c, ← fb_sm_add]
    apply fb_sm_cong
    intro n _
    by_cases w : cnB nd S n = true
    · by_cases w2 : S ^^^ 2 ^ n < i
      · rw [if_pos ⟨w, by omega⟩, if_pos ⟨w, w2⟩, if_neg (fun q => by omega), Nat.add_zero]
      · by_cases w3 : S ^^^ 2 ^ n = i
        · rw [if_pos ⟨w, by omega⟩, if_neg (fun q => w2 q.2), if_pos ⟨w, w3⟩, Nat.zero_add, w3]
        · rw [if_neg (fun q => by omega), if_neg (fun q => w2 q.2), if_neg (fun q => w3 q.2)]
    · rw [if_neg (fun q => w q.1), if_neg (fun q => w q.1), if_neg (fun q => w q.1)]
theorem PR_self {nd : Nat → Nat → Bool} {N i k : Nat} : PR nd N i i k = 0 := by
  unfold PR
  rw [fb_sm_cong (g := fun _ => 0) (fun n _ => by
    rw [if_neg (fun q => by
      have := rm_lt (cnB_t q.1)
      omega)]), fb_sm_const]
  omega
theorem PR_zero {nd : Nat → Nat → Bool} {N S i k : Nat} (h : WS nd N i = 0) : PR nd N S i k = 0 := by
  unfold PR
  rw [fb_sm_cong (g := fun _ => 0) (fun n _ => by rw [h]; split <;> rfl), fb_sm_const]
  omega
theorem PR_s {nd : Nat → Nat → Bool} {N S i k : Nat} : PR nd N S i (k + 1) = PR nd N S i k + (if cnB nd S k = true ∧ S ^^^ 2 ^ k = i then WS nd N i else 0) := rfl
theorem PR_skip {nd : Nat → Nat → Bool} {N S i k : Nat} (hn : nd k k = false) (h : i.testBit k = true ∨ ¬ okB nd i k = true) : PR nd N S i (k + 1) = PR nd N S i k := by
  rw [PR_s, if_neg, Nat.add_zero]
  rintro ⟨q1, q2⟩
  have hb := cnB_t q1
  rcases h with w | w
  · have := rm_b hb k
    rw [q2, w, hb] at this
    simp at this
  · apply w
    rw [okB_iff]
    intro m hm hnd
    unfold cnB at q1
    rw [Bool.and_eq_true, okB_iff] at q1
    rw [← q2, rm_b hb, q1.2 m hm hnd]
    by_cases cm : m = k
    · rw [cm] at hnd
      rw [hn] at hnd
      exact absurd hnd (by decide)
    · simp [cm]
theorem PR_add {nd : Nat → Nat → Bool} {N S i k : Nat} (h1 : i.testBit k = false) (h2 : okB nd i k = true) : PR nd N S i (k + 1) = PR nd N S i k + (if S = i ||| 2 ^ k then WS nd N i else 0) := by
  rw [PR_s]
  congr 1
  refine ifc ⟨fun w => ?_, fun w => ?_⟩
  · rw [← w.2, ad_rm (cnB_t w.1)]
  · subst w
    refine ⟨?_, rm_ad h1⟩
    unfold cnB
    rw [Bool.and_eq_true, okB_iff]
    refine ⟨by rw [fb_bit_set]; simp, fun m hm hnd => ?_⟩
    rw [fb_bit_set, okB_iff.mp h2 m hm hnd]
    rfl
theorem inner_m {M : Mem} {nd : Nat → Nat → Bool} {N i : Nat} {x3 : Int32} {K : (Nat → Int64) → Option (Int64 × Mem × (Nat → Int64))} {L : Nat → Int64} (hN : N ≤ 10) (h5 : M 0 5 = nI N) (hi : i < 2 ^ N) (h22 : ∀ n, n < N → ∀ m, m < 32 → bt (M 22 n) m = nd n m) (hd : ∀ n m, nd n m = true → m < 10) (hnn : ∀ n, nd n n = false) (hL : ∀ S, S < 2 ^ N → L S = lN (PQ nd N S i)) : ∃ A, f_X11_all_140 M x3 (nI i) K FU 0 L = K A ∧ ∀ S, S < 2 ^ N → A S = lN (PQ nd N S (i + 1)) := by
  have hS2 := p1024 hN
  obtain ⟨A, a1, a2⟩ := lp0 (F := fun fu y A => f_X11_all_140 M x3 (nI i) K fu y A) (a := L) K N (fun k A => ∀ S, S < 2 ^ N → A S = lN (PQ nd N S i + PR nd N S i k)) (fun S hS => hL S hS) (fun fu k A hk hI => by
    show ∃ a', f_X11_all_140 M x3 (nI i) K (fu + 1) (nI k) A = f_X11_all_140 M x3 (nI i) K fu (nI (k + 1)) a' ∧ _
    rw [f_X11_all_140, h5, if_neg (show ¬ nI N ≤ nI k from (by simp (disch := omega) only [fa_lt, fa_le, fa_eq, nI_toInt, Int32.reduceToInt, im1] <;> omega)), nI_1]
    by_cases c1 : i.testBit k = true
    · rw [if_neg (fun w => (s_tst (by omega)).mp w c1)]
      exact ⟨A, rfl, fun S hS => by rw [PR_skip (hnn k) (Or.inl c1)]; exact hI S hS⟩
    · rw [if_pos ((s_tst (by omega)).mpr c1), if_pos (iblt (show k < 10 by omega) (by decide)), nI_clamp (show k < 2 ^ 31 by omega)]
      by_cases c2 : okB nd i k = true
      · have hlt := ad_lt hi hk
        rw [if_pos ((s_ok (h22 k hk) (hd k)).mpr c2), s_ad (by omega), if_pos (iblt (show i ||| 2 ^ k < 1024 by omega) (by decide)), if_pos (iblt (show i < 1024 by omega) (by decide)), if_pos (iblt (show i ||| 2 ^ k < 1024 by omega) (by decide)), nI_clamp (show i ||| 2 ^ k < 2 ^ 31 by omega), nI_clamp (show i < 2 ^ 31 by omega)]
        refine ⟨_, rfl, fun S hS => ?_⟩
        rw [PR_add (ts_nt c1) c2]
        by_cases cS : S = i ||| 2 ^ k
        · subst cS
          rw [pk_uLs, hI _ hS, hI i hi, PR_self, PQ_done (Nat.le_refl i), if_pos rfl, lN_add, Nat.add_zero, Nat.add_assoc]
        · rw [pk_uLn cS, hI S hS, if_neg cS, Nat.add_zero]
      · rw [if_neg (fun w => c2 ((s_ok (h22 k hk) (hd k)).mp w))]
        exact ⟨A, rfl, fun S hS => by rw [PR_skip (hnn k) (Or.inr c2)]; exact hI S hS⟩) (fun fu A hI => by
    show f_X11_all_140 M x3 (nI i) K (fu + 1) (nI N) A = K A
    rw [f_X11_all_140, h5, if_pos (show nI N ≤ nI N from (by simp (disch := omega) only [fa_lt, fa_le, fa_eq, nI_toInt, Int32.reduceToInt, im1] <;> omega))]) (by omega)
  exact ⟨A, a1, fun S hS => by rw [PQ_step]; exact a2 S hS⟩
theorem alls_m {M : Mem} {nd : Nat → Nat → Bool} {N : Nat} {L : Nat → Int64} (hN : N ≤ 10) (h5 : M 0 5 = nI N) (h22 : ∀ n, n < N → ∀ m, m < 32 → bt (M 22 n) m = nd n m) (hd : ∀ n m, nd n m = true → m < 10) (hnn : ∀ n, nd n n = false) (hL : ∀ S, S < 2 ^ N → L S = if S = 0 then 1 else 0) : ∃ A, f_X11_all_116 M (nI (2 ^ N)) FU 0 L = some (lN (WS nd N (2 ^ N - 1)), M, A) := by
  have hS2 := p1024 hN
  have hp : 0 < 2 ^ N := Nat.two_pow_pos N
  obtain ⟨A, a1, a2⟩ := lp0 (F := fun fu y A => f_X11_all_116 M (nI (2 ^ N)) fu y A) (a := L) (fun A => some (A (2 ^ N - 1), M, A)) (2 ^ N) (fun i A => ∀ S, S < 2 ^ N → A S = lN (PQ nd N S i)) (fun S hS => by
    rw [hL S hS]
    unfold PQ
    by_cases c : S = 0
    · rw [if_pos c, if_pos c]
      rfl
    · rw [if_neg c, if_neg c, fb_sm_cong (g := fun _ => 0) (fun n _ => by rw [if_neg (fun q => absurd q.2 (Nat.not_lt_zero _))]), fb_sm_const]
      rfl) (fun fu i A hi hI => by
    show ∃ a', f_X11_all_116 M (nI (2 ^ N)) (fu + 1) (nI i) A = f_X11_all_116 M (nI (2 ^ N)) fu (nI (i + 1)) a' ∧ _
    have hb := WS_b (nd := nd) hN i
    rw [f_X11_all_116, if_neg (show ¬ nI (2 ^ N) ≤ nI i from (by simp (disch := omega) only [fa_lt, fa_le, fa_eq, nI_toInt, Int32.reduceToInt, im1] <;> omega)), if_pos (iblt (show i < 1024 by omega) (by decide)), nI_clamp (by omega), hI i hi, PQ_done (Nat.le_refl i), nI_1]
    by_cases c : WS nd N i = 0
    · rw [if_pos ((lg_cmp_eq _ _).mpr (by rw [c]; rfl))]
      exact ⟨A, rfl, fun S hS => by rw [PQ_step, PR_zero c, Nat.add_zero]; exact hI S hS⟩
    · rw [if_neg (show ¬ lg_cmp (lN (WS nd N i)) 0 = 0 from fun w => c ((fb_lN_inj (b := 0) (by omega) (by decide)).mp ((lg_cmp_eq _ _).mp w)))]
      obtain ⟨B, b1, b2⟩ := inner_m (K := fun L_57 => f_X11_all_116 M (nI (2 ^ N)) fu (nI (i + 1)) L_57) (x3 := nI (2 ^ N)) hN h5 hi h22 hd hnn hI
      exact ⟨B, b1, b2⟩) (fun fu A hI => by
    show f_X11_all_116 M (nI (2 ^ N)) (fu + 1) (nI (2 ^ N)) A = some (A (2 ^ N - 1), M, A)
    rw [f_X11_all_116, if_pos (show nI (2 ^ N) ≤ nI (2 ^ N) from (by simp (disch := omega) only [fa_lt, fa_le, fa_eq, nI_toInt, Int32.reduceToInt, im1] <;> omega)), show nI (2 ^ N) - 1 = nI (2 ^ N - 1) from pk_sub (b := 1) hp, if_pos (iblt (show 2 ^ N - 1 < 1024 by omega) (by decide)), nI_clamp (by omega)]) (by omega)
  refine ⟨A, ?_⟩
  have a1 : f_X11_all_116 M (nI (2 ^ N)) FU 0 L = some (A (2 ^ N - 1), M, A) := a1
  rw [a1, a2 _ (by omega), PQ_done (by omega)]
