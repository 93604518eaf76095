/-! sets of notes; in how many orders a set can come first -/
theorem bt_nI {S i : Nat} (hi : i < 32) : bt (nI S) i = S.testBit i := by
  unfold bt
  show (BitVec.ofNat 32 S).getLsbD i = _
  rw [BitVec.getLsbD_ofNat, decide_eq_true hi, Bool.true_and]
theorem rm_b {S n : Nat} (h : S.testBit n = true) (i : Nat) : (S ^^^ 2 ^ n).testBit i = (S.testBit i && !decide (i = n)) := by
  rw [fb_bit_flip]
  by_cases c : i = n
  · subst c
    rw [h]
    simp
  · simp [c]
theorem rm_lt {S n : Nat} (h : S.testBit n = true) : S ^^^ 2 ^ n < S := by
  have e : S ^^^ 2 ^ n = S &&& (S ^^^ 2 ^ n) := by
    apply Nat.eq_of_testBit_eq
    intro i
    rw [Nat.testBit_and, rm_b h]
    cases S.testBit i <;> simp
  have h1 : S ^^^ 2 ^ n ≤ S := by
    rw [e]
    exact Nat.and_le_left
  have h2 : S ^^^ 2 ^ n ≠ S := fun w => by
    have := rm_b h n
    rw [w, h] at this
    simp at this
  omega
theorem rm_ad {S n : Nat} (h : S.testBit n = false) : (S ||| 2 ^ n) ^^^ 2 ^ n = S := by
  apply Nat.eq_of_testBit_eq
  intro i
  rw [fb_bit_flip, fb_bit_set]
  by_cases c : i = n
  · subst c
    simp [h]
  · simp [c]
theorem ad_rm {S n : Nat} (h : S.testBit n = true) : (S ^^^ 2 ^ n) ||| 2 ^ n = S := by
  apply Nat.eq_of_testBit_eq
  intro i
  rw [fb_bit_set, rm_b h]
  by_cases c : i = n
  · subst c
    simp [h]
  · simp [c]
theorem ad_lt {S n N : Nat} (hS : S < 2 ^ N) (hn : n < N) : S ||| 2 ^ n < 2 ^ N := by
  apply Nat.lt_pow_two_of_testBit
  intro i hi
  rw [fb_bit_set, Nat.testBit_lt_two_pow (Nat.lt_of_lt_of_le hS (Nat.pow_le_pow_right (by decide) hi)), decide_eq_false (by omega)]
  rfl
theorem bit_lt {S N i : Nat} (hS : S < 2 ^ N) (h : S.testBit i = true) : i < N := by
  rcases Nat.lt_or_ge i N with w | w
  · exact w
  · rw [Nat.testBit_lt_two_pow (Nat.lt_of_lt_of_le hS (Nat.pow_le_pow_right (by decide) w))] at h
    exact absurd h (by decide)
theorem p1024 {N : Nat} (h : N ≤ 10) : 2 ^ N ≤ 1024 := Nat.pow_le_pow_right (by decide) h
/-- all that must be ahead of n is in S -/
def okB (nd : Nat → Nat → Bool) (S n : Nat) : Bool := (List.range 10).all fun m => !nd n m || S.testBit m
theorem okB_iff {nd : Nat → Nat → Bool} {S n : Nat} : okB nd S n = true ↔ ∀ m, m < 10 → nd n m = true → S.testBit m = true := by
  unfold okB
  rw [List.all_eq_true]
  constructor
  · intro h m hm hn
    have := h m (List.mem_range.mpr hm)
    rw [hn] at this
    simpa using this
  · intro h m hm
    have := h m (List.mem_range.mp hm)
    cases hn : nd n m
    · rfl
    · rw [this hn]
      rfl
/-- n can be the last of S -/
def cnB (nd : Nat → Nat → Bool) (S n : Nat) : Bool := S.testBit n && okB nd S n
def Wf (nd : Nat → Nat → Bool) (N : Nat) : Nat → Nat → Nat
  | 0, _ => 0
  | f + 1, S => if S = 0 then 1 else fb_sm (fun n => if cnB nd S n = true then Wf nd N f (S ^^^ 2 ^ n) else 0) N
theorem cnB_t {nd : Nat → Nat → Bool} {S n : Nat} (h : cnB nd S n = true) : S.testBit n = true := by
  unfold cnB at h
  rw [Bool.and_eq_true] at h
  exact h.1
theorem Wf_fuel {nd : Nat → Nat → Bool} {N : Nat} : ∀ f g S, S < f → S < g → Wf nd N f S = Wf nd N g S := by
  intro f
  induction f with
  | zero => intro g S h; omega
  | succ f ih =>
    intro g S h1 h2
    obtain ⟨k, rfl⟩ : ∃ k, g = k + 1 := ⟨g - 1, by omega⟩
    rw [Wf, Wf]
    by_cases c : S = 0
    · rw [if_pos c, if_pos c]
    · rw [if_neg c, if_neg c]
      apply fb_sm_cong
      intro n _
      by_cases h : cnB nd S n = true
      · rw [if_pos h, if_pos h]
        have := rm_lt (cnB_t h)
        exact ih k _ (by omega) (by omega)
      · rw [if_neg h, if_neg h]
def WS (nd : Nat → Nat → Bool) (N S : Nat) : Nat := Wf nd N (S + 1) S
theorem WS_0 (nd : Nat → Nat → Bool) (N : Nat) : WS nd N 0 = 1 := rfl
theorem WS_s {nd : Nat → Nat → Bool} {N S : Nat} (h : S ≠ 0) : WS nd N S = fb_sm (fun n => if cnB nd S n = true then WS nd N (S ^^^ 2 ^ n) else 0) N := by
  unfold WS
  rw [Wf, if_neg h]
  apply fb_sm_cong
  intro n _
  by_cases c : cnB nd S n = true
  · rw [if_pos c, if_pos c]
    have := rm_lt (cnB_t c)
    exact Wf_fuel _ _ _ (by omega) (by omega)
  · rw [if_neg c, if_neg c]
def pcS (S : Nat) : Nat := fb_ct (fun i => S.testBit i) 10
theorem pc_rm {S n : Nat} (hn : n < 10) (h : S.testBit n = true) : pcS (S ^^^ 2 ^ n) + 1 = pcS S := by
  unfold pcS
  have := fb_ct_upd (fun i => S.testBit i) false hn
  simp only [h, if_true] at this
  rw [← show fb_ct (fun k => if k = n then false else S.testBit k) 10 = fb_ct (fun i => (S ^^^ 2 ^ n).testBit i) 10 from fb_ct_cong (fun k _ => by
    rw [rm_b h]
    by_cases c : k = n
    · simp [c]
    · simp [c])]
  simpa using this
theorem sm_ct (p : Nat → Bool) (K : Nat) : ∀ n, fb_sm (fun k => if p k = true then K else 0) n = fb_ct p n * K := by
  intro n
  induction n with
  | zero => exact (Nat.zero_mul K).symm
  | succ n ih =>
    rw [fb_sm_succ, fb_ct_succ, ih, Nat.add_mul]
    congr 1
    by_cases c : p n = true
    · rw [if_pos c, if_pos c, Nat.one_mul]
    · rw [if_neg c, if_neg c, Nat.zero_mul]
def fct : Nat → Nat
  | 0 => 1
  | n + 1 => (n + 1) * fct n
theorem fct_le : ∀ k, k < 11 → fct k ≤ 3628800 := by decide
theorem WS_fct {nd : Nat → Nat → Bool} {N : Nat} (hN : N ≤ 10) : ∀ f S, S < f → WS nd N S ≤ fct (pcS S) := by
  intro f
  induction f with
  | zero => intro S h; omega
  | succ f ih =>
    intro S hS
    by_cases c : S = 0
    · subst c
      rw [WS_0]
      show 1 ≤ fct (fb_ct (fun i => (0 : Nat).testBit i) 10)
      rw [show fb_ct (fun i => (0 : Nat).testBit i) 10 = 0 from fb_ct_zero.mpr (fun k _ => Nat.zero_testBit k)]
      exact Nat.le_refl _
    · rw [WS_s c]
      have h1 : fb_sm (fun n => if cnB nd S n = true then WS nd N (S ^^^ 2 ^ n) else 0) N ≤ fb_sm (fun n => if S.testBit n = true then fct (pcS S - 1) else 0) N := fb_sm_le (fun n hn => by
        by_cases h : cnB nd S n = true
        · have hb := cnB_t h
          rw [if_pos h, if_pos hb]
          have := ih (S ^^^ 2 ^ n) (by have := rm_lt hb; omega)
          have e := pc_rm (show n < 10 by omega) hb
          rw [show pcS (S ^^^ 2 ^ n) = pcS S - 1 by omega] at this
          exact this
        · rw [if_neg h]
          exact Nat.zero_le _)
      have h2 := fb_sm_mono (fun n => if S.testBit n = true then fct (pcS S - 1) else 0) N (10 - N)
      rw [show N + (10 - N) = 10 by omega, sm_ct (fun n => S.testBit n) (fct (pcS S - 1)) 10] at h2
      have h3 : fb_ct (fun n => S.testBit n) 10 = pcS S := rfl
      rw [h3] at h2
      cases hp : pcS S with
      | zero =>
        rw [hp] at h1 h2
        rw [Nat.zero_mul] at h2
        have : fct 0 = 1 := rfl
        omega
      | succ k =>
        rw [hp] at h1 h2
        rw [Nat.add_sub_cancel] at h1 h2
        show _ ≤ (k + 1) * fct k
        omega
theorem WS_b {nd : Nat → Nat → Bool} {N : Nat} (hN : N ≤ 10) (S : Nat) : WS nd N S ≤ 3628800 := by
  have h1 := WS_fct (nd := nd) hN (S + 1) S (Nat.lt_succ_self S)
  have h2 : pcS S ≤ 10 := fb_ct_le _ 10
  have h3 := fct_le (pcS S) (by omega)
  omega
/-! the ints that stand for sets -/
theorem s_tst {S n : Nat} (hn : n < 32) : (nI S >>> (nI n &&& 31)) &&& 1 = 0 ↔ ¬ S.testBit n = true := by
  rw [tst0 hn, bt_nI hn, Bool.not_eq_true]
theorem s_tst1 {S n : Nat} (hn : n < 32) : (nI S >>> (nI n &&& 31)) &&& 1 = 1 ↔ S.testBit n = true := by
  rw [tst1 hn, bt_nI hn]
theorem s_rm {S n : Nat} (hn : n < 32) (h : S.testBit n = true) : nI S &&& (((1 : Int32) <<< (nI n &&& 31)) ^^^ (-1)) = nI (S ^^^ 2 ^ n) := by
  apply b_ext
  intro i hi
  rw [b_and, bt_not hi, bt_sh hn hi, bt_nI hi, bt_nI hi, rm_b h]
theorem s_ad {S n : Nat} (hn : n < 32) : nI S ||| ((1 : Int32) <<< (nI n &&& 31)) = nI (S ||| 2 ^ n) := by
  apply b_ext
  intro i hi
  rw [b_or, bt_sh hn hi, bt_nI hi, bt_nI hi, fb_bit_set]
theorem s_ok {nd : Nat → Nat → Bool} {S n : Nat} {b : Int32} (hb : ∀ m, m < 32 → bt b m = nd n m) (hd : ∀ m, nd n m = true → m < 10) : b &&& (nI S ^^^ (-1)) = 0 ↔ okB nd S n = true := by
  rw [okB_iff]
  constructor
  · intro h m hm hn
    have := congrArg (fun z => bt z m) h
    simp only [b_and, bt_not (show m < 32 by omega), hb m (by omega), hn, Bool.true_and, b_0, bt_nI (show m < 32 by omega)] at this
    simpa using this
  · intro h
    apply b_ext
    intro i hi
    rw [b_and, bt_not hi, hb i hi, bt_nI hi, b_0]
    cases hn : nd n i
    · rfl
    · rw [h i (hd i hn) hn]
      rfl
theorem p2I : ∀ N, N < 11 → (1 : Int32) <<< (nI N &&& 31) = nI (2 ^ N) := by decide +kernel
