/-! closures of a note, and prefixes of orders -/
def SB (S T : Nat) : Prop := ∀ i, S.testBit i = true → T.testBit i = true
theorem pc_sub {S T : Nat} (h : SB S T) : pcS S ≤ pcS T := fb_ct_sub (fun k _ => h k)
theorem pc_lt {S T i : Nat} (h : SB S T) (hi : i < 10) (h1 : T.testBit i = true) (h2 : S.testBit i = false) : pcS S < pcS T := by
  have e := pc_rm hi h1
  have : SB S (T ^^^ 2 ^ i) := fun j hj => by
    rw [rm_b h1, h j hj]
    by_cases c : j = i
    · rw [c, h2] at hj
      exact absurd hj (by decide)
    · simp [c]
  have := pc_sub this
  omega
theorem SB.eq {S T : Nat} (h : SB S T) (h2 : SB T S) : S = T := Nat.eq_of_testBit_eq (fun i => Bool.eq_iff_iff.mpr ⟨h i, h2 i⟩)
def stp (u v : Nat → Nat) (S : Nat) : Nat → Nat
  | 0 => S
  | k + 1 => if (stp u v S k).testBit (u k) = true then stp u v S k ||| 2 ^ v k else stp u v S k
def rnd (u v : Nat → Nat) (nm n : Nat) : Nat → Nat
  | 0 => 2 ^ n
  | t + 1 => stp u v (rnd u v nm n t) nm
def Cl (u v : Nat → Nat) (nm C : Nat) : Prop := ∀ m, m < nm → C.testBit (u m) = true → C.testBit (v m) = true
theorem stp_mono (u v : Nat → Nat) (S : Nat) : ∀ k r, SB (stp u v S k) (stp u v S (k + r)) := by
  intro k r
  induction r with
  | zero => exact fun _ h => h
  | succ r ih =>
    intro i hi
    have := ih i hi
    rw [← Nat.add_assoc, stp]
    split
    · rw [fb_bit_set, this]
      rfl
    · exact this
theorem stp_in {u v : Nat → Nat} {nm S C : Nat} (hC : Cl u v nm C) (hS : SB S C) : ∀ k, k ≤ nm → SB (stp u v S k) C := by
  intro k
  induction k with
  | zero => intro _; exact hS
  | succ k ih =>
    intro hk i hi
    have h := ih (by omega)
    rw [stp] at hi
    split at hi
    · rename_i c
      rw [fb_bit_set, Bool.or_eq_true, decide_eq_true_eq] at hi
      rcases hi with w | w
      · exact h i w
      · rw [w]
        exact hC k (by omega) (h _ c)
    · exact h i hi
theorem stp_add {u v : Nat → Nat} {nm S m : Nat} (hm : m < nm) (h : S.testBit (u m) = true) : (stp u v S nm).testBit (v m) = true := by
  have h1 := stp_mono u v S 0 m (u m) h
  rw [Nat.zero_add] at h1
  have h2 : (stp u v S (m + 1)).testBit (v m) = true := by
    rw [stp, if_pos h1, fb_bit_set, decide_eq_true rfl, Bool.or_true]
  have h3 := stp_mono u v S (m + 1) (nm - (m + 1)) (v m) h2
  rw [show m + 1 + (nm - (m + 1)) = nm by omega] at h3
  exact h3
theorem stp_lt {u v : Nat → Nat} {nm S N : Nat} (hv : ∀ m, m < nm → v m < N) (hS : S < 2 ^ N) : ∀ k, k ≤ nm → stp u v S k < 2 ^ N := by
  intro k
  induction k with
  | zero => intro _; exact hS
  | succ k ih =>
    intro hk
    have h := ih (by omega)
    rw [stp]
    split
    · exact ad_lt h (hv k (by omega))
    · exact h
theorem rnd_lt {u v : Nat → Nat} {nm n N : Nat} (hv : ∀ m, m < nm → v m < N) (hn : n < N) : ∀ t, rnd u v nm n t < 2 ^ N := by
  intro t
  induction t with
  | zero => exact Nat.pow_lt_pow_right (by decide) hn
  | succ t ih => exact stp_lt hv ih nm (Nat.le_refl _)
theorem rnd_self (u v : Nat → Nat) (nm n : Nat) : ∀ t, (rnd u v nm n t).testBit n = true := by
  intro t
  induction t with
  | zero => exact Nat.testBit_two_pow_self
  | succ t ih =>
    have := stp_mono u v (rnd u v nm n t) 0 nm n ih
    rw [Nat.zero_add] at this
    exact this
theorem rnd_in {u v : Nat → Nat} {nm n C : Nat} (hC : Cl u v nm C) (hn : C.testBit n = true) : ∀ t, SB (rnd u v nm n t) C := by
  intro t
  induction t with
  | zero =>
    intro i hi
    have hi : (2 ^ n).testBit i = true := hi
    rw [Nat.testBit_two_pow, decide_eq_true_eq] at hi
    rw [← hi]
    exact hn
  | succ t ih => exact stp_in hC ih nm (Nat.le_refl _)
theorem pc_le {S N : Nat} (hN : N ≤ 10) (hS : S < 2 ^ N) : pcS S ≤ N := by
  have h1 : pcS S ≤ fb_ct (fun i => decide (i < N)) 10 := fb_ct_sub (fun k _ hk => decide_eq_true (bit_lt hS hk))
  have h2 : ∀ N, N < 11 → fb_ct (fun i => decide (i < N)) 10 = N := by decide
  rw [h2 N (by omega)] at h1
  exact h1
theorem rnd_cl {u v : Nat → Nat} {nm n N : Nat} (hN : N ≤ 10) (hv : ∀ m, m < nm → v m < N) (hn : n < N) : ∀ t, Cl u v nm (rnd u v nm n t) ∨ t + 1 ≤ pcS (rnd u v nm n t) := by
  intro t
  induction t with
  | zero =>
    refine Or.inr ?_
    have h : SB 0 (2 ^ n) := fun i hi => by rw [Nat.zero_testBit] at hi; exact absurd hi (by decide)
    have := pc_lt h (show n < 10 by omega) Nat.testBit_two_pow_self (Nat.zero_testBit n)
    show 1 ≤ pcS (2 ^ n)
    omega
  | succ t ih =>
    have hm : SB (rnd u v nm n t) (rnd u v nm n (t + 1)) := by
      have := stp_mono u v (rnd u v nm n t) 0 nm
      rw [Nat.zero_add] at this
      exact this
    by_cases c : Cl u v nm (rnd u v nm n t)
    · left
      have : rnd u v nm n (t + 1) = rnd u v nm n t := SB.eq (stp_in c (fun _ h => h) nm (Nat.le_refl _)) hm
      rw [this]
      exact c
    · right
      have h1 := ih.resolve_left c
      have : ∃ m, m < nm ∧ (rnd u v nm n t).testBit (u m) = true ∧ ¬ (rnd u v nm n t).testBit (v m) = true := by
        apply Classical.byContradiction
        intro w
        apply c
        intro m hm2 hu
        apply Classical.byContradiction
        intro w2
        exact w ⟨m, hm2, hu, w2⟩
      obtain ⟨m, q1, q2, q3⟩ := this
      have := pc_lt hm (show v m < 10 by have := hv m q1; omega) (stp_add q1 q2) (ts_nt q3)
      omega
theorem rnd_done {u v : Nat → Nat} {nm n N : Nat} (hN : N ≤ 10) (hv : ∀ m, m < nm → v m < N) (hn : n < N) : Cl u v nm (rnd u v nm n N) := by
  rcases rnd_cl hN hv hn N with h | h
  · exact h
  · have := pc_le hN (rnd_lt (u := u) hv hn N)
    omega
/-- nothing that must be ahead of one in S is out of it -/
def Dn (nd : Nat → Nat → Bool) (S : Nat) : Prop := ∀ i j, S.testBit i = true → nd i j = true → S.testBit j = true
theorem WS_ex {nd : Nat → Nat → Bool} {N S : Nat} (h0 : S ≠ 0) (h : 0 < WS nd N S) : ∃ n, n < N ∧ cnB nd S n = true ∧ 0 < WS nd N (S ^^^ 2 ^ n) := by
  apply Classical.byContradiction
  intro w
  rw [WS_s h0, fb_sm_cong (g := fun _ => 0) (fun n hn => by
    by_cases c : cnB nd S n = true
    · rw [if_pos c]
      apply Classical.byContradiction
      intro q
      exact w ⟨n, hn, c, by omega⟩
    · rw [if_neg c]), fb_sm_const] at h
  omega
theorem WS_pos {nd : Nat → Nat → Bool} {N S n : Nat} (hn : n < N) (h : cnB nd S n = true) (h2 : 0 < WS nd N (S ^^^ 2 ^ n)) : 0 < WS nd N S := by
  have h0 : S ≠ 0 := fun w => by
    have := cnB_t h
    rw [w, Nat.zero_testBit] at this
    exact absurd this (by decide)
  rw [WS_s h0]
  have := fb_sm_part (fun n => if cnB nd S n = true then WS nd N (S ^^^ 2 ^ n) else 0) hn
  simp only [if_pos h] at this
  omega
theorem cnB_ok {nd : Nat → Nat → Bool} {S n : Nat} (h : cnB nd S n = true) : okB nd S n = true := by
  unfold cnB at h
  rw [Bool.and_eq_true] at h
  exact h.2
theorem WS_dn {nd : Nat → Nat → Bool} {N : Nat} (hd : ∀ n m, nd n m = true → m < 10) : ∀ f S, S < f → 0 < WS nd N S → Dn nd S := by
  intro f
  induction f with
  | zero => intro S h; omega
  | succ f ih =>
    intro S hS hW
    by_cases c : S = 0
    · subst c
      intro i j hi
      rw [Nat.zero_testBit] at hi
      exact absurd hi (by decide)
    · obtain ⟨n, h1, h2, h3⟩ := WS_ex c hW
      have hb := cnB_t h2
      have := ih _ (by have := rm_lt hb; omega) h3
      intro i j hi hnd
      by_cases ci : i = n
      · rw [ci] at hnd
        exact okB_iff.mp (cnB_ok h2) j (hd n j hnd) hnd
      · have := this i j (by rw [rm_b hb, hi]; simp [ci]) hnd
        rw [rm_b hb, Bool.and_eq_true] at this
        exact this.1
theorem WS_meet {nd : Nat → Nat → Bool} {N S : Nat} (hS : Dn nd S) : ∀ f T, T < f → 0 < WS nd N T → 0 < WS nd N (S &&& T) := by
  intro f
  induction f with
  | zero => intro T h; omega
  | succ f ih =>
    intro T hT hW
    by_cases c : T = 0
    · subst c
      rw [Nat.and_zero, WS_0]
      exact Nat.one_pos
    · obtain ⟨n, h1, h2, h3⟩ := WS_ex c hW
      have hb := cnB_t h2
      have hi := ih _ (by have := rm_lt hb; omega) h3
      by_cases cn : S.testBit n = true
      · have hU : (S &&& T).testBit n = true := by rw [Nat.testBit_and, cn, hb]; rfl
        have e : (S &&& T) ^^^ 2 ^ n = S &&& (T ^^^ 2 ^ n) := by
          apply Nat.eq_of_testBit_eq
          intro i
          rw [rm_b hU, Nat.testBit_and, Nat.testBit_and, rm_b hb, Bool.and_assoc]
        refine WS_pos h1 ?_ (by rw [e]; exact hi)
        unfold cnB
        rw [hU, Bool.true_and, okB_iff]
        intro m hm hnd
        rw [Nat.testBit_and, hS n m cn hnd, okB_iff.mp (cnB_ok h2) m hm hnd]
        rfl
      · have e : S &&& T = S &&& (T ^^^ 2 ^ n) := by
          apply Nat.eq_of_testBit_eq
          intro i
          rw [Nat.testBit_and, Nat.testBit_and, rm_b hb]
          by_cases ci : i = n
          · rw [ci, ts_nt cn]
            rfl
          · simp [ci]
        rw [e]
        exact hi
theorem WS_of {nd : Nat → Nat → Bool} {N S : Nat} (hS : Dn nd S) (hlt : S < 2 ^ N) (hW : 0 < WS nd N (2 ^ N - 1)) : 0 < WS nd N S := by
  have := WS_meet hS (2 ^ N) (2 ^ N - 1) (by have := Nat.two_pow_pos N; omega) hW
  have e : S &&& (2 ^ N - 1) = S := by
    apply Nat.eq_of_testBit_eq
    intro i
    rw [Nat.testBit_and, Nat.testBit_two_pow_sub_one]
    cases h : S.testBit i
    · rfl
    · rw [decide_eq_true (bit_lt hlt h)]
      rfl
  rw [e] at this
  exact this
/-- a prefix behind which n can come next -/
def Qn (nd : Nat → Nat → Bool) (N n S : Nat) : Prop := 0 < WS nd N S ∧ S.testBit n = false ∧ okB nd S n = true
theorem Q_ex {nd : Nat → Nat → Bool} {N n : Nat} (hd : ∀ n m, nd n m = true → m < 10) (hnn : nd n n = false) : ∀ f T, T < f → T < 2 ^ N → 0 < WS nd N T → T.testBit n = true → ∃ S, S < 2 ^ N ∧ Qn nd N n S := by
  intro f
  induction f with
  | zero => intro T h; omega
  | succ f ih =>
    intro T hT hN hW hn
    have c : T ≠ 0 := fun w => by
      rw [w, Nat.zero_testBit] at hn
      exact absurd hn (by decide)
    obtain ⟨k, h1, h2, h3⟩ := WS_ex c hW
    have hb := cnB_t h2
    have hl := rm_lt hb
    by_cases ck : n = k
    · subst ck
      refine ⟨T ^^^ 2 ^ n, by omega, h3, by rw [rm_b hb]; simp, okB_iff.mpr (fun m hm hnd => ?_)⟩
      rw [rm_b hb, okB_iff.mp (cnB_ok h2) m hm hnd]
      by_cases cm : m = n
      · rw [cm, hnn] at hnd
        exact absurd hnd (by decide)
      · simp [cm]
    · exact ih _ (by omega) (by omega) h3 (by rw [rm_b hb, hn]; simp [ck])
