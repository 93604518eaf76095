theorem act_ok {M : Mem} {p t : Nat} {h : Int32} (hp : p < 5) (ht : t < 4) : f_X0_act M (nI p) h (nI t) = some (if M 10 t = 0 then upd2 (upd2 (upd2 (upd2 M 11 t h) 12 t (nI p)) 10 t (M 10 t + 1)) (70 + t) p (M (70 + t) p + 1) else upd2 (upd2 M 10 t (M 10 t + 1)) (70 + t) p (M (70 + t) p + 1)) := by
  unfold f_X0_act
  simp (disch := omega) only [if_pos (iblt ht (by decide)), if_pos (iblt hp (by decide)), nI_clamp, u2n]
  by_cases c : M 10 t = 0
  · rw [if_pos c, if_pos c]
  · rw [if_neg c, if_neg c]
/-- the counts behind k things -/
def DQ (A : Mem) (e : ET) (s : CS) (a : Nat → Bool) (p h k : Nat) : Prop := (∀ t q, t < 4 → q < e.1 → A (70 + t) q = nI (if t < k ∧ q = p ∧ a t = true then s.2.2.1 q t + 1 else s.2.2.1 q t)) ∧ ∀ t, t < 4 → A 10 t = nI (if t < k ∧ a t = true then s.2.2.2.1 t + 1 else s.2.2.2.1 t) ∧ A 11 t = hv (if t < k ∧ a t = true ∧ s.2.2.2.1 t = 0 then h else s.2.2.2.2.1 t) ∧ A 12 t = hv (if t < k ∧ a t = true ∧ s.2.2.2.1 t = 0 then p else s.2.2.2.2.2 t)
theorem hv_n {v : Nat} (h : v < 99) : hv v = nI v := by
  unfold hv
  rw [if_neg (by omega)]
theorem if_lt {α : Sort _} {k t : Nat} {P : Prop} [Decidable P] {a b : α} (h : t ≠ k) : (if t < k + 1 ∧ P then a else b) = if t < k ∧ P then a else b := by
  by_cases c : t < k ∧ P
  · rw [if_pos c, if_pos ⟨by omega, c.2⟩]
  · rw [if_neg c, if_neg (fun q => c ⟨by omega, q.2⟩)]
theorem if_at {α : Sort _} {k : Nat} {P : Prop} [Decidable P] {a b : α} : (if k < k + 1 ∧ P then a else b) = if P then a else b := by
  by_cases c : P
  · rw [if_pos c, if_pos ⟨Nat.lt_succ_self k, c⟩]
  · rw [if_neg c, if_neg (fun q => c q.2)]
theorem if_no {α : Sort _} {k : Nat} {P : Prop} [Decidable P] {a b : α} : (if k < k ∧ P then a else b) = b := if_neg (fun q => Nat.lt_irrefl _ q.1)
theorem DQ.cg {A B : Mem} {e : ET} {s : CS} {a : Nat → Bool} {p h k : Nat} (H : DQ A e s a p h k) (h1 : ∀ c, 10 ≤ c ∧ c < 13 → B c = A c) (h2 : ∀ c, 70 ≤ c ∧ c < 74 → B c = A c) : DQ B e s a p h k := by
  refine ⟨fun t q ht hq => ?_, fun t ht => ?_⟩
  · rw [h2 (70 + t) (by omega)]
    exact H.1 t q ht hq
  · rw [h1 10 (by omega), h1 11 (by omega), h1 12 (by omega)]
    exact H.2 t ht
theorem DQ.no {A : Mem} {e : ET} {s : CS} {a : Nat → Bool} {p h k : Nat} (H : DQ A e s a p h k) (ha : a k = false) : DQ A e s a p h (k + 1) := by
  refine ⟨fun t q ht hq => ?_, fun t ht => ?_⟩
  · rw [H.1 t q ht hq]
    by_cases c : t = k
    · subst c
      rw [if_at, if_no, if_neg (fun q => by rw [ha] at q; exact absurd q.2 (by decide))]
    · rw [if_lt c]
  · obtain ⟨q1, q2, q3⟩ := H.2 t ht
    rw [q1, q2, q3]
    by_cases c : t = k
    · subst c
      rw [if_at, if_no, if_at, if_no, if_at, if_no, ha]
      simp
    · rw [if_lt c, if_lt c, if_lt c]
      exact ⟨rfl, rfl, rfl⟩
theorem DQ.yes {A : Mem} {e : ET} {s : CS} {a : Nat → Bool} {p h k : Nat} (H : DQ A e s a p h k) (ha : a k = true) (hk : k < 4) (hp : p < e.1) (p5 : e.1 ≤ 5) (hh : h < 99) (hb : s.2.2.2.1 k < 1000) : DQ (if A 10 k = 0 then upd2 (upd2 (upd2 (upd2 A 11 k (nI h)) 12 k (nI p)) 10 k (A 10 k + 1)) (70 + k) p (A (70 + k) p + 1) else upd2 (upd2 A 10 k (A 10 k + 1)) (70 + k) p (A (70 + k) p + 1)) e s a p h (k + 1) := by
  have g := H.2 k hk
  simp only [if_no] at g
  have gp := H.1 k p hk hp
  rw [if_no] at gp
  have main : ∀ B : Mem, (∀ c, c ≠ 70 + k → 70 ≤ c ∧ c < 74 → B c = A c) → (∀ q, q ≠ p → B (70 + k) q = A (70 + k) q) → B (70 + k) p = A (70 + k) p + 1 → (∀ c t, t ≠ k → 10 ≤ c ∧ c < 13 → B c t = A c t) → B 10 k = nI (s.2.2.2.1 k + 1) → B 11 k = hv (if s.2.2.2.1 k = 0 then h else s.2.2.2.2.1 k) → B 12 k = hv (if s.2.2.2.1 k = 0 then p else s.2.2.2.2.2 k) → DQ B e s a p h (k + 1) := by
    intro B b1 b2 b3 b4 b5 b6 b7
    refine ⟨fun t q ht hq => ?_, fun t ht => ?_⟩
    · by_cases c : t = k
      · subst c
        rw [if_at]
        by_cases cq : q = p
        · subst cq
          rw [b3, gp, if_pos ⟨rfl, ha⟩, nI_1]
        · rw [b2 q cq, H.1 t q ht hq, if_no, if_neg (fun w => cq w.1)]
      · rw [b1 (70 + t) (by omega) (by omega), if_lt c]
        exact H.1 t q ht hq
    · by_cases c : t = k
      · subst c
        rw [if_at, if_at, if_at, if_pos ha, b5, b6, b7]
        refine ⟨rfl, ?_, ?_⟩
        · by_cases cz : s.2.2.2.1 t = 0
          · rw [if_pos cz, if_pos ⟨ha, cz⟩]
          · rw [if_neg cz, if_neg (fun w => cz w.2)]
        · by_cases cz : s.2.2.2.1 t = 0
          · rw [if_pos cz, if_pos ⟨ha, cz⟩]
          · rw [if_neg cz, if_neg (fun w => cz w.2)]
      · rw [b4 10 t c (by omega), b4 11 t c (by omega), b4 12 t c (by omega), if_lt c, if_lt c, if_lt c]
        exact H.2 t ht
  by_cases cz : s.2.2.2.1 k = 0
  · rw [if_pos (show A 10 k = 0 by rw [g.1, cz]; rfl)]
    refine main _ (fun c h1 h2 => by simp (disch := omega) only [u2n]) (fun q hq => by simp (disch := omega) only [u2n, u2t]) u2s (fun c t h1 h2 => by simp (disch := omega) only [u2n, u2q]) ?_ ?_ ?_
    · simp (disch := omega) only [u2n, u2s]
      rw [g.1, nI_1]
    · simp (disch := omega) only [u2n, u2s]
      rw [if_pos cz, hv_n hh]
    · simp (disch := omega) only [u2n, u2s]
      rw [if_pos cz, hv_n (by omega)]
  · rw [if_neg (show ¬ A 10 k = 0 by rw [g.1]; exact (by simp (disch := omega) only [fa_lt, fa_le, fa_eq, nI_toInt, Int32.reduceToInt, im1] <;> omega))]
    refine main _ (fun c h1 h2 => by simp (disch := omega) only [u2n]) (fun q hq => by simp (disch := omega) only [u2n, u2t]) u2s (fun c t h1 h2 => by simp (disch := omega) only [u2n, u2q]) ?_ ?_ ?_
    · simp (disch := omega) only [u2n, u2s]
      rw [g.1, nI_1]
    · simp (disch := omega) only [u2n]
      rw [if_neg cz]
      exact g.2.1
    · simp (disch := omega) only [u2n]
      rw [if_neg cz]
      exact g.2.2
/-- what a person's doing does not touch -/
def vfr (c : Nat) : Prop := c ≠ 17 ∧ c ≠ 18 ∧ ¬ (10 ≤ c ∧ c < 13) ∧ ¬ (70 ≤ c ∧ c < 74)
theorem do_ok {B : Mem} {e : ET} {ru p h : Nat} {s : CS} {r : Nat → Nat} {rd : Int32} {k : Mem → Option Mem} (ok : Eok e) (hB : XE B e ru) (hp : p < e.1) (hh : h < 48) (h75 : ∀ t, t < 4 → B (75 + p) t = nI (sumS e asS r t) ∧ B (80 + p) t = nI (sumS e teS r t)) (h17 : B 17 2 = nI h ∧ B 17 3 = nI p ∧ B 17 4 = nI (e.2.2.1 4 p)) (hb : ∀ t, t < 4 → s.2.2.2.1 t < 1000) (hD : DQ B e s (fun t => actB e r p h t) p h 0) : ∃ Y, f_X0_visit_66 (nI p) (nI h) rd k FU 0 B = k Y ∧ (∀ c, vfr c → Y c = B c) ∧ (Y 17 2 = nI h ∧ Y 17 3 = nI p ∧ Y 17 4 = nI (e.2.2.1 4 p)) ∧ DQ Y e s (fun t => actB e r p h t) p h 4 := by
  have p5 := ok.1
  refine lp0 (F := fun fu x A => f_X0_visit_66 (nI p) (nI h) rd k fu x A) (a := B) k 4 (fun q A => (∀ c, vfr c → A c = B c) ∧ (A 17 2 = nI h ∧ A 17 3 = nI p ∧ A 17 4 = nI (e.2.2.1 4 p)) ∧ DQ A e s (fun t => actB e r p h t) p h q) ⟨fun _ _ => rfl, h17, hD⟩ (fun fu q A hq hI => ?_) (fun fu A hI => ?_) (by decide)
  · obtain ⟨f0, f1, f2⟩ := hI
    have hA : XE A e ru := hB.cg ok (by rw [f0 1 (by unfold vfr; omega)]) (by rw [f0 1 (by unfold vfr; omega)]) (by rw [f0 1 (by unfold vfr; omega)]) (fun c hc => f0 c (by unfold vfr; omega))
    obtain ⟨Z, z1, z2, z3, z4, z5⟩ := says_ok (j := 0) (a := nI (sumS e asS r q)) (b := nI (sumS e teS r q)) (t := nI q) hA (by decide)
    rw [f1.1, f1.2.1, f1.2.2] at z1
    have hact : actB e r p h q = decide (e.2.2.2 0 (fc (nI (sumS e asS r q)) (nI (sumS e teS r q)) (nI h) (nI p) (nI (e.2.2.1 4 p)) (nI q)) ≠ 0) := rfl
    have hrow : f_X0_visit_66 (nI p) (nI h) rd k (fu + 1) (nI q) A = if e.2.2.2 0 (fc (nI (sumS e asS r q)) (nI (sumS e teS r q)) (nI h) (nI p) (nI (e.2.2.1 4 p)) (nI q)) = 0 then f_X0_visit_66 (nI p) (nI h) rd k fu (nI (q + 1)) Z else Option.bind (f_X0_act Z (nI p) (nI h) (nI q)) fun r_22 => f_X0_visit_66 (nI p) (nI h) rd k fu (nI (q + 1)) r_22 := by
      rw [f_X0_visit_66, if_neg (show ¬ 4 ≤ nI q from (by simp (disch := omega) only [fa_lt, fa_le, fa_eq, nI_toInt, Int32.reduceToInt, im1] <;> omega))]
      simp only [if_pos (iblt hq (by decide)), if_pos (iblt (show p < 5 by omega) (by decide)), nI_clamp (show p < 2 ^ 31 by omega), nI_clamp (show q < 2 ^ 31 by omega), f0 (75 + p) (by unfold vfr; omega), f0 (80 + p) (by unfold vfr; omega), (h75 q hq).1, (h75 q hq).2, nI_1]
      rw [show f_X0_says A 0 (nI (sumS e asS r q)) (nI (sumS e teS r q)) (nI q) = _ from z1, Option.bind_some]
    have hZ : DQ Z e s (fun t => actB e r p h t) p h q := f2.cg (fun c hc => z2 c (by omega) (by omega)) (fun c hc => z2 c (by omega) (by omega))
    have hZf : ∀ c, vfr c → Z c = B c := fun c hc => (z2 c hc.1 hc.2.1).trans (f0 c hc)
    by_cases c : e.2.2.2 0 (fc (nI (sumS e asS r q)) (nI (sumS e teS r q)) (nI h) (nI p) (nI (e.2.2.1 4 p)) (nI q)) = 0
    · refine ⟨Z, ?_, hZf, ⟨z3.trans f1.1, z4.trans f1.2.1, z5.trans f1.2.2⟩, hZ.no (by rw [hact]; exact decide_eq_false (fun w => w c))⟩
      show f_X0_visit_66 (nI p) (nI h) rd k (fu + 1) (nI q) A = _
      rw [hrow, if_pos c]
    · refine ⟨_, ?_, ?_, ?_, hZ.yes (show actB e r p h q = true by rw [hact]; exact decide_eq_true c) hq hp p5 (by omega) (hb q hq)⟩
      · show f_X0_visit_66 (nI p) (nI h) rd k (fu + 1) (nI q) A = _
        rw [hrow, if_neg c, act_ok (by omega) hq, Option.bind_some]
      · intro c hc
        have hc2 := hc
        unfold vfr at hc2
        rw [← hZf c hc]
        by_cases cz : Z 10 q = 0
        · rw [if_pos cz, u2n (by omega), u2n (by omega), u2n (by omega), u2n (by omega)]
        · rw [if_neg cz, u2n (by omega), u2n (by omega)]
      · by_cases cz : Z 10 q = 0
        · rw [if_pos cz, u2n (by omega), u2n (by omega), u2n (by omega), u2n (by omega)]
          exact ⟨z3.trans f1.1, z4.trans f1.2.1, z5.trans f1.2.2⟩
        · rw [if_neg cz, u2n (by omega), u2n (by omega)]
          exact ⟨z3.trans f1.1, z4.trans f1.2.1, z5.trans f1.2.2⟩
  · show f_X0_visit_66 (nI p) (nI h) rd k (fu + 1) (nI 4) A = _
    rw [f_X0_visit_66, if_pos (show 4 ≤ nI 4 by decide)]
