theorem ME.fr {M Y : Mem} {e : ET} {ru : Nat} (h : ME M e ru) (hc : ∀ c, c < 14 → Y c = M c) : ME Y e ru := h.cg (by rw [hc 0 (by omega)]) (by rw [hc 0 (by omega)]) (by rw [hc 0 (by omega)]) (fun c q => hc c (by omega))
/-- the model's reading -/
def RQ (M A : Mem) (e : ET) (u : Nat → Nat) (s : CS) (p h k : Nat) (x : Int32) : Prop := (∀ i, i < 32 → bt x i = (decide (i < e.2.1) && jsA u (liB e s h) k e.2.1 i)) ∧ (∀ c, c ≠ 15 → A c = M c) ∧ (∀ n, n < e.2.1 → A 15 (10 * p + n) = hv (if jsA u (liB e s h) k e.2.1 n = true ∧ s.1 p n = 99 then h else s.1 p n)) ∧ ∀ j, (j < 10 * p ∨ 10 * p + 10 ≤ j) → A 15 j = M 15 j
theorem RQ.end {M A : Mem} {e : ET} {u : Nat → Nat} {s : CS} {p h k k2 : Nat} {x : Int32} (H : RQ M A e u s p h k x) (hS : SP e u) (hk : k ≤ k2) (hq : ∀ n, n < e.2.1 → (liB e s h n && !jsA u (liB e s h) k e.2.1 n) = false) : RQ M A e u s p h k2 x := by
  obtain ⟨a1, a2, a3, a4⟩ := H
  refine ⟨fun i hi => ?_, a2, fun n hn => ?_, a4⟩
  · rw [a1 i hi]
    by_cases c : i < e.2.1
    · rw [jsA_end hS hk hq c]
    · rw [decide_eq_false c]
      rfl
  · rw [a3 n hn, jsA_end hS hk hq hn]
theorem reads_ok {M : Mem} {e : ET} {u : Nat → Nat} {s : CS} {ru p h : Nat} {K : Int32 → Mem → Option Mem} (ok : Eok e) (hS : SP e u) (hM : ME M e ru) (hp : p < e.1) (hh : h < 48) (h20 : ∀ n, n < e.2.1 → M 20 n = hv (s.2.1 n)) (hBd : Bd s) : ∀ (r k fu : Nat) (x : Int32) (A : Mem), k + r = e.2.2.1 3 p → r < fu → RQ M A e u s p h k x → ∃ y B, f_X11_come_5 (nI p) (nI h) K K fu x (nI k) A = K y B ∧ RQ M B e u s p h (e.2.2.1 3 p) y := by
  have n10 := ok.2.1
  have p5 := ok.1
  have op := ok.2.2.1 p hp
  intro r
  induction r with
  | zero =>
    intro k fu x A hk hf hI
    obtain ⟨g, rfl⟩ : ∃ g, fu = g + 1 := ⟨fu - 1, by omega⟩
    have : k = e.2.2.1 3 p := by omega
    subst this
    refine ⟨x, A, ?_, hI⟩
    rw [f_X11_come_5, if_pos (iblt (show p < 5 by omega) (by decide)), nI_clamp (by omega), hI.2.1 3 (by decide), (hM.2.2.1 p hp).2.2.1, if_pos (show nI (e.2.2.1 3 p) ≤ nI (e.2.2.1 3 p) from (by simp (disch := omega) only [fa_lt, fa_le, fa_eq, nI_toInt, Int32.reduceToInt, im1] <;> omega))]
  | succ r ih =>
    intro k fu x A hk hf hI
    obtain ⟨g, rfl⟩ : ∃ g, fu = g + 1 := ⟨fu - 1, by omega⟩
    have hA : ME A e ru := hM.fr (fun c hc => hI.2.1 c (by omega))
    rw [f_X11_come_5, if_pos (iblt (show p < 5 by omega) (by decide)), nI_clamp (show p < 2 ^ 31 by omega), (hA.2.2.1 p hp).2.2.1, if_neg (show ¬ nI (e.2.2.1 3 p) ≤ nI k from (by simp (disch := omega) only [fa_lt, fa_le, fa_eq, nI_toInt, Int32.reduceToInt, im1] <;> omega))]
    generalize hkk : (fun x5_26 => (if x5_26 = (-1) then (K (x) A) else (if ibd (((10 * nI p) + x5_26)) 50 then (if (A 15 (Int32.toNatClampNeg (((10 * nI p) + x5_26)))) = (-1) then (if ibd (((10 * nI p) + x5_26)) 50 then (f_X11_come_5 (nI p) (nI h) K K g ((x ||| ((1 : Int32) <<< (x5_26 &&& 31)))) ((nI k + 1)) (upd2 A 15 (Int32.toNatClampNeg (((10 * nI p) + x5_26))) (nI h))) else none) else (f_X11_come_5 (nI p) (nI h) K K g ((x ||| ((1 : Int32) <<< (x5_26 &&& 31)))) ((nI k + 1)) A)) else none)) : Int32 → Option Mem) = kk
    obtain ⟨b, b1, b2⟩ := scan_ok (s := s) (J := jsA u (liB e s h) k e.2.1) (x1 := nI p) (x3 := x) (x4 := nI k) (k := kk) ok hA hh (fun n hn => by rw [hI.2.1 20 (by decide)]; exact h20 n hn) hBd.2.1 hI.1
    rw [b1, ← hkk]
    obtain ⟨i1, i2, i3, i4⟩ := hI
    rcases b2 with ⟨c1, c2⟩ | ⟨m, c1, c2, c3, c4⟩
    · subst c1
      refine ⟨x, A, ?_, RQ.end (k := k) ⟨i1, i2, i3, i4⟩ hS (by omega) c2⟩
      show (if (-1 : Int32) = -1 then K x A else _) = K x A
      rw [if_pos rfl]
    · subst c2
      have em : (10 : Int32) * nI p + nI m = nI (10 * p + m) := by rw [show (10 : Int32) * nI p = nI (10 * p) from pk_mul 10 p, nI_add]
      have hx : ∀ i, i < 32 → bt (x ||| ((1 : Int32) <<< (nI m &&& 31))) i = (decide (i < e.2.1) && jsA u (liB e s h) (k + 1) e.2.1 i) := by
        intro i hi
        rw [b_or, i1 i hi, bt_sh (by omega) hi]
        by_cases ci : i < e.2.1
        · rw [jsA_next hS c1 c3 c4 ci, decide_eq_true ci, Bool.true_and, Bool.true_and]
        · rw [decide_eq_false ci, decide_eq_false (show ¬ i = m by omega)]
          rfl
      have hno : jsA u (liB e s h) k e.2.1 m = false := by
        rw [Bool.and_eq_true] at c3
        simpa using c3.2
      have hm9 := i3 m c1
      rw [if_neg (fun w => by rw [hno] at w; exact absurd w.1 (by decide))] at hm9
      show ∃ y B, (if nI m = -1 then K x A else _) = K y B ∧ _
      rw [if_neg (show ¬ nI m = -1 from (by simp (disch := omega) only [fa_lt, fa_le, fa_eq, nI_toInt, Int32.reduceToInt, im1] <;> omega)), em, if_pos (iblt (show 10 * p + m < 50 by omega) (by decide)), nI_clamp (show 10 * p + m < 2 ^ 31 by omega), hm9, nI_1]
      by_cases c9 : s.1 p m = 99
      · rw [if_pos ((hv_m1 (hBd.1 p m)).mpr c9), if_pos (iblt (show 10 * p + m < 50 by omega) (by decide))]
        refine ih (k + 1) g _ _ (by omega) (by omega) ⟨hx, fun c hc => by rw [u2n hc]; exact i2 c hc, fun n hn => ?_, fun j hj => by rw [u2t (by omega)]; exact i4 j hj⟩
        by_cases cn : n = m
        · subst cn
          rw [u2s, if_pos ⟨by rw [jsA_next hS c1 c3 c4 hn]; simp, c9⟩, hv_n (by omega)]
        · rw [u2t (by omega), i3 n hn, jsA_next hS c1 c3 c4 hn, decide_eq_false cn, Bool.or_false]
      · rw [if_neg (fun w => c9 ((hv_m1 (hBd.1 p m)).mp w))]
        refine ih (k + 1) g _ _ (by omega) (by omega) ⟨hx, i2, fun n hn => ?_, i4⟩
        by_cases cn : n = m
        · subst cn
          rw [if_neg (fun w => c9 w.2)]
          exact hm9
        · rw [i3 n hn, jsA_next hS c1 c3 c4 hn, decide_eq_false cn, Bool.or_false]
theorem sums_ok {A : Mem} {e : ET} {ru p t : Nat} {r : Nat → Nat} {x2 x3 : Int32} {K : Int32 → Int32 → Option Mem} (ok : Eok e) (hA : ME A e ru) (hp : p < e.1) (h15 : ∀ n, n < e.2.1 → A 15 (10 * p + n) = hv (r n)) (hr : ∀ n, r n = 99 ∨ r n < 48) (ht : t < 4) : f_X11_come_151 A (nI p) x2 x3 (nI t) K FU 0 0 0 = K (nI (sumS e asS r t)) (nI (sumS e teS r t)) := by
  have n10 := ok.2.1
  have p5 := ok.1
  obtain ⟨z, z1, z2⟩ := lp0 (F := fun fu x (a : Int32 × Int32) => f_X11_come_151 A (nI p) x2 x3 (nI t) K fu a.1 a.2 x) (a := ((0 : Int32), (0 : Int32))) (fun a => K a.1 a.2) e.2.1 (fun q a => a.1 = nI (fb_sm (fun n => if e.2.2.1 7 n = t ∧ r n ≠ 99 then asS (e.2.2.1 5 n) else 0) q) ∧ a.2 = nI (fb_sm (fun n => if e.2.2.1 7 n = t ∧ r n ≠ 99 then teS (e.2.2.1 5 n) else 0) q)) ⟨rfl, rfl⟩ (fun fu q a hq hI => by
    have em : (10 : Int32) * nI p + nI q = nI (10 * p + q) := by rw [show (10 : Int32) * nI p = nI (10 * p) from pk_mul 10 p, nI_add]
    have o := ok.2.2.2 q hq
    show ∃ a' : Int32 × Int32, f_X11_come_151 A (nI p) x2 x3 (nI t) K (fu + 1) a.1 a.2 (nI q) = f_X11_come_151 A (nI p) x2 x3 (nI t) K fu a'.1 a'.2 (nI (q + 1)) ∧ _
    rw [f_X11_come_151, hA.2.1, if_neg (show ¬ nI e.2.1 ≤ nI q from (by simp (disch := omega) only [fa_lt, fa_le, fa_eq, nI_toInt, Int32.reduceToInt, im1] <;> omega))]
    simp only [if_pos (iblt (show q < 10 by omega) (by decide)), nI_clamp (show q < 2 ^ 31 by omega), (hA.2.2.2.1 q hq).2.2.1, em, if_pos (iblt (show 10 * p + q < 50 by omega) (by decide)), nI_clamp (show 10 * p + q < 2 ^ 31 by omega), h15 q hq, mas ok hA hq, mte ok hA hq, Option.bind_some, nI_1, fb_sm_succ, hI.1, hI.2, nI_add]
    by_cases c : e.2.2.1 7 q = t
    · rw [if_pos (congrArg nI c)]
      by_cases c9 : r q = 99
      · rw [if_pos ((hv_m1 (hr q)).mpr c9)]
        refine ⟨(_, _), rfl, ?_, ?_⟩
        · rw [if_neg (fun w => w.2 c9), Nat.add_zero]
          rfl
        · rw [if_neg (fun w => w.2 c9), Nat.add_zero]
          rfl
      · rw [if_neg (fun w => c9 ((hv_m1 (hr q)).mp w))]
        refine ⟨(_, _), rfl, ?_, ?_⟩
        · rw [if_pos ⟨c, c9⟩]
          rfl
        · rw [if_pos ⟨c, c9⟩]
          rfl
    · rw [if_neg (show ¬ nI (e.2.2.1 7 q) = nI t from (by simp (disch := omega) only [fa_lt, fa_le, fa_eq, nI_toInt, Int32.reduceToInt, im1] <;> omega))]
      refine ⟨(_, _), rfl, ?_, ?_⟩
      · rw [if_neg (fun w => c w.1), Nat.add_zero]
        rfl
      · rw [if_neg (fun w => c w.1), Nat.add_zero]
        rfl) (fun fu a hI => by
    show f_X11_come_151 A (nI p) x2 x3 (nI t) K (fu + 1) a.1 a.2 (nI e.2.1) = _
    rw [f_X11_come_151, hA.2.1, if_pos (show nI e.2.1 ≤ nI e.2.1 from (by simp (disch := omega) only [fa_lt, fa_le, fa_eq, nI_toInt, Int32.reduceToInt, im1] <;> omega))]) (by omega)
  have z1 : f_X11_come_151 A (nI p) x2 x3 (nI t) K FU 0 0 0 = K z.1 z.2 := z1
  rw [z1, z2.1, z2.2]
  rfl
/-- the model's counts behind k things -/
def EQQ (A : Mem) (e : ET) (s : CS) (a : Nat → Bool) (p h k : Nat) : Prop := (∀ t q, t < 4 → q < e.1 → A 16 (4 * q + t) = nI (if t < k ∧ q = p ∧ a t = true then s.2.2.1 q t + 1 else s.2.2.1 q t)) ∧ ∀ t, t < 4 → A 17 t = nI (if t < k ∧ a t = true then s.2.2.2.1 t + 1 else s.2.2.2.1 t) ∧ A 18 t = hv (if t < k ∧ a t = true ∧ s.2.2.2.1 t = 0 then h else s.2.2.2.2.1 t) ∧ A 19 t = hv (if t < k ∧ a t = true ∧ s.2.2.2.1 t = 0 then p else s.2.2.2.2.2 t)
theorem EQQ.no {A B : Mem} {e : ET} {s : CS} {a : Nat → Bool} {p h k : Nat} (H : EQQ A e s a p h k) (hc : ∀ c, 16 ≤ c ∧ c < 20 → B c = A c) (ha : a k = false) : EQQ B e s a p h (k + 1) := by
  rw [show EQQ B e s a p h (k + 1) = EQQ A e s a p h (k + 1) by unfold EQQ; rw [hc 16 (by omega), hc 17 (by omega), hc 18 (by omega), hc 19 (by omega)]]
  refine ⟨fun t q ht hq => ?_, fun t ht => ?_⟩
  · rw [H.1 t q ht hq]
    by_cases c : t = k
    · subst c
      rw [if_at, if_no, if_neg (fun q => by rw [ha] at q; exact absurd q.2 (by decide))]
    · rw [if_lt c]
  · obtain ⟨q1, q2, q3⟩ := H.2 t ht
    rw [q1, q2, q3]
    by_cases c : t = k
    · subst c
      rw [if_at, if_no, if_at, if_no, if_at, if_no, ha]
      simp
    · rw [if_lt c, if_lt c, if_lt c]
      exact ⟨rfl, rfl, rfl⟩
theorem EQQ.yes {A B : Mem} {e : ET} {s : CS} {a : Nat → Bool} {p h k : Nat} (H : EQQ A e s a p h k) (ha : a k = true) (hk : k < 4) (hp : p < e.1) (b1 : ∀ j, j ≠ 4 * p + k → B 16 j = A 16 j) (b3 : B 16 (4 * p + k) = A 16 (4 * p + k) + 1) (b4 : ∀ c t, t ≠ k → 17 ≤ c ∧ c < 20 → B c t = A c t) (b5 : B 17 k = nI (s.2.2.2.1 k + 1)) (b6 : B 18 k = hv (if s.2.2.2.1 k = 0 then h else s.2.2.2.2.1 k)) (b7 : B 19 k = hv (if s.2.2.2.1 k = 0 then p else s.2.2.2.2.2 k)) : EQQ B e s a p h (k + 1) := by
  have gp := H.1 k p hk hp
  rw [if_no] at gp
  refine ⟨fun t q ht hq => ?_, fun t ht => ?_⟩
  · by_cases c : t = k
    · subst c
      rw [if_at]
      by_cases cq : q = p
      · subst cq
        rw [b3, gp, if_pos ⟨rfl, ha⟩, nI_1]
      · rw [b1 _ (by omega), H.1 t q ht hq, if_no, if_neg (fun w => cq w.1)]
    · rw [b1 _ (by omega), if_lt c]
      exact H.1 t q ht hq
  · by_cases c : t = k
    · subst c
      rw [if_at, if_at, if_at, if_pos ha, b5, b6, b7]
      refine ⟨rfl, ?_, ?_⟩
      · by_cases cz : s.2.2.2.1 t = 0
        · rw [if_pos cz, if_pos ⟨ha, cz⟩]
        · rw [if_neg cz, if_neg (fun w => cz w.2)]
      · by_cases cz : s.2.2.2.1 t = 0
        · rw [if_pos cz, if_pos ⟨ha, cz⟩]
        · rw [if_neg cz, if_neg (fun w => cz w.2)]
    · rw [b4 17 t c (by omega), b4 18 t c (by omega), b4 19 t c (by omega), if_lt c, if_lt c, if_lt c]
      exact H.2 t ht
theorem mdo_ok {B : Mem} {e : ET} {ru p h : Nat} {s : CS} {r : Nat → Nat} {x3 : Int32} {K : Mem → Option Mem} (ok : Eok e) (hB : ME B e ru) (hp : p < e.1) (hh : h < 48) (h15 : ∀ n, n < e.2.1 → B 15 (10 * p + n) = hv (r n)) (hr : ∀ n, r n = 99 ∨ r n < 48) (hb : ∀ t, s.2.2.2.1 t < 1000) (hD : EQQ B e s (fun t => actB e r p h t) p h 0) : ∃ Y, f_X11_come_136 (nI p) (nI h) x3 K FU 0 B = K Y ∧ (∀ c, ¬ (14 ≤ c ∧ c < 20 ∧ c ≠ 15) → Y c = B c) ∧ EQQ Y e s (fun t => actB e r p h t) p h 4 := by
  have p5 := ok.1
  refine lp0 (F := fun fu x A => f_X11_come_136 (nI p) (nI h) x3 K fu x A) (a := B) K 4 (fun q A => (∀ c, ¬ (14 ≤ c ∧ c < 20 ∧ c ≠ 15) → A c = B c) ∧ EQQ A e s (fun t => actB e r p h t) p h q) ⟨fun _ _ => rfl, hD⟩ (fun fu q A hq hI => ?_) (fun fu A hI => ?_) (by decide)
  · obtain ⟨f0, f2⟩ := hI
    have hA : ME A e ru := hB.fr (fun c hc => f0 c (by omega))
    obtain ⟨Z, z1, z2⟩ := worth_ok (j := 0) (a := nI (sumS e asS r q)) (b := nI (sumS e teS r q)) (h := nI h) (w := nI p) (t := nI (e.2.2.1 4 p)) (g := nI q) hA (by decide)
    have hact : actB e r p h q = decide (e.2.2.2 0 (fc (nI (sumS e asS r q)) (nI (sumS e teS r q)) (nI h) (nI p) (nI (e.2.2.1 4 p)) (nI q)) ≠ 0) := rfl
    have em : (4 : Int32) * nI p + nI q = nI (4 * p + q) := by rw [show (4 : Int32) * nI p = nI (4 * p) from pk_mul 4 p, nI_add]
    show ∃ a', f_X11_come_136 (nI p) (nI h) x3 K (fu + 1) (nI q) A = f_X11_come_136 (nI p) (nI h) x3 K fu (nI (q + 1)) a' ∧ _
    rw [f_X11_come_136, if_neg (show ¬ 4 ≤ nI q from (by simp (disch := omega) only [fa_lt, fa_le, fa_eq, nI_toInt, Int32.reduceToInt, im1] <;> omega)), sums_ok ok hA hp (fun n hn => by rw [f0 15 (by omega)]; exact h15 n hn) hr hq, if_pos (iblt (show p < 5 by omega) (by decide)), nI_clamp (show p < 2 ^ 31 by omega), (hA.2.2.1 p hp).2.2.2]
    rw [show f_X11_worth A 0 (nI (sumS e asS r q)) (nI (sumS e teS r q)) (nI h) (nI p) (nI (e.2.2.1 4 p)) (nI q) = _ from z1, Option.bind_some]
    have hZf : ∀ c, ¬ (14 ≤ c ∧ c < 20 ∧ c ≠ 15) → Z c = B c := fun c hc => (z2 c (by omega)).trans (f0 c hc)
    have g := f2.2 q hq
    simp only [if_no] at g
    by_cases c : e.2.2.2 0 (fc (nI (sumS e asS r q)) (nI (sumS e teS r q)) (nI h) (nI p) (nI (e.2.2.1 4 p)) (nI q)) = 0
    · rw [if_pos c, nI_1]
      exact ⟨Z, rfl, hZf, f2.no (fun c hc => z2 c (by omega)) (by rw [hact]; exact decide_eq_false (fun w => w c))⟩
    · rw [if_neg c, em]
      simp (disch := omega) only [if_pos (iblt (show 4 * p + q < 20 by omega) (by decide)), if_pos (iblt hq (by decide)), nI_clamp, u2n, nI_1, z2 16 (by decide), z2 17 (by decide)]
      have hyes : actB e r p h q = true := by rw [hact]; exact decide_eq_true c
      by_cases cz : s.2.2.2.1 q = 0
      · rw [if_pos (show A 17 q ≤ 0 by rw [g.1, cz]; decide)]
        refine ⟨_, rfl, fun c hc => ?_, f2.yes hyes hq hp (fun j hj => ?_) ?_ (fun c t h1 h2 => ?_) ?_ ?_ ?_⟩
        · rw [u2n (by omega), u2n (by omega), u2n (by omega), u2n (by omega)]
          exact hZf c hc
        · simp (disch := omega) only [u2n, u2t, z2]
        · simp (disch := omega) only [u2n, u2s, z2]
        · simp (disch := omega) only [u2n, u2q, z2]
        · simp (disch := omega) only [u2n, u2s]
          rw [g.1, nI_1]
        · simp (disch := omega) only [u2n, u2s]
          rw [if_pos cz, hv_n (by omega)]
        · simp (disch := omega) only [u2n, u2s]
          rw [if_pos cz, hv_n (by omega)]
      · have := hb q
        rw [if_neg (show ¬ A 17 q ≤ 0 by rw [g.1]; exact (by simp (disch := omega) only [fa_lt, fa_le, fa_eq, nI_toInt, Int32.reduceToInt, im1] <;> omega))]
        refine ⟨_, rfl, fun c hc => ?_, f2.yes hyes hq hp (fun j hj => ?_) ?_ (fun c t h1 h2 => ?_) ?_ ?_ ?_⟩
        · rw [u2n (by omega), u2n (by omega)]
          exact hZf c hc
        · simp (disch := omega) only [u2n, u2t, z2]
        · simp (disch := omega) only [u2n, u2s, z2]
        · simp (disch := omega) only [u2n, u2q, z2]
        · simp (disch := omega) only [u2n, u2s]
          rw [g.1, nI_1]
        · simp (disch := omega) only [u2n, z2]
          rw [if_neg cz]
          exact g.2.1
        · simp (disch := omega) only [u2n, z2]
          rw [if_neg cz]
          exact g.2.2
  · show f_X11_come_136 (nI p) (nI h) x3 K (fu + 1) (nI 4) A = _
    rw [f_X11_come_136, if_pos (show 4 ≤ nI 4 by decide)]
theorem mtake_ok {B : Mem} {e : ET} {ru p h : Nat} {tk : Nat → Nat} {J : Nat → Bool} {rd : Int32} (ok : Eok e) (hB : ME B e ru) (hp : p < e.1) (hh : h < 48) (hrd : ∀ i, i < 32 → bt rd i = (decide (i < e.2.1) && J i)) (hT : ∀ n, n < e.2.1 → B 20 n = hv (tk n)) : ∃ Y, f_X11_come_302 (nI p) (nI h) rd FU 0 B = some Y ∧ (∀ c, c ≠ 14 → c ≠ 20 → Y c = B c) ∧ ∀ n, n < e.2.1 → Y 20 n = hv (if J n = true ∧ takB e p h n = true then h else tk n) := by
  have n10 := ok.2.1
  have p5 := ok.1
  obtain ⟨Y, y1, y2, y3⟩ := lp0 (F := fun fu x A => f_X11_come_302 (nI p) (nI h) rd fu x A) (a := B) (fun A => some A) e.2.1 (fun q A => (∀ c, c ≠ 14 → c ≠ 20 → A c = B c) ∧ ∀ n, n < e.2.1 → A 20 n = hv (if n < q ∧ (J n = true ∧ takB e p h n = true) then h else tk n)) ⟨fun _ _ _ => rfl, fun n hn => by rw [if_neg (fun w => absurd w.1 (Nat.not_lt_zero _))]; exact hT n hn⟩ (fun fu q A hq hI => by
    obtain ⟨f0, f1⟩ := hI
    have hA : ME A e ru := hB.fr (fun c hc => f0 c (by omega) (by omega))
    have keep : ∀ C : Mem, C 20 = A 20 → ¬ (J q = true ∧ takB e p h q = true) → ∀ n, n < e.2.1 → C 20 n = hv (if n < q + 1 ∧ (J n = true ∧ takB e p h n = true) then h else tk n) := by
      intro C hC hno n hn
      rw [hC, f1 n hn]
      by_cases c : n = q
      · subst c
        rw [if_at, if_no, if_neg hno]
      · rw [if_lt c]
    show ∃ a', f_X11_come_302 (nI p) (nI h) rd (fu + 1) (nI q) A = f_X11_come_302 (nI p) (nI h) rd fu (nI (q + 1)) a' ∧ _
    rw [f_X11_come_302, hA.2.1, if_neg (show ¬ nI e.2.1 ≤ nI q from (by simp (disch := omega) only [fa_lt, fa_le, fa_eq, nI_toInt, Int32.reduceToInt, im1] <;> omega))]
    by_cases cJ : J q = true
    · rw [if_pos (show (rd >>> (nI q &&& 31)) &&& 1 = 1 by rw [tst1 (by omega), hrd q (by omega), decide_eq_true hq, cJ]; rfl), mas ok hA hq, Option.bind_some, mte ok hA hq, Option.bind_some]
      obtain ⟨Z, z1, z2⟩ := worth_ok (j := 1) (a := nI (asS (e.2.2.1 5 q))) (b := nI (teS (e.2.2.1 5 q))) (h := nI h) (w := nI p) (t := nI (e.2.2.1 4 p)) (g := nI (e.2.2.1 7 q)) hA (by decide)
      have htak : takB e p h q = decide (e.2.2.2 1 (fc (nI (asS (e.2.2.1 5 q))) (nI (teS (e.2.2.1 5 q))) (nI h) (nI p) (nI (e.2.2.1 4 p)) (nI (e.2.2.1 7 q))) ≠ 0) := rfl
      simp only [if_pos (iblt (show p < 5 by omega) (by decide)), if_pos (iblt (show q < 10 by omega) (by decide)), nI_clamp (show p < 2 ^ 31 by omega), nI_clamp (show q < 2 ^ 31 by omega), (hA.2.2.1 p hp).2.2.2, (hA.2.2.2.1 q hq).2.2.1, nI_1]
      rw [show f_X11_worth A 1 (nI (asS (e.2.2.1 5 q))) (nI (teS (e.2.2.1 5 q))) (nI h) (nI p) (nI (e.2.2.1 4 p)) (nI (e.2.2.1 7 q)) = _ from z1, Option.bind_some]
      by_cases c : e.2.2.2 1 (fc (nI (asS (e.2.2.1 5 q))) (nI (teS (e.2.2.1 5 q))) (nI h) (nI p) (nI (e.2.2.1 4 p)) (nI (e.2.2.1 7 q))) = 0
      · rw [if_pos c]
        refine ⟨Z, rfl, fun c h1 h2 => (z2 c h1).trans (f0 c h1 h2), keep Z (z2 20 (by decide)) (fun w => ?_)⟩
        rw [htak, decide_eq_true_eq] at w
        exact w.2 c
      · rw [if_neg c]
        refine ⟨_, rfl, fun c h1 h2 => by rw [u2n h2]; exact (z2 c h1).trans (f0 c h1 h2), fun n hn => ?_⟩
        by_cases cn : n = q
        · subst cn
          rw [u2s, if_at, if_pos ⟨cJ, by rw [htak]; exact decide_eq_true c⟩, hv_n (by omega)]
        · rw [u2t cn, if_lt cn]
          exact (congrFun (z2 20 (by decide)) n).trans (f1 n hn)
    · rw [Bool.not_eq_true] at cJ
      rw [if_neg (show ¬ (rd >>> (nI q &&& 31)) &&& 1 = 1 by rw [tst1 (by omega), hrd q (by omega), decide_eq_true hq, cJ]; decide), nI_1]
      exact ⟨A, rfl, f0, keep A rfl (fun w => by rw [cJ] at w; exact absurd w.1 (by decide))⟩) (fun fu A hI => by
    show f_X11_come_302 (nI p) (nI h) rd (fu + 1) (nI e.2.1) A = _
    rw [f_X11_come_302, hI.1 0 (by decide) (by decide), hB.2.1, if_pos (show nI e.2.1 ≤ nI e.2.1 from (by simp (disch := omega) only [fa_lt, fa_le, fa_eq, nI_toInt, Int32.reduceToInt, im1] <;> omega))]) (by omega)
  refine ⟨Y, y1, y2, fun n hn => ?_⟩
  rw [y3 n hn]
  by_cases c : J n = true ∧ takB e p h n = true
  · rw [if_pos c, if_pos ⟨hn, c⟩]
  · rw [if_neg c, if_neg (fun w => c w.2)]
theorem jsA_0 (u : Nat → Nat) (L : Nat → Bool) (k i : Nat) : jsA u L 0 k i = false := by
  unfold jsA
  rw [List.any_eq_false]
  intro j _
  simp
theorem come_ok {M : Mem} {e : ET} {u : Nat → Nat} {s : CS} {ru p h : Nat} (ok : Eok e) (hS : SP e u) (hM : ME M e ru) (hK : MK M e s) (hp : p < e.1) (hh : h < 48) (hBd : Bd s) : ∃ Y, f_X11_come M (nI p) (nI h) = some Y ∧ MK Y e (visS e u p h s) ∧ ∀ c, ¬ (14 ≤ c ∧ c < 21) → Y c = M c := by
  have n10 := ok.2.1
  have p5 := ok.1
  have op := ok.2.2.1 p hp
  obtain ⟨k1, k2, k3, k4⟩ := hK
  have hR0 : RQ M M e u s p h 0 0 := by
    refine ⟨fun i hi => ?_, fun _ _ => rfl, fun n hn => ?_, fun _ _ => rfl⟩
    · rw [b_0, jsA_0, Bool.and_false]
    · rw [jsA_0, if_neg (fun w => absurd w.1 (by decide))]
      exact k1 p n hp hn
  obtain ⟨rd, A, a1, a2, a3, a4, a5⟩ := reads_ok (K := fun x3_35 M_36 => f_X11_come_136 (nI p) (nI h) x3_35 (fun M_75 => f_X11_come_302 (nI p) (nI h) x3_35 FU 0 M_75) FU 0 M_36) ok hS hM hp hh k2 hBd (e.2.2.1 3 p) 0 FU 0 M (by omega) (by rw [FU_eq]; omega) hR0
  have hrow : rAS e u p h s p = fun n => if jsB e u s h (e.2.2.1 3 p) n = true ∧ s.1 p n = 99 then h else s.1 p n := by
    funext n
    unfold rAS
    by_cases c : jsB e u s h (e.2.2.1 3 p) n = true ∧ s.1 p n = 99
    · rw [if_pos c, if_pos ⟨rfl, c⟩]
    · rw [if_neg c, if_neg (fun q => c q.2)]
  have hro : ∀ q, q ≠ p → rAS e u p h s q = s.1 q := fun q hq => by
    funext n
    unfold rAS
    rw [if_neg (fun w => hq w.1)]
  have hA : ME A e ru := hM.fr (fun c hc => a3 c (by omega))
  obtain ⟨D, d1, d2, d3⟩ := mdo_ok (s := s) (r := rAS e u p h s p) (x3 := rd) (K := fun M_75 => f_X11_come_302 (nI p) (nI h) rd FU 0 M_75) ok hA hp hh (fun n hn => by rw [hrow]; exact a4 n hn) (fun n => by
    rw [hrow]
    show (if _ then h else s.1 p n) = 99 ∨ (if _ then h else s.1 p n) < 48
    split
    · exact Or.inr hh
    · exact hBd.1 p n) hBd.2.2 ⟨fun t q ht hq => by
    rw [if_neg (fun w => absurd w.1 (Nat.not_lt_zero _)), a3 16 (by decide)]
    exact k3 t q ht hq, fun t ht => by
    rw [if_neg (fun w => absurd w.1 (Nat.not_lt_zero _)), if_neg (fun w => absurd w.1 (Nat.not_lt_zero _)), if_neg (fun w => absurd w.1 (Nat.not_lt_zero _)), a3 17 (by decide), a3 18 (by decide), a3 19 (by decide)]
    exact k4 t ht⟩
  obtain ⟨Y, y1, y2, y3⟩ := mtake_ok (tk := s.2.1) (J := fun i => jsB e u s h (e.2.2.1 3 p) i) ok (hA.fr (fun c hc => d2 c (by omega))) hp hh a2 (fun n hn => by
    rw [d2 20 (by omega), a3 20 (by decide)]
    exact k2 n hn)
  refine ⟨Y, ?_, ⟨fun q n hq hn => ?_, fun n hn => ?_, fun t q ht hq => ?_, fun t ht => ?_⟩, fun c hc => ?_⟩
  · unfold f_X11_come
    rw [← y1, ← d1]
    exact a1
  · show Y 15 (10 * q + n) = hv (rAS e u p h s q n)
    rw [y2 15 (by decide) (by decide), d2 15 (by omega)]
    by_cases c : q = p
    · subst c
      rw [hrow]
      exact a4 n hn
    · rw [hro q c, a5 (10 * q + n) (by omega)]
      exact k1 q n hq hn
  · rw [y3 n hn]
    rfl
  · rw [y2 16 (by decide) (by decide), d3.1 t q ht hq]
    show nI (if t < 4 ∧ q = p ∧ actB e (rAS e u p h s p) p h t = true then _ else _) = nI (if q = p ∧ actB e (rAS e u p h s p) p h t = true then _ else _)
    by_cases c : q = p ∧ actB e (rAS e u p h s p) p h t = true
    · rw [if_pos c, if_pos ⟨ht, c⟩]
    · rw [if_neg c, if_neg (fun w => c w.2)]
  · obtain ⟨g1, g2, g3⟩ := d3.2 t ht
    rw [y2 17 (by decide) (by decide), y2 18 (by decide) (by decide), y2 19 (by decide) (by decide), g1, g2, g3]
    refine ⟨congrArg nI ?_, congrArg hv ?_, congrArg hv ?_⟩
    · show _ = if actB e (rAS e u p h s p) p h t = true then _ else _
      by_cases c : actB e (rAS e u p h s p) p h t = true
      · rw [if_pos c, if_pos ⟨ht, c⟩]
      · rw [if_neg c, if_neg (fun w => c w.2)]
    · show _ = if actB e (rAS e u p h s p) p h t = true ∧ s.2.2.2.1 t = 0 then _ else _
      by_cases c : actB e (rAS e u p h s p) p h t = true ∧ s.2.2.2.1 t = 0
      · rw [if_pos c, if_pos ⟨ht, c⟩]
      · rw [if_neg c, if_neg (fun w => c w.2)]
    · show _ = if actB e (rAS e u p h s p) p h t = true ∧ s.2.2.2.1 t = 0 then _ else _
      by_cases c : actB e (rAS e u p h s p) p h t = true ∧ s.2.2.2.1 t = 0
      · rw [if_pos c, if_pos ⟨ht, c⟩]
      · rw [if_neg c, if_neg (fun w => c w.2)]
  · rw [y2 c (by omega) (by omega), d2 c (by omega), a3 c (by omega)]
