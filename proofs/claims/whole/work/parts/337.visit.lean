/-- what a visit does not touch -/
def tfr (c : Nat) : Prop := c ≠ 5 ∧ c ≠ 17 ∧ c ≠ 18
/-- who is taken behind k notes -/
def TQ (A : Mem) (N : Nat) (tk : Nat → Nat) (a : Nat → Bool) (h k : Nat) : Prop := ∀ i, i < 32 → bt (A 5 15) i = (decide (i < N) && decide ((if i < k ∧ a i = true then h else tk i) ≠ 99))
theorem TQ.no {A B : Mem} {N : Nat} {tk : Nat → Nat} {a : Nat → Bool} {h k : Nat} (H : TQ A N tk a h k) (h5 : B 5 15 = A 5 15) (ha : a k = false) : TQ B N tk a h (k + 1) := by
  intro i hi
  rw [h5, H i hi]
  by_cases c : i = k
  · subst c
    rw [if_at, if_no, if_neg (fun q => by rw [ha] at q; exact absurd q (by decide))]
  · rw [if_lt c]
theorem TQ.yes {A B : Mem} {N : Nat} {tk : Nat → Nat} {a : Nat → Bool} {h k : Nat} (H : TQ A N tk a h k) (h5 : B 5 15 = A 5 15 ||| ((1 : Int32) <<< (nI k &&& 31))) (hk : k < N) (hN : N ≤ 10) (hh : h < 48) (ha : a k = true) : TQ B N tk a h (k + 1) := by
  intro i hi
  rw [h5, b_or, H i hi, bt_sh (by omega) hi]
  by_cases c : i = k
  · subst c
    rw [if_at, if_pos ha, decide_eq_true hk, decide_eq_true (show h ≠ 99 by omega)]
    simp
  · rw [if_lt c, decide_eq_false c, Bool.or_false]
theorem take_ok {B : Mem} {e : ET} {ru p h : Nat} {tk : Nat → Nat} {J : Nat → Bool} {rd : Int32} (ok : Eok e) (hB : XE B e ru) (hh : h < 48) (hrd : ∀ i, i < 32 → bt rd i = (decide (i < e.2.1) && J i)) (h17 : B 17 2 = nI h ∧ B 17 3 = nI p ∧ B 17 4 = nI (e.2.2.1 4 p)) (hT : TQ B e.2.1 tk (fun n => J n && takB e p h n) h 0) : ∃ Y, f_X0_visit_117 rd FU 0 B = some Y ∧ (∀ c, tfr c → Y c = B c) ∧ (∀ k, k ≠ 15 → Y 5 k = B 5 k) ∧ TQ Y e.2.1 tk (fun n => J n && takB e p h n) h e.2.1 := by
  have n10 := ok.2.1
  obtain ⟨Y, y1, y2, y3, -, y4⟩ := lp0 (F := fun fu x A => f_X0_visit_117 rd fu x A) (a := B) (fun A => some A) e.2.1 (fun q A => (∀ c, tfr c → A c = B c) ∧ (∀ k, k ≠ 15 → A 5 k = B 5 k) ∧ (A 17 2 = nI h ∧ A 17 3 = nI p ∧ A 17 4 = nI (e.2.2.1 4 p)) ∧ TQ A e.2.1 tk (fun n => J n && takB e p h n) h q) ⟨fun _ _ => rfl, fun _ _ => rfl, h17, hT⟩ (fun fu q A hq hI => by
    obtain ⟨f0, f5, f1, f2⟩ := hI
    have hA : XE A e ru := hB.cg ok (by rw [f0 1 (by unfold tfr; omega)]) (by rw [f0 1 (by unfold tfr; omega)]) (by rw [f0 1 (by unfold tfr; omega)]) (fun c hc => f0 c (by unfold tfr; omega))
    show ∃ a', f_X0_visit_117 rd (fu + 1) (nI q) A = f_X0_visit_117 rd fu (nI (q + 1)) a' ∧ _
    by_cases cJ : J q = true
    · have hs := hA.2.2.2.1 q hq
      obtain ⟨Z, z1, z2, z3, z4, z5⟩ := says_ok (j := 1) (a := nI (asS (e.2.2.1 5 q))) (b := nI (teS (e.2.2.1 5 q))) (t := nI (e.2.2.1 7 q)) hA (by decide)
      rw [f1.1, f1.2.1, f1.2.2] at z1
      have htak : takB e p h q = decide (e.2.2.2 1 (fc (nI (asS (e.2.2.1 5 q))) (nI (teS (e.2.2.1 5 q))) (nI h) (nI p) (nI (e.2.2.1 4 p)) (nI (e.2.2.1 7 q))) ≠ 0) := rfl
      have hZf : ∀ c, tfr c → Z c = B c := fun c hc => (z2 c hc.2.1 hc.2.2).trans (f0 c hc)
      rw [f_X0_visit_117, hA.2.1, if_neg (show ¬ nI e.2.1 ≤ nI q from (by simp (disch := omega) only [fa_lt, fa_le, fa_eq, nI_toInt, Int32.reduceToInt, im1] <;> omega)), if_neg (show ¬ (rd >>> (nI q &&& 31)) &&& 1 = 0 by rw [tst0 (by omega), hrd q (by omega), decide_eq_true hq, cJ]; decide)]
      simp only [if_pos (iblt (show q < 10 by omega) (by decide)), nI_clamp (show q < 2 ^ 31 by omega), hs.2.2.1, hs.2.2.2.2.2.2.1, hs.2.2.2.2.2.2.2, nI_1]
      rw [show f_X0_says A 1 (nI (asS (e.2.2.1 5 q))) (nI (teS (e.2.2.1 5 q))) (nI (e.2.2.1 7 q)) = _ from z1, Option.bind_some]
      by_cases c : e.2.2.2 1 (fc (nI (asS (e.2.2.1 5 q))) (nI (teS (e.2.2.1 5 q))) (nI h) (nI p) (nI (e.2.2.1 4 p)) (nI (e.2.2.1 7 q))) = 0
      · rw [if_pos c]
        refine ⟨Z, rfl, hZf, fun k hk => by rw [z2 5 (by decide) (by decide)]; exact f5 k hk, ⟨z3.trans f1.1, z4.trans f1.2.1, z5.trans f1.2.2⟩, f2.no (by rw [z2 5 (by decide) (by decide)]) ?_⟩
        show (J q && takB e p h q) = false
        rw [htak, decide_eq_false (fun w => w c), Bool.and_false]
      · rw [if_neg c]
        refine ⟨_, rfl, fun c hc => ?_, fun k hk => ?_, ?_, f2.yes (B := upd2 Z 5 15 (Z 5 15 ||| ((1 : Int32) <<< (nI q &&& 31)))) (by rw [u2s, z2 5 (by decide) (by decide)]) hq n10 hh ?_⟩
        · rw [u2n hc.1]
          exact hZf c hc
        · rw [u2t hk]
          exact (congrFun (z2 5 (by decide) (by decide)) k).trans (f5 k hk)
        · rw [u2n (by decide)]
          exact ⟨z3.trans f1.1, z4.trans f1.2.1, z5.trans f1.2.2⟩
        · show (J q && takB e p h q) = true
          rw [htak, cJ, decide_eq_true c]
          rfl
    · rw [Bool.not_eq_true] at cJ
      refine ⟨A, ?_, f0, f5, f1, f2.no rfl ?_⟩
      · rw [f_X0_visit_117, hA.2.1, if_neg (show ¬ nI e.2.1 ≤ nI q from (by simp (disch := omega) only [fa_lt, fa_le, fa_eq, nI_toInt, Int32.reduceToInt, im1] <;> omega)), if_pos (iblt (show q < 10 by omega) (by decide)), if_pos (show (rd >>> (nI q &&& 31)) &&& 1 = 0 by rw [tst0 (by omega), hrd q (by omega), decide_eq_true hq, cJ]; rfl), nI_1]
      · show (J q && takB e p h q) = false
        rw [cJ, Bool.false_and]) (fun fu A hI => by
    show f_X0_visit_117 rd (fu + 1) (nI e.2.1) A = _
    rw [f_X0_visit_117, hI.1 1 (by unfold tfr; omega), hB.2.1, if_pos (show nI e.2.1 ≤ nI e.2.1 from (by simp (disch := omega) only [fa_lt, fa_le, fa_eq, nI_toInt, Int32.reduceToInt, im1] <;> omega))]) (by omega)
  exact ⟨Y, y1, y2, y3, y4⟩
/-- what no visit touches -/
def wfr (c : Nat) : Prop := c ≠ 5 ∧ c ≠ 14 ∧ c ≠ 17 ∧ c ≠ 18 ∧ ¬ (10 ≤ c ∧ c < 13) ∧ ¬ (65 ≤ c ∧ c < 74) ∧ ¬ (75 ≤ c ∧ c < 85)
theorem visit_ok {X : Mem} {e : ET} {u : Nat → Nat} {s : CS} {ru p h : Nat} {ly : Int32} (ok : Eok e) (hX : XE X e ru) (hI : IX X e s) (hp : p < e.1) (hh : h < 48) (hu : ∀ j, j < e.2.1 → X 13 j = nI (u j) ∧ u j < e.2.1) (hL : ∀ n, n < e.2.1 → bt ly n = liB e s h n) (hb : ∀ t, t < 4 → s.2.2.2.1 t < 1000) : ∃ Y, f_X0_visit X (nI p) (nI h) ly = some Y ∧ IX Y e (visS e u p h s) ∧ (∀ c, wfr c → Y c = X c) ∧ (∀ k, k ≠ 15 → Y 5 k = X 5 k) ∧ ∀ q, q ≠ p → Y 14 q = X 14 q := by
  have p5 := ok.1
  have n10 := ok.2.1
  have op := ok.2.2.1 p hp
  have xp := hX.2.2.1 p hp
  obtain ⟨i1, i2, i3, i4, i5, i6⟩ := hI
  obtain ⟨rd, r1, r2⟩ := upm_ok (u := u) (L := liB e s h) (m := e.2.2.1 3 p) (ly := ly) ok hX.2.1 hu hL (by omega)
  obtain ⟨A, a1, a2, a3, a4, a5, a6⟩ := learn_ok (r0 := s.1 p) (J := fun i => jsB e u s h (e.2.2.1 3 p) i) ok hX hp hh (i3 p · hp) (i4 p · hp) (i2 p hp) r2
  generalize hB : upd2 (upd2 (upd2 A 17 2 (nI h)) 17 3 (nI p)) 17 4 (nI (e.2.2.1 4 p)) = B
  have Bc : ∀ c, c ≠ 17 → B c = A c := fun c hc => by rw [← hB, u2n hc, u2n hc, u2n hc]
  have hBE : XE B e ru := hX.cg ok (by rw [Bc 1 (by omega), a2 1 (by omega) (by omega) (by omega) (by omega)]) (by rw [Bc 1 (by omega), a2 1 (by omega) (by omega) (by omega) (by omega)]) (by rw [Bc 1 (by omega), a2 1 (by omega) (by omega) (by omega) (by omega)]) (fun c hc => by rw [Bc c (by omega), a2 c (by omega) (by omega) (by omega) (by omega)])
  have hrow : rAS e u p h s p = fun n => if jsB e u s h (e.2.2.1 3 p) n = true ∧ s.1 p n = 99 then h else s.1 p n := by
    funext n
    unfold rAS
    by_cases c : jsB e u s h (e.2.2.1 3 p) n = true ∧ s.1 p n = 99
    · rw [if_pos c, if_pos ⟨rfl, c⟩]
    · rw [if_neg c, if_neg (fun q => c q.2)]
  have hro : ∀ q, q ≠ p → rAS e u p h s q = s.1 q := fun q hq => by
    funext n
    unfold rAS
    rw [if_neg (fun w => hq w.1)]
  obtain ⟨D, d1, d2, d3, d4⟩ := do_ok (s := s) (r := rAS e u p h s p) (rd := rd) (k := fun M_24 => (f_X0_visit_117 (rd) FU (0) M_24)) ok hBE hp hh (fun t ht => by rw [Bc (75 + p) (by omega), Bc (80 + p) (by omega), hrow]; exact a5 t ht) (by rw [← hB]; exact ⟨rfl, rfl, rfl⟩) hb ⟨fun t q ht hq => by
    rw [if_neg (fun w => absurd w.1 (Nat.not_lt_zero _)), Bc (70 + t) (by omega), a2 (70 + t) (by omega) (by omega) (by omega) (by omega)]
    exact i5 t q ht hq, fun t ht => by
    rw [if_neg (fun w => absurd w.1 (Nat.not_lt_zero _)), if_neg (fun w => absurd w.1 (Nat.not_lt_zero _)), if_neg (fun w => absurd w.1 (Nat.not_lt_zero _)), Bc 10 (by omega), Bc 11 (by omega), Bc 12 (by omega), a2 10 (by omega) (by omega) (by omega) (by omega), a2 11 (by omega) (by omega) (by omega) (by omega), a2 12 (by omega) (by omega) (by omega) (by omega)]
    exact i6 t ht⟩
  have hDE : XE D e ru := hBE.cg ok (by rw [d2 1 (by unfold vfr; omega)]) (by rw [d2 1 (by unfold vfr; omega)]) (by rw [d2 1 (by unfold vfr; omega)]) (fun c hc => d2 c (by unfold vfr; omega))
  have D5 : D 5 = X 5 := by rw [d2 5 (by unfold vfr; omega), Bc 5 (by omega), a2 5 (by omega) (by omega) (by omega) (by omega)]
  obtain ⟨Y, y1, y2, y3, y4⟩ := take_ok (tk := s.2.1) (J := fun i => jsB e u s h (e.2.2.1 3 p) i) ok hDE hh r2 d3 (fun i hi => by
    rw [D5, i1 i hi, if_neg (fun w => absurd w.1 (Nat.not_lt_zero _))])
  have YA : ∀ c, tfr c → vfr c → Y c = A c := fun c h1 h2 => by rw [y2 c h1, d2 c h2, Bc c h1.2.1]
  refine ⟨Y, ?_, ⟨fun i hi => ?_, fun q hq i hi => ?_, fun q n hq hn => ?_, fun q t hq ht => ?_, fun t q ht hq => ?_, fun t ht => ?_⟩, fun c hc => ?_, fun k hk => ?_, fun q hq => ?_⟩
  · unfold f_X0_visit
    rw [if_pos (iblt (show p < 5 by omega) (by decide)), nI_clamp (by omega), xp.2.2.1, r1, Option.bind_some, a1, Option.bind_some, if_pos (iblt (show p < 5 by omega) (by decide))]
    have hxp : (upd2 (upd2 A 17 2 (nI h)) 17 3 (nI p)) (25 + p) 3 = nI (e.2.2.1 4 p) := by
      rw [u2n (by omega), u2n (by omega), a2 (25 + p) (by omega) (by omega) (by omega) (by omega)]
      exact xp.2.2.2
    rw [hxp, hB, d1]
    exact y1
  · rw [y4 i hi]
    show _ = (decide (i < e.2.1) && decide ((if jsB e u s h (e.2.2.1 3 p) i = true ∧ takB e p h i = true then h else s.2.1 i) ≠ 99))
    by_cases c : i < e.2.1
    · by_cases c2 : jsB e u s h (e.2.2.1 3 p) i = true ∧ takB e p h i = true
      · rw [if_pos c2, if_pos ⟨c, by simp [c2.1, c2.2]⟩]
      · rw [if_neg c2, if_neg (fun w => c2 (by simpa using w.2))]
    · rw [decide_eq_false c, Bool.false_and, Bool.false_and]
  · show bt (Y 14 q) i = (decide (i < e.2.1) && decide (rAS e u p h s q i ≠ 99))
    rw [YA 14 (by unfold tfr; omega) (by unfold vfr; omega)]
    by_cases c : q = p
    · subst c
      rw [hrow]
      exact a6 i hi
    · rw [hro q c, a3 q c]
      exact i2 q hq i hi
  · show Y (65 + q) n = hv (rAS e u p h s q n)
    rw [YA (65 + q) (by unfold tfr; omega) (by unfold vfr; omega)]
    by_cases c : q = p
    · subst c
      rw [hrow]
      exact a4 n hn
    · rw [hro q c, a2 (65 + q) (by omega) (by omega) (by omega) (by omega)]
      exact i3 q n hq hn
  · show Y (75 + q) t = nI (sumS e asS (rAS e u p h s q) t) ∧ Y (80 + q) t = nI (sumS e teS (rAS e u p h s q) t)
    rw [YA (75 + q) (by unfold tfr; omega) (by unfold vfr; omega), YA (80 + q) (by unfold tfr; omega) (by unfold vfr; omega)]
    by_cases c : q = p
    · subst c
      rw [hrow]
      exact a5 t ht
    · rw [hro q c, a2 (75 + q) (by omega) (by omega) (by omega) (by omega), a2 (80 + q) (by omega) (by omega) (by omega) (by omega)]
      exact i4 q t hq ht
  · rw [y2 (70 + t) (by unfold tfr; omega), d4.1 t q ht hq]
    show nI (if t < 4 ∧ q = p ∧ actB e (rAS e u p h s p) p h t = true then _ else _) = nI (if q = p ∧ actB e (rAS e u p h s p) p h t = true then _ else _)
    by_cases c : q = p ∧ actB e (rAS e u p h s p) p h t = true
    · rw [if_pos c, if_pos ⟨ht, c⟩]
    · rw [if_neg c, if_neg (fun w => c w.2)]
  · obtain ⟨g1, g2, g3⟩ := d4.2 t ht
    rw [y2 10 (by unfold tfr; omega), y2 11 (by unfold tfr; omega), y2 12 (by unfold tfr; omega), g1, g2, g3]
    refine ⟨congrArg nI ?_, congrArg hv ?_, congrArg hv ?_⟩
    · show _ = if actB e (rAS e u p h s p) p h t = true then _ else _
      by_cases c : actB e (rAS e u p h s p) p h t = true
      · rw [if_pos c, if_pos ⟨ht, c⟩]
      · rw [if_neg c, if_neg (fun w => c w.2)]
    · show _ = if actB e (rAS e u p h s p) p h t = true ∧ s.2.2.2.1 t = 0 then _ else _
      by_cases c : actB e (rAS e u p h s p) p h t = true ∧ s.2.2.2.1 t = 0
      · rw [if_pos c, if_pos ⟨ht, c⟩]
      · rw [if_neg c, if_neg (fun w => c w.2)]
    · show _ = if actB e (rAS e u p h s p) p h t = true ∧ s.2.2.2.1 t = 0 then _ else _
      by_cases c : actB e (rAS e u p h s p) p h t = true ∧ s.2.2.2.1 t = 0
      · rw [if_pos c, if_pos ⟨ht, c⟩]
      · rw [if_neg c, if_neg (fun w => c w.2)]
  · unfold wfr at hc
    rw [YA c (by unfold tfr; omega) (by unfold vfr; omega), a2 c (by omega) (by omega) (by omega) (by omega)]
  · rw [y3 k hk, D5]
  · rw [YA 14 (by unfold tfr; omega) (by unfold vfr; omega), a3 q hq]
