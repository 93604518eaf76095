/-- a thing that happens once in 48 hours, 99: never -/
def OE (f : Nat → Nat) : Prop := f 0 = 99 ∧ ∀ h, h < 48 → (f h ≠ 99 → f (h + 1) = f h) ∧ (f h = 99 → f (h + 1) = 99 ∨ f (h + 1) = h)
theorem OE.lt {f : Nat → Nat} (H : OE f) : ∀ h, h ≤ 48 → f h = 99 ∨ f h < h := by
  intro h
  induction h with
  | zero => intro _; exact Or.inl H.1
  | succ h ih =>
    intro hh
    have g := H.2 h (by omega)
    by_cases c : f h = 99
    · rcases g.2 c with w | w
      · exact Or.inl w
      · exact Or.inr (by omega)
    · have w := g.1 c
      rcases ih (by omega) with v | v
      · exact absurd v c
      · exact Or.inr (by omega)
theorem OE.on {f : Nat → Nat} (H : OE f) : ∀ r h, h + r ≤ 48 → (f h ≠ 99 ∧ f (h + r) = f h) ∨ (f h = 99 ∧ h ≤ f (h + r)) := by
  intro r
  induction r with
  | zero =>
    intro h hh
    by_cases c : f h = 99
    · exact Or.inr ⟨c, by rw [Nat.add_zero, c]; omega⟩
    · exact Or.inl ⟨c, rfl⟩
  | succ r ih =>
    intro h hh
    have g := H.2 (h + r) (by omega)
    rw [← Nat.add_assoc]
    rcases ih h (by omega) with ⟨v1, v2⟩ | ⟨v1, v2⟩
    · exact Or.inl ⟨v1, by rw [g.1 (by rw [v2]; exact v1), v2]⟩
    · refine Or.inr ⟨v1, ?_⟩
      by_cases c : f (h + r) = 99
      · rcases g.2 c with w | w <;> omega
      · rw [g.1 c]
        exact v2
theorem OE.fin {f : Nat → Nat} (H : OE f) {h : Nat} (hh : h < 48) : f 48 ≤ h ↔ f (h + 1) ≠ 99 := by
  have a := H.on (48 - (h + 1)) (h + 1) (by omega)
  rw [show h + 1 + (48 - (h + 1)) = 48 by omega] at a
  rcases a with ⟨v1, v2⟩ | ⟨v1, v2⟩
  · rcases H.lt (h + 1) (by omega) with w | w
    · exact absurd w v1
    · exact ⟨fun _ => v1, fun _ => by omega⟩
  · exact ⟨fun w => absurd w (by omega), fun w => absurd v1 w⟩
theorem jsB_li {e : ET} {u : Nat → Nat} {s : CS} {h k n : Nat} (H : jsB e u s h k n = true) : liB e s h n = true := by
  unfold jsB at H
  rw [List.any_eq_true] at H
  obtain ⟨j, -, q⟩ := H
  rw [Bool.and_eq_true, Bool.and_eq_true] at q
  exact q.1.2
theorem vis_r {e : ET} {u : Nat → Nat} {p h : Nat} {s : CS} (q n : Nat) : (s.1 q n ≠ 99 → (visS e u p h s).1 q n = s.1 q n) ∧ (s.1 q n = 99 → (visS e u p h s).1 q n = 99 ∨ (visS e u p h s).1 q n = h) ∧ (q ≠ p → (visS e u p h s).1 q n = s.1 q n) := by
  show (s.1 q n ≠ 99 → rAS e u p h s q n = s.1 q n) ∧ (s.1 q n = 99 → rAS e u p h s q n = 99 ∨ rAS e u p h s q n = h) ∧ (q ≠ p → rAS e u p h s q n = s.1 q n)
  unfold rAS
  by_cases c : q = p ∧ jsB e u s h (e.2.2.1 3 p) n = true ∧ s.1 p n = 99
  · rw [if_pos c]
    refine ⟨fun w => ?_, fun _ => Or.inr rfl, fun w => absurd c.1 w⟩
    rw [c.1] at w
    exact absurd c.2.2 w
  · rw [if_neg c]
    exact ⟨fun _ => rfl, fun w => Or.inl w, fun _ => rfl⟩
theorem vis_t {e : ET} {u : Nat → Nat} {p h : Nat} {s : CS} (n : Nat) : (s.2.1 n ≠ 99 → (visS e u p h s).2.1 n = s.2.1 n) ∧ (s.2.1 n = 99 → (visS e u p h s).2.1 n = 99 ∨ (visS e u p h s).2.1 n = h) := by
  show (s.2.1 n ≠ 99 → (if jsB e u s h (e.2.2.1 3 p) n = true ∧ takB e p h n = true then h else s.2.1 n) = s.2.1 n) ∧ (s.2.1 n = 99 → (if jsB e u s h (e.2.2.1 3 p) n = true ∧ takB e p h n = true then h else s.2.1 n) = 99 ∨ (if jsB e u s h (e.2.2.1 3 p) n = true ∧ takB e p h n = true then h else s.2.1 n) = h)
  by_cases c : jsB e u s h (e.2.2.1 3 p) n = true ∧ takB e p h n = true
  · rw [if_pos c]
    refine ⟨fun w => ?_, fun _ => Or.inr rfl⟩
    have := jsB_li c.1
    unfold liB at this
    rw [Bool.and_eq_true, decide_eq_true_eq] at this
    exact absurd this.2 w
  · rw [if_neg c]
    exact ⟨fun _ => rfl, fun w => Or.inl w⟩
theorem vis_c {e : ET} {u : Nat → Nat} {p h : Nat} {s : CS} (t : Nat) : (visS e u p h s).2.2.2.1 t ≤ s.2.2.2.1 t + 1 := by
  show (if actB e (rAS e u p h s p) p h t = true then s.2.2.2.1 t + 1 else s.2.2.2.1 t) ≤ _
  split <;> omega
theorem ppl_f {e : ET} {u : Nat → Nat} {h : Nat} {s : CS} : ∀ p, (∀ q n, (s.1 q n ≠ 99 → (pplS e u h s p).1 q n = s.1 q n) ∧ (s.1 q n = 99 → (pplS e u h s p).1 q n = 99 ∨ (pplS e u h s p).1 q n = h)) ∧ (∀ n, (s.2.1 n ≠ 99 → (pplS e u h s p).2.1 n = s.2.1 n) ∧ (s.2.1 n = 99 → (pplS e u h s p).2.1 n = 99 ∨ (pplS e u h s p).2.1 n = h)) ∧ ∀ t, (pplS e u h s p).2.2.2.1 t ≤ s.2.2.2.1 t + p := by
  intro p
  induction p with
  | zero => exact ⟨fun q n => ⟨fun _ => rfl, fun w => Or.inl w⟩, fun n => ⟨fun _ => rfl, fun w => Or.inl w⟩, fun t => Nat.le_refl _⟩
  | succ p ih =>
    obtain ⟨i1, i2, i3⟩ := ih
    by_cases c : coP e p h
    · have e1 : pplS e u h s (p + 1) = visS e u p h (pplS e u h s p) := by
        show (if coP e p h then _ else _) = _
        rw [if_pos c]
      rw [e1]
      refine ⟨fun q n => ?_, fun n => ?_, fun t => ?_⟩
      · obtain ⟨v1, v2, -⟩ := vis_r (e := e) (u := u) (p := p) (h := h) (s := pplS e u h s p) q n
        refine ⟨fun w => ?_, fun w => ?_⟩
        · have := (i1 q n).1 w
          rw [v1 (by rw [this]; exact w), this]
        · rcases (i1 q n).2 w with g | g
          · exact v2 g
          · by_cases c9 : (pplS e u h s p).1 q n = 99
            · exact v2 c9
            · rw [v1 c9]
              exact Or.inr g
      · obtain ⟨v1, v2⟩ := vis_t (e := e) (u := u) (p := p) (h := h) (s := pplS e u h s p) n
        refine ⟨fun w => ?_, fun w => ?_⟩
        · have := (i2 n).1 w
          rw [v1 (by rw [this]; exact w), this]
        · by_cases c9 : (pplS e u h s p).2.1 n = 99
          · exact v2 c9
          · rw [v1 c9]
            exact (i2 n).2 w
      · have := vis_c (e := e) (u := u) (p := p) (h := h) (s := pplS e u h s p) t
        have := i3 t
        omega
    · have e1 : pplS e u h s (p + 1) = pplS e u h s p := by
        show (if coP e p h then _ else _) = _
        rw [if_neg c]
      rw [e1]
      exact ⟨i1, i2, fun t => by have := i3 t; omega⟩
theorem ppl_row {e : ET} {u : Nat → Nat} {h : Nat} {s : CS} {q n : Nat} : ∀ r, (pplS e u h s (q + 1 + r)).1 q n = (pplS e u h s (q + 1)).1 q n := by
  intro r
  induction r with
  | zero => rfl
  | succ r ih =>
    rw [← ih, ← Nat.add_assoc]
    show (if coP e (q + 1 + r) h then visS e u (q + 1 + r) h (pplS e u h s (q + 1 + r)) else pplS e u h s (q + 1 + r)).1 q n = _
    by_cases c : coP e (q + 1 + r) h
    · rw [if_pos c]
      exact (vis_r q n).2.2 (by omega)
    · rw [if_neg c]
theorem hrs_c {e : ET} {u : Nat → Nat} (p5 : e.1 ≤ 5) (t : Nat) : ∀ h, (hrsS e u h).2.2.2.1 t ≤ 5 * h := by
  intro h
  induction h with
  | zero => exact Nat.le_refl _
  | succ h ih =>
    have := (ppl_f (e := e) (u := u) (h := h) (s := hrsS e u h) e.1).2.2 t
    show (pplS e u h (hrsS e u h) e.1).2.2.2.1 t ≤ _
    omega
theorem read_OE (e : ET) (u : Nat → Nat) (q n : Nat) : OE (fun h => (hrsS e u h).1 q n) := ⟨rfl, fun h _ => (ppl_f (e := e) (u := u) (h := h) (s := hrsS e u h) e.1).1 q n⟩
theorem take_OE (e : ET) (u : Nat → Nat) (n : Nat) : OE (fun h => (hrsS e u h).2.1 n) := ⟨rfl, fun h _ => (ppl_f (e := e) (u := u) (h := h) (s := hrsS e u h) e.1).2.1 n⟩
/-- what the people's hour does not touch -/
def pfr (c : Nat) : Prop := wfr c ∧ ¬ (60 ≤ c ∧ c < 65)
theorem IX.kn {A : Mem} {e : ET} {s : CS} {p : Nat} (H : IX A e s) (n10 : e.2.1 ≤ 10) (hp : p < e.1) : A 14 p = mk (fun n => decide (s.1 p n ≠ 99)) e.2.1 := mk_of (by omega) (fun i hi => H.2.1 p hp i hi)
theorem ppl_ok {X : Mem} {e : ET} {u : Nat → Nat} {s : CS} {ru h : Nat} {k : Mem → Option Mem} (ok : Eok e) (hX : XE X e ru) (hI : IX X e s) (hh : h < 48) (hu : ∀ j, j < e.2.1 → X 13 j = nI (u j) ∧ u j < e.2.1) (hb : ∀ t, t < 4 → s.2.2.2.1 t < 900) : ∃ Y, f_X0_run_24 (nI h) (mk (fun n => thB e n h) e.2.1) k FU 0 X = k Y ∧ IX Y e (pplS e u h s e.1) ∧ (∀ c, pfr c → Y c = X c) ∧ (∀ j, j ≠ 15 → Y 5 j = X 5 j) ∧ (∀ q, q < e.1 → (∀ g, g ≠ h → Y (60 + q) g = X (60 + q) g) ∧ Y (60 + q) h = mk (fun n => decide ((pplS e u h s e.1).1 q n ≠ 99)) e.2.1) := by
  have p5 := ok.1
  have n10 := ok.2.1
  obtain ⟨Y, y1, y2, y3, y4, y5⟩ := lp0 (F := fun fu x A => f_X0_run_24 (nI h) (mk (fun n => thB e n h) e.2.1) k fu x A) (a := X) k e.1 (fun p A => IX A e (pplS e u h s p) ∧ (∀ c, pfr c → A c = X c) ∧ (∀ j, j ≠ 15 → A 5 j = X 5 j) ∧ ∀ q, q < e.1 → (∀ g, g ≠ h → A (60 + q) g = X (60 + q) g) ∧ (q < p → A (60 + q) h = mk (fun n => decide ((pplS e u h s (q + 1)).1 q n ≠ 99)) e.2.1)) ⟨hI, fun _ _ => rfl, fun _ _ => rfl, fun q hq => ⟨fun _ _ => rfl, fun w => absurd w (Nat.not_lt_zero _)⟩⟩ (fun fu p A hp hJ => by
    obtain ⟨f1, f2, f3, f4⟩ := hJ
    show ∃ a', f_X0_run_24 (nI h) (mk (fun n => thB e n h) e.2.1) k (fu + 1) (nI p) A = f_X0_run_24 (nI h) (mk (fun n => thB e n h) e.2.1) k fu (nI (p + 1)) a' ∧ _
    have hA : XE A e ru := hX.cg ok (by rw [f2 1 (by unfold pfr wfr; omega)]) (by rw [f2 1 (by unfold pfr wfr; omega)]) (by rw [f2 1 (by unfold pfr wfr; omega)]) (fun c hc => f2 c (by unfold pfr wfr; omega))
    have xp := hA.2.2.1 p hp
    have rcc : ∀ B : Mem, IX B e (pplS e u h s (p + 1)) → (∀ c, wfr c → B c = A c) → (∀ j, j ≠ 15 → B 5 j = A 5 j) → (IX (upd2 B (60 + p) h (B 14 p)) e (pplS e u h s (p + 1)) ∧ (∀ c, pfr c → upd2 B (60 + p) h (B 14 p) c = X c) ∧ (∀ j, j ≠ 15 → upd2 B (60 + p) h (B 14 p) 5 j = X 5 j) ∧ ∀ q, q < e.1 → (∀ g, g ≠ h → upd2 B (60 + p) h (B 14 p) (60 + q) g = X (60 + q) g) ∧ (q < p + 1 → upd2 B (60 + p) h (B 14 p) (60 + q) h = mk (fun n => decide ((pplS e u h s (q + 1)).1 q n ≠ 99)) e.2.1)) := by
      intro B b1 b2 b3
      refine ⟨b1.cg ok (by rw [u2n (by omega)]) (fun c hc => u2n (by omega)), fun c hc => ?_, fun j hj => ?_, fun q hq => ⟨fun g hg => ?_, fun hqp => ?_⟩⟩
      · have hc2 := hc.2
        rw [u2n (by omega), b2 c hc.1, f2 c hc]
      · rw [u2n (by omega), b3 j hj, f3 j hj]
      · rw [u2q hg, b2 (60 + q) (by unfold wfr; omega)]
        exact (f4 q hq).1 g hg
      · by_cases c : q = p
        · subst c
          rw [u2s, b1.kn n10 hp]
        · rw [u2n (by omega), b2 (60 + q) (by unfold wfr; omega)]
          exact (f4 q hq).2 (by omega)
    have hrow : f_X0_run_24 (nI h) (mk (fun n => thB e n h) e.2.1) k (fu + 1) (nI p) A = if coB e h p = true then Option.bind (f_X0_visit A (nI p) (nI h) ((mk (fun n => thB e n h) e.2.1) &&& ((A 5 15) ^^^ (-1)))) fun r_22 => f_X0_run_24 (nI h) (mk (fun n => thB e n h) e.2.1) k fu (nI (p + 1)) (upd2 r_22 (60 + p) h (r_22 14 p)) else f_X0_run_24 (nI h) (mk (fun n => thB e n h) e.2.1) k fu (nI (p + 1)) (upd2 A (60 + p) h (A 14 p)) := by
      rw [f_X0_run_24, hA.1, if_neg (show ¬ nI e.1 ≤ nI p from (by simp (disch := omega) only [fa_lt, fa_le, fa_eq, nI_toInt, Int32.reduceToInt, im1] <;> omega))]
      simp only [if_pos (iblt (show p < 5 by omega) (by decide)), if_pos (iblt hh (by decide)), nI_clamp (show p < 2 ^ 31 by omega), nI_clamp (show h < 2 ^ 31 by omega), nI_1]
      rw [xco ok ⟨xp.1, xp.2.1⟩ hp hh, Option.bind_some]
      by_cases c : coB e h p = true
      · rw [if_pos c, if_neg t10, if_pos c]
      · rw [if_neg c, if_pos t00, if_neg c]
    rw [hrow]
    have hs1 : pplS e u h s (p + 1) = if coP e p h then visS e u p h (pplS e u h s p) else pplS e u h s p := rfl
    by_cases c : coP e p h
    · have hcb : coB e h p = true := decide_eq_true c
      rw [if_pos hcb]
      obtain ⟨B, b1, b2, b3, b4, -⟩ := visit_ok (u := u) (ly := (mk (fun n => thB e n h) e.2.1) &&& ((A 5 15) ^^^ (-1))) ok hA f1 hp hh (fun j hj => by rw [f2 13 (by unfold pfr wfr; omega)]; exact hu j hj) (fun n hn => by
        rw [b_and, bt_mk _ _ (by omega) _ (by omega), bt_not (by omega), f1.1 n (by omega), decide_eq_true hn, Bool.true_and, Bool.true_and]
        unfold liB
        by_cases c9 : (pplS e u h s p).2.1 n = 99
        · simp [c9]
        · simp [c9]) (fun t ht => by
        have := (ppl_f (e := e) (u := u) (h := h) (s := s) p).2.2 t
        have := hb t ht
        omega)
      rw [b1, Option.bind_some]
      rw [if_pos c] at hs1
      exact ⟨_, rfl, rcc B (by rw [hs1]; exact b2) b3 b4⟩
    · have hcb : ¬ coB e h p = true := by
        unfold coB
        rw [decide_eq_true_eq]
        exact c
      rw [if_neg hcb]
      rw [if_neg c] at hs1
      exact ⟨_, rfl, rcc A (by rw [hs1]; exact f1) (fun _ _ => rfl) (fun _ _ => rfl)⟩) (fun fu A hJ => by
    show f_X0_run_24 (nI h) (mk (fun n => thB e n h) e.2.1) k (fu + 1) (nI e.1) A = _
    rw [f_X0_run_24, hJ.2.1 1 (by unfold pfr wfr; omega), hX.1, if_pos (show nI e.1 ≤ nI e.1 from (by simp (disch := omega) only [fa_lt, fa_le, fa_eq, nI_toInt, Int32.reduceToInt, im1] <;> omega))]) (by omega)
  refine ⟨Y, y1, y2, y3, y4, fun q hq => ⟨(y5 q hq).1, ?_⟩⟩
  rw [(y5 q hq).2 hq]
  refine mk_cg (by omega) (fun i hi => ?_)
  have := ppl_row (e := e) (u := u) (h := h) (s := s) (q := q) (n := i) (e.1 - (q + 1))
  rw [show q + 1 + (e.1 - (q + 1)) = e.1 by omega] at this
  rw [this]
theorem hours_ok {X : Mem} {e : ET} {u : Nat → Nat} {ru : Nat} (ok : Eok e) (hX : XE X e ru) (hI : IX X e CS0) (hu : ∀ j, j < e.2.1 → X 13 j = nI (u j) ∧ u j < e.2.1) : ∃ Y, f_X0_run_10 FU 0 X = some Y ∧ Fr X Y ∧ Y 5 0 = 0 ∧ CK Y e (hrsS e u 48) := by
  have p5 := ok.1
  have n10 := ok.2.1
  obtain ⟨Y, y1, y2, y3, y4, y5, y6⟩ := lp0 (F := fun fu x A => f_X0_run_10 fu x A) (a := X) (fun A => some (upd2 A 5 0 0)) 48 (fun h A => IX A e (hrsS e u h) ∧ Fr X A ∧ (∀ j, j < e.2.1 → A 13 j = nI (u j) ∧ u j < e.2.1) ∧ (∀ g, g < h → A 6 g = mk (fun n => thB e n g && decide ((hrsS e u (g + 1)).2.1 n = 99)) e.2.1) ∧ ∀ q g, q < e.1 → g < h → A (60 + q) g = mk (fun n => decide ((hrsS e u (g + 1)).1 q n ≠ 99)) e.2.1) ⟨hI, Fr.rf, hu, fun _ w => absurd w (Nat.not_lt_zero _), fun _ _ _ w => absurd w (Nat.not_lt_zero _)⟩ (fun fu h A hh hJ => by
    obtain ⟨f1, f2, f3, f4, f5⟩ := hJ
    have hA : XE A e ru := hX.fr ok f2
    obtain ⟨B, b1, b2, b3, b4, b5⟩ := ppl_ok (s := hrsS e u h) (k := fun M_28 => (if ibd (nI h) 48 then (f_X0_run_10 fu (nI h + 1) (upd2 M_28 6 (Int32.toNatClampNeg (nI h)) (((mk (fun n => thB e n h) e.2.1) &&& ((M_28 5 15) ^^^ (-1)))))) else none)) ok hA f1 hh f3 (fun t ht => by have := hrs_c (e := e) (u := u) p5 t h; omega)
    refine ⟨upd2 B 6 h ((mk (fun n => thB e n h) e.2.1) &&& ((B 5 15) ^^^ (-1))), ?_, b2.cg ok (by rw [u2n (by omega)]) (fun c hc => u2n (by omega)), fun c hc => ?_, fun j hj => ?_, fun g hg => ?_, fun q g hq hg => ?_⟩
    · show f_X0_run_10 (fu + 1) (nI h) A = _
      rw [f_X0_run_10, if_neg (show ¬ 48 ≤ nI h from (by simp (disch := omega) only [fa_lt, fa_le, fa_eq, nI_toInt, Int32.reduceToInt, im1] <;> omega)), put_ok ok hA.n hh, Option.bind_some, b1, if_pos (iblt hh (by decide)), nI_clamp (by omega), nI_1]
    · have hc2 := hc
      unfold crs at hc2
      rw [u2n (by omega), b3 c (by unfold pfr wfr; omega)]
      exact f2 c hc
    · rw [u2n (by omega), b3 13 (by unfold pfr wfr; omega)]
      exact f3 j hj
    · by_cases c : g = h
      · subst c
        rw [u2s]
        refine mk_of (by omega) (fun i hi => ?_)
        rw [b_and, bt_mk _ _ (by omega) _ hi, bt_not hi, b2.1 i hi]
        show _ = (decide (i < e.2.1) && (thB e i g && decide ((pplS e u g (hrsS e u g) e.1).2.1 i = 99)))
        by_cases c9 : (pplS e u g (hrsS e u g) e.1).2.1 i = 99
        · simp [c9]
        · by_cases ci : i < e.2.1
          · simp [c9, ci]
          · simp [c9, ci]
      · rw [u2t c, b3 6 (by unfold pfr wfr; omega)]
        exact f4 g (by omega)
    · rw [u2n (by omega)]
      by_cases c : g = h
      · subst c
        exact (b5 q hq).2
      · rw [(b5 q hq).1 g c]
        exact f5 q g hq (by omega)) (fun fu A hJ => by
    show f_X0_run_10 (fu + 1) (nI 48) A = _
    rw [f_X0_run_10, if_pos (show 48 ≤ nI 48 by decide)]) (by decide)
  have y2' := y2.cg (Y := upd2 Y 5 0 0) ok (by rw [u2t (by decide)]) (fun c hc => u2n (by omega))
  obtain ⟨z1, z2, z3, z4, z5, z6⟩ := y2'
  refine ⟨upd2 Y 5 0 0, y1, fun c hc => ?_, u2s, fun h hh => ?_, fun p h hp hh => ?_, z3, z5, z6⟩
  · have hc2 := hc
    unfold crs at hc2
    rw [u2n (by omega)]
    exact y3 c hc
  · rw [u2n (by omega), y5 h hh]
    unfold lyM
    refine mk_cg (by omega) (fun i hi => ?_)
    have := (take_OE e u i).fin hh
    by_cases c : (hrsS e u (h + 1)).2.1 i = 99
    · rw [decide_eq_true c, decide_eq_true (show h < (hrsS e u 48).2.1 i by
        rcases Nat.lt_or_ge h ((hrsS e u 48).2.1 i) with w | w
        · exact w
        · exact absurd c (this.mp w))]
    · rw [decide_eq_false c, decide_eq_false (show ¬ h < (hrsS e u 48).2.1 i from Nat.not_lt.mpr (this.mpr c))]
  · rw [u2n (by omega), y6 p h hp hh]
    unfold knM
    refine mk_cg (by omega) (fun i hi => ?_)
    exact decide_eq_decide.mpr ((read_OE e u p i).fin hh).symm
/-- a run of the class -/
theorem run_ok {X : Mem} {e : ET} {ru : Nat} (ok : Eok e) (hX : XE X e ru) : ∃ Y u, f_X0_run X = some Y ∧ SP e u ∧ CK Y e (hrsS e u 48) ∧ Fr X Y ∧ Y 5 0 = 0 := by
  obtain ⟨A, a1, a2, a3⟩ := clear_ok (X := X) ok
  have hA := hX.fr ok a2
  obtain ⟨B, u, b1, b2, b3, b4⟩ := sort_ok ok hA.n
  have fB : Fr A B := fun c hc => b2 c (by unfold crs at hc; omega)
  obtain ⟨Y, y1, y2, y3, y4⟩ := hours_ok (u := u) ok (hA.fr ok fB) (a3.cg ok (by rw [b2 5 (by decide)]) (fun c hc => b2 c (by omega))) (fun j hj => ⟨b3 j hj, b4.1 j hj⟩)
  refine ⟨Y, u, ?_, b4, y4, ((show Fr X A from a2).tr fB).tr y2, y3⟩
  unfold f_X0_run
  rw [a1, Option.bind_some, b1, Option.bind_some]
  exact y1
