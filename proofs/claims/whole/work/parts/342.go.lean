theorem Bd_hrs {e : ET} {u : Nat → Nat} (p5 : e.1 ≤ 5) {h : Nat} (hh : h ≤ 48) : Bd (hrsS e u h) := by
  refine ⟨fun q n => ?_, fun n => ?_, fun t => ?_⟩
  · rcases (read_OE e u q n).lt h hh with w | w
    · exact Or.inl w
    · have w : (hrsS e u h).1 q n < h := w
      exact Or.inr (by omega)
  · rcases (take_OE e u n).lt h hh with w | w
    · exact Or.inl w
    · have w : (hrsS e u h).2.1 n < h := w
      exact Or.inr (by omega)
  · have := hrs_c (e := e) (u := u) p5 t h
    omega
theorem Bd_ppl {e : ET} {u : Nat → Nat} (p5 : e.1 ≤ 5) {h p : Nat} (hh : h < 48) (hp : p ≤ 5) : Bd (pplS e u h (hrsS e u h) p) := by
  have B := Bd_hrs (e := e) (u := u) p5 (show h ≤ 48 by omega)
  obtain ⟨f1, f2, f3⟩ := ppl_f (e := e) (u := u) (h := h) (s := hrsS e u h) p
  refine ⟨fun q n => ?_, fun n => ?_, fun t => ?_⟩
  · by_cases c : (hrsS e u h).1 q n = 99
    · rcases (f1 q n).2 c with w | w
      · exact Or.inl w
      · exact Or.inr (by omega)
    · rw [(f1 q n).1 c]
      exact B.1 q n
  · by_cases c : (hrsS e u h).2.1 n = 99
    · rcases (f2 n).2 c with w | w
      · exact Or.inl w
      · exact Or.inr (by omega)
    · rw [(f2 n).1 c]
      exact B.2.1 n
  · have := hrs_c (e := e) (u := u) p5 t h
    have := f3 t
    omega
theorem go2 {M : Mem} {K : Mem → Option Mem} : ∃ A, f_X11_go_2 K FU 0 M = K A ∧ (∀ c, c ≠ 15 → A c = M c) ∧ ∀ j, j < 50 → A 15 j = -1 := by
  have h := lp0 (F := fun fu x A => f_X11_go_2 K fu x A) (a := M) K 50 (fun q A => (∀ c, c ≠ 15 → A c = M c) ∧ ∀ j, j < q → A 15 j = -1) ⟨fun _ _ => rfl, fun _ w => absurd w (Nat.not_lt_zero _)⟩ (fun fu q A hq hI => by
    refine ⟨upd2 A 15 q (-1), ?_, fun c hc => by rw [u2n hc]; exact hI.1 c hc, fun j hj => ?_⟩
    · show f_X11_go_2 K (fu + 1) (nI q) A = _
      rw [f_X11_go_2, if_neg (show ¬ 50 ≤ nI q from (by simp (disch := omega) only [fa_lt, fa_le, fa_eq, nI_toInt, Int32.reduceToInt, im1] <;> omega)), if_pos (iblt hq (by decide)), nI_clamp (by omega), nI_1]
    · by_cases c : j = q
      · rw [c, u2s]
      · rw [u2t c]
        exact hI.2 j (by omega)) (fun fu A hI => by
    show f_X11_go_2 K (fu + 1) (nI 50) A = _
    rw [f_X11_go_2, if_pos (show 50 ≤ nI 50 by decide)]) (by decide)
  exact h
theorem go23 {M : Mem} {K : Mem → Option Mem} : ∃ A, f_X11_go_23 K FU 0 M = K A ∧ (∀ c, c ≠ 16 → A c = M c) ∧ ∀ j, j < 20 → A 16 j = 0 := by
  have h := lp0 (F := fun fu x A => f_X11_go_23 K fu x A) (a := M) K 20 (fun q A => (∀ c, c ≠ 16 → A c = M c) ∧ ∀ j, j < q → A 16 j = 0) ⟨fun _ _ => rfl, fun _ w => absurd w (Nat.not_lt_zero _)⟩ (fun fu q A hq hI => by
    refine ⟨upd2 A 16 q 0, ?_, fun c hc => by rw [u2n hc]; exact hI.1 c hc, fun j hj => ?_⟩
    · show f_X11_go_23 K (fu + 1) (nI q) A = _
      rw [f_X11_go_23, if_neg (show ¬ 20 ≤ nI q from (by simp (disch := omega) only [fa_lt, fa_le, fa_eq, nI_toInt, Int32.reduceToInt, im1] <;> omega)), if_pos (iblt hq (by decide)), nI_clamp (by omega), nI_1]
    · by_cases c : j = q
      · rw [c, u2s]
      · rw [u2t c]
        exact hI.2 j (by omega)) (fun fu A hI => by
    show f_X11_go_23 K (fu + 1) (nI 20) A = _
    rw [f_X11_go_23, if_pos (show 20 ≤ nI 20 by decide)]) (by decide)
  exact h
theorem go44 {M : Mem} {K : Mem → Option Mem} : ∃ A, f_X11_go_44 K FU 0 M = K A ∧ (∀ c, ¬ (17 ≤ c ∧ c < 20) → A c = M c) ∧ ∀ j, j < 4 → A 17 j = 0 ∧ A 18 j = -1 ∧ A 19 j = -1 := by
  have h := lp0 (F := fun fu x A => f_X11_go_44 K fu x A) (a := M) K 4 (fun q A => (∀ c, ¬ (17 ≤ c ∧ c < 20) → A c = M c) ∧ ∀ j, j < q → A 17 j = 0 ∧ A 18 j = -1 ∧ A 19 j = -1) ⟨fun _ _ => rfl, fun _ w => absurd w (Nat.not_lt_zero _)⟩ (fun fu q A hq hI => by
    refine ⟨upd2 (upd2 (upd2 A 17 q 0) 18 q (-1)) 19 q (-1), ?_, fun c hc => by rw [u2n (by omega), u2n (by omega), u2n (by omega)]; exact hI.1 c hc, fun j hj => ?_⟩
    · show f_X11_go_44 K (fu + 1) (nI q) A = _
      rw [f_X11_go_44, if_neg (show ¬ 4 ≤ nI q from (by simp (disch := omega) only [fa_lt, fa_le, fa_eq, nI_toInt, Int32.reduceToInt, im1] <;> omega))]
      simp only [if_pos (iblt hq (by decide)), nI_clamp (show q < 2 ^ 31 by omega), nI_1]
    · by_cases c : j = q
      · rw [c]
        simp (disch := omega) only [u2n, u2s]
        exact ⟨trivial, trivial, trivial⟩
      · simp (disch := omega) only [u2n, u2t]
        exact hI.2 j (by omega)) (fun fu A hI => by
    show f_X11_go_44 K (fu + 1) (nI 4) A = _
    rw [f_X11_go_44, if_pos (show 4 ≤ nI 4 by decide)]) (by decide)
  exact h
theorem go78 {M : Mem} {K : Mem → Option Mem} : ∃ A, f_X11_go_78 K FU 0 M = K A ∧ (∀ c, c ≠ 20 → A c = M c) ∧ ∀ j, j < 10 → A 20 j = -1 := by
  have h := lp0 (F := fun fu x A => f_X11_go_78 K fu x A) (a := M) K 10 (fun q A => (∀ c, c ≠ 20 → A c = M c) ∧ ∀ j, j < q → A 20 j = -1) ⟨fun _ _ => rfl, fun _ w => absurd w (Nat.not_lt_zero _)⟩ (fun fu q A hq hI => by
    refine ⟨upd2 A 20 q (-1), ?_, fun c hc => by rw [u2n hc]; exact hI.1 c hc, fun j hj => ?_⟩
    · show f_X11_go_78 K (fu + 1) (nI q) A = _
      rw [f_X11_go_78, if_neg (show ¬ 10 ≤ nI q from (by simp (disch := omega) only [fa_lt, fa_le, fa_eq, nI_toInt, Int32.reduceToInt, im1] <;> omega)), if_pos (iblt hq (by decide)), nI_clamp (by omega), nI_1]
    · by_cases c : j = q
      · rw [c, u2s]
      · rw [u2t c]
        exact hI.2 j (by omega)) (fun fu A hI => by
    show f_X11_go_78 K (fu + 1) (nI 10) A = _
    rw [f_X11_go_78, if_pos (show 10 ≤ nI 10 by decide)]) (by decide)
  exact h
theorem gppl_ok {M : Mem} {e : ET} {u : Nat → Nat} {ru h : Nat} {K : Mem → Option Mem} (ok : Eok e) (hS : SP e u) (hM : ME M e ru) (hK : MK M e (hrsS e u h)) (hh : h < 48) : ∃ Y, f_X11_go_107 (nI h) K FU 0 M = K Y ∧ MK Y e (hrsS e u (h + 1)) ∧ ∀ c, ¬ (14 ≤ c ∧ c < 21) → Y c = M c := by
  have n10 := ok.2.1
  have p5 := ok.1
  refine lp0 (F := fun fu x A => f_X11_go_107 (nI h) K fu x A) (a := M) K e.1 (fun q A => MK A e (pplS e u h (hrsS e u h) q) ∧ ∀ c, ¬ (14 ≤ c ∧ c < 21) → A c = M c) ⟨hK, fun _ _ => rfl⟩ (fun fu q A hq hI => ?_) (fun fu A hI => ?_) (by omega)
  · obtain ⟨f1, f2⟩ := hI
    have hA : ME A e ru := hM.fr (fun c hc => f2 c (by omega))
    have mp := hA.2.2.1 q hq
    have hs1 : pplS e u h (hrsS e u h) (q + 1) = if coP e q h then visS e u q h (pplS e u h (hrsS e u h) q) else pplS e u h (hrsS e u h) q := rfl
    show ∃ a', f_X11_go_107 (nI h) K (fu + 1) (nI q) A = f_X11_go_107 (nI h) K fu (nI (q + 1)) a' ∧ _
    rw [f_X11_go_107, hA.1, if_neg (show ¬ nI e.1 ≤ nI q from (by simp (disch := omega) only [fa_lt, fa_le, fa_eq, nI_toInt, Int32.reduceToInt, im1] <;> omega)), mco ok ⟨mp.1, mp.2.1⟩ hq hh, Option.bind_some, nI_1]
    by_cases c : coP e q h
    · rw [if_pos (show coB e h q = true from decide_eq_true c), if_neg t10]
      obtain ⟨Y, y1, y2, y3⟩ := come_ok ok hS hA f1 hq hh (Bd_ppl p5 hh (by omega))
      rw [y1, Option.bind_some, hs1, if_pos c]
      exact ⟨Y, rfl, y2, fun c hc => (y3 c hc).trans (f2 c hc)⟩
    · rw [if_neg (show ¬ coB e h q = true by unfold coB; rw [decide_eq_true_eq]; exact c), if_pos t00, hs1, if_neg c]
      exact ⟨A, rfl, f1, f2⟩
  · show f_X11_go_107 (nI h) K (fu + 1) (nI e.1) A = _
    rw [f_X11_go_107, hI.2 0 (by omega), hM.1, if_pos (show nI e.1 ≤ nI e.1 from (by simp (disch := omega) only [fa_lt, fa_le, fa_eq, nI_toInt, Int32.reduceToInt, im1] <;> omega))]
/-- the model's course -/
theorem go_ok {M : Mem} {e : ET} {u : Nat → Nat} {ru : Nat} (ok : Eok e) (hS : SP e u) (hM : ME M e ru) : ∃ Y, f_X11_go M = some Y ∧ MK Y e (hrsS e u 48) ∧ ∀ c, ¬ (14 ≤ c ∧ c < 21) → Y c = M c := by
  have n10 := ok.2.1
  have p5 := ok.1
  obtain ⟨A, a1, a2, a3⟩ := go2 (M := M) (K := fun M_7 => (f_X11_go_23 (fun M_14 => (f_X11_go_44 (fun M_23 => (f_X11_go_78 (fun M_30 => (f_X11_go_99 FU (0) M_30)) FU (0) M_23)) FU (0) M_14)) FU (0) M_7))
  obtain ⟨B, b1, b2, b3⟩ := go23 (M := A) (K := fun M_14 => (f_X11_go_44 (fun M_23 => (f_X11_go_78 (fun M_30 => (f_X11_go_99 FU (0) M_30)) FU (0) M_23)) FU (0) M_14))
  obtain ⟨C, c1, c2, c3⟩ := go44 (M := B) (K := fun M_23 => (f_X11_go_78 (fun M_30 => (f_X11_go_99 FU (0) M_30)) FU (0) M_23))
  obtain ⟨D, d1, d2, d3⟩ := go78 (M := C) (K := fun M_30 => (f_X11_go_99 FU (0) M_30))
  have hv9 : hv 99 = -1 := by unfold hv; rw [if_pos rfl]
  have DM : ∀ c, ¬ (14 ≤ c ∧ c < 21) → D c = M c := fun c hc => by rw [d2 c (by omega), c2 c (by omega), b2 c (by omega), a2 c (by omega)]
  have hD : MK D e (hrsS e u 0) := by
    refine ⟨fun p n hp hn => ?_, fun n hn => ?_, fun t p ht hp => ?_, fun t ht => ?_⟩
    · rw [d2 15 (by decide), c2 15 (by omega), b2 15 (by decide), a3 _ (by omega)]
      exact hv9.symm
    · rw [d3 n (by omega)]
      exact hv9.symm
    · rw [d2 16 (by decide), c2 16 (by omega), b3 _ (by omega)]
      rfl
    · rw [d2 17 (by decide), d2 18 (by decide), d2 19 (by decide), (c3 t ht).1, (c3 t ht).2.1, (c3 t ht).2.2]
      exact ⟨rfl, hv9.symm, hv9.symm⟩
  obtain ⟨Y, y1, y2, y3⟩ := lp0 (F := fun fu x A => f_X11_go_99 fu x A) (a := D) (fun A => some A) 48 (fun h A => MK A e (hrsS e u h) ∧ ∀ c, ¬ (14 ≤ c ∧ c < 21) → A c = D c) ⟨hD, fun _ _ => rfl⟩ (fun fu h A hh hI => by
    obtain ⟨f1, f2⟩ := hI
    obtain ⟨Y, y1, y2, y3⟩ := gppl_ok (K := fun M_44 => f_X11_go_99 fu (nI h + 1) M_44) ok hS (hM.fr (Y := A) (fun c hc => (f2 c (by omega)).trans (DM c (by omega)))) f1 hh
    refine ⟨Y, ?_, y2, fun c hc => (y3 c hc).trans (f2 c hc)⟩
    show f_X11_go_99 (fu + 1) (nI h) A = _
    rw [f_X11_go_99, if_neg (show ¬ 48 ≤ nI h from (by simp (disch := omega) only [fa_lt, fa_le, fa_eq, nI_toInt, Int32.reduceToInt, im1] <;> omega)), y1, nI_1]) (fun fu A hI => by
    show f_X11_go_99 (fu + 1) (nI 48) A = _
    rw [f_X11_go_99, if_pos (show 48 ≤ nI 48 by decide)]) (by decide)
  refine ⟨Y, ?_, y2, fun c hc => (y3 c hc).trans (DM c hc)⟩
  unfold f_X11_go
  rw [a1, b1, c1, d1]
  exact y1
