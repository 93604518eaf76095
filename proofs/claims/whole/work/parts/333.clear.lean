def crs (c : Nat) : Prop := (5 ≤ c ∧ c < 19) ∨ (60 ≤ c ∧ c < 74) ∨ (75 ≤ c ∧ c < 85)
/-- what the class holds between two visits -/
def IX (X : Mem) (e : ET) (s : CS) : Prop := (∀ i, i < 32 → bt (X 5 15) i = (decide (i < e.2.1) && decide (s.2.1 i ≠ 99))) ∧ (∀ p, p < e.1 → ∀ i, i < 32 → bt (X 14 p) i = (decide (i < e.2.1) && decide (s.1 p i ≠ 99))) ∧ (∀ p n, p < e.1 → n < e.2.1 → X (65 + p) n = hv (s.1 p n)) ∧ (∀ p t, p < e.1 → t < 4 → X (75 + p) t = nI (sumS e asS (s.1 p) t) ∧ X (80 + p) t = nI (sumS e teS (s.1 p) t)) ∧ (∀ t p, t < 4 → p < e.1 → X (70 + t) p = nI (s.2.2.1 p t)) ∧ (∀ t, t < 4 → X 10 t = nI (s.2.2.2.1 t) ∧ X 11 t = hv (s.2.2.2.2.1 t) ∧ X 12 t = hv (s.2.2.2.2.2 t))
theorem IX.cg {X Y : Mem} {e : ET} {s : CS} (h : IX X e s) (ok : Eok e) (h5 : Y 5 15 = X 5 15) (hc : ∀ c, (10 ≤ c ∧ c < 13) ∨ c = 14 ∨ (65 ≤ c ∧ c < 85 ∧ c ≠ 74) → Y c = X c) : IX Y e s := by
  have p5 := ok.1
  obtain ⟨a1, a2, a3, a4, a5, a6⟩ := h
  refine ⟨by rw [h5]; exact a1, by rw [hc 14 (by omega)]; exact a2, fun p n hp hn => ?_, fun p t hp ht => ?_, fun t p ht hp => ?_, by rw [hc 10 (by omega), hc 11 (by omega), hc 12 (by omega)]; exact a6⟩
  · rw [hc (65 + p) (by omega)]
    exact a3 p n hp hn
  · rw [hc (75 + p) (by omega), hc (80 + p) (by omega)]
    exact a4 p t hp ht
  · rw [hc (70 + t) (by omega)]
    exact a5 t p ht hp
theorem clr15 {X : Mem} {k : Mem → Option Mem} : ∃ A, f_X0_clear_15 k FU 0 X = k A ∧ (∀ c, ¬ ((65 ≤ c ∧ c < 70) ∨ (75 ≤ c ∧ c < 85)) → A c = X c) ∧ ∀ p, p < 5 → (∀ n, n < 10 → A (65 + p) n = -1) ∧ ∀ t, t < 4 → A (75 + p) t = 0 ∧ A (80 + p) t = 0 := by
  have h := lp0 (F := fun fu x A => f_X0_clear_15 k fu x A) (a := X) k 5 (fun q A => (∀ c, ¬ ((65 ≤ c ∧ c < 70) ∨ (75 ≤ c ∧ c < 85)) → A c = X c) ∧ ∀ p, p < q → (∀ n, n < 10 → A (65 + p) n = -1) ∧ ∀ t, t < 4 → A (75 + p) t = 0 ∧ A (80 + p) t = 0) ⟨fun _ _ => rfl, fun _ h => absurd h (Nat.not_lt_zero _)⟩ (fun fu q A hq hI => by
    obtain ⟨A1, e1, f1, g1, -⟩ := fill_ok A (65 + q) 10 (-1) (by decide)
    obtain ⟨A2, e2, f2, g2, -⟩ := fill_ok A1 (75 + q) 4 0 (by decide)
    obtain ⟨A3, e3, f3, g3, -⟩ := fill_ok A2 (80 + q) 4 0 (by decide)
    refine ⟨A3, ?_, fun c hc => ?_, fun p hp => ?_⟩
    · show f_X0_clear_15 k (fu + 1) (nI q) A = _
      rw [f_X0_clear_15, if_neg (show ¬ 5 ≤ nI q from (by simp (disch := omega) only [fa_lt, fa_le, fa_eq, nI_toInt, Int32.reduceToInt, im1] <;> omega))]
      simp only [if_pos (iblt hq (by decide)), nI_clamp (show q < 2 ^ 31 by omega), e1, e2, e3, Option.bind, nI_1]
    · rw [f3 c (by omega), f2 c (by omega), f1 c (by omega)]
      exact hI.1 c hc
    · by_cases c : p = q
      · subst c
        refine ⟨fun n hn => ?_, fun t ht => ⟨?_, g3 t ht⟩⟩
        · rw [f3 _ (by omega), f2 _ (by omega)]
          exact g1 n hn
        · rw [f3 _ (by omega)]
          exact g2 t ht
      · rw [f3 (65 + p) (by omega), f2 (65 + p) (by omega), f1 (65 + p) (by omega), f3 (75 + p) (by omega), f2 (75 + p) (by omega), f1 (75 + p) (by omega), f3 (80 + p) (by omega), f2 (80 + p) (by omega), f1 (80 + p) (by omega)]
        exact hI.2 p (by omega)) (fun fu A hI => by
    show f_X0_clear_15 k (fu + 1) (nI 5) A = _
    rw [f_X0_clear_15, if_pos (show 5 ≤ nI 5 by decide)]) (by decide)
  exact h
theorem clr58 {X : Mem} : ∃ A, f_X0_clear_58 FU 0 X = some A ∧ (∀ c, ¬ ((70 ≤ c ∧ c < 74) ∨ (10 ≤ c ∧ c < 13)) → A c = X c) ∧ (∀ t, t < 4 → ∀ p, p < 5 → A (70 + t) p = 0) ∧ ∀ t, t < 4 → A 10 t = 0 ∧ A 11 t = -1 ∧ A 12 t = -1 := by
  have h := lp0 (F := fun fu x A => f_X0_clear_58 fu x A) (a := X) (fun M_18 => (Option.bind (f_J7_fill_53178 M_18 10 4 (0)) fun r_21 => (Option.bind (f_J7_fill_53178 r_21 11 4 ((-1))) fun r_22 => (Option.bind (f_J7_fill_53178 r_22 12 4 ((-1))) fun r_23 => some (r_23))))) 4 (fun q A => (∀ c, ¬ (70 ≤ c ∧ c < 74) → A c = X c) ∧ ∀ t, t < q → ∀ p, p < 5 → A (70 + t) p = 0) ⟨fun _ _ => rfl, fun _ h => absurd h (Nat.not_lt_zero _)⟩ (fun fu q A hq hI => by
    obtain ⟨A1, e1, f1, g1, -⟩ := fill_ok A (70 + q) 5 0 (by decide)
    refine ⟨A1, ?_, fun c hc => ?_, fun p hp n hn => ?_⟩
    · show f_X0_clear_58 (fu + 1) (nI q) A = _
      rw [f_X0_clear_58, if_neg (show ¬ 4 ≤ nI q from (by simp (disch := omega) only [fa_lt, fa_le, fa_eq, nI_toInt, Int32.reduceToInt, im1] <;> omega))]
      simp only [if_pos (iblt hq (by decide)), nI_clamp (show q < 2 ^ 31 by omega), e1, Option.bind, nI_1]
    · rw [f1 c (by omega)]
      exact hI.1 c hc
    · by_cases c : p = q
      · subst c
        exact g1 n hn
      · rw [f1 (70 + p) (by omega)]
        exact hI.2 p (by omega) n hn) (fun fu A hI => by
    show f_X0_clear_58 (fu + 1) (nI 4) A = _
    rw [f_X0_clear_58, if_pos (show 4 ≤ nI 4 by decide)]) (by decide)
  obtain ⟨A, h1, h2, h3⟩ := h
  obtain ⟨A1, e1, f1, g1, -⟩ := fill_ok A 10 4 0 (by decide)
  obtain ⟨A2, e2, f2, g2, -⟩ := fill_ok A1 11 4 (-1) (by decide)
  obtain ⟨A3, e3, f3, g3, -⟩ := fill_ok A2 12 4 (-1) (by decide)
  refine ⟨A3, ?_, fun c hc => ?_, fun t ht p hp => ?_, fun t ht => ⟨?_, ?_, g3 t ht⟩⟩
  · have h1 : f_X0_clear_58 FU 0 X = _ := h1
    rw [h1]
    simp only [e1, e2, e3, Option.bind]
  · rw [f3 c (by omega), f2 c (by omega), f1 c (by omega), h2 c (by omega)]
  · rw [f3 _ (by omega), f2 _ (by omega), f1 _ (by omega)]
    exact h3 t ht p hp
  · rw [f3 10 (by omega), f2 10 (by omega)]
    exact g1 t ht
  · rw [f3 11 (by omega)]
    exact g2 t ht
theorem sum0 (e : ET) (f : Nat → Nat) (t : Nat) : sumS e f (fun _ => 99) t = 0 := by
  unfold sumS
  rw [fb_sm_cong (g := fun _ => 0) (fun k _ => by simp), fb_sm_const]
  omega
theorem clear_1 {X A B C : Mem} (e1 : f_J7_fill_53178 (upd2 X 5 15 0) 14 5 0 = some A) (e2 : f_X0_clear_15 (fun M_16 => f_X0_clear_58 FU 0 M_16) FU 0 A = f_X0_clear_58 FU 0 B) (e3 : f_X0_clear_58 FU 0 B = some C) : f_X0_clear X = some C := by
  unfold f_X0_clear
  rw [e1, Option.bind_some, e2]
  exact e3
theorem clear_2 {C : Mem} {e : ET} (p5 : e.1 ≤ 5) (n10 : e.2.1 ≤ 10) (h5 : C 5 15 = 0) (h14 : ∀ p, p < 5 → C 14 p = 0) (hg : ∀ p, p < 5 → (∀ n, n < 10 → C (65 + p) n = -1) ∧ ∀ t, t < 4 → C (75 + p) t = 0 ∧ C (80 + p) t = 0) (h7 : ∀ t, t < 4 → ∀ p, p < 5 → C (70 + t) p = 0) (h4 : ∀ t, t < 4 → C 10 t = 0 ∧ C 11 t = -1 ∧ C 12 t = -1) : IX C e CS0 := by
  have hv9 : hv 99 = -1 := by unfold hv; rw [if_pos rfl]
  have c1 : ∀ q i, CS0.1 q i = 99 := fun _ _ => rfl
  have c2 : ∀ i, CS0.2.1 i = 99 := fun _ => rfl
  refine ⟨fun i hi => ?_, fun p hp i hi => ?_, fun p n hp hn => ?_, fun p t hp ht => ?_, fun t p ht hp => ?_, fun t ht => ?_⟩
  · rw [h5, b_0, c2]
    simp
  · rw [h14 p (by omega), b_0, c1]
    simp
  · rw [(hg p (by omega)).1 n (by omega), c1, hv9]
  · rw [((hg p (by omega)).2 t ht).1, ((hg p (by omega)).2 t ht).2, show CS0.1 p = fun _ => 99 from rfl, sum0, sum0]
    exact ⟨nI_0.symm, nI_0.symm⟩
  · rw [h7 t ht p (by omega)]
    exact nI_0.symm
  · obtain ⟨q1, q2, q3⟩ := h4 t ht
    rw [q1, q2, q3]
    exact ⟨nI_0.symm, hv9.symm, hv9.symm⟩
theorem clear_ok {X : Mem} {e : ET} (ok : Eok e) : ∃ Y, f_X0_clear X = some Y ∧ (∀ c, ¬ crs c → Y c = X c) ∧ IX Y e CS0 := by
  have p5 := ok.1
  have n10 := ok.2.1
  obtain ⟨A, e1, f1, g1, -⟩ := fill_ok (upd2 X 5 15 0) 14 5 0 (by decide)
  obtain ⟨B, e2, f2, g2⟩ := clr15 (X := A) (k := fun M_16 => f_X0_clear_58 FU 0 M_16)
  obtain ⟨C, e3, f3, g3, g4⟩ := clr58 (X := B)
  refine ⟨C, clear_1 e1 e2 e3, fun c hc => ?_, clear_2 p5 n10 ?_ (fun p hp => ?_) (fun p hp => ⟨fun n hn => ?_, fun t ht => ⟨?_, ?_⟩⟩) g3 g4⟩
  · unfold crs at hc
    rw [f3 c (by omega), f2 c (by omega), f1 c (by omega), u2n (by omega)]
  · rw [f3 5 (by omega), f2 5 (by omega), f1 5 (by omega), u2s]
  · rw [f3 14 (by omega), f2 14 (by omega), g1 p hp]
  · rw [f3 (65 + p) (by omega), (g2 p hp).1 n hn]
  · rw [f3 (75 + p) (by omega), ((g2 p hp).2 t ht).1]
  · rw [f3 (80 + p) (by omega), ((g2 p hp).2 t ht).2]
