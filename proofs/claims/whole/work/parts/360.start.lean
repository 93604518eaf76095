/-! the start -/
def w0 : List Nat := [100, 111, 32, 116, 111, 108, 100, 32, 60, 32, 97, 115, 107, 101, 100, 32, 59, 32, 116, 97, 107, 101, 32, 48, 32, 59, 32, 99, 97, 114, 101, 32, 49, 32, 43, 32, 116, 104, 105, 110, 103, 32, 59]
def x0 : Tx := (fun j => w0.getD j 0, 43)
theorem chr00 : ∀ i, i < 43 → f_J0_charAt_5068e (fun _ _ => 0) 0 (nI i) = some (nI (w0.getD i 0)) := by decide +kernel
theorem chr_0 {M : Mem} {i : Nat} (hi : i < 43) : f_J0_charAt_5068e M 0 (nI i) = some (nI (x0.1 i)) := chr00 i hi
theorem len_0 {M : Mem} : f_J0_length_8abf5 M 0 = nI 43 := by
  show f_J0_length_8abf5 (fun _ _ => 0) 0 = nI 43
  decide +kernel
theorem w0_b : ∀ i, i < 43 → x0.1 i < 256 := by decide +kernel
theorem init_x : ∃ A, f_X10_initT MX0 = (Option.bind (f_X4_parse (pushP A 0)) fun r_5 => some (upd2 r_5.2 1 5 1)) ∧ TX A x0 ∧ ∀ c, c ≠ 19 → c ≠ 58 → A c = MX0 c := by
  unfold f_X10_initT
  obtain ⟨A, a1, a2, a3, a4⟩ := lp0 (F := fun fu y A => f_X10_init_99 fu y A) (a := MX0) (fun A => Option.bind (f_X4_parse (pushP A 0)) fun r_5 => some (upd2 r_5.2 1 5 1)) 43 (fun k A => A 19 0 = nI k ∧ (∀ j, j < k → A 58 j = nI (x0.1 j)) ∧ ∀ c, c ≠ 19 → c ≠ 58 → A c = MX0 c) ⟨rfl, fun _ h => absurd h (Nat.not_lt_zero _), fun _ _ _ => rfl⟩ (fun fu k A hk hI => by
    obtain ⟨i1, i2, i3⟩ := hI
    refine ⟨upd2 (upd2 A 58 k (nI (x0.1 k))) 19 0 (nI (k + 1)), ?_, u2s, fun j hj => ?_, fun c h1 h2 => by rw [u2n h1, u2n h2]; exact i3 c h1 h2⟩
    · show f_X10_init_99 (fu + 1) (nI k) A = _
      rw [f_X10_init_99, len_0, if_neg (show ¬ nI 43 ≤ nI k from (by simp (disch := omega) only [fa_lt, fa_le, fa_eq, nI_toInt, Int32.reduceToInt, im1] <;> omega)), chr_0 hk, Option.bind_some]
      unfold f_X9_append
      rw [i1, if_pos (show nI k < 160 from (by simp (disch := omega) only [fa_lt, fa_le, fa_eq, nI_toInt, Int32.reduceToInt, im1] <;> omega)), if_pos (iblt (show k < 160 by omega) (by decide)), nI_clamp (by omega), u2n (by decide), i1, nI_1, Option.bind_some]
    · rw [u2n (by decide)]
      by_cases c : j = k
      · rw [c, u2s]
      · rw [u2t c]
        exact i2 j (by omega)) (fun fu A hI => by
    show f_X10_init_99 (fu + 1) (nI 43) A = _
    rw [f_X10_init_99, len_0, if_pos (show nI 43 ≤ nI 43 by decide)]) (by decide)
  exact ⟨A, a1, ⟨by decide, a2, fun j hj => ⟨w0_b j hj, a3 j hj⟩⟩, a4⟩
theorem init_m : ∃ A, f_X11_initT MM0 = (Option.bind (f_X11_text A) fun r => some r.2) ∧ TM A x0 ∧ (∀ c, c ≠ 0 → c ≠ 11 → c ≠ 28 → A c = MM0 c) ∧ (∀ j, j ≠ 13 → A 0 j = 0) ∧ ∀ i, i < 4 → A 28 i = -1 := by
  unfold f_X11_initT
  obtain ⟨B, b1, b2, b3⟩ := lp0 (F := fun fu y A => f_X11_init_246 (fun M_7 => f_X11_init_269 FU 0 M_7) fu y A) (a := MM0) (fun M_7 => f_X11_init_269 FU 0 M_7) 4 (fun k A => (∀ c, c ≠ 28 → A c = MM0 c) ∧ ∀ i, i < k → A 28 i = -1) ⟨fun _ _ => rfl, fun _ h => absurd h (Nat.not_lt_zero _)⟩ (fun fu k A hk hI => by
    refine ⟨upd2 A 28 k (-1), ?_, fun c h => by rw [u2n h]; exact hI.1 c h, fun i hi => ?_⟩
    · show f_X11_init_246 (fun M_7 => f_X11_init_269 FU 0 M_7) (fu + 1) (nI k) A = _
      rw [f_X11_init_246, if_neg (show ¬ 4 ≤ nI k from (by simp (disch := omega) only [fa_lt, fa_le, fa_eq, nI_toInt, Int32.reduceToInt, im1] <;> omega)), if_pos (iblt hk (by decide)), nI_clamp (by omega), nI_1]
    · by_cases c : i = k
      · rw [c, u2s]
      · rw [u2t c]
        exact hI.2 i (by omega)) (fun fu A hI => by
    show f_X11_init_246 (fun M_7 => f_X11_init_269 FU 0 M_7) (fu + 1) (nI 4) A = _
    rw [f_X11_init_246, if_pos (show 4 ≤ nI 4 by decide)]) (by decide)
  obtain ⟨A, a1, a2, a3, a4, a5⟩ := lp0 (F := fun fu y A => f_X11_init_269 fu y A) (a := B) (fun A => Option.bind (f_X11_text A) fun r => some r.2) 43 (fun k A => A 0 13 = nI k ∧ (∀ j, j < k → A 11 j = nI (x0.1 j)) ∧ (∀ c, c ≠ 0 → c ≠ 11 → A c = B c) ∧ ∀ j, j ≠ 13 → A 0 j = 0) ⟨by rw [b2 0 (by decide)]; rfl, fun _ h => absurd h (Nat.not_lt_zero _), fun _ _ _ => rfl, fun j _ => by rw [b2 0 (by decide)]; rfl⟩ (fun fu k A hk hI => by
    obtain ⟨i1, i2, i3, i4⟩ := hI
    have hb := w0_b k hk
    refine ⟨upd2 (upd2 A 11 k (nI (x0.1 k))) 0 13 (nI (k + 1)), ?_, u2s, fun j hj => ?_, fun c h1 h2 => by rw [u2n h1, u2n h2]; exact i3 c h1 h2, fun j hj => by rw [u2t hj, u2n (by decide)]; exact i4 j hj⟩
    · show f_X11_init_269 (fu + 1) (nI k) A = _
      rw [f_X11_init_269, len_0, if_neg (show ¬ nI 43 ≤ nI k from (by simp (disch := omega) only [fa_lt, fa_le, fa_eq, nI_toInt, Int32.reduceToInt, im1] <;> omega)), chr_0 hk, Option.bind_some]
      unfold f_X11_feed
      rw [wi_in (by simp (disch := omega) only [fa_lt, fa_le, fa_eq, nI_toInt, Int32.reduceToInt, im1] <;> omega) (by simp (disch := omega) only [fa_lt, fa_le, fa_eq, nI_toInt, Int32.reduceToInt, im1] <;> omega), if_neg (by decide), i1, if_neg (by simp (disch := omega) only [fa_lt, fa_le, fa_eq, nI_toInt, Int32.reduceToInt, im1] <;> omega), if_pos (iblt (show k < 160 by omega) (by decide)), nI_clamp (by omega)]
      simp only [u2n (show (0 : Nat) ≠ 11 by decide), i1, nI_1, Option.bind_some]
      rw [u2sw A (show (0 : Nat) ≠ 11 by decide)]
    · rw [u2n (by decide)]
      by_cases c : j = k
      · rw [c, u2s]
      · rw [u2t c]
        exact i2 j (by omega)) (fun fu A hI => by
    show f_X11_init_269 (fu + 1) (nI 43) A = _
    rw [f_X11_init_269, len_0, if_pos (show nI 43 ≤ nI 43 by decide)]) (by decide)
  have b1 : f_X11_init_246 (fun M_7 => f_X11_init_269 FU 0 M_7) FU 0 MM0 = f_X11_init_269 FU 0 B := b1
  have a1 : f_X11_init_269 FU 0 B = Option.bind (f_X11_text A) fun r => some r.2 := a1
  exact ⟨A, b1.trans a1, ⟨by decide, a2, fun j hj => ⟨w0_b j hj, a3 j hj⟩⟩, fun c h1 h2 h3 => (a4 c h1 h2).trans (b2 c h3), a5, fun i hi => by rw [a4 28 (by decide) (by decide)]; exact b3 i hi⟩
theorem init_c : (f_X11_initT MM0).map (fun r => r 0 15) = some 1 := by decide +kernel
theorem start_ok : ∃ MX1 MM1, f_X10_initT MX0 = some MX1 ∧ f_X11_initT MM0 = some MM1 ∧ Rel MX1 MM1 := by
  obtain ⟨A, a1, a2, a3⟩ := init_x
  obtain ⟨B, b1, b2, b3, b4, b5⟩ := init_m
  have hc := init_c
  obtain ⟨Y, N, g1, g2, g3, g4, g5⟩ := text_core (i := 0) (by decide) a2 b2 (b4 15 (by decide))
  rcases g5 with ⟨f, f1, f2, f3, f4⟩ | ⟨W, f2, f3, f4, f5, f6⟩
  · rw [b1, f3, Option.bind_some, Option.map_some] at hc
    have hc : some (N 0 15) = some 1 := hc
    rw [f4] at hc
    exact absurd hc (by decide)
  · refine ⟨upd2 Y 1 5 1, N, by rw [a1, f2, Option.bind_some], by rw [b1, f3, Option.bind_some], ?_⟩
    have hx : ∀ c, c ≠ 19 → c ≠ 58 → c ≠ 59 → c ≠ 74 → c ≠ 107 → c ≠ 40 → c ≠ 46 → c ≠ 52 → Y c = MX0 c := fun c h1 h2 h3 h4 h5 h6 h7 h8 => by
      rw [g1 c h1 h3 h4 h5 (by omega) (by omega) (by omega)]
      exact a3 c h1 h2
    have hm0 : ∀ j, j ≠ 13 → j ≠ 15 → ¬ (19 ≤ j ∧ j < 25) → N 0 j = 0 := fun j h1 h2 h3 => by
      rw [g3.2.1 j h1 h2 h3]
      exact b4 j h1
    have R5 : RuX (upd2 Y 1 5 1) 0 W := f5.cg (u2n (by omega)) (u2n (by omega))
    refine ⟨(0, 0, fun _ _ => 0, W), (1, 0, fun _ => W), 0, 0, ⟨Nat.zero_le _, Nat.zero_le _, fun p h => absurd h (Nat.not_lt_zero _), fun n h => absurd h (Nat.not_lt_zero _)⟩, ⟨⟨?_, ?_, fun p h => absurd h (Nat.not_lt_zero _), fun n h => absurd h (Nat.not_lt_zero _), ?_, (show (0 : Nat) < 6 by decide), R5⟩, (show (0 : Nat) < 1 by decide), (show (1 : Nat) ≤ 6 by decide), u2s, fun k hk => ?_⟩, ⟨⟨?_, ?_, fun p h => absurd h (Nat.not_lt_zero _), fun n h => absurd h (Nat.not_lt_zero _), ?_, (show (0 : Nat) < 6 by decide), f6⟩, f4, fun k hk => ?_⟩, ⟨by decide, ?_, ?_, fun i h => absurd h (Nat.not_lt_zero _)⟩, ⟨by decide, ?_, g4, fun i h => absurd h (Nat.not_lt_zero _)⟩, Or.inl ⟨?_, ?_⟩, fun i hi => Or.inl ⟨?_, ?_⟩, Or.inl ?_⟩
    · rw [u2t (by decide), hx 1 (by decide) (by decide) (by decide) (by decide) (by decide) (by decide) (by decide) (by decide)]
      rfl
    · rw [u2t (by decide), hx 1 (by decide) (by decide) (by decide) (by decide) (by decide) (by decide) (by decide) (by decide)]
      rfl
    · rw [u2t (by decide), hx 1 (by decide) (by decide) (by decide) (by decide) (by decide) (by decide) (by decide) (by decide)]
      rfl
    · have hk : k < 1 := hk
      have : k = 0 := by omega
      subst this
      exact R5
    · exact hm0 0 (by decide) (by decide) (by decide)
    · exact hm0 5 (by decide) (by decide) (by decide)
    · exact hm0 16 (by decide) (by decide) (by decide)
    · have hk : k < 1 := hk
      have : k = 0 := by omega
      subst this
      exact f6
    · rw [u2n (by decide), hx 85 (by decide) (by decide) (by decide) (by decide) (by decide) (by decide) (by decide) (by decide)]
      rfl
    · exact hm0 10 (by decide) (by decide) (by decide)
    · rw [u2n (by decide)]
      exact g2
    · rw [u2n (by decide), hx 98 (by decide) (by decide) (by decide) (by decide) (by decide) (by decide) (by decide) (by decide)]
      rfl
    · exact hm0 34 (by decide) (by decide) (by decide)
    · rw [u2n (by omega), hx (90 + i) (by omega) (by omega) (by omega) (by omega) (by omega) (by omega) (by omega) (by omega)]
      match i, hi with
      | 0, _ => rfl
      | 1, _ => rfl
      | 2, _ => rfl
      | 3, _ => rfl
      | i + 4, h => exact absurd h (by omega)
    · rw [g3.1 28 (by decide) (by decide) (by decide)]
      exact b5 i hi
    · rw [u2n (by decide), hx 5 (by decide) (by decide) (by decide) (by decide) (by decide) (by decide) (by decide) (by decide)]
      rfl
