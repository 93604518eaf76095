theorem hiF : ∀ k, k < 6 → ∀ q, q < 10 → f_X7_highOf (nI k) (nI q) = some (nI (hiS k q)) := by decide +kernel
theorem laF : ∀ k, k < 6 → ∀ q, q < 10 → f_X7_lastsOf (nI k) (nI q) = some (nI (laS k q)) := by decide +kernel
theorem teF : ∀ k, k < 6 → f_X7_tellsOf (nI k) = some (nI (teS k)) := by decide +kernel
theorem asF : ∀ k, k < 6 → f_X7_asksOf (nI k) = nI (asS k) := by decide +kernel
/-- one note more -/
theorem note_step {X M : Mem} (a1 a2 a3 : Int32) (hR : Rel (upd2 X 5 0 1) M) : ∃ v X' M', f_X10_addSlip X a1 a2 a3 = some (v, X') ∧ f_X11_note M a1 a2 a3 = some (v, M') ∧ Rel (upd2 X' 5 0 1) M' ∧ (∀ c, 90 ≤ c ∨ c = 5 → X' c = X c) ∧ ∀ c, 28 ≤ c → M' c = M c := by
  have hR0 := hR
  obtain ⟨e, d, nm, tp, ok, ⟨⟨x1, x2, x3, x4, x5, x6, x7⟩, x8, x9, x10, x11⟩, ⟨⟨m1, m2, m3, m4, m5, m6, m7⟩, m8, m9⟩, hma, hta, him, hsh, hst⟩ := hR
  have bad : f_X10_addSlip X a1 a2 a3 = some (-2, X) → f_X11_note M a1 a2 a3 = some (-2, M) → ∃ v X' M', f_X10_addSlip X a1 a2 a3 = some (v, X') ∧ f_X11_note M a1 a2 a3 = some (v, M') ∧ Rel (upd2 X' 5 0 1) M' ∧ (∀ c, 90 ≤ c ∨ c = 5 → X' c = X c) ∧ ∀ c, 28 ≤ c → M' c = M c := fun h1 h2 => ⟨_, _, _, h1, h2, hR0, fun _ _ => rfl, fun _ _ => rfl⟩
  have n10 := ok.2.1
  rcases cl a1 6 (by decide) with ⟨k, hk, rfl⟩ | h1
  · rcases cl a2 48 (by decide) with ⟨h, hh, rfl⟩ | h2
    · have hour : f_X10_isHour (nI h) = 1 := by
        unfold f_X10_isHour
        rw [if_neg (by simp (disch := omega) only [fa_lt, fa_le, fa_eq, nI_toInt, Int32.reduceToInt, im1] <;> omega), if_neg (by simp (disch := omega) only [fa_lt, fa_le, fa_eq, nI_toInt, Int32.reduceToInt, im1] <;> omega)]
      rcases cl a3 40 (by decide) with ⟨w, hw, rfl⟩ | h3
      · have q1 : nI w / 10 = nI (w / 10) := pk_div (d := 10) (by omega) (by decide) (by decide)
        have q2 : nI w - nI w / 10 * 10 = nI (w % 10) := pk_rem (d := 10) (by omega) (by decide) (by decide)
        rw [q1] at q2
        have thing : f_X10_isThing (nI (w / 10)) = 1 := by
          unfold f_X10_isThing
          rw [if_neg (by simp (disch := omega) only [fa_lt, fa_le, fa_eq, nI_toInt, Int32.reduceToInt, im1] <;> omega), if_neg (by simp (disch := omega) only [fa_lt, fa_le, fa_eq, nI_toInt, Int32.reduceToInt, im1] <;> omega)]
        have x2 : X 1 4 = nI e.2.1 := Eq.trans (by simp (disch := omega) only [u2n, u2t, u2s, eW]) x2
        have m2 : M 0 5 = nI e.2.1 := m2
        unfold f_X10_addSlip f_X11_note
        rw [if_neg (show ¬ nI k < 0 from (by simp (disch := omega) only [fa_lt, fa_le, fa_eq, nI_toInt, Int32.reduceToInt, im1] <;> omega)), if_neg (show ¬ 6 ≤ nI k from (by simp (disch := omega) only [fa_lt, fa_le, fa_eq, nI_toInt, Int32.reduceToInt, im1] <;> omega)), hour, if_neg t10, if_neg (show ¬ nI w < 0 from (by simp (disch := omega) only [fa_lt, fa_le, fa_eq, nI_toInt, Int32.reduceToInt, im1] <;> omega)), q1, q2, thing, if_neg t10, wi_in (by simp (disch := omega) only [fa_lt, fa_le, fa_eq, nI_toInt, Int32.reduceToInt, im1] <;> omega) (by simp (disch := omega) only [fa_lt, fa_le, fa_eq, nI_toInt, Int32.reduceToInt, im1] <;> omega), if_neg t10, wi_in (by simp (disch := omega) only [fa_lt, fa_le, fa_eq, nI_toInt, Int32.reduceToInt, im1] <;> omega) (by simp (disch := omega) only [fa_lt, fa_le, fa_eq, nI_toInt, Int32.reduceToInt, im1] <;> omega), if_neg t10, wi_in (by simp (disch := omega) only [fa_lt, fa_le, fa_eq, nI_toInt, Int32.reduceToInt, im1] <;> omega) (by simp (disch := omega) only [fa_lt, fa_le, fa_eq, nI_toInt, Int32.reduceToInt, im1] <;> omega), if_neg t10]
        unfold f_X8_addSlip f_X7_become
        rw [hiF k hk _ (by omega), laF k hk _ (by omega), teF k hk, asF k hk]
        simp only [Option.bind]
        simp only [u2n (show (0:Nat) ≠ 5 by decide), u2n (show (0:Nat) ≠ 6 by decide), u2n (show (0:Nat) ≠ 7 by decide), u2n (show (0:Nat) ≠ 8 by decide), m2, x2]
        by_cases hn : e.2.1 = 10
        · rw [hn, if_neg (show ¬ nI 10 < 10 by decide), if_pos (show nI 10 = 10 by decide)]
          exact ⟨_, _, _, rfl, rfl, hR0, fun _ _ => rfl, fun _ _ => rfl⟩
        · have hl : e.2.1 < 10 := by omega
          rw [if_pos (show nI e.2.1 < 10 from (by simp (disch := omega) only [fa_lt, fa_le, fa_eq, nI_toInt, Int32.reduceToInt, im1] <;> omega)), if_pos (iblt hl (by decide)), if_neg (show ¬ nI e.2.1 = 10 from (by simp (disch := omega) only [fa_lt, fa_le, fa_eq, nI_toInt, Int32.reduceToInt, im1] <;> omega)), if_pos (iblt hl (by decide)), if_pos (iblt hl (by decide)), if_pos (iblt hl (by decide)), if_pos (iblt hl (by decide)), nI_clamp (by omega)]
          simp (disch := omega) only [u2n, u2s, x2, m2, nI_1, nI_pred]
          refine ⟨_, _, _, rfl, rfl, ⟨(e.1, e.2.1 + 1, fup (fup (fup (fup e.2.2.1 5 e.2.1 k) 6 e.2.1 h) 7 e.2.1 (w / 10)) 8 e.2.1 (w % 10), e.2.2.2), d, nm, tp, ⟨ok.1, hl, fun p hp => ?_, fun n hn => ?_⟩, ⟨⟨Eq.trans (by simp (disch := omega) only [u2n, u2t, u2s, eW]) x1, (by simp (disch := omega) only [u2n, u2t, u2s, eW]), fun p hp => ?_, fun n hn => ?_, Eq.trans (by simp (disch := omega) only [u2n, u2t, u2s, eW]) x5, x6, x7.cg (by intros; simp (disch := omega) only [u2n]) (by intros; simp (disch := omega) only [u2n])⟩, x8, x9, Eq.trans (by simp (disch := omega) only [u2n, u2t, u2s, eW]) x10, fun k hk => (x11 k hk).cg (by have : k < d.1 := hk; simp (disch := omega) only [u2n]) (by have : k < d.1 := hk; simp (disch := omega) only [u2n])⟩, ⟨⟨m1, (by simp (disch := omega) only [u2n, u2t, u2s, eW]), fun p hp => ?_, fun n hn => ?_, m5, m6, m7.cg rfl rfl⟩, m8, fun k hk => (m9 k hk).cg rfl rfl⟩, Rma.more (Nat.le_succ _) ((hma.cg (by simp (disch := omega) only [u2n, u2t, u2s, eW]) (by simp (disch := omega) only [u2n, u2t, u2s, eW]) (by simp (disch := omega) only [u2n, u2t, u2s, eW]) (by simp (disch := omega) only [u2n, u2t, u2s, eW]) (by simp (disch := omega) only [u2n, u2t, u2s, eW]) (by simp (disch := omega) only [u2n, u2t, u2s, eW]))), (hta.cg (by simp (disch := omega) only [u2n, u2t, u2s, eW]) (by simp (disch := omega) only [u2n, u2t, u2s, eW]) (by simp (disch := omega) only [u2n, u2t, u2s, eW]) (by simp (disch := omega) only [u2n, u2t, u2s, eW])), Rim.more (Nat.le_refl _) (Nat.le_succ _) (Nat.le_refl _) (Nat.le_refl _) ((him.cg ok.1 (by simp (disch := omega) only [u2n, u2t, u2s, eW]) (by simp (disch := omega) only [u2n, u2t, u2s, eW]) (by intros; simp (disch := omega) only [u2n]) (fun k hk => (by simp (disch := omega) only [u2n, u2t])) (by intros; simp (disch := omega) only [u2n]))), (hsh.cg (by intros; simp (disch := omega) only [u2n]) (by intros; simp (disch := omega) only [u2n])), Or.inl rfl⟩, (by intros; simp (disch := omega) only [u2n]), (by intros; simp (disch := omega) only [u2n])⟩
          · simp (disch := omega) only [fup_k]
            exact ok.2.2.1 p hp
          · by_cases c : n = e.2.1
            · subst c
              simp (disch := omega) only [fup_s, fup_k]
              omega
            · simp (disch := omega) only [fup_i]
              exact ok.2.2.2 n (by have : n < e.2.1 + 1 := hn; omega)
          · have hp : p < e.1 := hp
            have p5 := ok.1
            have := x3 p hp
            simp (disch := omega) only [fup_k, eW, u2n] at this ⊢
            exact this
          · have hn : n < e.2.1 + 1 := hn
            by_cases c : n = e.2.1
            · subst c
              simp (disch := omega) only [fup_s, fup_k, eW, u2n, u2s, u2t, and_self]
            · have := x4 n (by show n < e.2.1; omega)
              simp (disch := omega) only [fup_i, eW, u2n] at this ⊢
              exact this
          · have hp : p < e.1 := hp
            simp (disch := omega) only [fup_k, eW, u2n, u2t]
            exact m3 p hp
          · have hn : n < e.2.1 + 1 := hn
            by_cases c : n = e.2.1
            · subst c
              simp (disch := omega) only [fup_s, fup_k, eW, u2n, u2s, u2t, and_self]
            · simp (disch := omega) only [fup_i, eW, u2n, u2t]
              exact m4 n (by show n < e.2.1; omega)
      · refine bad ?_ ?_
        · unfold f_X10_addSlip
          rw [if_neg (show ¬ nI k < 0 from (by simp (disch := omega) only [fa_lt, fa_le, fa_eq, nI_toInt, Int32.reduceToInt, im1] <;> omega)), if_neg (show ¬ 6 ≤ nI k from (by simp (disch := omega) only [fa_lt, fa_le, fa_eq, nI_toInt, Int32.reduceToInt, im1] <;> omega)), hour, if_neg t10]
          by_cases c : a3 < 0
          · rw [if_pos c]
          · have c2 : ¬ a3.toInt < 0 := fun q => c (by rw [fa_lt]; exact q)
            obtain ⟨w, hw, rfl⟩ := ge_nI (a := a3) (by omega)
            rw [nI_toInt (by omega)] at h3 c2
            rw [if_neg c, show nI w / 10 = nI (w / 10) from pk_div (d := 10) (by omega) (by decide) (by decide)]
            have : f_X10_isThing (nI (w / 10)) = 0 := by
              unfold f_X10_isThing
              rw [if_neg (by simp (disch := omega) only [fa_lt, fa_le, fa_eq, nI_toInt, Int32.reduceToInt, im1] <;> omega), if_pos (by simp (disch := omega) only [fa_lt, fa_le, fa_eq, nI_toInt, Int32.reduceToInt, im1] <;> omega)]
            rw [this, if_pos t00]
        · unfold f_X11_note
          rw [wi_in (by simp (disch := omega) only [fa_lt, fa_le, fa_eq, nI_toInt, Int32.reduceToInt, im1] <;> omega) (by simp (disch := omega) only [fa_lt, fa_le, fa_eq, nI_toInt, Int32.reduceToInt, im1] <;> omega), if_neg t10, wi_in (by simp (disch := omega) only [fa_lt, fa_le, fa_eq, nI_toInt, Int32.reduceToInt, im1] <;> omega) (by simp (disch := omega) only [fa_lt, fa_le, fa_eq, nI_toInt, Int32.reduceToInt, im1] <;> omega), if_neg t10, wi_out (a := a3) (by simp (disch := omega) only [fa_lt, fa_le, fa_eq, nI_toInt, Int32.reduceToInt, im1] <;> omega), if_pos t00]
    · refine bad ?_ ?_
      · have hour : f_X10_isHour a2 = 0 := by
          unfold f_X10_isHour
          by_cases c : a2 < 0
          · rw [if_pos c]
          · have c2 : ¬ a2.toInt < 0 := fun q => c (by rw [fa_lt]; exact q)
            rw [if_neg c, if_pos (by simp (disch := omega) only [fa_lt, fa_le, fa_eq, nI_toInt, Int32.reduceToInt, im1] <;> omega)]
        unfold f_X10_addSlip
        rw [if_neg (show ¬ nI k < 0 from (by simp (disch := omega) only [fa_lt, fa_le, fa_eq, nI_toInt, Int32.reduceToInt, im1] <;> omega)), if_neg (show ¬ 6 ≤ nI k from (by simp (disch := omega) only [fa_lt, fa_le, fa_eq, nI_toInt, Int32.reduceToInt, im1] <;> omega)), hour, if_pos t00]
      · unfold f_X11_note
        rw [wi_in (by simp (disch := omega) only [fa_lt, fa_le, fa_eq, nI_toInt, Int32.reduceToInt, im1] <;> omega) (by simp (disch := omega) only [fa_lt, fa_le, fa_eq, nI_toInt, Int32.reduceToInt, im1] <;> omega), if_neg t10, wi_out (a := a2) (by simp (disch := omega) only [fa_lt, fa_le, fa_eq, nI_toInt, Int32.reduceToInt, im1] <;> omega), if_pos t00]
  · refine bad ?_ ?_
    · unfold f_X10_addSlip
      by_cases c : a1 < 0
      · rw [if_pos c]
      · have c2 : ¬ a1.toInt < 0 := fun q => c (by rw [fa_lt]; exact q)
        rw [if_neg c, if_pos (show 6 ≤ a1 from (by simp (disch := omega) only [fa_lt, fa_le, fa_eq, nI_toInt, Int32.reduceToInt, im1] <;> omega))]
    · unfold f_X11_note
      rw [wi_out (a := a1) (by simp (disch := omega) only [fa_lt, fa_le, fa_eq, nI_toInt, Int32.reduceToInt, im1] <;> omega), if_pos t00]
/-- note: promise 3 -/
theorem s_note : S_1 Rel := by
  intro X M a1 a2 a3 hR
  obtain ⟨v, X', M', h1, h2, h3, -⟩ := note_step a1 a2 a3 hR.stale
  unfold f_X10_note
  rw [h1]
  exact ans rfl h2 h3
