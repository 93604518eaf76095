/-- what the model says of a note's kind -/
theorem mhi {M : Mem} {e : ET} {ru n : Nat} (ok : Eok e) (hM : ME M e ru) (hn : n < e.2.1) : f_X11_high M (nI n) = some (nI (hiS (e.2.2.1 5 n) (e.2.2.1 8 n))) := by
  obtain ⟨b1, b2, b3, b4⟩ := ok.2.2.2 n hn
  obtain ⟨c1, c2, c3, c4⟩ := hM.2.2.2.1 n hn
  have n10 := ok.2.1
  have hi := iblt (show n < 10 by omega) (by decide)
  unfold f_X11_high
  rw [nI_clamp (by omega), c1, c4]
  simp only [if_pos hi]
  generalize e.2.2.1 5 n = k at *
  generalize e.2.2.1 8 n = q at *
  clear c1 c4 hi c2 c3 hM ok b2 b3 hn n10
  revert b4
  revert q
  revert b1
  revert k
  decide +kernel
theorem mla {M : Mem} {e : ET} {ru n : Nat} (ok : Eok e) (hM : ME M e ru) (hn : n < e.2.1) : f_X11_lasts M (nI n) = some (nI (laS (e.2.2.1 5 n) (e.2.2.1 8 n))) := by
  obtain ⟨b1, b2, b3, b4⟩ := ok.2.2.2 n hn
  obtain ⟨c1, c2, c3, c4⟩ := hM.2.2.2.1 n hn
  have n10 := ok.2.1
  have hi := iblt (show n < 10 by omega) (by decide)
  unfold f_X11_lasts
  rw [nI_clamp (by omega), c1, c4]
  simp only [if_pos hi]
  generalize e.2.2.1 5 n = k at *
  generalize e.2.2.1 8 n = q at *
  clear c1 c4 hi c2 c3 hM ok b2 b3 hn n10
  revert b4
  revert q
  revert b1
  revert k
  decide +kernel
theorem mas {M : Mem} {e : ET} {ru n : Nat} (ok : Eok e) (hM : ME M e ru) (hn : n < e.2.1) : f_X11_asks M (nI n) = some (nI (asS (e.2.2.1 5 n))) := by
  obtain ⟨b1, b2, b3, b4⟩ := ok.2.2.2 n hn
  obtain ⟨c1, c2, c3, c4⟩ := hM.2.2.2.1 n hn
  have n10 := ok.2.1
  have hi := iblt (show n < 10 by omega) (by decide)
  unfold f_X11_asks
  rw [nI_clamp (by omega), c1]
  simp only [if_pos hi]
  generalize e.2.2.1 5 n = k at *
  clear c1 c4 hi c2 c3 hM ok b2 b3 hn n10 b4
  revert b1
  revert k
  decide +kernel
theorem mte {M : Mem} {e : ET} {ru n : Nat} (ok : Eok e) (hM : ME M e ru) (hn : n < e.2.1) : f_X11_tells M (nI n) = some (nI (teS (e.2.2.1 5 n))) := by
  obtain ⟨b1, b2, b3, b4⟩ := ok.2.2.2 n hn
  obtain ⟨c1, c2, c3, c4⟩ := hM.2.2.2.1 n hn
  have n10 := ok.2.1
  have hi := iblt (show n < 10 by omega) (by decide)
  unfold f_X11_tells
  rw [nI_clamp (by omega), c1]
  simp only [if_pos hi]
  generalize e.2.2.1 5 n = k at *
  clear c1 c4 hi c2 c3 hM ok b2 b3 hn n10 b4
  revert b1
  revert k
  decide +kernel
/-- told: promise 5 -/
theorem s_told : S_3 Rel := by
  intro X M a b hR
  have hR0 := hR
  obtain ⟨e, d, nm, tp, ok, hX, hM, -, -, -, -, -⟩ := hR
  have x4 : X 1 4 = nI e.2.1 := hX.1.2.1
  have m5 : M 0 5 = nI e.2.1 := hM.1.2.1
  have n10 := ok.2.1
  unfold f_X10_told f_X11_told
  rcases cl a e.2.1 (by omega) with ⟨i, hi, rfl⟩ | h
  · obtain ⟨q0, q1, q2, q3, q4, q5, q6, q7⟩ := hX.1.2.2.2.1 i hi
    obtain ⟨r0, r1, r2, r3⟩ := hM.1.2.2.2.1 i hi
    rw [hs_in x4 hi n10, in_in m5 hi n10, if_neg t10, if_neg t10, if_pos (iblt (show i < 10 by omega) (by decide)), nI_clamp (by omega), mhi ok.eW hM.1 hi, mla ok.eW hM.1 hi, mas ok.eW hM.1 hi, mte ok.eW hM.1 hi, q0, q1, q2, q3, q4, q5, q6, q7, r0, r1, r2, r3]
    simp only [if_pos (iblt (show i < 10 by omega) (by decide)), Option.bind]
    by_cases c : b.toInt < 0 ∨ 7 < b.toInt
    · simp only [if_pos c]
      exact ⟨_, _, rfl, rfl, rfl, hR0⟩
    · simp only [if_neg c]
      rcases cl b 8 (by decide) with ⟨j, hj, rfl⟩ | h
      · match j, hj with
        | 0, _ => exact ⟨_, _, rfl, rfl, rfl, hR0⟩
        | 1, _ => exact ⟨_, _, rfl, rfl, rfl, hR0⟩
        | 2, _ => exact ⟨_, _, rfl, rfl, rfl, hR0⟩
        | 3, _ => exact ⟨_, _, rfl, rfl, rfl, hR0⟩
        | 4, _ => exact ⟨_, _, rfl, rfl, rfl, hR0⟩
        | 5, _ => exact ⟨_, _, rfl, rfl, rfl, hR0⟩
        | 6, _ => exact ⟨_, _, rfl, rfl, rfl, hR0⟩
        | 7, _ => exact ⟨_, _, rfl, rfl, rfl, hR0⟩
        | j + 8, h => exact absurd h (by omega)
      · exact absurd h (by omega)
  · rw [hs_out x4 n10 h, in_out m5 n10 h, if_pos t00, if_pos t00]
    exact ⟨_, _, rfl, rfl, rfl, hR0⟩
/-- one of a person's numbers changed -/
theorem put_p {X M : Mem} {k i v : Nat} (hR : Rel X M) {N : Nat} (hN : M 0 0 = nI N) (hN5 : N < 1000) (hi : i < N) (hk : k < 4) (hb : (k = 0 → v < 48) ∧ (k = 1 → 1 ≤ v ∧ v < 25) ∧ (k = 2 → v < 13) ∧ (k = 3 → v < 10)) : Rel (upd2 (upd2 X (25 + i) k (nI v)) 5 0 1) (upd2 M (k + 1) i (nI v)) := by
  obtain ⟨e, d, nm, tp, ok, ⟨⟨x1, x2, x3, x4, x5, x6, x7⟩, x8, x9, x10, x11⟩, ⟨⟨m1, m2, m3, m4, m5, m6, m7⟩, m8, m9⟩, hma, hta, him, hsh, hst⟩ := hR
  have p5 := ok.1
  have hNe : N = e.1 := by
    have := hN.symm.trans m1
    exact (nI_eq (by omega) (by show e.1 < _; omega)).mp this
  subst hNe
  refine ⟨(e.1, e.2.1, fup e.2.2.1 (k + 1) i v, e.2.2.2), d, nm, tp, ⟨ok.1, ok.2.1, fun p hp => ?_, fun n hn => ?_⟩, ⟨⟨Eq.trans (by simp (disch := omega) only [u2n, u2t, u2s, eW]) x1, Eq.trans (by simp (disch := omega) only [u2n, u2t, u2s, eW]) x2, fun p hp => ?_, fun n hn => ?_, Eq.trans (by simp (disch := omega) only [u2n, u2t, u2s, eW]) x5, x6, x7.cg (by intros; simp (disch := omega) only [u2n]) (by intros; simp (disch := omega) only [u2n])⟩, x8, x9, Eq.trans (by simp (disch := omega) only [u2n, u2t, u2s, eW]) x10, fun k hk => (x11 k hk).cg (by have : k < d.1 := hk; simp (disch := omega) only [u2n]) (by have : k < d.1 := hk; simp (disch := omega) only [u2n])⟩, ⟨⟨Eq.trans (by simp (disch := omega) only [u2n, u2t, u2s, eW]) m1, Eq.trans (by simp (disch := omega) only [u2n, u2t, u2s, eW]) m2, fun p hp => ?_, fun n hn => ?_, Eq.trans (by simp (disch := omega) only [u2n, u2t, u2s, eW]) m5, m6, m7.cg (by simp (disch := omega) only [u2n, u2t, u2s, eW]) (by simp (disch := omega) only [u2n, u2t, u2s, eW])⟩, Eq.trans (by simp (disch := omega) only [u2n, u2t, u2s, eW]) m8, fun k hk => (m9 k hk).cg (by simp (disch := omega) only [u2n, u2t, u2s, eW]) (by simp (disch := omega) only [u2n, u2t, u2s, eW])⟩, (hma.cg (by simp (disch := omega) only [u2n, u2t, u2s, eW]) (by simp (disch := omega) only [u2n, u2t, u2s, eW]) (by simp (disch := omega) only [u2n, u2t, u2s, eW]) (by simp (disch := omega) only [u2n, u2t, u2s, eW]) (by simp (disch := omega) only [u2n, u2t, u2s, eW]) (by simp (disch := omega) only [u2n, u2t, u2s, eW])), (hta.cg (by simp (disch := omega) only [u2n, u2t, u2s, eW]) (by simp (disch := omega) only [u2n, u2t, u2s, eW]) (by simp (disch := omega) only [u2n, u2t, u2s, eW]) (by simp (disch := omega) only [u2n, u2t, u2s, eW])), (him.cg ok.1 (by simp (disch := omega) only [u2n, u2t, u2s, eW]) (by simp (disch := omega) only [u2n, u2t, u2s, eW]) (by intros; simp (disch := omega) only [u2n]) (fun k hk => (by simp (disch := omega) only [u2n, u2t])) (by intros; simp (disch := omega) only [u2n])), (hsh.cg (by intros; simp (disch := omega) only [u2n]) (by intros; simp (disch := omega) only [u2n])), Or.inl rfl⟩
  · by_cases c : p = i
    · subst c
      have := ok.2.2.1 p hi
      match k, hk, hb with
      | 0, _, hb => simp (disch := omega) only [fup_s, fup_k]; omega
      | 1, _, hb => simp (disch := omega) only [fup_s, fup_k]; omega
      | 2, _, hb => simp (disch := omega) only [fup_s, fup_k]; omega
      | 3, _, hb => simp (disch := omega) only [fup_s, fup_k]; omega
    · simp (disch := omega) only [fup_i]
      exact ok.2.2.1 p hp
  · simp (disch := omega) only [fup_k]
    exact ok.2.2.2 n hn
  · have hp : p < e.1 := hp
    have := x3 p hp
    by_cases c : p = i
    · subst c
      match k, hk with
      | 0, _ => simp (disch := omega) only [fup_s, fup_k, eW, u2n, u2s, u2t, true_and] at this ⊢; exact this.2
      | 1, _ => simp (disch := omega) only [fup_s, fup_k, eW, u2n, u2s, u2t, true_and] at this ⊢; exact ⟨this.1, this.2.2⟩
      | 2, _ => simp (disch := omega) only [fup_s, fup_k, eW, u2n, u2s, u2t, true_and] at this ⊢; exact ⟨this.1, this.2.1, this.2.2.2⟩
      | 3, _ => simp (disch := omega) only [fup_s, fup_k, eW, u2n, u2s, u2t, and_true] at this ⊢; exact ⟨this.1, this.2.1, this.2.2.1⟩
    · simp (disch := omega) only [fup_i, eW, u2n] at this ⊢
      exact this
  · have hn : n < e.2.1 := hn
    have n10 := ok.2.1
    have := x4 n hn
    simp (disch := omega) only [fup_k, eW, u2n] at this ⊢
    exact this
  · have hp : p < e.1 := hp
    have := m3 p hp
    by_cases c : p = i
    · subst c
      match k, hk with
      | 0, _ => simp (disch := omega) only [fup_s, fup_k, eW, u2n, u2s, u2t, true_and] at this ⊢; exact this.2
      | 1, _ => simp (disch := omega) only [fup_s, fup_k, eW, u2n, u2s, u2t, true_and] at this ⊢; exact ⟨this.1, this.2.2⟩
      | 2, _ => simp (disch := omega) only [fup_s, fup_k, eW, u2n, u2s, u2t, true_and] at this ⊢; exact ⟨this.1, this.2.1, this.2.2.2⟩
      | 3, _ => simp (disch := omega) only [fup_s, fup_k, eW, u2n, u2s, u2t, and_true] at this ⊢; exact ⟨this.1, this.2.1, this.2.2.1⟩
    · match k, hk with
      | 0, _ => simp (disch := omega) only [fup_i, eW, u2n, u2t] at this ⊢; exact this
      | 1, _ => simp (disch := omega) only [fup_i, eW, u2n, u2t] at this ⊢; exact this
      | 2, _ => simp (disch := omega) only [fup_i, eW, u2n, u2t] at this ⊢; exact this
      | 3, _ => simp (disch := omega) only [fup_i, eW, u2n, u2t] at this ⊢; exact this
  · have hn : n < e.2.1 := hn
    have := m4 n hn
    simp (disch := omega) only [fup_k, eW, u2n] at this ⊢
    exact this
/-- a note's hour changed -/
theorem put_n {X M : Mem} {i v : Nat} (hR : Rel X M) {N : Nat} (hN : M 0 5 = nI N) (hN5 : N < 1000) (hi : i < N) (hb : v < 48) : Rel (upd2 (upd2 X (30 + i) 1 (nI v)) 5 0 1) (upd2 M 6 i (nI v)) := by
  obtain ⟨e, d, nm, tp, ok, ⟨⟨x1, x2, x3, x4, x5, x6, x7⟩, x8, x9, x10, x11⟩, ⟨⟨m1, m2, m3, m4, m5, m6, m7⟩, m8, m9⟩, hma, hta, him, hsh, hst⟩ := hR
  have p5 := ok.1
  have n10 := ok.2.1
  have hNe : N = e.2.1 := by
    have := hN.symm.trans m2
    exact (nI_eq (by omega) (by show e.2.1 < _; omega)).mp this
  subst hNe
  refine ⟨(e.1, e.2.1, fup e.2.2.1 6 i v, e.2.2.2), d, nm, tp, ⟨ok.1, ok.2.1, fun p hp => ?_, fun n hn => ?_⟩, ⟨⟨Eq.trans (by simp (disch := omega) only [u2n, u2t, u2s, eW]) x1, Eq.trans (by simp (disch := omega) only [u2n, u2t, u2s, eW]) x2, fun p hp => ?_, fun n hn => ?_, Eq.trans (by simp (disch := omega) only [u2n, u2t, u2s, eW]) x5, x6, x7.cg (by intros; simp (disch := omega) only [u2n]) (by intros; simp (disch := omega) only [u2n])⟩, x8, x9, Eq.trans (by simp (disch := omega) only [u2n, u2t, u2s, eW]) x10, fun k hk => (x11 k hk).cg (by have : k < d.1 := hk; simp (disch := omega) only [u2n]) (by have : k < d.1 := hk; simp (disch := omega) only [u2n])⟩, ⟨⟨m1, m2, fun p hp => ?_, fun n hn => ?_, m5, m6, m7.cg (by simp (disch := omega) only [u2n, u2t, u2s, eW]) (by simp (disch := omega) only [u2n, u2t, u2s, eW])⟩, m8, fun k hk => (m9 k hk).cg (by simp (disch := omega) only [u2n, u2t, u2s, eW]) (by simp (disch := omega) only [u2n, u2t, u2s, eW])⟩, (hma.cg (by simp (disch := omega) only [u2n, u2t, u2s, eW]) (by simp (disch := omega) only [u2n, u2t, u2s, eW]) (by simp (disch := omega) only [u2n, u2t, u2s, eW]) (by simp (disch := omega) only [u2n, u2t, u2s, eW]) (by simp (disch := omega) only [u2n, u2t, u2s, eW]) (by simp (disch := omega) only [u2n, u2t, u2s, eW])), (hta.cg (by simp (disch := omega) only [u2n, u2t, u2s, eW]) (by simp (disch := omega) only [u2n, u2t, u2s, eW]) (by simp (disch := omega) only [u2n, u2t, u2s, eW]) (by simp (disch := omega) only [u2n, u2t, u2s, eW])), (him.cg ok.1 (by simp (disch := omega) only [u2n, u2t, u2s, eW]) (by simp (disch := omega) only [u2n, u2t, u2s, eW]) (by intros; simp (disch := omega) only [u2n]) (fun k hk => (by simp (disch := omega) only [u2n, u2t])) (by intros; simp (disch := omega) only [u2n])), (hsh.cg (by intros; simp (disch := omega) only [u2n]) (by intros; simp (disch := omega) only [u2n])), Or.inl rfl⟩
  · simp (disch := omega) only [fup_k]
    exact ok.2.2.1 p hp
  · have := ok.2.2.2 n hn
    by_cases c : n = i
    · subst c
      simp (disch := omega) only [fup_s, fup_k]
      omega
    · simp (disch := omega) only [fup_i]
      exact this
  · have hp : p < e.1 := hp
    have := x3 p hp
    simp (disch := omega) only [fup_k, eW, u2n] at this ⊢
    exact this
  · have hn : n < e.2.1 := hn
    have := x4 n hn
    by_cases c : n = i
    · subst c
      simp (disch := omega) only [fup_s, fup_k, eW, u2n, u2s, u2t, true_and] at this ⊢
      exact ⟨this.1, this.2.2⟩
    · simp (disch := omega) only [fup_i, eW, u2n] at this ⊢
      exact this
  · have hp : p < e.1 := hp
    have := m3 p hp
    simp (disch := omega) only [fup_k, eW, u2n] at this ⊢
    exact this
  · have hn : n < e.2.1 := hn
    have := m4 n hn
    by_cases c : n = i
    · subst c
      simp (disch := omega) only [fup_s, fup_k, eW, u2n, u2s, u2t, true_and] at this ⊢
      exact ⟨this.1, this.2.2⟩
    · simp (disch := omega) only [fup_i, eW, u2n, u2t] at this ⊢
      exact this
