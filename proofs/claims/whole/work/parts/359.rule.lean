def XG (i : Nat) (X Y : Mem) : Prop := ∀ c, c ≠ 19 → c ≠ 59 → c ≠ 74 → c ≠ 107 → c ≠ 40 + i → c ≠ 46 + i → c ≠ 52 + i → Y c = X c
def MG (i : Nat) (M N : Mem) : Prop := (∀ c, c ≠ 0 → c ≠ 12 → c ≠ 13 → N c = M c) ∧ (∀ j, j ≠ 13 → j ≠ 15 → ¬ (19 ≤ j ∧ j < 25) → N 0 j = M 0 j) ∧ (∀ j, j < 170 * i → N 12 j = M 12 j) ∧ ∀ j, j < 4 * i → N 13 j = M 13 j
theorem text_core {X M : Mem} {x : Tx} {i : Nat} (hi : i < 6) (hX : TX X x) (hM : TM M x) (h15 : M 0 15 = nI i) : ∃ Y N, XG i X Y ∧ Y 19 0 = 0 ∧ MG i M N ∧ N 0 13 = 0 ∧ ((∃ f, f ≤ 160 ∧ f_X4_parse (pushP X i) = some (nI f, Y) ∧ f_X11_text M = some (-100 - nI f, N) ∧ N 0 15 = nI i) ∨ ∃ W, f_X4_parse (pushP X i) = some (-1, Y) ∧ f_X11_text M = some (nI i, N) ∧ N 0 15 = nI (i + 1) ∧ RuX Y i W ∧ RuM N i W) := by
  have hp : ∀ c, c ≠ 107 → pushP X i c = X c := fun c hc => by unfold pushP; rw [if_neg hc]
  have hp7 : pushP X i 107 = rowP i := by unfold pushP; rw [if_pos rfl]
  have hX1 : TX (pushP X i) x := ⟨hX.1, by rw [hp 19 (by decide)]; exact hX.2.1, fun j hj => by rw [hp 58 (by decide)]; exact hX.2.2 j hj⟩
  obtain ⟨A, la, a1, a2, a3, a4⟩ := scn_ok hX1
  have A7 : A 107 = rowP i := by rw [a3 107 (by decide) (by decide) (by decide), hp7]
  have hPX : PX (f_X5_clear A i) x la i 0 0 0 := by
    unfold f_X5_clear
    exact ⟨a2.cg (u2n (by omega)) (u2n (by omega)), Nat.zero_le _, hi, Nat.zero_le _, by rw [u2n (by omega), A7]; rfl, by rw [u2n (by omega), A7]; rfl, by rw [u2n (by omega), A7]; rfl, by rw [u2n (by omega), A7]; rfl, u2s⟩
  have hM1 : TM (upd2 (upd2 (upd2 M 0 20 0) 0 24 0) 0 19 0) x := ((hM.at (by decide)).at (by decide)).at (by decide)
  obtain ⟨N0, n1, n2, n3⟩ := next_ok (c := 0) hM1 (by rw [u2t (by decide), u2t (by decide), u2s]; rfl)
  have hPM : PM N0 x i 0 0 0 := ⟨hM1.cg (n3.2 13 (by decide)) (n3.1 11 (by decide)), n2, by rw [n3.2 24 (by decide), u2t (by decide), u2s]; rfl, by rw [n3.2 15 (by decide), u2t (by decide), u2t (by decide), u2t (by decide)]; exact h15, by rw [n3.2 19 (by decide), u2s]; rfl⟩
  have ePX : f_X4_parse (pushP X i) = f_X4_parse_16 FU 0 (f_X5_clear A i) := by
    unfold f_X4_parse
    rw [a1, Option.bind_some, A7, show rowP i 1 = nI i from rfl, nI_clamp (by omega), if_pos hi]
  have ePM : f_X11_text M = tailM N0 := by
    unfold f_X11_text
    rw [h15, if_neg (show ¬ nI i = 6 from fun w => by have := (nI_eq (b := 6) (by omega) (by decide)).mp w; omega), n1, Option.bind_some]
    rfl
  rw [ePX, ePM]
  have fX : XG i X (f_X5_clear A i) := fun c h1 h2 h3 h4 h5 h6 h7 => by
    unfold f_X5_clear
    rw [u2n h5, a3 c h1 h2 h3, hp c h4]
  have fM : ∀ c, c ≠ 0 → N0 c = M c := fun c hc => by rw [n3.1 c hc, u2n hc, u2n hc, u2n hc]
  have fM0 : ∀ j, ¬ (19 ≤ j ∧ j < 25) → N0 0 j = M 0 j := fun j hj => by rw [n3.2 j (by omega), u2t (by omega), u2t (by omega), u2t (by omega)]
  rcases parse_ok hPX hPM with ⟨f, Y, N, b0, b1, b2, b3, b4⟩ | ⟨Y, N, W, b1, b2, b3, b4, b5, b6⟩
  · refine ⟨upd2 Y 19 0 0, upd2 N 0 13 0, fun c h1 h2 h3 h4 h5 h6 h7 => ?_, u2s, ⟨fun c h1 h2 h3 => ?_, fun j h1 h2 h3 => ?_, fun j hj => ?_, fun j hj => ?_⟩, u2s, Or.inl ⟨f, b0, b1, b2, ?_⟩⟩
    · rw [u2n h1, b3 c h4 h5 h6 h7]
      exact fX c h1 h2 h3 h4 h5 h6 h7
    · rw [u2n h1, b4.1 c h1 h2 h3, fM c h1]
    · rw [u2t h1, b4.2.1 j h3, fM0 j h3]
    · rw [u2n (by decide), b4.2.2.1 j hj, fM 12 (by decide)]
    · rw [u2n (by decide), b4.2.2.2 j hj, fM 13 (by decide)]
    · rw [u2t (by decide), b4.2.1 15 (by decide), fM0 15 (by decide)]
      exact h15
  · refine ⟨upd2 Y 19 0 0, upd2 (upd2 N 0 13 0) 0 15 (nI (i + 1)), fun c h1 h2 h3 h4 h5 h6 h7 => ?_, u2s, ⟨fun c h1 h2 h3 => ?_, fun j h1 h2 h3 => ?_, fun j hj => ?_, fun j hj => ?_⟩, by rw [u2t (by decide), u2s], Or.inr ⟨W, b1, b2, u2s, b5.cg (u2n (by omega)) (u2n (by omega)), b6.cg (by rw [u2n (by decide), u2n (by decide)]) (by rw [u2n (by decide), u2n (by decide)])⟩⟩
    · rw [u2n h1, b3 c h4 h5 h6 h7]
      exact fX c h1 h2 h3 h4 h5 h6 h7
    · rw [u2n h1, u2n h1, b4.1 c h1 h2 h3, fM c h1]
    · rw [u2t h2, u2t h1, b4.2.1 j h3, fM0 j h3]
    · rw [u2n (by decide), u2n (by decide), b4.2.2.1 j hj, fM 12 (by decide)]
    · rw [u2n (by decide), u2n (by decide), b4.2.2.2 j hj, fM 13 (by decide)]
theorem RuM.lo {M N : Mem} {i k : Nat} {W : Nat → (Nat → Int32) → Int32} (h : RuM M k W) (hk : k < i) (h1 : ∀ j, j < 170 * i → N 12 j = M 12 j) (h2 : ∀ j, j < 4 * i → N 13 j = M 13 j) : RuM N k W := by
  obtain ⟨ca, cs, c1, c2, c3⟩ := h
  have l0 : ca 1 = ca 0 + (cs 0).length := (c3 0 (by decide)).1
  have l1 : ca 2 = ca 1 + (cs 1).length := (c3 1 (by decide)).1
  have l2 : ca 3 = ca 2 + (cs 2).length := (c3 2 (by decide)).1
  refine ⟨ca, cs, c1, fun j hj => by rw [h2 _ (by omega)]; exact c2 j hj, fun j hj => ?_⟩
  obtain ⟨d1, d2, d3, d4⟩ := c3 j hj
  refine ⟨d1, Seg.cg d2 (fun q _ hq => h1 q ?_), d3, d4⟩
  have : ca j + (cs j).length ≤ 160 := by
    match j, hj with
    | 0, _ => show ca 0 + (cs 0).length ≤ 160; omega
    | 1, _ => show ca 1 + (cs 1).length ≤ 160; omega
    | 2, _ => show ca 2 + (cs 2).length ≤ 160; omega
    | j + 3, h => exact absurd h (by omega)
  omega
theorem text_rel {X M Y N : Mem} {e : ET} {d d2 : DT} {nm tp : Nat} (ok : Eok e) (hX : XD X e d) (hM : MD M e d) (hma : Rma X M e.2.1 nm) (hta : Rta X M tp) (him : Rim X M e.1 e.2.1 nm d.1) (hsh : Rsh X M) (hst : Rst X (eW e (d.2.2 d.2.1))) (h6 : d.1 < 6) (fX : XG d.1 X Y ∨ ∃ Z, XG d.1 X Z ∧ Y = upd2 Z 1 5 (nI d2.1)) (hY : Y 19 0 = 0) (fM : MG d.1 M N) (hN : N 0 13 = 0) (q1 : d2.2.1 = d.2.1) (q2 : d2.2.2 d.2.1 = d.2.2 d.2.1) (q3 : d.1 ≤ d2.1) (q4 : d2.1 ≤ 6) (q5 : Y 1 5 = nI d2.1) (q6 : N 0 15 = nI d2.1) (q7 : ∀ k, k < d2.1 → RuX Y k (d2.2.2 k)) (q8 : ∀ k, k < d2.1 → RuM N k (d2.2.2 k)) : Rel Y N := by
  have fY : ∀ c, c ≠ 1 → c ≠ 19 → c ≠ 59 → c ≠ 74 → c ≠ 107 → c ≠ 40 + d.1 → c ≠ 46 + d.1 → c ≠ 52 + d.1 → Y c = X c := by
    intro c h0 h1 h2 h3 h4 h5 h6 h7
    rcases fX with w | ⟨Z, w, rfl⟩
    · exact w c h1 h2 h3 h4 h5 h6 h7
    · rw [u2n h0]
      exact w c h1 h2 h3 h4 h5 h6 h7
  have fY1 : ∀ j, j ≠ 5 → Y 1 j = X 1 j := by
    intro j hj
    rcases fX with w | ⟨Z, w, rfl⟩
    · rw [w 1 (by decide) (by decide) (by decide) (by decide) (by omega) (by omega) (by omega)]
    · rw [u2t hj, w 1 (by decide) (by decide) (by decide) (by decide) (by omega) (by omega) (by omega)]
  obtain ⟨⟨x1, x2, x3, x4, x5, x6, x7⟩, x8, x9, x10, x11⟩ := hX
  obtain ⟨⟨m1, m2, m3, m4, m5, m6, m7⟩, m8, m9⟩ := hM
  have p5 := ok.1
  have n10 := ok.2.1
  refine ⟨e, d2, nm, 0, ok, ⟨⟨?_, ?_, fun p hp => ?_, fun n hn => ?_, ?_, ?_, ?_⟩, by rw [q1]; omega, q4, q5, q7⟩, ⟨⟨?_, ?_, fun p hp => ?_, fun n hn => ?_, ?_, ?_, ?_⟩, q6, q8⟩, hma.cg (by rw [fY 85 (by omega) (by omega) (by omega) (by omega) (by omega) (by omega) (by omega) (by omega)]) (fY 86 (by omega) (by omega) (by omega) (by omega) (by omega) (by omega) (by omega) (by omega)) (fY 87 (by omega) (by omega) (by omega) (by omega) (by omega) (by omega) (by omega) (by omega)) (fM.2.1 10 (by decide) (by decide) (by decide)) (fM.1 9 (by decide) (by decide) (by decide)) (fM.1 10 (by decide) (by decide) (by decide)), ⟨Nat.zero_le _, hY, hN, fun _ h => absurd h (Nat.not_lt_zero _)⟩, (him.cg p5 (fY 98 (by omega) (by omega) (by omega) (by omega) (by omega) (by omega) (by omega) (by omega)) (fY 100 (by omega) (by omega) (by omega) (by omega) (by omega) (by omega) (by omega) (by omega)) (fun c hc => fY c (by omega) (by omega) (by omega) (by omega) (by omega) (by omega) (by omega) (by omega)) (fun k hk => fM.2.1 k (by omega) (by omega) (by omega)) (fun c hc => fM.1 c (by omega) (by omega) (by omega))).more (Nat.le_refl _) (Nat.le_refl _) (Nat.le_refl _) q3, hsh.cg (fun c hc => fY c (by omega) (by omega) (by omega) (by omega) (by omega) (by omega) (by omega) (by omega)) (fun c hc => fM.1 c (by omega) (by omega) (by omega)), ?_⟩
  · exact (fY1 3 (by decide)).trans x1
  · exact (fY1 4 (by decide)).trans x2
  · have hp : p < e.1 := hp
    rw [fY (25 + p) (by omega) (by omega) (by omega) (by omega) (by omega) (by omega) (by omega) (by omega)]
    exact x3 p hp
  · have hn : n < e.2.1 := hn
    rw [fY (30 + n) (by omega) (by omega) (by omega) (by omega) (by omega) (by omega) (by omega) (by omega)]
    exact x4 n hn
  · rw [q1]
    exact (fY1 6 (by decide)).trans x5
  · rw [q1]
    exact x6
  · rw [q1]
    exact q7 d.2.1 (by omega)
  · exact (fM.2.1 0 (by decide) (by decide) (by decide)).trans m1
  · exact (fM.2.1 5 (by decide) (by decide) (by decide)).trans m2
  · rw [fM.1 1 (by decide) (by decide) (by decide), fM.1 2 (by decide) (by decide) (by decide), fM.1 3 (by decide) (by decide) (by decide), fM.1 4 (by decide) (by decide) (by decide)]
    exact m3 p hp
  · rw [fM.1 5 (by decide) (by decide) (by decide), fM.1 6 (by decide) (by decide) (by decide), fM.1 7 (by decide) (by decide) (by decide), fM.1 8 (by decide) (by decide) (by decide)]
    exact m4 n hn
  · rw [q1]
    exact (fM.2.1 16 (by decide) (by decide) (by decide)).trans m5
  · rw [q1]
    exact m6
  · rw [q1]
    exact q8 d.2.1 (by omega)
  · rw [q1, q2]
    exact hst.cg ok.eW (by rw [fY 5 (by omega) (by omega) (by omega) (by omega) (by omega) (by omega) (by omega) (by omega)]) (fY 6 (by omega) (by omega) (by omega) (by omega) (by omega) (by omega) (by omega) (by omega)) (fun c hc => fY c (by omega) (by omega) (by omega) (by omega) (by omega) (by omega) (by omega) (by omega)) (fun c hc => fY c (by omega) (by omega) (by omega) (by omega) (by omega) (by omega) (by omega) (by omega))
/-- text: promise 7 -/
theorem s_text : S_5 Rel := by
  intro X M hR
  have hR0 := hR
  obtain ⟨e, d, nm, tp, ok, hX, hM, hma, hta, him, hsh, hst⟩ := hR
  have x5 : X 1 5 = nI d.1 := hX.2.2.2.1
  have m15 : M 0 15 = nI d.1 := hM.2.1
  have d6 : d.1 ≤ 6 := hX.2.2.1
  have d0 : d.2.1 < d.1 := hX.2.1
  unfold f_X10_text
  rw [x5]
  by_cases c6 : d.1 = 6
  · rw [if_neg (show ¬ nI d.1 < 6 from (by simp (disch := omega) only [fa_lt, fa_le, fa_eq, nI_toInt, Int32.reduceToInt, im1] <;> omega))]
    unfold f_X11_text
    rw [m15, if_pos (show nI d.1 = 6 by rw [c6]; rfl)]
    exact ⟨_, _, rfl, rfl, rfl, hR0⟩
  · have h6 : d.1 < 6 := by omega
    rw [if_pos (show nI d.1 < 6 from (by simp (disch := omega) only [fa_lt, fa_le, fa_eq, nI_toInt, Int32.reduceToInt, im1] <;> omega)), if_pos (iblt h6 (by decide)), nI_clamp (by omega)]
    obtain ⟨t1, t2, t3, t4⟩ := hta
    have hTX : TX X (fun j => (X 58 j).toNatClampNeg, tp) := ⟨t1, t2, fun j hj => by
      obtain ⟨c, hc, w1, w2⟩ := t4 j hj
      show (X 58 j).toNatClampNeg < 256 ∧ X 58 j = nI (X 58 j).toNatClampNeg
      rw [w1, nI_clamp (by omega)]
      exact ⟨hc, rfl⟩⟩
    have hTM : TM M (fun j => (X 58 j).toNatClampNeg, tp) := ⟨t1, t3, fun j hj => by
      obtain ⟨c, hc, w1, w2⟩ := t4 j hj
      show (X 58 j).toNatClampNeg < 256 ∧ M 11 j = nI (X 58 j).toNatClampNeg
      rw [w1, nI_clamp (by omega)]
      exact ⟨hc, w2⟩⟩
    obtain ⟨Y, N, g1, g2, g3, g4, g5⟩ := text_core h6 hTX hTM m15
    have Yk : ∀ k, k < d.1 → RuX Y k (d.2.2 k) := fun k hk => (hX.2.2.2.2 k hk).cg (g1 _ (by omega) (by omega) (by omega) (by omega) (by omega) (by omega) (by omega)) (g1 _ (by omega) (by omega) (by omega) (by omega) (by omega) (by omega) (by omega))
    have Nk : ∀ k, k < d.1 → RuM N k (d.2.2 k) := fun k hk => (hM.2.2 k hk).lo hk g3.2.2.1 g3.2.2.2
    have Y5 : Y 1 5 = nI d.1 := by rw [g1 1 (by decide) (by decide) (by decide) (by decide) (by omega) (by omega) (by omega)]; exact x5
    rcases g5 with ⟨f, f1, f2, f3, f4⟩ | ⟨W, f2, f3, f4, f5, f6⟩
    · rw [f2, Option.bind_some, f3, if_neg (show ¬ nI f = -1 from (by simp (disch := omega) only [fa_lt, fa_le, fa_eq, nI_toInt, Int32.reduceToInt, im1] <;> omega))]
      exact ⟨_, _, rfl, rfl, rfl, text_rel ok hX hM hma ⟨t1, t2, t3, t4⟩ him hsh hst h6 (Or.inl g1) g2 g3 g4 rfl rfl (Nat.le_refl _) d6 Y5 f4 Yk Nk⟩
    · rw [f2, Option.bind_some, f3, if_pos rfl]
      dsimp only
      rw [Y5, nI_1, u2s, nI_pred]
      refine ⟨_, _, rfl, rfl, rfl, (?_ : Rel (upd2 Y 1 5 (nI (d.1 + 1))) N)⟩
      refine text_rel (d2 := (d.1 + 1, d.2.1, fun k => if k = d.1 then W else d.2.2 k)) ok hX hM hma ⟨t1, t2, t3, t4⟩ him hsh hst h6 (Or.inr ⟨Y, g1, rfl⟩) (by rw [u2n (by decide)]; exact g2) g3 g4 rfl (if_neg (by omega)) (by show d.1 ≤ d.1 + 1; omega) (by show d.1 + 1 ≤ 6; omega) u2s f4 (fun k hk => ?_) (fun k hk => ?_)
      · have hk : k < d.1 + 1 := hk
        show RuX _ k (if k = d.1 then W else d.2.2 k)
        by_cases ck : k = d.1
        · rw [if_pos ck, ck]
          exact f5.cg (u2n (by omega)) (u2n (by omega))
        · rw [if_neg ck]
          exact (Yk k (by omega)).cg (u2n (by omega)) (u2n (by omega))
      · have hk : k < d.1 + 1 := hk
        show RuM _ k (if k = d.1 then W else d.2.2 k)
        by_cases ck : k = d.1
        · rw [if_pos ck, ck]
          exact f6
        · rw [if_neg ck]
          exact Nk k (by omega)
