def w3 {α : Type} (a b c : α) (j : Nat) : α := if j = 0 then a else if j = 1 then b else c
theorem ruX3 {Y : Mem} {i : Nat} {a b c : List Int32} {u v w : (Nat → Int32) → Int32} (hl : a.length + b.length + c.length ≤ 320) (e0 : Y (52 + i) 0 = nI a.length) (e1 : Y (52 + i) 1 = nI (a.length + b.length)) (e2 : Y (52 + i) 2 = nI (a.length + b.length + c.length)) (s0 : Seg (Y (46 + i)) 0 a) (s1 : Seg (Y (46 + i)) a.length b) (s2 : Seg (Y (46 + i)) (a.length + b.length) c) (o0 : ∀ z ∈ a, okX z) (o1 : ∀ z ∈ b, okX z) (o2 : ∀ z ∈ c, okX z) (r0 : ∀ fa s, rnX fa a s = u fa :: s) (r1 : ∀ fa s, rnX fa b s = v fa :: s) (r2 : ∀ fa s, rnX fa c s = w fa :: s) : RuX Y i (w3 u v w) := by
  refine ⟨fun j => if j = 0 then 0 else if j = 1 then a.length else if j = 2 then a.length + b.length else a.length + b.length + c.length, w3 a b c, rfl, hl, fun j hj => ?_⟩
  match j, hj with
  | 0, _ => exact ⟨(Nat.zero_add _).symm, e0, s0, o0, r0⟩
  | 1, _ => exact ⟨rfl, e1, s1, o1, r1⟩
  | 2, _ => exact ⟨rfl, e2, s2, o2, r2⟩
  | j + 3, h => exact absurd h (by omega)
theorem ruM3 {N : Mem} {i : Nat} {a b c : List Int32} {u v w : (Nat → Int32) → Int32} (hl : a.length + b.length + c.length ≤ 160) (e0 : N 13 (4 * i) = nI 0) (e1 : N 13 (4 * i + 1) = nI a.length) (e2 : N 13 (4 * i + 2) = nI (a.length + b.length)) (e3 : N 13 (4 * i + 3) = nI (a.length + b.length + c.length)) (s0 : Seg (N 12) (170 * i) a) (s1 : Seg (N 12) (170 * i + a.length) b) (s2 : Seg (N 12) (170 * i + (a.length + b.length)) c) (o0 : ∀ z ∈ a, okM z) (o1 : ∀ z ∈ b, okM z) (o2 : ∀ z ∈ c, okM z) (r0 : ∀ fa s, rnM fa a s = some (u fa :: s)) (r1 : ∀ fa s, rnM fa b s = some (v fa :: s)) (r2 : ∀ fa s, rnM fa c s = some (w fa :: s)) : RuM N i (w3 u v w) := by
  refine ⟨fun j => if j = 0 then 0 else if j = 1 then a.length else if j = 2 then a.length + b.length else a.length + b.length + c.length, w3 a b c, hl, fun j hj => ?_, fun j hj => ?_⟩
  · match j, hj with
    | 0, _ => exact e0
    | 1, _ => exact e1
    | 2, _ => exact e2
    | 3, _ => exact e3
    | j + 4, h => exact absurd h (by omega)
  · match j, hj with
    | 0, _ => exact ⟨(Nat.zero_add _).symm, s0, o0, r0⟩
    | 1, _ => exact ⟨rfl, s1, o1, r1⟩
    | 2, _ => exact ⟨rfl, s2, o2, r2⟩
    | j + 3, h => exact absurd h (by omega)
/-- what the model does behind its first token -/
def tailM (r_2 : Mem) : Option (Int32 × Mem) := (Option.bind (f_X11_part r_2 7 (0)) fun r_3 => (if r_3.1 = 0 then some ((((-100) - ((upd2 r_3.2 0 13 (0)) 0 21)), (upd2 r_3.2 0 13 (0)))) else (Option.bind (f_X11_part r_3.2 8 (1)) fun r_5 => (if r_5.1 = 0 then some ((((-100) - ((upd2 r_5.2 0 13 (0)) 0 21)), (upd2 r_5.2 0 13 (0)))) else (Option.bind (f_X11_part r_5.2 9 (2)) fun r_7 => (if r_7.1 = 0 then some ((((-100) - ((upd2 r_7.2 0 13 (0)) 0 21)), (upd2 r_7.2 0 13 (0)))) else (if (r_7.2 0 22) = 0 then (if ibd (((4 * ((upd2 r_7.2 0 13 (0)) 0 15)) + 3)) 24 then some ((((upd2 (upd2 r_7.2 0 13 (0)) 13 (Int32.toNatClampNeg (((4 * ((upd2 r_7.2 0 13 (0)) 0 15)) + 3))) (((upd2 r_7.2 0 13 (0)) 0 19))) 0 15), (upd2 (upd2 (upd2 r_7.2 0 13 (0)) 13 (Int32.toNatClampNeg (((4 * ((upd2 r_7.2 0 13 (0)) 0 15)) + 3))) (((upd2 r_7.2 0 13 (0)) 0 19))) 0 15 ((((upd2 (upd2 r_7.2 0 13 (0)) 13 (Int32.toNatClampNeg (((4 * ((upd2 r_7.2 0 13 (0)) 0 15)) + 3))) (((upd2 r_7.2 0 13 (0)) 0 19))) 0 15) + 1))))) else none) else some ((((-100) - ((upd2 r_7.2 0 13 (0)) 0 21)), (upd2 r_7.2 0 13 (0)))))))))))
def BadT (i : Nat) (X M : Mem) (rX rM : Option (Int32 × Mem)) : Prop := ∃ f Y N, f ≤ 160 ∧ rX = some (nI f, upd2 Y 19 0 0) ∧ rM = some (-100 - nI f, upd2 N 0 13 0) ∧ XT i X Y ∧ MT i M N
def GoodT (i : Nat) (X M : Mem) (rX rM : Option (Int32 × Mem)) : Prop := ∃ Y N W, rX = some (-1, upd2 Y 19 0 0) ∧ rM = some (nI i, upd2 (upd2 N 0 13 0) 0 15 (nI (i + 1))) ∧ XT i X Y ∧ MT i M N ∧ RuX Y i W ∧ RuM N i W
theorem step_p {X M : Mem} {x : Tx} {la i c sx sm j fu : Nat} (hX : PX X x la i c 0 sx) (hM : PM M x i c 0 sm) (hs1 : sx ≤ 2 * c) (hs2 : sm ≤ c) (hj : j < 3) (hf : 3 < fu) : ∃ D b N, f_X4_parse_16 (fu + 1) (nI j) X = f_X4_parse_16 fu (nI (j + 1)) D ∧ f_X11_part M (7 + j) (nI j) = some (b, N) ∧ XT i X D ∧ MT i M N ∧ ((b = 1 ∧ P1 x la i j sx sm X M D N) ∨ (b = 0 ∧ ∃ f Y, f ≤ 160 ∧ f_X4_parse_16 fu (nI (j + 1)) D = some (nI f, upd2 Y 19 0 0) ∧ XT i D Y ∧ N 0 21 = nI f)) := by
  have hb := hX.b
  obtain ⟨A, B, C, D, b, N, a1, a2, a3, a4, a5, a6, a7, a8, a9⟩ := part_ok hX hM hs1 hs2 hj
  refine ⟨D, b, N, ?_, a6, a7, a8, ?_⟩
  · rw [f_X4_parse_16, if_neg (show ¬ 3 ≤ nI j from (by simp (disch := omega) only [fa_lt, fa_le, fa_eq, nI_toInt, Int32.reduceToInt, im1] <;> omega)), show (20261 : Int32) + nI j = nI (20261 + j) by rw [show (20261 : Int32) = nI 20261 from rfl, nI_add], a1, Option.bind_some, a2, Option.bind_some, a3, Option.bind_some, a4, if_pos hb.2, a5, Option.bind_some, nI_1]
  · rcases a9 with h | ⟨h1, f, h2, h3⟩
    · exact Or.inl h
    · obtain ⟨Y, y1, y2⟩ := rest_x (3 - (j + 1)) (j + 1) fu D (by omega) (by omega) h2
      exact Or.inr ⟨h1, f, Y, h2.2.1, y1, y2, h3⟩
theorem n21 {N : Mem} {f : Nat} (h : N 0 21 = nI f) : (-100 - (upd2 N 0 13 0) 0 21 : Int32) = -100 - nI f := by rw [u2t (by decide), h]
theorem parse_ok {X M : Mem} {x : Tx} {la i : Nat} (hX : PX X x la i 0 0 0) (hM : PM M x i 0 0 0) : BadT i X M (f_X4_parse_16 FU 0 X) (tailM M) ∨ GoodT i X M (f_X4_parse_16 FU 0 X) (tailM M) := by
  have hb := hX.b
  unfold tailM
  obtain ⟨D, b, N, a1, a2, a3, a4, a5⟩ := step_p (j := 0) (fu := 3999) hX hM (Nat.zero_le _) (Nat.zero_le _) (by decide) (by decide)
  rw [show f_X4_parse_16 FU 0 X = f_X4_parse_16 3999 (nI 1) D from a1, show f_X11_part M 7 0 = some (b, N) from a2, Option.bind_some]
  rcases a5 with ⟨rfl, c1, xs, cs, v, p1, p2, p3, p4, p5, p6, p7, p8, p9, p10, p11, p12, -, -, -, -⟩ | ⟨rfl, f, Y, b1, b2, b3, b4⟩
  rotate_left
  · rw [if_pos t00]
    refine Or.inl ⟨f, Y, N, b1, b2, ?_, a3.tr b3, a4⟩
    rw [n21 b4]
  rw [if_neg t10]
  obtain ⟨D2, b2, N2, e1, e2, e3, e4, e5⟩ := step_p (j := 1) (fu := 3998) p1 p2 p3 p4 (by decide) (by decide)
  rw [show f_X4_parse_16 3999 (nI 1) D = f_X4_parse_16 3998 (nI 2) D2 from e1, show f_X11_part N 8 1 = some (b2, N2) from e2, Option.bind_some]
  rcases e5 with ⟨rfl, c2, xs2, cs2, v2, q1, q2, q3, q4, q5, q6, q7, q8, q9, q10, q11, q12, q13, q14, q15, q16⟩ | ⟨rfl, f, Y, b1, b2, b3, b4⟩
  rotate_left
  · rw [if_pos t00]
    refine Or.inl ⟨f, Y, N2, b1, b2, ?_, a3.tr (e3.tr b3), a4.tr e4⟩
    rw [n21 b4]
  rw [if_neg t10]
  obtain ⟨D3, b3, N3, g1, g2, g3, g4, g5⟩ := step_p (j := 2) (fu := 3997) q1 q2 q3 q4 (by decide) (by decide)
  rw [show f_X4_parse_16 3998 (nI 2) D2 = f_X4_parse_16 3997 (nI 3) D3 from g1, show f_X11_part N2 9 2 = some (b3, N3) from g2, Option.bind_some]
  rcases g5 with ⟨rfl, c3, xs3, cs3, v3, r1, r2, r3, r4, r5, r6, r7, r8, r9, r10, r11, r12, r13, r14, r15, r16⟩ | ⟨rfl, f, Y, b1, b2, b3, b4⟩
  rotate_left
  · rw [if_pos t00]
    refine Or.inl ⟨f, Y, N3, b1, b2, ?_, a3.tr (e3.tr (g3.tr b3)), a4.tr (e4.tr g4)⟩
    rw [n21 b4]
  rw [if_neg t10]
  have hc3 := r1.b
  have hT := r2.1
  have hlt := tT_lt x (fun j hj => (hT.2.2 j hj).1) c3
  obtain ⟨-, -, n3⟩ := q_num r2.2.1
  rw [show f_X4_parse_16 3997 (nI 3) D3 = f_X4_parse_16 (3996 + 1) (nI 3) D3 from rfl, f_X4_parse_16, if_pos (show 3 ≤ nI 3 by decide)]
  unfold f_X4_expect
  rw [r1.tok, Option.bind_some]
  by_cases ce : tT x c3 = 20259
  · rw [if_pos (show nI (tT x c3) = 20259 by rw [ce]; rfl), if_pos (n3.mpr ce), Option.bind_some]
    dsimp only
    have e15 : (4 : Int32) * nI i + 3 = nI (4 * i + 3) := em4 i 3
    rw [u2t (show (15 : Nat) ≠ 13 by decide), r2.2.2.2.1, e15, if_pos (iblt (show 4 * i + 3 < 24 by omega) (by decide)), nI_clamp (by omega), u2t (show (19 : Nat) ≠ 13 by decide), r2.2.2.2.2, u2n (show (0 : Nat) ≠ 13 by decide), u2t (show (15 : Nat) ≠ 13 by decide), r2.2.2.2.1, nI_1]
    have adv : ∃ Z, f_X4_advance D3 = Z ∧ XF i 0 D3 Z ∧ Z 107 4 = -1 ∧ (∀ q, Z (46 + i) q = D3 (46 + i) q) ∧ ∀ q, Z (52 + i) q = D3 (52 + i) q := by
      unfold f_X4_advance
      by_cases cz : 160 ≤ D3 107 2
      · rw [if_pos cz]
        exact ⟨D3, rfl, XF.rf, r1.2.2.2.2.2.2.2.1, fun _ => rfl, fun _ => rfl⟩
      · rw [if_neg cz]
        exact ⟨_, rfl, XF.p hb.2 (by decide), by rw [u2t (by decide)]; exact r1.2.2.2.2.2.2.2.1, fun q => by rw [u2n (by omega)], fun q => by rw [u2n (by omega)]⟩
    obtain ⟨Z, z1, z2, z3, z4, z5⟩ := adv
    rw [z1, u2n (show (107 : Nat) ≠ 19 by decide), z3]
    refine Or.inr ⟨Z, upd2 N3 13 (4 * i + 3) (nI (0 + cs.length + cs2.length + cs3.length)), w3 v v2 v3, rfl, ?_, a3.tr (e3.tr (g3.tr z2.t)), a4.tr (e4.tr (g4.tr (MT.u (by omega)))), ?_, ?_⟩
    · rw [u2sw N3 (show (0 : Nat) ≠ 13 by decide)]
    · have f46 : ∀ q, q < 0 + xs.length + xs2.length → Z (46 + i) q = D2 (46 + i) q := fun q hq => by rw [z4, r13 q hq]
      refine ruX3 (a := xs) (b := xs2) (c := xs3) (by omega) ?_ ?_ ?_ ?_ ?_ ?_ p7 q7 r7 p9 q9 r9
      · rw [z5, r14 0 (by decide), q14 0 (by decide), p11, Nat.zero_add]
      · rw [z5, r14 1 (by decide), q11, Nat.zero_add]
      · rw [z5, r11, Nat.zero_add]
      · exact Seg.cg p5 (fun q _ hq => by rw [f46 q (by omega), q13 q (by omega)])
      · rw [Nat.zero_add] at q5
        exact Seg.cg q5 (fun q _ hq => f46 q (by omega))
      · rw [Nat.zero_add] at r5
        exact Seg.cg r5 (fun q _ hq => z4 q)
    · refine ruM3 (a := cs) (b := cs2) (c := cs3) (by omega) ?_ ?_ ?_ ?_ ?_ ?_ ?_ p8 q8 r8 p10 q10 r10
      · rw [u2t (by omega), r16 _ (by omega), q16 _ (by omega)]
        exact p12
      · rw [u2t (by omega), r16 _ (by omega), q12, Nat.zero_add]
      · rw [u2t (by omega), r12, Nat.zero_add]
      · rw [u2s, Nat.zero_add]
      · rw [Nat.add_zero] at p6
        exact Seg.cg p6 (fun q _ hq => by rw [u2n (by decide), r15 q (by omega), q15 q (by omega)])
      · rw [Nat.zero_add] at q6
        exact Seg.cg q6 (fun q _ hq => by rw [u2n (by decide), r15 q (by omega)])
      · rw [Nat.zero_add] at r6
        exact Seg.cg r6 (fun q _ hq => by rw [u2n (by decide)])
  · obtain ⟨w1, w2⟩ := r1.fail hM.1.1 (by omega)
    rw [if_neg (show ¬ nI (tT x c3) = 20259 from fun w => ce ((nI_eq (b := 20259) (by omega) (by decide)).mp w)), if_neg (fun w => ce (n3.mp w)), w1, Option.bind_some, Option.bind_some, u2n (show (107 : Nat) ≠ 19 by decide), u2s]
    refine Or.inl ⟨tS x c3, upd2 D3 107 4 (nI (tS x c3)), N3, w2.2.1, rfl, ?_, a3.tr (e3.tr (g3.tr (XF.p (k := 0) hb.2 (by decide)).t)), a4.tr (e4.tr g4)⟩
    rw [n21 r2.2.1.2.1]
