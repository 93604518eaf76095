/-- class and model at token c, steps made since token c0 that say v -/
def Go (x : Tx) (la i o c0 sx sm : Nat) (X M : Mem) (c : Nat) : Prop := ∃ (xs cs : List Int32) (v : (Nat → Int32) → Int32), c0 ≤ c ∧ PX X x la i c o (sx + xs.length) ∧ PM M x i c o (sm + cs.length) ∧ xs.length ≤ 2 * (c - c0) ∧ cs.length ≤ c - c0 ∧ Seg (X (46 + i)) sx xs ∧ Seg (M 12) (170 * i + sm) cs ∧ (∀ a ∈ xs, okX a) ∧ (∀ a ∈ cs, okM a) ∧ (∀ fa s, rnX fa xs s = v fa :: s) ∧ ∀ fa s, rnM fa cs s = some (v fa :: s)
def Rs (x : Tx) (la i o c0 sx sm : Nat) (X M Y : Mem) (b : Int32) (N : Mem) : Prop := (b = 1 ∧ XF i sx X Y ∧ MF i sm M N ∧ ∃ c, Go x la i o c0 sx sm Y N c) ∨ (b = 0 ∧ XF i 0 X Y ∧ MF i 0 M N ∧ ∃ f, FQ Y i f ∧ N 0 21 = nI f)
/-- both read the same from any token on -/
def Sm (FX : Mem → Option Mem) (FM : Mem → Option (Int32 × Mem)) (x : Tx) (la i o : Nat) : Prop := ∀ (X M : Mem) (c sx sm : Nat), PX X x la i c o sx → PM M x i c o sm → sx ≤ 2 * c → sm ≤ c → ∃ Y b N, FX X = some Y ∧ FM M = some (b, N) ∧ Rs x la i o c sx sm X M Y b N
theorem PX.b {X : Mem} {x : Tx} {la i c o sz : Nat} (h : PX X x la i c o sz) : c ≤ 160 ∧ i < 6 := by
  have := h.1.1
  exact ⟨by have := h.2.1; omega, h.2.2.1⟩
/-- both fail here -/
theorem Rs.fail {X M : Mem} {x : Tx} {la i o c sx sm : Nat} {FM : Option (Int32 × Mem)} (hX : PX X x la i c o sx) (hM : PM M x i c o sm) (hs : sx ≤ 2 * c) (hF : FM = some (0, M)) : ∃ Y b N, f_X4_fail X = some Y ∧ FM = some (b, N) ∧ Rs x la i o c sx sm X M Y b N := by
  have hb := hX.b
  obtain ⟨f1, f2⟩ := hX.fail hM.1.1 (by omega)
  exact ⟨_, 0, M, f1, hF, Or.inr ⟨rfl, XF.p hb.2 (by decide), MF.rf, _, f2, hM.2.1.2.1⟩⟩
theorem s1_ok {X M X2 M2 N : Mem} {x : Tx} {la i o c sx sm : Nat} {a b : Int32} {v : (Nat → Int32) → Int32} (hX : PX X x la i c o sx) (hM : PM M x i c o sm) (hc : c < la) (h1 : f_X5_add X i a = some X2) (p2 : PX X2 x la i c o (sx + 1)) (fX : XF i sx X X2) (vX : X2 (46 + i) sx = a) (h2 : f_X11_put M b = some M2) (fM : MF i sm M M2) (vM : M2 12 (170 * i + sm) = b) (h3 : f_X11_next M2 = some N) (q3 : PM N x i (c + 1) o (sm + 1)) (fN : nfr M2 N) (oa : okX a) (ob : okM b) (ra : ∀ fa s, stX fa s a = v fa :: s) (rb : ∀ fa s, stM fa b s = some (v fa :: s)) : Rs x la i o c sx sm X M (f_X4_advance X2) 1 N := by
  have hb := hX.b
  obtain ⟨e1, p3⟩ := p2.adv hc
  rw [e1]
  refine Or.inl ⟨rfl, fX.tr (XF.p hb.2 (by decide)), fM.tr (MF.n fN), c + 1, [a], [b], v, by omega, p3, q3, by simp <;> omega, by simp <;> omega, Seg.one (by rw [u2n (by omega)]; exact vX), Seg.one (by rw [fN.1 12 (by decide)]; exact vM), fun z hz => ?_, fun z hz => ?_, fun fa s => ra fa s, fun fa s => ?_⟩
  · rw [List.mem_singleton.mp hz]
    exact oa
  · rw [List.mem_singleton.mp hz]
    exact ob
  · show (stM fa b s).bind (fun s2 => some s2) = _
    rw [rb]
    rfl
theorem nm_code : ∀ j, j < 6 → ¬ 0 ≤ -nI (1 + j) ∧ -7 < -nI (1 + j) ∧ (-1 - -nI (1 + j)).toNatClampNeg = j := by decide +kernel
/-- a number, a name, a minus, a bracket -/
theorem one_ok {recL : Mem → Int32 → Option Mem} {rA rN rO : Mem → Option (Int32 × Mem)} {x : Tx} {la i o : Nat} (ho : o ≤ 5) (H : o < 5 → Sm (fun X => recL X 5) rO x la i (o + 1) ∧ Sm (fun X => recL X 0) rA x la i (o + 1)) : Sm (fun X => f_X4_one recL X) (f_X11_one rA rN rO) x la i o := by
  intro X M c sx sm hX hM hs1 hs2
  have hb := hX.b
  have hT := hM.1
  have hK := hM.2.1
  have hlt := tT_lt x (fun j hj => (hT.2.2 j hj).1) c
  obtain ⟨n1, n2, n3⟩ := q_num hK
  show ∃ Y b N, f_X4_one recL X = some Y ∧ f_X11_one rA rN rO M = some (b, N) ∧ _
  unfold f_X4_one f_X11_one
  rw [hX.tok, Option.bind_some]
  by_cases c1 : tT x c < 10000
  · have hc := hX.lt (by omega) (by omega)
    have := hX.1.1
    obtain ⟨a1, a2, a3, a4, a5⟩ := hX.add (v := nI (tT x c)) (by omega)
    obtain ⟨b1, b2, b3, b4⟩ := hM.put (v := nI (tT x c)) hb.2 (by omega)
    obtain ⟨N, d1, d2, d3⟩ := b2.next
    rw [if_neg (show ¬ 20000 ≤ nI (tT x c) from (by simp (disch := omega) only [fa_lt, fa_le, fa_eq, nI_toInt, Int32.reduceToInt, im1] <;> omega)), a1, if_pos (show i < 6 from hb.2), a2, Option.bind_some, if_pos (n1.mpr c1), n2 c1, b1, Option.bind_some, d1, Option.bind_some]
    refine ⟨_, 1, N, rfl, rfl, s1_ok (v := fun _ => nI (tT x c)) hX hM hc a2 a3 a4 a5 b1 b3 b4 d1 d2 d3 (Or.inl ⟨_, c1, rfl⟩) (Or.inl ⟨_, c1, rfl⟩) (fun fa s => ?_) (fun fa s => ?_)⟩
    · unfold stX
      rw [if_pos (show nI (tT x c) < 20000 from (by simp (disch := omega) only [fa_lt, fa_le, fa_eq, nI_toInt, Int32.reduceToInt, im1] <;> omega)), if_pos (show nI (tT x c) < 10000 from (by simp (disch := omega) only [fa_lt, fa_le, fa_eq, nI_toInt, Int32.reduceToInt, im1] <;> omega))]
    · unfold stM
      rw [if_pos (show 0 ≤ nI (tT x c) from (by simp (disch := omega) only [fa_lt, fa_le, fa_eq, nI_toInt, Int32.reduceToInt, im1] <;> omega))]
  rw [if_neg (fun w => c1 (n1.mp w)), q_name hT hK, Option.bind_some]
  by_cases c2 : 10000 ≤ tT x c ∧ tT x c < 10006
  · have hc := hX.lt (by omega) (by omega)
    have := hX.1.1
    obtain ⟨j, hj⟩ : ∃ j, tT x c = 10000 + j := ⟨tT x c - 10000, by omega⟩
    have hj6 : j < 6 := by omega
    obtain ⟨a1, a2, a3, a4, a5⟩ := hX.add (v := nI (tT x c)) (by omega)
    obtain ⟨b1, b2, b3, b4⟩ := hM.put (v := -nI (1 + j)) hb.2 (by omega)
    obtain ⟨N, d1, d2, d3⟩ := b2.next
    obtain ⟨m1, m2, m3⟩ := nm_code j hj6
    rw [if_neg (show ¬ 20000 ≤ nI (tT x c) from (by simp (disch := omega) only [fa_lt, fa_le, fa_eq, nI_toInt, Int32.reduceToInt, im1] <;> omega)), a1, if_pos (show i < 6 from hb.2), a2, Option.bind_some, if_pos c2, show tT x c - 9999 = 1 + j by omega, if_neg (show ¬ nI (1 + j) ≤ 0 from (by simp (disch := omega) only [fa_lt, fa_le, fa_eq, nI_toInt, Int32.reduceToInt, im1] <;> omega)), b1, Option.bind_some, d1, Option.bind_some]
    refine ⟨_, 1, N, rfl, rfl, s1_ok (v := fun fa => fa j) hX hM hc a2 a3 a4 a5 b1 b3 b4 d1 d2 d3 (Or.inr (Or.inl ⟨j, hj6, by rw [hj]⟩)) (Or.inr (Or.inl ⟨j, hj6, rfl⟩)) (fun fa s => ?_) (fun fa s => ?_)⟩
    · unfold stX
      rw [if_pos (show nI (tT x c) < 20000 from (by simp (disch := omega) only [fa_lt, fa_le, fa_eq, nI_toInt, Int32.reduceToInt, im1] <;> omega)), if_neg (show ¬ nI (tT x c) < 10000 from (by simp (disch := omega) only [fa_lt, fa_le, fa_eq, nI_toInt, Int32.reduceToInt, im1] <;> omega)), hj, show (10000 : Int32) = nI 10000 from rfl, pk_sub (by omega), nI_clamp (by omega), Nat.add_sub_cancel_left]
    · unfold stM
      rw [if_neg m1, if_pos m2, m3]
  have c3 : 20000 ≤ tT x c := by
    by_cases w : tT x c < 20000
    · exfalso
      rcases hK.2.2 with ⟨q1, q2⟩ | ⟨q1, q2, q3⟩ | ⟨q1, q2⟩ | ⟨q1, q, q2, q3, q4, q5⟩ | ⟨q1, q2⟩
      · omega
      · omega
      · have := wcN_rng (wd x (tS x c) (tA x (c + 1)))
        omega
      · omega
      · omega
    · omega
  rw [if_neg c2, if_pos (show (0 : Int32) ≤ 0 by decide), if_pos (show 20000 ≤ nI (tT x c) from (by simp (disch := omega) only [fa_lt, fa_le, fa_eq, nI_toInt, Int32.reduceToInt, im1] <;> omega))]
  rw [show f_X11_is_ M 45 = _ from q_sg (q := 45) hK (by decide), show f_X11_is_ M 40 = _ from q_sg (q := 40) hK (by decide)]
  by_cases c4 : tT x c = 20045
  · have hc := hX.lt (by omega) (by omega)
    have := hX.1.1
    rw [if_pos c4, if_neg t10, if_pos (show nI (tT x c) = 20045 by rw [c4]; rfl)]
    unfold f_X4_negative f_X4_opens
    rw [hX.2.2.2.2.2.2.1, hM.2.2.1]
    by_cases c5 : o < 5
    · obtain ⟨H1, -⟩ := H c5
      rw [if_pos (show nI o < 5 from (by simp (disch := omega) only [fa_lt, fa_le, fa_eq, nI_toInt, Int32.reduceToInt, im1] <;> omega)), if_neg (show ¬ nI o = 5 from (by simp (disch := omega) only [fa_lt, fa_le, fa_eq, nI_toInt, Int32.reduceToInt, im1] <;> omega)), nI_1]
      obtain ⟨e1, p1⟩ := (hX.op (o2 := o + 1) (by omega)).adv hc
      rw [e1, Option.bind_some, if_neg t10]
      obtain ⟨a1, a2, a3, a4, a5⟩ := p1.add (v := 0) (by omega)
      rw [a1, if_pos (show i < 6 from hb.2), a2, Option.bind_some]
      obtain ⟨N0, d1, d2, d3⟩ := (hM.op (o2 := o + 1)).next
      rw [d1, Option.bind_some]
      obtain ⟨Y, b, N, s1, s2, s3⟩ := H1 _ _ _ _ _ a3 d2 (by omega) (by omega)
      have f0 : XF i sx X (upd2 (upd2 (upd2 (upd2 X 107 3 (nI (o + 1))) 107 2 (nI (c + 1))) (46 + i) sx 0) (40 + i) 2 (nI (sx + 1))) := (XF.p hb.2 (by decide)).tr ((XF.p hb.2 (by decide)).tr a4)
      have f1 : MF i sm M N0 := (MF.o (by decide)).tr (MF.n d3)
      rw [show recL _ 5 = some Y from s1, s2, Option.bind_some, Option.bind_some]
      rcases s3 with ⟨rfl, g1, g2, c', xs, cs, v, g3, g4, g5, g6, g7, g8, g9, g10, g11, g12, g13⟩ | ⟨rfl, g1, g2, f, g3, g4⟩
      · have hc' := g4.b
        have r1 : Y 107 3 - 1 = nI o := by rw [g4.2.2.2.2.2.2.1, nI_pred]
        have r2 : N 0 24 - 1 = nI o := by rw [g5.2.2.1, nI_pred]
        rw [if_neg t10, r1, r2]
        obtain ⟨h1, h2, h3, h4, h5⟩ := (g4.op (o2 := o) ho).add (v := 20045) (by omega)
        obtain ⟨k1, k2, k3, k4⟩ := (g5.op (o2 := o)).put (v := -19) hb.2 (by omega)
        rw [h1, if_pos (show i < 6 from hb.2), h2, Option.bind_some, k1, Option.bind_some]
        refine ⟨_, 1, _, rfl, rfl, Or.inl ⟨rfl, f0.tr ((g1.less (by omega)).tr ((XF.p hb.2 (by decide)).tr (h4.less (by omega)))), f1.tr (g2.tr ((MF.o (by decide)).tr (k3.less (by omega)))), c', [0] ++ xs ++ [20045], cs ++ [-19], fun fa => -(v fa), by omega, ?_, ?_, ?_, ?_, ?_, ?_, ?_, ?_, ?_, ?_⟩⟩
        · rw [show sx + ([0] ++ xs ++ [20045] : List Int32).length = sx + 1 + xs.length + 1 by simp <;> omega]
          exact h3
        · rw [show sm + (cs ++ [-19] : List Int32).length = sm + cs.length + 1 by simp <;> omega]
          exact k2
        · simp <;> omega
        · simp <;> omega
        · refine Seg.app (Seg.app (Seg.one ?_) ?_) (Seg.one ?_)
          · rw [h4.2.2.2 sx (by omega), u2n (by omega), g1.2.2.2 sx (by omega)]
            exact a5
          · refine Seg.cg (f := Y (46 + i)) ?_ (fun j q1 q2 => ?_)
            · exact g8
            · simp at q1 q2
              rw [h4.2.2.2 j (by omega), u2n (by omega)]
          · rw [show sx + ([0] ++ xs : List Int32).length = sx + 1 + xs.length by simp <;> omega]
            exact h5
        · refine Seg.app (Seg.cg (f := N 12) g9 (fun j q1 q2 => ?_)) (Seg.one ?_)
          · rw [k3.2.2 j (by omega), u2n (by decide)]
          · rw [show 170 * i + sm + cs.length = 170 * i + (sm + cs.length) from Nat.add_assoc _ _ _]
            exact k4
        · intro a ha
          rw [List.mem_append, List.mem_append, List.mem_singleton, List.mem_singleton] at ha
          rcases ha with (rfl | ha) | rfl
          · exact Or.inl ⟨0, by decide, rfl⟩
          · exact g10 a ha
          · exact Or.inr (Or.inr (by decide))
        · intro a ha
          rw [List.mem_append, List.mem_singleton] at ha
          rcases ha with ha | rfl
          · exact g11 a ha
          · exact Or.inr (Or.inr ⟨8, by decide, by decide⟩)
        · intro fa s
          rw [rnX_app, rnX_app]
          show rnX fa [20045] (rnX fa xs (stX fa s 0)) = _
          rw [show stX fa s 0 = 0 :: s by unfold stX; rw [if_pos (by decide), if_pos (by decide)], g12]
          show f_X5_joined 20045 0 (v fa) :: s = _
          have : f_X5_joined 20045 0 (v fa) = 0 - v fa := by
            unfold f_X5_joined
            simp (decide := true) only [if_true, if_false]
          rw [this, Int32.zero_sub]
        · intro fa s
          rw [rnM_app, g13]
          show (stM fa (-19) (v fa :: s)).bind (fun s2 => some s2) = _
          unfold stM
          simp (decide := true) only [if_true, if_false]
          rfl
      · rw [if_pos t00]
        obtain ⟨h1, Y2, h2, h3, h4, -⟩ := (g3.op (v := Y 107 3 - 1)).add (v := 20045) (k := 0) (fun _ _ _ => Nat.zero_le _)
        rw [h1, if_pos (show i < 6 from hb.2), h2, Option.bind_some]
        exact ⟨_, 0, _, rfl, rfl, Or.inr ⟨rfl, (f0.less (Nat.zero_le _)).tr (g1.tr ((XF.p hb.2 (by decide)).tr h4)), (f1.less (Nat.zero_le _)).tr g2, f, h3, g4⟩⟩
    · have o5 : o = 5 := by omega
      subst o5
      rw [if_neg (show ¬ nI 5 < 5 by decide), if_pos (show nI 5 = 5 from rfl)]
      obtain ⟨Y, b, N, f1, f2, f3⟩ := Rs.fail hX hM hs1 rfl
      rw [f1, Option.bind_some, Option.bind_some, if_pos t00, Option.bind_some]
      exact ⟨Y, b, N, rfl, f2, f3⟩
  rw [if_neg c4, if_pos t00, if_neg (show ¬ nI (tT x c) = 20045 from fun w => c4 ((nI_eq (b := 20045) (by omega) (by decide)).mp w))]
  by_cases c6 : tT x c = 20040
  · have hc := hX.lt (by omega) (by omega)
    have := hX.1.1
    rw [if_pos c6, if_neg t10, if_pos (show nI (tT x c) = 20040 by rw [c6]; rfl)]
    unfold f_X4_inner f_X4_opens
    rw [hX.2.2.2.2.2.2.1, hM.2.2.1]
    by_cases c5 : o < 5
    · obtain ⟨-, H1⟩ := H c5
      rw [if_pos (show nI o < 5 from (by simp (disch := omega) only [fa_lt, fa_le, fa_eq, nI_toInt, Int32.reduceToInt, im1] <;> omega)), if_neg (show ¬ nI o = 5 from (by simp (disch := omega) only [fa_lt, fa_le, fa_eq, nI_toInt, Int32.reduceToInt, im1] <;> omega)), nI_1]
      obtain ⟨e1, p1⟩ := (hX.op (o2 := o + 1) (by omega)).adv hc
      rw [e1, Option.bind_some, if_neg t10]
      obtain ⟨N0, d1, d2, d3⟩ := (hM.op (o2 := o + 1)).next
      rw [d1, Option.bind_some]
      obtain ⟨Y, b, N, s1, s2, s3⟩ := H1 _ _ _ _ _ p1 d2 (by omega) (by omega)
      have f0 : XF i sx X (upd2 (upd2 X 107 3 (nI (o + 1))) 107 2 (nI (c + 1))) := (XF.p hb.2 (by decide)).tr (XF.p hb.2 (by decide))
      have f1 : MF i sm M N0 := (MF.o (by decide)).tr (MF.n d3)
      rw [show recL _ 0 = some Y from s1, s2, Option.bind_some, Option.bind_some]
      rcases s3 with ⟨rfl, g1, g2, c', xs, cs, v, g3, g4, g5, g6, g7, g8, g9, g10, g11, g12, g13⟩ | ⟨rfl, g1, g2, f, g3, g4⟩
      · have hc' := g4.b
        have hlt' := tT_lt x (fun j hj => (hT.2.2 j hj).1) c'
        rw [if_neg t10, show f_X11_is_ N 41 = _ from q_sg (q := 41) g5.2.1 (by decide)]
        unfold f_X4_expect
        rw [g4.tok, Option.bind_some]
        by_cases c7 : tT x c' = 20041
        · have hcl := g4.lt (by omega) (by omega)
          have r2 : N 0 24 - 1 = nI o := by rw [g5.2.2.1, nI_pred]
          obtain ⟨e2, p2⟩ := g4.adv hcl
          rw [if_pos (show nI (tT x c') = 20041 by rw [c7]; rfl), if_pos c7, if_neg t10, r2, e2, Option.bind_some]
          have r1 : (upd2 Y 107 2 (nI (c' + 1))) 107 3 - 1 = nI o := by rw [p2.2.2.2.2.2.2.1, nI_pred]
          rw [r1]
          obtain ⟨N2, k1, k2, k3⟩ := (g5.op (o2 := o)).next
          rw [k1, Option.bind_some]
          refine ⟨_, 1, _, rfl, rfl, Or.inl ⟨rfl, f0.tr (g1.tr ((XF.p hb.2 (by decide)).tr (XF.p hb.2 (by decide)))), f1.tr (g2.tr ((MF.o (by decide)).tr (MF.n k3))), c' + 1, xs, cs, v, by omega, p2.op ho, k2, by omega, by omega, Seg.cg g8 (fun j _ _ => by rw [u2n (by omega), u2n (by omega)]), Seg.cg g9 (fun j _ _ => by rw [k3.1 12 (by decide), u2n (by decide)]), g10, g11, g12, g13⟩⟩
        · rw [if_neg (show ¬ nI (tT x c') = 20041 from fun w => c7 ((nI_eq (b := 20041) (by omega) (by decide)).mp w)), if_neg c7, if_pos t00]
          obtain ⟨w1, w2⟩ := g4.fail hM.1.1 (by omega)
          rw [w1, Option.bind_some, Option.bind_some]
          exact ⟨_, 0, _, rfl, rfl, Or.inr ⟨rfl, ((f0.tr g1).less (Nat.zero_le _)).tr ((XF.p hb.2 (by decide)).tr (XF.p hb.2 (by decide))), (f1.tr g2).less (Nat.zero_le _), _, w2.op, g5.2.1.2.1⟩⟩
      · rw [if_pos t00, g3.expect (by decide), Option.bind_some]
        exact ⟨_, 0, _, rfl, rfl, Or.inr ⟨rfl, (f0.less (Nat.zero_le _)).tr (g1.tr (XF.p hb.2 (by decide))), (f1.less (Nat.zero_le _)).tr g2, f, g3.op, g4⟩⟩
    · have o5 : o = 5 := by omega
      subst o5
      rw [if_neg (show ¬ nI 5 < 5 by decide), if_pos (show nI 5 = 5 from rfl)]
      obtain ⟨Y, b, N, f1, f2, f3⟩ := Rs.fail hX hM hs1 rfl
      rw [f1, Option.bind_some, Option.bind_some, if_pos t00, Option.bind_some]
      exact ⟨Y, b, N, rfl, f2, f3⟩
  rw [if_neg c6, if_pos t00, if_neg (show ¬ nI (tT x c) = 20040 from fun w => c6 ((nI_eq (b := 20040) (by omega) (by decide)).mp w))]
  obtain ⟨Y, b, N, f1, f2, f3⟩ := Rs.fail hX hM hs1 rfl
  rw [f1, Option.bind_some]
  exact ⟨Y, b, N, rfl, f2, f3⟩
