theorem Rs.pre {x : Tx} {la i o c0 sx sm : Nat} {X0 M0 X M Y N : Mem} {b : Int32} (fX : XF i sx X0 X) (fM : MF i sm M0 M) (h : Rs x la i o c0 sx sm X M Y b N) : Rs x la i o c0 sx sm X0 M0 Y b N := by
  rcases h with ⟨h1, h2, h3, h4⟩ | ⟨h1, h2, h3, h4⟩
  · exact Or.inl ⟨h1, fX.tr h2, fM.tr h3, h4⟩
  · exact Or.inr ⟨h1, (fX.less (Nat.zero_le _)).tr h2, (fM.less (Nat.zero_le _)).tr h3, h4⟩
/-- a sign between two, and what the model writes for it -/
def Bn (t : Nat) (k : Int32) : Prop := 20000 ≤ t ∧ t < 20300 ∧ t ≠ 20259 ∧ t ≠ 20260 ∧ okM k ∧ ¬ 0 ≤ k ∧ ¬ -7 < k ∧ k ≠ -13 ∧ k ≠ -19 ∧ ∀ a b, f_X5_joined (nI t) a b = opM k a b
theorem step_ok {FX : Mem → Option Mem} {FM : Mem → Option (Int32 × Mem)} {x : Tx} {la i o c0 sx sm c : Nat} {X M : Mem} {k : Int32} (S : Sm FX FM x la i o) (hs1 : sx ≤ 2 * c0) (hs2 : sm ≤ c0) (hG : Go x la i o c0 sx sm X M c) (hB : Bn (tT x c) k) : ∃ Y b N Z M1, FX (f_X4_advance X) = some Y ∧ (Y 107 1).toNatClampNeg = i ∧ i < 6 ∧ f_X5_add Y i (nI (tT x c)) = some Z ∧ f_X11_next M = some M1 ∧ FM M1 = some (b, N) ∧ ((b = 1 ∧ ∃ N2 c', f_X11_put N k = some N2 ∧ c < c' ∧ XF i sx X Z ∧ MF i sm M N2 ∧ Go x la i o c0 sx sm Z N2 c') ∨ (b = 0 ∧ XF i 0 X Z ∧ MF i 0 M N ∧ ∃ f, FQ Z i f ∧ N 0 21 = nI f)) := by
  obtain ⟨xs, cs, v, g3, g4, g5, g6, g7, g8, g9, g10, g11, g12, g13⟩ := hG
  obtain ⟨b1, b2, b3, b4, b5, b6, b7, b8, b9, b10⟩ := hB
  have hb := g4.b
  have hc := g4.lt b3 b4
  obtain ⟨e1, p1⟩ := g4.adv hc
  obtain ⟨M1, m1, m2, m3⟩ := g5.next
  obtain ⟨Y, b, N, s1, s2, s3⟩ := S _ _ _ _ _ p1 m2 (by omega) (by omega)
  rw [e1]
  have f0 : XF i (sx + xs.length) X (upd2 X 107 2 (nI (c + 1))) := XF.p hb.2 (by decide)
  have f1 : MF i (sm + cs.length) M M1 := MF.n m3
  rcases s3 with ⟨rfl, q1, q2, c', xs1, cs1, v1, q3, q4, q5, q6, q7, q8, q9, q10, q11, q12, q13⟩ | ⟨rfl, q1, q2, f, q3, q4⟩
  · have hc' := q4.b
    obtain ⟨h1, h2, h3, h4, h5⟩ := q4.add (v := nI (tT x c)) (by omega)
    obtain ⟨k1, k2, k3, k4⟩ := q5.put (v := k) hb.2 (by omega)
    refine ⟨Y, 1, N, _, M1, s1, h1, hb.2, h2, m1, s2, Or.inl ⟨rfl, _, c', k1, by omega, (f0.less (by omega)).tr ((q1.less (by omega)).tr (h4.less (by omega))), (f1.less (by omega)).tr ((q2.less (by omega)).tr (k3.less (by omega))), xs ++ xs1 ++ [nI (tT x c)], cs ++ cs1 ++ [k], fun fa => opM k (v fa) (v1 fa), by omega, ?_, ?_, ?_, ?_, ?_, ?_, ?_, ?_, ?_, ?_⟩⟩
    · rw [show sx + (xs ++ xs1 ++ [nI (tT x c)] : List Int32).length = sx + xs.length + xs1.length + 1 by simp <;> omega]
      exact h3
    · rw [show sm + (cs ++ cs1 ++ [k] : List Int32).length = sm + cs.length + cs1.length + 1 by simp <;> omega]
      exact k2
    · simp <;> omega
    · simp <;> omega
    · refine Seg.app (Seg.app ?_ ?_) (Seg.one ?_)
      · exact Seg.cg g8 (fun j w1 w2 => by rw [h4.2.2.2 j (by omega), q1.2.2.2 j (by omega), u2n (by omega)])
      · exact Seg.cg q8 (fun j w1 w2 => by rw [h4.2.2.2 j (by omega)])
      · rw [show sx + (xs ++ xs1 : List Int32).length = sx + xs.length + xs1.length by simp <;> omega]
        exact h5
    · refine Seg.app (Seg.app ?_ ?_) (Seg.one ?_)
      · exact Seg.cg g9 (fun j w1 w2 => by rw [k3.2.2 j (by omega), q2.2.2 j (by omega), m3.1 12 (by decide)])
      · rw [show 170 * i + sm + cs.length = 170 * i + (sm + cs.length) from Nat.add_assoc _ _ _]
        exact Seg.cg q9 (fun j w1 w2 => by rw [k3.2.2 j (by omega)])
      · rw [show 170 * i + sm + (cs ++ cs1 : List Int32).length = 170 * i + (sm + cs.length + cs1.length) by simp <;> omega]
        exact k4
    · intro a ha
      rw [List.mem_append, List.mem_append, List.mem_singleton] at ha
      rcases ha with (ha | ha) | rfl
      · exact g10 a ha
      · exact q10 a ha
      · exact Or.inr (Or.inr (by simp (disch := omega) only [fa_lt, fa_le, fa_eq, nI_toInt, Int32.reduceToInt, im1] <;> omega))
    · intro a ha
      rw [List.mem_append, List.mem_append, List.mem_singleton] at ha
      rcases ha with (ha | ha) | rfl
      · exact g11 a ha
      · exact q11 a ha
      · exact b5
    · intro fa s
      rw [rnX_app, rnX_app, g12, q12]
      show stX fa (v1 fa :: v fa :: s) (nI (tT x c)) = _
      unfold stX
      rw [if_neg (show ¬ nI (tT x c) < 20000 from (by simp (disch := omega) only [fa_lt, fa_le, fa_eq, nI_toInt, Int32.reduceToInt, im1] <;> omega))]
      show f_X5_joined (nI (tT x c)) (v fa) (v1 fa) :: s = _
      rw [b10]
    · intro fa s
      rw [rnM_app, rnM_app, g13, Option.bind_some, q13, Option.bind_some]
      show (stM fa k (v1 fa :: v fa :: s)).bind (fun s2 => some s2) = _
      unfold stM
      rw [if_neg b6, if_neg b7]
      simp only [if_neg b8, if_neg b9]
      rfl
  · obtain ⟨h1, Z, h2, h3, h4, -⟩ := q3.add (v := nI (tT x c)) (k := 0) (fun _ _ _ => Nat.zero_le _)
    exact ⟨Y, 0, N, Z, M1, s1, h1, hb.2, h2, m1, s2, Or.inr ⟨rfl, (f0.less (Nat.zero_le _)).tr (q1.tr h4), (f1.less (Nat.zero_le _)).tr q2, f, h3, q4⟩⟩
theorem loop_ok {recL : Mem → Int32 → Option Mem} {FM : Mem → Option (Int32 × Mem)} {LM : Nat → Mem → Option (Int32 × Mem)} {x : Tx} {la i o l c0 sx sm : Nat} {J : Nat → Bool} {cd : Nat → Int32} (hl : l < 5) (S : Sm (fun X => recL X (nI (l + 1))) FM x la i o) (hj : ∀ X t, f_X4_token X = some (nI t) → t < 20300 → f_X4_joins X (nI l) = some (if J t = true then 1 else 0)) (hB : ∀ t, J t = true → Bn t (cd t)) (hL : ∀ fu M c sm', PM M x i c o sm' → LM (fu + 1) M = if J (tT x c) = true then (Option.bind (f_X11_next M) fun r => Option.bind (FM r) fun r2 => if r2.1 = 0 then some (0, r2.2) else Option.bind (f_X11_put r2.2 (cd (tT x c))) fun r3 => LM fu r3) else some (1, M)) (hs1 : sx ≤ 2 * c0) (hs2 : sm ≤ c0) : ∀ (n f1 f2 k c : Nat) (X M : Mem), la - c ≤ n → n + 1 < f1 → n < f2 → k ≤ c → Go x la i o c0 sx sm X M c → ∃ Y b N, f_X4_chain_22 recL (nI l) 160 f1 (nI k) X = some Y ∧ LM f2 M = some (b, N) ∧ Rs x la i o c0 sx sm X M Y b N := by
  intro n
  induction n with
  | zero =>
    intro f1 f2 k c X M hn hf1 hf2 hk hG
    obtain ⟨g1, rfl⟩ : ∃ g, f1 = g + 1 := ⟨f1 - 1, by omega⟩
    obtain ⟨g2, rfl⟩ : ∃ g, f2 = g + 1 := ⟨f2 - 1, by omega⟩
    have hG0 := hG
    obtain ⟨xs, cs, v, g3, g4, g5, -⟩ := hG
    have hlt := tT_lt x (fun j hj => (g5.1.2.2 j hj).1) c
    have hJ : ¬ J (tT x c) = true := fun w => by
      obtain ⟨-, -, b3, b4, -⟩ := hB _ w
      have := g4.lt b3 b4
      omega
    rw [f_X4_chain_22, hj X _ g4.tok hlt, hL g2 M c _ g5, if_neg hJ, if_neg hJ, Option.bind_some, if_pos t00]
    refine ⟨X, 1, M, ?_, rfl, Or.inl ⟨rfl, XF.rf, MF.rf, c, hG0⟩⟩
    split <;> rfl
  | succ n ih =>
    intro f1 f2 k c X M hn hf1 hf2 hk hG
    obtain ⟨g1, rfl⟩ : ∃ g, f1 = g + 1 := ⟨f1 - 1, by omega⟩
    obtain ⟨g2, rfl⟩ : ∃ g, f2 = g + 1 := ⟨f2 - 1, by omega⟩
    have hG0 := hG
    obtain ⟨xs, cs, v, g3, g4, g5, -⟩ := hG
    have hlt := tT_lt x (fun j hj => (g5.1.2.2 j hj).1) c
    have hla := g4.1.1
    rw [f_X4_chain_22, hj X _ g4.tok hlt, hL g2 M c _ g5, Option.bind_some]
    by_cases hJ : J (tT x c) = true
    · have hBt := hB _ hJ
      have hcl := g4.lt hBt.2.2.1 hBt.2.2.2.1
      obtain ⟨Y, b, N, Z, M1, s1, s2, s3, s4, s5, s6, s7⟩ := step_ok S hs1 hs2 hG0 hBt
      rw [if_pos hJ, if_pos hJ, if_neg (show ¬ 160 ≤ nI k from (by simp (disch := omega) only [fa_lt, fa_le, fa_eq, nI_toInt, Int32.reduceToInt, im1] <;> omega)), if_neg t10, g4.tok, Option.bind_some, nI_1, nI_1, show recL (f_X4_advance X) (nI (l + 1)) = some Y from s1, Option.bind_some, s2, if_pos s3, s4, Option.bind_some, s5, Option.bind_some, s6, Option.bind_some]
      rcases s7 with ⟨rfl, N2, c', r1, r2, r3, r4, r5⟩ | ⟨rfl, r1, r2, f, r3, r4⟩
      · rw [if_neg t10, r1, Option.bind_some]
        obtain ⟨Y2, b2, N3, q1, q2, q3⟩ := ih g1 g2 (k + 1) c' Z N2 (by omega) (by omega) (by omega) (by omega) r5
        exact ⟨Y2, b2, N3, q1, q2, q3.pre r3 r4⟩
      · rw [if_pos t00]
        obtain ⟨g3, rfl⟩ : ∃ g, g1 = g + 1 := ⟨g1 - 1, by omega⟩
        exact ⟨Z, 0, N, r3.chain hl, rfl, Or.inr ⟨rfl, r1, r2, f, r3, r4⟩⟩
    · rw [if_neg hJ, if_neg hJ, if_pos t00]
      refine ⟨X, 1, M, ?_, rfl, Or.inl ⟨rfl, XF.rf, MF.rf, c, hG0⟩⟩
      split <;> rfl
/-- a level that is no negation -/
theorem level_ok {recL : Mem → Int32 → Option Mem} {FM : Mem → Option (Int32 × Mem)} {LM : Nat → Mem → Option (Int32 × Mem)} {x : Tx} {la i o l : Nat} {J : Nat → Bool} {cd : Nat → Int32} (hl : l < 5) (hl2 : l ≠ 2) (S : Sm (fun X => recL X (nI (l + 1))) FM x la i o) (hj : ∀ X t, f_X4_token X = some (nI t) → t < 20300 → f_X4_joins X (nI l) = some (if J t = true then 1 else 0)) (hB : ∀ t, J t = true → Bn t (cd t)) (hL : ∀ fu M c sm', PM M x i c o sm' → LM (fu + 1) M = if J (tT x c) = true then (Option.bind (f_X11_next M) fun r => Option.bind (FM r) fun r2 => if r2.1 = 0 then some (0, r2.2) else Option.bind (f_X11_put r2.2 (cd (tT x c))) fun r3 => LM fu r3) else some (1, M)) : Sm (fun X => f_X4_level recL X (nI l)) (fun M => Option.bind (FM M) fun r => if r.1 = 0 then some (0, r.2) else LM FU r.2) x la i o := by
  intro X M c sx sm hX hM hs1 hs2
  obtain ⟨Y, b, N, s1, s2, s3⟩ := S X M c sx sm hX hM hs1 hs2
  have hla := hX.1.1
  show ∃ Y b N, f_X4_level recL X (nI l) = some Y ∧ (Option.bind (FM M) fun r => if r.1 = 0 then some (0, r.2) else LM FU r.2) = some (b, N) ∧ _
  unfold f_X4_level f_X4_chain
  rw [if_pos (show nI l < 5 from (by simp (disch := omega) only [fa_lt, fa_le, fa_eq, nI_toInt, Int32.reduceToInt, im1] <;> omega)), if_neg (show ¬ nI l = 2 from fun w => hl2 ((nI_eq (b := 2) (by omega) (by decide)).mp w)), nI_1, show recL X (nI (l + 1)) = some Y from s1, Option.bind_some, if_neg (show ¬ nI l = 2 from fun w => hl2 ((nI_eq (b := 2) (by omega) (by decide)).mp w)), s2, Option.bind_some]
  rcases s3 with ⟨rfl, r1, r2, c', r3⟩ | ⟨rfl, r1, r2, f, r3, r4⟩
  · rw [if_neg t10]
    obtain ⟨Y2, b2, N2, q1, q2, q3⟩ := loop_ok hl S hj hB hL hs1 hs2 la FU FU 0 c' Y N (by omega) (by rw [FU_eq]; omega) (by rw [FU_eq]; omega) (Nat.zero_le _) r3
    rw [show f_X4_chain_22 recL (nI l) 160 FU 0 Y = some Y2 from q1, q2, Option.bind_some]
    exact ⟨Y2, b2, N2, rfl, rfl, q3.pre r1 r2⟩
  · rw [if_pos t00, show f_X4_chain_22 recL (nI l) 160 FU 0 Y = some Y from r3.chain (fu := 3999) (k := 0) hl, Option.bind_some]
    exact ⟨Y, 0, N, rfl, rfl, Or.inr ⟨rfl, r1, r2, f, r3, r4⟩⟩
/-- not, a comparison, a sum -/
theorem not_ok {recL : Mem → Int32 → Option Mem} {rA rN rO : Mem → Option (Int32 × Mem)} {x : Tx} {la i o : Nat} (ho : o ≤ 5) (S : Sm (fun X => recL X (nI 3)) (f_X11_sum rA rN rO) x la i o) (H : o < 5 → Sm (fun X => recL X (nI 2)) rN x la i (o + 1)) : Sm (fun X => f_X4_level recL X (nI 2)) (f_X11_not rA rN rO) x la i o := by
  intro X M c sx sm hX hM hs1 hs2
  have hb := hX.b
  have hT := hM.1
  have hK := hM.2.1
  have hla := hX.1.1
  have hlt := tT_lt x (fun j hj => (hT.2.2 j hj).1) c
  show ∃ Y b N, f_X4_level recL X (nI 2) = some Y ∧ f_X11_not rA rN rO M = some (b, N) ∧ _
  unfold f_X4_level f_X11_not
  rw [if_pos (show nI 2 < 5 by decide), if_pos (show nI 2 = 2 from rfl), hX.tok, Option.bind_some, q_is (k := 12) hT hK (by decide) (by decide), Option.bind_some]
  by_cases c1 : tT x c = cdN 12
  · have c1' : tT x c = 20258 := c1
    have hc := hX.lt (by omega) (by omega)
    rw [if_pos c1, if_neg t10, if_pos (show nI (tT x c) = 20258 by rw [c1]; rfl)]
    unfold f_X4_negation f_X4_opens
    rw [hX.2.2.2.2.2.2.1, hM.2.2.1]
    by_cases c5 : o < 5
    · have H1 := H c5
      rw [if_pos (show nI o < 5 from (by simp (disch := omega) only [fa_lt, fa_le, fa_eq, nI_toInt, Int32.reduceToInt, im1] <;> omega)), if_neg (show ¬ nI o = 5 from (by simp (disch := omega) only [fa_lt, fa_le, fa_eq, nI_toInt, Int32.reduceToInt, im1] <;> omega)), nI_1]
      obtain ⟨e1, p1⟩ := (hX.op (o2 := o + 1) (by omega)).adv hc
      rw [e1, Option.bind_some, if_neg t10]
      obtain ⟨N0, d1, d2, d3⟩ := (hM.op (o2 := o + 1)).next
      rw [d1, Option.bind_some]
      obtain ⟨Y, b, N, s1, s2, s3⟩ := H1 _ _ _ _ _ p1 d2 (by omega) (by omega)
      have f0 : XF i sx X (upd2 (upd2 X 107 3 (nI (o + 1))) 107 2 (nI (c + 1))) := (XF.p hb.2 (by decide)).tr (XF.p hb.2 (by decide))
      have f1 : MF i sm M N0 := (MF.o (by decide)).tr (MF.n d3)
      rw [show recL _ 2 = some Y from s1, s2, Option.bind_some, Option.bind_some]
      rcases s3 with ⟨rfl, g1, g2, c', xs, cs, v, g3, g4, g5, g6, g7, g8, g9, g10, g11, g12, g13⟩ | ⟨rfl, g1, g2, f, g3, g4⟩
      · have hc' := g4.b
        have r1 : Y 107 3 - 1 = nI o := by rw [g4.2.2.2.2.2.2.1, nI_pred]
        have r2 : N 0 24 - 1 = nI o := by rw [g5.2.2.1, nI_pred]
        rw [if_neg t10, r1, r2]
        obtain ⟨h1, h2, h3, h4, h5⟩ := (g4.op (o2 := o) ho).add (v := 0) (by omega)
        obtain ⟨j1, j2, j3, j4, j5⟩ := h3.add (v := 20061) (by omega)
        obtain ⟨k1, k2, k3, k4⟩ := (g5.op (o2 := o)).put (v := -13) hb.2 (by omega)
        rw [h1, if_pos (show i < 6 from hb.2), h2, Option.bind_some, j1, if_pos (show i < 6 from hb.2), j2, Option.bind_some, k1, Option.bind_some, Option.bind_some]
        refine ⟨_, 1, _, rfl, rfl, Or.inl ⟨rfl, f0.tr (g1.tr ((XF.p hb.2 (by decide)).tr ((h4.less (by omega)).tr (j4.less (by omega))))), f1.tr (g2.tr ((MF.o (by decide)).tr (k3.less (by omega)))), c', xs ++ [0] ++ [20061], cs ++ [-13], fun fa => if v fa = 0 then 1 else 0, by omega, ?_, ?_, ?_, ?_, ?_, ?_, ?_, ?_, ?_, ?_⟩⟩
        · rw [show sx + (xs ++ [0] ++ [20061] : List Int32).length = sx + xs.length + 1 + 1 by simp <;> omega]
          exact j3
        · rw [show sm + (cs ++ [-13] : List Int32).length = sm + cs.length + 1 by simp <;> omega]
          exact k2
        · simp <;> omega
        · simp <;> omega
        · refine Seg.app (Seg.app ?_ (Seg.one ?_)) (Seg.one ?_)
          · exact Seg.cg g8 (fun j w1 w2 => by rw [j4.2.2.2 j (by omega), h4.2.2.2 j (by omega), u2n (by omega)])
          · rw [j4.2.2.2 (sx + xs.length) (by omega)]
            exact h5
          · rw [show sx + (xs ++ [0] : List Int32).length = sx + xs.length + 1 by simp <;> omega]
            exact j5
        · refine Seg.app (Seg.cg g9 (fun j q1 q2 => ?_)) (Seg.one ?_)
          · rw [k3.2.2 j (by omega), u2n (by decide)]
          · rw [show 170 * i + sm + cs.length = 170 * i + (sm + cs.length) from Nat.add_assoc _ _ _]
            exact k4
        · intro a ha
          rw [List.mem_append, List.mem_append, List.mem_singleton, List.mem_singleton] at ha
          rcases ha with (ha | rfl) | rfl
          · exact g10 a ha
          · exact Or.inl ⟨0, by decide, rfl⟩
          · exact Or.inr (Or.inr (by decide))
        · intro a ha
          rw [List.mem_append, List.mem_singleton] at ha
          rcases ha with ha | rfl
          · exact g11 a ha
          · exact Or.inr (Or.inr ⟨2, by decide, by decide⟩)
        · intro fa s
          rw [rnX_app, rnX_app, g12]
          show stX fa (stX fa (v fa :: s) 0) 20061 = _
          rw [show stX fa (v fa :: s) 0 = 0 :: v fa :: s by unfold stX; rw [if_pos (by decide), if_pos (by decide)]]
          show f_X5_joined 20061 (v fa) 0 :: s = _
          have : f_X5_joined 20061 (v fa) 0 = if v fa = 0 then 1 else 0 := by
            unfold f_X5_joined
            simp (decide := true) only [if_true, if_false]
          rw [this]
        · intro fa s
          rw [rnM_app, g13, Option.bind_some]
          show (stM fa (-13) (v fa :: s)).bind (fun s2 => some s2) = _
          unfold stM
          simp (decide := true) only [if_true, if_false]
          rfl
      · rw [if_pos t00]
        obtain ⟨h1, Y2, h2, h3, h4, -⟩ := (g3.op (v := Y 107 3 - 1)).add (v := 0) (k := 0) (fun _ _ _ => Nat.zero_le _)
        obtain ⟨j1, Y3, j2, j3, j4, -⟩ := h3.add (v := 20061) (k := 0) (fun _ _ _ => Nat.zero_le _)
        rw [h1, if_pos (show i < 6 from hb.2), h2, Option.bind_some, j1, if_pos (show i < 6 from hb.2), j2, Option.bind_some, Option.bind_some]
        exact ⟨_, 0, _, rfl, rfl, Or.inr ⟨rfl, (f0.less (Nat.zero_le _)).tr (g1.tr ((XF.p hb.2 (by decide)).tr (h4.tr j4))), (f1.less (Nat.zero_le _)).tr g2, f, j3, g4⟩⟩
    · have o5 : o = 5 := by omega
      subst o5
      rw [if_neg (show ¬ nI 5 < 5 by decide), if_pos (show nI 5 = 5 from rfl)]
      obtain ⟨Y, b, N, f1, f2, f3⟩ := Rs.fail hX hM hs1 rfl
      rw [f1, Option.bind_some, Option.bind_some, if_pos t00, Option.bind_some]
      exact ⟨Y, b, N, rfl, f2, f3⟩
  · rw [if_neg c1, if_pos t00, if_neg (show ¬ nI (tT x c) = 20258 from fun w => c1 ((nI_eq (b := 20258) (by omega) (by decide)).mp w))]
    obtain ⟨Y, b, N, s1, s2, s3⟩ := S X M c sx sm hX hM hs1 hs2
    unfold f_X4_chain
    rw [show (nI 2 + 1 : Int32) = nI 3 from rfl, show recL X (nI 3) = some Y from s1, s2, Option.bind_some, Option.bind_some, if_pos (show nI 2 = 2 from rfl)]
    rcases s3 with ⟨rfl, r1, r2, c', r3⟩ | ⟨rfl, r1, r2, f, r3, r4⟩
    · rw [if_neg t10]
      have hG0 := r3
      obtain ⟨xs, cs, v, g3, g4, g5, -⟩ := r3
      have hlt' := tT_lt x (fun j hj => (g5.1.2.2 j hj).1) c'
      rw [show f_X11_is_ N 60 = _ from q_sg (q := 60) g5.2.1 (by decide), show f_X11_is_ N 61 = _ from q_sg (q := 61) g5.2.1 (by decide)]
      rw [show f_X4_chain_22 recL (nI 2) 1 FU 0 Y = f_X4_chain_22 recL (nI 2) 1 (3999 + 1) 0 Y from rfl, f_X4_chain_22, if_neg (show ¬ (1 : Int32) ≤ 0 by decide)]
      have hj : f_X4_joins Y (nI 2) = some (if tT x c' = 20060 ∨ tT x c' = 20061 then 1 else 0) := by
        unfold f_X4_joins
        rw [g4.tok, Option.bind_some, if_neg (by decide), if_neg (by decide), if_neg (by decide), if_pos (by decide)]
        by_cases w1 : tT x c' = 20060
        · rw [if_pos (show nI (tT x c') = 20060 by rw [w1]; rfl), if_pos (Or.inl w1)]
        · rw [if_neg (show ¬ nI (tT x c') = 20060 from fun w => w1 ((nI_eq (b := 20060) (by omega) (by decide)).mp w))]
          by_cases w2 : tT x c' = 20061
          · rw [if_pos (show nI (tT x c') = 20061 by rw [w2]; rfl), if_pos (Or.inr w2)]
          · rw [if_neg (show ¬ nI (tT x c') = 20061 from fun w => w2 ((nI_eq (b := 20061) (by omega) (by decide)).mp w)), if_neg (by omega)]
      rw [hj, Option.bind_some]
      by_cases w : tT x c' = 20060 ∨ tT x c' = 20061
      · rw [if_pos w, if_neg t10, g4.tok, Option.bind_some]
        have hBn : Bn (tT x c') (if tT x c' = 20060 then -14 else -15) := by
          rcases w with w | w
          · rw [if_pos w, w]
            refine ⟨by decide, by decide, by decide, by decide, Or.inr (Or.inr ⟨3, by decide, by decide⟩), by decide, by decide, by decide, by decide, fun a b => ?_⟩
            show f_X5_joined 20060 a b = _
            unfold f_X5_joined opM
            simp (decide := true) only [if_true, if_false]
          · rw [w, if_neg (by decide)]
            refine ⟨by decide, by decide, by decide, by decide, Or.inr (Or.inr ⟨4, by decide, by decide⟩), by decide, by decide, by decide, by decide, fun a b => ?_⟩
            show f_X5_joined 20061 a b = _
            unfold f_X5_joined opM
            simp (decide := true) only [if_true, if_false]
        obtain ⟨Y2, b2, N2, Z, M1, z1, z2, z3, z4, z5, z6, z7⟩ := step_ok S hs1 hs2 hG0 hBn
        rw [show recL (f_X4_advance Y) (nI 2 + 1) = some Y2 from z1, Option.bind_some, z2, if_pos z3, z4, Option.bind_some, z5, Option.bind_some, z6, Option.bind_some]
        have hend : ∀ W : Mem, f_X4_chain_22 recL (nI 2) 1 3999 (0 + 1) W = some W := fun W => by
          rw [show (3999 : Nat) = 3998 + 1 from rfl, f_X4_chain_22, if_pos (by decide)]
        rw [hend Z, Option.bind_some]
        rcases z7 with ⟨rfl, N3, c2, y1, y2, y3, y4, y5⟩ | ⟨rfl, y1, y2, f, y3, y4⟩
        · refine ⟨Z, 1, N3, rfl, ?_, Rs.pre r1 r2 (Or.inl ⟨rfl, y3, y4, c2, y5⟩)⟩
          by_cases w1 : tT x c' = 20060
          · rw [if_pos w1] at y1
            have w2 : ¬ tT x c' = 20000 + 61 := by omega
            simp only [if_pos (show tT x c' = 20000 + 60 from w1), if_neg w2, if_neg t10, if_pos t00, if_true, z5, z6, y1, Option.bind_some]
          · have w2 : tT x c' = 20061 := by
              rcases w with w | w
              · exact absurd w w1
              · exact w
            rw [if_neg w1] at y1
            simp only [if_neg (show ¬ tT x c' = 20000 + 60 from w1), if_pos (show tT x c' = 20000 + 61 from w2), if_neg t10, if_pos t00, if_true, z5, z6, y1, Option.bind_some]
        · refine ⟨Z, 0, N2, rfl, ?_, Rs.pre r1 r2 (Or.inr ⟨rfl, y1, y2, f, y3, y4⟩)⟩
          by_cases w1 : tT x c' = 20060
          · have w2 : ¬ tT x c' = 20000 + 61 := by omega
            simp only [if_pos (show tT x c' = 20000 + 60 from w1), if_neg w2, if_neg t10, if_pos t00, if_true, z5, z6, Option.bind_some]
          · have w2 : tT x c' = 20061 := by
              rcases w with w | w
              · exact absurd w w1
              · exact w
            simp only [if_neg (show ¬ tT x c' = 20000 + 60 from w1), if_pos (show tT x c' = 20000 + 61 from w2), if_neg t10, if_pos t00, if_true, z5, z6, Option.bind_some]
      · have w1 : ¬ tT x c' = 20000 + 60 := fun q => w (Or.inl q)
        have w2 : ¬ tT x c' = 20000 + 61 := fun q => w (Or.inr q)
        rw [if_neg w, if_pos t00, if_neg w1, if_neg w2, if_pos t00, if_pos t00, Option.bind_some]
        exact ⟨Y, 1, N, rfl, rfl, Or.inl ⟨rfl, r1, r2, c', hG0⟩⟩
    · rw [if_pos t00, show f_X4_chain_22 recL (nI 2) 1 FU 0 Y = some Y from r3.chain (fu := 3999) (k := 0) (by decide), Option.bind_some]
      exact ⟨Y, 0, N, rfl, rfl, Or.inr ⟨rfl, r1, r2, f, r3, r4⟩⟩
