/-! a text: three parts and the end -/
def XT (i : Nat) (X Y : Mem) : Prop := ∀ c, c ≠ 107 → c ≠ 40 + i → c ≠ 46 + i → c ≠ 52 + i → Y c = X c
theorem XT.tr {i : Nat} {X Y Z : Mem} (h : XT i X Y) (h2 : XT i Y Z) : XT i X Z := fun c a b d e => (h2 c a b d e).trans (h c a b d e)
theorem XF.t {i k : Nat} {X Y : Mem} (h : XF i k X Y) : XT i X Y := fun c a b d _ => h.1 c a b d
theorem XT.u {i k : Nat} {X : Mem} {v : Int32} : XT i X (upd2 X (52 + i) k v) := fun c _ _ _ e => u2n e
def MT (i : Nat) (M N : Mem) : Prop := (∀ c, c ≠ 0 → c ≠ 12 → c ≠ 13 → N c = M c) ∧ (∀ j, ¬ (19 ≤ j ∧ j < 25) → N 0 j = M 0 j) ∧ (∀ j, j < 170 * i → N 12 j = M 12 j) ∧ ∀ j, j < 4 * i → N 13 j = M 13 j
theorem MT.rf {i : Nat} {M : Mem} : MT i M M := ⟨fun _ _ _ _ => rfl, fun _ _ => rfl, fun _ _ => rfl, fun _ _ => rfl⟩
theorem MT.tr {i : Nat} {X Y Z : Mem} (h : MT i X Y) (h2 : MT i Y Z) : MT i X Z := ⟨fun c a b d => (h2.1 c a b d).trans (h.1 c a b d), fun j a => (h2.2.1 j a).trans (h.2.1 j a), fun j a => (h2.2.2.1 j a).trans (h.2.2.1 j a), fun j a => (h2.2.2.2 j a).trans (h.2.2.2 j a)⟩
theorem MF.t {i k : Nat} {M N : Mem} (h : MF i k M N) : MT i M N := ⟨fun c a b _ => h.1 c a b, h.2.1, fun j a => h.2.2 j (by omega), fun j _ => by rw [h.1 13 (by decide) (by decide)]⟩
theorem nfr.t {i : Nat} {M N : Mem} (h : nfr M N) : MT i M N := (MF.n (k := 0) h).t
theorem MT.u {i k : Nat} {M : Mem} {v : Int32} (hk : 4 * i ≤ k) : MT i M (upd2 M 13 k v) := ⟨fun c _ _ e => u2n e, fun j _ => by rw [u2n (by decide)], fun j _ => by rw [u2n (by decide)], fun j a => u2t (by omega)⟩
theorem MT.f {i j : Nat} {M : Mem} {v : Int32} (hj : 19 ≤ j ∧ j < 25) : MT i M (upd2 M 0 j v) := (MF.o (k := 0) hj).t
def P1 (x : Tx) (la i j sx sm : Nat) (X M Y N : Mem) : Prop := ∃ (c : Nat) (xs cs : List Int32) (v : (Nat → Int32) → Int32), PX Y x la i c 0 (sx + xs.length) ∧ PM N x i c 0 (sm + cs.length) ∧ sx + xs.length ≤ 2 * c ∧ sm + cs.length ≤ c ∧ Seg (Y (46 + i)) sx xs ∧ Seg (N 12) (170 * i + sm) cs ∧ (∀ a ∈ xs, okX a) ∧ (∀ a ∈ cs, okM a) ∧ (∀ fa s, rnX fa xs s = v fa :: s) ∧ (∀ fa s, rnM fa cs s = some (v fa :: s)) ∧ Y (52 + i) j = nI (sx + xs.length) ∧ N 13 (4 * i + j) = nI sm ∧ (∀ q, q < sx → Y (46 + i) q = X (46 + i) q) ∧ (∀ q, q ≠ j → Y (52 + i) q = X (52 + i) q) ∧ (∀ q, q < 170 * i + sm → N 12 q = M 12 q) ∧ ∀ q, q ≠ 4 * i + j → N 13 q = M 13 q
theorem FQ.endp {X : Mem} {i f j : Nat} {v : Int32} (h : FQ X i f) : FQ (upd2 X (52 + i) j v) i f := by
  obtain ⟨h1, h2, h3, h4, z, hz, h5⟩ := h
  exact ⟨h1, h2, by rw [u2n (by omega)]; exact h3, by rw [u2n (by omega)]; exact h4, z, hz, by rw [u2n (by omega)]; exact h5⟩
theorem endp_x {X : Mem} {i j : Nat} (hj : j < 3) : f_X5_endPart X i (nI j) = some (upd2 X (52 + i) j (X (40 + i) 2)) := by
  unfold f_X5_endPart
  rw [if_pos (iblt hj (by decide)), nI_clamp (by omega)]
theorem PM.u13 {M : Mem} {x : Tx} {i c o sm k : Nat} {v : Int32} (h : PM M x i c o sm) : PM (upd2 M 13 k v) x i c o sm := by
  obtain ⟨h1, h2, h3, h4, h5⟩ := h
  refine ⟨h1.cg (by rw [u2n (by decide)]) (u2n (by decide)), ?_, by rw [u2n (by decide)]; exact h3, by rw [u2n (by decide)]; exact h4, by rw [u2n (by decide)]; exact h5⟩
  unfold KD at *
  rw [u2n (by decide)]
  exact h2
theorem PX.u52 {X : Mem} {x : Tx} {la i c o sz k : Nat} {v : Int32} (h : PX X x la i c o sz) : PX (upd2 X (52 + i) k v) x la i c o sz := by
  obtain ⟨h1, h2, h3, h4, h5, h6, h7, h8, h9⟩ := h
  exact ⟨h1.cg (u2n (by omega)) (u2n (by omega)), h2, h3, h4, by rw [u2n (by omega)]; exact h5, by rw [u2n (by omega)]; exact h6, by rw [u2n (by omega)]; exact h7, by rw [u2n (by omega)]; exact h8, by rw [u2n (by omega)]; exact h9⟩
theorem part_ok {X M : Mem} {x : Tx} {la i c sx sm j : Nat} (hX : PX X x la i c 0 sx) (hM : PM M x i c 0 sm) (hs1 : sx ≤ 2 * c) (hs2 : sm ≤ c) (hj : j < 3) : ∃ A B C D b N, f_X4_expect X (nI (20261 + j)) = some A ∧ f_X4_lev 40 A 0 = some B ∧ f_X4_expect B 20059 = some C ∧ (C 107 1).toNatClampNeg = i ∧ f_X5_endPart C i (nI j) = some D ∧ f_X11_part M (7 + j) (nI j) = some (b, N) ∧ XT i X D ∧ MT i M N ∧ ((b = 1 ∧ P1 x la i j sx sm X M D N) ∨ (b = 0 ∧ ∃ f, FQ D i f ∧ N 0 21 = nI f)) := by
  have hb := hX.b
  have hT := hM.1
  have hla := hX.1.1
  have hlt := tT_lt x (fun j hj => (hT.2.2 j hj).1) c
  have bad : ∀ (A : Mem) (f : Nat), FQ A i f → XT i X A → ∃ B C D, f_X4_lev 40 A 0 = some B ∧ f_X4_expect B 20059 = some C ∧ (C 107 1).toNatClampNeg = i ∧ f_X5_endPart C i (nI j) = some D ∧ XT i X D ∧ FQ D i f := by
    intro A f hF hA
    refine ⟨A, A, _, hF.lev 40 0 (by decide) (by decide), hF.expect (by decide), by rw [hF.2.2.2.1, nI_clamp (by omega)], endp_x hj, hA.tr XT.u, hF.endp⟩
  unfold f_X4_expect f_X11_part
  rw [hX.tok, Option.bind_some, q_is (k := 7 + j) hT hM.2.1 (by omega) (by omega), Option.bind_some]
  have hcd : cdN (7 + j) = 20261 + j := by
    unfold cdN
    rw [if_neg (by omega), if_pos (by omega)]
    omega
  rw [hcd]
  by_cases c1 : tT x c = 20261 + j
  · have hc := hX.lt (by omega) (by omega)
    obtain ⟨e1, p1⟩ := hX.adv hc
    obtain ⟨M1, m1, m2, m3⟩ := hM.next
    have em : (4 : Int32) * nI i + nI j = nI (4 * i + j) := em4 i j
    rw [if_pos (congrArg nI c1), if_pos c1, if_neg t10, e1, m1, Option.bind_some, m2.2.2.2.1, em, if_pos (iblt (show 4 * i + j < 24 by omega) (by decide)), nI_clamp (show 4 * i + j < 2 ^ 31 by omega), m2.2.2.2.2]
    have m4 : PM (upd2 M1 13 (4 * i + j) (nI sm)) x i (c + 1) 0 sm := m2.u13
    have S := main_ok (x := x) (la := la) (i := i) 5 (Nat.le_refl _) 7 (by decide) 5 0 rfl 40 (by decide)
    obtain ⟨B, b, N, s1, s2, s3⟩ := S _ _ _ _ _ p1 m4 (by omega) (by omega)
    have fA : XT i X (upd2 X 107 2 (nI (c + 1))) := (XF.p (k := 0) hb.2 (by decide)).t
    have fM : MT i M (upd2 M1 13 (4 * i + j) (nI sm)) := m3.t.tr (MT.u (by omega))
    rw [show f_X11_rec 8 0 (upd2 M1 13 (4 * i + j) (nI sm)) = some (b, N) from s2, Option.bind_some]
    refine ⟨upd2 X 107 2 (nI (c + 1)), B, ?_⟩
    rcases s3 with ⟨rfl, g1, g2, c', xs, cs, v, g3, g4, g5, g6, g7, g8, g9, g10, g11, g12, g13⟩ | ⟨rfl, g1, g2, f, g3, g4⟩
    · have hc' := g4.b
      have hlt' := tT_lt x (fun j hj => (hT.2.2 j hj).1) c'
      rw [if_neg t10, show f_X11_is_ N 59 = _ from q_sg (q := 59) g5.2.1 (by decide), g4.tok, Option.bind_some]
      by_cases c2 : tT x c' = 20059
      · have hcl := g4.lt (by omega) (by omega)
        obtain ⟨e2, p2⟩ := g4.adv hcl
        obtain ⟨N2, n1, n2, n3⟩ := g5.next
        rw [if_pos (show nI (tT x c') = 20059 by rw [c2]; rfl), if_pos (show tT x c' = 20000 + 59 from c2), if_neg t10, e2, n1, Option.bind_some]
        refine ⟨_, _, 1, N2, rfl, s1, rfl, by rw [p2.2.2.2.2.1, nI_clamp (by omega)], endp_x hj, rfl, fA.tr (g1.t.tr ((XF.p (k := 0) hb.2 (by decide)).t.tr XT.u)), fM.tr (g2.t.tr n3.t), Or.inl ⟨rfl, c' + 1, xs, cs, v, p2.u52, n2, by omega, by omega, Seg.cg g8 (fun q _ _ => by rw [u2n (by omega), u2n (by omega)]), Seg.cg g9 (fun q _ _ => by rw [n3.1 12 (by decide)]), g10, g11, g12, g13, ?_, ?_, fun q hq => ?_, fun q hq => ?_, fun q hq => ?_, fun q hq => ?_⟩⟩
        · rw [u2s]
          exact p2.2.2.2.2.2.2.2.2
        · rw [n3.1 13 (by decide), g2.1 13 (by decide) (by decide), u2s]
        · rw [u2n (by omega), u2n (by omega), g1.2.2.2 q hq, u2n (by omega)]
        · rw [u2t hq, u2n (by omega), g1.1 (52 + i) (by omega) (by omega) (by omega), u2n (by omega)]
        · rw [n3.1 12 (by decide), g2.2.2 q hq, u2n (by decide), m3.1 12 (by decide)]
        · rw [n3.1 13 (by decide), g2.1 13 (by decide) (by decide), u2t hq, m3.1 13 (by decide)]
      · obtain ⟨w1, w2⟩ := g4.fail hM.1.1 (by omega)
        rw [if_neg (show ¬ nI (tT x c') = 20059 from fun w => c2 ((nI_eq (b := 20059) (by omega) (by decide)).mp w)), if_neg (show ¬ tT x c' = 20000 + 59 from c2), if_pos t00, w1, Option.bind_some]
        refine ⟨_, _, 0, N, rfl, s1, rfl, by rw [w2.2.2.2.1, nI_clamp (by omega)], endp_x hj, rfl, fA.tr (g1.t.tr ((XF.p (k := 0) hb.2 (by decide)).t.tr XT.u)), fM.tr g2.t, Or.inr ⟨rfl, _, w2.endp, g5.2.1.2.1⟩⟩
    · obtain ⟨B2, C, D, q1, q2, q3, q4, q5, q6⟩ := bad B f g3 (fA.tr g1.t)
      have q0 : f_X4_expect B 20059 = some B := g3.expect (by decide)
      unfold f_X4_expect at q0
      rw [if_pos t00]
      exact ⟨B, _, 0, N, rfl, s1, q0, by rw [g3.2.2.2.1, nI_clamp (by omega)], endp_x hj, rfl, (fA.tr g1.t).tr XT.u, fM.tr g2.t, Or.inr ⟨rfl, f, g3.endp, g4⟩⟩
  · obtain ⟨w1, w2⟩ := hX.fail hM.1.1 (by omega)
    have q0 : f_X4_expect (upd2 X 107 4 (nI (tS x c))) 20059 = some (upd2 X 107 4 (nI (tS x c))) := w2.expect (by decide)
    unfold f_X4_expect at q0
    rw [if_neg (show ¬ nI (tT x c) = nI (20261 + j) from fun w => c1 ((nI_eq (by omega) (by omega)).mp w)), if_neg c1, if_pos t00, w1, Option.bind_some]
    exact ⟨_, _, _, _, 0, M, rfl, w2.lev 40 0 (by decide) (by decide), q0, by rw [w2.2.2.2.1, nI_clamp (by omega)], endp_x hj, rfl, (XF.p (k := 0) hb.2 (by decide)).t.tr XT.u, MT.rf, Or.inr ⟨rfl, _, w2.endp, hM.2.1.2.1⟩⟩
/-- behind a fault the class goes to the end -/
theorem rest_x {i f : Nat} : ∀ (r k fu : Nat) (X : Mem), k + r = 3 → r < fu → FQ X i f → ∃ Y, f_X4_parse_16 fu (nI k) X = some (nI f, upd2 Y 19 0 0) ∧ XT i X Y := by
  intro r
  induction r with
  | zero =>
    intro k fu X hk hf hF
    obtain ⟨g, rfl⟩ : ∃ g, fu = g + 1 := ⟨fu - 1, by omega⟩
    refine ⟨X, ?_, fun _ _ _ _ _ => rfl⟩
    rw [f_X4_parse_16, if_pos (show 3 ≤ nI k from (by simp (disch := omega) only [fa_lt, fa_le, fa_eq, nI_toInt, Int32.reduceToInt, im1] <;> omega)), hF.expect (by decide), Option.bind_some, u2n (by decide), hF.2.2.1]
  | succ r ih =>
    intro k fu X hk hf hF
    obtain ⟨g, rfl⟩ : ∃ g, fu = g + 1 := ⟨fu - 1, by omega⟩
    have hi := hF.1
    obtain ⟨Y, y1, y2⟩ := ih (k + 1) g (upd2 X (52 + i) k (X (40 + i) 2)) (by omega) (by omega) hF.endp
    refine ⟨Y, ?_, XT.u.tr y2⟩
    have hne : ¬ (20260 : Int32) = 20261 + nI k := by
      match k, hk with
      | 0, _ => decide
      | 1, _ => decide
      | 2, _ => decide
      | k + 3, h => exact absurd h (by omega)
    rw [f_X4_parse_16, if_neg (show ¬ 3 ≤ nI k from (by simp (disch := omega) only [fa_lt, fa_le, fa_eq, nI_toInt, Int32.reduceToInt, im1] <;> omega)), hF.expect hne, Option.bind_some, show f_X4_lev 40 X 0 = some X from hF.lev 40 0 (by decide) (by decide), Option.bind_some, hF.expect (by decide), Option.bind_some, hF.2.2.2.1, nI_clamp (by omega), if_pos hi, endp_x (by omega), Option.bind_some, nI_1]
    exact y1
