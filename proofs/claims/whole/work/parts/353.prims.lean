/-! class and model read a text: one step at a time -/
theorem Seg.app {f : Nat → Int32} {a : Nat} {xs ys : List Int32} (h : Seg f a xs) (h2 : Seg f (a + xs.length) ys) : Seg f a (xs ++ ys) := by
  intro i hi
  rw [List.length_append] at hi
  by_cases c : i < xs.length
  · rw [h i c]
    simp [List.getD, List.getElem?_append_left c]
  · have := h2 (i - xs.length) (by omega)
    rw [show a + xs.length + (i - xs.length) = a + i by omega] at this
    rw [this]
    simp [List.getD, List.getElem?_append_right (show xs.length ≤ i by omega)]
theorem Seg.one {f : Nat → Int32} {a : Nat} {v : Int32} (h : f a = v) : Seg f a [v] := by
  intro i hi
  simp at hi
  subst hi
  rw [Nat.add_zero, h]
  rfl
theorem Seg.cg {f g : Nat → Int32} {a : Nat} {xs : List Int32} (h : Seg f a xs) (hg : ∀ j, a ≤ j → j < a + xs.length → g j = f j) : Seg g a xs := fun i hi => by
  rw [hg (a + i) (by omega) (by omega)]
  exact h i hi
theorem rnX_app (fa : Nat → Int32) (xs ys s : List Int32) : rnX fa (xs ++ ys) s = rnX fa ys (rnX fa xs s) := List.foldl_append
theorem rnM_app (fa : Nat → Int32) : ∀ (cs ds s : List Int32), rnM fa (cs ++ ds) s = (rnM fa cs s).bind (rnM fa ds) := by
  intro cs
  induction cs with
  | nil => intro ds s; rfl
  | cons c cs ih =>
    intro ds s
    show (stM fa c s).bind (fun s2 => rnM fa (cs ++ ds) s2) = ((stM fa c s).bind fun s2 => rnM fa cs s2).bind (rnM fa ds)
    cases stM fa c s with
    | none => rfl
    | some s2 => exact ih ds s2
/-- what the class's reading changes; the first k steps stay -/
def XF (i k : Nat) (X Y : Mem) : Prop := (∀ c, c ≠ 107 → c ≠ 40 + i → c ≠ 46 + i → Y c = X c) ∧ (∀ j, j ≠ 2 → Y (40 + i) j = X (40 + i) j) ∧ (∀ j, ¬ (2 ≤ j ∧ j < 5) → Y 107 j = X 107 j) ∧ ∀ j, j < k → Y (46 + i) j = X (46 + i) j
theorem XF.rf {i k : Nat} {X : Mem} : XF i k X X := ⟨fun _ _ _ _ => rfl, fun _ _ => rfl, fun _ _ => rfl, fun _ _ => rfl⟩
theorem XF.tr {i k : Nat} {X Y Z : Mem} (h : XF i k X Y) (h2 : XF i k Y Z) : XF i k X Z := ⟨fun c a b d => (h2.1 c a b d).trans (h.1 c a b d), fun j a => (h2.2.1 j a).trans (h.2.1 j a), fun j a => (h2.2.2.1 j a).trans (h.2.2.1 j a), fun j a => (h2.2.2.2 j a).trans (h.2.2.2 j a)⟩
theorem XF.less {i k k2 : Nat} {X Y : Mem} (h : XF i k X Y) (hk : k2 ≤ k) : XF i k2 X Y := ⟨h.1, h.2.1, h.2.2.1, fun j a => h.2.2.2 j (by omega)⟩
theorem XF.p {i k j : Nat} {X : Mem} {v : Int32} (hi : i < 6) (hj : 2 ≤ j ∧ j < 5) : XF i k X (upd2 X 107 j v) := ⟨fun c a _ _ => u2n a, fun q _ => by rw [u2n (by omega)], fun q a => u2t (by omega), fun q _ => by rw [u2n (by omega)]⟩
theorem XF.s {i k : Nat} {X : Mem} {v : Int32} (hi : i < 6) : XF i k X (upd2 X (40 + i) 2 v) := ⟨fun c _ a _ => u2n a, fun q a => u2t a, fun q a => by rw [u2n (by omega)], fun q _ => by rw [u2n (by omega)]⟩
theorem XF.r {i k z : Nat} {X : Mem} {v : Int32} (hi : i < 6) (hz : k ≤ z) : XF i k X (upd2 X (46 + i) z v) := ⟨fun c _ _ a => u2n a, fun q a => by rw [u2n (by omega)], fun q a => by rw [u2n (by omega)], fun q a => u2t (by omega)⟩
/-- what the model's reading changes -/
def MF (i k : Nat) (M N : Mem) : Prop := (∀ c, c ≠ 0 → c ≠ 12 → N c = M c) ∧ (∀ j, ¬ (19 ≤ j ∧ j < 25) → N 0 j = M 0 j) ∧ ∀ j, j < 170 * i + k → N 12 j = M 12 j
theorem MF.rf {i k : Nat} {M : Mem} : MF i k M M := ⟨fun _ _ _ => rfl, fun _ _ => rfl, fun _ _ => rfl⟩
theorem MF.tr {i k : Nat} {M N O : Mem} (h : MF i k M N) (h2 : MF i k N O) : MF i k M O := ⟨fun c a b => (h2.1 c a b).trans (h.1 c a b), fun j a => (h2.2.1 j a).trans (h.2.1 j a), fun j a => (h2.2.2 j a).trans (h.2.2 j a)⟩
theorem MF.less {i k k2 : Nat} {M N : Mem} (h : MF i k M N) (hk : k2 ≤ k) : MF i k2 M N := ⟨h.1, h.2.1, fun j a => h.2.2 j (by omega)⟩
theorem MF.o {i k j : Nat} {M : Mem} {v : Int32} (hj : 19 ≤ j ∧ j < 25) : MF i k M (upd2 M 0 j v) := ⟨fun c a _ => u2n a, fun q a => u2t (by omega), fun q _ => by rw [u2n (by decide)]⟩
theorem MF.r {i k z : Nat} {M : Mem} {v : Int32} (hz : 170 * i + k ≤ z) : MF i k M (upd2 M 12 z v) := ⟨fun c _ a => u2n a, fun q a => by rw [u2n (by decide)], fun q a => u2t (by omega)⟩
theorem MF.n {i k : Nat} {M N : Mem} (h : nfr M N) : MF i k M N := ⟨fun c a _ => h.1 c a, fun j a => h.2 j (by omega), fun j _ => by rw [h.1 12 (by decide)]⟩
theorem TK.cg {X Y : Mem} {x : Tx} {la : Nat} (h : TK X x la) (h1 : Y 59 = X 59) (h2 : Y 74 = X 74) : TK Y x la := by
  unfold TK at *
  rw [h1, h2]
  exact h
theorem TM.cg {M N : Mem} {x : Tx} (h : TM M x) (h1 : N 0 13 = M 0 13) (h2 : N 11 = M 11) : TM N x := by
  unfold TM at *
  rw [h1, h2]
  exact h
/-- the class at token c, o open, sz steps made -/
def PX (X : Mem) (x : Tx) (la i c o sz : Nat) : Prop := TK X x la ∧ c ≤ la ∧ i < 6 ∧ o ≤ 5 ∧ X 107 1 = nI i ∧ X 107 2 = nI c ∧ X 107 3 = nI o ∧ X 107 4 = -1 ∧ X (40 + i) 2 = nI sz
def PM (M : Mem) (x : Tx) (i c o sz : Nat) : Prop := TM M x ∧ KD M x c ∧ M 0 24 = nI o ∧ M 0 15 = nI i ∧ M 0 19 = nI sz
/-- the class behind a fault -/
def FQ (X : Mem) (i f : Nat) : Prop := i < 6 ∧ f ≤ 160 ∧ X 107 4 = nI f ∧ X 107 1 = nI i ∧ ∃ z, z ≤ 320 ∧ X (40 + i) 2 = nI z
theorem PX.tok {X : Mem} {x : Tx} {la i c o sz : Nat} (h : PX X x la i c o sz) : f_X4_token X = some (nI (tT x c)) := by
  obtain ⟨h1, h2, h3, h4, h5, h6, h7, h8, h9⟩ := h
  have := h1.1
  unfold f_X4_token
  rw [if_pos h8, h6, if_pos (iblt (show c < 161 by omega) (by decide)), nI_clamp (by omega), (h1.2.1 c h2).1]
theorem PX.lt {X : Mem} {x : Tx} {la i c o sz : Nat} (h : PX X x la i c o sz) (h1 : tT x c ≠ 20259) (h2 : tT x c ≠ 20260) : c < la := by
  have := h.2.1
  by_cases e : c = la
  · rcases h.1.2.2.1 with w | w
    · rw [← e] at w
      exact absurd w h1
    · rw [← e] at w
      exact absurd w h2
  · omega
theorem PX.adv {X : Mem} {x : Tx} {la i c o sz : Nat} (h : PX X x la i c o sz) (hc : c < la) : f_X4_advance X = upd2 X 107 2 (nI (c + 1)) ∧ PX (upd2 X 107 2 (nI (c + 1))) x la i (c + 1) o sz := by
  obtain ⟨h1, h2, h3, h4, h5, h6, h7, h8, h9⟩ := h
  have := h1.1
  refine ⟨?_, h1.cg (u2n (by decide)) (u2n (by decide)), hc, h3, h4, by rw [u2t (by decide)]; exact h5, u2s, by rw [u2t (by decide)]; exact h7, by rw [u2t (by decide)]; exact h8, by rw [u2n (by omega)]; exact h9⟩
  unfold f_X4_advance
  rw [h6, if_neg (show ¬ 160 ≤ nI c from (by simp (disch := omega) only [fa_lt, fa_le, fa_eq, nI_toInt, Int32.reduceToInt, im1] <;> omega)), nI_1]
theorem PX.op {X : Mem} {x : Tx} {la i c o o2 sz : Nat} (h : PX X x la i c o sz) (ho : o2 ≤ 5) : PX (upd2 X 107 3 (nI o2)) x la i c o2 sz := by
  obtain ⟨h1, h2, h3, h4, h5, h6, h7, h8, h9⟩ := h
  exact ⟨h1.cg (u2n (by decide)) (u2n (by decide)), h2, h3, ho, by rw [u2t (by decide)]; exact h5, by rw [u2t (by decide)]; exact h6, u2s, by rw [u2t (by decide)]; exact h8, by rw [u2n (by omega)]; exact h9⟩
theorem PX.fail {X : Mem} {x : Tx} {la i c o sz : Nat} (h : PX X x la i c o sz) (hx : x.2 ≤ 160) (hz : sz ≤ 320) : f_X4_fail X = some (upd2 X 107 4 (nI (tS x c))) ∧ FQ (upd2 X 107 4 (nI (tS x c))) i (tS x c) := by
  obtain ⟨h1, h2, h3, h4, h5, h6, h7, h8, h9⟩ := h
  have := h1.1
  have := tS_le x c
  refine ⟨?_, h3, by omega, u2s, by rw [u2t (by decide)]; exact h5, sz, hz, by rw [u2n (by omega)]; exact h9⟩
  unfold f_X4_fail
  rw [if_pos h8, h6, if_pos (iblt (show c < 161 by omega) (by decide)), nI_clamp (by omega), (h1.2.1 c h2).2]
theorem add_x {X : Mem} {i z : Nat} {v : Int32} (hz : z < 320) (h : X (40 + i) 2 = nI z) : f_X5_add X i v = some (upd2 (upd2 X (46 + i) z v) (40 + i) 2 (nI (z + 1))) := by
  unfold f_X5_add
  rw [h, if_neg (show ¬ 320 ≤ nI z from (by simp (disch := omega) only [fa_lt, fa_le, fa_eq, nI_toInt, Int32.reduceToInt, im1] <;> omega)), if_pos (iblt hz (by decide)), nI_clamp (by omega), u2n (by omega), h, nI_1]
theorem PX.add {X : Mem} {x : Tx} {la i c o sz : Nat} {v : Int32} (h : PX X x la i c o sz) (hz : sz < 320) : (X 107 1).toNatClampNeg = i ∧ f_X5_add X i v = some (upd2 (upd2 X (46 + i) sz v) (40 + i) 2 (nI (sz + 1))) ∧ PX (upd2 (upd2 X (46 + i) sz v) (40 + i) 2 (nI (sz + 1))) x la i c o (sz + 1) ∧ XF i sz X (upd2 (upd2 X (46 + i) sz v) (40 + i) 2 (nI (sz + 1))) ∧ (upd2 (upd2 X (46 + i) sz v) (40 + i) 2 (nI (sz + 1))) (46 + i) sz = v := by
  obtain ⟨h1, h2, h3, h4, h5, h6, h7, h8, h9⟩ := h
  refine ⟨by rw [h5, nI_clamp (by omega)], add_x hz h9, ⟨h1.cg (by rw [u2n (by omega), u2n (by omega)]) (by rw [u2n (by omega), u2n (by omega)]), h2, h3, h4, by rw [u2n (by omega), u2n (by omega)]; exact h5, by rw [u2n (by omega), u2n (by omega)]; exact h6, by rw [u2n (by omega), u2n (by omega)]; exact h7, by rw [u2n (by omega), u2n (by omega)]; exact h8, u2s⟩, (XF.r h3 (Nat.le_refl _)).tr (XF.s h3), by rw [u2n (by omega), u2s]⟩
theorem FQ.add {X : Mem} {i f k : Nat} {v : Int32} (h : FQ X i f) (hk : ∀ z, X (40 + i) 2 = nI z → z ≤ 320 → k ≤ z) : (X 107 1).toNatClampNeg = i ∧ ∃ Y, f_X5_add X i v = some Y ∧ FQ Y i f ∧ XF i k X Y ∧ ∀ z, Y (40 + i) 2 = nI z → z ≤ 320 → k ≤ z := by
  obtain ⟨h1, h2, h3, h4, z, hz, h5⟩ := h
  refine ⟨by rw [h4, nI_clamp (by omega)], ?_⟩
  by_cases c : z < 320
  · refine ⟨_, add_x c h5, ⟨h1, h2, by rw [u2n (by omega), u2n (by omega)]; exact h3, by rw [u2n (by omega), u2n (by omega)]; exact h4, z + 1, by omega, u2s⟩, (XF.r h1 (hk z h5 hz)).tr (XF.s h1), fun w hw hw2 => ?_⟩
    rw [u2s] at hw
    have := (nI_eq (by omega) (by omega)).mp hw
    have := hk z h5 hz
    omega
  · refine ⟨X, ?_, ⟨h1, h2, h3, h4, z, hz, h5⟩, XF.rf, hk⟩
    unfold f_X5_add
    rw [h5, if_pos (show 320 ≤ nI z from (by simp (disch := omega) only [fa_lt, fa_le, fa_eq, nI_toInt, Int32.reduceToInt, im1] <;> omega))]
theorem FQ.tok {X : Mem} {i f : Nat} (h : FQ X i f) : f_X4_token X = some 20260 := by
  have := h.2.1
  unfold f_X4_token
  rw [h.2.2.1, if_neg (show ¬ nI f = -1 from (by simp (disch := omega) only [fa_lt, fa_le, fa_eq, nI_toInt, Int32.reduceToInt, im1] <;> omega))]
theorem FQ.fail {X : Mem} {i f : Nat} (h : FQ X i f) : f_X4_fail X = some X := by
  have := h.2.1
  unfold f_X4_fail
  rw [h.2.2.1, if_neg (show ¬ nI f = -1 from (by simp (disch := omega) only [fa_lt, fa_le, fa_eq, nI_toInt, Int32.reduceToInt, im1] <;> omega))]
theorem FQ.expect {X : Mem} {i f : Nat} {a : Int32} (h : FQ X i f) (ha : ¬ (20260 : Int32) = a) : f_X4_expect X a = some X := by
  unfold f_X4_expect
  rw [h.tok, Option.bind_some, if_neg ha, h.fail, Option.bind_some]
theorem FQ.op {X : Mem} {i f : Nat} {v : Int32} (h : FQ X i f) : FQ (upd2 X 107 3 v) i f := by
  obtain ⟨h1, h2, h3, h4, z, hz, h5⟩ := h
  exact ⟨h1, h2, by rw [u2t (by decide)]; exact h3, by rw [u2t (by decide)]; exact h4, z, hz, by rw [u2n (by omega)]; exact h5⟩
theorem FQ.joins {X : Mem} {i f l : Nat} (h : FQ X i f) (hl : l < 5) : f_X4_joins X (nI l) = some 0 := by
  unfold f_X4_joins
  rw [h.tok, Option.bind_some]
  match l, hl with
  | 0, _ => rfl
  | 1, _ => rfl
  | 2, _ => rfl
  | 3, _ => rfl
  | 4, _ => rfl
  | l + 5, h => exact absurd h (by omega)
theorem FQ.chain {X : Mem} {i f l fu k : Nat} {m : Int32} {recL : Mem → Int32 → Option Mem} (h : FQ X i f) (hl : l < 5) : f_X4_chain_22 recL (nI l) m (fu + 1) (nI k) X = some X := by
  rw [f_X4_chain_22, h.joins hl, Option.bind_some]
  split
  · rfl
  · rw [if_pos rfl]
theorem FQ.lev {X : Mem} {i f : Nat} (h : FQ X i f) : ∀ (d l : Nat), l ≤ 5 → 6 ≤ d + l → f_X4_lev d X (nI l) = some X := by
  intro d
  induction d with
  | zero => intro l h1 h2; omega
  | succ d ih =>
    intro l h1 h2
    show f_X4_level (f_X4_lev d) X (nI l) = some X
    unfold f_X4_level
    by_cases c5 : l = 5
    · subst c5
      rw [if_neg (by decide)]
      unfold f_X4_one
      rw [h.tok, Option.bind_some, if_pos (by decide), if_neg (by decide), if_neg (by decide), h.fail, Option.bind_some, Option.bind_some]
    · have hch : f_X4_chain (f_X4_lev d) X (nI l) = some X := by
        unfold f_X4_chain
        rw [nI_1, ih (l + 1) (by omega) (by omega), Option.bind_some]
        rw [show f_X4_chain_22 (f_X4_lev d) (nI l) 1 FU 0 X = some X from h.chain (fu := 3999) (k := 0) (by omega), show f_X4_chain_22 (f_X4_lev d) (nI l) 160 FU 0 X = some X from h.chain (fu := 3999) (k := 0) (by omega)]
        split <;> rfl
      rw [if_pos (show nI l < 5 from (by simp (disch := omega) only [fa_lt, fa_le, fa_eq, nI_toInt, Int32.reduceToInt, im1] <;> omega))]
      by_cases c2 : nI l = 2
      · rw [if_pos c2, h.tok, Option.bind_some, if_neg (by decide), hch, Option.bind_some]
      · rw [if_neg c2, hch, Option.bind_some]
/-- the model's steps -/
theorem PM.put {M : Mem} {x : Tx} {i c o sm : Nat} {v : Int32} (h : PM M x i c o sm) (hi : i < 6) (hs : sm < 170) : f_X11_put M v = some (upd2 (upd2 M 0 19 (nI (sm + 1))) 12 (170 * i + sm) v) ∧ PM (upd2 (upd2 M 0 19 (nI (sm + 1))) 12 (170 * i + sm) v) x i c o (sm + 1) ∧ MF i sm M (upd2 (upd2 M 0 19 (nI (sm + 1))) 12 (170 * i + sm) v) ∧ (upd2 (upd2 M 0 19 (nI (sm + 1))) 12 (170 * i + sm) v) 12 (170 * i + sm) = v := by
  obtain ⟨h1, h2, h3, h4, h5⟩ := h
  have e5 : (170 : Int32) * nI i + nI sm = nI (170 * i + sm) := by rw [show (170 : Int32) * nI i = nI (170 * i) from pk_mul 170 i, nI_add]
  refine ⟨?_, ⟨h1.cg (by rw [u2n (by decide), u2t (by decide)]) (by rw [u2n (by decide), u2n (by decide)]), ?_, by rw [u2n (by decide), u2t (by decide)]; exact h3, by rw [u2n (by decide), u2t (by decide)]; exact h4, by rw [u2n (by decide), u2s]⟩, (MF.o (by decide)).tr (MF.r (by omega)), u2s⟩
  · unfold f_X11_put
    rw [h4, h5, e5, if_pos (iblt (show 170 * i + sm < 1020 by omega) (by decide)), nI_clamp (by omega), nI_1]
  · unfold KD at *
    rw [u2n (by decide), u2t (by decide), u2t (by decide), u2t (by decide), u2t (by decide)]
    exact h2
theorem PM.next {M : Mem} {x : Tx} {i c o sm : Nat} (h : PM M x i c o sm) : ∃ N, f_X11_next M = some N ∧ PM N x i (c + 1) o sm ∧ nfr M N := by
  obtain ⟨h1, h2, h3, h4, h5⟩ := h
  obtain ⟨N, n1, n2, n3⟩ := next_ok (c := c + 1) h1 h2.1
  exact ⟨N, n1, ⟨h1.cg (n3.2 13 (by decide)) (n3.1 11 (by decide)), n2, by rw [n3.2 24 (by decide)]; exact h3, by rw [n3.2 15 (by decide)]; exact h4, by rw [n3.2 19 (by decide)]; exact h5⟩, n3⟩
theorem PM.op {M : Mem} {x : Tx} {i c o o2 sm : Nat} (h : PM M x i c o sm) : PM (upd2 M 0 24 (nI o2)) x i c o2 sm := by
  obtain ⟨h1, h2, h3, h4, h5⟩ := h
  refine ⟨h1.at (by decide), ?_, u2s, by rw [u2t (by decide)]; exact h4, by rw [u2t (by decide)]; exact h5⟩
  unfold KD at *
  rw [u2t (by decide), u2t (by decide), u2t (by decide), u2t (by decide)]
  exact h2
