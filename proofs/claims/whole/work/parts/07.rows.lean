abbrev ibd (x : Int32) (n : Nat) : Prop := 0 ≤ x.toInt ∧ x.toInt < (n : Int)
theorem vin {x : Int32} {n : Nat} (c : ibd x n) : vp_in x n := vp_in_iff.mpr c
theorem ibd_lt {x : Int32} {n : Nat} (c : ibd x n) : x.toNatClampNeg < n := by
  have h := vin c
  exact Nat.not_le.mp fun q => h (Or.inr q)
theorem nbz {x : Int32} (h : x = 0 ∨ x = 1) : narrow .boolean (.int x) = .int x := by
  rcases h with h | h <;> subst h <;> rfl
theorem ncz {x : Int32} (h : narrow .char (.int x) = .int x) : narrow .char (.int x) = .int x := h
def FU : Nat := 4000
theorem FU_eq : FU = 4000 := rfl
def cpy2 (M : Mem) (i j sp dp n : Nat) : Mem := fun q => if q = j then va_cpy (M i) (M j) sp dp n else M q
theorem wW_seL {sh sh' : ShT} {φ : Nat → Nat} {M : Mem} {n i : Nat} {e : va_E} (h1 : sh' i (M i) = e) (h2 : ∀ j, j ≠ i → sh' j (M j) = sh j (M j)) : (wW sh φ M n).set i (φ i, e) = wW sh' φ M n := by
  apply List.ext_getElem?
  intro j
  rw [List.getElem?_set]
  by_cases hj : j < n
  · by_cases hij : i = j
    · subst hij
      rw [if_pos rfl, if_pos (by rw [wW_len]; exact hj), wW_get hj, h1]
    · rw [if_neg hij, wW_get hj, wW_get hj, h2 j (fun q => hij q.symm)]
  · have e1 : (wW sh' φ M n)[j]? = none := List.getElem?_eq_none (by rw [wW_len]; omega)
    have e2 : (wW sh φ M n)[j]? = none := List.getElem?_eq_none (by rw [wW_len]; omega)
    rw [e1]
    by_cases hij : i = j
    · subst hij
      rw [if_pos rfl, if_neg (by rw [wW_len]; omega)]
    · rw [if_neg hij, e2]
section RW2
variable {p : Program} {l : Launch} {e : Env} {R : Room} {s : State} {m : MethodId} {args : Array Value} {below : List Frame} {meth : Method} {c : Code} {H : Heap} {locs : List Loc} {cells slots : Nat} {Q : State → Prop}
variable {cc : ByteArray} {pc : Nat} {ls : Array Slot} {rest : List Value} {sh : ShT} {φ : Nat → Nat} {M : Mem} {n : Nat} {A : Nat → Prop} {H0 : Heap} {G : GT} {own : String}
theorem r_lald (E : En p s m args c cc own G) (hP : va_P G.1 vwCl (wW sh φ M n) H) {i len : Nat} {L : Nat → Int64} (hi : i < n) (hs : ∀ r, sh i r = .inl (G.2.1 6, len, .inr (.inl L))) {x : Int32} (hin : vp_in x len) (hdg : decode cc pc = .ok (.laload, 1))
    (kk : W p l e R s m args below meth c H locs cells slots Q (F0 m (pc + 1) ls (.long (L x.toNatClampNeg) :: rest))) : W p l e R s m args below meth c H locs cells slots Q (F0 m pc ls (.int x :: .ref (φ i) :: rest)) :=
  va_lald E.1 E.2.1 E.2.2.2.2 hP i 6 (cA := G.2.1 6) (n := len) (f := L) (by rw [wW_get hi, hs]) rfl hin hdg kk
theorem r_last {L : Nat → Int64} (E : En p s m args c cc own G) (hD : wD φ n A) (hP : va_P G.1 vwCl (wW (cM G φ L) φ M n) H) (hS : va_S A H0 H locs) (hi : 21 < n) {x : Int32} {v : Int64} (hin : vp_in x 1024) (hdg : decode cc pc = .ok (.lastore, 1))
    (kk : ∀ (H1 : Heap) (locs1 : List Loc), va_P G.1 vwCl (wW (cM G φ (vp_updL L x.toNatClampNeg v)) φ M n) H1 → va_S A H0 H1 locs1 → W p l e R s m args below meth c H1 locs1 cells slots Q (F0 m (pc + 1) ls rest)) : W p l e R s m args below meth c H locs cells slots Q (F0 m pc ls (.long v :: .int x :: .ref (φ 21) :: rest)) :=
  va_last E.1 E.2.1 E.2.2.2.2 hP hD.va hS 21 6 (cA := G.2.1 6) (n := 1024) (f := L) (by rw [wW_get hi]; rfl) rfl hin hdg (fun H1 locs1 hP1 _ hS1 => kk H1 locs1 (by
    rw [wW_seL (sh' := cM G φ (vp_updL L x.toNatClampNeg v)) (i := 21) (e := .inl (G.2.1 6, 1024, .inr (.inl (vp_updL L x.toNatClampNeg v)))) rfl (fun j hj => by
      unfold cM
      split <;> first | rfl | exact absurd rfl hj)] at hP1
    exact hP1) hS1)
theorem r_copy (E : En p s m args c cc own G) {nLc : Nat} (hml : c.maxLocals = nLc) (hlz : ls.size = nLc) {index : Nat} (hlink : (Cond.methodLink own index arraycopyName).before args s = true) (hnat : (Cond.native arraycopyName).before args s = true) (hstat : (Cond.static arraycopyName).before args s = true) (hini : (Cond.initialized "java/lang/System").before args s = true) (hD : wD φ n A) (hP : va_P G.1 vwCl (wW sh φ M n) H) (hS : va_S A H0 H locs) {i j n0 n1 : Nat} (hi : i < n) (hj : j < n) (hs0 : ∀ r, sh i r = .inl (G.2.1 0, n0, .inl r)) (hs1 : ∀ r, sh j r = .inl (G.2.1 0, n1, .inl r)) {sp dp k : Int32} (h1 : ¬ sp < 0) (h2 : ¬ dp < 0) (h3 : ¬ k < 0) (h4 : sp.toNatClampNeg + k.toNatClampNeg ≤ n0) (h5 : dp.toNatClampNeg + k.toNatClampNeg ≤ n1) (hframes : 1 ≤ R.frames) (hlocals : (rest.map fun v => v.category).sum + (nativeFrameWords "java/lang/System" "arraycopy" 5 + 11) ≤ R.locals) (hdg : decode cc pc = .ok (.invokestatic index, 3))
    (kk : ∀ (H1 : Heap) (locs1 : List Loc), va_P G.1 vwCl (wW sh φ (cpy2 M i j sp.toNatClampNeg dp.toNatClampNeg k.toNatClampNeg) n) H1 → va_S A H0 H1 locs1 → W p l e R s m args below meth c H1 locs1 cells slots Q (F0 m (pc + 3) ls rest)) : W p l e R s m args below meth c H locs cells slots Q (F0 m pc ls (.int k :: .int dp :: .ref (φ j) :: .int sp :: .ref (φ i) :: rest)) :=
  va_copyi E.1 E.2.1 (hml.trans hlz.symm) E.2.2.1 hlink hnat hstat hini E.2.2.2.2 hP hD.va hS i j 0 0 (c0 := G.2.1 0) (c1 := G.2.1 0) (n0 := n0) (n1 := n1) (f := M i) (g := M j) (ty := .int) (by rw [wW_get hi, hs0]) (by rw [wW_get hj, hs1]) rfl rfl rfl h1 h2 h3 h4 h5 (fun _ _ => rfl) hframes hlocals hdg (fun H1 locs1 hP1 _ hS1 => kk H1 locs1 (by
    rw [wW_set (M' := cpy2 M i j sp.toNatClampNeg dp.toNatClampNeg k.toNatClampNeg) (by rw [hs1]; simp [cpy2]) (fun q hq => by simp [cpy2, hq])] at hP1
    exact hP1) hS1)
section CALLS0
variable {sh' : ShT} {n' : Nat} {r : Option Value} {M' : Mem} {A0 : Nat → Prop} {y : MethodName} {b : ByteArray} {nL nLc index : Nat} {ret : Option FieldType} {rm : Room} {a : Nat} {As : List Value}
theorem c_V0 (X : At p s m args c cc own G A0 φ n nLc) (hlz : ls.size = nLc) (hM : CT l y b nL ret rm (.ref (φ a) :: As) (WB sh φ M n G) r (WB sh' φ M' n' G) φ n) (w : CW own index y b nL As.length ret) (wi : Cond.instanceMethod y ∈ GW) (ws : Cond.selects y.cls y y ∈ GW) (hR : rm.frames + 1 ≤ R.frames ∧ 8 + (nL + 11) + rm.locals ≤ R.locals) (z1 : rm.cells = 0) (z2 : rm.slots = 0)
    (hP : va_P G.1 vwCl (wW sh φ M n) H) (hS : va_S A0 s.heap H locs) {ci : Nat} {q : vw_C} {fs : (Nat → Int32) → List Value} (ha : a < n) (hs : ∀ r, sh a r = .inr (ci, fs r)) (hci : vwCl[ci]? = some q) (hq : q.1 = y.cls) (hrm : (rest.map fun v => v.category).sum ≤ 8) (hdg : decode cc pc = .ok (.invokevirtual index, 3))
    (kk : ∀ (H1 : Heap) (locs1 : List Loc), va_P G.1 vwCl (wW sh' φ M' n') H1 → va_S A0 s.heap H1 locs1 → W p l e R s m args below meth c H1 locs1 0 0 Q (F0 m (pc + 3) ls (r.toList ++ rest))) : W p l e R s m args below meth c H locs 0 0 Q (F0 m pc ls (As.reverse ++ .ref (φ a) :: rest)) :=
  c_V X hlz hM w wi ws hR hP hS ha hs hci hq hrm hdg ⟨by rw [z1]; exact Nat.zero_le _, by rw [z2]; exact Nat.zero_le _⟩ (by rw [z1, z2]; exact kk)
theorem c_S0 (X : At p s m args c cc own G A0 φ n nLc) (hlz : ls.size = nLc) (hM : CT l y b nL ret rm As (WB sh φ M n G) r (WB sh' φ M' n' G) φ n) (w : CW own index y b nL As.length ret) (wi : Cond.static y ∈ GW) (hR : rm.frames + 1 ≤ R.frames ∧ 8 + (nL + 11) + rm.locals ≤ R.locals) (z1 : rm.cells = 0) (z2 : rm.slots = 0)
    (hP : va_P G.1 vwCl (wW sh φ M n) H) (hS : va_S A0 s.heap H locs) (hrm : (rest.map fun v => v.category).sum ≤ 8) (hdg : decode cc pc = .ok (.invokestatic index, 3))
    (kk : ∀ (H1 : Heap) (locs1 : List Loc), va_P G.1 vwCl (wW sh' φ M' n') H1 → va_S A0 s.heap H1 locs1 → W p l e R s m args below meth c H1 locs1 0 0 Q (F0 m (pc + 3) ls (r.toList ++ rest))) : W p l e R s m args below meth c H locs 0 0 Q (F0 m pc ls (As.reverse ++ rest)) :=
  c_S X hlz hM w wi hR hP hS hrm hdg ⟨by rw [z1]; exact Nat.zero_le _, by rw [z2]; exact Nat.zero_le _⟩ (by rw [z1, z2]; exact kk)
theorem c_VS0 {k : Nat} (X : At p s m args c cc own G A0 φ n nLc) (hlz : ls.size = nLc) (hM : CT l y b nL ret rm (.ref (saS G k) :: As) (WB sh φ M n G) r (WB sh' φ M' n' G) φ n) (w : CW own index y b nL As.length ret) (wi : Cond.instanceMethod y ∈ GW) (ws : Cond.selects y.cls y y ∈ GW) (hR : rm.frames + 1 ≤ R.frames ∧ 8 + (nL + 11) + rm.locals ≤ R.locals) (z1 : rm.cells = 0) (z2 : rm.slots = 0)
    (hP : va_P G.1 vwCl (wW sh φ M n) H) (hS : va_S A0 s.heap H locs) (hk : k < 13) (hq : "java/lang/String" = y.cls) (hrm : (rest.map fun v => v.category).sum ≤ 8) (hdg : decode cc pc = .ok (.invokevirtual index, 3))
    (kk : ∀ (H1 : Heap) (locs1 : List Loc), va_P G.1 vwCl (wW sh' φ M' n') H1 → va_S A0 s.heap H1 locs1 → W p l e R s m args below meth c H1 locs1 0 0 Q (F0 m (pc + 3) ls (r.toList ++ rest))) : W p l e R s m args below meth c H locs 0 0 Q (F0 m pc ls (As.reverse ++ .ref (saS G k) :: rest)) := by
  have hB := X.B hP hS
  have h0 := vk_recv (A := A0) X.2.2.1.1.2.2.2.2.2 hk hS
  rw [hq] at h0
  exact r_call (va_runV (C := y.cls) (b := saS G k) (As := As) (rest := rest) ⟨X.1.1, X.1.2.1, X.2.1, X.1.2.2.1, X.1.2.2.2.1⟩ (hM H.size) ⟨w.B X.1.2.2.2.1 hR, X.1.2.2.2.1 _ wi, X.1.2.2.2.1 _ ws⟩ ⟨fun _ U g mk h => ⟨h.1, h.2.1, h.2.2.blind U g mk _⟩, h0, fun U hU hW => ⟨rfl, by rw [hU], hB U hU hW⟩⟩ rfl rfl hlz rfl (lv_room hrm) hdg ⟨by rw [z1]; exact Nat.zero_le _, by rw [z2]; exact Nat.zero_le _⟩) hS (X.fr hS) (fun H1 locs1 h1 _ _ h4 => by
    have := kk H1 locs1 h1 h4
    rw [z1, z2]
    exact this)
end CALLS0
end RW2
theorem CT.mono {l : Launch} {y : MethodName} {b : ByteArray} {nL : Nat} {ret : Option FieldType} {rm rm' : Room} {av : List Value} {B : State → Prop} {r : Option Value} {B' : State → Prop} {φ : Nat → Nat} {n : Nat} (h : CT l y b nL ret rm av B r B' φ n) (hf : rm.frames ≤ rm'.frames) (hl : rm.locals ≤ rm'.locals) (hc : rm.cells = rm'.cells) (hs : rm.slots = rm'.slots) : CT l y b nL ret rm' av B r B' φ n := by
  intro sz
  have h := h sz
  rw [hc, hs] at h
  intro p e ha hcs hk s m args below hfr happ hP hK
  obtain ⟨a1, a2, a3, a4, a5, a6, a7, a8⟩ := (Spec.appliesLoose_iff hfr).mp happ
  refine h p e ha hcs hk s m args below hfr ((Spec.appliesLoose_iff hfr).mpr ⟨a1, a2, a3, a4, a5, a6, ?_, a8⟩) hP hK
  have a7 : s.hasRoom e.platform rm' = true := a7
  show s.hasRoom e.platform rm = true
  simp only [State.hasRoom, Bool.and_eq_true, decide_eq_true_eq] at a7 ⊢
  obtain ⟨⟨⟨⟨y, a, b, c, d, e⟩, f⟩, g⟩, i⟩ := a7
  exact ⟨⟨⟨⟨by omega, by omega, by omega, by omega, by omega, e⟩, by omega⟩, by omega⟩, i⟩
