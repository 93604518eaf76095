/-! my words: the good words of the tables; a memory of ints by number of the cell and place; worlds out of a memory -/
def GW : List Cond := lw_tbl.filter goodWord
theorem gw_mem {w : Cond} (h : w ∈ lw_tbl) (hg : goodWord w = true) : w ∈ GW := List.mem_filter.mpr ⟨h, hg⟩
theorem gw_at {w : Cond} (i : Nat) (h : lw_tbl[i]? = some w) (hg : goodWord w = true) : w ∈ GW := gw_mem (List.mem_of_getElem? h) hg
def wm (y : MethodName) (b : ByteArray) (nL : Nat) (ret : Option FieldType) : List Cond := .code y b nL ret :: GW
theorem gi_wm {Ts : List Cond} {y : MethodName} {b : ByteArray} {nL : Nat} {ret : Option FieldType} (hs : ∀ w ∈ GW, w ∈ Ts) (hc : Cond.code y b nL ret ∈ GW) : GoodIn Ts (wm y b nL ret) := by
  intro w hw
  rcases List.mem_cons.mp hw with h | h
  · subst h
    exact ⟨hs _ hc, good_of_word (List.mem_filter.mp hc).2⟩
  · exact ⟨hs _ h, good_of_word (List.mem_filter.mp h).2⟩
abbrev Mem : Type := Nat → Nat → Int32
def upd2 (M : Mem) (i k : Nat) (v : Int32) : Mem := fun j => if j = i then upd (M i) k v else M j
theorem upd2_self (M : Mem) (i k : Nat) (v : Int32) : upd2 M i k v i = upd (M i) k v := by simp [upd2]
theorem upd2_ne (M : Mem) {i j : Nat} (k : Nat) (v : Int32) (h : j ≠ i) : upd2 M i k v j = M j := by simp [upd2, h]
abbrev ShT : Type := Nat → (Nat → Int32) → va_E
def wW (sh : ShT) (φ : Nat → Nat) (M : Mem) (n : Nat) : va_W := (List.range n).map fun i => (φ i, sh i (M i))
theorem wW_get {sh : ShT} {φ : Nat → Nat} {M : Mem} {n i : Nat} (h : i < n) : (wW sh φ M n)[i]? = some (φ i, sh i (M i)) := by
  simp [wW, h]
theorem wW_len {sh : ShT} {φ : Nat → Nat} {M : Mem} {n : Nat} : (wW sh φ M n).length = n := by simp [wW]
theorem wW_some {sh : ShT} {φ : Nat → Nat} {M : Mem} {n k : Nat} {q : Nat × va_E} (h : (wW sh φ M n)[k]? = some q) : k < n ∧ q = (φ k, sh k (M k)) := by
  have hk : k < n := by
    have := (List.getElem?_eq_some_iff.mp h).1
    rwa [wW_len] at this
  rw [wW_get hk] at h
  exact ⟨hk, (Option.some.inj h).symm⟩
theorem wW_set {sh : ShT} {φ : Nat → Nat} {M M' : Mem} {n i : Nat} {e : va_E} (h1 : sh i (M' i) = e) (h2 : ∀ j, j ≠ i → M' j = M j) : (wW sh φ M n).set i (φ i, e) = wW sh φ M' n := by
  apply List.ext_getElem?
  intro j
  rw [List.getElem?_set]
  by_cases hj : j < n
  · by_cases hij : i = j
    · subst hij
      rw [if_pos rfl, if_pos (by rw [wW_len]; exact hj), wW_get hj, h1]
    · rw [if_neg hij, wW_get hj, wW_get hj, h2 j (fun q => hij q.symm)]
  · have e1 : (wW sh φ M' n)[j]? = none := List.getElem?_eq_none (by rw [wW_len]; omega)
    have e2 : (wW sh φ M n)[j]? = none := List.getElem?_eq_none (by rw [wW_len]; omega)
    rw [e1]
    by_cases hij : i = j
    · subst hij
      rw [if_pos rfl, if_neg (by rw [wW_len]; omega)]
    · rw [if_neg hij, e2]
/-- the cells are apart -/
def wI (φ : Nat → Nat) (n : Nat) : Prop := ∀ i j, i < n → j < n → φ i = φ j → i = j
/-- what a method may write: the world's cells, and new ones -/
def wA (φ : Nat → Nat) (n sz : Nat) : Nat → Prop := fun q => (∃ i, i < n ∧ q = φ i) ∨ sz ≤ q
theorem wA_in {φ : Nat → Nat} {n sz i : Nat} (h : i < n) : wA φ n sz (φ i) := Or.inl ⟨i, h, rfl⟩
theorem wA_ge {φ : Nat → Nat} {n sz : Nat} : ∀ q, sz ≤ q → wA φ n sz q := fun _ h => Or.inr h
theorem wA_mono {φ : Nat → Nat} {n sz sz' : Nat} (h : sz ≤ sz') : ∀ q, wA φ n sz' q → wA φ n sz q := by
  intro q hq
  rcases hq with hq | hq
  · exact Or.inl hq
  · exact Or.inr (Nat.le_trans h hq)
/-- the cells are apart, and lie in A -/
def wD (φ : Nat → Nat) (n : Nat) (A : Nat → Prop) : Prop := wI φ n ∧ ∀ i, i < n → A (φ i)
theorem wD_A {φ : Nat → Nat} {n sz : Nat} (h : wI φ n) : wD φ n (wA φ n sz) := ⟨h, fun _ h => wA_in h⟩
theorem wD.va {φ : Nat → Nat} {n : Nat} {A : Nat → Prop} {sh : ShT} {M : Mem} (h : wD φ n A) : va_D A (wW sh φ M n) := by
  refine ⟨fun i j p q hi hj e => ?_, fun k q hk => ?_⟩
  · obtain ⟨h1, rfl⟩ := wW_some hi
    obtain ⟨h2, rfl⟩ := wW_some hj
    exact h.1 i j h1 h2 e
  · obtain ⟨h1, rfl⟩ := wW_some hk
    exact h.2 k h1
theorem wD.sub {φ : Nat → Nat} {n sz : Nat} {A : Nat → Prop} (h : wD φ n A) (hA : ∀ q, sz ≤ q → A q) : ∀ q, wA φ n sz q → A q := by
  intro q hq
  rcases hq with ⟨i, hi, rfl⟩ | hq
  · exact h.2 i hi
  · exact hA q hq
/-- what is the same for every world: the classes' numbers and slots; the array classes' numbers; addresses of statics and texts -/
abbrev GT : Type := va_G × (Nat → ClassId) × (Nat → Nat)
def tysG (G : GT) : List (ClassId × FieldType) := [(G.2.1 0, .int), (G.2.1 1, .array .int), (G.2.1 2, .object "KitchenTable$Guest"), (G.2.1 3, .object "KitchenTable$Slip"), (G.2.1 4, .object "KitchenTable$Rule"), (G.2.1 5, .object "KitchenTable$Sheet"), (G.2.1 6, .long)]
def KT (G : GT) (U : State) : Prop := va_K G.1 vwCl (tysG G) U
theorem KT.moved {G : GT} {u U : State} (hvm : u.vm.Alike U.vm) (h : KT G u) : KT G U := va_K.moved hvm h
def lenS : List Nat := [43, 5, 4, 4, 3, 6, 5, 2, 4, 4, 2, 3, 3]
def txS : List String := ["do told < asked ; take 0 ; care 1 + thing ;", "asked", "told", "hour", "who", "temper", "thing", "do", "take", "care", "or", "and", "not"]
def bytS : List (List Int32) := [[100, 111, 32, 116, 111, 108, 100, 32, 60, 32, 97, 115, 107, 101, 100, 32, 59, 32, 116, 97, 107, 101, 32, 48, 32, 59, 32, 99, 97, 114, 101, 32, 49, 32, 43, 32, 116, 104, 105, 110, 103, 32, 59], [97, 115, 107, 101, 100], [116, 111, 108, 100], [104, 111, 117, 114], [119, 104, 111], [116, 101, 109, 112, 101, 114], [116, 104, 105, 110, 103], [100, 111], [116, 97, 107, 101], [99, 97, 114, 101], [111, 114], [97, 110, 100], [110, 111, 116]]
def saS (G : GT) (i : Nat) : Nat := G.2.2 (3 + 2 * i)
def sbS (G : GT) (i : Nat) : Nat := G.2.2 (4 + 2 * i)
/-- the texts: whose, place in the pool, which -/
def strS : List (String × Nat × Nat) := [("KitchenTable", 53, 0), ("KitchenTable$Tape", 51, 1), ("KitchenTable$Tape", 59, 2), ("KitchenTable$Tape", 61, 3), ("KitchenTable$Tape", 63, 4), ("KitchenTable$Tape", 65, 5), ("KitchenTable$Tape", 67, 6), ("KitchenTable$Tape", 69, 7), ("KitchenTable$Tape", 73, 8), ("KitchenTable$Tape", 75, 9), ("KitchenTable$Tape", 77, 10), ("KitchenTable$Tape", 79, 11), ("KitchenTable$Tape", 81, 12),
  ("KitchenTableModel", 104, 0), ("KitchenTableModel", 174, 1), ("KitchenTableModel", 180, 2), ("KitchenTableModel", 182, 3), ("KitchenTableModel", 183, 4), ("KitchenTableModel", 185, 5), ("KitchenTableModel", 186, 6), ("KitchenTableModel", 233, 7), ("KitchenTableModel", 239, 8), ("KitchenTableModel", 241, 9), ("KitchenTableModel", 197, 10), ("KitchenTableModel", 209, 11), ("KitchenTableModel", 211, 12)]
def txO (i : Nat) : String := txS.getD i ""
def nestM : List (String × Nat × MethodName) := [("KitchenTable$Table", 42, yX1_init), ("KitchenTable$Table", 43, yX7_init), ("KitchenTable$Table", 44, yX5_init), ("KitchenTable", 27, yX9_init), ("KitchenTable", 34, yX3_init), ("KitchenTable", 41, yX2_init), ("KitchenTable", 52, yX6_init)]
def RO1 (G : GT) (A : Nat → Prop) (U : State) (H : Heap) : Prop :=
  (va_Z "KitchenTable" "LEAST_TRAIT" "[I" (.ref (G.2.2 0)) A U H ∧ va_T .int (G.2.2 0) 4 (fun j => .int (([0, 1, 0, 0] : List Int32).getD j 0)) A U H) ∧
  (va_Z "KitchenTable" "MOST_TRAIT" "[I" (.ref (G.2.2 1)) A U H ∧ va_T .int (G.2.2 1) 4 (fun j => .int (([47, 24, 12, 9] : List Int32).getD j 0)) A U H) ∧
  (va_Z "KitchenTable$Slip" "ABOVE" "[I" (.ref (G.2.2 2)) A U H ∧ va_T .int (G.2.2 2) 6 (fun j => .int (([-1, 0, 0, 1, 2, 3] : List Int32).getD j 0)) A U H) ∧
  va_Z "java/lang/String" "COMPACT_STRINGS" "Z" (.int 1) A U H ∧ va_Zq "jdk/internal/util/Preconditions" "SIOOBE_FORMATTER" "Ljava/util/function/BiFunction;" A U H ∧
  vk_S 13 lenS bytS (saS G) (sbS G) A U H
def RO2 (G : GT) (U : State) : Prop :=
  (∀ q ∈ strS, vk_R q.1 q.2.1 (txO q.2.2) (saS G q.2.2) U) ∧ (∀ q ∈ nestM, va_Nw (.methodLinkNest q.1 q.2.1 q.2.2 "KitchenTable") U) ∧
  va_Nw (.fieldLinkNest "KitchenTable$Parser" 52 "KitchenTable$Tape" "tokens" "[I" "KitchenTable") U ∧ va_Nw (.fieldLinkNest "KitchenTable$Parser" 56 "KitchenTable$Tape" "starts" "[I" "KitchenTable") U
/-- what is only read: statics, texts, and the words of the nest -/
def RO (G : GT) (A : Nat → Prop) (U : State) (H : Heap) : Prop := RO1 G A U H ∧ RO2 G U
theorem RO1.moved {G : GT} {A : Nat → Prop} {u U : State} {H : Heap} (hvm : u.vm.Alike U.vm) (h : RO1 G A u H) : RO1 G A U H :=
  ⟨⟨h.1.1.moved hvm, h.1.2.moved hvm⟩, ⟨h.2.1.1.moved hvm, h.2.1.2.moved hvm⟩, ⟨h.2.2.1.1.moved hvm, h.2.2.1.2.moved hvm⟩, h.2.2.2.1.moved hvm, h.2.2.2.2.1.moved hvm, h.2.2.2.2.2.moved hvm⟩
theorem RO1.kept {G : GT} {A : Nat → Prop} {U : State} {H H1 : Heap} (h : RO1 G A U H) (hq : ∀ a : Nat, a < H.size → ¬ A a → H1[a]? = H[a]?) : RO1 G A U H1 :=
  ⟨⟨h.1.1.kept hq, h.1.2.kept hq⟩, ⟨h.2.1.1.kept hq, h.2.1.2.kept hq⟩, ⟨h.2.2.1.1.kept hq, h.2.2.1.2.kept hq⟩, h.2.2.2.1.kept hq, h.2.2.2.2.1.kept hq, h.2.2.2.2.2.kept hq⟩
theorem RO1.narrow {G : GT} {A B : Nat → Prop} {U : State} {H : Heap} (h : RO1 G A U H) (hAB : ∀ q, B q → A q) : RO1 G B U H :=
  ⟨⟨h.1.1.narrow hAB, h.1.2.narrow hAB⟩, ⟨h.2.1.1.narrow hAB, h.2.1.2.narrow hAB⟩, ⟨h.2.2.1.1.narrow hAB, h.2.2.1.2.narrow hAB⟩, h.2.2.2.1.narrow hAB, h.2.2.2.2.1.narrow hAB, h.2.2.2.2.2.narrow hAB⟩
theorem RO2.warm {G : GT} {u U : State} (hW : u.WarmedH U.vm) (h : RO2 G u) : RO2 G U :=
  ⟨fun q hq => (h.1 q hq).warm hW, fun q hq => (h.2.1 q hq).warmM hW, h.2.2.1.warmF hW, h.2.2.2.warmF hW⟩
theorem RO2.same {G : GT} {u U : State} (hv : U.vm = u.vm) (h : RO2 G u) : RO2 G U :=
  ⟨fun q hq => (h.1 q hq).same hv, fun q hq => va_Nw.same rfl hv.symm (h.2.1 q hq), va_Nw.same rfl hv.symm h.2.2.1, va_Nw.same rfl hv.symm h.2.2.2⟩
/-- the whole world of a system in a state: its cells hold M -/
def WB (sh : ShT) (φ : Nat → Nat) (M : Mem) (n : Nat) (G : GT) (U : State) : Prop := va_P G.1 vwCl (wW sh φ M n) U.heap ∧ KT G U ∧ RO G (wA φ n U.heap.size) U U.heap
theorem WB.blind {sh : ShT} {φ : Nat → Nat} {M : Mem} {n : Nat} {G : GT} (U : State) (g : JFrame) (mk : MethodId) (a : Array Value) (h : WB sh φ M n G U) : WB sh φ M n G (U.calling g mk a) :=
  ⟨h.1, KT.moved (u := U) (U := U.calling g mk a) (Vm.Alike.refl U.vm) h.2.1, RO1.moved (u := U) (U := U.calling g mk a) (Vm.Alike.refl U.vm) h.2.2.1, RO2.same (u := U) rfl h.2.2.2⟩
/-- the world again, at another heap and a later state of the tables -/
theorem WB.of {sh : ShT} {φ : Nat → Nat} {M : Mem} {n : Nat} {G : GT} {A : Nat → Prop} {s U : State} {H : Heap} {locs : List Loc} (hP : va_P G.1 vwCl (wW sh φ M n) H) (hK : KT G s) (hR : RO G A s s.heap) (hS : va_S A s.heap H locs) (hA : ∀ q, wA φ n H.size q → A q) (hU : U.heap = H) (hW : s.WarmedH U.vm) : WB sh φ M n G U := by
  subst hU
  exact ⟨hP, hK.moved hW.alike, ((hR.1.moved hW.alike).kept hS.2.1).narrow hA, hR.2.warm hW⟩
/-- a method's end: its answer, the world behind it, and what stays -/
def QQ (r : Option Value) (B : State → Prop) (A : Nat → Prop) : Array Value → State → Outcome → State → Prop := fun _ st oc t => (oc = .returned r ∧ B t) ∧ va_F A st t
/-- a method's contract from a world to a world -/
def CT (l : Launch) (y : MethodName) (b : ByteArray) (nL : Nat) (ret : Option FieldType) (rm : Room) (av : List Value) (B : State → Prop) (r : Option Value) (B' : State → Prop) (φ : Nat → Nat) (n : Nat) : Prop :=
  ∀ sz, Met l y (wm y b nL ret) rm (va_Pc av (fun U => U.heap.size = sz ∧ B U)) (QQ r B' (wA φ n sz)) rm.cells rm.slots (wA φ n sz)
/-- the surroundings of a walk -/
def En (p : Program) (s : State) (m : MethodId) (args : Array Value) (c : Code) (cc : ByteArray) (own : String) (G : GT) : Prop :=
  p.tables.exec = Jvm.exec ∧ c.code = cc ∧ s.vm.findClass own = some m.cls ∧ (∀ w ∈ GW, w.before args s = true) ∧ KT G s
section RW
variable {p : Program} {l : Launch} {e : Env} {R : Room} {s : State} {m : MethodId} {args : Array Value} {below : List Frame} {meth : Method} {c : Code} {H : Heap} {locs : List Loc} {cells slots : Nat} {Q : State → Prop}
variable {cc : ByteArray} {pc : Nat} {ls : Array Slot} {rest : List Value} {sh : ShT} {φ : Nat → Nat} {M : Mem} {n : Nat} {A : Nat → Prop} {H0 : Heap} {G : GT} {own : String}
theorem r_iald (E : En p s m args c cc own G) (hP : va_P G.1 vwCl (wW sh φ M n) H) {i len : Nat} (hi : i < n) (hs : ∀ r, sh i r = .inl (G.2.1 0, len, .inl r)) {x : Int32} {k : Nat} (hk : x.toNatClampNeg = k) (hin : vp_in x len) (hdg : decode cc pc = .ok (.iaload, 1))
    (kk : W p l e R s m args below meth c H locs cells slots Q (F0 m (pc + 1) ls (.int (M i k) :: rest))) : W p l e R s m args below meth c H locs cells slots Q (F0 m pc ls (.int x :: .ref (φ i) :: rest)) :=
  va_iald E.1 E.2.1 E.2.2.2.2 hP i 0 (cA := G.2.1 0) (n := len) (f := M i) (by rw [wW_get hi, hs]) rfl hin hdg (by rw [hk]; exact kk)
theorem r_iast (E : En p s m args c cc own G) (hD : wD φ n A) (hP : va_P G.1 vwCl (wW sh φ M n) H) (hS : va_S A H0 H locs) {i len : Nat} (hi : i < n) (hs : ∀ r, sh i r = .inl (G.2.1 0, len, .inl r)) {x v : Int32} {k : Nat} (hk : x.toNatClampNeg = k) (hin : vp_in x len) (hdg : decode cc pc = .ok (.iastore, 1))
    (kk : ∀ (H1 : Heap) (locs1 : List Loc), va_P G.1 vwCl (wW sh φ (upd2 M i k v) n) H1 → va_S A H0 H1 locs1 → W p l e R s m args below meth c H1 locs1 cells slots Q (F0 m (pc + 1) ls rest)) : W p l e R s m args below meth c H locs cells slots Q (F0 m pc ls (.int v :: .int x :: .ref (φ i) :: rest)) :=
  va_iast E.1 E.2.1 E.2.2.2.2 hP hD.va hS i 0 (cA := G.2.1 0) (n := len) (f := M i) (by rw [wW_get hi, hs]) rfl hin hdg (fun H1 locs1 hP1 _ hS1 => kk H1 locs1 (by
    rw [hk, wW_set (M' := upd2 M i k v) (by rw [hs, upd2_self]) (fun j hj => upd2_ne M _ _ hj)] at hP1
    exact hP1) hS1)
theorem r_aald (E : En p s m args c cc own G) (hP : va_P G.1 vwCl (wW sh φ M n) H) {i len t0 : Nat} {f : Nat → Nat} {cA : ClassId} {ty : FieldType} (ht : (tysG G)[t0]? = some (cA, ty)) (hty : ty.isReference = true) (hi : i < n) (hs : ∀ r, sh i r = .inl (cA, len, .inr (.inr (.inr (.inr (fun q => if q < len then some (f q) else none)))))) {x : Int32} {k : Nat} (hk : x.toNatClampNeg = k) (hin : vp_in x len) (hdg : decode cc pc = .ok (.aaload, 1))
    (kk : W p l e R s m args below meth c H locs cells slots Q (F0 m (pc + 1) ls (.ref (f k) :: rest))) : W p l e R s m args below meth c H locs cells slots Q (F0 m pc ls (.int x :: .ref (φ i) :: rest)) := by
  have hlt : x.toNatClampNeg < len := Nat.not_le.mp fun q => hin (Or.inr q)
  have hc := hP i _ (wW_get hi)
  rw [hs] at hc
  exact W.aald (v := .ref (f x.toNatClampNeg)) (ty := ty) E.1 E.2.1 hc ((E.2.2.2.2.2 t0 _ ht).1 len (fun j => va_rf (if j < len then some (f j) else none))) hty (fun q => by cases q) (by show ¬ (x < 0 ∨ (arrV _ _ _).slots.size ≤ _); rw [arrV_size]; exact hin) (by show (arrV _ _ _).slots[_]? = _; rw [arrV_read _ _ hlt]; simp only [if_pos hlt]; rfl) rfl rfl hdg (by rw [hk]; exact kk)
theorem r_get (E : En p s m args c cc own G) (hP : va_P G.1 vwCl (wW sh φ M n) H) {ref C : String} {T : u_T} {N ci index i : Nat} (hin : ∀ w ∈ u_ws C T N, w ∈ GW) (hc : vwCl[ci]? = some (C, T, N)) (k : Nat) (hk : k < N) (hlink : Cond.fieldLink own index ref (T k).2.1 (T k).2.2.1 ∈ GW) (hsame : (T k).1 = ref) {fs : (Nat → Int32) → List Value} (hi : i < n) (hs : ∀ r, sh i r = .inr (ci, fs r)) {v : Value} (hv : (fs (M i))[k]? = some v) (hdg : decode cc pc = .ok (.getfield index, 3))
    (kk : W p l e R s m args below meth c H locs cells slots Q (F0 m (pc + 3) ls (v :: rest))) : W p l e R s m args below meth c H locs cells slots Q (F0 m pc ls (.ref (φ i) :: rest)) :=
  va_get E.1 E.2.1 E.2.2.2.1 hin E.2.2.1 E.2.2.2.2 hP i (by rw [wW_get hi, hs]) hc k hk (E.2.2.2.1 _ hlink) (fun x h => by rw [← hsame]; exact h) hv hdg kk
theorem r_put (E : En p s m args c cc own G) (hD : wD φ n A) (hP : va_P G.1 vwCl (wW sh φ M n) H) (hS : va_S A H0 H locs) {ref C : String} {T : u_T} {N ci index i : Nat} (hin : ∀ w ∈ u_ws C T N, w ∈ GW) (ty0 : Nat → FieldType) (hty : ∀ k, k < N → parseFieldDescriptor (T k).2.2.1 = some (ty0 k)) (hnm : ∀ a, a < N → ∀ b, b < N → a ≠ b → (T a).2.1 ≠ (T b).2.1) (hc : vwCl[ci]? = some (C, T, N)) (k : Nat) (hk : k < N) (hlink : Cond.fieldLink own index ref (T k).2.1 (T k).2.2.1 ∈ GW) (hsame : (T k).1 = ref) (hfin : (T k).2.2.2 = false) {fs : (Nat → Int32) → List Value} (hi : i < n) (hs : ∀ r, sh i r = .inr (ci, fs r)) {v : Int32} (hn : narrow (ty0 k) (.int v) = .int v) (hfit : fits (ty0 k) (.int v) = true) (hl : k < (fs (M i)).length) (hu : (fs (M i)).set k (.int v) = fs (upd (M i) k v)) (hdg : decode cc pc = .ok (.putfield index, 3))
    (kk : ∀ (H1 : Heap) (locs1 : List Loc), va_P G.1 vwCl (wW sh φ (upd2 M i k v) n) H1 → va_S A H0 H1 locs1 → W p l e R s m args below meth c H1 locs1 cells slots Q (F0 m (pc + 3) ls rest)) : W p l e R s m args below meth c H locs cells slots Q (F0 m pc ls (.int v :: .ref (φ i) :: rest)) :=
  va_put E.1 E.2.1 E.2.2.2.1 hin ty0 hty hnm E.2.2.1 E.2.2.2.2 hP hD.va hS i (by rw [wW_get hi, hs]) hc k hk (E.2.2.2.1 _ hlink) (fun x h => by rw [← hsame]; exact h) hfin (hty k hk) hn hfit hl hdg (fun H1 locs1 hP1 _ hS1 => kk H1 locs1 (by
    rw [wW_set (M' := upd2 M i k v) (by rw [hs, upd2_self, hu]) (fun j hj => upd2_ne M _ _ hj)] at hP1
    exact hP1) hS1)
/-- what a call needs of the words -/
def CW (own : String) (index : Nat) (y : MethodName) (b : ByteArray) (nL n : Nat) (ret : Option FieldType) : Prop :=
  Cond.code y b nL ret ∈ GW ∧ Cond.initialized y.cls ∈ GW ∧ Cond.methodLink own index y ∈ GW ∧ y.cls ≠ "java/lang/invoke/MethodHandle" ∧ y.cls ≠ "java/lang/invoke/VarHandle" ∧ (parseMethodDescriptor y.desc).map (fun d => d.parameters.length) = some n
theorem CW.B {y : MethodName} {b : ByteArray} {nL nA index : Nat} {ret : Option FieldType} {rm : Room} (h : CW own index y b nL nA ret) (hts : ∀ w ∈ GW, w.before args s = true) (hR : rm.frames + 1 ≤ R.frames ∧ 8 + (nL + 11) + rm.locals ≤ R.locals) : CallB R s args own index y b nL ret (wm y b nL ret) rm rm.cells rm.slots nA :=
  callB_of nA hts (gi_wm (fun _ h => h) h.1) rfl rfl rfl (hts _ h.2.1) (hts _ h.2.2.1) ⟨h.2.2.2.1, h.2.2.2.2.1, h.2.2.2.2.2⟩ hR
/-- behind a call -/
theorem r_call {sh' : ShT} {n' : Nat} {r : Option Value} {M' : Mem} {mc ms : Nat} {A0 : Nat → Prop} {a : Array Value} {st0 : List Value} (hr : va_Run p l e R s m args below meth c H locs cells slots mc ms (F0 m pc ls st0) rest (QQ r (WB sh' φ M' n' G) (wA φ n H.size) a) (wA φ n H.size)) (hS : va_S A0 H0 H locs) (hA : ∀ q, wA φ n H.size q → A0 q)
    (kk : ∀ (H1 : Heap) (locs1 : List Loc), va_P G.1 vwCl (wW sh' φ M' n') H1 → H.size ≤ H1.size → (∀ q : Nat, q < H.size → ¬ wA φ n H.size q → H1[q]? = H[q]?) → va_S A0 H0 H1 locs1 → W p l e R s m args below meth c H1 locs1 (cells + mc) (slots + ms) Q (F0 m (pc + 3) ls (r.toList ++ rest))) : W p l e R s m args below meth c H locs cells slots Q (F0 m pc ls st0) := by
  intro T hT X
  obtain ⟨v, st₀, t, T', L, h0, X', hL, e1, e2, ⟨⟨hv, hb⟩, hz, hk⟩, st⟩ := hr T hT X
  cases hv
  rw [h0] at hz hk
  obtain ⟨t2, a1, b1⟩ := kk T'.heap (locs ++ L) (by rw [e1]; exact hb.1) (by rw [e1]; exact hz) (fun q h1 h2 => by rw [e1]; exact hk q h1 h2)
    ⟨Nat.le_trans hS.1 (by rw [e1]; exact hz), fun q h1 h2 => by rw [e1, hk q (Nat.lt_of_lt_of_le h1 hS.1) (fun z => h2 (hA q z))]; exact hS.2.1 q h1 h2, fun q hq => by
      rcases List.mem_append.mp hq with h | h
      · exact hS.2.2 q h
      · exact hA _ (hL q h)⟩ T' rfl X'
  exact ⟨t2, st t2 a1, b1⟩
section CALLS
variable {sh' : ShT} {n' : Nat} {r : Option Value} {M' : Mem} {A0 : Nat → Prop} {y : MethodName} {b : ByteArray} {nL nLc index : Nat} {ret : Option FieldType} {rm : Room} {a : Nat} {As : List Value}
/-- what is at hand at a call: the surroundings, what the world was at the entry, and what it is now -/
def At (p : Program) (s : State) (m : MethodId) (args : Array Value) (c : Code) (cc : ByteArray) (own : String) (G : GT) (A0 : Nat → Prop) (φ : Nat → Nat) (n nLc : Nat) : Prop :=
  En p s m args c cc own G ∧ c.maxLocals = nLc ∧ RO G A0 s s.heap ∧ wD φ n A0 ∧ (∀ q, s.heap.size ≤ q → A0 q)
theorem At.B (X : At p s m args c cc own G A0 φ n nLc) (hP : va_P G.1 vwCl (wW sh φ M n) H) (hS : va_S A0 s.heap H locs) : ∀ U : State, U.heap = H → s.WarmedH U.vm → WB sh φ M n G U :=
  fun _ hU hW => WB.of hP X.1.2.2.2.2 X.2.2.1 hS (X.2.2.2.1.sub fun q hq => X.2.2.2.2 q (Nat.le_trans hS.1 hq)) hU hW
theorem At.fr (X : At p s m args c cc own G A0 φ n nLc) (hS : va_S A0 s.heap H locs) : ∀ q, wA φ n H.size q → A0 q := X.2.2.2.1.sub fun q hq => X.2.2.2.2 q (Nat.le_trans hS.1 hq)
theorem c_V (X : At p s m args c cc own G A0 φ n nLc) (hlz : ls.size = nLc) (hM : CT l y b nL ret rm (.ref (φ a) :: As) (WB sh φ M n G) r (WB sh' φ M' n' G) φ n) (w : CW own index y b nL As.length ret) (wi : Cond.instanceMethod y ∈ GW) (ws : Cond.selects y.cls y y ∈ GW) (hR : rm.frames + 1 ≤ R.frames ∧ 8 + (nL + 11) + rm.locals ≤ R.locals)
    (hP : va_P G.1 vwCl (wW sh φ M n) H) (hS : va_S A0 s.heap H locs) {ci : Nat} {q : vw_C} {fs : (Nat → Int32) → List Value} (ha : a < n) (hs : ∀ r, sh a r = .inr (ci, fs r)) (hci : vwCl[ci]? = some q) (hq : q.1 = y.cls) (hrm : (rest.map fun v => v.category).sum ≤ 8) (hdg : decode cc pc = .ok (.invokevirtual index, 3)) (hf : cells + rm.cells ≤ R.cells ∧ slots + rm.slots ≤ R.slots)
    (kk : ∀ (H1 : Heap) (locs1 : List Loc), va_P G.1 vwCl (wW sh' φ M' n') H1 → va_S A0 s.heap H1 locs1 → W p l e R s m args below meth c H1 locs1 (cells + rm.cells) (slots + rm.slots) Q (F0 m (pc + 3) ls (r.toList ++ rest))) : W p l e R s m args below meth c H locs cells slots Q (F0 m pc ls (As.reverse ++ .ref (φ a) :: rest)) := by
  have hB := X.B hP hS
  refine r_call (va_runV (C := y.cls) (b := φ a) (As := As) (rest := rest) ⟨X.1.1, X.1.2.1, X.2.1, X.1.2.2.1, X.1.2.2.2.1⟩ (hM H.size) ⟨w.B X.1.2.2.2.1 hR, X.1.2.2.2.1 _ wi, X.1.2.2.2.1 _ ws⟩ ⟨fun _ U g mk h => ⟨h.1, h.2.1, h.2.2.blind U g mk _⟩, ?_, fun U hU hW => ⟨rfl, by rw [hU], hB U hU hW⟩⟩ rfl rfl hlz rfl (lv_room hrm) hdg hf) hS (X.fr hS) (fun H1 locs1 h1 _ _ h4 => kk H1 locs1 h1 h4)
  have h0 := va_recv (q := q) (fs := fs (M a)) X.1.2.2.2.2 hP hci (q0 := a) (a := φ a) (by rw [wW_get ha, hs])
  rw [hq] at h0
  exact h0
theorem c_S (X : At p s m args c cc own G A0 φ n nLc) (hlz : ls.size = nLc) (hM : CT l y b nL ret rm As (WB sh φ M n G) r (WB sh' φ M' n' G) φ n) (w : CW own index y b nL As.length ret) (wi : Cond.static y ∈ GW) (hR : rm.frames + 1 ≤ R.frames ∧ 8 + (nL + 11) + rm.locals ≤ R.locals)
    (hP : va_P G.1 vwCl (wW sh φ M n) H) (hS : va_S A0 s.heap H locs) (hrm : (rest.map fun v => v.category).sum ≤ 8) (hdg : decode cc pc = .ok (.invokestatic index, 3)) (hf : cells + rm.cells ≤ R.cells ∧ slots + rm.slots ≤ R.slots)
    (kk : ∀ (H1 : Heap) (locs1 : List Loc), va_P G.1 vwCl (wW sh' φ M' n') H1 → va_S A0 s.heap H1 locs1 → W p l e R s m args below meth c H1 locs1 (cells + rm.cells) (slots + rm.slots) Q (F0 m (pc + 3) ls (r.toList ++ rest))) : W p l e R s m args below meth c H locs cells slots Q (F0 m pc ls (As.reverse ++ rest)) := by
  have hB := X.B hP hS
  exact r_call (va_runS (As := As) (rest := rest) ⟨X.1.1, X.1.2.1, X.2.1, X.1.2.2.1, X.1.2.2.2.1⟩ (hM H.size) ⟨w.B X.1.2.2.2.1 hR, X.1.2.2.2.1 _ wi⟩ ⟨fun _ U g mk h => ⟨h.1, h.2.1, h.2.2.blind U g mk _⟩, fun U hU hW => ⟨rfl, by rw [hU], hB U hU hW⟩⟩ rfl rfl hlz rfl (lv_room hrm) hdg hf) hS (X.fr hS) (fun H1 locs1 h1 _ _ h4 => kk H1 locs1 h1 h4)
end CALLS
/-- a walk's begin: from the world at the entry to the frame at pc 0 -/
theorem r_start {y : MethodName} {b : ByteArray} {nL : Nat} {ret : Option FieldType} {rm : Room} {av : List Value} {r : Option Value} {B' : State → Prop} (hy : plainFor y = true) (hlen : (lg_sl av).length ≤ nL) (hI : wI φ n)
    (body : ∀ (p : Program) (e : Env) (s : State) (m : MethodId) (args : Array Value) (below : List Frame) (meth : Method) (c : Code) (ls : Array Slot), At p s m args c b y.cls G (wA φ n s.heap.size) φ n nL → meth.sig.returnType = ret → meth.locks = false → va_P G.1 vwCl (wW sh φ M n) s.heap → lv_has ls nL (lv_args 0 av) →
      W p l e rm s m args below meth c s.heap [] 0 0 (MQ below (QQ r B' (wA φ n s.heap.size)) args s rm.cells rm.slots (wA φ n s.heap.size)) (F0 m 0 ls [])) : CT l y b nL ret rm av (WB sh φ M n G) r B' φ n := by
  intro sz
  refine va_MetF (cc := b) (maxL := nL) (ret := ret) hy rfl ?_
  intro p e s m args below meth c s₁ B hml hv
  obtain ⟨rfl, rfl, hB⟩ := hv
  have hts := atoms_spec (ws := wm y b nL ret) B.pre
  rw [lg_entry_eq]
  exact body p e s m _ below meth c _ ⟨⟨B.exec, B.bytes, findClass_of_methodNamed B.named, fun w hw => hts w (List.mem_cons_of_mem _ hw), hB.2.1⟩, hml, hB.2.2, wD_A hI, wA_ge⟩ B.returns B.notSynchronized hB.1 (lv_entry av hlen)
/-- a walk's end -/
theorem r_end {nLc : Nat} {r : Option Value} {a : Array Value} (X : At p s m args c cc own G (wA φ n s.heap.size) φ n nLc) (hP : va_P G.1 vwCl (wW sh φ M n) H) (hS : va_S (wA φ n s.heap.size) s.heap H locs) : ∀ t : State, t.heap = H → s.WarmedH t.vm → QQ r (WB sh φ M n G) (wA φ n s.heap.size) a s (.returned r) t :=
  fun t ht hW => ⟨⟨rfl, X.B hP hS t ht hW⟩, hS.F ht⟩
end RW
theorem og {α : Type} {c : Prop} [Decidable c] {a : Option α} {r : α} (h : (if c then a else none) = some r) : c ∧ a = some r := by
  by_cases hc : c
  · rw [if_pos hc] at h; exact ⟨hc, h⟩
  · rw [if_neg hc] at h; cases h
theorem ob {α β : Type} {a : Option α} {f : α → Option β} {r : β} (h : a.bind f = some r) : ∃ x, a = some x ∧ f x = some r := Option.bind_eq_some_iff.mp h
