/-! ===== rows of rows: 'multianewarray' of two counts, and the word that an array of arrays has been made before: proved here, from the model's own text of the instruction ===== -/
section VGA
variable {s U : State} {t : FieldType}
/-- what the word 'arrayOver' of an array type says -/
theorem vg_made {A : Array Value} (h : (Cond.arrayOver (.array t)).before A s = true) : ∃ (cy cA : ClassId) (kA : Class), s.vm.findClass (FieldType.array t).toString = some cy ∧ s.vm.findClass ("[" ++ (FieldType.array t).toString) = some cA ∧ s.vm.classes[cA]? = some kA ∧ kA.kind = .array cy (.array t) := by
  have h0 : (Cond.arrayOver (.array t)).value A s none s [] = some true := eq_of_beq h
  simp only [Cond.value] at h0
  obtain ⟨cy, h1, h2⟩ := Option.bind_eq_some_iff.mp h0
  obtain ⟨cA, h3, h4⟩ := Option.bind_eq_some_iff.mp h2
  obtain ⟨kA, h5, h6⟩ := Option.map_eq_some_iff.mp h4
  obtain ⟨hlt, hcy, -⟩ := Array.findIdx?_eq_some_iff_getElem.mp h3
  have hg : s.vm.classes[cA] = kA := by
    have h7 := Array.getElem?_eq_getElem hlt
    rw [h5] at h7
    exact (Option.some.inj h7).symm
  rw [hg] at hcy
  rcases hk : kA.kind with _ | ⟨c0, t0⟩ | _
  · rw [hk] at h6; cases h6
  · rw [hk] at hcy h6
    have e0 : c0 = cy := eq_of_beq hcy
    have e1 := Bool.and_eq_true_iff.mp h6
    have e2 : t0 = .array t := of_decide_eq_true e1.1
    subst e0
    subst e2
    exact ⟨_, _, kA, h1, of_decide_eq_true e1.2, h5, hk⟩
  · rw [hk] at h6; cases h6
/-- it says the same of alike tables -/
theorem vg_alike (hal : s.vm.Alike U.vm) (A : Array Value) : (Cond.arrayOver (.array t)).before A U = (Cond.arrayOver (.array t)).before A s := by
  show ((Cond.arrayOver (.array t)).value A U none U [] == some true) = ((Cond.arrayOver (.array t)).value A s none s [] == some true)
  refine congrArg (· == some true) ?_
  simp only [Cond.value, hal.findClass]
  refine congrArg (Option.bind _) (funext fun cy => ?_)
  rw [hal.findIdx?_eqK _ (fun _ => rfl)]
  refine congrArg (Option.bind _) (funext fun cA => ?_)
  rcases h3 : s.vm.classes[cA]? with _ | kA
  · have h4 : s.vm.classes.size ≤ cA := Array.getElem?_eq_none_iff.mp h3
    have h5 : U.vm.classes[cA]? = none := Array.getElem?_eq_none_iff.mpr (by rw [hal.2.1]; exact h4)
    rw [h5]
  · obtain ⟨kU, h4, h5⟩ := hal.2.2 _ _ h3
    have h6 : kU.kind = kA.kind := by rw [h5]
    rw [h4]
    simp only [Option.map_some, h6]
end VGA
section VGB
variable {T : State} {cA cy : ClassId} {n k i : Nat} {dv : Value}
/-- behind T's heap: an array of n references, the first i of them to the i arrays that lie behind it, each of k values dv -/
def vg_F (T : State) (cA cy : ClassId) (n k : Nat) (dv : Value) (i : Nat) : State := { T with heap := T.heap.push (arrV cA n fun j => if j < i then .ref (T.heap.size + 1 + j) else .null) ++ Array.replicate i (arrV cy k fun _ => dv), slotsUsed := T.slotsUsed + n + i * k }
theorem vg_size : (vg_F T cA cy n k dv i).heap.size = T.heap.size + 1 + i := by
  show (T.heap.push _ ++ Array.replicate i _).size = _
  rw [Array.size_append, Array.size_push, Array.size_replicate]
theorem vg_used : (vg_F T cA cy n k dv i).slotsUsed = T.slotsUsed + n + i * k := rfl
theorem vg_old {a : Nat} (h : a < T.heap.size) : (vg_F T cA cy n k dv i).heap[a]? = T.heap[a]? := by
  show (T.heap.push _ ++ Array.replicate i _)[a]? = _
  rw [Array.getElem?_append_left (by rw [Array.size_push]; omega), Array.getElem?_push, if_neg (by omega)]
theorem vg_top : (vg_F T cA cy n k dv i).heap[T.heap.size]? = some (arrV cA n fun j => if j < i then .ref (T.heap.size + 1 + j) else .null) := by
  show (T.heap.push _ ++ Array.replicate i _)[T.heap.size]? = _
  rw [Array.getElem?_append_left (by rw [Array.size_push]; omega), Array.getElem?_push, if_pos rfl]
theorem vg_row {j : Nat} (h : j < i) : (vg_F T cA cy n k dv i).heap[T.heap.size + 1 + j]? = some (arrV cy k fun _ => dv) := by
  show (T.heap.push _ ++ Array.replicate i _)[T.heap.size + 1 + j]? = _
  rw [Array.getElem?_append_right (by rw [Array.size_push]; omega), Array.size_push, show T.heap.size + 1 + j - (T.heap.size + 1) = j by omega, Array.getElem?_replicate, if_pos h]
theorem vg_end {a : Nat} (h : T.heap.size + 1 + i ≤ a) : (vg_F T cA cy n k dv i).heap[a]? = none := Array.getElem?_eq_none_iff.mpr (by rw [vg_size]; exact h)
theorem vg_heap {h : Heap} (h1 : h.size = T.heap.size + 1 + i) (h2 : ∀ a, a < T.heap.size → h[a]? = T.heap[a]?) (h3 : h[T.heap.size]? = some (arrV cA n fun j => if j < i then .ref (T.heap.size + 1 + j) else .null)) (h4 : ∀ j, j < i → h[T.heap.size + 1 + j]? = some (arrV cy k fun _ => dv)) : h = (vg_F T cA cy n k dv i).heap := by
  apply Array.ext_getElem?
  intro a
  by_cases a1 : a < T.heap.size
  · rw [h2 a a1, vg_old a1]
  · by_cases a2 : a = T.heap.size
    · rw [a2, h3, vg_top]
    · by_cases a3 : a < T.heap.size + 1 + i
      · have h5 := h4 (a - (T.heap.size + 1)) (by omega)
        have h6 := vg_row (T := T) (cA := cA) (cy := cy) (n := n) (k := k) (dv := dv) (i := i) (j := a - (T.heap.size + 1)) (by omega)
        rw [show T.heap.size + 1 + (a - (T.heap.size + 1)) = a by omega] at h5 h6
        rw [h5, h6]
      · rw [vg_end (by omega), Array.getElem?_eq_none_iff.mpr (by omega)]
theorem vg_zero : T.pushCell (arrV cA n fun _ => .null) = vg_F T cA cy n k dv 0 := by
  have e1 : (T.pushCell (arrV cA n fun _ => .null)).heap = (vg_F T cA cy n k dv 0).heap := vg_heap (by show (T.heap.push _).size = _; rw [Array.size_push]) (fun a h => State.heap_pushCell_of_lt _ _ h) (State.heap_pushCell_size _ _) (fun j h => absurd h (Nat.not_lt_zero j))
  have e2 : (T.pushCell (arrV cA n fun _ => .null)).slotsUsed = T.slotsUsed + n + 0 * k := by
    show T.slotsUsed + (arrV cA n fun _ => .null).slots.size = _
    rw [arrV_size]
    omega
  show ({ T with heap := (T.pushCell (arrV cA n fun _ => .null)).heap, slotsUsed := (T.pushCell (arrV cA n fun _ => .null)).slotsUsed } : State) = _
  rw [e1, e2]
  rfl
theorem vg_fill : (arrV cA n fun j => if j < i then Value.ref (T.heap.size + 1 + j) else .null).setSlot i (.ref (T.heap.size + 1 + i)) = arrV cA n fun j => if j < i + 1 then .ref (T.heap.size + 1 + j) else .null := by
  rw [arrV_store]
  refine congrArg (arrV cA n) (funext fun j => ?_)
  unfold updV
  by_cases h : j = i
  · subst h
    rw [if_pos rfl, if_pos (by omega)]
  · rw [if_neg h]
    show (if j < i then Value.ref (T.heap.size + 1 + j) else Value.null) = _
    by_cases h1 : j < i
    · rw [if_pos h1, if_pos (by omega)]
    · rw [if_neg h1, if_neg (by omega)]
theorem vg_at : ((vg_F T cA cy n k dv i).pushCell (arrV cy k fun _ => dv)).heap[T.heap.size]? = some (arrV cA n fun j => if j < i then .ref (T.heap.size + 1 + j) else .null) := by
  have h : T.heap.size < (vg_F T cA cy n k dv i).heap.size := by
    rw [vg_size]
    omega
  rw [State.heap_pushCell_of_lt _ _ h]
  exact vg_top
theorem vg_succ : ((vg_F T cA cy n k dv i).pushCell (arrV cy k fun _ => dv)).setCell T.heap.size ((arrV cA n fun j => if j < i then Value.ref (T.heap.size + 1 + j) else .null).setSlot i (.ref (T.heap.size + 1 + i))) = vg_F T cA cy n k dv (i + 1) := by
  rw [vg_fill]
  generalize hV : ((vg_F T cA cy n k dv i).pushCell (arrV cy k fun _ => dv)).setCell T.heap.size (arrV cA n fun j => if j < i + 1 then Value.ref (T.heap.size + 1 + j) else .null) = V
  have e1 : V.heap = (vg_F T cA cy n k dv (i + 1)).heap := by
    rw [← hV]
    refine vg_heap ?_ (fun a h => ?_) (State.heap_setCell_self vg_at) (fun j h => ?_)
    · show (((vg_F T cA cy n k dv i).heap.push _).setIfInBounds _ _).size = _
      rw [Array.size_setIfInBounds, Array.size_push, vg_size]
      omega
    · have h1 : a < (vg_F T cA cy n k dv i).heap.size := by
        rw [vg_size]
        omega
      rw [State.heap_setCell_other (show T.heap.size ≠ a by omega), State.heap_pushCell_of_lt _ _ h1]
      exact vg_old h
    · rw [State.heap_setCell_other (show T.heap.size ≠ T.heap.size + 1 + j by omega)]
      by_cases h1 : j < i
      · have h2 : T.heap.size + 1 + j < (vg_F T cA cy n k dv i).heap.size := by
          rw [vg_size]
          omega
        rw [State.heap_pushCell_of_lt _ _ h2]
        exact vg_row h1
      · have h2 : T.heap.size + 1 + j = (vg_F T cA cy n k dv i).heap.size := by
          rw [vg_size]
          omega
        rw [h2]
        exact State.heap_pushCell_size _ _
  have e2 : V.slotsUsed = T.slotsUsed + n + (i + 1) * k := by
    rw [← hV]
    show T.slotsUsed + n + i * k + (arrV cy k fun _ => dv).slots.size = _
    rw [arrV_size, Nat.succ_mul]
    omega
  have e3 : V = { T with heap := V.heap, slotsUsed := V.slotsUsed } := by
    rw [← hV]
    rfl
  rw [e3, e1, e2]
  rfl
end VGB
section VGC
variable {p : Program} {l : Launch} {e : Env} {R : Room} {s : State} {m : MethodId} {args : Array Value} {below : List Frame} {meth : Method} {c : Code} {T : State} {locs : List Loc} {cells slots : Nat}
theorem vg_stand (X : Stand p l e R s m args below meth c T locs cells slots) (cA cy : ClassId) (n k : Nat) (dv : Value) : ∀ i : Nat, Stand p l e R s m args below meth c (vg_F T cA cy n k dv i) locs (cells + 1 + i) (slots + n + i * k)
  | 0 => by
    have h := X.pushed (arrV cA n fun _ => .null)
    rw [arrV_size, vg_zero (cy := cy) (k := k) (dv := dv)] at h
    rw [Nat.zero_mul]
    exact h
  | i + 1 => by
    have h := (((vg_stand X cA cy n k dv i).pushed (arrV cy k fun _ => dv)).stored vg_at i (.ref (T.heap.size + 1 + i))).dropFresh (fun x hx => by
      rw [List.mem_singleton.mp hx]
      exact X.heapGrown)
    rw [vg_succ, arrV_size] at h
    rw [Nat.succ_mul, ← Nat.add_assoc (slots + n), ← Nat.add_assoc (cells + 1)]
    exact h
theorem vg_fits {t : FieldType} (h : t.isReference = true) : fits t .null = true ∧ ∀ a : Addr, fits t (.ref a) = true := by
  cases t <;> first | exact ⟨rfl, fun _ => rfl⟩ | cases h
/-- the inner arrays, one by one -/
theorem vg_rounds {E : CtlPost} {d : Bool} {acts : List Action} {cA cy cc : ClassId} {kA kC : Class} {ty : FieldType} {k : Int32} {g : JFrame} {n : Nat} (hA : T.vm.classes[cA]? = some kA) (hkA : kA.kind = .array cy (.array ty)) (hC : T.vm.classes[cy]? = some kC) (hkC : kC.kind = .array cc ty) (hk : ¬ k < 0)
    (hl : ¬ k.toNatClampNeg > e.platform.arrayLengthLimit) (hh : ¬ k.toNatClampNeg * componentBytes ty > e.platform.maxHeapBytes) (hdf : fits ty (defaultValue ty) = true) (hc : T.heap.size + (1 + n) ≤ e.platform.maxCells) (hs : T.slotsUsed + (n + n * k.toNatClampNeg) ≤ e.platform.maxSlots)
    {Q : PUnit → Pre} (hq : ∀ d' acts', Q PUnit.unit d' acts' ((vg_F T cA cy n k.toNatClampNeg (defaultValue ty) n).setTop g)) :
    wp (forIn (List.range' 0 n 1) PUnit.unit (fun (i : Nat) (_ : PUnit) => (do let r ← multianewarray.make cy [k]; writeLoc T.heap.size i (.ref r); Pure.pure (ForInStep.yield PUnit.unit) : Sem (ForInStep PUnit)))) Q E e d acts ((vg_F T cA cy n k.toNatClampNeg (defaultValue ty) 0).setTop g) := by
  refine wp_forIn_inv (fun todo V => ∃ i : Nat, i + todo.length = n ∧ todo = List.range' i todo.length ∧ V = (vg_F T cA cy n k.toNatClampNeg (defaultValue ty) i).setTop g) _ _ ⟨0, by simp, by simp, rfl⟩ ?_ ?_
  · rintro x todo V d' acts' Q' ⟨i, hi, hl', rfl⟩ hnext
    rw [List.length_cons] at hi hl'
    rw [List.range'_succ] at hl'
    obtain ⟨rfl, ht⟩ := List.cons.inj hl'
    have hin : x < n := by omega
    have hx : x * k.toNatClampNeg + k.toNatClampNeg ≤ n * k.toNatClampNeg := by
      rw [← Nat.succ_mul]
      exact Nat.mul_le_mul_right _ hin
    rw [multianewarray.make]
    simp only [wp_bind', W.ite, hk, if_false, wp_pure', W.theClass, State.vm_setTop]
    refine ⟨kC, hC, ?_⟩
    simp only [hkC]
    have hz : ((vg_F T cA cy n k.toNatClampNeg (defaultValue ty) x).setTop g).heap.size = T.heap.size + 1 + x := vg_size
    have hu : ((vg_F T cA cy n k.toNatClampNeg (defaultValue ty) x).setTop g).slotsUsed = T.slotsUsed + n + x * k.toNatClampNeg := rfl
    refine W.newArray_of (k := kC) (comp := cc) (type := ty) hC hkC hl hh (by omega) (by omega) hdf (fun acts2 => ?_)
    simp only [wp_bind', W.writeLoc, wp_pure']
    rw [arrV_new, State.pushCell_setTop]
    refine ⟨_, vg_at, by simp [arrV], by rw [arrV_size]; exact hin, ?_, hnext _ _ _ ⟨x + 1, by omega, ht, ?_⟩⟩
    · show State.fitsSlot _ cA .none x (.ref _) = true
      have hv : (vg_F T cA cy n k.toNatClampNeg (defaultValue ty) x).vm.classes[cA]? = some kA := hA
      simp [State.fitsSlot, State.slotType?, hv, hkA, (vg_fits (t := .array ty) rfl).2]
    · show (((vg_F T cA cy n k.toNatClampNeg (defaultValue ty) x).pushCell _).setTop g).setCell _ _ = _
      rw [State.setCell_setTop, State.heap_setTop, vg_size, vg_succ]
  · rintro V d' acts' ⟨i, hi, -, rfl⟩
    have hi' : i = n := hi
    subst hi'
    exact hq _ _
/-- 'multianewarray' of two counts, in the shape of the walk -/
theorem vg_mna (X : Stand p l e R s m args below meth c T locs cells slots) (hexec : p.tables.exec = Jvm.exec) {own : String} {index : Nat} {ty : FieldType} {cy : ClassId} (hown : s.vm.findClass own = some m.cls) (hclink : (Cond.classLink own index ("[" ++ (FieldType.array ty).toString)).before args s = true)
    (hover : (Cond.arrayOver (.array ty)).before args s = true) (harr : (Cond.arrayClass ty).before args s = true) (hcy : s.vm.findClass (FieldType.array ty).toString = some cy) {g : JFrame} (hg : g.method = m) (hdg : decode c.code g.pc = .ok (.multianewarray index 2, 4)) {n k : Int32} {rest : List Value} (hst : g.stack = .int k :: .int n :: rest)
    (hn : ¬ n < 0) (hk : ¬ k < 0) (hb1 : n.toNatClampNeg * 4 ≤ 536870912) (hb2 : k.toNatClampNeg * componentBytes ty ≤ 536870912) (hb3 : k.toNatClampNeg ≤ 536870912) (hdf : fits ty (defaultValue ty) = true) (hcells : cells + (1 + n.toNatClampNeg) ≤ R.cells) (hslots : slots + (n.toNatClampNeg + n.toNatClampNeg * k.toNatClampNeg) ≤ R.slots) :
    ∃ (vm₁ : Vm) (cA : ClassId), ArrOfT s cA (.array ty) ∧ s.vm.findClass ("[" ++ (FieldType.array ty).toString) = some cA ∧
      Stand p l e R s m args below meth c (vg_F (T.setVm vm₁) cA cy n.toNatClampNeg k.toNatClampNeg (defaultValue ty) n.toNatClampNeg) locs (cells + 1 + n.toNatClampNeg) (slots + n.toNatClampNeg + n.toNatClampNeg * k.toNatClampNeg) ∧
      ∀ target, Steps p.tables e below ((vg_F (T.setVm vm₁) cA cy n.toNatClampNeg k.toNatClampNeg (defaultValue ty) n.toNatClampNeg).setTop { g with pc := g.pc + 4, stack := .ref T.heap.size :: rest }) target → Steps p.tables e below (T.setTop g) target := by
  subst hg
  obtain ⟨cy', cA, kA, hcy', hfA, hkA, hkindA⟩ := vg_made hover
  cases hcy'.symm.trans hcy
  obtain ⟨cC, kC, cc, hcC, hkC, hkindC⟩ := Cond.arrayClass_spec harr
  have eC : some cC = some cy := hcC.symm.trans hcy
  cases eC
  obtain ⟨cl, hfl, hcl⟩ := Cond.classLink_spec hown hclink e.platform (by rw [X.admits.platform])
  cases hfA.symm.trans hfl
  obtain ⟨hg₁, hW, hready⟩ := State.classEntry (e := e) X.warmed hcl
  generalize T.vm.noted g.method.cls index (.cls cA) = vm₁ at hg₁ hW hready
  have X₁ := X.noted hW
  have X₂ := vg_stand X₁ cA cy n.toNatClampNeg k.toNatClampNeg (defaultValue ty) n.toNatClampNeg
  refine ⟨vm₁, cA, fun N z => ⟨(fun q hq => by cases hq), kA, hkA, cy, hkindA⟩, hfA, X₂, fun target hrest => ?_⟩
  obtain ⟨kA₁, hkA₁, heA⟩ := hW.alike.2.2 _ _ hkA
  obtain ⟨kC₁, hkC₁, heC⟩ := hW.alike.2.2 _ _ hkC
  have hkindA₁ : kA₁.kind = .array cy (.array ty) := (congrArg Class.kind heA).trans hkindA
  have hkindC₁ : kC₁.kind = .array cc ty := (congrArg Class.kind heC).trans hkindC
  obtain ⟨hr1, hr2⟩ := X.roomAbove hcells hslots
  have hl1 : ¬ n.toNatClampNeg > e.platform.arrayLengthLimit := by rw [Launch.admits_arrayLengthLimit X.admits]; omega
  have hl2 : ¬ k.toNatClampNeg > e.platform.arrayLengthLimit := by rw [Launch.admits_arrayLengthLimit X.admits]; omega
  have hh1 : ¬ n.toNatClampNeg * componentBytes (.array ty) > e.platform.maxHeapBytes := by
    rw [Launch.admits_maxHeapBytes X.admits, show componentBytes (.array ty) = 4 from rfl]
    omega
  have hh2 : ¬ k.toNatClampNeg * componentBytes ty > e.platform.maxHeapBytes := by rw [Launch.admits_maxHeapBytes X.admits]; omega
  jvm_step X.here [hexec, hdg]
  simp only [multianewarray.sem, wp_bind', W.resolveClassAt_links (State.method?_setTop g X.here.top) hg₁]
  refine (W.popN 2).mpr ?_
  rw [if_neg (by decide)]
  refine ⟨g, State.topJava?_setTop' (s := T.setVm vm₁) g X.here.top, [.int n, .int k], rest, rfl, hst, ?_⟩
  simp only [List.mapM_cons, List.mapM_nil, wp_bind', wp_pure']
  rw [multianewarray.make]
  simp only [wp_bind', W.ite, hn, if_false, wp_pure', W.theClass]
  refine ⟨kA₁, hkA₁, ?_⟩
  simp only [hkindA₁]
  have hfind : List.find? (fun x => decide (x < 0)) [k] = none := by simp [hk]
  simp only [hfind, ite_self, wp_bind']
  have hz : (T.setVm vm₁).heap.size = T.heap.size := rfl
  have hu : (T.setVm vm₁).slotsUsed = T.slotsUsed := rfl
  have eS : ((T.setTop g).setVm vm₁).setTop { g with stack := rest } = (T.setVm vm₁).setTop { g with stack := rest } := by rw [State.setVm_setTop, State.setTop_setTop]
  rw [eS]
  refine W.newArray_of (k := kA₁) (comp := cy) (type := .array ty) hkA₁ hkindA₁ hl1 hh1 (by rw [State.heap_setTop, hz]; omega) (by show (T.setVm vm₁).slotsUsed + _ ≤ _; rw [hu]; omega) (vg_fits (t := .array ty) rfl).1 (fun acts2 => ?_)
  rw [arrV_new, State.pushCell_setTop, vg_zero (cy := cy) (k := k.toNatClampNeg) (dv := defaultValue ty), Std.Legacy.Range.forIn_eq_forIn_range', show ([:n.toNatClampNeg] : Std.Legacy.Range).size = n.toNatClampNeg by simp [Std.Legacy.Range.size], wp_bind', State.heap_setTop]
  refine vg_rounds (T := T.setVm vm₁) (n := n.toNatClampNeg) hkA₁ hkindA₁ hkC₁ hkindC₁ hk hl2 hh2 hdf (by rw [hz]; exact hr1) (by rw [hu]; exact hr2) (fun d' acts' => ?_)
  simp only [wp_bind', W.mark, W.pushRef, wp_pure', State.topJava?_setTop' _ X₂.here.top, Option.some.injEq, exists_eq_left', State.setTop_setTop, State.heap_setTop]
  intro acts
  rw [hz]
  simp [jvm, X₂.here.top]
  exact hrest
end VGC
