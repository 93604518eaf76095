def va_AOA (ty : FieldType) (U : State) : Prop := (Cond.arrayOver (.array ty)).before #[] U = true
theorem va_AOA.use {ty : FieldType} {A : Array Value} {U : State} (h : va_AOA ty U) : (Cond.arrayOver (.array ty)).before A U = true := h
theorem va_AOA.moved {u U : State} (hvm : u.vm.Alike U.vm) (h : va_AOA .int u) : va_AOA .int U := (vg_alike hvm #[]).trans h
/-! ===== BEGIN new T[n][m]: the outer array a place, the inner ones among the pooled ===== -/
/-- f, but v at every address of l -/
def vr_up {α : Type} (f : Nat → α) (l : List Nat) (v : α) : Nat → α := fun a => if a ∈ l then v else f a
theorem vr_up_in {α : Type} {f : Nat → α} {l : List Nat} {v : α} {a : Nat} (h : a ∈ l) : vr_up f l v a = v := if_pos h
theorem vr_up_ne {α : Type} {f : Nat → α} {l : List Nat} {v : α} {a : Nat} (h : a ∉ l) : vr_up f l v a = f a := if_neg h
theorem vr_rows {L l : List Nat} {f : Nat → va_E} {e : va_E} (h : ∀ a, a ∈ l → a ∉ L) : va_pl L f ++ l.map (fun a => (a, e)) = va_pl (L ++ l) (vr_up f l e) := by
  unfold va_pl
  rw [List.map_append]
  congr 1
  · apply List.map_congr_left
    intro a ha
    rw [vr_up_ne (fun q => h a q ha)]
  · apply List.map_congr_left
    intro a ha
    rw [vr_up_in ha]
theorem vr_lay {X rows : va_W} {x : Nat × va_E} {pl : va_W} {D : va_G} {cl : List vw_C} {H : Heap} (hP : va_P D cl (((X ++ pl) ++ [x]) ++ rows) H) : va_P D cl ((X ++ [x]) ++ (pl ++ rows)) H := by
  rw [List.append_assoc (X ++ pl)] at hP
  have h := va_P.swap hP
  rw [← List.append_assoc X] at h
  have h2 := va_P.swap h
  rw [List.append_assoc (X ++ [x])] at h2
  exact h2
theorem vr_layD {X rows : va_W} {x : Nat × va_E} {pl : va_W} {A : Nat → Prop} (hD : va_D A (((X ++ pl) ++ [x]) ++ rows)) : va_D A ((X ++ [x]) ++ (pl ++ rows)) := by
  rw [List.append_assoc (X ++ pl)] at hD
  have h := va_D.swap hD
  rw [← List.append_assoc X] at h
  have h2 := va_D.swap h
  rw [List.append_assoc (X ++ [x])] at h2
  exact h2
section VGM
variable {p : Program} {l : Launch} {e : Env} {R : Room} {s : State} {m : MethodId} {args : Array Value} {below : List Frame} {meth : Method} {c : Code} {H : Heap} {locs : List Loc} {cells slots : Nat} {Q : State → Prop}
variable {cc : ByteArray} {pc : Nat} {ls : Array Slot} {rest : List Value} {D : va_G} {cl : List vw_C} {A : Nat → Prop} {a : Nat} {tys : List (ClassId × FieldType)} {ws : va_W} {H0 : Heap}
theorem va_mna {X : va_W} {L : List Nat} {f : Nat → va_E} {cc : ByteArray} (hexec : p.tables.exec = Jvm.exec) (hb : c.code = cc) {own : String} {index : Nat} {ty : FieldType} {cy : ClassId} (hown : s.vm.findClass own = some m.cls) (hclink : (Cond.classLink own index ("[" ++ (FieldType.array ty).toString)).before args s = true) (hover : va_AOA ty s) (harr : (Cond.arrayClass ty).before args s = true) (hcy : s.vm.findClass (FieldType.array ty).toString = some cy)
    (hK : va_K D cl tys s) (hP : va_P D cl (X ++ va_pl L f) H) (hD : va_D A (X ++ va_pl L f)) (hS : va_S A H0 H locs) (hA : ∀ q, H0.size ≤ q → A q) {n k : Int32} {N' K' : Nat} {z : vp_A} (hn : ¬ n < 0) (hk : ¬ k < 0) (hN : n.toNatClampNeg = N') (hM : k.toNatClampNeg = K')
    (hb1 : N' * 4 ≤ 536870912) (hb2 : K' * componentBytes ty ≤ 536870912) (hb3 : K' ≤ 536870912) (hdf : fits ty (defaultValue ty) = true) (hcells : cells + (1 + N') ≤ R.cells) (hslots : slots + (N' + N' * K') ≤ R.slots) (hz : ∀ c : ClassId, arrV c K' (fun _ => defaultValue ty) = vp_cell c z) (hdg : decode cc pc = .ok (.multianewarray index 2, 4))
    (kk : ∀ (q : Nat) (r : Nat → Nat) (cA : ClassId) (H1 : Heap), (∀ i j : Nat, i < N' → j < N' → r i = r j → i = j) → (∀ i : Nat, i < N' → r i ∉ L) → va_K D cl (tys ++ [(cA, .array ty)]) s →
      va_P D cl ((X ++ [(q, .inl (cA, N', .inr (.inr (.inr (.inr (fun i => if i < N' then some (r i) else none))))))]) ++ va_pl (L ++ (List.range N').map r) (vr_up f ((List.range N').map r) (.inl (cy, z)))) H1 → va_D A ((X ++ [(q, .inl (cA, N', .inr (.inr (.inr (.inr (fun i => if i < N' then some (r i) else none))))))]) ++ va_pl (L ++ (List.range N').map r) (vr_up f ((List.range N').map r) (.inl (cy, z)))) → va_S A H0 H1 locs →
      W p l e R s m args below meth c H1 locs (cells + 1 + N') (slots + N' + N' * K') Q (F0 m (pc + 4) ls (.ref q :: rest))) : W p l e R s m args below meth c H locs cells slots Q (F0 m pc ls (.int k :: .int n :: rest)) := by
  subst hN
  subst hM
  intro T hT Xs
  obtain ⟨vm₁, cA, hAr, fA, X', step⟩ := vg_mna Xs hexec hown hclink (va_AOA.use hover) harr hcy (g := F0 m pc ls (.int k :: .int n :: rest)) rfl (by rw [hb]; exact hdg) rfl hn hk hb1 hb2 hb3 hdf hcells hslots
  have f1 := vg_size (T := T.setVm vm₁) (cA := cA) (cy := cy) (n := n.toNatClampNeg) (k := k.toNatClampNeg) (dv := defaultValue ty) (i := n.toNatClampNeg)
  have f2 := vg_top (T := T.setVm vm₁) (cA := cA) (cy := cy) (n := n.toNatClampNeg) (k := k.toNatClampNeg) (dv := defaultValue ty) (i := n.toNatClampNeg)
  have f3 := fun (a : Nat) => vg_old (T := T.setVm vm₁) (cA := cA) (cy := cy) (n := n.toNatClampNeg) (k := k.toNatClampNeg) (dv := defaultValue ty) (i := n.toNatClampNeg) (a := a)
  have f4 := fun (j : Nat) => vg_row (T := T.setVm vm₁) (cA := cA) (cy := cy) (n := n.toNatClampNeg) (k := k.toNatClampNeg) (dv := defaultValue ty) (i := n.toNatClampNeg) (j := j)
  generalize vg_F (T.setVm vm₁) cA cy n.toNatClampNeg k.toNatClampNeg (defaultValue ty) n.toNatClampNeg = F at X' step f1 f2 f3 f4
  have hTh : (T.setVm vm₁).heap = H := hT
  rw [hTh] at f1 f2 f3 f4
  have hold : ∀ x : Nat, x < H.size → F.heap[x]? = H[x]? := f3
  have hrow : ∀ j : Nat, j < n.toNatClampNeg → F.heap[H.size + 1 + j]? = some (vp_cell cy z) := fun j hj => by
    rw [← hz]
    exact f4 j hj
  have hout : (arrV cA n.toNatClampNeg fun j => if j < n.toNatClampNeg then Value.ref (H.size + 1 + j) else .null) = vp_cell cA (n.toNatClampNeg, .inr (.inr (.inr (.inr (fun i => if i < n.toNatClampNeg then some (H.size + 1 + i) else none))))) := by
    rw [vp_cell_q]
    refine congrArg (arrV cA n.toNatClampNeg) (funext fun j => ?_)
    by_cases h : j < n.toNatClampNeg
    · rw [if_pos h, if_pos h]
      rfl
    · rw [if_neg h, if_neg h]
      rfl
  rw [hout] at f2
  have hlt : ∀ a, a ∈ L → a < H.size := fun a ha => by
    obtain ⟨k9, hk9⟩ := va_pl_get (X := X) (f := f) ha
    exact (hP k9 _ hk9).lt
  have hnl : ∀ i : Nat, i < n.toNatClampNeg → H.size + 1 + i ∉ L := fun i _ h => by
    have := hlt _ h
    omega
  have hnm : ∀ a, a ∈ (List.range n.toNatClampNeg).map (fun i => H.size + 1 + i) → a ∉ L := fun a ha h => by
    obtain ⟨i, -, rfl⟩ := List.mem_map.mp ha
    have := hlt _ h
    omega
  have hP0 : va_P D cl (X ++ va_pl L f) F.heap := hP.kept (fun k9 x hx => hold x.1 ((hP k9 x hx).lt))
  have hP1 : va_P D cl ((X ++ va_pl L f) ++ [(H.size, .inl (cA, n.toNatClampNeg, .inr (.inr (.inr (.inr (fun i => if i < n.toNatClampNeg then some (H.size + 1 + i) else none))))))]) F.heap := hP0.app (fun k9 x hx => by
    have h0 : k9 < 1 := (List.getElem?_eq_some_iff.mp hx).1
    rw [show k9 = 0 by omega] at hx
    cases hx
    exact f2)
  have hP2 : va_P D cl (((X ++ va_pl L f) ++ [(H.size, .inl (cA, n.toNatClampNeg, .inr (.inr (.inr (.inr (fun i => if i < n.toNatClampNeg then some (H.size + 1 + i) else none))))))]) ++ ((List.range n.toNatClampNeg).map (fun i => H.size + 1 + i)).map (fun a => (a, .inl (cy, z)))) F.heap := hP1.app (fun k9 x hx => by
    obtain ⟨a, ha, rfl⟩ := List.mem_map.mp (List.mem_of_getElem? hx)
    obtain ⟨i, hi, rfl⟩ := List.mem_map.mp ha
    exact hrow i (List.mem_range.mp hi))
  have hD2 : va_D A (((X ++ va_pl L f) ++ [(H.size, .inl (cA, n.toNatClampNeg, .inr (.inr (.inr (.inr (fun i => if i < n.toNatClampNeg then some (H.size + 1 + i) else none))))))]) ++ ((List.range n.toNatClampNeg).map (fun i => H.size + 1 + i)).map (fun a => (a, .inl (cy, z)))) := by
    have hD1 := hD.push (e := .inl (cA, n.toNatClampNeg, .inr (.inr (.inr (.inr (fun i => if i < n.toNatClampNeg then some (H.size + 1 + i) else none)))))) hP rfl (hA _ hS.1)
    generalize hW1 : (X ++ va_pl L f) ++ [(H.size, .inl (cA, n.toNatClampNeg, .inr (.inr (.inr (.inr (fun i => if i < n.toNatClampNeg then some (H.size + 1 + i) else none))))))] = W1 at hD1 hP1 ⊢
    have hle : ∀ (k9 : Nat) (x : Nat × va_E), W1[k9]? = some x → x.1 ≤ H.size := fun k9 x hx => by
      rw [← hW1] at hx
      by_cases hl : k9 < (X ++ va_pl L f).length
      · rw [List.getElem?_append_left hl] at hx
        exact Nat.le_of_lt ((hP k9 x hx).lt)
      · rw [List.getElem?_append_right (by omega)] at hx
        have h0 : k9 - (X ++ va_pl L f).length < 1 := (List.getElem?_eq_some_iff.mp hx).1
        rw [show k9 - (X ++ va_pl L f).length = 0 by omega] at hx
        cases hx
        exact Nat.le_refl _
    have hr : ∀ (k9 : Nat) (x : Nat × va_E), (((List.range n.toNatClampNeg).map (fun i => H.size + 1 + i)).map (fun a => ((a, .inl (cy, z)) : Nat × va_E)))[k9]? = some x → x.1 = H.size + 1 + k9 := fun k9 x hx => by
      rw [List.getElem?_map, List.getElem?_map] at hx
      by_cases h9 : k9 < n.toNatClampNeg
      · rw [List.getElem?_range h9] at hx
        cases hx
        rfl
      · have hn0 : (List.range n.toNatClampNeg)[k9]? = none := List.getElem?_eq_none (by rw [List.length_range]; omega)
        rw [hn0] at hx
        cases hx
    refine ⟨fun i j x y hi hj hxy => ?_, fun k9 x hx => ?_⟩
    · by_cases h1 : i < W1.length <;> by_cases h2 : j < W1.length
      · rw [List.getElem?_append_left h1] at hi
        rw [List.getElem?_append_left h2] at hj
        exact hD1.1 i j x y hi hj hxy
      · rw [List.getElem?_append_left h1] at hi
        rw [List.getElem?_append_right (by omega)] at hj
        have := hle _ _ hi
        have := hr _ _ hj
        omega
      · rw [List.getElem?_append_right (by omega)] at hi
        rw [List.getElem?_append_left h2] at hj
        have := hle _ _ hj
        have := hr _ _ hi
        omega
      · rw [List.getElem?_append_right (by omega)] at hi hj
        have := hr _ _ hi
        have := hr _ _ hj
        omega
    · by_cases h1 : k9 < W1.length
      · rw [List.getElem?_append_left h1] at hx
        exact hD1.2 k9 x hx
      · rw [List.getElem?_append_right (by omega)] at hx
        have := hr _ _ hx
        exact hA _ (by have := hS.1; omega)
  have hK2 : va_K D cl (tys ++ [(cA, .array ty)]) s := ⟨hK.1, fun k9 x hx => by
    by_cases hl : k9 < tys.length
    · rw [List.getElem?_append_left hl] at hx
      exact hK.2 k9 x hx
    · rw [List.getElem?_append_right (by omega)] at hx
      have h0 : k9 - tys.length < 1 := (List.getElem?_eq_some_iff.mp hx).1
      rw [show k9 - tys.length = 0 by omega] at hx
      cases hx
      exact ⟨hAr, fA⟩⟩
  obtain ⟨t, a1, b1⟩ := kk H.size (fun i => H.size + 1 + i) cA F.heap (fun i j _ _ h => by have h9 : H.size + 1 + i = H.size + 1 + j := h; omega) hnl hK2 (by rw [← vr_rows hnm]; exact vr_lay hP2) (by rw [← vr_rows hnm]; exact vr_layD hD2) ⟨by rw [f1]; have := hS.1; omega, fun x h1 h2 => (hold x (Nat.lt_of_lt_of_le h1 hS.1)).trans (hS.2.1 x h1 h2), hS.2.2⟩ F rfl X'
  refine ⟨t, step t ?_, b1⟩
  have e : T.heap.size = H.size := by rw [hT]
  rw [e]
  exact a1
end VGM
/-! ===== END ===== -/
/-- array classes of references that can be made -/
def RO3 (U : State) : Prop := va_AO "KitchenTable$Guest" U ∧ va_AO "KitchenTable$Slip" U ∧ va_AO "KitchenTable$Rule" U ∧ va_AO "KitchenTable$Sheet" U ∧ va_AOA .int U
theorem RO3.moved {u U : State} (hvm : u.vm.Alike U.vm) (h : RO3 u) : RO3 U := ⟨h.1.moved hvm, h.2.1.moved hvm, h.2.2.1.moved hvm, h.2.2.2.1.moved hvm, va_AOA.moved hvm h.2.2.2.2⟩
theorem KT.cI {G : GT} {s : State} (h : KT G s) : s.vm.findClass ("[" ++ FieldType.int.toString) = some (G.2.1 0) := (h.2 0 _ rfl).2
theorem KT.cL {G : GT} {s : State} (h : KT G s) : s.vm.findClass ("[" ++ FieldType.long.toString) = some (G.2.1 6) := (h.2 6 _ rfl).2
theorem KT.cAA {G : GT} {s : State} (h : KT G s) : s.vm.findClass ("[" ++ (FieldType.array .int).toString) = some (G.2.1 1) := (h.2 1 _ rfl).2
theorem va_RA.cO {U : State} {cA : ClassId} {C : String} (h : va_RA U cA (.object C)) : U.vm.findClass ("[" ++ (FieldType.object C).toString) = some cA := by
  obtain ⟨_, _, _, _, _, h⟩ := h
  exact h
section ER
variable {p : Program} {l : Launch} {e : Env} {R : Room} {s : State} {m : MethodId} {args : Array Value} {below : List Frame} {meth : Method} {c : Code} {H : Heap} {locs : List Loc} {cells slots : Nat} {Q : State → Prop}
variable {cc : ByteArray} {pc : Nat} {ls : Array Slot} {rest : List Value} {A : Nat → Prop} {H0 : Heap} {G : GT} {own : String} {ws : va_W}
theorem e_newa (E : En p s m args c cc own G) (hP : va_P G.1 vwCl ws H) (hD : va_D A ws) (hS : va_S A H0 H locs) (hA : ∀ q, H0.size ≤ q → A q) {n : Int32} {N : Nat} (hn : ¬ n < 0) (hN : n.toNatClampNeg = N) (hb : N * 4 ≤ 536870912) (hcells : cells + 1 ≤ R.cells) (hslots : slots + N ≤ R.slots) (hdg : decode cc pc = .ok (.newarray .int, 2))
    (kk : ∀ (q : Nat) (H1 : Heap), va_P G.1 vwCl (ws ++ [(q, .inl (G.2.1 0, N, .inl (fun _ => 0)))]) H1 → va_D A (ws ++ [(q, .inl (G.2.1 0, N, .inl (fun _ => 0)))]) → va_S A H0 H1 locs →
      W p l e R s m args below meth c H1 locs (cells + 1) (slots + N) Q (F0 m (pc + 2) ls (.ref q :: rest))) : W p l e R s m args below meth c H locs cells slots Q (F0 m pc ls (.int n :: rest)) := by
  refine va_newa (atype := .int) (ty := .int) (a0 := (N, .inl (fun _ => 0))) E.1 E.2.1 (E.2.2.2.1 _ qw_113) rfl E.2.2.2.2 hP hD hS hA (fun _ => rfl) hn hN hb hcells hslots hdg (fun q cA H1 hK' hP' hD' hS' => ?_)
  have h1 : s.vm.findClass ("[" ++ FieldType.int.toString) = some cA := (hK'.2 7 (cA, .int) rfl).2
  have e : cA = G.2.1 0 := Option.some.inj (h1.symm.trans (KT.cI E.2.2.2.2))
  subst e
  exact kk q H1 hP' hD' hS'
theorem e_newL (E : En p s m args c cc own G) (hP : va_P G.1 vwCl ws H) (hD : va_D A ws) (hS : va_S A H0 H locs) (hA : ∀ q, H0.size ≤ q → A q) {n : Int32} {N : Nat} (hn : ¬ n < 0) (hN : n.toNatClampNeg = N) (hb : N * 8 ≤ 536870912) (hcells : cells + 1 ≤ R.cells) (hslots : slots + N ≤ R.slots) (hdg : decode cc pc = .ok (.newarray .long, 2))
    (kk : ∀ (q : Nat) (H1 : Heap), va_P G.1 vwCl (ws ++ [(q, .inl (G.2.1 6, N, .inr (.inl (fun _ => 0))))]) H1 → va_D A (ws ++ [(q, .inl (G.2.1 6, N, .inr (.inl (fun _ => 0))))]) → va_S A H0 H1 locs →
      W p l e R s m args below meth c H1 locs (cells + 1) (slots + N) Q (F0 m (pc + 2) ls (.ref q :: rest))) : W p l e R s m args below meth c H locs cells slots Q (F0 m pc ls (.int n :: rest)) := by
  refine va_newa (atype := .long) (ty := .long) (a0 := (N, .inr (.inl (fun _ => 0)))) E.1 E.2.1 (E.2.2.2.1 _ qw_1150) rfl E.2.2.2.2 hP hD hS hA (fun _ => rfl) hn hN hb hcells hslots hdg (fun q cA H1 hK' hP' hD' hS' => ?_)
  have h1 : s.vm.findClass ("[" ++ FieldType.long.toString) = some cA := (hK'.2 7 (cA, .long) rfl).2
  have e : cA = G.2.1 6 := Option.some.inj (h1.symm.trans (KT.cL E.2.2.2.2))
  subst e
  exact kk q H1 hP' hD' hS'
theorem e_newq (E : En p s m args c cc own G) {C : String} {index k : Nat} (ht : (tysG G)[k]? = some (G.2.1 k, .object C)) (hclink : Cond.classLink own index C ∈ GW) (hover : va_AO C s) (hP : va_P G.1 vwCl ws H) (hD : va_D A ws) (hS : va_S A H0 H locs) (hA : ∀ q, H0.size ≤ q → A q) {n : Int32} {N : Nat} (hn : ¬ n < 0) (hN : n.toNatClampNeg = N) (hb : N * 4 ≤ 536870912) (hcells : cells + 1 ≤ R.cells) (hslots : slots + N ≤ R.slots) (hdg : decode cc pc = .ok (.anewarray index, 3))
    (kk : ∀ (q : Nat) (H1 : Heap), va_P G.1 vwCl (ws ++ [(q, .inl (G.2.1 k, N, .inr (.inr (.inr (.inr (fun _ => none))))))]) H1 → va_D A (ws ++ [(q, .inl (G.2.1 k, N, .inr (.inr (.inr (.inr (fun _ => none))))))]) → va_S A H0 H1 locs →
      W p l e R s m args below meth c H1 locs (cells + 1) (slots + N) Q (F0 m (pc + 3) ls (.ref q :: rest))) : W p l e R s m args below meth c H locs cells slots Q (F0 m pc ls (.int n :: rest)) := by
  refine va_newq E.1 E.2.1 E.2.2.1 (E.2.2.2.1 _ hclink) hover E.2.2.2.2 hP hD hS hA hn hN hb hcells hslots hdg (fun q cA H1 hK' hP' hD' hS' => ?_)
  have h1 := va_RA.cO (hK'.2 7 (cA, .object C) rfl).2
  have h2 := va_RA.cO (E.2.2.2.2.2 k _ ht).2
  have e : cA = G.2.1 k := Option.some.inj (h1.symm.trans h2)
  subst e
  exact kk q H1 hP' hD' hS'
theorem e_mna (E : En p s m args c cc own G) {index : Nat} (hclink : Cond.classLink own index "[[I" ∈ GW) (hover : va_AOA .int s) (hP : va_P G.1 vwCl ws H) (hD : va_D A ws) (hS : va_S A H0 H locs) (hA : ∀ q, H0.size ≤ q → A q) {n k : Int32} {N K : Nat} (hn : ¬ n < 0) (hk : ¬ k < 0) (hN : n.toNatClampNeg = N) (hM : k.toNatClampNeg = K) (hb1 : N * 4 ≤ 536870912) (hb2 : K * 4 ≤ 536870912) (hb3 : K ≤ 536870912) (hcells : cells + (1 + N) ≤ R.cells) (hslots : slots + (N + N * K) ≤ R.slots) (hdg : decode cc pc = .ok (.multianewarray index 2, 4))
    (kk : ∀ (q : Nat) (r : Nat → Nat) (H1 : Heap), va_P G.1 vwCl ((ws ++ [(q, .inl (G.2.1 1, N, .inr (.inr (.inr (.inr (fun i => if i < N then some (r i) else none))))))]) ++ (List.range N).map (fun i => (r i, .inl (G.2.1 0, K, .inl (fun _ => 0))))) H1 → va_D A ((ws ++ [(q, .inl (G.2.1 1, N, .inr (.inr (.inr (.inr (fun i => if i < N then some (r i) else none))))))]) ++ (List.range N).map (fun i => (r i, .inl (G.2.1 0, K, .inl (fun _ => 0))))) → va_S A H0 H1 locs →
      W p l e R s m args below meth c H1 locs (cells + 1 + N) (slots + N + N * K) Q (F0 m (pc + 4) ls (.ref q :: rest))) : W p l e R s m args below meth c H locs cells slots Q (F0 m pc ls (.int k :: .int n :: rest)) := by
  refine va_mna (X := ws) (L := []) (f := fun _ => .inr (0, [])) (ty := .int) (cy := G.2.1 0) (z := (K, .inl (fun _ => 0))) E.1 E.2.1 E.2.2.1 (E.2.2.2.1 _ hclink) hover (E.2.2.2.1 _ qw_113) (KT.cI E.2.2.2.2) E.2.2.2.2 (by rw [show va_pl [] _ = [] from rfl, List.append_nil]; exact hP) (by rw [show va_pl [] _ = [] from rfl, List.append_nil]; exact hD) hS hA hn hk hN hM hb1 hb2 hb3 rfl hcells hslots (fun c => ?_) hdg (fun q r cA H1 _ hr hK' hP' hD' hS' => ?_)
  · rfl
  · have h1 : s.vm.findClass ("[" ++ (FieldType.array .int).toString) = some cA := (hK'.2 7 (cA, .array .int) rfl).2
    have e : cA = G.2.1 1 := Option.some.inj (h1.symm.trans (KT.cAA E.2.2.2.2))
    subst e
    have hz := vr_rows (L := []) (l := (List.range N).map r) (f := fun _ => (.inr (0, []) : va_E)) (e := .inl (G.2.1 0, K, .inl (fun _ => 0))) (fun a _ h => by cases h)
    rw [show va_pl [] _ = [] from rfl, List.nil_append, List.map_map] at hz
    rw [← hz] at hP' hD'
    exact kk q r H1 hP' hD' hS'
theorem e_iast (E : En p s m args c cc own G) (hP : va_P G.1 vwCl ws H) (hD : va_D A ws) (hS : va_S A H0 H locs) (q0 : Nat) {a len : Nat} {f : Nat → Int32} (ha : ws[q0]? = some (a, .inl (G.2.1 0, len, .inl f))) {x v : Int32} {k : Nat} (hk : x.toNatClampNeg = k) (hin : vp_in x len) (hdg : decode cc pc = .ok (.iastore, 1))
    (kk : ∀ (H1 : Heap) (locs1 : List Loc), va_P G.1 vwCl (ws.set q0 (a, .inl (G.2.1 0, len, .inl (upd f k v)))) H1 → va_D A (ws.set q0 (a, .inl (G.2.1 0, len, .inl (upd f k v)))) → va_S A H0 H1 locs1 → W p l e R s m args below meth c H1 locs1 cells slots Q (F0 m (pc + 1) ls rest)) : W p l e R s m args below meth c H locs cells slots Q (F0 m pc ls (.int v :: .int x :: .ref a :: rest)) := by
  subst hk
  exact va_iast E.1 E.2.1 E.2.2.2.2 hP hD hS q0 0 ha rfl hin hdg kk
theorem e_astq (E : En p s m args c cc own G) (hP : va_P G.1 vwCl ws H) (hD : va_D A ws) (hS : va_S A H0 H locs) (q0 t0 qk ci : Nat) {a len v : Nat} {cA : ClassId} {r : vw_C} {vs : List Value} {f : Nat → Option Nat} (ht : (tysG G)[t0]? = some (cA, .object r.1)) (ha : ws[q0]? = some (a, .inl (cA, len, .inr (.inr (.inr (.inr f)))))) (hv : ws[qk]? = some (v, .inr (ci, vs))) (hc : vwCl[ci]? = some r) {x : Int32} {k : Nat} (hk : x.toNatClampNeg = k) (hin : vp_in x len) (hdg : decode cc pc = .ok (.aastore, 1))
    (kk : ∀ (H1 : Heap) (locs1 : List Loc), va_P G.1 vwCl (ws.set q0 (a, .inl (cA, len, .inr (.inr (.inr (.inr (va_up f k (some v)))))))) H1 → va_D A (ws.set q0 (a, .inl (cA, len, .inr (.inr (.inr (.inr (va_up f k (some v)))))))) → va_S A H0 H1 locs1 → W p l e R s m args below meth c H1 locs1 cells slots Q (F0 m (pc + 1) ls rest)) : W p l e R s m args below meth c H locs cells slots Q (F0 m pc ls (.ref v :: .int x :: .ref a :: rest)) := by
  subst hk
  exact va_astq E.1 E.2.1 E.2.2.2.2 hP hD hS q0 t0 qk ci ha ht hv hc hin hdg kk
theorem e_new (E : En p s m args c cc own G) {C : String} {T : u_T} {N ci index : Nat} (hin : ∀ w ∈ u_ws C T N, w ∈ GW) (ty : Nat → FieldType) (hty : ∀ k, k < N → parseFieldDescriptor (T k).2.2.1 = some (ty k)) (hcl : Cond.classLink own index C ∈ GW) (hinst : Cond.instantiable C N ∈ GW) (hini : Cond.initialized C ∈ GW) (hP : va_P G.1 vwCl ws H) (hD : va_D A ws) (hS : va_S A H0 H locs) (hA : ∀ q, H0.size ≤ q → A q) (hc : vwCl[ci]? = some (C, T, N)) {fs : List Value} (hfs : ∀ j, j < N → defaultValue (ty j) = vp_V fs j) (hcells : cells + 1 ≤ R.cells) (hslots : slots + N ≤ R.slots) (hdg : decode cc pc = .ok (.new index, 3))
    (kk : ∀ (q : Nat) (H1 : Heap), va_P G.1 vwCl (ws ++ [(q, .inr (ci, fs))]) H1 → va_D A (ws ++ [(q, .inr (ci, fs))]) → va_S A H0 H1 locs →
      W p l e R s m args below meth c H1 locs (cells + 1) (slots + N) Q (F0 m (pc + 3) ls (.ref q :: rest))) : W p l e R s m args below meth c H locs cells slots Q (F0 m pc ls rest) :=
  va_new E.1 E.2.1 E.2.2.2.1 hin ty hty E.2.2.1 (E.2.2.2.1 _ hcl) (E.2.2.2.1 _ hinst) (E.2.2.2.1 _ hini) E.2.2.2.2 hP hD hS hA hc hfs hcells hslots hdg kk
theorem e_get (E : En p s m args c cc own G) (hP : va_P G.1 vwCl ws H) {ref C : String} {T : u_T} {N ci index a : Nat} (hin : ∀ w ∈ u_ws C T N, w ∈ GW) (hc : vwCl[ci]? = some (C, T, N)) (q0 k : Nat) (hk : k < N) (hlink : Cond.fieldLink own index ref (T k).2.1 (T k).2.2.1 ∈ GW) (hsame : (T k).1 = ref) {fs : List Value} (he : ws[q0]? = some (a, .inr (ci, fs))) {v : Value} (hv : fs[k]? = some v) (hdg : decode cc pc = .ok (.getfield index, 3))
    (kk : W p l e R s m args below meth c H locs cells slots Q (F0 m (pc + 3) ls (v :: rest))) : W p l e R s m args below meth c H locs cells slots Q (F0 m pc ls (.ref a :: rest)) :=
  va_get E.1 E.2.1 E.2.2.2.1 hin E.2.2.1 E.2.2.2.2 hP q0 he hc k hk (E.2.2.2.1 _ hlink) (fun x h => by rw [← hsame]; exact h) hv hdg kk
theorem e_put (E : En p s m args c cc own G) (hP : va_P G.1 vwCl ws H) (hD : va_D A ws) (hS : va_S A H0 H locs) {ref C : String} {T : u_T} {N ci index a : Nat} (hin : ∀ w ∈ u_ws C T N, w ∈ GW) (ty0 : Nat → FieldType) (hty : ∀ k, k < N → parseFieldDescriptor (T k).2.2.1 = some (ty0 k)) (hnm : ∀ a, a < N → ∀ b, b < N → a ≠ b → (T a).2.1 ≠ (T b).2.1) (hc : vwCl[ci]? = some (C, T, N)) (q0 k : Nat) (hk : k < N) (hlink : Cond.fieldLink own index ref (T k).2.1 (T k).2.2.1 ∈ GW) (hsame : (T k).1 = ref) (hfin : (T k).2.2.2 = false) {fs : List Value} (he : ws[q0]? = some (a, .inr (ci, fs))) {v : Value} (hn : narrow (ty0 k) v = v) (hfit : fits (ty0 k) v = true) (hl : k < fs.length) (hdg : decode cc pc = .ok (.putfield index, 3))
    (kk : ∀ (H1 : Heap) (locs1 : List Loc), va_P G.1 vwCl (ws.set q0 (a, .inr (ci, fs.set k v))) H1 → va_D A (ws.set q0 (a, .inr (ci, fs.set k v))) → va_S A H0 H1 locs1 → W p l e R s m args below meth c H1 locs1 cells slots Q (F0 m (pc + 3) ls rest)) : W p l e R s m args below meth c H locs cells slots Q (F0 m pc ls (v :: .ref a :: rest)) :=
  va_put E.1 E.2.1 E.2.2.2.1 hin ty0 hty hnm E.2.2.1 E.2.2.2.2 hP hD hS q0 he hc k hk (E.2.2.2.1 _ hlink) (fun x h => by rw [← hsame]; exact h) hfin (hty k hk) hn hfit hl hdg kk
theorem e_putF (E : En p s m args c cc own G) (hP : va_P G.1 vwCl ws H) (hD : va_D A ws) (hS : va_S A H0 H locs) {ref C : String} {T : u_T} {N ci index a : Nat} (hin : ∀ w ∈ u_ws C T N, w ∈ GW) (ty0 : Nat → FieldType) (hty : ∀ k, k < N → parseFieldDescriptor (T k).2.2.1 = some (ty0 k)) (hnm : ∀ a, a < N → ∀ b, b < N → a ≠ b → (T a).2.1 ≠ (T b).2.1) (hc : vwCl[ci]? = some (C, T, N)) (q0 k : Nat) (hk : k < N) (hlink : Cond.fieldLink own index ref (T k).2.1 (T k).2.2.1 ∈ GW) (hsame : (T k).1 = ref) (hfin : (T k).2.2.2 = true) (hin2 : meth.name = "<init>") (hdecl : (T k).1 = own) {fs : List Value} (he : ws[q0]? = some (a, .inr (ci, fs))) {v : Value} (hn : narrow (ty0 k) v = v) (hfit : fits (ty0 k) v = true) (hl : k < fs.length) (hdg : decode cc pc = .ok (.putfield index, 3))
    (kk : ∀ (H1 : Heap) (locs1 : List Loc), va_P G.1 vwCl (ws.set q0 (a, .inr (ci, fs.set k v))) H1 → va_D A (ws.set q0 (a, .inr (ci, fs.set k v))) → va_S A H0 H1 locs1 → W p l e R s m args below meth c H1 locs1 cells slots Q (F0 m (pc + 3) ls rest)) : W p l e R s m args below meth c H locs cells slots Q (F0 m pc ls (v :: .ref a :: rest)) :=
  va_putF E.1 E.2.1 E.2.2.2.1 hin ty0 hty hnm E.2.2.1 E.2.2.2.2 hP hD hS q0 he hc k hk (E.2.2.2.1 _ hlink) (fun x h => by rw [← hsame]; exact h) hfin hin2 hdecl (hty k hk) hn hfit hl hdg kk
end ER
section EC
variable {p : Program} {l : Launch} {e : Env} {R : Room} {s : State} {m : MethodId} {args : Array Value} {below : List Frame} {meth : Method} {c : Code} {H : Heap} {locs : List Loc} {cells slots : Nat} {Q : State → Prop}
variable {cc : ByteArray} {pc : Nat} {ls : Array Slot} {rest : List Value} {A : Nat → Prop} {G : GT} {own : String} {ws : va_W}
/-- a constructor's contract: from one blank cell to cells, the new ones' addresses by a function -/
def KC (l : Launch) (y : MethodName) (b : ByteArray) (nL : Nat) (rm : Room) (a : Nat) (As : List Value) (e0 : va_E) (post : (Nat → Nat) → va_W) (G : GT) : Prop :=
  ∀ sz, Met l y (wm y b nL none) rm (va_Pc (.ref a :: As) (fun U => U.heap.size = sz ∧ va_P G.1 vwCl [(a, e0)] U.heap ∧ KT G U ∧ va_D (fun _ => True) [(a, e0)] ∧ RO2 G U ∧ RO3 U)) (va_Qv (fun (_ : Nat → Nat) => True) (fun u t => va_P G.1 vwCl (post u) t.heap ∧ KT G t ∧ va_D (va_A [(a, e0)] sz) (post u)) (va_A [(a, e0)] sz)) rm.cells rm.slots (va_A [(a, e0)] sz)
theorem e_after {a : Nat} {e0 : va_E} {post : (Nat → Nat) → va_W} {mc ms : Nat} {av : Array Value} {st0 : List Value} (hr : va_Run p l e R s m args below meth c H locs cells slots mc ms (F0 m pc ls st0) rest (va_Qv (fun (_ : Nat → Nat) => True) (fun u t => va_P G.1 vwCl (post u) t.heap ∧ KT G t ∧ va_D (va_A [(a, e0)] H.size) (post u)) (va_A [(a, e0)] H.size) av) (va_A [(a, e0)] H.size))
    (hP : va_P G.1 vwCl ws H) (hD : va_D A ws) (hS : va_S A s.heap H locs) (hA : ∀ q, s.heap.size ≤ q → A q) (k0 : Nat) (he : ws[k0]? = some (a, e0)) (isR : List Nat) (wr : va_W) (hRs : isR.map (fun i => ws[i]?) = wr.map some) (hn : va_nd isR = true) (hdis : ∀ i ∈ isR, i ∉ [k0])
    (kk : ∀ (u : Nat → Nat) (H1 : Heap) (locs1 : List Loc), va_P G.1 vwCl (wr ++ post u) H1 → va_D A (wr ++ post u) → va_S A s.heap H1 locs1 → W p l e R s m args below meth c H1 locs1 (cells + mc) (slots + ms) Q (F0 m (pc + 3) ls rest)) : W p l e R s m args below meth c H locs cells slots Q (F0 m pc ls st0) := by
  have hF : ∀ q, va_A [(a, e0)] H.size q → A q := va_free (wc := [(a, e0)]) hD hS hA [k0] (by simp [he])
  refine va_callv hr hS (fun q _ h => hF q h) hF (fun u t H1 locs1 ht hvm _ hB hz1 hk1 hS1 => ?_)
  obtain ⟨hP1, -, hD1⟩ := hB
  rw [ht] at hP1
  obtain ⟨hP2, hD2⟩ := va_join (wc := [(a, e0)]) (wr := wr) (w1 := post u) hP hD [k0] isR (by simp [he]) hRs hn hdis hk1 hF hP1 hD1
  exact kk u H1 locs1 hP2 hD2 hS1
theorem e_cI {y : MethodName} {b : ByteArray} {nL nLc index a : Nat} {rm : Room} {As : List Value} {e0 : va_E} {post : (Nat → Nat) → va_W} (E : En p s m args c cc own G) (hml : c.maxLocals = nLc) (hlz : ls.size = nLc) (hM : KC l y b nL rm a As e0 post G) (w : CW own index y b nL As.length none) (hy : y.name = "<init>") (wi : Cond.instanceMethod y ∈ GW) (hR : rm.frames + 1 ≤ R.frames ∧ 8 + (nL + 11) + rm.locals ≤ R.locals)
    (hP : va_P G.1 vwCl ws H) (hD : va_D A ws) (hS : va_S A s.heap H locs) (hA : ∀ q, s.heap.size ≤ q → A q) (hR2 : RO2 G s) (hR3 : RO3 s) (k0 : Nat) (he : ws[k0]? = some (a, e0)) (isR : List Nat) (wr : va_W) (hRs : isR.map (fun i => ws[i]?) = wr.map some) (hn : va_nd isR = true) (hdis : ∀ i ∈ isR, i ∉ [k0]) (hrm : (rest.map fun v => v.category).sum ≤ 8) (hdg : decode cc pc = .ok (.invokespecial index, 3)) (hf : cells + rm.cells ≤ R.cells ∧ slots + rm.slots ≤ R.slots)
    (kk : ∀ (u : Nat → Nat) (H1 : Heap) (locs1 : List Loc), va_P G.1 vwCl (wr ++ post u) H1 → va_D A (wr ++ post u) → va_S A s.heap H1 locs1 → W p l e R s m args below meth c H1 locs1 (cells + rm.cells) (slots + rm.slots) Q (F0 m (pc + 3) ls rest)) : W p l e R s m args below meth c H locs cells slots Q (F0 m pc ls (As.reverse ++ .ref a :: rest)) := by
  have hPc : va_P G.1 vwCl [(a, e0)] H := hP.sub [k0] (by simp [he])
  have hDc : va_D A [(a, e0)] := hD.sub [k0] (by simp [va_nd]) (by simp [he])
  refine e_after (va_runI (As := As) (rest := rest) (b := a) ⟨E.1, E.2.1, hml, E.2.2.1, E.2.2.2.1⟩ (hM H.size) ⟨w.B E.2.2.2.1 hR, hy, E.2.2.2.1 _ wi⟩ ⟨fun _ U g mk h => ⟨h.1, h.2.1, h.2.2.1, KT.moved (u := U) (U := U.calling g mk _) (Vm.Alike.refl U.vm) h.2.2.2.1, h.2.2.2.2.1, RO2.same (u := U) rfl h.2.2.2.2.2.1, RO3.moved (u := U) (U := U.calling g mk _) (Vm.Alike.refl U.vm) h.2.2.2.2.2.2⟩, fun U hU hW => ⟨rfl, by rw [hU], by rw [hU]; exact hPc, E.2.2.2.2.moved hW.alike, hDc.weaken (fun _ _ _ _ => trivial), hR2.warm hW, hR3.moved hW.alike⟩⟩ rfl rfl hlz rfl (lv_room hrm) hdg hf) hP hD hS hA k0 he isR wr hRs hn hdis kk
theorem e_cN {y : MethodName} {b : ByteArray} {nL nLc index a : Nat} {rm : Room} {As : List Value} {e0 : va_E} {post : (Nat → Nat) → va_W} (E : En p s m args c cc own G) (hml : c.maxLocals = nLc) (hlz : ls.size = nLc) (hM : KC l y b nL rm a As e0 post G) (hcode : Cond.code y b nL none ∈ GW) (hini : Cond.initialized y.cls ∈ GW) (hpl : y.cls ≠ "java/lang/invoke/MethodHandle" ∧ y.cls ≠ "java/lang/invoke/VarHandle") (hds : (parseMethodDescriptor y.desc).map (fun d => d.parameters.length) = some As.length) (hlk : va_Nw (.methodLinkNest own index y "KitchenTable") s) (hy : y.name = "<init>") (wi : Cond.instanceMethod y ∈ GW) (hR : rm.frames + 1 ≤ R.frames ∧ 8 + (nL + 11) + rm.locals ≤ R.locals)
    (hP : va_P G.1 vwCl ws H) (hD : va_D A ws) (hS : va_S A s.heap H locs) (hA : ∀ q, s.heap.size ≤ q → A q) (hR2 : RO2 G s) (hR3 : RO3 s) (k0 : Nat) (he : ws[k0]? = some (a, e0)) (isR : List Nat) (wr : va_W) (hRs : isR.map (fun i => ws[i]?) = wr.map some) (hn : va_nd isR = true) (hdis : ∀ i ∈ isR, i ∉ [k0]) (hrm : (rest.map fun v => v.category).sum ≤ 8) (hdg : decode cc pc = .ok (.invokespecial index, 3)) (hf : cells + rm.cells ≤ R.cells ∧ slots + rm.slots ≤ R.slots)
    (kk : ∀ (u : Nat → Nat) (H1 : Heap) (locs1 : List Loc), va_P G.1 vwCl (wr ++ post u) H1 → va_D A (wr ++ post u) → va_S A s.heap H1 locs1 → W p l e R s m args below meth c H1 locs1 (cells + rm.cells) (slots + rm.slots) Q (F0 m (pc + 3) ls rest)) : W p l e R s m args below meth c H locs cells slots Q (F0 m pc ls (As.reverse ++ .ref a :: rest)) := by
  have hPc : va_P G.1 vwCl [(a, e0)] H := hP.sub [k0] (by simp [he])
  have hDc : va_D A [(a, e0)] := hD.sub [k0] (by simp [va_nd]) (by simp [he])
  refine e_after (va_runIN (As := As) (rest := rest) (b := a) ⟨E.1, E.2.1, hml, E.2.2.1, E.2.2.2.1⟩ (hM H.size) ⟨va_cnB As.length E.2.2.2.1 (gi_wm (fun _ h => h) hcode) rfl rfl rfl hlk (E.2.2.2.1 _ hini) ⟨hpl.1, hpl.2, hds⟩ hR, hy, E.2.2.2.1 _ wi⟩ ⟨fun _ U g mk h => ⟨h.1, h.2.1, h.2.2.1, KT.moved (u := U) (U := U.calling g mk _) (Vm.Alike.refl U.vm) h.2.2.2.1, h.2.2.2.2.1, RO2.same (u := U) rfl h.2.2.2.2.2.1, RO3.moved (u := U) (U := U.calling g mk _) (Vm.Alike.refl U.vm) h.2.2.2.2.2.2⟩, fun U hU hW => ⟨rfl, by rw [hU], by rw [hU]; exact hPc, E.2.2.2.2.moved hW.alike, hDc.weaken (fun _ _ _ _ => trivial), hR2.warm hW, hR3.moved hW.alike⟩⟩ rfl rfl hlz rfl (lv_room hrm) hdg hf) hP hD hS hA k0 he isR wr hRs hn hdis kk
end EC
