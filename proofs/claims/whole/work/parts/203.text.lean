section EC
variable {p : Program} {l : Launch} {e : Env} {R : Room} {s : State} {m : MethodId} {args : Array Value} {below : List Frame} {meth : Method} {c : Code} {H : Heap} {locs : List Loc} {cells slots : Nat} {Q : State → Prop}
variable {cc : ByteArray} {pc : Nat} {ls : Array Slot} {rest : List Value} {A : Nat → Prop} {G : GT} {own : String} {ws : va_W}
/-- a constructor's contract: from one blank cell to cells, the new ones' addresses by a function -/
def KC2 (l : Launch) (y : MethodName) (b : ByteArray) (nL : Nat) (rm : Room) (a : Nat) (As : List Value) (e0 : va_E) (post : (Nat → Nat) → va_W) (G : GT) : Prop :=
  ∀ sz, Met l y (wm y b nL none) rm (va_Pc (.ref a :: As) (fun U => U.heap.size = sz ∧ va_P G.1 vwCl [(a, e0)] U.heap ∧ KT G U ∧ va_D (fun _ => True) [(a, e0)])) (va_Qv (fun (_ : Nat → Nat) => True) (fun u t => va_P G.1 vwCl (post u) t.heap ∧ KT G t ∧ va_D (va_A [(a, e0)] sz) (post u)) (va_A [(a, e0)] sz)) rm.cells rm.slots (va_A [(a, e0)] sz)
theorem e_cI2 {y : MethodName} {b : ByteArray} {nL nLc index a : Nat} {rm : Room} {As : List Value} {e0 : va_E} {post : (Nat → Nat) → va_W} (E : En p s m args c cc own G) (hml : c.maxLocals = nLc) (hlz : ls.size = nLc) (hM : KC2 l y b nL rm a As e0 post G) (w : CW own index y b nL As.length none) (hy : y.name = "<init>") (wi : Cond.instanceMethod y ∈ GW) (hR : rm.frames + 1 ≤ R.frames ∧ 8 + (nL + 11) + rm.locals ≤ R.locals)
    (hP : va_P G.1 vwCl ws H) (hD : va_D A ws) (hS : va_S A s.heap H locs) (hA : ∀ q, s.heap.size ≤ q → A q) (k0 : Nat) (he : ws[k0]? = some (a, e0)) (isR : List Nat) (wr : va_W) (hRs : isR.map (fun i => ws[i]?) = wr.map some) (hn : va_nd isR = true) (hdis : ∀ i ∈ isR, i ∉ [k0]) (hrm : (rest.map fun v => v.category).sum ≤ 8) (hdg : decode cc pc = .ok (.invokespecial index, 3)) (hf : cells + rm.cells ≤ R.cells ∧ slots + rm.slots ≤ R.slots)
    (kk : ∀ (u : Nat → Nat) (H1 : Heap) (locs1 : List Loc), va_P G.1 vwCl (wr ++ post u) H1 → va_D A (wr ++ post u) → va_S A s.heap H1 locs1 → W p l e R s m args below meth c H1 locs1 (cells + rm.cells) (slots + rm.slots) Q (F0 m (pc + 3) ls rest)) : W p l e R s m args below meth c H locs cells slots Q (F0 m pc ls (As.reverse ++ .ref a :: rest)) := by
  have hPc : va_P G.1 vwCl [(a, e0)] H := hP.sub [k0] (by simp [he])
  have hDc : va_D A [(a, e0)] := hD.sub [k0] (by simp [va_nd]) (by simp [he])
  refine e_after (va_runI (As := As) (rest := rest) (b := a) ⟨E.1, E.2.1, hml, E.2.2.1, E.2.2.2.1⟩ (hM H.size) ⟨w.B E.2.2.2.1 hR, hy, E.2.2.2.1 _ wi⟩ ⟨fun _ U g mk h => ⟨h.1, h.2.1, h.2.2.1, KT.moved (u := U) (U := U.calling g mk _) (Vm.Alike.refl U.vm) h.2.2.2.1, h.2.2.2.2⟩, fun U hU hW => ⟨rfl, by rw [hU], by rw [hU]; exact hPc, E.2.2.2.2.moved hW.alike, hDc.weaken (fun _ _ _ _ => trivial)⟩⟩ rfl rfl hlz rfl (lv_room hrm) hdg hf) hP hD hS hA k0 he isR wr hRs hn hdis kk
end EC
set_option maxRecDepth 100000 in
set_option maxHeartbeats 8000000 in
theorem k2_X4_init (l : Launch) {G : GT} (h0 : Nat) (b1 : Nat) (b2 : Nat) : KC2 l yX4_init cX4_init 3 ({ frames := 1, cells := 0, slots := 0, locals := 12 } : Room) h0 [.ref b1, .ref b2] (.inr (4, [.null, .null, .int 0, .int 0, .int 0])) (fun u => [(h0, .inr (4, [.ref b1, .ref b2, .int 0, .int 0, .int (-1)]))]) G := by
  intro sz
  refine va_MetF (cc := cX4_init) (maxL := 3) (ret := none) (plainFor_of_name (by decide)) rfl ?_
  intro p e s m args below meth c s₁ B hml hv
  obtain ⟨rfl, hsz, hP, hK, hD0⟩ := hv
  have hts := atoms_spec (ws := wm yX4_init cX4_init 3 none) B.pre
  have E : En p s m (Value.ref h0 :: [.ref b1, .ref b2]).toArray c cX4_init yX4_init.cls G := ⟨B.exec, B.bytes, findClass_of_methodNamed B.named, fun w hw => hts w (List.mem_cons_of_mem _ hw), hK⟩
  have hx := B.exec
  have hb := B.bytes
  have hr := B.returns
  have hlk := B.notSynchronized
  have hin : meth.name = "<init>" := (name_of_methodNamed B.named B.method).1
  subst hsz
  have hD := hD0.self (sz := s.heap.size)
  generalize hAe : va_A [(h0, .inr (4, [.null, .null, .int 0, .int 0, .int 0]))] s.heap.size = A at hD ⊢
  have hA : ∀ q : Nat, s.heap.size ≤ q → A q := fun q h => by rw [← hAe]; exact Or.inr h
  have hS : va_S A s.heap s.heap [] := va_S.rf
  have hP : va_P G.1 vwCl [(h0, .inr (4, [.null, .null, .int 0, .int 0, .int 0]))] s.heap := hP
  have hl := lv_entry [.ref h0, .ref b1, .ref b2] (n := 3) (Nat.le_of_ble_eq_true rfl)
  rw [lg_entry_eq]
  generalize (lg_sl [.ref h0, .ref b1, .ref b2] ++ List.replicate (3 - (lg_sl [.ref h0, .ref b1, .ref b2]).length) Slot.unset).toArray = ls at hl ⊢
  have hl : lv_has ls 3 [(0, .ref h0), (1, .ref b1), (2, .ref b2)] := hl
  refine lv_aload_n hx hb dX4_init_0 rfl (lv_at hl 0 rfl) ?_
  refine W.objInit hx hb E.2.2.1 (E.2.2.2.1 _ qw_435) (E.2.2.2.1 _ qw_87) (E.2.2.2.1 _ qw_88) rfl (by rw [hml]; exact hl.1) rfl dX4_init_1 (Nat.le_of_ble_eq_true rfl) (Nat.le_of_ble_eq_true rfl) ?_
  refine W.eq (g2 := F0 m 4 ls []) rfl ?_
  refine lv_aload_n hx hb dX4_init_4 rfl (lv_at hl 0 rfl) ?_
  refine lv_iconst (v := 0) hx hb dX4_init_5 (by decide) ?_
  refine e_put (C := RX4) (T := TX4) (N := 5) (v := .int 0) E hP hD hS in_X4 tyX4 tyX4_ok nmX4 rfl 0 2 (by decide) qw_438 rfl rfl rfl rfl rfl (Nat.le_of_ble_eq_true rfl) dX4_init_6 (fun H locs hP hD hS => ?_)
  have hP : va_P G.1 vwCl [(h0, .inr (4, [.null, .null, .int 0, .int 0, .int 0]))] H := hP
  have hD : va_D A [(h0, .inr (4, [.null, .null, .int 0, .int 0, .int 0]))] := hD
  refine lv_aload_n hx hb dX4_init_9 rfl (lv_at hl 0 rfl) ?_
  refine lv_iconst (v := 0) hx hb dX4_init_10 (by decide) ?_
  refine e_put (C := RX4) (T := TX4) (N := 5) (v := .int 0) E hP hD hS in_X4 tyX4 tyX4_ok nmX4 rfl 0 3 (by decide) qw_439 rfl rfl rfl rfl rfl (Nat.le_of_ble_eq_true rfl) dX4_init_11 (fun H locs hP hD hS => ?_)
  have hP : va_P G.1 vwCl [(h0, .inr (4, [.null, .null, .int 0, .int 0, .int 0]))] H := hP
  have hD : va_D A [(h0, .inr (4, [.null, .null, .int 0, .int 0, .int 0]))] := hD
  refine lv_aload_n hx hb dX4_init_14 rfl (lv_at hl 0 rfl) ?_
  refine lv_iconst (v := (-1)) hx hb dX4_init_15 (by decide) ?_
  refine e_put (C := RX4) (T := TX4) (N := 5) (v := .int (-1)) E hP hD hS in_X4 tyX4 tyX4_ok nmX4 rfl 0 4 (by decide) qw_440 rfl rfl rfl rfl rfl (Nat.le_of_ble_eq_true rfl) dX4_init_16 (fun H locs hP hD hS => ?_)
  have hP : va_P G.1 vwCl [(h0, .inr (4, [.null, .null, .int 0, .int 0, .int (-1)]))] H := hP
  have hD : va_D A [(h0, .inr (4, [.null, .null, .int 0, .int 0, .int (-1)]))] := hD
  refine lv_aload_n hx hb dX4_init_19 rfl (lv_at hl 0 rfl) ?_
  refine lv_aload_n hx hb dX4_init_20 rfl (lv_at hl 1 rfl) ?_
  refine e_putF (C := RX4) (T := TX4) (N := 5) (v := .ref b1) E hP hD hS in_X4 tyX4 tyX4_ok nmX4 rfl 0 0 (by decide) qw_436 rfl rfl hin rfl rfl rfl rfl (Nat.le_of_ble_eq_true rfl) dX4_init_21 (fun H locs hP hD hS => ?_)
  have hP : va_P G.1 vwCl [(h0, .inr (4, [.ref b1, .null, .int 0, .int 0, .int (-1)]))] H := hP
  have hD : va_D A [(h0, .inr (4, [.ref b1, .null, .int 0, .int 0, .int (-1)]))] := hD
  refine lv_aload_n hx hb dX4_init_24 rfl (lv_at hl 0 rfl) ?_
  refine lv_aload_n hx hb dX4_init_25 rfl (lv_at hl 2 rfl) ?_
  refine e_putF (C := RX4) (T := TX4) (N := 5) (v := .ref b2) E hP hD hS in_X4 tyX4 tyX4_ok nmX4 rfl 0 1 (by decide) qw_437 rfl rfl hin rfl rfl rfl rfl (Nat.le_of_ble_eq_true rfl) dX4_init_26 (fun H locs hP hD hS => ?_)
  have hP : va_P G.1 vwCl [(h0, .inr (4, [.ref b1, .ref b2, .int 0, .int 0, .int (-1)]))] H := hP
  have hD : va_D A [(h0, .inr (4, [.ref b1, .ref b2, .int 0, .int 0, .int (-1)]))] := hD
  have hP9 := hP
  exact W.vret hx hb hr (fun t ht hW => ⟨⟨fun i => ([] : List Nat).getD i 0, rfl, trivial, by rw [ht]; exact hP, E.2.2.2.2.moved hW.alike, hD⟩, hS.F ht⟩) hS.2.2 dX4_init_29 (hlocks := hlk)

def f_X10_text (M : Mem) : Option (Int32 × Mem) :=
  (if (M 1 5) < 6 then (if ibd ((M 1 5)) 6 then (Option.bind (f_X4_parse (pushP M (Int32.toNatClampNeg ((M 1 5))))) fun r_4 => (if r_4.1 = (-1) then some (((((upd2 r_4.2 1 5 (((r_4.2 1 5) + 1))) 1 5) - 1), (upd2 r_4.2 1 5 (((r_4.2 1 5) + 1))))) else some ((((-100) - r_4.1), r_4.2)))) else none) else some (((-4), M)))
set_option maxRecDepth 100000 in
set_option maxHeartbeats 4000000 in
theorem c_X10_text (l : Launch) {G : GT} {φ : Nat → Nat} {n : Nat} {M : Mem} (hI : wI φ n) (hn7 : n = 107) {r : Int32 × Mem} (h : f_X10_text M = some r) : CT l yX10_text cX10_text 2 (some .int) ({ frames := 162, cells := 1, slots := 5, locals := 3322 } : Room) [.ref (φ 0)] (WB (cX G φ) φ M n G) (some (.int r.1)) (WB (cX G φ) φ (r.2) n G) φ n := by
  subst hn7
  have hn : 107 ≤ 107 := Nat.le_refl _
  unfold f_X10_text at h
  refine r_start (plainFor_of_name (by decide)) (Nat.le_of_ble_eq_true rfl) hI ?_
  intro p e s m args below meth c ls X hr hlk hP hl
  have hS : va_S (wA φ 107 s.heap.size) s.heap s.heap [] := va_S.rf
  have hx := X.1.1
  have hb := X.1.2.1
  have hl : lv_has ls 2 [(0, .ref (φ 0))] := hl
  refine lv_aload_n hx hb dX10_text_0 rfl (lv_at hl 0 rfl) ?_
  refine G_X10_10 X.1 hn hP dX10_text_1 ?_
  refine G_X10_81 X.1 hn hP dX10_text_4 ?_
  refine lv_bipush (v := 6) hx hb dX10_text_7 (by decide) ?_
  refine lv_icmp_lt (tgt := 15) hx hb dX10_text_9 (by decide) (fun c_1 => ?_) (fun c_1 => ?_)
  · rw [if_pos c_1] at h
    refine e_new (C := RX4) (T := TX4) (N := 5) (ci := 4) (fs := [.null, .null, .int 0, .int 0, .int 0]) X.1 in_X4 tyX4 tyX4_ok qw_430 qw_431 qw_75 hP X.2.2.2.1.va hS X.2.2.2.2 rfl (by intro j hj; match j, hj with | 0, _ => rfl | 1, _ => rfl | 2, _ => rfl | 3, _ => rfl | 4, _ => rfl | j + 5, h => exact absurd h (by omega)) (Nat.le_of_ble_eq_true rfl) (Nat.le_of_ble_eq_true rfl) dX10_text_15 (fun q H hPp hDp hS => ?_)
    have hP := va_P.left hPp
    refine W.widen (k := 1) (n := 5) (Nat.le_of_ble_eq_true rfl) (Nat.le_of_ble_eq_true rfl) ?_
    refine lv_dup hx hb dX10_text_18 rfl ?_
    refine lv_aload_n hx hb dX10_text_19 rfl (lv_at hl 0 rfl) ?_
    refine G_X10_28 X.1 hn hP dX10_text_20 ?_
    refine lv_aload_n hx hb dX10_text_23 rfl (lv_at hl 0 rfl) ?_
    refine G_X10_10 X.1 hn hP dX10_text_24 ?_
    refine G_X10_71 X.1 hn hP dX10_text_27 ?_
    refine lv_aload_n hx hb dX10_text_30 rfl (lv_at hl 0 rfl) ?_
    refine G_X10_10 X.1 hn hP dX10_text_31 ?_
    refine G_X10_81 X.1 hn hP dX10_text_34 ?_
    obtain ⟨c_2, h⟩ := og h
    refine r_aald (t0 := 4) (k := (Int32.toNatClampNeg ((M 1 5)))) X.1 hP rfl rfl (by omega) sX_rules rfl (vin c_2) dX10_text_37 ?_
    have hj_3 : (Int32.toNatClampNeg ((M 1 5))) < 6 := ibd_lt c_2
    refine e_cI2 (As := [.ref (φ 19), .ref (φ (40 + (Int32.toNatClampNeg ((M 1 5)))))]) (rest := [.ref q]) (post := fun _ => [(q, .inr (4, [.ref (φ 19), .ref (φ (40 + (Int32.toNatClampNeg ((M 1 5))))), .int 0, .int 0, .int (-1)]))]) (wr := wW (cX G φ) φ M 107) X.1 X.2.1 hl.1 (k2_X4_init l q (φ 19) (φ (40 + (Int32.toNatClampNeg ((M 1 5)))))) w_X10_75 rfl qw_433 ⟨Nat.le_of_ble_eq_true rfl, Nat.le_of_ble_eq_true rfl⟩ hPp hDp hS X.2.2.2.2 107 (wW_snoc _) (List.range 107) (wW_rest _) nd_107 (by intro i hi; simp at hi ⊢; omega) (Nat.le_of_ble_eq_true rfl) dX10_text_38 ⟨Nat.le_of_ble_eq_true rfl, Nat.le_of_ble_eq_true rfl⟩ (fun _ H locs hPp hDp hS => ?_)
    have hPq := world_push hj_3 hPp
    have hDq := wD_push X.2.2.2.1 hDp
    have X2 : At p s m args c cX10_text yX10_text.cls G (wA φ 107 s.heap.size) (va_up φ 107 q) 108 2 := ⟨X.1, X.2.1, X.2.2.1, hDq, X.2.2.2.2⟩
    obtain ⟨r_4, hr_4, h⟩ := ob h
    refine c_V1 (As := []) (rest := []) (a := 107) ⟨Nat.le_of_ble_eq_true rfl, Nat.le_of_ble_eq_true rfl⟩ X2 hl.1 (c_X4_parse l X2.2.2.2.1.1 (Nat.le_refl 108) hr_4) w_X10_78 qw_454 qw_455 ⟨Nat.le_of_ble_eq_true rfl, Nat.le_of_ble_eq_true rfl⟩ rfl rfl hPq hS (by decide) sX_Parser rfl rfl (Nat.le_of_ble_eq_true rfl) dX10_text_41 (fun H locs hPq hS => ?_)
    have hP := world_pop hPq
    refine lv_istore_n (lv' := [(1, .int (r_4.1)), (0, .ref (φ 0))]) hx hb dX10_text_44 rfl hl (by decide) rfl (fun ls hl => ?_)
    refine lv_iload_n hx hb dX10_text_45 rfl (lv_at hl 0 rfl) ?_
    refine lv_iconst (v := (-1)) hx hb dX10_text_46 (by decide) ?_
    refine lv_icmp_eq (tgt := 55) hx hb dX10_text_47 (by decide) (fun c_5 => ?_) (fun c_5 => ?_)
    · rw [if_pos c_5] at h
      refine lv_aload_n hx hb dX10_text_55 rfl (lv_at hl 1 rfl) ?_
      refine G_X10_10 X.1 hn hP dX10_text_56 ?_
      refine lv_dup hx hb dX10_text_59 rfl ?_
      refine G_X10_81 X.1 hn hP dX10_text_60 ?_
      refine lv_iconst (v := 1) hx hb dX10_text_63 (by decide) ?_
      refine lv_iadd hx hb dX10_text_64 ?_
      refine P_X10_81 X.1 hn X.2.2.2.1 hP hS dX10_text_65 (fun H locs hP hS => ?_)
      refine lv_aload_n hx hb dX10_text_68 rfl (lv_at hl 1 rfl) ?_
      refine G_X10_10 X.1 hn hP dX10_text_69 ?_
      refine G_X10_81 X.1 hn hP dX10_text_72 ?_
      refine lv_iconst (v := 1) hx hb dX10_text_75 (by decide) ?_
      refine lv_isub hx hb dX10_text_76 ?_
      obtain rfl := Option.some.inj h
      exact W.iret hx hb hr (r_end X hP hS) hS.2.2 dX10_text_77 (hlocks := hlk)
    · rw [if_neg c_5] at h
      refine lv_bipush (v := (-100)) hx hb dX10_text_50 (by decide) ?_
      refine lv_iload_n hx hb dX10_text_52 rfl (lv_at hl 0 rfl) ?_
      refine lv_isub hx hb dX10_text_53 ?_
      obtain rfl := Option.some.inj h
      exact W.iret hx hb hr (r_end X hP hS) hS.2.2 dX10_text_54 (hlocks := hlk)
  · rw [if_neg c_1] at h
    refine lv_bipush (v := (-4)) hx hb dX10_text_12 (by decide) ?_
    refine W.widen (k := 1) (n := 5) (Nat.zero_le _) (Nat.zero_le _) ?_
    obtain rfl := Option.some.inj h
    exact W.iret hx hb hr (r_end X hP hS) hS.2.2 dX10_text_14 (hlocks := hlk)
