def f_X11_go_2 (k21 : Mem → Option (Mem)) : Nat → Int32 → Mem → Option (Mem)
  | 0, _, _ => none
  | fu_3 + 1, x1_1, M_2 => (if 50 ≤ x1_1 then (k21 M_2) else (if ibd (x1_1) 50 then (f_X11_go_2 k21 fu_3 ((x1_1 + 1)) (upd2 M_2 15 (Int32.toNatClampNeg (x1_1)) ((-1)))) else none))
def f_X11_go_23 (k42 : Mem → Option (Mem)) : Nat → Int32 → Mem → Option (Mem)
  | 0, _, _ => none
  | fu_10 + 1, x1_8, M_9 => (if 20 ≤ x1_8 then (k42 M_9) else (if ibd (x1_8) 20 then (f_X11_go_23 k42 fu_10 ((x1_8 + 1)) (upd2 M_9 16 (Int32.toNatClampNeg (x1_8)) (0))) else none))
def f_X11_go_44 (k76 : Mem → Option (Mem)) : Nat → Int32 → Mem → Option (Mem)
  | 0, _, _ => none
  | fu_17 + 1, x1_15, M_16 => (if 4 ≤ x1_15 then (k76 M_16) else (if ibd (x1_15) 4 then (if ibd (x1_15) 4 then (if ibd (x1_15) 4 then (f_X11_go_44 k76 fu_17 ((x1_15 + 1)) (upd2 (upd2 (upd2 M_16 17 (Int32.toNatClampNeg (x1_15)) (0)) 18 (Int32.toNatClampNeg (x1_15)) ((-1))) 19 (Int32.toNatClampNeg (x1_15)) ((-1)))) else none) else none) else none))
def f_X11_go_78 (k97 : Mem → Option (Mem)) : Nat → Int32 → Mem → Option (Mem)
  | 0, _, _ => none
  | fu_26 + 1, x1_24, M_25 => (if 10 ≤ x1_24 then (k97 M_25) else (if ibd (x1_24) 10 then (f_X11_go_78 k97 fu_26 ((x1_24 + 1)) (upd2 M_25 20 (Int32.toNatClampNeg (x1_24)) ((-1)))) else none))
def f_X11_go_107 (x1_35 : Int32) (k136 : Mem → Option (Mem)) : Nat → Int32 → Mem → Option (Mem)
  | 0, _, _ => none
  | fu_38 + 1, x2_36, M_37 => (if (M_37 0 0) ≤ x2_36 then (k136 M_37) else (Option.bind (f_X11_comes M_37 (x2_36) (x1_35)) fun r_40 => (if r_40 = 0 then (f_X11_go_107 x1_35 k136 fu_38 ((x2_36 + 1)) M_37) else (Option.bind (f_X11_come M_37 (x2_36) (x1_35)) fun r_42 => (f_X11_go_107 x1_35 k136 fu_38 ((x2_36 + 1)) r_42)))))
def f_X11_go_99 : Nat → Int32 → Mem → Option (Mem)
  | 0, _, _ => none
  | fu_33 + 1, x1_31, M_32 => (if 48 ≤ x1_31 then some (M_32) else (f_X11_go_107 (x1_31) (fun M_44 => (f_X11_go_99 fu_33 ((x1_31 + 1)) M_44)) FU (0) M_32))
def f_X11_go (M : Mem) : Option (Mem) :=
  (f_X11_go_2 (fun M_7 => (f_X11_go_23 (fun M_14 => (f_X11_go_44 (fun M_23 => (f_X11_go_78 (fun M_30 => (f_X11_go_99 FU (0) M_30)) FU (0) M_23)) FU (0) M_14)) FU (0) M_7)) FU (0) M)
set_option maxRecDepth 100000 in
set_option maxHeartbeats 4000000 in
theorem c_X11_go (l : Launch) {G : GT} {φ : Nat → Nat} {n : Nat} {M : Mem} {L : Nat → Int64} (hI : wI φ n) (hn : 32 ≤ n) {r : Mem} (h : f_X11_go M = some r) : CT l yX11_go cX11_go 3 none ({ frames := 3, cells := 0, slots := 0, locals := 70 } : Room) [.ref (φ 0)] (WB (cM G φ L) φ M n G) (none) (WB (cM G φ L) φ (r) n G) φ n := by
  unfold f_X11_go at h
  refine r_start (plainFor_of_name (by decide)) (Nat.le_of_ble_eq_true rfl) hI ?_
  intro p e s m args below meth c ls X hr hlk hP hl
  have hS : va_S (wA φ n s.heap.size) s.heap s.heap [] := va_S.rf
  have hx := X.1.1
  have hb := X.1.2.1
  have hl : lv_has ls 3 [(0, .ref (φ 0))] := hl
  have L2 : ∀ (fu_3 : Nat) (M_2 : Mem) (k21 : Mem → Option (Mem)) (x1_1 : Int32)  (H : Heap) (locs : List Loc) (ls : Array Slot), va_P G.1 vwCl (wW (cM G φ L) φ M_2 n) H → va_S (wA φ n s.heap.size) s.heap H locs → lv_has ls 3 [(0, .ref (φ 0)), (1, .int (x1_1))] → (∀ (M_6 : Mem) (H : Heap) (locs : List Loc) (ls : Array Slot), va_P G.1 vwCl (wW (cM G φ L) φ M_6 n) H → va_S (wA φ n s.heap.size) s.heap H locs → lv_has ls 3 [(0, .ref (φ 0))] → k21 M_6 = some r → W p l e ({ frames := 3, cells := 0, slots := 0, locals := 70 } : Room) s m args below meth c H locs 0 0 (MQ below (QQ (none) (WB (cM G φ L) φ (r) n G) (wA φ n s.heap.size)) args s 0 0 (wA φ n s.heap.size)) (F0 m 21 ls [])) → f_X11_go_2 k21 fu_3 x1_1 M_2 = some r → W p l e ({ frames := 3, cells := 0, slots := 0, locals := 70 } : Room) s m args below meth c H locs 0 0 (MQ below (QQ (none) (WB (cM G φ L) φ (r) n G) (wA φ n s.heap.size)) args s 0 0 (wA φ n s.heap.size)) (F0 m 2 ls []) := by
    intro fu_3
    induction fu_3 with
    | zero =>
      intro M_2 k21 x1_1 H locs ls _ _ _ _ h
      have h : (none : Option (Mem)) = some r := h
      cases h
    | succ fu_3 ih =>
      intro M_2 k21 x1_1 H locs ls hP hS hl hk21 h
      rw [f_X11_go_2] at h
      refine lv_iload_n hx hb dX11_go_2 rfl (lv_at hl 1 rfl) ?_
      refine lv_bipush (v := 50) hx hb dX11_go_3 (by decide) ?_
      refine lv_icmp_ge (tgt := 21) hx hb dX11_go_5 (by decide) (fun c_4 => ?_) (fun c_4 => ?_)
      · rw [if_pos c_4] at h
        exact hk21 _ _ _ _ hP hS (lv_sub hl [0] rfl) h
      · rw [if_neg c_4] at h
        refine lv_aload_n hx hb dX11_go_8 rfl (lv_at hl 0 rfl) ?_
        refine G_X11_52 X.1 hn hP dX11_go_9 ?_
        refine lv_iload_n hx hb dX11_go_12 rfl (lv_at hl 1 rfl) ?_
        refine lv_iconst (v := (-1)) hx hb dX11_go_13 (by decide) ?_
        obtain ⟨c_5, h⟩ := og h
        refine r_iast (k := (Int32.toNatClampNeg (x1_1))) X.1 X.2.2.2.1 hP hS (by omega) sM_readAt rfl (vin c_5) dX11_go_14 (fun H locs hP hS => ?_)
        refine lv_iinc (v := (x1_1 + 1)) (lv' := [(1, .int ((x1_1 + 1))), (0, .ref (φ 0))]) hx hb dX11_go_15 hl (k := 1) rfl (by rw [show Int32.ofInt (1) = 1 from by decide]) (by decide) rfl (fun ls hl => ?_)
        refine lv_goto (tgt := 2) hx hb dX11_go_18 (by decide) ?_
        exact ih _ _ _ _ _ _ hP hS (lv_sub hl [1, 0] rfl) hk21 h
  have L23 : ∀ (fu_10 : Nat) (M_9 : Mem) (k42 : Mem → Option (Mem)) (x1_8 : Int32)  (H : Heap) (locs : List Loc) (ls : Array Slot), va_P G.1 vwCl (wW (cM G φ L) φ M_9 n) H → va_S (wA φ n s.heap.size) s.heap H locs → lv_has ls 3 [(0, .ref (φ 0)), (1, .int (x1_8))] → (∀ (M_13 : Mem) (H : Heap) (locs : List Loc) (ls : Array Slot), va_P G.1 vwCl (wW (cM G φ L) φ M_13 n) H → va_S (wA φ n s.heap.size) s.heap H locs → lv_has ls 3 [(0, .ref (φ 0))] → k42 M_13 = some r → W p l e ({ frames := 3, cells := 0, slots := 0, locals := 70 } : Room) s m args below meth c H locs 0 0 (MQ below (QQ (none) (WB (cM G φ L) φ (r) n G) (wA φ n s.heap.size)) args s 0 0 (wA φ n s.heap.size)) (F0 m 42 ls [])) → f_X11_go_23 k42 fu_10 x1_8 M_9 = some r → W p l e ({ frames := 3, cells := 0, slots := 0, locals := 70 } : Room) s m args below meth c H locs 0 0 (MQ below (QQ (none) (WB (cM G φ L) φ (r) n G) (wA φ n s.heap.size)) args s 0 0 (wA φ n s.heap.size)) (F0 m 23 ls []) := by
    intro fu_10
    induction fu_10 with
    | zero =>
      intro M_9 k42 x1_8 H locs ls _ _ _ _ h
      have h : (none : Option (Mem)) = some r := h
      cases h
    | succ fu_10 ih =>
      intro M_9 k42 x1_8 H locs ls hP hS hl hk42 h
      rw [f_X11_go_23] at h
      refine lv_iload_n hx hb dX11_go_23 rfl (lv_at hl 1 rfl) ?_
      refine lv_bipush (v := 20) hx hb dX11_go_24 (by decide) ?_
      refine lv_icmp_ge (tgt := 42) hx hb dX11_go_26 (by decide) (fun c_11 => ?_) (fun c_11 => ?_)
      · rw [if_pos c_11] at h
        exact hk42 _ _ _ _ hP hS (lv_sub hl [0] rfl) h
      · rw [if_neg c_11] at h
        refine lv_aload_n hx hb dX11_go_29 rfl (lv_at hl 0 rfl) ?_
        refine G_X11_55 X.1 hn hP dX11_go_30 ?_
        refine lv_iload_n hx hb dX11_go_33 rfl (lv_at hl 1 rfl) ?_
        refine lv_iconst (v := 0) hx hb dX11_go_34 (by decide) ?_
        obtain ⟨c_12, h⟩ := og h
        refine r_iast (k := (Int32.toNatClampNeg (x1_8))) X.1 X.2.2.2.1 hP hS (by omega) sM_doneBy rfl (vin c_12) dX11_go_35 (fun H locs hP hS => ?_)
        refine lv_iinc (v := (x1_8 + 1)) (lv' := [(1, .int ((x1_8 + 1))), (0, .ref (φ 0))]) hx hb dX11_go_36 hl (k := 1) rfl (by rw [show Int32.ofInt (1) = 1 from by decide]) (by decide) rfl (fun ls hl => ?_)
        refine lv_goto (tgt := 23) hx hb dX11_go_39 (by decide) ?_
        exact ih _ _ _ _ _ _ hP hS (lv_sub hl [1, 0] rfl) hk42 h
  have L44 : ∀ (fu_17 : Nat) (M_16 : Mem) (k76 : Mem → Option (Mem)) (x1_15 : Int32)  (H : Heap) (locs : List Loc) (ls : Array Slot), va_P G.1 vwCl (wW (cM G φ L) φ M_16 n) H → va_S (wA φ n s.heap.size) s.heap H locs → lv_has ls 3 [(0, .ref (φ 0)), (1, .int (x1_15))] → (∀ (M_22 : Mem) (H : Heap) (locs : List Loc) (ls : Array Slot), va_P G.1 vwCl (wW (cM G φ L) φ M_22 n) H → va_S (wA φ n s.heap.size) s.heap H locs → lv_has ls 3 [(0, .ref (φ 0))] → k76 M_22 = some r → W p l e ({ frames := 3, cells := 0, slots := 0, locals := 70 } : Room) s m args below meth c H locs 0 0 (MQ below (QQ (none) (WB (cM G φ L) φ (r) n G) (wA φ n s.heap.size)) args s 0 0 (wA φ n s.heap.size)) (F0 m 76 ls [])) → f_X11_go_44 k76 fu_17 x1_15 M_16 = some r → W p l e ({ frames := 3, cells := 0, slots := 0, locals := 70 } : Room) s m args below meth c H locs 0 0 (MQ below (QQ (none) (WB (cM G φ L) φ (r) n G) (wA φ n s.heap.size)) args s 0 0 (wA φ n s.heap.size)) (F0 m 44 ls []) := by
    intro fu_17
    induction fu_17 with
    | zero =>
      intro M_16 k76 x1_15 H locs ls _ _ _ _ h
      have h : (none : Option (Mem)) = some r := h
      cases h
    | succ fu_17 ih =>
      intro M_16 k76 x1_15 H locs ls hP hS hl hk76 h
      rw [f_X11_go_44] at h
      refine lv_iload_n hx hb dX11_go_44 rfl (lv_at hl 1 rfl) ?_
      refine lv_iconst (v := 4) hx hb dX11_go_45 (by decide) ?_
      refine lv_icmp_ge (tgt := 76) hx hb dX11_go_46 (by decide) (fun c_18 => ?_) (fun c_18 => ?_)
      · rw [if_pos c_18] at h
        exact hk76 _ _ _ _ hP hS (lv_sub hl [0] rfl) h
      · rw [if_neg c_18] at h
        refine lv_aload_n hx hb dX11_go_49 rfl (lv_at hl 0 rfl) ?_
        refine G_X11_58 X.1 hn hP dX11_go_50 ?_
        refine lv_iload_n hx hb dX11_go_53 rfl (lv_at hl 1 rfl) ?_
        refine lv_iconst (v := 0) hx hb dX11_go_54 (by decide) ?_
        obtain ⟨c_19, h⟩ := og h
        refine r_iast (k := (Int32.toNatClampNeg (x1_15))) X.1 X.2.2.2.1 hP hS (by omega) sM_doneAll rfl (vin c_19) dX11_go_55 (fun H locs hP hS => ?_)
        refine lv_aload_n hx hb dX11_go_56 rfl (lv_at hl 0 rfl) ?_
        refine G_X11_61 X.1 hn hP dX11_go_57 ?_
        refine lv_iload_n hx hb dX11_go_60 rfl (lv_at hl 1 rfl) ?_
        refine lv_iconst (v := (-1)) hx hb dX11_go_61 (by decide) ?_
        obtain ⟨c_20, h⟩ := og h
        refine r_iast (k := (Int32.toNatClampNeg (x1_15))) X.1 X.2.2.2.1 hP hS (by omega) sM_doneHour rfl (vin c_20) dX11_go_62 (fun H locs hP hS => ?_)
        refine lv_aload_n hx hb dX11_go_63 rfl (lv_at hl 0 rfl) ?_
        refine G_X11_64 X.1 hn hP dX11_go_64 ?_
        refine lv_iload_n hx hb dX11_go_67 rfl (lv_at hl 1 rfl) ?_
        refine lv_iconst (v := (-1)) hx hb dX11_go_68 (by decide) ?_
        obtain ⟨c_21, h⟩ := og h
        refine r_iast (k := (Int32.toNatClampNeg (x1_15))) X.1 X.2.2.2.1 hP hS (by omega) sM_doneWho rfl (vin c_21) dX11_go_69 (fun H locs hP hS => ?_)
        refine lv_iinc (v := (x1_15 + 1)) (lv' := [(1, .int ((x1_15 + 1))), (0, .ref (φ 0))]) hx hb dX11_go_70 hl (k := 1) rfl (by rw [show Int32.ofInt (1) = 1 from by decide]) (by decide) rfl (fun ls hl => ?_)
        refine lv_goto (tgt := 44) hx hb dX11_go_73 (by decide) ?_
        exact ih _ _ _ _ _ _ hP hS (lv_sub hl [1, 0] rfl) hk76 h
  have L78 : ∀ (fu_26 : Nat) (M_25 : Mem) (k97 : Mem → Option (Mem)) (x1_24 : Int32)  (H : Heap) (locs : List Loc) (ls : Array Slot), va_P G.1 vwCl (wW (cM G φ L) φ M_25 n) H → va_S (wA φ n s.heap.size) s.heap H locs → lv_has ls 3 [(0, .ref (φ 0)), (1, .int (x1_24))] → (∀ (M_29 : Mem) (H : Heap) (locs : List Loc) (ls : Array Slot), va_P G.1 vwCl (wW (cM G φ L) φ M_29 n) H → va_S (wA φ n s.heap.size) s.heap H locs → lv_has ls 3 [(0, .ref (φ 0))] → k97 M_29 = some r → W p l e ({ frames := 3, cells := 0, slots := 0, locals := 70 } : Room) s m args below meth c H locs 0 0 (MQ below (QQ (none) (WB (cM G φ L) φ (r) n G) (wA φ n s.heap.size)) args s 0 0 (wA φ n s.heap.size)) (F0 m 97 ls [])) → f_X11_go_78 k97 fu_26 x1_24 M_25 = some r → W p l e ({ frames := 3, cells := 0, slots := 0, locals := 70 } : Room) s m args below meth c H locs 0 0 (MQ below (QQ (none) (WB (cM G φ L) φ (r) n G) (wA φ n s.heap.size)) args s 0 0 (wA φ n s.heap.size)) (F0 m 78 ls []) := by
    intro fu_26
    induction fu_26 with
    | zero =>
      intro M_25 k97 x1_24 H locs ls _ _ _ _ h
      have h : (none : Option (Mem)) = some r := h
      cases h
    | succ fu_26 ih =>
      intro M_25 k97 x1_24 H locs ls hP hS hl hk97 h
      rw [f_X11_go_78] at h
      refine lv_iload_n hx hb dX11_go_78 rfl (lv_at hl 1 rfl) ?_
      refine lv_bipush (v := 10) hx hb dX11_go_79 (by decide) ?_
      refine lv_icmp_ge (tgt := 97) hx hb dX11_go_81 (by decide) (fun c_27 => ?_) (fun c_27 => ?_)
      · rw [if_pos c_27] at h
        exact hk97 _ _ _ _ hP hS (lv_sub hl [0] rfl) h
      · rw [if_neg c_27] at h
        refine lv_aload_n hx hb dX11_go_84 rfl (lv_at hl 0 rfl) ?_
        refine G_X11_67 X.1 hn hP dX11_go_85 ?_
        refine lv_iload_n hx hb dX11_go_88 rfl (lv_at hl 1 rfl) ?_
        refine lv_iconst (v := (-1)) hx hb dX11_go_89 (by decide) ?_
        obtain ⟨c_28, h⟩ := og h
        refine r_iast (k := (Int32.toNatClampNeg (x1_24))) X.1 X.2.2.2.1 hP hS (by omega) sM_takenAt rfl (vin c_28) dX11_go_90 (fun H locs hP hS => ?_)
        refine lv_iinc (v := (x1_24 + 1)) (lv' := [(1, .int ((x1_24 + 1))), (0, .ref (φ 0))]) hx hb dX11_go_91 hl (k := 1) rfl (by rw [show Int32.ofInt (1) = 1 from by decide]) (by decide) rfl (fun ls hl => ?_)
        refine lv_goto (tgt := 78) hx hb dX11_go_94 (by decide) ?_
        exact ih _ _ _ _ _ _ hP hS (lv_sub hl [1, 0] rfl) hk97 h
  have L107 : ∀ (fu_38 : Nat) (M_37 : Mem) (x1_35 : Int32) (k136 : Mem → Option (Mem)) (x2_36 : Int32)  (H : Heap) (locs : List Loc) (ls : Array Slot), va_P G.1 vwCl (wW (cM G φ L) φ M_37 n) H → va_S (wA φ n s.heap.size) s.heap H locs → lv_has ls 3 [(0, .ref (φ 0)), (1, .int (x1_35)), (2, .int (x2_36))] → (∀ (M_43 : Mem) (H : Heap) (locs : List Loc) (ls : Array Slot), va_P G.1 vwCl (wW (cM G φ L) φ M_43 n) H → va_S (wA φ n s.heap.size) s.heap H locs → lv_has ls 3 [(0, .ref (φ 0)), (1, .int (x1_35))] → k136 M_43 = some r → W p l e ({ frames := 3, cells := 0, slots := 0, locals := 70 } : Room) s m args below meth c H locs 0 0 (MQ below (QQ (none) (WB (cM G φ L) φ (r) n G) (wA φ n s.heap.size)) args s 0 0 (wA φ n s.heap.size)) (F0 m 136 ls [])) → f_X11_go_107 x1_35 k136 fu_38 x2_36 M_37 = some r → W p l e ({ frames := 3, cells := 0, slots := 0, locals := 70 } : Room) s m args below meth c H locs 0 0 (MQ below (QQ (none) (WB (cM G φ L) φ (r) n G) (wA φ n s.heap.size)) args s 0 0 (wA φ n s.heap.size)) (F0 m 107 ls []) := by
    intro fu_38
    induction fu_38 with
    | zero =>
      intro M_37 x1_35 k136 x2_36 H locs ls _ _ _ _ h
      have h : (none : Option (Mem)) = some r := h
      cases h
    | succ fu_38 ih =>
      intro M_37 x1_35 k136 x2_36 H locs ls hP hS hl hk136 h
      rw [f_X11_go_107] at h
      refine lv_iload_n hx hb dX11_go_107 rfl (lv_at hl 2 rfl) ?_
      refine lv_aload_n hx hb dX11_go_108 rfl (lv_at hl 0 rfl) ?_
      refine G_X11_123 X.1 hn hP dX11_go_109 ?_
      refine lv_icmp_ge (tgt := 136) hx hb dX11_go_112 (by decide) (fun c_39 => ?_) (fun c_39 => ?_)
      · rw [if_pos c_39] at h
        exact hk136 _ _ _ _ hP hS (lv_sub hl [0, 1] rfl) h
      · rw [if_neg c_39] at h
        refine lv_aload_n hx hb dX11_go_115 rfl (lv_at hl 0 rfl) ?_
        refine lv_iload_n hx hb dX11_go_116 rfl (lv_at hl 2 rfl) ?_
        refine lv_iload_n hx hb dX11_go_117 rfl (lv_at hl 1 rfl) ?_
        obtain ⟨r_40, hr_40, h⟩ := ob h
        refine c_V0 (As := [.int (x2_36), .int (x1_35)]) (rest := []) (a := 0) X hl.1 (c_X11_comes l X.2.2.2.1.1 hn hr_40) (w_X11_246) qw_1207 qw_51 ⟨Nat.le_of_ble_eq_true rfl, Nat.le_of_ble_eq_true rfl⟩ rfl rfl hP hS (by omega) sM_Model rfl rfl (Nat.le_of_ble_eq_true rfl) dX11_go_118 (fun H locs hP hS => ?_)
        refine lv_if_eq (tgt := 130) hx hb dX11_go_121 (by decide) (fun c_41 => ?_) (fun c_41 => ?_)
        · rw [if_pos c_41] at h
          refine lv_iinc (v := (x2_36 + 1)) (lv' := [(2, .int ((x2_36 + 1))), (0, .ref (φ 0)), (1, .int (x1_35))]) hx hb dX11_go_130 hl (k := 2) rfl (by rw [show Int32.ofInt (1) = 1 from by decide]) (by decide) rfl (fun ls hl => ?_)
          refine lv_goto (tgt := 107) hx hb dX11_go_133 (by decide) ?_
          exact ih _ _ _ _ _ _ _ hP hS (lv_sub hl [1, 2, 0] rfl) hk136 h
        · rw [if_neg c_41] at h
          refine lv_aload_n hx hb dX11_go_124 rfl (lv_at hl 0 rfl) ?_
          refine lv_iload_n hx hb dX11_go_125 rfl (lv_at hl 2 rfl) ?_
          refine lv_iload_n hx hb dX11_go_126 rfl (lv_at hl 1 rfl) ?_
          obtain ⟨r_42, hr_42, h⟩ := ob h
          refine c_V0 (As := [.int (x2_36), .int (x1_35)]) (rest := []) (a := 0) X hl.1 (c_X11_come l X.2.2.2.1.1 hn hr_42) (w_X11_250) qw_1211 qw_52 ⟨Nat.le_of_ble_eq_true rfl, Nat.le_of_ble_eq_true rfl⟩ rfl rfl hP hS (by omega) sM_Model rfl rfl (Nat.le_of_ble_eq_true rfl) dX11_go_127 (fun H locs hP hS => ?_)
          refine lv_iinc (v := (x2_36 + 1)) (lv' := [(2, .int ((x2_36 + 1))), (0, .ref (φ 0)), (1, .int (x1_35))]) hx hb dX11_go_130 hl (k := 2) rfl (by rw [show Int32.ofInt (1) = 1 from by decide]) (by decide) rfl (fun ls hl => ?_)
          refine lv_goto (tgt := 107) hx hb dX11_go_133 (by decide) ?_
          exact ih _ _ _ _ _ _ _ hP hS (lv_sub hl [1, 2, 0] rfl) hk136 h
  have L99 : ∀ (fu_33 : Nat) (M_32 : Mem) (x1_31 : Int32)  (H : Heap) (locs : List Loc) (ls : Array Slot), va_P G.1 vwCl (wW (cM G φ L) φ M_32 n) H → va_S (wA φ n s.heap.size) s.heap H locs → lv_has ls 3 [(0, .ref (φ 0)), (1, .int (x1_31))] → f_X11_go_99 fu_33 x1_31 M_32 = some r → W p l e ({ frames := 3, cells := 0, slots := 0, locals := 70 } : Room) s m args below meth c H locs 0 0 (MQ below (QQ (none) (WB (cM G φ L) φ (r) n G) (wA φ n s.heap.size)) args s 0 0 (wA φ n s.heap.size)) (F0 m 99 ls []) := by
    intro fu_33
    induction fu_33 with
    | zero =>
      intro M_32 x1_31 H locs ls _ _ _  h
      have h : (none : Option (Mem)) = some r := h
      cases h
    | succ fu_33 ih =>
      intro M_32 x1_31 H locs ls hP hS hl  h
      rw [f_X11_go_99] at h
      refine lv_iload_n hx hb dX11_go_99 rfl (lv_at hl 1 rfl) ?_
      refine lv_bipush (v := 48) hx hb dX11_go_100 (by decide) ?_
      refine lv_icmp_ge (tgt := 142) hx hb dX11_go_102 (by decide) (fun c_34 => ?_) (fun c_34 => ?_)
      · rw [if_pos c_34] at h
        obtain rfl := Option.some.inj h
        exact W.vret hx hb hr (r_end X hP hS) hS.2.2 dX11_go_142 (hlocks := hlk)
      · rw [if_neg c_34] at h
        refine lv_iconst (v := 0) hx hb dX11_go_105 (by decide) ?_
        refine lv_istore_n (lv' := [(2, .int (0)), (0, .ref (φ 0)), (1, .int (x1_31))]) hx hb dX11_go_106 rfl hl (by decide) rfl (fun ls hl => ?_)
        refine L107 _ _ _ _ _ _ _ _ hP hS (lv_sub hl [1, 2, 0] rfl) (fun M_44 H locs ls hP hS hl h => ?_) h
        · try dsimp only at h
          refine lv_iinc (v := (x1_31 + 1)) (lv' := [(1, .int ((x1_31 + 1))), (0, .ref (φ 0))]) hx hb dX11_go_136 hl (k := 1) rfl (by rw [show Int32.ofInt (1) = 1 from by decide]) (by decide) rfl (fun ls hl => ?_)
          refine lv_goto (tgt := 99) hx hb dX11_go_139 (by decide) ?_
          exact ih _ _ _ _ _ hP hS (lv_sub hl [1, 0] rfl)  h
  refine lv_iconst (v := 0) hx hb dX11_go_0 (by decide) ?_
  refine lv_istore_n (lv' := [(1, .int (0)), (0, .ref (φ 0))]) hx hb dX11_go_1 rfl hl (by decide) rfl (fun ls hl => ?_)
  refine L2 _ _ _ _ _ _ _ hP hS (lv_sub hl [1, 0] rfl) (fun M_7 H locs ls hP hS hl h => ?_) h
  · try dsimp only at h
    refine lv_iconst (v := 0) hx hb dX11_go_21 (by decide) ?_
    refine lv_istore_n (lv' := [(1, .int (0)), (0, .ref (φ 0))]) hx hb dX11_go_22 rfl hl (by decide) rfl (fun ls hl => ?_)
    refine L23 _ _ _ _ _ _ _ hP hS (lv_sub hl [1, 0] rfl) (fun M_14 H locs ls hP hS hl h => ?_) h
    · try dsimp only at h
      refine lv_iconst (v := 0) hx hb dX11_go_42 (by decide) ?_
      refine lv_istore_n (lv' := [(1, .int (0)), (0, .ref (φ 0))]) hx hb dX11_go_43 rfl hl (by decide) rfl (fun ls hl => ?_)
      refine L44 _ _ _ _ _ _ _ hP hS (lv_sub hl [1, 0] rfl) (fun M_23 H locs ls hP hS hl h => ?_) h
      · try dsimp only at h
        refine lv_iconst (v := 0) hx hb dX11_go_76 (by decide) ?_
        refine lv_istore_n (lv' := [(1, .int (0)), (0, .ref (φ 0))]) hx hb dX11_go_77 rfl hl (by decide) rfl (fun ls hl => ?_)
        refine L78 _ _ _ _ _ _ _ hP hS (lv_sub hl [1, 0] rfl) (fun M_30 H locs ls hP hS hl h => ?_) h
        · try dsimp only at h
          refine lv_iconst (v := 0) hx hb dX11_go_97 (by decide) ?_
          refine lv_istore_n (lv' := [(1, .int (0)), (0, .ref (φ 0))]) hx hb dX11_go_98 rfl hl (by decide) rfl (fun ls hl => ?_)
          refine L99 _ _ _ _ _ _ hP hS (lv_sub hl [1, 0] rfl)  h

def f_X11_lying_4 (M : Mem) (x1_1 : Int32) : Nat → Int32 → Int32 → Option (Int32)
  | 0, _, _ => none
  | fu_4 + 1, x2_2, x3_3 => (if (M 0 5) ≤ x3_3 then some (x2_2) else (Option.bind (f_X11_there M (x3_3) (x1_1)) fun r_6 => (if r_6 = 0 then (f_X11_lying_4 M x1_1 fu_4 (x2_2) ((x3_3 + 1))) else (if ibd (x3_3) 10 then (if (M 20 (Int32.toNatClampNeg (x3_3))) = (-1) then (f_X11_lying_4 M x1_1 fu_4 ((x2_2 ||| ((1 : Int32) <<< (x3_3 &&& 31)))) ((x3_3 + 1))) else (if ibd (x3_3) 10 then (if (M 20 (Int32.toNatClampNeg (x3_3))) ≤ x1_1 then (f_X11_lying_4 M x1_1 fu_4 (x2_2) ((x3_3 + 1))) else (f_X11_lying_4 M x1_1 fu_4 ((x2_2 ||| ((1 : Int32) <<< (x3_3 &&& 31)))) ((x3_3 + 1)))) else none)) else none))))
def f_X11_lying (M : Mem) (a1 : Int32) : Option (Int32) :=
  (f_X11_lying_4 M (a1) FU (0) (0))
set_option maxRecDepth 100000 in
set_option maxHeartbeats 4000000 in
theorem c_X11_lying (l : Launch) {G : GT} {φ : Nat → Nat} {n : Nat} {M : Mem} {L : Nat → Int64} {a1 : Int32} (hI : wI φ n) (hn : 32 ≤ n) {r : Int32} (h : f_X11_lying M a1 = some r) : CT l yX11_lying cX11_lying 4 (some .int) ({ frames := 2, cells := 0, slots := 0, locals := 43 } : Room) [.ref (φ 0), .int (a1)] (WB (cM G φ L) φ M n G) (some (.int r)) (WB (cM G φ L) φ (M) n G) φ n := by
  unfold f_X11_lying at h
  refine r_start (plainFor_of_name (by decide)) (Nat.le_of_ble_eq_true rfl) hI ?_
  intro p e s m args below meth c ls X hr hlk hP hl
  have hS : va_S (wA φ n s.heap.size) s.heap s.heap [] := va_S.rf
  have hx := X.1.1
  have hb := X.1.2.1
  have hl : lv_has ls 4 [(0, .ref (φ 0)), (1, .int (a1))] := hl
  have L4 : ∀ (fu_4 : Nat) (x1_1 : Int32) (x2_2 : Int32) (x3_3 : Int32)  (H : Heap) (locs : List Loc) (ls : Array Slot), va_P G.1 vwCl (wW (cM G φ L) φ M n) H → va_S (wA φ n s.heap.size) s.heap H locs → lv_has ls 4 [(0, .ref (φ 0)), (1, .int (x1_1)), (2, .int (x2_2)), (3, .int (x3_3))] → f_X11_lying_4 M x1_1 fu_4 x2_2 x3_3 = some r → W p l e ({ frames := 2, cells := 0, slots := 0, locals := 43 } : Room) s m args below meth c H locs 0 0 (MQ below (QQ (some (.int r)) (WB (cM G φ L) φ (M) n G) (wA φ n s.heap.size)) args s 0 0 (wA φ n s.heap.size)) (F0 m 4 ls []) := by
    intro fu_4
    induction fu_4 with
    | zero =>
      intro x1_1 x2_2 x3_3 H locs ls _ _ _  h
      have h : (none : Option (Int32)) = some r := h
      cases h
    | succ fu_4 ih =>
      intro x1_1 x2_2 x3_3 H locs ls hP hS hl  h
      rw [f_X11_lying_4] at h
      refine lv_iload_n hx hb dX11_lying_4 rfl (lv_at hl 3 rfl) ?_
      refine lv_aload_n hx hb dX11_lying_5 rfl (lv_at hl 0 rfl) ?_
      refine G_X11_131 X.1 hn hP dX11_lying_6 ?_
      refine lv_icmp_ge (tgt := 53) hx hb dX11_lying_9 (by decide) (fun c_5 => ?_) (fun c_5 => ?_)
      · rw [if_pos c_5] at h
        refine lv_iload_n hx hb dX11_lying_53 rfl (lv_at hl 2 rfl) ?_
        obtain rfl := Option.some.inj h
        exact W.iret hx hb hr (r_end X hP hS) hS.2.2 dX11_lying_54 (hlocks := hlk)
      · rw [if_neg c_5] at h
        refine lv_aload_n hx hb dX11_lying_12 rfl (lv_at hl 0 rfl) ?_
        refine lv_iload_n hx hb dX11_lying_13 rfl (lv_at hl 3 rfl) ?_
        refine lv_iload_n hx hb dX11_lying_14 rfl (lv_at hl 1 rfl) ?_
        obtain ⟨r_6, hr_6, h⟩ := ob h
        refine c_V0 (As := [.int (x3_3), .int (x1_1)]) (rest := []) (a := 0) X hl.1 (c_X11_there l X.2.2.2.1.1 hn hr_6) (w_X11_254) qw_1215 qw_53 ⟨Nat.le_of_ble_eq_true rfl, Nat.le_of_ble_eq_true rfl⟩ rfl rfl hP hS (by omega) sM_Model rfl rfl (Nat.le_of_ble_eq_true rfl) dX11_lying_15 (fun H locs hP hS => ?_)
        refine lv_if_eq (tgt := 47) hx hb dX11_lying_18 (by decide) (fun c_7 => ?_) (fun c_7 => ?_)
        · rw [if_pos c_7] at h
          refine lv_iinc (v := (x3_3 + 1)) (lv' := [(3, .int ((x3_3 + 1))), (0, .ref (φ 0)), (1, .int (x1_1)), (2, .int (x2_2))]) hx hb dX11_lying_47 hl (k := 3) rfl (by rw [show Int32.ofInt (1) = 1 from by decide]) (by decide) rfl (fun ls hl => ?_)
          refine lv_goto (tgt := 4) hx hb dX11_lying_50 (by decide) ?_
          exact ih _ _ _ _ _ _ hP hS (lv_sub hl [1, 2, 3, 0] rfl)  h
        · rw [if_neg c_7] at h
          refine lv_aload_n hx hb dX11_lying_21 rfl (lv_at hl 0 rfl) ?_
          refine G_X11_67 X.1 hn hP dX11_lying_22 ?_
          refine lv_iload_n hx hb dX11_lying_25 rfl (lv_at hl 3 rfl) ?_
          obtain ⟨c_8, h⟩ := og h
          refine r_iald (k := (Int32.toNatClampNeg (x3_3))) X.1 hP (by omega) sM_takenAt rfl (vin c_8) dX11_lying_26 ?_
          refine lv_iconst (v := (-1)) hx hb dX11_lying_27 (by decide) ?_
          refine lv_icmp_eq (tgt := 41) hx hb dX11_lying_28 (by decide) (fun c_9 => ?_) (fun c_9 => ?_)
          · rw [if_pos c_9] at h
            refine lv_iload_n hx hb dX11_lying_41 rfl (lv_at hl 2 rfl) ?_
            refine lv_iconst (v := 1) hx hb dX11_lying_42 (by decide) ?_
            refine lv_iload_n hx hb dX11_lying_43 rfl (lv_at hl 3 rfl) ?_
            refine lv_ishl hx hb dX11_lying_44 ?_
            refine lv_ior hx hb dX11_lying_45 ?_
            refine lv_istore_n (lv' := [(2, .int ((x2_2 ||| ((1 : Int32) <<< (x3_3 &&& 31))))), (0, .ref (φ 0)), (1, .int (x1_1)), (3, .int (x3_3))]) hx hb dX11_lying_46 rfl hl (by decide) rfl (fun ls hl => ?_)
            refine lv_iinc (v := (x3_3 + 1)) (lv' := [(3, .int ((x3_3 + 1))), (2, .int ((x2_2 ||| ((1 : Int32) <<< (x3_3 &&& 31))))), (0, .ref (φ 0)), (1, .int (x1_1))]) hx hb dX11_lying_47 hl (k := 3) rfl (by rw [show Int32.ofInt (1) = 1 from by decide]) (by decide) rfl (fun ls hl => ?_)
            refine lv_goto (tgt := 4) hx hb dX11_lying_50 (by decide) ?_
            exact ih _ _ _ _ _ _ hP hS (lv_sub hl [2, 3, 1, 0] rfl)  h
          · rw [if_neg c_9] at h
            refine lv_aload_n hx hb dX11_lying_31 rfl (lv_at hl 0 rfl) ?_
            refine G_X11_67 X.1 hn hP dX11_lying_32 ?_
            refine lv_iload_n hx hb dX11_lying_35 rfl (lv_at hl 3 rfl) ?_
            obtain ⟨c_10, h⟩ := og h
            refine r_iald (k := (Int32.toNatClampNeg (x3_3))) X.1 hP (by omega) sM_takenAt rfl (vin c_10) dX11_lying_36 ?_
            refine lv_iload_n hx hb dX11_lying_37 rfl (lv_at hl 1 rfl) ?_
            refine lv_icmp_le (tgt := 47) hx hb dX11_lying_38 (by decide) (fun c_11 => ?_) (fun c_11 => ?_)
            · rw [if_pos c_11] at h
              refine lv_iinc (v := (x3_3 + 1)) (lv' := [(3, .int ((x3_3 + 1))), (0, .ref (φ 0)), (1, .int (x1_1)), (2, .int (x2_2))]) hx hb dX11_lying_47 hl (k := 3) rfl (by rw [show Int32.ofInt (1) = 1 from by decide]) (by decide) rfl (fun ls hl => ?_)
              refine lv_goto (tgt := 4) hx hb dX11_lying_50 (by decide) ?_
              exact ih _ _ _ _ _ _ hP hS (lv_sub hl [1, 2, 3, 0] rfl)  h
            · rw [if_neg c_11] at h
              refine lv_iload_n hx hb dX11_lying_41 rfl (lv_at hl 2 rfl) ?_
              refine lv_iconst (v := 1) hx hb dX11_lying_42 (by decide) ?_
              refine lv_iload_n hx hb dX11_lying_43 rfl (lv_at hl 3 rfl) ?_
              refine lv_ishl hx hb dX11_lying_44 ?_
              refine lv_ior hx hb dX11_lying_45 ?_
              refine lv_istore_n (lv' := [(2, .int ((x2_2 ||| ((1 : Int32) <<< (x3_3 &&& 31))))), (0, .ref (φ 0)), (1, .int (x1_1)), (3, .int (x3_3))]) hx hb dX11_lying_46 rfl hl (by decide) rfl (fun ls hl => ?_)
              refine lv_iinc (v := (x3_3 + 1)) (lv' := [(3, .int ((x3_3 + 1))), (2, .int ((x2_2 ||| ((1 : Int32) <<< (x3_3 &&& 31))))), (0, .ref (φ 0)), (1, .int (x1_1))]) hx hb dX11_lying_47 hl (k := 3) rfl (by rw [show Int32.ofInt (1) = 1 from by decide]) (by decide) rfl (fun ls hl => ?_)
              refine lv_goto (tgt := 4) hx hb dX11_lying_50 (by decide) ?_
              exact ih _ _ _ _ _ _ hP hS (lv_sub hl [2, 3, 1, 0] rfl)  h
  refine lv_iconst (v := 0) hx hb dX11_lying_0 (by decide) ?_
  refine lv_istore_n (lv' := [(2, .int (0)), (0, .ref (φ 0)), (1, .int (a1))]) hx hb dX11_lying_1 rfl hl (by decide) rfl (fun ls hl => ?_)
  refine lv_iconst (v := 0) hx hb dX11_lying_2 (by decide) ?_
  refine lv_istore_n (lv' := [(3, .int (0)), (2, .int (0)), (0, .ref (φ 0)), (1, .int (a1))]) hx hb dX11_lying_3 rfl hl (by decide) rfl (fun ls hl => ?_)
  refine L4 _ _ _ _ _ _ _ hP hS (lv_sub hl [2, 3, 1, 0] rfl)  h

def f_X11_lies (M : Mem) (a1 : Int32) : Option (Int32 × Mem) :=
  (if (f_X11_within (a1) (0) (47)) = 0 then some (((-2), M)) else (Option.bind (f_X11_go M) fun r_2 => (Option.bind (f_X11_lying r_2 (a1)) fun r_3 => some ((r_3, r_2)))))
set_option maxRecDepth 100000 in
set_option maxHeartbeats 4000000 in
theorem c_X11_lies (l : Launch) {G : GT} {φ : Nat → Nat} {n : Nat} {M : Mem} {L : Nat → Int64} {a1 : Int32} (hI : wI φ n) (hn : 32 ≤ n) {r : Int32 × Mem} (h : f_X11_lies M a1 = some r) : CT l yX11_lies cX11_lies 2 (some .int) ({ frames := 4, cells := 0, slots := 0, locals := 92 } : Room) [.ref (φ 0), .int (a1)] (WB (cM G φ L) φ M n G) (some (.int r.1)) (WB (cM G φ L) φ (r.2) n G) φ n := by
  unfold f_X11_lies at h
  refine r_start (plainFor_of_name (by decide)) (Nat.le_of_ble_eq_true rfl) hI ?_
  intro p e s m args below meth c ls X hr hlk hP hl
  have hS : va_S (wA φ n s.heap.size) s.heap s.heap [] := va_S.rf
  have hx := X.1.1
  have hb := X.1.2.1
  have hl : lv_has ls 2 [(0, .ref (φ 0)), (1, .int (a1))] := hl
  refine lv_iload_n hx hb dX11_lies_0 rfl (lv_at hl 1 rfl) ?_
  refine lv_iconst (v := 0) hx hb dX11_lies_1 (by decide) ?_
  refine lv_bipush (v := 47) hx hb dX11_lies_2 (by decide) ?_
  refine c_S0 (As := [.int (a1), .int (0), .int (47)]) (rest := []) X hl.1 (c_X11_within l X.2.2.2.1.1 hn rfl) (w_X11_127) qw_933 ⟨Nat.le_of_ble_eq_true rfl, Nat.le_of_ble_eq_true rfl⟩ rfl rfl hP hS (Nat.le_of_ble_eq_true rfl) dX11_lies_4 (fun H locs hP hS => ?_)
  refine lv_if_ne (tgt := 13) hx hb dX11_lies_7 (by decide) (fun c_1 => ?_) (fun c_1 => ?_)
  · rw [if_neg c_1] at h
    refine lv_aload_n hx hb dX11_lies_13 rfl (lv_at hl 0 rfl) ?_
    obtain ⟨r_2, hr_2, h⟩ := ob h
    refine c_V0 (As := []) (rest := []) (a := 0) X hl.1 (c_X11_go l X.2.2.2.1.1 hn hr_2) (w_X11_264) qw_1203 qw_50 ⟨Nat.le_of_ble_eq_true rfl, Nat.le_of_ble_eq_true rfl⟩ rfl rfl hP hS (by omega) sM_Model rfl rfl (Nat.le_of_ble_eq_true rfl) dX11_lies_14 (fun H locs hP hS => ?_)
    refine lv_aload_n hx hb dX11_lies_17 rfl (lv_at hl 0 rfl) ?_
    refine lv_iload_n hx hb dX11_lies_18 rfl (lv_at hl 1 rfl) ?_
    obtain ⟨r_3, hr_3, h⟩ := ob h
    refine c_V0 (As := [.int (a1)]) (rest := []) (a := 0) X hl.1 (c_X11_lying l X.2.2.2.1.1 hn hr_3) (w_X11_267) qw_1227 qw_56 ⟨Nat.le_of_ble_eq_true rfl, Nat.le_of_ble_eq_true rfl⟩ rfl rfl hP hS (by omega) sM_Model rfl rfl (Nat.le_of_ble_eq_true rfl) dX11_lies_19 (fun H locs hP hS => ?_)
    obtain rfl := Option.some.inj h
    exact W.iret hx hb hr (r_end X hP hS) hS.2.2 dX11_lies_22 (hlocks := hlk)
  · rw [if_pos c_1] at h
    refine lv_bipush (v := (-2)) hx hb dX11_lies_10 (by decide) ?_
    obtain rfl := Option.some.inj h
    exact W.iret hx hb hr (r_end X hP hS) hS.2.2 dX11_lies_12 (hlocks := hlk)

def f_X11_top_28 (M_7 : Mem) (x2_4 : Int32) : Nat → Int32 → Int32 → Option (Int32 × Mem)
  | 0, _, _ => none
  | fu_8 + 1, x3_5, x4_6 => (if (M_7 0 5) ≤ x4_6 then some ((x3_5, M_7)) else (if (((x2_4 : Int32) >>> (x4_6 &&& 31)) &&& 1) = 1 then (Option.bind (f_X11_above M_7 (x4_6) (x3_5)) fun r_11 => (if r_11 = 0 then (f_X11_top_28 M_7 x2_4 fu_8 (x3_5) ((x4_6 + 1))) else (f_X11_top_28 M_7 x2_4 fu_8 (x4_6) ((x4_6 + 1))))) else (f_X11_top_28 M_7 x2_4 fu_8 (x3_5) ((x4_6 + 1)))))
def f_X11_top (M : Mem) (a1 : Int32) : Option (Int32 × Mem) :=
  (if (f_X11_within (a1) (0) (47)) = 0 then some (((-2), M)) else (Option.bind (f_X11_go M) fun r_2 => (Option.bind (f_X11_lying r_2 (a1)) fun r_3 => (f_X11_top_28 r_2 (r_3) FU ((-1)) (0)))))
set_option maxRecDepth 100000 in
set_option maxHeartbeats 4000000 in
theorem c_X11_top (l : Launch) {G : GT} {φ : Nat → Nat} {n : Nat} {M : Mem} {L : Nat → Int64} {a1 : Int32} (hI : wI φ n) (hn : 32 ≤ n) {r : Int32 × Mem} (h : f_X11_top M a1 = some r) : CT l yX11_top cX11_top 5 (some .int) ({ frames := 4, cells := 0, slots := 0, locals := 92 } : Room) [.ref (φ 0), .int (a1)] (WB (cM G φ L) φ M n G) (some (.int r.1)) (WB (cM G φ L) φ (r.2) n G) φ n := by
  unfold f_X11_top at h
  refine r_start (plainFor_of_name (by decide)) (Nat.le_of_ble_eq_true rfl) hI ?_
  intro p e s m args below meth c ls X hr hlk hP hl
  have hS : va_S (wA φ n s.heap.size) s.heap s.heap [] := va_S.rf
  have hx := X.1.1
  have hb := X.1.2.1
  have hl : lv_has ls 5 [(0, .ref (φ 0)), (1, .int (a1))] := hl
  have L28 : ∀ (fu_8 : Nat) (M_7 : Mem) (x2_4 : Int32) (x3_5 : Int32) (x4_6 : Int32)  (H : Heap) (locs : List Loc) (ls : Array Slot), va_P G.1 vwCl (wW (cM G φ L) φ M_7 n) H → va_S (wA φ n s.heap.size) s.heap H locs → lv_has ls 5 [(0, .ref (φ 0)), (2, .int (x2_4)), (3, .int (x3_5)), (4, .int (x4_6))] → f_X11_top_28 M_7 x2_4 fu_8 x3_5 x4_6 = some r → W p l e ({ frames := 4, cells := 0, slots := 0, locals := 92 } : Room) s m args below meth c H locs 0 0 (MQ below (QQ (some (.int r.1)) (WB (cM G φ L) φ (r.2) n G) (wA φ n s.heap.size)) args s 0 0 (wA φ n s.heap.size)) (F0 m 28 ls []) := by
    intro fu_8
    induction fu_8 with
    | zero =>
      intro M_7 x2_4 x3_5 x4_6 H locs ls _ _ _  h
      have h : (none : Option (Int32 × Mem)) = some r := h
      cases h
    | succ fu_8 ih =>
      intro M_7 x2_4 x3_5 x4_6 H locs ls hP hS hl  h
      rw [f_X11_top_28] at h
      refine lv_iload hx hb dX11_top_28 (lv_at hl 3 rfl) ?_
      refine lv_aload_n hx hb dX11_top_30 rfl (lv_at hl 0 rfl) ?_
      refine G_X11_131 X.1 hn hP dX11_top_31 ?_
      refine lv_icmp_ge (tgt := 66) hx hb dX11_top_34 (by decide) (fun c_9 => ?_) (fun c_9 => ?_)
      · rw [if_pos c_9] at h
        refine lv_iload_n hx hb dX11_top_66 rfl (lv_at hl 2 rfl) ?_
        obtain rfl := Option.some.inj h
        exact W.iret hx hb hr (r_end X hP hS) hS.2.2 dX11_top_67 (hlocks := hlk)
      · rw [if_neg c_9] at h
        refine lv_iload_n hx hb dX11_top_37 rfl (lv_at hl 1 rfl) ?_
        refine lv_iload hx hb dX11_top_38 (lv_at hl 3 rfl) ?_
        refine lv_ishr hx hb dX11_top_40 ?_
        refine lv_iconst (v := 1) hx hb dX11_top_41 (by decide) ?_
        refine lv_iand hx hb dX11_top_42 ?_
        refine lv_iconst (v := 1) hx hb dX11_top_43 (by decide) ?_
        refine lv_icmp_ne (tgt := 60) hx hb dX11_top_44 (by decide) (fun c_10 => ?_) (fun c_10 => ?_)
        · rw [if_neg c_10] at h
          refine lv_iinc (v := (x4_6 + 1)) (lv' := [(4, .int ((x4_6 + 1))), (0, .ref (φ 0)), (2, .int (x2_4)), (3, .int (x3_5))]) hx hb dX11_top_60 hl (k := 3) rfl (by rw [show Int32.ofInt (1) = 1 from by decide]) (by decide) rfl (fun ls hl => ?_)
          refine lv_goto (tgt := 28) hx hb dX11_top_63 (by decide) ?_
          exact ih _ _ _ _ _ _ _ hP hS (lv_sub hl [1, 2, 3, 0] rfl)  h
        · rw [if_pos c_10] at h
          refine lv_aload_n hx hb dX11_top_47 rfl (lv_at hl 0 rfl) ?_
          refine lv_iload hx hb dX11_top_48 (lv_at hl 3 rfl) ?_
          refine lv_iload_n hx hb dX11_top_50 rfl (lv_at hl 2 rfl) ?_
          obtain ⟨r_11, hr_11, h⟩ := ob h
          refine c_V0 (As := [.int (x4_6), .int (x3_5)]) (rest := []) (a := 0) X hl.1 (c_X11_above l X.2.2.2.1.1 hn hr_11) (w_X11_257) qw_1219 qw_54 ⟨Nat.le_of_ble_eq_true rfl, Nat.le_of_ble_eq_true rfl⟩ rfl rfl hP hS (by omega) sM_Model rfl rfl (Nat.le_of_ble_eq_true rfl) dX11_top_51 (fun H locs hP hS => ?_)
          refine lv_if_eq (tgt := 60) hx hb dX11_top_54 (by decide) (fun c_12 => ?_) (fun c_12 => ?_)
          · rw [if_pos c_12] at h
            refine lv_iinc (v := (x4_6 + 1)) (lv' := [(4, .int ((x4_6 + 1))), (0, .ref (φ 0)), (2, .int (x2_4)), (3, .int (x3_5))]) hx hb dX11_top_60 hl (k := 3) rfl (by rw [show Int32.ofInt (1) = 1 from by decide]) (by decide) rfl (fun ls hl => ?_)
            refine lv_goto (tgt := 28) hx hb dX11_top_63 (by decide) ?_
            exact ih _ _ _ _ _ _ _ hP hS (lv_sub hl [1, 2, 3, 0] rfl)  h
          · rw [if_neg c_12] at h
            refine lv_iload hx hb dX11_top_57 (lv_at hl 3 rfl) ?_
            refine lv_istore_n (lv' := [(3, .int (x4_6)), (0, .ref (φ 0)), (2, .int (x2_4)), (4, .int (x4_6))]) hx hb dX11_top_59 rfl hl (by decide) rfl (fun ls hl => ?_)
            refine lv_iinc (v := (x4_6 + 1)) (lv' := [(4, .int ((x4_6 + 1))), (3, .int (x4_6)), (0, .ref (φ 0)), (2, .int (x2_4))]) hx hb dX11_top_60 hl (k := 3) rfl (by rw [show Int32.ofInt (1) = 1 from by decide]) (by decide) rfl (fun ls hl => ?_)
            refine lv_goto (tgt := 28) hx hb dX11_top_63 (by decide) ?_
            exact ih _ _ _ _ _ _ _ hP hS (lv_sub hl [2, 3, 1, 0] rfl)  h
  refine lv_iload_n hx hb dX11_top_0 rfl (lv_at hl 1 rfl) ?_
  refine lv_iconst (v := 0) hx hb dX11_top_1 (by decide) ?_
  refine lv_bipush (v := 47) hx hb dX11_top_2 (by decide) ?_
  refine c_S0 (As := [.int (a1), .int (0), .int (47)]) (rest := []) X hl.1 (c_X11_within l X.2.2.2.1.1 hn rfl) (w_X11_127) qw_933 ⟨Nat.le_of_ble_eq_true rfl, Nat.le_of_ble_eq_true rfl⟩ rfl rfl hP hS (Nat.le_of_ble_eq_true rfl) dX11_top_4 (fun H locs hP hS => ?_)
  refine lv_if_ne (tgt := 13) hx hb dX11_top_7 (by decide) (fun c_1 => ?_) (fun c_1 => ?_)
  · rw [if_neg c_1] at h
    refine lv_aload_n hx hb dX11_top_13 rfl (lv_at hl 0 rfl) ?_
    obtain ⟨r_2, hr_2, h⟩ := ob h
    refine c_V0 (As := []) (rest := []) (a := 0) X hl.1 (c_X11_go l X.2.2.2.1.1 hn hr_2) (w_X11_264) qw_1203 qw_50 ⟨Nat.le_of_ble_eq_true rfl, Nat.le_of_ble_eq_true rfl⟩ rfl rfl hP hS (by omega) sM_Model rfl rfl (Nat.le_of_ble_eq_true rfl) dX11_top_14 (fun H locs hP hS => ?_)
    refine lv_aload_n hx hb dX11_top_17 rfl (lv_at hl 0 rfl) ?_
    refine lv_iload_n hx hb dX11_top_18 rfl (lv_at hl 1 rfl) ?_
    obtain ⟨r_3, hr_3, h⟩ := ob h
    refine c_V0 (As := [.int (a1)]) (rest := []) (a := 0) X hl.1 (c_X11_lying l X.2.2.2.1.1 hn hr_3) (w_X11_267) qw_1227 qw_56 ⟨Nat.le_of_ble_eq_true rfl, Nat.le_of_ble_eq_true rfl⟩ rfl rfl hP hS (by omega) sM_Model rfl rfl (Nat.le_of_ble_eq_true rfl) dX11_top_19 (fun H locs hP hS => ?_)
    refine lv_istore_n (lv' := [(2, .int (r_3)), (0, .ref (φ 0)), (1, .int (a1))]) hx hb dX11_top_22 rfl hl (by decide) rfl (fun ls hl => ?_)
    refine lv_iconst (v := (-1)) hx hb dX11_top_23 (by decide) ?_
    refine lv_istore_n (lv' := [(3, .int ((-1))), (2, .int (r_3)), (0, .ref (φ 0)), (1, .int (a1))]) hx hb dX11_top_24 rfl hl (by decide) rfl (fun ls hl => ?_)
    refine lv_iconst (v := 0) hx hb dX11_top_25 (by decide) ?_
    refine lv_istore (lv' := [(4, .int (0)), (3, .int ((-1))), (2, .int (r_3)), (0, .ref (φ 0)), (1, .int (a1))]) hx hb dX11_top_26 hl (by decide) rfl (fun ls hl => ?_)
    refine L28 _ _ _ _ _ _ _ _ hP hS (lv_sub hl [3, 2, 1, 0] rfl)  h
  · rw [if_pos c_1] at h
    refine lv_bipush (v := (-2)) hx hb dX11_top_10 (by decide) ?_
    obtain rfl := Option.some.inj h
    exact W.iret hx hb hr (r_end X hP hS) hS.2.2 dX11_top_12 (hlocks := hlk)

def f_X11_read (M : Mem) (a1 : Int32) (a2 : Int32) : Option (Int32 × Mem) :=
  (if (f_X11_isPerson M (a1)) = 0 then some (((-2), M)) else (if (f_X11_isNote M (a2)) = 0 then some (((-2), M)) else (Option.bind (f_X11_go M) fun r_3 => (if ibd (((10 * a1) + a2)) 50 then some (((r_3 15 (Int32.toNatClampNeg (((10 * a1) + a2)))), r_3)) else none))))
set_option maxRecDepth 100000 in
set_option maxHeartbeats 4000000 in
theorem c_X11_read (l : Launch) {G : GT} {φ : Nat → Nat} {n : Nat} {M : Mem} {L : Nat → Int64} {a1 : Int32} {a2 : Int32} (hI : wI φ n) (hn : 32 ≤ n) {r : Int32 × Mem} (h : f_X11_read M a1 a2 = some r) : CT l yX11_read cX11_read 3 (some .int) ({ frames := 4, cells := 0, slots := 0, locals := 92 } : Room) [.ref (φ 0), .int (a1), .int (a2)] (WB (cM G φ L) φ M n G) (some (.int r.1)) (WB (cM G φ L) φ (r.2) n G) φ n := by
  unfold f_X11_read at h
  refine r_start (plainFor_of_name (by decide)) (Nat.le_of_ble_eq_true rfl) hI ?_
  intro p e s m args below meth c ls X hr hlk hP hl
  have hS : va_S (wA φ n s.heap.size) s.heap s.heap [] := va_S.rf
  have hx := X.1.1
  have hb := X.1.2.1
  have hl : lv_has ls 3 [(0, .ref (φ 0)), (1, .int (a1)), (2, .int (a2))] := hl
  refine lv_aload_n hx hb dX11_read_0 rfl (lv_at hl 0 rfl) ?_
  refine lv_iload_n hx hb dX11_read_1 rfl (lv_at hl 1 rfl) ?_
  refine c_V0 (As := [.int (a1)]) (rest := []) (a := 0) X hl.1 (c_X11_isPerson l X.2.2.2.1.1 hn rfl) (w_X11_138) qw_1169 qw_45 ⟨Nat.le_of_ble_eq_true rfl, Nat.le_of_ble_eq_true rfl⟩ rfl rfl hP hS (by omega) sM_Model rfl rfl (Nat.le_of_ble_eq_true rfl) dX11_read_2 (fun H locs hP hS => ?_)
  refine lv_if_eq (tgt := 16) hx hb dX11_read_5 (by decide) (fun c_1 => ?_) (fun c_1 => ?_)
  · rw [if_pos c_1] at h
    refine lv_bipush (v := (-2)) hx hb dX11_read_16 (by decide) ?_
    obtain rfl := Option.some.inj h
    exact W.iret hx hb hr (r_end X hP hS) hS.2.2 dX11_read_18 (hlocks := hlk)
  · rw [if_neg c_1] at h
    refine lv_aload_n hx hb dX11_read_8 rfl (lv_at hl 0 rfl) ?_
    refine lv_iload_n hx hb dX11_read_9 rfl (lv_at hl 2 rfl) ?_
    refine c_V0 (As := [.int (a2)]) (rest := []) (a := 0) X hl.1 (c_X11_isNote l X.2.2.2.1.1 hn rfl) (w_X11_134) qw_1165 qw_44 ⟨Nat.le_of_ble_eq_true rfl, Nat.le_of_ble_eq_true rfl⟩ rfl rfl hP hS (by omega) sM_Model rfl rfl (Nat.le_of_ble_eq_true rfl) dX11_read_10 (fun H locs hP hS => ?_)
    refine lv_if_ne (tgt := 19) hx hb dX11_read_13 (by decide) (fun c_2 => ?_) (fun c_2 => ?_)
    · rw [if_neg c_2] at h
      refine lv_aload_n hx hb dX11_read_19 rfl (lv_at hl 0 rfl) ?_
      obtain ⟨r_3, hr_3, h⟩ := ob h
      refine c_V0 (As := []) (rest := []) (a := 0) X hl.1 (c_X11_go l X.2.2.2.1.1 hn hr_3) (w_X11_264) qw_1203 qw_50 ⟨Nat.le_of_ble_eq_true rfl, Nat.le_of_ble_eq_true rfl⟩ rfl rfl hP hS (by omega) sM_Model rfl rfl (Nat.le_of_ble_eq_true rfl) dX11_read_20 (fun H locs hP hS => ?_)
      refine lv_aload_n hx hb dX11_read_23 rfl (lv_at hl 0 rfl) ?_
      refine G_X11_52 X.1 hn hP dX11_read_24 ?_
      refine lv_bipush (v := 10) hx hb dX11_read_27 (by decide) ?_
      refine lv_iload_n hx hb dX11_read_29 rfl (lv_at hl 1 rfl) ?_
      refine lv_imul hx hb dX11_read_30 ?_
      refine lv_iload_n hx hb dX11_read_31 rfl (lv_at hl 2 rfl) ?_
      refine lv_iadd hx hb dX11_read_32 ?_
      obtain ⟨c_4, h⟩ := og h
      refine r_iald (k := (Int32.toNatClampNeg (((10 * a1) + a2)))) X.1 hP (by omega) sM_readAt rfl (vin c_4) dX11_read_33 ?_
      obtain rfl := Option.some.inj h
      exact W.iret hx hb hr (r_end X hP hS) hS.2.2 dX11_read_34 (hlocks := hlk)
    · rw [if_pos c_2] at h
      refine lv_bipush (v := (-2)) hx hb dX11_read_16 (by decide) ?_
      obtain rfl := Option.some.inj h
      exact W.iret hx hb hr (r_end X hP hS) hS.2.2 dX11_read_18 (hlocks := hlk)

def f_X11_knew_30 (M_8 : Mem) (x1_4 : Int32) (x2_5 : Int32) : Nat → Int32 → Int32 → Option (Int32 × Mem)
  | 0, _, _ => none
  | fu_9 + 1, x3_6, x4_7 => (if (M_8 0 5) ≤ x4_7 then some ((x3_6, M_8)) else (if ibd (((10 * x1_4) + x4_7)) 50 then (if (M_8 15 (Int32.toNatClampNeg (((10 * x1_4) + x4_7)))) = (-1) then (f_X11_knew_30 M_8 x1_4 x2_5 fu_9 (x3_6) ((x4_7 + 1))) else (if ibd (((10 * x1_4) + x4_7)) 50 then (if x2_5 < (M_8 15 (Int32.toNatClampNeg (((10 * x1_4) + x4_7)))) then (f_X11_knew_30 M_8 x1_4 x2_5 fu_9 (x3_6) ((x4_7 + 1))) else (f_X11_knew_30 M_8 x1_4 x2_5 fu_9 ((x3_6 ||| ((1 : Int32) <<< (x4_7 &&& 31)))) ((x4_7 + 1)))) else none)) else none))
def f_X11_knew (M : Mem) (a1 : Int32) (a2 : Int32) : Option (Int32 × Mem) :=
  (if (f_X11_isPerson M (a1)) = 0 then some (((-2), M)) else (if (f_X11_within (a2) (0) (47)) = 0 then some (((-2), M)) else (Option.bind (f_X11_go M) fun r_3 => (f_X11_knew_30 r_3 (a1) (a2) FU (0) (0)))))
set_option maxRecDepth 100000 in
set_option maxHeartbeats 4000000 in
theorem c_X11_knew (l : Launch) {G : GT} {φ : Nat → Nat} {n : Nat} {M : Mem} {L : Nat → Int64} {a1 : Int32} {a2 : Int32} (hI : wI φ n) (hn : 32 ≤ n) {r : Int32 × Mem} (h : f_X11_knew M a1 a2 = some r) : CT l yX11_knew cX11_knew 5 (some .int) ({ frames := 4, cells := 0, slots := 0, locals := 92 } : Room) [.ref (φ 0), .int (a1), .int (a2)] (WB (cM G φ L) φ M n G) (some (.int r.1)) (WB (cM G φ L) φ (r.2) n G) φ n := by
  unfold f_X11_knew at h
  refine r_start (plainFor_of_name (by decide)) (Nat.le_of_ble_eq_true rfl) hI ?_
  intro p e s m args below meth c ls X hr hlk hP hl
  have hS : va_S (wA φ n s.heap.size) s.heap s.heap [] := va_S.rf
  have hx := X.1.1
  have hb := X.1.2.1
  have hl : lv_has ls 5 [(0, .ref (φ 0)), (1, .int (a1)), (2, .int (a2))] := hl
  have L30 : ∀ (fu_9 : Nat) (M_8 : Mem) (x1_4 : Int32) (x2_5 : Int32) (x3_6 : Int32) (x4_7 : Int32)  (H : Heap) (locs : List Loc) (ls : Array Slot), va_P G.1 vwCl (wW (cM G φ L) φ M_8 n) H → va_S (wA φ n s.heap.size) s.heap H locs → lv_has ls 5 [(0, .ref (φ 0)), (1, .int (x1_4)), (2, .int (x2_5)), (3, .int (x3_6)), (4, .int (x4_7))] → f_X11_knew_30 M_8 x1_4 x2_5 fu_9 x3_6 x4_7 = some r → W p l e ({ frames := 4, cells := 0, slots := 0, locals := 92 } : Room) s m args below meth c H locs 0 0 (MQ below (QQ (some (.int r.1)) (WB (cM G φ L) φ (r.2) n G) (wA φ n s.heap.size)) args s 0 0 (wA φ n s.heap.size)) (F0 m 30 ls []) := by
    intro fu_9
    induction fu_9 with
    | zero =>
      intro M_8 x1_4 x2_5 x3_6 x4_7 H locs ls _ _ _  h
      have h : (none : Option (Int32 × Mem)) = some r := h
      cases h
    | succ fu_9 ih =>
      intro M_8 x1_4 x2_5 x3_6 x4_7 H locs ls hP hS hl  h
      rw [f_X11_knew_30] at h
      refine lv_iload hx hb dX11_knew_30 (lv_at hl 4 rfl) ?_
      refine lv_aload_n hx hb dX11_knew_32 rfl (lv_at hl 0 rfl) ?_
      refine G_X11_131 X.1 hn hP dX11_knew_33 ?_
      refine lv_icmp_ge (tgt := 84) hx hb dX11_knew_36 (by decide) (fun c_10 => ?_) (fun c_10 => ?_)
      · rw [if_pos c_10] at h
        refine lv_iload_n hx hb dX11_knew_84 rfl (lv_at hl 3 rfl) ?_
        obtain rfl := Option.some.inj h
        exact W.iret hx hb hr (r_end X hP hS) hS.2.2 dX11_knew_85 (hlocks := hlk)
      · rw [if_neg c_10] at h
        refine lv_aload_n hx hb dX11_knew_39 rfl (lv_at hl 0 rfl) ?_
        refine G_X11_52 X.1 hn hP dX11_knew_40 ?_
        refine lv_bipush (v := 10) hx hb dX11_knew_43 (by decide) ?_
        refine lv_iload_n hx hb dX11_knew_45 rfl (lv_at hl 1 rfl) ?_
        refine lv_imul hx hb dX11_knew_46 ?_
        refine lv_iload hx hb dX11_knew_47 (lv_at hl 4 rfl) ?_
        refine lv_iadd hx hb dX11_knew_49 ?_
        obtain ⟨c_11, h⟩ := og h
        refine r_iald (k := (Int32.toNatClampNeg (((10 * x1_4) + x4_7)))) X.1 hP (by omega) sM_readAt rfl (vin c_11) dX11_knew_50 ?_
        refine lv_iconst (v := (-1)) hx hb dX11_knew_51 (by decide) ?_
        refine lv_icmp_eq (tgt := 78) hx hb dX11_knew_52 (by decide) (fun c_12 => ?_) (fun c_12 => ?_)
        · rw [if_pos c_12] at h
          refine lv_iinc (v := (x4_7 + 1)) (lv' := [(4, .int ((x4_7 + 1))), (0, .ref (φ 0)), (1, .int (x1_4)), (2, .int (x2_5)), (3, .int (x3_6))]) hx hb dX11_knew_78 hl (k := 4) rfl (by rw [show Int32.ofInt (1) = 1 from by decide]) (by decide) rfl (fun ls hl => ?_)
          refine lv_goto (tgt := 30) hx hb dX11_knew_81 (by decide) ?_
          exact ih _ _ _ _ _ _ _ _ hP hS (lv_sub hl [1, 2, 3, 4, 0] rfl)  h
        · rw [if_neg c_12] at h
          refine lv_aload_n hx hb dX11_knew_55 rfl (lv_at hl 0 rfl) ?_
          refine G_X11_52 X.1 hn hP dX11_knew_56 ?_
          refine lv_bipush (v := 10) hx hb dX11_knew_59 (by decide) ?_
          refine lv_iload_n hx hb dX11_knew_61 rfl (lv_at hl 1 rfl) ?_
          refine lv_imul hx hb dX11_knew_62 ?_
          refine lv_iload hx hb dX11_knew_63 (lv_at hl 4 rfl) ?_
          refine lv_iadd hx hb dX11_knew_65 ?_
          obtain ⟨c_13, h⟩ := og h
          refine r_iald (k := (Int32.toNatClampNeg (((10 * x1_4) + x4_7)))) X.1 hP (by omega) sM_readAt rfl (vin c_13) dX11_knew_66 ?_
          refine lv_iload_n hx hb dX11_knew_67 rfl (lv_at hl 2 rfl) ?_
          refine lv_icmp_gt (tgt := 78) hx hb dX11_knew_68 (by decide) (fun c_14 => ?_) (fun c_14 => ?_)
          · rw [if_pos c_14] at h
            refine lv_iinc (v := (x4_7 + 1)) (lv' := [(4, .int ((x4_7 + 1))), (0, .ref (φ 0)), (1, .int (x1_4)), (2, .int (x2_5)), (3, .int (x3_6))]) hx hb dX11_knew_78 hl (k := 4) rfl (by rw [show Int32.ofInt (1) = 1 from by decide]) (by decide) rfl (fun ls hl => ?_)
            refine lv_goto (tgt := 30) hx hb dX11_knew_81 (by decide) ?_
            exact ih _ _ _ _ _ _ _ _ hP hS (lv_sub hl [1, 2, 3, 4, 0] rfl)  h
          · rw [if_neg c_14] at h
            refine lv_iload_n hx hb dX11_knew_71 rfl (lv_at hl 3 rfl) ?_
            refine lv_iconst (v := 1) hx hb dX11_knew_72 (by decide) ?_
            refine lv_iload hx hb dX11_knew_73 (lv_at hl 4 rfl) ?_
            refine lv_ishl hx hb dX11_knew_75 ?_
            refine lv_ior hx hb dX11_knew_76 ?_
            refine lv_istore_n (lv' := [(3, .int ((x3_6 ||| ((1 : Int32) <<< (x4_7 &&& 31))))), (0, .ref (φ 0)), (1, .int (x1_4)), (2, .int (x2_5)), (4, .int (x4_7))]) hx hb dX11_knew_77 rfl hl (by decide) rfl (fun ls hl => ?_)
            refine lv_iinc (v := (x4_7 + 1)) (lv' := [(4, .int ((x4_7 + 1))), (3, .int ((x3_6 ||| ((1 : Int32) <<< (x4_7 &&& 31))))), (0, .ref (φ 0)), (1, .int (x1_4)), (2, .int (x2_5))]) hx hb dX11_knew_78 hl (k := 4) rfl (by rw [show Int32.ofInt (1) = 1 from by decide]) (by decide) rfl (fun ls hl => ?_)
            refine lv_goto (tgt := 30) hx hb dX11_knew_81 (by decide) ?_
            exact ih _ _ _ _ _ _ _ _ hP hS (lv_sub hl [2, 3, 4, 1, 0] rfl)  h
  refine lv_aload_n hx hb dX11_knew_0 rfl (lv_at hl 0 rfl) ?_
  refine lv_iload_n hx hb dX11_knew_1 rfl (lv_at hl 1 rfl) ?_
  refine c_V0 (As := [.int (a1)]) (rest := []) (a := 0) X hl.1 (c_X11_isPerson l X.2.2.2.1.1 hn rfl) (w_X11_138) qw_1169 qw_45 ⟨Nat.le_of_ble_eq_true rfl, Nat.le_of_ble_eq_true rfl⟩ rfl rfl hP hS (by omega) sM_Model rfl rfl (Nat.le_of_ble_eq_true rfl) dX11_knew_2 (fun H locs hP hS => ?_)
  refine lv_if_eq (tgt := 18) hx hb dX11_knew_5 (by decide) (fun c_1 => ?_) (fun c_1 => ?_)
  · rw [if_pos c_1] at h
    refine lv_bipush (v := (-2)) hx hb dX11_knew_18 (by decide) ?_
    obtain rfl := Option.some.inj h
    exact W.iret hx hb hr (r_end X hP hS) hS.2.2 dX11_knew_20 (hlocks := hlk)
  · rw [if_neg c_1] at h
    refine lv_iload_n hx hb dX11_knew_8 rfl (lv_at hl 2 rfl) ?_
    refine lv_iconst (v := 0) hx hb dX11_knew_9 (by decide) ?_
    refine lv_bipush (v := 47) hx hb dX11_knew_10 (by decide) ?_
    refine c_S0 (As := [.int (a2), .int (0), .int (47)]) (rest := []) X hl.1 (c_X11_within l X.2.2.2.1.1 hn rfl) (w_X11_127) qw_933 ⟨Nat.le_of_ble_eq_true rfl, Nat.le_of_ble_eq_true rfl⟩ rfl rfl hP hS (Nat.le_of_ble_eq_true rfl) dX11_knew_12 (fun H locs hP hS => ?_)
    refine lv_if_ne (tgt := 21) hx hb dX11_knew_15 (by decide) (fun c_2 => ?_) (fun c_2 => ?_)
    · rw [if_neg c_2] at h
      refine lv_aload_n hx hb dX11_knew_21 rfl (lv_at hl 0 rfl) ?_
      obtain ⟨r_3, hr_3, h⟩ := ob h
      refine c_V0 (As := []) (rest := []) (a := 0) X hl.1 (c_X11_go l X.2.2.2.1.1 hn hr_3) (w_X11_264) qw_1203 qw_50 ⟨Nat.le_of_ble_eq_true rfl, Nat.le_of_ble_eq_true rfl⟩ rfl rfl hP hS (by omega) sM_Model rfl rfl (Nat.le_of_ble_eq_true rfl) dX11_knew_22 (fun H locs hP hS => ?_)
      refine lv_iconst (v := 0) hx hb dX11_knew_25 (by decide) ?_
      refine lv_istore_n (lv' := [(3, .int (0)), (0, .ref (φ 0)), (1, .int (a1)), (2, .int (a2))]) hx hb dX11_knew_26 rfl hl (by decide) rfl (fun ls hl => ?_)
      refine lv_iconst (v := 0) hx hb dX11_knew_27 (by decide) ?_
      refine lv_istore (lv' := [(4, .int (0)), (3, .int (0)), (0, .ref (φ 0)), (1, .int (a1)), (2, .int (a2))]) hx hb dX11_knew_28 hl (by decide) rfl (fun ls hl => ?_)
      refine L30 _ _ _ _ _ _ _ _ _ hP hS (lv_sub hl [2, 3, 4, 1, 0] rfl)  h
    · rw [if_pos c_2] at h
      refine lv_bipush (v := (-2)) hx hb dX11_knew_18 (by decide) ?_
      obtain rfl := Option.some.inj h
      exact W.iret hx hb hr (r_end X hP hS) hS.2.2 dX11_knew_20 (hlocks := hlk)

def f_X11_done (M : Mem) (a1 : Int32) (a2 : Int32) : Option (Int32 × Mem) :=
  (if (f_X11_within (a1) (0) (3)) = 0 then some (((-2), M)) else (if a2 = (-1) then (Option.bind (f_X11_go M) fun r_3 => (if a2 = (-1) then (if ibd (a1) 4 then some (((r_3 17 (Int32.toNatClampNeg (a1))), r_3)) else none) else (if ibd (((4 * a2) + a1)) 20 then some (((r_3 16 (Int32.toNatClampNeg (((4 * a2) + a1)))), r_3)) else none))) else (if (f_X11_isPerson M (a2)) = 0 then some (((-2), M)) else (Option.bind (f_X11_go M) fun r_8 => (if a2 = (-1) then (if ibd (a1) 4 then some (((r_8 17 (Int32.toNatClampNeg (a1))), r_8)) else none) else (if ibd (((4 * a2) + a1)) 20 then some (((r_8 16 (Int32.toNatClampNeg (((4 * a2) + a1)))), r_8)) else none))))))
set_option maxRecDepth 100000 in
set_option maxHeartbeats 4000000 in
theorem c_X11_done (l : Launch) {G : GT} {φ : Nat → Nat} {n : Nat} {M : Mem} {L : Nat → Int64} {a1 : Int32} {a2 : Int32} (hI : wI φ n) (hn : 32 ≤ n) {r : Int32 × Mem} (h : f_X11_done M a1 a2 = some r) : CT l yX11_done cX11_done 3 (some .int) ({ frames := 4, cells := 0, slots := 0, locals := 92 } : Room) [.ref (φ 0), .int (a1), .int (a2)] (WB (cM G φ L) φ M n G) (some (.int r.1)) (WB (cM G φ L) φ (r.2) n G) φ n := by
  unfold f_X11_done at h
  refine r_start (plainFor_of_name (by decide)) (Nat.le_of_ble_eq_true rfl) hI ?_
  intro p e s m args below meth c ls X hr hlk hP hl
  have hS : va_S (wA φ n s.heap.size) s.heap s.heap [] := va_S.rf
  have hx := X.1.1
  have hb := X.1.2.1
  have hl : lv_has ls 3 [(0, .ref (φ 0)), (1, .int (a1)), (2, .int (a2))] := hl
  refine lv_iload_n hx hb dX11_done_0 rfl (lv_at hl 1 rfl) ?_
  refine lv_iconst (v := 0) hx hb dX11_done_1 (by decide) ?_
  refine lv_iconst (v := 3) hx hb dX11_done_2 (by decide) ?_
  refine c_S0 (As := [.int (a1), .int (0), .int (3)]) (rest := []) X hl.1 (c_X11_within l X.2.2.2.1.1 hn rfl) (w_X11_127) qw_933 ⟨Nat.le_of_ble_eq_true rfl, Nat.le_of_ble_eq_true rfl⟩ rfl rfl hP hS (Nat.le_of_ble_eq_true rfl) dX11_done_3 (fun H locs hP hS => ?_)
  refine lv_if_eq (tgt := 22) hx hb dX11_done_6 (by decide) (fun c_1 => ?_) (fun c_1 => ?_)
  · rw [if_pos c_1] at h
    refine lv_bipush (v := (-2)) hx hb dX11_done_22 (by decide) ?_
    obtain rfl := Option.some.inj h
    exact W.iret hx hb hr (r_end X hP hS) hS.2.2 dX11_done_24 (hlocks := hlk)
  · rw [if_neg c_1] at h
    refine lv_iload_n hx hb dX11_done_9 rfl (lv_at hl 2 rfl) ?_
    refine lv_iconst (v := (-1)) hx hb dX11_done_10 (by decide) ?_
    refine lv_icmp_eq (tgt := 25) hx hb dX11_done_11 (by decide) (fun c_2 => ?_) (fun c_2 => ?_)
    · rw [if_pos c_2] at h
      refine lv_aload_n hx hb dX11_done_25 rfl (lv_at hl 0 rfl) ?_
      obtain ⟨r_3, hr_3, h⟩ := ob h
      refine c_V0 (As := []) (rest := []) (a := 0) X hl.1 (c_X11_go l X.2.2.2.1.1 hn hr_3) (w_X11_264) qw_1203 qw_50 ⟨Nat.le_of_ble_eq_true rfl, Nat.le_of_ble_eq_true rfl⟩ rfl rfl hP hS (by omega) sM_Model rfl rfl (Nat.le_of_ble_eq_true rfl) dX11_done_26 (fun H locs hP hS => ?_)
      refine lv_iload_n hx hb dX11_done_29 rfl (lv_at hl 2 rfl) ?_
      refine lv_iconst (v := (-1)) hx hb dX11_done_30 (by decide) ?_
      refine lv_icmp_ne (tgt := 43) hx hb dX11_done_31 (by decide) (fun c_4 => ?_) (fun c_4 => ?_)
      · rw [if_neg c_4] at h
        refine lv_aload_n hx hb dX11_done_43 rfl (lv_at hl 0 rfl) ?_
        refine G_X11_55 X.1 hn hP dX11_done_44 ?_
        refine lv_iconst (v := 4) hx hb dX11_done_47 (by decide) ?_
        refine lv_iload_n hx hb dX11_done_48 rfl (lv_at hl 2 rfl) ?_
        refine lv_imul hx hb dX11_done_49 ?_
        refine lv_iload_n hx hb dX11_done_50 rfl (lv_at hl 1 rfl) ?_
        refine lv_iadd hx hb dX11_done_51 ?_
        obtain ⟨c_5, h⟩ := og h
        refine r_iald (k := (Int32.toNatClampNeg (((4 * a2) + a1)))) X.1 hP (by omega) sM_doneBy rfl (vin c_5) dX11_done_52 ?_
        obtain rfl := Option.some.inj h
        exact W.iret hx hb hr (r_end X hP hS) hS.2.2 dX11_done_53 (hlocks := hlk)
      · rw [if_pos c_4] at h
        refine lv_aload_n hx hb dX11_done_34 rfl (lv_at hl 0 rfl) ?_
        refine G_X11_58 X.1 hn hP dX11_done_35 ?_
        refine lv_iload_n hx hb dX11_done_38 rfl (lv_at hl 1 rfl) ?_
        obtain ⟨c_6, h⟩ := og h
        refine r_iald (k := (Int32.toNatClampNeg (a1))) X.1 hP (by omega) sM_doneAll rfl (vin c_6) dX11_done_39 ?_
        refine lv_goto (tgt := 53) hx hb dX11_done_40 (by decide) ?_
        obtain rfl := Option.some.inj h
        exact W.iret hx hb hr (r_end X hP hS) hS.2.2 dX11_done_53 (hlocks := hlk)
    · rw [if_neg c_2] at h
      refine lv_aload_n hx hb dX11_done_14 rfl (lv_at hl 0 rfl) ?_
      refine lv_iload_n hx hb dX11_done_15 rfl (lv_at hl 2 rfl) ?_
      refine c_V0 (As := [.int (a2)]) (rest := []) (a := 0) X hl.1 (c_X11_isPerson l X.2.2.2.1.1 hn rfl) (w_X11_138) qw_1169 qw_45 ⟨Nat.le_of_ble_eq_true rfl, Nat.le_of_ble_eq_true rfl⟩ rfl rfl hP hS (by omega) sM_Model rfl rfl (Nat.le_of_ble_eq_true rfl) dX11_done_16 (fun H locs hP hS => ?_)
      refine lv_if_ne (tgt := 25) hx hb dX11_done_19 (by decide) (fun c_7 => ?_) (fun c_7 => ?_)
      · rw [if_neg c_7] at h
        refine lv_aload_n hx hb dX11_done_25 rfl (lv_at hl 0 rfl) ?_
        obtain ⟨r_8, hr_8, h⟩ := ob h
        refine c_V0 (As := []) (rest := []) (a := 0) X hl.1 (c_X11_go l X.2.2.2.1.1 hn hr_8) (w_X11_264) qw_1203 qw_50 ⟨Nat.le_of_ble_eq_true rfl, Nat.le_of_ble_eq_true rfl⟩ rfl rfl hP hS (by omega) sM_Model rfl rfl (Nat.le_of_ble_eq_true rfl) dX11_done_26 (fun H locs hP hS => ?_)
        refine lv_iload_n hx hb dX11_done_29 rfl (lv_at hl 2 rfl) ?_
        refine lv_iconst (v := (-1)) hx hb dX11_done_30 (by decide) ?_
        refine lv_icmp_ne (tgt := 43) hx hb dX11_done_31 (by decide) (fun c_9 => ?_) (fun c_9 => ?_)
        · rw [if_neg c_9] at h
          refine lv_aload_n hx hb dX11_done_43 rfl (lv_at hl 0 rfl) ?_
          refine G_X11_55 X.1 hn hP dX11_done_44 ?_
          refine lv_iconst (v := 4) hx hb dX11_done_47 (by decide) ?_
          refine lv_iload_n hx hb dX11_done_48 rfl (lv_at hl 2 rfl) ?_
          refine lv_imul hx hb dX11_done_49 ?_
          refine lv_iload_n hx hb dX11_done_50 rfl (lv_at hl 1 rfl) ?_
          refine lv_iadd hx hb dX11_done_51 ?_
          obtain ⟨c_10, h⟩ := og h
          refine r_iald (k := (Int32.toNatClampNeg (((4 * a2) + a1)))) X.1 hP (by omega) sM_doneBy rfl (vin c_10) dX11_done_52 ?_
          obtain rfl := Option.some.inj h
          exact W.iret hx hb hr (r_end X hP hS) hS.2.2 dX11_done_53 (hlocks := hlk)
        · rw [if_pos c_9] at h
          refine lv_aload_n hx hb dX11_done_34 rfl (lv_at hl 0 rfl) ?_
          refine G_X11_58 X.1 hn hP dX11_done_35 ?_
          refine lv_iload_n hx hb dX11_done_38 rfl (lv_at hl 1 rfl) ?_
          obtain ⟨c_11, h⟩ := og h
          refine r_iald (k := (Int32.toNatClampNeg (a1))) X.1 hP (by omega) sM_doneAll rfl (vin c_11) dX11_done_39 ?_
          refine lv_goto (tgt := 53) hx hb dX11_done_40 (by decide) ?_
          obtain rfl := Option.some.inj h
          exact W.iret hx hb hr (r_end X hP hS) hS.2.2 dX11_done_53 (hlocks := hlk)
      · rw [if_pos c_7] at h
        refine lv_bipush (v := (-2)) hx hb dX11_done_22 (by decide) ?_
        obtain rfl := Option.some.inj h
        exact W.iret hx hb hr (r_end X hP hS) hS.2.2 dX11_done_24 (hlocks := hlk)

def f_X11_when (M : Mem) (a1 : Int32) (a2 : Int32) : Option (Int32 × Mem) :=
  (if (f_X11_within (a1) (0) (3)) = 0 then some (((-2), M)) else (if (f_X11_within (a2) (0) (1)) = 0 then some (((-2), M)) else (Option.bind (f_X11_go M) fun r_3 => (if a2 = 0 then (if ibd (a1) 4 then some (((r_3 18 (Int32.toNatClampNeg (a1))), r_3)) else none) else (if ibd (a1) 4 then some (((r_3 19 (Int32.toNatClampNeg (a1))), r_3)) else none)))))
set_option maxRecDepth 100000 in
set_option maxHeartbeats 4000000 in
theorem c_X11_when (l : Launch) {G : GT} {φ : Nat → Nat} {n : Nat} {M : Mem} {L : Nat → Int64} {a1 : Int32} {a2 : Int32} (hI : wI φ n) (hn : 32 ≤ n) {r : Int32 × Mem} (h : f_X11_when M a1 a2 = some r) : CT l yX11_when cX11_when 3 (some .int) ({ frames := 4, cells := 0, slots := 0, locals := 92 } : Room) [.ref (φ 0), .int (a1), .int (a2)] (WB (cM G φ L) φ M n G) (some (.int r.1)) (WB (cM G φ L) φ (r.2) n G) φ n := by
  unfold f_X11_when at h
  refine r_start (plainFor_of_name (by decide)) (Nat.le_of_ble_eq_true rfl) hI ?_
  intro p e s m args below meth c ls X hr hlk hP hl
  have hS : va_S (wA φ n s.heap.size) s.heap s.heap [] := va_S.rf
  have hx := X.1.1
  have hb := X.1.2.1
  have hl : lv_has ls 3 [(0, .ref (φ 0)), (1, .int (a1)), (2, .int (a2))] := hl
  refine lv_iload_n hx hb dX11_when_0 rfl (lv_at hl 1 rfl) ?_
  refine lv_iconst (v := 0) hx hb dX11_when_1 (by decide) ?_
  refine lv_iconst (v := 3) hx hb dX11_when_2 (by decide) ?_
  refine c_S0 (As := [.int (a1), .int (0), .int (3)]) (rest := []) X hl.1 (c_X11_within l X.2.2.2.1.1 hn rfl) (w_X11_127) qw_933 ⟨Nat.le_of_ble_eq_true rfl, Nat.le_of_ble_eq_true rfl⟩ rfl rfl hP hS (Nat.le_of_ble_eq_true rfl) dX11_when_3 (fun H locs hP hS => ?_)
  refine lv_if_eq (tgt := 18) hx hb dX11_when_6 (by decide) (fun c_1 => ?_) (fun c_1 => ?_)
  · rw [if_pos c_1] at h
    refine lv_bipush (v := (-2)) hx hb dX11_when_18 (by decide) ?_
    obtain rfl := Option.some.inj h
    exact W.iret hx hb hr (r_end X hP hS) hS.2.2 dX11_when_20 (hlocks := hlk)
  · rw [if_neg c_1] at h
    refine lv_iload_n hx hb dX11_when_9 rfl (lv_at hl 2 rfl) ?_
    refine lv_iconst (v := 0) hx hb dX11_when_10 (by decide) ?_
    refine lv_iconst (v := 1) hx hb dX11_when_11 (by decide) ?_
    refine c_S0 (As := [.int (a2), .int (0), .int (1)]) (rest := []) X hl.1 (c_X11_within l X.2.2.2.1.1 hn rfl) (w_X11_127) qw_933 ⟨Nat.le_of_ble_eq_true rfl, Nat.le_of_ble_eq_true rfl⟩ rfl rfl hP hS (Nat.le_of_ble_eq_true rfl) dX11_when_12 (fun H locs hP hS => ?_)
    refine lv_if_ne (tgt := 21) hx hb dX11_when_15 (by decide) (fun c_2 => ?_) (fun c_2 => ?_)
    · rw [if_neg c_2] at h
      refine lv_aload_n hx hb dX11_when_21 rfl (lv_at hl 0 rfl) ?_
      obtain ⟨r_3, hr_3, h⟩ := ob h
      refine c_V0 (As := []) (rest := []) (a := 0) X hl.1 (c_X11_go l X.2.2.2.1.1 hn hr_3) (w_X11_264) qw_1203 qw_50 ⟨Nat.le_of_ble_eq_true rfl, Nat.le_of_ble_eq_true rfl⟩ rfl rfl hP hS (by omega) sM_Model rfl rfl (Nat.le_of_ble_eq_true rfl) dX11_when_22 (fun H locs hP hS => ?_)
      refine lv_iload_n hx hb dX11_when_25 rfl (lv_at hl 2 rfl) ?_
      refine lv_if_ne (tgt := 38) hx hb dX11_when_26 (by decide) (fun c_4 => ?_) (fun c_4 => ?_)
      · rw [if_neg c_4] at h
        refine lv_aload_n hx hb dX11_when_38 rfl (lv_at hl 0 rfl) ?_
        refine G_X11_64 X.1 hn hP dX11_when_39 ?_
        refine lv_iload_n hx hb dX11_when_42 rfl (lv_at hl 1 rfl) ?_
        obtain ⟨c_5, h⟩ := og h
        refine r_iald (k := (Int32.toNatClampNeg (a1))) X.1 hP (by omega) sM_doneWho rfl (vin c_5) dX11_when_43 ?_
        obtain rfl := Option.some.inj h
        exact W.iret hx hb hr (r_end X hP hS) hS.2.2 dX11_when_44 (hlocks := hlk)
      · rw [if_pos c_4] at h
        refine lv_aload_n hx hb dX11_when_29 rfl (lv_at hl 0 rfl) ?_
        refine G_X11_61 X.1 hn hP dX11_when_30 ?_
        refine lv_iload_n hx hb dX11_when_33 rfl (lv_at hl 1 rfl) ?_
        obtain ⟨c_6, h⟩ := og h
        refine r_iald (k := (Int32.toNatClampNeg (a1))) X.1 hP (by omega) sM_doneHour rfl (vin c_6) dX11_when_34 ?_
        refine lv_goto (tgt := 44) hx hb dX11_when_35 (by decide) ?_
        obtain rfl := Option.some.inj h
        exact W.iret hx hb hr (r_end X hP hS) hS.2.2 dX11_when_44 (hlocks := hlk)
    · rw [if_pos c_2] at h
      refine lv_bipush (v := (-2)) hx hb dX11_when_18 (by decide) ?_
      obtain rfl := Option.some.inj h
      exact W.iret hx hb hr (r_end X hP hS) hS.2.2 dX11_when_20 (hlocks := hlk)

def f_X11_isAsked_2 (M : Mem) (x1_1 : Int32) : Nat → Int32 → Option (Int32)
  | 0, _ => none
  | fu_3 + 1, x2_2 => (if (M 0 5) ≤ x2_2 then some (0) else (if ibd (x2_2) 10 then (if (M 7 (Int32.toNatClampNeg (x2_2))) = x1_1 then (Option.bind (f_X11_asks M (x2_2)) fun r_7 => (if r_7 ≤ 0 then (f_X11_isAsked_2 M x1_1 fu_3 ((x2_2 + 1))) else some (1))) else (f_X11_isAsked_2 M x1_1 fu_3 ((x2_2 + 1)))) else none))
def f_X11_isAsked (M : Mem) (a1 : Int32) : Option (Int32) :=
  (f_X11_isAsked_2 M (a1) FU (0))
set_option maxRecDepth 100000 in
set_option maxHeartbeats 4000000 in
theorem c_X11_isAsked (l : Launch) {G : GT} {φ : Nat → Nat} {n : Nat} {M : Mem} {L : Nat → Int64} {a1 : Int32} (hI : wI φ n) (hn : 32 ≤ n) {r : Int32} (h : f_X11_isAsked M a1 = some r) : CT l yX11_isAsked cX11_isAsked 3 (some .boolean) ({ frames := 1, cells := 0, slots := 0, locals := 21 } : Room) [.ref (φ 0), .int (a1)] (WB (cM G φ L) φ M n G) (some (.int r)) (WB (cM G φ L) φ (M) n G) φ n := by
  unfold f_X11_isAsked at h
  refine r_start (plainFor_of_name (by decide)) (Nat.le_of_ble_eq_true rfl) hI ?_
  intro p e s m args below meth c ls X hr hlk hP hl
  have hS : va_S (wA φ n s.heap.size) s.heap s.heap [] := va_S.rf
  have hx := X.1.1
  have hb := X.1.2.1
  have hl : lv_has ls 3 [(0, .ref (φ 0)), (1, .int (a1))] := hl
  have L2 : ∀ (fu_3 : Nat) (x1_1 : Int32) (x2_2 : Int32)  (H : Heap) (locs : List Loc) (ls : Array Slot), va_P G.1 vwCl (wW (cM G φ L) φ M n) H → va_S (wA φ n s.heap.size) s.heap H locs → lv_has ls 3 [(0, .ref (φ 0)), (1, .int (x1_1)), (2, .int (x2_2))] → f_X11_isAsked_2 M x1_1 fu_3 x2_2 = some r → W p l e ({ frames := 1, cells := 0, slots := 0, locals := 21 } : Room) s m args below meth c H locs 0 0 (MQ below (QQ (some (.int r)) (WB (cM G φ L) φ (M) n G) (wA φ n s.heap.size)) args s 0 0 (wA φ n s.heap.size)) (F0 m 2 ls []) := by
    intro fu_3
    induction fu_3 with
    | zero =>
      intro x1_1 x2_2 H locs ls _ _ _  h
      have h : (none : Option (Int32)) = some r := h
      cases h
    | succ fu_3 ih =>
      intro x1_1 x2_2 H locs ls hP hS hl  h
      rw [f_X11_isAsked_2] at h
      refine lv_iload_n hx hb dX11_isAsked_2 rfl (lv_at hl 2 rfl) ?_
      refine lv_aload_n hx hb dX11_isAsked_3 rfl (lv_at hl 0 rfl) ?_
      refine G_X11_131 X.1 hn hP dX11_isAsked_4 ?_
      refine lv_icmp_ge (tgt := 36) hx hb dX11_isAsked_7 (by decide) (fun c_4 => ?_) (fun c_4 => ?_)
      · rw [if_pos c_4] at h
        refine lv_iconst (v := 0) hx hb dX11_isAsked_36 (by decide) ?_
        obtain rfl := Option.some.inj h
        exact W.zret (v := 0) (ty := .boolean) hx hb hr rfl (r_end X hP hS) hS.2.2 dX11_isAsked_37 (hlocks := hlk)
      · rw [if_neg c_4] at h
        refine lv_aload_n hx hb dX11_isAsked_10 rfl (lv_at hl 0 rfl) ?_
        refine G_X11_28 X.1 hn hP dX11_isAsked_11 ?_
        refine lv_iload_n hx hb dX11_isAsked_14 rfl (lv_at hl 2 rfl) ?_
        obtain ⟨c_5, h⟩ := og h
        refine r_iald (k := (Int32.toNatClampNeg (x2_2))) X.1 hP (by omega) sM_thing rfl (vin c_5) dX11_isAsked_15 ?_
        refine lv_iload_n hx hb dX11_isAsked_16 rfl (lv_at hl 1 rfl) ?_
        refine lv_icmp_ne (tgt := 30) hx hb dX11_isAsked_17 (by decide) (fun c_6 => ?_) (fun c_6 => ?_)
        · rw [if_neg c_6] at h
          refine lv_iinc (v := (x2_2 + 1)) (lv' := [(2, .int ((x2_2 + 1))), (0, .ref (φ 0)), (1, .int (x1_1))]) hx hb dX11_isAsked_30 hl (k := 2) rfl (by rw [show Int32.ofInt (1) = 1 from by decide]) (by decide) rfl (fun ls hl => ?_)
          refine lv_goto (tgt := 2) hx hb dX11_isAsked_33 (by decide) ?_
          exact ih _ _ _ _ _ hP hS (lv_sub hl [1, 2, 0] rfl)  h
        · rw [if_pos c_6] at h
          refine lv_aload_n hx hb dX11_isAsked_20 rfl (lv_at hl 0 rfl) ?_
          refine lv_iload_n hx hb dX11_isAsked_21 rfl (lv_at hl 2 rfl) ?_
          obtain ⟨r_7, hr_7, h⟩ := ob h
          refine c_V0 (As := [.int (x2_2)]) (rest := []) (a := 0) X hl.1 (c_X11_asks l X.2.2.2.1.1 hn hr_7) (w_X11_147) qw_1185 qw_48 ⟨Nat.le_of_ble_eq_true rfl, Nat.le_of_ble_eq_true rfl⟩ rfl rfl hP hS (by omega) sM_Model rfl rfl (Nat.le_of_ble_eq_true rfl) dX11_isAsked_22 (fun H locs hP hS => ?_)
          refine lv_if_le (tgt := 30) hx hb dX11_isAsked_25 (by decide) (fun c_8 => ?_) (fun c_8 => ?_)
          · rw [if_pos c_8] at h
            refine lv_iinc (v := (x2_2 + 1)) (lv' := [(2, .int ((x2_2 + 1))), (0, .ref (φ 0)), (1, .int (x1_1))]) hx hb dX11_isAsked_30 hl (k := 2) rfl (by rw [show Int32.ofInt (1) = 1 from by decide]) (by decide) rfl (fun ls hl => ?_)
            refine lv_goto (tgt := 2) hx hb dX11_isAsked_33 (by decide) ?_
            exact ih _ _ _ _ _ hP hS (lv_sub hl [1, 2, 0] rfl)  h
          · rw [if_neg c_8] at h
            refine lv_iconst (v := 1) hx hb dX11_isAsked_28 (by decide) ?_
            obtain rfl := Option.some.inj h
            exact W.zret (v := 1) (ty := .boolean) hx hb hr rfl (r_end X hP hS) hS.2.2 dX11_isAsked_29 (hlocks := hlk)
  refine lv_iconst (v := 0) hx hb dX11_isAsked_0 (by decide) ?_
  refine lv_istore_n (lv' := [(2, .int (0)), (0, .ref (φ 0)), (1, .int (a1))]) hx hb dX11_isAsked_1 rfl hl (by decide) rfl (fun ls hl => ?_)
  refine L2 _ _ _ _ _ _ hP hS (lv_sub hl [1, 2, 0] rfl)  h

def f_X11_things_20 (M_6 : Mem) (x1_3 : Int32) : Nat → Int32 → Int32 → Option (Int32 × Mem)
  | 0, _, _ => none
  | fu_7 + 1, x2_4, x3_5 => (if 4 ≤ x3_5 then some ((x2_4, M_6)) else (if x1_3 = 0 then (Option.bind (f_X11_isAsked M_6 (x3_5)) fun r_12 => (if r_12 = 0 then (f_X11_things_20 M_6 x1_3 fu_7 (x2_4) ((x3_5 + 1))) else (if ibd (x3_5) 4 then (if (M_6 17 (Int32.toNatClampNeg (x3_5))) = 0 then (f_X11_things_20 M_6 x1_3 fu_7 ((x2_4 ||| ((1 : Int32) <<< (x3_5 &&& 31)))) ((x3_5 + 1))) else (f_X11_things_20 M_6 x1_3 fu_7 (x2_4) ((x3_5 + 1)))) else none))) else (if ibd (x3_5) 4 then (if (M_6 17 (Int32.toNatClampNeg (x3_5))) ≤ 1 then (f_X11_things_20 M_6 x1_3 fu_7 (x2_4) ((x3_5 + 1))) else (f_X11_things_20 M_6 x1_3 fu_7 ((x2_4 ||| ((1 : Int32) <<< (x3_5 &&& 31)))) ((x3_5 + 1)))) else none)))
def f_X11_things (M : Mem) (a1 : Int32) : Option (Int32 × Mem) :=
  (if (f_X11_within (a1) (0) (1)) = 0 then some (((-2), M)) else (Option.bind (f_X11_go M) fun r_2 => (f_X11_things_20 r_2 (a1) FU (0) (0))))
set_option maxRecDepth 100000 in
set_option maxHeartbeats 4000000 in
theorem c_X11_things (l : Launch) {G : GT} {φ : Nat → Nat} {n : Nat} {M : Mem} {L : Nat → Int64} {a1 : Int32} (hI : wI φ n) (hn : 32 ≤ n) {r : Int32 × Mem} (h : f_X11_things M a1 = some r) : CT l yX11_things cX11_things 4 (some .int) ({ frames := 4, cells := 0, slots := 0, locals := 92 } : Room) [.ref (φ 0), .int (a1)] (WB (cM G φ L) φ M n G) (some (.int r.1)) (WB (cM G φ L) φ (r.2) n G) φ n := by
  unfold f_X11_things at h
  refine r_start (plainFor_of_name (by decide)) (Nat.le_of_ble_eq_true rfl) hI ?_
  intro p e s m args below meth c ls X hr hlk hP hl
  have hS : va_S (wA φ n s.heap.size) s.heap s.heap [] := va_S.rf
  have hx := X.1.1
  have hb := X.1.2.1
  have hl : lv_has ls 4 [(0, .ref (φ 0)), (1, .int (a1))] := hl
  have L20 : ∀ (fu_7 : Nat) (M_6 : Mem) (x1_3 : Int32) (x2_4 : Int32) (x3_5 : Int32)  (H : Heap) (locs : List Loc) (ls : Array Slot), va_P G.1 vwCl (wW (cM G φ L) φ M_6 n) H → va_S (wA φ n s.heap.size) s.heap H locs → lv_has ls 4 [(0, .ref (φ 0)), (1, .int (x1_3)), (2, .int (x2_4)), (3, .int (x3_5))] → f_X11_things_20 M_6 x1_3 fu_7 x2_4 x3_5 = some r → W p l e ({ frames := 4, cells := 0, slots := 0, locals := 92 } : Room) s m args below meth c H locs 0 0 (MQ below (QQ (some (.int r.1)) (WB (cM G φ L) φ (r.2) n G) (wA φ n s.heap.size)) args s 0 0 (wA φ n s.heap.size)) (F0 m 20 ls []) := by
    intro fu_7
    induction fu_7 with
    | zero =>
      intro M_6 x1_3 x2_4 x3_5 H locs ls _ _ _  h
      have h : (none : Option (Int32 × Mem)) = some r := h
      cases h
    | succ fu_7 ih =>
      intro M_6 x1_3 x2_4 x3_5 H locs ls hP hS hl  h
      rw [f_X11_things_20] at h
      refine lv_iload_n hx hb dX11_things_20 rfl (lv_at hl 3 rfl) ?_
      refine lv_iconst (v := 4) hx hb dX11_things_21 (by decide) ?_
      refine lv_icmp_ge (tgt := 71) hx hb dX11_things_22 (by decide) (fun c_8 => ?_) (fun c_8 => ?_)
      · rw [if_pos c_8] at h
        refine lv_iload_n hx hb dX11_things_71 rfl (lv_at hl 2 rfl) ?_
        obtain rfl := Option.some.inj h
        exact W.iret hx hb hr (r_end X hP hS) hS.2.2 dX11_things_72 (hlocks := hlk)
      · rw [if_neg c_8] at h
        refine lv_iload_n hx hb dX11_things_25 rfl (lv_at hl 1 rfl) ?_
        refine lv_if_ne (tgt := 49) hx hb dX11_things_26 (by decide) (fun c_9 => ?_) (fun c_9 => ?_)
        · rw [if_neg c_9] at h
          refine lv_aload_n hx hb dX11_things_49 rfl (lv_at hl 0 rfl) ?_
          refine G_X11_58 X.1 hn hP dX11_things_50 ?_
          refine lv_iload_n hx hb dX11_things_53 rfl (lv_at hl 3 rfl) ?_
          obtain ⟨c_10, h⟩ := og h
          refine r_iald (k := (Int32.toNatClampNeg (x3_5))) X.1 hP (by omega) sM_doneAll rfl (vin c_10) dX11_things_54 ?_
          refine lv_iconst (v := 1) hx hb dX11_things_55 (by decide) ?_
          refine lv_icmp_le (tgt := 65) hx hb dX11_things_56 (by decide) (fun c_11 => ?_) (fun c_11 => ?_)
          · rw [if_pos c_11] at h
            refine lv_iinc (v := (x3_5 + 1)) (lv' := [(3, .int ((x3_5 + 1))), (0, .ref (φ 0)), (1, .int (x1_3)), (2, .int (x2_4))]) hx hb dX11_things_65 hl (k := 3) rfl (by rw [show Int32.ofInt (1) = 1 from by decide]) (by decide) rfl (fun ls hl => ?_)
            refine lv_goto (tgt := 20) hx hb dX11_things_68 (by decide) ?_
            exact ih _ _ _ _ _ _ _ hP hS (lv_sub hl [1, 2, 3, 0] rfl)  h
          · rw [if_neg c_11] at h
            refine lv_iload_n hx hb dX11_things_59 rfl (lv_at hl 2 rfl) ?_
            refine lv_iconst (v := 1) hx hb dX11_things_60 (by decide) ?_
            refine lv_iload_n hx hb dX11_things_61 rfl (lv_at hl 3 rfl) ?_
            refine lv_ishl hx hb dX11_things_62 ?_
            refine lv_ior hx hb dX11_things_63 ?_
            refine lv_istore_n (lv' := [(2, .int ((x2_4 ||| ((1 : Int32) <<< (x3_5 &&& 31))))), (0, .ref (φ 0)), (1, .int (x1_3)), (3, .int (x3_5))]) hx hb dX11_things_64 rfl hl (by decide) rfl (fun ls hl => ?_)
            refine lv_iinc (v := (x3_5 + 1)) (lv' := [(3, .int ((x3_5 + 1))), (2, .int ((x2_4 ||| ((1 : Int32) <<< (x3_5 &&& 31))))), (0, .ref (φ 0)), (1, .int (x1_3))]) hx hb dX11_things_65 hl (k := 3) rfl (by rw [show Int32.ofInt (1) = 1 from by decide]) (by decide) rfl (fun ls hl => ?_)
            refine lv_goto (tgt := 20) hx hb dX11_things_68 (by decide) ?_
            exact ih _ _ _ _ _ _ _ hP hS (lv_sub hl [2, 3, 1, 0] rfl)  h
        · rw [if_pos c_9] at h
          refine lv_aload_n hx hb dX11_things_29 rfl (lv_at hl 0 rfl) ?_
          refine lv_iload_n hx hb dX11_things_30 rfl (lv_at hl 3 rfl) ?_
          obtain ⟨r_12, hr_12, h⟩ := ob h
          refine c_V0 (As := [.int (x3_5)]) (rest := []) (a := 0) X hl.1 (c_X11_isAsked l X.2.2.2.1.1 hn hr_12) (w_X11_270) qw_1255 qw_57 ⟨Nat.le_of_ble_eq_true rfl, Nat.le_of_ble_eq_true rfl⟩ rfl rfl hP hS (by omega) sM_Model rfl rfl (Nat.le_of_ble_eq_true rfl) dX11_things_31 (fun H locs hP hS => ?_)
          refine lv_if_eq (tgt := 65) hx hb dX11_things_34 (by decide) (fun c_13 => ?_) (fun c_13 => ?_)
          · rw [if_pos c_13] at h
            refine lv_iinc (v := (x3_5 + 1)) (lv' := [(3, .int ((x3_5 + 1))), (0, .ref (φ 0)), (1, .int (x1_3)), (2, .int (x2_4))]) hx hb dX11_things_65 hl (k := 3) rfl (by rw [show Int32.ofInt (1) = 1 from by decide]) (by decide) rfl (fun ls hl => ?_)
            refine lv_goto (tgt := 20) hx hb dX11_things_68 (by decide) ?_
            exact ih _ _ _ _ _ _ _ hP hS (lv_sub hl [1, 2, 3, 0] rfl)  h
          · rw [if_neg c_13] at h
            refine lv_aload_n hx hb dX11_things_37 rfl (lv_at hl 0 rfl) ?_
            refine G_X11_58 X.1 hn hP dX11_things_38 ?_
            refine lv_iload_n hx hb dX11_things_41 rfl (lv_at hl 3 rfl) ?_
            obtain ⟨c_14, h⟩ := og h
            refine r_iald (k := (Int32.toNatClampNeg (x3_5))) X.1 hP (by omega) sM_doneAll rfl (vin c_14) dX11_things_42 ?_
            refine lv_if_ne (tgt := 65) hx hb dX11_things_43 (by decide) (fun c_15 => ?_) (fun c_15 => ?_)
            · rw [if_neg c_15] at h
              refine lv_iinc (v := (x3_5 + 1)) (lv' := [(3, .int ((x3_5 + 1))), (0, .ref (φ 0)), (1, .int (x1_3)), (2, .int (x2_4))]) hx hb dX11_things_65 hl (k := 3) rfl (by rw [show Int32.ofInt (1) = 1 from by decide]) (by decide) rfl (fun ls hl => ?_)
              refine lv_goto (tgt := 20) hx hb dX11_things_68 (by decide) ?_
              exact ih _ _ _ _ _ _ _ hP hS (lv_sub hl [1, 2, 3, 0] rfl)  h
            · rw [if_pos c_15] at h
              refine lv_goto (tgt := 59) hx hb dX11_things_46 (by decide) ?_
              refine lv_iload_n hx hb dX11_things_59 rfl (lv_at hl 2 rfl) ?_
              refine lv_iconst (v := 1) hx hb dX11_things_60 (by decide) ?_
              refine lv_iload_n hx hb dX11_things_61 rfl (lv_at hl 3 rfl) ?_
              refine lv_ishl hx hb dX11_things_62 ?_
              refine lv_ior hx hb dX11_things_63 ?_
              refine lv_istore_n (lv' := [(2, .int ((x2_4 ||| ((1 : Int32) <<< (x3_5 &&& 31))))), (0, .ref (φ 0)), (1, .int (x1_3)), (3, .int (x3_5))]) hx hb dX11_things_64 rfl hl (by decide) rfl (fun ls hl => ?_)
              refine lv_iinc (v := (x3_5 + 1)) (lv' := [(3, .int ((x3_5 + 1))), (2, .int ((x2_4 ||| ((1 : Int32) <<< (x3_5 &&& 31))))), (0, .ref (φ 0)), (1, .int (x1_3))]) hx hb dX11_things_65 hl (k := 3) rfl (by rw [show Int32.ofInt (1) = 1 from by decide]) (by decide) rfl (fun ls hl => ?_)
              refine lv_goto (tgt := 20) hx hb dX11_things_68 (by decide) ?_
              exact ih _ _ _ _ _ _ _ hP hS (lv_sub hl [2, 3, 1, 0] rfl)  h
  refine lv_iload_n hx hb dX11_things_0 rfl (lv_at hl 1 rfl) ?_
  refine lv_iconst (v := 0) hx hb dX11_things_1 (by decide) ?_
  refine lv_iconst (v := 1) hx hb dX11_things_2 (by decide) ?_
  refine c_S0 (As := [.int (a1), .int (0), .int (1)]) (rest := []) X hl.1 (c_X11_within l X.2.2.2.1.1 hn rfl) (w_X11_127) qw_933 ⟨Nat.le_of_ble_eq_true rfl, Nat.le_of_ble_eq_true rfl⟩ rfl rfl hP hS (Nat.le_of_ble_eq_true rfl) dX11_things_3 (fun H locs hP hS => ?_)
  refine lv_if_ne (tgt := 12) hx hb dX11_things_6 (by decide) (fun c_1 => ?_) (fun c_1 => ?_)
  · rw [if_neg c_1] at h
    refine lv_aload_n hx hb dX11_things_12 rfl (lv_at hl 0 rfl) ?_
    obtain ⟨r_2, hr_2, h⟩ := ob h
    refine c_V0 (As := []) (rest := []) (a := 0) X hl.1 (c_X11_go l X.2.2.2.1.1 hn hr_2) (w_X11_264) qw_1203 qw_50 ⟨Nat.le_of_ble_eq_true rfl, Nat.le_of_ble_eq_true rfl⟩ rfl rfl hP hS (by omega) sM_Model rfl rfl (Nat.le_of_ble_eq_true rfl) dX11_things_13 (fun H locs hP hS => ?_)
    refine lv_iconst (v := 0) hx hb dX11_things_16 (by decide) ?_
    refine lv_istore_n (lv' := [(2, .int (0)), (0, .ref (φ 0)), (1, .int (a1))]) hx hb dX11_things_17 rfl hl (by decide) rfl (fun ls hl => ?_)
    refine lv_iconst (v := 0) hx hb dX11_things_18 (by decide) ?_
    refine lv_istore_n (lv' := [(3, .int (0)), (2, .int (0)), (0, .ref (φ 0)), (1, .int (a1))]) hx hb dX11_things_19 rfl hl (by decide) rfl (fun ls hl => ?_)
    refine L20 _ _ _ _ _ _ _ _ hP hS (lv_sub hl [2, 3, 1, 0] rfl)  h
  · rw [if_pos c_1] at h
    refine lv_bipush (v := (-2)) hx hb dX11_things_9 (by decide) ?_
    obtain rfl := Option.some.inj h
    exact W.iret hx hb hr (r_end X hP hS) hS.2.2 dX11_things_11 (hlocks := hlk)

def f_X11_care_7 (M_5 : Mem) (x1_1 : Int32) : Nat → Int32 → Int32 → Int32 → Option (Int32 × Mem)
  | 0, _, _, _ => none
  | fu_6 + 1, x2_2, x3_3, x4_4 => (if (M_5 0 5) ≤ x4_4 then (Option.bind (f_X11_worth M_5 (2) (x2_2) (x3_3) (48) (0) (0) (x1_1)) fun r_8 => (if 0 ≤ r_8.1 then (if r_8.1 ≤ 99 then some ((r_8.1, r_8.2)) else some ((99, r_8.2))) else some ((0, r_8.2)))) else (if ibd (x4_4) 10 then (if (M_5 7 (Int32.toNatClampNeg (x4_4))) = x1_1 then (Option.bind (f_X11_asks M_5 (x4_4)) fun r_13 => (Option.bind (f_X11_tells M_5 (x4_4)) fun r_14 => (f_X11_care_7 M_5 x1_1 fu_6 ((x2_2 + r_13)) ((x3_3 + r_14)) ((x4_4 + 1))))) else (f_X11_care_7 M_5 x1_1 fu_6 (x2_2) (x3_3) ((x4_4 + 1)))) else none))
def f_X11_care (M : Mem) (a1 : Int32) : Option (Int32 × Mem) :=
  (f_X11_care_7 M (a1) FU (0) (0) (0))
set_option maxRecDepth 100000 in
set_option maxHeartbeats 4000000 in
theorem c_X11_care (l : Launch) {G : GT} {φ : Nat → Nat} {n : Nat} {M : Mem} {L : Nat → Int64} {a1 : Int32} (hI : wI φ n) (hn : 32 ≤ n) {r : Int32 × Mem} (h : f_X11_care M a1 = some r) : CT l yX11_care cX11_care 5 (some .int) ({ frames := 1, cells := 0, slots := 0, locals := 34 } : Room) [.ref (φ 0), .int (a1)] (WB (cM G φ L) φ M n G) (some (.int r.1)) (WB (cM G φ L) φ (r.2) n G) φ n := by
  unfold f_X11_care at h
  refine r_start (plainFor_of_name (by decide)) (Nat.le_of_ble_eq_true rfl) hI ?_
  intro p e s m args below meth c ls X hr hlk hP hl
  have hS : va_S (wA φ n s.heap.size) s.heap s.heap [] := va_S.rf
  have hx := X.1.1
  have hb := X.1.2.1
  have hl : lv_has ls 5 [(0, .ref (φ 0)), (1, .int (a1))] := hl
  have L7 : ∀ (fu_6 : Nat) (M_5 : Mem) (x1_1 : Int32) (x2_2 : Int32) (x3_3 : Int32) (x4_4 : Int32)  (H : Heap) (locs : List Loc) (ls : Array Slot), va_P G.1 vwCl (wW (cM G φ L) φ M_5 n) H → va_S (wA φ n s.heap.size) s.heap H locs → lv_has ls 5 [(0, .ref (φ 0)), (1, .int (x1_1)), (2, .int (x2_2)), (3, .int (x3_3)), (4, .int (x4_4))] → f_X11_care_7 M_5 x1_1 fu_6 x2_2 x3_3 x4_4 = some r → W p l e ({ frames := 1, cells := 0, slots := 0, locals := 34 } : Room) s m args below meth c H locs 0 0 (MQ below (QQ (some (.int r.1)) (WB (cM G φ L) φ (r.2) n G) (wA φ n s.heap.size)) args s 0 0 (wA φ n s.heap.size)) (F0 m 7 ls []) := by
    intro fu_6
    induction fu_6 with
    | zero =>
      intro M_5 x1_1 x2_2 x3_3 x4_4 H locs ls _ _ _  h
      have h : (none : Option (Int32 × Mem)) = some r := h
      cases h
    | succ fu_6 ih =>
      intro M_5 x1_1 x2_2 x3_3 x4_4 H locs ls hP hS hl  h
      rw [f_X11_care_7] at h
      refine lv_iload hx hb dX11_care_7 (lv_at hl 4 rfl) ?_
      refine lv_aload_n hx hb dX11_care_9 rfl (lv_at hl 0 rfl) ?_
      refine G_X11_131 X.1 hn hP dX11_care_10 ?_
      refine lv_icmp_ge (tgt := 54) hx hb dX11_care_13 (by decide) (fun c_7 => ?_) (fun c_7 => ?_)
      · rw [if_pos c_7] at h
        refine lv_aload_n hx hb dX11_care_54 rfl (lv_at hl 0 rfl) ?_
        refine lv_iconst (v := 2) hx hb dX11_care_55 (by decide) ?_
        refine lv_iload_n hx hb dX11_care_56 rfl (lv_at hl 2 rfl) ?_
        refine lv_iload_n hx hb dX11_care_57 rfl (lv_at hl 3 rfl) ?_
        refine lv_bipush (v := 48) hx hb dX11_care_58 (by decide) ?_
        refine lv_iconst (v := 0) hx hb dX11_care_60 (by decide) ?_
        refine lv_iconst (v := 0) hx hb dX11_care_61 (by decide) ?_
        refine lv_iload_n hx hb dX11_care_62 rfl (lv_at hl 1 rfl) ?_
        obtain ⟨r_8, hr_8, h⟩ := ob h
        refine c_V0 (As := [.int (2), .int (x2_2), .int (x3_3), .int (48), .int (0), .int (0), .int (x1_1)]) (rest := []) (a := 0) X hl.1 (c_X11_worth l X.2.2.2.1.1 hn hr_8) (w_X11_260) qw_1223 qw_55 ⟨Nat.le_of_ble_eq_true rfl, Nat.le_of_ble_eq_true rfl⟩ rfl rfl hP hS (by omega) sM_Model rfl rfl (Nat.le_of_ble_eq_true rfl) dX11_care_63 (fun H locs hP hS => ?_)
        refine lv_istore (lv' := [(4, .int (r_8.1)), (0, .ref (φ 0)), (1, .int (x1_1)), (2, .int (x2_2)), (3, .int (x3_3))]) hx hb dX11_care_66 hl (by decide) rfl (fun ls hl => ?_)
        refine lv_iload hx hb dX11_care_68 (lv_at hl 0 rfl) ?_
        refine lv_if_ge (tgt := 77) hx hb dX11_care_70 (by decide) (fun c_9 => ?_) (fun c_9 => ?_)
        · rw [if_pos c_9] at h
          refine lv_iload hx hb dX11_care_77 (lv_at hl 0 rfl) ?_
          refine lv_bipush (v := 99) hx hb dX11_care_79 (by decide) ?_
          refine lv_icmp_le (tgt := 89) hx hb dX11_care_81 (by decide) (fun c_10 => ?_) (fun c_10 => ?_)
          · rw [if_pos c_10] at h
            refine lv_iload hx hb dX11_care_89 (lv_at hl 0 rfl) ?_
            obtain rfl := Option.some.inj h
            exact W.iret hx hb hr (r_end X hP hS) hS.2.2 dX11_care_91 (hlocks := hlk)
          · rw [if_neg c_10] at h
            refine lv_bipush (v := 99) hx hb dX11_care_84 (by decide) ?_
            refine lv_goto (tgt := 91) hx hb dX11_care_86 (by decide) ?_
            obtain rfl := Option.some.inj h
            exact W.iret hx hb hr (r_end X hP hS) hS.2.2 dX11_care_91 (hlocks := hlk)
        · rw [if_neg c_9] at h
          refine lv_iconst (v := 0) hx hb dX11_care_73 (by decide) ?_
          refine lv_goto (tgt := 91) hx hb dX11_care_74 (by decide) ?_
          obtain rfl := Option.some.inj h
          exact W.iret hx hb hr (r_end X hP hS) hS.2.2 dX11_care_91 (hlocks := hlk)
      · rw [if_neg c_7] at h
        refine lv_aload_n hx hb dX11_care_16 rfl (lv_at hl 0 rfl) ?_
        refine G_X11_28 X.1 hn hP dX11_care_17 ?_
        refine lv_iload hx hb dX11_care_20 (lv_at hl 4 rfl) ?_
        obtain ⟨c_11, h⟩ := og h
        refine r_iald (k := (Int32.toNatClampNeg (x4_4))) X.1 hP (by omega) sM_thing rfl (vin c_11) dX11_care_22 ?_
        refine lv_iload_n hx hb dX11_care_23 rfl (lv_at hl 1 rfl) ?_
        refine lv_icmp_eq (tgt := 30) hx hb dX11_care_24 (by decide) (fun c_12 => ?_) (fun c_12 => ?_)
        · rw [if_pos c_12] at h
          refine lv_iload_n hx hb dX11_care_30 rfl (lv_at hl 2 rfl) ?_
          refine lv_aload_n hx hb dX11_care_31 rfl (lv_at hl 0 rfl) ?_
          refine lv_iload hx hb dX11_care_32 (lv_at hl 4 rfl) ?_
          obtain ⟨r_13, hr_13, h⟩ := ob h
          refine c_V0 (As := [.int (x4_4)]) (rest := [.int (x2_2)]) (a := 0) X hl.1 (c_X11_asks l X.2.2.2.1.1 hn hr_13) (w_X11_147) qw_1185 qw_48 ⟨Nat.le_of_ble_eq_true rfl, Nat.le_of_ble_eq_true rfl⟩ rfl rfl hP hS (by omega) sM_Model rfl rfl (Nat.le_of_ble_eq_true rfl) dX11_care_34 (fun H locs hP hS => ?_)
          refine lv_iadd hx hb dX11_care_37 ?_
          refine lv_istore_n (lv' := [(2, .int ((x2_2 + r_13))), (0, .ref (φ 0)), (1, .int (x1_1)), (3, .int (x3_3)), (4, .int (x4_4))]) hx hb dX11_care_38 rfl hl (by decide) rfl (fun ls hl => ?_)
          refine lv_iload_n hx hb dX11_care_39 rfl (lv_at hl 3 rfl) ?_
          refine lv_aload_n hx hb dX11_care_40 rfl (lv_at hl 1 rfl) ?_
          refine lv_iload hx hb dX11_care_41 (lv_at hl 4 rfl) ?_
          obtain ⟨r_14, hr_14, h⟩ := ob h
          refine c_V0 (As := [.int (x4_4)]) (rest := [.int (x3_3)]) (a := 0) X hl.1 (c_X11_tells l X.2.2.2.1.1 hn hr_14) (w_X11_150) qw_1189 qw_49 ⟨Nat.le_of_ble_eq_true rfl, Nat.le_of_ble_eq_true rfl⟩ rfl rfl hP hS (by omega) sM_Model rfl rfl (Nat.le_of_ble_eq_true rfl) dX11_care_43 (fun H locs hP hS => ?_)
          refine lv_iadd hx hb dX11_care_46 ?_
          refine lv_istore_n (lv' := [(3, .int ((x3_3 + r_14))), (2, .int ((x2_2 + r_13))), (0, .ref (φ 0)), (1, .int (x1_1)), (4, .int (x4_4))]) hx hb dX11_care_47 rfl hl (by decide) rfl (fun ls hl => ?_)
          refine lv_iinc (v := (x4_4 + 1)) (lv' := [(4, .int ((x4_4 + 1))), (3, .int ((x3_3 + r_14))), (2, .int ((x2_2 + r_13))), (0, .ref (φ 0)), (1, .int (x1_1))]) hx hb dX11_care_48 hl (k := 4) rfl (by rw [show Int32.ofInt (1) = 1 from by decide]) (by decide) rfl (fun ls hl => ?_)
          refine lv_goto (tgt := 7) hx hb dX11_care_51 (by decide) ?_
          exact ih _ _ _ _ _ _ _ _ hP hS (lv_sub hl [3, 4, 2, 1, 0] rfl)  h
        · rw [if_neg c_12] at h
          refine lv_goto (tgt := 48) hx hb dX11_care_27 (by decide) ?_
          refine lv_iinc (v := (x4_4 + 1)) (lv' := [(4, .int ((x4_4 + 1))), (0, .ref (φ 0)), (1, .int (x1_1)), (2, .int (x2_2)), (3, .int (x3_3))]) hx hb dX11_care_48 hl (k := 4) rfl (by rw [show Int32.ofInt (1) = 1 from by decide]) (by decide) rfl (fun ls hl => ?_)
          refine lv_goto (tgt := 7) hx hb dX11_care_51 (by decide) ?_
          exact ih _ _ _ _ _ _ _ _ hP hS (lv_sub hl [1, 2, 3, 4, 0] rfl)  h
  refine lv_iconst (v := 0) hx hb dX11_care_0 (by decide) ?_
  refine lv_istore_n (lv' := [(2, .int (0)), (0, .ref (φ 0)), (1, .int (a1))]) hx hb dX11_care_1 rfl hl (by decide) rfl (fun ls hl => ?_)
  refine lv_iconst (v := 0) hx hb dX11_care_2 (by decide) ?_
  refine lv_istore_n (lv' := [(3, .int (0)), (2, .int (0)), (0, .ref (φ 0)), (1, .int (a1))]) hx hb dX11_care_3 rfl hl (by decide) rfl (fun ls hl => ?_)
  refine lv_iconst (v := 0) hx hb dX11_care_4 (by decide) ?_
  refine lv_istore (lv' := [(4, .int (0)), (3, .int (0)), (2, .int (0)), (0, .ref (φ 0)), (1, .int (a1))]) hx hb dX11_care_5 hl (by decide) rfl (fun ls hl => ?_)
  refine L7 _ _ _ _ _ _ _ _ _ hP hS (lv_sub hl [3, 4, 2, 1, 0] rfl)  h

def f_X11_harm_8 : Nat → Int32 → Int32 → Mem → Option (Int32 × Mem)
  | 0, _, _, _ => none
  | fu_5 + 1, x1_2, x2_3, M_4 => (if 4 ≤ x2_3 then some ((x1_2, M_4)) else (if ibd (x2_3) 4 then (if (M_4 17 (Int32.toNatClampNeg (x2_3))) ≤ 1 then (if ibd (x2_3) 4 then (if (M_4 17 (Int32.toNatClampNeg (x2_3))) = 0 then (Option.bind (f_X11_isAsked M_4 (x2_3)) fun r_11 => (if r_11 = 0 then (f_X11_harm_8 fu_5 (x1_2) ((x2_3 + 1)) M_4) else (Option.bind (f_X11_care M_4 (x2_3)) fun r_13 => (f_X11_harm_8 fu_5 ((x1_2 + r_13.1)) ((x2_3 + 1)) r_13.2)))) else (f_X11_harm_8 fu_5 (x1_2) ((x2_3 + 1)) M_4)) else none) else (if ibd (x2_3) 4 then (if ibd (x2_3) 4 then (if (M_4 17 (Int32.toNatClampNeg (x2_3))) = 0 then (Option.bind (f_X11_isAsked M_4 (x2_3)) fun r_17 => (if r_17 = 0 then (f_X11_harm_8 fu_5 ((x1_2 + ((M_4 17 (Int32.toNatClampNeg (x2_3))) - 1))) ((x2_3 + 1)) M_4) else (Option.bind (f_X11_care M_4 (x2_3)) fun r_19 => (f_X11_harm_8 fu_5 (((x1_2 + ((M_4 17 (Int32.toNatClampNeg (x2_3))) - 1)) + r_19.1)) ((x2_3 + 1)) r_19.2)))) else (f_X11_harm_8 fu_5 ((x1_2 + ((M_4 17 (Int32.toNatClampNeg (x2_3))) - 1))) ((x2_3 + 1)) M_4)) else none) else none)) else none))
def f_X11_harm (M : Mem) : Option (Int32 × Mem) :=
  (Option.bind (f_X11_go M) fun r_1 => (f_X11_harm_8 FU (0) (0) r_1))
set_option maxRecDepth 100000 in
set_option maxHeartbeats 4000000 in
theorem c_X11_harm (l : Launch) {G : GT} {φ : Nat → Nat} {n : Nat} {M : Mem} {L : Nat → Int64} (hI : wI φ n) (hn : 32 ≤ n) {r : Int32 × Mem} (h : f_X11_harm M = some r) : CT l yX11_harm cX11_harm 3 (some .int) ({ frames := 4, cells := 0, slots := 0, locals := 92 } : Room) [.ref (φ 0)] (WB (cM G φ L) φ M n G) (some (.int r.1)) (WB (cM G φ L) φ (r.2) n G) φ n := by
  unfold f_X11_harm at h
  refine r_start (plainFor_of_name (by decide)) (Nat.le_of_ble_eq_true rfl) hI ?_
  intro p e s m args below meth c ls X hr hlk hP hl
  have hS : va_S (wA φ n s.heap.size) s.heap s.heap [] := va_S.rf
  have hx := X.1.1
  have hb := X.1.2.1
  have hl : lv_has ls 3 [(0, .ref (φ 0))] := hl
  have L8 : ∀ (fu_5 : Nat) (M_4 : Mem) (x1_2 : Int32) (x2_3 : Int32)  (H : Heap) (locs : List Loc) (ls : Array Slot), va_P G.1 vwCl (wW (cM G φ L) φ M_4 n) H → va_S (wA φ n s.heap.size) s.heap H locs → lv_has ls 3 [(0, .ref (φ 0)), (1, .int (x1_2)), (2, .int (x2_3))] → f_X11_harm_8 fu_5 x1_2 x2_3 M_4 = some r → W p l e ({ frames := 4, cells := 0, slots := 0, locals := 92 } : Room) s m args below meth c H locs 0 0 (MQ below (QQ (some (.int r.1)) (WB (cM G φ L) φ (r.2) n G) (wA φ n s.heap.size)) args s 0 0 (wA φ n s.heap.size)) (F0 m 8 ls []) := by
    intro fu_5
    induction fu_5 with
    | zero =>
      intro M_4 x1_2 x2_3 H locs ls _ _ _  h
      have h : (none : Option (Int32 × Mem)) = some r := h
      cases h
    | succ fu_5 ih =>
      intro M_4 x1_2 x2_3 H locs ls hP hS hl  h
      rw [f_X11_harm_8] at h
      refine lv_iload_n hx hb dX11_harm_8 rfl (lv_at hl 2 rfl) ?_
      refine lv_iconst (v := 4) hx hb dX11_harm_9 (by decide) ?_
      refine lv_icmp_ge (tgt := 65) hx hb dX11_harm_10 (by decide) (fun c_6 => ?_) (fun c_6 => ?_)
      · rw [if_pos c_6] at h
        refine lv_iload_n hx hb dX11_harm_65 rfl (lv_at hl 1 rfl) ?_
        obtain rfl := Option.some.inj h
        exact W.iret hx hb hr (r_end X hP hS) hS.2.2 dX11_harm_66 (hlocks := hlk)
      · rw [if_neg c_6] at h
        refine lv_aload_n hx hb dX11_harm_13 rfl (lv_at hl 0 rfl) ?_
        refine G_X11_58 X.1 hn hP dX11_harm_14 ?_
        refine lv_iload_n hx hb dX11_harm_17 rfl (lv_at hl 2 rfl) ?_
        obtain ⟨c_7, h⟩ := og h
        refine r_iald (k := (Int32.toNatClampNeg (x2_3))) X.1 hP (by omega) sM_doneAll rfl (vin c_7) dX11_harm_18 ?_
        refine lv_iconst (v := 1) hx hb dX11_harm_19 (by decide) ?_
        refine lv_icmp_le (tgt := 34) hx hb dX11_harm_20 (by decide) (fun c_8 => ?_) (fun c_8 => ?_)
        · rw [if_pos c_8] at h
          refine lv_aload_n hx hb dX11_harm_34 rfl (lv_at hl 0 rfl) ?_
          refine G_X11_58 X.1 hn hP dX11_harm_35 ?_
          refine lv_iload_n hx hb dX11_harm_38 rfl (lv_at hl 2 rfl) ?_
          obtain ⟨c_9, h⟩ := og h
          refine r_iald (k := (Int32.toNatClampNeg (x2_3))) X.1 hP (by omega) sM_doneAll rfl (vin c_9) dX11_harm_39 ?_
          refine lv_if_ne (tgt := 59) hx hb dX11_harm_40 (by decide) (fun c_10 => ?_) (fun c_10 => ?_)
          · rw [if_neg c_10] at h
            refine lv_iinc (v := (x2_3 + 1)) (lv' := [(2, .int ((x2_3 + 1))), (0, .ref (φ 0)), (1, .int (x1_2))]) hx hb dX11_harm_59 hl (k := 2) rfl (by rw [show Int32.ofInt (1) = 1 from by decide]) (by decide) rfl (fun ls hl => ?_)
            refine lv_goto (tgt := 8) hx hb dX11_harm_62 (by decide) ?_
            exact ih _ _ _ _ _ _ hP hS (lv_sub hl [1, 2, 0] rfl)  h
          · rw [if_pos c_10] at h
            refine lv_aload_n hx hb dX11_harm_43 rfl (lv_at hl 0 rfl) ?_
            refine lv_iload_n hx hb dX11_harm_44 rfl (lv_at hl 2 rfl) ?_
            obtain ⟨r_11, hr_11, h⟩ := ob h
            refine c_V0 (As := [.int (x2_3)]) (rest := []) (a := 0) X hl.1 (c_X11_isAsked l X.2.2.2.1.1 hn hr_11) (w_X11_270) qw_1255 qw_57 ⟨Nat.le_of_ble_eq_true rfl, Nat.le_of_ble_eq_true rfl⟩ rfl rfl hP hS (by omega) sM_Model rfl rfl (Nat.le_of_ble_eq_true rfl) dX11_harm_45 (fun H locs hP hS => ?_)
            refine lv_if_eq (tgt := 59) hx hb dX11_harm_48 (by decide) (fun c_12 => ?_) (fun c_12 => ?_)
            · rw [if_pos c_12] at h
              refine lv_iinc (v := (x2_3 + 1)) (lv' := [(2, .int ((x2_3 + 1))), (0, .ref (φ 0)), (1, .int (x1_2))]) hx hb dX11_harm_59 hl (k := 2) rfl (by rw [show Int32.ofInt (1) = 1 from by decide]) (by decide) rfl (fun ls hl => ?_)
              refine lv_goto (tgt := 8) hx hb dX11_harm_62 (by decide) ?_
              exact ih _ _ _ _ _ _ hP hS (lv_sub hl [1, 2, 0] rfl)  h
            · rw [if_neg c_12] at h
              refine lv_iload_n hx hb dX11_harm_51 rfl (lv_at hl 1 rfl) ?_
              refine lv_aload_n hx hb dX11_harm_52 rfl (lv_at hl 0 rfl) ?_
              refine lv_iload_n hx hb dX11_harm_53 rfl (lv_at hl 2 rfl) ?_
              obtain ⟨r_13, hr_13, h⟩ := ob h
              refine c_V0 (As := [.int (x2_3)]) (rest := [.int (x1_2)]) (a := 0) X hl.1 (c_X11_care l X.2.2.2.1.1 hn hr_13) (w_X11_273) qw_1263 qw_58 ⟨Nat.le_of_ble_eq_true rfl, Nat.le_of_ble_eq_true rfl⟩ rfl rfl hP hS (by omega) sM_Model rfl rfl (Nat.le_of_ble_eq_true rfl) dX11_harm_54 (fun H locs hP hS => ?_)
              refine lv_iadd hx hb dX11_harm_57 ?_
              refine lv_istore_n (lv' := [(1, .int ((x1_2 + r_13.1))), (0, .ref (φ 0)), (2, .int (x2_3))]) hx hb dX11_harm_58 rfl hl (by decide) rfl (fun ls hl => ?_)
              refine lv_iinc (v := (x2_3 + 1)) (lv' := [(2, .int ((x2_3 + 1))), (1, .int ((x1_2 + r_13.1))), (0, .ref (φ 0))]) hx hb dX11_harm_59 hl (k := 2) rfl (by rw [show Int32.ofInt (1) = 1 from by decide]) (by decide) rfl (fun ls hl => ?_)
              refine lv_goto (tgt := 8) hx hb dX11_harm_62 (by decide) ?_
              exact ih _ _ _ _ _ _ hP hS (lv_sub hl [2, 1, 0] rfl)  h
        · rw [if_neg c_8] at h
          refine lv_iload_n hx hb dX11_harm_23 rfl (lv_at hl 1 rfl) ?_
          refine lv_aload_n hx hb dX11_harm_24 rfl (lv_at hl 0 rfl) ?_
          refine G_X11_58 X.1 hn hP dX11_harm_25 ?_
          refine lv_iload_n hx hb dX11_harm_28 rfl (lv_at hl 2 rfl) ?_
          obtain ⟨c_14, h⟩ := og h
          refine r_iald (k := (Int32.toNatClampNeg (x2_3))) X.1 hP (by omega) sM_doneAll rfl (vin c_14) dX11_harm_29 ?_
          refine lv_iconst (v := 1) hx hb dX11_harm_30 (by decide) ?_
          refine lv_isub hx hb dX11_harm_31 ?_
          refine lv_iadd hx hb dX11_harm_32 ?_
          refine lv_istore_n (lv' := [(1, .int ((x1_2 + ((M_4 17 (Int32.toNatClampNeg (x2_3))) - 1)))), (0, .ref (φ 0)), (2, .int (x2_3))]) hx hb dX11_harm_33 rfl hl (by decide) rfl (fun ls hl => ?_)
          refine lv_aload_n hx hb dX11_harm_34 rfl (lv_at hl 1 rfl) ?_
          refine G_X11_58 X.1 hn hP dX11_harm_35 ?_
          refine lv_iload_n hx hb dX11_harm_38 rfl (lv_at hl 2 rfl) ?_
          obtain ⟨c_15, h⟩ := og h
          refine r_iald (k := (Int32.toNatClampNeg (x2_3))) X.1 hP (by omega) sM_doneAll rfl (vin c_15) dX11_harm_39 ?_
          refine lv_if_ne (tgt := 59) hx hb dX11_harm_40 (by decide) (fun c_16 => ?_) (fun c_16 => ?_)
          · rw [if_neg c_16] at h
            refine lv_iinc (v := (x2_3 + 1)) (lv' := [(2, .int ((x2_3 + 1))), (1, .int ((x1_2 + ((M_4 17 (Int32.toNatClampNeg (x2_3))) - 1)))), (0, .ref (φ 0))]) hx hb dX11_harm_59 hl (k := 2) rfl (by rw [show Int32.ofInt (1) = 1 from by decide]) (by decide) rfl (fun ls hl => ?_)
            refine lv_goto (tgt := 8) hx hb dX11_harm_62 (by decide) ?_
            exact ih _ _ _ _ _ _ hP hS (lv_sub hl [2, 1, 0] rfl)  h
          · rw [if_pos c_16] at h
            refine lv_aload_n hx hb dX11_harm_43 rfl (lv_at hl 1 rfl) ?_
            refine lv_iload_n hx hb dX11_harm_44 rfl (lv_at hl 2 rfl) ?_
            obtain ⟨r_17, hr_17, h⟩ := ob h
            refine c_V0 (As := [.int (x2_3)]) (rest := []) (a := 0) X hl.1 (c_X11_isAsked l X.2.2.2.1.1 hn hr_17) (w_X11_270) qw_1255 qw_57 ⟨Nat.le_of_ble_eq_true rfl, Nat.le_of_ble_eq_true rfl⟩ rfl rfl hP hS (by omega) sM_Model rfl rfl (Nat.le_of_ble_eq_true rfl) dX11_harm_45 (fun H locs hP hS => ?_)
            refine lv_if_eq (tgt := 59) hx hb dX11_harm_48 (by decide) (fun c_18 => ?_) (fun c_18 => ?_)
            · rw [if_pos c_18] at h
              refine lv_iinc (v := (x2_3 + 1)) (lv' := [(2, .int ((x2_3 + 1))), (1, .int ((x1_2 + ((M_4 17 (Int32.toNatClampNeg (x2_3))) - 1)))), (0, .ref (φ 0))]) hx hb dX11_harm_59 hl (k := 2) rfl (by rw [show Int32.ofInt (1) = 1 from by decide]) (by decide) rfl (fun ls hl => ?_)
              refine lv_goto (tgt := 8) hx hb dX11_harm_62 (by decide) ?_
              exact ih _ _ _ _ _ _ hP hS (lv_sub hl [2, 1, 0] rfl)  h
            · rw [if_neg c_18] at h
              refine lv_iload_n hx hb dX11_harm_51 rfl (lv_at hl 0 rfl) ?_
              refine lv_aload_n hx hb dX11_harm_52 rfl (lv_at hl 1 rfl) ?_
              refine lv_iload_n hx hb dX11_harm_53 rfl (lv_at hl 2 rfl) ?_
              obtain ⟨r_19, hr_19, h⟩ := ob h
              refine c_V0 (As := [.int (x2_3)]) (rest := [.int ((x1_2 + ((M_4 17 (Int32.toNatClampNeg (x2_3))) - 1)))]) (a := 0) X hl.1 (c_X11_care l X.2.2.2.1.1 hn hr_19) (w_X11_273) qw_1263 qw_58 ⟨Nat.le_of_ble_eq_true rfl, Nat.le_of_ble_eq_true rfl⟩ rfl rfl hP hS (by omega) sM_Model rfl rfl (Nat.le_of_ble_eq_true rfl) dX11_harm_54 (fun H locs hP hS => ?_)
              refine lv_iadd hx hb dX11_harm_57 ?_
              refine lv_istore_n (lv' := [(1, .int (((x1_2 + ((M_4 17 (Int32.toNatClampNeg (x2_3))) - 1)) + r_19.1))), (0, .ref (φ 0)), (2, .int (x2_3))]) hx hb dX11_harm_58 rfl hl (by decide) rfl (fun ls hl => ?_)
              refine lv_iinc (v := (x2_3 + 1)) (lv' := [(2, .int ((x2_3 + 1))), (1, .int (((x1_2 + ((M_4 17 (Int32.toNatClampNeg (x2_3))) - 1)) + r_19.1))), (0, .ref (φ 0))]) hx hb dX11_harm_59 hl (k := 2) rfl (by rw [show Int32.ofInt (1) = 1 from by decide]) (by decide) rfl (fun ls hl => ?_)
              refine lv_goto (tgt := 8) hx hb dX11_harm_62 (by decide) ?_
              exact ih _ _ _ _ _ _ hP hS (lv_sub hl [2, 1, 0] rfl)  h
  refine lv_aload_n hx hb dX11_harm_0 rfl (lv_at hl 0 rfl) ?_
  obtain ⟨r_1, hr_1, h⟩ := ob h
  refine c_V0 (As := []) (rest := []) (a := 0) X hl.1 (c_X11_go l X.2.2.2.1.1 hn hr_1) (w_X11_264) qw_1203 qw_50 ⟨Nat.le_of_ble_eq_true rfl, Nat.le_of_ble_eq_true rfl⟩ rfl rfl hP hS (by omega) sM_Model rfl rfl (Nat.le_of_ble_eq_true rfl) dX11_harm_1 (fun H locs hP hS => ?_)
  refine lv_iconst (v := 0) hx hb dX11_harm_4 (by decide) ?_
  refine lv_istore_n (lv' := [(1, .int (0)), (0, .ref (φ 0))]) hx hb dX11_harm_5 rfl hl (by decide) rfl (fun ls hl => ?_)
  refine lv_iconst (v := 0) hx hb dX11_harm_6 (by decide) ?_
  refine lv_istore_n (lv' := [(2, .int (0)), (1, .int (0)), (0, .ref (φ 0))]) hx hb dX11_harm_7 rfl hl (by decide) rfl (fun ls hl => ?_)
  refine L8 _ _ _ _ _ _ _ hP hS (lv_sub hl [2, 1, 0] rfl)  h

def f_X11_helps_19 (x1_2 : Int32) : Nat → Int32 → Int32 → Int32 → Mem → Option (Int32 × Mem)
  | 0, _, _, _, _ => none
  | fu_7 + 1, x2_3, x3_4, x4_5, M_6 => (if (M_6 0 0) ≤ x4_5 then (if x1_2 = 0 then some ((x2_3, M_6)) else some ((x3_4, M_6))) else (if ibd (x4_5) 5 then (if ibd (x4_5) 5 then (Option.bind (f_X11_harm (upd2 M_6 3 (Int32.toNatClampNeg (x4_5)) (12))) fun r_12 => (if ibd (x4_5) 5 then (if x2_3 = (-1) then (f_X11_helps_19 x1_2 fu_7 (x4_5) (r_12.1) ((x4_5 + 1)) (upd2 r_12.2 3 (Int32.toNatClampNeg (x4_5)) ((M_6 3 (Int32.toNatClampNeg (x4_5)))))) else (if r_12.1 < x3_4 then (f_X11_helps_19 x1_2 fu_7 (x4_5) (r_12.1) ((x4_5 + 1)) (upd2 r_12.2 3 (Int32.toNatClampNeg (x4_5)) ((M_6 3 (Int32.toNatClampNeg (x4_5)))))) else (f_X11_helps_19 x1_2 fu_7 (x2_3) (x3_4) ((x4_5 + 1)) (upd2 r_12.2 3 (Int32.toNatClampNeg (x4_5)) ((M_6 3 (Int32.toNatClampNeg (x4_5)))))))) else none)) else none) else none))
def f_X11_helps (M : Mem) (a1 : Int32) : Option (Int32 × Mem) :=
  (if (f_X11_within (a1) (0) (1)) = 0 then some (((-2), M)) else (f_X11_helps_19 (a1) FU ((-1)) ((-1)) (0) M))
set_option maxRecDepth 100000 in
set_option maxHeartbeats 4000000 in
theorem c_X11_helps (l : Launch) {G : GT} {φ : Nat → Nat} {n : Nat} {M : Mem} {L : Nat → Int64} {a1 : Int32} (hI : wI φ n) (hn : 32 ≤ n) {r : Int32 × Mem} (h : f_X11_helps M a1 = some r) : CT l yX11_helps cX11_helps 7 (some .int) ({ frames := 5, cells := 0, slots := 0, locals := 114 } : Room) [.ref (φ 0), .int (a1)] (WB (cM G φ L) φ M n G) (some (.int r.1)) (WB (cM G φ L) φ (r.2) n G) φ n := by
  unfold f_X11_helps at h
  refine r_start (plainFor_of_name (by decide)) (Nat.le_of_ble_eq_true rfl) hI ?_
  intro p e s m args below meth c ls X hr hlk hP hl
  have hS : va_S (wA φ n s.heap.size) s.heap s.heap [] := va_S.rf
  have hx := X.1.1
  have hb := X.1.2.1
  have hl : lv_has ls 7 [(0, .ref (φ 0)), (1, .int (a1))] := hl
  have L19 : ∀ (fu_7 : Nat) (M_6 : Mem) (x1_2 : Int32) (x2_3 : Int32) (x3_4 : Int32) (x4_5 : Int32)  (H : Heap) (locs : List Loc) (ls : Array Slot), va_P G.1 vwCl (wW (cM G φ L) φ M_6 n) H → va_S (wA φ n s.heap.size) s.heap H locs → lv_has ls 7 [(0, .ref (φ 0)), (1, .int (x1_2)), (2, .int (x2_3)), (3, .int (x3_4)), (4, .int (x4_5))] → f_X11_helps_19 x1_2 fu_7 x2_3 x3_4 x4_5 M_6 = some r → W p l e ({ frames := 5, cells := 0, slots := 0, locals := 114 } : Room) s m args below meth c H locs 0 0 (MQ below (QQ (some (.int r.1)) (WB (cM G φ L) φ (r.2) n G) (wA φ n s.heap.size)) args s 0 0 (wA φ n s.heap.size)) (F0 m 19 ls []) := by
    intro fu_7
    induction fu_7 with
    | zero =>
      intro M_6 x1_2 x2_3 x3_4 x4_5 H locs ls _ _ _  h
      have h : (none : Option (Int32 × Mem)) = some r := h
      cases h
    | succ fu_7 ih =>
      intro M_6 x1_2 x2_3 x3_4 x4_5 H locs ls hP hS hl  h
      rw [f_X11_helps_19] at h
      refine lv_iload hx hb dX11_helps_19 (lv_at hl 4 rfl) ?_
      refine lv_aload_n hx hb dX11_helps_21 rfl (lv_at hl 0 rfl) ?_
      refine G_X11_123 X.1 hn hP dX11_helps_22 ?_
      refine lv_icmp_ge (tgt := 87) hx hb dX11_helps_25 (by decide) (fun c_8 => ?_) (fun c_8 => ?_)
      · rw [if_pos c_8] at h
        refine lv_iload_n hx hb dX11_helps_87 rfl (lv_at hl 1 rfl) ?_
        refine lv_if_ne (tgt := 95) hx hb dX11_helps_88 (by decide) (fun c_9 => ?_) (fun c_9 => ?_)
        · rw [if_neg c_9] at h
          refine lv_iload_n hx hb dX11_helps_95 rfl (lv_at hl 3 rfl) ?_
          obtain rfl := Option.some.inj h
          exact W.iret hx hb hr (r_end X hP hS) hS.2.2 dX11_helps_96 (hlocks := hlk)
        · rw [if_pos c_9] at h
          refine lv_iload_n hx hb dX11_helps_91 rfl (lv_at hl 2 rfl) ?_
          refine lv_goto (tgt := 96) hx hb dX11_helps_92 (by decide) ?_
          obtain rfl := Option.some.inj h
          exact W.iret hx hb hr (r_end X hP hS) hS.2.2 dX11_helps_96 (hlocks := hlk)
      · rw [if_neg c_8] at h
        refine lv_aload_n hx hb dX11_helps_28 rfl (lv_at hl 0 rfl) ?_
        refine G_X11_16 X.1 hn hP dX11_helps_29 ?_
        refine lv_iload hx hb dX11_helps_32 (lv_at hl 4 rfl) ?_
        obtain ⟨c_10, h⟩ := og h
        refine r_iald (k := (Int32.toNatClampNeg (x4_5))) X.1 hP (by omega) sM_reads rfl (vin c_10) dX11_helps_34 ?_
        refine lv_istore (lv' := [(5, .int ((M_6 3 (Int32.toNatClampNeg (x4_5))))), (0, .ref (φ 0)), (1, .int (x1_2)), (2, .int (x2_3)), (3, .int (x3_4)), (4, .int (x4_5))]) hx hb dX11_helps_35 hl (by decide) rfl (fun ls hl => ?_)
        refine lv_aload_n hx hb dX11_helps_37 rfl (lv_at hl 1 rfl) ?_
        refine G_X11_16 X.1 hn hP dX11_helps_38 ?_
        refine lv_iload hx hb dX11_helps_41 (lv_at hl 5 rfl) ?_
        refine lv_bipush (v := 12) hx hb dX11_helps_43 (by decide) ?_
        obtain ⟨c_11, h⟩ := og h
        refine r_iast (k := (Int32.toNatClampNeg (x4_5))) X.1 X.2.2.2.1 hP hS (by omega) sM_reads rfl (vin c_11) dX11_helps_45 (fun H locs hP hS => ?_)
        refine lv_aload_n hx hb dX11_helps_46 rfl (lv_at hl 1 rfl) ?_
        obtain ⟨r_12, hr_12, h⟩ := ob h
        refine c_V0 (As := []) (rest := []) (a := 0) X hl.1 (c_X11_harm l X.2.2.2.1.1 hn hr_12) (w_X11_275) qw_1258 qw_1259 ⟨Nat.le_of_ble_eq_true rfl, Nat.le_of_ble_eq_true rfl⟩ rfl rfl hP hS (by omega) sM_Model rfl rfl (Nat.le_of_ble_eq_true rfl) dX11_helps_47 (fun H locs hP hS => ?_)
        refine lv_istore (lv' := [(6, .int (r_12.1)), (5, .int ((M_6 3 (Int32.toNatClampNeg (x4_5))))), (0, .ref (φ 0)), (1, .int (x1_2)), (2, .int (x2_3)), (3, .int (x3_4)), (4, .int (x4_5))]) hx hb dX11_helps_50 hl (by decide) rfl (fun ls hl => ?_)
        refine lv_aload_n hx hb dX11_helps_52 rfl (lv_at hl 2 rfl) ?_
        refine G_X11_16 X.1 hn hP dX11_helps_53 ?_
        refine lv_iload hx hb dX11_helps_56 (lv_at hl 6 rfl) ?_
        refine lv_iload hx hb dX11_helps_58 (lv_at hl 1 rfl) ?_
        obtain ⟨c_13, h⟩ := og h
        refine r_iast (k := (Int32.toNatClampNeg (x4_5))) X.1 X.2.2.2.1 hP hS (by omega) sM_reads rfl (vin c_13) dX11_helps_60 (fun H locs hP hS => ?_)
        refine lv_iload_n hx hb dX11_helps_61 rfl (lv_at hl 4 rfl) ?_
        refine lv_iconst (v := (-1)) hx hb dX11_helps_62 (by decide) ?_
        refine lv_icmp_eq (tgt := 75) hx hb dX11_helps_63 (by decide) (fun c_14 => ?_) (fun c_14 => ?_)
        · rw [if_pos c_14] at h
          refine lv_iload hx hb dX11_helps_75 (lv_at hl 6 rfl) ?_
          refine lv_istore_n (lv' := [(2, .int (x4_5)), (6, .int (r_12.1)), (5, .int ((M_6 3 (Int32.toNatClampNeg (x4_5))))), (0, .ref (φ 0)), (1, .int (x1_2)), (3, .int (x3_4)), (4, .int (x4_5))]) hx hb dX11_helps_77 rfl hl (by decide) rfl (fun ls hl => ?_)
          refine lv_iload hx hb dX11_helps_78 (lv_at hl 1 rfl) ?_
          refine lv_istore_n (lv' := [(3, .int (r_12.1)), (2, .int (x4_5)), (6, .int (r_12.1)), (5, .int ((M_6 3 (Int32.toNatClampNeg (x4_5))))), (0, .ref (φ 0)), (1, .int (x1_2)), (4, .int (x4_5))]) hx hb dX11_helps_80 rfl hl (by decide) rfl (fun ls hl => ?_)
          refine lv_iinc (v := (x4_5 + 1)) (lv' := [(4, .int ((x4_5 + 1))), (3, .int (r_12.1)), (2, .int (x4_5)), (6, .int (r_12.1)), (5, .int ((M_6 3 (Int32.toNatClampNeg (x4_5))))), (0, .ref (φ 0)), (1, .int (x1_2))]) hx hb dX11_helps_81 hl (k := 6) rfl (by rw [show Int32.ofInt (1) = 1 from by decide]) (by decide) rfl (fun ls hl => ?_)
          refine lv_goto (tgt := 19) hx hb dX11_helps_84 (by decide) ?_
          exact ih _ _ _ _ _ _ _ _ hP hS (lv_sub hl [5, 6, 2, 1, 0] rfl)  h
        · rw [if_neg c_14] at h
          refine lv_iload hx hb dX11_helps_66 (lv_at hl 0 rfl) ?_
          refine lv_iload_n hx hb dX11_helps_68 rfl (lv_at hl 5 rfl) ?_
          refine lv_icmp_lt (tgt := 75) hx hb dX11_helps_69 (by decide) (fun c_15 => ?_) (fun c_15 => ?_)
          · rw [if_pos c_15] at h
            refine lv_iload hx hb dX11_helps_75 (lv_at hl 6 rfl) ?_
            refine lv_istore_n (lv' := [(2, .int (x4_5)), (6, .int (r_12.1)), (5, .int ((M_6 3 (Int32.toNatClampNeg (x4_5))))), (0, .ref (φ 0)), (1, .int (x1_2)), (3, .int (x3_4)), (4, .int (x4_5))]) hx hb dX11_helps_77 rfl hl (by decide) rfl (fun ls hl => ?_)
            refine lv_iload hx hb dX11_helps_78 (lv_at hl 1 rfl) ?_
            refine lv_istore_n (lv' := [(3, .int (r_12.1)), (2, .int (x4_5)), (6, .int (r_12.1)), (5, .int ((M_6 3 (Int32.toNatClampNeg (x4_5))))), (0, .ref (φ 0)), (1, .int (x1_2)), (4, .int (x4_5))]) hx hb dX11_helps_80 rfl hl (by decide) rfl (fun ls hl => ?_)
            refine lv_iinc (v := (x4_5 + 1)) (lv' := [(4, .int ((x4_5 + 1))), (3, .int (r_12.1)), (2, .int (x4_5)), (6, .int (r_12.1)), (5, .int ((M_6 3 (Int32.toNatClampNeg (x4_5))))), (0, .ref (φ 0)), (1, .int (x1_2))]) hx hb dX11_helps_81 hl (k := 6) rfl (by rw [show Int32.ofInt (1) = 1 from by decide]) (by decide) rfl (fun ls hl => ?_)
            refine lv_goto (tgt := 19) hx hb dX11_helps_84 (by decide) ?_
            exact ih _ _ _ _ _ _ _ _ hP hS (lv_sub hl [5, 6, 2, 1, 0] rfl)  h
          · rw [if_neg c_15] at h
            refine lv_goto (tgt := 81) hx hb dX11_helps_72 (by decide) ?_
            refine lv_iinc (v := (x4_5 + 1)) (lv' := [(4, .int ((x4_5 + 1))), (6, .int (r_12.1)), (5, .int ((M_6 3 (Int32.toNatClampNeg (x4_5))))), (0, .ref (φ 0)), (1, .int (x1_2)), (2, .int (x2_3)), (3, .int (x3_4))]) hx hb dX11_helps_81 hl (k := 6) rfl (by rw [show Int32.ofInt (1) = 1 from by decide]) (by decide) rfl (fun ls hl => ?_)
            refine lv_goto (tgt := 19) hx hb dX11_helps_84 (by decide) ?_
            exact ih _ _ _ _ _ _ _ _ hP hS (lv_sub hl [3, 4, 5, 6, 0] rfl)  h
  refine lv_iload_n hx hb dX11_helps_0 rfl (lv_at hl 1 rfl) ?_
  refine lv_iconst (v := 0) hx hb dX11_helps_1 (by decide) ?_
  refine lv_iconst (v := 1) hx hb dX11_helps_2 (by decide) ?_
  refine c_S0 (As := [.int (a1), .int (0), .int (1)]) (rest := []) X hl.1 (c_X11_within l X.2.2.2.1.1 hn rfl) (w_X11_127) qw_933 ⟨Nat.le_of_ble_eq_true rfl, Nat.le_of_ble_eq_true rfl⟩ rfl rfl hP hS (Nat.le_of_ble_eq_true rfl) dX11_helps_3 (fun H locs hP hS => ?_)
  refine lv_if_ne (tgt := 12) hx hb dX11_helps_6 (by decide) (fun c_1 => ?_) (fun c_1 => ?_)
  · rw [if_neg c_1] at h
    refine lv_iconst (v := (-1)) hx hb dX11_helps_12 (by decide) ?_
    refine lv_istore_n (lv' := [(2, .int ((-1))), (0, .ref (φ 0)), (1, .int (a1))]) hx hb dX11_helps_13 rfl hl (by decide) rfl (fun ls hl => ?_)
    refine lv_iconst (v := (-1)) hx hb dX11_helps_14 (by decide) ?_
    refine lv_istore_n (lv' := [(3, .int ((-1))), (2, .int ((-1))), (0, .ref (φ 0)), (1, .int (a1))]) hx hb dX11_helps_15 rfl hl (by decide) rfl (fun ls hl => ?_)
    refine lv_iconst (v := 0) hx hb dX11_helps_16 (by decide) ?_
    refine lv_istore (lv' := [(4, .int (0)), (3, .int ((-1))), (2, .int ((-1))), (0, .ref (φ 0)), (1, .int (a1))]) hx hb dX11_helps_17 hl (by decide) rfl (fun ls hl => ?_)
    refine L19 _ _ _ _ _ _ _ _ _ hP hS (lv_sub hl [3, 4, 2, 1, 0] rfl)  h
  · rw [if_pos c_1] at h
    refine lv_bipush (v := (-2)) hx hb dX11_helps_9 (by decide) ?_
    obtain rfl := Option.some.inj h
    exact W.iret hx hb hr (r_end X hP hS) hS.2.2 dX11_helps_11 (hlocks := hlk)

def f_X11_once_24 (x1_3 : Int32) (x2_4 : Int32) : Nat → Int32 → Int32 → Mem → Option (Int32 × Mem)
  | 0, _, _, _ => none
  | fu_8 + 1, x3_5, x4_6, M_7 => (if x4_6 < 0 then (if ibd (x1_3) 10 then some ((x3_5, (upd2 M_7 6 (Int32.toNatClampNeg (x1_3)) (x2_4)))) else none) else (if x3_5 = (-1) then (if ibd (x1_3) 10 then (Option.bind (f_X11_go (upd2 M_7 6 (Int32.toNatClampNeg (x1_3)) (x4_6))) fun r_14 => (if ibd (x1_3) 10 then (if ibd ((r_14 7 (Int32.toNatClampNeg (x1_3)))) 4 then (if (r_14 17 (Int32.toNatClampNeg ((r_14 7 (Int32.toNatClampNeg (x1_3)))))) = 1 then (f_X11_once_24 x1_3 x2_4 fu_8 (x4_6) ((x4_6 + (-1))) r_14) else (f_X11_once_24 x1_3 x2_4 fu_8 (x3_5) ((x4_6 + (-1))) r_14)) else none) else none)) else none) else (if ibd (x1_3) 10 then some ((x3_5, (upd2 M_7 6 (Int32.toNatClampNeg (x1_3)) (x2_4)))) else none)))
def f_X11_once (M : Mem) (a1 : Int32) : Option (Int32 × Mem) :=
  (if (f_X11_isNote M (a1)) = 0 then some (((-2), M)) else (if ibd (a1) 10 then (f_X11_once_24 (a1) ((M 6 (Int32.toNatClampNeg (a1)))) FU ((-1)) (47) M) else none))
set_option maxRecDepth 100000 in
set_option maxHeartbeats 4000000 in
theorem c_X11_once (l : Launch) {G : GT} {φ : Nat → Nat} {n : Nat} {M : Mem} {L : Nat → Int64} {a1 : Int32} (hI : wI φ n) (hn : 32 ≤ n) {r : Int32 × Mem} (h : f_X11_once M a1 = some r) : CT l yX11_once cX11_once 5 (some .int) ({ frames := 4, cells := 0, slots := 0, locals := 92 } : Room) [.ref (φ 0), .int (a1)] (WB (cM G φ L) φ M n G) (some (.int r.1)) (WB (cM G φ L) φ (r.2) n G) φ n := by
  unfold f_X11_once at h
  refine r_start (plainFor_of_name (by decide)) (Nat.le_of_ble_eq_true rfl) hI ?_
  intro p e s m args below meth c ls X hr hlk hP hl
  have hS : va_S (wA φ n s.heap.size) s.heap s.heap [] := va_S.rf
  have hx := X.1.1
  have hb := X.1.2.1
  have hl : lv_has ls 5 [(0, .ref (φ 0)), (1, .int (a1))] := hl
  have L24 : ∀ (fu_8 : Nat) (M_7 : Mem) (x1_3 : Int32) (x2_4 : Int32) (x3_5 : Int32) (x4_6 : Int32)  (H : Heap) (locs : List Loc) (ls : Array Slot), va_P G.1 vwCl (wW (cM G φ L) φ M_7 n) H → va_S (wA φ n s.heap.size) s.heap H locs → lv_has ls 5 [(0, .ref (φ 0)), (1, .int (x1_3)), (2, .int (x2_4)), (3, .int (x3_5)), (4, .int (x4_6))] → f_X11_once_24 x1_3 x2_4 fu_8 x3_5 x4_6 M_7 = some r → W p l e ({ frames := 4, cells := 0, slots := 0, locals := 92 } : Room) s m args below meth c H locs 0 0 (MQ below (QQ (some (.int r.1)) (WB (cM G φ L) φ (r.2) n G) (wA φ n s.heap.size)) args s 0 0 (wA φ n s.heap.size)) (F0 m 24 ls []) := by
    intro fu_8
    induction fu_8 with
    | zero =>
      intro M_7 x1_3 x2_4 x3_5 x4_6 H locs ls _ _ _  h
      have h : (none : Option (Int32 × Mem)) = some r := h
      cases h
    | succ fu_8 ih =>
      intro M_7 x1_3 x2_4 x3_5 x4_6 H locs ls hP hS hl  h
      rw [f_X11_once_24] at h
      refine lv_iload hx hb dX11_once_24 (lv_at hl 4 rfl) ?_
      refine lv_if_lt (tgt := 70) hx hb dX11_once_26 (by decide) (fun c_9 => ?_) (fun c_9 => ?_)
      · rw [if_pos c_9] at h
        refine lv_aload_n hx hb dX11_once_70 rfl (lv_at hl 0 rfl) ?_
        refine G_X11_25 X.1 hn hP dX11_once_71 ?_
        refine lv_iload_n hx hb dX11_once_74 rfl (lv_at hl 1 rfl) ?_
        refine lv_iload_n hx hb dX11_once_75 rfl (lv_at hl 2 rfl) ?_
        obtain ⟨c_10, h⟩ := og h
        refine r_iast (k := (Int32.toNatClampNeg (x1_3))) X.1 X.2.2.2.1 hP hS (by omega) sM_hour rfl (vin c_10) dX11_once_76 (fun H locs hP hS => ?_)
        refine lv_iload_n hx hb dX11_once_77 rfl (lv_at hl 3 rfl) ?_
        obtain rfl := Option.some.inj h
        exact W.iret hx hb hr (r_end X hP hS) hS.2.2 dX11_once_78 (hlocks := hlk)
      · rw [if_neg c_9] at h
        refine lv_iload_n hx hb dX11_once_29 rfl (lv_at hl 3 rfl) ?_
        refine lv_iconst (v := (-1)) hx hb dX11_once_30 (by decide) ?_
        refine lv_icmp_ne (tgt := 70) hx hb dX11_once_31 (by decide) (fun c_11 => ?_) (fun c_11 => ?_)
        · rw [if_neg c_11] at h
          refine lv_aload_n hx hb dX11_once_70 rfl (lv_at hl 0 rfl) ?_
          refine G_X11_25 X.1 hn hP dX11_once_71 ?_
          refine lv_iload_n hx hb dX11_once_74 rfl (lv_at hl 1 rfl) ?_
          refine lv_iload_n hx hb dX11_once_75 rfl (lv_at hl 2 rfl) ?_
          obtain ⟨c_12, h⟩ := og h
          refine r_iast (k := (Int32.toNatClampNeg (x1_3))) X.1 X.2.2.2.1 hP hS (by omega) sM_hour rfl (vin c_12) dX11_once_76 (fun H locs hP hS => ?_)
          refine lv_iload_n hx hb dX11_once_77 rfl (lv_at hl 3 rfl) ?_
          obtain rfl := Option.some.inj h
          exact W.iret hx hb hr (r_end X hP hS) hS.2.2 dX11_once_78 (hlocks := hlk)
        · rw [if_pos c_11] at h
          refine lv_aload_n hx hb dX11_once_34 rfl (lv_at hl 0 rfl) ?_
          refine G_X11_25 X.1 hn hP dX11_once_35 ?_
          refine lv_iload_n hx hb dX11_once_38 rfl (lv_at hl 1 rfl) ?_
          refine lv_iload hx hb dX11_once_39 (lv_at hl 4 rfl) ?_
          obtain ⟨c_13, h⟩ := og h
          refine r_iast (k := (Int32.toNatClampNeg (x1_3))) X.1 X.2.2.2.1 hP hS (by omega) sM_hour rfl (vin c_13) dX11_once_41 (fun H locs hP hS => ?_)
          refine lv_aload_n hx hb dX11_once_42 rfl (lv_at hl 0 rfl) ?_
          obtain ⟨r_14, hr_14, h⟩ := ob h
          refine c_V0 (As := []) (rest := []) (a := 0) X hl.1 (c_X11_go l X.2.2.2.1.1 hn hr_14) (w_X11_264) qw_1203 qw_50 ⟨Nat.le_of_ble_eq_true rfl, Nat.le_of_ble_eq_true rfl⟩ rfl rfl hP hS (by omega) sM_Model rfl rfl (Nat.le_of_ble_eq_true rfl) dX11_once_43 (fun H locs hP hS => ?_)
          refine lv_aload_n hx hb dX11_once_46 rfl (lv_at hl 0 rfl) ?_
          refine G_X11_58 X.1 hn hP dX11_once_47 ?_
          refine lv_aload_n hx hb dX11_once_50 rfl (lv_at hl 0 rfl) ?_
          refine G_X11_28 X.1 hn hP dX11_once_51 ?_
          refine lv_iload_n hx hb dX11_once_54 rfl (lv_at hl 1 rfl) ?_
          obtain ⟨c_15, h⟩ := og h
          refine r_iald (k := (Int32.toNatClampNeg (x1_3))) X.1 hP (by omega) sM_thing rfl (vin c_15) dX11_once_55 ?_
          obtain ⟨c_16, h⟩ := og h
          refine r_iald (k := (Int32.toNatClampNeg ((r_14 7 (Int32.toNatClampNeg (x1_3)))))) X.1 hP (by omega) sM_doneAll rfl (vin c_16) dX11_once_56 ?_
          refine lv_iconst (v := 1) hx hb dX11_once_57 (by decide) ?_
          refine lv_icmp_ne (tgt := 64) hx hb dX11_once_58 (by decide) (fun c_17 => ?_) (fun c_17 => ?_)
          · rw [if_neg c_17] at h
            refine lv_iinc (v := (x4_6 + (-1))) (lv' := [(4, .int ((x4_6 + (-1)))), (0, .ref (φ 0)), (1, .int (x1_3)), (2, .int (x2_4)), (3, .int (x3_5))]) hx hb dX11_once_64 hl (k := 4) rfl (by rw [show Int32.ofInt (-1) = (-1) from by decide]) (by decide) rfl (fun ls hl => ?_)
            refine lv_goto (tgt := 24) hx hb dX11_once_67 (by decide) ?_
            exact ih _ _ _ _ _ _ _ _ hP hS (lv_sub hl [1, 2, 3, 4, 0] rfl)  h
          · rw [if_pos c_17] at h
            refine lv_iload hx hb dX11_once_61 (lv_at hl 4 rfl) ?_
            refine lv_istore_n (lv' := [(3, .int (x4_6)), (0, .ref (φ 0)), (1, .int (x1_3)), (2, .int (x2_4)), (4, .int (x4_6))]) hx hb dX11_once_63 rfl hl (by decide) rfl (fun ls hl => ?_)
            refine lv_iinc (v := (x4_6 + (-1))) (lv' := [(4, .int ((x4_6 + (-1)))), (3, .int (x4_6)), (0, .ref (φ 0)), (1, .int (x1_3)), (2, .int (x2_4))]) hx hb dX11_once_64 hl (k := 4) rfl (by rw [show Int32.ofInt (-1) = (-1) from by decide]) (by decide) rfl (fun ls hl => ?_)
            refine lv_goto (tgt := 24) hx hb dX11_once_67 (by decide) ?_
            exact ih _ _ _ _ _ _ _ _ hP hS (lv_sub hl [2, 3, 4, 1, 0] rfl)  h
  refine lv_aload_n hx hb dX11_once_0 rfl (lv_at hl 0 rfl) ?_
  refine lv_iload_n hx hb dX11_once_1 rfl (lv_at hl 1 rfl) ?_
  refine c_V0 (As := [.int (a1)]) (rest := []) (a := 0) X hl.1 (c_X11_isNote l X.2.2.2.1.1 hn rfl) (w_X11_134) qw_1165 qw_44 ⟨Nat.le_of_ble_eq_true rfl, Nat.le_of_ble_eq_true rfl⟩ rfl rfl hP hS (by omega) sM_Model rfl rfl (Nat.le_of_ble_eq_true rfl) dX11_once_2 (fun H locs hP hS => ?_)
  refine lv_if_ne (tgt := 11) hx hb dX11_once_5 (by decide) (fun c_1 => ?_) (fun c_1 => ?_)
  · rw [if_neg c_1] at h
    refine lv_aload_n hx hb dX11_once_11 rfl (lv_at hl 0 rfl) ?_
    refine G_X11_25 X.1 hn hP dX11_once_12 ?_
    refine lv_iload_n hx hb dX11_once_15 rfl (lv_at hl 1 rfl) ?_
    obtain ⟨c_2, h⟩ := og h
    refine r_iald (k := (Int32.toNatClampNeg (a1))) X.1 hP (by omega) sM_hour rfl (vin c_2) dX11_once_16 ?_
    refine lv_istore_n (lv' := [(2, .int ((M 6 (Int32.toNatClampNeg (a1))))), (0, .ref (φ 0)), (1, .int (a1))]) hx hb dX11_once_17 rfl hl (by decide) rfl (fun ls hl => ?_)
    refine lv_iconst (v := (-1)) hx hb dX11_once_18 (by decide) ?_
    refine lv_istore_n (lv' := [(3, .int ((-1))), (2, .int ((M 6 (Int32.toNatClampNeg (a1))))), (0, .ref (φ 0)), (1, .int (a1))]) hx hb dX11_once_19 rfl hl (by decide) rfl (fun ls hl => ?_)
    refine lv_bipush (v := 47) hx hb dX11_once_20 (by decide) ?_
    refine lv_istore (lv' := [(4, .int (47)), (3, .int ((-1))), (2, .int ((M 6 (Int32.toNatClampNeg (a1))))), (0, .ref (φ 0)), (1, .int (a1))]) hx hb dX11_once_22 hl (by decide) rfl (fun ls hl => ?_)
    refine L24 _ _ _ _ _ _ _ _ _ hP hS (lv_sub hl [3, 4, 2, 1, 0] rfl)  h
  · rw [if_pos c_1] at h
    refine lv_bipush (v := (-2)) hx hb dX11_once_8 (by decide) ?_
    obtain rfl := Option.some.inj h
    exact W.iret hx hb hr (r_end X hP hS) hS.2.2 dX11_once_10 (hlocks := hlk)

def f_X11_whose_35 (x1_4 : Int32) (x2_5 : Int32) (x3_6 : Int32) : Nat → Int32 → Int32 → Mem → Option (Int32 × Mem)
  | 0, _, _, _ => none
  | fu_10 + 1, x4_7, x5_8, M_9 => (if 12 < x5_8 then (if ibd (x1_4) 5 then some ((x4_7, (upd2 M_9 3 (Int32.toNatClampNeg (x1_4)) (x3_6)))) else none) else (if x4_7 = (-1) then (if ibd (x1_4) 5 then (Option.bind (f_X11_harm (upd2 M_9 3 (Int32.toNatClampNeg (x1_4)) (x5_8))) fun r_16 => (if x2_5 < r_16.1 then (f_X11_whose_35 x1_4 x2_5 x3_6 fu_10 (x4_7) ((x5_8 + 1)) r_16.2) else (f_X11_whose_35 x1_4 x2_5 x3_6 fu_10 (x5_8) ((x5_8 + 1)) r_16.2))) else none) else (if ibd (x1_4) 5 then some ((x4_7, (upd2 M_9 3 (Int32.toNatClampNeg (x1_4)) (x3_6)))) else none)))
def f_X11_whose (M : Mem) (a1 : Int32) (a2 : Int32) : Option (Int32 × Mem) :=
  (if (f_X11_isPerson M (a1)) = 0 then some (((-2), M)) else (if (f_X11_within (a2) (0) (9999)) = 0 then some (((-2), M)) else (if ibd (a1) 5 then (f_X11_whose_35 (a1) (a2) ((M 3 (Int32.toNatClampNeg (a1)))) FU ((-1)) (0) M) else none)))
set_option maxRecDepth 100000 in
set_option maxHeartbeats 4000000 in
theorem c_X11_whose (l : Launch) {G : GT} {φ : Nat → Nat} {n : Nat} {M : Mem} {L : Nat → Int64} {a1 : Int32} {a2 : Int32} (hI : wI φ n) (hn : 32 ≤ n) {r : Int32 × Mem} (h : f_X11_whose M a1 a2 = some r) : CT l yX11_whose cX11_whose 6 (some .int) ({ frames := 5, cells := 0, slots := 0, locals := 114 } : Room) [.ref (φ 0), .int (a1), .int (a2)] (WB (cM G φ L) φ M n G) (some (.int r.1)) (WB (cM G φ L) φ (r.2) n G) φ n := by
  unfold f_X11_whose at h
  refine r_start (plainFor_of_name (by decide)) (Nat.le_of_ble_eq_true rfl) hI ?_
  intro p e s m args below meth c ls X hr hlk hP hl
  have hS : va_S (wA φ n s.heap.size) s.heap s.heap [] := va_S.rf
  have hx := X.1.1
  have hb := X.1.2.1
  have hl : lv_has ls 6 [(0, .ref (φ 0)), (1, .int (a1)), (2, .int (a2))] := hl
  have L35 : ∀ (fu_10 : Nat) (M_9 : Mem) (x1_4 : Int32) (x2_5 : Int32) (x3_6 : Int32) (x4_7 : Int32) (x5_8 : Int32)  (H : Heap) (locs : List Loc) (ls : Array Slot), va_P G.1 vwCl (wW (cM G φ L) φ M_9 n) H → va_S (wA φ n s.heap.size) s.heap H locs → lv_has ls 6 [(0, .ref (φ 0)), (1, .int (x1_4)), (2, .int (x2_5)), (3, .int (x3_6)), (4, .int (x4_7)), (5, .int (x5_8))] → f_X11_whose_35 x1_4 x2_5 x3_6 fu_10 x4_7 x5_8 M_9 = some r → W p l e ({ frames := 5, cells := 0, slots := 0, locals := 114 } : Room) s m args below meth c H locs 0 0 (MQ below (QQ (some (.int r.1)) (WB (cM G φ L) φ (r.2) n G) (wA φ n s.heap.size)) args s 0 0 (wA φ n s.heap.size)) (F0 m 35 ls []) := by
    intro fu_10
    induction fu_10 with
    | zero =>
      intro M_9 x1_4 x2_5 x3_6 x4_7 x5_8 H locs ls _ _ _  h
      have h : (none : Option (Int32 × Mem)) = some r := h
      cases h
    | succ fu_10 ih =>
      intro M_9 x1_4 x2_5 x3_6 x4_7 x5_8 H locs ls hP hS hl  h
      rw [f_X11_whose_35] at h
      refine lv_iload hx hb dX11_whose_35 (lv_at hl 5 rfl) ?_
      refine lv_bipush (v := 12) hx hb dX11_whose_37 (by decide) ?_
      refine lv_icmp_gt (tgt := 74) hx hb dX11_whose_39 (by decide) (fun c_11 => ?_) (fun c_11 => ?_)
      · rw [if_pos c_11] at h
        refine lv_aload_n hx hb dX11_whose_74 rfl (lv_at hl 0 rfl) ?_
        refine G_X11_16 X.1 hn hP dX11_whose_75 ?_
        refine lv_iload_n hx hb dX11_whose_78 rfl (lv_at hl 1 rfl) ?_
        refine lv_iload_n hx hb dX11_whose_79 rfl (lv_at hl 3 rfl) ?_
        obtain ⟨c_12, h⟩ := og h
        refine r_iast (k := (Int32.toNatClampNeg (x1_4))) X.1 X.2.2.2.1 hP hS (by omega) sM_reads rfl (vin c_12) dX11_whose_80 (fun H locs hP hS => ?_)
        refine lv_iload hx hb dX11_whose_81 (lv_at hl 4 rfl) ?_
        obtain rfl := Option.some.inj h
        exact W.iret hx hb hr (r_end X hP hS) hS.2.2 dX11_whose_83 (hlocks := hlk)
      · rw [if_neg c_11] at h
        refine lv_iload hx hb dX11_whose_42 (lv_at hl 4 rfl) ?_
        refine lv_iconst (v := (-1)) hx hb dX11_whose_44 (by decide) ?_
        refine lv_icmp_ne (tgt := 74) hx hb dX11_whose_45 (by decide) (fun c_13 => ?_) (fun c_13 => ?_)
        · rw [if_neg c_13] at h
          refine lv_aload_n hx hb dX11_whose_74 rfl (lv_at hl 0 rfl) ?_
          refine G_X11_16 X.1 hn hP dX11_whose_75 ?_
          refine lv_iload_n hx hb dX11_whose_78 rfl (lv_at hl 1 rfl) ?_
          refine lv_iload_n hx hb dX11_whose_79 rfl (lv_at hl 3 rfl) ?_
          obtain ⟨c_14, h⟩ := og h
          refine r_iast (k := (Int32.toNatClampNeg (x1_4))) X.1 X.2.2.2.1 hP hS (by omega) sM_reads rfl (vin c_14) dX11_whose_80 (fun H locs hP hS => ?_)
          refine lv_iload hx hb dX11_whose_81 (lv_at hl 4 rfl) ?_
          obtain rfl := Option.some.inj h
          exact W.iret hx hb hr (r_end X hP hS) hS.2.2 dX11_whose_83 (hlocks := hlk)
        · rw [if_pos c_13] at h
          refine lv_aload_n hx hb dX11_whose_48 rfl (lv_at hl 0 rfl) ?_
          refine G_X11_16 X.1 hn hP dX11_whose_49 ?_
          refine lv_iload_n hx hb dX11_whose_52 rfl (lv_at hl 1 rfl) ?_
          refine lv_iload hx hb dX11_whose_53 (lv_at hl 5 rfl) ?_
          obtain ⟨c_15, h⟩ := og h
          refine r_iast (k := (Int32.toNatClampNeg (x1_4))) X.1 X.2.2.2.1 hP hS (by omega) sM_reads rfl (vin c_15) dX11_whose_55 (fun H locs hP hS => ?_)
          refine lv_aload_n hx hb dX11_whose_56 rfl (lv_at hl 0 rfl) ?_
          obtain ⟨r_16, hr_16, h⟩ := ob h
          refine c_V0 (As := []) (rest := []) (a := 0) X hl.1 (c_X11_harm l X.2.2.2.1.1 hn hr_16) (w_X11_275) qw_1258 qw_1259 ⟨Nat.le_of_ble_eq_true rfl, Nat.le_of_ble_eq_true rfl⟩ rfl rfl hP hS (by omega) sM_Model rfl rfl (Nat.le_of_ble_eq_true rfl) dX11_whose_57 (fun H locs hP hS => ?_)
          refine lv_iload_n hx hb dX11_whose_60 rfl (lv_at hl 2 rfl) ?_
          refine lv_icmp_gt (tgt := 68) hx hb dX11_whose_61 (by decide) (fun c_17 => ?_) (fun c_17 => ?_)
          · rw [if_pos c_17] at h
            refine lv_iinc (v := (x5_8 + 1)) (lv' := [(5, .int ((x5_8 + 1))), (0, .ref (φ 0)), (1, .int (x1_4)), (2, .int (x2_5)), (3, .int (x3_6)), (4, .int (x4_7))]) hx hb dX11_whose_68 hl (k := 5) rfl (by rw [show Int32.ofInt (1) = 1 from by decide]) (by decide) rfl (fun ls hl => ?_)
            refine lv_goto (tgt := 35) hx hb dX11_whose_71 (by decide) ?_
            exact ih _ _ _ _ _ _ _ _ _ hP hS (lv_sub hl [1, 2, 3, 4, 5, 0] rfl)  h
          · rw [if_neg c_17] at h
            refine lv_iload hx hb dX11_whose_64 (lv_at hl 5 rfl) ?_
            refine lv_istore (lv' := [(4, .int (x5_8)), (0, .ref (φ 0)), (1, .int (x1_4)), (2, .int (x2_5)), (3, .int (x3_6)), (5, .int (x5_8))]) hx hb dX11_whose_66 hl (by decide) rfl (fun ls hl => ?_)
            refine lv_iinc (v := (x5_8 + 1)) (lv' := [(5, .int ((x5_8 + 1))), (4, .int (x5_8)), (0, .ref (φ 0)), (1, .int (x1_4)), (2, .int (x2_5)), (3, .int (x3_6))]) hx hb dX11_whose_68 hl (k := 5) rfl (by rw [show Int32.ofInt (1) = 1 from by decide]) (by decide) rfl (fun ls hl => ?_)
            refine lv_goto (tgt := 35) hx hb dX11_whose_71 (by decide) ?_
            exact ih _ _ _ _ _ _ _ _ _ hP hS (lv_sub hl [2, 3, 4, 5, 1, 0] rfl)  h
  refine lv_aload_n hx hb dX11_whose_0 rfl (lv_at hl 0 rfl) ?_
  refine lv_iload_n hx hb dX11_whose_1 rfl (lv_at hl 1 rfl) ?_
  refine c_V0 (As := [.int (a1)]) (rest := []) (a := 0) X hl.1 (c_X11_isPerson l X.2.2.2.1.1 hn rfl) (w_X11_138) qw_1169 qw_45 ⟨Nat.le_of_ble_eq_true rfl, Nat.le_of_ble_eq_true rfl⟩ rfl rfl hP hS (by omega) sM_Model rfl rfl (Nat.le_of_ble_eq_true rfl) dX11_whose_2 (fun H locs hP hS => ?_)
  refine lv_if_eq (tgt := 19) hx hb dX11_whose_5 (by decide) (fun c_1 => ?_) (fun c_1 => ?_)
  · rw [if_pos c_1] at h
    refine lv_bipush (v := (-2)) hx hb dX11_whose_19 (by decide) ?_
    obtain rfl := Option.some.inj h
    exact W.iret hx hb hr (r_end X hP hS) hS.2.2 dX11_whose_21 (hlocks := hlk)
  · rw [if_neg c_1] at h
    refine lv_iload_n hx hb dX11_whose_8 rfl (lv_at hl 2 rfl) ?_
    refine lv_iconst (v := 0) hx hb dX11_whose_9 (by decide) ?_
    refine lv_sipush (v := 9999) hx hb dX11_whose_10 (by decide) ?_
    refine c_S0 (As := [.int (a2), .int (0), .int (9999)]) (rest := []) X hl.1 (c_X11_within l X.2.2.2.1.1 hn rfl) (w_X11_127) qw_933 ⟨Nat.le_of_ble_eq_true rfl, Nat.le_of_ble_eq_true rfl⟩ rfl rfl hP hS (Nat.le_of_ble_eq_true rfl) dX11_whose_13 (fun H locs hP hS => ?_)
    refine lv_if_ne (tgt := 22) hx hb dX11_whose_16 (by decide) (fun c_2 => ?_) (fun c_2 => ?_)
    · rw [if_neg c_2] at h
      refine lv_aload_n hx hb dX11_whose_22 rfl (lv_at hl 0 rfl) ?_
      refine G_X11_16 X.1 hn hP dX11_whose_23 ?_
      refine lv_iload_n hx hb dX11_whose_26 rfl (lv_at hl 1 rfl) ?_
      obtain ⟨c_3, h⟩ := og h
      refine r_iald (k := (Int32.toNatClampNeg (a1))) X.1 hP (by omega) sM_reads rfl (vin c_3) dX11_whose_27 ?_
      refine lv_istore_n (lv' := [(3, .int ((M 3 (Int32.toNatClampNeg (a1))))), (0, .ref (φ 0)), (1, .int (a1)), (2, .int (a2))]) hx hb dX11_whose_28 rfl hl (by decide) rfl (fun ls hl => ?_)
      refine lv_iconst (v := (-1)) hx hb dX11_whose_29 (by decide) ?_
      refine lv_istore (lv' := [(4, .int ((-1))), (3, .int ((M 3 (Int32.toNatClampNeg (a1))))), (0, .ref (φ 0)), (1, .int (a1)), (2, .int (a2))]) hx hb dX11_whose_30 hl (by decide) rfl (fun ls hl => ?_)
      refine lv_iconst (v := 0) hx hb dX11_whose_32 (by decide) ?_
      refine lv_istore (lv' := [(5, .int (0)), (4, .int ((-1))), (3, .int ((M 3 (Int32.toNatClampNeg (a1))))), (0, .ref (φ 0)), (1, .int (a1)), (2, .int (a2))]) hx hb dX11_whose_33 hl (by decide) rfl (fun ls hl => ?_)
      refine L35 _ _ _ _ _ _ _ _ _ _ hP hS (lv_sub hl [3, 4, 5, 2, 1, 0] rfl)  h
    · rw [if_pos c_2] at h
      refine lv_bipush (v := (-2)) hx hb dX11_whose_19 (by decide) ?_
      obtain rfl := Option.some.inj h
      exact W.iret hx hb hr (r_end X hP hS) hS.2.2 dX11_whose_21 (hlocks := hlk)

def f_X11_mark (M : Mem) (a1 : Int32) (a2 : Int32) : Option (Int32 × Mem) :=
  (if (f_X11_isNote M (a1)) = 0 then some (((-2), M)) else (if (f_X11_isNote M (a2)) = 0 then some (((-2), M)) else (if a1 = a2 then some (((-2), M)) else (if (M 0 10) = 20 then some (((-4), M)) else (if ibd ((M 0 10)) 20 then (if ibd (((upd2 M 9 (Int32.toNatClampNeg ((M 0 10))) (a1)) 0 10)) 20 then some (((((upd2 (upd2 M 9 (Int32.toNatClampNeg ((M 0 10))) (a1)) 10 (Int32.toNatClampNeg (((upd2 M 9 (Int32.toNatClampNeg ((M 0 10))) (a1)) 0 10))) (a2)) 0 10) + 1), (upd2 (upd2 (upd2 M 9 (Int32.toNatClampNeg ((M 0 10))) (a1)) 10 (Int32.toNatClampNeg (((upd2 M 9 (Int32.toNatClampNeg ((M 0 10))) (a1)) 0 10))) (a2)) 0 10 ((((upd2 (upd2 M 9 (Int32.toNatClampNeg ((M 0 10))) (a1)) 10 (Int32.toNatClampNeg (((upd2 M 9 (Int32.toNatClampNeg ((M 0 10))) (a1)) 0 10))) (a2)) 0 10) + 1))))) else none) else none)))))
set_option maxRecDepth 100000 in
set_option maxHeartbeats 4000000 in
theorem c_X11_mark (l : Launch) {G : GT} {φ : Nat → Nat} {n : Nat} {M : Mem} {L : Nat → Int64} {a1 : Int32} {a2 : Int32} (hI : wI φ n) (hn : 32 ≤ n) {r : Int32 × Mem} (h : f_X11_mark M a1 a2 = some r) : CT l yX11_mark cX11_mark 3 (some .int) ({ frames := 2, cells := 0, slots := 0, locals := 43 } : Room) [.ref (φ 0), .int (a1), .int (a2)] (WB (cM G φ L) φ M n G) (some (.int r.1)) (WB (cM G φ L) φ (r.2) n G) φ n := by
  unfold f_X11_mark at h
  refine r_start (plainFor_of_name (by decide)) (Nat.le_of_ble_eq_true rfl) hI ?_
  intro p e s m args below meth c ls X hr hlk hP hl
  have hS : va_S (wA φ n s.heap.size) s.heap s.heap [] := va_S.rf
  have hx := X.1.1
  have hb := X.1.2.1
  have hl : lv_has ls 3 [(0, .ref (φ 0)), (1, .int (a1)), (2, .int (a2))] := hl
  refine lv_aload_n hx hb dX11_mark_0 rfl (lv_at hl 0 rfl) ?_
  refine lv_iload_n hx hb dX11_mark_1 rfl (lv_at hl 1 rfl) ?_
  refine c_V0 (As := [.int (a1)]) (rest := []) (a := 0) X hl.1 (c_X11_isNote l X.2.2.2.1.1 hn rfl) (w_X11_134) qw_1165 qw_44 ⟨Nat.le_of_ble_eq_true rfl, Nat.le_of_ble_eq_true rfl⟩ rfl rfl hP hS (by omega) sM_Model rfl rfl (Nat.le_of_ble_eq_true rfl) dX11_mark_2 (fun H locs hP hS => ?_)
  refine lv_if_eq (tgt := 21) hx hb dX11_mark_5 (by decide) (fun c_1 => ?_) (fun c_1 => ?_)
  · rw [if_pos c_1] at h
    refine lv_bipush (v := (-2)) hx hb dX11_mark_21 (by decide) ?_
    obtain rfl := Option.some.inj h
    exact W.iret hx hb hr (r_end X hP hS) hS.2.2 dX11_mark_23 (hlocks := hlk)
  · rw [if_neg c_1] at h
    refine lv_aload_n hx hb dX11_mark_8 rfl (lv_at hl 0 rfl) ?_
    refine lv_iload_n hx hb dX11_mark_9 rfl (lv_at hl 2 rfl) ?_
    refine c_V0 (As := [.int (a2)]) (rest := []) (a := 0) X hl.1 (c_X11_isNote l X.2.2.2.1.1 hn rfl) (w_X11_134) qw_1165 qw_44 ⟨Nat.le_of_ble_eq_true rfl, Nat.le_of_ble_eq_true rfl⟩ rfl rfl hP hS (by omega) sM_Model rfl rfl (Nat.le_of_ble_eq_true rfl) dX11_mark_10 (fun H locs hP hS => ?_)
    refine lv_if_eq (tgt := 21) hx hb dX11_mark_13 (by decide) (fun c_2 => ?_) (fun c_2 => ?_)
    · rw [if_pos c_2] at h
      refine lv_bipush (v := (-2)) hx hb dX11_mark_21 (by decide) ?_
      obtain rfl := Option.some.inj h
      exact W.iret hx hb hr (r_end X hP hS) hS.2.2 dX11_mark_23 (hlocks := hlk)
    · rw [if_neg c_2] at h
      refine lv_iload_n hx hb dX11_mark_16 rfl (lv_at hl 1 rfl) ?_
      refine lv_iload_n hx hb dX11_mark_17 rfl (lv_at hl 2 rfl) ?_
      refine lv_icmp_ne (tgt := 24) hx hb dX11_mark_18 (by decide) (fun c_3 => ?_) (fun c_3 => ?_)
      · rw [if_neg c_3] at h
        refine lv_aload_n hx hb dX11_mark_24 rfl (lv_at hl 0 rfl) ?_
        refine G_X11_278 X.1 hn hP dX11_mark_25 ?_
        refine lv_bipush (v := 20) hx hb dX11_mark_28 (by decide) ?_
        refine lv_icmp_ne (tgt := 36) hx hb dX11_mark_30 (by decide) (fun c_4 => ?_) (fun c_4 => ?_)
        · rw [if_neg c_4] at h
          refine lv_aload_n hx hb dX11_mark_36 rfl (lv_at hl 0 rfl) ?_
          refine G_X11_34 X.1 hn hP dX11_mark_37 ?_
          refine lv_aload_n hx hb dX11_mark_40 rfl (lv_at hl 0 rfl) ?_
          refine G_X11_278 X.1 hn hP dX11_mark_41 ?_
          refine lv_iload_n hx hb dX11_mark_44 rfl (lv_at hl 1 rfl) ?_
          obtain ⟨c_5, h⟩ := og h
          refine r_iast (k := (Int32.toNatClampNeg ((M 0 10)))) X.1 X.2.2.2.1 hP hS (by omega) sM_ahead rfl (vin c_5) dX11_mark_45 (fun H locs hP hS => ?_)
          refine lv_aload_n hx hb dX11_mark_46 rfl (lv_at hl 0 rfl) ?_
          refine G_X11_37 X.1 hn hP dX11_mark_47 ?_
          refine lv_aload_n hx hb dX11_mark_50 rfl (lv_at hl 0 rfl) ?_
          refine G_X11_278 X.1 hn hP dX11_mark_51 ?_
          refine lv_iload_n hx hb dX11_mark_54 rfl (lv_at hl 2 rfl) ?_
          obtain ⟨c_6, h⟩ := og h
          refine r_iast (k := (Int32.toNatClampNeg (((upd2 M 9 (Int32.toNatClampNeg ((M 0 10))) (a1)) 0 10)))) X.1 X.2.2.2.1 hP hS (by omega) sM_behind rfl (vin c_6) dX11_mark_55 (fun H locs hP hS => ?_)
          refine lv_aload_n hx hb dX11_mark_56 rfl (lv_at hl 0 rfl) ?_
          refine lv_dup hx hb dX11_mark_57 rfl ?_
          refine G_X11_278 X.1 hn hP dX11_mark_58 ?_
          refine lv_iconst (v := 1) hx hb dX11_mark_61 (by decide) ?_
          refine lv_iadd hx hb dX11_mark_62 ?_
          refine lv_dup_x1 hx hb dX11_mark_63 rfl rfl ?_
          refine P_X11_278 X.1 hn X.2.2.2.1 hP hS dX11_mark_64 (fun H locs hP hS => ?_)
          obtain rfl := Option.some.inj h
          exact W.iret hx hb hr (r_end X hP hS) hS.2.2 dX11_mark_67 (hlocks := hlk)
        · rw [if_pos c_4] at h
          refine lv_bipush (v := (-4)) hx hb dX11_mark_33 (by decide) ?_
          obtain rfl := Option.some.inj h
          exact W.iret hx hb hr (r_end X hP hS) hS.2.2 dX11_mark_35 (hlocks := hlk)
      · rw [if_pos c_3] at h
        refine lv_bipush (v := (-2)) hx hb dX11_mark_21 (by decide) ?_
        obtain rfl := Option.some.inj h
        exact W.iret hx hb hr (r_end X hP hS) hS.2.2 dX11_mark_23 (hlocks := hlk)

def f_X11_all_2 (L_5 : Nat → Int64) (x1_1 : Int32) (x2_2 : Int32) (k21 : Mem → Option (Int64 × Mem × (Nat → Int64))) : Nat → Int32 → Mem → Option (Int64 × Mem × (Nat → Int64))
  | 0, _, _ => none
  | fu_6 + 1, x3_3, M_4 => (if 10 ≤ x3_3 then (k21 M_4) else (if ibd (x3_3) 10 then (f_X11_all_2 L_5 x1_1 x2_2 k21 fu_6 ((x3_3 + 1)) (upd2 M_4 22 (Int32.toNatClampNeg (x3_3)) (0))) else none))
def f_X11_all_23 (L_15 : Nat → Int64) (x1_11 : Int32) (x2_12 : Int32) (k59 : Mem → Option (Int64 × Mem × (Nat → Int64))) : Nat → Int32 → Mem → Option (Int64 × Mem × (Nat → Int64))
  | 0, _, _ => none
  | fu_16 + 1, x3_13, M_14 => (if (M_14 0 10) ≤ x3_13 then (k59 M_14) else (if ibd (x3_13) 20 then (if ibd ((M_14 10 (Int32.toNatClampNeg (x3_13)))) 10 then (if ibd (x3_13) 20 then (if ibd ((M_14 10 (Int32.toNatClampNeg (x3_13)))) 10 then (f_X11_all_23 L_15 x1_11 x2_12 k59 fu_16 ((x3_13 + 1)) (upd2 M_14 22 (Int32.toNatClampNeg ((M_14 10 (Int32.toNatClampNeg (x3_13))))) (((M_14 22 (Int32.toNatClampNeg ((M_14 10 (Int32.toNatClampNeg (x3_13)))))) ||| ((1 : Int32) <<< ((M_14 9 (Int32.toNatClampNeg (x3_13))) &&& 31)))))) else none) else none) else none) else none))
def f_X11_all_86 (M_27 : Mem) (x3_25 : Int32) (k106 : (Nat → Int64) → Option (Int64 × Mem × (Nat → Int64))) : Nat → Int32 → (Nat → Int64) → Option (Int64 × Mem × (Nat → Int64))
  | 0, _, _ => none
  | fu_29 + 1, x4_26, L_28 => (if x3_25 ≤ x4_26 then (k106 L_28) else (if ibd (x4_26) 1024 then (f_X11_all_86 M_27 x3_25 k106 fu_29 ((x4_26 + 1)) (vp_updL L_28 (Int32.toNatClampNeg (x4_26)) (0))) else none))
def f_X11_all_140 (M_46 : Mem) (x3_43 : Int32) (x4_44 : Int32) (k202 : (Nat → Int64) → Option (Int64 × Mem × (Nat → Int64))) : Nat → Int32 → (Nat → Int64) → Option (Int64 × Mem × (Nat → Int64))
  | 0, _, _ => none
  | fu_48 + 1, x5_45, L_47 => (if (M_46 0 5) ≤ x5_45 then (k202 L_47) else (if (((x4_44 : Int32) >>> (x5_45 &&& 31)) &&& 1) = 0 then (if ibd (x5_45) 10 then (if ((M_46 22 (Int32.toNatClampNeg (x5_45))) &&& (x4_44 ^^^ (-1))) = 0 then (if ibd ((x4_44 ||| ((1 : Int32) <<< (x5_45 &&& 31)))) 1024 then (if ibd (x4_44) 1024 then (if ibd ((x4_44 ||| ((1 : Int32) <<< (x5_45 &&& 31)))) 1024 then (f_X11_all_140 M_46 x3_43 x4_44 k202 fu_48 ((x5_45 + 1)) (vp_updL L_47 (Int32.toNatClampNeg ((x4_44 ||| ((1 : Int32) <<< (x5_45 &&& 31))))) (((L_47 (Int32.toNatClampNeg ((x4_44 ||| ((1 : Int32) <<< (x5_45 &&& 31)))))) + (L_47 (Int32.toNatClampNeg (x4_44))))))) else none) else none) else none) else (f_X11_all_140 M_46 x3_43 x4_44 k202 fu_48 ((x5_45 + 1)) L_47)) else none) else (f_X11_all_140 M_46 x3_43 x4_44 k202 fu_48 ((x5_45 + 1)) L_47)))
def f_X11_all_116 (M_36 : Mem) (x3_34 : Int32) : Nat → Int32 → (Nat → Int64) → Option (Int64 × Mem × (Nat → Int64))
  | 0, _, _ => none
  | fu_38 + 1, x4_35, L_37 => (if x3_34 ≤ x4_35 then (if ibd ((x3_34 - 1)) 1024 then some (((L_37 (Int32.toNatClampNeg ((x3_34 - 1)))), M_36, L_37)) else none) else (if ibd (x4_35) 1024 then (if (lg_cmp (L_37 (Int32.toNatClampNeg (x4_35))) 0) = 0 then (f_X11_all_116 M_36 x3_34 fu_38 ((x4_35 + 1)) L_37) else (f_X11_all_140 M_36 (x3_34) (x4_35) (fun L_57 => (f_X11_all_116 M_36 x3_34 fu_38 ((x4_35 + 1)) L_57)) FU (0) L_37)) else none))
def f_X11_all (M : Mem) (L : Nat → Int64) (a1 : Int32) (a2 : Int32) : Option (Int64 × Mem × (Nat → Int64)) :=
  (f_X11_all_2 L (a1) (a2) (fun M_10 => (f_X11_all_23 L (a1) (a2) (fun M_23 => (if a1 = (-1) then (f_X11_all_86 M_23 (((1 : Int32) <<< ((M_23 0 5) &&& 31))) (fun L_33 => (f_X11_all_116 M_23 (((1 : Int32) <<< ((M_23 0 5) &&& 31))) FU (0) (vp_updL L_33 (Int32.toNatClampNeg (0)) (1)))) FU (0) L) else (if ibd (a2) 10 then (if ibd (a2) 10 then (f_X11_all_86 (upd2 M_23 22 (Int32.toNatClampNeg (a2)) (((M_23 22 (Int32.toNatClampNeg (a2))) ||| ((1 : Int32) <<< (a1 &&& 31))))) (((1 : Int32) <<< (((upd2 M_23 22 (Int32.toNatClampNeg (a2)) (((M_23 22 (Int32.toNatClampNeg (a2))) ||| ((1 : Int32) <<< (a1 &&& 31))))) 0 5) &&& 31))) (fun L_60 => (f_X11_all_116 (upd2 M_23 22 (Int32.toNatClampNeg (a2)) (((M_23 22 (Int32.toNatClampNeg (a2))) ||| ((1 : Int32) <<< (a1 &&& 31))))) (((1 : Int32) <<< (((upd2 M_23 22 (Int32.toNatClampNeg (a2)) (((M_23 22 (Int32.toNatClampNeg (a2))) ||| ((1 : Int32) <<< (a1 &&& 31))))) 0 5) &&& 31))) FU (0) (vp_updL L_60 (Int32.toNatClampNeg (0)) (1)))) FU (0) L) else none) else none))) FU (0) M_10)) FU (0) M)
set_option maxRecDepth 100000 in
set_option maxHeartbeats 4000000 in
theorem c_X11_all (l : Launch) {G : GT} {φ : Nat → Nat} {n : Nat} {M : Mem} {L : Nat → Int64} {a1 : Int32} {a2 : Int32} (hI : wI φ n) (hn : 32 ≤ n) {r : Int64 × Mem × (Nat → Int64)} (h : f_X11_all M L a1 a2 = some r) : CT l yX11_all cX11_all 6 (some .long) ({ frames := 0, cells := 0, slots := 0, locals := 0 } : Room) [.ref (φ 0), .int (a1), .int (a2)] (WB (cM G φ L) φ M n G) (some (.long r.1)) (WB (cM G φ r.2.2) φ (r.2.1) n G) φ n := by
  unfold f_X11_all at h
  refine r_start (plainFor_of_name (by decide)) (Nat.le_of_ble_eq_true rfl) hI ?_
  intro p e s m args below meth c ls X hr hlk hP hl
  have hS : va_S (wA φ n s.heap.size) s.heap s.heap [] := va_S.rf
  have hx := X.1.1
  have hb := X.1.2.1
  have hl : lv_has ls 6 [(0, .ref (φ 0)), (1, .int (a1)), (2, .int (a2))] := hl
  have L2 : ∀ (fu_6 : Nat) (M_4 : Mem) (L_5 : Nat → Int64) (x1_1 : Int32) (x2_2 : Int32) (k21 : Mem → Option (Int64 × Mem × (Nat → Int64))) (x3_3 : Int32)  (H : Heap) (locs : List Loc) (ls : Array Slot), va_P G.1 vwCl (wW (cM G φ L_5) φ M_4 n) H → va_S (wA φ n s.heap.size) s.heap H locs → lv_has ls 6 [(0, .ref (φ 0)), (1, .int (x1_1)), (2, .int (x2_2)), (3, .int (x3_3))] → (∀ (M_9 : Mem) (H : Heap) (locs : List Loc) (ls : Array Slot), va_P G.1 vwCl (wW (cM G φ L_5) φ M_9 n) H → va_S (wA φ n s.heap.size) s.heap H locs → lv_has ls 6 [(0, .ref (φ 0)), (1, .int (x1_1)), (2, .int (x2_2))] → k21 M_9 = some r → W p l e ({ frames := 0, cells := 0, slots := 0, locals := 0 } : Room) s m args below meth c H locs 0 0 (MQ below (QQ (some (.long r.1)) (WB (cM G φ r.2.2) φ (r.2.1) n G) (wA φ n s.heap.size)) args s 0 0 (wA φ n s.heap.size)) (F0 m 21 ls [])) → f_X11_all_2 L_5 x1_1 x2_2 k21 fu_6 x3_3 M_4 = some r → W p l e ({ frames := 0, cells := 0, slots := 0, locals := 0 } : Room) s m args below meth c H locs 0 0 (MQ below (QQ (some (.long r.1)) (WB (cM G φ r.2.2) φ (r.2.1) n G) (wA φ n s.heap.size)) args s 0 0 (wA φ n s.heap.size)) (F0 m 2 ls []) := by
    intro fu_6
    induction fu_6 with
    | zero =>
      intro M_4 L_5 x1_1 x2_2 k21 x3_3 H locs ls _ _ _ _ h
      have h : (none : Option (Int64 × Mem × (Nat → Int64))) = some r := h
      cases h
    | succ fu_6 ih =>
      intro M_4 L_5 x1_1 x2_2 k21 x3_3 H locs ls hP hS hl hk21 h
      rw [f_X11_all_2] at h
      refine lv_iload_n hx hb dX11_all_2 rfl (lv_at hl 3 rfl) ?_
      refine lv_bipush (v := 10) hx hb dX11_all_3 (by decide) ?_
      refine lv_icmp_ge (tgt := 21) hx hb dX11_all_5 (by decide) (fun c_7 => ?_) (fun c_7 => ?_)
      · rw [if_pos c_7] at h
        exact hk21 _ _ _ _ hP hS (lv_sub hl [0, 1, 2] rfl) h
      · rw [if_neg c_7] at h
        refine lv_aload_n hx hb dX11_all_8 rfl (lv_at hl 0 rfl) ?_
        refine G_X11_74 X.1 hn hP dX11_all_9 ?_
        refine lv_iload_n hx hb dX11_all_12 rfl (lv_at hl 3 rfl) ?_
        refine lv_iconst (v := 0) hx hb dX11_all_13 (by decide) ?_
        obtain ⟨c_8, h⟩ := og h
        refine r_iast (k := (Int32.toNatClampNeg (x3_3))) X.1 X.2.2.2.1 hP hS (by omega) sM_needs rfl (vin c_8) dX11_all_14 (fun H locs hP hS => ?_)
        refine lv_iinc (v := (x3_3 + 1)) (lv' := [(3, .int ((x3_3 + 1))), (0, .ref (φ 0)), (1, .int (x1_1)), (2, .int (x2_2))]) hx hb dX11_all_15 hl (k := 3) rfl (by rw [show Int32.ofInt (1) = 1 from by decide]) (by decide) rfl (fun ls hl => ?_)
        refine lv_goto (tgt := 2) hx hb dX11_all_18 (by decide) ?_
        exact ih _ _ _ _ _ _ _ _ _ hP hS (lv_sub hl [1, 2, 3, 0] rfl) hk21 h
  have L23 : ∀ (fu_16 : Nat) (M_14 : Mem) (L_15 : Nat → Int64) (x1_11 : Int32) (x2_12 : Int32) (k59 : Mem → Option (Int64 × Mem × (Nat → Int64))) (x3_13 : Int32)  (H : Heap) (locs : List Loc) (ls : Array Slot), va_P G.1 vwCl (wW (cM G φ L_15) φ M_14 n) H → va_S (wA φ n s.heap.size) s.heap H locs → lv_has ls 6 [(0, .ref (φ 0)), (1, .int (x1_11)), (2, .int (x2_12)), (3, .int (x3_13))] → (∀ (M_22 : Mem) (H : Heap) (locs : List Loc) (ls : Array Slot), va_P G.1 vwCl (wW (cM G φ L_15) φ M_22 n) H → va_S (wA φ n s.heap.size) s.heap H locs → lv_has ls 6 [(0, .ref (φ 0)), (1, .int (x1_11)), (2, .int (x2_12))] → k59 M_22 = some r → W p l e ({ frames := 0, cells := 0, slots := 0, locals := 0 } : Room) s m args below meth c H locs 0 0 (MQ below (QQ (some (.long r.1)) (WB (cM G φ r.2.2) φ (r.2.1) n G) (wA φ n s.heap.size)) args s 0 0 (wA φ n s.heap.size)) (F0 m 59 ls [])) → f_X11_all_23 L_15 x1_11 x2_12 k59 fu_16 x3_13 M_14 = some r → W p l e ({ frames := 0, cells := 0, slots := 0, locals := 0 } : Room) s m args below meth c H locs 0 0 (MQ below (QQ (some (.long r.1)) (WB (cM G φ r.2.2) φ (r.2.1) n G) (wA φ n s.heap.size)) args s 0 0 (wA φ n s.heap.size)) (F0 m 23 ls []) := by
    intro fu_16
    induction fu_16 with
    | zero =>
      intro M_14 L_15 x1_11 x2_12 k59 x3_13 H locs ls _ _ _ _ h
      have h : (none : Option (Int64 × Mem × (Nat → Int64))) = some r := h
      cases h
    | succ fu_16 ih =>
      intro M_14 L_15 x1_11 x2_12 k59 x3_13 H locs ls hP hS hl hk59 h
      rw [f_X11_all_23] at h
      refine lv_iload_n hx hb dX11_all_23 rfl (lv_at hl 3 rfl) ?_
      refine lv_aload_n hx hb dX11_all_24 rfl (lv_at hl 0 rfl) ?_
      refine G_X11_278 X.1 hn hP dX11_all_25 ?_
      refine lv_icmp_ge (tgt := 59) hx hb dX11_all_28 (by decide) (fun c_17 => ?_) (fun c_17 => ?_)
      · rw [if_pos c_17] at h
        exact hk59 _ _ _ _ hP hS (lv_sub hl [0, 1, 2] rfl) h
      · rw [if_neg c_17] at h
        refine lv_aload_n hx hb dX11_all_31 rfl (lv_at hl 0 rfl) ?_
        refine G_X11_74 X.1 hn hP dX11_all_32 ?_
        refine lv_aload_n hx hb dX11_all_35 rfl (lv_at hl 0 rfl) ?_
        refine G_X11_37 X.1 hn hP dX11_all_36 ?_
        refine lv_iload_n hx hb dX11_all_39 rfl (lv_at hl 3 rfl) ?_
        obtain ⟨c_18, h⟩ := og h
        refine r_iald (k := (Int32.toNatClampNeg (x3_13))) X.1 hP (by omega) sM_behind rfl (vin c_18) dX11_all_40 ?_
        refine lv_dup2_11 hx hb dX11_all_41 rfl rfl ?_
        obtain ⟨c_19, h⟩ := og h
        refine r_iald (k := (Int32.toNatClampNeg ((M_14 10 (Int32.toNatClampNeg (x3_13)))))) X.1 hP (by omega) sM_needs rfl (vin c_19) dX11_all_42 ?_
        refine lv_iconst (v := 1) hx hb dX11_all_43 (by decide) ?_
        refine lv_aload_n hx hb dX11_all_44 rfl (lv_at hl 0 rfl) ?_
        refine G_X11_34 X.1 hn hP dX11_all_45 ?_
        refine lv_iload_n hx hb dX11_all_48 rfl (lv_at hl 3 rfl) ?_
        obtain ⟨c_20, h⟩ := og h
        refine r_iald (k := (Int32.toNatClampNeg (x3_13))) X.1 hP (by omega) sM_ahead rfl (vin c_20) dX11_all_49 ?_
        refine lv_ishl hx hb dX11_all_50 ?_
        refine lv_ior hx hb dX11_all_51 ?_
        obtain ⟨c_21, h⟩ := og h
        refine r_iast (k := (Int32.toNatClampNeg ((M_14 10 (Int32.toNatClampNeg (x3_13)))))) X.1 X.2.2.2.1 hP hS (by omega) sM_needs rfl (vin c_21) dX11_all_52 (fun H locs hP hS => ?_)
        refine lv_iinc (v := (x3_13 + 1)) (lv' := [(3, .int ((x3_13 + 1))), (0, .ref (φ 0)), (1, .int (x1_11)), (2, .int (x2_12))]) hx hb dX11_all_53 hl (k := 3) rfl (by rw [show Int32.ofInt (1) = 1 from by decide]) (by decide) rfl (fun ls hl => ?_)
        refine lv_goto (tgt := 23) hx hb dX11_all_56 (by decide) ?_
        exact ih _ _ _ _ _ _ _ _ _ hP hS (lv_sub hl [1, 2, 3, 0] rfl) hk59 h
  have L86 : ∀ (fu_29 : Nat) (M_27 : Mem) (L_28 : Nat → Int64) (x3_25 : Int32) (k106 : (Nat → Int64) → Option (Int64 × Mem × (Nat → Int64))) (x4_26 : Int32)  (H : Heap) (locs : List Loc) (ls : Array Slot), va_P G.1 vwCl (wW (cM G φ L_28) φ M_27 n) H → va_S (wA φ n s.heap.size) s.heap H locs → lv_has ls 6 [(0, .ref (φ 0)), (3, .int (x3_25)), (4, .int (x4_26))] → (∀ (L_32 : Nat → Int64) (H : Heap) (locs : List Loc) (ls : Array Slot), va_P G.1 vwCl (wW (cM G φ L_32) φ M_27 n) H → va_S (wA φ n s.heap.size) s.heap H locs → lv_has ls 6 [(0, .ref (φ 0)), (3, .int (x3_25))] → k106 L_32 = some r → W p l e ({ frames := 0, cells := 0, slots := 0, locals := 0 } : Room) s m args below meth c H locs 0 0 (MQ below (QQ (some (.long r.1)) (WB (cM G φ r.2.2) φ (r.2.1) n G) (wA φ n s.heap.size)) args s 0 0 (wA φ n s.heap.size)) (F0 m 106 ls [])) → f_X11_all_86 M_27 x3_25 k106 fu_29 x4_26 L_28 = some r → W p l e ({ frames := 0, cells := 0, slots := 0, locals := 0 } : Room) s m args below meth c H locs 0 0 (MQ below (QQ (some (.long r.1)) (WB (cM G φ r.2.2) φ (r.2.1) n G) (wA φ n s.heap.size)) args s 0 0 (wA φ n s.heap.size)) (F0 m 86 ls []) := by
    intro fu_29
    induction fu_29 with
    | zero =>
      intro M_27 L_28 x3_25 k106 x4_26 H locs ls _ _ _ _ h
      have h : (none : Option (Int64 × Mem × (Nat → Int64))) = some r := h
      cases h
    | succ fu_29 ih =>
      intro M_27 L_28 x3_25 k106 x4_26 H locs ls hP hS hl hk106 h
      rw [f_X11_all_86] at h
      refine lv_iload hx hb dX11_all_86 (lv_at hl 2 rfl) ?_
      refine lv_iload_n hx hb dX11_all_88 rfl (lv_at hl 1 rfl) ?_
      refine lv_icmp_ge (tgt := 106) hx hb dX11_all_89 (by decide) (fun c_30 => ?_) (fun c_30 => ?_)
      · rw [if_pos c_30] at h
        exact hk106 _ _ _ _ hP hS (lv_sub hl [0, 1] rfl) h
      · rw [if_neg c_30] at h
        refine lv_aload_n hx hb dX11_all_92 rfl (lv_at hl 0 rfl) ?_
        refine G_X11_70 X.1 hn hP dX11_all_93 ?_
        refine lv_iload hx hb dX11_all_96 (lv_at hl 2 rfl) ?_
        refine lv_lconst (v := 0) hx hb dX11_all_98 (by decide) ?_
        obtain ⟨c_31, h⟩ := og h
        refine r_last X.1 X.2.2.2.1 hP hS (by omega) (vin c_31) dX11_all_99 (fun H locs hP hS => ?_)
        refine lv_iinc (v := (x4_26 + 1)) (lv' := [(4, .int ((x4_26 + 1))), (0, .ref (φ 0)), (3, .int (x3_25))]) hx hb dX11_all_100 hl (k := 2) rfl (by rw [show Int32.ofInt (1) = 1 from by decide]) (by decide) rfl (fun ls hl => ?_)
        refine lv_goto (tgt := 86) hx hb dX11_all_103 (by decide) ?_
        exact ih _ _ _ _ _ _ _ _ hP hS (lv_sub hl [1, 2, 0] rfl) hk106 h
  have L140 : ∀ (fu_48 : Nat) (M_46 : Mem) (L_47 : Nat → Int64) (x3_43 : Int32) (x4_44 : Int32) (k202 : (Nat → Int64) → Option (Int64 × Mem × (Nat → Int64))) (x5_45 : Int32)  (H : Heap) (locs : List Loc) (ls : Array Slot), va_P G.1 vwCl (wW (cM G φ L_47) φ M_46 n) H → va_S (wA φ n s.heap.size) s.heap H locs → lv_has ls 6 [(0, .ref (φ 0)), (3, .int (x3_43)), (4, .int (x4_44)), (5, .int (x5_45))] → (∀ (L_56 : Nat → Int64) (H : Heap) (locs : List Loc) (ls : Array Slot), va_P G.1 vwCl (wW (cM G φ L_56) φ M_46 n) H → va_S (wA φ n s.heap.size) s.heap H locs → lv_has ls 6 [(0, .ref (φ 0)), (3, .int (x3_43)), (4, .int (x4_44))] → k202 L_56 = some r → W p l e ({ frames := 0, cells := 0, slots := 0, locals := 0 } : Room) s m args below meth c H locs 0 0 (MQ below (QQ (some (.long r.1)) (WB (cM G φ r.2.2) φ (r.2.1) n G) (wA φ n s.heap.size)) args s 0 0 (wA φ n s.heap.size)) (F0 m 202 ls [])) → f_X11_all_140 M_46 x3_43 x4_44 k202 fu_48 x5_45 L_47 = some r → W p l e ({ frames := 0, cells := 0, slots := 0, locals := 0 } : Room) s m args below meth c H locs 0 0 (MQ below (QQ (some (.long r.1)) (WB (cM G φ r.2.2) φ (r.2.1) n G) (wA φ n s.heap.size)) args s 0 0 (wA φ n s.heap.size)) (F0 m 140 ls []) := by
    intro fu_48
    induction fu_48 with
    | zero =>
      intro M_46 L_47 x3_43 x4_44 k202 x5_45 H locs ls _ _ _ _ h
      have h : (none : Option (Int64 × Mem × (Nat → Int64))) = some r := h
      cases h
    | succ fu_48 ih =>
      intro M_46 L_47 x3_43 x4_44 k202 x5_45 H locs ls hP hS hl hk202 h
      rw [f_X11_all_140] at h
      refine lv_iload hx hb dX11_all_140 (lv_at hl 3 rfl) ?_
      refine lv_aload_n hx hb dX11_all_142 rfl (lv_at hl 0 rfl) ?_
      refine G_X11_131 X.1 hn hP dX11_all_143 ?_
      refine lv_icmp_ge (tgt := 202) hx hb dX11_all_146 (by decide) (fun c_49 => ?_) (fun c_49 => ?_)
      · rw [if_pos c_49] at h
        exact hk202 _ _ _ _ hP hS (lv_sub hl [0, 1, 2] rfl) h
      · rw [if_neg c_49] at h
        refine lv_iload hx hb dX11_all_149 (lv_at hl 2 rfl) ?_
        refine lv_iload hx hb dX11_all_151 (lv_at hl 3 rfl) ?_
        refine lv_ishr hx hb dX11_all_153 ?_
        refine lv_iconst (v := 1) hx hb dX11_all_154 (by decide) ?_
        refine lv_iand hx hb dX11_all_155 ?_
        refine lv_if_ne (tgt := 196) hx hb dX11_all_156 (by decide) (fun c_50 => ?_) (fun c_50 => ?_)
        · rw [if_neg c_50] at h
          refine lv_iinc (v := (x5_45 + 1)) (lv' := [(5, .int ((x5_45 + 1))), (0, .ref (φ 0)), (3, .int (x3_43)), (4, .int (x4_44))]) hx hb dX11_all_196 hl (k := 3) rfl (by rw [show Int32.ofInt (1) = 1 from by decide]) (by decide) rfl (fun ls hl => ?_)
          refine lv_goto (tgt := 140) hx hb dX11_all_199 (by decide) ?_
          exact ih _ _ _ _ _ _ _ _ _ hP hS (lv_sub hl [1, 2, 3, 0] rfl) hk202 h
        · rw [if_pos c_50] at h
          refine lv_aload_n hx hb dX11_all_159 rfl (lv_at hl 0 rfl) ?_
          refine G_X11_74 X.1 hn hP dX11_all_160 ?_
          refine lv_iload hx hb dX11_all_163 (lv_at hl 3 rfl) ?_
          obtain ⟨c_51, h⟩ := og h
          refine r_iald (k := (Int32.toNatClampNeg (x5_45))) X.1 hP (by omega) sM_needs rfl (vin c_51) dX11_all_165 ?_
          refine lv_iload hx hb dX11_all_166 (lv_at hl 2 rfl) ?_
          refine lv_iconst (v := (-1)) hx hb dX11_all_168 (by decide) ?_
          refine lv_ixor hx hb dX11_all_169 ?_
          refine lv_iand hx hb dX11_all_170 ?_
          refine lv_if_ne (tgt := 196) hx hb dX11_all_171 (by decide) (fun c_52 => ?_) (fun c_52 => ?_)
          · rw [if_neg c_52] at h
            refine lv_iinc (v := (x5_45 + 1)) (lv' := [(5, .int ((x5_45 + 1))), (0, .ref (φ 0)), (3, .int (x3_43)), (4, .int (x4_44))]) hx hb dX11_all_196 hl (k := 3) rfl (by rw [show Int32.ofInt (1) = 1 from by decide]) (by decide) rfl (fun ls hl => ?_)
            refine lv_goto (tgt := 140) hx hb dX11_all_199 (by decide) ?_
            exact ih _ _ _ _ _ _ _ _ _ hP hS (lv_sub hl [1, 2, 3, 0] rfl) hk202 h
          · rw [if_pos c_52] at h
            refine lv_aload_n hx hb dX11_all_174 rfl (lv_at hl 0 rfl) ?_
            refine G_X11_70 X.1 hn hP dX11_all_175 ?_
            refine lv_iload hx hb dX11_all_178 (lv_at hl 2 rfl) ?_
            refine lv_iconst (v := 1) hx hb dX11_all_180 (by decide) ?_
            refine lv_iload hx hb dX11_all_181 (lv_at hl 3 rfl) ?_
            refine lv_ishl hx hb dX11_all_183 ?_
            refine lv_ior hx hb dX11_all_184 ?_
            refine lv_dup2_11 hx hb dX11_all_185 rfl rfl ?_
            obtain ⟨c_53, h⟩ := og h
            refine r_lald X.1 hP (by omega) sM_ways (vin c_53) dX11_all_186 ?_
            refine lv_aload_n hx hb dX11_all_187 rfl (lv_at hl 0 rfl) ?_
            refine G_X11_70 X.1 hn hP dX11_all_188 ?_
            refine lv_iload hx hb dX11_all_191 (lv_at hl 2 rfl) ?_
            obtain ⟨c_54, h⟩ := og h
            refine r_lald X.1 hP (by omega) sM_ways (vin c_54) dX11_all_193 ?_
            refine lv_ladd hx hb dX11_all_194 ?_
            obtain ⟨c_55, h⟩ := og h
            refine r_last X.1 X.2.2.2.1 hP hS (by omega) (vin c_55) dX11_all_195 (fun H locs hP hS => ?_)
            refine lv_iinc (v := (x5_45 + 1)) (lv' := [(5, .int ((x5_45 + 1))), (0, .ref (φ 0)), (3, .int (x3_43)), (4, .int (x4_44))]) hx hb dX11_all_196 hl (k := 3) rfl (by rw [show Int32.ofInt (1) = 1 from by decide]) (by decide) rfl (fun ls hl => ?_)
            refine lv_goto (tgt := 140) hx hb dX11_all_199 (by decide) ?_
            exact ih _ _ _ _ _ _ _ _ _ hP hS (lv_sub hl [1, 2, 3, 0] rfl) hk202 h
  have L116 : ∀ (fu_38 : Nat) (M_36 : Mem) (L_37 : Nat → Int64) (x3_34 : Int32) (x4_35 : Int32)  (H : Heap) (locs : List Loc) (ls : Array Slot), va_P G.1 vwCl (wW (cM G φ L_37) φ M_36 n) H → va_S (wA φ n s.heap.size) s.heap H locs → lv_has ls 6 [(0, .ref (φ 0)), (3, .int (x3_34)), (4, .int (x4_35))] → f_X11_all_116 M_36 x3_34 fu_38 x4_35 L_37 = some r → W p l e ({ frames := 0, cells := 0, slots := 0, locals := 0 } : Room) s m args below meth c H locs 0 0 (MQ below (QQ (some (.long r.1)) (WB (cM G φ r.2.2) φ (r.2.1) n G) (wA φ n s.heap.size)) args s 0 0 (wA φ n s.heap.size)) (F0 m 116 ls []) := by
    intro fu_38
    induction fu_38 with
    | zero =>
      intro M_36 L_37 x3_34 x4_35 H locs ls _ _ _  h
      have h : (none : Option (Int64 × Mem × (Nat → Int64))) = some r := h
      cases h
    | succ fu_38 ih =>
      intro M_36 L_37 x3_34 x4_35 H locs ls hP hS hl  h
      rw [f_X11_all_116] at h
      refine lv_iload hx hb dX11_all_116 (lv_at hl 2 rfl) ?_
      refine lv_iload_n hx hb dX11_all_118 rfl (lv_at hl 1 rfl) ?_
      refine lv_icmp_ge (tgt := 208) hx hb dX11_all_119 (by decide) (fun c_39 => ?_) (fun c_39 => ?_)
      · rw [if_pos c_39] at h
        refine lv_aload_n hx hb dX11_all_208 rfl (lv_at hl 0 rfl) ?_
        refine G_X11_70 X.1 hn hP dX11_all_209 ?_
        refine lv_iload_n hx hb dX11_all_212 rfl (lv_at hl 1 rfl) ?_
        refine lv_iconst (v := 1) hx hb dX11_all_213 (by decide) ?_
        refine lv_isub hx hb dX11_all_214 ?_
        obtain ⟨c_40, h⟩ := og h
        refine r_lald X.1 hP (by omega) sM_ways (vin c_40) dX11_all_215 ?_
        obtain rfl := Option.some.inj h
        exact W.lret hx hb hr (r_end X hP hS) hS.2.2 dX11_all_216 (hlocks := hlk)
      · rw [if_neg c_39] at h
        refine lv_aload_n hx hb dX11_all_122 rfl (lv_at hl 0 rfl) ?_
        refine G_X11_70 X.1 hn hP dX11_all_123 ?_
        refine lv_iload hx hb dX11_all_126 (lv_at hl 2 rfl) ?_
        obtain ⟨c_41, h⟩ := og h
        refine r_lald X.1 hP (by omega) sM_ways (vin c_41) dX11_all_128 ?_
        refine lv_lconst (v := 0) hx hb dX11_all_129 (by decide) ?_
        refine W.lcmp hx hb dX11_all_130 ?_
        refine lv_if_ne (tgt := 137) hx hb dX11_all_131 (by decide) (fun c_42 => ?_) (fun c_42 => ?_)
        · rw [if_neg c_42] at h
          refine lv_iconst (v := 0) hx hb dX11_all_137 (by decide) ?_
          refine lv_istore (lv' := [(5, .int (0)), (0, .ref (φ 0)), (3, .int (x3_34)), (4, .int (x4_35))]) hx hb dX11_all_138 hl (by decide) rfl (fun ls hl => ?_)
          refine L140 _ _ _ _ _ _ _ _ _ _ hP hS (lv_sub hl [1, 2, 3, 0] rfl) (fun L_57 H locs ls hP hS hl h => ?_) h
          · try dsimp only at h
            refine lv_iinc (v := (x4_35 + 1)) (lv' := [(4, .int ((x4_35 + 1))), (0, .ref (φ 0)), (3, .int (x3_34))]) hx hb dX11_all_202 hl (k := 2) rfl (by rw [show Int32.ofInt (1) = 1 from by decide]) (by decide) rfl (fun ls hl => ?_)
            refine lv_goto (tgt := 116) hx hb dX11_all_205 (by decide) ?_
            exact ih _ _ _ _ _ _ _ hP hS (lv_sub hl [1, 2, 0] rfl)  h
        · rw [if_pos c_42] at h
          refine lv_goto (tgt := 202) hx hb dX11_all_134 (by decide) ?_
          refine lv_iinc (v := (x4_35 + 1)) (lv' := [(4, .int ((x4_35 + 1))), (0, .ref (φ 0)), (3, .int (x3_34))]) hx hb dX11_all_202 hl (k := 2) rfl (by rw [show Int32.ofInt (1) = 1 from by decide]) (by decide) rfl (fun ls hl => ?_)
          refine lv_goto (tgt := 116) hx hb dX11_all_205 (by decide) ?_
          exact ih _ _ _ _ _ _ _ hP hS (lv_sub hl [1, 2, 0] rfl)  h
  refine lv_iconst (v := 0) hx hb dX11_all_0 (by decide) ?_
  refine lv_istore_n (lv' := [(3, .int (0)), (0, .ref (φ 0)), (1, .int (a1)), (2, .int (a2))]) hx hb dX11_all_1 rfl hl (by decide) rfl (fun ls hl => ?_)
  refine L2 _ _ _ _ _ _ _ _ _ _ hP hS (lv_sub hl [1, 2, 3, 0] rfl) (fun M_10 H locs ls hP hS hl h => ?_) h
  · try dsimp only at h
    refine lv_iconst (v := 0) hx hb dX11_all_21 (by decide) ?_
    refine lv_istore_n (lv' := [(3, .int (0)), (0, .ref (φ 0)), (1, .int (a1)), (2, .int (a2))]) hx hb dX11_all_22 rfl hl (by decide) rfl (fun ls hl => ?_)
    refine L23 _ _ _ _ _ _ _ _ _ _ hP hS (lv_sub hl [1, 2, 3, 0] rfl) (fun M_23 H locs ls hP hS hl h => ?_) h
    · try dsimp only at h
      refine lv_iload_n hx hb dX11_all_59 rfl (lv_at hl 1 rfl) ?_
      refine lv_iconst (v := (-1)) hx hb dX11_all_60 (by decide) ?_
      refine lv_icmp_eq (tgt := 76) hx hb dX11_all_61 (by decide) (fun c_24 => ?_) (fun c_24 => ?_)
      · rw [if_pos c_24] at h
        refine lv_iconst (v := 1) hx hb dX11_all_76 (by decide) ?_
        refine lv_aload_n hx hb dX11_all_77 rfl (lv_at hl 0 rfl) ?_
        refine G_X11_131 X.1 hn hP dX11_all_78 ?_
        refine lv_ishl hx hb dX11_all_81 ?_
        refine lv_istore_n (lv' := [(3, .int (((1 : Int32) <<< ((M_23 0 5) &&& 31)))), (0, .ref (φ 0)), (1, .int (a1)), (2, .int (a2))]) hx hb dX11_all_82 rfl hl (by decide) rfl (fun ls hl => ?_)
        refine lv_iconst (v := 0) hx hb dX11_all_83 (by decide) ?_
        refine lv_istore (lv' := [(4, .int (0)), (3, .int (((1 : Int32) <<< ((M_23 0 5) &&& 31)))), (0, .ref (φ 0)), (1, .int (a1)), (2, .int (a2))]) hx hb dX11_all_84 hl (by decide) rfl (fun ls hl => ?_)
        refine L86 _ _ _ _ _ _ _ _ _ hP hS (lv_sub hl [2, 1, 0] rfl) (fun L_33 H locs ls hP hS hl h => ?_) h
        · try dsimp only at h
          refine lv_aload_n hx hb dX11_all_106 rfl (lv_at hl 0 rfl) ?_
          refine G_X11_70 X.1 hn hP dX11_all_107 ?_
          refine lv_iconst (v := 0) hx hb dX11_all_110 (by decide) ?_
          refine lv_lconst (v := 1) hx hb dX11_all_111 (by decide) ?_
          refine r_last X.1 X.2.2.2.1 hP hS (by omega) (vin (by decide)) dX11_all_112 (fun H locs hP hS => ?_)
          refine lv_iconst (v := 0) hx hb dX11_all_113 (by decide) ?_
          refine lv_istore (lv' := [(4, .int (0)), (0, .ref (φ 0)), (3, .int (((1 : Int32) <<< ((M_23 0 5) &&& 31))))]) hx hb dX11_all_114 hl (by decide) rfl (fun ls hl => ?_)
          refine L116 _ _ _ _ _ _ _ _ hP hS (lv_sub hl [1, 2, 0] rfl)  h
      · rw [if_neg c_24] at h
        refine lv_aload_n hx hb dX11_all_64 rfl (lv_at hl 0 rfl) ?_
        refine G_X11_74 X.1 hn hP dX11_all_65 ?_
        refine lv_iload_n hx hb dX11_all_68 rfl (lv_at hl 2 rfl) ?_
        refine lv_dup2_11 hx hb dX11_all_69 rfl rfl ?_
        obtain ⟨c_58, h⟩ := og h
        refine r_iald (k := (Int32.toNatClampNeg (a2))) X.1 hP (by omega) sM_needs rfl (vin c_58) dX11_all_70 ?_
        refine lv_iconst (v := 1) hx hb dX11_all_71 (by decide) ?_
        refine lv_iload_n hx hb dX11_all_72 rfl (lv_at hl 1 rfl) ?_
        refine lv_ishl hx hb dX11_all_73 ?_
        refine lv_ior hx hb dX11_all_74 ?_
        obtain ⟨c_59, h⟩ := og h
        refine r_iast (k := (Int32.toNatClampNeg (a2))) X.1 X.2.2.2.1 hP hS (by omega) sM_needs rfl (vin c_59) dX11_all_75 (fun H locs hP hS => ?_)
        refine lv_iconst (v := 1) hx hb dX11_all_76 (by decide) ?_
        refine lv_aload_n hx hb dX11_all_77 rfl (lv_at hl 0 rfl) ?_
        refine G_X11_131 X.1 hn hP dX11_all_78 ?_
        refine lv_ishl hx hb dX11_all_81 ?_
        refine lv_istore_n (lv' := [(3, .int (((1 : Int32) <<< (((upd2 M_23 22 (Int32.toNatClampNeg (a2)) (((M_23 22 (Int32.toNatClampNeg (a2))) ||| ((1 : Int32) <<< (a1 &&& 31))))) 0 5) &&& 31)))), (0, .ref (φ 0)), (1, .int (a1)), (2, .int (a2))]) hx hb dX11_all_82 rfl hl (by decide) rfl (fun ls hl => ?_)
        refine lv_iconst (v := 0) hx hb dX11_all_83 (by decide) ?_
        refine lv_istore (lv' := [(4, .int (0)), (3, .int (((1 : Int32) <<< (((upd2 M_23 22 (Int32.toNatClampNeg (a2)) (((M_23 22 (Int32.toNatClampNeg (a2))) ||| ((1 : Int32) <<< (a1 &&& 31))))) 0 5) &&& 31)))), (0, .ref (φ 0)), (1, .int (a1)), (2, .int (a2))]) hx hb dX11_all_84 hl (by decide) rfl (fun ls hl => ?_)
        refine L86 _ _ _ _ _ _ _ _ _ hP hS (lv_sub hl [2, 1, 0] rfl) (fun L_60 H locs ls hP hS hl h => ?_) h
        · try dsimp only at h
          refine lv_aload_n hx hb dX11_all_106 rfl (lv_at hl 0 rfl) ?_
          refine G_X11_70 X.1 hn hP dX11_all_107 ?_
          refine lv_iconst (v := 0) hx hb dX11_all_110 (by decide) ?_
          refine lv_lconst (v := 1) hx hb dX11_all_111 (by decide) ?_
          refine r_last X.1 X.2.2.2.1 hP hS (by omega) (vin (by decide)) dX11_all_112 (fun H locs hP hS => ?_)
          refine lv_iconst (v := 0) hx hb dX11_all_113 (by decide) ?_
          refine lv_istore (lv' := [(4, .int (0)), (0, .ref (φ 0)), (3, .int (((1 : Int32) <<< (((upd2 M_23 22 (Int32.toNatClampNeg (a2)) (((M_23 22 (Int32.toNatClampNeg (a2))) ||| ((1 : Int32) <<< (a1 &&& 31))))) 0 5) &&& 31))))]) hx hb dX11_all_114 hl (by decide) rfl (fun ls hl => ?_)
          refine L116 _ _ _ _ _ _ _ _ hP hS (lv_sub hl [1, 2, 0] rfl)  h

