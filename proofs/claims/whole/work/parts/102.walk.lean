def f_X0_says (M : Mem) (a1 : Int32) (a2 : Int32) (a3 : Int32) (a4 : Int32) : Option (Int32 × Mem) :=
  (if ibd (((upd2 (upd2 (upd2 M 17 0 (a2)) 17 1 (a3)) 17 5 (a4)) 1 6)) 6 then (Option.bind (f_X5_value (upd2 (upd2 (upd2 M 17 0 (a2)) 17 1 (a3)) 17 5 (a4)) (Int32.toNatClampNeg (((upd2 (upd2 (upd2 M 17 0 (a2)) 17 1 (a3)) 17 5 (a4)) 1 6))) (a1)) fun r_3 => some ((r_3.1, r_3.2))) else none)
set_option maxRecDepth 100000 in
set_option maxHeartbeats 4000000 in
theorem c_X0_says (l : Launch) {G : GT} {φ : Nat → Nat} {n : Nat} {M : Mem} {a1 : Int32} {a2 : Int32} {a3 : Int32} {a4 : Int32} (hI : wI φ n) (hn : 107 ≤ n) {r : Int32 × Mem} (h : f_X0_says M a1 a2 a3 a4 = some r) : CT l yX0_says cX0_says 5 (some .int) ({ frames := 2, cells := 0, slots := 0, locals := 48 } : Room) [.ref (φ 5), .int (a1), .int (a2), .int (a3), .int (a4)] (WB (cX G φ) φ M n G) (some (.int r.1)) (WB (cX G φ) φ (r.2) n G) φ n := by
  unfold f_X0_says at h
  refine r_start (plainFor_of_name (by decide)) (Nat.le_of_ble_eq_true rfl) hI ?_
  intro p e s m args below meth c ls X hr hlk hP hl
  have hS : va_S (wA φ n s.heap.size) s.heap s.heap [] := va_S.rf
  have hx := X.1.1
  have hb := X.1.2.1
  have hl : lv_has ls 5 [(0, .ref (φ 5)), (1, .int (a1)), (2, .int (a2)), (3, .int (a3)), (4, .int (a4))] := hl
  refine lv_aload_n hx hb dX0_says_0 rfl (lv_at hl 0 rfl) ?_
  refine G_X0_51 X.1 hn hP dX0_says_1 ?_
  refine lv_iconst (v := 0) hx hb dX0_says_4 (by decide) ?_
  refine lv_iload_n hx hb dX0_says_5 rfl (lv_at hl 2 rfl) ?_
  refine r_iast (k := 0) X.1 X.2.2.2.1 hP hS (by omega) sX_facts (by decide) (vin (by decide)) dX0_says_6 (fun H locs hP hS => ?_)
  refine lv_aload_n hx hb dX0_says_7 rfl (lv_at hl 0 rfl) ?_
  refine G_X0_51 X.1 hn hP dX0_says_8 ?_
  refine lv_iconst (v := 1) hx hb dX0_says_11 (by decide) ?_
  refine lv_iload_n hx hb dX0_says_12 rfl (lv_at hl 3 rfl) ?_
  refine r_iast (k := 1) X.1 X.2.2.2.1 hP hS (by omega) sX_facts (by decide) (vin (by decide)) dX0_says_13 (fun H locs hP hS => ?_)
  refine lv_aload_n hx hb dX0_says_14 rfl (lv_at hl 0 rfl) ?_
  refine G_X0_51 X.1 hn hP dX0_says_15 ?_
  refine lv_iconst (v := 5) hx hb dX0_says_18 (by decide) ?_
  refine lv_iload hx hb dX0_says_19 (lv_at hl 4 rfl) ?_
  refine r_iast (k := 5) X.1 X.2.2.2.1 hP hS (by omega) sX_facts (by decide) (vin (by decide)) dX0_says_21 (fun H locs hP hS => ?_)
  refine lv_aload_n hx hb dX0_says_22 rfl (lv_at hl 0 rfl) ?_
  refine G_X0_63 X.1 hn hP dX0_says_23 ?_
  refine G_X0_161 X.1 hn hP dX0_says_26 ?_
  refine lv_aload_n hx hb dX0_says_29 rfl (lv_at hl 0 rfl) ?_
  refine G_X0_63 X.1 hn hP dX0_says_30 ?_
  refine G_X0_165 X.1 hn hP dX0_says_33 ?_
  obtain ⟨c_1, h⟩ := og h
  refine r_aald (t0 := 4) (k := (Int32.toNatClampNeg (((upd2 (upd2 (upd2 M 17 0 (a2)) 17 1 (a3)) 17 5 (a4)) 1 6)))) X.1 hP rfl rfl (by omega) sX_rules rfl (vin c_1) dX0_says_36 ?_
  have hj_2 : (Int32.toNatClampNeg (((upd2 (upd2 (upd2 M 17 0 (a2)) 17 1 (a3)) 17 5 (a4)) 1 6))) < 6 := ibd_lt c_1
  refine lv_iload_n hx hb dX0_says_37 rfl (lv_at hl 1 rfl) ?_
  refine lv_aload_n hx hb dX0_says_38 rfl (lv_at hl 0 rfl) ?_
  refine G_X0_51 X.1 hn hP dX0_says_39 ?_
  refine lv_aload_n hx hb dX0_says_42 rfl (lv_at hl 0 rfl) ?_
  refine G_X0_56 X.1 hn hP dX0_says_43 ?_
  obtain ⟨r_3, hr_3, h⟩ := ob h
  refine c_V0 (As := [.int (a1), .ref (φ 17), .ref (φ 18)]) (rest := []) (a := (40 + (Int32.toNatClampNeg (((upd2 (upd2 (upd2 M 17 0 (a2)) 17 1 (a3)) 17 5 (a4)) 1 6))))) X hl.1 (c_X5_value l X.2.2.2.1.1 hn hj_2 hr_3) (w_X0_168) qw_723 qw_724 ⟨Nat.le_of_ble_eq_true rfl, Nat.le_of_ble_eq_true rfl⟩ rfl rfl hP hS (by omega) (sX_Rule hj_2) rfl rfl (Nat.le_of_ble_eq_true rfl) dX0_says_46 (fun H locs hP hS => ?_)
  obtain rfl := Option.some.inj h
  exact W.iret hx hb hr (r_end X hP hS) hS.2.2 dX0_says_49 (hlocks := hlk)

def f_X0_act (M : Mem) (a1 : Int32) (a2 : Int32) (a3 : Int32) : Option (Mem) :=
  (if ibd (a3) 4 then (if (M 10 (Int32.toNatClampNeg (a3))) = 0 then (if ibd (a3) 4 then (if ibd (a3) 4 then (if ibd (a3) 4 then (if ibd (a3) 4 then (if ibd (a3) 4 then (if ibd (a1) 5 then (if ibd (a1) 5 then some ((upd2 (upd2 (upd2 (upd2 M 11 (Int32.toNatClampNeg (a3)) (a2)) 12 (Int32.toNatClampNeg (a3)) (a1)) 10 (Int32.toNatClampNeg (a3)) ((((upd2 (upd2 M 11 (Int32.toNatClampNeg (a3)) (a2)) 12 (Int32.toNatClampNeg (a3)) (a1)) 10 (Int32.toNatClampNeg (a3))) + 1))) (70 + (Int32.toNatClampNeg (a3))) (Int32.toNatClampNeg (a1)) ((((upd2 (upd2 (upd2 M 11 (Int32.toNatClampNeg (a3)) (a2)) 12 (Int32.toNatClampNeg (a3)) (a1)) 10 (Int32.toNatClampNeg (a3)) ((((upd2 (upd2 M 11 (Int32.toNatClampNeg (a3)) (a2)) 12 (Int32.toNatClampNeg (a3)) (a1)) 10 (Int32.toNatClampNeg (a3))) + 1))) (70 + (Int32.toNatClampNeg (a3))) (Int32.toNatClampNeg (a1))) + 1)))) else none) else none) else none) else none) else none) else none) else none) else (if ibd (a3) 4 then (if ibd (a3) 4 then (if ibd (a3) 4 then (if ibd (a1) 5 then (if ibd (a1) 5 then some ((upd2 (upd2 M 10 (Int32.toNatClampNeg (a3)) (((M 10 (Int32.toNatClampNeg (a3))) + 1))) (70 + (Int32.toNatClampNeg (a3))) (Int32.toNatClampNeg (a1)) ((((upd2 M 10 (Int32.toNatClampNeg (a3)) (((M 10 (Int32.toNatClampNeg (a3))) + 1))) (70 + (Int32.toNatClampNeg (a3))) (Int32.toNatClampNeg (a1))) + 1)))) else none) else none) else none) else none) else none)) else none)
set_option maxRecDepth 100000 in
set_option maxHeartbeats 4000000 in
theorem c_X0_act (l : Launch) {G : GT} {φ : Nat → Nat} {n : Nat} {M : Mem} {a1 : Int32} {a2 : Int32} {a3 : Int32} (hI : wI φ n) (hn : 107 ≤ n) {r : Mem} (h : f_X0_act M a1 a2 a3 = some r) : CT l yX0_act cX0_act 4 none ({ frames := 0, cells := 0, slots := 0, locals := 0 } : Room) [.ref (φ 5), .int (a1), .int (a2), .int (a3)] (WB (cX G φ) φ M n G) (none) (WB (cX G φ) φ (r) n G) φ n := by
  unfold f_X0_act at h
  refine r_start (plainFor_of_name (by decide)) (Nat.le_of_ble_eq_true rfl) hI ?_
  intro p e s m args below meth c ls X hr hlk hP hl
  have hS : va_S (wA φ n s.heap.size) s.heap s.heap [] := va_S.rf
  have hx := X.1.1
  have hb := X.1.2.1
  have hl : lv_has ls 4 [(0, .ref (φ 5)), (1, .int (a1)), (2, .int (a2)), (3, .int (a3))] := hl
  refine lv_aload_n hx hb dX0_act_0 rfl (lv_at hl 0 rfl) ?_
  refine G_X0_30 X.1 hn hP dX0_act_1 ?_
  refine lv_iload_n hx hb dX0_act_4 rfl (lv_at hl 3 rfl) ?_
  obtain ⟨c_1, h⟩ := og h
  refine r_iald (k := (Int32.toNatClampNeg (a3))) X.1 hP (by omega) sX_timesInAll rfl (vin c_1) dX0_act_5 ?_
  refine lv_if_ne (tgt := 23) hx hb dX0_act_6 (by decide) (fun c_2 => ?_) (fun c_2 => ?_)
  · rw [if_neg c_2] at h
    refine lv_aload_n hx hb dX0_act_23 rfl (lv_at hl 0 rfl) ?_
    refine G_X0_30 X.1 hn hP dX0_act_24 ?_
    refine lv_iload_n hx hb dX0_act_27 rfl (lv_at hl 3 rfl) ?_
    refine lv_dup2_11 hx hb dX0_act_28 rfl rfl ?_
    obtain ⟨c_3, h⟩ := og h
    refine r_iald (k := (Int32.toNatClampNeg (a3))) X.1 hP (by omega) sX_timesInAll rfl (vin c_3) dX0_act_29 ?_
    refine lv_iconst (v := 1) hx hb dX0_act_30 (by decide) ?_
    refine lv_iadd hx hb dX0_act_31 ?_
    obtain ⟨c_4, h⟩ := og h
    refine r_iast (k := (Int32.toNatClampNeg (a3))) X.1 X.2.2.2.1 hP hS (by omega) sX_timesInAll rfl (vin c_4) dX0_act_32 (fun H locs hP hS => ?_)
    refine lv_aload_n hx hb dX0_act_33 rfl (lv_at hl 0 rfl) ?_
    refine G_X0_27 X.1 hn hP dX0_act_34 ?_
    refine lv_iload_n hx hb dX0_act_37 rfl (lv_at hl 3 rfl) ?_
    obtain ⟨c_5, h⟩ := og h
    refine r_aald (t0 := 1) (k := (Int32.toNatClampNeg (a3))) X.1 hP rfl rfl (by omega) sX_timesDone rfl (vin c_5) dX0_act_38 ?_
    have hj_6 : (Int32.toNatClampNeg (a3)) < 4 := ibd_lt c_5
    refine lv_iload_n hx hb dX0_act_39 rfl (lv_at hl 1 rfl) ?_
    refine lv_dup2_11 hx hb dX0_act_40 rfl rfl ?_
    obtain ⟨c_7, h⟩ := og h
    refine r_iald (k := (Int32.toNatClampNeg (a1))) X.1 hP (by omega) (sX_doneRow hj_6) rfl (vin c_7) dX0_act_41 ?_
    refine lv_iconst (v := 1) hx hb dX0_act_42 (by decide) ?_
    refine lv_iadd hx hb dX0_act_43 ?_
    obtain ⟨c_8, h⟩ := og h
    refine r_iast (k := (Int32.toNatClampNeg (a1))) X.1 X.2.2.2.1 hP hS (by omega) (sX_doneRow hj_6) rfl (vin c_8) dX0_act_44 (fun H locs hP hS => ?_)
    obtain rfl := Option.some.inj h
    exact W.vret hx hb hr (r_end X hP hS) hS.2.2 dX0_act_45 (hlocks := hlk)
  · rw [if_pos c_2] at h
    refine lv_aload_n hx hb dX0_act_9 rfl (lv_at hl 0 rfl) ?_
    refine G_X0_33 X.1 hn hP dX0_act_10 ?_
    refine lv_iload_n hx hb dX0_act_13 rfl (lv_at hl 3 rfl) ?_
    refine lv_iload_n hx hb dX0_act_14 rfl (lv_at hl 2 rfl) ?_
    obtain ⟨c_9, h⟩ := og h
    refine r_iast (k := (Int32.toNatClampNeg (a3))) X.1 X.2.2.2.1 hP hS (by omega) sX_firstHour rfl (vin c_9) dX0_act_15 (fun H locs hP hS => ?_)
    refine lv_aload_n hx hb dX0_act_16 rfl (lv_at hl 0 rfl) ?_
    refine G_X0_36 X.1 hn hP dX0_act_17 ?_
    refine lv_iload_n hx hb dX0_act_20 rfl (lv_at hl 3 rfl) ?_
    refine lv_iload_n hx hb dX0_act_21 rfl (lv_at hl 1 rfl) ?_
    obtain ⟨c_10, h⟩ := og h
    refine r_iast (k := (Int32.toNatClampNeg (a3))) X.1 X.2.2.2.1 hP hS (by omega) sX_firstDoer rfl (vin c_10) dX0_act_22 (fun H locs hP hS => ?_)
    refine lv_aload_n hx hb dX0_act_23 rfl (lv_at hl 0 rfl) ?_
    refine G_X0_30 X.1 hn hP dX0_act_24 ?_
    refine lv_iload_n hx hb dX0_act_27 rfl (lv_at hl 3 rfl) ?_
    refine lv_dup2_11 hx hb dX0_act_28 rfl rfl ?_
    obtain ⟨c_11, h⟩ := og h
    refine r_iald (k := (Int32.toNatClampNeg (a3))) X.1 hP (by omega) sX_timesInAll rfl (vin c_11) dX0_act_29 ?_
    refine lv_iconst (v := 1) hx hb dX0_act_30 (by decide) ?_
    refine lv_iadd hx hb dX0_act_31 ?_
    obtain ⟨c_12, h⟩ := og h
    refine r_iast (k := (Int32.toNatClampNeg (a3))) X.1 X.2.2.2.1 hP hS (by omega) sX_timesInAll rfl (vin c_12) dX0_act_32 (fun H locs hP hS => ?_)
    refine lv_aload_n hx hb dX0_act_33 rfl (lv_at hl 0 rfl) ?_
    refine G_X0_27 X.1 hn hP dX0_act_34 ?_
    refine lv_iload_n hx hb dX0_act_37 rfl (lv_at hl 3 rfl) ?_
    obtain ⟨c_13, h⟩ := og h
    refine r_aald (t0 := 1) (k := (Int32.toNatClampNeg (a3))) X.1 hP rfl rfl (by omega) sX_timesDone rfl (vin c_13) dX0_act_38 ?_
    have hj_14 : (Int32.toNatClampNeg (a3)) < 4 := ibd_lt c_13
    refine lv_iload_n hx hb dX0_act_39 rfl (lv_at hl 1 rfl) ?_
    refine lv_dup2_11 hx hb dX0_act_40 rfl rfl ?_
    obtain ⟨c_15, h⟩ := og h
    refine r_iald (k := (Int32.toNatClampNeg (a1))) X.1 hP (by omega) (sX_doneRow hj_14) rfl (vin c_15) dX0_act_41 ?_
    refine lv_iconst (v := 1) hx hb dX0_act_42 (by decide) ?_
    refine lv_iadd hx hb dX0_act_43 ?_
    obtain ⟨c_16, h⟩ := og h
    refine r_iast (k := (Int32.toNatClampNeg (a1))) X.1 X.2.2.2.1 hP hS (by omega) (sX_doneRow hj_14) rfl (vin c_16) dX0_act_44 (fun H locs hP hS => ?_)
    obtain rfl := Option.some.inj h
    exact W.vret hx hb hr (r_end X hP hS) hS.2.2 dX0_act_45 (hlocks := hlk)

def f_X0_visit_66 (x1_7 : Int32) (x2_8 : Int32) (x4_9 : Int32) (k114 : Mem → Option (Mem)) : Nat → Int32 → Mem → Option (Mem)
  | 0, _, _ => none
  | fu_12 + 1, x5_10, M_11 => (if 4 ≤ x5_10 then (k114 M_11) else (if ibd (x1_7) 5 then (if ibd (x5_10) 4 then (if ibd (x1_7) 5 then (if ibd (x5_10) 4 then (Option.bind (f_X0_says M_11 (0) ((M_11 (75 + (Int32.toNatClampNeg (x1_7))) (Int32.toNatClampNeg (x5_10)))) ((M_11 (80 + (Int32.toNatClampNeg (x1_7))) (Int32.toNatClampNeg (x5_10)))) (x5_10)) fun r_20 => (if r_20.1 = 0 then (f_X0_visit_66 x1_7 x2_8 x4_9 k114 fu_12 ((x5_10 + 1)) r_20.2) else (Option.bind (f_X0_act r_20.2 (x1_7) (x2_8) (x5_10)) fun r_22 => (f_X0_visit_66 x1_7 x2_8 x4_9 k114 fu_12 ((x5_10 + 1)) r_22)))) else none) else none) else none) else none))
def f_X0_visit_117 (x4_25 : Int32) : Nat → Int32 → Mem → Option (Mem)
  | 0, _, _ => none
  | fu_28 + 1, x5_26, M_27 => (if (M_27 1 4) ≤ x5_26 then some (M_27) else (if ibd (x5_26) 10 then (if (((x4_25 : Int32) >>> (x5_26 &&& 31)) &&& 1) = 0 then (f_X0_visit_117 x4_25 fu_28 ((x5_26 + 1)) M_27) else (Option.bind (f_X0_says M_27 (1) ((M_27 (30 + (Int32.toNatClampNeg (x5_26))) 6)) ((M_27 (30 + (Int32.toNatClampNeg (x5_26))) 7)) ((M_27 (30 + (Int32.toNatClampNeg (x5_26))) 2))) fun r_33 => (if r_33.1 = 0 then (f_X0_visit_117 x4_25 fu_28 ((x5_26 + 1)) r_33.2) else (f_X0_visit_117 x4_25 fu_28 ((x5_26 + 1)) (upd2 r_33.2 5 15 (((r_33.2 5 15) ||| ((1 : Int32) <<< (x5_26 &&& 31))))))))) else none))
def f_X0_visit (M : Mem) (a1 : Int32) (a2 : Int32) (a3 : Int32) : Option (Mem) :=
  (if ibd (a1) 5 then (Option.bind (f_X0_uppermostOf M (a3) ((M (25 + (Int32.toNatClampNeg (a1))) 2))) fun r_3 => (Option.bind (f_X0_learn M (a1) (a2) (r_3)) fun r_4 => (if ibd (a1) 5 then (f_X0_visit_66 (a1) (a2) (r_3) (fun M_24 => (f_X0_visit_117 (r_3) FU (0) M_24)) FU (0) (upd2 (upd2 (upd2 r_4 17 2 (a2)) 17 3 (a1)) 17 4 (((upd2 (upd2 r_4 17 2 (a2)) 17 3 (a1)) (25 + (Int32.toNatClampNeg (a1))) 3)))) else none))) else none)
set_option maxRecDepth 100000 in
set_option maxHeartbeats 4000000 in
theorem c_X0_visit (l : Launch) {G : GT} {φ : Nat → Nat} {n : Nat} {M : Mem} {a1 : Int32} {a2 : Int32} {a3 : Int32} (hI : wI φ n) (hn : 107 ≤ n) {r : Mem} (h : f_X0_visit M a1 a2 a3 = some r) : CT l yX0_visit cX0_visit 8 none ({ frames := 3, cells := 0, slots := 0, locals := 72 } : Room) [.ref (φ 5), .int (a1), .int (a2), .int (a3)] (WB (cX G φ) φ M n G) (none) (WB (cX G φ) φ (r) n G) φ n := by
  unfold f_X0_visit at h
  refine r_start (plainFor_of_name (by decide)) (Nat.le_of_ble_eq_true rfl) hI ?_
  intro p e s m args below meth c ls X hr hlk hP hl
  have hS : va_S (wA φ n s.heap.size) s.heap s.heap [] := va_S.rf
  have hx := X.1.1
  have hb := X.1.2.1
  have hl : lv_has ls 8 [(0, .ref (φ 5)), (1, .int (a1)), (2, .int (a2)), (3, .int (a3))] := hl
  have L66 : ∀ (fu_12 : Nat) (M_11 : Mem) (x1_7 : Int32) (x2_8 : Int32) (x4_9 : Int32) (k114 : Mem → Option (Mem)) (x5_10 : Int32)  (H : Heap) (locs : List Loc) (ls : Array Slot), va_P G.1 vwCl (wW (cX G φ) φ M_11 n) H → va_S (wA φ n s.heap.size) s.heap H locs → lv_has ls 8 [(0, .ref (φ 5)), (1, .int (x1_7)), (2, .int (x2_8)), (4, .int (x4_9)), (5, .int (x5_10))] → (∀ (M_23 : Mem) (H : Heap) (locs : List Loc) (ls : Array Slot), va_P G.1 vwCl (wW (cX G φ) φ M_23 n) H → va_S (wA φ n s.heap.size) s.heap H locs → lv_has ls 8 [(0, .ref (φ 5)), (4, .int (x4_9))] → k114 M_23 = some r → W p l e ({ frames := 3, cells := 0, slots := 0, locals := 72 } : Room) s m args below meth c H locs 0 0 (MQ below (QQ (none) (WB (cX G φ) φ (r) n G) (wA φ n s.heap.size)) args s 0 0 (wA φ n s.heap.size)) (F0 m 114 ls [])) → f_X0_visit_66 x1_7 x2_8 x4_9 k114 fu_12 x5_10 M_11 = some r → W p l e ({ frames := 3, cells := 0, slots := 0, locals := 72 } : Room) s m args below meth c H locs 0 0 (MQ below (QQ (none) (WB (cX G φ) φ (r) n G) (wA φ n s.heap.size)) args s 0 0 (wA φ n s.heap.size)) (F0 m 66 ls []) := by
    intro fu_12
    induction fu_12 with
    | zero =>
      intro M_11 x1_7 x2_8 x4_9 k114 x5_10 H locs ls _ _ _ _ h
      have h : (none : Option (Mem)) = some r := h
      cases h
    | succ fu_12 ih =>
      intro M_11 x1_7 x2_8 x4_9 k114 x5_10 H locs ls hP hS hl hk114 h
      rw [f_X0_visit_66] at h
      refine lv_iload hx hb dX0_visit_66 (lv_at hl 4 rfl) ?_
      refine lv_iconst (v := 4) hx hb dX0_visit_68 (by decide) ?_
      refine lv_icmp_ge (tgt := 114) hx hb dX0_visit_69 (by decide) (fun c_13 => ?_) (fun c_13 => ?_)
      · rw [if_pos c_13] at h
        exact hk114 _ _ _ _ hP hS (lv_sub hl [0, 3] rfl) h
      · rw [if_neg c_13] at h
        refine lv_aload_n hx hb dX0_visit_72 rfl (lv_at hl 0 rfl) ?_
        refine lv_iconst (v := 0) hx hb dX0_visit_73 (by decide) ?_
        refine lv_aload_n hx hb dX0_visit_74 rfl (lv_at hl 0 rfl) ?_
        refine G_X0_45 X.1 hn hP dX0_visit_75 ?_
        refine lv_iload_n hx hb dX0_visit_78 rfl (lv_at hl 1 rfl) ?_
        obtain ⟨c_14, h⟩ := og h
        refine r_aald (t0 := 1) (k := (Int32.toNatClampNeg (x1_7))) X.1 hP rfl rfl (by omega) sX_askedOf rfl (vin c_14) dX0_visit_79 ?_
        have hj_15 : (Int32.toNatClampNeg (x1_7)) < 5 := ibd_lt c_14
        refine lv_iload hx hb dX0_visit_80 (lv_at hl 4 rfl) ?_
        obtain ⟨c_16, h⟩ := og h
        refine r_iald (k := (Int32.toNatClampNeg (x5_10))) X.1 hP (by omega) (sX_askedRow hj_15) rfl (vin c_16) dX0_visit_82 ?_
        refine lv_aload_n hx hb dX0_visit_83 rfl (lv_at hl 0 rfl) ?_
        refine G_X0_48 X.1 hn hP dX0_visit_84 ?_
        refine lv_iload_n hx hb dX0_visit_87 rfl (lv_at hl 1 rfl) ?_
        obtain ⟨c_17, h⟩ := og h
        refine r_aald (t0 := 1) (k := (Int32.toNatClampNeg (x1_7))) X.1 hP rfl rfl (by omega) sX_toldTo rfl (vin c_17) dX0_visit_88 ?_
        have hj_18 : (Int32.toNatClampNeg (x1_7)) < 5 := ibd_lt c_17
        refine lv_iload hx hb dX0_visit_89 (lv_at hl 4 rfl) ?_
        obtain ⟨c_19, h⟩ := og h
        refine r_iald (k := (Int32.toNatClampNeg (x5_10))) X.1 hP (by omega) (sX_toldRow hj_18) rfl (vin c_19) dX0_visit_91 ?_
        refine lv_iload hx hb dX0_visit_92 (lv_at hl 4 rfl) ?_
        obtain ⟨r_20, hr_20, h⟩ := ob h
        refine c_V0 (As := [.int (0), .int ((M_11 (75 + (Int32.toNatClampNeg (x1_7))) (Int32.toNatClampNeg (x5_10)))), .int ((M_11 (80 + (Int32.toNatClampNeg (x1_7))) (Int32.toNatClampNeg (x5_10)))), .int (x5_10)]) (rest := []) (a := 5) X hl.1 (c_X0_says l X.2.2.2.1.1 hn hr_20) (w_X0_142) qw_720 qw_26 ⟨Nat.le_of_ble_eq_true rfl, Nat.le_of_ble_eq_true rfl⟩ rfl rfl hP hS (by omega) sX_Course rfl rfl (Nat.le_of_ble_eq_true rfl) dX0_visit_94 (fun H locs hP hS => ?_)
        refine lv_if_eq (tgt := 108) hx hb dX0_visit_97 (by decide) (fun c_21 => ?_) (fun c_21 => ?_)
        · rw [if_pos c_21] at h
          refine lv_iinc (v := (x5_10 + 1)) (lv' := [(5, .int ((x5_10 + 1))), (0, .ref (φ 5)), (1, .int (x1_7)), (2, .int (x2_8)), (4, .int (x4_9))]) hx hb dX0_visit_108 hl (k := 4) rfl (by rw [show Int32.ofInt (1) = 1 from by decide]) (by decide) rfl (fun ls hl => ?_)
          refine lv_goto (tgt := 66) hx hb dX0_visit_111 (by decide) ?_
          exact ih _ _ _ _ _ _ _ _ _ hP hS (lv_sub hl [1, 2, 3, 4, 0] rfl) hk114 h
        · rw [if_neg c_21] at h
          refine lv_aload_n hx hb dX0_visit_100 rfl (lv_at hl 0 rfl) ?_
          refine lv_iload_n hx hb dX0_visit_101 rfl (lv_at hl 1 rfl) ?_
          refine lv_iload_n hx hb dX0_visit_102 rfl (lv_at hl 2 rfl) ?_
          refine lv_iload hx hb dX0_visit_103 (lv_at hl 4 rfl) ?_
          obtain ⟨r_22, hr_22, h⟩ := ob h
          refine c_V0 (As := [.int (x1_7), .int (x2_8), .int (x5_10)]) (rest := []) (a := 5) X hl.1 (c_X0_act l X.2.2.2.1.1 hn hr_22) (w_X0_146) qw_734 qw_27 ⟨Nat.le_of_ble_eq_true rfl, Nat.le_of_ble_eq_true rfl⟩ rfl rfl hP hS (by omega) sX_Course rfl rfl (Nat.le_of_ble_eq_true rfl) dX0_visit_105 (fun H locs hP hS => ?_)
          refine lv_iinc (v := (x5_10 + 1)) (lv' := [(5, .int ((x5_10 + 1))), (0, .ref (φ 5)), (1, .int (x1_7)), (2, .int (x2_8)), (4, .int (x4_9))]) hx hb dX0_visit_108 hl (k := 4) rfl (by rw [show Int32.ofInt (1) = 1 from by decide]) (by decide) rfl (fun ls hl => ?_)
          refine lv_goto (tgt := 66) hx hb dX0_visit_111 (by decide) ?_
          exact ih _ _ _ _ _ _ _ _ _ hP hS (lv_sub hl [1, 2, 3, 4, 0] rfl) hk114 h
  have L117 : ∀ (fu_28 : Nat) (M_27 : Mem) (x4_25 : Int32) (x5_26 : Int32)  (H : Heap) (locs : List Loc) (ls : Array Slot), va_P G.1 vwCl (wW (cX G φ) φ M_27 n) H → va_S (wA φ n s.heap.size) s.heap H locs → lv_has ls 8 [(0, .ref (φ 5)), (4, .int (x4_25)), (5, .int (x5_26))] → f_X0_visit_117 x4_25 fu_28 x5_26 M_27 = some r → W p l e ({ frames := 3, cells := 0, slots := 0, locals := 72 } : Room) s m args below meth c H locs 0 0 (MQ below (QQ (none) (WB (cX G φ) φ (r) n G) (wA φ n s.heap.size)) args s 0 0 (wA φ n s.heap.size)) (F0 m 117 ls []) := by
    intro fu_28
    induction fu_28 with
    | zero =>
      intro M_27 x4_25 x5_26 H locs ls _ _ _  h
      have h : (none : Option (Mem)) = some r := h
      cases h
    | succ fu_28 ih =>
      intro M_27 x4_25 x5_26 H locs ls hP hS hl  h
      rw [f_X0_visit_117] at h
      refine lv_iload hx hb dX0_visit_117 (lv_at hl 2 rfl) ?_
      refine lv_aload_n hx hb dX0_visit_119 rfl (lv_at hl 0 rfl) ?_
      refine G_X0_63 X.1 hn hP dX0_visit_120 ?_
      refine G_X0_117 X.1 hn hP dX0_visit_123 ?_
      refine lv_icmp_ge (tgt := 205) hx hb dX0_visit_126 (by decide) (fun c_29 => ?_) (fun c_29 => ?_)
      · rw [if_pos c_29] at h
        obtain rfl := Option.some.inj h
        exact W.vret hx hb hr (r_end X hP hS) hS.2.2 dX0_visit_205 (hlocks := hlk)
      · rw [if_neg c_29] at h
        refine lv_aload_n hx hb dX0_visit_129 rfl (lv_at hl 0 rfl) ?_
        refine G_X0_63 X.1 hn hP dX0_visit_130 ?_
        refine G_X0_124 X.1 hn hP dX0_visit_133 ?_
        refine lv_iload hx hb dX0_visit_136 (lv_at hl 2 rfl) ?_
        obtain ⟨c_30, h⟩ := og h
        refine r_aald (t0 := 3) (k := (Int32.toNatClampNeg (x5_26))) X.1 hP rfl rfl (by omega) sX_slips rfl (vin c_30) dX0_visit_138 ?_
        have hj_31 : (Int32.toNatClampNeg (x5_26)) < 10 := ibd_lt c_30
        refine lv_astore (lv' := [(6, .ref (φ (30 + (Int32.toNatClampNeg (x5_26))))), (0, .ref (φ 5)), (4, .int (x4_25)), (5, .int (x5_26))]) hx hb dX0_visit_139 hl (by decide) rfl (fun ls hl => ?_)
        refine lv_iload hx hb dX0_visit_141 (lv_at hl 2 rfl) ?_
        refine lv_iload hx hb dX0_visit_143 (lv_at hl 3 rfl) ?_
        refine lv_ishr hx hb dX0_visit_145 ?_
        refine lv_iconst (v := 1) hx hb dX0_visit_146 (by decide) ?_
        refine lv_iand hx hb dX0_visit_147 ?_
        refine lv_if_eq (tgt := 155) hx hb dX0_visit_148 (by decide) (fun c_32 => ?_) (fun c_32 => ?_)
        · rw [if_pos c_32] at h
          refine lv_iconst (v := 0) hx hb dX0_visit_155 (by decide) ?_
          refine lv_istore (lv' := [(7, .int (0)), (6, .ref (φ (30 + (Int32.toNatClampNeg (x5_26))))), (0, .ref (φ 5)), (4, .int (x4_25)), (5, .int (x5_26))]) hx hb dX0_visit_156 hl (by decide) rfl (fun ls hl => ?_)
          refine lv_iload hx hb dX0_visit_158 (lv_at hl 0 rfl) ?_
          refine lv_if_eq (tgt := 199) hx hb dX0_visit_160 (by decide) (fun _ => ?_) (fun c => absurd c (by decide))
          refine lv_iinc (v := (x5_26 + 1)) (lv' := [(5, .int ((x5_26 + 1))), (7, .int (0)), (6, .ref (φ (30 + (Int32.toNatClampNeg (x5_26))))), (0, .ref (φ 5)), (4, .int (x4_25))]) hx hb dX0_visit_199 hl (k := 4) rfl (by rw [show Int32.ofInt (1) = 1 from by decide]) (by decide) rfl (fun ls hl => ?_)
          refine lv_goto (tgt := 117) hx hb dX0_visit_202 (by decide) ?_
          exact ih _ _ _ _ _ _ hP hS (lv_sub hl [3, 4, 0] rfl)  h
        · rw [if_neg c_32] at h
          refine lv_iconst (v := 1) hx hb dX0_visit_151 (by decide) ?_
          refine lv_goto (tgt := 156) hx hb dX0_visit_152 (by decide) ?_
          refine lv_istore (lv' := [(7, .int (1)), (6, .ref (φ (30 + (Int32.toNatClampNeg (x5_26))))), (0, .ref (φ 5)), (4, .int (x4_25)), (5, .int (x5_26))]) hx hb dX0_visit_156 hl (by decide) rfl (fun ls hl => ?_)
          refine lv_iload hx hb dX0_visit_158 (lv_at hl 0 rfl) ?_
          refine lv_if_eq (tgt := 199) hx hb dX0_visit_160 (by decide) (fun c => absurd c (by decide)) (fun _ => ?_)
          refine lv_aload_n hx hb dX0_visit_163 rfl (lv_at hl 2 rfl) ?_
          refine lv_iconst (v := 1) hx hb dX0_visit_164 (by decide) ?_
          refine lv_aload hx hb dX0_visit_165 (lv_at hl 1 rfl) ?_
          refine G_X0_149 X.1 hn hP hj_31 dX0_visit_167 ?_
          refine lv_aload hx hb dX0_visit_170 (lv_at hl 1 rfl) ?_
          refine G_X0_152 X.1 hn hP hj_31 dX0_visit_172 ?_
          refine lv_aload hx hb dX0_visit_175 (lv_at hl 1 rfl) ?_
          refine G_X0_155 X.1 hn hP hj_31 dX0_visit_177 ?_
          obtain ⟨r_33, hr_33, h⟩ := ob h
          refine c_V0 (As := [.int (1), .int ((M_27 (30 + (Int32.toNatClampNeg (x5_26))) 6)), .int ((M_27 (30 + (Int32.toNatClampNeg (x5_26))) 7)), .int ((M_27 (30 + (Int32.toNatClampNeg (x5_26))) 2))]) (rest := []) (a := 5) X hl.1 (c_X0_says l X.2.2.2.1.1 hn hr_33) (w_X0_142) qw_720 qw_26 ⟨Nat.le_of_ble_eq_true rfl, Nat.le_of_ble_eq_true rfl⟩ rfl rfl hP hS (by omega) sX_Course rfl rfl (Nat.le_of_ble_eq_true rfl) dX0_visit_180 (fun H locs hP hS => ?_)
          refine lv_if_eq (tgt := 199) hx hb dX0_visit_183 (by decide) (fun c_34 => ?_) (fun c_34 => ?_)
          · rw [if_pos c_34] at h
            refine lv_iinc (v := (x5_26 + 1)) (lv' := [(5, .int ((x5_26 + 1))), (7, .int (1)), (6, .ref (φ (30 + (Int32.toNatClampNeg (x5_26))))), (0, .ref (φ 5)), (4, .int (x4_25))]) hx hb dX0_visit_199 hl (k := 4) rfl (by rw [show Int32.ofInt (1) = 1 from by decide]) (by decide) rfl (fun ls hl => ?_)
            refine lv_goto (tgt := 117) hx hb dX0_visit_202 (by decide) ?_
            exact ih _ _ _ _ _ _ hP hS (lv_sub hl [3, 4, 0] rfl)  h
          · rw [if_neg c_34] at h
            refine lv_aload_n hx hb dX0_visit_186 rfl (lv_at hl 2 rfl) ?_
            refine lv_dup hx hb dX0_visit_187 rfl ?_
            refine G_X0_59 X.1 hn hP dX0_visit_188 ?_
            refine lv_iconst (v := 1) hx hb dX0_visit_191 (by decide) ?_
            refine lv_iload hx hb dX0_visit_192 (lv_at hl 4 rfl) ?_
            refine lv_ishl hx hb dX0_visit_194 ?_
            refine lv_ior hx hb dX0_visit_195 ?_
            refine P_X0_59 X.1 hn X.2.2.2.1 hP hS dX0_visit_196 (fun H locs hP hS => ?_)
            refine lv_iinc (v := (x5_26 + 1)) (lv' := [(5, .int ((x5_26 + 1))), (7, .int (1)), (6, .ref (φ (30 + (Int32.toNatClampNeg (x5_26))))), (0, .ref (φ 5)), (4, .int (x4_25))]) hx hb dX0_visit_199 hl (k := 4) rfl (by rw [show Int32.ofInt (1) = 1 from by decide]) (by decide) rfl (fun ls hl => ?_)
            refine lv_goto (tgt := 117) hx hb dX0_visit_202 (by decide) ?_
            exact ih _ _ _ _ _ _ hP hS (lv_sub hl [3, 4, 0] rfl)  h
  refine lv_aload_n hx hb dX0_visit_0 rfl (lv_at hl 0 rfl) ?_
  refine lv_iload_n hx hb dX0_visit_1 rfl (lv_at hl 3 rfl) ?_
  refine lv_aload_n hx hb dX0_visit_2 rfl (lv_at hl 0 rfl) ?_
  refine G_X0_63 X.1 hn hP dX0_visit_3 ?_
  refine G_X0_82 X.1 hn hP dX0_visit_6 ?_
  refine lv_iload_n hx hb dX0_visit_9 rfl (lv_at hl 1 rfl) ?_
  obtain ⟨c_1, h⟩ := og h
  refine r_aald (t0 := 2) (k := (Int32.toNatClampNeg (a1))) X.1 hP rfl rfl (by omega) sX_people rfl (vin c_1) dX0_visit_10 ?_
  have hj_2 : (Int32.toNatClampNeg (a1)) < 5 := ibd_lt c_1
  refine G_X0_133 X.1 hn hP hj_2 dX0_visit_11 ?_
  refine lv_iconst (v := 2) hx hb dX0_visit_14 (by decide) ?_
  refine r_iald (k := 2) X.1 hP (by omega) (sX_traits hj_2) (by decide) (vin (by decide)) dX0_visit_15 ?_
  obtain ⟨r_3, hr_3, h⟩ := ob h
  refine c_V0 (As := [.int (a3), .int ((M (25 + (Int32.toNatClampNeg (a1))) 2))]) (rest := []) (a := 5) X hl.1 (c_X0_uppermostOf l X.2.2.2.1.1 hn hr_3) (w_X0_136) qw_712 qw_24 ⟨Nat.le_of_ble_eq_true rfl, Nat.le_of_ble_eq_true rfl⟩ rfl rfl hP hS (by omega) sX_Course rfl rfl (Nat.le_of_ble_eq_true rfl) dX0_visit_16 (fun H locs hP hS => ?_)
  refine lv_istore (lv' := [(4, .int (r_3)), (0, .ref (φ 5)), (1, .int (a1)), (2, .int (a2)), (3, .int (a3))]) hx hb dX0_visit_19 hl (by decide) rfl (fun ls hl => ?_)
  refine lv_aload_n hx hb dX0_visit_21 rfl (lv_at hl 1 rfl) ?_
  refine lv_iload_n hx hb dX0_visit_22 rfl (lv_at hl 2 rfl) ?_
  refine lv_iload_n hx hb dX0_visit_23 rfl (lv_at hl 3 rfl) ?_
  refine lv_iload hx hb dX0_visit_24 (lv_at hl 0 rfl) ?_
  obtain ⟨r_4, hr_4, h⟩ := ob h
  refine c_V0 (As := [.int (a1), .int (a2), .int (r_3)]) (rest := []) (a := 5) X hl.1 (c_X0_learn l X.2.2.2.1.1 hn hr_4) (w_X0_139) qw_716 qw_25 ⟨Nat.le_of_ble_eq_true rfl, Nat.le_of_ble_eq_true rfl⟩ rfl rfl hP hS (by omega) sX_Course rfl rfl (Nat.le_of_ble_eq_true rfl) dX0_visit_26 (fun H locs hP hS => ?_)
  refine lv_aload_n hx hb dX0_visit_29 rfl (lv_at hl 1 rfl) ?_
  refine G_X0_51 X.1 hn hP dX0_visit_30 ?_
  refine lv_iconst (v := 2) hx hb dX0_visit_33 (by decide) ?_
  refine lv_iload_n hx hb dX0_visit_34 rfl (lv_at hl 3 rfl) ?_
  refine r_iast (k := 2) X.1 X.2.2.2.1 hP hS (by omega) sX_facts (by decide) (vin (by decide)) dX0_visit_35 (fun H locs hP hS => ?_)
  refine lv_aload_n hx hb dX0_visit_36 rfl (lv_at hl 1 rfl) ?_
  refine G_X0_51 X.1 hn hP dX0_visit_37 ?_
  refine lv_iconst (v := 3) hx hb dX0_visit_40 (by decide) ?_
  refine lv_iload_n hx hb dX0_visit_41 rfl (lv_at hl 2 rfl) ?_
  refine r_iast (k := 3) X.1 X.2.2.2.1 hP hS (by omega) sX_facts (by decide) (vin (by decide)) dX0_visit_42 (fun H locs hP hS => ?_)
  refine lv_aload_n hx hb dX0_visit_43 rfl (lv_at hl 1 rfl) ?_
  refine G_X0_51 X.1 hn hP dX0_visit_44 ?_
  refine lv_iconst (v := 4) hx hb dX0_visit_47 (by decide) ?_
  refine lv_aload_n hx hb dX0_visit_48 rfl (lv_at hl 1 rfl) ?_
  refine G_X0_63 X.1 hn hP dX0_visit_49 ?_
  refine G_X0_82 X.1 hn hP dX0_visit_52 ?_
  refine lv_iload_n hx hb dX0_visit_55 rfl (lv_at hl 2 rfl) ?_
  obtain ⟨c_5, h⟩ := og h
  refine r_aald (t0 := 2) (k := (Int32.toNatClampNeg (a1))) X.1 hP rfl rfl (by omega) sX_people rfl (vin c_5) dX0_visit_56 ?_
  have hj_6 : (Int32.toNatClampNeg (a1)) < 5 := ibd_lt c_5
  refine G_X0_133 X.1 hn hP hj_6 dX0_visit_57 ?_
  refine lv_iconst (v := 3) hx hb dX0_visit_60 (by decide) ?_
  refine r_iald (k := 3) X.1 hP (by omega) (sX_traits hj_6) (by decide) (vin (by decide)) dX0_visit_61 ?_
  refine r_iast (k := 4) X.1 X.2.2.2.1 hP hS (by omega) sX_facts (by decide) (vin (by decide)) dX0_visit_62 (fun H locs hP hS => ?_)
  refine lv_iconst (v := 0) hx hb dX0_visit_63 (by decide) ?_
  refine lv_istore (lv' := [(5, .int (0)), (4, .int (r_3)), (0, .ref (φ 5)), (1, .int (a1)), (2, .int (a2)), (3, .int (a3))]) hx hb dX0_visit_64 hl (by decide) rfl (fun ls hl => ?_)
  refine L66 _ _ _ _ _ _ _ _ _ _ hP hS (lv_sub hl [2, 3, 4, 1, 0] rfl) (fun M_24 H locs ls hP hS hl h => ?_) h
  · try dsimp only at h
    refine lv_iconst (v := 0) hx hb dX0_visit_114 (by decide) ?_
    refine lv_istore (lv' := [(5, .int (0)), (0, .ref (φ 5)), (4, .int (r_3))]) hx hb dX0_visit_115 hl (by decide) rfl (fun ls hl => ?_)
    refine L117 _ _ _ _ _ _ _ hP hS (lv_sub hl [1, 2, 0] rfl)  h

def f_X0_run_24 (x1_8 : Int32) (x2_9 : Int32) (k85 : Mem → Option (Mem)) : Nat → Int32 → Mem → Option (Mem)
  | 0, _, _ => none
  | fu_12 + 1, x3_10, M_11 => (if (M_11 1 3) ≤ x3_10 then (k85 M_11) else (if ibd (x3_10) 5 then (Option.bind (f_X1_comesIn M_11 (Int32.toNatClampNeg (x3_10)) (x1_8)) fun r_16 => (if r_16 = 0 then (if ibd (x3_10) 5 then (if ibd (x3_10) 5 then (if ibd (x1_8) 48 then (f_X0_run_24 x1_8 x2_9 k85 fu_12 ((x3_10 + 1)) (upd2 M_11 (60 + (Int32.toNatClampNeg (x3_10))) (Int32.toNatClampNeg (x1_8)) ((M_11 14 (Int32.toNatClampNeg (x3_10)))))) else none) else none) else none) else (Option.bind (f_X0_visit M_11 (x3_10) (x1_8) ((x2_9 &&& ((M_11 5 15) ^^^ (-1))))) fun r_22 => (if ibd (x3_10) 5 then (if ibd (x3_10) 5 then (if ibd (x1_8) 48 then (f_X0_run_24 x1_8 x2_9 k85 fu_12 ((x3_10 + 1)) (upd2 r_22 (60 + (Int32.toNatClampNeg (x3_10))) (Int32.toNatClampNeg (x1_8)) ((r_22 14 (Int32.toNatClampNeg (x3_10)))))) else none) else none) else none)))) else none))
def f_X0_run_10 : Nat → Int32 → Mem → Option (Mem)
  | 0, _, _ => none
  | fu_5 + 1, x1_3, M_4 => (if 48 ≤ x1_3 then some ((upd2 M_4 5 0 (0))) else (Option.bind (f_X0_putIn M_4 (x1_3)) fun r_7 => (f_X0_run_24 (x1_3) (r_7) (fun M_28 => (if ibd (x1_3) 48 then (f_X0_run_10 fu_5 ((x1_3 + 1)) (upd2 M_28 6 (Int32.toNatClampNeg (x1_3)) ((r_7 &&& ((M_28 5 15) ^^^ (-1)))))) else none)) FU (0) M_4)))
def f_X0_run (M : Mem) : Option (Mem) :=
  (Option.bind (f_X0_clear M) fun r_1 => (Option.bind (f_X0_sortUppermost r_1) fun r_2 => (f_X0_run_10 FU (0) r_2)))
set_option maxRecDepth 100000 in
set_option maxHeartbeats 4000000 in
theorem c_X0_run (l : Launch) {G : GT} {φ : Nat → Nat} {n : Nat} {M : Mem} (hI : wI φ n) (hn : 107 ≤ n) {r : Mem} (h : f_X0_run M = some r) : CT l yX0_run cX0_run 4 none ({ frames := 4, cells := 0, slots := 0, locals := 99 } : Room) [.ref (φ 5)] (WB (cX G φ) φ M n G) (none) (WB (cX G φ) φ (r) n G) φ n := by
  unfold f_X0_run at h
  refine r_start (plainFor_of_name (by decide)) (Nat.le_of_ble_eq_true rfl) hI ?_
  intro p e s m args below meth c ls X hr hlk hP hl
  have hS : va_S (wA φ n s.heap.size) s.heap s.heap [] := va_S.rf
  have hx := X.1.1
  have hb := X.1.2.1
  have hl : lv_has ls 4 [(0, .ref (φ 5))] := hl
  have L24 : ∀ (fu_12 : Nat) (M_11 : Mem) (x1_8 : Int32) (x2_9 : Int32) (k85 : Mem → Option (Mem)) (x3_10 : Int32)  (H : Heap) (locs : List Loc) (ls : Array Slot), va_P G.1 vwCl (wW (cX G φ) φ M_11 n) H → va_S (wA φ n s.heap.size) s.heap H locs → lv_has ls 4 [(0, .ref (φ 5)), (1, .int (x1_8)), (2, .int (x2_9)), (3, .int (x3_10))] → (∀ (M_27 : Mem) (H : Heap) (locs : List Loc) (ls : Array Slot), va_P G.1 vwCl (wW (cX G φ) φ M_27 n) H → va_S (wA φ n s.heap.size) s.heap H locs → lv_has ls 4 [(0, .ref (φ 5)), (1, .int (x1_8)), (2, .int (x2_9))] → k85 M_27 = some r → W p l e ({ frames := 4, cells := 0, slots := 0, locals := 99 } : Room) s m args below meth c H locs 0 0 (MQ below (QQ (none) (WB (cX G φ) φ (r) n G) (wA φ n s.heap.size)) args s 0 0 (wA φ n s.heap.size)) (F0 m 85 ls [])) → f_X0_run_24 x1_8 x2_9 k85 fu_12 x3_10 M_11 = some r → W p l e ({ frames := 4, cells := 0, slots := 0, locals := 99 } : Room) s m args below meth c H locs 0 0 (MQ below (QQ (none) (WB (cX G φ) φ (r) n G) (wA φ n s.heap.size)) args s 0 0 (wA φ n s.heap.size)) (F0 m 24 ls []) := by
    intro fu_12
    induction fu_12 with
    | zero =>
      intro M_11 x1_8 x2_9 k85 x3_10 H locs ls _ _ _ _ h
      have h : (none : Option (Mem)) = some r := h
      cases h
    | succ fu_12 ih =>
      intro M_11 x1_8 x2_9 k85 x3_10 H locs ls hP hS hl hk85 h
      rw [f_X0_run_24] at h
      refine lv_iload_n hx hb dX0_run_24 rfl (lv_at hl 3 rfl) ?_
      refine lv_aload_n hx hb dX0_run_25 rfl (lv_at hl 0 rfl) ?_
      refine G_X0_63 X.1 hn hP dX0_run_26 ?_
      refine G_X0_77 X.1 hn hP dX0_run_29 ?_
      refine lv_icmp_ge (tgt := 85) hx hb dX0_run_32 (by decide) (fun c_13 => ?_) (fun c_13 => ?_)
      · rw [if_pos c_13] at h
        exact hk85 _ _ _ _ hP hS (lv_sub hl [0, 1, 2] rfl) h
      · rw [if_neg c_13] at h
        refine lv_aload_n hx hb dX0_run_35 rfl (lv_at hl 0 rfl) ?_
        refine G_X0_63 X.1 hn hP dX0_run_36 ?_
        refine G_X0_82 X.1 hn hP dX0_run_39 ?_
        refine lv_iload_n hx hb dX0_run_42 rfl (lv_at hl 3 rfl) ?_
        obtain ⟨c_14, h⟩ := og h
        refine r_aald (t0 := 2) (k := (Int32.toNatClampNeg (x3_10))) X.1 hP rfl rfl (by omega) sX_people rfl (vin c_14) dX0_run_43 ?_
        have hj_15 : (Int32.toNatClampNeg (x3_10)) < 5 := ibd_lt c_14
        refine lv_iload_n hx hb dX0_run_44 rfl (lv_at hl 1 rfl) ?_
        obtain ⟨r_16, hr_16, h⟩ := ob h
        refine c_V0 (As := [.int (x1_8)]) (rest := []) (a := (20 + (Int32.toNatClampNeg (x3_10)))) X hl.1 (c_X1_comesIn l X.2.2.2.1.1 hn hj_15 hr_16) (w_X0_86) qw_703 qw_704 ⟨Nat.le_of_ble_eq_true rfl, Nat.le_of_ble_eq_true rfl⟩ rfl rfl hP hS (by omega) (sX_Guest hj_15) rfl rfl (Nat.le_of_ble_eq_true rfl) dX0_run_45 (fun H locs hP hS => ?_)
        refine lv_if_eq (tgt := 65) hx hb dX0_run_48 (by decide) (fun c_17 => ?_) (fun c_17 => ?_)
        · rw [if_pos c_17] at h
          refine lv_aload_n hx hb dX0_run_65 rfl (lv_at hl 0 rfl) ?_
          refine G_X0_21 X.1 hn hP dX0_run_66 ?_
          refine lv_iload_n hx hb dX0_run_69 rfl (lv_at hl 3 rfl) ?_
          obtain ⟨c_18, h⟩ := og h
          refine r_aald (t0 := 1) (k := (Int32.toNatClampNeg (x3_10))) X.1 hP rfl rfl (by omega) sX_knownAtEnd rfl (vin c_18) dX0_run_70 ?_
          have hj_19 : (Int32.toNatClampNeg (x3_10)) < 5 := ibd_lt c_18
          refine lv_iload_n hx hb dX0_run_71 rfl (lv_at hl 1 rfl) ?_
          refine lv_aload_n hx hb dX0_run_72 rfl (lv_at hl 0 rfl) ?_
          refine G_X0_42 X.1 hn hP dX0_run_73 ?_
          refine lv_iload_n hx hb dX0_run_76 rfl (lv_at hl 3 rfl) ?_
          obtain ⟨c_20, h⟩ := og h
          refine r_iald (k := (Int32.toNatClampNeg (x3_10))) X.1 hP (by omega) sX_known rfl (vin c_20) dX0_run_77 ?_
          obtain ⟨c_21, h⟩ := og h
          refine r_iast (k := (Int32.toNatClampNeg (x1_8))) X.1 X.2.2.2.1 hP hS (by omega) (sX_knownRow hj_19) rfl (vin c_21) dX0_run_78 (fun H locs hP hS => ?_)
          refine lv_iinc (v := (x3_10 + 1)) (lv' := [(3, .int ((x3_10 + 1))), (0, .ref (φ 5)), (1, .int (x1_8)), (2, .int (x2_9))]) hx hb dX0_run_79 hl (k := 3) rfl (by rw [show Int32.ofInt (1) = 1 from by decide]) (by decide) rfl (fun ls hl => ?_)
          refine lv_goto (tgt := 24) hx hb dX0_run_82 (by decide) ?_
          exact ih _ _ _ _ _ _ _ _ hP hS (lv_sub hl [1, 2, 3, 0] rfl) hk85 h
        · rw [if_neg c_17] at h
          refine lv_aload_n hx hb dX0_run_51 rfl (lv_at hl 0 rfl) ?_
          refine lv_iload_n hx hb dX0_run_52 rfl (lv_at hl 3 rfl) ?_
          refine lv_iload_n hx hb dX0_run_53 rfl (lv_at hl 1 rfl) ?_
          refine lv_iload_n hx hb dX0_run_54 rfl (lv_at hl 2 rfl) ?_
          refine lv_aload_n hx hb dX0_run_55 rfl (lv_at hl 0 rfl) ?_
          refine G_X0_59 X.1 hn hP dX0_run_56 ?_
          refine lv_iconst (v := (-1)) hx hb dX0_run_59 (by decide) ?_
          refine lv_ixor hx hb dX0_run_60 ?_
          refine lv_iand hx hb dX0_run_61 ?_
          obtain ⟨r_22, hr_22, h⟩ := ob h
          refine c_V0 (As := [.int (x3_10), .int (x1_8), .int ((x2_9 &&& ((M_11 5 15) ^^^ (-1))))]) (rest := []) (a := 5) X hl.1 (c_X0_visit l X.2.2.2.1.1 hn hr_22) (w_X0_92) qw_708 qw_23 ⟨Nat.le_of_ble_eq_true rfl, Nat.le_of_ble_eq_true rfl⟩ rfl rfl hP hS (by omega) sX_Course rfl rfl (Nat.le_of_ble_eq_true rfl) dX0_run_62 (fun H locs hP hS => ?_)
          refine lv_aload_n hx hb dX0_run_65 rfl (lv_at hl 0 rfl) ?_
          refine G_X0_21 X.1 hn hP dX0_run_66 ?_
          refine lv_iload_n hx hb dX0_run_69 rfl (lv_at hl 3 rfl) ?_
          obtain ⟨c_23, h⟩ := og h
          refine r_aald (t0 := 1) (k := (Int32.toNatClampNeg (x3_10))) X.1 hP rfl rfl (by omega) sX_knownAtEnd rfl (vin c_23) dX0_run_70 ?_
          have hj_24 : (Int32.toNatClampNeg (x3_10)) < 5 := ibd_lt c_23
          refine lv_iload_n hx hb dX0_run_71 rfl (lv_at hl 1 rfl) ?_
          refine lv_aload_n hx hb dX0_run_72 rfl (lv_at hl 0 rfl) ?_
          refine G_X0_42 X.1 hn hP dX0_run_73 ?_
          refine lv_iload_n hx hb dX0_run_76 rfl (lv_at hl 3 rfl) ?_
          obtain ⟨c_25, h⟩ := og h
          refine r_iald (k := (Int32.toNatClampNeg (x3_10))) X.1 hP (by omega) sX_known rfl (vin c_25) dX0_run_77 ?_
          obtain ⟨c_26, h⟩ := og h
          refine r_iast (k := (Int32.toNatClampNeg (x1_8))) X.1 X.2.2.2.1 hP hS (by omega) (sX_knownRow hj_24) rfl (vin c_26) dX0_run_78 (fun H locs hP hS => ?_)
          refine lv_iinc (v := (x3_10 + 1)) (lv' := [(3, .int ((x3_10 + 1))), (0, .ref (φ 5)), (1, .int (x1_8)), (2, .int (x2_9))]) hx hb dX0_run_79 hl (k := 3) rfl (by rw [show Int32.ofInt (1) = 1 from by decide]) (by decide) rfl (fun ls hl => ?_)
          refine lv_goto (tgt := 24) hx hb dX0_run_82 (by decide) ?_
          exact ih _ _ _ _ _ _ _ _ hP hS (lv_sub hl [1, 2, 3, 0] rfl) hk85 h
  have L10 : ∀ (fu_5 : Nat) (M_4 : Mem) (x1_3 : Int32)  (H : Heap) (locs : List Loc) (ls : Array Slot), va_P G.1 vwCl (wW (cX G φ) φ M_4 n) H → va_S (wA φ n s.heap.size) s.heap H locs → lv_has ls 4 [(0, .ref (φ 5)), (1, .int (x1_3))] → f_X0_run_10 fu_5 x1_3 M_4 = some r → W p l e ({ frames := 4, cells := 0, slots := 0, locals := 99 } : Room) s m args below meth c H locs 0 0 (MQ below (QQ (none) (WB (cX G φ) φ (r) n G) (wA φ n s.heap.size)) args s 0 0 (wA φ n s.heap.size)) (F0 m 10 ls []) := by
    intro fu_5
    induction fu_5 with
    | zero =>
      intro M_4 x1_3 H locs ls _ _ _  h
      have h : (none : Option (Mem)) = some r := h
      cases h
    | succ fu_5 ih =>
      intro M_4 x1_3 H locs ls hP hS hl  h
      rw [f_X0_run_10] at h
      refine lv_iload_n hx hb dX0_run_10 rfl (lv_at hl 1 rfl) ?_
      refine lv_bipush (v := 48) hx hb dX0_run_11 (by decide) ?_
      refine lv_icmp_ge (tgt := 105) hx hb dX0_run_13 (by decide) (fun c_6 => ?_) (fun c_6 => ?_)
      · rw [if_pos c_6] at h
        refine lv_aload_n hx hb dX0_run_105 rfl (lv_at hl 0 rfl) ?_
        refine lv_iconst (v := 0) hx hb dX0_run_106 (by decide) ?_
        refine P_X0_9 X.1 hn X.2.2.2.1 hP hS rfl rfl dX0_run_107 (fun H locs hP hS => ?_)
        obtain rfl := Option.some.inj h
        exact W.vret hx hb hr (r_end X hP hS) hS.2.2 dX0_run_110 (hlocks := hlk)
      · rw [if_neg c_6] at h
        refine lv_aload_n hx hb dX0_run_16 rfl (lv_at hl 0 rfl) ?_
        refine lv_iload_n hx hb dX0_run_17 rfl (lv_at hl 1 rfl) ?_
        obtain ⟨r_7, hr_7, h⟩ := ob h
        refine c_V0 (As := [.int (x1_3)]) (rest := []) (a := 5) X hl.1 (c_X0_putIn l X.2.2.2.1.1 hn hr_7) (w_X0_73) qw_696 qw_22 ⟨Nat.le_of_ble_eq_true rfl, Nat.le_of_ble_eq_true rfl⟩ rfl rfl hP hS (by omega) sX_Course rfl rfl (Nat.le_of_ble_eq_true rfl) dX0_run_18 (fun H locs hP hS => ?_)
        refine lv_istore_n (lv' := [(2, .int (r_7)), (0, .ref (φ 5)), (1, .int (x1_3))]) hx hb dX0_run_21 rfl hl (by decide) rfl (fun ls hl => ?_)
        refine lv_iconst (v := 0) hx hb dX0_run_22 (by decide) ?_
        refine lv_istore_n (lv' := [(3, .int (0)), (2, .int (r_7)), (0, .ref (φ 5)), (1, .int (x1_3))]) hx hb dX0_run_23 rfl hl (by decide) rfl (fun ls hl => ?_)
        refine L24 _ _ _ _ _ _ _ _ _ hP hS (lv_sub hl [2, 3, 1, 0] rfl) (fun M_28 H locs ls hP hS hl h => ?_) h
        · try dsimp only at h
          refine lv_aload_n hx hb dX0_run_85 rfl (lv_at hl 0 rfl) ?_
          refine G_X0_15 X.1 hn hP dX0_run_86 ?_
          refine lv_iload_n hx hb dX0_run_89 rfl (lv_at hl 1 rfl) ?_
          refine lv_iload_n hx hb dX0_run_90 rfl (lv_at hl 2 rfl) ?_
          refine lv_aload_n hx hb dX0_run_91 rfl (lv_at hl 0 rfl) ?_
          refine G_X0_59 X.1 hn hP dX0_run_92 ?_
          refine lv_iconst (v := (-1)) hx hb dX0_run_95 (by decide) ?_
          refine lv_ixor hx hb dX0_run_96 ?_
          refine lv_iand hx hb dX0_run_97 ?_
          obtain ⟨c_29, h⟩ := og h
          refine r_iast (k := (Int32.toNatClampNeg (x1_3))) X.1 X.2.2.2.1 hP hS (by omega) sX_lyingAtEnd rfl (vin c_29) dX0_run_98 (fun H locs hP hS => ?_)
          refine lv_iinc (v := (x1_3 + 1)) (lv' := [(1, .int ((x1_3 + 1))), (0, .ref (φ 5)), (2, .int (r_7))]) hx hb dX0_run_99 hl (k := 1) rfl (by rw [show Int32.ofInt (1) = 1 from by decide]) (by decide) rfl (fun ls hl => ?_)
          refine lv_goto (tgt := 10) hx hb dX0_run_102 (by decide) ?_
          exact ih _ _ _ _ _ hP hS (lv_sub hl [1, 0] rfl)  h
  refine lv_aload_n hx hb dX0_run_0 rfl (lv_at hl 0 rfl) ?_
  obtain ⟨r_1, hr_1, h⟩ := ob h
  refine c_V0 (As := []) (rest := []) (a := 5) X hl.1 (c_X0_clear l X.2.2.2.1.1 hn hr_1) (w_X0_67) qw_681 qw_20 ⟨Nat.le_of_ble_eq_true rfl, Nat.le_of_ble_eq_true rfl⟩ rfl rfl hP hS (by omega) sX_Course rfl rfl (Nat.le_of_ble_eq_true rfl) dX0_run_1 (fun H locs hP hS => ?_)
  refine lv_aload_n hx hb dX0_run_4 rfl (lv_at hl 0 rfl) ?_
  obtain ⟨r_2, hr_2, h⟩ := ob h
  refine c_V0 (As := []) (rest := []) (a := 5) X hl.1 (c_X0_sortUppermost l X.2.2.2.1.1 hn hr_2) (w_X0_70) qw_688 qw_21 ⟨Nat.le_of_ble_eq_true rfl, Nat.le_of_ble_eq_true rfl⟩ rfl rfl hP hS (by omega) sX_Course rfl rfl (Nat.le_of_ble_eq_true rfl) dX0_run_5 (fun H locs hP hS => ?_)
  refine lv_iconst (v := 0) hx hb dX0_run_8 (by decide) ?_
  refine lv_istore_n (lv' := [(1, .int (0)), (0, .ref (φ 5))]) hx hb dX0_run_9 rfl hl (by decide) rfl (fun ls hl => ?_)
  refine L10 _ _ _ _ _ _ hP hS (lv_sub hl [1, 0] rfl)  h

def f_X0_askedInAll_4 (M : Mem) (x1_1 : Int32) : Nat → Int32 → Int32 → Option (Int32)
  | 0, _, _ => none
  | fu_4 + 1, x2_2, x3_3 => (if (M 1 4) ≤ x3_3 then some (x2_2) else (if ibd (x3_3) 10 then (if (M (30 + (Int32.toNatClampNeg (x3_3))) 2) = x1_1 then (if ibd (x3_3) 10 then (f_X0_askedInAll_4 M x1_1 fu_4 ((x2_2 + (M (30 + (Int32.toNatClampNeg (x3_3))) 6))) ((x3_3 + 1))) else none) else (f_X0_askedInAll_4 M x1_1 fu_4 (x2_2) ((x3_3 + 1)))) else none))
def f_X0_askedInAll (M : Mem) (a1 : Int32) : Option (Int32) :=
  (f_X0_askedInAll_4 M (a1) FU (0) (0))
set_option maxRecDepth 100000 in
set_option maxHeartbeats 4000000 in
theorem c_X0_askedInAll (l : Launch) {G : GT} {φ : Nat → Nat} {n : Nat} {M : Mem} {a1 : Int32} (hI : wI φ n) (hn : 107 ≤ n) {r : Int32} (h : f_X0_askedInAll M a1 = some r) : CT l yX0_askedInAll cX0_askedInAll 4 (some .int) ({ frames := 0, cells := 0, slots := 0, locals := 0 } : Room) [.ref (φ 5), .int (a1)] (WB (cX G φ) φ M n G) (some (.int r)) (WB (cX G φ) φ (M) n G) φ n := by
  unfold f_X0_askedInAll at h
  refine r_start (plainFor_of_name (by decide)) (Nat.le_of_ble_eq_true rfl) hI ?_
  intro p e s m args below meth c ls X hr hlk hP hl
  have hS : va_S (wA φ n s.heap.size) s.heap s.heap [] := va_S.rf
  have hx := X.1.1
  have hb := X.1.2.1
  have hl : lv_has ls 4 [(0, .ref (φ 5)), (1, .int (a1))] := hl
  have L4 : ∀ (fu_4 : Nat) (x1_1 : Int32) (x2_2 : Int32) (x3_3 : Int32)  (H : Heap) (locs : List Loc) (ls : Array Slot), va_P G.1 vwCl (wW (cX G φ) φ M n) H → va_S (wA φ n s.heap.size) s.heap H locs → lv_has ls 4 [(0, .ref (φ 5)), (1, .int (x1_1)), (2, .int (x2_2)), (3, .int (x3_3))] → f_X0_askedInAll_4 M x1_1 fu_4 x2_2 x3_3 = some r → W p l e ({ frames := 0, cells := 0, slots := 0, locals := 0 } : Room) s m args below meth c H locs 0 0 (MQ below (QQ (some (.int r)) (WB (cX G φ) φ (M) n G) (wA φ n s.heap.size)) args s 0 0 (wA φ n s.heap.size)) (F0 m 4 ls []) := by
    intro fu_4
    induction fu_4 with
    | zero =>
      intro x1_1 x2_2 x3_3 H locs ls _ _ _  h
      have h : (none : Option (Int32)) = some r := h
      cases h
    | succ fu_4 ih =>
      intro x1_1 x2_2 x3_3 H locs ls hP hS hl  h
      rw [f_X0_askedInAll_4] at h
      refine lv_iload_n hx hb dX0_askedInAll_4 rfl (lv_at hl 3 rfl) ?_
      refine lv_aload_n hx hb dX0_askedInAll_5 rfl (lv_at hl 0 rfl) ?_
      refine G_X0_63 X.1 hn hP dX0_askedInAll_6 ?_
      refine G_X0_117 X.1 hn hP dX0_askedInAll_9 ?_
      refine lv_icmp_ge (tgt := 52) hx hb dX0_askedInAll_12 (by decide) (fun c_5 => ?_) (fun c_5 => ?_)
      · rw [if_pos c_5] at h
        refine lv_iload_n hx hb dX0_askedInAll_52 rfl (lv_at hl 2 rfl) ?_
        obtain rfl := Option.some.inj h
        exact W.iret hx hb hr (r_end X hP hS) hS.2.2 dX0_askedInAll_53 (hlocks := hlk)
      · rw [if_neg c_5] at h
        refine lv_aload_n hx hb dX0_askedInAll_15 rfl (lv_at hl 0 rfl) ?_
        refine G_X0_63 X.1 hn hP dX0_askedInAll_16 ?_
        refine G_X0_124 X.1 hn hP dX0_askedInAll_19 ?_
        refine lv_iload_n hx hb dX0_askedInAll_22 rfl (lv_at hl 3 rfl) ?_
        obtain ⟨c_6, h⟩ := og h
        refine r_aald (t0 := 3) (k := (Int32.toNatClampNeg (x3_3))) X.1 hP rfl rfl (by omega) sX_slips rfl (vin c_6) dX0_askedInAll_23 ?_
        have hj_7 : (Int32.toNatClampNeg (x3_3)) < 10 := ibd_lt c_6
        refine G_X0_155 X.1 hn hP hj_7 dX0_askedInAll_24 ?_
        refine lv_iload_n hx hb dX0_askedInAll_27 rfl (lv_at hl 1 rfl) ?_
        refine lv_icmp_ne (tgt := 46) hx hb dX0_askedInAll_28 (by decide) (fun c_8 => ?_) (fun c_8 => ?_)
        · rw [if_neg c_8] at h
          refine lv_iinc (v := (x3_3 + 1)) (lv' := [(3, .int ((x3_3 + 1))), (0, .ref (φ 5)), (1, .int (x1_1)), (2, .int (x2_2))]) hx hb dX0_askedInAll_46 hl (k := 3) rfl (by rw [show Int32.ofInt (1) = 1 from by decide]) (by decide) rfl (fun ls hl => ?_)
          refine lv_goto (tgt := 4) hx hb dX0_askedInAll_49 (by decide) ?_
          exact ih _ _ _ _ _ _ hP hS (lv_sub hl [1, 2, 3, 0] rfl)  h
        · rw [if_pos c_8] at h
          refine lv_iload_n hx hb dX0_askedInAll_31 rfl (lv_at hl 2 rfl) ?_
          refine lv_aload_n hx hb dX0_askedInAll_32 rfl (lv_at hl 0 rfl) ?_
          refine G_X0_63 X.1 hn hP dX0_askedInAll_33 ?_
          refine G_X0_124 X.1 hn hP dX0_askedInAll_36 ?_
          refine lv_iload_n hx hb dX0_askedInAll_39 rfl (lv_at hl 3 rfl) ?_
          obtain ⟨c_9, h⟩ := og h
          refine r_aald (t0 := 3) (k := (Int32.toNatClampNeg (x3_3))) X.1 hP rfl rfl (by omega) sX_slips rfl (vin c_9) dX0_askedInAll_40 ?_
          have hj_10 : (Int32.toNatClampNeg (x3_3)) < 10 := ibd_lt c_9
          refine G_X0_149 X.1 hn hP hj_10 dX0_askedInAll_41 ?_
          refine lv_iadd hx hb dX0_askedInAll_44 ?_
          refine lv_istore_n (lv' := [(2, .int ((x2_2 + (M (30 + (Int32.toNatClampNeg (x3_3))) 6)))), (0, .ref (φ 5)), (1, .int (x1_1)), (3, .int (x3_3))]) hx hb dX0_askedInAll_45 rfl hl (by decide) rfl (fun ls hl => ?_)
          refine lv_iinc (v := (x3_3 + 1)) (lv' := [(3, .int ((x3_3 + 1))), (2, .int ((x2_2 + (M (30 + (Int32.toNatClampNeg (x3_3))) 6)))), (0, .ref (φ 5)), (1, .int (x1_1))]) hx hb dX0_askedInAll_46 hl (k := 3) rfl (by rw [show Int32.ofInt (1) = 1 from by decide]) (by decide) rfl (fun ls hl => ?_)
          refine lv_goto (tgt := 4) hx hb dX0_askedInAll_49 (by decide) ?_
          exact ih _ _ _ _ _ _ hP hS (lv_sub hl [2, 3, 1, 0] rfl)  h
  refine lv_iconst (v := 0) hx hb dX0_askedInAll_0 (by decide) ?_
  refine lv_istore_n (lv' := [(2, .int (0)), (0, .ref (φ 5)), (1, .int (a1))]) hx hb dX0_askedInAll_1 rfl hl (by decide) rfl (fun ls hl => ?_)
  refine lv_iconst (v := 0) hx hb dX0_askedInAll_2 (by decide) ?_
  refine lv_istore_n (lv' := [(3, .int (0)), (2, .int (0)), (0, .ref (φ 5)), (1, .int (a1))]) hx hb dX0_askedInAll_3 rfl hl (by decide) rfl (fun ls hl => ?_)
  refine L4 _ _ _ _ _ _ _ hP hS (lv_sub hl [2, 3, 1, 0] rfl)  h

def f_X0_isNeglected (M : Mem) (a1 : Int32) : Option (Int32) :=
  (if ibd (a1) 4 then (if (M 10 (Int32.toNatClampNeg (a1))) = 0 then (Option.bind (f_X0_askedInAll M (a1)) fun r_3 => (if r_3 ≤ 0 then some (0) else some (1))) else some (0)) else none)
set_option maxRecDepth 100000 in
set_option maxHeartbeats 4000000 in
theorem c_X0_isNeglected (l : Launch) {G : GT} {φ : Nat → Nat} {n : Nat} {M : Mem} {a1 : Int32} (hI : wI φ n) (hn : 107 ≤ n) {r : Int32} (h : f_X0_isNeglected M a1 = some r) : CT l yX0_isNeglected cX0_isNeglected 2 (some .boolean) ({ frames := 1, cells := 0, slots := 0, locals := 23 } : Room) [.ref (φ 5), .int (a1)] (WB (cX G φ) φ M n G) (some (.int r)) (WB (cX G φ) φ (M) n G) φ n := by
  unfold f_X0_isNeglected at h
  refine r_start (plainFor_of_name (by decide)) (Nat.le_of_ble_eq_true rfl) hI ?_
  intro p e s m args below meth c ls X hr hlk hP hl
  have hS : va_S (wA φ n s.heap.size) s.heap s.heap [] := va_S.rf
  have hx := X.1.1
  have hb := X.1.2.1
  have hl : lv_has ls 2 [(0, .ref (φ 5)), (1, .int (a1))] := hl
  refine lv_aload_n hx hb dX0_isNeglected_0 rfl (lv_at hl 0 rfl) ?_
  refine G_X0_30 X.1 hn hP dX0_isNeglected_1 ?_
  refine lv_iload_n hx hb dX0_isNeglected_4 rfl (lv_at hl 1 rfl) ?_
  obtain ⟨c_1, h⟩ := og h
  refine r_iald (k := (Int32.toNatClampNeg (a1))) X.1 hP (by omega) sX_timesInAll rfl (vin c_1) dX0_isNeglected_5 ?_
  refine lv_if_ne (tgt := 21) hx hb dX0_isNeglected_6 (by decide) (fun c_2 => ?_) (fun c_2 => ?_)
  · rw [if_neg c_2] at h
    refine lv_iconst (v := 0) hx hb dX0_isNeglected_21 (by decide) ?_
    obtain rfl := Option.some.inj h
    exact W.zret (v := 0) (ty := .boolean) hx hb hr rfl (r_end X hP hS) hS.2.2 dX0_isNeglected_22 (hlocks := hlk)
  · rw [if_pos c_2] at h
    refine lv_aload_n hx hb dX0_isNeglected_9 rfl (lv_at hl 0 rfl) ?_
    refine lv_iload_n hx hb dX0_isNeglected_10 rfl (lv_at hl 1 rfl) ?_
    obtain ⟨r_3, hr_3, h⟩ := ob h
    refine c_V0 (As := [.int (a1)]) (rest := []) (a := 5) X hl.1 (c_X0_askedInAll l X.2.2.2.1.1 hn hr_3) (w_X0_108) qw_767 qw_28 ⟨Nat.le_of_ble_eq_true rfl, Nat.le_of_ble_eq_true rfl⟩ rfl rfl hP hS (by omega) sX_Course rfl rfl (Nat.le_of_ble_eq_true rfl) dX0_isNeglected_11 (fun H locs hP hS => ?_)
    refine lv_if_le (tgt := 21) hx hb dX0_isNeglected_14 (by decide) (fun c_4 => ?_) (fun c_4 => ?_)
    · rw [if_pos c_4] at h
      refine lv_iconst (v := 0) hx hb dX0_isNeglected_21 (by decide) ?_
      obtain rfl := Option.some.inj h
      exact W.zret (v := 0) (ty := .boolean) hx hb hr rfl (r_end X hP hS) hS.2.2 dX0_isNeglected_22 (hlocks := hlk)
    · rw [if_neg c_4] at h
      refine lv_iconst (v := 1) hx hb dX0_isNeglected_17 (by decide) ?_
      refine lv_goto (tgt := 22) hx hb dX0_isNeglected_18 (by decide) ?_
      obtain rfl := Option.some.inj h
      exact W.zret (v := 1) (ty := .boolean) hx hb hr rfl (r_end X hP hS) hS.2.2 dX0_isNeglected_22 (hlocks := hlk)

def f_J9_min_7cf53 (a1 : Int32) (a2 : Int32) : Int32 :=
  (if a2 < a1 then a2 else a1)
set_option maxRecDepth 100000 in
set_option maxHeartbeats 4000000 in
theorem c_J9_min_7cf53 (l : Launch) {G : GT} {φ : Nat → Nat} {n : Nat} {M : Mem} {sh : ShT} {a1 : Int32} {a2 : Int32} (hI : wI φ n) {r : Int32} (h : f_J9_min_7cf53 a1 a2 = r) : CT l yJ9_min_7cf53 cJ9_min_7cf53 2 (some .int) ({ frames := 0, cells := 0, slots := 0, locals := 0 } : Room) [.int (a1), .int (a2)] (WB (sh) φ M n G) (some (.int r)) (WB (sh) φ (M) n G) φ n := by
  unfold f_J9_min_7cf53 at h
  refine r_start (by decide +kernel) (Nat.le_of_ble_eq_true rfl) hI ?_
  intro p e s m args below meth c ls X hr hlk hP hl
  have hS : va_S (wA φ n s.heap.size) s.heap s.heap [] := va_S.rf
  have hx := X.1.1
  have hb := X.1.2.1
  have hl : lv_has ls 2 [(0, .int (a1)), (1, .int (a2))] := hl
  refine lv_iload_n hx hb dJ9_min_7cf53_0 rfl (lv_at hl 0 rfl) ?_
  refine lv_iload_n hx hb dJ9_min_7cf53_1 rfl (lv_at hl 1 rfl) ?_
  refine lv_icmp_gt (tgt := 9) hx hb dJ9_min_7cf53_2 (by decide) (fun c_1 => ?_) (fun c_1 => ?_)
  · rw [if_pos c_1] at h
    refine lv_iload_n hx hb dJ9_min_7cf53_9 rfl (lv_at hl 1 rfl) ?_
    subst h
    exact W.iret hx hb hr (r_end X hP hS) hS.2.2 dJ9_min_7cf53_10 (hlocks := hlk)
  · rw [if_neg c_1] at h
    refine lv_iload_n hx hb dJ9_min_7cf53_5 rfl (lv_at hl 0 rfl) ?_
    refine lv_goto (tgt := 10) hx hb dJ9_min_7cf53_6 (by decide) ?_
    subst h
    exact W.iret hx hb hr (r_end X hP hS) hS.2.2 dJ9_min_7cf53_10 (hlocks := hlk)

def f_J9_max_7cf53 (a1 : Int32) (a2 : Int32) : Int32 :=
  (if a1 < a2 then a2 else a1)
set_option maxRecDepth 100000 in
set_option maxHeartbeats 4000000 in
theorem c_J9_max_7cf53 (l : Launch) {G : GT} {φ : Nat → Nat} {n : Nat} {M : Mem} {sh : ShT} {a1 : Int32} {a2 : Int32} (hI : wI φ n) {r : Int32} (h : f_J9_max_7cf53 a1 a2 = r) : CT l yJ9_max_7cf53 cJ9_max_7cf53 2 (some .int) ({ frames := 0, cells := 0, slots := 0, locals := 0 } : Room) [.int (a1), .int (a2)] (WB (sh) φ M n G) (some (.int r)) (WB (sh) φ (M) n G) φ n := by
  unfold f_J9_max_7cf53 at h
  refine r_start (by decide +kernel) (Nat.le_of_ble_eq_true rfl) hI ?_
  intro p e s m args below meth c ls X hr hlk hP hl
  have hS : va_S (wA φ n s.heap.size) s.heap s.heap [] := va_S.rf
  have hx := X.1.1
  have hb := X.1.2.1
  have hl : lv_has ls 2 [(0, .int (a1)), (1, .int (a2))] := hl
  refine lv_iload_n hx hb dJ9_max_7cf53_0 rfl (lv_at hl 0 rfl) ?_
  refine lv_iload_n hx hb dJ9_max_7cf53_1 rfl (lv_at hl 1 rfl) ?_
  refine lv_icmp_lt (tgt := 9) hx hb dJ9_max_7cf53_2 (by decide) (fun c_1 => ?_) (fun c_1 => ?_)
  · rw [if_pos c_1] at h
    refine lv_iload_n hx hb dJ9_max_7cf53_9 rfl (lv_at hl 1 rfl) ?_
    subst h
    exact W.iret hx hb hr (r_end X hP hS) hS.2.2 dJ9_max_7cf53_10 (hlocks := hlk)
  · rw [if_neg c_1] at h
    refine lv_iload_n hx hb dJ9_max_7cf53_5 rfl (lv_at hl 0 rfl) ?_
    refine lv_goto (tgt := 10) hx hb dJ9_max_7cf53_6 (by decide) ?_
    subst h
    exact W.iret hx hb hr (r_end X hP hS) hS.2.2 dJ9_max_7cf53_10 (hlocks := hlk)

def f_X0_careFor_4 (M_4 : Mem) (x1_1 : Int32) : Nat → Int32 → Int32 → Option (Int32 × Mem)
  | 0, _, _ => none
  | fu_5 + 1, x2_2, x3_3 => (if (M_4 1 4) ≤ x3_3 then (Option.bind (f_X0_askedInAll (upd2 (upd2 (upd2 M_4 17 2 (48)) 17 3 (0)) 17 4 (0)) (x1_1)) fun r_7 => (Option.bind (f_X0_says (upd2 (upd2 (upd2 M_4 17 2 (48)) 17 3 (0)) 17 4 (0)) (2) (r_7) (x2_2) (x1_1)) fun r_8 => some (((f_J9_max_7cf53 (0) ((f_J9_min_7cf53 (99) (r_8.1)))), r_8.2)))) else (if ibd (x3_3) 10 then (if (M_4 (30 + (Int32.toNatClampNeg (x3_3))) 2) = x1_1 then (if ibd (x3_3) 10 then (f_X0_careFor_4 M_4 x1_1 fu_5 ((x2_2 + (M_4 (30 + (Int32.toNatClampNeg (x3_3))) 7))) ((x3_3 + 1))) else none) else (f_X0_careFor_4 M_4 x1_1 fu_5 (x2_2) ((x3_3 + 1)))) else none))
def f_X0_careFor (M : Mem) (a1 : Int32) : Option (Int32 × Mem) :=
  (f_X0_careFor_4 M (a1) FU (0) (0))
set_option maxRecDepth 100000 in
set_option maxHeartbeats 4000000 in
theorem c_X0_careFor (l : Launch) {G : GT} {φ : Nat → Nat} {n : Nat} {M : Mem} {a1 : Int32} (hI : wI φ n) (hn : 107 ≤ n) {r : Int32 × Mem} (h : f_X0_careFor M a1 = some r) : CT l yX0_careFor cX0_careFor 4 (some .int) ({ frames := 3, cells := 0, slots := 0, locals := 72 } : Room) [.ref (φ 5), .int (a1)] (WB (cX G φ) φ M n G) (some (.int r.1)) (WB (cX G φ) φ (r.2) n G) φ n := by
  unfold f_X0_careFor at h
  refine r_start (plainFor_of_name (by decide)) (Nat.le_of_ble_eq_true rfl) hI ?_
  intro p e s m args below meth c ls X hr hlk hP hl
  have hS : va_S (wA φ n s.heap.size) s.heap s.heap [] := va_S.rf
  have hx := X.1.1
  have hb := X.1.2.1
  have hl : lv_has ls 4 [(0, .ref (φ 5)), (1, .int (a1))] := hl
  have L4 : ∀ (fu_5 : Nat) (M_4 : Mem) (x1_1 : Int32) (x2_2 : Int32) (x3_3 : Int32)  (H : Heap) (locs : List Loc) (ls : Array Slot), va_P G.1 vwCl (wW (cX G φ) φ M_4 n) H → va_S (wA φ n s.heap.size) s.heap H locs → lv_has ls 4 [(0, .ref (φ 5)), (1, .int (x1_1)), (2, .int (x2_2)), (3, .int (x3_3))] → f_X0_careFor_4 M_4 x1_1 fu_5 x2_2 x3_3 = some r → W p l e ({ frames := 3, cells := 0, slots := 0, locals := 72 } : Room) s m args below meth c H locs 0 0 (MQ below (QQ (some (.int r.1)) (WB (cX G φ) φ (r.2) n G) (wA φ n s.heap.size)) args s 0 0 (wA φ n s.heap.size)) (F0 m 4 ls []) := by
    intro fu_5
    induction fu_5 with
    | zero =>
      intro M_4 x1_1 x2_2 x3_3 H locs ls _ _ _  h
      have h : (none : Option (Int32 × Mem)) = some r := h
      cases h
    | succ fu_5 ih =>
      intro M_4 x1_1 x2_2 x3_3 H locs ls hP hS hl  h
      rw [f_X0_careFor_4] at h
      refine lv_iload_n hx hb dX0_careFor_4 rfl (lv_at hl 3 rfl) ?_
      refine lv_aload_n hx hb dX0_careFor_5 rfl (lv_at hl 0 rfl) ?_
      refine G_X0_63 X.1 hn hP dX0_careFor_6 ?_
      refine G_X0_117 X.1 hn hP dX0_careFor_9 ?_
      refine lv_icmp_ge (tgt := 52) hx hb dX0_careFor_12 (by decide) (fun c_6 => ?_) (fun c_6 => ?_)
      · rw [if_pos c_6] at h
        refine lv_aload_n hx hb dX0_careFor_52 rfl (lv_at hl 0 rfl) ?_
        refine G_X0_51 X.1 hn hP dX0_careFor_53 ?_
        refine lv_iconst (v := 2) hx hb dX0_careFor_56 (by decide) ?_
        refine lv_bipush (v := 48) hx hb dX0_careFor_57 (by decide) ?_
        refine r_iast (k := 2) X.1 X.2.2.2.1 hP hS (by omega) sX_facts (by decide) (vin (by decide)) dX0_careFor_59 (fun H locs hP hS => ?_)
        refine lv_aload_n hx hb dX0_careFor_60 rfl (lv_at hl 0 rfl) ?_
        refine G_X0_51 X.1 hn hP dX0_careFor_61 ?_
        refine lv_iconst (v := 3) hx hb dX0_careFor_64 (by decide) ?_
        refine lv_iconst (v := 0) hx hb dX0_careFor_65 (by decide) ?_
        refine r_iast (k := 3) X.1 X.2.2.2.1 hP hS (by omega) sX_facts (by decide) (vin (by decide)) dX0_careFor_66 (fun H locs hP hS => ?_)
        refine lv_aload_n hx hb dX0_careFor_67 rfl (lv_at hl 0 rfl) ?_
        refine G_X0_51 X.1 hn hP dX0_careFor_68 ?_
        refine lv_iconst (v := 4) hx hb dX0_careFor_71 (by decide) ?_
        refine lv_iconst (v := 0) hx hb dX0_careFor_72 (by decide) ?_
        refine r_iast (k := 4) X.1 X.2.2.2.1 hP hS (by omega) sX_facts (by decide) (vin (by decide)) dX0_careFor_73 (fun H locs hP hS => ?_)
        refine lv_aload_n hx hb dX0_careFor_74 rfl (lv_at hl 0 rfl) ?_
        refine lv_iconst (v := 2) hx hb dX0_careFor_75 (by decide) ?_
        refine lv_aload_n hx hb dX0_careFor_76 rfl (lv_at hl 0 rfl) ?_
        refine lv_iload_n hx hb dX0_careFor_77 rfl (lv_at hl 1 rfl) ?_
        obtain ⟨r_7, hr_7, h⟩ := ob h
        refine c_V0 (As := [.int (x1_1)]) (rest := [.int (2), .ref (φ 5)]) (a := 5) X hl.1 (c_X0_askedInAll l X.2.2.2.1.1 hn hr_7) (w_X0_108) qw_767 qw_28 ⟨Nat.le_of_ble_eq_true rfl, Nat.le_of_ble_eq_true rfl⟩ rfl rfl hP hS (by omega) sX_Course rfl rfl (Nat.le_of_ble_eq_true rfl) dX0_careFor_78 (fun H locs hP hS => ?_)
        refine lv_iload_n hx hb dX0_careFor_81 rfl (lv_at hl 2 rfl) ?_
        refine lv_iload_n hx hb dX0_careFor_82 rfl (lv_at hl 1 rfl) ?_
        obtain ⟨r_8, hr_8, h⟩ := ob h
        refine c_V0 (As := [.int (2), .int (r_7), .int (x2_2), .int (x1_1)]) (rest := []) (a := 5) X hl.1 (c_X0_says l X.2.2.2.1.1 hn hr_8) (w_X0_142) qw_720 qw_26 ⟨Nat.le_of_ble_eq_true rfl, Nat.le_of_ble_eq_true rfl⟩ rfl rfl hP hS (by omega) sX_Course rfl rfl (Nat.le_of_ble_eq_true rfl) dX0_careFor_83 (fun H locs hP hS => ?_)
        refine lv_istore_n (lv' := [(3, .int (r_8.1)), (0, .ref (φ 5)), (1, .int (x1_1)), (2, .int (x2_2))]) hx hb dX0_careFor_86 rfl hl (by decide) rfl (fun ls hl => ?_)
        refine lv_iconst (v := 0) hx hb dX0_careFor_87 (by decide) ?_
        refine lv_bipush (v := 99) hx hb dX0_careFor_88 (by decide) ?_
        refine lv_iload_n hx hb dX0_careFor_90 rfl (lv_at hl 0 rfl) ?_
        refine c_S0 (As := [.int (99), .int (r_8.1)]) (rest := [.int (0)]) X hl.1 (c_J9_min_7cf53 l X.2.2.2.1.1 rfl) (w_X0_158) qw_783 ⟨Nat.le_of_ble_eq_true rfl, Nat.le_of_ble_eq_true rfl⟩ rfl rfl hP hS (Nat.le_of_ble_eq_true rfl) dX0_careFor_91 (fun H locs hP hS => ?_)
        refine c_S0 (As := [.int (0), .int ((f_J9_min_7cf53 (99) (r_8.1)))]) (rest := []) X hl.1 (c_J9_max_7cf53 l X.2.2.2.1.1 rfl) (w_X0_102) qw_624 ⟨Nat.le_of_ble_eq_true rfl, Nat.le_of_ble_eq_true rfl⟩ rfl rfl hP hS (Nat.le_of_ble_eq_true rfl) dX0_careFor_94 (fun H locs hP hS => ?_)
        obtain rfl := Option.some.inj h
        exact W.iret hx hb hr (r_end X hP hS) hS.2.2 dX0_careFor_97 (hlocks := hlk)
      · rw [if_neg c_6] at h
        refine lv_aload_n hx hb dX0_careFor_15 rfl (lv_at hl 0 rfl) ?_
        refine G_X0_63 X.1 hn hP dX0_careFor_16 ?_
        refine G_X0_124 X.1 hn hP dX0_careFor_19 ?_
        refine lv_iload_n hx hb dX0_careFor_22 rfl (lv_at hl 3 rfl) ?_
        obtain ⟨c_9, h⟩ := og h
        refine r_aald (t0 := 3) (k := (Int32.toNatClampNeg (x3_3))) X.1 hP rfl rfl (by omega) sX_slips rfl (vin c_9) dX0_careFor_23 ?_
        have hj_10 : (Int32.toNatClampNeg (x3_3)) < 10 := ibd_lt c_9
        refine G_X0_155 X.1 hn hP hj_10 dX0_careFor_24 ?_
        refine lv_iload_n hx hb dX0_careFor_27 rfl (lv_at hl 1 rfl) ?_
        refine lv_icmp_ne (tgt := 46) hx hb dX0_careFor_28 (by decide) (fun c_11 => ?_) (fun c_11 => ?_)
        · rw [if_neg c_11] at h
          refine lv_iinc (v := (x3_3 + 1)) (lv' := [(3, .int ((x3_3 + 1))), (0, .ref (φ 5)), (1, .int (x1_1)), (2, .int (x2_2))]) hx hb dX0_careFor_46 hl (k := 3) rfl (by rw [show Int32.ofInt (1) = 1 from by decide]) (by decide) rfl (fun ls hl => ?_)
          refine lv_goto (tgt := 4) hx hb dX0_careFor_49 (by decide) ?_
          exact ih _ _ _ _ _ _ _ hP hS (lv_sub hl [1, 2, 3, 0] rfl)  h
        · rw [if_pos c_11] at h
          refine lv_iload_n hx hb dX0_careFor_31 rfl (lv_at hl 2 rfl) ?_
          refine lv_aload_n hx hb dX0_careFor_32 rfl (lv_at hl 0 rfl) ?_
          refine G_X0_63 X.1 hn hP dX0_careFor_33 ?_
          refine G_X0_124 X.1 hn hP dX0_careFor_36 ?_
          refine lv_iload_n hx hb dX0_careFor_39 rfl (lv_at hl 3 rfl) ?_
          obtain ⟨c_12, h⟩ := og h
          refine r_aald (t0 := 3) (k := (Int32.toNatClampNeg (x3_3))) X.1 hP rfl rfl (by omega) sX_slips rfl (vin c_12) dX0_careFor_40 ?_
          have hj_13 : (Int32.toNatClampNeg (x3_3)) < 10 := ibd_lt c_12
          refine G_X0_152 X.1 hn hP hj_13 dX0_careFor_41 ?_
          refine lv_iadd hx hb dX0_careFor_44 ?_
          refine lv_istore_n (lv' := [(2, .int ((x2_2 + (M_4 (30 + (Int32.toNatClampNeg (x3_3))) 7)))), (0, .ref (φ 5)), (1, .int (x1_1)), (3, .int (x3_3))]) hx hb dX0_careFor_45 rfl hl (by decide) rfl (fun ls hl => ?_)
          refine lv_iinc (v := (x3_3 + 1)) (lv' := [(3, .int ((x3_3 + 1))), (2, .int ((x2_2 + (M_4 (30 + (Int32.toNatClampNeg (x3_3))) 7)))), (0, .ref (φ 5)), (1, .int (x1_1))]) hx hb dX0_careFor_46 hl (k := 3) rfl (by rw [show Int32.ofInt (1) = 1 from by decide]) (by decide) rfl (fun ls hl => ?_)
          refine lv_goto (tgt := 4) hx hb dX0_careFor_49 (by decide) ?_
          exact ih _ _ _ _ _ _ _ hP hS (lv_sub hl [2, 3, 1, 0] rfl)  h
  refine lv_iconst (v := 0) hx hb dX0_careFor_0 (by decide) ?_
  refine lv_istore_n (lv' := [(2, .int (0)), (0, .ref (φ 5)), (1, .int (a1))]) hx hb dX0_careFor_1 rfl hl (by decide) rfl (fun ls hl => ?_)
  refine lv_iconst (v := 0) hx hb dX0_careFor_2 (by decide) ?_
  refine lv_istore_n (lv' := [(3, .int (0)), (2, .int (0)), (0, .ref (φ 5)), (1, .int (a1))]) hx hb dX0_careFor_3 rfl hl (by decide) rfl (fun ls hl => ?_)
  refine L4 _ _ _ _ _ _ _ _ hP hS (lv_sub hl [2, 3, 1, 0] rfl)  h

def f_X0_harmDone_4 : Nat → Int32 → Int32 → Mem → Option (Int32 × Mem)
  | 0, _, _, _ => none
  | fu_4 + 1, x1_1, x2_2, M_3 => (if 4 ≤ x2_2 then some ((x1_1, M_3)) else (Option.bind (f_X0_isNeglected M_3 (x2_2)) fun r_6 => (if r_6 = 0 then (if ibd (x2_2) 4 then (f_X0_harmDone_4 fu_4 ((x1_1 + (f_J9_max_7cf53 (0) (((M_3 10 (Int32.toNatClampNeg (x2_2))) - 1))))) ((x2_2 + 1)) M_3) else none) else (Option.bind (f_X0_careFor M_3 (x2_2)) fun r_9 => (if ibd (x2_2) 4 then (f_X0_harmDone_4 fu_4 (((x1_1 + r_9.1) + (f_J9_max_7cf53 (0) (((r_9.2 10 (Int32.toNatClampNeg (x2_2))) - 1))))) ((x2_2 + 1)) r_9.2) else none)))))
def f_X0_harmDone (M : Mem) : Option (Int32 × Mem) :=
  (f_X0_harmDone_4 FU (0) (0) M)
set_option maxRecDepth 100000 in
set_option maxHeartbeats 4000000 in
theorem c_X0_harmDone (l : Launch) {G : GT} {φ : Nat → Nat} {n : Nat} {M : Mem} (hI : wI φ n) (hn : 107 ≤ n) {r : Int32 × Mem} (h : f_X0_harmDone M = some r) : CT l yX0_harmDone cX0_harmDone 3 (some .int) ({ frames := 4, cells := 0, slots := 0, locals := 95 } : Room) [.ref (φ 5)] (WB (cX G φ) φ M n G) (some (.int r.1)) (WB (cX G φ) φ (r.2) n G) φ n := by
  unfold f_X0_harmDone at h
  refine r_start (plainFor_of_name (by decide)) (Nat.le_of_ble_eq_true rfl) hI ?_
  intro p e s m args below meth c ls X hr hlk hP hl
  have hS : va_S (wA φ n s.heap.size) s.heap s.heap [] := va_S.rf
  have hx := X.1.1
  have hb := X.1.2.1
  have hl : lv_has ls 3 [(0, .ref (φ 5))] := hl
  have L4 : ∀ (fu_4 : Nat) (M_3 : Mem) (x1_1 : Int32) (x2_2 : Int32)  (H : Heap) (locs : List Loc) (ls : Array Slot), va_P G.1 vwCl (wW (cX G φ) φ M_3 n) H → va_S (wA φ n s.heap.size) s.heap H locs → lv_has ls 3 [(0, .ref (φ 5)), (1, .int (x1_1)), (2, .int (x2_2))] → f_X0_harmDone_4 fu_4 x1_1 x2_2 M_3 = some r → W p l e ({ frames := 4, cells := 0, slots := 0, locals := 95 } : Room) s m args below meth c H locs 0 0 (MQ below (QQ (some (.int r.1)) (WB (cX G φ) φ (r.2) n G) (wA φ n s.heap.size)) args s 0 0 (wA φ n s.heap.size)) (F0 m 4 ls []) := by
    intro fu_4
    induction fu_4 with
    | zero =>
      intro M_3 x1_1 x2_2 H locs ls _ _ _  h
      have h : (none : Option (Int32 × Mem)) = some r := h
      cases h
    | succ fu_4 ih =>
      intro M_3 x1_1 x2_2 H locs ls hP hS hl  h
      rw [f_X0_harmDone_4] at h
      refine lv_iload_n hx hb dX0_harmDone_4 rfl (lv_at hl 2 rfl) ?_
      refine lv_iconst (v := 4) hx hb dX0_harmDone_5 (by decide) ?_
      refine lv_icmp_ge (tgt := 46) hx hb dX0_harmDone_6 (by decide) (fun c_5 => ?_) (fun c_5 => ?_)
      · rw [if_pos c_5] at h
        refine lv_iload_n hx hb dX0_harmDone_46 rfl (lv_at hl 1 rfl) ?_
        obtain rfl := Option.some.inj h
        exact W.iret hx hb hr (r_end X hP hS) hS.2.2 dX0_harmDone_47 (hlocks := hlk)
      · rw [if_neg c_5] at h
        refine lv_aload_n hx hb dX0_harmDone_9 rfl (lv_at hl 0 rfl) ?_
        refine lv_iload_n hx hb dX0_harmDone_10 rfl (lv_at hl 2 rfl) ?_
        obtain ⟨r_6, hr_6, h⟩ := ob h
        refine c_V0 (As := [.int (x2_2)]) (rest := []) (a := 5) X hl.1 (c_X0_isNeglected l X.2.2.2.1.1 hn hr_6) (w_X0_96) qw_762 qw_763 ⟨Nat.le_of_ble_eq_true rfl, Nat.le_of_ble_eq_true rfl⟩ rfl rfl hP hS (by omega) sX_Course rfl rfl (Nat.le_of_ble_eq_true rfl) dX0_harmDone_11 (fun H locs hP hS => ?_)
        refine lv_if_eq (tgt := 25) hx hb dX0_harmDone_14 (by decide) (fun c_7 => ?_) (fun c_7 => ?_)
        · rw [if_pos c_7] at h
          refine lv_iload_n hx hb dX0_harmDone_25 rfl (lv_at hl 1 rfl) ?_
          refine lv_iconst (v := 0) hx hb dX0_harmDone_26 (by decide) ?_
          refine lv_aload_n hx hb dX0_harmDone_27 rfl (lv_at hl 0 rfl) ?_
          refine G_X0_30 X.1 hn hP dX0_harmDone_28 ?_
          refine lv_iload_n hx hb dX0_harmDone_31 rfl (lv_at hl 2 rfl) ?_
          obtain ⟨c_8, h⟩ := og h
          refine r_iald (k := (Int32.toNatClampNeg (x2_2))) X.1 hP (by omega) sX_timesInAll rfl (vin c_8) dX0_harmDone_32 ?_
          refine lv_iconst (v := 1) hx hb dX0_harmDone_33 (by decide) ?_
          refine lv_isub hx hb dX0_harmDone_34 ?_
          refine c_S0 (As := [.int (0), .int (((M_3 10 (Int32.toNatClampNeg (x2_2))) - 1))]) (rest := [.int (x1_1)]) X hl.1 (c_J9_max_7cf53 l X.2.2.2.1.1 rfl) (w_X0_102) qw_624 ⟨Nat.le_of_ble_eq_true rfl, Nat.le_of_ble_eq_true rfl⟩ rfl rfl hP hS (Nat.le_of_ble_eq_true rfl) dX0_harmDone_35 (fun H locs hP hS => ?_)
          refine lv_iadd hx hb dX0_harmDone_38 ?_
          refine lv_istore_n (lv' := [(1, .int ((x1_1 + (f_J9_max_7cf53 (0) (((M_3 10 (Int32.toNatClampNeg (x2_2))) - 1)))))), (0, .ref (φ 5)), (2, .int (x2_2))]) hx hb dX0_harmDone_39 rfl hl (by decide) rfl (fun ls hl => ?_)
          refine lv_iinc (v := (x2_2 + 1)) (lv' := [(2, .int ((x2_2 + 1))), (1, .int ((x1_1 + (f_J9_max_7cf53 (0) (((M_3 10 (Int32.toNatClampNeg (x2_2))) - 1)))))), (0, .ref (φ 5))]) hx hb dX0_harmDone_40 hl (k := 2) rfl (by rw [show Int32.ofInt (1) = 1 from by decide]) (by decide) rfl (fun ls hl => ?_)
          refine lv_goto (tgt := 4) hx hb dX0_harmDone_43 (by decide) ?_
          exact ih _ _ _ _ _ _ hP hS (lv_sub hl [2, 1, 0] rfl)  h
        · rw [if_neg c_7] at h
          refine lv_iload_n hx hb dX0_harmDone_17 rfl (lv_at hl 1 rfl) ?_
          refine lv_aload_n hx hb dX0_harmDone_18 rfl (lv_at hl 0 rfl) ?_
          refine lv_iload_n hx hb dX0_harmDone_19 rfl (lv_at hl 2 rfl) ?_
          obtain ⟨r_9, hr_9, h⟩ := ob h
          refine c_V0 (As := [.int (x2_2)]) (rest := [.int (x1_1)]) (a := 5) X hl.1 (c_X0_careFor l X.2.2.2.1.1 hn hr_9) (w_X0_99) qw_780 qw_29 ⟨Nat.le_of_ble_eq_true rfl, Nat.le_of_ble_eq_true rfl⟩ rfl rfl hP hS (by omega) sX_Course rfl rfl (Nat.le_of_ble_eq_true rfl) dX0_harmDone_20 (fun H locs hP hS => ?_)
          refine lv_iadd hx hb dX0_harmDone_23 ?_
          refine lv_istore_n (lv' := [(1, .int ((x1_1 + r_9.1))), (0, .ref (φ 5)), (2, .int (x2_2))]) hx hb dX0_harmDone_24 rfl hl (by decide) rfl (fun ls hl => ?_)
          refine lv_iload_n hx hb dX0_harmDone_25 rfl (lv_at hl 0 rfl) ?_
          refine lv_iconst (v := 0) hx hb dX0_harmDone_26 (by decide) ?_
          refine lv_aload_n hx hb dX0_harmDone_27 rfl (lv_at hl 1 rfl) ?_
          refine G_X0_30 X.1 hn hP dX0_harmDone_28 ?_
          refine lv_iload_n hx hb dX0_harmDone_31 rfl (lv_at hl 2 rfl) ?_
          obtain ⟨c_10, h⟩ := og h
          refine r_iald (k := (Int32.toNatClampNeg (x2_2))) X.1 hP (by omega) sX_timesInAll rfl (vin c_10) dX0_harmDone_32 ?_
          refine lv_iconst (v := 1) hx hb dX0_harmDone_33 (by decide) ?_
          refine lv_isub hx hb dX0_harmDone_34 ?_
          refine c_S0 (As := [.int (0), .int (((r_9.2 10 (Int32.toNatClampNeg (x2_2))) - 1))]) (rest := [.int ((x1_1 + r_9.1))]) X hl.1 (c_J9_max_7cf53 l X.2.2.2.1.1 rfl) (w_X0_102) qw_624 ⟨Nat.le_of_ble_eq_true rfl, Nat.le_of_ble_eq_true rfl⟩ rfl rfl hP hS (Nat.le_of_ble_eq_true rfl) dX0_harmDone_35 (fun H locs hP hS => ?_)
          refine lv_iadd hx hb dX0_harmDone_38 ?_
          refine lv_istore_n (lv' := [(1, .int (((x1_1 + r_9.1) + (f_J9_max_7cf53 (0) (((r_9.2 10 (Int32.toNatClampNeg (x2_2))) - 1)))))), (0, .ref (φ 5)), (2, .int (x2_2))]) hx hb dX0_harmDone_39 rfl hl (by decide) rfl (fun ls hl => ?_)
          refine lv_iinc (v := (x2_2 + 1)) (lv' := [(2, .int ((x2_2 + 1))), (1, .int (((x1_1 + r_9.1) + (f_J9_max_7cf53 (0) (((r_9.2 10 (Int32.toNatClampNeg (x2_2))) - 1)))))), (0, .ref (φ 5))]) hx hb dX0_harmDone_40 hl (k := 2) rfl (by rw [show Int32.ofInt (1) = 1 from by decide]) (by decide) rfl (fun ls hl => ?_)
          refine lv_goto (tgt := 4) hx hb dX0_harmDone_43 (by decide) ?_
          exact ih _ _ _ _ _ _ hP hS (lv_sub hl [2, 1, 0] rfl)  h
  refine lv_iconst (v := 0) hx hb dX0_harmDone_0 (by decide) ?_
  refine lv_istore_n (lv' := [(1, .int (0)), (0, .ref (φ 5))]) hx hb dX0_harmDone_1 rfl hl (by decide) rfl (fun ls hl => ?_)
  refine lv_iconst (v := 0) hx hb dX0_harmDone_2 (by decide) ?_
  refine lv_istore_n (lv' := [(2, .int (0)), (1, .int (0)), (0, .ref (φ 5))]) hx hb dX0_harmDone_3 rfl hl (by decide) rfl (fun ls hl => ?_)
  refine L4 _ _ _ _ _ _ _ hP hS (lv_sub hl [2, 1, 0] rfl)  h

def f_X3_add (M : Mem) (a1 : Int32) (a2 : Int32) : Option (Int32 × Mem) :=
  (if (M 85 2) < 20 then (if ibd ((M 85 2)) 20 then (if ibd (((upd2 M 86 (Int32.toNatClampNeg ((M 85 2))) (a1)) 85 2)) 20 then some ((1, (upd2 (upd2 (upd2 M 86 (Int32.toNatClampNeg ((M 85 2))) (a1)) 87 (Int32.toNatClampNeg (((upd2 M 86 (Int32.toNatClampNeg ((M 85 2))) (a1)) 85 2))) (a2)) 85 2 ((((upd2 (upd2 M 86 (Int32.toNatClampNeg ((M 85 2))) (a1)) 87 (Int32.toNatClampNeg (((upd2 M 86 (Int32.toNatClampNeg ((M 85 2))) (a1)) 85 2))) (a2)) 85 2) + 1))))) else none) else none) else some ((0, M)))
set_option maxRecDepth 100000 in
set_option maxHeartbeats 4000000 in
theorem c_X3_add (l : Launch) {G : GT} {φ : Nat → Nat} {n : Nat} {M : Mem} {a1 : Int32} {a2 : Int32} (hI : wI φ n) (hn : 107 ≤ n) {r : Int32 × Mem} (h : f_X3_add M a1 a2 = some r) : CT l yX3_add cX3_add 3 (some .boolean) ({ frames := 0, cells := 0, slots := 0, locals := 0 } : Room) [.ref (φ 85), .int (a1), .int (a2)] (WB (cX G φ) φ M n G) (some (.int r.1)) (WB (cX G φ) φ (r.2) n G) φ n := by
  unfold f_X3_add at h
  refine r_start (plainFor_of_name (by decide)) (Nat.le_of_ble_eq_true rfl) hI ?_
  intro p e s m args below meth c ls X hr hlk hP hl
  have hS : va_S (wA φ n s.heap.size) s.heap s.heap [] := va_S.rf
  have hx := X.1.1
  have hb := X.1.2.1
  have hl : lv_has ls 3 [(0, .ref (φ 85)), (1, .int (a1)), (2, .int (a2))] := hl
  refine lv_aload_n hx hb dX3_add_0 rfl (lv_at hl 0 rfl) ?_
  refine G_X3_18 X.1 hn hP dX3_add_1 ?_
  refine lv_bipush (v := 20) hx hb dX3_add_4 (by decide) ?_
  refine lv_icmp_lt (tgt := 11) hx hb dX3_add_6 (by decide) (fun c_1 => ?_) (fun c_1 => ?_)
  · rw [if_pos c_1] at h
    refine lv_aload_n hx hb dX3_add_11 rfl (lv_at hl 0 rfl) ?_
    refine G_X3_9 X.1 hn hP dX3_add_12 ?_
    refine lv_aload_n hx hb dX3_add_15 rfl (lv_at hl 0 rfl) ?_
    refine G_X3_18 X.1 hn hP dX3_add_16 ?_
    refine lv_iload_n hx hb dX3_add_19 rfl (lv_at hl 1 rfl) ?_
    obtain ⟨c_2, h⟩ := og h
    refine r_iast (k := (Int32.toNatClampNeg ((M 85 2)))) X.1 X.2.2.2.1 hP hS (by omega) sX_mahead rfl (vin c_2) dX3_add_20 (fun H locs hP hS => ?_)
    refine lv_aload_n hx hb dX3_add_21 rfl (lv_at hl 0 rfl) ?_
    refine G_X3_15 X.1 hn hP dX3_add_22 ?_
    refine lv_aload_n hx hb dX3_add_25 rfl (lv_at hl 0 rfl) ?_
    refine G_X3_18 X.1 hn hP dX3_add_26 ?_
    refine lv_iload_n hx hb dX3_add_29 rfl (lv_at hl 2 rfl) ?_
    obtain ⟨c_3, h⟩ := og h
    refine r_iast (k := (Int32.toNatClampNeg (((upd2 M 86 (Int32.toNatClampNeg ((M 85 2))) (a1)) 85 2)))) X.1 X.2.2.2.1 hP hS (by omega) sX_mbehind rfl (vin c_3) dX3_add_30 (fun H locs hP hS => ?_)
    refine lv_aload_n hx hb dX3_add_31 rfl (lv_at hl 0 rfl) ?_
    refine lv_dup hx hb dX3_add_32 rfl ?_
    refine G_X3_18 X.1 hn hP dX3_add_33 ?_
    refine lv_iconst (v := 1) hx hb dX3_add_36 (by decide) ?_
    refine lv_iadd hx hb dX3_add_37 ?_
    refine P_X3_18 X.1 hn X.2.2.2.1 hP hS dX3_add_38 (fun H locs hP hS => ?_)
    refine lv_iconst (v := 1) hx hb dX3_add_41 (by decide) ?_
    obtain rfl := Option.some.inj h
    exact W.zret (v := 1) (ty := .boolean) hx hb hr rfl (r_end X hP hS) hS.2.2 dX3_add_42 (hlocks := hlk)
  · rw [if_neg c_1] at h
    refine lv_iconst (v := 0) hx hb dX3_add_9 (by decide) ?_
    obtain rfl := Option.some.inj h
    exact W.zret (v := 0) (ty := .boolean) hx hb hr rfl (r_end X hP hS) hS.2.2 dX3_add_10 (hlocks := hlk)

def f_X3_waysOf_5 (M : Mem) (x1_1 : Int32) (x2_2 : Int32) : Nat → Int32 → Int32 → Option (Int32)
  | 0, _, _ => none
  | fu_5 + 1, x3_3, x4_4 => (if x2_2 ≤ x4_4 then some (x3_3) else (if (((x1_1 : Int32) >>> (x4_4 &&& 31)) &&& 1) = 0 then (f_X3_waysOf_5 M x1_1 x2_2 fu_5 (x3_3) ((x4_4 + 1))) else (if ibd (x4_4) 10 then (if ((M 88 (Int32.toNatClampNeg (x4_4))) &&& (x1_1 ^^^ (-1))) = 0 then (if ibd ((x1_1 &&& (((1 : Int32) <<< (x4_4 &&& 31)) ^^^ (-1)))) 1024 then (f_X3_waysOf_5 M x1_1 x2_2 fu_5 ((x3_3 + (M 89 (Int32.toNatClampNeg ((x1_1 &&& (((1 : Int32) <<< (x4_4 &&& 31)) ^^^ (-1)))))))) ((x4_4 + 1))) else none) else (f_X3_waysOf_5 M x1_1 x2_2 fu_5 (x3_3) ((x4_4 + 1)))) else none)))
def f_X3_waysOf (M : Mem) (a1 : Int32) (a2 : Int32) : Option (Int32) :=
  (f_X3_waysOf_5 M (a1) (a2) FU (0) (0))
set_option maxRecDepth 100000 in
set_option maxHeartbeats 4000000 in
theorem c_X3_waysOf (l : Launch) {G : GT} {φ : Nat → Nat} {n : Nat} {M : Mem} {a1 : Int32} {a2 : Int32} (hI : wI φ n) (hn : 107 ≤ n) {r : Int32} (h : f_X3_waysOf M a1 a2 = some r) : CT l yX3_waysOf cX3_waysOf 5 (some .int) ({ frames := 0, cells := 0, slots := 0, locals := 0 } : Room) [.ref (φ 85), .int (a1), .int (a2)] (WB (cX G φ) φ M n G) (some (.int r)) (WB (cX G φ) φ (M) n G) φ n := by
  unfold f_X3_waysOf at h
  refine r_start (plainFor_of_name (by decide)) (Nat.le_of_ble_eq_true rfl) hI ?_
  intro p e s m args below meth c ls X hr hlk hP hl
  have hS : va_S (wA φ n s.heap.size) s.heap s.heap [] := va_S.rf
  have hx := X.1.1
  have hb := X.1.2.1
  have hl : lv_has ls 5 [(0, .ref (φ 85)), (1, .int (a1)), (2, .int (a2))] := hl
  have L5 : ∀ (fu_5 : Nat) (x1_1 : Int32) (x2_2 : Int32) (x3_3 : Int32) (x4_4 : Int32)  (H : Heap) (locs : List Loc) (ls : Array Slot), va_P G.1 vwCl (wW (cX G φ) φ M n) H → va_S (wA φ n s.heap.size) s.heap H locs → lv_has ls 5 [(0, .ref (φ 85)), (1, .int (x1_1)), (2, .int (x2_2)), (3, .int (x3_3)), (4, .int (x4_4))] → f_X3_waysOf_5 M x1_1 x2_2 fu_5 x3_3 x4_4 = some r → W p l e ({ frames := 0, cells := 0, slots := 0, locals := 0 } : Room) s m args below meth c H locs 0 0 (MQ below (QQ (some (.int r)) (WB (cX G φ) φ (M) n G) (wA φ n s.heap.size)) args s 0 0 (wA φ n s.heap.size)) (F0 m 5 ls []) := by
    intro fu_5
    induction fu_5 with
    | zero =>
      intro x1_1 x2_2 x3_3 x4_4 H locs ls _ _ _  h
      have h : (none : Option (Int32)) = some r := h
      cases h
    | succ fu_5 ih =>
      intro x1_1 x2_2 x3_3 x4_4 H locs ls hP hS hl  h
      rw [f_X3_waysOf_5] at h
      refine lv_iload hx hb dX3_waysOf_5 (lv_at hl 4 rfl) ?_
      refine lv_iload_n hx hb dX3_waysOf_7 rfl (lv_at hl 2 rfl) ?_
      refine lv_icmp_ge (tgt := 56) hx hb dX3_waysOf_8 (by decide) (fun c_6 => ?_) (fun c_6 => ?_)
      · rw [if_pos c_6] at h
        refine lv_iload_n hx hb dX3_waysOf_56 rfl (lv_at hl 3 rfl) ?_
        obtain rfl := Option.some.inj h
        exact W.iret hx hb hr (r_end X hP hS) hS.2.2 dX3_waysOf_57 (hlocks := hlk)
      · rw [if_neg c_6] at h
        refine lv_iload_n hx hb dX3_waysOf_11 rfl (lv_at hl 1 rfl) ?_
        refine lv_iload hx hb dX3_waysOf_12 (lv_at hl 4 rfl) ?_
        refine lv_ishr hx hb dX3_waysOf_14 ?_
        refine lv_iconst (v := 1) hx hb dX3_waysOf_15 (by decide) ?_
        refine lv_iand hx hb dX3_waysOf_16 ?_
        refine lv_if_eq (tgt := 50) hx hb dX3_waysOf_17 (by decide) (fun c_7 => ?_) (fun c_7 => ?_)
        · rw [if_pos c_7] at h
          refine lv_iinc (v := (x4_4 + 1)) (lv' := [(4, .int ((x4_4 + 1))), (0, .ref (φ 85)), (1, .int (x1_1)), (2, .int (x2_2)), (3, .int (x3_3))]) hx hb dX3_waysOf_50 hl (k := 4) rfl (by rw [show Int32.ofInt (1) = 1 from by decide]) (by decide) rfl (fun ls hl => ?_)
          refine lv_goto (tgt := 5) hx hb dX3_waysOf_53 (by decide) ?_
          exact ih _ _ _ _ _ _ _ hP hS (lv_sub hl [1, 2, 3, 4, 0] rfl)  h
        · rw [if_neg c_7] at h
          refine lv_aload_n hx hb dX3_waysOf_20 rfl (lv_at hl 0 rfl) ?_
          refine G_X3_22 X.1 hn hP dX3_waysOf_21 ?_
          refine lv_iload hx hb dX3_waysOf_24 (lv_at hl 4 rfl) ?_
          obtain ⟨c_8, h⟩ := og h
          refine r_iald (k := (Int32.toNatClampNeg (x4_4))) X.1 hP (by omega) sX_mbefore rfl (vin c_8) dX3_waysOf_26 ?_
          refine lv_iload_n hx hb dX3_waysOf_27 rfl (lv_at hl 1 rfl) ?_
          refine lv_iconst (v := (-1)) hx hb dX3_waysOf_28 (by decide) ?_
          refine lv_ixor hx hb dX3_waysOf_29 ?_
          refine lv_iand hx hb dX3_waysOf_30 ?_
          refine lv_if_ne (tgt := 50) hx hb dX3_waysOf_31 (by decide) (fun c_9 => ?_) (fun c_9 => ?_)
          · rw [if_neg c_9] at h
            refine lv_iinc (v := (x4_4 + 1)) (lv' := [(4, .int ((x4_4 + 1))), (0, .ref (φ 85)), (1, .int (x1_1)), (2, .int (x2_2)), (3, .int (x3_3))]) hx hb dX3_waysOf_50 hl (k := 4) rfl (by rw [show Int32.ofInt (1) = 1 from by decide]) (by decide) rfl (fun ls hl => ?_)
            refine lv_goto (tgt := 5) hx hb dX3_waysOf_53 (by decide) ?_
            exact ih _ _ _ _ _ _ _ hP hS (lv_sub hl [1, 2, 3, 4, 0] rfl)  h
          · rw [if_pos c_9] at h
            refine lv_iload_n hx hb dX3_waysOf_34 rfl (lv_at hl 3 rfl) ?_
            refine lv_aload_n hx hb dX3_waysOf_35 rfl (lv_at hl 0 rfl) ?_
            refine G_X3_25 X.1 hn hP dX3_waysOf_36 ?_
            refine lv_iload_n hx hb dX3_waysOf_39 rfl (lv_at hl 1 rfl) ?_
            refine lv_iconst (v := 1) hx hb dX3_waysOf_40 (by decide) ?_
            refine lv_iload hx hb dX3_waysOf_41 (lv_at hl 4 rfl) ?_
            refine lv_ishl hx hb dX3_waysOf_43 ?_
            refine lv_iconst (v := (-1)) hx hb dX3_waysOf_44 (by decide) ?_
            refine lv_ixor hx hb dX3_waysOf_45 ?_
            refine lv_iand hx hb dX3_waysOf_46 ?_
            obtain ⟨c_10, h⟩ := og h
            refine r_iald (k := (Int32.toNatClampNeg ((x1_1 &&& (((1 : Int32) <<< (x4_4 &&& 31)) ^^^ (-1)))))) X.1 hP (by omega) sX_mways rfl (vin c_10) dX3_waysOf_47 ?_
            refine lv_iadd hx hb dX3_waysOf_48 ?_
            refine lv_istore_n (lv' := [(3, .int ((x3_3 + (M 89 (Int32.toNatClampNeg ((x1_1 &&& (((1 : Int32) <<< (x4_4 &&& 31)) ^^^ (-1))))))))), (0, .ref (φ 85)), (1, .int (x1_1)), (2, .int (x2_2)), (4, .int (x4_4))]) hx hb dX3_waysOf_49 rfl hl (by decide) rfl (fun ls hl => ?_)
            refine lv_iinc (v := (x4_4 + 1)) (lv' := [(4, .int ((x4_4 + 1))), (3, .int ((x3_3 + (M 89 (Int32.toNatClampNeg ((x1_1 &&& (((1 : Int32) <<< (x4_4 &&& 31)) ^^^ (-1))))))))), (0, .ref (φ 85)), (1, .int (x1_1)), (2, .int (x2_2))]) hx hb dX3_waysOf_50 hl (k := 4) rfl (by rw [show Int32.ofInt (1) = 1 from by decide]) (by decide) rfl (fun ls hl => ?_)
            refine lv_goto (tgt := 5) hx hb dX3_waysOf_53 (by decide) ?_
            exact ih _ _ _ _ _ _ _ hP hS (lv_sub hl [2, 3, 4, 1, 0] rfl)  h
  refine lv_iconst (v := 0) hx hb dX3_waysOf_0 (by decide) ?_
  refine lv_istore_n (lv' := [(3, .int (0)), (0, .ref (φ 85)), (1, .int (a1)), (2, .int (a2))]) hx hb dX3_waysOf_1 rfl hl (by decide) rfl (fun ls hl => ?_)
  refine lv_iconst (v := 0) hx hb dX3_waysOf_2 (by decide) ?_
  refine lv_istore (lv' := [(4, .int (0)), (3, .int (0)), (0, .ref (φ 85)), (1, .int (a1)), (2, .int (a2))]) hx hb dX3_waysOf_3 hl (by decide) rfl (fun ls hl => ?_)
  refine L5 _ _ _ _ _ _ _ _ hP hS (lv_sub hl [2, 3, 4, 1, 0] rfl)  h

def f_X3_ordersOf_11 (x1_2 : Int32) (x2_3 : Int32) (x3_4 : Int32) (k50 : Mem → Option (Int32 × Mem)) : Nat → Int32 → Mem → Option (Int32 × Mem)
  | 0, _, _ => none
  | fu_7 + 1, x4_5, M_6 => (if (M_6 85 2) ≤ x4_5 then (k50 M_6) else (if ibd (x4_5) 20 then (if ibd ((M_6 87 (Int32.toNatClampNeg (x4_5)))) 10 then (if ibd (x4_5) 20 then (if ibd ((M_6 87 (Int32.toNatClampNeg (x4_5)))) 10 then (f_X3_ordersOf_11 x1_2 x2_3 x3_4 k50 fu_7 ((x4_5 + 1)) (upd2 M_6 88 (Int32.toNatClampNeg ((M_6 87 (Int32.toNatClampNeg (x4_5))))) (((M_6 88 (Int32.toNatClampNeg ((M_6 87 (Int32.toNatClampNeg (x4_5)))))) ||| ((1 : Int32) <<< ((M_6 86 (Int32.toNatClampNeg (x4_5))) &&& 31)))))) else none) else none) else none) else none))
def f_X3_ordersOf_89 (x1_16 : Int32) (x4_17 : Int32) : Nat → Int32 → Mem → Option (Int32 × Mem)
  | 0, _, _ => none
  | fu_20 + 1, x5_18, M_19 => (if x4_17 < x5_18 then (if ibd (x4_17) 1024 then some (((M_19 89 (Int32.toNatClampNeg (x4_17))), M_19)) else none) else (Option.bind (f_X3_waysOf M_19 (x5_18) (x1_16)) fun r_23 => (if ibd (x5_18) 1024 then (f_X3_ordersOf_89 x1_16 x4_17 fu_20 ((x5_18 + 1)) (upd2 M_19 89 (Int32.toNatClampNeg (x5_18)) (r_23))) else none)))
def f_X3_ordersOf (M : Mem) (a1 : Int32) (a2 : Int32) (a3 : Int32) : Option (Int32 × Mem) :=
  (Option.bind (f_J7_fill_53178 M 88 10 (0)) fun r_1 => (f_X3_ordersOf_11 (a1) (a2) (a3) (fun M_14 => (if a2 = (-1) then (f_X3_ordersOf_89 (a1) ((((1 : Int32) <<< (a1 &&& 31)) - 1)) FU (1) (upd2 M_14 89 0 (1))) else (if a3 = (-1) then (f_X3_ordersOf_89 (a1) ((((1 : Int32) <<< (a1 &&& 31)) - 1)) FU (1) (upd2 M_14 89 0 (1))) else (if ibd (a3) 10 then (if ibd (a3) 10 then (f_X3_ordersOf_89 (a1) ((((1 : Int32) <<< (a1 &&& 31)) - 1)) FU (1) (upd2 (upd2 M_14 88 (Int32.toNatClampNeg (a3)) (((M_14 88 (Int32.toNatClampNeg (a3))) ||| ((1 : Int32) <<< (a2 &&& 31))))) 89 0 (1))) else none) else none)))) FU (0) r_1))
set_option maxRecDepth 100000 in
set_option maxHeartbeats 4000000 in
theorem c_X3_ordersOf (l : Launch) {G : GT} {φ : Nat → Nat} {n : Nat} {M : Mem} {a1 : Int32} {a2 : Int32} {a3 : Int32} (hI : wI φ n) (hn : 107 ≤ n) {r : Int32 × Mem} (h : f_X3_ordersOf M a1 a2 a3 = some r) : CT l yX3_ordersOf cX3_ordersOf 6 (some .int) ({ frames := 1, cells := 0, slots := 0, locals := 24 } : Room) [.ref (φ 85), .int (a1), .int (a2), .int (a3)] (WB (cX G φ) φ M n G) (some (.int r.1)) (WB (cX G φ) φ (r.2) n G) φ n := by
  unfold f_X3_ordersOf at h
  refine r_start (plainFor_of_name (by decide)) (Nat.le_of_ble_eq_true rfl) hI ?_
  intro p e s m args below meth c ls X hr hlk hP hl
  have hS : va_S (wA φ n s.heap.size) s.heap s.heap [] := va_S.rf
  have hx := X.1.1
  have hb := X.1.2.1
  have hl : lv_has ls 6 [(0, .ref (φ 85)), (1, .int (a1)), (2, .int (a2)), (3, .int (a3))] := hl
  have L11 : ∀ (fu_7 : Nat) (M_6 : Mem) (x1_2 : Int32) (x2_3 : Int32) (x3_4 : Int32) (k50 : Mem → Option (Int32 × Mem)) (x4_5 : Int32)  (H : Heap) (locs : List Loc) (ls : Array Slot), va_P G.1 vwCl (wW (cX G φ) φ M_6 n) H → va_S (wA φ n s.heap.size) s.heap H locs → lv_has ls 6 [(0, .ref (φ 85)), (1, .int (x1_2)), (2, .int (x2_3)), (3, .int (x3_4)), (4, .int (x4_5))] → (∀ (M_13 : Mem) (H : Heap) (locs : List Loc) (ls : Array Slot), va_P G.1 vwCl (wW (cX G φ) φ M_13 n) H → va_S (wA φ n s.heap.size) s.heap H locs → lv_has ls 6 [(0, .ref (φ 85)), (1, .int (x1_2)), (2, .int (x2_3)), (3, .int (x3_4))] → k50 M_13 = some r → W p l e ({ frames := 1, cells := 0, slots := 0, locals := 24 } : Room) s m args below meth c H locs 0 0 (MQ below (QQ (some (.int r.1)) (WB (cX G φ) φ (r.2) n G) (wA φ n s.heap.size)) args s 0 0 (wA φ n s.heap.size)) (F0 m 50 ls [])) → f_X3_ordersOf_11 x1_2 x2_3 x3_4 k50 fu_7 x4_5 M_6 = some r → W p l e ({ frames := 1, cells := 0, slots := 0, locals := 24 } : Room) s m args below meth c H locs 0 0 (MQ below (QQ (some (.int r.1)) (WB (cX G φ) φ (r.2) n G) (wA φ n s.heap.size)) args s 0 0 (wA φ n s.heap.size)) (F0 m 11 ls []) := by
    intro fu_7
    induction fu_7 with
    | zero =>
      intro M_6 x1_2 x2_3 x3_4 k50 x4_5 H locs ls _ _ _ _ h
      have h : (none : Option (Int32 × Mem)) = some r := h
      cases h
    | succ fu_7 ih =>
      intro M_6 x1_2 x2_3 x3_4 k50 x4_5 H locs ls hP hS hl hk50 h
      rw [f_X3_ordersOf_11] at h
      refine lv_iload hx hb dX3_ordersOf_11 (lv_at hl 4 rfl) ?_
      refine lv_aload_n hx hb dX3_ordersOf_13 rfl (lv_at hl 0 rfl) ?_
      refine G_X3_18 X.1 hn hP dX3_ordersOf_14 ?_
      refine lv_icmp_ge (tgt := 50) hx hb dX3_ordersOf_17 (by decide) (fun c_8 => ?_) (fun c_8 => ?_)
      · rw [if_pos c_8] at h
        exact hk50 _ _ _ _ hP hS (lv_sub hl [0, 1, 2, 3] rfl) h
      · rw [if_neg c_8] at h
        refine lv_aload_n hx hb dX3_ordersOf_20 rfl (lv_at hl 0 rfl) ?_
        refine G_X3_22 X.1 hn hP dX3_ordersOf_21 ?_
        refine lv_aload_n hx hb dX3_ordersOf_24 rfl (lv_at hl 0 rfl) ?_
        refine G_X3_15 X.1 hn hP dX3_ordersOf_25 ?_
        refine lv_iload hx hb dX3_ordersOf_28 (lv_at hl 4 rfl) ?_
        obtain ⟨c_9, h⟩ := og h
        refine r_iald (k := (Int32.toNatClampNeg (x4_5))) X.1 hP (by omega) sX_mbehind rfl (vin c_9) dX3_ordersOf_30 ?_
        refine lv_dup2_11 hx hb dX3_ordersOf_31 rfl rfl ?_
        obtain ⟨c_10, h⟩ := og h
        refine r_iald (k := (Int32.toNatClampNeg ((M_6 87 (Int32.toNatClampNeg (x4_5)))))) X.1 hP (by omega) sX_mbefore rfl (vin c_10) dX3_ordersOf_32 ?_
        refine lv_iconst (v := 1) hx hb dX3_ordersOf_33 (by decide) ?_
        refine lv_aload_n hx hb dX3_ordersOf_34 rfl (lv_at hl 0 rfl) ?_
        refine G_X3_9 X.1 hn hP dX3_ordersOf_35 ?_
        refine lv_iload hx hb dX3_ordersOf_38 (lv_at hl 4 rfl) ?_
        obtain ⟨c_11, h⟩ := og h
        refine r_iald (k := (Int32.toNatClampNeg (x4_5))) X.1 hP (by omega) sX_mahead rfl (vin c_11) dX3_ordersOf_40 ?_
        refine lv_ishl hx hb dX3_ordersOf_41 ?_
        refine lv_ior hx hb dX3_ordersOf_42 ?_
        obtain ⟨c_12, h⟩ := og h
        refine r_iast (k := (Int32.toNatClampNeg ((M_6 87 (Int32.toNatClampNeg (x4_5)))))) X.1 X.2.2.2.1 hP hS (by omega) sX_mbefore rfl (vin c_12) dX3_ordersOf_43 (fun H locs hP hS => ?_)
        refine lv_iinc (v := (x4_5 + 1)) (lv' := [(4, .int ((x4_5 + 1))), (0, .ref (φ 85)), (1, .int (x1_2)), (2, .int (x2_3)), (3, .int (x3_4))]) hx hb dX3_ordersOf_44 hl (k := 4) rfl (by rw [show Int32.ofInt (1) = 1 from by decide]) (by decide) rfl (fun ls hl => ?_)
        refine lv_goto (tgt := 11) hx hb dX3_ordersOf_47 (by decide) ?_
        exact ih _ _ _ _ _ _ _ _ _ hP hS (lv_sub hl [1, 2, 3, 4, 0] rfl) hk50 h
  have L89 : ∀ (fu_20 : Nat) (M_19 : Mem) (x1_16 : Int32) (x4_17 : Int32) (x5_18 : Int32)  (H : Heap) (locs : List Loc) (ls : Array Slot), va_P G.1 vwCl (wW (cX G φ) φ M_19 n) H → va_S (wA φ n s.heap.size) s.heap H locs → lv_has ls 6 [(0, .ref (φ 85)), (1, .int (x1_16)), (4, .int (x4_17)), (5, .int (x5_18))] → f_X3_ordersOf_89 x1_16 x4_17 fu_20 x5_18 M_19 = some r → W p l e ({ frames := 1, cells := 0, slots := 0, locals := 24 } : Room) s m args below meth c H locs 0 0 (MQ below (QQ (some (.int r.1)) (WB (cX G φ) φ (r.2) n G) (wA φ n s.heap.size)) args s 0 0 (wA φ n s.heap.size)) (F0 m 89 ls []) := by
    intro fu_20
    induction fu_20 with
    | zero =>
      intro M_19 x1_16 x4_17 x5_18 H locs ls _ _ _  h
      have h : (none : Option (Int32 × Mem)) = some r := h
      cases h
    | succ fu_20 ih =>
      intro M_19 x1_16 x4_17 x5_18 H locs ls hP hS hl  h
      rw [f_X3_ordersOf_89] at h
      refine lv_iload hx hb dX3_ordersOf_89 (lv_at hl 3 rfl) ?_
      refine lv_iload hx hb dX3_ordersOf_91 (lv_at hl 2 rfl) ?_
      refine lv_icmp_gt (tgt := 116) hx hb dX3_ordersOf_93 (by decide) (fun c_21 => ?_) (fun c_21 => ?_)
      · rw [if_pos c_21] at h
        refine lv_aload_n hx hb dX3_ordersOf_116 rfl (lv_at hl 0 rfl) ?_
        refine G_X3_25 X.1 hn hP dX3_ordersOf_117 ?_
        refine lv_iload hx hb dX3_ordersOf_120 (lv_at hl 2 rfl) ?_
        obtain ⟨c_22, h⟩ := og h
        refine r_iald (k := (Int32.toNatClampNeg (x4_17))) X.1 hP (by omega) sX_mways rfl (vin c_22) dX3_ordersOf_122 ?_
        obtain rfl := Option.some.inj h
        exact W.iret hx hb hr (r_end X hP hS) hS.2.2 dX3_ordersOf_123 (hlocks := hlk)
      · rw [if_neg c_21] at h
        refine lv_aload_n hx hb dX3_ordersOf_96 rfl (lv_at hl 0 rfl) ?_
        refine G_X3_25 X.1 hn hP dX3_ordersOf_97 ?_
        refine lv_iload hx hb dX3_ordersOf_100 (lv_at hl 3 rfl) ?_
        refine lv_aload_n hx hb dX3_ordersOf_102 rfl (lv_at hl 0 rfl) ?_
        refine lv_iload hx hb dX3_ordersOf_103 (lv_at hl 3 rfl) ?_
        refine lv_iload_n hx hb dX3_ordersOf_105 rfl (lv_at hl 1 rfl) ?_
        obtain ⟨r_23, hr_23, h⟩ := ob h
        refine c_V0 (As := [.int (x5_18), .int (x1_16)]) (rest := [.int (x5_18), .ref (φ 89)]) (a := 85) X hl.1 (c_X3_waysOf l X.2.2.2.1.1 hn hr_23) (w_X3_34) qw_821 qw_31 ⟨Nat.le_of_ble_eq_true rfl, Nat.le_of_ble_eq_true rfl⟩ rfl rfl hP hS (by omega) sX_Marks rfl rfl (Nat.le_of_ble_eq_true rfl) dX3_ordersOf_106 (fun H locs hP hS => ?_)
        obtain ⟨c_24, h⟩ := og h
        refine r_iast (k := (Int32.toNatClampNeg (x5_18))) X.1 X.2.2.2.1 hP hS (by omega) sX_mways rfl (vin c_24) dX3_ordersOf_109 (fun H locs hP hS => ?_)
        refine lv_iinc (v := (x5_18 + 1)) (lv' := [(5, .int ((x5_18 + 1))), (0, .ref (φ 85)), (1, .int (x1_16)), (4, .int (x4_17))]) hx hb dX3_ordersOf_110 hl (k := 3) rfl (by rw [show Int32.ofInt (1) = 1 from by decide]) (by decide) rfl (fun ls hl => ?_)
        refine lv_goto (tgt := 89) hx hb dX3_ordersOf_113 (by decide) ?_
        exact ih _ _ _ _ _ _ _ hP hS (lv_sub hl [1, 2, 3, 0] rfl)  h
  refine lv_aload_n hx hb dX3_ordersOf_0 rfl (lv_at hl 0 rfl) ?_
  refine G_X3_22 X.1 hn hP dX3_ordersOf_1 ?_
  refine lv_iconst (v := 0) hx hb dX3_ordersOf_4 (by decide) ?_
  obtain ⟨r_1, hr_1, h⟩ := ob h
  refine c_S0 (As := [.ref (φ 88), .int (0)]) (rest := []) X hl.1 (c_J7_fill_53178 l X.2.2.2.1.1 (by omega) sX_mbefore hr_1) (w_X3_28) qw_684 ⟨Nat.le_of_ble_eq_true rfl, Nat.le_of_ble_eq_true rfl⟩ rfl rfl hP hS (Nat.le_of_ble_eq_true rfl) dX3_ordersOf_5 (fun H locs hP hS => ?_)
  refine lv_iconst (v := 0) hx hb dX3_ordersOf_8 (by decide) ?_
  refine lv_istore (lv' := [(4, .int (0)), (0, .ref (φ 85)), (1, .int (a1)), (2, .int (a2)), (3, .int (a3))]) hx hb dX3_ordersOf_9 hl (by decide) rfl (fun ls hl => ?_)
  refine L11 _ _ _ _ _ _ _ _ _ _ hP hS (lv_sub hl [1, 2, 3, 4, 0] rfl) (fun M_14 H locs ls hP hS hl h => ?_) h
  · try dsimp only at h
    refine lv_iload_n hx hb dX3_ordersOf_50 rfl (lv_at hl 2 rfl) ?_
    refine lv_iconst (v := (-1)) hx hb dX3_ordersOf_51 (by decide) ?_
    refine lv_icmp_eq (tgt := 72) hx hb dX3_ordersOf_52 (by decide) (fun c_15 => ?_) (fun c_15 => ?_)
    · rw [if_pos c_15] at h
      refine lv_iconst (v := 1) hx hb dX3_ordersOf_72 (by decide) ?_
      refine lv_iload_n hx hb dX3_ordersOf_73 rfl (lv_at hl 1 rfl) ?_
      refine lv_ishl hx hb dX3_ordersOf_74 ?_
      refine lv_iconst (v := 1) hx hb dX3_ordersOf_75 (by decide) ?_
      refine lv_isub hx hb dX3_ordersOf_76 ?_
      refine lv_istore (lv' := [(4, .int ((((1 : Int32) <<< (a1 &&& 31)) - 1))), (0, .ref (φ 85)), (1, .int (a1)), (2, .int (a2)), (3, .int (a3))]) hx hb dX3_ordersOf_77 hl (by decide) rfl (fun ls hl => ?_)
      refine lv_aload_n hx hb dX3_ordersOf_79 rfl (lv_at hl 1 rfl) ?_
      refine G_X3_25 X.1 hn hP dX3_ordersOf_80 ?_
      refine lv_iconst (v := 0) hx hb dX3_ordersOf_83 (by decide) ?_
      refine lv_iconst (v := 1) hx hb dX3_ordersOf_84 (by decide) ?_
      refine r_iast (k := 0) X.1 X.2.2.2.1 hP hS (by omega) sX_mways (by decide) (vin (by decide)) dX3_ordersOf_85 (fun H locs hP hS => ?_)
      refine lv_iconst (v := 1) hx hb dX3_ordersOf_86 (by decide) ?_
      refine lv_istore (lv' := [(5, .int (1)), (4, .int ((((1 : Int32) <<< (a1 &&& 31)) - 1))), (0, .ref (φ 85)), (1, .int (a1)), (2, .int (a2)), (3, .int (a3))]) hx hb dX3_ordersOf_87 hl (by decide) rfl (fun ls hl => ?_)
      refine L89 _ _ _ _ _ _ _ _ hP hS (lv_sub hl [2, 3, 1, 0] rfl)  h
    · rw [if_neg c_15] at h
      refine lv_iload_n hx hb dX3_ordersOf_55 rfl (lv_at hl 3 rfl) ?_
      refine lv_iconst (v := (-1)) hx hb dX3_ordersOf_56 (by decide) ?_
      refine lv_icmp_eq (tgt := 72) hx hb dX3_ordersOf_57 (by decide) (fun c_25 => ?_) (fun c_25 => ?_)
      · rw [if_pos c_25] at h
        refine lv_iconst (v := 1) hx hb dX3_ordersOf_72 (by decide) ?_
        refine lv_iload_n hx hb dX3_ordersOf_73 rfl (lv_at hl 1 rfl) ?_
        refine lv_ishl hx hb dX3_ordersOf_74 ?_
        refine lv_iconst (v := 1) hx hb dX3_ordersOf_75 (by decide) ?_
        refine lv_isub hx hb dX3_ordersOf_76 ?_
        refine lv_istore (lv' := [(4, .int ((((1 : Int32) <<< (a1 &&& 31)) - 1))), (0, .ref (φ 85)), (1, .int (a1)), (2, .int (a2)), (3, .int (a3))]) hx hb dX3_ordersOf_77 hl (by decide) rfl (fun ls hl => ?_)
        refine lv_aload_n hx hb dX3_ordersOf_79 rfl (lv_at hl 1 rfl) ?_
        refine G_X3_25 X.1 hn hP dX3_ordersOf_80 ?_
        refine lv_iconst (v := 0) hx hb dX3_ordersOf_83 (by decide) ?_
        refine lv_iconst (v := 1) hx hb dX3_ordersOf_84 (by decide) ?_
        refine r_iast (k := 0) X.1 X.2.2.2.1 hP hS (by omega) sX_mways (by decide) (vin (by decide)) dX3_ordersOf_85 (fun H locs hP hS => ?_)
        refine lv_iconst (v := 1) hx hb dX3_ordersOf_86 (by decide) ?_
        refine lv_istore (lv' := [(5, .int (1)), (4, .int ((((1 : Int32) <<< (a1 &&& 31)) - 1))), (0, .ref (φ 85)), (1, .int (a1)), (2, .int (a2)), (3, .int (a3))]) hx hb dX3_ordersOf_87 hl (by decide) rfl (fun ls hl => ?_)
        refine L89 _ _ _ _ _ _ _ _ hP hS (lv_sub hl [2, 3, 1, 0] rfl)  h
      · rw [if_neg c_25] at h
        refine lv_aload_n hx hb dX3_ordersOf_60 rfl (lv_at hl 0 rfl) ?_
        refine G_X3_22 X.1 hn hP dX3_ordersOf_61 ?_
        refine lv_iload_n hx hb dX3_ordersOf_64 rfl (lv_at hl 3 rfl) ?_
        refine lv_dup2_11 hx hb dX3_ordersOf_65 rfl rfl ?_
        obtain ⟨c_26, h⟩ := og h
        refine r_iald (k := (Int32.toNatClampNeg (a3))) X.1 hP (by omega) sX_mbefore rfl (vin c_26) dX3_ordersOf_66 ?_
        refine lv_iconst (v := 1) hx hb dX3_ordersOf_67 (by decide) ?_
        refine lv_iload_n hx hb dX3_ordersOf_68 rfl (lv_at hl 2 rfl) ?_
        refine lv_ishl hx hb dX3_ordersOf_69 ?_
        refine lv_ior hx hb dX3_ordersOf_70 ?_
        obtain ⟨c_27, h⟩ := og h
        refine r_iast (k := (Int32.toNatClampNeg (a3))) X.1 X.2.2.2.1 hP hS (by omega) sX_mbefore rfl (vin c_27) dX3_ordersOf_71 (fun H locs hP hS => ?_)
        refine lv_iconst (v := 1) hx hb dX3_ordersOf_72 (by decide) ?_
        refine lv_iload_n hx hb dX3_ordersOf_73 rfl (lv_at hl 1 rfl) ?_
        refine lv_ishl hx hb dX3_ordersOf_74 ?_
        refine lv_iconst (v := 1) hx hb dX3_ordersOf_75 (by decide) ?_
        refine lv_isub hx hb dX3_ordersOf_76 ?_
        refine lv_istore (lv' := [(4, .int ((((1 : Int32) <<< (a1 &&& 31)) - 1))), (0, .ref (φ 85)), (1, .int (a1)), (2, .int (a2)), (3, .int (a3))]) hx hb dX3_ordersOf_77 hl (by decide) rfl (fun ls hl => ?_)
        refine lv_aload_n hx hb dX3_ordersOf_79 rfl (lv_at hl 1 rfl) ?_
        refine G_X3_25 X.1 hn hP dX3_ordersOf_80 ?_
        refine lv_iconst (v := 0) hx hb dX3_ordersOf_83 (by decide) ?_
        refine lv_iconst (v := 1) hx hb dX3_ordersOf_84 (by decide) ?_
        refine r_iast (k := 0) X.1 X.2.2.2.1 hP hS (by omega) sX_mways (by decide) (vin (by decide)) dX3_ordersOf_85 (fun H locs hP hS => ?_)
        refine lv_iconst (v := 1) hx hb dX3_ordersOf_86 (by decide) ?_
        refine lv_istore (lv' := [(5, .int (1)), (4, .int ((((1 : Int32) <<< (a1 &&& 31)) - 1))), (0, .ref (φ 85)), (1, .int (a1)), (2, .int (a2)), (3, .int (a3))]) hx hb dX3_ordersOf_87 hl (by decide) rfl (fun ls hl => ?_)
        refine L89 _ _ _ _ _ _ _ _ hP hS (lv_sub hl [2, 3, 1, 0] rfl)  h

def f_J6_bitCount_0f7a4 (a1 : Int32) : Int32 :=
  ((((((((a1 - ((Int32.toUInt32 (a1) >>> (Int32.toUInt32 (1) &&& Int32.toUInt32 31)).toInt32 &&& 1431655765)) &&& 858993459) + ((Int32.toUInt32 ((a1 - ((Int32.toUInt32 (a1) >>> (Int32.toUInt32 (1) &&& Int32.toUInt32 31)).toInt32 &&& 1431655765))) >>> (Int32.toUInt32 (2) &&& Int32.toUInt32 31)).toInt32 &&& 858993459)) + (Int32.toUInt32 ((((a1 - ((Int32.toUInt32 (a1) >>> (Int32.toUInt32 (1) &&& Int32.toUInt32 31)).toInt32 &&& 1431655765)) &&& 858993459) + ((Int32.toUInt32 ((a1 - ((Int32.toUInt32 (a1) >>> (Int32.toUInt32 (1) &&& Int32.toUInt32 31)).toInt32 &&& 1431655765))) >>> (Int32.toUInt32 (2) &&& Int32.toUInt32 31)).toInt32 &&& 858993459))) >>> (Int32.toUInt32 (4) &&& Int32.toUInt32 31)).toInt32) &&& 252645135) + (Int32.toUInt32 ((((((a1 - ((Int32.toUInt32 (a1) >>> (Int32.toUInt32 (1) &&& Int32.toUInt32 31)).toInt32 &&& 1431655765)) &&& 858993459) + ((Int32.toUInt32 ((a1 - ((Int32.toUInt32 (a1) >>> (Int32.toUInt32 (1) &&& Int32.toUInt32 31)).toInt32 &&& 1431655765))) >>> (Int32.toUInt32 (2) &&& Int32.toUInt32 31)).toInt32 &&& 858993459)) + (Int32.toUInt32 ((((a1 - ((Int32.toUInt32 (a1) >>> (Int32.toUInt32 (1) &&& Int32.toUInt32 31)).toInt32 &&& 1431655765)) &&& 858993459) + ((Int32.toUInt32 ((a1 - ((Int32.toUInt32 (a1) >>> (Int32.toUInt32 (1) &&& Int32.toUInt32 31)).toInt32 &&& 1431655765))) >>> (Int32.toUInt32 (2) &&& Int32.toUInt32 31)).toInt32 &&& 858993459))) >>> (Int32.toUInt32 (4) &&& Int32.toUInt32 31)).toInt32) &&& 252645135)) >>> (Int32.toUInt32 (8) &&& Int32.toUInt32 31)).toInt32) + (Int32.toUInt32 (((((((a1 - ((Int32.toUInt32 (a1) >>> (Int32.toUInt32 (1) &&& Int32.toUInt32 31)).toInt32 &&& 1431655765)) &&& 858993459) + ((Int32.toUInt32 ((a1 - ((Int32.toUInt32 (a1) >>> (Int32.toUInt32 (1) &&& Int32.toUInt32 31)).toInt32 &&& 1431655765))) >>> (Int32.toUInt32 (2) &&& Int32.toUInt32 31)).toInt32 &&& 858993459)) + (Int32.toUInt32 ((((a1 - ((Int32.toUInt32 (a1) >>> (Int32.toUInt32 (1) &&& Int32.toUInt32 31)).toInt32 &&& 1431655765)) &&& 858993459) + ((Int32.toUInt32 ((a1 - ((Int32.toUInt32 (a1) >>> (Int32.toUInt32 (1) &&& Int32.toUInt32 31)).toInt32 &&& 1431655765))) >>> (Int32.toUInt32 (2) &&& Int32.toUInt32 31)).toInt32 &&& 858993459))) >>> (Int32.toUInt32 (4) &&& Int32.toUInt32 31)).toInt32) &&& 252645135) + (Int32.toUInt32 ((((((a1 - ((Int32.toUInt32 (a1) >>> (Int32.toUInt32 (1) &&& Int32.toUInt32 31)).toInt32 &&& 1431655765)) &&& 858993459) + ((Int32.toUInt32 ((a1 - ((Int32.toUInt32 (a1) >>> (Int32.toUInt32 (1) &&& Int32.toUInt32 31)).toInt32 &&& 1431655765))) >>> (Int32.toUInt32 (2) &&& Int32.toUInt32 31)).toInt32 &&& 858993459)) + (Int32.toUInt32 ((((a1 - ((Int32.toUInt32 (a1) >>> (Int32.toUInt32 (1) &&& Int32.toUInt32 31)).toInt32 &&& 1431655765)) &&& 858993459) + ((Int32.toUInt32 ((a1 - ((Int32.toUInt32 (a1) >>> (Int32.toUInt32 (1) &&& Int32.toUInt32 31)).toInt32 &&& 1431655765))) >>> (Int32.toUInt32 (2) &&& Int32.toUInt32 31)).toInt32 &&& 858993459))) >>> (Int32.toUInt32 (4) &&& Int32.toUInt32 31)).toInt32) &&& 252645135)) >>> (Int32.toUInt32 (8) &&& Int32.toUInt32 31)).toInt32)) >>> (Int32.toUInt32 (16) &&& Int32.toUInt32 31)).toInt32) &&& 63)
set_option maxRecDepth 100000 in
set_option maxHeartbeats 4000000 in
theorem c_J6_bitCount_0f7a4 (l : Launch) {G : GT} {φ : Nat → Nat} {n : Nat} {M : Mem} {sh : ShT} {a1 : Int32} (hI : wI φ n) {r : Int32} (h : f_J6_bitCount_0f7a4 a1 = r) : CT l yJ6_bitCount_0f7a4 cJ6_bitCount_0f7a4 1 (some .int) ({ frames := 0, cells := 0, slots := 0, locals := 0 } : Room) [.int (a1)] (WB (sh) φ M n G) (some (.int r)) (WB (sh) φ (M) n G) φ n := by
  unfold f_J6_bitCount_0f7a4 at h
  refine r_start (by decide +kernel) (Nat.le_of_ble_eq_true rfl) hI ?_
  intro p e s m args below meth c ls X hr hlk hP hl
  have hS : va_S (wA φ n s.heap.size) s.heap s.heap [] := va_S.rf
  have hx := X.1.1
  have hb := X.1.2.1
  have hl : lv_has ls 1 [(0, .int (a1))] := hl
  refine lv_iload_n hx hb dJ6_bitCount_0f7a4_0 rfl (lv_at hl 0 rfl) ?_
  refine lv_iload_n hx hb dJ6_bitCount_0f7a4_1 rfl (lv_at hl 0 rfl) ?_
  refine lv_iconst (v := 1) hx hb dJ6_bitCount_0f7a4_2 (by decide) ?_
  refine t_iushr hx hb dJ6_bitCount_0f7a4_3 rfl ?_
  refine lv_ldcw (v := 1431655765) hx hb X.1.2.2.1 (X.1.2.2.2.1 _ qw_842) dJ6_bitCount_0f7a4_4 ?_
  refine lv_iand hx hb dJ6_bitCount_0f7a4_7 ?_
  refine lv_isub hx hb dJ6_bitCount_0f7a4_8 ?_
  refine lv_istore_n (lv' := [(0, .int ((a1 - ((Int32.toUInt32 (a1) >>> (Int32.toUInt32 (1) &&& Int32.toUInt32 31)).toInt32 &&& 1431655765))))]) hx hb dJ6_bitCount_0f7a4_9 rfl hl (by decide) rfl (fun ls hl => ?_)
  refine lv_iload_n hx hb dJ6_bitCount_0f7a4_10 rfl (lv_at hl 0 rfl) ?_
  refine lv_ldcw (v := 858993459) hx hb X.1.2.2.1 (X.1.2.2.2.1 _ qw_843) dJ6_bitCount_0f7a4_11 ?_
  refine lv_iand hx hb dJ6_bitCount_0f7a4_14 ?_
  refine lv_iload_n hx hb dJ6_bitCount_0f7a4_15 rfl (lv_at hl 0 rfl) ?_
  refine lv_iconst (v := 2) hx hb dJ6_bitCount_0f7a4_16 (by decide) ?_
  refine t_iushr hx hb dJ6_bitCount_0f7a4_17 rfl ?_
  refine lv_ldcw (v := 858993459) hx hb X.1.2.2.1 (X.1.2.2.2.1 _ qw_843) dJ6_bitCount_0f7a4_18 ?_
  refine lv_iand hx hb dJ6_bitCount_0f7a4_21 ?_
  refine lv_iadd hx hb dJ6_bitCount_0f7a4_22 ?_
  refine lv_istore_n (lv' := [(0, .int ((((a1 - ((Int32.toUInt32 (a1) >>> (Int32.toUInt32 (1) &&& Int32.toUInt32 31)).toInt32 &&& 1431655765)) &&& 858993459) + ((Int32.toUInt32 ((a1 - ((Int32.toUInt32 (a1) >>> (Int32.toUInt32 (1) &&& Int32.toUInt32 31)).toInt32 &&& 1431655765))) >>> (Int32.toUInt32 (2) &&& Int32.toUInt32 31)).toInt32 &&& 858993459))))]) hx hb dJ6_bitCount_0f7a4_23 rfl hl (by decide) rfl (fun ls hl => ?_)
  refine lv_iload_n hx hb dJ6_bitCount_0f7a4_24 rfl (lv_at hl 0 rfl) ?_
  refine lv_iload_n hx hb dJ6_bitCount_0f7a4_25 rfl (lv_at hl 0 rfl) ?_
  refine lv_iconst (v := 4) hx hb dJ6_bitCount_0f7a4_26 (by decide) ?_
  refine t_iushr hx hb dJ6_bitCount_0f7a4_27 rfl ?_
  refine lv_iadd hx hb dJ6_bitCount_0f7a4_28 ?_
  refine lv_ldcw (v := 252645135) hx hb X.1.2.2.1 (X.1.2.2.2.1 _ qw_844) dJ6_bitCount_0f7a4_29 ?_
  refine lv_iand hx hb dJ6_bitCount_0f7a4_32 ?_
  refine lv_istore_n (lv' := [(0, .int ((((((a1 - ((Int32.toUInt32 (a1) >>> (Int32.toUInt32 (1) &&& Int32.toUInt32 31)).toInt32 &&& 1431655765)) &&& 858993459) + ((Int32.toUInt32 ((a1 - ((Int32.toUInt32 (a1) >>> (Int32.toUInt32 (1) &&& Int32.toUInt32 31)).toInt32 &&& 1431655765))) >>> (Int32.toUInt32 (2) &&& Int32.toUInt32 31)).toInt32 &&& 858993459)) + (Int32.toUInt32 ((((a1 - ((Int32.toUInt32 (a1) >>> (Int32.toUInt32 (1) &&& Int32.toUInt32 31)).toInt32 &&& 1431655765)) &&& 858993459) + ((Int32.toUInt32 ((a1 - ((Int32.toUInt32 (a1) >>> (Int32.toUInt32 (1) &&& Int32.toUInt32 31)).toInt32 &&& 1431655765))) >>> (Int32.toUInt32 (2) &&& Int32.toUInt32 31)).toInt32 &&& 858993459))) >>> (Int32.toUInt32 (4) &&& Int32.toUInt32 31)).toInt32) &&& 252645135)))]) hx hb dJ6_bitCount_0f7a4_33 rfl hl (by decide) rfl (fun ls hl => ?_)
  refine lv_iload_n hx hb dJ6_bitCount_0f7a4_34 rfl (lv_at hl 0 rfl) ?_
  refine lv_iload_n hx hb dJ6_bitCount_0f7a4_35 rfl (lv_at hl 0 rfl) ?_
  refine lv_bipush (v := 8) hx hb dJ6_bitCount_0f7a4_36 (by decide) ?_
  refine t_iushr hx hb dJ6_bitCount_0f7a4_38 rfl ?_
  refine lv_iadd hx hb dJ6_bitCount_0f7a4_39 ?_
  refine lv_istore_n (lv' := [(0, .int (((((((a1 - ((Int32.toUInt32 (a1) >>> (Int32.toUInt32 (1) &&& Int32.toUInt32 31)).toInt32 &&& 1431655765)) &&& 858993459) + ((Int32.toUInt32 ((a1 - ((Int32.toUInt32 (a1) >>> (Int32.toUInt32 (1) &&& Int32.toUInt32 31)).toInt32 &&& 1431655765))) >>> (Int32.toUInt32 (2) &&& Int32.toUInt32 31)).toInt32 &&& 858993459)) + (Int32.toUInt32 ((((a1 - ((Int32.toUInt32 (a1) >>> (Int32.toUInt32 (1) &&& Int32.toUInt32 31)).toInt32 &&& 1431655765)) &&& 858993459) + ((Int32.toUInt32 ((a1 - ((Int32.toUInt32 (a1) >>> (Int32.toUInt32 (1) &&& Int32.toUInt32 31)).toInt32 &&& 1431655765))) >>> (Int32.toUInt32 (2) &&& Int32.toUInt32 31)).toInt32 &&& 858993459))) >>> (Int32.toUInt32 (4) &&& Int32.toUInt32 31)).toInt32) &&& 252645135) + (Int32.toUInt32 ((((((a1 - ((Int32.toUInt32 (a1) >>> (Int32.toUInt32 (1) &&& Int32.toUInt32 31)).toInt32 &&& 1431655765)) &&& 858993459) + ((Int32.toUInt32 ((a1 - ((Int32.toUInt32 (a1) >>> (Int32.toUInt32 (1) &&& Int32.toUInt32 31)).toInt32 &&& 1431655765))) >>> (Int32.toUInt32 (2) &&& Int32.toUInt32 31)).toInt32 &&& 858993459)) + (Int32.toUInt32 ((((a1 - ((Int32.toUInt32 (a1) >>> (Int32.toUInt32 (1) &&& Int32.toUInt32 31)).toInt32 &&& 1431655765)) &&& 858993459) + ((Int32.toUInt32 ((a1 - ((Int32.toUInt32 (a1) >>> (Int32.toUInt32 (1) &&& Int32.toUInt32 31)).toInt32 &&& 1431655765))) >>> (Int32.toUInt32 (2) &&& Int32.toUInt32 31)).toInt32 &&& 858993459))) >>> (Int32.toUInt32 (4) &&& Int32.toUInt32 31)).toInt32) &&& 252645135)) >>> (Int32.toUInt32 (8) &&& Int32.toUInt32 31)).toInt32)))]) hx hb dJ6_bitCount_0f7a4_40 rfl hl (by decide) rfl (fun ls hl => ?_)
  refine lv_iload_n hx hb dJ6_bitCount_0f7a4_41 rfl (lv_at hl 0 rfl) ?_
  refine lv_iload_n hx hb dJ6_bitCount_0f7a4_42 rfl (lv_at hl 0 rfl) ?_
  refine lv_bipush (v := 16) hx hb dJ6_bitCount_0f7a4_43 (by decide) ?_
  refine t_iushr hx hb dJ6_bitCount_0f7a4_45 rfl ?_
  refine lv_iadd hx hb dJ6_bitCount_0f7a4_46 ?_
  refine lv_istore_n (lv' := [(0, .int ((((((((a1 - ((Int32.toUInt32 (a1) >>> (Int32.toUInt32 (1) &&& Int32.toUInt32 31)).toInt32 &&& 1431655765)) &&& 858993459) + ((Int32.toUInt32 ((a1 - ((Int32.toUInt32 (a1) >>> (Int32.toUInt32 (1) &&& Int32.toUInt32 31)).toInt32 &&& 1431655765))) >>> (Int32.toUInt32 (2) &&& Int32.toUInt32 31)).toInt32 &&& 858993459)) + (Int32.toUInt32 ((((a1 - ((Int32.toUInt32 (a1) >>> (Int32.toUInt32 (1) &&& Int32.toUInt32 31)).toInt32 &&& 1431655765)) &&& 858993459) + ((Int32.toUInt32 ((a1 - ((Int32.toUInt32 (a1) >>> (Int32.toUInt32 (1) &&& Int32.toUInt32 31)).toInt32 &&& 1431655765))) >>> (Int32.toUInt32 (2) &&& Int32.toUInt32 31)).toInt32 &&& 858993459))) >>> (Int32.toUInt32 (4) &&& Int32.toUInt32 31)).toInt32) &&& 252645135) + (Int32.toUInt32 ((((((a1 - ((Int32.toUInt32 (a1) >>> (Int32.toUInt32 (1) &&& Int32.toUInt32 31)).toInt32 &&& 1431655765)) &&& 858993459) + ((Int32.toUInt32 ((a1 - ((Int32.toUInt32 (a1) >>> (Int32.toUInt32 (1) &&& Int32.toUInt32 31)).toInt32 &&& 1431655765))) >>> (Int32.toUInt32 (2) &&& Int32.toUInt32 31)).toInt32 &&& 858993459)) + (Int32.toUInt32 ((((a1 - ((Int32.toUInt32 (a1) >>> (Int32.toUInt32 (1) &&& Int32.toUInt32 31)).toInt32 &&& 1431655765)) &&& 858993459) + ((Int32.toUInt32 ((a1 - ((Int32.toUInt32 (a1) >>> (Int32.toUInt32 (1) &&& Int32.toUInt32 31)).toInt32 &&& 1431655765))) >>> (Int32.toUInt32 (2) &&& Int32.toUInt32 31)).toInt32 &&& 858993459))) >>> (Int32.toUInt32 (4) &&& Int32.toUInt32 31)).toInt32) &&& 252645135)) >>> (Int32.toUInt32 (8) &&& Int32.toUInt32 31)).toInt32) + (Int32.toUInt32 (((((((a1 - ((Int32.toUInt32 (a1) >>> (Int32.toUInt32 (1) &&& Int32.toUInt32 31)).toInt32 &&& 1431655765)) &&& 858993459) + ((Int32.toUInt32 ((a1 - ((Int32.toUInt32 (a1) >>> (Int32.toUInt32 (1) &&& Int32.toUInt32 31)).toInt32 &&& 1431655765))) >>> (Int32.toUInt32 (2) &&& Int32.toUInt32 31)).toInt32 &&& 858993459)) + (Int32.toUInt32 ((((a1 - ((Int32.toUInt32 (a1) >>> (Int32.toUInt32 (1) &&& Int32.toUInt32 31)).toInt32 &&& 1431655765)) &&& 858993459) + ((Int32.toUInt32 ((a1 - ((Int32.toUInt32 (a1) >>> (Int32.toUInt32 (1) &&& Int32.toUInt32 31)).toInt32 &&& 1431655765))) >>> (Int32.toUInt32 (2) &&& Int32.toUInt32 31)).toInt32 &&& 858993459))) >>> (Int32.toUInt32 (4) &&& Int32.toUInt32 31)).toInt32) &&& 252645135) + (Int32.toUInt32 ((((((a1 - ((Int32.toUInt32 (a1) >>> (Int32.toUInt32 (1) &&& Int32.toUInt32 31)).toInt32 &&& 1431655765)) &&& 858993459) + ((Int32.toUInt32 ((a1 - ((Int32.toUInt32 (a1) >>> (Int32.toUInt32 (1) &&& Int32.toUInt32 31)).toInt32 &&& 1431655765))) >>> (Int32.toUInt32 (2) &&& Int32.toUInt32 31)).toInt32 &&& 858993459)) + (Int32.toUInt32 ((((a1 - ((Int32.toUInt32 (a1) >>> (Int32.toUInt32 (1) &&& Int32.toUInt32 31)).toInt32 &&& 1431655765)) &&& 858993459) + ((Int32.toUInt32 ((a1 - ((Int32.toUInt32 (a1) >>> (Int32.toUInt32 (1) &&& Int32.toUInt32 31)).toInt32 &&& 1431655765))) >>> (Int32.toUInt32 (2) &&& Int32.toUInt32 31)).toInt32 &&& 858993459))) >>> (Int32.toUInt32 (4) &&& Int32.toUInt32 31)).toInt32) &&& 252645135)) >>> (Int32.toUInt32 (8) &&& Int32.toUInt32 31)).toInt32)) >>> (Int32.toUInt32 (16) &&& Int32.toUInt32 31)).toInt32)))]) hx hb dJ6_bitCount_0f7a4_47 rfl hl (by decide) rfl (fun ls hl => ?_)
  refine lv_iload_n hx hb dJ6_bitCount_0f7a4_48 rfl (lv_at hl 0 rfl) ?_
  refine lv_bipush (v := 63) hx hb dJ6_bitCount_0f7a4_49 (by decide) ?_
  refine lv_iand hx hb dJ6_bitCount_0f7a4_51 ?_
  subst h
  exact W.iret hx hb hr (r_end X hP hS) hS.2.2 dJ6_bitCount_0f7a4_52 (hlocks := hlk)

def f_X3_farthestPlace_6 (M : Mem) (x1_1 : Int32) (x2_2 : Int32) (x3_3 : Int32) : Nat → Int32 → Int32 → Option (Int32)
  | 0, _, _ => none
  | fu_6 + 1, x4_4, x5_5 => (if ((1 : Int32) <<< (x1_1 &&& 31)) ≤ x5_5 then some (x4_4) else (if ibd (x5_5) 1024 then (if (M 89 (Int32.toNatClampNeg (x5_5))) ≤ 0 then (f_X3_farthestPlace_6 M x1_1 x2_2 x3_3 fu_6 (x4_4) ((x5_5 + 1))) else (if (((x5_5 : Int32) >>> (x2_2 &&& 31)) &&& 1) = 0 then (if ibd (x2_2) 10 then (if ((M 88 (Int32.toNatClampNeg (x2_2))) &&& (x5_5 ^^^ (-1))) = 0 then (if x4_4 = (-1) then (f_X3_farthestPlace_6 M x1_1 x2_2 x3_3 fu_6 ((f_J6_bitCount_0f7a4 (x5_5))) ((x5_5 + 1))) else (if x3_3 = 0 then (if x4_4 ≤ (f_J6_bitCount_0f7a4 (x5_5)) then (f_X3_farthestPlace_6 M x1_1 x2_2 x3_3 fu_6 (x4_4) ((x5_5 + 1))) else (f_X3_farthestPlace_6 M x1_1 x2_2 x3_3 fu_6 ((f_J6_bitCount_0f7a4 (x5_5))) ((x5_5 + 1)))) else (if (f_J6_bitCount_0f7a4 (x5_5)) ≤ x4_4 then (f_X3_farthestPlace_6 M x1_1 x2_2 x3_3 fu_6 (x4_4) ((x5_5 + 1))) else (f_X3_farthestPlace_6 M x1_1 x2_2 x3_3 fu_6 ((f_J6_bitCount_0f7a4 (x5_5))) ((x5_5 + 1)))))) else (f_X3_farthestPlace_6 M x1_1 x2_2 x3_3 fu_6 (x4_4) ((x5_5 + 1)))) else none) else (f_X3_farthestPlace_6 M x1_1 x2_2 x3_3 fu_6 (x4_4) ((x5_5 + 1))))) else none))
def f_X3_farthestPlace (M : Mem) (a1 : Int32) (a2 : Int32) (a3 : Int32) : Option (Int32) :=
  (f_X3_farthestPlace_6 M (a1) (a2) (a3) FU ((-1)) (0))
set_option maxRecDepth 100000 in
set_option maxHeartbeats 4000000 in
theorem c_X3_farthestPlace (l : Launch) {G : GT} {φ : Nat → Nat} {n : Nat} {M : Mem} {a1 : Int32} {a2 : Int32} {a3 : Int32} (hI : wI φ n) (hn : 107 ≤ n) {r : Int32} (h : f_X3_farthestPlace M a1 a2 a3 = some r) : CT l yX3_farthestPlace cX3_farthestPlace 8 (some .int) ({ frames := 1, cells := 0, slots := 0, locals := 20 } : Room) [.ref (φ 85), .int (a1), .int (a2), .int (a3)] (WB (cX G φ) φ M n G) (some (.int r)) (WB (cX G φ) φ (M) n G) φ n := by
  unfold f_X3_farthestPlace at h
  refine r_start (plainFor_of_name (by decide)) (Nat.le_of_ble_eq_true rfl) hI ?_
  intro p e s m args below meth c ls X hr hlk hP hl
  have hS : va_S (wA φ n s.heap.size) s.heap s.heap [] := va_S.rf
  have hx := X.1.1
  have hb := X.1.2.1
  have hl : lv_has ls 8 [(0, .ref (φ 85)), (1, .int (a1)), (2, .int (a2)), (3, .int (a3))] := hl
  have L6 : ∀ (fu_6 : Nat) (x1_1 : Int32) (x2_2 : Int32) (x3_3 : Int32) (x4_4 : Int32) (x5_5 : Int32)  (H : Heap) (locs : List Loc) (ls : Array Slot), va_P G.1 vwCl (wW (cX G φ) φ M n) H → va_S (wA φ n s.heap.size) s.heap H locs → lv_has ls 8 [(0, .ref (φ 85)), (1, .int (x1_1)), (2, .int (x2_2)), (3, .int (x3_3)), (4, .int (x4_4)), (5, .int (x5_5))] → f_X3_farthestPlace_6 M x1_1 x2_2 x3_3 fu_6 x4_4 x5_5 = some r → W p l e ({ frames := 1, cells := 0, slots := 0, locals := 20 } : Room) s m args below meth c H locs 0 0 (MQ below (QQ (some (.int r)) (WB (cX G φ) φ (M) n G) (wA φ n s.heap.size)) args s 0 0 (wA φ n s.heap.size)) (F0 m 6 ls []) := by
    intro fu_6
    induction fu_6 with
    | zero =>
      intro x1_1 x2_2 x3_3 x4_4 x5_5 H locs ls _ _ _  h
      have h : (none : Option (Int32)) = some r := h
      cases h
    | succ fu_6 ih =>
      intro x1_1 x2_2 x3_3 x4_4 x5_5 H locs ls hP hS hl  h
      rw [f_X3_farthestPlace_6] at h
      refine lv_iload hx hb dX3_farthestPlace_6 (lv_at hl 5 rfl) ?_
      refine lv_iconst (v := 1) hx hb dX3_farthestPlace_8 (by decide) ?_
      refine lv_iload_n hx hb dX3_farthestPlace_9 rfl (lv_at hl 1 rfl) ?_
      refine lv_ishl hx hb dX3_farthestPlace_10 ?_
      refine lv_icmp_ge (tgt := 103) hx hb dX3_farthestPlace_11 (by decide) (fun c_7 => ?_) (fun c_7 => ?_)
      · rw [if_pos c_7] at h
        refine lv_iload hx hb dX3_farthestPlace_103 (lv_at hl 4 rfl) ?_
        obtain rfl := Option.some.inj h
        exact W.iret hx hb hr (r_end X hP hS) hS.2.2 dX3_farthestPlace_105 (hlocks := hlk)
      · rw [if_neg c_7] at h
        refine lv_aload_n hx hb dX3_farthestPlace_14 rfl (lv_at hl 0 rfl) ?_
        refine G_X3_25 X.1 hn hP dX3_farthestPlace_15 ?_
        refine lv_iload hx hb dX3_farthestPlace_18 (lv_at hl 5 rfl) ?_
        obtain ⟨c_8, h⟩ := og h
        refine r_iald (k := (Int32.toNatClampNeg (x5_5))) X.1 hP (by omega) sX_mways rfl (vin c_8) dX3_farthestPlace_20 ?_
        refine lv_if_le (tgt := 51) hx hb dX3_farthestPlace_21 (by decide) (fun c_9 => ?_) (fun c_9 => ?_)
        · rw [if_pos c_9] at h
          refine lv_iconst (v := 0) hx hb dX3_farthestPlace_51 (by decide) ?_
          refine lv_istore (lv' := [(6, .int (0)), (0, .ref (φ 85)), (1, .int (x1_1)), (2, .int (x2_2)), (3, .int (x3_3)), (4, .int (x4_4)), (5, .int (x5_5))]) hx hb dX3_farthestPlace_52 hl (by decide) rfl (fun ls hl => ?_)
          refine lv_iload hx hb dX3_farthestPlace_54 (lv_at hl 6 rfl) ?_
          refine c_S0 (As := [.int (x5_5)]) (rest := []) X hl.1 (c_J6_bitCount_0f7a4 l X.2.2.2.1.1 rfl) (w_X3_38) qw_840 ⟨Nat.le_of_ble_eq_true rfl, Nat.le_of_ble_eq_true rfl⟩ rfl rfl hP hS (Nat.le_of_ble_eq_true rfl) dX3_farthestPlace_56 (fun H locs hP hS => ?_)
          refine lv_istore (lv' := [(7, .int ((f_J6_bitCount_0f7a4 (x5_5)))), (6, .int (0)), (0, .ref (φ 85)), (1, .int (x1_1)), (2, .int (x2_2)), (3, .int (x3_3)), (4, .int (x4_4)), (5, .int (x5_5))]) hx hb dX3_farthestPlace_59 hl (by decide) rfl (fun ls hl => ?_)
          refine lv_iload hx hb dX3_farthestPlace_61 (lv_at hl 1 rfl) ?_
          refine lv_if_eq (tgt := 97) hx hb dX3_farthestPlace_63 (by decide) (fun _ => ?_) (fun c => absurd c (by decide))
          refine lv_iinc (v := (x5_5 + 1)) (lv' := [(5, .int ((x5_5 + 1))), (7, .int ((f_J6_bitCount_0f7a4 (x5_5)))), (6, .int (0)), (0, .ref (φ 85)), (1, .int (x1_1)), (2, .int (x2_2)), (3, .int (x3_3)), (4, .int (x4_4))]) hx hb dX3_farthestPlace_97 hl (k := 7) rfl (by rw [show Int32.ofInt (1) = 1 from by decide]) (by decide) rfl (fun ls hl => ?_)
          refine lv_goto (tgt := 6) hx hb dX3_farthestPlace_100 (by decide) ?_
          exact ih _ _ _ _ _ _ _ _ hP hS (lv_sub hl [3, 4, 5, 6, 7, 0] rfl)  h
        · rw [if_neg c_9] at h
          refine lv_iload hx hb dX3_farthestPlace_24 (lv_at hl 5 rfl) ?_
          refine lv_iload_n hx hb dX3_farthestPlace_26 rfl (lv_at hl 2 rfl) ?_
          refine lv_ishr hx hb dX3_farthestPlace_27 ?_
          refine lv_iconst (v := 1) hx hb dX3_farthestPlace_28 (by decide) ?_
          refine lv_iand hx hb dX3_farthestPlace_29 ?_
          refine lv_if_ne (tgt := 51) hx hb dX3_farthestPlace_30 (by decide) (fun c_10 => ?_) (fun c_10 => ?_)
          · rw [if_neg c_10] at h
            refine lv_iconst (v := 0) hx hb dX3_farthestPlace_51 (by decide) ?_
            refine lv_istore (lv' := [(6, .int (0)), (0, .ref (φ 85)), (1, .int (x1_1)), (2, .int (x2_2)), (3, .int (x3_3)), (4, .int (x4_4)), (5, .int (x5_5))]) hx hb dX3_farthestPlace_52 hl (by decide) rfl (fun ls hl => ?_)
            refine lv_iload hx hb dX3_farthestPlace_54 (lv_at hl 6 rfl) ?_
            refine c_S0 (As := [.int (x5_5)]) (rest := []) X hl.1 (c_J6_bitCount_0f7a4 l X.2.2.2.1.1 rfl) (w_X3_38) qw_840 ⟨Nat.le_of_ble_eq_true rfl, Nat.le_of_ble_eq_true rfl⟩ rfl rfl hP hS (Nat.le_of_ble_eq_true rfl) dX3_farthestPlace_56 (fun H locs hP hS => ?_)
            refine lv_istore (lv' := [(7, .int ((f_J6_bitCount_0f7a4 (x5_5)))), (6, .int (0)), (0, .ref (φ 85)), (1, .int (x1_1)), (2, .int (x2_2)), (3, .int (x3_3)), (4, .int (x4_4)), (5, .int (x5_5))]) hx hb dX3_farthestPlace_59 hl (by decide) rfl (fun ls hl => ?_)
            refine lv_iload hx hb dX3_farthestPlace_61 (lv_at hl 1 rfl) ?_
            refine lv_if_eq (tgt := 97) hx hb dX3_farthestPlace_63 (by decide) (fun _ => ?_) (fun c => absurd c (by decide))
            refine lv_iinc (v := (x5_5 + 1)) (lv' := [(5, .int ((x5_5 + 1))), (7, .int ((f_J6_bitCount_0f7a4 (x5_5)))), (6, .int (0)), (0, .ref (φ 85)), (1, .int (x1_1)), (2, .int (x2_2)), (3, .int (x3_3)), (4, .int (x4_4))]) hx hb dX3_farthestPlace_97 hl (k := 7) rfl (by rw [show Int32.ofInt (1) = 1 from by decide]) (by decide) rfl (fun ls hl => ?_)
            refine lv_goto (tgt := 6) hx hb dX3_farthestPlace_100 (by decide) ?_
            exact ih _ _ _ _ _ _ _ _ hP hS (lv_sub hl [3, 4, 5, 6, 7, 0] rfl)  h
          · rw [if_pos c_10] at h
            refine lv_aload_n hx hb dX3_farthestPlace_33 rfl (lv_at hl 0 rfl) ?_
            refine G_X3_22 X.1 hn hP dX3_farthestPlace_34 ?_
            refine lv_iload_n hx hb dX3_farthestPlace_37 rfl (lv_at hl 2 rfl) ?_
            obtain ⟨c_11, h⟩ := og h
            refine r_iald (k := (Int32.toNatClampNeg (x2_2))) X.1 hP (by omega) sX_mbefore rfl (vin c_11) dX3_farthestPlace_38 ?_
            refine lv_iload hx hb dX3_farthestPlace_39 (lv_at hl 5 rfl) ?_
            refine lv_iconst (v := (-1)) hx hb dX3_farthestPlace_41 (by decide) ?_
            refine lv_ixor hx hb dX3_farthestPlace_42 ?_
            refine lv_iand hx hb dX3_farthestPlace_43 ?_
            refine lv_if_ne (tgt := 51) hx hb dX3_farthestPlace_44 (by decide) (fun c_12 => ?_) (fun c_12 => ?_)
            · rw [if_neg c_12] at h
              refine lv_iconst (v := 0) hx hb dX3_farthestPlace_51 (by decide) ?_
              refine lv_istore (lv' := [(6, .int (0)), (0, .ref (φ 85)), (1, .int (x1_1)), (2, .int (x2_2)), (3, .int (x3_3)), (4, .int (x4_4)), (5, .int (x5_5))]) hx hb dX3_farthestPlace_52 hl (by decide) rfl (fun ls hl => ?_)
              refine lv_iload hx hb dX3_farthestPlace_54 (lv_at hl 6 rfl) ?_
              refine c_S0 (As := [.int (x5_5)]) (rest := []) X hl.1 (c_J6_bitCount_0f7a4 l X.2.2.2.1.1 rfl) (w_X3_38) qw_840 ⟨Nat.le_of_ble_eq_true rfl, Nat.le_of_ble_eq_true rfl⟩ rfl rfl hP hS (Nat.le_of_ble_eq_true rfl) dX3_farthestPlace_56 (fun H locs hP hS => ?_)
              refine lv_istore (lv' := [(7, .int ((f_J6_bitCount_0f7a4 (x5_5)))), (6, .int (0)), (0, .ref (φ 85)), (1, .int (x1_1)), (2, .int (x2_2)), (3, .int (x3_3)), (4, .int (x4_4)), (5, .int (x5_5))]) hx hb dX3_farthestPlace_59 hl (by decide) rfl (fun ls hl => ?_)
              refine lv_iload hx hb dX3_farthestPlace_61 (lv_at hl 1 rfl) ?_
              refine lv_if_eq (tgt := 97) hx hb dX3_farthestPlace_63 (by decide) (fun _ => ?_) (fun c => absurd c (by decide))
              refine lv_iinc (v := (x5_5 + 1)) (lv' := [(5, .int ((x5_5 + 1))), (7, .int ((f_J6_bitCount_0f7a4 (x5_5)))), (6, .int (0)), (0, .ref (φ 85)), (1, .int (x1_1)), (2, .int (x2_2)), (3, .int (x3_3)), (4, .int (x4_4))]) hx hb dX3_farthestPlace_97 hl (k := 7) rfl (by rw [show Int32.ofInt (1) = 1 from by decide]) (by decide) rfl (fun ls hl => ?_)
              refine lv_goto (tgt := 6) hx hb dX3_farthestPlace_100 (by decide) ?_
              exact ih _ _ _ _ _ _ _ _ hP hS (lv_sub hl [3, 4, 5, 6, 7, 0] rfl)  h
            · rw [if_pos c_12] at h
              refine lv_iconst (v := 1) hx hb dX3_farthestPlace_47 (by decide) ?_
              refine lv_goto (tgt := 52) hx hb dX3_farthestPlace_48 (by decide) ?_
              refine lv_istore (lv' := [(6, .int (1)), (0, .ref (φ 85)), (1, .int (x1_1)), (2, .int (x2_2)), (3, .int (x3_3)), (4, .int (x4_4)), (5, .int (x5_5))]) hx hb dX3_farthestPlace_52 hl (by decide) rfl (fun ls hl => ?_)
              refine lv_iload hx hb dX3_farthestPlace_54 (lv_at hl 6 rfl) ?_
              refine c_S0 (As := [.int (x5_5)]) (rest := []) X hl.1 (c_J6_bitCount_0f7a4 l X.2.2.2.1.1 rfl) (w_X3_38) qw_840 ⟨Nat.le_of_ble_eq_true rfl, Nat.le_of_ble_eq_true rfl⟩ rfl rfl hP hS (Nat.le_of_ble_eq_true rfl) dX3_farthestPlace_56 (fun H locs hP hS => ?_)
              refine lv_istore (lv' := [(7, .int ((f_J6_bitCount_0f7a4 (x5_5)))), (6, .int (1)), (0, .ref (φ 85)), (1, .int (x1_1)), (2, .int (x2_2)), (3, .int (x3_3)), (4, .int (x4_4)), (5, .int (x5_5))]) hx hb dX3_farthestPlace_59 hl (by decide) rfl (fun ls hl => ?_)
              refine lv_iload hx hb dX3_farthestPlace_61 (lv_at hl 1 rfl) ?_
              refine lv_if_eq (tgt := 97) hx hb dX3_farthestPlace_63 (by decide) (fun c => absurd c (by decide)) (fun _ => ?_)
              refine lv_iload hx hb dX3_farthestPlace_66 (lv_at hl 6 rfl) ?_
              refine lv_iconst (v := (-1)) hx hb dX3_farthestPlace_68 (by decide) ?_
              refine lv_icmp_eq (tgt := 93) hx hb dX3_farthestPlace_69 (by decide) (fun c_13 => ?_) (fun c_13 => ?_)
              · rw [if_pos c_13] at h
                refine lv_iload hx hb dX3_farthestPlace_93 (lv_at hl 0 rfl) ?_
                refine lv_istore (lv' := [(4, .int ((f_J6_bitCount_0f7a4 (x5_5)))), (7, .int ((f_J6_bitCount_0f7a4 (x5_5)))), (6, .int (1)), (0, .ref (φ 85)), (1, .int (x1_1)), (2, .int (x2_2)), (3, .int (x3_3)), (5, .int (x5_5))]) hx hb dX3_farthestPlace_95 hl (by decide) rfl (fun ls hl => ?_)
                refine lv_iinc (v := (x5_5 + 1)) (lv' := [(5, .int ((x5_5 + 1))), (4, .int ((f_J6_bitCount_0f7a4 (x5_5)))), (7, .int ((f_J6_bitCount_0f7a4 (x5_5)))), (6, .int (1)), (0, .ref (φ 85)), (1, .int (x1_1)), (2, .int (x2_2)), (3, .int (x3_3))]) hx hb dX3_farthestPlace_97 hl (k := 7) rfl (by rw [show Int32.ofInt (1) = 1 from by decide]) (by decide) rfl (fun ls hl => ?_)
                refine lv_goto (tgt := 6) hx hb dX3_farthestPlace_100 (by decide) ?_
                exact ih _ _ _ _ _ _ _ _ hP hS (lv_sub hl [4, 5, 6, 7, 1, 0] rfl)  h
              · rw [if_neg c_13] at h
                refine lv_iload_n hx hb dX3_farthestPlace_72 rfl (lv_at hl 5 rfl) ?_
                refine lv_if_eq (tgt := 86) hx hb dX3_farthestPlace_73 (by decide) (fun c_14 => ?_) (fun c_14 => ?_)
                · rw [if_pos c_14] at h
                  refine lv_iload hx hb dX3_farthestPlace_86 (lv_at hl 0 rfl) ?_
                  refine lv_iload hx hb dX3_farthestPlace_88 (lv_at hl 6 rfl) ?_
                  refine lv_icmp_ge (tgt := 97) hx hb dX3_farthestPlace_90 (by decide) (fun c_15 => ?_) (fun c_15 => ?_)
                  · rw [if_pos c_15] at h
                    refine lv_iinc (v := (x5_5 + 1)) (lv' := [(5, .int ((x5_5 + 1))), (7, .int ((f_J6_bitCount_0f7a4 (x5_5)))), (6, .int (1)), (0, .ref (φ 85)), (1, .int (x1_1)), (2, .int (x2_2)), (3, .int (x3_3)), (4, .int (x4_4))]) hx hb dX3_farthestPlace_97 hl (k := 7) rfl (by rw [show Int32.ofInt (1) = 1 from by decide]) (by decide) rfl (fun ls hl => ?_)
                    refine lv_goto (tgt := 6) hx hb dX3_farthestPlace_100 (by decide) ?_
                    exact ih _ _ _ _ _ _ _ _ hP hS (lv_sub hl [3, 4, 5, 6, 7, 0] rfl)  h
                  · rw [if_neg c_15] at h
                    refine lv_iload hx hb dX3_farthestPlace_93 (lv_at hl 0 rfl) ?_
                    refine lv_istore (lv' := [(4, .int ((f_J6_bitCount_0f7a4 (x5_5)))), (7, .int ((f_J6_bitCount_0f7a4 (x5_5)))), (6, .int (1)), (0, .ref (φ 85)), (1, .int (x1_1)), (2, .int (x2_2)), (3, .int (x3_3)), (5, .int (x5_5))]) hx hb dX3_farthestPlace_95 hl (by decide) rfl (fun ls hl => ?_)
                    refine lv_iinc (v := (x5_5 + 1)) (lv' := [(5, .int ((x5_5 + 1))), (4, .int ((f_J6_bitCount_0f7a4 (x5_5)))), (7, .int ((f_J6_bitCount_0f7a4 (x5_5)))), (6, .int (1)), (0, .ref (φ 85)), (1, .int (x1_1)), (2, .int (x2_2)), (3, .int (x3_3))]) hx hb dX3_farthestPlace_97 hl (k := 7) rfl (by rw [show Int32.ofInt (1) = 1 from by decide]) (by decide) rfl (fun ls hl => ?_)
                    refine lv_goto (tgt := 6) hx hb dX3_farthestPlace_100 (by decide) ?_
                    exact ih _ _ _ _ _ _ _ _ hP hS (lv_sub hl [4, 5, 6, 7, 1, 0] rfl)  h
                · rw [if_neg c_14] at h
                  refine lv_iload hx hb dX3_farthestPlace_76 (lv_at hl 0 rfl) ?_
                  refine lv_iload hx hb dX3_farthestPlace_78 (lv_at hl 6 rfl) ?_
                  refine lv_icmp_le (tgt := 97) hx hb dX3_farthestPlace_80 (by decide) (fun c_16 => ?_) (fun c_16 => ?_)
                  · rw [if_pos c_16] at h
                    refine lv_iinc (v := (x5_5 + 1)) (lv' := [(5, .int ((x5_5 + 1))), (7, .int ((f_J6_bitCount_0f7a4 (x5_5)))), (6, .int (1)), (0, .ref (φ 85)), (1, .int (x1_1)), (2, .int (x2_2)), (3, .int (x3_3)), (4, .int (x4_4))]) hx hb dX3_farthestPlace_97 hl (k := 7) rfl (by rw [show Int32.ofInt (1) = 1 from by decide]) (by decide) rfl (fun ls hl => ?_)
                    refine lv_goto (tgt := 6) hx hb dX3_farthestPlace_100 (by decide) ?_
                    exact ih _ _ _ _ _ _ _ _ hP hS (lv_sub hl [3, 4, 5, 6, 7, 0] rfl)  h
                  · rw [if_neg c_16] at h
                    refine lv_goto (tgt := 93) hx hb dX3_farthestPlace_83 (by decide) ?_
                    refine lv_iload hx hb dX3_farthestPlace_93 (lv_at hl 0 rfl) ?_
                    refine lv_istore (lv' := [(4, .int ((f_J6_bitCount_0f7a4 (x5_5)))), (7, .int ((f_J6_bitCount_0f7a4 (x5_5)))), (6, .int (1)), (0, .ref (φ 85)), (1, .int (x1_1)), (2, .int (x2_2)), (3, .int (x3_3)), (5, .int (x5_5))]) hx hb dX3_farthestPlace_95 hl (by decide) rfl (fun ls hl => ?_)
                    refine lv_iinc (v := (x5_5 + 1)) (lv' := [(5, .int ((x5_5 + 1))), (4, .int ((f_J6_bitCount_0f7a4 (x5_5)))), (7, .int ((f_J6_bitCount_0f7a4 (x5_5)))), (6, .int (1)), (0, .ref (φ 85)), (1, .int (x1_1)), (2, .int (x2_2)), (3, .int (x3_3))]) hx hb dX3_farthestPlace_97 hl (k := 7) rfl (by rw [show Int32.ofInt (1) = 1 from by decide]) (by decide) rfl (fun ls hl => ?_)
                    refine lv_goto (tgt := 6) hx hb dX3_farthestPlace_100 (by decide) ?_
                    exact ih _ _ _ _ _ _ _ _ hP hS (lv_sub hl [4, 5, 6, 7, 1, 0] rfl)  h
  refine lv_iconst (v := (-1)) hx hb dX3_farthestPlace_0 (by decide) ?_
  refine lv_istore (lv' := [(4, .int ((-1))), (0, .ref (φ 85)), (1, .int (a1)), (2, .int (a2)), (3, .int (a3))]) hx hb dX3_farthestPlace_1 hl (by decide) rfl (fun ls hl => ?_)
  refine lv_iconst (v := 0) hx hb dX3_farthestPlace_3 (by decide) ?_
  refine lv_istore (lv' := [(5, .int (0)), (4, .int ((-1))), (0, .ref (φ 85)), (1, .int (a1)), (2, .int (a2)), (3, .int (a3))]) hx hb dX3_farthestPlace_4 hl (by decide) rfl (fun ls hl => ?_)
  refine L6 _ _ _ _ _ _ _ _ _ hP hS (lv_sub hl [2, 3, 4, 5, 1, 0] rfl)  h

def f_X9_skipBlanks_0 : Nat → Mem → Option (Mem)
  | 0, _ => none
  | fu_2 + 1, M_1 => (if (M_1 19 0) ≤ (M_1 19 4) then some (M_1) else (if ibd ((M_1 19 4)) 160 then (if (M_1 58 (Int32.toNatClampNeg ((M_1 19 4)))) = 32 then (f_X9_skipBlanks_0 fu_2 (upd2 M_1 19 4 (((M_1 19 4) + 1)))) else (if ibd ((M_1 19 4)) 160 then (if (M_1 58 (Int32.toNatClampNeg ((M_1 19 4)))) = 10 then (f_X9_skipBlanks_0 fu_2 (upd2 M_1 19 4 (((M_1 19 4) + 1)))) else some (M_1)) else none)) else none))
def f_X9_skipBlanks (M : Mem) : Option (Mem) :=
  (f_X9_skipBlanks_0 FU M)
set_option maxRecDepth 100000 in
set_option maxHeartbeats 4000000 in
theorem c_X9_skipBlanks (l : Launch) {G : GT} {φ : Nat → Nat} {n : Nat} {M : Mem} (hI : wI φ n) (hn : 107 ≤ n) {r : Mem} (h : f_X9_skipBlanks M = some r) : CT l yX9_skipBlanks cX9_skipBlanks 1 none ({ frames := 0, cells := 0, slots := 0, locals := 0 } : Room) [.ref (φ 19)] (WB (cX G φ) φ M n G) (none) (WB (cX G φ) φ (r) n G) φ n := by
  unfold f_X9_skipBlanks at h
  refine r_start (plainFor_of_name (by decide)) (Nat.le_of_ble_eq_true rfl) hI ?_
  intro p e s m args below meth c ls X hr hlk hP hl
  have hS : va_S (wA φ n s.heap.size) s.heap s.heap [] := va_S.rf
  have hx := X.1.1
  have hb := X.1.2.1
  have hl : lv_has ls 1 [(0, .ref (φ 19))] := hl
  have L0 : ∀ (fu_2 : Nat) (M_1 : Mem)  (H : Heap) (locs : List Loc) (ls : Array Slot), va_P G.1 vwCl (wW (cX G φ) φ M_1 n) H → va_S (wA φ n s.heap.size) s.heap H locs → lv_has ls 1 [(0, .ref (φ 19))] → f_X9_skipBlanks_0 fu_2 M_1 = some r → W p l e ({ frames := 0, cells := 0, slots := 0, locals := 0 } : Room) s m args below meth c H locs 0 0 (MQ below (QQ (none) (WB (cX G φ) φ (r) n G) (wA φ n s.heap.size)) args s 0 0 (wA φ n s.heap.size)) (F0 m 0 ls []) := by
    intro fu_2
    induction fu_2 with
    | zero =>
      intro M_1 H locs ls _ _ _  h
      have h : (none : Option (Mem)) = some r := h
      cases h
    | succ fu_2 ih =>
      intro M_1 H locs ls hP hS hl  h
      rw [f_X9_skipBlanks_0] at h
      refine lv_aload_n hx hb dX9_skipBlanks_0 rfl (lv_at hl 0 rfl) ?_
      refine G_X9_25 X.1 hn hP dX9_skipBlanks_1 ?_
      refine lv_aload_n hx hb dX9_skipBlanks_4 rfl (lv_at hl 0 rfl) ?_
      refine G_X9_11 X.1 hn hP dX9_skipBlanks_5 ?_
      refine lv_icmp_ge (tgt := 52) hx hb dX9_skipBlanks_8 (by decide) (fun c_3 => ?_) (fun c_3 => ?_)
      · rw [if_pos c_3] at h
        obtain rfl := Option.some.inj h
        exact W.vret hx hb hr (r_end X hP hS) hS.2.2 dX9_skipBlanks_52 (hlocks := hlk)
      · rw [if_neg c_3] at h
        refine lv_aload_n hx hb dX9_skipBlanks_11 rfl (lv_at hl 0 rfl) ?_
        refine G_X9_15 X.1 hn hP dX9_skipBlanks_12 ?_
        refine lv_aload_n hx hb dX9_skipBlanks_15 rfl (lv_at hl 0 rfl) ?_
        refine G_X9_25 X.1 hn hP dX9_skipBlanks_16 ?_
        obtain ⟨c_4, h⟩ := og h
        refine r_iald (k := (Int32.toNatClampNeg ((M_1 19 4)))) X.1 hP (by omega) sX_bytes rfl (vin c_4) dX9_skipBlanks_19 ?_
        refine lv_bipush (v := 32) hx hb dX9_skipBlanks_20 (by decide) ?_
        refine lv_icmp_eq (tgt := 39) hx hb dX9_skipBlanks_22 (by decide) (fun c_5 => ?_) (fun c_5 => ?_)
        · rw [if_pos c_5] at h
          refine lv_aload_n hx hb dX9_skipBlanks_39 rfl (lv_at hl 0 rfl) ?_
          refine lv_dup hx hb dX9_skipBlanks_40 rfl ?_
          refine G_X9_25 X.1 hn hP dX9_skipBlanks_41 ?_
          refine lv_iconst (v := 1) hx hb dX9_skipBlanks_44 (by decide) ?_
          refine lv_iadd hx hb dX9_skipBlanks_45 ?_
          refine P_X9_25 X.1 hn X.2.2.2.1 hP hS dX9_skipBlanks_46 (fun H locs hP hS => ?_)
          refine lv_goto (tgt := 0) hx hb dX9_skipBlanks_49 (by decide) ?_
          exact ih _ _ _ _ hP hS (lv_sub hl [0] rfl)  h
        · rw [if_neg c_5] at h
          refine lv_aload_n hx hb dX9_skipBlanks_25 rfl (lv_at hl 0 rfl) ?_
          refine G_X9_15 X.1 hn hP dX9_skipBlanks_26 ?_
          refine lv_aload_n hx hb dX9_skipBlanks_29 rfl (lv_at hl 0 rfl) ?_
          refine G_X9_25 X.1 hn hP dX9_skipBlanks_30 ?_
          obtain ⟨c_6, h⟩ := og h
          refine r_iald (k := (Int32.toNatClampNeg ((M_1 19 4)))) X.1 hP (by omega) sX_bytes rfl (vin c_6) dX9_skipBlanks_33 ?_
          refine lv_bipush (v := 10) hx hb dX9_skipBlanks_34 (by decide) ?_
          refine lv_icmp_ne (tgt := 52) hx hb dX9_skipBlanks_36 (by decide) (fun c_7 => ?_) (fun c_7 => ?_)
          · rw [if_neg c_7] at h
            obtain rfl := Option.some.inj h
            exact W.vret hx hb hr (r_end X hP hS) hS.2.2 dX9_skipBlanks_52 (hlocks := hlk)
          · rw [if_pos c_7] at h
            refine lv_aload_n hx hb dX9_skipBlanks_39 rfl (lv_at hl 0 rfl) ?_
            refine lv_dup hx hb dX9_skipBlanks_40 rfl ?_
            refine G_X9_25 X.1 hn hP dX9_skipBlanks_41 ?_
            refine lv_iconst (v := 1) hx hb dX9_skipBlanks_44 (by decide) ?_
            refine lv_iadd hx hb dX9_skipBlanks_45 ?_
            refine P_X9_25 X.1 hn X.2.2.2.1 hP hS dX9_skipBlanks_46 (fun H locs hP hS => ?_)
            refine lv_goto (tgt := 0) hx hb dX9_skipBlanks_49 (by decide) ?_
            exact ih _ _ _ _ hP hS (lv_sub hl [0] rfl)  h
  refine L0 _ _ _ _ _ hP hS (lv_sub hl [0] rfl)  h

def f_X9_isSmall (a1 : Int32) : Int32 :=
  (if a1 < 97 then 0 else (if 122 < a1 then 0 else 1))
theorem bz_X9_isSmall (a1 : Int32) : f_X9_isSmall a1 = 0 ∨ f_X9_isSmall a1 = 1 := by
  unfold f_X9_isSmall
  repeat' (first | exact Or.inl rfl | exact Or.inr rfl | split)
set_option maxRecDepth 100000 in
set_option maxHeartbeats 4000000 in
theorem c_X9_isSmall (l : Launch) {G : GT} {φ : Nat → Nat} {n : Nat} {M : Mem} {a1 : Int32} (hI : wI φ n) (hn : 107 ≤ n) {r : Int32} (h : f_X9_isSmall a1 = r) : CT l yX9_isSmall cX9_isSmall 1 (some .boolean) ({ frames := 0, cells := 0, slots := 0, locals := 0 } : Room) [.int (a1)] (WB (cX G φ) φ M n G) (some (.int r)) (WB (cX G φ) φ (M) n G) φ n := by
  unfold f_X9_isSmall at h
  refine r_start (plainFor_of_name (by decide)) (Nat.le_of_ble_eq_true rfl) hI ?_
  intro p e s m args below meth c ls X hr hlk hP hl
  have hS : va_S (wA φ n s.heap.size) s.heap s.heap [] := va_S.rf
  have hx := X.1.1
  have hb := X.1.2.1
  have hl : lv_has ls 1 [(0, .int (a1))] := hl
  refine lv_iload_n hx hb dX9_isSmall_0 rfl (lv_at hl 0 rfl) ?_
  refine lv_bipush (v := 97) hx hb dX9_isSmall_1 (by decide) ?_
  refine lv_icmp_lt (tgt := 16) hx hb dX9_isSmall_3 (by decide) (fun c_1 => ?_) (fun c_1 => ?_)
  · rw [if_pos c_1] at h
    refine lv_iconst (v := 0) hx hb dX9_isSmall_16 (by decide) ?_
    subst h
    exact W.zret (v := 0) (ty := .boolean) hx hb hr rfl (r_end X hP hS) hS.2.2 dX9_isSmall_17 (hlocks := hlk)
  · rw [if_neg c_1] at h
    refine lv_iload_n hx hb dX9_isSmall_6 rfl (lv_at hl 0 rfl) ?_
    refine lv_bipush (v := 122) hx hb dX9_isSmall_7 (by decide) ?_
    refine lv_icmp_gt (tgt := 16) hx hb dX9_isSmall_9 (by decide) (fun c_2 => ?_) (fun c_2 => ?_)
    · rw [if_pos c_2] at h
      refine lv_iconst (v := 0) hx hb dX9_isSmall_16 (by decide) ?_
      subst h
      exact W.zret (v := 0) (ty := .boolean) hx hb hr rfl (r_end X hP hS) hS.2.2 dX9_isSmall_17 (hlocks := hlk)
    · rw [if_neg c_2] at h
      refine lv_iconst (v := 1) hx hb dX9_isSmall_12 (by decide) ?_
      refine lv_goto (tgt := 17) hx hb dX9_isSmall_13 (by decide) ?_
      subst h
      exact W.zret (v := 1) (ty := .boolean) hx hb hr rfl (r_end X hP hS) hS.2.2 dX9_isSmall_17 (hlocks := hlk)

def f_X9_spells_17 (M : Mem) (x1_2 : Int32) (k2_3 : Nat) : Nat → Int32 → Option (Int32)
  | 0, _ => none
  | fu_6 + 1, x3_5 => (if (f_J0_length_8abf5 M k2_3) ≤ x3_5 then some (1) else (if ibd ((x1_2 + x3_5)) 160 then (Option.bind (f_J0_charAt_5068e M k2_3 (x3_5)) fun r_9 => (if (M 58 (Int32.toNatClampNeg ((x1_2 + x3_5)))) = r_9 then (f_X9_spells_17 M x1_2 k2_3 fu_6 ((x3_5 + 1))) else some (0))) else none))
def f_X9_spells (M : Mem) (a1 : Int32) (k2 : Nat) : Option (Int32) :=
  (if ((M 19 4) - a1) = (f_J0_length_8abf5 M k2) then (f_X9_spells_17 M (a1) k2 FU (0)) else some (0))
set_option maxRecDepth 100000 in
set_option maxHeartbeats 4000000 in
theorem c_X9_spells (l : Launch) {G : GT} {φ : Nat → Nat} {n : Nat} {M : Mem} {a1 : Int32} {k2 : Nat} (hI : wI φ n) (hn : 107 ≤ n) (hk2 : k2 < 13) {r : Int32} (h : f_X9_spells M a1 k2 = some r) : CT l yX9_spells cX9_spells 4 (some .boolean) ({ frames := 4, cells := 0, slots := 0, locals := 85 } : Room) [.ref (φ 19), .int (a1), .ref (saS G k2)] (WB (cX G φ) φ M n G) (some (.int r)) (WB (cX G φ) φ (M) n G) φ n := by
  unfold f_X9_spells at h
  refine r_start (plainFor_of_name (by decide)) (Nat.le_of_ble_eq_true rfl) hI ?_
  intro p e s m args below meth c ls X hr hlk hP hl
  have hS : va_S (wA φ n s.heap.size) s.heap s.heap [] := va_S.rf
  have hx := X.1.1
  have hb := X.1.2.1
  have hl : lv_has ls 4 [(0, .ref (φ 19)), (1, .int (a1)), (2, .ref (saS G k2))] := hl
  have L17 : ∀ (fu_6 : Nat) (x1_2 : Int32) (k2_3 : Nat) (x3_5 : Int32)  (H : Heap) (locs : List Loc) (ls : Array Slot) (hk_4 : k2_3 < 13), va_P G.1 vwCl (wW (cX G φ) φ M n) H → va_S (wA φ n s.heap.size) s.heap H locs → lv_has ls 4 [(0, .ref (φ 19)), (1, .int (x1_2)), (2, .ref (saS G k2_3)), (3, .int (x3_5))] → f_X9_spells_17 M x1_2 k2_3 fu_6 x3_5 = some r → W p l e ({ frames := 4, cells := 0, slots := 0, locals := 85 } : Room) s m args below meth c H locs 0 0 (MQ below (QQ (some (.int r)) (WB (cX G φ) φ (M) n G) (wA φ n s.heap.size)) args s 0 0 (wA φ n s.heap.size)) (F0 m 17 ls []) := by
    intro fu_6
    induction fu_6 with
    | zero =>
      intro x1_2 k2_3 x3_5 H locs ls hk_4 _ _ _  h
      have h : (none : Option (Int32)) = some r := h
      cases h
    | succ fu_6 ih =>
      intro x1_2 k2_3 x3_5 H locs ls hk_4 hP hS hl  h
      rw [f_X9_spells_17] at h
      refine lv_iload_n hx hb dX9_spells_17 rfl (lv_at hl 3 rfl) ?_
      refine lv_aload_n hx hb dX9_spells_18 rfl (lv_at hl 2 rfl) ?_
      refine c_VS0 (As := []) (rest := [.int (x3_5)]) (k := k2_3) X hl.1 (c_J0_length_8abf5 l X.2.2.2.1.1 hk_4 rfl) (w_X9_83) qw_379 qw_380 ⟨Nat.le_of_ble_eq_true rfl, Nat.le_of_ble_eq_true rfl⟩ rfl rfl hP hS hk_4 rfl (Nat.le_of_ble_eq_true rfl) dX9_spells_19 (fun H locs hP hS => ?_)
      refine lv_icmp_ge (tgt := 49) hx hb dX9_spells_22 (by decide) (fun c_7 => ?_) (fun c_7 => ?_)
      · rw [if_pos c_7] at h
        refine lv_iconst (v := 1) hx hb dX9_spells_49 (by decide) ?_
        obtain rfl := Option.some.inj h
        exact W.zret (v := 1) (ty := .boolean) hx hb hr rfl (r_end X hP hS) hS.2.2 dX9_spells_50 (hlocks := hlk)
      · rw [if_neg c_7] at h
        refine lv_aload_n hx hb dX9_spells_25 rfl (lv_at hl 0 rfl) ?_
        refine G_X9_15 X.1 hn hP dX9_spells_26 ?_
        refine lv_iload_n hx hb dX9_spells_29 rfl (lv_at hl 1 rfl) ?_
        refine lv_iload_n hx hb dX9_spells_30 rfl (lv_at hl 3 rfl) ?_
        refine lv_iadd hx hb dX9_spells_31 ?_
        obtain ⟨c_8, h⟩ := og h
        refine r_iald (k := (Int32.toNatClampNeg ((x1_2 + x3_5)))) X.1 hP (by omega) sX_bytes rfl (vin c_8) dX9_spells_32 ?_
        refine lv_aload_n hx hb dX9_spells_33 rfl (lv_at hl 2 rfl) ?_
        refine lv_iload_n hx hb dX9_spells_34 rfl (lv_at hl 3 rfl) ?_
        obtain ⟨r_9, hr_9, h⟩ := ob h
        refine c_VS0 (As := [.int (x3_5)]) (rest := [.int ((M 58 (Int32.toNatClampNeg ((x1_2 + x3_5)))))]) (k := k2_3) X hl.1 (c_J0_charAt_5068e l X.2.2.2.1.1 hk_4 hr_9) (w_X9_89) qw_389 qw_390 ⟨Nat.le_of_ble_eq_true rfl, Nat.le_of_ble_eq_true rfl⟩ rfl rfl hP hS hk_4 rfl (Nat.le_of_ble_eq_true rfl) dX9_spells_35 (fun H locs hP hS => ?_)
        refine lv_icmp_eq (tgt := 43) hx hb dX9_spells_38 (by decide) (fun c_10 => ?_) (fun c_10 => ?_)
        · rw [if_pos c_10] at h
          refine lv_iinc (v := (x3_5 + 1)) (lv' := [(3, .int ((x3_5 + 1))), (0, .ref (φ 19)), (1, .int (x1_2)), (2, .ref (saS G k2_3))]) hx hb dX9_spells_43 hl (k := 3) rfl (by rw [show Int32.ofInt (1) = 1 from by decide]) (by decide) rfl (fun ls hl => ?_)
          refine lv_goto (tgt := 17) hx hb dX9_spells_46 (by decide) ?_
          exact ih _ _ _ _ _ _ hk_4 hP hS (lv_sub hl [1, 2, 3, 0] rfl)  h
        · rw [if_neg c_10] at h
          refine lv_iconst (v := 0) hx hb dX9_spells_41 (by decide) ?_
          obtain rfl := Option.some.inj h
          exact W.zret (v := 0) (ty := .boolean) hx hb hr rfl (r_end X hP hS) hS.2.2 dX9_spells_42 (hlocks := hlk)
  refine lv_aload_n hx hb dX9_spells_0 rfl (lv_at hl 0 rfl) ?_
  refine G_X9_25 X.1 hn hP dX9_spells_1 ?_
  refine lv_iload_n hx hb dX9_spells_4 rfl (lv_at hl 1 rfl) ?_
  refine lv_isub hx hb dX9_spells_5 ?_
  refine lv_aload_n hx hb dX9_spells_6 rfl (lv_at hl 2 rfl) ?_
  refine c_VS0 (As := []) (rest := [.int (((M 19 4) - a1))]) (k := k2) X hl.1 (c_J0_length_8abf5 l X.2.2.2.1.1 hk2 rfl) (w_X9_83) qw_379 qw_380 ⟨Nat.le_of_ble_eq_true rfl, Nat.le_of_ble_eq_true rfl⟩ rfl rfl hP hS hk2 rfl (Nat.le_of_ble_eq_true rfl) dX9_spells_7 (fun H locs hP hS => ?_)
  refine lv_icmp_eq (tgt := 15) hx hb dX9_spells_10 (by decide) (fun c_1 => ?_) (fun c_1 => ?_)
  · rw [if_pos c_1] at h
    refine lv_iconst (v := 0) hx hb dX9_spells_15 (by decide) ?_
    refine lv_istore_n (lv' := [(3, .int (0)), (0, .ref (φ 19)), (1, .int (a1)), (2, .ref (saS G k2))]) hx hb dX9_spells_16 rfl hl (by decide) rfl (fun ls hl => ?_)
    refine L17 _ _ _ _ _ _ _ hk2 hP hS (lv_sub hl [1, 2, 3, 0] rfl)  h
  · rw [if_neg c_1] at h
    refine lv_iconst (v := 0) hx hb dX9_spells_13 (by decide) ?_
    obtain rfl := Option.some.inj h
    exact W.zret (v := 0) (ty := .boolean) hx hb hr rfl (r_end X hP hS) hS.2.2 dX9_spells_14 (hlocks := hlk)

def f_X9_wordToken_0 (x1_1 : Int32) (k39 : Mem → Option (Int32 × Mem)) : Nat → Mem → Option (Int32 × Mem)
  | 0, _ => none
  | fu_3 + 1, M_2 => (if (M_2 19 0) ≤ (M_2 19 4) then (k39 M_2) else (if ibd ((M_2 19 4)) 160 then (if (f_X9_isSmall ((M_2 58 (Int32.toNatClampNeg ((M_2 19 4)))))) = 0 then (k39 M_2) else (f_X9_wordToken_0 x1_1 k39 fu_3 (upd2 M_2 19 4 (((M_2 19 4) + 1))))) else none))
def f_X9_wordToken (M : Mem) (a1 : Int32) : Option (Int32 × Mem) :=
  (f_X9_wordToken_0 (a1) (fun M_8 => (Option.bind (f_X9_spells M_8 (a1) 1) fun r_9 => (if r_9 = 0 then (Option.bind (f_X9_spells M_8 (a1) 2) fun r_11 => (if r_11 = 0 then (Option.bind (f_X9_spells M_8 (a1) 3) fun r_13 => (if r_13 = 0 then (Option.bind (f_X9_spells M_8 (a1) 4) fun r_15 => (if r_15 = 0 then (Option.bind (f_X9_spells M_8 (a1) 5) fun r_17 => (if r_17 = 0 then (Option.bind (f_X9_spells M_8 (a1) 6) fun r_19 => (if r_19 = 0 then (Option.bind (f_X9_spells M_8 (a1) 7) fun r_21 => (if r_21 = 0 then (Option.bind (f_X9_spells M_8 (a1) 8) fun r_23 => (if r_23 = 0 then (Option.bind (f_X9_spells M_8 (a1) 9) fun r_25 => (if r_25 = 0 then (Option.bind (f_X9_spells M_8 (a1) 10) fun r_27 => (if r_27 = 0 then (Option.bind (f_X9_spells M_8 (a1) 11) fun r_29 => (if r_29 = 0 then (Option.bind (f_X9_spells M_8 (a1) 12) fun r_31 => (if r_31 = 0 then some ((20260, M_8)) else some ((20258, M_8)))) else some ((20257, M_8)))) else some ((20256, M_8)))) else some ((20263, M_8)))) else some ((20262, M_8)))) else some ((20261, M_8)))) else some ((10005, M_8)))) else some ((10004, M_8)))) else some ((10003, M_8)))) else some ((10002, M_8)))) else some ((10001, M_8)))) else some ((10000, M_8))))) FU M)
set_option maxRecDepth 100000 in
set_option maxHeartbeats 4000000 in
theorem c_X9_wordToken (l : Launch) {G : GT} {φ : Nat → Nat} {n : Nat} {M : Mem} {a1 : Int32} (hI : wI φ n) (hn : 107 ≤ n) {r : Int32 × Mem} (h : f_X9_wordToken M a1 = some r) : CT l yX9_wordToken cX9_wordToken 2 (some .int) ({ frames := 5, cells := 0, slots := 0, locals := 108 } : Room) [.ref (φ 19), .int (a1)] (WB (cX G φ) φ M n G) (some (.int r.1)) (WB (cX G φ) φ (r.2) n G) φ n := by
  unfold f_X9_wordToken at h
  refine r_start (plainFor_of_name (by decide)) (Nat.le_of_ble_eq_true rfl) hI ?_
  intro p e s m args below meth c ls X hr hlk hP hl
  have hS : va_S (wA φ n s.heap.size) s.heap s.heap [] := va_S.rf
  have hx := X.1.1
  have hb := X.1.2.1
  have hl : lv_has ls 2 [(0, .ref (φ 19)), (1, .int (a1))] := hl
  have L0 : ∀ (fu_3 : Nat) (M_2 : Mem) (x1_1 : Int32) (k39 : Mem → Option (Int32 × Mem))  (H : Heap) (locs : List Loc) (ls : Array Slot), va_P G.1 vwCl (wW (cX G φ) φ M_2 n) H → va_S (wA φ n s.heap.size) s.heap H locs → lv_has ls 2 [(0, .ref (φ 19)), (1, .int (x1_1))] → (∀ (M_7 : Mem) (H : Heap) (locs : List Loc) (ls : Array Slot), va_P G.1 vwCl (wW (cX G φ) φ M_7 n) H → va_S (wA φ n s.heap.size) s.heap H locs → lv_has ls 2 [(0, .ref (φ 19)), (1, .int (x1_1))] → k39 M_7 = some r → W p l e ({ frames := 5, cells := 0, slots := 0, locals := 108 } : Room) s m args below meth c H locs 0 0 (MQ below (QQ (some (.int r.1)) (WB (cX G φ) φ (r.2) n G) (wA φ n s.heap.size)) args s 0 0 (wA φ n s.heap.size)) (F0 m 39 ls [])) → f_X9_wordToken_0 x1_1 k39 fu_3 M_2 = some r → W p l e ({ frames := 5, cells := 0, slots := 0, locals := 108 } : Room) s m args below meth c H locs 0 0 (MQ below (QQ (some (.int r.1)) (WB (cX G φ) φ (r.2) n G) (wA φ n s.heap.size)) args s 0 0 (wA φ n s.heap.size)) (F0 m 0 ls []) := by
    intro fu_3
    induction fu_3 with
    | zero =>
      intro M_2 x1_1 k39 H locs ls _ _ _ _ h
      have h : (none : Option (Int32 × Mem)) = some r := h
      cases h
    | succ fu_3 ih =>
      intro M_2 x1_1 k39 H locs ls hP hS hl hk39 h
      rw [f_X9_wordToken_0] at h
      refine lv_aload_n hx hb dX9_wordToken_0 rfl (lv_at hl 0 rfl) ?_
      refine G_X9_25 X.1 hn hP dX9_wordToken_1 ?_
      refine lv_aload_n hx hb dX9_wordToken_4 rfl (lv_at hl 0 rfl) ?_
      refine G_X9_11 X.1 hn hP dX9_wordToken_5 ?_
      refine lv_icmp_ge (tgt := 39) hx hb dX9_wordToken_8 (by decide) (fun c_4 => ?_) (fun c_4 => ?_)
      · rw [if_pos c_4] at h
        exact hk39 _ _ _ _ hP hS (lv_sub hl [0, 1] rfl) h
      · rw [if_neg c_4] at h
        refine lv_aload_n hx hb dX9_wordToken_11 rfl (lv_at hl 0 rfl) ?_
        refine G_X9_15 X.1 hn hP dX9_wordToken_12 ?_
        refine lv_aload_n hx hb dX9_wordToken_15 rfl (lv_at hl 0 rfl) ?_
        refine G_X9_25 X.1 hn hP dX9_wordToken_16 ?_
        obtain ⟨c_5, h⟩ := og h
        refine r_iald (k := (Int32.toNatClampNeg ((M_2 19 4)))) X.1 hP (by omega) sX_bytes rfl (vin c_5) dX9_wordToken_19 ?_
        refine c_S0 (As := [.int ((M_2 58 (Int32.toNatClampNeg ((M_2 19 4)))))]) (rest := []) X hl.1 (c_X9_isSmall l X.2.2.2.1.1 hn rfl) (w_X9_35) qw_470 ⟨Nat.le_of_ble_eq_true rfl, Nat.le_of_ble_eq_true rfl⟩ rfl rfl hP hS (Nat.le_of_ble_eq_true rfl) dX9_wordToken_20 (fun H locs hP hS => ?_)
        refine lv_if_eq (tgt := 39) hx hb dX9_wordToken_23 (by decide) (fun c_6 => ?_) (fun c_6 => ?_)
        · rw [if_pos c_6] at h
          exact hk39 _ _ _ _ hP hS (lv_sub hl [0, 1] rfl) h
        · rw [if_neg c_6] at h
          refine lv_aload_n hx hb dX9_wordToken_26 rfl (lv_at hl 0 rfl) ?_
          refine lv_dup hx hb dX9_wordToken_27 rfl ?_
          refine G_X9_25 X.1 hn hP dX9_wordToken_28 ?_
          refine lv_iconst (v := 1) hx hb dX9_wordToken_31 (by decide) ?_
          refine lv_iadd hx hb dX9_wordToken_32 ?_
          refine P_X9_25 X.1 hn X.2.2.2.1 hP hS dX9_wordToken_33 (fun H locs hP hS => ?_)
          refine lv_goto (tgt := 0) hx hb dX9_wordToken_36 (by decide) ?_
          exact ih _ _ _ _ _ _ hP hS (lv_sub hl [0, 1] rfl) hk39 h
  refine L0 _ _ _ _ _ _ _ hP hS (lv_sub hl [0, 1] rfl) (fun M_8 H locs ls hP hS hl h => ?_) h
  · try dsimp only at h
    refine lv_aload_n hx hb dX9_wordToken_39 rfl (lv_at hl 0 rfl) ?_
    refine lv_iload_n hx hb dX9_wordToken_40 rfl (lv_at hl 1 rfl) ?_
    refine va_ldcS hx hb X.1.2.2.1 (X.2.2.1.2.1 ("KitchenTable$Tape", 51, 1) (List.mem_of_getElem? (i := 1) rfl)) dX9_wordToken_41 ?_
    obtain ⟨r_9, hr_9, h⟩ := ob h
    refine c_V0 (As := [.int (a1), .ref (saS G 1)]) (rest := []) (a := 19) X hl.1 (c_X9_spells l X.2.2.2.1.1 hn (by decide) hr_9) (w_X9_53) qw_479 qw_3 ⟨Nat.le_of_ble_eq_true rfl, Nat.le_of_ble_eq_true rfl⟩ rfl rfl hP hS (by omega) sX_Tape rfl rfl (Nat.le_of_ble_eq_true rfl) dX9_wordToken_43 (fun H locs hP hS => ?_)
    refine lv_if_eq (tgt := 53) hx hb dX9_wordToken_46 (by decide) (fun c_10 => ?_) (fun c_10 => ?_)
    · rw [if_pos c_10] at h
      refine lv_aload_n hx hb dX9_wordToken_53 rfl (lv_at hl 0 rfl) ?_
      refine lv_iload_n hx hb dX9_wordToken_54 rfl (lv_at hl 1 rfl) ?_
      refine va_ldcS hx hb X.1.2.2.1 (X.2.2.1.2.1 ("KitchenTable$Tape", 59, 2) (List.mem_of_getElem? (i := 2) rfl)) dX9_wordToken_55 ?_
      obtain ⟨r_11, hr_11, h⟩ := ob h
      refine c_V0 (As := [.int (a1), .ref (saS G 2)]) (rest := []) (a := 19) X hl.1 (c_X9_spells l X.2.2.2.1.1 hn (by decide) hr_11) (w_X9_53) qw_479 qw_3 ⟨Nat.le_of_ble_eq_true rfl, Nat.le_of_ble_eq_true rfl⟩ rfl rfl hP hS (by omega) sX_Tape rfl rfl (Nat.le_of_ble_eq_true rfl) dX9_wordToken_57 (fun H locs hP hS => ?_)
      refine lv_if_eq (tgt := 67) hx hb dX9_wordToken_60 (by decide) (fun c_12 => ?_) (fun c_12 => ?_)
      · rw [if_pos c_12] at h
        refine lv_aload_n hx hb dX9_wordToken_67 rfl (lv_at hl 0 rfl) ?_
        refine lv_iload_n hx hb dX9_wordToken_68 rfl (lv_at hl 1 rfl) ?_
        refine va_ldcS hx hb X.1.2.2.1 (X.2.2.1.2.1 ("KitchenTable$Tape", 61, 3) (List.mem_of_getElem? (i := 3) rfl)) dX9_wordToken_69 ?_
        obtain ⟨r_13, hr_13, h⟩ := ob h
        refine c_V0 (As := [.int (a1), .ref (saS G 3)]) (rest := []) (a := 19) X hl.1 (c_X9_spells l X.2.2.2.1.1 hn (by decide) hr_13) (w_X9_53) qw_479 qw_3 ⟨Nat.le_of_ble_eq_true rfl, Nat.le_of_ble_eq_true rfl⟩ rfl rfl hP hS (by omega) sX_Tape rfl rfl (Nat.le_of_ble_eq_true rfl) dX9_wordToken_71 (fun H locs hP hS => ?_)
        refine lv_if_eq (tgt := 81) hx hb dX9_wordToken_74 (by decide) (fun c_14 => ?_) (fun c_14 => ?_)
        · rw [if_pos c_14] at h
          refine lv_aload_n hx hb dX9_wordToken_81 rfl (lv_at hl 0 rfl) ?_
          refine lv_iload_n hx hb dX9_wordToken_82 rfl (lv_at hl 1 rfl) ?_
          refine va_ldcS hx hb X.1.2.2.1 (X.2.2.1.2.1 ("KitchenTable$Tape", 63, 4) (List.mem_of_getElem? (i := 4) rfl)) dX9_wordToken_83 ?_
          obtain ⟨r_15, hr_15, h⟩ := ob h
          refine c_V0 (As := [.int (a1), .ref (saS G 4)]) (rest := []) (a := 19) X hl.1 (c_X9_spells l X.2.2.2.1.1 hn (by decide) hr_15) (w_X9_53) qw_479 qw_3 ⟨Nat.le_of_ble_eq_true rfl, Nat.le_of_ble_eq_true rfl⟩ rfl rfl hP hS (by omega) sX_Tape rfl rfl (Nat.le_of_ble_eq_true rfl) dX9_wordToken_85 (fun H locs hP hS => ?_)
          refine lv_if_eq (tgt := 95) hx hb dX9_wordToken_88 (by decide) (fun c_16 => ?_) (fun c_16 => ?_)
          · rw [if_pos c_16] at h
            refine lv_aload_n hx hb dX9_wordToken_95 rfl (lv_at hl 0 rfl) ?_
            refine lv_iload_n hx hb dX9_wordToken_96 rfl (lv_at hl 1 rfl) ?_
            refine va_ldcS hx hb X.1.2.2.1 (X.2.2.1.2.1 ("KitchenTable$Tape", 65, 5) (List.mem_of_getElem? (i := 5) rfl)) dX9_wordToken_97 ?_
            obtain ⟨r_17, hr_17, h⟩ := ob h
            refine c_V0 (As := [.int (a1), .ref (saS G 5)]) (rest := []) (a := 19) X hl.1 (c_X9_spells l X.2.2.2.1.1 hn (by decide) hr_17) (w_X9_53) qw_479 qw_3 ⟨Nat.le_of_ble_eq_true rfl, Nat.le_of_ble_eq_true rfl⟩ rfl rfl hP hS (by omega) sX_Tape rfl rfl (Nat.le_of_ble_eq_true rfl) dX9_wordToken_99 (fun H locs hP hS => ?_)
            refine lv_if_eq (tgt := 109) hx hb dX9_wordToken_102 (by decide) (fun c_18 => ?_) (fun c_18 => ?_)
            · rw [if_pos c_18] at h
              refine lv_aload_n hx hb dX9_wordToken_109 rfl (lv_at hl 0 rfl) ?_
              refine lv_iload_n hx hb dX9_wordToken_110 rfl (lv_at hl 1 rfl) ?_
              refine va_ldcS hx hb X.1.2.2.1 (X.2.2.1.2.1 ("KitchenTable$Tape", 67, 6) (List.mem_of_getElem? (i := 6) rfl)) dX9_wordToken_111 ?_
              obtain ⟨r_19, hr_19, h⟩ := ob h
              refine c_V0 (As := [.int (a1), .ref (saS G 6)]) (rest := []) (a := 19) X hl.1 (c_X9_spells l X.2.2.2.1.1 hn (by decide) hr_19) (w_X9_53) qw_479 qw_3 ⟨Nat.le_of_ble_eq_true rfl, Nat.le_of_ble_eq_true rfl⟩ rfl rfl hP hS (by omega) sX_Tape rfl rfl (Nat.le_of_ble_eq_true rfl) dX9_wordToken_113 (fun H locs hP hS => ?_)
              refine lv_if_eq (tgt := 123) hx hb dX9_wordToken_116 (by decide) (fun c_20 => ?_) (fun c_20 => ?_)
              · rw [if_pos c_20] at h
                refine lv_aload_n hx hb dX9_wordToken_123 rfl (lv_at hl 0 rfl) ?_
                refine lv_iload_n hx hb dX9_wordToken_124 rfl (lv_at hl 1 rfl) ?_
                refine va_ldcS hx hb X.1.2.2.1 (X.2.2.1.2.1 ("KitchenTable$Tape", 69, 7) (List.mem_of_getElem? (i := 7) rfl)) dX9_wordToken_125 ?_
                obtain ⟨r_21, hr_21, h⟩ := ob h
                refine c_V0 (As := [.int (a1), .ref (saS G 7)]) (rest := []) (a := 19) X hl.1 (c_X9_spells l X.2.2.2.1.1 hn (by decide) hr_21) (w_X9_53) qw_479 qw_3 ⟨Nat.le_of_ble_eq_true rfl, Nat.le_of_ble_eq_true rfl⟩ rfl rfl hP hS (by omega) sX_Tape rfl rfl (Nat.le_of_ble_eq_true rfl) dX9_wordToken_127 (fun H locs hP hS => ?_)
                refine lv_if_eq (tgt := 137) hx hb dX9_wordToken_130 (by decide) (fun c_22 => ?_) (fun c_22 => ?_)
                · rw [if_pos c_22] at h
                  refine lv_aload_n hx hb dX9_wordToken_137 rfl (lv_at hl 0 rfl) ?_
                  refine lv_iload_n hx hb dX9_wordToken_138 rfl (lv_at hl 1 rfl) ?_
                  refine va_ldcS hx hb X.1.2.2.1 (X.2.2.1.2.1 ("KitchenTable$Tape", 73, 8) (List.mem_of_getElem? (i := 8) rfl)) dX9_wordToken_139 ?_
                  obtain ⟨r_23, hr_23, h⟩ := ob h
                  refine c_V0 (As := [.int (a1), .ref (saS G 8)]) (rest := []) (a := 19) X hl.1 (c_X9_spells l X.2.2.2.1.1 hn (by decide) hr_23) (w_X9_53) qw_479 qw_3 ⟨Nat.le_of_ble_eq_true rfl, Nat.le_of_ble_eq_true rfl⟩ rfl rfl hP hS (by omega) sX_Tape rfl rfl (Nat.le_of_ble_eq_true rfl) dX9_wordToken_141 (fun H locs hP hS => ?_)
                  refine lv_if_eq (tgt := 151) hx hb dX9_wordToken_144 (by decide) (fun c_24 => ?_) (fun c_24 => ?_)
                  · rw [if_pos c_24] at h
                    refine lv_aload_n hx hb dX9_wordToken_151 rfl (lv_at hl 0 rfl) ?_
                    refine lv_iload_n hx hb dX9_wordToken_152 rfl (lv_at hl 1 rfl) ?_
                    refine va_ldcS hx hb X.1.2.2.1 (X.2.2.1.2.1 ("KitchenTable$Tape", 75, 9) (List.mem_of_getElem? (i := 9) rfl)) dX9_wordToken_153 ?_
                    obtain ⟨r_25, hr_25, h⟩ := ob h
                    refine c_V0 (As := [.int (a1), .ref (saS G 9)]) (rest := []) (a := 19) X hl.1 (c_X9_spells l X.2.2.2.1.1 hn (by decide) hr_25) (w_X9_53) qw_479 qw_3 ⟨Nat.le_of_ble_eq_true rfl, Nat.le_of_ble_eq_true rfl⟩ rfl rfl hP hS (by omega) sX_Tape rfl rfl (Nat.le_of_ble_eq_true rfl) dX9_wordToken_155 (fun H locs hP hS => ?_)
                    refine lv_if_eq (tgt := 165) hx hb dX9_wordToken_158 (by decide) (fun c_26 => ?_) (fun c_26 => ?_)
                    · rw [if_pos c_26] at h
                      refine lv_aload_n hx hb dX9_wordToken_165 rfl (lv_at hl 0 rfl) ?_
                      refine lv_iload_n hx hb dX9_wordToken_166 rfl (lv_at hl 1 rfl) ?_
                      refine va_ldcS hx hb X.1.2.2.1 (X.2.2.1.2.1 ("KitchenTable$Tape", 77, 10) (List.mem_of_getElem? (i := 10) rfl)) dX9_wordToken_167 ?_
                      obtain ⟨r_27, hr_27, h⟩ := ob h
                      refine c_V0 (As := [.int (a1), .ref (saS G 10)]) (rest := []) (a := 19) X hl.1 (c_X9_spells l X.2.2.2.1.1 hn (by decide) hr_27) (w_X9_53) qw_479 qw_3 ⟨Nat.le_of_ble_eq_true rfl, Nat.le_of_ble_eq_true rfl⟩ rfl rfl hP hS (by omega) sX_Tape rfl rfl (Nat.le_of_ble_eq_true rfl) dX9_wordToken_169 (fun H locs hP hS => ?_)
                      refine lv_if_eq (tgt := 179) hx hb dX9_wordToken_172 (by decide) (fun c_28 => ?_) (fun c_28 => ?_)
                      · rw [if_pos c_28] at h
                        refine lv_aload_n hx hb dX9_wordToken_179 rfl (lv_at hl 0 rfl) ?_
                        refine lv_iload_n hx hb dX9_wordToken_180 rfl (lv_at hl 1 rfl) ?_
                        refine va_ldcS hx hb X.1.2.2.1 (X.2.2.1.2.1 ("KitchenTable$Tape", 79, 11) (List.mem_of_getElem? (i := 11) rfl)) dX9_wordToken_181 ?_
                        obtain ⟨r_29, hr_29, h⟩ := ob h
                        refine c_V0 (As := [.int (a1), .ref (saS G 11)]) (rest := []) (a := 19) X hl.1 (c_X9_spells l X.2.2.2.1.1 hn (by decide) hr_29) (w_X9_53) qw_479 qw_3 ⟨Nat.le_of_ble_eq_true rfl, Nat.le_of_ble_eq_true rfl⟩ rfl rfl hP hS (by omega) sX_Tape rfl rfl (Nat.le_of_ble_eq_true rfl) dX9_wordToken_183 (fun H locs hP hS => ?_)
                        refine lv_if_eq (tgt := 193) hx hb dX9_wordToken_186 (by decide) (fun c_30 => ?_) (fun c_30 => ?_)
                        · rw [if_pos c_30] at h
                          refine lv_aload_n hx hb dX9_wordToken_193 rfl (lv_at hl 0 rfl) ?_
                          refine lv_iload_n hx hb dX9_wordToken_194 rfl (lv_at hl 1 rfl) ?_
                          refine va_ldcS hx hb X.1.2.2.1 (X.2.2.1.2.1 ("KitchenTable$Tape", 81, 12) (List.mem_of_getElem? (i := 12) rfl)) dX9_wordToken_195 ?_
                          obtain ⟨r_31, hr_31, h⟩ := ob h
                          refine c_V0 (As := [.int (a1), .ref (saS G 12)]) (rest := []) (a := 19) X hl.1 (c_X9_spells l X.2.2.2.1.1 hn (by decide) hr_31) (w_X9_53) qw_479 qw_3 ⟨Nat.le_of_ble_eq_true rfl, Nat.le_of_ble_eq_true rfl⟩ rfl rfl hP hS (by omega) sX_Tape rfl rfl (Nat.le_of_ble_eq_true rfl) dX9_wordToken_197 (fun H locs hP hS => ?_)
                          refine lv_if_eq (tgt := 209) hx hb dX9_wordToken_200 (by decide) (fun c_32 => ?_) (fun c_32 => ?_)
                          · rw [if_pos c_32] at h
                            refine lv_sipush (v := 20260) hx hb dX9_wordToken_209 (by decide) ?_
                            obtain rfl := Option.some.inj h
                            exact W.iret hx hb hr (r_end X hP hS) hS.2.2 dX9_wordToken_212 (hlocks := hlk)
                          · rw [if_neg c_32] at h
                            refine lv_sipush (v := 20258) hx hb dX9_wordToken_203 (by decide) ?_
                            refine lv_goto (tgt := 212) hx hb dX9_wordToken_206 (by decide) ?_
                            obtain rfl := Option.some.inj h
                            exact W.iret hx hb hr (r_end X hP hS) hS.2.2 dX9_wordToken_212 (hlocks := hlk)
                        · rw [if_neg c_30] at h
                          refine lv_sipush (v := 20257) hx hb dX9_wordToken_189 (by decide) ?_
                          obtain rfl := Option.some.inj h
                          exact W.iret hx hb hr (r_end X hP hS) hS.2.2 dX9_wordToken_192 (hlocks := hlk)
                      · rw [if_neg c_28] at h
                        refine lv_sipush (v := 20256) hx hb dX9_wordToken_175 (by decide) ?_
                        obtain rfl := Option.some.inj h
                        exact W.iret hx hb hr (r_end X hP hS) hS.2.2 dX9_wordToken_178 (hlocks := hlk)
                    · rw [if_neg c_26] at h
                      refine lv_sipush (v := 20263) hx hb dX9_wordToken_161 (by decide) ?_
                      obtain rfl := Option.some.inj h
                      exact W.iret hx hb hr (r_end X hP hS) hS.2.2 dX9_wordToken_164 (hlocks := hlk)
                  · rw [if_neg c_24] at h
                    refine lv_sipush (v := 20262) hx hb dX9_wordToken_147 (by decide) ?_
                    obtain rfl := Option.some.inj h
                    exact W.iret hx hb hr (r_end X hP hS) hS.2.2 dX9_wordToken_150 (hlocks := hlk)
                · rw [if_neg c_22] at h
                  refine lv_sipush (v := 20261) hx hb dX9_wordToken_133 (by decide) ?_
                  obtain rfl := Option.some.inj h
                  exact W.iret hx hb hr (r_end X hP hS) hS.2.2 dX9_wordToken_136 (hlocks := hlk)
              · rw [if_neg c_20] at h
                refine lv_sipush (v := 10005) hx hb dX9_wordToken_119 (by decide) ?_
                obtain rfl := Option.some.inj h
                exact W.iret hx hb hr (r_end X hP hS) hS.2.2 dX9_wordToken_122 (hlocks := hlk)
            · rw [if_neg c_18] at h
              refine lv_sipush (v := 10004) hx hb dX9_wordToken_105 (by decide) ?_
              obtain rfl := Option.some.inj h
              exact W.iret hx hb hr (r_end X hP hS) hS.2.2 dX9_wordToken_108 (hlocks := hlk)
          · rw [if_neg c_16] at h
            refine lv_sipush (v := 10003) hx hb dX9_wordToken_91 (by decide) ?_
            obtain rfl := Option.some.inj h
            exact W.iret hx hb hr (r_end X hP hS) hS.2.2 dX9_wordToken_94 (hlocks := hlk)
        · rw [if_neg c_14] at h
          refine lv_sipush (v := 10002) hx hb dX9_wordToken_77 (by decide) ?_
          obtain rfl := Option.some.inj h
          exact W.iret hx hb hr (r_end X hP hS) hS.2.2 dX9_wordToken_80 (hlocks := hlk)
      · rw [if_neg c_12] at h
        refine lv_sipush (v := 10001) hx hb dX9_wordToken_63 (by decide) ?_
        obtain rfl := Option.some.inj h
        exact W.iret hx hb hr (r_end X hP hS) hS.2.2 dX9_wordToken_66 (hlocks := hlk)
    · rw [if_neg c_10] at h
      refine lv_sipush (v := 10000) hx hb dX9_wordToken_49 (by decide) ?_
      obtain rfl := Option.some.inj h
      exact W.iret hx hb hr (r_end X hP hS) hS.2.2 dX9_wordToken_52 (hlocks := hlk)

