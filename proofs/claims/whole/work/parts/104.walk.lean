def f_X10_isHour (a1 : Int32) : Int32 :=
  (if a1 < 0 then 0 else (if 48 ≤ a1 then 0 else 1))
theorem bz_X10_isHour (a1 : Int32) : f_X10_isHour a1 = 0 ∨ f_X10_isHour a1 = 1 := by
  unfold f_X10_isHour
  repeat' (first | exact Or.inl rfl | exact Or.inr rfl | split)
set_option maxRecDepth 100000 in
set_option maxHeartbeats 4000000 in
theorem c_X10_isHour (l : Launch) {G : GT} {φ : Nat → Nat} {n : Nat} {M : Mem} {a1 : Int32} (hI : wI φ n) (hn : 107 ≤ n) {r : Int32} (h : f_X10_isHour a1 = r) : CT l yX10_isHour cX10_isHour 1 (some .boolean) ({ frames := 0, cells := 0, slots := 0, locals := 0 } : Room) [.int (a1)] (WB (cX G φ) φ M n G) (some (.int r)) (WB (cX G φ) φ (M) n G) φ n := by
  unfold f_X10_isHour at h
  refine r_start (plainFor_of_name (by decide)) (Nat.le_of_ble_eq_true rfl) hI ?_
  intro p e s m args below meth c ls X hr hlk hP hl
  have hS : va_S (wA φ n s.heap.size) s.heap s.heap [] := va_S.rf
  have hx := X.1.1
  have hb := X.1.2.1
  have hl : lv_has ls 1 [(0, .int (a1))] := hl
  refine lv_iload_n hx hb dX10_isHour_0 rfl (lv_at hl 0 rfl) ?_
  refine lv_if_lt (tgt := 14) hx hb dX10_isHour_1 (by decide) (fun c_1 => ?_) (fun c_1 => ?_)
  · rw [if_pos c_1] at h
    refine lv_iconst (v := 0) hx hb dX10_isHour_14 (by decide) ?_
    subst h
    exact W.zret (v := 0) (ty := .boolean) hx hb hr rfl (r_end X hP hS) hS.2.2 dX10_isHour_15 (hlocks := hlk)
  · rw [if_neg c_1] at h
    refine lv_iload_n hx hb dX10_isHour_4 rfl (lv_at hl 0 rfl) ?_
    refine lv_bipush (v := 48) hx hb dX10_isHour_5 (by decide) ?_
    refine lv_icmp_ge (tgt := 14) hx hb dX10_isHour_7 (by decide) (fun c_2 => ?_) (fun c_2 => ?_)
    · rw [if_pos c_2] at h
      refine lv_iconst (v := 0) hx hb dX10_isHour_14 (by decide) ?_
      subst h
      exact W.zret (v := 0) (ty := .boolean) hx hb hr rfl (r_end X hP hS) hS.2.2 dX10_isHour_15 (hlocks := hlk)
    · rw [if_neg c_2] at h
      refine lv_iconst (v := 1) hx hb dX10_isHour_10 (by decide) ?_
      refine lv_goto (tgt := 15) hx hb dX10_isHour_11 (by decide) ?_
      subst h
      exact W.zret (v := 1) (ty := .boolean) hx hb hr rfl (r_end X hP hS) hS.2.2 dX10_isHour_15 (hlocks := hlk)

def f_X10_isThing (a1 : Int32) : Int32 :=
  (if a1 < 0 then 0 else (if 4 ≤ a1 then 0 else 1))
theorem bz_X10_isThing (a1 : Int32) : f_X10_isThing a1 = 0 ∨ f_X10_isThing a1 = 1 := by
  unfold f_X10_isThing
  repeat' (first | exact Or.inl rfl | exact Or.inr rfl | split)
set_option maxRecDepth 100000 in
set_option maxHeartbeats 4000000 in
theorem c_X10_isThing (l : Launch) {G : GT} {φ : Nat → Nat} {n : Nat} {M : Mem} {a1 : Int32} (hI : wI φ n) (hn : 107 ≤ n) {r : Int32} (h : f_X10_isThing a1 = r) : CT l yX10_isThing cX10_isThing 1 (some .boolean) ({ frames := 0, cells := 0, slots := 0, locals := 0 } : Room) [.int (a1)] (WB (cX G φ) φ M n G) (some (.int r)) (WB (cX G φ) φ (M) n G) φ n := by
  unfold f_X10_isThing at h
  refine r_start (plainFor_of_name (by decide)) (Nat.le_of_ble_eq_true rfl) hI ?_
  intro p e s m args below meth c ls X hr hlk hP hl
  have hS : va_S (wA φ n s.heap.size) s.heap s.heap [] := va_S.rf
  have hx := X.1.1
  have hb := X.1.2.1
  have hl : lv_has ls 1 [(0, .int (a1))] := hl
  refine lv_iload_n hx hb dX10_isThing_0 rfl (lv_at hl 0 rfl) ?_
  refine lv_if_lt (tgt := 13) hx hb dX10_isThing_1 (by decide) (fun c_1 => ?_) (fun c_1 => ?_)
  · rw [if_pos c_1] at h
    refine lv_iconst (v := 0) hx hb dX10_isThing_13 (by decide) ?_
    subst h
    exact W.zret (v := 0) (ty := .boolean) hx hb hr rfl (r_end X hP hS) hS.2.2 dX10_isThing_14 (hlocks := hlk)
  · rw [if_neg c_1] at h
    refine lv_iload_n hx hb dX10_isThing_4 rfl (lv_at hl 0 rfl) ?_
    refine lv_iconst (v := 4) hx hb dX10_isThing_5 (by decide) ?_
    refine lv_icmp_ge (tgt := 13) hx hb dX10_isThing_6 (by decide) (fun c_2 => ?_) (fun c_2 => ?_)
    · rw [if_pos c_2] at h
      refine lv_iconst (v := 0) hx hb dX10_isThing_13 (by decide) ?_
      subst h
      exact W.zret (v := 0) (ty := .boolean) hx hb hr rfl (r_end X hP hS) hS.2.2 dX10_isThing_14 (hlocks := hlk)
    · rw [if_neg c_2] at h
      refine lv_iconst (v := 1) hx hb dX10_isThing_9 (by decide) ?_
      refine lv_goto (tgt := 14) hx hb dX10_isThing_10 (by decide) ?_
      subst h
      exact W.zret (v := 1) (ty := .boolean) hx hb hr rfl (r_end X hP hS) hS.2.2 dX10_isThing_14 (hlocks := hlk)

def f_X10_addSlip (M : Mem) (a1 : Int32) (a2 : Int32) (a3 : Int32) : Option (Int32 × Mem) :=
  (if a1 < 0 then some (((-2), M)) else (if 6 ≤ a1 then some (((-2), M)) else (if (f_X10_isHour (a2)) = 0 then some (((-2), M)) else (if a3 < 0 then some (((-2), M)) else (if (f_X10_isThing ((a3 / 10))) = 0 then some (((-2), M)) else (Option.bind (f_X8_addSlip M (a1) (a2) ((a3 / 10)) ((a3 - a3 / 10 * 10))) fun r_6 => some ((r_6.1, r_6.2))))))))
set_option maxRecDepth 100000 in
set_option maxHeartbeats 4000000 in
theorem c_X10_addSlip (l : Launch) {G : GT} {φ : Nat → Nat} {n : Nat} {M : Mem} {a1 : Int32} {a2 : Int32} {a3 : Int32} (hI : wI φ n) (hn : 107 ≤ n) {r : Int32 × Mem} (h : f_X10_addSlip M a1 a2 a3 = some r) : CT l yX10_addSlip cX10_addSlip 5 (some .int) ({ frames := 4, cells := 0, slots := 0, locals := 90 } : Room) [.ref (φ 0), .int (a1), .int (a2), .int (a3)] (WB (cX G φ) φ M n G) (some (.int r.1)) (WB (cX G φ) φ (r.2) n G) φ n := by
  unfold f_X10_addSlip at h
  refine r_start (plainFor_of_name (by decide)) (Nat.le_of_ble_eq_true rfl) hI ?_
  intro p e s m args below meth c ls X hr hlk hP hl
  have hS : va_S (wA φ n s.heap.size) s.heap s.heap [] := va_S.rf
  have hx := X.1.1
  have hb := X.1.2.1
  have hl : lv_has ls 5 [(0, .ref (φ 0)), (1, .int (a1)), (2, .int (a2)), (3, .int (a3))] := hl
  refine lv_iload_n hx hb dX10_addSlip_0 rfl (lv_at hl 1 rfl) ?_
  refine lv_if_lt (tgt := 35) hx hb dX10_addSlip_1 (by decide) (fun c_1 => ?_) (fun c_1 => ?_)
  · rw [if_pos c_1] at h
    refine lv_iconst (v := 0) hx hb dX10_addSlip_35 (by decide) ?_
    refine lv_istore (lv' := [(4, .int (0)), (0, .ref (φ 0)), (1, .int (a1)), (2, .int (a2)), (3, .int (a3))]) hx hb dX10_addSlip_36 hl (by decide) rfl (fun ls hl => ?_)
    refine lv_iload hx hb dX10_addSlip_38 (lv_at hl 0 rfl) ?_
    refine lv_if_eq (tgt := 63) hx hb dX10_addSlip_40 (by decide) (fun _ => ?_) (fun c => absurd c (by decide))
    refine lv_bipush (v := (-2)) hx hb dX10_addSlip_63 (by decide) ?_
    obtain rfl := Option.some.inj h
    exact W.iret hx hb hr (r_end X hP hS) hS.2.2 dX10_addSlip_65 (hlocks := hlk)
  · rw [if_neg c_1] at h
    refine lv_iload_n hx hb dX10_addSlip_4 rfl (lv_at hl 1 rfl) ?_
    refine lv_bipush (v := 6) hx hb dX10_addSlip_5 (by decide) ?_
    refine lv_icmp_ge (tgt := 35) hx hb dX10_addSlip_7 (by decide) (fun c_2 => ?_) (fun c_2 => ?_)
    · rw [if_pos c_2] at h
      refine lv_iconst (v := 0) hx hb dX10_addSlip_35 (by decide) ?_
      refine lv_istore (lv' := [(4, .int (0)), (0, .ref (φ 0)), (1, .int (a1)), (2, .int (a2)), (3, .int (a3))]) hx hb dX10_addSlip_36 hl (by decide) rfl (fun ls hl => ?_)
      refine lv_iload hx hb dX10_addSlip_38 (lv_at hl 0 rfl) ?_
      refine lv_if_eq (tgt := 63) hx hb dX10_addSlip_40 (by decide) (fun _ => ?_) (fun c => absurd c (by decide))
      refine lv_bipush (v := (-2)) hx hb dX10_addSlip_63 (by decide) ?_
      obtain rfl := Option.some.inj h
      exact W.iret hx hb hr (r_end X hP hS) hS.2.2 dX10_addSlip_65 (hlocks := hlk)
    · rw [if_neg c_2] at h
      refine lv_iload_n hx hb dX10_addSlip_10 rfl (lv_at hl 2 rfl) ?_
      refine c_S0 (As := [.int (a2)]) (rest := []) X hl.1 (c_X10_isHour l X.2.2.2.1.1 hn rfl) (w_X10_157) qw_607 ⟨Nat.le_of_ble_eq_true rfl, Nat.le_of_ble_eq_true rfl⟩ rfl rfl hP hS (Nat.le_of_ble_eq_true rfl) dX10_addSlip_11 (fun H locs hP hS => ?_)
      refine lv_if_eq (tgt := 35) hx hb dX10_addSlip_14 (by decide) (fun c_3 => ?_) (fun c_3 => ?_)
      · rw [if_pos c_3] at h
        refine lv_iconst (v := 0) hx hb dX10_addSlip_35 (by decide) ?_
        refine lv_istore (lv' := [(4, .int (0)), (0, .ref (φ 0)), (1, .int (a1)), (2, .int (a2)), (3, .int (a3))]) hx hb dX10_addSlip_36 hl (by decide) rfl (fun ls hl => ?_)
        refine lv_iload hx hb dX10_addSlip_38 (lv_at hl 0 rfl) ?_
        refine lv_if_eq (tgt := 63) hx hb dX10_addSlip_40 (by decide) (fun _ => ?_) (fun c => absurd c (by decide))
        refine lv_bipush (v := (-2)) hx hb dX10_addSlip_63 (by decide) ?_
        obtain rfl := Option.some.inj h
        exact W.iret hx hb hr (r_end X hP hS) hS.2.2 dX10_addSlip_65 (hlocks := hlk)
      · rw [if_neg c_3] at h
        refine lv_iload_n hx hb dX10_addSlip_17 rfl (lv_at hl 3 rfl) ?_
        refine lv_if_lt (tgt := 35) hx hb dX10_addSlip_18 (by decide) (fun c_4 => ?_) (fun c_4 => ?_)
        · rw [if_pos c_4] at h
          refine lv_iconst (v := 0) hx hb dX10_addSlip_35 (by decide) ?_
          refine lv_istore (lv' := [(4, .int (0)), (0, .ref (φ 0)), (1, .int (a1)), (2, .int (a2)), (3, .int (a3))]) hx hb dX10_addSlip_36 hl (by decide) rfl (fun ls hl => ?_)
          refine lv_iload hx hb dX10_addSlip_38 (lv_at hl 0 rfl) ?_
          refine lv_if_eq (tgt := 63) hx hb dX10_addSlip_40 (by decide) (fun _ => ?_) (fun c => absurd c (by decide))
          refine lv_bipush (v := (-2)) hx hb dX10_addSlip_63 (by decide) ?_
          obtain rfl := Option.some.inj h
          exact W.iret hx hb hr (r_end X hP hS) hS.2.2 dX10_addSlip_65 (hlocks := hlk)
        · rw [if_neg c_4] at h
          refine lv_iload_n hx hb dX10_addSlip_21 rfl (lv_at hl 3 rfl) ?_
          refine lv_bipush (v := 10) hx hb dX10_addSlip_22 (by decide) ?_
          refine lv_idiv hx hb dX10_addSlip_24 (by decide) ?_
          refine c_S0 (As := [.int ((a3 / 10))]) (rest := []) X hl.1 (c_X10_isThing l X.2.2.2.1.1 hn rfl) (w_X10_180) qw_610 ⟨Nat.le_of_ble_eq_true rfl, Nat.le_of_ble_eq_true rfl⟩ rfl rfl hP hS (Nat.le_of_ble_eq_true rfl) dX10_addSlip_25 (fun H locs hP hS => ?_)
          refine lv_if_eq (tgt := 35) hx hb dX10_addSlip_28 (by decide) (fun c_5 => ?_) (fun c_5 => ?_)
          · rw [if_pos c_5] at h
            refine lv_iconst (v := 0) hx hb dX10_addSlip_35 (by decide) ?_
            refine lv_istore (lv' := [(4, .int (0)), (0, .ref (φ 0)), (1, .int (a1)), (2, .int (a2)), (3, .int (a3))]) hx hb dX10_addSlip_36 hl (by decide) rfl (fun ls hl => ?_)
            refine lv_iload hx hb dX10_addSlip_38 (lv_at hl 0 rfl) ?_
            refine lv_if_eq (tgt := 63) hx hb dX10_addSlip_40 (by decide) (fun _ => ?_) (fun c => absurd c (by decide))
            refine lv_bipush (v := (-2)) hx hb dX10_addSlip_63 (by decide) ?_
            obtain rfl := Option.some.inj h
            exact W.iret hx hb hr (r_end X hP hS) hS.2.2 dX10_addSlip_65 (hlocks := hlk)
          · rw [if_neg c_5] at h
            refine lv_iconst (v := 1) hx hb dX10_addSlip_31 (by decide) ?_
            refine lv_goto (tgt := 36) hx hb dX10_addSlip_32 (by decide) ?_
            refine lv_istore (lv' := [(4, .int (1)), (0, .ref (φ 0)), (1, .int (a1)), (2, .int (a2)), (3, .int (a3))]) hx hb dX10_addSlip_36 hl (by decide) rfl (fun ls hl => ?_)
            refine lv_iload hx hb dX10_addSlip_38 (lv_at hl 0 rfl) ?_
            refine lv_if_eq (tgt := 63) hx hb dX10_addSlip_40 (by decide) (fun c => absurd c (by decide)) (fun _ => ?_)
            refine lv_aload_n hx hb dX10_addSlip_43 rfl (lv_at hl 1 rfl) ?_
            refine G_X10_10 X.1 hn hP dX10_addSlip_44 ?_
            refine lv_iload_n hx hb dX10_addSlip_47 rfl (lv_at hl 2 rfl) ?_
            refine lv_iload_n hx hb dX10_addSlip_48 rfl (lv_at hl 3 rfl) ?_
            refine lv_iload_n hx hb dX10_addSlip_49 rfl (lv_at hl 4 rfl) ?_
            refine lv_bipush (v := 10) hx hb dX10_addSlip_50 (by decide) ?_
            refine lv_idiv hx hb dX10_addSlip_52 (by decide) ?_
            refine lv_iload_n hx hb dX10_addSlip_53 rfl (lv_at hl 4 rfl) ?_
            refine lv_bipush (v := 10) hx hb dX10_addSlip_54 (by decide) ?_
            refine lv_irem hx hb dX10_addSlip_56 (by decide) ?_
            obtain ⟨r_6, hr_6, h⟩ := ob h
            refine c_V0 (As := [.int (a1), .int (a2), .int ((a3 / 10)), .int ((a3 - a3 / 10 * 10))]) (rest := []) (a := 1) X hl.1 (c_X8_addSlip l X.2.2.2.1.1 hn hr_6) (w_X10_286) qw_613 qw_614 ⟨Nat.le_of_ble_eq_true rfl, Nat.le_of_ble_eq_true rfl⟩ rfl rfl hP hS (by omega) sX_Table rfl rfl (Nat.le_of_ble_eq_true rfl) dX10_addSlip_57 (fun H locs hP hS => ?_)
            refine lv_goto (tgt := 65) hx hb dX10_addSlip_60 (by decide) ?_
            obtain rfl := Option.some.inj h
            exact W.iret hx hb hr (r_end X hP hS) hS.2.2 dX10_addSlip_65 (hlocks := hlk)

def f_X10_note (M : Mem) (a1 : Int32) (a2 : Int32) (a3 : Int32) : Option (Int32 × Mem) :=
  (Option.bind (f_X10_addSlip M (a1) (a2) (a3)) fun r_1 => some ((r_1.1, (upd2 r_1.2 5 0 (1)))))
set_option maxRecDepth 100000 in
set_option maxHeartbeats 4000000 in
theorem c_X10_note (l : Launch) {G : GT} {φ : Nat → Nat} {n : Nat} {M : Mem} {a1 : Int32} {a2 : Int32} {a3 : Int32} (hI : wI φ n) (hn : 107 ≤ n) {r : Int32 × Mem} (h : f_X10_note M a1 a2 a3 = some r) : CT l yX10_note cX10_note 5 (some .int) ({ frames := 5, cells := 0, slots := 0, locals := 114 } : Room) [.ref (φ 0), .int (a1), .int (a2), .int (a3)] (WB (cX G φ) φ M n G) (some (.int r.1)) (WB (cX G φ) φ (r.2) n G) φ n := by
  unfold f_X10_note at h
  refine r_start (plainFor_of_name (by decide)) (Nat.le_of_ble_eq_true rfl) hI ?_
  intro p e s m args below meth c ls X hr hlk hP hl
  have hS : va_S (wA φ n s.heap.size) s.heap s.heap [] := va_S.rf
  have hx := X.1.1
  have hb := X.1.2.1
  have hl : lv_has ls 5 [(0, .ref (φ 0)), (1, .int (a1)), (2, .int (a2)), (3, .int (a3))] := hl
  refine lv_aload_n hx hb dX10_note_0 rfl (lv_at hl 0 rfl) ?_
  refine lv_iload_n hx hb dX10_note_1 rfl (lv_at hl 1 rfl) ?_
  refine lv_iload_n hx hb dX10_note_2 rfl (lv_at hl 2 rfl) ?_
  refine lv_iload_n hx hb dX10_note_3 rfl (lv_at hl 3 rfl) ?_
  obtain ⟨r_1, hr_1, h⟩ := ob h
  refine c_V0 (As := [.int (a1), .int (a2), .int (a3)]) (rest := []) (a := 0) X hl.1 (c_X10_addSlip l X.2.2.2.1.1 hn hr_1) (w_X10_97) qw_604 qw_17 ⟨Nat.le_of_ble_eq_true rfl, Nat.le_of_ble_eq_true rfl⟩ rfl rfl hP hS (by omega) sX_KT rfl rfl (Nat.le_of_ble_eq_true rfl) dX10_note_4 (fun H locs hP hS => ?_)
  refine lv_istore (lv' := [(4, .int (r_1.1)), (0, .ref (φ 0)), (1, .int (a1)), (2, .int (a2)), (3, .int (a3))]) hx hb dX10_note_7 hl (by decide) rfl (fun ls hl => ?_)
  refine lv_aload_n hx hb dX10_note_9 rfl (lv_at hl 1 rfl) ?_
  refine G_X10_21 X.1 hn hP dX10_note_10 ?_
  refine lv_iconst (v := 1) hx hb dX10_note_13 (by decide) ?_
  refine P_X10_93 X.1 hn X.2.2.2.1 hP hS rfl rfl dX10_note_14 (fun H locs hP hS => ?_)
  refine lv_iload hx hb dX10_note_17 (lv_at hl 0 rfl) ?_
  obtain rfl := Option.some.inj h
  exact W.iret hx hb hr (r_end X hP hS) hS.2.2 dX10_note_19 (hlocks := hlk)

def f_X10_moveSlip (M : Mem) (a1 : Int32) (a2 : Int32) : Option (Int32 × Mem) :=
  (if (f_X8_hasSlip M (a1)) = 0 then some (((-2), M)) else (if (f_X10_isHour (a2)) = 0 then some (((-2), M)) else (if ibd (a1) 10 then some (((M (30 + (Int32.toNatClampNeg (a1))) 1), (upd2 (upd2 M (30 + (Int32.toNatClampNeg (a1))) 1 (a2)) 5 0 (1)))) else none)))
set_option maxRecDepth 100000 in
set_option maxHeartbeats 4000000 in
theorem c_X10_moveSlip (l : Launch) {G : GT} {φ : Nat → Nat} {n : Nat} {M : Mem} {a1 : Int32} {a2 : Int32} (hI : wI φ n) (hn : 107 ≤ n) {r : Int32 × Mem} (h : f_X10_moveSlip M a1 a2 = some r) : CT l yX10_moveSlip cX10_moveSlip 5 (some .int) ({ frames := 1, cells := 0, slots := 0, locals := 21 } : Room) [.ref (φ 0), .int (a1), .int (a2)] (WB (cX G φ) φ M n G) (some (.int r.1)) (WB (cX G φ) φ (r.2) n G) φ n := by
  unfold f_X10_moveSlip at h
  refine r_start (plainFor_of_name (by decide)) (Nat.le_of_ble_eq_true rfl) hI ?_
  intro p e s m args below meth c ls X hr hlk hP hl
  have hS : va_S (wA φ n s.heap.size) s.heap s.heap [] := va_S.rf
  have hx := X.1.1
  have hb := X.1.2.1
  have hl : lv_has ls 5 [(0, .ref (φ 0)), (1, .int (a1)), (2, .int (a2))] := hl
  refine lv_aload_n hx hb dX10_moveSlip_0 rfl (lv_at hl 0 rfl) ?_
  refine G_X10_10 X.1 hn hP dX10_moveSlip_1 ?_
  refine lv_iload_n hx hb dX10_moveSlip_4 rfl (lv_at hl 1 rfl) ?_
  refine c_V0 (As := [.int (a1)]) (rest := []) (a := 1) X hl.1 (c_X8_hasSlip l X.2.2.2.1.1 hn rfl) (w_X10_118) qw_644 qw_645 ⟨Nat.le_of_ble_eq_true rfl, Nat.le_of_ble_eq_true rfl⟩ rfl rfl hP hS (by omega) sX_Table rfl rfl (Nat.le_of_ble_eq_true rfl) dX10_moveSlip_5 (fun H locs hP hS => ?_)
  refine lv_if_eq (tgt := 18) hx hb dX10_moveSlip_8 (by decide) (fun c_1 => ?_) (fun c_1 => ?_)
  · rw [if_pos c_1] at h
    refine lv_bipush (v := (-2)) hx hb dX10_moveSlip_18 (by decide) ?_
    obtain rfl := Option.some.inj h
    exact W.iret hx hb hr (r_end X hP hS) hS.2.2 dX10_moveSlip_20 (hlocks := hlk)
  · rw [if_neg c_1] at h
    refine lv_iload_n hx hb dX10_moveSlip_11 rfl (lv_at hl 2 rfl) ?_
    refine c_S0 (As := [.int (a2)]) (rest := []) X hl.1 (c_X10_isHour l X.2.2.2.1.1 hn rfl) (w_X10_157) qw_607 ⟨Nat.le_of_ble_eq_true rfl, Nat.le_of_ble_eq_true rfl⟩ rfl rfl hP hS (Nat.le_of_ble_eq_true rfl) dX10_moveSlip_12 (fun H locs hP hS => ?_)
    refine lv_if_ne (tgt := 21) hx hb dX10_moveSlip_15 (by decide) (fun c_2 => ?_) (fun c_2 => ?_)
    · rw [if_neg c_2] at h
      refine lv_aload_n hx hb dX10_moveSlip_21 rfl (lv_at hl 0 rfl) ?_
      refine G_X10_10 X.1 hn hP dX10_moveSlip_22 ?_
      refine G_X10_121 X.1 hn hP dX10_moveSlip_25 ?_
      refine lv_iload_n hx hb dX10_moveSlip_28 rfl (lv_at hl 1 rfl) ?_
      obtain ⟨c_3, h⟩ := og h
      refine r_aald (t0 := 3) (k := (Int32.toNatClampNeg (a1))) X.1 hP rfl rfl (by omega) sX_slips rfl (vin c_3) dX10_moveSlip_29 ?_
      have hj_4 : (Int32.toNatClampNeg (a1)) < 10 := ibd_lt c_3
      refine lv_astore_n (lv' := [(3, .ref (φ (30 + (Int32.toNatClampNeg (a1))))), (0, .ref (φ 0)), (1, .int (a1)), (2, .int (a2))]) hx hb dX10_moveSlip_30 rfl hl (by decide) rfl (fun ls hl => ?_)
      refine lv_aload_n hx hb dX10_moveSlip_31 rfl (lv_at hl 0 rfl) ?_
      refine G_X10_130 X.1 hn hP hj_4 dX10_moveSlip_32 ?_
      refine lv_istore (lv' := [(4, .int ((M (30 + (Int32.toNatClampNeg (a1))) 1))), (3, .ref (φ (30 + (Int32.toNatClampNeg (a1))))), (0, .ref (φ 0)), (1, .int (a1)), (2, .int (a2))]) hx hb dX10_moveSlip_35 hl (by decide) rfl (fun ls hl => ?_)
      refine lv_aload_n hx hb dX10_moveSlip_37 rfl (lv_at hl 1 rfl) ?_
      refine lv_iload_n hx hb dX10_moveSlip_38 rfl (lv_at hl 4 rfl) ?_
      refine P_X10_130 X.1 hn X.2.2.2.1 hP hS hj_4 dX10_moveSlip_39 (fun H locs hP hS => ?_)
      refine lv_aload_n hx hb dX10_moveSlip_42 rfl (lv_at hl 2 rfl) ?_
      refine G_X10_21 X.1 hn hP dX10_moveSlip_43 ?_
      refine lv_iconst (v := 1) hx hb dX10_moveSlip_46 (by decide) ?_
      refine P_X10_93 X.1 hn X.2.2.2.1 hP hS rfl rfl dX10_moveSlip_47 (fun H locs hP hS => ?_)
      refine lv_iload hx hb dX10_moveSlip_50 (lv_at hl 0 rfl) ?_
      obtain rfl := Option.some.inj h
      exact W.iret hx hb hr (r_end X hP hS) hS.2.2 dX10_moveSlip_52 (hlocks := hlk)
    · rw [if_pos c_2] at h
      refine lv_bipush (v := (-2)) hx hb dX10_moveSlip_18 (by decide) ?_
      obtain rfl := Option.some.inj h
      exact W.iret hx hb hr (r_end X hP hS) hS.2.2 dX10_moveSlip_20 (hlocks := hlk)

def f_X10_set (M : Mem) (a1 : Int32) (a2 : Int32) (a3 : Int32) : Option (Int32 × Mem) :=
  (if a1 = 4 then (Option.bind (f_X10_moveSlip M (a2) (a3)) fun r_11 => some ((r_11.1, r_11.2))) else (if a1 < 0 then some (((-2), M)) else (if 3 < a1 then some (((-2), M)) else (if (f_X8_hasGuest M (a2)) = 0 then some (((-2), M)) else (Option.bind (f_X10_fits M (a1) (a3)) fun r_5 => (if r_5 = 0 then some (((-2), M)) else (if ibd (a2) 5 then (if ibd (a1) 4 then (if ibd (a1) 4 then some (((M (25 + (Int32.toNatClampNeg (a2))) (Int32.toNatClampNeg (a1))), (upd2 (upd2 M (25 + (Int32.toNatClampNeg (a2))) (Int32.toNatClampNeg (a1)) (a3)) 5 0 (1)))) else none) else none) else none)))))))
set_option maxRecDepth 100000 in
set_option maxHeartbeats 4000000 in
theorem c_X10_set (l : Launch) {G : GT} {φ : Nat → Nat} {n : Nat} {M : Mem} {a1 : Int32} {a2 : Int32} {a3 : Int32} (hI : wI φ n) (hn : 107 ≤ n) {r : Int32 × Mem} (h : f_X10_set M a1 a2 a3 = some r) : CT l yX10_set cX10_set 6 (some .int) ({ frames := 2, cells := 0, slots := 0, locals := 45 } : Room) [.ref (φ 0), .int (a1), .int (a2), .int (a3)] (WB (cX G φ) φ M n G) (some (.int r.1)) (WB (cX G φ) φ (r.2) n G) φ n := by
  unfold f_X10_set at h
  refine r_start (plainFor_of_name (by decide)) (Nat.le_of_ble_eq_true rfl) hI ?_
  intro p e s m args below meth c ls X hr hlk hP hl
  have hS : va_S (wA φ n s.heap.size) s.heap s.heap [] := va_S.rf
  have hx := X.1.1
  have hb := X.1.2.1
  have hl : lv_has ls 6 [(0, .ref (φ 0)), (1, .int (a1)), (2, .int (a2)), (3, .int (a3))] := hl
  refine lv_iload_n hx hb dX10_set_0 rfl (lv_at hl 1 rfl) ?_
  refine lv_iconst (v := 4) hx hb dX10_set_1 (by decide) ?_
  refine lv_icmp_ne (tgt := 12) hx hb dX10_set_2 (by decide) (fun c_1 => ?_) (fun c_1 => ?_)
  · rw [if_neg c_1] at h
    refine lv_iload_n hx hb dX10_set_12 rfl (lv_at hl 1 rfl) ?_
    refine lv_if_lt (tgt := 40) hx hb dX10_set_13 (by decide) (fun c_2 => ?_) (fun c_2 => ?_)
    · rw [if_pos c_2] at h
      refine lv_bipush (v := (-2)) hx hb dX10_set_40 (by decide) ?_
      obtain rfl := Option.some.inj h
      exact W.iret hx hb hr (r_end X hP hS) hS.2.2 dX10_set_42 (hlocks := hlk)
    · rw [if_neg c_2] at h
      refine lv_iload_n hx hb dX10_set_16 rfl (lv_at hl 1 rfl) ?_
      refine lv_iconst (v := 3) hx hb dX10_set_17 (by decide) ?_
      refine lv_icmp_gt (tgt := 40) hx hb dX10_set_18 (by decide) (fun c_3 => ?_) (fun c_3 => ?_)
      · rw [if_pos c_3] at h
        refine lv_bipush (v := (-2)) hx hb dX10_set_40 (by decide) ?_
        obtain rfl := Option.some.inj h
        exact W.iret hx hb hr (r_end X hP hS) hS.2.2 dX10_set_42 (hlocks := hlk)
      · rw [if_neg c_3] at h
        refine lv_aload_n hx hb dX10_set_21 rfl (lv_at hl 0 rfl) ?_
        refine G_X10_10 X.1 hn hP dX10_set_22 ?_
        refine lv_iload_n hx hb dX10_set_25 rfl (lv_at hl 2 rfl) ?_
        refine c_V0 (As := [.int (a2)]) (rest := []) (a := 1) X hl.1 (c_X8_hasGuest l X.2.2.2.1.1 hn rfl) (w_X10_105) qw_648 qw_649 ⟨Nat.le_of_ble_eq_true rfl, Nat.le_of_ble_eq_true rfl⟩ rfl rfl hP hS (by omega) sX_Table rfl rfl (Nat.le_of_ble_eq_true rfl) dX10_set_26 (fun H locs hP hS => ?_)
        refine lv_if_eq (tgt := 40) hx hb dX10_set_29 (by decide) (fun c_4 => ?_) (fun c_4 => ?_)
        · rw [if_pos c_4] at h
          refine lv_bipush (v := (-2)) hx hb dX10_set_40 (by decide) ?_
          obtain rfl := Option.some.inj h
          exact W.iret hx hb hr (r_end X hP hS) hS.2.2 dX10_set_42 (hlocks := hlk)
        · rw [if_neg c_4] at h
          refine lv_iload_n hx hb dX10_set_32 rfl (lv_at hl 1 rfl) ?_
          refine lv_iload_n hx hb dX10_set_33 rfl (lv_at hl 3 rfl) ?_
          obtain ⟨r_5, hr_5, h⟩ := ob h
          refine c_S0 (As := [.int (a1), .int (a3)]) (rest := []) X hl.1 (c_X10_fits l X.2.2.2.1.1 hn hr_5) (w_X10_85) qw_588 ⟨Nat.le_of_ble_eq_true rfl, Nat.le_of_ble_eq_true rfl⟩ rfl rfl hP hS (Nat.le_of_ble_eq_true rfl) dX10_set_34 (fun H locs hP hS => ?_)
          refine lv_if_ne (tgt := 43) hx hb dX10_set_37 (by decide) (fun c_6 => ?_) (fun c_6 => ?_)
          · rw [if_neg c_6] at h
            refine lv_aload_n hx hb dX10_set_43 rfl (lv_at hl 0 rfl) ?_
            refine G_X10_10 X.1 hn hP dX10_set_44 ?_
            refine G_X10_108 X.1 hn hP dX10_set_47 ?_
            refine lv_iload_n hx hb dX10_set_50 rfl (lv_at hl 2 rfl) ?_
            obtain ⟨c_7, h⟩ := og h
            refine r_aald (t0 := 2) (k := (Int32.toNatClampNeg (a2))) X.1 hP rfl rfl (by omega) sX_people rfl (vin c_7) dX10_set_51 ?_
            have hj_8 : (Int32.toNatClampNeg (a2)) < 5 := ibd_lt c_7
            refine G_X10_112 X.1 hn hP hj_8 dX10_set_52 ?_
            refine lv_astore (lv' := [(4, .ref (φ (25 + (Int32.toNatClampNeg (a2))))), (0, .ref (φ 0)), (1, .int (a1)), (2, .int (a2)), (3, .int (a3))]) hx hb dX10_set_55 hl (by decide) rfl (fun ls hl => ?_)
            refine lv_aload hx hb dX10_set_57 (lv_at hl 0 rfl) ?_
            refine lv_iload_n hx hb dX10_set_59 rfl (lv_at hl 2 rfl) ?_
            obtain ⟨c_9, h⟩ := og h
            refine r_iald (k := (Int32.toNatClampNeg (a1))) X.1 hP (by omega) (sX_traits hj_8) rfl (vin c_9) dX10_set_60 ?_
            refine lv_istore (lv' := [(5, .int ((M (25 + (Int32.toNatClampNeg (a2))) (Int32.toNatClampNeg (a1))))), (4, .ref (φ (25 + (Int32.toNatClampNeg (a2))))), (0, .ref (φ 0)), (1, .int (a1)), (2, .int (a2)), (3, .int (a3))]) hx hb dX10_set_61 hl (by decide) rfl (fun ls hl => ?_)
            refine lv_aload hx hb dX10_set_63 (lv_at hl 1 rfl) ?_
            refine lv_iload_n hx hb dX10_set_65 rfl (lv_at hl 3 rfl) ?_
            refine lv_iload_n hx hb dX10_set_66 rfl (lv_at hl 5 rfl) ?_
            obtain ⟨c_10, h⟩ := og h
            refine r_iast (k := (Int32.toNatClampNeg (a1))) X.1 X.2.2.2.1 hP hS (by omega) (sX_traits hj_8) rfl (vin c_10) dX10_set_67 (fun H locs hP hS => ?_)
            refine lv_aload_n hx hb dX10_set_68 rfl (lv_at hl 2 rfl) ?_
            refine G_X10_21 X.1 hn hP dX10_set_69 ?_
            refine lv_iconst (v := 1) hx hb dX10_set_72 (by decide) ?_
            refine P_X10_93 X.1 hn X.2.2.2.1 hP hS rfl rfl dX10_set_73 (fun H locs hP hS => ?_)
            refine lv_iload hx hb dX10_set_76 (lv_at hl 0 rfl) ?_
            obtain rfl := Option.some.inj h
            exact W.iret hx hb hr (r_end X hP hS) hS.2.2 dX10_set_78 (hlocks := hlk)
          · rw [if_pos c_6] at h
            refine lv_bipush (v := (-2)) hx hb dX10_set_40 (by decide) ?_
            obtain rfl := Option.some.inj h
            exact W.iret hx hb hr (r_end X hP hS) hS.2.2 dX10_set_42 (hlocks := hlk)
  · rw [if_pos c_1] at h
    refine lv_aload_n hx hb dX10_set_5 rfl (lv_at hl 0 rfl) ?_
    refine lv_iload_n hx hb dX10_set_6 rfl (lv_at hl 2 rfl) ?_
    refine lv_iload_n hx hb dX10_set_7 rfl (lv_at hl 3 rfl) ?_
    obtain ⟨r_11, hr_11, h⟩ := ob h
    refine c_V0 (As := [.int (a2), .int (a3)]) (rest := []) (a := 0) X hl.1 (c_X10_moveSlip l X.2.2.2.1.1 hn hr_11) (w_X10_101) qw_641 qw_18 ⟨Nat.le_of_ble_eq_true rfl, Nat.le_of_ble_eq_true rfl⟩ rfl rfl hP hS (by omega) sX_KT rfl rfl (Nat.le_of_ble_eq_true rfl) dX10_set_8 (fun H locs hP hS => ?_)
    obtain rfl := Option.some.inj h
    exact W.iret hx hb hr (r_end X hP hS) hS.2.2 dX10_set_11 (hlocks := hlk)

def f_X10_told (M : Mem) (a1 : Int32) (a2 : Int32) : Option (Int32) :=
  (if (f_X8_hasSlip M (a1)) = 0 then some ((-2)) else (if ibd (a1) 10 then (if Int32.toInt (a2) < 0 ∨ 7 < Int32.toInt (a2) then some ((-2)) else (if a2 = 0 then some ((M (30 + (Int32.toNatClampNeg (a1))) 0)) else (if a2 = 1 then some ((M (30 + (Int32.toNatClampNeg (a1))) 1)) else (if a2 = 2 then some ((M (30 + (Int32.toNatClampNeg (a1))) 2)) else (if a2 = 3 then some ((M (30 + (Int32.toNatClampNeg (a1))) 3)) else (if a2 = 4 then some ((M (30 + (Int32.toNatClampNeg (a1))) 4)) else (if a2 = 5 then some ((M (30 + (Int32.toNatClampNeg (a1))) 5)) else (if a2 = 6 then some ((M (30 + (Int32.toNatClampNeg (a1))) 6)) else (if a2 = 7 then some ((M (30 + (Int32.toNatClampNeg (a1))) 7)) else none))))))))) else none))
set_option maxRecDepth 100000 in
set_option maxHeartbeats 4000000 in
theorem c_X10_told (l : Launch) {G : GT} {φ : Nat → Nat} {n : Nat} {M : Mem} {a1 : Int32} {a2 : Int32} (hI : wI φ n) (hn : 107 ≤ n) {r : Int32} (h : f_X10_told M a1 a2 = some r) : CT l yX10_told cX10_told 4 (some .int) ({ frames := 1, cells := 0, slots := 0, locals := 21 } : Room) [.ref (φ 0), .int (a1), .int (a2)] (WB (cX G φ) φ M n G) (some (.int r)) (WB (cX G φ) φ (M) n G) φ n := by
  unfold f_X10_told at h
  refine r_start (plainFor_of_name (by decide)) (Nat.le_of_ble_eq_true rfl) hI ?_
  intro p e s m args below meth c ls X hr hlk hP hl
  have hS : va_S (wA φ n s.heap.size) s.heap s.heap [] := va_S.rf
  have hx := X.1.1
  have hb := X.1.2.1
  have hl : lv_has ls 4 [(0, .ref (φ 0)), (1, .int (a1)), (2, .int (a2))] := hl
  refine lv_aload_n hx hb dX10_told_0 rfl (lv_at hl 0 rfl) ?_
  refine G_X10_10 X.1 hn hP dX10_told_1 ?_
  refine lv_iload_n hx hb dX10_told_4 rfl (lv_at hl 1 rfl) ?_
  refine c_V0 (As := [.int (a1)]) (rest := []) (a := 1) X hl.1 (c_X8_hasSlip l X.2.2.2.1.1 hn rfl) (w_X10_118) qw_644 qw_645 ⟨Nat.le_of_ble_eq_true rfl, Nat.le_of_ble_eq_true rfl⟩ rfl rfl hP hS (by omega) sX_Table rfl rfl (Nat.le_of_ble_eq_true rfl) dX10_told_5 (fun H locs hP hS => ?_)
  refine lv_if_ne (tgt := 14) hx hb dX10_told_8 (by decide) (fun c_1 => ?_) (fun c_1 => ?_)
  · rw [if_neg c_1] at h
    refine lv_aload_n hx hb dX10_told_14 rfl (lv_at hl 0 rfl) ?_
    refine G_X10_10 X.1 hn hP dX10_told_15 ?_
    refine G_X10_121 X.1 hn hP dX10_told_18 ?_
    refine lv_iload_n hx hb dX10_told_21 rfl (lv_at hl 1 rfl) ?_
    obtain ⟨c_2, h⟩ := og h
    refine r_aald (t0 := 3) (k := (Int32.toNatClampNeg (a1))) X.1 hP rfl rfl (by omega) sX_slips rfl (vin c_2) dX10_told_22 ?_
    have hj_3 : (Int32.toNatClampNeg (a1)) < 10 := ibd_lt c_2
    refine lv_astore_n (lv' := [(3, .ref (φ (30 + (Int32.toNatClampNeg (a1))))), (0, .ref (φ 0)), (1, .int (a1)), (2, .int (a2))]) hx hb dX10_told_23 rfl hl (by decide) rfl (fun ls hl => ?_)
    refine lv_iload_n hx hb dX10_told_24 rfl (lv_at hl 3 rfl) ?_
    by_cases c_4 : Int32.toInt (a2) < 0 ∨ 7 < Int32.toInt (a2)
    · rw [if_pos c_4] at h
      refine lv_tableOut (tgt := 112) hx hb dX10_told_25 c_4 (by decide) ?_
      refine lv_bipush (v := (-2)) hx hb dX10_told_112 (by decide) ?_
      obtain rfl := Option.some.inj h
      exact W.iret hx hb hr (r_end X hP hS) hS.2.2 dX10_told_114 (hlocks := hlk)
    · rw [if_neg c_4] at h
      by_cases c_5 : a2 = 0
      · rw [if_pos c_5] at h
        refine lv_tableIn (tgt := 72) (off := 47) hx hb dX10_told_25 (fun q => c_4 (Or.inl q)) (fun q => c_4 (Or.inr q)) (by rw [c_5]; rfl) (by decide) ?_
        refine lv_aload_n hx hb dX10_told_72 rfl (lv_at hl 0 rfl) ?_
        refine G_X10_125 X.1 hn hP hj_3 dX10_told_73 ?_
        obtain rfl := Option.some.inj h
        exact W.iret hx hb hr (r_end X hP hS) hS.2.2 dX10_told_76 (hlocks := hlk)
      · rw [if_neg c_5] at h
        by_cases c_6 : a2 = 1
        · rw [if_pos c_6] at h
          refine lv_tableIn (tgt := 77) (off := 52) hx hb dX10_told_25 (fun q => c_4 (Or.inl q)) (fun q => c_4 (Or.inr q)) (by rw [c_6]; rfl) (by decide) ?_
          refine lv_aload_n hx hb dX10_told_77 rfl (lv_at hl 0 rfl) ?_
          refine G_X10_130 X.1 hn hP hj_3 dX10_told_78 ?_
          obtain rfl := Option.some.inj h
          exact W.iret hx hb hr (r_end X hP hS) hS.2.2 dX10_told_81 (hlocks := hlk)
        · rw [if_neg c_6] at h
          by_cases c_7 : a2 = 2
          · rw [if_pos c_7] at h
            refine lv_tableIn (tgt := 82) (off := 57) hx hb dX10_told_25 (fun q => c_4 (Or.inl q)) (fun q => c_4 (Or.inr q)) (by rw [c_7]; rfl) (by decide) ?_
            refine lv_aload_n hx hb dX10_told_82 rfl (lv_at hl 0 rfl) ?_
            refine G_X10_133 X.1 hn hP hj_3 dX10_told_83 ?_
            obtain rfl := Option.some.inj h
            exact W.iret hx hb hr (r_end X hP hS) hS.2.2 dX10_told_86 (hlocks := hlk)
          · rw [if_neg c_7] at h
            by_cases c_8 : a2 = 3
            · rw [if_pos c_8] at h
              refine lv_tableIn (tgt := 87) (off := 62) hx hb dX10_told_25 (fun q => c_4 (Or.inl q)) (fun q => c_4 (Or.inr q)) (by rw [c_8]; rfl) (by decide) ?_
              refine lv_aload_n hx hb dX10_told_87 rfl (lv_at hl 0 rfl) ?_
              refine G_X10_136 X.1 hn hP hj_3 dX10_told_88 ?_
              obtain rfl := Option.some.inj h
              exact W.iret hx hb hr (r_end X hP hS) hS.2.2 dX10_told_91 (hlocks := hlk)
            · rw [if_neg c_8] at h
              by_cases c_9 : a2 = 4
              · rw [if_pos c_9] at h
                refine lv_tableIn (tgt := 92) (off := 67) hx hb dX10_told_25 (fun q => c_4 (Or.inl q)) (fun q => c_4 (Or.inr q)) (by rw [c_9]; rfl) (by decide) ?_
                refine lv_aload_n hx hb dX10_told_92 rfl (lv_at hl 0 rfl) ?_
                refine G_X10_139 X.1 hn hP hj_3 dX10_told_93 ?_
                obtain rfl := Option.some.inj h
                exact W.iret hx hb hr (r_end X hP hS) hS.2.2 dX10_told_96 (hlocks := hlk)
              · rw [if_neg c_9] at h
                by_cases c_10 : a2 = 5
                · rw [if_pos c_10] at h
                  refine lv_tableIn (tgt := 97) (off := 72) hx hb dX10_told_25 (fun q => c_4 (Or.inl q)) (fun q => c_4 (Or.inr q)) (by rw [c_10]; rfl) (by decide) ?_
                  refine lv_aload_n hx hb dX10_told_97 rfl (lv_at hl 0 rfl) ?_
                  refine G_X10_142 X.1 hn hP hj_3 dX10_told_98 ?_
                  obtain rfl := Option.some.inj h
                  exact W.iret hx hb hr (r_end X hP hS) hS.2.2 dX10_told_101 (hlocks := hlk)
                · rw [if_neg c_10] at h
                  by_cases c_11 : a2 = 6
                  · rw [if_pos c_11] at h
                    refine lv_tableIn (tgt := 102) (off := 77) hx hb dX10_told_25 (fun q => c_4 (Or.inl q)) (fun q => c_4 (Or.inr q)) (by rw [c_11]; rfl) (by decide) ?_
                    refine lv_aload_n hx hb dX10_told_102 rfl (lv_at hl 0 rfl) ?_
                    refine G_X10_145 X.1 hn hP hj_3 dX10_told_103 ?_
                    obtain rfl := Option.some.inj h
                    exact W.iret hx hb hr (r_end X hP hS) hS.2.2 dX10_told_106 (hlocks := hlk)
                  · rw [if_neg c_11] at h
                    by_cases c_12 : a2 = 7
                    · rw [if_pos c_12] at h
                      refine lv_tableIn (tgt := 107) (off := 82) hx hb dX10_told_25 (fun q => c_4 (Or.inl q)) (fun q => c_4 (Or.inr q)) (by rw [c_12]; rfl) (by decide) ?_
                      refine lv_aload_n hx hb dX10_told_107 rfl (lv_at hl 0 rfl) ?_
                      refine G_X10_148 X.1 hn hP hj_3 dX10_told_108 ?_
                      obtain rfl := Option.some.inj h
                      exact W.iret hx hb hr (r_end X hP hS) hS.2.2 dX10_told_111 (hlocks := hlk)
                    · rw [if_neg c_12] at h
                      cases h
  · rw [if_pos c_1] at h
    refine lv_bipush (v := (-2)) hx hb dX10_told_11 (by decide) ?_
    obtain rfl := Option.some.inj h
    exact W.iret hx hb hr (r_end X hP hS) hS.2.2 dX10_told_13 (hlocks := hlk)

def f_X10_feed (M : Mem) (a1 : Int32) : Option (Int32 × Mem) :=
  (if a1 < 0 then some (((-2), M)) else (if a1 ≤ 255 then (Option.bind (f_X9_append M (a1)) fun r_3 => (if r_3.1 = 0 then some (((-4), r_3.2)) else some (((r_3.2 19 0), r_3.2)))) else some (((-2), M))))
set_option maxRecDepth 100000 in
set_option maxHeartbeats 4000000 in
theorem c_X10_feed (l : Launch) {G : GT} {φ : Nat → Nat} {n : Nat} {M : Mem} {a1 : Int32} (hI : wI φ n) (hn : 107 ≤ n) {r : Int32 × Mem} (h : f_X10_feed M a1 = some r) : CT l yX10_feed cX10_feed 2 (some .int) ({ frames := 1, cells := 0, slots := 0, locals := 21 } : Room) [.ref (φ 0), .int (a1)] (WB (cX G φ) φ M n G) (some (.int r.1)) (WB (cX G φ) φ (r.2) n G) φ n := by
  unfold f_X10_feed at h
  refine r_start (plainFor_of_name (by decide)) (Nat.le_of_ble_eq_true rfl) hI ?_
  intro p e s m args below meth c ls X hr hlk hP hl
  have hS : va_S (wA φ n s.heap.size) s.heap s.heap [] := va_S.rf
  have hx := X.1.1
  have hb := X.1.2.1
  have hl : lv_has ls 2 [(0, .ref (φ 0)), (1, .int (a1))] := hl
  refine lv_iload_n hx hb dX10_feed_0 rfl (lv_at hl 1 rfl) ?_
  refine lv_if_lt (tgt := 11) hx hb dX10_feed_1 (by decide) (fun c_1 => ?_) (fun c_1 => ?_)
  · rw [if_pos c_1] at h
    refine lv_bipush (v := (-2)) hx hb dX10_feed_11 (by decide) ?_
    obtain rfl := Option.some.inj h
    exact W.iret hx hb hr (r_end X hP hS) hS.2.2 dX10_feed_13 (hlocks := hlk)
  · rw [if_neg c_1] at h
    refine lv_iload_n hx hb dX10_feed_4 rfl (lv_at hl 1 rfl) ?_
    refine lv_sipush (v := 255) hx hb dX10_feed_5 (by decide) ?_
    refine lv_icmp_le (tgt := 14) hx hb dX10_feed_8 (by decide) (fun c_2 => ?_) (fun c_2 => ?_)
    · rw [if_pos c_2] at h
      refine lv_aload_n hx hb dX10_feed_14 rfl (lv_at hl 0 rfl) ?_
      refine G_X10_28 X.1 hn hP dX10_feed_15 ?_
      refine lv_iload_n hx hb dX10_feed_18 rfl (lv_at hl 1 rfl) ?_
      obtain ⟨r_3, hr_3, h⟩ := ob h
      refine c_V0 (As := [.int (a1)]) (rest := []) (a := 19) X hl.1 (c_X9_append l X.2.2.2.1.1 hn hr_3) (w_X10_65) qw_427 qw_428 ⟨Nat.le_of_ble_eq_true rfl, Nat.le_of_ble_eq_true rfl⟩ rfl rfl hP hS (by omega) sX_Tape rfl rfl (Nat.le_of_ble_eq_true rfl) dX10_feed_19 (fun H locs hP hS => ?_)
      refine lv_if_eq (tgt := 35) hx hb dX10_feed_22 (by decide) (fun c_4 => ?_) (fun c_4 => ?_)
      · rw [if_pos c_4] at h
        refine lv_bipush (v := (-4)) hx hb dX10_feed_35 (by decide) ?_
        obtain rfl := Option.some.inj h
        exact W.iret hx hb hr (r_end X hP hS) hS.2.2 dX10_feed_37 (hlocks := hlk)
      · rw [if_neg c_4] at h
        refine lv_aload_n hx hb dX10_feed_25 rfl (lv_at hl 0 rfl) ?_
        refine G_X10_28 X.1 hn hP dX10_feed_26 ?_
        refine G_X10_151 X.1 hn hP dX10_feed_29 ?_
        refine lv_goto (tgt := 37) hx hb dX10_feed_32 (by decide) ?_
        obtain rfl := Option.some.inj h
        exact W.iret hx hb hr (r_end X hP hS) hS.2.2 dX10_feed_37 (hlocks := hlk)
    · rw [if_neg c_2] at h
      refine lv_bipush (v := (-2)) hx hb dX10_feed_11 (by decide) ?_
      obtain rfl := Option.some.inj h
      exact W.iret hx hb hr (r_end X hP hS) hS.2.2 dX10_feed_13 (hlocks := hlk)

def f_X10_force (M : Mem) (a1 : Int32) : Int32 × Mem :=
  (if a1 < 0 then ((-2), M) else (if a1 < (M 1 5) then ((M 1 6), (upd2 (upd2 M 1 6 (a1)) 5 0 (1))) else ((-2), M)))
set_option maxRecDepth 100000 in
set_option maxHeartbeats 4000000 in
theorem c_X10_force (l : Launch) {G : GT} {φ : Nat → Nat} {n : Nat} {M : Mem} {a1 : Int32} (hI : wI φ n) (hn : 107 ≤ n) {r : Int32 × Mem} (h : f_X10_force M a1 = r) : CT l yX10_force cX10_force 3 (some .int) ({ frames := 0, cells := 0, slots := 0, locals := 0 } : Room) [.ref (φ 0), .int (a1)] (WB (cX G φ) φ M n G) (some (.int r.1)) (WB (cX G φ) φ (r.2) n G) φ n := by
  unfold f_X10_force at h
  refine r_start (plainFor_of_name (by decide)) (Nat.le_of_ble_eq_true rfl) hI ?_
  intro p e s m args below meth c ls X hr hlk hP hl
  have hS : va_S (wA φ n s.heap.size) s.heap s.heap [] := va_S.rf
  have hx := X.1.1
  have hb := X.1.2.1
  have hl : lv_has ls 3 [(0, .ref (φ 0)), (1, .int (a1))] := hl
  refine lv_iload_n hx hb dX10_force_0 rfl (lv_at hl 1 rfl) ?_
  refine lv_if_lt (tgt := 15) hx hb dX10_force_1 (by decide) (fun c_1 => ?_) (fun c_1 => ?_)
  · rw [if_pos c_1] at h
    refine lv_bipush (v := (-2)) hx hb dX10_force_15 (by decide) ?_
    subst h
    exact W.iret hx hb hr (r_end X hP hS) hS.2.2 dX10_force_17 (hlocks := hlk)
  · rw [if_neg c_1] at h
    refine lv_iload_n hx hb dX10_force_4 rfl (lv_at hl 1 rfl) ?_
    refine lv_aload_n hx hb dX10_force_5 rfl (lv_at hl 0 rfl) ?_
    refine G_X10_10 X.1 hn hP dX10_force_6 ?_
    refine G_X10_81 X.1 hn hP dX10_force_9 ?_
    refine lv_icmp_lt (tgt := 18) hx hb dX10_force_12 (by decide) (fun c_2 => ?_) (fun c_2 => ?_)
    · rw [if_pos c_2] at h
      refine lv_aload_n hx hb dX10_force_18 rfl (lv_at hl 0 rfl) ?_
      refine G_X10_10 X.1 hn hP dX10_force_19 ?_
      refine G_X10_154 X.1 hn hP dX10_force_22 ?_
      refine lv_istore_n (lv' := [(2, .int ((M 1 6))), (0, .ref (φ 0)), (1, .int (a1))]) hx hb dX10_force_25 rfl hl (by decide) rfl (fun ls hl => ?_)
      refine lv_aload_n hx hb dX10_force_26 rfl (lv_at hl 1 rfl) ?_
      refine G_X10_10 X.1 hn hP dX10_force_27 ?_
      refine lv_iload_n hx hb dX10_force_30 rfl (lv_at hl 2 rfl) ?_
      refine P_X10_154 X.1 hn X.2.2.2.1 hP hS dX10_force_31 (fun H locs hP hS => ?_)
      refine lv_aload_n hx hb dX10_force_34 rfl (lv_at hl 1 rfl) ?_
      refine G_X10_21 X.1 hn hP dX10_force_35 ?_
      refine lv_iconst (v := 1) hx hb dX10_force_38 (by decide) ?_
      refine P_X10_93 X.1 hn X.2.2.2.1 hP hS rfl rfl dX10_force_39 (fun H locs hP hS => ?_)
      refine lv_iload_n hx hb dX10_force_42 rfl (lv_at hl 0 rfl) ?_
      subst h
      exact W.iret hx hb hr (r_end X hP hS) hS.2.2 dX10_force_43 (hlocks := hlk)
    · rw [if_neg c_2] at h
      refine lv_bipush (v := (-2)) hx hb dX10_force_15 (by decide) ?_
      subst h
      exact W.iret hx hb hr (r_end X hP hS) hS.2.2 dX10_force_17 (hlocks := hlk)

def f_X10_settledCourse (M : Mem) : Option (Mem) :=
  (if (M 5 0) = 0 then some (M) else (Option.bind (f_X0_run M) fun r_2 => some (r_2)))
set_option maxRecDepth 100000 in
set_option maxHeartbeats 4000000 in
theorem c_X10_settledCourse (l : Launch) {G : GT} {φ : Nat → Nat} {n : Nat} {M : Mem} (hI : wI φ n) (hn : 107 ≤ n) {r : Mem} (h : f_X10_settledCourse M = some r) : CT l yX10_settledCourse cX10_settledCourse 1 (some (.object "KitchenTable$Course")) ({ frames := 5, cells := 0, slots := 0, locals := 122 } : Room) [.ref (φ 0)] (WB (cX G φ) φ M n G) (some (.ref (φ 5))) (WB (cX G φ) φ (r) n G) φ n := by
  unfold f_X10_settledCourse at h
  refine r_start (plainFor_of_name (by decide)) (Nat.le_of_ble_eq_true rfl) hI ?_
  intro p e s m args below meth c ls X hr hlk hP hl
  have hS : va_S (wA φ n s.heap.size) s.heap s.heap [] := va_S.rf
  have hx := X.1.1
  have hb := X.1.2.1
  have hl : lv_has ls 1 [(0, .ref (φ 0))] := hl
  refine lv_aload_n hx hb dX10_settledCourse_0 rfl (lv_at hl 0 rfl) ?_
  refine G_X10_21 X.1 hn hP dX10_settledCourse_1 ?_
  refine G_X10_93 X.1 hn hP dX10_settledCourse_4 ?_
  refine lv_if_eq (tgt := 17) hx hb dX10_settledCourse_7 (by decide) (fun c_1 => ?_) (fun c_1 => ?_)
  · rw [if_pos c_1] at h
    refine lv_aload_n hx hb dX10_settledCourse_17 rfl (lv_at hl 0 rfl) ?_
    refine G_X10_21 X.1 hn hP dX10_settledCourse_18 ?_
    obtain rfl := Option.some.inj h
    exact W.aret hx hb hr (Or.inl ⟨_, rfl⟩) (Or.inr ⟨_, rfl⟩) (r_end X hP hS) hS.2.2 dX10_settledCourse_21 (hlocks := hlk)
  · rw [if_neg c_1] at h
    refine lv_aload_n hx hb dX10_settledCourse_10 rfl (lv_at hl 0 rfl) ?_
    refine G_X10_21 X.1 hn hP dX10_settledCourse_11 ?_
    obtain ⟨r_2, hr_2, h⟩ := ob h
    refine c_V0 (As := []) (rest := []) (a := 5) X hl.1 (c_X0_run l X.2.2.2.1.1 hn hr_2) (w_X10_207) qw_676 qw_677 ⟨Nat.le_of_ble_eq_true rfl, Nat.le_of_ble_eq_true rfl⟩ rfl rfl hP hS (by omega) sX_Course rfl rfl (Nat.le_of_ble_eq_true rfl) dX10_settledCourse_14 (fun H locs hP hS => ?_)
    refine lv_aload_n hx hb dX10_settledCourse_17 rfl (lv_at hl 0 rfl) ?_
    refine G_X10_21 X.1 hn hP dX10_settledCourse_18 ?_
    obtain rfl := Option.some.inj h
    exact W.aret hx hb hr (Or.inl ⟨_, rfl⟩) (Or.inr ⟨_, rfl⟩) (r_end X hP hS) hS.2.2 dX10_settledCourse_21 (hlocks := hlk)

def f_X10_lies (M : Mem) (a1 : Int32) : Option (Int32 × Mem) :=
  (if (f_X10_isHour (a1)) = 0 then some (((-2), M)) else (Option.bind (f_X10_settledCourse M) fun r_2 => (if ibd (a1) 48 then some (((r_2 6 (Int32.toNatClampNeg (a1))), r_2)) else none)))
set_option maxRecDepth 100000 in
set_option maxHeartbeats 4000000 in
theorem c_X10_lies (l : Launch) {G : GT} {φ : Nat → Nat} {n : Nat} {M : Mem} {a1 : Int32} (hI : wI φ n) (hn : 107 ≤ n) {r : Int32 × Mem} (h : f_X10_lies M a1 = some r) : CT l yX10_lies cX10_lies 2 (some .int) ({ frames := 6, cells := 0, slots := 0, locals := 142 } : Room) [.ref (φ 0), .int (a1)] (WB (cX G φ) φ M n G) (some (.int r.1)) (WB (cX G φ) φ (r.2) n G) φ n := by
  unfold f_X10_lies at h
  refine r_start (plainFor_of_name (by decide)) (Nat.le_of_ble_eq_true rfl) hI ?_
  intro p e s m args below meth c ls X hr hlk hP hl
  have hS : va_S (wA φ n s.heap.size) s.heap s.heap [] := va_S.rf
  have hx := X.1.1
  have hb := X.1.2.1
  have hl : lv_has ls 2 [(0, .ref (φ 0)), (1, .int (a1))] := hl
  refine lv_iload_n hx hb dX10_lies_0 rfl (lv_at hl 1 rfl) ?_
  refine c_S0 (As := [.int (a1)]) (rest := []) X hl.1 (c_X10_isHour l X.2.2.2.1.1 hn rfl) (w_X10_157) qw_607 ⟨Nat.le_of_ble_eq_true rfl, Nat.le_of_ble_eq_true rfl⟩ rfl rfl hP hS (Nat.le_of_ble_eq_true rfl) dX10_lies_1 (fun H locs hP hS => ?_)
  refine lv_if_eq (tgt := 19) hx hb dX10_lies_4 (by decide) (fun c_1 => ?_) (fun c_1 => ?_)
  · rw [if_pos c_1] at h
    refine lv_bipush (v := (-2)) hx hb dX10_lies_19 (by decide) ?_
    obtain rfl := Option.some.inj h
    exact W.iret hx hb hr (r_end X hP hS) hS.2.2 dX10_lies_21 (hlocks := hlk)
  · rw [if_neg c_1] at h
    refine lv_aload_n hx hb dX10_lies_7 rfl (lv_at hl 0 rfl) ?_
    obtain ⟨r_2, hr_2, h⟩ := ob h
    refine c_V0 (As := []) (rest := []) (a := 0) X hl.1 (c_X10_settledCourse l X.2.2.2.1.1 hn hr_2) (w_X10_160) qw_673 qw_19 ⟨Nat.le_of_ble_eq_true rfl, Nat.le_of_ble_eq_true rfl⟩ rfl rfl hP hS (by omega) sX_KT rfl rfl (Nat.le_of_ble_eq_true rfl) dX10_lies_8 (fun H locs hP hS => ?_)
    refine G_X10_164 X.1 hn hP dX10_lies_11 ?_
    refine lv_iload_n hx hb dX10_lies_14 rfl (lv_at hl 1 rfl) ?_
    obtain ⟨c_3, h⟩ := og h
    refine r_iald (k := (Int32.toNatClampNeg (a1))) X.1 hP (by omega) sX_lyingAtEnd rfl (vin c_3) dX10_lies_15 ?_
    refine lv_goto (tgt := 21) hx hb dX10_lies_16 (by decide) ?_
    obtain rfl := Option.some.inj h
    exact W.iret hx hb hr (r_end X hP hS) hS.2.2 dX10_lies_21 (hlocks := hlk)

def f_X10_top_25 (M_7 : Mem) (x2_4 : Int32) : Nat → Int32 → Int32 → Option (Int32 × Mem)
  | 0, _, _ => none
  | fu_8 + 1, x3_5, x4_6 => (if (M_7 1 4) ≤ x4_6 then some ((x3_5, M_7)) else (if (((x2_4 : Int32) >>> (x4_6 &&& 31)) &&& 1) = 0 then (f_X10_top_25 M_7 x2_4 fu_8 (x3_5) ((x4_6 + 1))) else (if x3_5 = (-1) then (f_X10_top_25 M_7 x2_4 fu_8 (x4_6) ((x4_6 + 1))) else (Option.bind (f_X8_liesAbove M_7 (x4_6) (x3_5)) fun r_12 => (if r_12 = 0 then (f_X10_top_25 M_7 x2_4 fu_8 (x3_5) ((x4_6 + 1))) else (f_X10_top_25 M_7 x2_4 fu_8 (x4_6) ((x4_6 + 1))))))))
def f_X10_top (M : Mem) (a1 : Int32) : Option (Int32 × Mem) :=
  (if (f_X10_isHour (a1)) = 0 then some (((-2), M)) else (Option.bind (f_X10_settledCourse M) fun r_2 => (if ibd (a1) 48 then (f_X10_top_25 r_2 ((r_2 6 (Int32.toNatClampNeg (a1)))) FU ((-1)) (0)) else none)))
set_option maxRecDepth 100000 in
set_option maxHeartbeats 4000000 in
theorem c_X10_top (l : Launch) {G : GT} {φ : Nat → Nat} {n : Nat} {M : Mem} {a1 : Int32} (hI : wI φ n) (hn : 107 ≤ n) {r : Int32 × Mem} (h : f_X10_top M a1 = some r) : CT l yX10_top cX10_top 6 (some .int) ({ frames := 6, cells := 0, slots := 0, locals := 142 } : Room) [.ref (φ 0), .int (a1)] (WB (cX G φ) φ M n G) (some (.int r.1)) (WB (cX G φ) φ (r.2) n G) φ n := by
  unfold f_X10_top at h
  refine r_start (plainFor_of_name (by decide)) (Nat.le_of_ble_eq_true rfl) hI ?_
  intro p e s m args below meth c ls X hr hlk hP hl
  have hS : va_S (wA φ n s.heap.size) s.heap s.heap [] := va_S.rf
  have hx := X.1.1
  have hb := X.1.2.1
  have hl : lv_has ls 6 [(0, .ref (φ 0)), (1, .int (a1))] := hl
  have L25 : ∀ (fu_8 : Nat) (M_7 : Mem) (x2_4 : Int32) (x3_5 : Int32) (x4_6 : Int32)  (H : Heap) (locs : List Loc) (ls : Array Slot), va_P G.1 vwCl (wW (cX G φ) φ M_7 n) H → va_S (wA φ n s.heap.size) s.heap H locs → lv_has ls 6 [(0, .ref (φ 0)), (2, .int (x2_4)), (3, .int (x3_5)), (4, .int (x4_6))] → f_X10_top_25 M_7 x2_4 fu_8 x3_5 x4_6 = some r → W p l e ({ frames := 6, cells := 0, slots := 0, locals := 142 } : Room) s m args below meth c H locs 0 0 (MQ below (QQ (some (.int r.1)) (WB (cX G φ) φ (r.2) n G) (wA φ n s.heap.size)) args s 0 0 (wA φ n s.heap.size)) (F0 m 25 ls []) := by
    intro fu_8
    induction fu_8 with
    | zero =>
      intro M_7 x2_4 x3_5 x4_6 H locs ls _ _ _  h
      have h : (none : Option (Int32 × Mem)) = some r := h
      cases h
    | succ fu_8 ih =>
      intro M_7 x2_4 x3_5 x4_6 H locs ls hP hS hl  h
      rw [f_X10_top_25] at h
      refine lv_iload hx hb dX10_top_25 (lv_at hl 3 rfl) ?_
      refine lv_aload_n hx hb dX10_top_27 rfl (lv_at hl 0 rfl) ?_
      refine G_X10_10 X.1 hn hP dX10_top_28 ?_
      refine G_X10_167 X.1 hn hP dX10_top_31 ?_
      refine lv_icmp_ge (tgt := 85) hx hb dX10_top_34 (by decide) (fun c_9 => ?_) (fun c_9 => ?_)
      · rw [if_pos c_9] at h
        refine lv_iload_n hx hb dX10_top_85 rfl (lv_at hl 2 rfl) ?_
        obtain rfl := Option.some.inj h
        exact W.iret hx hb hr (r_end X hP hS) hS.2.2 dX10_top_86 (hlocks := hlk)
      · rw [if_neg c_9] at h
        refine lv_iload_n hx hb dX10_top_37 rfl (lv_at hl 1 rfl) ?_
        refine lv_iload hx hb dX10_top_38 (lv_at hl 3 rfl) ?_
        refine lv_ishr hx hb dX10_top_40 ?_
        refine lv_iconst (v := 1) hx hb dX10_top_41 (by decide) ?_
        refine lv_iand hx hb dX10_top_42 ?_
        refine lv_if_eq (tgt := 50) hx hb dX10_top_43 (by decide) (fun c_10 => ?_) (fun c_10 => ?_)
        · rw [if_pos c_10] at h
          refine lv_iconst (v := 0) hx hb dX10_top_50 (by decide) ?_
          refine lv_istore (lv' := [(5, .int (0)), (0, .ref (φ 0)), (2, .int (x2_4)), (3, .int (x3_5)), (4, .int (x4_6))]) hx hb dX10_top_51 hl (by decide) rfl (fun ls hl => ?_)
          refine lv_iload hx hb dX10_top_53 (lv_at hl 0 rfl) ?_
          refine lv_if_eq (tgt := 79) hx hb dX10_top_55 (by decide) (fun _ => ?_) (fun c => absurd c (by decide))
          refine lv_iinc (v := (x4_6 + 1)) (lv' := [(4, .int ((x4_6 + 1))), (5, .int (0)), (0, .ref (φ 0)), (2, .int (x2_4)), (3, .int (x3_5))]) hx hb dX10_top_79 hl (k := 4) rfl (by rw [show Int32.ofInt (1) = 1 from by decide]) (by decide) rfl (fun ls hl => ?_)
          refine lv_goto (tgt := 25) hx hb dX10_top_82 (by decide) ?_
          exact ih _ _ _ _ _ _ _ hP hS (lv_sub hl [2, 3, 4, 0] rfl)  h
        · rw [if_neg c_10] at h
          refine lv_iconst (v := 1) hx hb dX10_top_46 (by decide) ?_
          refine lv_goto (tgt := 51) hx hb dX10_top_47 (by decide) ?_
          refine lv_istore (lv' := [(5, .int (1)), (0, .ref (φ 0)), (2, .int (x2_4)), (3, .int (x3_5)), (4, .int (x4_6))]) hx hb dX10_top_51 hl (by decide) rfl (fun ls hl => ?_)
          refine lv_iload hx hb dX10_top_53 (lv_at hl 0 rfl) ?_
          refine lv_if_eq (tgt := 79) hx hb dX10_top_55 (by decide) (fun c => absurd c (by decide)) (fun _ => ?_)
          refine lv_iload_n hx hb dX10_top_58 rfl (lv_at hl 3 rfl) ?_
          refine lv_iconst (v := (-1)) hx hb dX10_top_59 (by decide) ?_
          refine lv_icmp_eq (tgt := 76) hx hb dX10_top_60 (by decide) (fun c_11 => ?_) (fun c_11 => ?_)
          · rw [if_pos c_11] at h
            refine lv_iload hx hb dX10_top_76 (lv_at hl 4 rfl) ?_
            refine lv_istore_n (lv' := [(3, .int (x4_6)), (5, .int (1)), (0, .ref (φ 0)), (2, .int (x2_4)), (4, .int (x4_6))]) hx hb dX10_top_78 rfl hl (by decide) rfl (fun ls hl => ?_)
            refine lv_iinc (v := (x4_6 + 1)) (lv' := [(4, .int ((x4_6 + 1))), (3, .int (x4_6)), (5, .int (1)), (0, .ref (φ 0)), (2, .int (x2_4))]) hx hb dX10_top_79 hl (k := 4) rfl (by rw [show Int32.ofInt (1) = 1 from by decide]) (by decide) rfl (fun ls hl => ?_)
            refine lv_goto (tgt := 25) hx hb dX10_top_82 (by decide) ?_
            exact ih _ _ _ _ _ _ _ hP hS (lv_sub hl [3, 4, 1, 0] rfl)  h
          · rw [if_neg c_11] at h
            refine lv_aload_n hx hb dX10_top_63 rfl (lv_at hl 1 rfl) ?_
            refine G_X10_10 X.1 hn hP dX10_top_64 ?_
            refine lv_iload hx hb dX10_top_67 (lv_at hl 4 rfl) ?_
            refine lv_iload_n hx hb dX10_top_69 rfl (lv_at hl 3 rfl) ?_
            obtain ⟨r_12, hr_12, h⟩ := ob h
            refine c_V0 (As := [.int (x4_6), .int (x3_5)]) (rest := []) (a := 1) X hl.1 (c_X8_liesAbove l X.2.2.2.1.1 hn hr_12) (w_X10_170) qw_691 qw_692 ⟨Nat.le_of_ble_eq_true rfl, Nat.le_of_ble_eq_true rfl⟩ rfl rfl hP hS (by omega) sX_Table rfl rfl (Nat.le_of_ble_eq_true rfl) dX10_top_70 (fun H locs hP hS => ?_)
            refine lv_if_eq (tgt := 79) hx hb dX10_top_73 (by decide) (fun c_13 => ?_) (fun c_13 => ?_)
            · rw [if_pos c_13] at h
              refine lv_iinc (v := (x4_6 + 1)) (lv' := [(4, .int ((x4_6 + 1))), (5, .int (1)), (0, .ref (φ 0)), (2, .int (x2_4)), (3, .int (x3_5))]) hx hb dX10_top_79 hl (k := 4) rfl (by rw [show Int32.ofInt (1) = 1 from by decide]) (by decide) rfl (fun ls hl => ?_)
              refine lv_goto (tgt := 25) hx hb dX10_top_82 (by decide) ?_
              exact ih _ _ _ _ _ _ _ hP hS (lv_sub hl [2, 3, 4, 0] rfl)  h
            · rw [if_neg c_13] at h
              refine lv_iload hx hb dX10_top_76 (lv_at hl 4 rfl) ?_
              refine lv_istore_n (lv' := [(3, .int (x4_6)), (5, .int (1)), (0, .ref (φ 0)), (2, .int (x2_4)), (4, .int (x4_6))]) hx hb dX10_top_78 rfl hl (by decide) rfl (fun ls hl => ?_)
              refine lv_iinc (v := (x4_6 + 1)) (lv' := [(4, .int ((x4_6 + 1))), (3, .int (x4_6)), (5, .int (1)), (0, .ref (φ 0)), (2, .int (x2_4))]) hx hb dX10_top_79 hl (k := 4) rfl (by rw [show Int32.ofInt (1) = 1 from by decide]) (by decide) rfl (fun ls hl => ?_)
              refine lv_goto (tgt := 25) hx hb dX10_top_82 (by decide) ?_
              exact ih _ _ _ _ _ _ _ hP hS (lv_sub hl [3, 4, 1, 0] rfl)  h
  refine lv_iload_n hx hb dX10_top_0 rfl (lv_at hl 1 rfl) ?_
  refine c_S0 (As := [.int (a1)]) (rest := []) X hl.1 (c_X10_isHour l X.2.2.2.1.1 hn rfl) (w_X10_157) qw_607 ⟨Nat.le_of_ble_eq_true rfl, Nat.le_of_ble_eq_true rfl⟩ rfl rfl hP hS (Nat.le_of_ble_eq_true rfl) dX10_top_1 (fun H locs hP hS => ?_)
  refine lv_if_ne (tgt := 10) hx hb dX10_top_4 (by decide) (fun c_1 => ?_) (fun c_1 => ?_)
  · rw [if_neg c_1] at h
    refine lv_aload_n hx hb dX10_top_10 rfl (lv_at hl 0 rfl) ?_
    obtain ⟨r_2, hr_2, h⟩ := ob h
    refine c_V0 (As := []) (rest := []) (a := 0) X hl.1 (c_X10_settledCourse l X.2.2.2.1.1 hn hr_2) (w_X10_160) qw_673 qw_19 ⟨Nat.le_of_ble_eq_true rfl, Nat.le_of_ble_eq_true rfl⟩ rfl rfl hP hS (by omega) sX_KT rfl rfl (Nat.le_of_ble_eq_true rfl) dX10_top_11 (fun H locs hP hS => ?_)
    refine G_X10_164 X.1 hn hP dX10_top_14 ?_
    refine lv_iload_n hx hb dX10_top_17 rfl (lv_at hl 1 rfl) ?_
    obtain ⟨c_3, h⟩ := og h
    refine r_iald (k := (Int32.toNatClampNeg (a1))) X.1 hP (by omega) sX_lyingAtEnd rfl (vin c_3) dX10_top_18 ?_
    refine lv_istore_n (lv' := [(2, .int ((r_2 6 (Int32.toNatClampNeg (a1))))), (0, .ref (φ 0)), (1, .int (a1))]) hx hb dX10_top_19 rfl hl (by decide) rfl (fun ls hl => ?_)
    refine lv_iconst (v := (-1)) hx hb dX10_top_20 (by decide) ?_
    refine lv_istore_n (lv' := [(3, .int ((-1))), (2, .int ((r_2 6 (Int32.toNatClampNeg (a1))))), (0, .ref (φ 0)), (1, .int (a1))]) hx hb dX10_top_21 rfl hl (by decide) rfl (fun ls hl => ?_)
    refine lv_iconst (v := 0) hx hb dX10_top_22 (by decide) ?_
    refine lv_istore (lv' := [(4, .int (0)), (3, .int ((-1))), (2, .int ((r_2 6 (Int32.toNatClampNeg (a1))))), (0, .ref (φ 0)), (1, .int (a1))]) hx hb dX10_top_23 hl (by decide) rfl (fun ls hl => ?_)
    refine L25 _ _ _ _ _ _ _ _ hP hS (lv_sub hl [3, 2, 1, 0] rfl)  h
  · rw [if_pos c_1] at h
    refine lv_bipush (v := (-2)) hx hb dX10_top_7 (by decide) ?_
    obtain rfl := Option.some.inj h
    exact W.iret hx hb hr (r_end X hP hS) hS.2.2 dX10_top_9 (hlocks := hlk)

def f_X10_read (M : Mem) (a1 : Int32) (a2 : Int32) : Option (Int32 × Mem) :=
  (if (f_X8_hasGuest M (a1)) = 0 then some (((-2), M)) else (if (f_X8_hasSlip M (a2)) = 0 then some (((-2), M)) else (Option.bind (f_X10_settledCourse M) fun r_3 => (if ibd (a1) 5 then (if ibd (a2) 10 then some (((r_3 (65 + (Int32.toNatClampNeg (a1))) (Int32.toNatClampNeg (a2))), r_3)) else none) else none))))
set_option maxRecDepth 100000 in
set_option maxHeartbeats 4000000 in
theorem c_X10_read (l : Launch) {G : GT} {φ : Nat → Nat} {n : Nat} {M : Mem} {a1 : Int32} {a2 : Int32} (hI : wI φ n) (hn : 107 ≤ n) {r : Int32 × Mem} (h : f_X10_read M a1 a2 = some r) : CT l yX10_read cX10_read 3 (some .int) ({ frames := 6, cells := 0, slots := 0, locals := 142 } : Room) [.ref (φ 0), .int (a1), .int (a2)] (WB (cX G φ) φ M n G) (some (.int r.1)) (WB (cX G φ) φ (r.2) n G) φ n := by
  unfold f_X10_read at h
  refine r_start (plainFor_of_name (by decide)) (Nat.le_of_ble_eq_true rfl) hI ?_
  intro p e s m args below meth c ls X hr hlk hP hl
  have hS : va_S (wA φ n s.heap.size) s.heap s.heap [] := va_S.rf
  have hx := X.1.1
  have hb := X.1.2.1
  have hl : lv_has ls 3 [(0, .ref (φ 0)), (1, .int (a1)), (2, .int (a2))] := hl
  refine lv_aload_n hx hb dX10_read_0 rfl (lv_at hl 0 rfl) ?_
  refine G_X10_10 X.1 hn hP dX10_read_1 ?_
  refine lv_iload_n hx hb dX10_read_4 rfl (lv_at hl 1 rfl) ?_
  refine c_V0 (As := [.int (a1)]) (rest := []) (a := 1) X hl.1 (c_X8_hasGuest l X.2.2.2.1.1 hn rfl) (w_X10_105) qw_648 qw_649 ⟨Nat.le_of_ble_eq_true rfl, Nat.le_of_ble_eq_true rfl⟩ rfl rfl hP hS (by omega) sX_Table rfl rfl (Nat.le_of_ble_eq_true rfl) dX10_read_5 (fun H locs hP hS => ?_)
  refine lv_if_eq (tgt := 22) hx hb dX10_read_8 (by decide) (fun c_1 => ?_) (fun c_1 => ?_)
  · rw [if_pos c_1] at h
    refine lv_bipush (v := (-2)) hx hb dX10_read_22 (by decide) ?_
    obtain rfl := Option.some.inj h
    exact W.iret hx hb hr (r_end X hP hS) hS.2.2 dX10_read_24 (hlocks := hlk)
  · rw [if_neg c_1] at h
    refine lv_aload_n hx hb dX10_read_11 rfl (lv_at hl 0 rfl) ?_
    refine G_X10_10 X.1 hn hP dX10_read_12 ?_
    refine lv_iload_n hx hb dX10_read_15 rfl (lv_at hl 2 rfl) ?_
    refine c_V0 (As := [.int (a2)]) (rest := []) (a := 1) X hl.1 (c_X8_hasSlip l X.2.2.2.1.1 hn rfl) (w_X10_118) qw_644 qw_645 ⟨Nat.le_of_ble_eq_true rfl, Nat.le_of_ble_eq_true rfl⟩ rfl rfl hP hS (by omega) sX_Table rfl rfl (Nat.le_of_ble_eq_true rfl) dX10_read_16 (fun H locs hP hS => ?_)
    refine lv_if_ne (tgt := 25) hx hb dX10_read_19 (by decide) (fun c_2 => ?_) (fun c_2 => ?_)
    · rw [if_neg c_2] at h
      refine lv_aload_n hx hb dX10_read_25 rfl (lv_at hl 0 rfl) ?_
      obtain ⟨r_3, hr_3, h⟩ := ob h
      refine c_V0 (As := []) (rest := []) (a := 0) X hl.1 (c_X10_settledCourse l X.2.2.2.1.1 hn hr_3) (w_X10_160) qw_673 qw_19 ⟨Nat.le_of_ble_eq_true rfl, Nat.le_of_ble_eq_true rfl⟩ rfl rfl hP hS (by omega) sX_KT rfl rfl (Nat.le_of_ble_eq_true rfl) dX10_read_26 (fun H locs hP hS => ?_)
      refine G_X10_173 X.1 hn hP dX10_read_29 ?_
      refine lv_iload_n hx hb dX10_read_32 rfl (lv_at hl 1 rfl) ?_
      obtain ⟨c_4, h⟩ := og h
      refine r_aald (t0 := 1) (k := (Int32.toNatClampNeg (a1))) X.1 hP rfl rfl (by omega) sX_firstRead rfl (vin c_4) dX10_read_33 ?_
      have hj_5 : (Int32.toNatClampNeg (a1)) < 5 := ibd_lt c_4
      refine lv_iload_n hx hb dX10_read_34 rfl (lv_at hl 2 rfl) ?_
      obtain ⟨c_6, h⟩ := og h
      refine r_iald (k := (Int32.toNatClampNeg (a2))) X.1 hP (by omega) (sX_readRow hj_5) rfl (vin c_6) dX10_read_35 ?_
      obtain rfl := Option.some.inj h
      exact W.iret hx hb hr (r_end X hP hS) hS.2.2 dX10_read_36 (hlocks := hlk)
    · rw [if_pos c_2] at h
      refine lv_bipush (v := (-2)) hx hb dX10_read_22 (by decide) ?_
      obtain rfl := Option.some.inj h
      exact W.iret hx hb hr (r_end X hP hS) hS.2.2 dX10_read_24 (hlocks := hlk)

def f_X10_knew (M : Mem) (a1 : Int32) (a2 : Int32) : Option (Int32 × Mem) :=
  (if (f_X8_hasGuest M (a1)) = 0 then some (((-2), M)) else (if (f_X10_isHour (a2)) = 0 then some (((-2), M)) else (Option.bind (f_X10_settledCourse M) fun r_3 => (if ibd (a1) 5 then (if ibd (a2) 48 then some (((r_3 (60 + (Int32.toNatClampNeg (a1))) (Int32.toNatClampNeg (a2))), r_3)) else none) else none))))
set_option maxRecDepth 100000 in
set_option maxHeartbeats 4000000 in
theorem c_X10_knew (l : Launch) {G : GT} {φ : Nat → Nat} {n : Nat} {M : Mem} {a1 : Int32} {a2 : Int32} (hI : wI φ n) (hn : 107 ≤ n) {r : Int32 × Mem} (h : f_X10_knew M a1 a2 = some r) : CT l yX10_knew cX10_knew 3 (some .int) ({ frames := 6, cells := 0, slots := 0, locals := 142 } : Room) [.ref (φ 0), .int (a1), .int (a2)] (WB (cX G φ) φ M n G) (some (.int r.1)) (WB (cX G φ) φ (r.2) n G) φ n := by
  unfold f_X10_knew at h
  refine r_start (plainFor_of_name (by decide)) (Nat.le_of_ble_eq_true rfl) hI ?_
  intro p e s m args below meth c ls X hr hlk hP hl
  have hS : va_S (wA φ n s.heap.size) s.heap s.heap [] := va_S.rf
  have hx := X.1.1
  have hb := X.1.2.1
  have hl : lv_has ls 3 [(0, .ref (φ 0)), (1, .int (a1)), (2, .int (a2))] := hl
  refine lv_aload_n hx hb dX10_knew_0 rfl (lv_at hl 0 rfl) ?_
  refine G_X10_10 X.1 hn hP dX10_knew_1 ?_
  refine lv_iload_n hx hb dX10_knew_4 rfl (lv_at hl 1 rfl) ?_
  refine c_V0 (As := [.int (a1)]) (rest := []) (a := 1) X hl.1 (c_X8_hasGuest l X.2.2.2.1.1 hn rfl) (w_X10_105) qw_648 qw_649 ⟨Nat.le_of_ble_eq_true rfl, Nat.le_of_ble_eq_true rfl⟩ rfl rfl hP hS (by omega) sX_Table rfl rfl (Nat.le_of_ble_eq_true rfl) dX10_knew_5 (fun H locs hP hS => ?_)
  refine lv_if_eq (tgt := 18) hx hb dX10_knew_8 (by decide) (fun c_1 => ?_) (fun c_1 => ?_)
  · rw [if_pos c_1] at h
    refine lv_bipush (v := (-2)) hx hb dX10_knew_18 (by decide) ?_
    obtain rfl := Option.some.inj h
    exact W.iret hx hb hr (r_end X hP hS) hS.2.2 dX10_knew_20 (hlocks := hlk)
  · rw [if_neg c_1] at h
    refine lv_iload_n hx hb dX10_knew_11 rfl (lv_at hl 2 rfl) ?_
    refine c_S0 (As := [.int (a2)]) (rest := []) X hl.1 (c_X10_isHour l X.2.2.2.1.1 hn rfl) (w_X10_157) qw_607 ⟨Nat.le_of_ble_eq_true rfl, Nat.le_of_ble_eq_true rfl⟩ rfl rfl hP hS (Nat.le_of_ble_eq_true rfl) dX10_knew_12 (fun H locs hP hS => ?_)
    refine lv_if_ne (tgt := 21) hx hb dX10_knew_15 (by decide) (fun c_2 => ?_) (fun c_2 => ?_)
    · rw [if_neg c_2] at h
      refine lv_aload_n hx hb dX10_knew_21 rfl (lv_at hl 0 rfl) ?_
      obtain ⟨r_3, hr_3, h⟩ := ob h
      refine c_V0 (As := []) (rest := []) (a := 0) X hl.1 (c_X10_settledCourse l X.2.2.2.1.1 hn hr_3) (w_X10_160) qw_673 qw_19 ⟨Nat.le_of_ble_eq_true rfl, Nat.le_of_ble_eq_true rfl⟩ rfl rfl hP hS (by omega) sX_KT rfl rfl (Nat.le_of_ble_eq_true rfl) dX10_knew_22 (fun H locs hP hS => ?_)
      refine G_X10_177 X.1 hn hP dX10_knew_25 ?_
      refine lv_iload_n hx hb dX10_knew_28 rfl (lv_at hl 1 rfl) ?_
      obtain ⟨c_4, h⟩ := og h
      refine r_aald (t0 := 1) (k := (Int32.toNatClampNeg (a1))) X.1 hP rfl rfl (by omega) sX_knownAtEnd rfl (vin c_4) dX10_knew_29 ?_
      have hj_5 : (Int32.toNatClampNeg (a1)) < 5 := ibd_lt c_4
      refine lv_iload_n hx hb dX10_knew_30 rfl (lv_at hl 2 rfl) ?_
      obtain ⟨c_6, h⟩ := og h
      refine r_iald (k := (Int32.toNatClampNeg (a2))) X.1 hP (by omega) (sX_knownRow hj_5) rfl (vin c_6) dX10_knew_31 ?_
      obtain rfl := Option.some.inj h
      exact W.iret hx hb hr (r_end X hP hS) hS.2.2 dX10_knew_32 (hlocks := hlk)
    · rw [if_pos c_2] at h
      refine lv_bipush (v := (-2)) hx hb dX10_knew_18 (by decide) ?_
      obtain rfl := Option.some.inj h
      exact W.iret hx hb hr (r_end X hP hS) hS.2.2 dX10_knew_20 (hlocks := hlk)

def f_X10_done (M : Mem) (a1 : Int32) (a2 : Int32) : Option (Int32 × Mem) :=
  (if (f_X10_isThing (a1)) = 0 then some (((-2), M)) else (if a2 = (-1) then (Option.bind (f_X10_settledCourse M) fun r_3 => (if a2 = (-1) then (if ibd (a1) 4 then some (((r_3 10 (Int32.toNatClampNeg (a1))), r_3)) else none) else (if ibd (a1) 4 then (if ibd (a2) 5 then some (((r_3 (70 + (Int32.toNatClampNeg (a1))) (Int32.toNatClampNeg (a2))), r_3)) else none) else none))) else (if (f_X8_hasGuest M (a2)) = 0 then some (((-2), M)) else (Option.bind (f_X10_settledCourse M) fun r_10 => (if a2 = (-1) then (if ibd (a1) 4 then some (((r_10 10 (Int32.toNatClampNeg (a1))), r_10)) else none) else (if ibd (a1) 4 then (if ibd (a2) 5 then some (((r_10 (70 + (Int32.toNatClampNeg (a1))) (Int32.toNatClampNeg (a2))), r_10)) else none) else none))))))
set_option maxRecDepth 100000 in
set_option maxHeartbeats 4000000 in
theorem c_X10_done (l : Launch) {G : GT} {φ : Nat → Nat} {n : Nat} {M : Mem} {a1 : Int32} {a2 : Int32} (hI : wI φ n) (hn : 107 ≤ n) {r : Int32 × Mem} (h : f_X10_done M a1 a2 = some r) : CT l yX10_done cX10_done 4 (some .int) ({ frames := 6, cells := 0, slots := 0, locals := 142 } : Room) [.ref (φ 0), .int (a1), .int (a2)] (WB (cX G φ) φ M n G) (some (.int r.1)) (WB (cX G φ) φ (r.2) n G) φ n := by
  unfold f_X10_done at h
  refine r_start (plainFor_of_name (by decide)) (Nat.le_of_ble_eq_true rfl) hI ?_
  intro p e s m args below meth c ls X hr hlk hP hl
  have hS : va_S (wA φ n s.heap.size) s.heap s.heap [] := va_S.rf
  have hx := X.1.1
  have hb := X.1.2.1
  have hl : lv_has ls 4 [(0, .ref (φ 0)), (1, .int (a1)), (2, .int (a2))] := hl
  refine lv_iload_n hx hb dX10_done_0 rfl (lv_at hl 1 rfl) ?_
  refine c_S0 (As := [.int (a1)]) (rest := []) X hl.1 (c_X10_isThing l X.2.2.2.1.1 hn rfl) (w_X10_180) qw_610 ⟨Nat.le_of_ble_eq_true rfl, Nat.le_of_ble_eq_true rfl⟩ rfl rfl hP hS (Nat.le_of_ble_eq_true rfl) dX10_done_1 (fun H locs hP hS => ?_)
  refine lv_if_eq (tgt := 23) hx hb dX10_done_4 (by decide) (fun c_1 => ?_) (fun c_1 => ?_)
  · rw [if_pos c_1] at h
    refine lv_bipush (v := (-2)) hx hb dX10_done_23 (by decide) ?_
    obtain rfl := Option.some.inj h
    exact W.iret hx hb hr (r_end X hP hS) hS.2.2 dX10_done_25 (hlocks := hlk)
  · rw [if_neg c_1] at h
    refine lv_iload_n hx hb dX10_done_7 rfl (lv_at hl 2 rfl) ?_
    refine lv_iconst (v := (-1)) hx hb dX10_done_8 (by decide) ?_
    refine lv_icmp_eq (tgt := 26) hx hb dX10_done_9 (by decide) (fun c_2 => ?_) (fun c_2 => ?_)
    · rw [if_pos c_2] at h
      refine lv_aload_n hx hb dX10_done_26 rfl (lv_at hl 0 rfl) ?_
      obtain ⟨r_3, hr_3, h⟩ := ob h
      refine c_V0 (As := []) (rest := []) (a := 0) X hl.1 (c_X10_settledCourse l X.2.2.2.1.1 hn hr_3) (w_X10_160) qw_673 qw_19 ⟨Nat.le_of_ble_eq_true rfl, Nat.le_of_ble_eq_true rfl⟩ rfl rfl hP hS (by omega) sX_KT rfl rfl (Nat.le_of_ble_eq_true rfl) dX10_done_27 (fun H locs hP hS => ?_)
      refine lv_astore_n (lv' := [(3, .ref (φ 5)), (0, .ref (φ 0)), (1, .int (a1)), (2, .int (a2))]) hx hb dX10_done_30 rfl hl (by decide) rfl (fun ls hl => ?_)
      refine lv_iload_n hx hb dX10_done_31 rfl (lv_at hl 3 rfl) ?_
      refine lv_iconst (v := (-1)) hx hb dX10_done_32 (by decide) ?_
      refine lv_icmp_ne (tgt := 45) hx hb dX10_done_33 (by decide) (fun c_4 => ?_) (fun c_4 => ?_)
      · rw [if_neg c_4] at h
        refine lv_aload_n hx hb dX10_done_45 rfl (lv_at hl 0 rfl) ?_
        refine G_X10_186 X.1 hn hP dX10_done_46 ?_
        refine lv_iload_n hx hb dX10_done_49 rfl (lv_at hl 2 rfl) ?_
        obtain ⟨c_5, h⟩ := og h
        refine r_aald (t0 := 1) (k := (Int32.toNatClampNeg (a1))) X.1 hP rfl rfl (by omega) sX_timesDone rfl (vin c_5) dX10_done_50 ?_
        have hj_6 : (Int32.toNatClampNeg (a1)) < 4 := ibd_lt c_5
        refine lv_iload_n hx hb dX10_done_51 rfl (lv_at hl 3 rfl) ?_
        obtain ⟨c_7, h⟩ := og h
        refine r_iald (k := (Int32.toNatClampNeg (a2))) X.1 hP (by omega) (sX_doneRow hj_6) rfl (vin c_7) dX10_done_52 ?_
        obtain rfl := Option.some.inj h
        exact W.iret hx hb hr (r_end X hP hS) hS.2.2 dX10_done_53 (hlocks := hlk)
      · rw [if_pos c_4] at h
        refine lv_aload_n hx hb dX10_done_36 rfl (lv_at hl 0 rfl) ?_
        refine G_X10_183 X.1 hn hP dX10_done_37 ?_
        refine lv_iload_n hx hb dX10_done_40 rfl (lv_at hl 2 rfl) ?_
        obtain ⟨c_8, h⟩ := og h
        refine r_iald (k := (Int32.toNatClampNeg (a1))) X.1 hP (by omega) sX_timesInAll rfl (vin c_8) dX10_done_41 ?_
        refine lv_goto (tgt := 53) hx hb dX10_done_42 (by decide) ?_
        obtain rfl := Option.some.inj h
        exact W.iret hx hb hr (r_end X hP hS) hS.2.2 dX10_done_53 (hlocks := hlk)
    · rw [if_neg c_2] at h
      refine lv_aload_n hx hb dX10_done_12 rfl (lv_at hl 0 rfl) ?_
      refine G_X10_10 X.1 hn hP dX10_done_13 ?_
      refine lv_iload_n hx hb dX10_done_16 rfl (lv_at hl 2 rfl) ?_
      refine c_V0 (As := [.int (a2)]) (rest := []) (a := 1) X hl.1 (c_X8_hasGuest l X.2.2.2.1.1 hn rfl) (w_X10_105) qw_648 qw_649 ⟨Nat.le_of_ble_eq_true rfl, Nat.le_of_ble_eq_true rfl⟩ rfl rfl hP hS (by omega) sX_Table rfl rfl (Nat.le_of_ble_eq_true rfl) dX10_done_17 (fun H locs hP hS => ?_)
      refine lv_if_ne (tgt := 26) hx hb dX10_done_20 (by decide) (fun c_9 => ?_) (fun c_9 => ?_)
      · rw [if_neg c_9] at h
        refine lv_aload_n hx hb dX10_done_26 rfl (lv_at hl 0 rfl) ?_
        obtain ⟨r_10, hr_10, h⟩ := ob h
        refine c_V0 (As := []) (rest := []) (a := 0) X hl.1 (c_X10_settledCourse l X.2.2.2.1.1 hn hr_10) (w_X10_160) qw_673 qw_19 ⟨Nat.le_of_ble_eq_true rfl, Nat.le_of_ble_eq_true rfl⟩ rfl rfl hP hS (by omega) sX_KT rfl rfl (Nat.le_of_ble_eq_true rfl) dX10_done_27 (fun H locs hP hS => ?_)
        refine lv_astore_n (lv' := [(3, .ref (φ 5)), (0, .ref (φ 0)), (1, .int (a1)), (2, .int (a2))]) hx hb dX10_done_30 rfl hl (by decide) rfl (fun ls hl => ?_)
        refine lv_iload_n hx hb dX10_done_31 rfl (lv_at hl 3 rfl) ?_
        refine lv_iconst (v := (-1)) hx hb dX10_done_32 (by decide) ?_
        refine lv_icmp_ne (tgt := 45) hx hb dX10_done_33 (by decide) (fun c_11 => ?_) (fun c_11 => ?_)
        · rw [if_neg c_11] at h
          refine lv_aload_n hx hb dX10_done_45 rfl (lv_at hl 0 rfl) ?_
          refine G_X10_186 X.1 hn hP dX10_done_46 ?_
          refine lv_iload_n hx hb dX10_done_49 rfl (lv_at hl 2 rfl) ?_
          obtain ⟨c_12, h⟩ := og h
          refine r_aald (t0 := 1) (k := (Int32.toNatClampNeg (a1))) X.1 hP rfl rfl (by omega) sX_timesDone rfl (vin c_12) dX10_done_50 ?_
          have hj_13 : (Int32.toNatClampNeg (a1)) < 4 := ibd_lt c_12
          refine lv_iload_n hx hb dX10_done_51 rfl (lv_at hl 3 rfl) ?_
          obtain ⟨c_14, h⟩ := og h
          refine r_iald (k := (Int32.toNatClampNeg (a2))) X.1 hP (by omega) (sX_doneRow hj_13) rfl (vin c_14) dX10_done_52 ?_
          obtain rfl := Option.some.inj h
          exact W.iret hx hb hr (r_end X hP hS) hS.2.2 dX10_done_53 (hlocks := hlk)
        · rw [if_pos c_11] at h
          refine lv_aload_n hx hb dX10_done_36 rfl (lv_at hl 0 rfl) ?_
          refine G_X10_183 X.1 hn hP dX10_done_37 ?_
          refine lv_iload_n hx hb dX10_done_40 rfl (lv_at hl 2 rfl) ?_
          obtain ⟨c_15, h⟩ := og h
          refine r_iald (k := (Int32.toNatClampNeg (a1))) X.1 hP (by omega) sX_timesInAll rfl (vin c_15) dX10_done_41 ?_
          refine lv_goto (tgt := 53) hx hb dX10_done_42 (by decide) ?_
          obtain rfl := Option.some.inj h
          exact W.iret hx hb hr (r_end X hP hS) hS.2.2 dX10_done_53 (hlocks := hlk)
      · rw [if_pos c_9] at h
        refine lv_bipush (v := (-2)) hx hb dX10_done_23 (by decide) ?_
        obtain rfl := Option.some.inj h
        exact W.iret hx hb hr (r_end X hP hS) hS.2.2 dX10_done_25 (hlocks := hlk)

def f_X10_when (M : Mem) (a1 : Int32) (a2 : Int32) : Option (Int32 × Mem) :=
  (if (f_X10_isThing (a1)) = 0 then some (((-2), M)) else (if a2 < 0 then some (((-2), M)) else (if a2 ≤ 1 then (Option.bind (f_X10_settledCourse M) fun r_4 => (if a2 = 0 then (if ibd (a1) 4 then some (((r_4 11 (Int32.toNatClampNeg (a1))), r_4)) else none) else (if ibd (a1) 4 then some (((r_4 12 (Int32.toNatClampNeg (a1))), r_4)) else none))) else some (((-2), M)))))
set_option maxRecDepth 100000 in
set_option maxHeartbeats 4000000 in
theorem c_X10_when (l : Launch) {G : GT} {φ : Nat → Nat} {n : Nat} {M : Mem} {a1 : Int32} {a2 : Int32} (hI : wI φ n) (hn : 107 ≤ n) {r : Int32 × Mem} (h : f_X10_when M a1 a2 = some r) : CT l yX10_when cX10_when 4 (some .int) ({ frames := 6, cells := 0, slots := 0, locals := 142 } : Room) [.ref (φ 0), .int (a1), .int (a2)] (WB (cX G φ) φ M n G) (some (.int r.1)) (WB (cX G φ) φ (r.2) n G) φ n := by
  unfold f_X10_when at h
  refine r_start (plainFor_of_name (by decide)) (Nat.le_of_ble_eq_true rfl) hI ?_
  intro p e s m args below meth c ls X hr hlk hP hl
  have hS : va_S (wA φ n s.heap.size) s.heap s.heap [] := va_S.rf
  have hx := X.1.1
  have hb := X.1.2.1
  have hl : lv_has ls 4 [(0, .ref (φ 0)), (1, .int (a1)), (2, .int (a2))] := hl
  refine lv_iload_n hx hb dX10_when_0 rfl (lv_at hl 1 rfl) ?_
  refine c_S0 (As := [.int (a1)]) (rest := []) X hl.1 (c_X10_isThing l X.2.2.2.1.1 hn rfl) (w_X10_180) qw_610 ⟨Nat.le_of_ble_eq_true rfl, Nat.le_of_ble_eq_true rfl⟩ rfl rfl hP hS (Nat.le_of_ble_eq_true rfl) dX10_when_1 (fun H locs hP hS => ?_)
  refine lv_if_eq (tgt := 16) hx hb dX10_when_4 (by decide) (fun c_1 => ?_) (fun c_1 => ?_)
  · rw [if_pos c_1] at h
    refine lv_bipush (v := (-2)) hx hb dX10_when_16 (by decide) ?_
    obtain rfl := Option.some.inj h
    exact W.iret hx hb hr (r_end X hP hS) hS.2.2 dX10_when_18 (hlocks := hlk)
  · rw [if_neg c_1] at h
    refine lv_iload_n hx hb dX10_when_7 rfl (lv_at hl 2 rfl) ?_
    refine lv_if_lt (tgt := 16) hx hb dX10_when_8 (by decide) (fun c_2 => ?_) (fun c_2 => ?_)
    · rw [if_pos c_2] at h
      refine lv_bipush (v := (-2)) hx hb dX10_when_16 (by decide) ?_
      obtain rfl := Option.some.inj h
      exact W.iret hx hb hr (r_end X hP hS) hS.2.2 dX10_when_18 (hlocks := hlk)
    · rw [if_neg c_2] at h
      refine lv_iload_n hx hb dX10_when_11 rfl (lv_at hl 2 rfl) ?_
      refine lv_iconst (v := 1) hx hb dX10_when_12 (by decide) ?_
      refine lv_icmp_le (tgt := 19) hx hb dX10_when_13 (by decide) (fun c_3 => ?_) (fun c_3 => ?_)
      · rw [if_pos c_3] at h
        refine lv_aload_n hx hb dX10_when_19 rfl (lv_at hl 0 rfl) ?_
        obtain ⟨r_4, hr_4, h⟩ := ob h
        refine c_V0 (As := []) (rest := []) (a := 0) X hl.1 (c_X10_settledCourse l X.2.2.2.1.1 hn hr_4) (w_X10_160) qw_673 qw_19 ⟨Nat.le_of_ble_eq_true rfl, Nat.le_of_ble_eq_true rfl⟩ rfl rfl hP hS (by omega) sX_KT rfl rfl (Nat.le_of_ble_eq_true rfl) dX10_when_20 (fun H locs hP hS => ?_)
        refine lv_astore_n (lv' := [(3, .ref (φ 5)), (0, .ref (φ 0)), (1, .int (a1)), (2, .int (a2))]) hx hb dX10_when_23 rfl hl (by decide) rfl (fun ls hl => ?_)
        refine lv_iload_n hx hb dX10_when_24 rfl (lv_at hl 3 rfl) ?_
        refine lv_if_ne (tgt := 37) hx hb dX10_when_25 (by decide) (fun c_5 => ?_) (fun c_5 => ?_)
        · rw [if_neg c_5] at h
          refine lv_aload_n hx hb dX10_when_37 rfl (lv_at hl 0 rfl) ?_
          refine G_X10_192 X.1 hn hP dX10_when_38 ?_
          refine lv_iload_n hx hb dX10_when_41 rfl (lv_at hl 2 rfl) ?_
          obtain ⟨c_6, h⟩ := og h
          refine r_iald (k := (Int32.toNatClampNeg (a1))) X.1 hP (by omega) sX_firstDoer rfl (vin c_6) dX10_when_42 ?_
          obtain rfl := Option.some.inj h
          exact W.iret hx hb hr (r_end X hP hS) hS.2.2 dX10_when_43 (hlocks := hlk)
        · rw [if_pos c_5] at h
          refine lv_aload_n hx hb dX10_when_28 rfl (lv_at hl 0 rfl) ?_
          refine G_X10_189 X.1 hn hP dX10_when_29 ?_
          refine lv_iload_n hx hb dX10_when_32 rfl (lv_at hl 2 rfl) ?_
          obtain ⟨c_7, h⟩ := og h
          refine r_iald (k := (Int32.toNatClampNeg (a1))) X.1 hP (by omega) sX_firstHour rfl (vin c_7) dX10_when_33 ?_
          refine lv_goto (tgt := 43) hx hb dX10_when_34 (by decide) ?_
          obtain rfl := Option.some.inj h
          exact W.iret hx hb hr (r_end X hP hS) hS.2.2 dX10_when_43 (hlocks := hlk)
      · rw [if_neg c_3] at h
        refine lv_bipush (v := (-2)) hx hb dX10_when_16 (by decide) ?_
        obtain rfl := Option.some.inj h
        exact W.iret hx hb hr (r_end X hP hS) hS.2.2 dX10_when_18 (hlocks := hlk)

def f_X10_things_22 (M_7 : Mem) (x1_4 : Int32) : Nat → Int32 → Int32 → Option (Int32 × Mem)
  | 0, _, _ => none
  | fu_8 + 1, x3_5, x4_6 => (if 4 ≤ x4_6 then some ((x3_5, M_7)) else (if x1_4 = 0 then (Option.bind (f_X0_isNeglected M_7 (x4_6)) fun r_13 => (if r_13 = 0 then (f_X10_things_22 M_7 x1_4 fu_8 (x3_5) ((x4_6 + 1))) else (f_X10_things_22 M_7 x1_4 fu_8 ((x3_5 ||| ((1 : Int32) <<< (x4_6 &&& 31)))) ((x4_6 + 1))))) else (if ibd (x4_6) 4 then (if (M_7 10 (Int32.toNatClampNeg (x4_6))) ≤ 1 then (f_X10_things_22 M_7 x1_4 fu_8 (x3_5) ((x4_6 + 1))) else (f_X10_things_22 M_7 x1_4 fu_8 ((x3_5 ||| ((1 : Int32) <<< (x4_6 &&& 31)))) ((x4_6 + 1)))) else none)))
def f_X10_things (M : Mem) (a1 : Int32) : Option (Int32 × Mem) :=
  (if a1 < 0 then some (((-2), M)) else (if a1 ≤ 1 then (Option.bind (f_X10_settledCourse M) fun r_3 => (f_X10_things_22 r_3 (a1) FU (0) (0))) else some (((-2), M))))
set_option maxRecDepth 100000 in
set_option maxHeartbeats 4000000 in
theorem c_X10_things (l : Launch) {G : GT} {φ : Nat → Nat} {n : Nat} {M : Mem} {a1 : Int32} (hI : wI φ n) (hn : 107 ≤ n) {r : Int32 × Mem} (h : f_X10_things M a1 = some r) : CT l yX10_things cX10_things 6 (some .int) ({ frames := 6, cells := 0, slots := 0, locals := 142 } : Room) [.ref (φ 0), .int (a1)] (WB (cX G φ) φ M n G) (some (.int r.1)) (WB (cX G φ) φ (r.2) n G) φ n := by
  unfold f_X10_things at h
  refine r_start (plainFor_of_name (by decide)) (Nat.le_of_ble_eq_true rfl) hI ?_
  intro p e s m args below meth c ls X hr hlk hP hl
  have hS : va_S (wA φ n s.heap.size) s.heap s.heap [] := va_S.rf
  have hx := X.1.1
  have hb := X.1.2.1
  have hl : lv_has ls 6 [(0, .ref (φ 0)), (1, .int (a1))] := hl
  have L22 : ∀ (fu_8 : Nat) (M_7 : Mem) (x1_4 : Int32) (x3_5 : Int32) (x4_6 : Int32)  (H : Heap) (locs : List Loc) (ls : Array Slot), va_P G.1 vwCl (wW (cX G φ) φ M_7 n) H → va_S (wA φ n s.heap.size) s.heap H locs → lv_has ls 6 [(1, .int (x1_4)), (2, .ref (φ 5)), (3, .int (x3_5)), (4, .int (x4_6))] → f_X10_things_22 M_7 x1_4 fu_8 x3_5 x4_6 = some r → W p l e ({ frames := 6, cells := 0, slots := 0, locals := 142 } : Room) s m args below meth c H locs 0 0 (MQ below (QQ (some (.int r.1)) (WB (cX G φ) φ (r.2) n G) (wA φ n s.heap.size)) args s 0 0 (wA φ n s.heap.size)) (F0 m 22 ls []) := by
    intro fu_8
    induction fu_8 with
    | zero =>
      intro M_7 x1_4 x3_5 x4_6 H locs ls _ _ _  h
      have h : (none : Option (Int32 × Mem)) = some r := h
      cases h
    | succ fu_8 ih =>
      intro M_7 x1_4 x3_5 x4_6 H locs ls hP hS hl  h
      rw [f_X10_things_22] at h
      refine lv_iload hx hb dX10_things_22 (lv_at hl 3 rfl) ?_
      refine lv_iconst (v := 4) hx hb dX10_things_24 (by decide) ?_
      refine lv_icmp_ge (tgt := 77) hx hb dX10_things_25 (by decide) (fun c_9 => ?_) (fun c_9 => ?_)
      · rw [if_pos c_9] at h
        refine lv_iload_n hx hb dX10_things_77 rfl (lv_at hl 2 rfl) ?_
        obtain rfl := Option.some.inj h
        exact W.iret hx hb hr (r_end X hP hS) hS.2.2 dX10_things_78 (hlocks := hlk)
      · rw [if_neg c_9] at h
        refine lv_iload_n hx hb dX10_things_28 rfl (lv_at hl 0 rfl) ?_
        refine lv_if_ne (tgt := 41) hx hb dX10_things_29 (by decide) (fun c_10 => ?_) (fun c_10 => ?_)
        · rw [if_neg c_10] at h
          refine lv_aload_n hx hb dX10_things_41 rfl (lv_at hl 1 rfl) ?_
          refine G_X10_183 X.1 hn hP dX10_things_42 ?_
          refine lv_iload hx hb dX10_things_45 (lv_at hl 3 rfl) ?_
          obtain ⟨c_11, h⟩ := og h
          refine r_iald (k := (Int32.toNatClampNeg (x4_6))) X.1 hP (by omega) sX_timesInAll rfl (vin c_11) dX10_things_47 ?_
          refine lv_iconst (v := 1) hx hb dX10_things_48 (by decide) ?_
          refine lv_icmp_le (tgt := 56) hx hb dX10_things_49 (by decide) (fun c_12 => ?_) (fun c_12 => ?_)
          · rw [if_pos c_12] at h
            refine lv_iconst (v := 0) hx hb dX10_things_56 (by decide) ?_
            refine lv_istore (lv' := [(5, .int (0)), (1, .int (x1_4)), (2, .ref (φ 5)), (3, .int (x3_5)), (4, .int (x4_6))]) hx hb dX10_things_57 hl (by decide) rfl (fun ls hl => ?_)
            refine lv_iload hx hb dX10_things_59 (lv_at hl 0 rfl) ?_
            refine lv_if_eq (tgt := 71) hx hb dX10_things_61 (by decide) (fun _ => ?_) (fun c => absurd c (by decide))
            refine lv_iinc (v := (x4_6 + 1)) (lv' := [(4, .int ((x4_6 + 1))), (5, .int (0)), (1, .int (x1_4)), (2, .ref (φ 5)), (3, .int (x3_5))]) hx hb dX10_things_71 hl (k := 4) rfl (by rw [show Int32.ofInt (1) = 1 from by decide]) (by decide) rfl (fun ls hl => ?_)
            refine lv_goto (tgt := 22) hx hb dX10_things_74 (by decide) ?_
            exact ih _ _ _ _ _ _ _ hP hS (lv_sub hl [2, 3, 4, 0] rfl)  h
          · rw [if_neg c_12] at h
            refine lv_iconst (v := 1) hx hb dX10_things_52 (by decide) ?_
            refine lv_goto (tgt := 57) hx hb dX10_things_53 (by decide) ?_
            refine lv_istore (lv' := [(5, .int (1)), (1, .int (x1_4)), (2, .ref (φ 5)), (3, .int (x3_5)), (4, .int (x4_6))]) hx hb dX10_things_57 hl (by decide) rfl (fun ls hl => ?_)
            refine lv_iload hx hb dX10_things_59 (lv_at hl 0 rfl) ?_
            refine lv_if_eq (tgt := 71) hx hb dX10_things_61 (by decide) (fun c => absurd c (by decide)) (fun _ => ?_)
            refine lv_iload_n hx hb dX10_things_64 rfl (lv_at hl 3 rfl) ?_
            refine lv_iconst (v := 1) hx hb dX10_things_65 (by decide) ?_
            refine lv_iload hx hb dX10_things_66 (lv_at hl 4 rfl) ?_
            refine lv_ishl hx hb dX10_things_68 ?_
            refine lv_ior hx hb dX10_things_69 ?_
            refine lv_istore_n (lv' := [(3, .int ((x3_5 ||| ((1 : Int32) <<< (x4_6 &&& 31))))), (5, .int (1)), (1, .int (x1_4)), (2, .ref (φ 5)), (4, .int (x4_6))]) hx hb dX10_things_70 rfl hl (by decide) rfl (fun ls hl => ?_)
            refine lv_iinc (v := (x4_6 + 1)) (lv' := [(4, .int ((x4_6 + 1))), (3, .int ((x3_5 ||| ((1 : Int32) <<< (x4_6 &&& 31))))), (5, .int (1)), (1, .int (x1_4)), (2, .ref (φ 5))]) hx hb dX10_things_71 hl (k := 4) rfl (by rw [show Int32.ofInt (1) = 1 from by decide]) (by decide) rfl (fun ls hl => ?_)
            refine lv_goto (tgt := 22) hx hb dX10_things_74 (by decide) ?_
            exact ih _ _ _ _ _ _ _ hP hS (lv_sub hl [3, 4, 1, 0] rfl)  h
        · rw [if_pos c_10] at h
          refine lv_aload_n hx hb dX10_things_32 rfl (lv_at hl 1 rfl) ?_
          refine lv_iload hx hb dX10_things_33 (lv_at hl 3 rfl) ?_
          obtain ⟨r_13, hr_13, h⟩ := ob h
          refine c_V0 (As := [.int (x4_6)]) (rest := []) (a := 5) X hl.1 (c_X0_isNeglected l X.2.2.2.1.1 hn hr_13) (w_X10_195) qw_762 qw_763 ⟨Nat.le_of_ble_eq_true rfl, Nat.le_of_ble_eq_true rfl⟩ rfl rfl hP hS (by omega) sX_Course rfl rfl (Nat.le_of_ble_eq_true rfl) dX10_things_35 (fun H locs hP hS => ?_)
          refine lv_goto (tgt := 57) hx hb dX10_things_38 (by decide) ?_
          refine lv_istore (lv' := [(5, .int (r_13)), (1, .int (x1_4)), (2, .ref (φ 5)), (3, .int (x3_5)), (4, .int (x4_6))]) hx hb dX10_things_57 hl (by decide) rfl (fun ls hl => ?_)
          refine lv_iload hx hb dX10_things_59 (lv_at hl 0 rfl) ?_
          refine lv_if_eq (tgt := 71) hx hb dX10_things_61 (by decide) (fun c_14 => ?_) (fun c_14 => ?_)
          · rw [if_pos c_14] at h
            refine lv_iinc (v := (x4_6 + 1)) (lv' := [(4, .int ((x4_6 + 1))), (5, .int (r_13)), (1, .int (x1_4)), (2, .ref (φ 5)), (3, .int (x3_5))]) hx hb dX10_things_71 hl (k := 4) rfl (by rw [show Int32.ofInt (1) = 1 from by decide]) (by decide) rfl (fun ls hl => ?_)
            refine lv_goto (tgt := 22) hx hb dX10_things_74 (by decide) ?_
            exact ih _ _ _ _ _ _ _ hP hS (lv_sub hl [2, 3, 4, 0] rfl)  h
          · rw [if_neg c_14] at h
            refine lv_iload_n hx hb dX10_things_64 rfl (lv_at hl 3 rfl) ?_
            refine lv_iconst (v := 1) hx hb dX10_things_65 (by decide) ?_
            refine lv_iload hx hb dX10_things_66 (lv_at hl 4 rfl) ?_
            refine lv_ishl hx hb dX10_things_68 ?_
            refine lv_ior hx hb dX10_things_69 ?_
            refine lv_istore_n (lv' := [(3, .int ((x3_5 ||| ((1 : Int32) <<< (x4_6 &&& 31))))), (5, .int (r_13)), (1, .int (x1_4)), (2, .ref (φ 5)), (4, .int (x4_6))]) hx hb dX10_things_70 rfl hl (by decide) rfl (fun ls hl => ?_)
            refine lv_iinc (v := (x4_6 + 1)) (lv' := [(4, .int ((x4_6 + 1))), (3, .int ((x3_5 ||| ((1 : Int32) <<< (x4_6 &&& 31))))), (5, .int (r_13)), (1, .int (x1_4)), (2, .ref (φ 5))]) hx hb dX10_things_71 hl (k := 4) rfl (by rw [show Int32.ofInt (1) = 1 from by decide]) (by decide) rfl (fun ls hl => ?_)
            refine lv_goto (tgt := 22) hx hb dX10_things_74 (by decide) ?_
            exact ih _ _ _ _ _ _ _ hP hS (lv_sub hl [3, 4, 1, 0] rfl)  h
  refine lv_iload_n hx hb dX10_things_0 rfl (lv_at hl 1 rfl) ?_
  refine lv_if_lt (tgt := 9) hx hb dX10_things_1 (by decide) (fun c_1 => ?_) (fun c_1 => ?_)
  · rw [if_pos c_1] at h
    refine lv_bipush (v := (-2)) hx hb dX10_things_9 (by decide) ?_
    obtain rfl := Option.some.inj h
    exact W.iret hx hb hr (r_end X hP hS) hS.2.2 dX10_things_11 (hlocks := hlk)
  · rw [if_neg c_1] at h
    refine lv_iload_n hx hb dX10_things_4 rfl (lv_at hl 1 rfl) ?_
    refine lv_iconst (v := 1) hx hb dX10_things_5 (by decide) ?_
    refine lv_icmp_le (tgt := 12) hx hb dX10_things_6 (by decide) (fun c_2 => ?_) (fun c_2 => ?_)
    · rw [if_pos c_2] at h
      refine lv_aload_n hx hb dX10_things_12 rfl (lv_at hl 0 rfl) ?_
      obtain ⟨r_3, hr_3, h⟩ := ob h
      refine c_V0 (As := []) (rest := []) (a := 0) X hl.1 (c_X10_settledCourse l X.2.2.2.1.1 hn hr_3) (w_X10_160) qw_673 qw_19 ⟨Nat.le_of_ble_eq_true rfl, Nat.le_of_ble_eq_true rfl⟩ rfl rfl hP hS (by omega) sX_KT rfl rfl (Nat.le_of_ble_eq_true rfl) dX10_things_13 (fun H locs hP hS => ?_)
      refine lv_astore_n (lv' := [(2, .ref (φ 5)), (0, .ref (φ 0)), (1, .int (a1))]) hx hb dX10_things_16 rfl hl (by decide) rfl (fun ls hl => ?_)
      refine lv_iconst (v := 0) hx hb dX10_things_17 (by decide) ?_
      refine lv_istore_n (lv' := [(3, .int (0)), (2, .ref (φ 5)), (0, .ref (φ 0)), (1, .int (a1))]) hx hb dX10_things_18 rfl hl (by decide) rfl (fun ls hl => ?_)
      refine lv_iconst (v := 0) hx hb dX10_things_19 (by decide) ?_
      refine lv_istore (lv' := [(4, .int (0)), (3, .int (0)), (2, .ref (φ 5)), (0, .ref (φ 0)), (1, .int (a1))]) hx hb dX10_things_20 hl (by decide) rfl (fun ls hl => ?_)
      refine L22 _ _ _ _ _ _ _ _ hP hS (lv_sub hl [4, 2, 1, 0] rfl)  h
    · rw [if_neg c_2] at h
      refine lv_bipush (v := (-2)) hx hb dX10_things_9 (by decide) ?_
      obtain rfl := Option.some.inj h
      exact W.iret hx hb hr (r_end X hP hS) hS.2.2 dX10_things_11 (hlocks := hlk)

def f_X10_harm (M : Mem) : Option (Int32 × Mem) :=
  (Option.bind (f_X10_settledCourse M) fun r_1 => (Option.bind (f_X0_harmDone r_1) fun r_2 => some ((r_2.1, r_2.2))))
set_option maxRecDepth 100000 in
set_option maxHeartbeats 4000000 in
theorem c_X10_harm (l : Launch) {G : GT} {φ : Nat → Nat} {n : Nat} {M : Mem} (hI : wI φ n) (hn : 107 ≤ n) {r : Int32 × Mem} (h : f_X10_harm M = some r) : CT l yX10_harm cX10_harm 1 (some .int) ({ frames := 6, cells := 0, slots := 0, locals := 142 } : Room) [.ref (φ 0)] (WB (cX G φ) φ M n G) (some (.int r.1)) (WB (cX G φ) φ (r.2) n G) φ n := by
  unfold f_X10_harm at h
  refine r_start (plainFor_of_name (by decide)) (Nat.le_of_ble_eq_true rfl) hI ?_
  intro p e s m args below meth c ls X hr hlk hP hl
  have hS : va_S (wA φ n s.heap.size) s.heap s.heap [] := va_S.rf
  have hx := X.1.1
  have hb := X.1.2.1
  have hl : lv_has ls 1 [(0, .ref (φ 0))] := hl
  refine lv_aload_n hx hb dX10_harm_0 rfl (lv_at hl 0 rfl) ?_
  obtain ⟨r_1, hr_1, h⟩ := ob h
  refine c_V0 (As := []) (rest := []) (a := 0) X hl.1 (c_X10_settledCourse l X.2.2.2.1.1 hn hr_1) (w_X10_160) qw_673 qw_19 ⟨Nat.le_of_ble_eq_true rfl, Nat.le_of_ble_eq_true rfl⟩ rfl rfl hP hS (by omega) sX_KT rfl rfl (Nat.le_of_ble_eq_true rfl) dX10_harm_1 (fun H locs hP hS => ?_)
  obtain ⟨r_2, hr_2, h⟩ := ob h
  refine c_V0 (As := []) (rest := []) (a := 5) X hl.1 (c_X0_harmDone l X.2.2.2.1.1 hn hr_2) (w_X10_198) qw_774 qw_775 ⟨Nat.le_of_ble_eq_true rfl, Nat.le_of_ble_eq_true rfl⟩ rfl rfl hP hS (by omega) sX_Course rfl rfl (Nat.le_of_ble_eq_true rfl) dX10_harm_4 (fun H locs hP hS => ?_)
  obtain rfl := Option.some.inj h
  exact W.iret hx hb hr (r_end X hP hS) hS.2.2 dX10_harm_7 (hlocks := hlk)

def f_X10_harmIfReading (M : Mem) (a1 : Int32) (a2 : Int32) : Option (Int32 × Mem) :=
  (if ibd (a1) 5 then (Option.bind (f_X0_run (upd2 M (25 + (Int32.toNatClampNeg (a1))) 2 (a2))) fun r_3 => (Option.bind (f_X0_harmDone r_3) fun r_4 => some ((r_4.1, (upd2 (upd2 r_4.2 (25 + (Int32.toNatClampNeg (a1))) 2 ((M (25 + (Int32.toNatClampNeg (a1))) 2))) 5 0 (1)))))) else none)
set_option maxRecDepth 100000 in
set_option maxHeartbeats 4000000 in
theorem c_X10_harmIfReading (l : Launch) {G : GT} {φ : Nat → Nat} {n : Nat} {M : Mem} {a1 : Int32} {a2 : Int32} (hI : wI φ n) (hn : 107 ≤ n) {r : Int32 × Mem} (h : f_X10_harmIfReading M a1 a2 = some r) : CT l yX10_harmIfReading cX10_harmIfReading 6 (some .int) ({ frames := 5, cells := 0, slots := 0, locals := 122 } : Room) [.ref (φ 0), .int (a1), .int (a2)] (WB (cX G φ) φ M n G) (some (.int r.1)) (WB (cX G φ) φ (r.2) n G) φ n := by
  unfold f_X10_harmIfReading at h
  refine r_start (plainFor_of_name (by decide)) (Nat.le_of_ble_eq_true rfl) hI ?_
  intro p e s m args below meth c ls X hr hlk hP hl
  have hS : va_S (wA φ n s.heap.size) s.heap s.heap [] := va_S.rf
  have hx := X.1.1
  have hb := X.1.2.1
  have hl : lv_has ls 6 [(0, .ref (φ 0)), (1, .int (a1)), (2, .int (a2))] := hl
  refine lv_aload_n hx hb dX10_harmIfReading_0 rfl (lv_at hl 0 rfl) ?_
  refine G_X10_10 X.1 hn hP dX10_harmIfReading_1 ?_
  refine G_X10_108 X.1 hn hP dX10_harmIfReading_4 ?_
  refine lv_iload_n hx hb dX10_harmIfReading_7 rfl (lv_at hl 1 rfl) ?_
  obtain ⟨c_1, h⟩ := og h
  refine r_aald (t0 := 2) (k := (Int32.toNatClampNeg (a1))) X.1 hP rfl rfl (by omega) sX_people rfl (vin c_1) dX10_harmIfReading_8 ?_
  have hj_2 : (Int32.toNatClampNeg (a1)) < 5 := ibd_lt c_1
  refine G_X10_112 X.1 hn hP hj_2 dX10_harmIfReading_9 ?_
  refine lv_astore_n (lv' := [(3, .ref (φ (25 + (Int32.toNatClampNeg (a1))))), (0, .ref (φ 0)), (1, .int (a1)), (2, .int (a2))]) hx hb dX10_harmIfReading_12 rfl hl (by decide) rfl (fun ls hl => ?_)
  refine lv_aload_n hx hb dX10_harmIfReading_13 rfl (lv_at hl 0 rfl) ?_
  refine lv_iconst (v := 2) hx hb dX10_harmIfReading_14 (by decide) ?_
  refine r_iald (k := 2) X.1 hP (by omega) (sX_traits hj_2) (by decide) (vin (by decide)) dX10_harmIfReading_15 ?_
  refine lv_istore (lv' := [(4, .int ((M (25 + (Int32.toNatClampNeg (a1))) 2))), (3, .ref (φ (25 + (Int32.toNatClampNeg (a1))))), (0, .ref (φ 0)), (1, .int (a1)), (2, .int (a2))]) hx hb dX10_harmIfReading_16 hl (by decide) rfl (fun ls hl => ?_)
  refine lv_aload_n hx hb dX10_harmIfReading_18 rfl (lv_at hl 1 rfl) ?_
  refine lv_iconst (v := 2) hx hb dX10_harmIfReading_19 (by decide) ?_
  refine lv_iload_n hx hb dX10_harmIfReading_20 rfl (lv_at hl 4 rfl) ?_
  refine r_iast (k := 2) X.1 X.2.2.2.1 hP hS (by omega) (sX_traits hj_2) (by decide) (vin (by decide)) dX10_harmIfReading_21 (fun H locs hP hS => ?_)
  refine lv_aload_n hx hb dX10_harmIfReading_22 rfl (lv_at hl 2 rfl) ?_
  refine G_X10_21 X.1 hn hP dX10_harmIfReading_23 ?_
  obtain ⟨r_3, hr_3, h⟩ := ob h
  refine c_V0 (As := []) (rest := []) (a := 5) X hl.1 (c_X0_run l X.2.2.2.1.1 hn hr_3) (w_X10_207) qw_676 qw_677 ⟨Nat.le_of_ble_eq_true rfl, Nat.le_of_ble_eq_true rfl⟩ rfl rfl hP hS (by omega) sX_Course rfl rfl (Nat.le_of_ble_eq_true rfl) dX10_harmIfReading_26 (fun H locs hP hS => ?_)
  refine lv_aload_n hx hb dX10_harmIfReading_29 rfl (lv_at hl 2 rfl) ?_
  refine G_X10_21 X.1 hn hP dX10_harmIfReading_30 ?_
  obtain ⟨r_4, hr_4, h⟩ := ob h
  refine c_V0 (As := []) (rest := []) (a := 5) X hl.1 (c_X0_harmDone l X.2.2.2.1.1 hn hr_4) (w_X10_198) qw_774 qw_775 ⟨Nat.le_of_ble_eq_true rfl, Nat.le_of_ble_eq_true rfl⟩ rfl rfl hP hS (by omega) sX_Course rfl rfl (Nat.le_of_ble_eq_true rfl) dX10_harmIfReading_33 (fun H locs hP hS => ?_)
  refine lv_istore (lv' := [(5, .int (r_4.1)), (4, .int ((M (25 + (Int32.toNatClampNeg (a1))) 2))), (3, .ref (φ (25 + (Int32.toNatClampNeg (a1))))), (0, .ref (φ 0)), (1, .int (a1)), (2, .int (a2))]) hx hb dX10_harmIfReading_36 hl (by decide) rfl (fun ls hl => ?_)
  refine lv_aload_n hx hb dX10_harmIfReading_38 rfl (lv_at hl 2 rfl) ?_
  refine lv_iconst (v := 2) hx hb dX10_harmIfReading_39 (by decide) ?_
  refine lv_iload hx hb dX10_harmIfReading_40 (lv_at hl 1 rfl) ?_
  refine r_iast (k := 2) X.1 X.2.2.2.1 hP hS (by omega) (sX_traits hj_2) (by decide) (vin (by decide)) dX10_harmIfReading_42 (fun H locs hP hS => ?_)
  refine lv_aload_n hx hb dX10_harmIfReading_43 rfl (lv_at hl 3 rfl) ?_
  refine G_X10_21 X.1 hn hP dX10_harmIfReading_44 ?_
  refine lv_iconst (v := 1) hx hb dX10_harmIfReading_47 (by decide) ?_
  refine P_X10_93 X.1 hn X.2.2.2.1 hP hS rfl rfl dX10_harmIfReading_48 (fun H locs hP hS => ?_)
  refine lv_iload hx hb dX10_harmIfReading_51 (lv_at hl 0 rfl) ?_
  obtain rfl := Option.some.inj h
  exact W.iret hx hb hr (r_end X hP hS) hS.2.2 dX10_harmIfReading_53 (hlocks := hlk)

def f_X10_helps_19 (x1_3 : Int32) : Nat → Int32 → Int32 → Int32 → Mem → Option (Int32 × Mem)
  | 0, _, _, _, _ => none
  | fu_8 + 1, x2_4, x3_5, x4_6, M_7 => (if (M_7 1 3) ≤ x4_6 then (if x1_3 = 0 then some ((x2_4, M_7)) else some ((x3_5, M_7))) else (Option.bind (f_X10_harmIfReading M_7 (x4_6) (12)) fun r_11 => (if x2_4 = (-1) then (f_X10_helps_19 x1_3 fu_8 (x4_6) (r_11.1) ((x4_6 + 1)) r_11.2) else (if x3_5 ≤ r_11.1 then (f_X10_helps_19 x1_3 fu_8 (x2_4) (x3_5) ((x4_6 + 1)) r_11.2) else (f_X10_helps_19 x1_3 fu_8 (x4_6) (r_11.1) ((x4_6 + 1)) r_11.2)))))
def f_X10_helps (M : Mem) (a1 : Int32) : Option (Int32 × Mem) :=
  (if a1 < 0 then some (((-2), M)) else (if a1 ≤ 1 then (f_X10_helps_19 (a1) FU ((-1)) ((-1)) (0) M) else some (((-2), M))))
set_option maxRecDepth 100000 in
set_option maxHeartbeats 4000000 in
theorem c_X10_helps (l : Launch) {G : GT} {φ : Nat → Nat} {n : Nat} {M : Mem} {a1 : Int32} (hI : wI φ n) (hn : 107 ≤ n) {r : Int32 × Mem} (h : f_X10_helps M a1 = some r) : CT l yX10_helps cX10_helps 6 (some .int) ({ frames := 6, cells := 0, slots := 0, locals := 147 } : Room) [.ref (φ 0), .int (a1)] (WB (cX G φ) φ M n G) (some (.int r.1)) (WB (cX G φ) φ (r.2) n G) φ n := by
  unfold f_X10_helps at h
  refine r_start (plainFor_of_name (by decide)) (Nat.le_of_ble_eq_true rfl) hI ?_
  intro p e s m args below meth c ls X hr hlk hP hl
  have hS : va_S (wA φ n s.heap.size) s.heap s.heap [] := va_S.rf
  have hx := X.1.1
  have hb := X.1.2.1
  have hl : lv_has ls 6 [(0, .ref (φ 0)), (1, .int (a1))] := hl
  have L19 : ∀ (fu_8 : Nat) (M_7 : Mem) (x1_3 : Int32) (x2_4 : Int32) (x3_5 : Int32) (x4_6 : Int32)  (H : Heap) (locs : List Loc) (ls : Array Slot), va_P G.1 vwCl (wW (cX G φ) φ M_7 n) H → va_S (wA φ n s.heap.size) s.heap H locs → lv_has ls 6 [(0, .ref (φ 0)), (1, .int (x1_3)), (2, .int (x2_4)), (3, .int (x3_5)), (4, .int (x4_6))] → f_X10_helps_19 x1_3 fu_8 x2_4 x3_5 x4_6 M_7 = some r → W p l e ({ frames := 6, cells := 0, slots := 0, locals := 147 } : Room) s m args below meth c H locs 0 0 (MQ below (QQ (some (.int r.1)) (WB (cX G φ) φ (r.2) n G) (wA φ n s.heap.size)) args s 0 0 (wA φ n s.heap.size)) (F0 m 19 ls []) := by
    intro fu_8
    induction fu_8 with
    | zero =>
      intro M_7 x1_3 x2_4 x3_5 x4_6 H locs ls _ _ _  h
      have h : (none : Option (Int32 × Mem)) = some r := h
      cases h
    | succ fu_8 ih =>
      intro M_7 x1_3 x2_4 x3_5 x4_6 H locs ls hP hS hl  h
      rw [f_X10_helps_19] at h
      refine lv_iload hx hb dX10_helps_19 (lv_at hl 4 rfl) ?_
      refine lv_aload_n hx hb dX10_helps_21 rfl (lv_at hl 0 rfl) ?_
      refine G_X10_10 X.1 hn hP dX10_helps_22 ?_
      refine G_X10_201 X.1 hn hP dX10_helps_25 ?_
      refine lv_icmp_ge (tgt := 64) hx hb dX10_helps_28 (by decide) (fun c_9 => ?_) (fun c_9 => ?_)
      · rw [if_pos c_9] at h
        refine lv_iload_n hx hb dX10_helps_64 rfl (lv_at hl 1 rfl) ?_
        refine lv_if_ne (tgt := 72) hx hb dX10_helps_65 (by decide) (fun c_10 => ?_) (fun c_10 => ?_)
        · rw [if_neg c_10] at h
          refine lv_iload_n hx hb dX10_helps_72 rfl (lv_at hl 3 rfl) ?_
          obtain rfl := Option.some.inj h
          exact W.iret hx hb hr (r_end X hP hS) hS.2.2 dX10_helps_73 (hlocks := hlk)
        · rw [if_pos c_10] at h
          refine lv_iload_n hx hb dX10_helps_68 rfl (lv_at hl 2 rfl) ?_
          refine lv_goto (tgt := 73) hx hb dX10_helps_69 (by decide) ?_
          obtain rfl := Option.some.inj h
          exact W.iret hx hb hr (r_end X hP hS) hS.2.2 dX10_helps_73 (hlocks := hlk)
      · rw [if_neg c_9] at h
        refine lv_aload_n hx hb dX10_helps_31 rfl (lv_at hl 0 rfl) ?_
        refine lv_iload hx hb dX10_helps_32 (lv_at hl 4 rfl) ?_
        refine lv_bipush (v := 12) hx hb dX10_helps_34 (by decide) ?_
        obtain ⟨r_11, hr_11, h⟩ := ob h
        refine c_V0 (As := [.int (x4_6), .int (12)]) (rest := []) (a := 0) X hl.1 (c_X10_harmIfReading l X.2.2.2.1.1 hn hr_11) (w_X10_204) qw_792 qw_30 ⟨Nat.le_of_ble_eq_true rfl, Nat.le_of_ble_eq_true rfl⟩ rfl rfl hP hS (by omega) sX_KT rfl rfl (Nat.le_of_ble_eq_true rfl) dX10_helps_36 (fun H locs hP hS => ?_)
        refine lv_istore (lv' := [(5, .int (r_11.1)), (0, .ref (φ 0)), (1, .int (x1_3)), (2, .int (x2_4)), (3, .int (x3_5)), (4, .int (x4_6))]) hx hb dX10_helps_39 hl (by decide) rfl (fun ls hl => ?_)
        refine lv_iload_n hx hb dX10_helps_41 rfl (lv_at hl 3 rfl) ?_
        refine lv_iconst (v := (-1)) hx hb dX10_helps_42 (by decide) ?_
        refine lv_icmp_eq (tgt := 52) hx hb dX10_helps_43 (by decide) (fun c_12 => ?_) (fun c_12 => ?_)
        · rw [if_pos c_12] at h
          refine lv_iload hx hb dX10_helps_52 (lv_at hl 5 rfl) ?_
          refine lv_istore_n (lv' := [(2, .int (x4_6)), (5, .int (r_11.1)), (0, .ref (φ 0)), (1, .int (x1_3)), (3, .int (x3_5)), (4, .int (x4_6))]) hx hb dX10_helps_54 rfl hl (by decide) rfl (fun ls hl => ?_)
          refine lv_iload hx hb dX10_helps_55 (lv_at hl 1 rfl) ?_
          refine lv_istore_n (lv' := [(3, .int (r_11.1)), (2, .int (x4_6)), (5, .int (r_11.1)), (0, .ref (φ 0)), (1, .int (x1_3)), (4, .int (x4_6))]) hx hb dX10_helps_57 rfl hl (by decide) rfl (fun ls hl => ?_)
          refine lv_iinc (v := (x4_6 + 1)) (lv' := [(4, .int ((x4_6 + 1))), (3, .int (r_11.1)), (2, .int (x4_6)), (5, .int (r_11.1)), (0, .ref (φ 0)), (1, .int (x1_3))]) hx hb dX10_helps_58 hl (k := 5) rfl (by rw [show Int32.ofInt (1) = 1 from by decide]) (by decide) rfl (fun ls hl => ?_)
          refine lv_goto (tgt := 19) hx hb dX10_helps_61 (by decide) ?_
          exact ih _ _ _ _ _ _ _ _ hP hS (lv_sub hl [4, 5, 2, 1, 0] rfl)  h
        · rw [if_neg c_12] at h
          refine lv_iload hx hb dX10_helps_46 (lv_at hl 0 rfl) ?_
          refine lv_iload_n hx hb dX10_helps_48 rfl (lv_at hl 4 rfl) ?_
          refine lv_icmp_ge (tgt := 58) hx hb dX10_helps_49 (by decide) (fun c_13 => ?_) (fun c_13 => ?_)
          · rw [if_pos c_13] at h
            refine lv_iinc (v := (x4_6 + 1)) (lv' := [(4, .int ((x4_6 + 1))), (5, .int (r_11.1)), (0, .ref (φ 0)), (1, .int (x1_3)), (2, .int (x2_4)), (3, .int (x3_5))]) hx hb dX10_helps_58 hl (k := 5) rfl (by rw [show Int32.ofInt (1) = 1 from by decide]) (by decide) rfl (fun ls hl => ?_)
            refine lv_goto (tgt := 19) hx hb dX10_helps_61 (by decide) ?_
            exact ih _ _ _ _ _ _ _ _ hP hS (lv_sub hl [2, 3, 4, 5, 0] rfl)  h
          · rw [if_neg c_13] at h
            refine lv_iload hx hb dX10_helps_52 (lv_at hl 5 rfl) ?_
            refine lv_istore_n (lv' := [(2, .int (x4_6)), (5, .int (r_11.1)), (0, .ref (φ 0)), (1, .int (x1_3)), (3, .int (x3_5)), (4, .int (x4_6))]) hx hb dX10_helps_54 rfl hl (by decide) rfl (fun ls hl => ?_)
            refine lv_iload hx hb dX10_helps_55 (lv_at hl 1 rfl) ?_
            refine lv_istore_n (lv' := [(3, .int (r_11.1)), (2, .int (x4_6)), (5, .int (r_11.1)), (0, .ref (φ 0)), (1, .int (x1_3)), (4, .int (x4_6))]) hx hb dX10_helps_57 rfl hl (by decide) rfl (fun ls hl => ?_)
            refine lv_iinc (v := (x4_6 + 1)) (lv' := [(4, .int ((x4_6 + 1))), (3, .int (r_11.1)), (2, .int (x4_6)), (5, .int (r_11.1)), (0, .ref (φ 0)), (1, .int (x1_3))]) hx hb dX10_helps_58 hl (k := 5) rfl (by rw [show Int32.ofInt (1) = 1 from by decide]) (by decide) rfl (fun ls hl => ?_)
            refine lv_goto (tgt := 19) hx hb dX10_helps_61 (by decide) ?_
            exact ih _ _ _ _ _ _ _ _ hP hS (lv_sub hl [4, 5, 2, 1, 0] rfl)  h
  refine lv_iload_n hx hb dX10_helps_0 rfl (lv_at hl 1 rfl) ?_
  refine lv_if_lt (tgt := 9) hx hb dX10_helps_1 (by decide) (fun c_1 => ?_) (fun c_1 => ?_)
  · rw [if_pos c_1] at h
    refine lv_bipush (v := (-2)) hx hb dX10_helps_9 (by decide) ?_
    obtain rfl := Option.some.inj h
    exact W.iret hx hb hr (r_end X hP hS) hS.2.2 dX10_helps_11 (hlocks := hlk)
  · rw [if_neg c_1] at h
    refine lv_iload_n hx hb dX10_helps_4 rfl (lv_at hl 1 rfl) ?_
    refine lv_iconst (v := 1) hx hb dX10_helps_5 (by decide) ?_
    refine lv_icmp_le (tgt := 12) hx hb dX10_helps_6 (by decide) (fun c_2 => ?_) (fun c_2 => ?_)
    · rw [if_pos c_2] at h
      refine lv_iconst (v := (-1)) hx hb dX10_helps_12 (by decide) ?_
      refine lv_istore_n (lv' := [(2, .int ((-1))), (0, .ref (φ 0)), (1, .int (a1))]) hx hb dX10_helps_13 rfl hl (by decide) rfl (fun ls hl => ?_)
      refine lv_iconst (v := (-1)) hx hb dX10_helps_14 (by decide) ?_
      refine lv_istore_n (lv' := [(3, .int ((-1))), (2, .int ((-1))), (0, .ref (φ 0)), (1, .int (a1))]) hx hb dX10_helps_15 rfl hl (by decide) rfl (fun ls hl => ?_)
      refine lv_iconst (v := 0) hx hb dX10_helps_16 (by decide) ?_
      refine lv_istore (lv' := [(4, .int (0)), (3, .int ((-1))), (2, .int ((-1))), (0, .ref (φ 0)), (1, .int (a1))]) hx hb dX10_helps_17 hl (by decide) rfl (fun ls hl => ?_)
      refine L19 _ _ _ _ _ _ _ _ _ hP hS (lv_sub hl [3, 4, 2, 1, 0] rfl)  h
    · rw [if_neg c_2] at h
      refine lv_bipush (v := (-2)) hx hb dX10_helps_9 (by decide) ?_
      obtain rfl := Option.some.inj h
      exact W.iret hx hb hr (r_end X hP hS) hS.2.2 dX10_helps_11 (hlocks := hlk)

def f_X10_once_36 (j2_4 : Nat) (x3_6 : Int32) : Nat → Int32 → Int32 → Mem → Option (Int32 × Mem)
  | 0, _, _, _ => none
  | fu_10 + 1, x4_7, x5_8, M_9 => (if x5_8 < 0 then some ((x4_7, (upd2 (upd2 M_9 (30 + j2_4) 1 (x3_6)) 5 0 (1)))) else (if x4_7 = (-1) then (Option.bind (f_X0_run (upd2 M_9 (30 + j2_4) 1 (x5_8))) fun r_13 => (if ibd ((r_13 (30 + j2_4) 2)) 4 then (if (r_13 10 (Int32.toNatClampNeg ((r_13 (30 + j2_4) 2)))) = 1 then (f_X10_once_36 j2_4 x3_6 fu_10 (x5_8) ((x5_8 + (-1))) r_13) else (f_X10_once_36 j2_4 x3_6 fu_10 (x4_7) ((x5_8 + (-1))) r_13)) else none)) else some ((x4_7, (upd2 (upd2 M_9 (30 + j2_4) 1 (x3_6)) 5 0 (1))))))
def f_X10_once (M : Mem) (a1 : Int32) : Option (Int32 × Mem) :=
  (if (f_X8_hasSlip M (a1)) = 0 then some (((-2), M)) else (if ibd (a1) 10 then (f_X10_once_36 (Int32.toNatClampNeg (a1)) ((M (30 + (Int32.toNatClampNeg (a1))) 1)) FU ((-1)) (47) M) else none))
set_option maxRecDepth 100000 in
set_option maxHeartbeats 4000000 in
theorem c_X10_once (l : Launch) {G : GT} {φ : Nat → Nat} {n : Nat} {M : Mem} {a1 : Int32} (hI : wI φ n) (hn : 107 ≤ n) {r : Int32 × Mem} (h : f_X10_once M a1 = some r) : CT l yX10_once cX10_once 6 (some .int) ({ frames := 5, cells := 0, slots := 0, locals := 122 } : Room) [.ref (φ 0), .int (a1)] (WB (cX G φ) φ M n G) (some (.int r.1)) (WB (cX G φ) φ (r.2) n G) φ n := by
  unfold f_X10_once at h
  refine r_start (plainFor_of_name (by decide)) (Nat.le_of_ble_eq_true rfl) hI ?_
  intro p e s m args below meth c ls X hr hlk hP hl
  have hS : va_S (wA φ n s.heap.size) s.heap s.heap [] := va_S.rf
  have hx := X.1.1
  have hb := X.1.2.1
  have hl : lv_has ls 6 [(0, .ref (φ 0)), (1, .int (a1))] := hl
  have L36 : ∀ (fu_10 : Nat) (M_9 : Mem) (j2_4 : Nat) (x3_6 : Int32) (x4_7 : Int32) (x5_8 : Int32)  (H : Heap) (locs : List Loc) (ls : Array Slot) (hj_5 : j2_4 < 10), va_P G.1 vwCl (wW (cX G φ) φ M_9 n) H → va_S (wA φ n s.heap.size) s.heap H locs → lv_has ls 6 [(0, .ref (φ 0)), (2, .ref (φ (30 + j2_4))), (3, .int (x3_6)), (4, .int (x4_7)), (5, .int (x5_8))] → f_X10_once_36 j2_4 x3_6 fu_10 x4_7 x5_8 M_9 = some r → W p l e ({ frames := 5, cells := 0, slots := 0, locals := 122 } : Room) s m args below meth c H locs 0 0 (MQ below (QQ (some (.int r.1)) (WB (cX G φ) φ (r.2) n G) (wA φ n s.heap.size)) args s 0 0 (wA φ n s.heap.size)) (F0 m 36 ls []) := by
    intro fu_10
    induction fu_10 with
    | zero =>
      intro M_9 j2_4 x3_6 x4_7 x5_8 H locs ls hj_5 _ _ _  h
      have h : (none : Option (Int32 × Mem)) = some r := h
      cases h
    | succ fu_10 ih =>
      intro M_9 j2_4 x3_6 x4_7 x5_8 H locs ls hj_5 hP hS hl  h
      rw [f_X10_once_36] at h
      refine lv_iload hx hb dX10_once_36 (lv_at hl 4 rfl) ?_
      refine lv_if_lt (tgt := 86) hx hb dX10_once_38 (by decide) (fun c_11 => ?_) (fun c_11 => ?_)
      · rw [if_pos c_11] at h
        refine lv_aload_n hx hb dX10_once_86 rfl (lv_at hl 1 rfl) ?_
        refine lv_iload_n hx hb dX10_once_87 rfl (lv_at hl 2 rfl) ?_
        refine P_X10_130 X.1 hn X.2.2.2.1 hP hS hj_5 dX10_once_88 (fun H locs hP hS => ?_)
        refine lv_aload_n hx hb dX10_once_91 rfl (lv_at hl 0 rfl) ?_
        refine G_X10_21 X.1 hn hP dX10_once_92 ?_
        refine lv_iconst (v := 1) hx hb dX10_once_95 (by decide) ?_
        refine P_X10_93 X.1 hn X.2.2.2.1 hP hS rfl rfl dX10_once_96 (fun H locs hP hS => ?_)
        refine lv_iload hx hb dX10_once_99 (lv_at hl 3 rfl) ?_
        obtain rfl := Option.some.inj h
        exact W.iret hx hb hr (r_end X hP hS) hS.2.2 dX10_once_101 (hlocks := hlk)
      · rw [if_neg c_11] at h
        refine lv_iload hx hb dX10_once_41 (lv_at hl 3 rfl) ?_
        refine lv_iconst (v := (-1)) hx hb dX10_once_43 (by decide) ?_
        refine lv_icmp_ne (tgt := 86) hx hb dX10_once_44 (by decide) (fun c_12 => ?_) (fun c_12 => ?_)
        · rw [if_neg c_12] at h
          refine lv_aload_n hx hb dX10_once_86 rfl (lv_at hl 1 rfl) ?_
          refine lv_iload_n hx hb dX10_once_87 rfl (lv_at hl 2 rfl) ?_
          refine P_X10_130 X.1 hn X.2.2.2.1 hP hS hj_5 dX10_once_88 (fun H locs hP hS => ?_)
          refine lv_aload_n hx hb dX10_once_91 rfl (lv_at hl 0 rfl) ?_
          refine G_X10_21 X.1 hn hP dX10_once_92 ?_
          refine lv_iconst (v := 1) hx hb dX10_once_95 (by decide) ?_
          refine P_X10_93 X.1 hn X.2.2.2.1 hP hS rfl rfl dX10_once_96 (fun H locs hP hS => ?_)
          refine lv_iload hx hb dX10_once_99 (lv_at hl 3 rfl) ?_
          obtain rfl := Option.some.inj h
          exact W.iret hx hb hr (r_end X hP hS) hS.2.2 dX10_once_101 (hlocks := hlk)
        · rw [if_pos c_12] at h
          refine lv_aload_n hx hb dX10_once_47 rfl (lv_at hl 1 rfl) ?_
          refine lv_iload hx hb dX10_once_48 (lv_at hl 4 rfl) ?_
          refine P_X10_130 X.1 hn X.2.2.2.1 hP hS hj_5 dX10_once_50 (fun H locs hP hS => ?_)
          refine lv_aload_n hx hb dX10_once_53 rfl (lv_at hl 0 rfl) ?_
          refine G_X10_21 X.1 hn hP dX10_once_54 ?_
          obtain ⟨r_13, hr_13, h⟩ := ob h
          refine c_V0 (As := []) (rest := []) (a := 5) X hl.1 (c_X0_run l X.2.2.2.1.1 hn hr_13) (w_X10_207) qw_676 qw_677 ⟨Nat.le_of_ble_eq_true rfl, Nat.le_of_ble_eq_true rfl⟩ rfl rfl hP hS (by omega) sX_Course rfl rfl (Nat.le_of_ble_eq_true rfl) dX10_once_57 (fun H locs hP hS => ?_)
          refine lv_aload_n hx hb dX10_once_60 rfl (lv_at hl 0 rfl) ?_
          refine G_X10_21 X.1 hn hP dX10_once_61 ?_
          refine G_X10_183 X.1 hn hP dX10_once_64 ?_
          refine lv_aload_n hx hb dX10_once_67 rfl (lv_at hl 1 rfl) ?_
          refine G_X10_133 X.1 hn hP hj_5 dX10_once_68 ?_
          obtain ⟨c_14, h⟩ := og h
          refine r_iald (k := (Int32.toNatClampNeg ((r_13 (30 + j2_4) 2)))) X.1 hP (by omega) sX_timesInAll rfl (vin c_14) dX10_once_71 ?_
          refine lv_iconst (v := 1) hx hb dX10_once_72 (by decide) ?_
          refine lv_icmp_ne (tgt := 80) hx hb dX10_once_73 (by decide) (fun c_15 => ?_) (fun c_15 => ?_)
          · rw [if_neg c_15] at h
            refine lv_iinc (v := (x5_8 + (-1))) (lv' := [(5, .int ((x5_8 + (-1)))), (0, .ref (φ 0)), (2, .ref (φ (30 + j2_4))), (3, .int (x3_6)), (4, .int (x4_7))]) hx hb dX10_once_80 hl (k := 4) rfl (by rw [show Int32.ofInt (-1) = (-1) from by decide]) (by decide) rfl (fun ls hl => ?_)
            refine lv_goto (tgt := 36) hx hb dX10_once_83 (by decide) ?_
            exact ih _ _ _ _ _ _ _ _ hj_5 hP hS (lv_sub hl [1, 2, 3, 4, 0] rfl)  h
          · rw [if_pos c_15] at h
            refine lv_iload hx hb dX10_once_76 (lv_at hl 4 rfl) ?_
            refine lv_istore (lv' := [(4, .int (x5_8)), (0, .ref (φ 0)), (2, .ref (φ (30 + j2_4))), (3, .int (x3_6)), (5, .int (x5_8))]) hx hb dX10_once_78 hl (by decide) rfl (fun ls hl => ?_)
            refine lv_iinc (v := (x5_8 + (-1))) (lv' := [(5, .int ((x5_8 + (-1)))), (4, .int (x5_8)), (0, .ref (φ 0)), (2, .ref (φ (30 + j2_4))), (3, .int (x3_6))]) hx hb dX10_once_80 hl (k := 4) rfl (by rw [show Int32.ofInt (-1) = (-1) from by decide]) (by decide) rfl (fun ls hl => ?_)
            refine lv_goto (tgt := 36) hx hb dX10_once_83 (by decide) ?_
            exact ih _ _ _ _ _ _ _ _ hj_5 hP hS (lv_sub hl [2, 3, 4, 1, 0] rfl)  h
  refine lv_aload_n hx hb dX10_once_0 rfl (lv_at hl 0 rfl) ?_
  refine G_X10_10 X.1 hn hP dX10_once_1 ?_
  refine lv_iload_n hx hb dX10_once_4 rfl (lv_at hl 1 rfl) ?_
  refine c_V0 (As := [.int (a1)]) (rest := []) (a := 1) X hl.1 (c_X8_hasSlip l X.2.2.2.1.1 hn rfl) (w_X10_118) qw_644 qw_645 ⟨Nat.le_of_ble_eq_true rfl, Nat.le_of_ble_eq_true rfl⟩ rfl rfl hP hS (by omega) sX_Table rfl rfl (Nat.le_of_ble_eq_true rfl) dX10_once_5 (fun H locs hP hS => ?_)
  refine lv_if_ne (tgt := 14) hx hb dX10_once_8 (by decide) (fun c_1 => ?_) (fun c_1 => ?_)
  · rw [if_neg c_1] at h
    refine lv_aload_n hx hb dX10_once_14 rfl (lv_at hl 0 rfl) ?_
    refine G_X10_10 X.1 hn hP dX10_once_15 ?_
    refine G_X10_121 X.1 hn hP dX10_once_18 ?_
    refine lv_iload_n hx hb dX10_once_21 rfl (lv_at hl 1 rfl) ?_
    obtain ⟨c_2, h⟩ := og h
    refine r_aald (t0 := 3) (k := (Int32.toNatClampNeg (a1))) X.1 hP rfl rfl (by omega) sX_slips rfl (vin c_2) dX10_once_22 ?_
    have hj_3 : (Int32.toNatClampNeg (a1)) < 10 := ibd_lt c_2
    refine lv_astore_n (lv' := [(2, .ref (φ (30 + (Int32.toNatClampNeg (a1))))), (0, .ref (φ 0)), (1, .int (a1))]) hx hb dX10_once_23 rfl hl (by decide) rfl (fun ls hl => ?_)
    refine lv_aload_n hx hb dX10_once_24 rfl (lv_at hl 0 rfl) ?_
    refine G_X10_130 X.1 hn hP hj_3 dX10_once_25 ?_
    refine lv_istore_n (lv' := [(3, .int ((M (30 + (Int32.toNatClampNeg (a1))) 1))), (2, .ref (φ (30 + (Int32.toNatClampNeg (a1))))), (0, .ref (φ 0)), (1, .int (a1))]) hx hb dX10_once_28 rfl hl (by decide) rfl (fun ls hl => ?_)
    refine lv_iconst (v := (-1)) hx hb dX10_once_29 (by decide) ?_
    refine lv_istore (lv' := [(4, .int ((-1))), (3, .int ((M (30 + (Int32.toNatClampNeg (a1))) 1))), (2, .ref (φ (30 + (Int32.toNatClampNeg (a1))))), (0, .ref (φ 0)), (1, .int (a1))]) hx hb dX10_once_30 hl (by decide) rfl (fun ls hl => ?_)
    refine lv_bipush (v := 47) hx hb dX10_once_32 (by decide) ?_
    refine lv_istore (lv' := [(5, .int (47)), (4, .int ((-1))), (3, .int ((M (30 + (Int32.toNatClampNeg (a1))) 1))), (2, .ref (φ (30 + (Int32.toNatClampNeg (a1))))), (0, .ref (φ 0)), (1, .int (a1))]) hx hb dX10_once_34 hl (by decide) rfl (fun ls hl => ?_)
    refine L36 _ _ _ _ _ _ _ _ _ hj_3 hP hS (lv_sub hl [4, 3, 2, 1, 0] rfl)  h
  · rw [if_pos c_1] at h
    refine lv_bipush (v := (-2)) hx hb dX10_once_11 (by decide) ?_
    obtain rfl := Option.some.inj h
    exact W.iret hx hb hr (r_end X hP hS) hS.2.2 dX10_once_13 (hlocks := hlk)

def f_X10_whose_27 (x1_4 : Int32) (x2_5 : Int32) : Nat → Int32 → Mem → Option (Int32 × Mem)
  | 0, _, _ => none
  | fu_8 + 1, x3_6, M_7 => (if 12 < x3_6 then some (((-1), M_7)) else (Option.bind (f_X10_harmIfReading M_7 (x1_4) (x3_6)) fun r_10 => (if x2_5 < r_10.1 then (f_X10_whose_27 x1_4 x2_5 fu_8 ((x3_6 + 1)) r_10.2) else some ((x3_6, r_10.2)))))
def f_X10_whose (M : Mem) (a1 : Int32) (a2 : Int32) : Option (Int32 × Mem) :=
  (if (f_X8_hasGuest M (a1)) = 0 then some (((-2), M)) else (if a2 < 0 then some (((-2), M)) else (if a2 ≤ 9999 then (f_X10_whose_27 (a1) (a2) FU (0) M) else some (((-2), M)))))
set_option maxRecDepth 100000 in
set_option maxHeartbeats 4000000 in
theorem c_X10_whose (l : Launch) {G : GT} {φ : Nat → Nat} {n : Nat} {M : Mem} {a1 : Int32} {a2 : Int32} (hI : wI φ n) (hn : 107 ≤ n) {r : Int32 × Mem} (h : f_X10_whose M a1 a2 = some r) : CT l yX10_whose cX10_whose 4 (some .int) ({ frames := 6, cells := 0, slots := 0, locals := 147 } : Room) [.ref (φ 0), .int (a1), .int (a2)] (WB (cX G φ) φ M n G) (some (.int r.1)) (WB (cX G φ) φ (r.2) n G) φ n := by
  unfold f_X10_whose at h
  refine r_start (plainFor_of_name (by decide)) (Nat.le_of_ble_eq_true rfl) hI ?_
  intro p e s m args below meth c ls X hr hlk hP hl
  have hS : va_S (wA φ n s.heap.size) s.heap s.heap [] := va_S.rf
  have hx := X.1.1
  have hb := X.1.2.1
  have hl : lv_has ls 4 [(0, .ref (φ 0)), (1, .int (a1)), (2, .int (a2))] := hl
  have L27 : ∀ (fu_8 : Nat) (M_7 : Mem) (x1_4 : Int32) (x2_5 : Int32) (x3_6 : Int32)  (H : Heap) (locs : List Loc) (ls : Array Slot), va_P G.1 vwCl (wW (cX G φ) φ M_7 n) H → va_S (wA φ n s.heap.size) s.heap H locs → lv_has ls 4 [(0, .ref (φ 0)), (1, .int (x1_4)), (2, .int (x2_5)), (3, .int (x3_6))] → f_X10_whose_27 x1_4 x2_5 fu_8 x3_6 M_7 = some r → W p l e ({ frames := 6, cells := 0, slots := 0, locals := 147 } : Room) s m args below meth c H locs 0 0 (MQ below (QQ (some (.int r.1)) (WB (cX G φ) φ (r.2) n G) (wA φ n s.heap.size)) args s 0 0 (wA φ n s.heap.size)) (F0 m 27 ls []) := by
    intro fu_8
    induction fu_8 with
    | zero =>
      intro M_7 x1_4 x2_5 x3_6 H locs ls _ _ _  h
      have h : (none : Option (Int32 × Mem)) = some r := h
      cases h
    | succ fu_8 ih =>
      intro M_7 x1_4 x2_5 x3_6 H locs ls hP hS hl  h
      rw [f_X10_whose_27] at h
      refine lv_iload_n hx hb dX10_whose_27 rfl (lv_at hl 3 rfl) ?_
      refine lv_bipush (v := 12) hx hb dX10_whose_28 (by decide) ?_
      refine lv_icmp_gt (tgt := 51) hx hb dX10_whose_30 (by decide) (fun c_9 => ?_) (fun c_9 => ?_)
      · rw [if_pos c_9] at h
        refine lv_iconst (v := (-1)) hx hb dX10_whose_51 (by decide) ?_
        obtain rfl := Option.some.inj h
        exact W.iret hx hb hr (r_end X hP hS) hS.2.2 dX10_whose_52 (hlocks := hlk)
      · rw [if_neg c_9] at h
        refine lv_aload_n hx hb dX10_whose_33 rfl (lv_at hl 0 rfl) ?_
        refine lv_iload_n hx hb dX10_whose_34 rfl (lv_at hl 1 rfl) ?_
        refine lv_iload_n hx hb dX10_whose_35 rfl (lv_at hl 3 rfl) ?_
        obtain ⟨r_10, hr_10, h⟩ := ob h
        refine c_V0 (As := [.int (x1_4), .int (x3_6)]) (rest := []) (a := 0) X hl.1 (c_X10_harmIfReading l X.2.2.2.1.1 hn hr_10) (w_X10_204) qw_792 qw_30 ⟨Nat.le_of_ble_eq_true rfl, Nat.le_of_ble_eq_true rfl⟩ rfl rfl hP hS (by omega) sX_KT rfl rfl (Nat.le_of_ble_eq_true rfl) dX10_whose_36 (fun H locs hP hS => ?_)
        refine lv_iload_n hx hb dX10_whose_39 rfl (lv_at hl 2 rfl) ?_
        refine lv_icmp_gt (tgt := 45) hx hb dX10_whose_40 (by decide) (fun c_11 => ?_) (fun c_11 => ?_)
        · rw [if_pos c_11] at h
          refine lv_iinc (v := (x3_6 + 1)) (lv' := [(3, .int ((x3_6 + 1))), (0, .ref (φ 0)), (1, .int (x1_4)), (2, .int (x2_5))]) hx hb dX10_whose_45 hl (k := 3) rfl (by rw [show Int32.ofInt (1) = 1 from by decide]) (by decide) rfl (fun ls hl => ?_)
          refine lv_goto (tgt := 27) hx hb dX10_whose_48 (by decide) ?_
          exact ih _ _ _ _ _ _ _ hP hS (lv_sub hl [1, 2, 3, 0] rfl)  h
        · rw [if_neg c_11] at h
          refine lv_iload_n hx hb dX10_whose_43 rfl (lv_at hl 3 rfl) ?_
          obtain rfl := Option.some.inj h
          exact W.iret hx hb hr (r_end X hP hS) hS.2.2 dX10_whose_44 (hlocks := hlk)
  refine lv_aload_n hx hb dX10_whose_0 rfl (lv_at hl 0 rfl) ?_
  refine G_X10_10 X.1 hn hP dX10_whose_1 ?_
  refine lv_iload_n hx hb dX10_whose_4 rfl (lv_at hl 1 rfl) ?_
  refine c_V0 (As := [.int (a1)]) (rest := []) (a := 1) X hl.1 (c_X8_hasGuest l X.2.2.2.1.1 hn rfl) (w_X10_105) qw_648 qw_649 ⟨Nat.le_of_ble_eq_true rfl, Nat.le_of_ble_eq_true rfl⟩ rfl rfl hP hS (by omega) sX_Table rfl rfl (Nat.le_of_ble_eq_true rfl) dX10_whose_5 (fun H locs hP hS => ?_)
  refine lv_if_eq (tgt := 22) hx hb dX10_whose_8 (by decide) (fun c_1 => ?_) (fun c_1 => ?_)
  · rw [if_pos c_1] at h
    refine lv_bipush (v := (-2)) hx hb dX10_whose_22 (by decide) ?_
    obtain rfl := Option.some.inj h
    exact W.iret hx hb hr (r_end X hP hS) hS.2.2 dX10_whose_24 (hlocks := hlk)
  · rw [if_neg c_1] at h
    refine lv_iload_n hx hb dX10_whose_11 rfl (lv_at hl 2 rfl) ?_
    refine lv_if_lt (tgt := 22) hx hb dX10_whose_12 (by decide) (fun c_2 => ?_) (fun c_2 => ?_)
    · rw [if_pos c_2] at h
      refine lv_bipush (v := (-2)) hx hb dX10_whose_22 (by decide) ?_
      obtain rfl := Option.some.inj h
      exact W.iret hx hb hr (r_end X hP hS) hS.2.2 dX10_whose_24 (hlocks := hlk)
    · rw [if_neg c_2] at h
      refine lv_iload_n hx hb dX10_whose_15 rfl (lv_at hl 2 rfl) ?_
      refine lv_sipush (v := 9999) hx hb dX10_whose_16 (by decide) ?_
      refine lv_icmp_le (tgt := 25) hx hb dX10_whose_19 (by decide) (fun c_3 => ?_) (fun c_3 => ?_)
      · rw [if_pos c_3] at h
        refine lv_iconst (v := 0) hx hb dX10_whose_25 (by decide) ?_
        refine lv_istore_n (lv' := [(3, .int (0)), (0, .ref (φ 0)), (1, .int (a1)), (2, .int (a2))]) hx hb dX10_whose_26 rfl hl (by decide) rfl (fun ls hl => ?_)
        refine L27 _ _ _ _ _ _ _ _ hP hS (lv_sub hl [1, 2, 3, 0] rfl)  h
      · rw [if_neg c_3] at h
        refine lv_bipush (v := (-2)) hx hb dX10_whose_22 (by decide) ?_
        obtain rfl := Option.some.inj h
        exact W.iret hx hb hr (r_end X hP hS) hS.2.2 dX10_whose_24 (hlocks := hlk)

def f_X10_mark (M : Mem) (a1 : Int32) (a2 : Int32) : Option (Int32 × Mem) :=
  (if (f_X8_hasSlip M (a1)) = 0 then some (((-2), M)) else (if (f_X8_hasSlip M (a2)) = 0 then some (((-2), M)) else (if a1 = a2 then some (((-2), M)) else (Option.bind (f_X3_add M (a1) (a2)) fun r_4 => (if r_4.1 = 0 then some (((-4), r_4.2)) else some (((r_4.2 85 2), r_4.2)))))))
set_option maxRecDepth 100000 in
set_option maxHeartbeats 4000000 in
theorem c_X10_mark (l : Launch) {G : GT} {φ : Nat → Nat} {n : Nat} {M : Mem} {a1 : Int32} {a2 : Int32} (hI : wI φ n) (hn : 107 ≤ n) {r : Int32 × Mem} (h : f_X10_mark M a1 a2 = some r) : CT l yX10_mark cX10_mark 3 (some .int) ({ frames := 1, cells := 0, slots := 0, locals := 22 } : Room) [.ref (φ 0), .int (a1), .int (a2)] (WB (cX G φ) φ M n G) (some (.int r.1)) (WB (cX G φ) φ (r.2) n G) φ n := by
  unfold f_X10_mark at h
  refine r_start (plainFor_of_name (by decide)) (Nat.le_of_ble_eq_true rfl) hI ?_
  intro p e s m args below meth c ls X hr hlk hP hl
  have hS : va_S (wA φ n s.heap.size) s.heap s.heap [] := va_S.rf
  have hx := X.1.1
  have hb := X.1.2.1
  have hl : lv_has ls 3 [(0, .ref (φ 0)), (1, .int (a1)), (2, .int (a2))] := hl
  refine lv_aload_n hx hb dX10_mark_0 rfl (lv_at hl 0 rfl) ?_
  refine G_X10_10 X.1 hn hP dX10_mark_1 ?_
  refine lv_iload_n hx hb dX10_mark_4 rfl (lv_at hl 1 rfl) ?_
  refine c_V0 (As := [.int (a1)]) (rest := []) (a := 1) X hl.1 (c_X8_hasSlip l X.2.2.2.1.1 hn rfl) (w_X10_118) qw_644 qw_645 ⟨Nat.le_of_ble_eq_true rfl, Nat.le_of_ble_eq_true rfl⟩ rfl rfl hP hS (by omega) sX_Table rfl rfl (Nat.le_of_ble_eq_true rfl) dX10_mark_5 (fun H locs hP hS => ?_)
  refine lv_if_eq (tgt := 27) hx hb dX10_mark_8 (by decide) (fun c_1 => ?_) (fun c_1 => ?_)
  · rw [if_pos c_1] at h
    refine lv_bipush (v := (-2)) hx hb dX10_mark_27 (by decide) ?_
    obtain rfl := Option.some.inj h
    exact W.iret hx hb hr (r_end X hP hS) hS.2.2 dX10_mark_29 (hlocks := hlk)
  · rw [if_neg c_1] at h
    refine lv_aload_n hx hb dX10_mark_11 rfl (lv_at hl 0 rfl) ?_
    refine G_X10_10 X.1 hn hP dX10_mark_12 ?_
    refine lv_iload_n hx hb dX10_mark_15 rfl (lv_at hl 2 rfl) ?_
    refine c_V0 (As := [.int (a2)]) (rest := []) (a := 1) X hl.1 (c_X8_hasSlip l X.2.2.2.1.1 hn rfl) (w_X10_118) qw_644 qw_645 ⟨Nat.le_of_ble_eq_true rfl, Nat.le_of_ble_eq_true rfl⟩ rfl rfl hP hS (by omega) sX_Table rfl rfl (Nat.le_of_ble_eq_true rfl) dX10_mark_16 (fun H locs hP hS => ?_)
    refine lv_if_eq (tgt := 27) hx hb dX10_mark_19 (by decide) (fun c_2 => ?_) (fun c_2 => ?_)
    · rw [if_pos c_2] at h
      refine lv_bipush (v := (-2)) hx hb dX10_mark_27 (by decide) ?_
      obtain rfl := Option.some.inj h
      exact W.iret hx hb hr (r_end X hP hS) hS.2.2 dX10_mark_29 (hlocks := hlk)
    · rw [if_neg c_2] at h
      refine lv_iload_n hx hb dX10_mark_22 rfl (lv_at hl 1 rfl) ?_
      refine lv_iload_n hx hb dX10_mark_23 rfl (lv_at hl 2 rfl) ?_
      refine lv_icmp_ne (tgt := 30) hx hb dX10_mark_24 (by decide) (fun c_3 => ?_) (fun c_3 => ?_)
      · rw [if_neg c_3] at h
        refine lv_aload_n hx hb dX10_mark_30 rfl (lv_at hl 0 rfl) ?_
        refine G_X10_35 X.1 hn hP dX10_mark_31 ?_
        refine lv_iload_n hx hb dX10_mark_34 rfl (lv_at hl 1 rfl) ?_
        refine lv_iload_n hx hb dX10_mark_35 rfl (lv_at hl 2 rfl) ?_
        obtain ⟨r_4, hr_4, h⟩ := ob h
        refine c_V0 (As := [.int (a1), .int (a2)]) (rest := []) (a := 85) X hl.1 (c_X3_add l X.2.2.2.1.1 hn hr_4) (w_X10_210) qw_807 qw_808 ⟨Nat.le_of_ble_eq_true rfl, Nat.le_of_ble_eq_true rfl⟩ rfl rfl hP hS (by omega) sX_Marks rfl rfl (Nat.le_of_ble_eq_true rfl) dX10_mark_36 (fun H locs hP hS => ?_)
        refine lv_if_eq (tgt := 52) hx hb dX10_mark_39 (by decide) (fun c_5 => ?_) (fun c_5 => ?_)
        · rw [if_pos c_5] at h
          refine lv_bipush (v := (-4)) hx hb dX10_mark_52 (by decide) ?_
          obtain rfl := Option.some.inj h
          exact W.iret hx hb hr (r_end X hP hS) hS.2.2 dX10_mark_54 (hlocks := hlk)
        · rw [if_neg c_5] at h
          refine lv_aload_n hx hb dX10_mark_42 rfl (lv_at hl 0 rfl) ?_
          refine G_X10_35 X.1 hn hP dX10_mark_43 ?_
          refine G_X10_213 X.1 hn hP dX10_mark_46 ?_
          refine lv_goto (tgt := 54) hx hb dX10_mark_49 (by decide) ?_
          obtain rfl := Option.some.inj h
          exact W.iret hx hb hr (r_end X hP hS) hS.2.2 dX10_mark_54 (hlocks := hlk)
      · rw [if_pos c_3] at h
        refine lv_bipush (v := (-2)) hx hb dX10_mark_27 (by decide) ?_
        obtain rfl := Option.some.inj h
        exact W.iret hx hb hr (r_end X hP hS) hS.2.2 dX10_mark_29 (hlocks := hlk)

def f_X10_orders (M : Mem) : Option (Int64 × Mem) :=
  (Option.bind (f_X3_ordersOf M ((M 1 4)) ((-1)) ((-1))) fun r_1 => some (((Int32.toInt64 (r_1.1)), r_1.2)))
set_option maxRecDepth 100000 in
set_option maxHeartbeats 4000000 in
theorem c_X10_orders (l : Launch) {G : GT} {φ : Nat → Nat} {n : Nat} {M : Mem} (hI : wI φ n) (hn : 107 ≤ n) {r : Int64 × Mem} (h : f_X10_orders M = some r) : CT l yX10_orders cX10_orders 1 (some .long) ({ frames := 2, cells := 0, slots := 0, locals := 49 } : Room) [.ref (φ 0)] (WB (cX G φ) φ M n G) (some (.long r.1)) (WB (cX G φ) φ (r.2) n G) φ n := by
  unfold f_X10_orders at h
  refine r_start (plainFor_of_name (by decide)) (Nat.le_of_ble_eq_true rfl) hI ?_
  intro p e s m args below meth c ls X hr hlk hP hl
  have hS : va_S (wA φ n s.heap.size) s.heap s.heap [] := va_S.rf
  have hx := X.1.1
  have hb := X.1.2.1
  have hl : lv_has ls 1 [(0, .ref (φ 0))] := hl
  refine lv_aload_n hx hb dX10_orders_0 rfl (lv_at hl 0 rfl) ?_
  refine G_X10_35 X.1 hn hP dX10_orders_1 ?_
  refine lv_aload_n hx hb dX10_orders_4 rfl (lv_at hl 0 rfl) ?_
  refine G_X10_10 X.1 hn hP dX10_orders_5 ?_
  refine G_X10_167 X.1 hn hP dX10_orders_8 ?_
  refine lv_iconst (v := (-1)) hx hb dX10_orders_11 (by decide) ?_
  refine lv_iconst (v := (-1)) hx hb dX10_orders_12 (by decide) ?_
  obtain ⟨r_1, hr_1, h⟩ := ob h
  refine c_V0 (As := [.int ((M 1 4)), .int ((-1)), .int ((-1))]) (rest := []) (a := 85) X hl.1 (c_X3_ordersOf l X.2.2.2.1.1 hn hr_1) (w_X10_214) qw_815 qw_816 ⟨Nat.le_of_ble_eq_true rfl, Nat.le_of_ble_eq_true rfl⟩ rfl rfl hP hS (by omega) sX_Marks rfl rfl (Nat.le_of_ble_eq_true rfl) dX10_orders_13 (fun H locs hP hS => ?_)
  refine lv_i2l hx hb dX10_orders_16 rfl ?_
  obtain rfl := Option.some.inj h
  exact W.lret hx hb hr (r_end X hP hS) hS.2.2 dX10_orders_17 (hlocks := hlk)

def f_X10_greatestDivisor_7 : Nat → Int32 → Int32 → Int32 → Option (Int32)
  | 0, _, _, _ => none
  | fu_4 + 1, x2_1, x3_2, x4_3 => (if 100 ≤ x4_3 then some (x2_1) else (if x3_2 = 0 then some (x2_1) else (if ¬ x3_2 = 0 then (f_X10_greatestDivisor_7 fu_4 (x3_2) ((x2_1 - x2_1 / x3_2 * x3_2)) ((x4_3 + 1))) else none)))
def f_X10_greatestDivisor (a1 : Int32) (a2 : Int32) : Option (Int32) :=
  (f_X10_greatestDivisor_7 FU (a1) (a2) (0))
set_option maxRecDepth 100000 in
set_option maxHeartbeats 4000000 in
theorem c_X10_greatestDivisor (l : Launch) {G : GT} {φ : Nat → Nat} {n : Nat} {M : Mem} {a1 : Int32} {a2 : Int32} (hI : wI φ n) (hn : 107 ≤ n) {r : Int32} (h : f_X10_greatestDivisor a1 a2 = some r) : CT l yX10_greatestDivisor cX10_greatestDivisor 6 (some .int) ({ frames := 0, cells := 0, slots := 0, locals := 0 } : Room) [.int (a1), .int (a2)] (WB (cX G φ) φ M n G) (some (.int r)) (WB (cX G φ) φ (M) n G) φ n := by
  unfold f_X10_greatestDivisor at h
  refine r_start (plainFor_of_name (by decide)) (Nat.le_of_ble_eq_true rfl) hI ?_
  intro p e s m args below meth c ls X hr hlk hP hl
  have hS : va_S (wA φ n s.heap.size) s.heap s.heap [] := va_S.rf
  have hx := X.1.1
  have hb := X.1.2.1
  have hl : lv_has ls 6 [(0, .int (a1)), (1, .int (a2))] := hl
  have L7 : ∀ (fu_4 : Nat) (x2_1 : Int32) (x3_2 : Int32) (x4_3 : Int32)  (H : Heap) (locs : List Loc) (ls : Array Slot), va_P G.1 vwCl (wW (cX G φ) φ M n) H → va_S (wA φ n s.heap.size) s.heap H locs → lv_has ls 6 [(2, .int (x2_1)), (3, .int (x3_2)), (4, .int (x4_3))] → f_X10_greatestDivisor_7 fu_4 x2_1 x3_2 x4_3 = some r → W p l e ({ frames := 0, cells := 0, slots := 0, locals := 0 } : Room) s m args below meth c H locs 0 0 (MQ below (QQ (some (.int r)) (WB (cX G φ) φ (M) n G) (wA φ n s.heap.size)) args s 0 0 (wA φ n s.heap.size)) (F0 m 7 ls []) := by
    intro fu_4
    induction fu_4 with
    | zero =>
      intro x2_1 x3_2 x4_3 H locs ls _ _ _  h
      have h : (none : Option (Int32)) = some r := h
      cases h
    | succ fu_4 ih =>
      intro x2_1 x3_2 x4_3 H locs ls hP hS hl  h
      rw [f_X10_greatestDivisor_7] at h
      refine lv_iload hx hb dX10_greatestDivisor_7 (lv_at hl 2 rfl) ?_
      refine lv_bipush (v := 100) hx hb dX10_greatestDivisor_9 (by decide) ?_
      refine lv_icmp_ge (tgt := 34) hx hb dX10_greatestDivisor_11 (by decide) (fun c_5 => ?_) (fun c_5 => ?_)
      · rw [if_pos c_5] at h
        refine lv_iload_n hx hb dX10_greatestDivisor_34 rfl (lv_at hl 0 rfl) ?_
        obtain rfl := Option.some.inj h
        exact W.iret hx hb hr (r_end X hP hS) hS.2.2 dX10_greatestDivisor_35 (hlocks := hlk)
      · rw [if_neg c_5] at h
        refine lv_iload_n hx hb dX10_greatestDivisor_14 rfl (lv_at hl 1 rfl) ?_
        refine lv_if_eq (tgt := 34) hx hb dX10_greatestDivisor_15 (by decide) (fun c_6 => ?_) (fun c_6 => ?_)
        · rw [if_pos c_6] at h
          refine lv_iload_n hx hb dX10_greatestDivisor_34 rfl (lv_at hl 0 rfl) ?_
          obtain rfl := Option.some.inj h
          exact W.iret hx hb hr (r_end X hP hS) hS.2.2 dX10_greatestDivisor_35 (hlocks := hlk)
        · rw [if_neg c_6] at h
          refine lv_iload_n hx hb dX10_greatestDivisor_18 rfl (lv_at hl 0 rfl) ?_
          refine lv_iload_n hx hb dX10_greatestDivisor_19 rfl (lv_at hl 1 rfl) ?_
          obtain ⟨c_7, h⟩ := og h
          refine lv_irem hx hb dX10_greatestDivisor_20 c_7 ?_
          refine lv_istore (lv' := [(5, .int ((x2_1 - x2_1 / x3_2 * x3_2))), (2, .int (x2_1)), (3, .int (x3_2)), (4, .int (x4_3))]) hx hb dX10_greatestDivisor_21 hl (by decide) rfl (fun ls hl => ?_)
          refine lv_iload_n hx hb dX10_greatestDivisor_23 rfl (lv_at hl 2 rfl) ?_
          refine lv_istore_n (lv' := [(2, .int (x3_2)), (5, .int ((x2_1 - x2_1 / x3_2 * x3_2))), (3, .int (x3_2)), (4, .int (x4_3))]) hx hb dX10_greatestDivisor_24 rfl hl (by decide) rfl (fun ls hl => ?_)
          refine lv_iload hx hb dX10_greatestDivisor_25 (lv_at hl 1 rfl) ?_
          refine lv_istore_n (lv' := [(3, .int ((x2_1 - x2_1 / x3_2 * x3_2))), (2, .int (x3_2)), (5, .int ((x2_1 - x2_1 / x3_2 * x3_2))), (4, .int (x4_3))]) hx hb dX10_greatestDivisor_27 rfl hl (by decide) rfl (fun ls hl => ?_)
          refine lv_iinc (v := (x4_3 + 1)) (lv' := [(4, .int ((x4_3 + 1))), (3, .int ((x2_1 - x2_1 / x3_2 * x3_2))), (2, .int (x3_2)), (5, .int ((x2_1 - x2_1 / x3_2 * x3_2)))]) hx hb dX10_greatestDivisor_28 hl (k := 3) rfl (by rw [show Int32.ofInt (1) = 1 from by decide]) (by decide) rfl (fun ls hl => ?_)
          refine lv_goto (tgt := 7) hx hb dX10_greatestDivisor_31 (by decide) ?_
          exact ih _ _ _ _ _ _ hP hS (lv_sub hl [2, 1, 0] rfl)  h
  refine lv_iload_n hx hb dX10_greatestDivisor_0 rfl (lv_at hl 0 rfl) ?_
  refine lv_istore_n (lv' := [(2, .int (a1)), (0, .int (a1)), (1, .int (a2))]) hx hb dX10_greatestDivisor_1 rfl hl (by decide) rfl (fun ls hl => ?_)
  refine lv_iload_n hx hb dX10_greatestDivisor_2 rfl (lv_at hl 2 rfl) ?_
  refine lv_istore_n (lv' := [(3, .int (a2)), (2, .int (a1)), (0, .int (a1)), (1, .int (a2))]) hx hb dX10_greatestDivisor_3 rfl hl (by decide) rfl (fun ls hl => ?_)
  refine lv_iconst (v := 0) hx hb dX10_greatestDivisor_4 (by decide) ?_
  refine lv_istore (lv' := [(4, .int (0)), (3, .int (a2)), (2, .int (a1)), (0, .int (a1)), (1, .int (a2))]) hx hb dX10_greatestDivisor_5 hl (by decide) rfl (fun ls hl => ?_)
  refine L7 _ _ _ _ _ _ _ hP hS (lv_sub hl [2, 1, 0] rfl)  h

