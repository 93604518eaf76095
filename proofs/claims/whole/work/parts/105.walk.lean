def f_X10_odds (M : Mem) (a1 : Int32) (a2 : Int32) (a3 : Int32) : Option (Int64 × Mem) :=
  (if (f_X8_hasSlip M (a1)) = 0 then some (((-4611686018427387904), M)) else (if (f_X8_hasSlip M (a2)) = 0 then some (((-4611686018427387904), M)) else (if a1 = a2 then some (((-4611686018427387904), M)) else (if a3 < 0 then some (((-4611686018427387904), M)) else (if 1 < a3 then some (((-4611686018427387904), M)) else (Option.bind (f_X3_ordersOf M ((M 1 4)) ((-1)) ((-1))) fun r_6 => (if 1 ≤ r_6.1 then (Option.bind (f_X3_ordersOf r_6.2 ((r_6.2 1 4)) (a1) (a2)) fun r_8 => (Option.bind (f_X10_greatestDivisor (r_6.1) (r_8.1)) fun r_9 => (if 1 ≤ r_9 then (if a3 = 0 then (if ¬ r_9 = 0 then some (((Int32.toInt64 ((r_8.1 / r_9))), r_8.2)) else none) else (if ¬ r_9 = 0 then some (((Int32.toInt64 ((r_6.1 / r_9))), r_8.2)) else none)) else some (((-4611686018427387904), r_8.2))))) else some (((Int32.toInt64 (a3)), r_6.2)))))))))
set_option maxRecDepth 100000 in
set_option maxHeartbeats 4000000 in
theorem c_X10_odds (l : Launch) {G : GT} {φ : Nat → Nat} {n : Nat} {M : Mem} {a1 : Int32} {a2 : Int32} {a3 : Int32} (hI : wI φ n) (hn : 107 ≤ n) {r : Int64 × Mem} (h : f_X10_odds M a1 a2 a3 = some r) : CT l yX10_odds cX10_odds 8 (some .long) ({ frames := 2, cells := 0, slots := 0, locals := 49 } : Room) [.ref (φ 0), .int (a1), .int (a2), .int (a3)] (WB (cX G φ) φ M n G) (some (.long r.1)) (WB (cX G φ) φ (r.2) n G) φ n := by
  unfold f_X10_odds at h
  refine r_start (plainFor_of_name (by decide)) (Nat.le_of_ble_eq_true rfl) hI ?_
  intro p e s m args below meth c ls X hr hlk hP hl
  have hS : va_S (wA φ n s.heap.size) s.heap s.heap [] := va_S.rf
  have hx := X.1.1
  have hb := X.1.2.1
  have hl : lv_has ls 8 [(0, .ref (φ 0)), (1, .int (a1)), (2, .int (a2)), (3, .int (a3))] := hl
  refine lv_aload_n hx hb dX10_odds_0 rfl (lv_at hl 0 rfl) ?_
  refine G_X10_10 X.1 hn hP dX10_odds_1 ?_
  refine lv_iload_n hx hb dX10_odds_4 rfl (lv_at hl 1 rfl) ?_
  refine c_V0 (As := [.int (a1)]) (rest := []) (a := 1) X hl.1 (c_X8_hasSlip l X.2.2.2.1.1 hn rfl) (w_X10_118) qw_644 qw_645 ⟨Nat.le_of_ble_eq_true rfl, Nat.le_of_ble_eq_true rfl⟩ rfl rfl hP hS (by omega) sX_Table rfl rfl (Nat.le_of_ble_eq_true rfl) dX10_odds_5 (fun H locs hP hS => ?_)
  refine lv_if_eq (tgt := 40) hx hb dX10_odds_8 (by decide) (fun c_1 => ?_) (fun c_1 => ?_)
  · rw [if_pos c_1] at h
    refine lv_iconst (v := 0) hx hb dX10_odds_40 (by decide) ?_
    refine lv_istore (lv' := [(4, .int (0)), (0, .ref (φ 0)), (1, .int (a1)), (2, .int (a2)), (3, .int (a3))]) hx hb dX10_odds_41 hl (by decide) rfl (fun ls hl => ?_)
    refine lv_iload hx hb dX10_odds_43 (lv_at hl 0 rfl) ?_
    refine lv_if_ne (tgt := 52) hx hb dX10_odds_45 (by decide) (fun c => absurd c (by decide)) (fun _ => ?_)
    refine lv_ldc2 (v := (-4611686018427387904)) hx hb X.1.2.2.1 (X.1.2.2.2.1 _ qw_827) dX10_odds_48 ?_
    obtain rfl := Option.some.inj h
    exact W.lret hx hb hr (r_end X hP hS) hS.2.2 dX10_odds_51 (hlocks := hlk)
  · rw [if_neg c_1] at h
    refine lv_aload_n hx hb dX10_odds_11 rfl (lv_at hl 0 rfl) ?_
    refine G_X10_10 X.1 hn hP dX10_odds_12 ?_
    refine lv_iload_n hx hb dX10_odds_15 rfl (lv_at hl 2 rfl) ?_
    refine c_V0 (As := [.int (a2)]) (rest := []) (a := 1) X hl.1 (c_X8_hasSlip l X.2.2.2.1.1 hn rfl) (w_X10_118) qw_644 qw_645 ⟨Nat.le_of_ble_eq_true rfl, Nat.le_of_ble_eq_true rfl⟩ rfl rfl hP hS (by omega) sX_Table rfl rfl (Nat.le_of_ble_eq_true rfl) dX10_odds_16 (fun H locs hP hS => ?_)
    refine lv_if_eq (tgt := 40) hx hb dX10_odds_19 (by decide) (fun c_2 => ?_) (fun c_2 => ?_)
    · rw [if_pos c_2] at h
      refine lv_iconst (v := 0) hx hb dX10_odds_40 (by decide) ?_
      refine lv_istore (lv' := [(4, .int (0)), (0, .ref (φ 0)), (1, .int (a1)), (2, .int (a2)), (3, .int (a3))]) hx hb dX10_odds_41 hl (by decide) rfl (fun ls hl => ?_)
      refine lv_iload hx hb dX10_odds_43 (lv_at hl 0 rfl) ?_
      refine lv_if_ne (tgt := 52) hx hb dX10_odds_45 (by decide) (fun c => absurd c (by decide)) (fun _ => ?_)
      refine lv_ldc2 (v := (-4611686018427387904)) hx hb X.1.2.2.1 (X.1.2.2.2.1 _ qw_827) dX10_odds_48 ?_
      obtain rfl := Option.some.inj h
      exact W.lret hx hb hr (r_end X hP hS) hS.2.2 dX10_odds_51 (hlocks := hlk)
    · rw [if_neg c_2] at h
      refine lv_iload_n hx hb dX10_odds_22 rfl (lv_at hl 1 rfl) ?_
      refine lv_iload_n hx hb dX10_odds_23 rfl (lv_at hl 2 rfl) ?_
      refine lv_icmp_eq (tgt := 40) hx hb dX10_odds_24 (by decide) (fun c_3 => ?_) (fun c_3 => ?_)
      · rw [if_pos c_3] at h
        refine lv_iconst (v := 0) hx hb dX10_odds_40 (by decide) ?_
        refine lv_istore (lv' := [(4, .int (0)), (0, .ref (φ 0)), (1, .int (a1)), (2, .int (a2)), (3, .int (a3))]) hx hb dX10_odds_41 hl (by decide) rfl (fun ls hl => ?_)
        refine lv_iload hx hb dX10_odds_43 (lv_at hl 0 rfl) ?_
        refine lv_if_ne (tgt := 52) hx hb dX10_odds_45 (by decide) (fun c => absurd c (by decide)) (fun _ => ?_)
        refine lv_ldc2 (v := (-4611686018427387904)) hx hb X.1.2.2.1 (X.1.2.2.2.1 _ qw_827) dX10_odds_48 ?_
        obtain rfl := Option.some.inj h
        exact W.lret hx hb hr (r_end X hP hS) hS.2.2 dX10_odds_51 (hlocks := hlk)
      · rw [if_neg c_3] at h
        refine lv_iload_n hx hb dX10_odds_27 rfl (lv_at hl 3 rfl) ?_
        refine lv_if_lt (tgt := 40) hx hb dX10_odds_28 (by decide) (fun c_4 => ?_) (fun c_4 => ?_)
        · rw [if_pos c_4] at h
          refine lv_iconst (v := 0) hx hb dX10_odds_40 (by decide) ?_
          refine lv_istore (lv' := [(4, .int (0)), (0, .ref (φ 0)), (1, .int (a1)), (2, .int (a2)), (3, .int (a3))]) hx hb dX10_odds_41 hl (by decide) rfl (fun ls hl => ?_)
          refine lv_iload hx hb dX10_odds_43 (lv_at hl 0 rfl) ?_
          refine lv_if_ne (tgt := 52) hx hb dX10_odds_45 (by decide) (fun c => absurd c (by decide)) (fun _ => ?_)
          refine lv_ldc2 (v := (-4611686018427387904)) hx hb X.1.2.2.1 (X.1.2.2.2.1 _ qw_827) dX10_odds_48 ?_
          obtain rfl := Option.some.inj h
          exact W.lret hx hb hr (r_end X hP hS) hS.2.2 dX10_odds_51 (hlocks := hlk)
        · rw [if_neg c_4] at h
          refine lv_iload_n hx hb dX10_odds_31 rfl (lv_at hl 3 rfl) ?_
          refine lv_iconst (v := 1) hx hb dX10_odds_32 (by decide) ?_
          refine lv_icmp_gt (tgt := 40) hx hb dX10_odds_33 (by decide) (fun c_5 => ?_) (fun c_5 => ?_)
          · rw [if_pos c_5] at h
            refine lv_iconst (v := 0) hx hb dX10_odds_40 (by decide) ?_
            refine lv_istore (lv' := [(4, .int (0)), (0, .ref (φ 0)), (1, .int (a1)), (2, .int (a2)), (3, .int (a3))]) hx hb dX10_odds_41 hl (by decide) rfl (fun ls hl => ?_)
            refine lv_iload hx hb dX10_odds_43 (lv_at hl 0 rfl) ?_
            refine lv_if_ne (tgt := 52) hx hb dX10_odds_45 (by decide) (fun c => absurd c (by decide)) (fun _ => ?_)
            refine lv_ldc2 (v := (-4611686018427387904)) hx hb X.1.2.2.1 (X.1.2.2.2.1 _ qw_827) dX10_odds_48 ?_
            obtain rfl := Option.some.inj h
            exact W.lret hx hb hr (r_end X hP hS) hS.2.2 dX10_odds_51 (hlocks := hlk)
          · rw [if_neg c_5] at h
            refine lv_iconst (v := 1) hx hb dX10_odds_36 (by decide) ?_
            refine lv_goto (tgt := 41) hx hb dX10_odds_37 (by decide) ?_
            refine lv_istore (lv' := [(4, .int (1)), (0, .ref (φ 0)), (1, .int (a1)), (2, .int (a2)), (3, .int (a3))]) hx hb dX10_odds_41 hl (by decide) rfl (fun ls hl => ?_)
            refine lv_iload hx hb dX10_odds_43 (lv_at hl 0 rfl) ?_
            refine lv_if_ne (tgt := 52) hx hb dX10_odds_45 (by decide) (fun _ => ?_) (fun c => absurd c (by decide))
            refine lv_aload_n hx hb dX10_odds_52 rfl (lv_at hl 1 rfl) ?_
            refine G_X10_35 X.1 hn hP dX10_odds_53 ?_
            refine lv_aload_n hx hb dX10_odds_56 rfl (lv_at hl 1 rfl) ?_
            refine G_X10_10 X.1 hn hP dX10_odds_57 ?_
            refine G_X10_167 X.1 hn hP dX10_odds_60 ?_
            refine lv_iconst (v := (-1)) hx hb dX10_odds_63 (by decide) ?_
            refine lv_iconst (v := (-1)) hx hb dX10_odds_64 (by decide) ?_
            obtain ⟨r_6, hr_6, h⟩ := ob h
            refine c_V0 (As := [.int ((M 1 4)), .int ((-1)), .int ((-1))]) (rest := []) (a := 85) X hl.1 (c_X3_ordersOf l X.2.2.2.1.1 hn hr_6) (w_X10_214) qw_815 qw_816 ⟨Nat.le_of_ble_eq_true rfl, Nat.le_of_ble_eq_true rfl⟩ rfl rfl hP hS (by omega) sX_Marks rfl rfl (Nat.le_of_ble_eq_true rfl) dX10_odds_65 (fun H locs hP hS => ?_)
            refine lv_istore (lv' := [(5, .int (r_6.1)), (4, .int (1)), (0, .ref (φ 0)), (1, .int (a1)), (2, .int (a2)), (3, .int (a3))]) hx hb dX10_odds_68 hl (by decide) rfl (fun ls hl => ?_)
            refine lv_iload hx hb dX10_odds_70 (lv_at hl 0 rfl) ?_
            refine lv_iconst (v := 1) hx hb dX10_odds_72 (by decide) ?_
            refine lv_icmp_ge (tgt := 79) hx hb dX10_odds_73 (by decide) (fun c_7 => ?_) (fun c_7 => ?_)
            · rw [if_pos c_7] at h
              refine lv_aload_n hx hb dX10_odds_79 rfl (lv_at hl 2 rfl) ?_
              refine G_X10_35 X.1 hn hP dX10_odds_80 ?_
              refine lv_aload_n hx hb dX10_odds_83 rfl (lv_at hl 2 rfl) ?_
              refine G_X10_10 X.1 hn hP dX10_odds_84 ?_
              refine G_X10_167 X.1 hn hP dX10_odds_87 ?_
              refine lv_iload_n hx hb dX10_odds_90 rfl (lv_at hl 3 rfl) ?_
              refine lv_iload_n hx hb dX10_odds_91 rfl (lv_at hl 4 rfl) ?_
              obtain ⟨r_8, hr_8, h⟩ := ob h
              refine c_V0 (As := [.int ((r_6.2 1 4)), .int (a1), .int (a2)]) (rest := []) (a := 85) X hl.1 (c_X3_ordersOf l X.2.2.2.1.1 hn hr_8) (w_X10_214) qw_815 qw_816 ⟨Nat.le_of_ble_eq_true rfl, Nat.le_of_ble_eq_true rfl⟩ rfl rfl hP hS (by omega) sX_Marks rfl rfl (Nat.le_of_ble_eq_true rfl) dX10_odds_92 (fun H locs hP hS => ?_)
              refine lv_istore (lv' := [(6, .int (r_8.1)), (5, .int (r_6.1)), (4, .int (1)), (0, .ref (φ 0)), (1, .int (a1)), (2, .int (a2)), (3, .int (a3))]) hx hb dX10_odds_95 hl (by decide) rfl (fun ls hl => ?_)
              refine lv_iload hx hb dX10_odds_97 (lv_at hl 1 rfl) ?_
              refine lv_iload hx hb dX10_odds_99 (lv_at hl 0 rfl) ?_
              obtain ⟨r_9, hr_9, h⟩ := ob h
              refine c_S0 (As := [.int (r_6.1), .int (r_8.1)]) (rest := []) X hl.1 (c_X10_greatestDivisor l X.2.2.2.1.1 hn hr_9) (w_X10_219) qw_829 ⟨Nat.le_of_ble_eq_true rfl, Nat.le_of_ble_eq_true rfl⟩ rfl rfl hP hS (Nat.le_of_ble_eq_true rfl) dX10_odds_101 (fun H locs hP hS => ?_)
              refine lv_istore (lv' := [(7, .int (r_9)), (6, .int (r_8.1)), (5, .int (r_6.1)), (4, .int (1)), (0, .ref (φ 0)), (1, .int (a1)), (2, .int (a2)), (3, .int (a3))]) hx hb dX10_odds_104 hl (by decide) rfl (fun ls hl => ?_)
              refine lv_iload hx hb dX10_odds_106 (lv_at hl 0 rfl) ?_
              refine lv_iconst (v := 1) hx hb dX10_odds_108 (by decide) ?_
              refine lv_icmp_ge (tgt := 116) hx hb dX10_odds_109 (by decide) (fun c_10 => ?_) (fun c_10 => ?_)
              · rw [if_pos c_10] at h
                refine lv_iload_n hx hb dX10_odds_116 rfl (lv_at hl 7 rfl) ?_
                refine lv_if_ne (tgt := 129) hx hb dX10_odds_117 (by decide) (fun c_11 => ?_) (fun c_11 => ?_)
                · rw [if_neg c_11] at h
                  refine lv_iload hx hb dX10_odds_129 (lv_at hl 2 rfl) ?_
                  refine lv_iload hx hb dX10_odds_131 (lv_at hl 0 rfl) ?_
                  obtain ⟨c_12, h⟩ := og h
                  refine lv_idiv hx hb dX10_odds_133 c_12 ?_
                  refine lv_i2l hx hb dX10_odds_134 rfl ?_
                  obtain rfl := Option.some.inj h
                  exact W.lret hx hb hr (r_end X hP hS) hS.2.2 dX10_odds_135 (hlocks := hlk)
                · rw [if_pos c_11] at h
                  refine lv_iload hx hb dX10_odds_120 (lv_at hl 1 rfl) ?_
                  refine lv_iload hx hb dX10_odds_122 (lv_at hl 0 rfl) ?_
                  obtain ⟨c_13, h⟩ := og h
                  refine lv_idiv hx hb dX10_odds_124 c_13 ?_
                  refine lv_i2l hx hb dX10_odds_125 rfl ?_
                  refine lv_goto (tgt := 135) hx hb dX10_odds_126 (by decide) ?_
                  obtain rfl := Option.some.inj h
                  exact W.lret hx hb hr (r_end X hP hS) hS.2.2 dX10_odds_135 (hlocks := hlk)
              · rw [if_neg c_10] at h
                refine lv_ldc2 (v := (-4611686018427387904)) hx hb X.1.2.2.1 (X.1.2.2.2.1 _ qw_827) dX10_odds_112 ?_
                obtain rfl := Option.some.inj h
                exact W.lret hx hb hr (r_end X hP hS) hS.2.2 dX10_odds_115 (hlocks := hlk)
            · rw [if_neg c_7] at h
              refine lv_iload_n hx hb dX10_odds_76 rfl (lv_at hl 5 rfl) ?_
              refine lv_i2l hx hb dX10_odds_77 rfl ?_
              obtain rfl := Option.some.inj h
              exact W.lret hx hb hr (r_end X hP hS) hS.2.2 dX10_odds_78 (hlocks := hlk)

def f_X10_place (M : Mem) (a1 : Int32) (a2 : Int32) : Option (Int32 × Mem) :=
  (if (f_X8_hasSlip M (a1)) = 0 then some (((-2), M)) else (if a2 < 0 then some (((-2), M)) else (if a2 ≤ 1 then (Option.bind (f_X3_ordersOf M ((M 1 4)) ((-1)) ((-1))) fun r_4 => (if 1 ≤ r_4.1 then (if a2 = 1 then (Option.bind (f_X3_farthestPlace r_4.2 ((r_4.2 1 4)) (a1) (1)) fun r_8 => some ((r_8, r_4.2))) else (Option.bind (f_X3_farthestPlace r_4.2 ((r_4.2 1 4)) (a1) (0)) fun r_7 => some ((r_7, r_4.2)))) else some (((-1), r_4.2)))) else some (((-2), M)))))
set_option maxRecDepth 100000 in
set_option maxHeartbeats 4000000 in
theorem c_X10_place (l : Launch) {G : GT} {φ : Nat → Nat} {n : Nat} {M : Mem} {a1 : Int32} {a2 : Int32} (hI : wI φ n) (hn : 107 ≤ n) {r : Int32 × Mem} (h : f_X10_place M a1 a2 = some r) : CT l yX10_place cX10_place 3 (some .int) ({ frames := 2, cells := 0, slots := 0, locals := 49 } : Room) [.ref (φ 0), .int (a1), .int (a2)] (WB (cX G φ) φ M n G) (some (.int r.1)) (WB (cX G φ) φ (r.2) n G) φ n := by
  unfold f_X10_place at h
  refine r_start (plainFor_of_name (by decide)) (Nat.le_of_ble_eq_true rfl) hI ?_
  intro p e s m args below meth c ls X hr hlk hP hl
  have hS : va_S (wA φ n s.heap.size) s.heap s.heap [] := va_S.rf
  have hx := X.1.1
  have hb := X.1.2.1
  have hl : lv_has ls 3 [(0, .ref (φ 0)), (1, .int (a1)), (2, .int (a2))] := hl
  refine lv_aload_n hx hb dX10_place_0 rfl (lv_at hl 0 rfl) ?_
  refine G_X10_10 X.1 hn hP dX10_place_1 ?_
  refine lv_iload_n hx hb dX10_place_4 rfl (lv_at hl 1 rfl) ?_
  refine c_V0 (As := [.int (a1)]) (rest := []) (a := 1) X hl.1 (c_X8_hasSlip l X.2.2.2.1.1 hn rfl) (w_X10_118) qw_644 qw_645 ⟨Nat.le_of_ble_eq_true rfl, Nat.le_of_ble_eq_true rfl⟩ rfl rfl hP hS (by omega) sX_Table rfl rfl (Nat.le_of_ble_eq_true rfl) dX10_place_5 (fun H locs hP hS => ?_)
  refine lv_if_eq (tgt := 20) hx hb dX10_place_8 (by decide) (fun c_1 => ?_) (fun c_1 => ?_)
  · rw [if_pos c_1] at h
    refine lv_bipush (v := (-2)) hx hb dX10_place_20 (by decide) ?_
    obtain rfl := Option.some.inj h
    exact W.iret hx hb hr (r_end X hP hS) hS.2.2 dX10_place_22 (hlocks := hlk)
  · rw [if_neg c_1] at h
    refine lv_iload_n hx hb dX10_place_11 rfl (lv_at hl 2 rfl) ?_
    refine lv_if_lt (tgt := 20) hx hb dX10_place_12 (by decide) (fun c_2 => ?_) (fun c_2 => ?_)
    · rw [if_pos c_2] at h
      refine lv_bipush (v := (-2)) hx hb dX10_place_20 (by decide) ?_
      obtain rfl := Option.some.inj h
      exact W.iret hx hb hr (r_end X hP hS) hS.2.2 dX10_place_22 (hlocks := hlk)
    · rw [if_neg c_2] at h
      refine lv_iload_n hx hb dX10_place_15 rfl (lv_at hl 2 rfl) ?_
      refine lv_iconst (v := 1) hx hb dX10_place_16 (by decide) ?_
      refine lv_icmp_le (tgt := 23) hx hb dX10_place_17 (by decide) (fun c_3 => ?_) (fun c_3 => ?_)
      · rw [if_pos c_3] at h
        refine lv_aload_n hx hb dX10_place_23 rfl (lv_at hl 0 rfl) ?_
        refine G_X10_35 X.1 hn hP dX10_place_24 ?_
        refine lv_aload_n hx hb dX10_place_27 rfl (lv_at hl 0 rfl) ?_
        refine G_X10_10 X.1 hn hP dX10_place_28 ?_
        refine G_X10_167 X.1 hn hP dX10_place_31 ?_
        refine lv_iconst (v := (-1)) hx hb dX10_place_34 (by decide) ?_
        refine lv_iconst (v := (-1)) hx hb dX10_place_35 (by decide) ?_
        obtain ⟨r_4, hr_4, h⟩ := ob h
        refine c_V0 (As := [.int ((M 1 4)), .int ((-1)), .int ((-1))]) (rest := []) (a := 85) X hl.1 (c_X3_ordersOf l X.2.2.2.1.1 hn hr_4) (w_X10_214) qw_815 qw_816 ⟨Nat.le_of_ble_eq_true rfl, Nat.le_of_ble_eq_true rfl⟩ rfl rfl hP hS (by omega) sX_Marks rfl rfl (Nat.le_of_ble_eq_true rfl) dX10_place_36 (fun H locs hP hS => ?_)
        refine lv_iconst (v := 1) hx hb dX10_place_39 (by decide) ?_
        refine lv_icmp_ge (tgt := 45) hx hb dX10_place_40 (by decide) (fun c_5 => ?_) (fun c_5 => ?_)
        · rw [if_pos c_5] at h
          refine lv_aload_n hx hb dX10_place_45 rfl (lv_at hl 0 rfl) ?_
          refine G_X10_35 X.1 hn hP dX10_place_46 ?_
          refine lv_aload_n hx hb dX10_place_49 rfl (lv_at hl 0 rfl) ?_
          refine G_X10_10 X.1 hn hP dX10_place_50 ?_
          refine G_X10_167 X.1 hn hP dX10_place_53 ?_
          refine lv_iload_n hx hb dX10_place_56 rfl (lv_at hl 1 rfl) ?_
          refine lv_iload_n hx hb dX10_place_57 rfl (lv_at hl 2 rfl) ?_
          refine lv_iconst (v := 1) hx hb dX10_place_58 (by decide) ?_
          refine lv_icmp_ne (tgt := 66) hx hb dX10_place_59 (by decide) (fun c_6 => ?_) (fun c_6 => ?_)
          · rw [if_neg c_6] at h
            refine lv_iconst (v := 0) hx hb dX10_place_66 (by decide) ?_
            obtain ⟨r_7, hr_7, h⟩ := ob h
            refine c_V0 (As := [.int ((r_4.2 1 4)), .int (a1), .int (0)]) (rest := []) (a := 85) X hl.1 (c_X3_farthestPlace l X.2.2.2.1.1 hn hr_7) (w_X10_222) qw_836 qw_837 ⟨Nat.le_of_ble_eq_true rfl, Nat.le_of_ble_eq_true rfl⟩ rfl rfl hP hS (by omega) sX_Marks rfl rfl (Nat.le_of_ble_eq_true rfl) dX10_place_67 (fun H locs hP hS => ?_)
            obtain rfl := Option.some.inj h
            exact W.iret hx hb hr (r_end X hP hS) hS.2.2 dX10_place_70 (hlocks := hlk)
          · rw [if_pos c_6] at h
            refine lv_iconst (v := 1) hx hb dX10_place_62 (by decide) ?_
            refine lv_goto (tgt := 67) hx hb dX10_place_63 (by decide) ?_
            obtain ⟨r_8, hr_8, h⟩ := ob h
            refine c_V0 (As := [.int ((r_4.2 1 4)), .int (a1), .int (1)]) (rest := []) (a := 85) X hl.1 (c_X3_farthestPlace l X.2.2.2.1.1 hn hr_8) (w_X10_222) qw_836 qw_837 ⟨Nat.le_of_ble_eq_true rfl, Nat.le_of_ble_eq_true rfl⟩ rfl rfl hP hS (by omega) sX_Marks rfl rfl (Nat.le_of_ble_eq_true rfl) dX10_place_67 (fun H locs hP hS => ?_)
            obtain rfl := Option.some.inj h
            exact W.iret hx hb hr (r_end X hP hS) hS.2.2 dX10_place_70 (hlocks := hlk)
        · rw [if_neg c_5] at h
          refine lv_iconst (v := (-1)) hx hb dX10_place_43 (by decide) ?_
          obtain rfl := Option.some.inj h
          exact W.iret hx hb hr (r_end X hP hS) hS.2.2 dX10_place_44 (hlocks := hlk)
      · rw [if_neg c_3] at h
        refine lv_bipush (v := (-2)) hx hb dX10_place_20 (by decide) ?_
        obtain rfl := Option.some.inj h
        exact W.iret hx hb hr (r_end X hP hS) hS.2.2 dX10_place_22 (hlocks := hlk)

def f_X10_isSheet (a1 : Int32) : Int32 :=
  (if a1 < 0 then 0 else (if 4 ≤ a1 then 0 else 1))
theorem bz_X10_isSheet (a1 : Int32) : f_X10_isSheet a1 = 0 ∨ f_X10_isSheet a1 = 1 := by
  unfold f_X10_isSheet
  repeat' (first | exact Or.inl rfl | exact Or.inr rfl | split)
set_option maxRecDepth 100000 in
set_option maxHeartbeats 4000000 in
theorem c_X10_isSheet (l : Launch) {G : GT} {φ : Nat → Nat} {n : Nat} {M : Mem} {a1 : Int32} (hI : wI φ n) (hn : 107 ≤ n) {r : Int32} (h : f_X10_isSheet a1 = r) : CT l yX10_isSheet cX10_isSheet 1 (some .boolean) ({ frames := 0, cells := 0, slots := 0, locals := 0 } : Room) [.int (a1)] (WB (cX G φ) φ M n G) (some (.int r)) (WB (cX G φ) φ (M) n G) φ n := by
  unfold f_X10_isSheet at h
  refine r_start (plainFor_of_name (by decide)) (Nat.le_of_ble_eq_true rfl) hI ?_
  intro p e s m args below meth c ls X hr hlk hP hl
  have hS : va_S (wA φ n s.heap.size) s.heap s.heap [] := va_S.rf
  have hx := X.1.1
  have hb := X.1.2.1
  have hl : lv_has ls 1 [(0, .int (a1))] := hl
  refine lv_iload_n hx hb dX10_isSheet_0 rfl (lv_at hl 0 rfl) ?_
  refine lv_if_lt (tgt := 13) hx hb dX10_isSheet_1 (by decide) (fun c_1 => ?_) (fun c_1 => ?_)
  · rw [if_pos c_1] at h
    refine lv_iconst (v := 0) hx hb dX10_isSheet_13 (by decide) ?_
    subst h
    exact W.zret (v := 0) (ty := .boolean) hx hb hr rfl (r_end X hP hS) hS.2.2 dX10_isSheet_14 (hlocks := hlk)
  · rw [if_neg c_1] at h
    refine lv_iload_n hx hb dX10_isSheet_4 rfl (lv_at hl 0 rfl) ?_
    refine lv_iconst (v := 4) hx hb dX10_isSheet_5 (by decide) ?_
    refine lv_icmp_ge (tgt := 13) hx hb dX10_isSheet_6 (by decide) (fun c_2 => ?_) (fun c_2 => ?_)
    · rw [if_pos c_2] at h
      refine lv_iconst (v := 0) hx hb dX10_isSheet_13 (by decide) ?_
      subst h
      exact W.zret (v := 0) (ty := .boolean) hx hb hr rfl (r_end X hP hS) hS.2.2 dX10_isSheet_14 (hlocks := hlk)
    · rw [if_neg c_2] at h
      refine lv_iconst (v := 1) hx hb dX10_isSheet_9 (by decide) ?_
      refine lv_goto (tgt := 14) hx hb dX10_isSheet_10 (by decide) ?_
      subst h
      exact W.zret (v := 1) (ty := .boolean) hx hb hr rfl (r_end X hP hS) hS.2.2 dX10_isSheet_14 (hlocks := hlk)

def f_X10_came_40 (M : Mem) (j2_6 : Nat) : Nat → Int32 → Option (Int32)
  | 0, _ => none
  | fu_9 + 1, x3_8 => (if (M (90 + j2_6) 2) ≤ x3_8 then some ((-1)) else (if ibd (x3_8) 40 then (Option.bind (f_X8_whoComes M (x3_8)) fun r_12 => (if (M (94 + j2_6) (Int32.toNatClampNeg (x3_8))) = r_12 then (f_X10_came_40 M j2_6 fu_9 ((x3_8 + 1))) else some (x3_8))) else none))
def f_X10_came (M : Mem) (a1 : Int32) : Option (Int32) :=
  (if (f_X10_isSheet (a1)) = 0 then some ((-2)) else (if ibd (a1) 4 then (if (f_X6_isMissing M (Int32.toNatClampNeg (a1))) = 0 then (if 1 ≤ (M (90 + (Int32.toNatClampNeg (a1))) 2) then (f_X10_came_40 M (Int32.toNatClampNeg (a1)) FU (0)) else some ((-2))) else some ((-11))) else none))
set_option maxRecDepth 100000 in
set_option maxHeartbeats 4000000 in
theorem c_X10_came (l : Launch) {G : GT} {φ : Nat → Nat} {n : Nat} {M : Mem} {a1 : Int32} (hI : wI φ n) (hn : 107 ≤ n) {r : Int32} (h : f_X10_came M a1 = some r) : CT l yX10_came cX10_came 4 (some .int) ({ frames := 2, cells := 0, slots := 0, locals := 45 } : Room) [.ref (φ 0), .int (a1)] (WB (cX G φ) φ M n G) (some (.int r)) (WB (cX G φ) φ (M) n G) φ n := by
  unfold f_X10_came at h
  refine r_start (plainFor_of_name (by decide)) (Nat.le_of_ble_eq_true rfl) hI ?_
  intro p e s m args below meth c ls X hr hlk hP hl
  have hS : va_S (wA φ n s.heap.size) s.heap s.heap [] := va_S.rf
  have hx := X.1.1
  have hb := X.1.2.1
  have hl : lv_has ls 4 [(0, .ref (φ 0)), (1, .int (a1))] := hl
  have L40 : ∀ (fu_9 : Nat) (j2_6 : Nat) (x3_8 : Int32)  (H : Heap) (locs : List Loc) (ls : Array Slot) (hj_7 : j2_6 < 4), va_P G.1 vwCl (wW (cX G φ) φ M n) H → va_S (wA φ n s.heap.size) s.heap H locs → lv_has ls 4 [(0, .ref (φ 0)), (2, .ref (φ (90 + j2_6))), (3, .int (x3_8))] → f_X10_came_40 M j2_6 fu_9 x3_8 = some r → W p l e ({ frames := 2, cells := 0, slots := 0, locals := 45 } : Room) s m args below meth c H locs 0 0 (MQ below (QQ (some (.int r)) (WB (cX G φ) φ (M) n G) (wA φ n s.heap.size)) args s 0 0 (wA φ n s.heap.size)) (F0 m 40 ls []) := by
    intro fu_9
    induction fu_9 with
    | zero =>
      intro j2_6 x3_8 H locs ls hj_7 _ _ _  h
      have h : (none : Option (Int32)) = some r := h
      cases h
    | succ fu_9 ih =>
      intro j2_6 x3_8 H locs ls hj_7 hP hS hl  h
      rw [f_X10_came_40] at h
      refine lv_iload_n hx hb dX10_came_40 rfl (lv_at hl 2 rfl) ?_
      refine lv_aload_n hx hb dX10_came_41 rfl (lv_at hl 1 rfl) ?_
      refine G_X10_233 X.1 hn hP hj_7 dX10_came_42 ?_
      refine lv_icmp_ge (tgt := 73) hx hb dX10_came_45 (by decide) (fun c_10 => ?_) (fun c_10 => ?_)
      · rw [if_pos c_10] at h
        refine lv_iconst (v := (-1)) hx hb dX10_came_73 (by decide) ?_
        obtain rfl := Option.some.inj h
        exact W.iret hx hb hr (r_end X hP hS) hS.2.2 dX10_came_74 (hlocks := hlk)
      · rw [if_neg c_10] at h
        refine lv_aload_n hx hb dX10_came_48 rfl (lv_at hl 1 rfl) ?_
        refine G_X10_234 X.1 hn hP hj_7 dX10_came_49 ?_
        refine lv_iload_n hx hb dX10_came_52 rfl (lv_at hl 2 rfl) ?_
        obtain ⟨c_11, h⟩ := og h
        refine r_iald (k := (Int32.toNatClampNeg (x3_8))) X.1 hP (by omega) (sX_cells hj_7) rfl (vin c_11) dX10_came_53 ?_
        refine lv_aload_n hx hb dX10_came_54 rfl (lv_at hl 0 rfl) ?_
        refine G_X10_10 X.1 hn hP dX10_came_55 ?_
        refine lv_iload_n hx hb dX10_came_58 rfl (lv_at hl 2 rfl) ?_
        obtain ⟨r_12, hr_12, h⟩ := ob h
        refine c_V0 (As := [.int (x3_8)]) (rest := [.int ((M (94 + j2_6) (Int32.toNatClampNeg (x3_8))))]) (a := 1) X hl.1 (c_X8_whoComes l X.2.2.2.1.1 hn hr_12) (w_X10_237) qw_857 qw_858 ⟨Nat.le_of_ble_eq_true rfl, Nat.le_of_ble_eq_true rfl⟩ rfl rfl hP hS (by omega) sX_Table rfl rfl (Nat.le_of_ble_eq_true rfl) dX10_came_59 (fun H locs hP hS => ?_)
        refine lv_icmp_eq (tgt := 67) hx hb dX10_came_62 (by decide) (fun c_13 => ?_) (fun c_13 => ?_)
        · rw [if_pos c_13] at h
          refine lv_iinc (v := (x3_8 + 1)) (lv' := [(3, .int ((x3_8 + 1))), (0, .ref (φ 0)), (2, .ref (φ (90 + j2_6)))]) hx hb dX10_came_67 hl (k := 2) rfl (by rw [show Int32.ofInt (1) = 1 from by decide]) (by decide) rfl (fun ls hl => ?_)
          refine lv_goto (tgt := 40) hx hb dX10_came_70 (by decide) ?_
          exact ih _ _ _ _ _ hj_7 hP hS (lv_sub hl [1, 2, 0] rfl)  h
        · rw [if_neg c_13] at h
          refine lv_iload_n hx hb dX10_came_65 rfl (lv_at hl 2 rfl) ?_
          obtain rfl := Option.some.inj h
          exact W.iret hx hb hr (r_end X hP hS) hS.2.2 dX10_came_66 (hlocks := hlk)
  refine lv_iload_n hx hb dX10_came_0 rfl (lv_at hl 1 rfl) ?_
  refine c_S0 (As := [.int (a1)]) (rest := []) X hl.1 (c_X10_isSheet l X.2.2.2.1.1 hn rfl) (w_X10_226) qw_850 ⟨Nat.le_of_ble_eq_true rfl, Nat.le_of_ble_eq_true rfl⟩ rfl rfl hP hS (Nat.le_of_ble_eq_true rfl) dX10_came_1 (fun H locs hP hS => ?_)
  refine lv_if_ne (tgt := 10) hx hb dX10_came_4 (by decide) (fun c_1 => ?_) (fun c_1 => ?_)
  · rw [if_neg c_1] at h
    refine lv_aload_n hx hb dX10_came_10 rfl (lv_at hl 0 rfl) ?_
    refine G_X10_48 X.1 hn hP dX10_came_11 ?_
    refine lv_iload_n hx hb dX10_came_14 rfl (lv_at hl 1 rfl) ?_
    obtain ⟨c_2, h⟩ := og h
    refine r_aald (t0 := 5) (k := (Int32.toNatClampNeg (a1))) X.1 hP rfl rfl (by omega) sX_sheets rfl (vin c_2) dX10_came_15 ?_
    have hj_3 : (Int32.toNatClampNeg (a1)) < 4 := ibd_lt c_2
    refine lv_astore_n (lv' := [(2, .ref (φ (90 + (Int32.toNatClampNeg (a1))))), (0, .ref (φ 0)), (1, .int (a1))]) hx hb dX10_came_16 rfl hl (by decide) rfl (fun ls hl => ?_)
    refine lv_aload_n hx hb dX10_came_17 rfl (lv_at hl 0 rfl) ?_
    refine c_V0 (As := []) (rest := []) (a := (90 + (Int32.toNatClampNeg (a1)))) X hl.1 (c_X6_isMissing l X.2.2.2.1.1 hn hj_3 rfl) (w_X10_229) qw_853 qw_854 ⟨Nat.le_of_ble_eq_true rfl, Nat.le_of_ble_eq_true rfl⟩ rfl rfl hP hS (by omega) (sX_Sheet hj_3) rfl rfl (Nat.le_of_ble_eq_true rfl) dX10_came_18 (fun H locs hP hS => ?_)
    refine lv_if_eq (tgt := 27) hx hb dX10_came_21 (by decide) (fun c_4 => ?_) (fun c_4 => ?_)
    · rw [if_pos c_4] at h
      refine lv_aload_n hx hb dX10_came_27 rfl (lv_at hl 0 rfl) ?_
      refine G_X10_233 X.1 hn hP hj_3 dX10_came_28 ?_
      refine lv_iconst (v := 1) hx hb dX10_came_31 (by decide) ?_
      refine lv_icmp_ge (tgt := 38) hx hb dX10_came_32 (by decide) (fun c_5 => ?_) (fun c_5 => ?_)
      · rw [if_pos c_5] at h
        refine lv_iconst (v := 0) hx hb dX10_came_38 (by decide) ?_
        refine lv_istore_n (lv' := [(3, .int (0)), (2, .ref (φ (90 + (Int32.toNatClampNeg (a1))))), (0, .ref (φ 0)), (1, .int (a1))]) hx hb dX10_came_39 rfl hl (by decide) rfl (fun ls hl => ?_)
        refine L40 _ _ _ _ _ _ hj_3 hP hS (lv_sub hl [2, 1, 0] rfl)  h
      · rw [if_neg c_5] at h
        refine lv_bipush (v := (-2)) hx hb dX10_came_35 (by decide) ?_
        obtain rfl := Option.some.inj h
        exact W.iret hx hb hr (r_end X hP hS) hS.2.2 dX10_came_37 (hlocks := hlk)
    · rw [if_neg c_4] at h
      refine lv_bipush (v := (-11)) hx hb dX10_came_24 (by decide) ?_
      obtain rfl := Option.some.inj h
      exact W.iret hx hb hr (r_end X hP hS) hS.2.2 dX10_came_26 (hlocks := hlk)
  · rw [if_pos c_1] at h
    refine lv_bipush (v := (-2)) hx hb dX10_came_7 (by decide) ?_
    obtain rfl := Option.some.inj h
    exact W.iret hx hb hr (r_end X hP hS) hS.2.2 dX10_came_9 (hlocks := hlk)

def f_X10_image_24 (k68 : Mem → Option (Int32 × Mem)) : Nat → Int32 → Mem → Option (Int32 × Mem)
  | 0, _, _ => none
  | fu_3 + 1, x1_1, M_2 => (if (M_2 1 3) ≤ x1_1 then (k68 M_2) else (if ibd (x1_1) 5 then (if ibd (x1_1) 5 then (f_X10_image_24 k68 fu_3 ((x1_1 + 1)) (cpy2 M_2 (25 + (Int32.toNatClampNeg (x1_1))) (101 + (Int32.toNatClampNeg (x1_1))) (Int32.toNatClampNeg (0)) (Int32.toNatClampNeg (0)) (Int32.toNatClampNeg (4)))) else none) else none))
def f_X10_image_84 : Nat → Int32 → Mem → Option (Int32 × Mem)
  | 0, _, _ => none
  | fu_13 + 1, x1_11, M_12 => (if (M_12 1 4) ≤ x1_11 then some ((((upd2 (upd2 M_12 98 5 ((M_12 85 2))) 98 6 (((upd2 M_12 98 5 ((M_12 85 2))) 1 6))) 85 2), (upd2 (upd2 M_12 98 5 ((M_12 85 2))) 98 6 (((upd2 M_12 98 5 ((M_12 85 2))) 1 6))))) else (if ibd (x1_11) 10 then (if ibd (x1_11) 10 then (f_X10_image_84 fu_13 ((x1_11 + 1)) (upd2 M_12 100 (Int32.toNatClampNeg (x1_11)) ((M_12 (30 + (Int32.toNatClampNeg (x1_11))) 1)))) else none) else none))
def f_X10_image (M : Mem) : Option (Int32 × Mem) :=
  (f_X10_image_24 (fun M_10 => (f_X10_image_84 FU (0) (upd2 M_10 98 3 ((M_10 1 4))))) FU (0) (upd2 (upd2 M 98 0 (1)) 98 1 (((upd2 M 98 0 (1)) 1 3))))
set_option maxRecDepth 100000 in
set_option maxHeartbeats 4000000 in
theorem c_X10_image (l : Launch) {G : GT} {φ : Nat → Nat} {n : Nat} {M : Mem} (hI : wI φ n) (hn : 107 ≤ n) {r : Int32 × Mem} (h : f_X10_image M = some r) : CT l yX10_image cX10_image 2 (some .int) ({ frames := 1, cells := 0, slots := 0, locals := 80 } : Room) [.ref (φ 0)] (WB (cX G φ) φ M n G) (some (.int r.1)) (WB (cX G φ) φ (r.2) n G) φ n := by
  unfold f_X10_image at h
  refine r_start (plainFor_of_name (by decide)) (Nat.le_of_ble_eq_true rfl) hI ?_
  intro p e s m args below meth c ls X hr hlk hP hl
  have hS : va_S (wA φ n s.heap.size) s.heap s.heap [] := va_S.rf
  have hx := X.1.1
  have hb := X.1.2.1
  have hl : lv_has ls 2 [(0, .ref (φ 0))] := hl
  have L24 : ∀ (fu_3 : Nat) (M_2 : Mem) (k68 : Mem → Option (Int32 × Mem)) (x1_1 : Int32)  (H : Heap) (locs : List Loc) (ls : Array Slot), va_P G.1 vwCl (wW (cX G φ) φ M_2 n) H → va_S (wA φ n s.heap.size) s.heap H locs → lv_has ls 2 [(0, .ref (φ 0)), (1, .int (x1_1))] → (∀ (M_9 : Mem) (H : Heap) (locs : List Loc) (ls : Array Slot), va_P G.1 vwCl (wW (cX G φ) φ M_9 n) H → va_S (wA φ n s.heap.size) s.heap H locs → lv_has ls 2 [(0, .ref (φ 0))] → k68 M_9 = some r → W p l e ({ frames := 1, cells := 0, slots := 0, locals := 80 } : Room) s m args below meth c H locs 0 0 (MQ below (QQ (some (.int r.1)) (WB (cX G φ) φ (r.2) n G) (wA φ n s.heap.size)) args s 0 0 (wA φ n s.heap.size)) (F0 m 68 ls [])) → f_X10_image_24 k68 fu_3 x1_1 M_2 = some r → W p l e ({ frames := 1, cells := 0, slots := 0, locals := 80 } : Room) s m args below meth c H locs 0 0 (MQ below (QQ (some (.int r.1)) (WB (cX G φ) φ (r.2) n G) (wA φ n s.heap.size)) args s 0 0 (wA φ n s.heap.size)) (F0 m 24 ls []) := by
    intro fu_3
    induction fu_3 with
    | zero =>
      intro M_2 k68 x1_1 H locs ls _ _ _ _ h
      have h : (none : Option (Int32 × Mem)) = some r := h
      cases h
    | succ fu_3 ih =>
      intro M_2 k68 x1_1 H locs ls hP hS hl hk68 h
      rw [f_X10_image_24] at h
      refine lv_iload_n hx hb dX10_image_24 rfl (lv_at hl 1 rfl) ?_
      refine lv_aload_n hx hb dX10_image_25 rfl (lv_at hl 0 rfl) ?_
      refine G_X10_10 X.1 hn hP dX10_image_26 ?_
      refine G_X10_201 X.1 hn hP dX10_image_29 ?_
      refine lv_icmp_ge (tgt := 68) hx hb dX10_image_32 (by decide) (fun c_4 => ?_) (fun c_4 => ?_)
      · rw [if_pos c_4] at h
        exact hk68 _ _ _ _ hP hS (lv_sub hl [0] rfl) h
      · rw [if_neg c_4] at h
        refine lv_aload_n hx hb dX10_image_35 rfl (lv_at hl 0 rfl) ?_
        refine G_X10_10 X.1 hn hP dX10_image_36 ?_
        refine G_X10_108 X.1 hn hP dX10_image_39 ?_
        refine lv_iload_n hx hb dX10_image_42 rfl (lv_at hl 1 rfl) ?_
        obtain ⟨c_5, h⟩ := og h
        refine r_aald (t0 := 2) (k := (Int32.toNatClampNeg (x1_1))) X.1 hP rfl rfl (by omega) sX_people rfl (vin c_5) dX10_image_43 ?_
        have hj_6 : (Int32.toNatClampNeg (x1_1)) < 5 := ibd_lt c_5
        refine G_X10_112 X.1 hn hP hj_6 dX10_image_44 ?_
        refine lv_iconst (v := 0) hx hb dX10_image_47 (by decide) ?_
        refine lv_aload_n hx hb dX10_image_48 rfl (lv_at hl 0 rfl) ?_
        refine G_X10_42 X.1 hn hP dX10_image_49 ?_
        refine G_X10_245 X.1 hn hP dX10_image_52 ?_
        refine lv_iload_n hx hb dX10_image_55 rfl (lv_at hl 1 rfl) ?_
        obtain ⟨c_7, h⟩ := og h
        refine r_aald (t0 := 1) (k := (Int32.toNatClampNeg (x1_1))) X.1 hP rfl rfl (by omega) sX_itraits rfl (vin c_7) dX10_image_56 ?_
        have hj_8 : (Int32.toNatClampNeg (x1_1)) < 5 := ibd_lt c_7
        refine lv_iconst (v := 0) hx hb dX10_image_57 (by decide) ?_
        refine lv_iconst (v := 4) hx hb dX10_image_58 (by decide) ?_
        refine r_copy X.1 X.2.1 hl.1 (X.1.2.2.2.1 _ qw_865) (X.1.2.2.2.1 _ qw_867) (X.1.2.2.2.1 _ qw_866) (X.1.2.2.2.1 _ qw_80) X.2.2.2.1 hP hS (by omega) (by omega) (sX_traits hj_6) (sX_itrow hj_8) (by decide) (by decide) (by decide) (by decide) (by decide) (by decide) (by decide) dX10_image_59 (fun H locs hP hS => ?_)
        refine lv_iinc (v := (x1_1 + 1)) (lv' := [(1, .int ((x1_1 + 1))), (0, .ref (φ 0))]) hx hb dX10_image_62 hl (k := 1) rfl (by rw [show Int32.ofInt (1) = 1 from by decide]) (by decide) rfl (fun ls hl => ?_)
        refine lv_goto (tgt := 24) hx hb dX10_image_65 (by decide) ?_
        exact ih _ _ _ _ _ _ hP hS (lv_sub hl [1, 0] rfl) hk68 h
  have L84 : ∀ (fu_13 : Nat) (M_12 : Mem) (x1_11 : Int32)  (H : Heap) (locs : List Loc) (ls : Array Slot), va_P G.1 vwCl (wW (cX G φ) φ M_12 n) H → va_S (wA φ n s.heap.size) s.heap H locs → lv_has ls 2 [(0, .ref (φ 0)), (1, .int (x1_11))] → f_X10_image_84 fu_13 x1_11 M_12 = some r → W p l e ({ frames := 1, cells := 0, slots := 0, locals := 80 } : Room) s m args below meth c H locs 0 0 (MQ below (QQ (some (.int r.1)) (WB (cX G φ) φ (r.2) n G) (wA φ n s.heap.size)) args s 0 0 (wA φ n s.heap.size)) (F0 m 84 ls []) := by
    intro fu_13
    induction fu_13 with
    | zero =>
      intro M_12 x1_11 H locs ls _ _ _  h
      have h : (none : Option (Int32 × Mem)) = some r := h
      cases h
    | succ fu_13 ih =>
      intro M_12 x1_11 H locs ls hP hS hl  h
      rw [f_X10_image_84] at h
      refine lv_iload_n hx hb dX10_image_84 rfl (lv_at hl 1 rfl) ?_
      refine lv_aload_n hx hb dX10_image_85 rfl (lv_at hl 0 rfl) ?_
      refine G_X10_10 X.1 hn hP dX10_image_86 ?_
      refine G_X10_167 X.1 hn hP dX10_image_89 ?_
      refine lv_icmp_ge (tgt := 122) hx hb dX10_image_92 (by decide) (fun c_14 => ?_) (fun c_14 => ?_)
      · rw [if_pos c_14] at h
        refine lv_aload_n hx hb dX10_image_122 rfl (lv_at hl 0 rfl) ?_
        refine G_X10_42 X.1 hn hP dX10_image_123 ?_
        refine lv_aload_n hx hb dX10_image_126 rfl (lv_at hl 0 rfl) ?_
        refine G_X10_35 X.1 hn hP dX10_image_127 ?_
        refine G_X10_213 X.1 hn hP dX10_image_130 ?_
        refine P_X10_257 X.1 hn X.2.2.2.1 hP hS dX10_image_133 (fun H locs hP hS => ?_)
        refine lv_aload_n hx hb dX10_image_136 rfl (lv_at hl 0 rfl) ?_
        refine G_X10_42 X.1 hn hP dX10_image_137 ?_
        refine lv_aload_n hx hb dX10_image_140 rfl (lv_at hl 0 rfl) ?_
        refine G_X10_10 X.1 hn hP dX10_image_141 ?_
        refine G_X10_154 X.1 hn hP dX10_image_144 ?_
        refine P_X10_260 X.1 hn X.2.2.2.1 hP hS dX10_image_147 (fun H locs hP hS => ?_)
        refine lv_aload_n hx hb dX10_image_150 rfl (lv_at hl 0 rfl) ?_
        refine G_X10_35 X.1 hn hP dX10_image_151 ?_
        refine G_X10_213 X.1 hn hP dX10_image_154 ?_
        obtain rfl := Option.some.inj h
        exact W.iret hx hb hr (r_end X hP hS) hS.2.2 dX10_image_157 (hlocks := hlk)
      · rw [if_neg c_14] at h
        refine lv_aload_n hx hb dX10_image_95 rfl (lv_at hl 0 rfl) ?_
        refine G_X10_42 X.1 hn hP dX10_image_96 ?_
        refine G_X10_254 X.1 hn hP dX10_image_99 ?_
        refine lv_iload_n hx hb dX10_image_102 rfl (lv_at hl 1 rfl) ?_
        refine lv_aload_n hx hb dX10_image_103 rfl (lv_at hl 0 rfl) ?_
        refine G_X10_10 X.1 hn hP dX10_image_104 ?_
        refine G_X10_121 X.1 hn hP dX10_image_107 ?_
        refine lv_iload_n hx hb dX10_image_110 rfl (lv_at hl 1 rfl) ?_
        obtain ⟨c_15, h⟩ := og h
        refine r_aald (t0 := 3) (k := (Int32.toNatClampNeg (x1_11))) X.1 hP rfl rfl (by omega) sX_slips rfl (vin c_15) dX10_image_111 ?_
        have hj_16 : (Int32.toNatClampNeg (x1_11)) < 10 := ibd_lt c_15
        refine G_X10_130 X.1 hn hP hj_16 dX10_image_112 ?_
        obtain ⟨c_17, h⟩ := og h
        refine r_iast (k := (Int32.toNatClampNeg (x1_11))) X.1 X.2.2.2.1 hP hS (by omega) sX_ihours rfl (vin c_17) dX10_image_115 (fun H locs hP hS => ?_)
        refine lv_iinc (v := (x1_11 + 1)) (lv' := [(1, .int ((x1_11 + 1))), (0, .ref (φ 0))]) hx hb dX10_image_116 hl (k := 1) rfl (by rw [show Int32.ofInt (1) = 1 from by decide]) (by decide) rfl (fun ls hl => ?_)
        refine lv_goto (tgt := 84) hx hb dX10_image_119 (by decide) ?_
        exact ih _ _ _ _ _ hP hS (lv_sub hl [1, 0] rfl)  h
  refine lv_aload_n hx hb dX10_image_0 rfl (lv_at hl 0 rfl) ?_
  refine G_X10_42 X.1 hn hP dX10_image_1 ?_
  refine lv_iconst (v := 1) hx hb dX10_image_4 (by decide) ?_
  refine P_X10_241 X.1 hn X.2.2.2.1 hP hS rfl rfl dX10_image_5 (fun H locs hP hS => ?_)
  refine lv_aload_n hx hb dX10_image_8 rfl (lv_at hl 0 rfl) ?_
  refine G_X10_42 X.1 hn hP dX10_image_9 ?_
  refine lv_aload_n hx hb dX10_image_12 rfl (lv_at hl 0 rfl) ?_
  refine G_X10_10 X.1 hn hP dX10_image_13 ?_
  refine G_X10_201 X.1 hn hP dX10_image_16 ?_
  refine P_X10_244 X.1 hn X.2.2.2.1 hP hS dX10_image_19 (fun H locs hP hS => ?_)
  refine lv_iconst (v := 0) hx hb dX10_image_22 (by decide) ?_
  refine lv_istore_n (lv' := [(1, .int (0)), (0, .ref (φ 0))]) hx hb dX10_image_23 rfl hl (by decide) rfl (fun ls hl => ?_)
  refine L24 _ _ _ _ _ _ _ hP hS (lv_sub hl [1, 0] rfl) (fun M_10 H locs ls hP hS hl h => ?_) h
  · try dsimp only at h
    refine lv_aload_n hx hb dX10_image_68 rfl (lv_at hl 0 rfl) ?_
    refine G_X10_42 X.1 hn hP dX10_image_69 ?_
    refine lv_aload_n hx hb dX10_image_72 rfl (lv_at hl 0 rfl) ?_
    refine G_X10_10 X.1 hn hP dX10_image_73 ?_
    refine G_X10_167 X.1 hn hP dX10_image_76 ?_
    refine P_X10_253 X.1 hn X.2.2.2.1 hP hS dX10_image_79 (fun H locs hP hS => ?_)
    refine lv_iconst (v := 0) hx hb dX10_image_82 (by decide) ?_
    refine lv_istore_n (lv' := [(1, .int (0)), (0, .ref (φ 0))]) hx hb dX10_image_83 rfl hl (by decide) rfl (fun ls hl => ?_)
    refine L84 _ _ _ _ _ _ hP hS (lv_sub hl [1, 0] rfl)  h

def f_X10_back_15 (k59 : Mem → Option (Int32 × Mem)) : Nat → Int32 → Mem → Option (Int32 × Mem)
  | 0, _, _ => none
  | fu_4 + 1, x1_2, M_3 => (if (M_3 98 1) ≤ x1_2 then (k59 M_3) else (if ibd (x1_2) 5 then (if ibd (x1_2) 5 then (f_X10_back_15 k59 fu_4 ((x1_2 + 1)) (cpy2 M_3 (101 + (Int32.toNatClampNeg (x1_2))) (25 + (Int32.toNatClampNeg (x1_2))) (Int32.toNatClampNeg (0)) (Int32.toNatClampNeg (0)) (Int32.toNatClampNeg (4)))) else none) else none))
def f_X10_back_61 : Nat → Int32 → Mem → Option (Int32 × Mem)
  | 0, _, _ => none
  | fu_14 + 1, x1_12, M_13 => (if (M_13 98 3) ≤ x1_12 then some ((((upd2 (upd2 (upd2 M_13 85 2 ((M_13 98 5))) 1 6 (((upd2 M_13 85 2 ((M_13 98 5))) 98 6))) 5 0 (1)) 85 2), (upd2 (upd2 (upd2 M_13 85 2 ((M_13 98 5))) 1 6 (((upd2 M_13 85 2 ((M_13 98 5))) 98 6))) 5 0 (1)))) else (if ibd (x1_12) 10 then (if ibd (x1_12) 10 then (f_X10_back_61 fu_14 ((x1_12 + 1)) (upd2 M_13 (30 + (Int32.toNatClampNeg (x1_12))) 1 ((M_13 100 (Int32.toNatClampNeg (x1_12)))))) else none) else none))
def f_X10_back (M : Mem) : Option (Int32 × Mem) :=
  (if (M 98 0) = 0 then some (((-3), M)) else (f_X10_back_15 (fun M_11 => (f_X10_back_61 FU (0) M_11)) FU (0) M))
set_option maxRecDepth 100000 in
set_option maxHeartbeats 4000000 in
theorem c_X10_back (l : Launch) {G : GT} {φ : Nat → Nat} {n : Nat} {M : Mem} (hI : wI φ n) (hn : 107 ≤ n) {r : Int32 × Mem} (h : f_X10_back M = some r) : CT l yX10_back cX10_back 2 (some .int) ({ frames := 1, cells := 0, slots := 0, locals := 80 } : Room) [.ref (φ 0)] (WB (cX G φ) φ M n G) (some (.int r.1)) (WB (cX G φ) φ (r.2) n G) φ n := by
  unfold f_X10_back at h
  refine r_start (plainFor_of_name (by decide)) (Nat.le_of_ble_eq_true rfl) hI ?_
  intro p e s m args below meth c ls X hr hlk hP hl
  have hS : va_S (wA φ n s.heap.size) s.heap s.heap [] := va_S.rf
  have hx := X.1.1
  have hb := X.1.2.1
  have hl : lv_has ls 2 [(0, .ref (φ 0))] := hl
  have L15 : ∀ (fu_4 : Nat) (M_3 : Mem) (k59 : Mem → Option (Int32 × Mem)) (x1_2 : Int32)  (H : Heap) (locs : List Loc) (ls : Array Slot), va_P G.1 vwCl (wW (cX G φ) φ M_3 n) H → va_S (wA φ n s.heap.size) s.heap H locs → lv_has ls 2 [(0, .ref (φ 0)), (1, .int (x1_2))] → (∀ (M_10 : Mem) (H : Heap) (locs : List Loc) (ls : Array Slot), va_P G.1 vwCl (wW (cX G φ) φ M_10 n) H → va_S (wA φ n s.heap.size) s.heap H locs → lv_has ls 2 [(0, .ref (φ 0))] → k59 M_10 = some r → W p l e ({ frames := 1, cells := 0, slots := 0, locals := 80 } : Room) s m args below meth c H locs 0 0 (MQ below (QQ (some (.int r.1)) (WB (cX G φ) φ (r.2) n G) (wA φ n s.heap.size)) args s 0 0 (wA φ n s.heap.size)) (F0 m 59 ls [])) → f_X10_back_15 k59 fu_4 x1_2 M_3 = some r → W p l e ({ frames := 1, cells := 0, slots := 0, locals := 80 } : Room) s m args below meth c H locs 0 0 (MQ below (QQ (some (.int r.1)) (WB (cX G φ) φ (r.2) n G) (wA φ n s.heap.size)) args s 0 0 (wA φ n s.heap.size)) (F0 m 15 ls []) := by
    intro fu_4
    induction fu_4 with
    | zero =>
      intro M_3 k59 x1_2 H locs ls _ _ _ _ h
      have h : (none : Option (Int32 × Mem)) = some r := h
      cases h
    | succ fu_4 ih =>
      intro M_3 k59 x1_2 H locs ls hP hS hl hk59 h
      rw [f_X10_back_15] at h
      refine lv_iload_n hx hb dX10_back_15 rfl (lv_at hl 1 rfl) ?_
      refine lv_aload_n hx hb dX10_back_16 rfl (lv_at hl 0 rfl) ?_
      refine G_X10_42 X.1 hn hP dX10_back_17 ?_
      refine G_X10_244 X.1 hn hP dX10_back_20 ?_
      refine lv_icmp_ge (tgt := 59) hx hb dX10_back_23 (by decide) (fun c_5 => ?_) (fun c_5 => ?_)
      · rw [if_pos c_5] at h
        exact hk59 _ _ _ _ hP hS (lv_sub hl [0] rfl) h
      · rw [if_neg c_5] at h
        refine lv_aload_n hx hb dX10_back_26 rfl (lv_at hl 0 rfl) ?_
        refine G_X10_42 X.1 hn hP dX10_back_27 ?_
        refine G_X10_245 X.1 hn hP dX10_back_30 ?_
        refine lv_iload_n hx hb dX10_back_33 rfl (lv_at hl 1 rfl) ?_
        obtain ⟨c_6, h⟩ := og h
        refine r_aald (t0 := 1) (k := (Int32.toNatClampNeg (x1_2))) X.1 hP rfl rfl (by omega) sX_itraits rfl (vin c_6) dX10_back_34 ?_
        have hj_7 : (Int32.toNatClampNeg (x1_2)) < 5 := ibd_lt c_6
        refine lv_iconst (v := 0) hx hb dX10_back_35 (by decide) ?_
        refine lv_aload_n hx hb dX10_back_36 rfl (lv_at hl 0 rfl) ?_
        refine G_X10_10 X.1 hn hP dX10_back_37 ?_
        refine G_X10_108 X.1 hn hP dX10_back_40 ?_
        refine lv_iload_n hx hb dX10_back_43 rfl (lv_at hl 1 rfl) ?_
        obtain ⟨c_8, h⟩ := og h
        refine r_aald (t0 := 2) (k := (Int32.toNatClampNeg (x1_2))) X.1 hP rfl rfl (by omega) sX_people rfl (vin c_8) dX10_back_44 ?_
        have hj_9 : (Int32.toNatClampNeg (x1_2)) < 5 := ibd_lt c_8
        refine G_X10_112 X.1 hn hP hj_9 dX10_back_45 ?_
        refine lv_iconst (v := 0) hx hb dX10_back_48 (by decide) ?_
        refine lv_iconst (v := 4) hx hb dX10_back_49 (by decide) ?_
        refine r_copy X.1 X.2.1 hl.1 (X.1.2.2.2.1 _ qw_865) (X.1.2.2.2.1 _ qw_867) (X.1.2.2.2.1 _ qw_866) (X.1.2.2.2.1 _ qw_80) X.2.2.2.1 hP hS (by omega) (by omega) (sX_itrow hj_7) (sX_traits hj_9) (by decide) (by decide) (by decide) (by decide) (by decide) (by decide) (by decide) dX10_back_50 (fun H locs hP hS => ?_)
        refine lv_iinc (v := (x1_2 + 1)) (lv' := [(1, .int ((x1_2 + 1))), (0, .ref (φ 0))]) hx hb dX10_back_53 hl (k := 1) rfl (by rw [show Int32.ofInt (1) = 1 from by decide]) (by decide) rfl (fun ls hl => ?_)
        refine lv_goto (tgt := 15) hx hb dX10_back_56 (by decide) ?_
        exact ih _ _ _ _ _ _ hP hS (lv_sub hl [1, 0] rfl) hk59 h
  have L61 : ∀ (fu_14 : Nat) (M_13 : Mem) (x1_12 : Int32)  (H : Heap) (locs : List Loc) (ls : Array Slot), va_P G.1 vwCl (wW (cX G φ) φ M_13 n) H → va_S (wA φ n s.heap.size) s.heap H locs → lv_has ls 2 [(0, .ref (φ 0)), (1, .int (x1_12))] → f_X10_back_61 fu_14 x1_12 M_13 = some r → W p l e ({ frames := 1, cells := 0, slots := 0, locals := 80 } : Room) s m args below meth c H locs 0 0 (MQ below (QQ (some (.int r.1)) (WB (cX G φ) φ (r.2) n G) (wA φ n s.heap.size)) args s 0 0 (wA φ n s.heap.size)) (F0 m 61 ls []) := by
    intro fu_14
    induction fu_14 with
    | zero =>
      intro M_13 x1_12 H locs ls _ _ _  h
      have h : (none : Option (Int32 × Mem)) = some r := h
      cases h
    | succ fu_14 ih =>
      intro M_13 x1_12 H locs ls hP hS hl  h
      rw [f_X10_back_61] at h
      refine lv_iload_n hx hb dX10_back_61 rfl (lv_at hl 1 rfl) ?_
      refine lv_aload_n hx hb dX10_back_62 rfl (lv_at hl 0 rfl) ?_
      refine G_X10_42 X.1 hn hP dX10_back_63 ?_
      refine G_X10_253 X.1 hn hP dX10_back_66 ?_
      refine lv_icmp_ge (tgt := 99) hx hb dX10_back_69 (by decide) (fun c_15 => ?_) (fun c_15 => ?_)
      · rw [if_pos c_15] at h
        refine lv_aload_n hx hb dX10_back_99 rfl (lv_at hl 0 rfl) ?_
        refine G_X10_35 X.1 hn hP dX10_back_100 ?_
        refine lv_aload_n hx hb dX10_back_103 rfl (lv_at hl 0 rfl) ?_
        refine G_X10_42 X.1 hn hP dX10_back_104 ?_
        refine G_X10_257 X.1 hn hP dX10_back_107 ?_
        refine P_X10_213 X.1 hn X.2.2.2.1 hP hS dX10_back_110 (fun H locs hP hS => ?_)
        refine lv_aload_n hx hb dX10_back_113 rfl (lv_at hl 0 rfl) ?_
        refine G_X10_10 X.1 hn hP dX10_back_114 ?_
        refine lv_aload_n hx hb dX10_back_117 rfl (lv_at hl 0 rfl) ?_
        refine G_X10_42 X.1 hn hP dX10_back_118 ?_
        refine G_X10_260 X.1 hn hP dX10_back_121 ?_
        refine P_X10_154 X.1 hn X.2.2.2.1 hP hS dX10_back_124 (fun H locs hP hS => ?_)
        refine lv_aload_n hx hb dX10_back_127 rfl (lv_at hl 0 rfl) ?_
        refine G_X10_21 X.1 hn hP dX10_back_128 ?_
        refine lv_iconst (v := 1) hx hb dX10_back_131 (by decide) ?_
        refine P_X10_93 X.1 hn X.2.2.2.1 hP hS rfl rfl dX10_back_132 (fun H locs hP hS => ?_)
        refine lv_aload_n hx hb dX10_back_135 rfl (lv_at hl 0 rfl) ?_
        refine G_X10_35 X.1 hn hP dX10_back_136 ?_
        refine G_X10_213 X.1 hn hP dX10_back_139 ?_
        obtain rfl := Option.some.inj h
        exact W.iret hx hb hr (r_end X hP hS) hS.2.2 dX10_back_142 (hlocks := hlk)
      · rw [if_neg c_15] at h
        refine lv_aload_n hx hb dX10_back_72 rfl (lv_at hl 0 rfl) ?_
        refine G_X10_10 X.1 hn hP dX10_back_73 ?_
        refine G_X10_121 X.1 hn hP dX10_back_76 ?_
        refine lv_iload_n hx hb dX10_back_79 rfl (lv_at hl 1 rfl) ?_
        obtain ⟨c_16, h⟩ := og h
        refine r_aald (t0 := 3) (k := (Int32.toNatClampNeg (x1_12))) X.1 hP rfl rfl (by omega) sX_slips rfl (vin c_16) dX10_back_80 ?_
        have hj_17 : (Int32.toNatClampNeg (x1_12)) < 10 := ibd_lt c_16
        refine lv_aload_n hx hb dX10_back_81 rfl (lv_at hl 0 rfl) ?_
        refine G_X10_42 X.1 hn hP dX10_back_82 ?_
        refine G_X10_254 X.1 hn hP dX10_back_85 ?_
        refine lv_iload_n hx hb dX10_back_88 rfl (lv_at hl 1 rfl) ?_
        obtain ⟨c_18, h⟩ := og h
        refine r_iald (k := (Int32.toNatClampNeg (x1_12))) X.1 hP (by omega) sX_ihours rfl (vin c_18) dX10_back_89 ?_
        refine P_X10_130 X.1 hn X.2.2.2.1 hP hS hj_17 dX10_back_90 (fun H locs hP hS => ?_)
        refine lv_iinc (v := (x1_12 + 1)) (lv' := [(1, .int ((x1_12 + 1))), (0, .ref (φ 0))]) hx hb dX10_back_93 hl (k := 1) rfl (by rw [show Int32.ofInt (1) = 1 from by decide]) (by decide) rfl (fun ls hl => ?_)
        refine lv_goto (tgt := 61) hx hb dX10_back_96 (by decide) ?_
        exact ih _ _ _ _ _ hP hS (lv_sub hl [1, 0] rfl)  h
  refine lv_aload_n hx hb dX10_back_0 rfl (lv_at hl 0 rfl) ?_
  refine G_X10_42 X.1 hn hP dX10_back_1 ?_
  refine G_X10_241 X.1 hn hP dX10_back_4 ?_
  refine lv_if_ne (tgt := 13) hx hb dX10_back_7 (by decide) (fun c_1 => ?_) (fun c_1 => ?_)
  · rw [if_neg c_1] at h
    refine lv_iconst (v := 0) hx hb dX10_back_13 (by decide) ?_
    refine lv_istore_n (lv' := [(1, .int (0)), (0, .ref (φ 0))]) hx hb dX10_back_14 rfl hl (by decide) rfl (fun ls hl => ?_)
    refine L15 _ _ _ _ _ _ _ hP hS (lv_sub hl [1, 0] rfl) (fun M_11 H locs ls hP hS hl h => ?_) h
    · try dsimp only at h
      refine lv_iconst (v := 0) hx hb dX10_back_59 (by decide) ?_
      refine lv_istore_n (lv' := [(1, .int (0)), (0, .ref (φ 0))]) hx hb dX10_back_60 rfl hl (by decide) rfl (fun ls hl => ?_)
      refine L61 _ _ _ _ _ _ hP hS (lv_sub hl [1, 0] rfl)  h
  · rw [if_pos c_1] at h
    refine lv_bipush (v := (-3)) hx hb dX10_back_10 (by decide) ?_
    obtain rfl := Option.some.inj h
    exact W.iret hx hb hr (r_end X hP hS) hS.2.2 dX10_back_12 (hlocks := hlk)

def f_X10_count (M : Mem) (a1 : Int32) : Option (Int32) :=
  (if Int32.toInt (a1) < 0 ∨ 5 < Int32.toInt (a1) then some ((-2)) else (if a1 = 0 then some ((M 1 3)) else (if a1 = 1 then some ((M 1 4)) else (if a1 = 2 then some ((M 85 2)) else (if a1 = 3 then some ((M 1 5)) else (if a1 = 4 then some ((M 19 0)) else (if a1 = 5 then some ((M 1 6)) else none)))))))
set_option maxRecDepth 100000 in
set_option maxHeartbeats 4000000 in
theorem c_X10_count (l : Launch) {G : GT} {φ : Nat → Nat} {n : Nat} {M : Mem} {a1 : Int32} (hI : wI φ n) (hn : 107 ≤ n) {r : Int32} (h : f_X10_count M a1 = some r) : CT l yX10_count cX10_count 2 (some .int) ({ frames := 0, cells := 0, slots := 0, locals := 0 } : Room) [.ref (φ 0), .int (a1)] (WB (cX G φ) φ M n G) (some (.int r)) (WB (cX G φ) φ (M) n G) φ n := by
  unfold f_X10_count at h
  refine r_start (plainFor_of_name (by decide)) (Nat.le_of_ble_eq_true rfl) hI ?_
  intro p e s m args below meth c ls X hr hlk hP hl
  have hS : va_S (wA φ n s.heap.size) s.heap s.heap [] := va_S.rf
  have hx := X.1.1
  have hb := X.1.2.1
  have hl : lv_has ls 2 [(0, .ref (φ 0)), (1, .int (a1))] := hl
  refine lv_iload_n hx hb dX10_count_0 rfl (lv_at hl 1 rfl) ?_
  by_cases c_1 : Int32.toInt (a1) < 0 ∨ 5 < Int32.toInt (a1)
  · rw [if_pos c_1] at h
    refine lv_tableOut (tgt := 88) hx hb dX10_count_1 c_1 (by decide) ?_
    refine lv_bipush (v := (-2)) hx hb dX10_count_88 (by decide) ?_
    obtain rfl := Option.some.inj h
    exact W.iret hx hb hr (r_end X hP hS) hS.2.2 dX10_count_90 (hlocks := hlk)
  · rw [if_neg c_1] at h
    by_cases c_2 : a1 = 0
    · rw [if_pos c_2] at h
      refine lv_tableIn (tgt := 40) (off := 39) hx hb dX10_count_1 (fun q => c_1 (Or.inl q)) (fun q => c_1 (Or.inr q)) (by rw [c_2]; rfl) (by decide) ?_
      refine lv_aload_n hx hb dX10_count_40 rfl (lv_at hl 0 rfl) ?_
      refine G_X10_10 X.1 hn hP dX10_count_41 ?_
      refine G_X10_201 X.1 hn hP dX10_count_44 ?_
      obtain rfl := Option.some.inj h
      exact W.iret hx hb hr (r_end X hP hS) hS.2.2 dX10_count_47 (hlocks := hlk)
    · rw [if_neg c_2] at h
      by_cases c_3 : a1 = 1
      · rw [if_pos c_3] at h
        refine lv_tableIn (tgt := 48) (off := 47) hx hb dX10_count_1 (fun q => c_1 (Or.inl q)) (fun q => c_1 (Or.inr q)) (by rw [c_3]; rfl) (by decide) ?_
        refine lv_aload_n hx hb dX10_count_48 rfl (lv_at hl 0 rfl) ?_
        refine G_X10_10 X.1 hn hP dX10_count_49 ?_
        refine G_X10_167 X.1 hn hP dX10_count_52 ?_
        obtain rfl := Option.some.inj h
        exact W.iret hx hb hr (r_end X hP hS) hS.2.2 dX10_count_55 (hlocks := hlk)
      · rw [if_neg c_3] at h
        by_cases c_4 : a1 = 2
        · rw [if_pos c_4] at h
          refine lv_tableIn (tgt := 56) (off := 55) hx hb dX10_count_1 (fun q => c_1 (Or.inl q)) (fun q => c_1 (Or.inr q)) (by rw [c_4]; rfl) (by decide) ?_
          refine lv_aload_n hx hb dX10_count_56 rfl (lv_at hl 0 rfl) ?_
          refine G_X10_35 X.1 hn hP dX10_count_57 ?_
          refine G_X10_213 X.1 hn hP dX10_count_60 ?_
          obtain rfl := Option.some.inj h
          exact W.iret hx hb hr (r_end X hP hS) hS.2.2 dX10_count_63 (hlocks := hlk)
        · rw [if_neg c_4] at h
          by_cases c_5 : a1 = 3
          · rw [if_pos c_5] at h
            refine lv_tableIn (tgt := 64) (off := 63) hx hb dX10_count_1 (fun q => c_1 (Or.inl q)) (fun q => c_1 (Or.inr q)) (by rw [c_5]; rfl) (by decide) ?_
            refine lv_aload_n hx hb dX10_count_64 rfl (lv_at hl 0 rfl) ?_
            refine G_X10_10 X.1 hn hP dX10_count_65 ?_
            refine G_X10_81 X.1 hn hP dX10_count_68 ?_
            obtain rfl := Option.some.inj h
            exact W.iret hx hb hr (r_end X hP hS) hS.2.2 dX10_count_71 (hlocks := hlk)
          · rw [if_neg c_5] at h
            by_cases c_6 : a1 = 4
            · rw [if_pos c_6] at h
              refine lv_tableIn (tgt := 72) (off := 71) hx hb dX10_count_1 (fun q => c_1 (Or.inl q)) (fun q => c_1 (Or.inr q)) (by rw [c_6]; rfl) (by decide) ?_
              refine lv_aload_n hx hb dX10_count_72 rfl (lv_at hl 0 rfl) ?_
              refine G_X10_28 X.1 hn hP dX10_count_73 ?_
              refine G_X10_151 X.1 hn hP dX10_count_76 ?_
              obtain rfl := Option.some.inj h
              exact W.iret hx hb hr (r_end X hP hS) hS.2.2 dX10_count_79 (hlocks := hlk)
            · rw [if_neg c_6] at h
              by_cases c_7 : a1 = 5
              · rw [if_pos c_7] at h
                refine lv_tableIn (tgt := 80) (off := 79) hx hb dX10_count_1 (fun q => c_1 (Or.inl q)) (fun q => c_1 (Or.inr q)) (by rw [c_7]; rfl) (by decide) ?_
                refine lv_aload_n hx hb dX10_count_80 rfl (lv_at hl 0 rfl) ?_
                refine G_X10_10 X.1 hn hP dX10_count_81 ?_
                refine G_X10_154 X.1 hn hP dX10_count_84 ?_
                obtain rfl := Option.some.inj h
                exact W.iret hx hb hr (r_end X hP hS) hS.2.2 dX10_count_87 (hlocks := hlk)
              · rw [if_neg c_7] at h
                cases h

def f_X10_sheet (M : Mem) (a1 : Int32) (a2 : Int32) (a3 : Int32) : Option (Int32 × Mem) :=
  (if (f_X10_isSheet (a1)) = 0 then some (((-2), M)) else (if a2 < (-1) then some (((-2), M)) else (if a2 ≤ 2 then (if a2 = (-1) then (if ibd (a1) 4 then (Option.bind (f_X6_become M (Int32.toNatClampNeg (a1)) (a2) (0)) fun r_12 => some ((1, r_12))) else none) else (if a3 ≤ 40 then (if 0 ≤ a3 then (if ibd (a1) 4 then (Option.bind (f_X6_become M (Int32.toNatClampNeg (a1)) (a2) (a3)) fun r_9 => some ((1, r_9))) else none) else some (((-14), M))) else some (((-2), M)))) else some (((-2), M)))))
set_option maxRecDepth 100000 in
set_option maxHeartbeats 4000000 in
theorem c_X10_sheet (l : Launch) {G : GT} {φ : Nat → Nat} {n : Nat} {M : Mem} {a1 : Int32} {a2 : Int32} {a3 : Int32} (hI : wI φ n) (hn : 107 ≤ n) {r : Int32 × Mem} (h : f_X10_sheet M a1 a2 a3 = some r) : CT l yX10_sheet cX10_sheet 5 (some .int) ({ frames := 2, cells := 0, slots := 0, locals := 45 } : Room) [.ref (φ 0), .int (a1), .int (a2), .int (a3)] (WB (cX G φ) φ M n G) (some (.int r.1)) (WB (cX G φ) φ (r.2) n G) φ n := by
  unfold f_X10_sheet at h
  refine r_start (plainFor_of_name (by decide)) (Nat.le_of_ble_eq_true rfl) hI ?_
  intro p e s m args below meth c ls X hr hlk hP hl
  have hS : va_S (wA φ n s.heap.size) s.heap s.heap [] := va_S.rf
  have hx := X.1.1
  have hb := X.1.2.1
  have hl : lv_has ls 5 [(0, .ref (φ 0)), (1, .int (a1)), (2, .int (a2)), (3, .int (a3))] := hl
  refine lv_iload_n hx hb dX10_sheet_0 rfl (lv_at hl 1 rfl) ?_
  refine c_S0 (As := [.int (a1)]) (rest := []) X hl.1 (c_X10_isSheet l X.2.2.2.1.1 hn rfl) (w_X10_226) qw_850 ⟨Nat.le_of_ble_eq_true rfl, Nat.le_of_ble_eq_true rfl⟩ rfl rfl hP hS (Nat.le_of_ble_eq_true rfl) dX10_sheet_1 (fun H locs hP hS => ?_)
  refine lv_if_eq (tgt := 17) hx hb dX10_sheet_4 (by decide) (fun c_1 => ?_) (fun c_1 => ?_)
  · rw [if_pos c_1] at h
    refine lv_bipush (v := (-2)) hx hb dX10_sheet_17 (by decide) ?_
    obtain rfl := Option.some.inj h
    exact W.iret hx hb hr (r_end X hP hS) hS.2.2 dX10_sheet_19 (hlocks := hlk)
  · rw [if_neg c_1] at h
    refine lv_iload_n hx hb dX10_sheet_7 rfl (lv_at hl 2 rfl) ?_
    refine lv_iconst (v := (-1)) hx hb dX10_sheet_8 (by decide) ?_
    refine lv_icmp_lt (tgt := 17) hx hb dX10_sheet_9 (by decide) (fun c_2 => ?_) (fun c_2 => ?_)
    · rw [if_pos c_2] at h
      refine lv_bipush (v := (-2)) hx hb dX10_sheet_17 (by decide) ?_
      obtain rfl := Option.some.inj h
      exact W.iret hx hb hr (r_end X hP hS) hS.2.2 dX10_sheet_19 (hlocks := hlk)
    · rw [if_neg c_2] at h
      refine lv_iload_n hx hb dX10_sheet_12 rfl (lv_at hl 2 rfl) ?_
      refine lv_iconst (v := 2) hx hb dX10_sheet_13 (by decide) ?_
      refine lv_icmp_le (tgt := 20) hx hb dX10_sheet_14 (by decide) (fun c_3 => ?_) (fun c_3 => ?_)
      · rw [if_pos c_3] at h
        refine lv_iload_n hx hb dX10_sheet_20 rfl (lv_at hl 2 rfl) ?_
        refine lv_iconst (v := (-1)) hx hb dX10_sheet_21 (by decide) ?_
        refine lv_icmp_ne (tgt := 29) hx hb dX10_sheet_22 (by decide) (fun c_4 => ?_) (fun c_4 => ?_)
        · rw [if_neg c_4] at h
          refine lv_iload_n hx hb dX10_sheet_29 rfl (lv_at hl 3 rfl) ?_
          refine lv_istore (lv' := [(4, .int (a3)), (0, .ref (φ 0)), (1, .int (a1)), (2, .int (a2)), (3, .int (a3))]) hx hb dX10_sheet_30 hl (by decide) rfl (fun ls hl => ?_)
          refine lv_iload hx hb dX10_sheet_32 (lv_at hl 0 rfl) ?_
          refine lv_bipush (v := 40) hx hb dX10_sheet_34 (by decide) ?_
          refine lv_icmp_le (tgt := 42) hx hb dX10_sheet_36 (by decide) (fun c_5 => ?_) (fun c_5 => ?_)
          · rw [if_pos c_5] at h
            refine lv_iload hx hb dX10_sheet_42 (lv_at hl 0 rfl) ?_
            refine lv_if_ge (tgt := 50) hx hb dX10_sheet_44 (by decide) (fun c_6 => ?_) (fun c_6 => ?_)
            · rw [if_pos c_6] at h
              refine lv_aload_n hx hb dX10_sheet_50 rfl (lv_at hl 1 rfl) ?_
              refine G_X10_48 X.1 hn hP dX10_sheet_51 ?_
              refine lv_iload_n hx hb dX10_sheet_54 rfl (lv_at hl 2 rfl) ?_
              obtain ⟨c_7, h⟩ := og h
              refine r_aald (t0 := 5) (k := (Int32.toNatClampNeg (a1))) X.1 hP rfl rfl (by omega) sX_sheets rfl (vin c_7) dX10_sheet_55 ?_
              have hj_8 : (Int32.toNatClampNeg (a1)) < 4 := ibd_lt c_7
              refine lv_iload_n hx hb dX10_sheet_56 rfl (lv_at hl 3 rfl) ?_
              refine lv_iload hx hb dX10_sheet_57 (lv_at hl 0 rfl) ?_
              obtain ⟨r_9, hr_9, h⟩ := ob h
              refine c_V0 (As := [.int (a2), .int (a3)]) (rest := []) (a := (90 + (Int32.toNatClampNeg (a1)))) X hl.1 (c_X6_become l X.2.2.2.1.1 hn hj_8 hr_9) (w_X10_261) qw_881 qw_882 ⟨Nat.le_of_ble_eq_true rfl, Nat.le_of_ble_eq_true rfl⟩ rfl rfl hP hS (by omega) (sX_Sheet hj_8) rfl rfl (Nat.le_of_ble_eq_true rfl) dX10_sheet_59 (fun H locs hP hS => ?_)
              refine lv_iconst (v := 1) hx hb dX10_sheet_62 (by decide) ?_
              obtain rfl := Option.some.inj h
              exact W.iret hx hb hr (r_end X hP hS) hS.2.2 dX10_sheet_63 (hlocks := hlk)
            · rw [if_neg c_6] at h
              refine lv_bipush (v := (-14)) hx hb dX10_sheet_47 (by decide) ?_
              obtain rfl := Option.some.inj h
              exact W.iret hx hb hr (r_end X hP hS) hS.2.2 dX10_sheet_49 (hlocks := hlk)
          · rw [if_neg c_5] at h
            refine lv_bipush (v := (-2)) hx hb dX10_sheet_39 (by decide) ?_
            obtain rfl := Option.some.inj h
            exact W.iret hx hb hr (r_end X hP hS) hS.2.2 dX10_sheet_41 (hlocks := hlk)
        · rw [if_pos c_4] at h
          refine lv_iconst (v := 0) hx hb dX10_sheet_25 (by decide) ?_
          refine lv_goto (tgt := 30) hx hb dX10_sheet_26 (by decide) ?_
          refine lv_istore (lv' := [(4, .int (0)), (0, .ref (φ 0)), (1, .int (a1)), (2, .int (a2)), (3, .int (a3))]) hx hb dX10_sheet_30 hl (by decide) rfl (fun ls hl => ?_)
          refine lv_iload hx hb dX10_sheet_32 (lv_at hl 0 rfl) ?_
          refine lv_bipush (v := 40) hx hb dX10_sheet_34 (by decide) ?_
          refine lv_icmp_le (tgt := 42) hx hb dX10_sheet_36 (by decide) (fun _ => ?_) (fun c => absurd c (by decide))
          refine lv_iload hx hb dX10_sheet_42 (lv_at hl 0 rfl) ?_
          refine lv_if_ge (tgt := 50) hx hb dX10_sheet_44 (by decide) (fun _ => ?_) (fun c => absurd c (by decide))
          refine lv_aload_n hx hb dX10_sheet_50 rfl (lv_at hl 1 rfl) ?_
          refine G_X10_48 X.1 hn hP dX10_sheet_51 ?_
          refine lv_iload_n hx hb dX10_sheet_54 rfl (lv_at hl 2 rfl) ?_
          obtain ⟨c_10, h⟩ := og h
          refine r_aald (t0 := 5) (k := (Int32.toNatClampNeg (a1))) X.1 hP rfl rfl (by omega) sX_sheets rfl (vin c_10) dX10_sheet_55 ?_
          have hj_11 : (Int32.toNatClampNeg (a1)) < 4 := ibd_lt c_10
          refine lv_iload_n hx hb dX10_sheet_56 rfl (lv_at hl 3 rfl) ?_
          refine lv_iload hx hb dX10_sheet_57 (lv_at hl 0 rfl) ?_
          obtain ⟨r_12, hr_12, h⟩ := ob h
          refine c_V0 (As := [.int (a2), .int (0)]) (rest := []) (a := (90 + (Int32.toNatClampNeg (a1)))) X hl.1 (c_X6_become l X.2.2.2.1.1 hn hj_11 hr_12) (w_X10_261) qw_881 qw_882 ⟨Nat.le_of_ble_eq_true rfl, Nat.le_of_ble_eq_true rfl⟩ rfl rfl hP hS (by omega) (sX_Sheet hj_11) rfl rfl (Nat.le_of_ble_eq_true rfl) dX10_sheet_59 (fun H locs hP hS => ?_)
          refine lv_iconst (v := 1) hx hb dX10_sheet_62 (by decide) ?_
          obtain rfl := Option.some.inj h
          exact W.iret hx hb hr (r_end X hP hS) hS.2.2 dX10_sheet_63 (hlocks := hlk)
      · rw [if_neg c_3] at h
        refine lv_bipush (v := (-2)) hx hb dX10_sheet_17 (by decide) ?_
        obtain rfl := Option.some.inj h
        exact W.iret hx hb hr (r_end X hP hS) hS.2.2 dX10_sheet_19 (hlocks := hlk)

def f_X10_cell (M : Mem) (a1 : Int32) (a2 : Int32) (a3 : Int32) : Option (Int32 × Mem) :=
  (if (f_X10_isSheet (a1)) = 0 then some (((-2), M)) else (if ibd (a1) 4 then (if (f_X6_isMissing M (Int32.toNatClampNeg (a1))) = 0 then (if (f_X6_has M (Int32.toNatClampNeg (a1)) (a2)) = 0 then some (((-12), M)) else (Option.bind (f_X6_put M (Int32.toNatClampNeg (a1)) (a2) (a3)) fun r_6 => some ((1, r_6)))) else some (((-11), M))) else none))
set_option maxRecDepth 100000 in
set_option maxHeartbeats 4000000 in
theorem c_X10_cell (l : Launch) {G : GT} {φ : Nat → Nat} {n : Nat} {M : Mem} {a1 : Int32} {a2 : Int32} {a3 : Int32} (hI : wI φ n) (hn : 107 ≤ n) {r : Int32 × Mem} (h : f_X10_cell M a1 a2 a3 = some r) : CT l yX10_cell cX10_cell 5 (some .int) ({ frames := 1, cells := 0, slots := 0, locals := 22 } : Room) [.ref (φ 0), .int (a1), .int (a2), .int (a3)] (WB (cX G φ) φ M n G) (some (.int r.1)) (WB (cX G φ) φ (r.2) n G) φ n := by
  unfold f_X10_cell at h
  refine r_start (plainFor_of_name (by decide)) (Nat.le_of_ble_eq_true rfl) hI ?_
  intro p e s m args below meth c ls X hr hlk hP hl
  have hS : va_S (wA φ n s.heap.size) s.heap s.heap [] := va_S.rf
  have hx := X.1.1
  have hb := X.1.2.1
  have hl : lv_has ls 5 [(0, .ref (φ 0)), (1, .int (a1)), (2, .int (a2)), (3, .int (a3))] := hl
  refine lv_iload_n hx hb dX10_cell_0 rfl (lv_at hl 1 rfl) ?_
  refine c_S0 (As := [.int (a1)]) (rest := []) X hl.1 (c_X10_isSheet l X.2.2.2.1.1 hn rfl) (w_X10_226) qw_850 ⟨Nat.le_of_ble_eq_true rfl, Nat.le_of_ble_eq_true rfl⟩ rfl rfl hP hS (Nat.le_of_ble_eq_true rfl) dX10_cell_1 (fun H locs hP hS => ?_)
  refine lv_if_ne (tgt := 10) hx hb dX10_cell_4 (by decide) (fun c_1 => ?_) (fun c_1 => ?_)
  · rw [if_neg c_1] at h
    refine lv_aload_n hx hb dX10_cell_10 rfl (lv_at hl 0 rfl) ?_
    refine G_X10_48 X.1 hn hP dX10_cell_11 ?_
    refine lv_iload_n hx hb dX10_cell_14 rfl (lv_at hl 1 rfl) ?_
    obtain ⟨c_2, h⟩ := og h
    refine r_aald (t0 := 5) (k := (Int32.toNatClampNeg (a1))) X.1 hP rfl rfl (by omega) sX_sheets rfl (vin c_2) dX10_cell_15 ?_
    have hj_3 : (Int32.toNatClampNeg (a1)) < 4 := ibd_lt c_2
    refine lv_astore (lv' := [(4, .ref (φ (90 + (Int32.toNatClampNeg (a1))))), (0, .ref (φ 0)), (1, .int (a1)), (2, .int (a2)), (3, .int (a3))]) hx hb dX10_cell_16 hl (by decide) rfl (fun ls hl => ?_)
    refine lv_aload hx hb dX10_cell_18 (lv_at hl 0 rfl) ?_
    refine c_V0 (As := []) (rest := []) (a := (90 + (Int32.toNatClampNeg (a1)))) X hl.1 (c_X6_isMissing l X.2.2.2.1.1 hn hj_3 rfl) (w_X10_229) qw_853 qw_854 ⟨Nat.le_of_ble_eq_true rfl, Nat.le_of_ble_eq_true rfl⟩ rfl rfl hP hS (by omega) (sX_Sheet hj_3) rfl rfl (Nat.le_of_ble_eq_true rfl) dX10_cell_20 (fun H locs hP hS => ?_)
    refine lv_if_eq (tgt := 29) hx hb dX10_cell_23 (by decide) (fun c_4 => ?_) (fun c_4 => ?_)
    · rw [if_pos c_4] at h
      refine lv_aload hx hb dX10_cell_29 (lv_at hl 0 rfl) ?_
      refine lv_iload_n hx hb dX10_cell_31 rfl (lv_at hl 3 rfl) ?_
      refine c_V0 (As := [.int (a2)]) (rest := []) (a := (90 + (Int32.toNatClampNeg (a1)))) X hl.1 (c_X6_has l X.2.2.2.1.1 hn hj_3 rfl) (w_X10_265) qw_890 qw_891 ⟨Nat.le_of_ble_eq_true rfl, Nat.le_of_ble_eq_true rfl⟩ rfl rfl hP hS (by omega) (sX_Sheet hj_3) rfl rfl (Nat.le_of_ble_eq_true rfl) dX10_cell_32 (fun H locs hP hS => ?_)
      refine lv_if_ne (tgt := 41) hx hb dX10_cell_35 (by decide) (fun c_5 => ?_) (fun c_5 => ?_)
      · rw [if_neg c_5] at h
        refine lv_aload hx hb dX10_cell_41 (lv_at hl 0 rfl) ?_
        refine lv_iload_n hx hb dX10_cell_43 rfl (lv_at hl 3 rfl) ?_
        refine lv_iload_n hx hb dX10_cell_44 rfl (lv_at hl 4 rfl) ?_
        obtain ⟨r_6, hr_6, h⟩ := ob h
        refine c_V0 (As := [.int (a2), .int (a3)]) (rest := []) (a := (90 + (Int32.toNatClampNeg (a1)))) X hl.1 (c_X6_put l X.2.2.2.1.1 hn hj_3 hr_6) (w_X10_268) qw_894 qw_895 ⟨Nat.le_of_ble_eq_true rfl, Nat.le_of_ble_eq_true rfl⟩ rfl rfl hP hS (by omega) (sX_Sheet hj_3) rfl rfl (Nat.le_of_ble_eq_true rfl) dX10_cell_45 (fun H locs hP hS => ?_)
        refine lv_iconst (v := 1) hx hb dX10_cell_48 (by decide) ?_
        obtain rfl := Option.some.inj h
        exact W.iret hx hb hr (r_end X hP hS) hS.2.2 dX10_cell_49 (hlocks := hlk)
      · rw [if_pos c_5] at h
        refine lv_bipush (v := (-12)) hx hb dX10_cell_38 (by decide) ?_
        obtain rfl := Option.some.inj h
        exact W.iret hx hb hr (r_end X hP hS) hS.2.2 dX10_cell_40 (hlocks := hlk)
    · rw [if_neg c_4] at h
      refine lv_bipush (v := (-11)) hx hb dX10_cell_26 (by decide) ?_
      obtain rfl := Option.some.inj h
      exact W.iret hx hb hr (r_end X hP hS) hS.2.2 dX10_cell_28 (hlocks := hlk)
  · rw [if_pos c_1] at h
    refine lv_bipush (v := (-2)) hx hb dX10_cell_7 (by decide) ?_
    obtain rfl := Option.some.inj h
    exact W.iret hx hb hr (r_end X hP hS) hS.2.2 dX10_cell_9 (hlocks := hlk)

def f_X10_copy (M : Mem) (a1 : Int32) (a2 : Int32) (a3 : Int32) (a4 : Int32) (a5 : Int32) : Option (Int32 × Mem) :=
  (if (f_X10_isSheet (a1)) = 0 then some (((-2), M)) else (if (f_X10_isSheet (a3)) = 0 then some (((-2), M)) else (if ibd (a1) 4 then (if ibd (a3) 4 then (if (f_X6_isMissing M (Int32.toNatClampNeg (a1))) = 0 then (if (f_X6_isMissing M (Int32.toNatClampNeg (a3))) = 0 then (if (M (90 + (Int32.toNatClampNeg (a1))) 1) = (M (90 + (Int32.toNatClampNeg (a3))) 1) then (if (f_X6_hasRun M (Int32.toNatClampNeg (a1)) (a2) (a5)) = 0 then some (((-12), M)) else (if (f_X6_hasRun M (Int32.toNatClampNeg (a3)) (a4) (a5)) = 0 then some (((-12), M)) else (if ¬ a2 < 0 then (if ¬ a4 < 0 then (if ¬ a5 < 0 then (if Int32.toNatClampNeg (a2) + Int32.toNatClampNeg (a5) ≤ 40 then (if Int32.toNatClampNeg (a4) + Int32.toNatClampNeg (a5) ≤ 40 then some ((a5, (cpy2 M (94 + (Int32.toNatClampNeg (a1))) (94 + (Int32.toNatClampNeg (a3))) (Int32.toNatClampNeg (a2)) (Int32.toNatClampNeg (a4)) (Int32.toNatClampNeg (a5))))) else none) else none) else none) else none) else none))) else some (((-13), M))) else some (((-11), M))) else some (((-11), M))) else none) else none)))
set_option maxRecDepth 100000 in
set_option maxHeartbeats 4000000 in
theorem c_X10_copy (l : Launch) {G : GT} {φ : Nat → Nat} {n : Nat} {M : Mem} {a1 : Int32} {a2 : Int32} {a3 : Int32} {a4 : Int32} {a5 : Int32} (hI : wI φ n) (hn : 107 ≤ n) {r : Int32 × Mem} (h : f_X10_copy M a1 a2 a3 a4 a5 = some r) : CT l yX10_copy cX10_copy 8 (some .int) ({ frames := 1, cells := 0, slots := 0, locals := 80 } : Room) [.ref (φ 0), .int (a1), .int (a2), .int (a3), .int (a4), .int (a5)] (WB (cX G φ) φ M n G) (some (.int r.1)) (WB (cX G φ) φ (r.2) n G) φ n := by
  unfold f_X10_copy at h
  refine r_start (plainFor_of_name (by decide)) (Nat.le_of_ble_eq_true rfl) hI ?_
  intro p e s m args below meth c ls X hr hlk hP hl
  have hS : va_S (wA φ n s.heap.size) s.heap s.heap [] := va_S.rf
  have hx := X.1.1
  have hb := X.1.2.1
  have hl : lv_has ls 8 [(0, .ref (φ 0)), (1, .int (a1)), (2, .int (a2)), (3, .int (a3)), (4, .int (a4)), (5, .int (a5))] := hl
  refine lv_iload_n hx hb dX10_copy_0 rfl (lv_at hl 1 rfl) ?_
  refine c_S0 (As := [.int (a1)]) (rest := []) X hl.1 (c_X10_isSheet l X.2.2.2.1.1 hn rfl) (w_X10_226) qw_850 ⟨Nat.le_of_ble_eq_true rfl, Nat.le_of_ble_eq_true rfl⟩ rfl rfl hP hS (Nat.le_of_ble_eq_true rfl) dX10_copy_1 (fun H locs hP hS => ?_)
  refine lv_if_eq (tgt := 14) hx hb dX10_copy_4 (by decide) (fun c_1 => ?_) (fun c_1 => ?_)
  · rw [if_pos c_1] at h
    refine lv_bipush (v := (-2)) hx hb dX10_copy_14 (by decide) ?_
    obtain rfl := Option.some.inj h
    exact W.iret hx hb hr (r_end X hP hS) hS.2.2 dX10_copy_16 (hlocks := hlk)
  · rw [if_neg c_1] at h
    refine lv_iload_n hx hb dX10_copy_7 rfl (lv_at hl 3 rfl) ?_
    refine c_S0 (As := [.int (a3)]) (rest := []) X hl.1 (c_X10_isSheet l X.2.2.2.1.1 hn rfl) (w_X10_226) qw_850 ⟨Nat.le_of_ble_eq_true rfl, Nat.le_of_ble_eq_true rfl⟩ rfl rfl hP hS (Nat.le_of_ble_eq_true rfl) dX10_copy_8 (fun H locs hP hS => ?_)
    refine lv_if_ne (tgt := 17) hx hb dX10_copy_11 (by decide) (fun c_2 => ?_) (fun c_2 => ?_)
    · rw [if_neg c_2] at h
      refine lv_aload_n hx hb dX10_copy_17 rfl (lv_at hl 0 rfl) ?_
      refine G_X10_48 X.1 hn hP dX10_copy_18 ?_
      refine lv_iload_n hx hb dX10_copy_21 rfl (lv_at hl 1 rfl) ?_
      obtain ⟨c_3, h⟩ := og h
      refine r_aald (t0 := 5) (k := (Int32.toNatClampNeg (a1))) X.1 hP rfl rfl (by omega) sX_sheets rfl (vin c_3) dX10_copy_22 ?_
      have hj_4 : (Int32.toNatClampNeg (a1)) < 4 := ibd_lt c_3
      refine lv_astore (lv' := [(6, .ref (φ (90 + (Int32.toNatClampNeg (a1))))), (0, .ref (φ 0)), (1, .int (a1)), (2, .int (a2)), (3, .int (a3)), (4, .int (a4)), (5, .int (a5))]) hx hb dX10_copy_23 hl (by decide) rfl (fun ls hl => ?_)
      refine lv_aload_n hx hb dX10_copy_25 rfl (lv_at hl 1 rfl) ?_
      refine G_X10_48 X.1 hn hP dX10_copy_26 ?_
      refine lv_iload_n hx hb dX10_copy_29 rfl (lv_at hl 4 rfl) ?_
      obtain ⟨c_5, h⟩ := og h
      refine r_aald (t0 := 5) (k := (Int32.toNatClampNeg (a3))) X.1 hP rfl rfl (by omega) sX_sheets rfl (vin c_5) dX10_copy_30 ?_
      have hj_6 : (Int32.toNatClampNeg (a3)) < 4 := ibd_lt c_5
      refine lv_astore (lv' := [(7, .ref (φ (90 + (Int32.toNatClampNeg (a3))))), (6, .ref (φ (90 + (Int32.toNatClampNeg (a1))))), (0, .ref (φ 0)), (1, .int (a1)), (2, .int (a2)), (3, .int (a3)), (4, .int (a4)), (5, .int (a5))]) hx hb dX10_copy_31 hl (by decide) rfl (fun ls hl => ?_)
      refine lv_aload hx hb dX10_copy_33 (lv_at hl 1 rfl) ?_
      refine c_V0 (As := []) (rest := []) (a := (90 + (Int32.toNatClampNeg (a1)))) X hl.1 (c_X6_isMissing l X.2.2.2.1.1 hn hj_4 rfl) (w_X10_229) qw_853 qw_854 ⟨Nat.le_of_ble_eq_true rfl, Nat.le_of_ble_eq_true rfl⟩ rfl rfl hP hS (by omega) (sX_Sheet hj_4) rfl rfl (Nat.le_of_ble_eq_true rfl) dX10_copy_35 (fun H locs hP hS => ?_)
      refine lv_if_ne (tgt := 49) hx hb dX10_copy_38 (by decide) (fun c_7 => ?_) (fun c_7 => ?_)
      · rw [if_neg c_7] at h
        refine lv_bipush (v := (-11)) hx hb dX10_copy_49 (by decide) ?_
        obtain rfl := Option.some.inj h
        exact W.iret hx hb hr (r_end X hP hS) hS.2.2 dX10_copy_51 (hlocks := hlk)
      · rw [if_pos c_7] at h
        refine lv_aload hx hb dX10_copy_41 (lv_at hl 0 rfl) ?_
        refine c_V0 (As := []) (rest := []) (a := (90 + (Int32.toNatClampNeg (a3)))) X hl.1 (c_X6_isMissing l X.2.2.2.1.1 hn hj_6 rfl) (w_X10_229) qw_853 qw_854 ⟨Nat.le_of_ble_eq_true rfl, Nat.le_of_ble_eq_true rfl⟩ rfl rfl hP hS (by omega) (sX_Sheet hj_6) rfl rfl (Nat.le_of_ble_eq_true rfl) dX10_copy_43 (fun H locs hP hS => ?_)
        refine lv_if_eq (tgt := 52) hx hb dX10_copy_46 (by decide) (fun c_8 => ?_) (fun c_8 => ?_)
        · rw [if_pos c_8] at h
          refine lv_aload hx hb dX10_copy_52 (lv_at hl 1 rfl) ?_
          refine G_X10_271 X.1 hn hP hj_4 dX10_copy_54 ?_
          refine lv_aload hx hb dX10_copy_57 (lv_at hl 0 rfl) ?_
          refine G_X10_271 X.1 hn hP hj_6 dX10_copy_59 ?_
          refine lv_icmp_eq (tgt := 68) hx hb dX10_copy_62 (by decide) (fun c_9 => ?_) (fun c_9 => ?_)
          · rw [if_pos c_9] at h
            refine lv_aload hx hb dX10_copy_68 (lv_at hl 1 rfl) ?_
            refine lv_iload_n hx hb dX10_copy_70 rfl (lv_at hl 4 rfl) ?_
            refine lv_iload hx hb dX10_copy_71 (lv_at hl 7 rfl) ?_
            refine c_V0 (As := [.int (a2), .int (a5)]) (rest := []) (a := (90 + (Int32.toNatClampNeg (a1)))) X hl.1 (c_X6_hasRun l X.2.2.2.1.1 hn hj_4 rfl) (w_X10_274) qw_902 qw_903 ⟨Nat.le_of_ble_eq_true rfl, Nat.le_of_ble_eq_true rfl⟩ rfl rfl hP hS (by omega) (sX_Sheet hj_4) rfl rfl (Nat.le_of_ble_eq_true rfl) dX10_copy_73 (fun H locs hP hS => ?_)
            refine lv_if_eq (tgt := 91) hx hb dX10_copy_76 (by decide) (fun c_10 => ?_) (fun c_10 => ?_)
            · rw [if_pos c_10] at h
              refine lv_bipush (v := (-12)) hx hb dX10_copy_91 (by decide) ?_
              obtain rfl := Option.some.inj h
              exact W.iret hx hb hr (r_end X hP hS) hS.2.2 dX10_copy_93 (hlocks := hlk)
            · rw [if_neg c_10] at h
              refine lv_aload hx hb dX10_copy_79 (lv_at hl 0 rfl) ?_
              refine lv_iload hx hb dX10_copy_81 (lv_at hl 6 rfl) ?_
              refine lv_iload hx hb dX10_copy_83 (lv_at hl 7 rfl) ?_
              refine c_V0 (As := [.int (a4), .int (a5)]) (rest := []) (a := (90 + (Int32.toNatClampNeg (a3)))) X hl.1 (c_X6_hasRun l X.2.2.2.1.1 hn hj_6 rfl) (w_X10_274) qw_902 qw_903 ⟨Nat.le_of_ble_eq_true rfl, Nat.le_of_ble_eq_true rfl⟩ rfl rfl hP hS (by omega) (sX_Sheet hj_6) rfl rfl (Nat.le_of_ble_eq_true rfl) dX10_copy_85 (fun H locs hP hS => ?_)
              refine lv_if_ne (tgt := 94) hx hb dX10_copy_88 (by decide) (fun c_11 => ?_) (fun c_11 => ?_)
              · rw [if_neg c_11] at h
                refine lv_aload hx hb dX10_copy_94 (lv_at hl 1 rfl) ?_
                refine G_X10_234 X.1 hn hP hj_4 dX10_copy_96 ?_
                refine lv_iload_n hx hb dX10_copy_99 rfl (lv_at hl 4 rfl) ?_
                refine lv_aload hx hb dX10_copy_100 (lv_at hl 0 rfl) ?_
                refine G_X10_234 X.1 hn hP hj_6 dX10_copy_102 ?_
                refine lv_iload hx hb dX10_copy_105 (lv_at hl 6 rfl) ?_
                refine lv_iload hx hb dX10_copy_107 (lv_at hl 7 rfl) ?_
                obtain ⟨c_12, h⟩ := og h
                obtain ⟨c_13, h⟩ := og h
                obtain ⟨c_14, h⟩ := og h
                obtain ⟨c_15, h⟩ := og h
                obtain ⟨c_16, h⟩ := og h
                refine r_copy X.1 X.2.1 hl.1 (X.1.2.2.2.1 _ qw_865) (X.1.2.2.2.1 _ qw_867) (X.1.2.2.2.1 _ qw_866) (X.1.2.2.2.1 _ qw_80) X.2.2.2.1 hP hS (by omega) (by omega) (sX_cells hj_4) (sX_cells hj_6) c_12 c_13 c_14 c_15 c_16 (by decide) (by decide) dX10_copy_109 (fun H locs hP hS => ?_)
                refine lv_iload hx hb dX10_copy_112 (lv_at hl 7 rfl) ?_
                obtain rfl := Option.some.inj h
                exact W.iret hx hb hr (r_end X hP hS) hS.2.2 dX10_copy_114 (hlocks := hlk)
              · rw [if_pos c_11] at h
                refine lv_bipush (v := (-12)) hx hb dX10_copy_91 (by decide) ?_
                obtain rfl := Option.some.inj h
                exact W.iret hx hb hr (r_end X hP hS) hS.2.2 dX10_copy_93 (hlocks := hlk)
          · rw [if_neg c_9] at h
            refine lv_bipush (v := (-13)) hx hb dX10_copy_65 (by decide) ?_
            obtain rfl := Option.some.inj h
            exact W.iret hx hb hr (r_end X hP hS) hS.2.2 dX10_copy_67 (hlocks := hlk)
        · rw [if_neg c_8] at h
          refine lv_bipush (v := (-11)) hx hb dX10_copy_49 (by decide) ?_
          obtain rfl := Option.some.inj h
          exact W.iret hx hb hr (r_end X hP hS) hS.2.2 dX10_copy_51 (hlocks := hlk)
    · rw [if_pos c_2] at h
      refine lv_bipush (v := (-2)) hx hb dX10_copy_14 (by decide) ?_
      obtain rfl := Option.some.inj h
      exact W.iret hx hb hr (r_end X hP hS) hS.2.2 dX10_copy_16 (hlocks := hlk)

def f_X10_notes_76 (x3_10 : Int32) (x4_11 : Int32) (j5_12 : Nat) : Nat → Int32 → Int32 → Mem → Option (Int32 × Mem)
  | 0, _, _, _ => none
  | fu_17 + 1, x6_14, x7_15, M_16 => (if x4_11 ≤ x7_15 then some ((x6_14, M_16)) else (if (f_X6_has M_16 j5_12 ((x3_10 + (3 * x7_15)))) = 0 then some (((-12), M_16)) else (if (f_X6_has M_16 j5_12 (((x3_10 + (3 * x7_15)) + 2))) = 0 then some (((-12), M_16)) else (if ibd ((x3_10 + (3 * x7_15))) 40 then (if ibd (((x3_10 + (3 * x7_15)) + 1)) 40 then (if ibd (((x3_10 + (3 * x7_15)) + 2)) 40 then (Option.bind (f_X10_addSlip M_16 ((M_16 (94 + j5_12) (Int32.toNatClampNeg ((x3_10 + (3 * x7_15)))))) ((M_16 (94 + j5_12) (Int32.toNatClampNeg (((x3_10 + (3 * x7_15)) + 1))))) ((M_16 (94 + j5_12) (Int32.toNatClampNeg (((x3_10 + (3 * x7_15)) + 2)))))) fun r_24 => (if r_24.1 < 0 then (f_X10_notes_76 x3_10 x4_11 j5_12 fu_17 (x6_14) ((x7_15 + 1)) r_24.2) else (f_X10_notes_76 x3_10 x4_11 j5_12 fu_17 ((x6_14 + 1)) ((x7_15 + 1)) r_24.2))) else none) else none) else none))))
def f_X10_notes (M : Mem) (a1 : Int32) (a2 : Int32) (a3 : Int32) (a4 : Int32) : Option (Int32 × Mem) :=
  (if (f_X10_isSheet (a1)) = 0 then some (((-2), M)) else (if a2 < 0 then some (((-2), M)) else (if 2 < a2 then some (((-2), M)) else (if a4 < 0 then some (((-2), M)) else (if a4 ≤ 10 then (if ibd (a1) 4 then (if (f_X6_isMissing M (Int32.toNatClampNeg (a1))) = 0 then (if (M (90 + (Int32.toNatClampNeg (a1))) 1) = a2 then (f_X10_notes_76 (a3) (a4) (Int32.toNatClampNeg (a1)) FU (0) (0) (upd2 M 5 0 (1))) else some (((-13), M))) else some (((-11), M))) else none) else some (((-2), M)))))))
set_option maxRecDepth 100000 in
set_option maxHeartbeats 4000000 in
theorem c_X10_notes (l : Launch) {G : GT} {φ : Nat → Nat} {n : Nat} {M : Mem} {a1 : Int32} {a2 : Int32} {a3 : Int32} {a4 : Int32} (hI : wI φ n) (hn : 107 ≤ n) {r : Int32 × Mem} (h : f_X10_notes M a1 a2 a3 a4 = some r) : CT l yX10_notes cX10_notes 9 (some .int) ({ frames := 5, cells := 0, slots := 0, locals := 114 } : Room) [.ref (φ 0), .int (a1), .int (a2), .int (a3), .int (a4)] (WB (cX G φ) φ M n G) (some (.int r.1)) (WB (cX G φ) φ (r.2) n G) φ n := by
  unfold f_X10_notes at h
  refine r_start (plainFor_of_name (by decide)) (Nat.le_of_ble_eq_true rfl) hI ?_
  intro p e s m args below meth c ls X hr hlk hP hl
  have hS : va_S (wA φ n s.heap.size) s.heap s.heap [] := va_S.rf
  have hx := X.1.1
  have hb := X.1.2.1
  have hl : lv_has ls 9 [(0, .ref (φ 0)), (1, .int (a1)), (2, .int (a2)), (3, .int (a3)), (4, .int (a4))] := hl
  have L76 : ∀ (fu_17 : Nat) (M_16 : Mem) (x3_10 : Int32) (x4_11 : Int32) (j5_12 : Nat) (x6_14 : Int32) (x7_15 : Int32)  (H : Heap) (locs : List Loc) (ls : Array Slot) (hj_13 : j5_12 < 4), va_P G.1 vwCl (wW (cX G φ) φ M_16 n) H → va_S (wA φ n s.heap.size) s.heap H locs → lv_has ls 9 [(0, .ref (φ 0)), (3, .int (x3_10)), (4, .int (x4_11)), (5, .ref (φ (90 + j5_12))), (6, .int (x6_14)), (7, .int (x7_15))] → f_X10_notes_76 x3_10 x4_11 j5_12 fu_17 x6_14 x7_15 M_16 = some r → W p l e ({ frames := 5, cells := 0, slots := 0, locals := 114 } : Room) s m args below meth c H locs 0 0 (MQ below (QQ (some (.int r.1)) (WB (cX G φ) φ (r.2) n G) (wA φ n s.heap.size)) args s 0 0 (wA φ n s.heap.size)) (F0 m 76 ls []) := by
    intro fu_17
    induction fu_17 with
    | zero =>
      intro M_16 x3_10 x4_11 j5_12 x6_14 x7_15 H locs ls hj_13 _ _ _  h
      have h : (none : Option (Int32 × Mem)) = some r := h
      cases h
    | succ fu_17 ih =>
      intro M_16 x3_10 x4_11 j5_12 x6_14 x7_15 H locs ls hj_13 hP hS hl  h
      rw [f_X10_notes_76] at h
      refine lv_iload hx hb dX10_notes_76 (lv_at hl 5 rfl) ?_
      refine lv_iload hx hb dX10_notes_78 (lv_at hl 2 rfl) ?_
      refine lv_icmp_ge (tgt := 160) hx hb dX10_notes_80 (by decide) (fun c_18 => ?_) (fun c_18 => ?_)
      · rw [if_pos c_18] at h
        refine lv_iload hx hb dX10_notes_160 (lv_at hl 4 rfl) ?_
        obtain rfl := Option.some.inj h
        exact W.iret hx hb hr (r_end X hP hS) hS.2.2 dX10_notes_162 (hlocks := hlk)
      · rw [if_neg c_18] at h
        refine lv_iload_n hx hb dX10_notes_83 rfl (lv_at hl 1 rfl) ?_
        refine lv_iconst (v := 3) hx hb dX10_notes_84 (by decide) ?_
        refine lv_iload hx hb dX10_notes_85 (lv_at hl 5 rfl) ?_
        refine lv_imul hx hb dX10_notes_87 ?_
        refine lv_iadd hx hb dX10_notes_88 ?_
        refine lv_istore (lv' := [(8, .int ((x3_10 + (3 * x7_15)))), (0, .ref (φ 0)), (3, .int (x3_10)), (4, .int (x4_11)), (5, .ref (φ (90 + j5_12))), (6, .int (x6_14)), (7, .int (x7_15))]) hx hb dX10_notes_89 hl (by decide) rfl (fun ls hl => ?_)
        refine lv_aload hx hb dX10_notes_91 (lv_at hl 4 rfl) ?_
        refine lv_iload hx hb dX10_notes_93 (lv_at hl 0 rfl) ?_
        refine c_V0 (As := [.int ((x3_10 + (3 * x7_15)))]) (rest := []) (a := (90 + j5_12)) X hl.1 (c_X6_has l X.2.2.2.1.1 hn hj_13 rfl) (w_X10_265) qw_890 qw_891 ⟨Nat.le_of_ble_eq_true rfl, Nat.le_of_ble_eq_true rfl⟩ rfl rfl hP hS (by omega) (sX_Sheet hj_13) rfl rfl (Nat.le_of_ble_eq_true rfl) dX10_notes_95 (fun H locs hP hS => ?_)
        refine lv_if_eq (tgt := 113) hx hb dX10_notes_98 (by decide) (fun c_19 => ?_) (fun c_19 => ?_)
        · rw [if_pos c_19] at h
          refine lv_bipush (v := (-12)) hx hb dX10_notes_113 (by decide) ?_
          obtain rfl := Option.some.inj h
          exact W.iret hx hb hr (r_end X hP hS) hS.2.2 dX10_notes_115 (hlocks := hlk)
        · rw [if_neg c_19] at h
          refine lv_aload hx hb dX10_notes_101 (lv_at hl 4 rfl) ?_
          refine lv_iload hx hb dX10_notes_103 (lv_at hl 0 rfl) ?_
          refine lv_iconst (v := 2) hx hb dX10_notes_105 (by decide) ?_
          refine lv_iadd hx hb dX10_notes_106 ?_
          refine c_V0 (As := [.int (((x3_10 + (3 * x7_15)) + 2))]) (rest := []) (a := (90 + j5_12)) X hl.1 (c_X6_has l X.2.2.2.1.1 hn hj_13 rfl) (w_X10_265) qw_890 qw_891 ⟨Nat.le_of_ble_eq_true rfl, Nat.le_of_ble_eq_true rfl⟩ rfl rfl hP hS (by omega) (sX_Sheet hj_13) rfl rfl (Nat.le_of_ble_eq_true rfl) dX10_notes_107 (fun H locs hP hS => ?_)
          refine lv_if_ne (tgt := 116) hx hb dX10_notes_110 (by decide) (fun c_20 => ?_) (fun c_20 => ?_)
          · rw [if_neg c_20] at h
            refine lv_aload_n hx hb dX10_notes_116 rfl (lv_at hl 1 rfl) ?_
            refine lv_aload hx hb dX10_notes_117 (lv_at hl 4 rfl) ?_
            refine G_X10_234 X.1 hn hP hj_13 dX10_notes_119 ?_
            refine lv_iload hx hb dX10_notes_122 (lv_at hl 0 rfl) ?_
            obtain ⟨c_21, h⟩ := og h
            refine r_iald (k := (Int32.toNatClampNeg ((x3_10 + (3 * x7_15))))) X.1 hP (by omega) (sX_cells hj_13) rfl (vin c_21) dX10_notes_124 ?_
            refine lv_aload hx hb dX10_notes_125 (lv_at hl 4 rfl) ?_
            refine G_X10_234 X.1 hn hP hj_13 dX10_notes_127 ?_
            refine lv_iload hx hb dX10_notes_130 (lv_at hl 0 rfl) ?_
            refine lv_iconst (v := 1) hx hb dX10_notes_132 (by decide) ?_
            refine lv_iadd hx hb dX10_notes_133 ?_
            obtain ⟨c_22, h⟩ := og h
            refine r_iald (k := (Int32.toNatClampNeg (((x3_10 + (3 * x7_15)) + 1)))) X.1 hP (by omega) (sX_cells hj_13) rfl (vin c_22) dX10_notes_134 ?_
            refine lv_aload hx hb dX10_notes_135 (lv_at hl 4 rfl) ?_
            refine G_X10_234 X.1 hn hP hj_13 dX10_notes_137 ?_
            refine lv_iload hx hb dX10_notes_140 (lv_at hl 0 rfl) ?_
            refine lv_iconst (v := 2) hx hb dX10_notes_142 (by decide) ?_
            refine lv_iadd hx hb dX10_notes_143 ?_
            obtain ⟨c_23, h⟩ := og h
            refine r_iald (k := (Int32.toNatClampNeg (((x3_10 + (3 * x7_15)) + 2)))) X.1 hP (by omega) (sX_cells hj_13) rfl (vin c_23) dX10_notes_144 ?_
            obtain ⟨r_24, hr_24, h⟩ := ob h
            refine c_V0 (As := [.int ((M_16 (94 + j5_12) (Int32.toNatClampNeg ((x3_10 + (3 * x7_15)))))), .int ((M_16 (94 + j5_12) (Int32.toNatClampNeg (((x3_10 + (3 * x7_15)) + 1))))), .int ((M_16 (94 + j5_12) (Int32.toNatClampNeg (((x3_10 + (3 * x7_15)) + 2)))))]) (rest := []) (a := 0) X hl.1 (c_X10_addSlip l X.2.2.2.1.1 hn hr_24) (w_X10_97) qw_604 qw_17 ⟨Nat.le_of_ble_eq_true rfl, Nat.le_of_ble_eq_true rfl⟩ rfl rfl hP hS (by omega) sX_KT rfl rfl (Nat.le_of_ble_eq_true rfl) dX10_notes_145 (fun H locs hP hS => ?_)
            refine lv_if_lt (tgt := 154) hx hb dX10_notes_148 (by decide) (fun c_25 => ?_) (fun c_25 => ?_)
            · rw [if_pos c_25] at h
              refine lv_iinc (v := (x7_15 + 1)) (lv' := [(7, .int ((x7_15 + 1))), (8, .int ((x3_10 + (3 * x7_15)))), (0, .ref (φ 0)), (3, .int (x3_10)), (4, .int (x4_11)), (5, .ref (φ (90 + j5_12))), (6, .int (x6_14))]) hx hb dX10_notes_154 hl (k := 6) rfl (by rw [show Int32.ofInt (1) = 1 from by decide]) (by decide) rfl (fun ls hl => ?_)
              refine lv_goto (tgt := 76) hx hb dX10_notes_157 (by decide) ?_
              exact ih _ _ _ _ _ _ _ _ _ hj_13 hP hS (lv_sub hl [2, 3, 4, 5, 6, 0] rfl)  h
            · rw [if_neg c_25] at h
              refine lv_iinc (v := (x6_14 + 1)) (lv' := [(6, .int ((x6_14 + 1))), (8, .int ((x3_10 + (3 * x7_15)))), (0, .ref (φ 0)), (3, .int (x3_10)), (4, .int (x4_11)), (5, .ref (φ (90 + j5_12))), (7, .int (x7_15))]) hx hb dX10_notes_151 hl (k := 5) rfl (by rw [show Int32.ofInt (1) = 1 from by decide]) (by decide) rfl (fun ls hl => ?_)
              refine lv_iinc (v := (x7_15 + 1)) (lv' := [(7, .int ((x7_15 + 1))), (6, .int ((x6_14 + 1))), (8, .int ((x3_10 + (3 * x7_15)))), (0, .ref (φ 0)), (3, .int (x3_10)), (4, .int (x4_11)), (5, .ref (φ (90 + j5_12)))]) hx hb dX10_notes_154 hl (k := 6) rfl (by rw [show Int32.ofInt (1) = 1 from by decide]) (by decide) rfl (fun ls hl => ?_)
              refine lv_goto (tgt := 76) hx hb dX10_notes_157 (by decide) ?_
              exact ih _ _ _ _ _ _ _ _ _ hj_13 hP hS (lv_sub hl [3, 4, 5, 6, 1, 0] rfl)  h
          · rw [if_pos c_20] at h
            refine lv_bipush (v := (-12)) hx hb dX10_notes_113 (by decide) ?_
            obtain rfl := Option.some.inj h
            exact W.iret hx hb hr (r_end X hP hS) hS.2.2 dX10_notes_115 (hlocks := hlk)
  refine lv_iload_n hx hb dX10_notes_0 rfl (lv_at hl 1 rfl) ?_
  refine c_S0 (As := [.int (a1)]) (rest := []) X hl.1 (c_X10_isSheet l X.2.2.2.1.1 hn rfl) (w_X10_226) qw_850 ⟨Nat.le_of_ble_eq_true rfl, Nat.le_of_ble_eq_true rfl⟩ rfl rfl hP hS (Nat.le_of_ble_eq_true rfl) dX10_notes_1 (fun H locs hP hS => ?_)
  refine lv_if_eq (tgt := 28) hx hb dX10_notes_4 (by decide) (fun c_1 => ?_) (fun c_1 => ?_)
  · rw [if_pos c_1] at h
    refine lv_bipush (v := (-2)) hx hb dX10_notes_28 (by decide) ?_
    obtain rfl := Option.some.inj h
    exact W.iret hx hb hr (r_end X hP hS) hS.2.2 dX10_notes_30 (hlocks := hlk)
  · rw [if_neg c_1] at h
    refine lv_iload_n hx hb dX10_notes_7 rfl (lv_at hl 2 rfl) ?_
    refine lv_if_lt (tgt := 28) hx hb dX10_notes_8 (by decide) (fun c_2 => ?_) (fun c_2 => ?_)
    · rw [if_pos c_2] at h
      refine lv_bipush (v := (-2)) hx hb dX10_notes_28 (by decide) ?_
      obtain rfl := Option.some.inj h
      exact W.iret hx hb hr (r_end X hP hS) hS.2.2 dX10_notes_30 (hlocks := hlk)
    · rw [if_neg c_2] at h
      refine lv_iload_n hx hb dX10_notes_11 rfl (lv_at hl 2 rfl) ?_
      refine lv_iconst (v := 2) hx hb dX10_notes_12 (by decide) ?_
      refine lv_icmp_gt (tgt := 28) hx hb dX10_notes_13 (by decide) (fun c_3 => ?_) (fun c_3 => ?_)
      · rw [if_pos c_3] at h
        refine lv_bipush (v := (-2)) hx hb dX10_notes_28 (by decide) ?_
        obtain rfl := Option.some.inj h
        exact W.iret hx hb hr (r_end X hP hS) hS.2.2 dX10_notes_30 (hlocks := hlk)
      · rw [if_neg c_3] at h
        refine lv_iload hx hb dX10_notes_16 (lv_at hl 4 rfl) ?_
        refine lv_if_lt (tgt := 28) hx hb dX10_notes_18 (by decide) (fun c_4 => ?_) (fun c_4 => ?_)
        · rw [if_pos c_4] at h
          refine lv_bipush (v := (-2)) hx hb dX10_notes_28 (by decide) ?_
          obtain rfl := Option.some.inj h
          exact W.iret hx hb hr (r_end X hP hS) hS.2.2 dX10_notes_30 (hlocks := hlk)
        · rw [if_neg c_4] at h
          refine lv_iload hx hb dX10_notes_21 (lv_at hl 4 rfl) ?_
          refine lv_bipush (v := 10) hx hb dX10_notes_23 (by decide) ?_
          refine lv_icmp_le (tgt := 31) hx hb dX10_notes_25 (by decide) (fun c_5 => ?_) (fun c_5 => ?_)
          · rw [if_pos c_5] at h
            refine lv_aload_n hx hb dX10_notes_31 rfl (lv_at hl 0 rfl) ?_
            refine G_X10_48 X.1 hn hP dX10_notes_32 ?_
            refine lv_iload_n hx hb dX10_notes_35 rfl (lv_at hl 1 rfl) ?_
            obtain ⟨c_6, h⟩ := og h
            refine r_aald (t0 := 5) (k := (Int32.toNatClampNeg (a1))) X.1 hP rfl rfl (by omega) sX_sheets rfl (vin c_6) dX10_notes_36 ?_
            have hj_7 : (Int32.toNatClampNeg (a1)) < 4 := ibd_lt c_6
            refine lv_astore (lv' := [(5, .ref (φ (90 + (Int32.toNatClampNeg (a1))))), (0, .ref (φ 0)), (1, .int (a1)), (2, .int (a2)), (3, .int (a3)), (4, .int (a4))]) hx hb dX10_notes_37 hl (by decide) rfl (fun ls hl => ?_)
            refine lv_aload hx hb dX10_notes_39 (lv_at hl 0 rfl) ?_
            refine c_V0 (As := []) (rest := []) (a := (90 + (Int32.toNatClampNeg (a1)))) X hl.1 (c_X6_isMissing l X.2.2.2.1.1 hn hj_7 rfl) (w_X10_229) qw_853 qw_854 ⟨Nat.le_of_ble_eq_true rfl, Nat.le_of_ble_eq_true rfl⟩ rfl rfl hP hS (by omega) (sX_Sheet hj_7) rfl rfl (Nat.le_of_ble_eq_true rfl) dX10_notes_41 (fun H locs hP hS => ?_)
            refine lv_if_eq (tgt := 50) hx hb dX10_notes_44 (by decide) (fun c_8 => ?_) (fun c_8 => ?_)
            · rw [if_pos c_8] at h
              refine lv_aload hx hb dX10_notes_50 (lv_at hl 0 rfl) ?_
              refine G_X10_271 X.1 hn hP hj_7 dX10_notes_52 ?_
              refine lv_iload_n hx hb dX10_notes_55 rfl (lv_at hl 3 rfl) ?_
              refine lv_icmp_eq (tgt := 62) hx hb dX10_notes_56 (by decide) (fun c_9 => ?_) (fun c_9 => ?_)
              · rw [if_pos c_9] at h
                refine lv_aload_n hx hb dX10_notes_62 rfl (lv_at hl 1 rfl) ?_
                refine G_X10_21 X.1 hn hP dX10_notes_63 ?_
                refine lv_iconst (v := 1) hx hb dX10_notes_66 (by decide) ?_
                refine P_X10_93 X.1 hn X.2.2.2.1 hP hS rfl rfl dX10_notes_67 (fun H locs hP hS => ?_)
                refine lv_iconst (v := 0) hx hb dX10_notes_70 (by decide) ?_
                refine lv_istore (lv' := [(6, .int (0)), (5, .ref (φ (90 + (Int32.toNatClampNeg (a1))))), (0, .ref (φ 0)), (1, .int (a1)), (2, .int (a2)), (3, .int (a3)), (4, .int (a4))]) hx hb dX10_notes_71 hl (by decide) rfl (fun ls hl => ?_)
                refine lv_iconst (v := 0) hx hb dX10_notes_73 (by decide) ?_
                refine lv_istore (lv' := [(7, .int (0)), (6, .int (0)), (5, .ref (φ (90 + (Int32.toNatClampNeg (a1))))), (0, .ref (φ 0)), (1, .int (a1)), (2, .int (a2)), (3, .int (a3)), (4, .int (a4))]) hx hb dX10_notes_74 hl (by decide) rfl (fun ls hl => ?_)
                refine L76 _ _ _ _ _ _ _ _ _ _ hj_7 hP hS (lv_sub hl [3, 6, 7, 2, 1, 0] rfl)  h
              · rw [if_neg c_9] at h
                refine lv_bipush (v := (-13)) hx hb dX10_notes_59 (by decide) ?_
                obtain rfl := Option.some.inj h
                exact W.iret hx hb hr (r_end X hP hS) hS.2.2 dX10_notes_61 (hlocks := hlk)
            · rw [if_neg c_8] at h
              refine lv_bipush (v := (-11)) hx hb dX10_notes_47 (by decide) ?_
              obtain rfl := Option.some.inj h
              exact W.iret hx hb hr (r_end X hP hS) hS.2.2 dX10_notes_49 (hlocks := hlk)
          · rw [if_neg c_5] at h
            refine lv_bipush (v := (-2)) hx hb dX10_notes_28 (by decide) ?_
            obtain rfl := Option.some.inj h
            exact W.iret hx hb hr (r_end X hP hS) hS.2.2 dX10_notes_30 (hlocks := hlk)

def f_X10_taken (M : Mem) (a1 : Int32) (a2 : Int32) : Option (Int32) :=
  (if a2 < 0 then some ((-2)) else (if a2 < 6 then (if (f_X8_hasSlip M (a1)) = 0 then some ((-11)) else (if ibd (a1) 10 then (Option.bind (f_X7_isUnder M (Int32.toNatClampNeg (a1)) (a2)) fun r_6 => (if r_6 = 0 then some ((-13)) else some ((M (30 + (Int32.toNatClampNeg (a1))) 3)))) else none)) else some ((-2))))
set_option maxRecDepth 100000 in
set_option maxHeartbeats 4000000 in
theorem c_X10_taken (l : Launch) {G : GT} {φ : Nat → Nat} {n : Nat} {M : Mem} {a1 : Int32} {a2 : Int32} (hI : wI φ n) (hn : 107 ≤ n) {r : Int32} (h : f_X10_taken M a1 a2 = some r) : CT l yX10_taken cX10_taken 4 (some .int) ({ frames := 1, cells := 0, slots := 0, locals := 23 } : Room) [.ref (φ 0), .int (a1), .int (a2)] (WB (cX G φ) φ M n G) (some (.int r)) (WB (cX G φ) φ (M) n G) φ n := by
  unfold f_X10_taken at h
  refine r_start (plainFor_of_name (by decide)) (Nat.le_of_ble_eq_true rfl) hI ?_
  intro p e s m args below meth c ls X hr hlk hP hl
  have hS : va_S (wA φ n s.heap.size) s.heap s.heap [] := va_S.rf
  have hx := X.1.1
  have hb := X.1.2.1
  have hl : lv_has ls 4 [(0, .ref (φ 0)), (1, .int (a1)), (2, .int (a2))] := hl
  refine lv_iload_n hx hb dX10_taken_0 rfl (lv_at hl 2 rfl) ?_
  refine lv_if_lt (tgt := 10) hx hb dX10_taken_1 (by decide) (fun c_1 => ?_) (fun c_1 => ?_)
  · rw [if_pos c_1] at h
    refine lv_bipush (v := (-2)) hx hb dX10_taken_10 (by decide) ?_
    obtain rfl := Option.some.inj h
    exact W.iret hx hb hr (r_end X hP hS) hS.2.2 dX10_taken_12 (hlocks := hlk)
  · rw [if_neg c_1] at h
    refine lv_iload_n hx hb dX10_taken_4 rfl (lv_at hl 2 rfl) ?_
    refine lv_bipush (v := 6) hx hb dX10_taken_5 (by decide) ?_
    refine lv_icmp_lt (tgt := 13) hx hb dX10_taken_7 (by decide) (fun c_2 => ?_) (fun c_2 => ?_)
    · rw [if_pos c_2] at h
      refine lv_aload_n hx hb dX10_taken_13 rfl (lv_at hl 0 rfl) ?_
      refine G_X10_10 X.1 hn hP dX10_taken_14 ?_
      refine lv_iload_n hx hb dX10_taken_17 rfl (lv_at hl 1 rfl) ?_
      refine c_V0 (As := [.int (a1)]) (rest := []) (a := 1) X hl.1 (c_X8_hasSlip l X.2.2.2.1.1 hn rfl) (w_X10_118) qw_644 qw_645 ⟨Nat.le_of_ble_eq_true rfl, Nat.le_of_ble_eq_true rfl⟩ rfl rfl hP hS (by omega) sX_Table rfl rfl (Nat.le_of_ble_eq_true rfl) dX10_taken_18 (fun H locs hP hS => ?_)
      refine lv_if_ne (tgt := 27) hx hb dX10_taken_21 (by decide) (fun c_3 => ?_) (fun c_3 => ?_)
      · rw [if_neg c_3] at h
        refine lv_aload_n hx hb dX10_taken_27 rfl (lv_at hl 0 rfl) ?_
        refine G_X10_10 X.1 hn hP dX10_taken_28 ?_
        refine G_X10_121 X.1 hn hP dX10_taken_31 ?_
        refine lv_iload_n hx hb dX10_taken_34 rfl (lv_at hl 1 rfl) ?_
        obtain ⟨c_4, h⟩ := og h
        refine r_aald (t0 := 3) (k := (Int32.toNatClampNeg (a1))) X.1 hP rfl rfl (by omega) sX_slips rfl (vin c_4) dX10_taken_35 ?_
        have hj_5 : (Int32.toNatClampNeg (a1)) < 10 := ibd_lt c_4
        refine lv_astore_n (lv' := [(3, .ref (φ (30 + (Int32.toNatClampNeg (a1))))), (0, .ref (φ 0)), (1, .int (a1)), (2, .int (a2))]) hx hb dX10_taken_36 rfl hl (by decide) rfl (fun ls hl => ?_)
        refine lv_aload_n hx hb dX10_taken_37 rfl (lv_at hl 0 rfl) ?_
        refine lv_iload_n hx hb dX10_taken_38 rfl (lv_at hl 3 rfl) ?_
        obtain ⟨r_6, hr_6, h⟩ := ob h
        refine c_V0 (As := [.int (a2)]) (rest := []) (a := (30 + (Int32.toNatClampNeg (a1)))) X hl.1 (c_X7_isUnder l X.2.2.2.1.1 hn hj_5 hr_6) (w_X10_277) qw_914 qw_915 ⟨Nat.le_of_ble_eq_true rfl, Nat.le_of_ble_eq_true rfl⟩ rfl rfl hP hS (by omega) (sX_Slip hj_5) rfl rfl (Nat.le_of_ble_eq_true rfl) dX10_taken_39 (fun H locs hP hS => ?_)
        refine lv_if_eq (tgt := 52) hx hb dX10_taken_42 (by decide) (fun c_7 => ?_) (fun c_7 => ?_)
        · rw [if_pos c_7] at h
          refine lv_bipush (v := (-13)) hx hb dX10_taken_52 (by decide) ?_
          obtain rfl := Option.some.inj h
          exact W.iret hx hb hr (r_end X hP hS) hS.2.2 dX10_taken_54 (hlocks := hlk)
        · rw [if_neg c_7] at h
          refine lv_aload_n hx hb dX10_taken_45 rfl (lv_at hl 0 rfl) ?_
          refine G_X10_136 X.1 hn hP hj_5 dX10_taken_46 ?_
          refine lv_goto (tgt := 54) hx hb dX10_taken_49 (by decide) ?_
          obtain rfl := Option.some.inj h
          exact W.iret hx hb hr (r_end X hP hS) hS.2.2 dX10_taken_54 (hlocks := hlk)
      · rw [if_pos c_3] at h
        refine lv_bipush (v := (-11)) hx hb dX10_taken_24 (by decide) ?_
        obtain rfl := Option.some.inj h
        exact W.iret hx hb hr (r_end X hP hS) hS.2.2 dX10_taken_26 (hlocks := hlk)
    · rw [if_neg c_2] at h
      refine lv_bipush (v := (-2)) hx hb dX10_taken_10 (by decide) ?_
      obtain rfl := Option.some.inj h
      exact W.iret hx hb hr (r_end X hP hS) hS.2.2 dX10_taken_12 (hlocks := hlk)

def f_X11_within (a1 : Int32) (a2 : Int32) (a3 : Int32) : Int32 :=
  (if a1 < a2 then 0 else (if a3 < a1 then 0 else 1))
theorem bz_X11_within (a1 : Int32) (a2 : Int32) (a3 : Int32) : f_X11_within a1 a2 a3 = 0 ∨ f_X11_within a1 a2 a3 = 1 := by
  unfold f_X11_within
  repeat' (first | exact Or.inl rfl | exact Or.inr rfl | split)
set_option maxRecDepth 100000 in
set_option maxHeartbeats 4000000 in
theorem c_X11_within (l : Launch) {G : GT} {φ : Nat → Nat} {n : Nat} {M : Mem} {L : Nat → Int64} {a1 : Int32} {a2 : Int32} {a3 : Int32} (hI : wI φ n) (hn : 32 ≤ n) {r : Int32} (h : f_X11_within a1 a2 a3 = r) : CT l yX11_within cX11_within 3 (some .boolean) ({ frames := 0, cells := 0, slots := 0, locals := 0 } : Room) [.int (a1), .int (a2), .int (a3)] (WB (cM G φ L) φ M n G) (some (.int r)) (WB (cM G φ L) φ (M) n G) φ n := by
  unfold f_X11_within at h
  refine r_start (plainFor_of_name (by decide)) (Nat.le_of_ble_eq_true rfl) hI ?_
  intro p e s m args below meth c ls X hr hlk hP hl
  have hS : va_S (wA φ n s.heap.size) s.heap s.heap [] := va_S.rf
  have hx := X.1.1
  have hb := X.1.2.1
  have hl : lv_has ls 3 [(0, .int (a1)), (1, .int (a2)), (2, .int (a3))] := hl
  refine lv_iload_n hx hb dX11_within_0 rfl (lv_at hl 0 rfl) ?_
  refine lv_iload_n hx hb dX11_within_1 rfl (lv_at hl 1 rfl) ?_
  refine lv_icmp_lt (tgt := 14) hx hb dX11_within_2 (by decide) (fun c_1 => ?_) (fun c_1 => ?_)
  · rw [if_pos c_1] at h
    refine lv_iconst (v := 0) hx hb dX11_within_14 (by decide) ?_
    subst h
    exact W.zret (v := 0) (ty := .boolean) hx hb hr rfl (r_end X hP hS) hS.2.2 dX11_within_15 (hlocks := hlk)
  · rw [if_neg c_1] at h
    refine lv_iload_n hx hb dX11_within_5 rfl (lv_at hl 0 rfl) ?_
    refine lv_iload_n hx hb dX11_within_6 rfl (lv_at hl 2 rfl) ?_
    refine lv_icmp_gt (tgt := 14) hx hb dX11_within_7 (by decide) (fun c_2 => ?_) (fun c_2 => ?_)
    · rw [if_pos c_2] at h
      refine lv_iconst (v := 0) hx hb dX11_within_14 (by decide) ?_
      subst h
      exact W.zret (v := 0) (ty := .boolean) hx hb hr rfl (r_end X hP hS) hS.2.2 dX11_within_15 (hlocks := hlk)
    · rw [if_neg c_2] at h
      refine lv_iconst (v := 1) hx hb dX11_within_10 (by decide) ?_
      refine lv_goto (tgt := 15) hx hb dX11_within_11 (by decide) ?_
      subst h
      exact W.zret (v := 1) (ty := .boolean) hx hb hr rfl (r_end X hP hS) hS.2.2 dX11_within_15 (hlocks := hlk)

def f_X11_isPerson (M : Mem) (a1 : Int32) : Int32 :=
  (f_X11_within (a1) (0) (((M 0 0) - 1)))
theorem bz_X11_isPerson (M : Mem) (a1 : Int32) : f_X11_isPerson M a1 = 0 ∨ f_X11_isPerson M a1 = 1 := by
  unfold f_X11_isPerson
  repeat' (first | exact Or.inl rfl | exact Or.inr rfl | exact bz_X11_within .. | split)
set_option maxRecDepth 100000 in
set_option maxHeartbeats 4000000 in
theorem c_X11_isPerson (l : Launch) {G : GT} {φ : Nat → Nat} {n : Nat} {M : Mem} {L : Nat → Int64} {a1 : Int32} (hI : wI φ n) (hn : 32 ≤ n) {r : Int32} (h : f_X11_isPerson M a1 = r) : CT l yX11_isPerson cX11_isPerson 2 (some .boolean) ({ frames := 1, cells := 0, slots := 0, locals := 22 } : Room) [.ref (φ 0), .int (a1)] (WB (cM G φ L) φ M n G) (some (.int r)) (WB (cM G φ L) φ (M) n G) φ n := by
  unfold f_X11_isPerson at h
  refine r_start (plainFor_of_name (by decide)) (Nat.le_of_ble_eq_true rfl) hI ?_
  intro p e s m args below meth c ls X hr hlk hP hl
  have hS : va_S (wA φ n s.heap.size) s.heap s.heap [] := va_S.rf
  have hx := X.1.1
  have hb := X.1.2.1
  have hl : lv_has ls 2 [(0, .ref (φ 0)), (1, .int (a1))] := hl
  refine lv_iload_n hx hb dX11_isPerson_0 rfl (lv_at hl 1 rfl) ?_
  refine lv_iconst (v := 0) hx hb dX11_isPerson_1 (by decide) ?_
  refine lv_aload_n hx hb dX11_isPerson_2 rfl (lv_at hl 0 rfl) ?_
  refine G_X11_123 X.1 hn hP dX11_isPerson_3 ?_
  refine lv_iconst (v := 1) hx hb dX11_isPerson_6 (by decide) ?_
  refine lv_isub hx hb dX11_isPerson_7 ?_
  refine c_S0 (As := [.int (a1), .int (0), .int (((M 0 0) - 1))]) (rest := []) X hl.1 (c_X11_within l X.2.2.2.1.1 hn rfl) (w_X11_127) qw_933 ⟨Nat.le_of_ble_eq_true rfl, Nat.le_of_ble_eq_true rfl⟩ rfl rfl hP hS (Nat.le_of_ble_eq_true rfl) dX11_isPerson_8 (fun H locs hP hS => ?_)
  subst h
  exact W.zret (v := _) (ty := .boolean) hx hb hr (nbz (bz_X11_within (a1) (0) (((M 0 0) - 1)))) (r_end X hP hS) hS.2.2 dX11_isPerson_11 (hlocks := hlk)

def f_X11_isNote (M : Mem) (a1 : Int32) : Int32 :=
  (f_X11_within (a1) (0) (((M 0 5) - 1)))
theorem bz_X11_isNote (M : Mem) (a1 : Int32) : f_X11_isNote M a1 = 0 ∨ f_X11_isNote M a1 = 1 := by
  unfold f_X11_isNote
  repeat' (first | exact Or.inl rfl | exact Or.inr rfl | exact bz_X11_within .. | split)
set_option maxRecDepth 100000 in
set_option maxHeartbeats 4000000 in
theorem c_X11_isNote (l : Launch) {G : GT} {φ : Nat → Nat} {n : Nat} {M : Mem} {L : Nat → Int64} {a1 : Int32} (hI : wI φ n) (hn : 32 ≤ n) {r : Int32} (h : f_X11_isNote M a1 = r) : CT l yX11_isNote cX11_isNote 2 (some .boolean) ({ frames := 1, cells := 0, slots := 0, locals := 22 } : Room) [.ref (φ 0), .int (a1)] (WB (cM G φ L) φ M n G) (some (.int r)) (WB (cM G φ L) φ (M) n G) φ n := by
  unfold f_X11_isNote at h
  refine r_start (plainFor_of_name (by decide)) (Nat.le_of_ble_eq_true rfl) hI ?_
  intro p e s m args below meth c ls X hr hlk hP hl
  have hS : va_S (wA φ n s.heap.size) s.heap s.heap [] := va_S.rf
  have hx := X.1.1
  have hb := X.1.2.1
  have hl : lv_has ls 2 [(0, .ref (φ 0)), (1, .int (a1))] := hl
  refine lv_iload_n hx hb dX11_isNote_0 rfl (lv_at hl 1 rfl) ?_
  refine lv_iconst (v := 0) hx hb dX11_isNote_1 (by decide) ?_
  refine lv_aload_n hx hb dX11_isNote_2 rfl (lv_at hl 0 rfl) ?_
  refine G_X11_131 X.1 hn hP dX11_isNote_3 ?_
  refine lv_iconst (v := 1) hx hb dX11_isNote_6 (by decide) ?_
  refine lv_isub hx hb dX11_isNote_7 ?_
  refine c_S0 (As := [.int (a1), .int (0), .int (((M 0 5) - 1))]) (rest := []) X hl.1 (c_X11_within l X.2.2.2.1.1 hn rfl) (w_X11_127) qw_933 ⟨Nat.le_of_ble_eq_true rfl, Nat.le_of_ble_eq_true rfl⟩ rfl rfl hP hS (Nat.le_of_ble_eq_true rfl) dX11_isNote_8 (fun H locs hP hS => ?_)
  subst h
  exact W.zret (v := _) (ty := .boolean) hx hb hr (nbz (bz_X11_within (a1) (0) (((M 0 5) - 1)))) (r_end X hP hS) hS.2.2 dX11_isNote_11 (hlocks := hlk)

def f_X11_person (M : Mem) (a1 : Int32) (a2 : Int32) (a3 : Int32) : Option (Int32 × Mem) :=
  (if (f_X11_within (a1) (0) (47)) = 0 then some (((-2), M)) else (if (f_X11_within (a2) (1) (24)) = 0 then some (((-2), M)) else (if (f_X11_within (a3) (0) (129)) = 0 then some (((-2), M)) else (if (M 0 0) = 5 then some (((-4), M)) else (if ibd ((M 0 0)) 5 then (if ibd (((upd2 M 1 (Int32.toNatClampNeg ((M 0 0))) (a1)) 0 0)) 5 then (if ibd (((upd2 (upd2 M 1 (Int32.toNatClampNeg ((M 0 0))) (a1)) 2 (Int32.toNatClampNeg (((upd2 M 1 (Int32.toNatClampNeg ((M 0 0))) (a1)) 0 0))) (a2)) 0 0)) 5 then (if ibd (((upd2 (upd2 (upd2 M 1 (Int32.toNatClampNeg ((M 0 0))) (a1)) 2 (Int32.toNatClampNeg (((upd2 M 1 (Int32.toNatClampNeg ((M 0 0))) (a1)) 0 0))) (a2)) 3 (Int32.toNatClampNeg (((upd2 (upd2 M 1 (Int32.toNatClampNeg ((M 0 0))) (a1)) 2 (Int32.toNatClampNeg (((upd2 M 1 (Int32.toNatClampNeg ((M 0 0))) (a1)) 0 0))) (a2)) 0 0))) ((a3 / 10))) 0 0)) 5 then some ((((upd2 (upd2 (upd2 (upd2 M 1 (Int32.toNatClampNeg ((M 0 0))) (a1)) 2 (Int32.toNatClampNeg (((upd2 M 1 (Int32.toNatClampNeg ((M 0 0))) (a1)) 0 0))) (a2)) 3 (Int32.toNatClampNeg (((upd2 (upd2 M 1 (Int32.toNatClampNeg ((M 0 0))) (a1)) 2 (Int32.toNatClampNeg (((upd2 M 1 (Int32.toNatClampNeg ((M 0 0))) (a1)) 0 0))) (a2)) 0 0))) ((a3 / 10))) 4 (Int32.toNatClampNeg (((upd2 (upd2 (upd2 M 1 (Int32.toNatClampNeg ((M 0 0))) (a1)) 2 (Int32.toNatClampNeg (((upd2 M 1 (Int32.toNatClampNeg ((M 0 0))) (a1)) 0 0))) (a2)) 3 (Int32.toNatClampNeg (((upd2 (upd2 M 1 (Int32.toNatClampNeg ((M 0 0))) (a1)) 2 (Int32.toNatClampNeg (((upd2 M 1 (Int32.toNatClampNeg ((M 0 0))) (a1)) 0 0))) (a2)) 0 0))) ((a3 / 10))) 0 0))) ((a3 - a3 / 10 * 10))) 0 0), (upd2 (upd2 (upd2 (upd2 (upd2 M 1 (Int32.toNatClampNeg ((M 0 0))) (a1)) 2 (Int32.toNatClampNeg (((upd2 M 1 (Int32.toNatClampNeg ((M 0 0))) (a1)) 0 0))) (a2)) 3 (Int32.toNatClampNeg (((upd2 (upd2 M 1 (Int32.toNatClampNeg ((M 0 0))) (a1)) 2 (Int32.toNatClampNeg (((upd2 M 1 (Int32.toNatClampNeg ((M 0 0))) (a1)) 0 0))) (a2)) 0 0))) ((a3 / 10))) 4 (Int32.toNatClampNeg (((upd2 (upd2 (upd2 M 1 (Int32.toNatClampNeg ((M 0 0))) (a1)) 2 (Int32.toNatClampNeg (((upd2 M 1 (Int32.toNatClampNeg ((M 0 0))) (a1)) 0 0))) (a2)) 3 (Int32.toNatClampNeg (((upd2 (upd2 M 1 (Int32.toNatClampNeg ((M 0 0))) (a1)) 2 (Int32.toNatClampNeg (((upd2 M 1 (Int32.toNatClampNeg ((M 0 0))) (a1)) 0 0))) (a2)) 0 0))) ((a3 / 10))) 0 0))) ((a3 - a3 / 10 * 10))) 0 0 ((((upd2 (upd2 (upd2 (upd2 M 1 (Int32.toNatClampNeg ((M 0 0))) (a1)) 2 (Int32.toNatClampNeg (((upd2 M 1 (Int32.toNatClampNeg ((M 0 0))) (a1)) 0 0))) (a2)) 3 (Int32.toNatClampNeg (((upd2 (upd2 M 1 (Int32.toNatClampNeg ((M 0 0))) (a1)) 2 (Int32.toNatClampNeg (((upd2 M 1 (Int32.toNatClampNeg ((M 0 0))) (a1)) 0 0))) (a2)) 0 0))) ((a3 / 10))) 4 (Int32.toNatClampNeg (((upd2 (upd2 (upd2 M 1 (Int32.toNatClampNeg ((M 0 0))) (a1)) 2 (Int32.toNatClampNeg (((upd2 M 1 (Int32.toNatClampNeg ((M 0 0))) (a1)) 0 0))) (a2)) 3 (Int32.toNatClampNeg (((upd2 (upd2 M 1 (Int32.toNatClampNeg ((M 0 0))) (a1)) 2 (Int32.toNatClampNeg (((upd2 M 1 (Int32.toNatClampNeg ((M 0 0))) (a1)) 0 0))) (a2)) 0 0))) ((a3 / 10))) 0 0))) ((a3 - a3 / 10 * 10))) 0 0) + 1))))) else none) else none) else none) else none)))))
set_option maxRecDepth 100000 in
set_option maxHeartbeats 4000000 in
theorem c_X11_person (l : Launch) {G : GT} {φ : Nat → Nat} {n : Nat} {M : Mem} {L : Nat → Int64} {a1 : Int32} {a2 : Int32} {a3 : Int32} (hI : wI φ n) (hn : 32 ≤ n) {r : Int32 × Mem} (h : f_X11_person M a1 a2 a3 = some r) : CT l yX11_person cX11_person 4 (some .int) ({ frames := 1, cells := 0, slots := 0, locals := 22 } : Room) [.ref (φ 0), .int (a1), .int (a2), .int (a3)] (WB (cM G φ L) φ M n G) (some (.int r.1)) (WB (cM G φ L) φ (r.2) n G) φ n := by
  unfold f_X11_person at h
  refine r_start (plainFor_of_name (by decide)) (Nat.le_of_ble_eq_true rfl) hI ?_
  intro p e s m args below meth c ls X hr hlk hP hl
  have hS : va_S (wA φ n s.heap.size) s.heap s.heap [] := va_S.rf
  have hx := X.1.1
  have hb := X.1.2.1
  have hl : lv_has ls 4 [(0, .ref (φ 0)), (1, .int (a1)), (2, .int (a2)), (3, .int (a3))] := hl
  refine lv_iload_n hx hb dX11_person_0 rfl (lv_at hl 1 rfl) ?_
  refine lv_iconst (v := 0) hx hb dX11_person_1 (by decide) ?_
  refine lv_bipush (v := 47) hx hb dX11_person_2 (by decide) ?_
  refine c_S0 (As := [.int (a1), .int (0), .int (47)]) (rest := []) X hl.1 (c_X11_within l X.2.2.2.1.1 hn rfl) (w_X11_127) qw_933 ⟨Nat.le_of_ble_eq_true rfl, Nat.le_of_ble_eq_true rfl⟩ rfl rfl hP hS (Nat.le_of_ble_eq_true rfl) dX11_person_4 (fun H locs hP hS => ?_)
  refine lv_if_eq (tgt := 31) hx hb dX11_person_7 (by decide) (fun c_1 => ?_) (fun c_1 => ?_)
  · rw [if_pos c_1] at h
    refine lv_bipush (v := (-2)) hx hb dX11_person_31 (by decide) ?_
    obtain rfl := Option.some.inj h
    exact W.iret hx hb hr (r_end X hP hS) hS.2.2 dX11_person_33 (hlocks := hlk)
  · rw [if_neg c_1] at h
    refine lv_iload_n hx hb dX11_person_10 rfl (lv_at hl 2 rfl) ?_
    refine lv_iconst (v := 1) hx hb dX11_person_11 (by decide) ?_
    refine lv_bipush (v := 24) hx hb dX11_person_12 (by decide) ?_
    refine c_S0 (As := [.int (a2), .int (1), .int (24)]) (rest := []) X hl.1 (c_X11_within l X.2.2.2.1.1 hn rfl) (w_X11_127) qw_933 ⟨Nat.le_of_ble_eq_true rfl, Nat.le_of_ble_eq_true rfl⟩ rfl rfl hP hS (Nat.le_of_ble_eq_true rfl) dX11_person_14 (fun H locs hP hS => ?_)
    refine lv_if_eq (tgt := 31) hx hb dX11_person_17 (by decide) (fun c_2 => ?_) (fun c_2 => ?_)
    · rw [if_pos c_2] at h
      refine lv_bipush (v := (-2)) hx hb dX11_person_31 (by decide) ?_
      obtain rfl := Option.some.inj h
      exact W.iret hx hb hr (r_end X hP hS) hS.2.2 dX11_person_33 (hlocks := hlk)
    · rw [if_neg c_2] at h
      refine lv_iload_n hx hb dX11_person_20 rfl (lv_at hl 3 rfl) ?_
      refine lv_iconst (v := 0) hx hb dX11_person_21 (by decide) ?_
      refine lv_sipush (v := 129) hx hb dX11_person_22 (by decide) ?_
      refine c_S0 (As := [.int (a3), .int (0), .int (129)]) (rest := []) X hl.1 (c_X11_within l X.2.2.2.1.1 hn rfl) (w_X11_127) qw_933 ⟨Nat.le_of_ble_eq_true rfl, Nat.le_of_ble_eq_true rfl⟩ rfl rfl hP hS (Nat.le_of_ble_eq_true rfl) dX11_person_25 (fun H locs hP hS => ?_)
      refine lv_if_ne (tgt := 34) hx hb dX11_person_28 (by decide) (fun c_3 => ?_) (fun c_3 => ?_)
      · rw [if_neg c_3] at h
        refine lv_aload_n hx hb dX11_person_34 rfl (lv_at hl 0 rfl) ?_
        refine G_X11_123 X.1 hn hP dX11_person_35 ?_
        refine lv_iconst (v := 5) hx hb dX11_person_38 (by decide) ?_
        refine lv_icmp_ne (tgt := 45) hx hb dX11_person_39 (by decide) (fun c_4 => ?_) (fun c_4 => ?_)
        · rw [if_neg c_4] at h
          refine lv_aload_n hx hb dX11_person_45 rfl (lv_at hl 0 rfl) ?_
          refine G_X11_7 X.1 hn hP dX11_person_46 ?_
          refine lv_aload_n hx hb dX11_person_49 rfl (lv_at hl 0 rfl) ?_
          refine G_X11_123 X.1 hn hP dX11_person_50 ?_
          refine lv_iload_n hx hb dX11_person_53 rfl (lv_at hl 1 rfl) ?_
          obtain ⟨c_5, h⟩ := og h
          refine r_iast (k := (Int32.toNatClampNeg ((M 0 0)))) X.1 X.2.2.2.1 hP hS (by omega) sM_first rfl (vin c_5) dX11_person_54 (fun H locs hP hS => ?_)
          refine lv_aload_n hx hb dX11_person_55 rfl (lv_at hl 0 rfl) ?_
          refine G_X11_13 X.1 hn hP dX11_person_56 ?_
          refine lv_aload_n hx hb dX11_person_59 rfl (lv_at hl 0 rfl) ?_
          refine G_X11_123 X.1 hn hP dX11_person_60 ?_
          refine lv_iload_n hx hb dX11_person_63 rfl (lv_at hl 2 rfl) ?_
          obtain ⟨c_6, h⟩ := og h
          refine r_iast (k := (Int32.toNatClampNeg (((upd2 M 1 (Int32.toNatClampNeg ((M 0 0))) (a1)) 0 0)))) X.1 X.2.2.2.1 hP hS (by omega) sM_every rfl (vin c_6) dX11_person_64 (fun H locs hP hS => ?_)
          refine lv_aload_n hx hb dX11_person_65 rfl (lv_at hl 0 rfl) ?_
          refine G_X11_16 X.1 hn hP dX11_person_66 ?_
          refine lv_aload_n hx hb dX11_person_69 rfl (lv_at hl 0 rfl) ?_
          refine G_X11_123 X.1 hn hP dX11_person_70 ?_
          refine lv_iload_n hx hb dX11_person_73 rfl (lv_at hl 3 rfl) ?_
          refine lv_bipush (v := 10) hx hb dX11_person_74 (by decide) ?_
          refine lv_idiv hx hb dX11_person_76 (by decide) ?_
          obtain ⟨c_7, h⟩ := og h
          refine r_iast (k := (Int32.toNatClampNeg (((upd2 (upd2 M 1 (Int32.toNatClampNeg ((M 0 0))) (a1)) 2 (Int32.toNatClampNeg (((upd2 M 1 (Int32.toNatClampNeg ((M 0 0))) (a1)) 0 0))) (a2)) 0 0)))) X.1 X.2.2.2.1 hP hS (by omega) sM_reads rfl (vin c_7) dX11_person_77 (fun H locs hP hS => ?_)
          refine lv_aload_n hx hb dX11_person_78 rfl (lv_at hl 0 rfl) ?_
          refine G_X11_19 X.1 hn hP dX11_person_79 ?_
          refine lv_aload_n hx hb dX11_person_82 rfl (lv_at hl 0 rfl) ?_
          refine G_X11_123 X.1 hn hP dX11_person_83 ?_
          refine lv_iload_n hx hb dX11_person_86 rfl (lv_at hl 3 rfl) ?_
          refine lv_bipush (v := 10) hx hb dX11_person_87 (by decide) ?_
          refine lv_irem hx hb dX11_person_89 (by decide) ?_
          obtain ⟨c_8, h⟩ := og h
          refine r_iast (k := (Int32.toNatClampNeg (((upd2 (upd2 (upd2 M 1 (Int32.toNatClampNeg ((M 0 0))) (a1)) 2 (Int32.toNatClampNeg (((upd2 M 1 (Int32.toNatClampNeg ((M 0 0))) (a1)) 0 0))) (a2)) 3 (Int32.toNatClampNeg (((upd2 (upd2 M 1 (Int32.toNatClampNeg ((M 0 0))) (a1)) 2 (Int32.toNatClampNeg (((upd2 M 1 (Int32.toNatClampNeg ((M 0 0))) (a1)) 0 0))) (a2)) 0 0))) ((a3 / 10))) 0 0)))) X.1 X.2.2.2.1 hP hS (by omega) sM_temper rfl (vin c_8) dX11_person_90 (fun H locs hP hS => ?_)
          refine lv_aload_n hx hb dX11_person_91 rfl (lv_at hl 0 rfl) ?_
          refine lv_dup hx hb dX11_person_92 rfl ?_
          refine G_X11_123 X.1 hn hP dX11_person_93 ?_
          refine lv_dup_x1 hx hb dX11_person_96 rfl rfl ?_
          refine lv_iconst (v := 1) hx hb dX11_person_97 (by decide) ?_
          refine lv_iadd hx hb dX11_person_98 ?_
          refine P_X11_123 X.1 hn X.2.2.2.1 hP hS dX11_person_99 (fun H locs hP hS => ?_)
          obtain rfl := Option.some.inj h
          exact W.iret hx hb hr (r_end X hP hS) hS.2.2 dX11_person_102 (hlocks := hlk)
        · rw [if_pos c_4] at h
          refine lv_bipush (v := (-4)) hx hb dX11_person_42 (by decide) ?_
          obtain rfl := Option.some.inj h
          exact W.iret hx hb hr (r_end X hP hS) hS.2.2 dX11_person_44 (hlocks := hlk)
      · rw [if_pos c_3] at h
        refine lv_bipush (v := (-2)) hx hb dX11_person_31 (by decide) ?_
        obtain rfl := Option.some.inj h
        exact W.iret hx hb hr (r_end X hP hS) hS.2.2 dX11_person_33 (hlocks := hlk)

def f_X11_note (M : Mem) (a1 : Int32) (a2 : Int32) (a3 : Int32) : Option (Int32 × Mem) :=
  (if (f_X11_within (a1) (0) (5)) = 0 then some (((-2), M)) else (if (f_X11_within (a2) (0) (47)) = 0 then some (((-2), M)) else (if (f_X11_within (a3) (0) (39)) = 0 then some (((-2), M)) else (if (M 0 5) = 10 then some (((-4), M)) else (if ibd ((M 0 5)) 10 then (if ibd (((upd2 M 5 (Int32.toNatClampNeg ((M 0 5))) (a1)) 0 5)) 10 then (if ibd (((upd2 (upd2 M 5 (Int32.toNatClampNeg ((M 0 5))) (a1)) 6 (Int32.toNatClampNeg (((upd2 M 5 (Int32.toNatClampNeg ((M 0 5))) (a1)) 0 5))) (a2)) 0 5)) 10 then (if ibd (((upd2 (upd2 (upd2 M 5 (Int32.toNatClampNeg ((M 0 5))) (a1)) 6 (Int32.toNatClampNeg (((upd2 M 5 (Int32.toNatClampNeg ((M 0 5))) (a1)) 0 5))) (a2)) 7 (Int32.toNatClampNeg (((upd2 (upd2 M 5 (Int32.toNatClampNeg ((M 0 5))) (a1)) 6 (Int32.toNatClampNeg (((upd2 M 5 (Int32.toNatClampNeg ((M 0 5))) (a1)) 0 5))) (a2)) 0 5))) ((a3 / 10))) 0 5)) 10 then some ((((upd2 (upd2 (upd2 (upd2 M 5 (Int32.toNatClampNeg ((M 0 5))) (a1)) 6 (Int32.toNatClampNeg (((upd2 M 5 (Int32.toNatClampNeg ((M 0 5))) (a1)) 0 5))) (a2)) 7 (Int32.toNatClampNeg (((upd2 (upd2 M 5 (Int32.toNatClampNeg ((M 0 5))) (a1)) 6 (Int32.toNatClampNeg (((upd2 M 5 (Int32.toNatClampNeg ((M 0 5))) (a1)) 0 5))) (a2)) 0 5))) ((a3 / 10))) 8 (Int32.toNatClampNeg (((upd2 (upd2 (upd2 M 5 (Int32.toNatClampNeg ((M 0 5))) (a1)) 6 (Int32.toNatClampNeg (((upd2 M 5 (Int32.toNatClampNeg ((M 0 5))) (a1)) 0 5))) (a2)) 7 (Int32.toNatClampNeg (((upd2 (upd2 M 5 (Int32.toNatClampNeg ((M 0 5))) (a1)) 6 (Int32.toNatClampNeg (((upd2 M 5 (Int32.toNatClampNeg ((M 0 5))) (a1)) 0 5))) (a2)) 0 5))) ((a3 / 10))) 0 5))) ((a3 - a3 / 10 * 10))) 0 5), (upd2 (upd2 (upd2 (upd2 (upd2 M 5 (Int32.toNatClampNeg ((M 0 5))) (a1)) 6 (Int32.toNatClampNeg (((upd2 M 5 (Int32.toNatClampNeg ((M 0 5))) (a1)) 0 5))) (a2)) 7 (Int32.toNatClampNeg (((upd2 (upd2 M 5 (Int32.toNatClampNeg ((M 0 5))) (a1)) 6 (Int32.toNatClampNeg (((upd2 M 5 (Int32.toNatClampNeg ((M 0 5))) (a1)) 0 5))) (a2)) 0 5))) ((a3 / 10))) 8 (Int32.toNatClampNeg (((upd2 (upd2 (upd2 M 5 (Int32.toNatClampNeg ((M 0 5))) (a1)) 6 (Int32.toNatClampNeg (((upd2 M 5 (Int32.toNatClampNeg ((M 0 5))) (a1)) 0 5))) (a2)) 7 (Int32.toNatClampNeg (((upd2 (upd2 M 5 (Int32.toNatClampNeg ((M 0 5))) (a1)) 6 (Int32.toNatClampNeg (((upd2 M 5 (Int32.toNatClampNeg ((M 0 5))) (a1)) 0 5))) (a2)) 0 5))) ((a3 / 10))) 0 5))) ((a3 - a3 / 10 * 10))) 0 5 ((((upd2 (upd2 (upd2 (upd2 M 5 (Int32.toNatClampNeg ((M 0 5))) (a1)) 6 (Int32.toNatClampNeg (((upd2 M 5 (Int32.toNatClampNeg ((M 0 5))) (a1)) 0 5))) (a2)) 7 (Int32.toNatClampNeg (((upd2 (upd2 M 5 (Int32.toNatClampNeg ((M 0 5))) (a1)) 6 (Int32.toNatClampNeg (((upd2 M 5 (Int32.toNatClampNeg ((M 0 5))) (a1)) 0 5))) (a2)) 0 5))) ((a3 / 10))) 8 (Int32.toNatClampNeg (((upd2 (upd2 (upd2 M 5 (Int32.toNatClampNeg ((M 0 5))) (a1)) 6 (Int32.toNatClampNeg (((upd2 M 5 (Int32.toNatClampNeg ((M 0 5))) (a1)) 0 5))) (a2)) 7 (Int32.toNatClampNeg (((upd2 (upd2 M 5 (Int32.toNatClampNeg ((M 0 5))) (a1)) 6 (Int32.toNatClampNeg (((upd2 M 5 (Int32.toNatClampNeg ((M 0 5))) (a1)) 0 5))) (a2)) 0 5))) ((a3 / 10))) 0 5))) ((a3 - a3 / 10 * 10))) 0 5) + 1))))) else none) else none) else none) else none)))))
set_option maxRecDepth 100000 in
set_option maxHeartbeats 4000000 in
theorem c_X11_note (l : Launch) {G : GT} {φ : Nat → Nat} {n : Nat} {M : Mem} {L : Nat → Int64} {a1 : Int32} {a2 : Int32} {a3 : Int32} (hI : wI φ n) (hn : 32 ≤ n) {r : Int32 × Mem} (h : f_X11_note M a1 a2 a3 = some r) : CT l yX11_note cX11_note 4 (some .int) ({ frames := 1, cells := 0, slots := 0, locals := 22 } : Room) [.ref (φ 0), .int (a1), .int (a2), .int (a3)] (WB (cM G φ L) φ M n G) (some (.int r.1)) (WB (cM G φ L) φ (r.2) n G) φ n := by
  unfold f_X11_note at h
  refine r_start (plainFor_of_name (by decide)) (Nat.le_of_ble_eq_true rfl) hI ?_
  intro p e s m args below meth c ls X hr hlk hP hl
  have hS : va_S (wA φ n s.heap.size) s.heap s.heap [] := va_S.rf
  have hx := X.1.1
  have hb := X.1.2.1
  have hl : lv_has ls 4 [(0, .ref (φ 0)), (1, .int (a1)), (2, .int (a2)), (3, .int (a3))] := hl
  refine lv_iload_n hx hb dX11_note_0 rfl (lv_at hl 1 rfl) ?_
  refine lv_iconst (v := 0) hx hb dX11_note_1 (by decide) ?_
  refine lv_iconst (v := 5) hx hb dX11_note_2 (by decide) ?_
  refine c_S0 (As := [.int (a1), .int (0), .int (5)]) (rest := []) X hl.1 (c_X11_within l X.2.2.2.1.1 hn rfl) (w_X11_127) qw_933 ⟨Nat.le_of_ble_eq_true rfl, Nat.le_of_ble_eq_true rfl⟩ rfl rfl hP hS (Nat.le_of_ble_eq_true rfl) dX11_note_3 (fun H locs hP hS => ?_)
  refine lv_if_eq (tgt := 29) hx hb dX11_note_6 (by decide) (fun c_1 => ?_) (fun c_1 => ?_)
  · rw [if_pos c_1] at h
    refine lv_bipush (v := (-2)) hx hb dX11_note_29 (by decide) ?_
    obtain rfl := Option.some.inj h
    exact W.iret hx hb hr (r_end X hP hS) hS.2.2 dX11_note_31 (hlocks := hlk)
  · rw [if_neg c_1] at h
    refine lv_iload_n hx hb dX11_note_9 rfl (lv_at hl 2 rfl) ?_
    refine lv_iconst (v := 0) hx hb dX11_note_10 (by decide) ?_
    refine lv_bipush (v := 47) hx hb dX11_note_11 (by decide) ?_
    refine c_S0 (As := [.int (a2), .int (0), .int (47)]) (rest := []) X hl.1 (c_X11_within l X.2.2.2.1.1 hn rfl) (w_X11_127) qw_933 ⟨Nat.le_of_ble_eq_true rfl, Nat.le_of_ble_eq_true rfl⟩ rfl rfl hP hS (Nat.le_of_ble_eq_true rfl) dX11_note_13 (fun H locs hP hS => ?_)
    refine lv_if_eq (tgt := 29) hx hb dX11_note_16 (by decide) (fun c_2 => ?_) (fun c_2 => ?_)
    · rw [if_pos c_2] at h
      refine lv_bipush (v := (-2)) hx hb dX11_note_29 (by decide) ?_
      obtain rfl := Option.some.inj h
      exact W.iret hx hb hr (r_end X hP hS) hS.2.2 dX11_note_31 (hlocks := hlk)
    · rw [if_neg c_2] at h
      refine lv_iload_n hx hb dX11_note_19 rfl (lv_at hl 3 rfl) ?_
      refine lv_iconst (v := 0) hx hb dX11_note_20 (by decide) ?_
      refine lv_bipush (v := 39) hx hb dX11_note_21 (by decide) ?_
      refine c_S0 (As := [.int (a3), .int (0), .int (39)]) (rest := []) X hl.1 (c_X11_within l X.2.2.2.1.1 hn rfl) (w_X11_127) qw_933 ⟨Nat.le_of_ble_eq_true rfl, Nat.le_of_ble_eq_true rfl⟩ rfl rfl hP hS (Nat.le_of_ble_eq_true rfl) dX11_note_23 (fun H locs hP hS => ?_)
      refine lv_if_ne (tgt := 32) hx hb dX11_note_26 (by decide) (fun c_3 => ?_) (fun c_3 => ?_)
      · rw [if_neg c_3] at h
        refine lv_aload_n hx hb dX11_note_32 rfl (lv_at hl 0 rfl) ?_
        refine G_X11_131 X.1 hn hP dX11_note_33 ?_
        refine lv_bipush (v := 10) hx hb dX11_note_36 (by decide) ?_
        refine lv_icmp_ne (tgt := 44) hx hb dX11_note_38 (by decide) (fun c_4 => ?_) (fun c_4 => ?_)
        · rw [if_neg c_4] at h
          refine lv_aload_n hx hb dX11_note_44 rfl (lv_at hl 0 rfl) ?_
          refine G_X11_22 X.1 hn hP dX11_note_45 ?_
          refine lv_aload_n hx hb dX11_note_48 rfl (lv_at hl 0 rfl) ?_
          refine G_X11_131 X.1 hn hP dX11_note_49 ?_
          refine lv_iload_n hx hb dX11_note_52 rfl (lv_at hl 1 rfl) ?_
          obtain ⟨c_5, h⟩ := og h
          refine r_iast (k := (Int32.toNatClampNeg ((M 0 5)))) X.1 X.2.2.2.1 hP hS (by omega) sM_kind rfl (vin c_5) dX11_note_53 (fun H locs hP hS => ?_)
          refine lv_aload_n hx hb dX11_note_54 rfl (lv_at hl 0 rfl) ?_
          refine G_X11_25 X.1 hn hP dX11_note_55 ?_
          refine lv_aload_n hx hb dX11_note_58 rfl (lv_at hl 0 rfl) ?_
          refine G_X11_131 X.1 hn hP dX11_note_59 ?_
          refine lv_iload_n hx hb dX11_note_62 rfl (lv_at hl 2 rfl) ?_
          obtain ⟨c_6, h⟩ := og h
          refine r_iast (k := (Int32.toNatClampNeg (((upd2 M 5 (Int32.toNatClampNeg ((M 0 5))) (a1)) 0 5)))) X.1 X.2.2.2.1 hP hS (by omega) sM_hour rfl (vin c_6) dX11_note_63 (fun H locs hP hS => ?_)
          refine lv_aload_n hx hb dX11_note_64 rfl (lv_at hl 0 rfl) ?_
          refine G_X11_28 X.1 hn hP dX11_note_65 ?_
          refine lv_aload_n hx hb dX11_note_68 rfl (lv_at hl 0 rfl) ?_
          refine G_X11_131 X.1 hn hP dX11_note_69 ?_
          refine lv_iload_n hx hb dX11_note_72 rfl (lv_at hl 3 rfl) ?_
          refine lv_bipush (v := 10) hx hb dX11_note_73 (by decide) ?_
          refine lv_idiv hx hb dX11_note_75 (by decide) ?_
          obtain ⟨c_7, h⟩ := og h
          refine r_iast (k := (Int32.toNatClampNeg (((upd2 (upd2 M 5 (Int32.toNatClampNeg ((M 0 5))) (a1)) 6 (Int32.toNatClampNeg (((upd2 M 5 (Int32.toNatClampNeg ((M 0 5))) (a1)) 0 5))) (a2)) 0 5)))) X.1 X.2.2.2.1 hP hS (by omega) sM_thing rfl (vin c_7) dX11_note_76 (fun H locs hP hS => ?_)
          refine lv_aload_n hx hb dX11_note_77 rfl (lv_at hl 0 rfl) ?_
          refine G_X11_31 X.1 hn hP dX11_note_78 ?_
          refine lv_aload_n hx hb dX11_note_81 rfl (lv_at hl 0 rfl) ?_
          refine G_X11_131 X.1 hn hP dX11_note_82 ?_
          refine lv_iload_n hx hb dX11_note_85 rfl (lv_at hl 3 rfl) ?_
          refine lv_bipush (v := 10) hx hb dX11_note_86 (by decide) ?_
          refine lv_irem hx hb dX11_note_88 (by decide) ?_
          obtain ⟨c_8, h⟩ := og h
          refine r_iast (k := (Int32.toNatClampNeg (((upd2 (upd2 (upd2 M 5 (Int32.toNatClampNeg ((M 0 5))) (a1)) 6 (Int32.toNatClampNeg (((upd2 M 5 (Int32.toNatClampNeg ((M 0 5))) (a1)) 0 5))) (a2)) 7 (Int32.toNatClampNeg (((upd2 (upd2 M 5 (Int32.toNatClampNeg ((M 0 5))) (a1)) 6 (Int32.toNatClampNeg (((upd2 M 5 (Int32.toNatClampNeg ((M 0 5))) (a1)) 0 5))) (a2)) 0 5))) ((a3 / 10))) 0 5)))) X.1 X.2.2.2.1 hP hS (by omega) sM_number rfl (vin c_8) dX11_note_89 (fun H locs hP hS => ?_)
          refine lv_aload_n hx hb dX11_note_90 rfl (lv_at hl 0 rfl) ?_
          refine lv_dup hx hb dX11_note_91 rfl ?_
          refine G_X11_131 X.1 hn hP dX11_note_92 ?_
          refine lv_dup_x1 hx hb dX11_note_95 rfl rfl ?_
          refine lv_iconst (v := 1) hx hb dX11_note_96 (by decide) ?_
          refine lv_iadd hx hb dX11_note_97 ?_
          refine P_X11_131 X.1 hn X.2.2.2.1 hP hS dX11_note_98 (fun H locs hP hS => ?_)
          obtain rfl := Option.some.inj h
          exact W.iret hx hb hr (r_end X hP hS) hS.2.2 dX11_note_101 (hlocks := hlk)
        · rw [if_pos c_4] at h
          refine lv_bipush (v := (-4)) hx hb dX11_note_41 (by decide) ?_
          obtain rfl := Option.some.inj h
          exact W.iret hx hb hr (r_end X hP hS) hS.2.2 dX11_note_43 (hlocks := hlk)
      · rw [if_pos c_3] at h
        refine lv_bipush (v := (-2)) hx hb dX11_note_29 (by decide) ?_
        obtain rfl := Option.some.inj h
        exact W.iret hx hb hr (r_end X hP hS) hS.2.2 dX11_note_31 (hlocks := hlk)

def f_X11_set (M : Mem) (a1 : Int32) (a2 : Int32) (a3 : Int32) : Option (Int32 × Mem) :=
  (if (f_X11_within (a1) (0) (4)) = 0 then some (((-2), M)) else (if a1 = 4 then (if (f_X11_isNote M (a2)) = 0 then some (((-2), M)) else (if Int32.toInt (a1) < 0 ∨ 3 < Int32.toInt (a1) then (if (f_X11_within (a3) (0) (47)) = 0 then some (((-2), M)) else (if ibd (a2) 10 then (if ibd (a2) 10 then some (((M 6 (Int32.toNatClampNeg (a2))), (upd2 M 6 (Int32.toNatClampNeg (a2)) (a3)))) else none) else none)) else (if a1 = 0 then (if (f_X11_within (a3) (0) (47)) = 0 then some (((-2), M)) else (if ibd (a2) 5 then (if ibd (a2) 5 then some (((M 1 (Int32.toNatClampNeg (a2))), (upd2 M 1 (Int32.toNatClampNeg (a2)) (a3)))) else none) else none)) else (if a1 = 1 then (if (f_X11_within (a3) (1) (24)) = 0 then some (((-2), M)) else (if ibd (a2) 5 then (if ibd (a2) 5 then some (((M 2 (Int32.toNatClampNeg (a2))), (upd2 M 2 (Int32.toNatClampNeg (a2)) (a3)))) else none) else none)) else (if a1 = 2 then (if (f_X11_within (a3) (0) (12)) = 0 then some (((-2), M)) else (if ibd (a2) 5 then (if ibd (a2) 5 then some (((M 3 (Int32.toNatClampNeg (a2))), (upd2 M 3 (Int32.toNatClampNeg (a2)) (a3)))) else none) else none)) else (if a1 = 3 then (if (f_X11_within (a3) (0) (9)) = 0 then some (((-2), M)) else (if ibd (a2) 5 then (if ibd (a2) 5 then some (((M 4 (Int32.toNatClampNeg (a2))), (upd2 M 4 (Int32.toNatClampNeg (a2)) (a3)))) else none) else none)) else none)))))) else (if (f_X11_isPerson M (a2)) = 0 then some (((-2), M)) else (if Int32.toInt (a1) < 0 ∨ 3 < Int32.toInt (a1) then (if (f_X11_within (a3) (0) (47)) = 0 then some (((-2), M)) else (if ibd (a2) 10 then (if ibd (a2) 10 then some (((M 6 (Int32.toNatClampNeg (a2))), (upd2 M 6 (Int32.toNatClampNeg (a2)) (a3)))) else none) else none)) else (if a1 = 0 then (if (f_X11_within (a3) (0) (47)) = 0 then some (((-2), M)) else (if ibd (a2) 5 then (if ibd (a2) 5 then some (((M 1 (Int32.toNatClampNeg (a2))), (upd2 M 1 (Int32.toNatClampNeg (a2)) (a3)))) else none) else none)) else (if a1 = 1 then (if (f_X11_within (a3) (1) (24)) = 0 then some (((-2), M)) else (if ibd (a2) 5 then (if ibd (a2) 5 then some (((M 2 (Int32.toNatClampNeg (a2))), (upd2 M 2 (Int32.toNatClampNeg (a2)) (a3)))) else none) else none)) else (if a1 = 2 then (if (f_X11_within (a3) (0) (12)) = 0 then some (((-2), M)) else (if ibd (a2) 5 then (if ibd (a2) 5 then some (((M 3 (Int32.toNatClampNeg (a2))), (upd2 M 3 (Int32.toNatClampNeg (a2)) (a3)))) else none) else none)) else (if a1 = 3 then (if (f_X11_within (a3) (0) (9)) = 0 then some (((-2), M)) else (if ibd (a2) 5 then (if ibd (a2) 5 then some (((M 4 (Int32.toNatClampNeg (a2))), (upd2 M 4 (Int32.toNatClampNeg (a2)) (a3)))) else none) else none)) else none))))))))
set_option maxRecDepth 100000 in
set_option maxHeartbeats 4000000 in
theorem c_X11_set (l : Launch) {G : GT} {φ : Nat → Nat} {n : Nat} {M : Mem} {L : Nat → Int64} {a1 : Int32} {a2 : Int32} {a3 : Int32} (hI : wI φ n) (hn : 32 ≤ n) {r : Int32 × Mem} (h : f_X11_set M a1 a2 a3 = some r) : CT l yX11_set cX11_set 5 (some .int) ({ frames := 2, cells := 0, slots := 0, locals := 43 } : Room) [.ref (φ 0), .int (a1), .int (a2), .int (a3)] (WB (cM G φ L) φ M n G) (some (.int r.1)) (WB (cM G φ L) φ (r.2) n G) φ n := by
  unfold f_X11_set at h
  refine r_start (plainFor_of_name (by decide)) (Nat.le_of_ble_eq_true rfl) hI ?_
  intro p e s m args below meth c ls X hr hlk hP hl
  have hS : va_S (wA φ n s.heap.size) s.heap s.heap [] := va_S.rf
  have hx := X.1.1
  have hb := X.1.2.1
  have hl : lv_has ls 5 [(0, .ref (φ 0)), (1, .int (a1)), (2, .int (a2)), (3, .int (a3))] := hl
  refine lv_iload_n hx hb dX11_set_0 rfl (lv_at hl 1 rfl) ?_
  refine lv_iconst (v := 0) hx hb dX11_set_1 (by decide) ?_
  refine lv_iconst (v := 4) hx hb dX11_set_2 (by decide) ?_
  refine c_S0 (As := [.int (a1), .int (0), .int (4)]) (rest := []) X hl.1 (c_X11_within l X.2.2.2.1.1 hn rfl) (w_X11_127) qw_933 ⟨Nat.le_of_ble_eq_true rfl, Nat.le_of_ble_eq_true rfl⟩ rfl rfl hP hS (Nat.le_of_ble_eq_true rfl) dX11_set_3 (fun H locs hP hS => ?_)
  refine lv_if_ne (tgt := 12) hx hb dX11_set_6 (by decide) (fun c_1 => ?_) (fun c_1 => ?_)
  · rw [if_neg c_1] at h
    refine lv_iload_n hx hb dX11_set_12 rfl (lv_at hl 1 rfl) ?_
    refine lv_iconst (v := 4) hx hb dX11_set_13 (by decide) ?_
    refine lv_icmp_ne (tgt := 28) hx hb dX11_set_14 (by decide) (fun c_2 => ?_) (fun c_2 => ?_)
    · rw [if_neg c_2] at h
      refine lv_aload_n hx hb dX11_set_28 rfl (lv_at hl 0 rfl) ?_
      refine lv_iload_n hx hb dX11_set_29 rfl (lv_at hl 2 rfl) ?_
      refine c_V0 (As := [.int (a2)]) (rest := []) (a := 0) X hl.1 (c_X11_isPerson l X.2.2.2.1.1 hn rfl) (w_X11_138) qw_1169 qw_45 ⟨Nat.le_of_ble_eq_true rfl, Nat.le_of_ble_eq_true rfl⟩ rfl rfl hP hS (by omega) sM_Model rfl rfl (Nat.le_of_ble_eq_true rfl) dX11_set_30 (fun H locs hP hS => ?_)
      refine lv_if_ne (tgt := 39) hx hb dX11_set_33 (by decide) (fun c_3 => ?_) (fun c_3 => ?_)
      · rw [if_neg c_3] at h
        refine lv_iload_n hx hb dX11_set_39 rfl (lv_at hl 1 rfl) ?_
        by_cases c_4 : Int32.toInt (a1) < 0 ∨ 3 < Int32.toInt (a1)
        · rw [if_pos c_4] at h
          refine lv_tableOut (tgt := 196) hx hb dX11_set_40 c_4 (by decide) ?_
          refine lv_iload_n hx hb dX11_set_196 rfl (lv_at hl 3 rfl) ?_
          refine lv_iconst (v := 0) hx hb dX11_set_197 (by decide) ?_
          refine lv_bipush (v := 47) hx hb dX11_set_198 (by decide) ?_
          refine c_S0 (As := [.int (a3), .int (0), .int (47)]) (rest := []) X hl.1 (c_X11_within l X.2.2.2.1.1 hn rfl) (w_X11_127) qw_933 ⟨Nat.le_of_ble_eq_true rfl, Nat.le_of_ble_eq_true rfl⟩ rfl rfl hP hS (Nat.le_of_ble_eq_true rfl) dX11_set_200 (fun H locs hP hS => ?_)
          refine lv_if_ne (tgt := 209) hx hb dX11_set_203 (by decide) (fun c_5 => ?_) (fun c_5 => ?_)
          · rw [if_neg c_5] at h
            refine lv_aload_n hx hb dX11_set_209 rfl (lv_at hl 0 rfl) ?_
            refine G_X11_25 X.1 hn hP dX11_set_210 ?_
            refine lv_iload_n hx hb dX11_set_213 rfl (lv_at hl 2 rfl) ?_
            obtain ⟨c_6, h⟩ := og h
            refine r_iald (k := (Int32.toNatClampNeg (a2))) X.1 hP (by omega) sM_hour rfl (vin c_6) dX11_set_214 ?_
            refine lv_istore (lv' := [(4, .int ((M 6 (Int32.toNatClampNeg (a2))))), (0, .ref (φ 0)), (1, .int (a1)), (2, .int (a2)), (3, .int (a3))]) hx hb dX11_set_215 hl (by decide) rfl (fun ls hl => ?_)
            refine lv_aload_n hx hb dX11_set_217 rfl (lv_at hl 1 rfl) ?_
            refine G_X11_25 X.1 hn hP dX11_set_218 ?_
            refine lv_iload_n hx hb dX11_set_221 rfl (lv_at hl 3 rfl) ?_
            refine lv_iload_n hx hb dX11_set_222 rfl (lv_at hl 4 rfl) ?_
            obtain ⟨c_7, h⟩ := og h
            refine r_iast (k := (Int32.toNatClampNeg (a2))) X.1 X.2.2.2.1 hP hS (by omega) sM_hour rfl (vin c_7) dX11_set_223 (fun H locs hP hS => ?_)
            refine lv_iload hx hb dX11_set_224 (lv_at hl 0 rfl) ?_
            obtain rfl := Option.some.inj h
            exact W.iret hx hb hr (r_end X hP hS) hS.2.2 dX11_set_226 (hlocks := hlk)
          · rw [if_pos c_5] at h
            refine lv_bipush (v := (-2)) hx hb dX11_set_206 (by decide) ?_
            obtain rfl := Option.some.inj h
            exact W.iret hx hb hr (r_end X hP hS) hS.2.2 dX11_set_208 (hlocks := hlk)
        · rw [if_neg c_4] at h
          by_cases c_8 : a1 = 0
          · rw [if_pos c_8] at h
            refine lv_tableIn (tgt := 72) (off := 32) hx hb dX11_set_40 (fun q => c_4 (Or.inl q)) (fun q => c_4 (Or.inr q)) (by rw [c_8]; rfl) (by decide) ?_
            refine lv_iload_n hx hb dX11_set_72 rfl (lv_at hl 3 rfl) ?_
            refine lv_iconst (v := 0) hx hb dX11_set_73 (by decide) ?_
            refine lv_bipush (v := 47) hx hb dX11_set_74 (by decide) ?_
            refine c_S0 (As := [.int (a3), .int (0), .int (47)]) (rest := []) X hl.1 (c_X11_within l X.2.2.2.1.1 hn rfl) (w_X11_127) qw_933 ⟨Nat.le_of_ble_eq_true rfl, Nat.le_of_ble_eq_true rfl⟩ rfl rfl hP hS (Nat.le_of_ble_eq_true rfl) dX11_set_76 (fun H locs hP hS => ?_)
            refine lv_if_ne (tgt := 85) hx hb dX11_set_79 (by decide) (fun c_9 => ?_) (fun c_9 => ?_)
            · rw [if_neg c_9] at h
              refine lv_aload_n hx hb dX11_set_85 rfl (lv_at hl 0 rfl) ?_
              refine G_X11_7 X.1 hn hP dX11_set_86 ?_
              refine lv_iload_n hx hb dX11_set_89 rfl (lv_at hl 2 rfl) ?_
              obtain ⟨c_10, h⟩ := og h
              refine r_iald (k := (Int32.toNatClampNeg (a2))) X.1 hP (by omega) sM_first rfl (vin c_10) dX11_set_90 ?_
              refine lv_istore (lv' := [(4, .int ((M 1 (Int32.toNatClampNeg (a2))))), (0, .ref (φ 0)), (1, .int (a1)), (2, .int (a2)), (3, .int (a3))]) hx hb dX11_set_91 hl (by decide) rfl (fun ls hl => ?_)
              refine lv_aload_n hx hb dX11_set_93 rfl (lv_at hl 1 rfl) ?_
              refine G_X11_7 X.1 hn hP dX11_set_94 ?_
              refine lv_iload_n hx hb dX11_set_97 rfl (lv_at hl 3 rfl) ?_
              refine lv_iload_n hx hb dX11_set_98 rfl (lv_at hl 4 rfl) ?_
              obtain ⟨c_11, h⟩ := og h
              refine r_iast (k := (Int32.toNatClampNeg (a2))) X.1 X.2.2.2.1 hP hS (by omega) sM_first rfl (vin c_11) dX11_set_99 (fun H locs hP hS => ?_)
              refine lv_iload hx hb dX11_set_100 (lv_at hl 0 rfl) ?_
              obtain rfl := Option.some.inj h
              exact W.iret hx hb hr (r_end X hP hS) hS.2.2 dX11_set_102 (hlocks := hlk)
            · rw [if_pos c_9] at h
              refine lv_bipush (v := (-2)) hx hb dX11_set_82 (by decide) ?_
              obtain rfl := Option.some.inj h
              exact W.iret hx hb hr (r_end X hP hS) hS.2.2 dX11_set_84 (hlocks := hlk)
          · rw [if_neg c_8] at h
            by_cases c_12 : a1 = 1
            · rw [if_pos c_12] at h
              refine lv_tableIn (tgt := 103) (off := 63) hx hb dX11_set_40 (fun q => c_4 (Or.inl q)) (fun q => c_4 (Or.inr q)) (by rw [c_12]; rfl) (by decide) ?_
              refine lv_iload_n hx hb dX11_set_103 rfl (lv_at hl 3 rfl) ?_
              refine lv_iconst (v := 1) hx hb dX11_set_104 (by decide) ?_
              refine lv_bipush (v := 24) hx hb dX11_set_105 (by decide) ?_
              refine c_S0 (As := [.int (a3), .int (1), .int (24)]) (rest := []) X hl.1 (c_X11_within l X.2.2.2.1.1 hn rfl) (w_X11_127) qw_933 ⟨Nat.le_of_ble_eq_true rfl, Nat.le_of_ble_eq_true rfl⟩ rfl rfl hP hS (Nat.le_of_ble_eq_true rfl) dX11_set_107 (fun H locs hP hS => ?_)
              refine lv_if_ne (tgt := 116) hx hb dX11_set_110 (by decide) (fun c_13 => ?_) (fun c_13 => ?_)
              · rw [if_neg c_13] at h
                refine lv_aload_n hx hb dX11_set_116 rfl (lv_at hl 0 rfl) ?_
                refine G_X11_13 X.1 hn hP dX11_set_117 ?_
                refine lv_iload_n hx hb dX11_set_120 rfl (lv_at hl 2 rfl) ?_
                obtain ⟨c_14, h⟩ := og h
                refine r_iald (k := (Int32.toNatClampNeg (a2))) X.1 hP (by omega) sM_every rfl (vin c_14) dX11_set_121 ?_
                refine lv_istore (lv' := [(4, .int ((M 2 (Int32.toNatClampNeg (a2))))), (0, .ref (φ 0)), (1, .int (a1)), (2, .int (a2)), (3, .int (a3))]) hx hb dX11_set_122 hl (by decide) rfl (fun ls hl => ?_)
                refine lv_aload_n hx hb dX11_set_124 rfl (lv_at hl 1 rfl) ?_
                refine G_X11_13 X.1 hn hP dX11_set_125 ?_
                refine lv_iload_n hx hb dX11_set_128 rfl (lv_at hl 3 rfl) ?_
                refine lv_iload_n hx hb dX11_set_129 rfl (lv_at hl 4 rfl) ?_
                obtain ⟨c_15, h⟩ := og h
                refine r_iast (k := (Int32.toNatClampNeg (a2))) X.1 X.2.2.2.1 hP hS (by omega) sM_every rfl (vin c_15) dX11_set_130 (fun H locs hP hS => ?_)
                refine lv_iload hx hb dX11_set_131 (lv_at hl 0 rfl) ?_
                obtain rfl := Option.some.inj h
                exact W.iret hx hb hr (r_end X hP hS) hS.2.2 dX11_set_133 (hlocks := hlk)
              · rw [if_pos c_13] at h
                refine lv_bipush (v := (-2)) hx hb dX11_set_113 (by decide) ?_
                obtain rfl := Option.some.inj h
                exact W.iret hx hb hr (r_end X hP hS) hS.2.2 dX11_set_115 (hlocks := hlk)
            · rw [if_neg c_12] at h
              by_cases c_16 : a1 = 2
              · rw [if_pos c_16] at h
                refine lv_tableIn (tgt := 134) (off := 94) hx hb dX11_set_40 (fun q => c_4 (Or.inl q)) (fun q => c_4 (Or.inr q)) (by rw [c_16]; rfl) (by decide) ?_
                refine lv_iload_n hx hb dX11_set_134 rfl (lv_at hl 3 rfl) ?_
                refine lv_iconst (v := 0) hx hb dX11_set_135 (by decide) ?_
                refine lv_bipush (v := 12) hx hb dX11_set_136 (by decide) ?_
                refine c_S0 (As := [.int (a3), .int (0), .int (12)]) (rest := []) X hl.1 (c_X11_within l X.2.2.2.1.1 hn rfl) (w_X11_127) qw_933 ⟨Nat.le_of_ble_eq_true rfl, Nat.le_of_ble_eq_true rfl⟩ rfl rfl hP hS (Nat.le_of_ble_eq_true rfl) dX11_set_138 (fun H locs hP hS => ?_)
                refine lv_if_ne (tgt := 147) hx hb dX11_set_141 (by decide) (fun c_17 => ?_) (fun c_17 => ?_)
                · rw [if_neg c_17] at h
                  refine lv_aload_n hx hb dX11_set_147 rfl (lv_at hl 0 rfl) ?_
                  refine G_X11_16 X.1 hn hP dX11_set_148 ?_
                  refine lv_iload_n hx hb dX11_set_151 rfl (lv_at hl 2 rfl) ?_
                  obtain ⟨c_18, h⟩ := og h
                  refine r_iald (k := (Int32.toNatClampNeg (a2))) X.1 hP (by omega) sM_reads rfl (vin c_18) dX11_set_152 ?_
                  refine lv_istore (lv' := [(4, .int ((M 3 (Int32.toNatClampNeg (a2))))), (0, .ref (φ 0)), (1, .int (a1)), (2, .int (a2)), (3, .int (a3))]) hx hb dX11_set_153 hl (by decide) rfl (fun ls hl => ?_)
                  refine lv_aload_n hx hb dX11_set_155 rfl (lv_at hl 1 rfl) ?_
                  refine G_X11_16 X.1 hn hP dX11_set_156 ?_
                  refine lv_iload_n hx hb dX11_set_159 rfl (lv_at hl 3 rfl) ?_
                  refine lv_iload_n hx hb dX11_set_160 rfl (lv_at hl 4 rfl) ?_
                  obtain ⟨c_19, h⟩ := og h
                  refine r_iast (k := (Int32.toNatClampNeg (a2))) X.1 X.2.2.2.1 hP hS (by omega) sM_reads rfl (vin c_19) dX11_set_161 (fun H locs hP hS => ?_)
                  refine lv_iload hx hb dX11_set_162 (lv_at hl 0 rfl) ?_
                  obtain rfl := Option.some.inj h
                  exact W.iret hx hb hr (r_end X hP hS) hS.2.2 dX11_set_164 (hlocks := hlk)
                · rw [if_pos c_17] at h
                  refine lv_bipush (v := (-2)) hx hb dX11_set_144 (by decide) ?_
                  obtain rfl := Option.some.inj h
                  exact W.iret hx hb hr (r_end X hP hS) hS.2.2 dX11_set_146 (hlocks := hlk)
              · rw [if_neg c_16] at h
                by_cases c_20 : a1 = 3
                · rw [if_pos c_20] at h
                  refine lv_tableIn (tgt := 165) (off := 125) hx hb dX11_set_40 (fun q => c_4 (Or.inl q)) (fun q => c_4 (Or.inr q)) (by rw [c_20]; rfl) (by decide) ?_
                  refine lv_iload_n hx hb dX11_set_165 rfl (lv_at hl 3 rfl) ?_
                  refine lv_iconst (v := 0) hx hb dX11_set_166 (by decide) ?_
                  refine lv_bipush (v := 9) hx hb dX11_set_167 (by decide) ?_
                  refine c_S0 (As := [.int (a3), .int (0), .int (9)]) (rest := []) X hl.1 (c_X11_within l X.2.2.2.1.1 hn rfl) (w_X11_127) qw_933 ⟨Nat.le_of_ble_eq_true rfl, Nat.le_of_ble_eq_true rfl⟩ rfl rfl hP hS (Nat.le_of_ble_eq_true rfl) dX11_set_169 (fun H locs hP hS => ?_)
                  refine lv_if_ne (tgt := 178) hx hb dX11_set_172 (by decide) (fun c_21 => ?_) (fun c_21 => ?_)
                  · rw [if_neg c_21] at h
                    refine lv_aload_n hx hb dX11_set_178 rfl (lv_at hl 0 rfl) ?_
                    refine G_X11_19 X.1 hn hP dX11_set_179 ?_
                    refine lv_iload_n hx hb dX11_set_182 rfl (lv_at hl 2 rfl) ?_
                    obtain ⟨c_22, h⟩ := og h
                    refine r_iald (k := (Int32.toNatClampNeg (a2))) X.1 hP (by omega) sM_temper rfl (vin c_22) dX11_set_183 ?_
                    refine lv_istore (lv' := [(4, .int ((M 4 (Int32.toNatClampNeg (a2))))), (0, .ref (φ 0)), (1, .int (a1)), (2, .int (a2)), (3, .int (a3))]) hx hb dX11_set_184 hl (by decide) rfl (fun ls hl => ?_)
                    refine lv_aload_n hx hb dX11_set_186 rfl (lv_at hl 1 rfl) ?_
                    refine G_X11_19 X.1 hn hP dX11_set_187 ?_
                    refine lv_iload_n hx hb dX11_set_190 rfl (lv_at hl 3 rfl) ?_
                    refine lv_iload_n hx hb dX11_set_191 rfl (lv_at hl 4 rfl) ?_
                    obtain ⟨c_23, h⟩ := og h
                    refine r_iast (k := (Int32.toNatClampNeg (a2))) X.1 X.2.2.2.1 hP hS (by omega) sM_temper rfl (vin c_23) dX11_set_192 (fun H locs hP hS => ?_)
                    refine lv_iload hx hb dX11_set_193 (lv_at hl 0 rfl) ?_
                    obtain rfl := Option.some.inj h
                    exact W.iret hx hb hr (r_end X hP hS) hS.2.2 dX11_set_195 (hlocks := hlk)
                  · rw [if_pos c_21] at h
                    refine lv_bipush (v := (-2)) hx hb dX11_set_175 (by decide) ?_
                    obtain rfl := Option.some.inj h
                    exact W.iret hx hb hr (r_end X hP hS) hS.2.2 dX11_set_177 (hlocks := hlk)
                · rw [if_neg c_20] at h
                  cases h
      · rw [if_pos c_3] at h
        refine lv_bipush (v := (-2)) hx hb dX11_set_36 (by decide) ?_
        obtain rfl := Option.some.inj h
        exact W.iret hx hb hr (r_end X hP hS) hS.2.2 dX11_set_38 (hlocks := hlk)
    · rw [if_pos c_2] at h
      refine lv_aload_n hx hb dX11_set_17 rfl (lv_at hl 0 rfl) ?_
      refine lv_iload_n hx hb dX11_set_18 rfl (lv_at hl 2 rfl) ?_
      refine c_V0 (As := [.int (a2)]) (rest := []) (a := 0) X hl.1 (c_X11_isNote l X.2.2.2.1.1 hn rfl) (w_X11_134) qw_1165 qw_44 ⟨Nat.le_of_ble_eq_true rfl, Nat.le_of_ble_eq_true rfl⟩ rfl rfl hP hS (by omega) sM_Model rfl rfl (Nat.le_of_ble_eq_true rfl) dX11_set_19 (fun H locs hP hS => ?_)
      refine lv_if_ne (tgt := 39) hx hb dX11_set_22 (by decide) (fun c_24 => ?_) (fun c_24 => ?_)
      · rw [if_neg c_24] at h
        refine lv_iload_n hx hb dX11_set_39 rfl (lv_at hl 1 rfl) ?_
        by_cases c_25 : Int32.toInt (a1) < 0 ∨ 3 < Int32.toInt (a1)
        · rw [if_pos c_25] at h
          refine lv_tableOut (tgt := 196) hx hb dX11_set_40 c_25 (by decide) ?_
          refine lv_iload_n hx hb dX11_set_196 rfl (lv_at hl 3 rfl) ?_
          refine lv_iconst (v := 0) hx hb dX11_set_197 (by decide) ?_
          refine lv_bipush (v := 47) hx hb dX11_set_198 (by decide) ?_
          refine c_S0 (As := [.int (a3), .int (0), .int (47)]) (rest := []) X hl.1 (c_X11_within l X.2.2.2.1.1 hn rfl) (w_X11_127) qw_933 ⟨Nat.le_of_ble_eq_true rfl, Nat.le_of_ble_eq_true rfl⟩ rfl rfl hP hS (Nat.le_of_ble_eq_true rfl) dX11_set_200 (fun H locs hP hS => ?_)
          refine lv_if_ne (tgt := 209) hx hb dX11_set_203 (by decide) (fun c_26 => ?_) (fun c_26 => ?_)
          · rw [if_neg c_26] at h
            refine lv_aload_n hx hb dX11_set_209 rfl (lv_at hl 0 rfl) ?_
            refine G_X11_25 X.1 hn hP dX11_set_210 ?_
            refine lv_iload_n hx hb dX11_set_213 rfl (lv_at hl 2 rfl) ?_
            obtain ⟨c_27, h⟩ := og h
            refine r_iald (k := (Int32.toNatClampNeg (a2))) X.1 hP (by omega) sM_hour rfl (vin c_27) dX11_set_214 ?_
            refine lv_istore (lv' := [(4, .int ((M 6 (Int32.toNatClampNeg (a2))))), (0, .ref (φ 0)), (1, .int (a1)), (2, .int (a2)), (3, .int (a3))]) hx hb dX11_set_215 hl (by decide) rfl (fun ls hl => ?_)
            refine lv_aload_n hx hb dX11_set_217 rfl (lv_at hl 1 rfl) ?_
            refine G_X11_25 X.1 hn hP dX11_set_218 ?_
            refine lv_iload_n hx hb dX11_set_221 rfl (lv_at hl 3 rfl) ?_
            refine lv_iload_n hx hb dX11_set_222 rfl (lv_at hl 4 rfl) ?_
            obtain ⟨c_28, h⟩ := og h
            refine r_iast (k := (Int32.toNatClampNeg (a2))) X.1 X.2.2.2.1 hP hS (by omega) sM_hour rfl (vin c_28) dX11_set_223 (fun H locs hP hS => ?_)
            refine lv_iload hx hb dX11_set_224 (lv_at hl 0 rfl) ?_
            obtain rfl := Option.some.inj h
            exact W.iret hx hb hr (r_end X hP hS) hS.2.2 dX11_set_226 (hlocks := hlk)
          · rw [if_pos c_26] at h
            refine lv_bipush (v := (-2)) hx hb dX11_set_206 (by decide) ?_
            obtain rfl := Option.some.inj h
            exact W.iret hx hb hr (r_end X hP hS) hS.2.2 dX11_set_208 (hlocks := hlk)
        · rw [if_neg c_25] at h
          by_cases c_29 : a1 = 0
          · rw [if_pos c_29] at h
            refine lv_tableIn (tgt := 72) (off := 32) hx hb dX11_set_40 (fun q => c_25 (Or.inl q)) (fun q => c_25 (Or.inr q)) (by rw [c_29]; rfl) (by decide) ?_
            refine lv_iload_n hx hb dX11_set_72 rfl (lv_at hl 3 rfl) ?_
            refine lv_iconst (v := 0) hx hb dX11_set_73 (by decide) ?_
            refine lv_bipush (v := 47) hx hb dX11_set_74 (by decide) ?_
            refine c_S0 (As := [.int (a3), .int (0), .int (47)]) (rest := []) X hl.1 (c_X11_within l X.2.2.2.1.1 hn rfl) (w_X11_127) qw_933 ⟨Nat.le_of_ble_eq_true rfl, Nat.le_of_ble_eq_true rfl⟩ rfl rfl hP hS (Nat.le_of_ble_eq_true rfl) dX11_set_76 (fun H locs hP hS => ?_)
            refine lv_if_ne (tgt := 85) hx hb dX11_set_79 (by decide) (fun c_30 => ?_) (fun c_30 => ?_)
            · rw [if_neg c_30] at h
              refine lv_aload_n hx hb dX11_set_85 rfl (lv_at hl 0 rfl) ?_
              refine G_X11_7 X.1 hn hP dX11_set_86 ?_
              refine lv_iload_n hx hb dX11_set_89 rfl (lv_at hl 2 rfl) ?_
              obtain ⟨c_31, h⟩ := og h
              refine r_iald (k := (Int32.toNatClampNeg (a2))) X.1 hP (by omega) sM_first rfl (vin c_31) dX11_set_90 ?_
              refine lv_istore (lv' := [(4, .int ((M 1 (Int32.toNatClampNeg (a2))))), (0, .ref (φ 0)), (1, .int (a1)), (2, .int (a2)), (3, .int (a3))]) hx hb dX11_set_91 hl (by decide) rfl (fun ls hl => ?_)
              refine lv_aload_n hx hb dX11_set_93 rfl (lv_at hl 1 rfl) ?_
              refine G_X11_7 X.1 hn hP dX11_set_94 ?_
              refine lv_iload_n hx hb dX11_set_97 rfl (lv_at hl 3 rfl) ?_
              refine lv_iload_n hx hb dX11_set_98 rfl (lv_at hl 4 rfl) ?_
              obtain ⟨c_32, h⟩ := og h
              refine r_iast (k := (Int32.toNatClampNeg (a2))) X.1 X.2.2.2.1 hP hS (by omega) sM_first rfl (vin c_32) dX11_set_99 (fun H locs hP hS => ?_)
              refine lv_iload hx hb dX11_set_100 (lv_at hl 0 rfl) ?_
              obtain rfl := Option.some.inj h
              exact W.iret hx hb hr (r_end X hP hS) hS.2.2 dX11_set_102 (hlocks := hlk)
            · rw [if_pos c_30] at h
              refine lv_bipush (v := (-2)) hx hb dX11_set_82 (by decide) ?_
              obtain rfl := Option.some.inj h
              exact W.iret hx hb hr (r_end X hP hS) hS.2.2 dX11_set_84 (hlocks := hlk)
          · rw [if_neg c_29] at h
            by_cases c_33 : a1 = 1
            · rw [if_pos c_33] at h
              refine lv_tableIn (tgt := 103) (off := 63) hx hb dX11_set_40 (fun q => c_25 (Or.inl q)) (fun q => c_25 (Or.inr q)) (by rw [c_33]; rfl) (by decide) ?_
              refine lv_iload_n hx hb dX11_set_103 rfl (lv_at hl 3 rfl) ?_
              refine lv_iconst (v := 1) hx hb dX11_set_104 (by decide) ?_
              refine lv_bipush (v := 24) hx hb dX11_set_105 (by decide) ?_
              refine c_S0 (As := [.int (a3), .int (1), .int (24)]) (rest := []) X hl.1 (c_X11_within l X.2.2.2.1.1 hn rfl) (w_X11_127) qw_933 ⟨Nat.le_of_ble_eq_true rfl, Nat.le_of_ble_eq_true rfl⟩ rfl rfl hP hS (Nat.le_of_ble_eq_true rfl) dX11_set_107 (fun H locs hP hS => ?_)
              refine lv_if_ne (tgt := 116) hx hb dX11_set_110 (by decide) (fun c_34 => ?_) (fun c_34 => ?_)
              · rw [if_neg c_34] at h
                refine lv_aload_n hx hb dX11_set_116 rfl (lv_at hl 0 rfl) ?_
                refine G_X11_13 X.1 hn hP dX11_set_117 ?_
                refine lv_iload_n hx hb dX11_set_120 rfl (lv_at hl 2 rfl) ?_
                obtain ⟨c_35, h⟩ := og h
                refine r_iald (k := (Int32.toNatClampNeg (a2))) X.1 hP (by omega) sM_every rfl (vin c_35) dX11_set_121 ?_
                refine lv_istore (lv' := [(4, .int ((M 2 (Int32.toNatClampNeg (a2))))), (0, .ref (φ 0)), (1, .int (a1)), (2, .int (a2)), (3, .int (a3))]) hx hb dX11_set_122 hl (by decide) rfl (fun ls hl => ?_)
                refine lv_aload_n hx hb dX11_set_124 rfl (lv_at hl 1 rfl) ?_
                refine G_X11_13 X.1 hn hP dX11_set_125 ?_
                refine lv_iload_n hx hb dX11_set_128 rfl (lv_at hl 3 rfl) ?_
                refine lv_iload_n hx hb dX11_set_129 rfl (lv_at hl 4 rfl) ?_
                obtain ⟨c_36, h⟩ := og h
                refine r_iast (k := (Int32.toNatClampNeg (a2))) X.1 X.2.2.2.1 hP hS (by omega) sM_every rfl (vin c_36) dX11_set_130 (fun H locs hP hS => ?_)
                refine lv_iload hx hb dX11_set_131 (lv_at hl 0 rfl) ?_
                obtain rfl := Option.some.inj h
                exact W.iret hx hb hr (r_end X hP hS) hS.2.2 dX11_set_133 (hlocks := hlk)
              · rw [if_pos c_34] at h
                refine lv_bipush (v := (-2)) hx hb dX11_set_113 (by decide) ?_
                obtain rfl := Option.some.inj h
                exact W.iret hx hb hr (r_end X hP hS) hS.2.2 dX11_set_115 (hlocks := hlk)
            · rw [if_neg c_33] at h
              by_cases c_37 : a1 = 2
              · rw [if_pos c_37] at h
                refine lv_tableIn (tgt := 134) (off := 94) hx hb dX11_set_40 (fun q => c_25 (Or.inl q)) (fun q => c_25 (Or.inr q)) (by rw [c_37]; rfl) (by decide) ?_
                refine lv_iload_n hx hb dX11_set_134 rfl (lv_at hl 3 rfl) ?_
                refine lv_iconst (v := 0) hx hb dX11_set_135 (by decide) ?_
                refine lv_bipush (v := 12) hx hb dX11_set_136 (by decide) ?_
                refine c_S0 (As := [.int (a3), .int (0), .int (12)]) (rest := []) X hl.1 (c_X11_within l X.2.2.2.1.1 hn rfl) (w_X11_127) qw_933 ⟨Nat.le_of_ble_eq_true rfl, Nat.le_of_ble_eq_true rfl⟩ rfl rfl hP hS (Nat.le_of_ble_eq_true rfl) dX11_set_138 (fun H locs hP hS => ?_)
                refine lv_if_ne (tgt := 147) hx hb dX11_set_141 (by decide) (fun c_38 => ?_) (fun c_38 => ?_)
                · rw [if_neg c_38] at h
                  refine lv_aload_n hx hb dX11_set_147 rfl (lv_at hl 0 rfl) ?_
                  refine G_X11_16 X.1 hn hP dX11_set_148 ?_
                  refine lv_iload_n hx hb dX11_set_151 rfl (lv_at hl 2 rfl) ?_
                  obtain ⟨c_39, h⟩ := og h
                  refine r_iald (k := (Int32.toNatClampNeg (a2))) X.1 hP (by omega) sM_reads rfl (vin c_39) dX11_set_152 ?_
                  refine lv_istore (lv' := [(4, .int ((M 3 (Int32.toNatClampNeg (a2))))), (0, .ref (φ 0)), (1, .int (a1)), (2, .int (a2)), (3, .int (a3))]) hx hb dX11_set_153 hl (by decide) rfl (fun ls hl => ?_)
                  refine lv_aload_n hx hb dX11_set_155 rfl (lv_at hl 1 rfl) ?_
                  refine G_X11_16 X.1 hn hP dX11_set_156 ?_
                  refine lv_iload_n hx hb dX11_set_159 rfl (lv_at hl 3 rfl) ?_
                  refine lv_iload_n hx hb dX11_set_160 rfl (lv_at hl 4 rfl) ?_
                  obtain ⟨c_40, h⟩ := og h
                  refine r_iast (k := (Int32.toNatClampNeg (a2))) X.1 X.2.2.2.1 hP hS (by omega) sM_reads rfl (vin c_40) dX11_set_161 (fun H locs hP hS => ?_)
                  refine lv_iload hx hb dX11_set_162 (lv_at hl 0 rfl) ?_
                  obtain rfl := Option.some.inj h
                  exact W.iret hx hb hr (r_end X hP hS) hS.2.2 dX11_set_164 (hlocks := hlk)
                · rw [if_pos c_38] at h
                  refine lv_bipush (v := (-2)) hx hb dX11_set_144 (by decide) ?_
                  obtain rfl := Option.some.inj h
                  exact W.iret hx hb hr (r_end X hP hS) hS.2.2 dX11_set_146 (hlocks := hlk)
              · rw [if_neg c_37] at h
                by_cases c_41 : a1 = 3
                · rw [if_pos c_41] at h
                  refine lv_tableIn (tgt := 165) (off := 125) hx hb dX11_set_40 (fun q => c_25 (Or.inl q)) (fun q => c_25 (Or.inr q)) (by rw [c_41]; rfl) (by decide) ?_
                  refine lv_iload_n hx hb dX11_set_165 rfl (lv_at hl 3 rfl) ?_
                  refine lv_iconst (v := 0) hx hb dX11_set_166 (by decide) ?_
                  refine lv_bipush (v := 9) hx hb dX11_set_167 (by decide) ?_
                  refine c_S0 (As := [.int (a3), .int (0), .int (9)]) (rest := []) X hl.1 (c_X11_within l X.2.2.2.1.1 hn rfl) (w_X11_127) qw_933 ⟨Nat.le_of_ble_eq_true rfl, Nat.le_of_ble_eq_true rfl⟩ rfl rfl hP hS (Nat.le_of_ble_eq_true rfl) dX11_set_169 (fun H locs hP hS => ?_)
                  refine lv_if_ne (tgt := 178) hx hb dX11_set_172 (by decide) (fun c_42 => ?_) (fun c_42 => ?_)
                  · rw [if_neg c_42] at h
                    refine lv_aload_n hx hb dX11_set_178 rfl (lv_at hl 0 rfl) ?_
                    refine G_X11_19 X.1 hn hP dX11_set_179 ?_
                    refine lv_iload_n hx hb dX11_set_182 rfl (lv_at hl 2 rfl) ?_
                    obtain ⟨c_43, h⟩ := og h
                    refine r_iald (k := (Int32.toNatClampNeg (a2))) X.1 hP (by omega) sM_temper rfl (vin c_43) dX11_set_183 ?_
                    refine lv_istore (lv' := [(4, .int ((M 4 (Int32.toNatClampNeg (a2))))), (0, .ref (φ 0)), (1, .int (a1)), (2, .int (a2)), (3, .int (a3))]) hx hb dX11_set_184 hl (by decide) rfl (fun ls hl => ?_)
                    refine lv_aload_n hx hb dX11_set_186 rfl (lv_at hl 1 rfl) ?_
                    refine G_X11_19 X.1 hn hP dX11_set_187 ?_
                    refine lv_iload_n hx hb dX11_set_190 rfl (lv_at hl 3 rfl) ?_
                    refine lv_iload_n hx hb dX11_set_191 rfl (lv_at hl 4 rfl) ?_
                    obtain ⟨c_44, h⟩ := og h
                    refine r_iast (k := (Int32.toNatClampNeg (a2))) X.1 X.2.2.2.1 hP hS (by omega) sM_temper rfl (vin c_44) dX11_set_192 (fun H locs hP hS => ?_)
                    refine lv_iload hx hb dX11_set_193 (lv_at hl 0 rfl) ?_
                    obtain rfl := Option.some.inj h
                    exact W.iret hx hb hr (r_end X hP hS) hS.2.2 dX11_set_195 (hlocks := hlk)
                  · rw [if_pos c_42] at h
                    refine lv_bipush (v := (-2)) hx hb dX11_set_175 (by decide) ?_
                    obtain rfl := Option.some.inj h
                    exact W.iret hx hb hr (r_end X hP hS) hS.2.2 dX11_set_177 (hlocks := hlk)
                · rw [if_neg c_41] at h
                  cases h
      · rw [if_pos c_24] at h
        refine lv_goto (tgt := 36) hx hb dX11_set_25 (by decide) ?_
        refine lv_bipush (v := (-2)) hx hb dX11_set_36 (by decide) ?_
        obtain rfl := Option.some.inj h
        exact W.iret hx hb hr (r_end X hP hS) hS.2.2 dX11_set_38 (hlocks := hlk)
  · rw [if_pos c_1] at h
    refine lv_bipush (v := (-2)) hx hb dX11_set_9 (by decide) ?_
    obtain rfl := Option.some.inj h
    exact W.iret hx hb hr (r_end X hP hS) hS.2.2 dX11_set_11 (hlocks := hlk)

