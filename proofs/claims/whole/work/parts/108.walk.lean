def f_X11_orders (M : Mem) (L : Nat → Int64) : Option (Int64 × Mem × (Nat → Int64)) :=
  (Option.bind (f_X11_all M L ((-1)) ((-1))) fun r_1 => some ((r_1.1, r_1.2.1, r_1.2.2)))
set_option maxRecDepth 100000 in
set_option maxHeartbeats 4000000 in
theorem c_X11_orders (l : Launch) {G : GT} {φ : Nat → Nat} {n : Nat} {M : Mem} {L : Nat → Int64} (hI : wI φ n) (hn : 32 ≤ n) {r : Int64 × Mem × (Nat → Int64)} (h : f_X11_orders M L = some r) : CT l yX11_orders cX11_orders 1 (some .long) ({ frames := 1, cells := 0, slots := 0, locals := 25 } : Room) [.ref (φ 0)] (WB (cM G φ L) φ M n G) (some (.long r.1)) (WB (cM G φ r.2.2) φ (r.2.1) n G) φ n := by
  unfold f_X11_orders at h
  refine r_start (plainFor_of_name (by decide)) (Nat.le_of_ble_eq_true rfl) hI ?_
  intro p e s m args below meth c ls X hr hlk hP hl
  have hS : va_S (wA φ n s.heap.size) s.heap s.heap [] := va_S.rf
  have hx := X.1.1
  have hb := X.1.2.1
  have hl : lv_has ls 1 [(0, .ref (φ 0))] := hl
  refine lv_aload_n hx hb dX11_orders_0 rfl (lv_at hl 0 rfl) ?_
  refine lv_iconst (v := (-1)) hx hb dX11_orders_1 (by decide) ?_
  refine lv_iconst (v := (-1)) hx hb dX11_orders_2 (by decide) ?_
  obtain ⟨r_1, hr_1, h⟩ := ob h
  refine c_V0 (As := [.int ((-1)), .int ((-1))]) (rest := []) (a := 0) X hl.1 (c_X11_all l X.2.2.2.1.1 hn hr_1) (w_X11_281) qw_1288 qw_59 ⟨Nat.le_of_ble_eq_true rfl, Nat.le_of_ble_eq_true rfl⟩ rfl rfl hP hS (by omega) sM_Model rfl rfl (Nat.le_of_ble_eq_true rfl) dX11_orders_3 (fun H locs hP hS => ?_)
  obtain rfl := Option.some.inj h
  exact W.lret hx hb hr (r_end X hP hS) hS.2.2 dX11_orders_6 (hlocks := hlk)

def f_X11_odds_68 (M_13 : Mem) (L_14 : Nat → Int64) (x3_8 : Int32) (y4_9 : Int64) (y6_10 : Int64) : Nat → Int64 → Int64 → Option (Int64 × Mem × (Nat → Int64))
  | 0, _, _ => none
  | fu_15 + 1, y8_11, y10_12 => (if (lg_cmp y10_12 0) = 0 then (if x3_8 = 0 then (if ¬ y8_11 = 0 then some (((y6_10 / y8_11), M_13, L_14)) else none) else (if ¬ y8_11 = 0 then some (((y4_9 / y8_11), M_13, L_14)) else none)) else (if ¬ y10_12 = 0 then (f_X11_odds_68 M_13 L_14 x3_8 y4_9 y6_10 fu_15 (y10_12) ((y8_11 - y8_11 / y10_12 * y10_12))) else none))
def f_X11_odds (M : Mem) (L : Nat → Int64) (a1 : Int32) (a2 : Int32) (a3 : Int32) : Option (Int64 × Mem × (Nat → Int64)) :=
  (if (f_X11_isNote M (a1)) = 0 then some (((-4611686018427387904), M, L)) else (if (f_X11_isNote M (a2)) = 0 then some (((-4611686018427387904), M, L)) else (if a1 = a2 then some (((-4611686018427387904), M, L)) else (if (f_X11_within (a3) (0) (1)) = 0 then some (((-4611686018427387904), M, L)) else (Option.bind (f_X11_all M L ((-1)) ((-1))) fun r_5 => (if (lg_cmp r_5.1 0) = 0 then some (((Int32.toInt64 (a3)), r_5.2.1, r_5.2.2)) else (Option.bind (f_X11_all r_5.2.1 r_5.2.2 (a1) (a2)) fun r_7 => (f_X11_odds_68 r_7.2.1 r_7.2.2 (a3) (r_5.1) (r_7.1) FU (r_7.1) (r_5.1)))))))))
set_option maxRecDepth 100000 in
set_option maxHeartbeats 4000000 in
theorem c_X11_odds (l : Launch) {G : GT} {φ : Nat → Nat} {n : Nat} {M : Mem} {L : Nat → Int64} {a1 : Int32} {a2 : Int32} {a3 : Int32} (hI : wI φ n) (hn : 32 ≤ n) {r : Int64 × Mem × (Nat → Int64)} (h : f_X11_odds M L a1 a2 a3 = some r) : CT l yX11_odds cX11_odds 14 (some .long) ({ frames := 2, cells := 0, slots := 0, locals := 43 } : Room) [.ref (φ 0), .int (a1), .int (a2), .int (a3)] (WB (cM G φ L) φ M n G) (some (.long r.1)) (WB (cM G φ r.2.2) φ (r.2.1) n G) φ n := by
  unfold f_X11_odds at h
  refine r_start (plainFor_of_name (by decide)) (Nat.le_of_ble_eq_true rfl) hI ?_
  intro p e s m args below meth c ls X hr hlk hP hl
  have hS : va_S (wA φ n s.heap.size) s.heap s.heap [] := va_S.rf
  have hx := X.1.1
  have hb := X.1.2.1
  have hl : lv_has ls 14 [(0, .ref (φ 0)), (1, .int (a1)), (2, .int (a2)), (3, .int (a3))] := hl
  have L68 : ∀ (fu_15 : Nat) (M_13 : Mem) (L_14 : Nat → Int64) (x3_8 : Int32) (y4_9 : Int64) (y6_10 : Int64) (y8_11 : Int64) (y10_12 : Int64)  (H : Heap) (locs : List Loc) (ls : Array Slot), va_P G.1 vwCl (wW (cM G φ L_14) φ M_13 n) H → va_S (wA φ n s.heap.size) s.heap H locs → lv_has ls 14 [(3, .int (x3_8)), (4, .long (y4_9)), (6, .long (y6_10)), (8, .long (y8_11)), (10, .long (y10_12))] → f_X11_odds_68 M_13 L_14 x3_8 y4_9 y6_10 fu_15 y8_11 y10_12 = some r → W p l e ({ frames := 2, cells := 0, slots := 0, locals := 43 } : Room) s m args below meth c H locs 0 0 (MQ below (QQ (some (.long r.1)) (WB (cM G φ r.2.2) φ (r.2.1) n G) (wA φ n s.heap.size)) args s 0 0 (wA φ n s.heap.size)) (F0 m 68 ls []) := by
    intro fu_15
    induction fu_15 with
    | zero =>
      intro M_13 L_14 x3_8 y4_9 y6_10 y8_11 y10_12 H locs ls _ _ _  h
      have h : (none : Option (Int64 × Mem × (Nat → Int64))) = some r := h
      cases h
    | succ fu_15 ih =>
      intro M_13 L_14 x3_8 y4_9 y6_10 y8_11 y10_12 H locs ls hP hS hl  h
      rw [f_X11_odds_68] at h
      refine lv_lload hx hb dX11_odds_68 (lv_at hl 4 rfl) ?_
      refine lv_lconst (v := 0) hx hb dX11_odds_70 (by decide) ?_
      refine W.lcmp hx hb dX11_odds_71 ?_
      refine lv_if_eq (tgt := 93) hx hb dX11_odds_72 (by decide) (fun c_16 => ?_) (fun c_16 => ?_)
      · rw [if_pos c_16] at h
        refine lv_iload_n hx hb dX11_odds_93 rfl (lv_at hl 0 rfl) ?_
        refine lv_if_ne (tgt := 105) hx hb dX11_odds_94 (by decide) (fun c_17 => ?_) (fun c_17 => ?_)
        · rw [if_neg c_17] at h
          refine lv_lload hx hb dX11_odds_105 (lv_at hl 1 rfl) ?_
          refine lv_lload hx hb dX11_odds_107 (lv_at hl 3 rfl) ?_
          obtain ⟨c_18, h⟩ := og h
          refine lv_ldiv hx hb dX11_odds_109 c_18 ?_
          obtain rfl := Option.some.inj h
          exact W.lret hx hb hr (r_end X hP hS) hS.2.2 dX11_odds_110 (hlocks := hlk)
        · rw [if_pos c_17] at h
          refine lv_lload hx hb dX11_odds_97 (lv_at hl 2 rfl) ?_
          refine lv_lload hx hb dX11_odds_99 (lv_at hl 3 rfl) ?_
          obtain ⟨c_19, h⟩ := og h
          refine lv_ldiv hx hb dX11_odds_101 c_19 ?_
          refine lv_goto (tgt := 110) hx hb dX11_odds_102 (by decide) ?_
          obtain rfl := Option.some.inj h
          exact W.lret hx hb hr (r_end X hP hS) hS.2.2 dX11_odds_110 (hlocks := hlk)
      · rw [if_neg c_16] at h
        refine lv_lload hx hb dX11_odds_75 (lv_at hl 3 rfl) ?_
        refine lv_lload hx hb dX11_odds_77 (lv_at hl 4 rfl) ?_
        obtain ⟨c_20, h⟩ := og h
        refine lv_lrem hx hb dX11_odds_79 c_20 ?_
        refine lv_lstore (lv' := [(12, .long ((y8_11 - y8_11 / y10_12 * y10_12))), (3, .int (x3_8)), (4, .long (y4_9)), (6, .long (y6_10)), (8, .long (y8_11)), (10, .long (y10_12))]) hx hb dX11_odds_80 hl (by decide) rfl (fun ls hl => ?_)
        refine lv_lload hx hb dX11_odds_82 (lv_at hl 5 rfl) ?_
        refine lv_lstore (lv' := [(8, .long (y10_12)), (12, .long ((y8_11 - y8_11 / y10_12 * y10_12))), (3, .int (x3_8)), (4, .long (y4_9)), (6, .long (y6_10)), (10, .long (y10_12))]) hx hb dX11_odds_84 hl (by decide) rfl (fun ls hl => ?_)
        refine lv_lload hx hb dX11_odds_86 (lv_at hl 1 rfl) ?_
        refine lv_lstore (lv' := [(10, .long ((y8_11 - y8_11 / y10_12 * y10_12))), (8, .long (y10_12)), (12, .long ((y8_11 - y8_11 / y10_12 * y10_12))), (3, .int (x3_8)), (4, .long (y4_9)), (6, .long (y6_10))]) hx hb dX11_odds_88 hl (by decide) rfl (fun ls hl => ?_)
        refine lv_goto (tgt := 68) hx hb dX11_odds_90 (by decide) ?_
        exact ih _ _ _ _ _ _ _ _ _ _ hP hS (lv_sub hl [3, 4, 5, 1, 0] rfl)  h
  refine lv_aload_n hx hb dX11_odds_0 rfl (lv_at hl 0 rfl) ?_
  refine lv_iload_n hx hb dX11_odds_1 rfl (lv_at hl 1 rfl) ?_
  refine c_V0 (As := [.int (a1)]) (rest := []) (a := 0) X hl.1 (c_X11_isNote l X.2.2.2.1.1 hn rfl) (w_X11_134) qw_1165 qw_44 ⟨Nat.le_of_ble_eq_true rfl, Nat.le_of_ble_eq_true rfl⟩ rfl rfl hP hS (by omega) sM_Model rfl rfl (Nat.le_of_ble_eq_true rfl) dX11_odds_2 (fun H locs hP hS => ?_)
  refine lv_if_eq (tgt := 30) hx hb dX11_odds_5 (by decide) (fun c_1 => ?_) (fun c_1 => ?_)
  · rw [if_pos c_1] at h
    refine lv_ldc2 (v := (-4611686018427387904)) hx hb X.1.2.2.1 (X.1.2.2.2.1 _ qw_1294) dX11_odds_30 ?_
    obtain rfl := Option.some.inj h
    exact W.lret hx hb hr (r_end X hP hS) hS.2.2 dX11_odds_33 (hlocks := hlk)
  · rw [if_neg c_1] at h
    refine lv_aload_n hx hb dX11_odds_8 rfl (lv_at hl 0 rfl) ?_
    refine lv_iload_n hx hb dX11_odds_9 rfl (lv_at hl 2 rfl) ?_
    refine c_V0 (As := [.int (a2)]) (rest := []) (a := 0) X hl.1 (c_X11_isNote l X.2.2.2.1.1 hn rfl) (w_X11_134) qw_1165 qw_44 ⟨Nat.le_of_ble_eq_true rfl, Nat.le_of_ble_eq_true rfl⟩ rfl rfl hP hS (by omega) sM_Model rfl rfl (Nat.le_of_ble_eq_true rfl) dX11_odds_10 (fun H locs hP hS => ?_)
    refine lv_if_eq (tgt := 30) hx hb dX11_odds_13 (by decide) (fun c_2 => ?_) (fun c_2 => ?_)
    · rw [if_pos c_2] at h
      refine lv_ldc2 (v := (-4611686018427387904)) hx hb X.1.2.2.1 (X.1.2.2.2.1 _ qw_1294) dX11_odds_30 ?_
      obtain rfl := Option.some.inj h
      exact W.lret hx hb hr (r_end X hP hS) hS.2.2 dX11_odds_33 (hlocks := hlk)
    · rw [if_neg c_2] at h
      refine lv_iload_n hx hb dX11_odds_16 rfl (lv_at hl 1 rfl) ?_
      refine lv_iload_n hx hb dX11_odds_17 rfl (lv_at hl 2 rfl) ?_
      refine lv_icmp_eq (tgt := 30) hx hb dX11_odds_18 (by decide) (fun c_3 => ?_) (fun c_3 => ?_)
      · rw [if_pos c_3] at h
        refine lv_ldc2 (v := (-4611686018427387904)) hx hb X.1.2.2.1 (X.1.2.2.2.1 _ qw_1294) dX11_odds_30 ?_
        obtain rfl := Option.some.inj h
        exact W.lret hx hb hr (r_end X hP hS) hS.2.2 dX11_odds_33 (hlocks := hlk)
      · rw [if_neg c_3] at h
        refine lv_iload_n hx hb dX11_odds_21 rfl (lv_at hl 3 rfl) ?_
        refine lv_iconst (v := 0) hx hb dX11_odds_22 (by decide) ?_
        refine lv_iconst (v := 1) hx hb dX11_odds_23 (by decide) ?_
        refine c_S0 (As := [.int (a3), .int (0), .int (1)]) (rest := []) X hl.1 (c_X11_within l X.2.2.2.1.1 hn rfl) (w_X11_127) qw_933 ⟨Nat.le_of_ble_eq_true rfl, Nat.le_of_ble_eq_true rfl⟩ rfl rfl hP hS (Nat.le_of_ble_eq_true rfl) dX11_odds_24 (fun H locs hP hS => ?_)
        refine lv_if_ne (tgt := 34) hx hb dX11_odds_27 (by decide) (fun c_4 => ?_) (fun c_4 => ?_)
        · rw [if_neg c_4] at h
          refine lv_aload_n hx hb dX11_odds_34 rfl (lv_at hl 0 rfl) ?_
          refine lv_iconst (v := (-1)) hx hb dX11_odds_35 (by decide) ?_
          refine lv_iconst (v := (-1)) hx hb dX11_odds_36 (by decide) ?_
          obtain ⟨r_5, hr_5, h⟩ := ob h
          refine c_V0 (As := [.int ((-1)), .int ((-1))]) (rest := []) (a := 0) X hl.1 (c_X11_all l X.2.2.2.1.1 hn hr_5) (w_X11_281) qw_1288 qw_59 ⟨Nat.le_of_ble_eq_true rfl, Nat.le_of_ble_eq_true rfl⟩ rfl rfl hP hS (by omega) sM_Model rfl rfl (Nat.le_of_ble_eq_true rfl) dX11_odds_37 (fun H locs hP hS => ?_)
          refine lv_lstore (lv' := [(4, .long (r_5.1)), (0, .ref (φ 0)), (1, .int (a1)), (2, .int (a2)), (3, .int (a3))]) hx hb dX11_odds_40 hl (by decide) rfl (fun ls hl => ?_)
          refine lv_lload hx hb dX11_odds_42 (lv_at hl 0 rfl) ?_
          refine lv_lconst (v := 0) hx hb dX11_odds_44 (by decide) ?_
          refine W.lcmp hx hb dX11_odds_45 ?_
          refine lv_if_ne (tgt := 52) hx hb dX11_odds_46 (by decide) (fun c_6 => ?_) (fun c_6 => ?_)
          · rw [if_neg c_6] at h
            refine lv_aload_n hx hb dX11_odds_52 rfl (lv_at hl 1 rfl) ?_
            refine lv_iload_n hx hb dX11_odds_53 rfl (lv_at hl 2 rfl) ?_
            refine lv_iload_n hx hb dX11_odds_54 rfl (lv_at hl 3 rfl) ?_
            obtain ⟨r_7, hr_7, h⟩ := ob h
            refine c_V0 (As := [.int (a1), .int (a2)]) (rest := []) (a := 0) X hl.1 (c_X11_all l X.2.2.2.1.1 hn hr_7) (w_X11_281) qw_1288 qw_59 ⟨Nat.le_of_ble_eq_true rfl, Nat.le_of_ble_eq_true rfl⟩ rfl rfl hP hS (by omega) sM_Model rfl rfl (Nat.le_of_ble_eq_true rfl) dX11_odds_55 (fun H locs hP hS => ?_)
            refine lv_lstore (lv' := [(6, .long (r_7.1)), (4, .long (r_5.1)), (0, .ref (φ 0)), (1, .int (a1)), (2, .int (a2)), (3, .int (a3))]) hx hb dX11_odds_58 hl (by decide) rfl (fun ls hl => ?_)
            refine lv_lload hx hb dX11_odds_60 (lv_at hl 0 rfl) ?_
            refine lv_lstore (lv' := [(8, .long (r_7.1)), (6, .long (r_7.1)), (4, .long (r_5.1)), (0, .ref (φ 0)), (1, .int (a1)), (2, .int (a2)), (3, .int (a3))]) hx hb dX11_odds_62 hl (by decide) rfl (fun ls hl => ?_)
            refine lv_lload hx hb dX11_odds_64 (lv_at hl 2 rfl) ?_
            refine lv_lstore (lv' := [(10, .long (r_5.1)), (8, .long (r_7.1)), (6, .long (r_7.1)), (4, .long (r_5.1)), (0, .ref (φ 0)), (1, .int (a1)), (2, .int (a2)), (3, .int (a3))]) hx hb dX11_odds_66 hl (by decide) rfl (fun ls hl => ?_)
            refine L68 _ _ _ _ _ _ _ _ _ _ _ hP hS (lv_sub hl [7, 3, 2, 1, 0] rfl)  h
          · rw [if_pos c_6] at h
            refine lv_iload_n hx hb dX11_odds_49 rfl (lv_at hl 4 rfl) ?_
            refine lv_i2l hx hb dX11_odds_50 rfl ?_
            obtain rfl := Option.some.inj h
            exact W.lret hx hb hr (r_end X hP hS) hS.2.2 dX11_odds_51 (hlocks := hlk)
        · rw [if_pos c_4] at h
          refine lv_ldc2 (v := (-4611686018427387904)) hx hb X.1.2.2.1 (X.1.2.2.2.1 _ qw_1294) dX11_odds_30 ?_
          obtain rfl := Option.some.inj h
          exact W.lret hx hb hr (r_end X hP hS) hS.2.2 dX11_odds_33 (hlocks := hlk)

def f_X11_place_52 (M_17 : Mem) (L_18 : Nat → Int64) (x2_13 : Int32) (x4_15 : Int32) (k130 : Int32 → Option (Int32 × Mem × (Nat → Int64))) : Nat → Int32 → Int32 → Option (Int32 × Mem × (Nat → Int64))
  | 0, _, _ => none
  | fu_19 + 1, x3_14, x5_16 => (if (M_17 0 10) ≤ x5_16 then (k130 (x3_14)) else (if x2_13 = 0 then (if ibd (x5_16) 20 then (if (((x3_14 : Int32) >>> ((M_17 10 (Int32.toNatClampNeg (x5_16))) &&& 31)) &&& 1) = 1 then (if ibd (x5_16) 20 then (if x2_13 = 1 then (if ibd (x5_16) 20 then (if ((((x3_14 ||| ((1 : Int32) <<< ((M_17 9 (Int32.toNatClampNeg (x5_16))) &&& 31))) : Int32) >>> ((M_17 9 (Int32.toNatClampNeg (x5_16))) &&& 31)) &&& 1) = 1 then (if ibd (x5_16) 20 then (f_X11_place_52 M_17 L_18 x2_13 x4_15 k130 fu_19 (((x3_14 ||| ((1 : Int32) <<< ((M_17 9 (Int32.toNatClampNeg (x5_16))) &&& 31))) ||| ((1 : Int32) <<< ((M_17 10 (Int32.toNatClampNeg (x5_16))) &&& 31)))) ((x5_16 + 1))) else none) else (f_X11_place_52 M_17 L_18 x2_13 x4_15 k130 fu_19 ((x3_14 ||| ((1 : Int32) <<< ((M_17 9 (Int32.toNatClampNeg (x5_16))) &&& 31)))) ((x5_16 + 1)))) else none) else (f_X11_place_52 M_17 L_18 x2_13 x4_15 k130 fu_19 ((x3_14 ||| ((1 : Int32) <<< ((M_17 9 (Int32.toNatClampNeg (x5_16))) &&& 31)))) ((x5_16 + 1)))) else none) else (if x2_13 = 1 then (if ibd (x5_16) 20 then (if (((x3_14 : Int32) >>> ((M_17 9 (Int32.toNatClampNeg (x5_16))) &&& 31)) &&& 1) = 1 then (if ibd (x5_16) 20 then (f_X11_place_52 M_17 L_18 x2_13 x4_15 k130 fu_19 ((x3_14 ||| ((1 : Int32) <<< ((M_17 10 (Int32.toNatClampNeg (x5_16))) &&& 31)))) ((x5_16 + 1))) else none) else (f_X11_place_52 M_17 L_18 x2_13 x4_15 k130 fu_19 (x3_14) ((x5_16 + 1)))) else none) else (f_X11_place_52 M_17 L_18 x2_13 x4_15 k130 fu_19 (x3_14) ((x5_16 + 1))))) else none) else (if x2_13 = 1 then (if ibd (x5_16) 20 then (if (((x3_14 : Int32) >>> ((M_17 9 (Int32.toNatClampNeg (x5_16))) &&& 31)) &&& 1) = 1 then (if ibd (x5_16) 20 then (f_X11_place_52 M_17 L_18 x2_13 x4_15 k130 fu_19 ((x3_14 ||| ((1 : Int32) <<< ((M_17 10 (Int32.toNatClampNeg (x5_16))) &&& 31)))) ((x5_16 + 1))) else none) else (f_X11_place_52 M_17 L_18 x2_13 x4_15 k130 fu_19 (x3_14) ((x5_16 + 1)))) else none) else (f_X11_place_52 M_17 L_18 x2_13 x4_15 k130 fu_19 (x3_14) ((x5_16 + 1))))))
def f_X11_place_40 (M_8 : Mem) (L_9 : Nat → Int64) (x2_5 : Int32) : Nat → Int32 → Int32 → Option (Int32 × Mem × (Nat → Int64))
  | 0, _, _ => none
  | fu_10 + 1, x3_6, x4_7 => (if (M_8 0 5) ≤ x4_7 then (if x2_5 = 0 then some ((((f_J6_bitCount_0f7a4 (x3_6)) - 1), M_8, L_9)) else some (((((M_8 0 5) - 1) - ((f_J6_bitCount_0f7a4 (x3_6)) - 1)), M_8, L_9))) else (f_X11_place_52 M_8 L_9 (x2_5) (x4_7) (fun x3_38 => (f_X11_place_40 M_8 L_9 x2_5 fu_10 (x3_38) ((x4_7 + 1)))) FU (x3_6) (0)))
def f_X11_place (M : Mem) (L : Nat → Int64) (a1 : Int32) (a2 : Int32) : Option (Int32 × Mem × (Nat → Int64)) :=
  (if (f_X11_isNote M (a1)) = 0 then some (((-2), M, L)) else (if (f_X11_within (a2) (0) (1)) = 0 then some (((-2), M, L)) else (Option.bind (f_X11_all M L ((-1)) ((-1))) fun r_3 => (if (lg_cmp r_3.1 0) = 0 then some (((-1), r_3.2.1, r_3.2.2)) else (f_X11_place_40 r_3.2.1 r_3.2.2 (a2) FU (((1 : Int32) <<< (a1 &&& 31))) (0))))))
set_option maxRecDepth 100000 in
set_option maxHeartbeats 4000000 in
theorem c_X11_place (l : Launch) {G : GT} {φ : Nat → Nat} {n : Nat} {M : Mem} {L : Nat → Int64} {a1 : Int32} {a2 : Int32} (hI : wI φ n) (hn : 32 ≤ n) {r : Int32 × Mem × (Nat → Int64)} (h : f_X11_place M L a1 a2 = some r) : CT l yX11_place cX11_place 6 (some .int) ({ frames := 2, cells := 0, slots := 0, locals := 43 } : Room) [.ref (φ 0), .int (a1), .int (a2)] (WB (cM G φ L) φ M n G) (some (.int r.1)) (WB (cM G φ r.2.2) φ (r.2.1) n G) φ n := by
  unfold f_X11_place at h
  refine r_start (plainFor_of_name (by decide)) (Nat.le_of_ble_eq_true rfl) hI ?_
  intro p e s m args below meth c ls X hr hlk hP hl
  have hS : va_S (wA φ n s.heap.size) s.heap s.heap [] := va_S.rf
  have hx := X.1.1
  have hb := X.1.2.1
  have hl : lv_has ls 6 [(0, .ref (φ 0)), (1, .int (a1)), (2, .int (a2))] := hl
  have L52 : ∀ (fu_19 : Nat) (M_17 : Mem) (L_18 : Nat → Int64) (x2_13 : Int32) (x4_15 : Int32) (k130 : Int32 → Option (Int32 × Mem × (Nat → Int64))) (x3_14 : Int32) (x5_16 : Int32)  (H : Heap) (locs : List Loc) (ls : Array Slot), va_P G.1 vwCl (wW (cM G φ L_18) φ M_17 n) H → va_S (wA φ n s.heap.size) s.heap H locs → lv_has ls 6 [(0, .ref (φ 0)), (2, .int (x2_13)), (3, .int (x3_14)), (4, .int (x4_15)), (5, .int (x5_16))] → (∀ (z_37 : Int32) (H : Heap) (locs : List Loc) (ls : Array Slot), va_P G.1 vwCl (wW (cM G φ L_18) φ M_17 n) H → va_S (wA φ n s.heap.size) s.heap H locs → lv_has ls 6 [(0, .ref (φ 0)), (2, .int (x2_13)), (3, .int (z_37)), (4, .int (x4_15))] → k130 z_37 = some r → W p l e ({ frames := 2, cells := 0, slots := 0, locals := 43 } : Room) s m args below meth c H locs 0 0 (MQ below (QQ (some (.int r.1)) (WB (cM G φ r.2.2) φ (r.2.1) n G) (wA φ n s.heap.size)) args s 0 0 (wA φ n s.heap.size)) (F0 m 130 ls [])) → f_X11_place_52 M_17 L_18 x2_13 x4_15 k130 fu_19 x3_14 x5_16 = some r → W p l e ({ frames := 2, cells := 0, slots := 0, locals := 43 } : Room) s m args below meth c H locs 0 0 (MQ below (QQ (some (.int r.1)) (WB (cM G φ r.2.2) φ (r.2.1) n G) (wA φ n s.heap.size)) args s 0 0 (wA φ n s.heap.size)) (F0 m 52 ls []) := by
    intro fu_19
    induction fu_19 with
    | zero =>
      intro M_17 L_18 x2_13 x4_15 k130 x3_14 x5_16 H locs ls _ _ _ _ h
      have h : (none : Option (Int32 × Mem × (Nat → Int64))) = some r := h
      cases h
    | succ fu_19 ih =>
      intro M_17 L_18 x2_13 x4_15 k130 x3_14 x5_16 H locs ls hP hS hl hk130 h
      rw [f_X11_place_52] at h
      refine lv_iload hx hb dX11_place_52 (lv_at hl 4 rfl) ?_
      refine lv_aload_n hx hb dX11_place_54 rfl (lv_at hl 0 rfl) ?_
      refine G_X11_278 X.1 hn hP dX11_place_55 ?_
      refine lv_icmp_ge (tgt := 130) hx hb dX11_place_58 (by decide) (fun c_20 => ?_) (fun c_20 => ?_)
      · rw [if_pos c_20] at h
        exact hk130 _ _ _ _ hP hS (lv_sub hl [0, 1, 2, 3] rfl) h
      · rw [if_neg c_20] at h
        refine lv_iload_n hx hb dX11_place_61 rfl (lv_at hl 1 rfl) ?_
        refine lv_if_ne (tgt := 92) hx hb dX11_place_62 (by decide) (fun c_21 => ?_) (fun c_21 => ?_)
        · rw [if_neg c_21] at h
          refine lv_iload_n hx hb dX11_place_92 rfl (lv_at hl 1 rfl) ?_
          refine lv_iconst (v := 1) hx hb dX11_place_93 (by decide) ?_
          refine lv_icmp_ne (tgt := 124) hx hb dX11_place_94 (by decide) (fun c_22 => ?_) (fun c_22 => ?_)
          · rw [if_neg c_22] at h
            refine lv_iinc (v := (x5_16 + 1)) (lv' := [(5, .int ((x5_16 + 1))), (0, .ref (φ 0)), (2, .int (x2_13)), (3, .int (x3_14)), (4, .int (x4_15))]) hx hb dX11_place_124 hl (k := 4) rfl (by rw [show Int32.ofInt (1) = 1 from by decide]) (by decide) rfl (fun ls hl => ?_)
            refine lv_goto (tgt := 52) hx hb dX11_place_127 (by decide) ?_
            exact ih _ _ _ _ _ _ _ _ _ _ hP hS (lv_sub hl [1, 2, 3, 4, 0] rfl) hk130 h
          · rw [if_pos c_22] at h
            refine lv_iload_n hx hb dX11_place_97 rfl (lv_at hl 2 rfl) ?_
            refine lv_aload_n hx hb dX11_place_98 rfl (lv_at hl 0 rfl) ?_
            refine G_X11_34 X.1 hn hP dX11_place_99 ?_
            refine lv_iload hx hb dX11_place_102 (lv_at hl 4 rfl) ?_
            obtain ⟨c_23, h⟩ := og h
            refine r_iald (k := (Int32.toNatClampNeg (x5_16))) X.1 hP (by omega) sM_ahead rfl (vin c_23) dX11_place_104 ?_
            refine lv_ishr hx hb dX11_place_105 ?_
            refine lv_iconst (v := 1) hx hb dX11_place_106 (by decide) ?_
            refine lv_iand hx hb dX11_place_107 ?_
            refine lv_iconst (v := 1) hx hb dX11_place_108 (by decide) ?_
            refine lv_icmp_ne (tgt := 124) hx hb dX11_place_109 (by decide) (fun c_24 => ?_) (fun c_24 => ?_)
            · rw [if_neg c_24] at h
              refine lv_iinc (v := (x5_16 + 1)) (lv' := [(5, .int ((x5_16 + 1))), (0, .ref (φ 0)), (2, .int (x2_13)), (3, .int (x3_14)), (4, .int (x4_15))]) hx hb dX11_place_124 hl (k := 4) rfl (by rw [show Int32.ofInt (1) = 1 from by decide]) (by decide) rfl (fun ls hl => ?_)
              refine lv_goto (tgt := 52) hx hb dX11_place_127 (by decide) ?_
              exact ih _ _ _ _ _ _ _ _ _ _ hP hS (lv_sub hl [1, 2, 3, 4, 0] rfl) hk130 h
            · rw [if_pos c_24] at h
              refine lv_iload_n hx hb dX11_place_112 rfl (lv_at hl 2 rfl) ?_
              refine lv_iconst (v := 1) hx hb dX11_place_113 (by decide) ?_
              refine lv_aload_n hx hb dX11_place_114 rfl (lv_at hl 0 rfl) ?_
              refine G_X11_37 X.1 hn hP dX11_place_115 ?_
              refine lv_iload hx hb dX11_place_118 (lv_at hl 4 rfl) ?_
              obtain ⟨c_25, h⟩ := og h
              refine r_iald (k := (Int32.toNatClampNeg (x5_16))) X.1 hP (by omega) sM_behind rfl (vin c_25) dX11_place_120 ?_
              refine lv_ishl hx hb dX11_place_121 ?_
              refine lv_ior hx hb dX11_place_122 ?_
              refine lv_istore_n (lv' := [(3, .int ((x3_14 ||| ((1 : Int32) <<< ((M_17 10 (Int32.toNatClampNeg (x5_16))) &&& 31))))), (0, .ref (φ 0)), (2, .int (x2_13)), (4, .int (x4_15)), (5, .int (x5_16))]) hx hb dX11_place_123 rfl hl (by decide) rfl (fun ls hl => ?_)
              refine lv_iinc (v := (x5_16 + 1)) (lv' := [(5, .int ((x5_16 + 1))), (3, .int ((x3_14 ||| ((1 : Int32) <<< ((M_17 10 (Int32.toNatClampNeg (x5_16))) &&& 31))))), (0, .ref (φ 0)), (2, .int (x2_13)), (4, .int (x4_15))]) hx hb dX11_place_124 hl (k := 4) rfl (by rw [show Int32.ofInt (1) = 1 from by decide]) (by decide) rfl (fun ls hl => ?_)
              refine lv_goto (tgt := 52) hx hb dX11_place_127 (by decide) ?_
              exact ih _ _ _ _ _ _ _ _ _ _ hP hS (lv_sub hl [2, 3, 1, 4, 0] rfl) hk130 h
        · rw [if_pos c_21] at h
          refine lv_iload_n hx hb dX11_place_65 rfl (lv_at hl 2 rfl) ?_
          refine lv_aload_n hx hb dX11_place_66 rfl (lv_at hl 0 rfl) ?_
          refine G_X11_37 X.1 hn hP dX11_place_67 ?_
          refine lv_iload hx hb dX11_place_70 (lv_at hl 4 rfl) ?_
          obtain ⟨c_26, h⟩ := og h
          refine r_iald (k := (Int32.toNatClampNeg (x5_16))) X.1 hP (by omega) sM_behind rfl (vin c_26) dX11_place_72 ?_
          refine lv_ishr hx hb dX11_place_73 ?_
          refine lv_iconst (v := 1) hx hb dX11_place_74 (by decide) ?_
          refine lv_iand hx hb dX11_place_75 ?_
          refine lv_iconst (v := 1) hx hb dX11_place_76 (by decide) ?_
          refine lv_icmp_ne (tgt := 92) hx hb dX11_place_77 (by decide) (fun c_27 => ?_) (fun c_27 => ?_)
          · rw [if_neg c_27] at h
            refine lv_iload_n hx hb dX11_place_92 rfl (lv_at hl 1 rfl) ?_
            refine lv_iconst (v := 1) hx hb dX11_place_93 (by decide) ?_
            refine lv_icmp_ne (tgt := 124) hx hb dX11_place_94 (by decide) (fun c_28 => ?_) (fun c_28 => ?_)
            · rw [if_neg c_28] at h
              refine lv_iinc (v := (x5_16 + 1)) (lv' := [(5, .int ((x5_16 + 1))), (0, .ref (φ 0)), (2, .int (x2_13)), (3, .int (x3_14)), (4, .int (x4_15))]) hx hb dX11_place_124 hl (k := 4) rfl (by rw [show Int32.ofInt (1) = 1 from by decide]) (by decide) rfl (fun ls hl => ?_)
              refine lv_goto (tgt := 52) hx hb dX11_place_127 (by decide) ?_
              exact ih _ _ _ _ _ _ _ _ _ _ hP hS (lv_sub hl [1, 2, 3, 4, 0] rfl) hk130 h
            · rw [if_pos c_28] at h
              refine lv_iload_n hx hb dX11_place_97 rfl (lv_at hl 2 rfl) ?_
              refine lv_aload_n hx hb dX11_place_98 rfl (lv_at hl 0 rfl) ?_
              refine G_X11_34 X.1 hn hP dX11_place_99 ?_
              refine lv_iload hx hb dX11_place_102 (lv_at hl 4 rfl) ?_
              obtain ⟨c_29, h⟩ := og h
              refine r_iald (k := (Int32.toNatClampNeg (x5_16))) X.1 hP (by omega) sM_ahead rfl (vin c_29) dX11_place_104 ?_
              refine lv_ishr hx hb dX11_place_105 ?_
              refine lv_iconst (v := 1) hx hb dX11_place_106 (by decide) ?_
              refine lv_iand hx hb dX11_place_107 ?_
              refine lv_iconst (v := 1) hx hb dX11_place_108 (by decide) ?_
              refine lv_icmp_ne (tgt := 124) hx hb dX11_place_109 (by decide) (fun c_30 => ?_) (fun c_30 => ?_)
              · rw [if_neg c_30] at h
                refine lv_iinc (v := (x5_16 + 1)) (lv' := [(5, .int ((x5_16 + 1))), (0, .ref (φ 0)), (2, .int (x2_13)), (3, .int (x3_14)), (4, .int (x4_15))]) hx hb dX11_place_124 hl (k := 4) rfl (by rw [show Int32.ofInt (1) = 1 from by decide]) (by decide) rfl (fun ls hl => ?_)
                refine lv_goto (tgt := 52) hx hb dX11_place_127 (by decide) ?_
                exact ih _ _ _ _ _ _ _ _ _ _ hP hS (lv_sub hl [1, 2, 3, 4, 0] rfl) hk130 h
              · rw [if_pos c_30] at h
                refine lv_iload_n hx hb dX11_place_112 rfl (lv_at hl 2 rfl) ?_
                refine lv_iconst (v := 1) hx hb dX11_place_113 (by decide) ?_
                refine lv_aload_n hx hb dX11_place_114 rfl (lv_at hl 0 rfl) ?_
                refine G_X11_37 X.1 hn hP dX11_place_115 ?_
                refine lv_iload hx hb dX11_place_118 (lv_at hl 4 rfl) ?_
                obtain ⟨c_31, h⟩ := og h
                refine r_iald (k := (Int32.toNatClampNeg (x5_16))) X.1 hP (by omega) sM_behind rfl (vin c_31) dX11_place_120 ?_
                refine lv_ishl hx hb dX11_place_121 ?_
                refine lv_ior hx hb dX11_place_122 ?_
                refine lv_istore_n (lv' := [(3, .int ((x3_14 ||| ((1 : Int32) <<< ((M_17 10 (Int32.toNatClampNeg (x5_16))) &&& 31))))), (0, .ref (φ 0)), (2, .int (x2_13)), (4, .int (x4_15)), (5, .int (x5_16))]) hx hb dX11_place_123 rfl hl (by decide) rfl (fun ls hl => ?_)
                refine lv_iinc (v := (x5_16 + 1)) (lv' := [(5, .int ((x5_16 + 1))), (3, .int ((x3_14 ||| ((1 : Int32) <<< ((M_17 10 (Int32.toNatClampNeg (x5_16))) &&& 31))))), (0, .ref (φ 0)), (2, .int (x2_13)), (4, .int (x4_15))]) hx hb dX11_place_124 hl (k := 4) rfl (by rw [show Int32.ofInt (1) = 1 from by decide]) (by decide) rfl (fun ls hl => ?_)
                refine lv_goto (tgt := 52) hx hb dX11_place_127 (by decide) ?_
                exact ih _ _ _ _ _ _ _ _ _ _ hP hS (lv_sub hl [2, 3, 1, 4, 0] rfl) hk130 h
          · rw [if_pos c_27] at h
            refine lv_iload_n hx hb dX11_place_80 rfl (lv_at hl 2 rfl) ?_
            refine lv_iconst (v := 1) hx hb dX11_place_81 (by decide) ?_
            refine lv_aload_n hx hb dX11_place_82 rfl (lv_at hl 0 rfl) ?_
            refine G_X11_34 X.1 hn hP dX11_place_83 ?_
            refine lv_iload hx hb dX11_place_86 (lv_at hl 4 rfl) ?_
            obtain ⟨c_32, h⟩ := og h
            refine r_iald (k := (Int32.toNatClampNeg (x5_16))) X.1 hP (by omega) sM_ahead rfl (vin c_32) dX11_place_88 ?_
            refine lv_ishl hx hb dX11_place_89 ?_
            refine lv_ior hx hb dX11_place_90 ?_
            refine lv_istore_n (lv' := [(3, .int ((x3_14 ||| ((1 : Int32) <<< ((M_17 9 (Int32.toNatClampNeg (x5_16))) &&& 31))))), (0, .ref (φ 0)), (2, .int (x2_13)), (4, .int (x4_15)), (5, .int (x5_16))]) hx hb dX11_place_91 rfl hl (by decide) rfl (fun ls hl => ?_)
            refine lv_iload_n hx hb dX11_place_92 rfl (lv_at hl 2 rfl) ?_
            refine lv_iconst (v := 1) hx hb dX11_place_93 (by decide) ?_
            refine lv_icmp_ne (tgt := 124) hx hb dX11_place_94 (by decide) (fun c_33 => ?_) (fun c_33 => ?_)
            · rw [if_neg c_33] at h
              refine lv_iinc (v := (x5_16 + 1)) (lv' := [(5, .int ((x5_16 + 1))), (3, .int ((x3_14 ||| ((1 : Int32) <<< ((M_17 9 (Int32.toNatClampNeg (x5_16))) &&& 31))))), (0, .ref (φ 0)), (2, .int (x2_13)), (4, .int (x4_15))]) hx hb dX11_place_124 hl (k := 4) rfl (by rw [show Int32.ofInt (1) = 1 from by decide]) (by decide) rfl (fun ls hl => ?_)
              refine lv_goto (tgt := 52) hx hb dX11_place_127 (by decide) ?_
              exact ih _ _ _ _ _ _ _ _ _ _ hP hS (lv_sub hl [2, 3, 1, 4, 0] rfl) hk130 h
            · rw [if_pos c_33] at h
              refine lv_iload_n hx hb dX11_place_97 rfl (lv_at hl 0 rfl) ?_
              refine lv_aload_n hx hb dX11_place_98 rfl (lv_at hl 1 rfl) ?_
              refine G_X11_34 X.1 hn hP dX11_place_99 ?_
              refine lv_iload hx hb dX11_place_102 (lv_at hl 4 rfl) ?_
              obtain ⟨c_34, h⟩ := og h
              refine r_iald (k := (Int32.toNatClampNeg (x5_16))) X.1 hP (by omega) sM_ahead rfl (vin c_34) dX11_place_104 ?_
              refine lv_ishr hx hb dX11_place_105 ?_
              refine lv_iconst (v := 1) hx hb dX11_place_106 (by decide) ?_
              refine lv_iand hx hb dX11_place_107 ?_
              refine lv_iconst (v := 1) hx hb dX11_place_108 (by decide) ?_
              refine lv_icmp_ne (tgt := 124) hx hb dX11_place_109 (by decide) (fun c_35 => ?_) (fun c_35 => ?_)
              · rw [if_neg c_35] at h
                refine lv_iinc (v := (x5_16 + 1)) (lv' := [(5, .int ((x5_16 + 1))), (3, .int ((x3_14 ||| ((1 : Int32) <<< ((M_17 9 (Int32.toNatClampNeg (x5_16))) &&& 31))))), (0, .ref (φ 0)), (2, .int (x2_13)), (4, .int (x4_15))]) hx hb dX11_place_124 hl (k := 4) rfl (by rw [show Int32.ofInt (1) = 1 from by decide]) (by decide) rfl (fun ls hl => ?_)
                refine lv_goto (tgt := 52) hx hb dX11_place_127 (by decide) ?_
                exact ih _ _ _ _ _ _ _ _ _ _ hP hS (lv_sub hl [2, 3, 1, 4, 0] rfl) hk130 h
              · rw [if_pos c_35] at h
                refine lv_iload_n hx hb dX11_place_112 rfl (lv_at hl 0 rfl) ?_
                refine lv_iconst (v := 1) hx hb dX11_place_113 (by decide) ?_
                refine lv_aload_n hx hb dX11_place_114 rfl (lv_at hl 1 rfl) ?_
                refine G_X11_37 X.1 hn hP dX11_place_115 ?_
                refine lv_iload hx hb dX11_place_118 (lv_at hl 4 rfl) ?_
                obtain ⟨c_36, h⟩ := og h
                refine r_iald (k := (Int32.toNatClampNeg (x5_16))) X.1 hP (by omega) sM_behind rfl (vin c_36) dX11_place_120 ?_
                refine lv_ishl hx hb dX11_place_121 ?_
                refine lv_ior hx hb dX11_place_122 ?_
                refine lv_istore_n (lv' := [(3, .int (((x3_14 ||| ((1 : Int32) <<< ((M_17 9 (Int32.toNatClampNeg (x5_16))) &&& 31))) ||| ((1 : Int32) <<< ((M_17 10 (Int32.toNatClampNeg (x5_16))) &&& 31))))), (0, .ref (φ 0)), (2, .int (x2_13)), (4, .int (x4_15)), (5, .int (x5_16))]) hx hb dX11_place_123 rfl hl (by decide) rfl (fun ls hl => ?_)
                refine lv_iinc (v := (x5_16 + 1)) (lv' := [(5, .int ((x5_16 + 1))), (3, .int (((x3_14 ||| ((1 : Int32) <<< ((M_17 9 (Int32.toNatClampNeg (x5_16))) &&& 31))) ||| ((1 : Int32) <<< ((M_17 10 (Int32.toNatClampNeg (x5_16))) &&& 31))))), (0, .ref (φ 0)), (2, .int (x2_13)), (4, .int (x4_15))]) hx hb dX11_place_124 hl (k := 4) rfl (by rw [show Int32.ofInt (1) = 1 from by decide]) (by decide) rfl (fun ls hl => ?_)
                refine lv_goto (tgt := 52) hx hb dX11_place_127 (by decide) ?_
                exact ih _ _ _ _ _ _ _ _ _ _ hP hS (lv_sub hl [2, 3, 1, 4, 0] rfl) hk130 h
  have L40 : ∀ (fu_10 : Nat) (M_8 : Mem) (L_9 : Nat → Int64) (x2_5 : Int32) (x3_6 : Int32) (x4_7 : Int32)  (H : Heap) (locs : List Loc) (ls : Array Slot), va_P G.1 vwCl (wW (cM G φ L_9) φ M_8 n) H → va_S (wA φ n s.heap.size) s.heap H locs → lv_has ls 6 [(0, .ref (φ 0)), (2, .int (x2_5)), (3, .int (x3_6)), (4, .int (x4_7))] → f_X11_place_40 M_8 L_9 x2_5 fu_10 x3_6 x4_7 = some r → W p l e ({ frames := 2, cells := 0, slots := 0, locals := 43 } : Room) s m args below meth c H locs 0 0 (MQ below (QQ (some (.int r.1)) (WB (cM G φ r.2.2) φ (r.2.1) n G) (wA φ n s.heap.size)) args s 0 0 (wA φ n s.heap.size)) (F0 m 40 ls []) := by
    intro fu_10
    induction fu_10 with
    | zero =>
      intro M_8 L_9 x2_5 x3_6 x4_7 H locs ls _ _ _  h
      have h : (none : Option (Int32 × Mem × (Nat → Int64))) = some r := h
      cases h
    | succ fu_10 ih =>
      intro M_8 L_9 x2_5 x3_6 x4_7 H locs ls hP hS hl  h
      rw [f_X11_place_40] at h
      refine lv_iload hx hb dX11_place_40 (lv_at hl 3 rfl) ?_
      refine lv_aload_n hx hb dX11_place_42 rfl (lv_at hl 0 rfl) ?_
      refine G_X11_131 X.1 hn hP dX11_place_43 ?_
      refine lv_icmp_ge (tgt := 136) hx hb dX11_place_46 (by decide) (fun c_11 => ?_) (fun c_11 => ?_)
      · rw [if_pos c_11] at h
        refine lv_iload_n hx hb dX11_place_136 rfl (lv_at hl 2 rfl) ?_
        refine c_S0 (As := [.int (x3_6)]) (rest := []) X hl.1 (c_J6_bitCount_0f7a4 l X.2.2.2.1.1 rfl) (w_X11_287) qw_840 ⟨Nat.le_of_ble_eq_true rfl, Nat.le_of_ble_eq_true rfl⟩ rfl rfl hP hS (Nat.le_of_ble_eq_true rfl) dX11_place_137 (fun H locs hP hS => ?_)
        refine lv_iconst (v := 1) hx hb dX11_place_140 (by decide) ?_
        refine lv_isub hx hb dX11_place_141 ?_
        refine lv_istore (lv' := [(4, .int (((f_J6_bitCount_0f7a4 (x3_6)) - 1))), (0, .ref (φ 0)), (2, .int (x2_5)), (3, .int (x3_6))]) hx hb dX11_place_142 hl (by decide) rfl (fun ls hl => ?_)
        refine lv_iload_n hx hb dX11_place_144 rfl (lv_at hl 2 rfl) ?_
        refine lv_if_ne (tgt := 153) hx hb dX11_place_145 (by decide) (fun c_12 => ?_) (fun c_12 => ?_)
        · rw [if_neg c_12] at h
          refine lv_aload_n hx hb dX11_place_153 rfl (lv_at hl 1 rfl) ?_
          refine G_X11_131 X.1 hn hP dX11_place_154 ?_
          refine lv_iconst (v := 1) hx hb dX11_place_157 (by decide) ?_
          refine lv_isub hx hb dX11_place_158 ?_
          refine lv_iload hx hb dX11_place_159 (lv_at hl 0 rfl) ?_
          refine lv_isub hx hb dX11_place_161 ?_
          obtain rfl := Option.some.inj h
          exact W.iret hx hb hr (r_end X hP hS) hS.2.2 dX11_place_162 (hlocks := hlk)
        · rw [if_pos c_12] at h
          refine lv_iload hx hb dX11_place_148 (lv_at hl 0 rfl) ?_
          refine lv_goto (tgt := 162) hx hb dX11_place_150 (by decide) ?_
          obtain rfl := Option.some.inj h
          exact W.iret hx hb hr (r_end X hP hS) hS.2.2 dX11_place_162 (hlocks := hlk)
      · rw [if_neg c_11] at h
        refine lv_iconst (v := 0) hx hb dX11_place_49 (by decide) ?_
        refine lv_istore (lv' := [(5, .int (0)), (0, .ref (φ 0)), (2, .int (x2_5)), (3, .int (x3_6)), (4, .int (x4_7))]) hx hb dX11_place_50 hl (by decide) rfl (fun ls hl => ?_)
        refine L52 _ _ _ _ _ _ _ _ _ _ _ hP hS (lv_sub hl [1, 2, 3, 4, 0] rfl) (fun x3_38 H locs ls hP hS hl h => ?_) h
        · try dsimp only at h
          refine lv_iinc (v := (x4_7 + 1)) (lv' := [(4, .int ((x4_7 + 1))), (0, .ref (φ 0)), (2, .int (x2_5)), (3, .int (x3_38))]) hx hb dX11_place_130 hl (k := 3) rfl (by rw [show Int32.ofInt (1) = 1 from by decide]) (by decide) rfl (fun ls hl => ?_)
          refine lv_goto (tgt := 40) hx hb dX11_place_133 (by decide) ?_
          exact ih _ _ _ _ _ _ _ _ hP hS (lv_sub hl [1, 2, 3, 0] rfl)  h
  refine lv_aload_n hx hb dX11_place_0 rfl (lv_at hl 0 rfl) ?_
  refine lv_iload_n hx hb dX11_place_1 rfl (lv_at hl 1 rfl) ?_
  refine c_V0 (As := [.int (a1)]) (rest := []) (a := 0) X hl.1 (c_X11_isNote l X.2.2.2.1.1 hn rfl) (w_X11_134) qw_1165 qw_44 ⟨Nat.le_of_ble_eq_true rfl, Nat.le_of_ble_eq_true rfl⟩ rfl rfl hP hS (by omega) sM_Model rfl rfl (Nat.le_of_ble_eq_true rfl) dX11_place_2 (fun H locs hP hS => ?_)
  refine lv_if_eq (tgt := 17) hx hb dX11_place_5 (by decide) (fun c_1 => ?_) (fun c_1 => ?_)
  · rw [if_pos c_1] at h
    refine lv_bipush (v := (-2)) hx hb dX11_place_17 (by decide) ?_
    obtain rfl := Option.some.inj h
    exact W.iret hx hb hr (r_end X hP hS) hS.2.2 dX11_place_19 (hlocks := hlk)
  · rw [if_neg c_1] at h
    refine lv_iload_n hx hb dX11_place_8 rfl (lv_at hl 2 rfl) ?_
    refine lv_iconst (v := 0) hx hb dX11_place_9 (by decide) ?_
    refine lv_iconst (v := 1) hx hb dX11_place_10 (by decide) ?_
    refine c_S0 (As := [.int (a2), .int (0), .int (1)]) (rest := []) X hl.1 (c_X11_within l X.2.2.2.1.1 hn rfl) (w_X11_127) qw_933 ⟨Nat.le_of_ble_eq_true rfl, Nat.le_of_ble_eq_true rfl⟩ rfl rfl hP hS (Nat.le_of_ble_eq_true rfl) dX11_place_11 (fun H locs hP hS => ?_)
    refine lv_if_ne (tgt := 20) hx hb dX11_place_14 (by decide) (fun c_2 => ?_) (fun c_2 => ?_)
    · rw [if_neg c_2] at h
      refine lv_aload_n hx hb dX11_place_20 rfl (lv_at hl 0 rfl) ?_
      refine lv_iconst (v := (-1)) hx hb dX11_place_21 (by decide) ?_
      refine lv_iconst (v := (-1)) hx hb dX11_place_22 (by decide) ?_
      obtain ⟨r_3, hr_3, h⟩ := ob h
      refine c_V0 (As := [.int ((-1)), .int ((-1))]) (rest := []) (a := 0) X hl.1 (c_X11_all l X.2.2.2.1.1 hn hr_3) (w_X11_281) qw_1288 qw_59 ⟨Nat.le_of_ble_eq_true rfl, Nat.le_of_ble_eq_true rfl⟩ rfl rfl hP hS (by omega) sM_Model rfl rfl (Nat.le_of_ble_eq_true rfl) dX11_place_23 (fun H locs hP hS => ?_)
      refine lv_lconst (v := 0) hx hb dX11_place_26 (by decide) ?_
      refine W.lcmp hx hb dX11_place_27 ?_
      refine lv_if_ne (tgt := 33) hx hb dX11_place_28 (by decide) (fun c_4 => ?_) (fun c_4 => ?_)
      · rw [if_neg c_4] at h
        refine lv_iconst (v := 1) hx hb dX11_place_33 (by decide) ?_
        refine lv_iload_n hx hb dX11_place_34 rfl (lv_at hl 1 rfl) ?_
        refine lv_ishl hx hb dX11_place_35 ?_
        refine lv_istore_n (lv' := [(3, .int (((1 : Int32) <<< (a1 &&& 31)))), (0, .ref (φ 0)), (1, .int (a1)), (2, .int (a2))]) hx hb dX11_place_36 rfl hl (by decide) rfl (fun ls hl => ?_)
        refine lv_iconst (v := 0) hx hb dX11_place_37 (by decide) ?_
        refine lv_istore (lv' := [(4, .int (0)), (3, .int (((1 : Int32) <<< (a1 &&& 31)))), (0, .ref (φ 0)), (1, .int (a1)), (2, .int (a2))]) hx hb dX11_place_38 hl (by decide) rfl (fun ls hl => ?_)
        refine L40 _ _ _ _ _ _ _ _ _ hP hS (lv_sub hl [2, 4, 1, 0] rfl)  h
      · rw [if_pos c_4] at h
        refine lv_iconst (v := (-1)) hx hb dX11_place_31 (by decide) ?_
        obtain rfl := Option.some.inj h
        exact W.iret hx hb hr (r_end X hP hS) hS.2.2 dX11_place_32 (hlocks := hlk)
    · rw [if_pos c_2] at h
      refine lv_bipush (v := (-2)) hx hb dX11_place_17 (by decide) ?_
      obtain rfl := Option.some.inj h
      exact W.iret hx hb hr (r_end X hP hS) hS.2.2 dX11_place_19 (hlocks := hlk)

def f_X11_came_55 (M : Mem) (x1_11 : Int32) (x2_12 : Int32) (k87 : Int32 → Option (Int32)) : Nat → Int32 → Int32 → Option (Int32)
  | 0, _, _ => none
  | fu_15 + 1, x3_13, x4_14 => (if (M 0 0) ≤ x4_14 then (k87 (x3_13)) else (Option.bind (f_X11_comes M (x4_14) (x2_12)) fun r_17 => (if r_17 = 0 then (f_X11_came_55 M x1_11 x2_12 k87 fu_15 (x3_13) ((x4_14 + 1))) else (f_X11_came_55 M x1_11 x2_12 k87 fu_15 ((x3_13 ||| ((1 : Int32) <<< (x4_14 &&& 31)))) ((x4_14 + 1))))))
def f_X11_came_40 (M : Mem) (x1_6 : Int32) : Nat → Int32 → Option (Int32)
  | 0, _ => none
  | fu_8 + 1, x2_7 => (if ibd (x1_6) 4 then (if (M 29 (Int32.toNatClampNeg (x1_6))) ≤ x2_7 then some ((-1)) else (f_X11_came_55 M (x1_6) (x2_7) (fun x3_20 => (if ibd (((40 * x1_6) + x2_7)) 160 then (if (M 30 (Int32.toNatClampNeg (((40 * x1_6) + x2_7)))) = x3_20 then (f_X11_came_40 M x1_6 fu_8 ((x2_7 + 1))) else some (x2_7)) else none)) FU (0) (0))) else none)
def f_X11_came (M : Mem) (a1 : Int32) : Option (Int32) :=
  (if (f_X11_within (a1) (0) (3)) = 0 then some ((-2)) else (if ibd (a1) 4 then (if (M 28 (Int32.toNatClampNeg (a1))) = (-1) then some ((-11)) else (if ibd (a1) 4 then (if 1 ≤ (M 29 (Int32.toNatClampNeg (a1))) then (f_X11_came_40 M (a1) FU (0)) else some ((-2))) else none)) else none))
set_option maxRecDepth 100000 in
set_option maxHeartbeats 4000000 in
theorem c_X11_came (l : Launch) {G : GT} {φ : Nat → Nat} {n : Nat} {M : Mem} {L : Nat → Int64} {a1 : Int32} (hI : wI φ n) (hn : 32 ≤ n) {r : Int32} (h : f_X11_came M a1 = some r) : CT l yX11_came cX11_came 5 (some .int) ({ frames := 1, cells := 0, slots := 0, locals := 22 } : Room) [.ref (φ 0), .int (a1)] (WB (cM G φ L) φ M n G) (some (.int r)) (WB (cM G φ L) φ (M) n G) φ n := by
  unfold f_X11_came at h
  refine r_start (plainFor_of_name (by decide)) (Nat.le_of_ble_eq_true rfl) hI ?_
  intro p e s m args below meth c ls X hr hlk hP hl
  have hS : va_S (wA φ n s.heap.size) s.heap s.heap [] := va_S.rf
  have hx := X.1.1
  have hb := X.1.2.1
  have hl : lv_has ls 5 [(0, .ref (φ 0)), (1, .int (a1))] := hl
  have L55 : ∀ (fu_15 : Nat) (x1_11 : Int32) (x2_12 : Int32) (k87 : Int32 → Option (Int32)) (x3_13 : Int32) (x4_14 : Int32)  (H : Heap) (locs : List Loc) (ls : Array Slot), va_P G.1 vwCl (wW (cM G φ L) φ M n) H → va_S (wA φ n s.heap.size) s.heap H locs → lv_has ls 5 [(0, .ref (φ 0)), (1, .int (x1_11)), (2, .int (x2_12)), (3, .int (x3_13)), (4, .int (x4_14))] → (∀ (z_19 : Int32) (H : Heap) (locs : List Loc) (ls : Array Slot), va_P G.1 vwCl (wW (cM G φ L) φ M n) H → va_S (wA φ n s.heap.size) s.heap H locs → lv_has ls 5 [(0, .ref (φ 0)), (1, .int (x1_11)), (2, .int (x2_12)), (3, .int (z_19))] → k87 z_19 = some r → W p l e ({ frames := 1, cells := 0, slots := 0, locals := 22 } : Room) s m args below meth c H locs 0 0 (MQ below (QQ (some (.int r)) (WB (cM G φ L) φ (M) n G) (wA φ n s.heap.size)) args s 0 0 (wA φ n s.heap.size)) (F0 m 87 ls [])) → f_X11_came_55 M x1_11 x2_12 k87 fu_15 x3_13 x4_14 = some r → W p l e ({ frames := 1, cells := 0, slots := 0, locals := 22 } : Room) s m args below meth c H locs 0 0 (MQ below (QQ (some (.int r)) (WB (cM G φ L) φ (M) n G) (wA φ n s.heap.size)) args s 0 0 (wA φ n s.heap.size)) (F0 m 55 ls []) := by
    intro fu_15
    induction fu_15 with
    | zero =>
      intro x1_11 x2_12 k87 x3_13 x4_14 H locs ls _ _ _ _ h
      have h : (none : Option (Int32)) = some r := h
      cases h
    | succ fu_15 ih =>
      intro x1_11 x2_12 k87 x3_13 x4_14 H locs ls hP hS hl hk87 h
      rw [f_X11_came_55] at h
      refine lv_iload hx hb dX11_came_55 (lv_at hl 4 rfl) ?_
      refine lv_aload_n hx hb dX11_came_57 rfl (lv_at hl 0 rfl) ?_
      refine G_X11_123 X.1 hn hP dX11_came_58 ?_
      refine lv_icmp_ge (tgt := 87) hx hb dX11_came_61 (by decide) (fun c_16 => ?_) (fun c_16 => ?_)
      · rw [if_pos c_16] at h
        exact hk87 _ _ _ _ hP hS (lv_sub hl [0, 1, 2, 3] rfl) h
      · rw [if_neg c_16] at h
        refine lv_aload_n hx hb dX11_came_64 rfl (lv_at hl 0 rfl) ?_
        refine lv_iload hx hb dX11_came_65 (lv_at hl 4 rfl) ?_
        refine lv_iload_n hx hb dX11_came_67 rfl (lv_at hl 2 rfl) ?_
        obtain ⟨r_17, hr_17, h⟩ := ob h
        refine c_V0 (As := [.int (x4_14), .int (x2_12)]) (rest := []) (a := 0) X hl.1 (c_X11_comes l X.2.2.2.1.1 hn hr_17) (w_X11_246) qw_1207 qw_51 ⟨Nat.le_of_ble_eq_true rfl, Nat.le_of_ble_eq_true rfl⟩ rfl rfl hP hS (by omega) sM_Model rfl rfl (Nat.le_of_ble_eq_true rfl) dX11_came_68 (fun H locs hP hS => ?_)
        refine lv_if_eq (tgt := 81) hx hb dX11_came_71 (by decide) (fun c_18 => ?_) (fun c_18 => ?_)
        · rw [if_pos c_18] at h
          refine lv_iinc (v := (x4_14 + 1)) (lv' := [(4, .int ((x4_14 + 1))), (0, .ref (φ 0)), (1, .int (x1_11)), (2, .int (x2_12)), (3, .int (x3_13))]) hx hb dX11_came_81 hl (k := 4) rfl (by rw [show Int32.ofInt (1) = 1 from by decide]) (by decide) rfl (fun ls hl => ?_)
          refine lv_goto (tgt := 55) hx hb dX11_came_84 (by decide) ?_
          exact ih _ _ _ _ _ _ _ _ hP hS (lv_sub hl [1, 2, 3, 4, 0] rfl) hk87 h
        · rw [if_neg c_18] at h
          refine lv_iload_n hx hb dX11_came_74 rfl (lv_at hl 3 rfl) ?_
          refine lv_iconst (v := 1) hx hb dX11_came_75 (by decide) ?_
          refine lv_iload hx hb dX11_came_76 (lv_at hl 4 rfl) ?_
          refine lv_ishl hx hb dX11_came_78 ?_
          refine lv_ior hx hb dX11_came_79 ?_
          refine lv_istore_n (lv' := [(3, .int ((x3_13 ||| ((1 : Int32) <<< (x4_14 &&& 31))))), (0, .ref (φ 0)), (1, .int (x1_11)), (2, .int (x2_12)), (4, .int (x4_14))]) hx hb dX11_came_80 rfl hl (by decide) rfl (fun ls hl => ?_)
          refine lv_iinc (v := (x4_14 + 1)) (lv' := [(4, .int ((x4_14 + 1))), (3, .int ((x3_13 ||| ((1 : Int32) <<< (x4_14 &&& 31))))), (0, .ref (φ 0)), (1, .int (x1_11)), (2, .int (x2_12))]) hx hb dX11_came_81 hl (k := 4) rfl (by rw [show Int32.ofInt (1) = 1 from by decide]) (by decide) rfl (fun ls hl => ?_)
          refine lv_goto (tgt := 55) hx hb dX11_came_84 (by decide) ?_
          exact ih _ _ _ _ _ _ _ _ hP hS (lv_sub hl [2, 3, 4, 1, 0] rfl) hk87 h
  have L40 : ∀ (fu_8 : Nat) (x1_6 : Int32) (x2_7 : Int32)  (H : Heap) (locs : List Loc) (ls : Array Slot), va_P G.1 vwCl (wW (cM G φ L) φ M n) H → va_S (wA φ n s.heap.size) s.heap H locs → lv_has ls 5 [(0, .ref (φ 0)), (1, .int (x1_6)), (2, .int (x2_7))] → f_X11_came_40 M x1_6 fu_8 x2_7 = some r → W p l e ({ frames := 1, cells := 0, slots := 0, locals := 22 } : Room) s m args below meth c H locs 0 0 (MQ below (QQ (some (.int r)) (WB (cM G φ L) φ (M) n G) (wA φ n s.heap.size)) args s 0 0 (wA φ n s.heap.size)) (F0 m 40 ls []) := by
    intro fu_8
    induction fu_8 with
    | zero =>
      intro x1_6 x2_7 H locs ls _ _ _  h
      have h : (none : Option (Int32)) = some r := h
      cases h
    | succ fu_8 ih =>
      intro x1_6 x2_7 H locs ls hP hS hl  h
      rw [f_X11_came_40] at h
      refine lv_iload_n hx hb dX11_came_40 rfl (lv_at hl 2 rfl) ?_
      refine lv_aload_n hx hb dX11_came_41 rfl (lv_at hl 0 rfl) ?_
      refine G_X11_95 X.1 hn hP dX11_came_42 ?_
      refine lv_iload_n hx hb dX11_came_45 rfl (lv_at hl 1 rfl) ?_
      obtain ⟨c_9, h⟩ := og h
      refine r_iald (k := (Int32.toNatClampNeg (x1_6))) X.1 hP (by omega) sM_sheetSize rfl (vin c_9) dX11_came_46 ?_
      refine lv_icmp_ge (tgt := 110) hx hb dX11_came_47 (by decide) (fun c_10 => ?_) (fun c_10 => ?_)
      · rw [if_pos c_10] at h
        refine lv_iconst (v := (-1)) hx hb dX11_came_110 (by decide) ?_
        obtain rfl := Option.some.inj h
        exact W.iret hx hb hr (r_end X hP hS) hS.2.2 dX11_came_111 (hlocks := hlk)
      · rw [if_neg c_10] at h
        refine lv_iconst (v := 0) hx hb dX11_came_50 (by decide) ?_
        refine lv_istore_n (lv' := [(3, .int (0)), (0, .ref (φ 0)), (1, .int (x1_6)), (2, .int (x2_7))]) hx hb dX11_came_51 rfl hl (by decide) rfl (fun ls hl => ?_)
        refine lv_iconst (v := 0) hx hb dX11_came_52 (by decide) ?_
        refine lv_istore (lv' := [(4, .int (0)), (3, .int (0)), (0, .ref (φ 0)), (1, .int (x1_6)), (2, .int (x2_7))]) hx hb dX11_came_53 hl (by decide) rfl (fun ls hl => ?_)
        refine L55 _ _ _ _ _ _ _ _ _ hP hS (lv_sub hl [2, 3, 4, 1, 0] rfl) (fun x3_20 H locs ls hP hS hl h => ?_) h
        · try dsimp only at h
          refine lv_aload_n hx hb dX11_came_87 rfl (lv_at hl 0 rfl) ?_
          refine G_X11_98 X.1 hn hP dX11_came_88 ?_
          refine lv_bipush (v := 40) hx hb dX11_came_91 (by decide) ?_
          refine lv_iload_n hx hb dX11_came_93 rfl (lv_at hl 1 rfl) ?_
          refine lv_imul hx hb dX11_came_94 ?_
          refine lv_iload_n hx hb dX11_came_95 rfl (lv_at hl 2 rfl) ?_
          refine lv_iadd hx hb dX11_came_96 ?_
          obtain ⟨c_21, h⟩ := og h
          refine r_iald (k := (Int32.toNatClampNeg (((40 * x1_6) + x2_7)))) X.1 hP (by omega) sM_cells rfl (vin c_21) dX11_came_97 ?_
          refine lv_iload_n hx hb dX11_came_98 rfl (lv_at hl 3 rfl) ?_
          refine lv_icmp_eq (tgt := 104) hx hb dX11_came_99 (by decide) (fun c_22 => ?_) (fun c_22 => ?_)
          · rw [if_pos c_22] at h
            refine lv_iinc (v := (x2_7 + 1)) (lv' := [(2, .int ((x2_7 + 1))), (0, .ref (φ 0)), (1, .int (x1_6)), (3, .int (x3_20))]) hx hb dX11_came_104 hl (k := 2) rfl (by rw [show Int32.ofInt (1) = 1 from by decide]) (by decide) rfl (fun ls hl => ?_)
            refine lv_goto (tgt := 40) hx hb dX11_came_107 (by decide) ?_
            exact ih _ _ _ _ _ hP hS (lv_sub hl [1, 2, 0] rfl)  h
          · rw [if_neg c_22] at h
            refine lv_iload_n hx hb dX11_came_102 rfl (lv_at hl 2 rfl) ?_
            obtain rfl := Option.some.inj h
            exact W.iret hx hb hr (r_end X hP hS) hS.2.2 dX11_came_103 (hlocks := hlk)
  refine lv_iload_n hx hb dX11_came_0 rfl (lv_at hl 1 rfl) ?_
  refine lv_iconst (v := 0) hx hb dX11_came_1 (by decide) ?_
  refine lv_iconst (v := 3) hx hb dX11_came_2 (by decide) ?_
  refine c_S0 (As := [.int (a1), .int (0), .int (3)]) (rest := []) X hl.1 (c_X11_within l X.2.2.2.1.1 hn rfl) (w_X11_127) qw_933 ⟨Nat.le_of_ble_eq_true rfl, Nat.le_of_ble_eq_true rfl⟩ rfl rfl hP hS (Nat.le_of_ble_eq_true rfl) dX11_came_3 (fun H locs hP hS => ?_)
  refine lv_if_ne (tgt := 12) hx hb dX11_came_6 (by decide) (fun c_1 => ?_) (fun c_1 => ?_)
  · rw [if_neg c_1] at h
    refine lv_aload_n hx hb dX11_came_12 rfl (lv_at hl 0 rfl) ?_
    refine G_X11_92 X.1 hn hP dX11_came_13 ?_
    refine lv_iload_n hx hb dX11_came_16 rfl (lv_at hl 1 rfl) ?_
    obtain ⟨c_2, h⟩ := og h
    refine r_iald (k := (Int32.toNatClampNeg (a1))) X.1 hP (by omega) sM_sheetSort rfl (vin c_2) dX11_came_17 ?_
    refine lv_iconst (v := (-1)) hx hb dX11_came_18 (by decide) ?_
    refine lv_icmp_ne (tgt := 25) hx hb dX11_came_19 (by decide) (fun c_3 => ?_) (fun c_3 => ?_)
    · rw [if_neg c_3] at h
      refine lv_aload_n hx hb dX11_came_25 rfl (lv_at hl 0 rfl) ?_
      refine G_X11_95 X.1 hn hP dX11_came_26 ?_
      refine lv_iload_n hx hb dX11_came_29 rfl (lv_at hl 1 rfl) ?_
      obtain ⟨c_4, h⟩ := og h
      refine r_iald (k := (Int32.toNatClampNeg (a1))) X.1 hP (by omega) sM_sheetSize rfl (vin c_4) dX11_came_30 ?_
      refine lv_iconst (v := 1) hx hb dX11_came_31 (by decide) ?_
      refine lv_icmp_ge (tgt := 38) hx hb dX11_came_32 (by decide) (fun c_5 => ?_) (fun c_5 => ?_)
      · rw [if_pos c_5] at h
        refine lv_iconst (v := 0) hx hb dX11_came_38 (by decide) ?_
        refine lv_istore_n (lv' := [(2, .int (0)), (0, .ref (φ 0)), (1, .int (a1))]) hx hb dX11_came_39 rfl hl (by decide) rfl (fun ls hl => ?_)
        refine L40 _ _ _ _ _ _ hP hS (lv_sub hl [1, 2, 0] rfl)  h
      · rw [if_neg c_5] at h
        refine lv_bipush (v := (-2)) hx hb dX11_came_35 (by decide) ?_
        obtain rfl := Option.some.inj h
        exact W.iret hx hb hr (r_end X hP hS) hS.2.2 dX11_came_37 (hlocks := hlk)
    · rw [if_pos c_3] at h
      refine lv_bipush (v := (-11)) hx hb dX11_came_22 (by decide) ?_
      obtain rfl := Option.some.inj h
      exact W.iret hx hb hr (r_end X hP hS) hS.2.2 dX11_came_24 (hlocks := hlk)
  · rw [if_pos c_1] at h
    refine lv_bipush (v := (-2)) hx hb dX11_came_9 (by decide) ?_
    obtain rfl := Option.some.inj h
    exact W.iret hx hb hr (r_end X hP hS) hS.2.2 dX11_came_11 (hlocks := hlk)

def f_X11_image_39 (k101 : Mem → Option (Int32 × Mem)) : Nat → Int32 → Mem → Option (Int32 × Mem)
  | 0, _, _ => none
  | fu_3 + 1, x1_1, M_2 => (if (M_2 0 0) ≤ x1_1 then (k101 M_2) else (if ibd (x1_1) 5 then (if ibd (x1_1) 5 then (if ibd (x1_1) 5 then (if ibd (x1_1) 5 then (if ibd (x1_1) 5 then (if ibd (x1_1) 5 then (if ibd (x1_1) 5 then (if ibd (x1_1) 5 then (f_X11_image_39 k101 fu_3 ((x1_1 + 1)) (upd2 (upd2 (upd2 (upd2 M_2 23 (Int32.toNatClampNeg (x1_1)) ((M_2 1 (Int32.toNatClampNeg (x1_1))))) 24 (Int32.toNatClampNeg (x1_1)) (((upd2 M_2 23 (Int32.toNatClampNeg (x1_1)) ((M_2 1 (Int32.toNatClampNeg (x1_1))))) 2 (Int32.toNatClampNeg (x1_1))))) 25 (Int32.toNatClampNeg (x1_1)) (((upd2 (upd2 M_2 23 (Int32.toNatClampNeg (x1_1)) ((M_2 1 (Int32.toNatClampNeg (x1_1))))) 24 (Int32.toNatClampNeg (x1_1)) (((upd2 M_2 23 (Int32.toNatClampNeg (x1_1)) ((M_2 1 (Int32.toNatClampNeg (x1_1))))) 2 (Int32.toNatClampNeg (x1_1))))) 3 (Int32.toNatClampNeg (x1_1))))) 26 (Int32.toNatClampNeg (x1_1)) (((upd2 (upd2 (upd2 M_2 23 (Int32.toNatClampNeg (x1_1)) ((M_2 1 (Int32.toNatClampNeg (x1_1))))) 24 (Int32.toNatClampNeg (x1_1)) (((upd2 M_2 23 (Int32.toNatClampNeg (x1_1)) ((M_2 1 (Int32.toNatClampNeg (x1_1))))) 2 (Int32.toNatClampNeg (x1_1))))) 25 (Int32.toNatClampNeg (x1_1)) (((upd2 (upd2 M_2 23 (Int32.toNatClampNeg (x1_1)) ((M_2 1 (Int32.toNatClampNeg (x1_1))))) 24 (Int32.toNatClampNeg (x1_1)) (((upd2 M_2 23 (Int32.toNatClampNeg (x1_1)) ((M_2 1 (Int32.toNatClampNeg (x1_1))))) 2 (Int32.toNatClampNeg (x1_1))))) 3 (Int32.toNatClampNeg (x1_1))))) 4 (Int32.toNatClampNeg (x1_1)))))) else none) else none) else none) else none) else none) else none) else none) else none))
def f_X11_image_103 : Nat → Int32 → Mem → Option (Int32 × Mem)
  | 0, _, _ => none
  | fu_17 + 1, x1_15, M_16 => (if (M_16 0 5) ≤ x1_15 then some (((M_16 0 10), M_16)) else (if ibd (x1_15) 10 then (if ibd (x1_15) 10 then (f_X11_image_103 fu_17 ((x1_15 + 1)) (upd2 M_16 27 (Int32.toNatClampNeg (x1_15)) ((M_16 6 (Int32.toNatClampNeg (x1_15)))))) else none) else none))
def f_X11_image (M : Mem) : Option (Int32 × Mem) :=
  (f_X11_image_39 (fun M_14 => (f_X11_image_103 FU (0) M_14)) FU (0) (upd2 (upd2 (upd2 (upd2 (upd2 M 0 34 (1)) 0 35 (((upd2 M 0 34 (1)) 0 0))) 0 36 (((upd2 (upd2 M 0 34 (1)) 0 35 (((upd2 M 0 34 (1)) 0 0))) 0 5))) 0 37 (((upd2 (upd2 (upd2 M 0 34 (1)) 0 35 (((upd2 M 0 34 (1)) 0 0))) 0 36 (((upd2 (upd2 M 0 34 (1)) 0 35 (((upd2 M 0 34 (1)) 0 0))) 0 5))) 0 10))) 0 38 (((upd2 (upd2 (upd2 (upd2 M 0 34 (1)) 0 35 (((upd2 M 0 34 (1)) 0 0))) 0 36 (((upd2 (upd2 M 0 34 (1)) 0 35 (((upd2 M 0 34 (1)) 0 0))) 0 5))) 0 37 (((upd2 (upd2 (upd2 M 0 34 (1)) 0 35 (((upd2 M 0 34 (1)) 0 0))) 0 36 (((upd2 (upd2 M 0 34 (1)) 0 35 (((upd2 M 0 34 (1)) 0 0))) 0 5))) 0 10))) 0 16))))
set_option maxRecDepth 100000 in
set_option maxHeartbeats 4000000 in
theorem c_X11_image (l : Launch) {G : GT} {φ : Nat → Nat} {n : Nat} {M : Mem} {L : Nat → Int64} (hI : wI φ n) (hn : 32 ≤ n) {r : Int32 × Mem} (h : f_X11_image M = some r) : CT l yX11_image cX11_image 2 (some .int) ({ frames := 0, cells := 0, slots := 0, locals := 0 } : Room) [.ref (φ 0)] (WB (cM G φ L) φ M n G) (some (.int r.1)) (WB (cM G φ L) φ (r.2) n G) φ n := by
  unfold f_X11_image at h
  refine r_start (plainFor_of_name (by decide)) (Nat.le_of_ble_eq_true rfl) hI ?_
  intro p e s m args below meth c ls X hr hlk hP hl
  have hS : va_S (wA φ n s.heap.size) s.heap s.heap [] := va_S.rf
  have hx := X.1.1
  have hb := X.1.2.1
  have hl : lv_has ls 2 [(0, .ref (φ 0))] := hl
  have L39 : ∀ (fu_3 : Nat) (M_2 : Mem) (k101 : Mem → Option (Int32 × Mem)) (x1_1 : Int32)  (H : Heap) (locs : List Loc) (ls : Array Slot), va_P G.1 vwCl (wW (cM G φ L) φ M_2 n) H → va_S (wA φ n s.heap.size) s.heap H locs → lv_has ls 2 [(0, .ref (φ 0)), (1, .int (x1_1))] → (∀ (M_13 : Mem) (H : Heap) (locs : List Loc) (ls : Array Slot), va_P G.1 vwCl (wW (cM G φ L) φ M_13 n) H → va_S (wA φ n s.heap.size) s.heap H locs → lv_has ls 2 [(0, .ref (φ 0))] → k101 M_13 = some r → W p l e ({ frames := 0, cells := 0, slots := 0, locals := 0 } : Room) s m args below meth c H locs 0 0 (MQ below (QQ (some (.int r.1)) (WB (cM G φ L) φ (r.2) n G) (wA φ n s.heap.size)) args s 0 0 (wA φ n s.heap.size)) (F0 m 101 ls [])) → f_X11_image_39 k101 fu_3 x1_1 M_2 = some r → W p l e ({ frames := 0, cells := 0, slots := 0, locals := 0 } : Room) s m args below meth c H locs 0 0 (MQ below (QQ (some (.int r.1)) (WB (cM G φ L) φ (r.2) n G) (wA φ n s.heap.size)) args s 0 0 (wA φ n s.heap.size)) (F0 m 39 ls []) := by
    intro fu_3
    induction fu_3 with
    | zero =>
      intro M_2 k101 x1_1 H locs ls _ _ _ _ h
      have h : (none : Option (Int32 × Mem)) = some r := h
      cases h
    | succ fu_3 ih =>
      intro M_2 k101 x1_1 H locs ls hP hS hl hk101 h
      rw [f_X11_image_39] at h
      refine lv_iload_n hx hb dX11_image_39 rfl (lv_at hl 1 rfl) ?_
      refine lv_aload_n hx hb dX11_image_40 rfl (lv_at hl 0 rfl) ?_
      refine G_X11_123 X.1 hn hP dX11_image_41 ?_
      refine lv_icmp_ge (tgt := 101) hx hb dX11_image_44 (by decide) (fun c_4 => ?_) (fun c_4 => ?_)
      · rw [if_pos c_4] at h
        exact hk101 _ _ _ _ hP hS (lv_sub hl [0] rfl) h
      · rw [if_neg c_4] at h
        refine lv_aload_n hx hb dX11_image_47 rfl (lv_at hl 0 rfl) ?_
        refine G_X11_77 X.1 hn hP dX11_image_48 ?_
        refine lv_iload_n hx hb dX11_image_51 rfl (lv_at hl 1 rfl) ?_
        refine lv_aload_n hx hb dX11_image_52 rfl (lv_at hl 0 rfl) ?_
        refine G_X11_7 X.1 hn hP dX11_image_53 ?_
        refine lv_iload_n hx hb dX11_image_56 rfl (lv_at hl 1 rfl) ?_
        obtain ⟨c_5, h⟩ := og h
        refine r_iald (k := (Int32.toNatClampNeg (x1_1))) X.1 hP (by omega) sM_first rfl (vin c_5) dX11_image_57 ?_
        obtain ⟨c_6, h⟩ := og h
        refine r_iast (k := (Int32.toNatClampNeg (x1_1))) X.1 X.2.2.2.1 hP hS (by omega) sM_oldFirst rfl (vin c_6) dX11_image_58 (fun H locs hP hS => ?_)
        refine lv_aload_n hx hb dX11_image_59 rfl (lv_at hl 0 rfl) ?_
        refine G_X11_80 X.1 hn hP dX11_image_60 ?_
        refine lv_iload_n hx hb dX11_image_63 rfl (lv_at hl 1 rfl) ?_
        refine lv_aload_n hx hb dX11_image_64 rfl (lv_at hl 0 rfl) ?_
        refine G_X11_13 X.1 hn hP dX11_image_65 ?_
        refine lv_iload_n hx hb dX11_image_68 rfl (lv_at hl 1 rfl) ?_
        obtain ⟨c_7, h⟩ := og h
        refine r_iald (k := (Int32.toNatClampNeg (x1_1))) X.1 hP (by omega) sM_every rfl (vin c_7) dX11_image_69 ?_
        obtain ⟨c_8, h⟩ := og h
        refine r_iast (k := (Int32.toNatClampNeg (x1_1))) X.1 X.2.2.2.1 hP hS (by omega) sM_oldEvery rfl (vin c_8) dX11_image_70 (fun H locs hP hS => ?_)
        refine lv_aload_n hx hb dX11_image_71 rfl (lv_at hl 0 rfl) ?_
        refine G_X11_83 X.1 hn hP dX11_image_72 ?_
        refine lv_iload_n hx hb dX11_image_75 rfl (lv_at hl 1 rfl) ?_
        refine lv_aload_n hx hb dX11_image_76 rfl (lv_at hl 0 rfl) ?_
        refine G_X11_16 X.1 hn hP dX11_image_77 ?_
        refine lv_iload_n hx hb dX11_image_80 rfl (lv_at hl 1 rfl) ?_
        obtain ⟨c_9, h⟩ := og h
        refine r_iald (k := (Int32.toNatClampNeg (x1_1))) X.1 hP (by omega) sM_reads rfl (vin c_9) dX11_image_81 ?_
        obtain ⟨c_10, h⟩ := og h
        refine r_iast (k := (Int32.toNatClampNeg (x1_1))) X.1 X.2.2.2.1 hP hS (by omega) sM_oldReads rfl (vin c_10) dX11_image_82 (fun H locs hP hS => ?_)
        refine lv_aload_n hx hb dX11_image_83 rfl (lv_at hl 0 rfl) ?_
        refine G_X11_86 X.1 hn hP dX11_image_84 ?_
        refine lv_iload_n hx hb dX11_image_87 rfl (lv_at hl 1 rfl) ?_
        refine lv_aload_n hx hb dX11_image_88 rfl (lv_at hl 0 rfl) ?_
        refine G_X11_19 X.1 hn hP dX11_image_89 ?_
        refine lv_iload_n hx hb dX11_image_92 rfl (lv_at hl 1 rfl) ?_
        obtain ⟨c_11, h⟩ := og h
        refine r_iald (k := (Int32.toNatClampNeg (x1_1))) X.1 hP (by omega) sM_temper rfl (vin c_11) dX11_image_93 ?_
        obtain ⟨c_12, h⟩ := og h
        refine r_iast (k := (Int32.toNatClampNeg (x1_1))) X.1 X.2.2.2.1 hP hS (by omega) sM_oldTemper rfl (vin c_12) dX11_image_94 (fun H locs hP hS => ?_)
        refine lv_iinc (v := (x1_1 + 1)) (lv' := [(1, .int ((x1_1 + 1))), (0, .ref (φ 0))]) hx hb dX11_image_95 hl (k := 1) rfl (by rw [show Int32.ofInt (1) = 1 from by decide]) (by decide) rfl (fun ls hl => ?_)
        refine lv_goto (tgt := 39) hx hb dX11_image_98 (by decide) ?_
        exact ih _ _ _ _ _ _ hP hS (lv_sub hl [1, 0] rfl) hk101 h
  have L103 : ∀ (fu_17 : Nat) (M_16 : Mem) (x1_15 : Int32)  (H : Heap) (locs : List Loc) (ls : Array Slot), va_P G.1 vwCl (wW (cM G φ L) φ M_16 n) H → va_S (wA φ n s.heap.size) s.heap H locs → lv_has ls 2 [(0, .ref (φ 0)), (1, .int (x1_15))] → f_X11_image_103 fu_17 x1_15 M_16 = some r → W p l e ({ frames := 0, cells := 0, slots := 0, locals := 0 } : Room) s m args below meth c H locs 0 0 (MQ below (QQ (some (.int r.1)) (WB (cM G φ L) φ (r.2) n G) (wA φ n s.heap.size)) args s 0 0 (wA φ n s.heap.size)) (F0 m 103 ls []) := by
    intro fu_17
    induction fu_17 with
    | zero =>
      intro M_16 x1_15 H locs ls _ _ _  h
      have h : (none : Option (Int32 × Mem)) = some r := h
      cases h
    | succ fu_17 ih =>
      intro M_16 x1_15 H locs ls hP hS hl  h
      rw [f_X11_image_103] at h
      refine lv_iload_n hx hb dX11_image_103 rfl (lv_at hl 1 rfl) ?_
      refine lv_aload_n hx hb dX11_image_104 rfl (lv_at hl 0 rfl) ?_
      refine G_X11_131 X.1 hn hP dX11_image_105 ?_
      refine lv_icmp_ge (tgt := 129) hx hb dX11_image_108 (by decide) (fun c_18 => ?_) (fun c_18 => ?_)
      · rw [if_pos c_18] at h
        refine lv_aload_n hx hb dX11_image_129 rfl (lv_at hl 0 rfl) ?_
        refine G_X11_278 X.1 hn hP dX11_image_130 ?_
        obtain rfl := Option.some.inj h
        exact W.iret hx hb hr (r_end X hP hS) hS.2.2 dX11_image_133 (hlocks := hlk)
      · rw [if_neg c_18] at h
        refine lv_aload_n hx hb dX11_image_111 rfl (lv_at hl 0 rfl) ?_
        refine G_X11_89 X.1 hn hP dX11_image_112 ?_
        refine lv_iload_n hx hb dX11_image_115 rfl (lv_at hl 1 rfl) ?_
        refine lv_aload_n hx hb dX11_image_116 rfl (lv_at hl 0 rfl) ?_
        refine G_X11_25 X.1 hn hP dX11_image_117 ?_
        refine lv_iload_n hx hb dX11_image_120 rfl (lv_at hl 1 rfl) ?_
        obtain ⟨c_19, h⟩ := og h
        refine r_iald (k := (Int32.toNatClampNeg (x1_15))) X.1 hP (by omega) sM_hour rfl (vin c_19) dX11_image_121 ?_
        obtain ⟨c_20, h⟩ := og h
        refine r_iast (k := (Int32.toNatClampNeg (x1_15))) X.1 X.2.2.2.1 hP hS (by omega) sM_oldHour rfl (vin c_20) dX11_image_122 (fun H locs hP hS => ?_)
        refine lv_iinc (v := (x1_15 + 1)) (lv' := [(1, .int ((x1_15 + 1))), (0, .ref (φ 0))]) hx hb dX11_image_123 hl (k := 1) rfl (by rw [show Int32.ofInt (1) = 1 from by decide]) (by decide) rfl (fun ls hl => ?_)
        refine lv_goto (tgt := 103) hx hb dX11_image_126 (by decide) ?_
        exact ih _ _ _ _ _ hP hS (lv_sub hl [1, 0] rfl)  h
  refine lv_aload_n hx hb dX11_image_0 rfl (lv_at hl 0 rfl) ?_
  refine lv_iconst (v := 1) hx hb dX11_image_1 (by decide) ?_
  refine P_X11_292 X.1 hn X.2.2.2.1 hP hS rfl rfl dX11_image_2 (fun H locs hP hS => ?_)
  refine lv_aload_n hx hb dX11_image_5 rfl (lv_at hl 0 rfl) ?_
  refine lv_aload_n hx hb dX11_image_6 rfl (lv_at hl 0 rfl) ?_
  refine G_X11_123 X.1 hn hP dX11_image_7 ?_
  refine P_X11_296 X.1 hn X.2.2.2.1 hP hS dX11_image_10 (fun H locs hP hS => ?_)
  refine lv_aload_n hx hb dX11_image_13 rfl (lv_at hl 0 rfl) ?_
  refine lv_aload_n hx hb dX11_image_14 rfl (lv_at hl 0 rfl) ?_
  refine G_X11_131 X.1 hn hP dX11_image_15 ?_
  refine P_X11_299 X.1 hn X.2.2.2.1 hP hS dX11_image_18 (fun H locs hP hS => ?_)
  refine lv_aload_n hx hb dX11_image_21 rfl (lv_at hl 0 rfl) ?_
  refine lv_aload_n hx hb dX11_image_22 rfl (lv_at hl 0 rfl) ?_
  refine G_X11_278 X.1 hn hP dX11_image_23 ?_
  refine P_X11_302 X.1 hn X.2.2.2.1 hP hS dX11_image_26 (fun H locs hP hS => ?_)
  refine lv_aload_n hx hb dX11_image_29 rfl (lv_at hl 0 rfl) ?_
  refine lv_aload_n hx hb dX11_image_30 rfl (lv_at hl 0 rfl) ?_
  refine G_X11_243 X.1 hn hP dX11_image_31 ?_
  refine P_X11_305 X.1 hn X.2.2.2.1 hP hS dX11_image_34 (fun H locs hP hS => ?_)
  refine lv_iconst (v := 0) hx hb dX11_image_37 (by decide) ?_
  refine lv_istore_n (lv' := [(1, .int (0)), (0, .ref (φ 0))]) hx hb dX11_image_38 rfl hl (by decide) rfl (fun ls hl => ?_)
  refine L39 _ _ _ _ _ _ _ hP hS (lv_sub hl [1, 0] rfl) (fun M_14 H locs ls hP hS hl h => ?_) h
  · try dsimp only at h
    refine lv_iconst (v := 0) hx hb dX11_image_101 (by decide) ?_
    refine lv_istore_n (lv' := [(1, .int (0)), (0, .ref (φ 0))]) hx hb dX11_image_102 rfl hl (by decide) rfl (fun ls hl => ?_)
    refine L103 _ _ _ _ _ _ hP hS (lv_sub hl [1, 0] rfl)  h

def f_X11_back_12 (k74 : Mem → Option (Int32 × Mem)) : Nat → Int32 → Mem → Option (Int32 × Mem)
  | 0, _, _ => none
  | fu_4 + 1, x1_2, M_3 => (if (M_3 0 35) ≤ x1_2 then (k74 M_3) else (if ibd (x1_2) 5 then (if ibd (x1_2) 5 then (if ibd (x1_2) 5 then (if ibd (x1_2) 5 then (if ibd (x1_2) 5 then (if ibd (x1_2) 5 then (if ibd (x1_2) 5 then (if ibd (x1_2) 5 then (f_X11_back_12 k74 fu_4 ((x1_2 + 1)) (upd2 (upd2 (upd2 (upd2 M_3 1 (Int32.toNatClampNeg (x1_2)) ((M_3 23 (Int32.toNatClampNeg (x1_2))))) 2 (Int32.toNatClampNeg (x1_2)) (((upd2 M_3 1 (Int32.toNatClampNeg (x1_2)) ((M_3 23 (Int32.toNatClampNeg (x1_2))))) 24 (Int32.toNatClampNeg (x1_2))))) 3 (Int32.toNatClampNeg (x1_2)) (((upd2 (upd2 M_3 1 (Int32.toNatClampNeg (x1_2)) ((M_3 23 (Int32.toNatClampNeg (x1_2))))) 2 (Int32.toNatClampNeg (x1_2)) (((upd2 M_3 1 (Int32.toNatClampNeg (x1_2)) ((M_3 23 (Int32.toNatClampNeg (x1_2))))) 24 (Int32.toNatClampNeg (x1_2))))) 25 (Int32.toNatClampNeg (x1_2))))) 4 (Int32.toNatClampNeg (x1_2)) (((upd2 (upd2 (upd2 M_3 1 (Int32.toNatClampNeg (x1_2)) ((M_3 23 (Int32.toNatClampNeg (x1_2))))) 2 (Int32.toNatClampNeg (x1_2)) (((upd2 M_3 1 (Int32.toNatClampNeg (x1_2)) ((M_3 23 (Int32.toNatClampNeg (x1_2))))) 24 (Int32.toNatClampNeg (x1_2))))) 3 (Int32.toNatClampNeg (x1_2)) (((upd2 (upd2 M_3 1 (Int32.toNatClampNeg (x1_2)) ((M_3 23 (Int32.toNatClampNeg (x1_2))))) 2 (Int32.toNatClampNeg (x1_2)) (((upd2 M_3 1 (Int32.toNatClampNeg (x1_2)) ((M_3 23 (Int32.toNatClampNeg (x1_2))))) 24 (Int32.toNatClampNeg (x1_2))))) 25 (Int32.toNatClampNeg (x1_2))))) 26 (Int32.toNatClampNeg (x1_2)))))) else none) else none) else none) else none) else none) else none) else none) else none))
def f_X11_back_76 : Nat → Int32 → Mem → Option (Int32 × Mem)
  | 0, _, _ => none
  | fu_18 + 1, x1_16, M_17 => (if (M_17 0 36) ≤ x1_16 then some ((((upd2 (upd2 M_17 0 10 ((M_17 0 37))) 0 16 (((upd2 M_17 0 10 ((M_17 0 37))) 0 38))) 0 10), (upd2 (upd2 M_17 0 10 ((M_17 0 37))) 0 16 (((upd2 M_17 0 10 ((M_17 0 37))) 0 38))))) else (if ibd (x1_16) 10 then (if ibd (x1_16) 10 then (f_X11_back_76 fu_18 ((x1_16 + 1)) (upd2 M_17 6 (Int32.toNatClampNeg (x1_16)) ((M_17 27 (Int32.toNatClampNeg (x1_16)))))) else none) else none))
def f_X11_back (M : Mem) : Option (Int32 × Mem) :=
  (if (M 0 34) = 0 then some (((-3), M)) else (f_X11_back_12 (fun M_15 => (f_X11_back_76 FU (0) M_15)) FU (0) M))
set_option maxRecDepth 100000 in
set_option maxHeartbeats 4000000 in
theorem c_X11_back (l : Launch) {G : GT} {φ : Nat → Nat} {n : Nat} {M : Mem} {L : Nat → Int64} (hI : wI φ n) (hn : 32 ≤ n) {r : Int32 × Mem} (h : f_X11_back M = some r) : CT l yX11_back cX11_back 2 (some .int) ({ frames := 0, cells := 0, slots := 0, locals := 0 } : Room) [.ref (φ 0)] (WB (cM G φ L) φ M n G) (some (.int r.1)) (WB (cM G φ L) φ (r.2) n G) φ n := by
  unfold f_X11_back at h
  refine r_start (plainFor_of_name (by decide)) (Nat.le_of_ble_eq_true rfl) hI ?_
  intro p e s m args below meth c ls X hr hlk hP hl
  have hS : va_S (wA φ n s.heap.size) s.heap s.heap [] := va_S.rf
  have hx := X.1.1
  have hb := X.1.2.1
  have hl : lv_has ls 2 [(0, .ref (φ 0))] := hl
  have L12 : ∀ (fu_4 : Nat) (M_3 : Mem) (k74 : Mem → Option (Int32 × Mem)) (x1_2 : Int32)  (H : Heap) (locs : List Loc) (ls : Array Slot), va_P G.1 vwCl (wW (cM G φ L) φ M_3 n) H → va_S (wA φ n s.heap.size) s.heap H locs → lv_has ls 2 [(0, .ref (φ 0)), (1, .int (x1_2))] → (∀ (M_14 : Mem) (H : Heap) (locs : List Loc) (ls : Array Slot), va_P G.1 vwCl (wW (cM G φ L) φ M_14 n) H → va_S (wA φ n s.heap.size) s.heap H locs → lv_has ls 2 [(0, .ref (φ 0))] → k74 M_14 = some r → W p l e ({ frames := 0, cells := 0, slots := 0, locals := 0 } : Room) s m args below meth c H locs 0 0 (MQ below (QQ (some (.int r.1)) (WB (cM G φ L) φ (r.2) n G) (wA φ n s.heap.size)) args s 0 0 (wA φ n s.heap.size)) (F0 m 74 ls [])) → f_X11_back_12 k74 fu_4 x1_2 M_3 = some r → W p l e ({ frames := 0, cells := 0, slots := 0, locals := 0 } : Room) s m args below meth c H locs 0 0 (MQ below (QQ (some (.int r.1)) (WB (cM G φ L) φ (r.2) n G) (wA φ n s.heap.size)) args s 0 0 (wA φ n s.heap.size)) (F0 m 12 ls []) := by
    intro fu_4
    induction fu_4 with
    | zero =>
      intro M_3 k74 x1_2 H locs ls _ _ _ _ h
      have h : (none : Option (Int32 × Mem)) = some r := h
      cases h
    | succ fu_4 ih =>
      intro M_3 k74 x1_2 H locs ls hP hS hl hk74 h
      rw [f_X11_back_12] at h
      refine lv_iload_n hx hb dX11_back_12 rfl (lv_at hl 1 rfl) ?_
      refine lv_aload_n hx hb dX11_back_13 rfl (lv_at hl 0 rfl) ?_
      refine G_X11_296 X.1 hn hP dX11_back_14 ?_
      refine lv_icmp_ge (tgt := 74) hx hb dX11_back_17 (by decide) (fun c_5 => ?_) (fun c_5 => ?_)
      · rw [if_pos c_5] at h
        exact hk74 _ _ _ _ hP hS (lv_sub hl [0] rfl) h
      · rw [if_neg c_5] at h
        refine lv_aload_n hx hb dX11_back_20 rfl (lv_at hl 0 rfl) ?_
        refine G_X11_7 X.1 hn hP dX11_back_21 ?_
        refine lv_iload_n hx hb dX11_back_24 rfl (lv_at hl 1 rfl) ?_
        refine lv_aload_n hx hb dX11_back_25 rfl (lv_at hl 0 rfl) ?_
        refine G_X11_77 X.1 hn hP dX11_back_26 ?_
        refine lv_iload_n hx hb dX11_back_29 rfl (lv_at hl 1 rfl) ?_
        obtain ⟨c_6, h⟩ := og h
        refine r_iald (k := (Int32.toNatClampNeg (x1_2))) X.1 hP (by omega) sM_oldFirst rfl (vin c_6) dX11_back_30 ?_
        obtain ⟨c_7, h⟩ := og h
        refine r_iast (k := (Int32.toNatClampNeg (x1_2))) X.1 X.2.2.2.1 hP hS (by omega) sM_first rfl (vin c_7) dX11_back_31 (fun H locs hP hS => ?_)
        refine lv_aload_n hx hb dX11_back_32 rfl (lv_at hl 0 rfl) ?_
        refine G_X11_13 X.1 hn hP dX11_back_33 ?_
        refine lv_iload_n hx hb dX11_back_36 rfl (lv_at hl 1 rfl) ?_
        refine lv_aload_n hx hb dX11_back_37 rfl (lv_at hl 0 rfl) ?_
        refine G_X11_80 X.1 hn hP dX11_back_38 ?_
        refine lv_iload_n hx hb dX11_back_41 rfl (lv_at hl 1 rfl) ?_
        obtain ⟨c_8, h⟩ := og h
        refine r_iald (k := (Int32.toNatClampNeg (x1_2))) X.1 hP (by omega) sM_oldEvery rfl (vin c_8) dX11_back_42 ?_
        obtain ⟨c_9, h⟩ := og h
        refine r_iast (k := (Int32.toNatClampNeg (x1_2))) X.1 X.2.2.2.1 hP hS (by omega) sM_every rfl (vin c_9) dX11_back_43 (fun H locs hP hS => ?_)
        refine lv_aload_n hx hb dX11_back_44 rfl (lv_at hl 0 rfl) ?_
        refine G_X11_16 X.1 hn hP dX11_back_45 ?_
        refine lv_iload_n hx hb dX11_back_48 rfl (lv_at hl 1 rfl) ?_
        refine lv_aload_n hx hb dX11_back_49 rfl (lv_at hl 0 rfl) ?_
        refine G_X11_83 X.1 hn hP dX11_back_50 ?_
        refine lv_iload_n hx hb dX11_back_53 rfl (lv_at hl 1 rfl) ?_
        obtain ⟨c_10, h⟩ := og h
        refine r_iald (k := (Int32.toNatClampNeg (x1_2))) X.1 hP (by omega) sM_oldReads rfl (vin c_10) dX11_back_54 ?_
        obtain ⟨c_11, h⟩ := og h
        refine r_iast (k := (Int32.toNatClampNeg (x1_2))) X.1 X.2.2.2.1 hP hS (by omega) sM_reads rfl (vin c_11) dX11_back_55 (fun H locs hP hS => ?_)
        refine lv_aload_n hx hb dX11_back_56 rfl (lv_at hl 0 rfl) ?_
        refine G_X11_19 X.1 hn hP dX11_back_57 ?_
        refine lv_iload_n hx hb dX11_back_60 rfl (lv_at hl 1 rfl) ?_
        refine lv_aload_n hx hb dX11_back_61 rfl (lv_at hl 0 rfl) ?_
        refine G_X11_86 X.1 hn hP dX11_back_62 ?_
        refine lv_iload_n hx hb dX11_back_65 rfl (lv_at hl 1 rfl) ?_
        obtain ⟨c_12, h⟩ := og h
        refine r_iald (k := (Int32.toNatClampNeg (x1_2))) X.1 hP (by omega) sM_oldTemper rfl (vin c_12) dX11_back_66 ?_
        obtain ⟨c_13, h⟩ := og h
        refine r_iast (k := (Int32.toNatClampNeg (x1_2))) X.1 X.2.2.2.1 hP hS (by omega) sM_temper rfl (vin c_13) dX11_back_67 (fun H locs hP hS => ?_)
        refine lv_iinc (v := (x1_2 + 1)) (lv' := [(1, .int ((x1_2 + 1))), (0, .ref (φ 0))]) hx hb dX11_back_68 hl (k := 1) rfl (by rw [show Int32.ofInt (1) = 1 from by decide]) (by decide) rfl (fun ls hl => ?_)
        refine lv_goto (tgt := 12) hx hb dX11_back_71 (by decide) ?_
        exact ih _ _ _ _ _ _ hP hS (lv_sub hl [1, 0] rfl) hk74 h
  have L76 : ∀ (fu_18 : Nat) (M_17 : Mem) (x1_16 : Int32)  (H : Heap) (locs : List Loc) (ls : Array Slot), va_P G.1 vwCl (wW (cM G φ L) φ M_17 n) H → va_S (wA φ n s.heap.size) s.heap H locs → lv_has ls 2 [(0, .ref (φ 0)), (1, .int (x1_16))] → f_X11_back_76 fu_18 x1_16 M_17 = some r → W p l e ({ frames := 0, cells := 0, slots := 0, locals := 0 } : Room) s m args below meth c H locs 0 0 (MQ below (QQ (some (.int r.1)) (WB (cM G φ L) φ (r.2) n G) (wA φ n s.heap.size)) args s 0 0 (wA φ n s.heap.size)) (F0 m 76 ls []) := by
    intro fu_18
    induction fu_18 with
    | zero =>
      intro M_17 x1_16 H locs ls _ _ _  h
      have h : (none : Option (Int32 × Mem)) = some r := h
      cases h
    | succ fu_18 ih =>
      intro M_17 x1_16 H locs ls hP hS hl  h
      rw [f_X11_back_76] at h
      refine lv_iload_n hx hb dX11_back_76 rfl (lv_at hl 1 rfl) ?_
      refine lv_aload_n hx hb dX11_back_77 rfl (lv_at hl 0 rfl) ?_
      refine G_X11_299 X.1 hn hP dX11_back_78 ?_
      refine lv_icmp_ge (tgt := 102) hx hb dX11_back_81 (by decide) (fun c_19 => ?_) (fun c_19 => ?_)
      · rw [if_pos c_19] at h
        refine lv_aload_n hx hb dX11_back_102 rfl (lv_at hl 0 rfl) ?_
        refine lv_aload_n hx hb dX11_back_103 rfl (lv_at hl 0 rfl) ?_
        refine G_X11_302 X.1 hn hP dX11_back_104 ?_
        refine P_X11_278 X.1 hn X.2.2.2.1 hP hS dX11_back_107 (fun H locs hP hS => ?_)
        refine lv_aload_n hx hb dX11_back_110 rfl (lv_at hl 0 rfl) ?_
        refine lv_aload_n hx hb dX11_back_111 rfl (lv_at hl 0 rfl) ?_
        refine G_X11_305 X.1 hn hP dX11_back_112 ?_
        refine P_X11_243 X.1 hn X.2.2.2.1 hP hS dX11_back_115 (fun H locs hP hS => ?_)
        refine lv_aload_n hx hb dX11_back_118 rfl (lv_at hl 0 rfl) ?_
        refine G_X11_278 X.1 hn hP dX11_back_119 ?_
        obtain rfl := Option.some.inj h
        exact W.iret hx hb hr (r_end X hP hS) hS.2.2 dX11_back_122 (hlocks := hlk)
      · rw [if_neg c_19] at h
        refine lv_aload_n hx hb dX11_back_84 rfl (lv_at hl 0 rfl) ?_
        refine G_X11_25 X.1 hn hP dX11_back_85 ?_
        refine lv_iload_n hx hb dX11_back_88 rfl (lv_at hl 1 rfl) ?_
        refine lv_aload_n hx hb dX11_back_89 rfl (lv_at hl 0 rfl) ?_
        refine G_X11_89 X.1 hn hP dX11_back_90 ?_
        refine lv_iload_n hx hb dX11_back_93 rfl (lv_at hl 1 rfl) ?_
        obtain ⟨c_20, h⟩ := og h
        refine r_iald (k := (Int32.toNatClampNeg (x1_16))) X.1 hP (by omega) sM_oldHour rfl (vin c_20) dX11_back_94 ?_
        obtain ⟨c_21, h⟩ := og h
        refine r_iast (k := (Int32.toNatClampNeg (x1_16))) X.1 X.2.2.2.1 hP hS (by omega) sM_hour rfl (vin c_21) dX11_back_95 (fun H locs hP hS => ?_)
        refine lv_iinc (v := (x1_16 + 1)) (lv' := [(1, .int ((x1_16 + 1))), (0, .ref (φ 0))]) hx hb dX11_back_96 hl (k := 1) rfl (by rw [show Int32.ofInt (1) = 1 from by decide]) (by decide) rfl (fun ls hl => ?_)
        refine lv_goto (tgt := 76) hx hb dX11_back_99 (by decide) ?_
        exact ih _ _ _ _ _ hP hS (lv_sub hl [1, 0] rfl)  h
  refine lv_aload_n hx hb dX11_back_0 rfl (lv_at hl 0 rfl) ?_
  refine G_X11_292 X.1 hn hP dX11_back_1 ?_
  refine lv_if_ne (tgt := 10) hx hb dX11_back_4 (by decide) (fun c_1 => ?_) (fun c_1 => ?_)
  · rw [if_neg c_1] at h
    refine lv_iconst (v := 0) hx hb dX11_back_10 (by decide) ?_
    refine lv_istore_n (lv' := [(1, .int (0)), (0, .ref (φ 0))]) hx hb dX11_back_11 rfl hl (by decide) rfl (fun ls hl => ?_)
    refine L12 _ _ _ _ _ _ _ hP hS (lv_sub hl [1, 0] rfl) (fun M_15 H locs ls hP hS hl h => ?_) h
    · try dsimp only at h
      refine lv_iconst (v := 0) hx hb dX11_back_74 (by decide) ?_
      refine lv_istore_n (lv' := [(1, .int (0)), (0, .ref (φ 0))]) hx hb dX11_back_75 rfl hl (by decide) rfl (fun ls hl => ?_)
      refine L76 _ _ _ _ _ _ hP hS (lv_sub hl [1, 0] rfl)  h
  · rw [if_pos c_1] at h
    refine lv_bipush (v := (-3)) hx hb dX11_back_7 (by decide) ?_
    obtain rfl := Option.some.inj h
    exact W.iret hx hb hr (r_end X hP hS) hS.2.2 dX11_back_9 (hlocks := hlk)

def f_X11_count (M : Mem) (a1 : Int32) : Option (Int32) :=
  (if Int32.toInt (a1) < 0 ∨ 5 < Int32.toInt (a1) then some ((-2)) else (if a1 = 0 then some ((M 0 0)) else (if a1 = 1 then some ((M 0 5)) else (if a1 = 2 then some ((M 0 10)) else (if a1 = 3 then some ((M 0 15)) else (if a1 = 4 then some ((M 0 13)) else (if a1 = 5 then some ((M 0 16)) else none)))))))
set_option maxRecDepth 100000 in
set_option maxHeartbeats 4000000 in
theorem c_X11_count (l : Launch) {G : GT} {φ : Nat → Nat} {n : Nat} {M : Mem} {L : Nat → Int64} {a1 : Int32} (hI : wI φ n) (hn : 32 ≤ n) {r : Int32} (h : f_X11_count M a1 = some r) : CT l yX11_count cX11_count 2 (some .int) ({ frames := 0, cells := 0, slots := 0, locals := 0 } : Room) [.ref (φ 0), .int (a1)] (WB (cM G φ L) φ M n G) (some (.int r)) (WB (cM G φ L) φ (M) n G) φ n := by
  unfold f_X11_count at h
  refine r_start (plainFor_of_name (by decide)) (Nat.le_of_ble_eq_true rfl) hI ?_
  intro p e s m args below meth c ls X hr hlk hP hl
  have hS : va_S (wA φ n s.heap.size) s.heap s.heap [] := va_S.rf
  have hx := X.1.1
  have hb := X.1.2.1
  have hl : lv_has ls 2 [(0, .ref (φ 0)), (1, .int (a1))] := hl
  refine lv_iload_n hx hb dX11_count_0 rfl (lv_at hl 1 rfl) ?_
  by_cases c_1 : Int32.toInt (a1) < 0 ∨ 5 < Int32.toInt (a1)
  · rw [if_pos c_1] at h
    refine lv_tableOut (tgt := 70) hx hb dX11_count_1 c_1 (by decide) ?_
    refine lv_bipush (v := (-2)) hx hb dX11_count_70 (by decide) ?_
    obtain rfl := Option.some.inj h
    exact W.iret hx hb hr (r_end X hP hS) hS.2.2 dX11_count_72 (hlocks := hlk)
  · rw [if_neg c_1] at h
    by_cases c_2 : a1 = 0
    · rw [if_pos c_2] at h
      refine lv_tableIn (tgt := 40) (off := 39) hx hb dX11_count_1 (fun q => c_1 (Or.inl q)) (fun q => c_1 (Or.inr q)) (by rw [c_2]; rfl) (by decide) ?_
      refine lv_aload_n hx hb dX11_count_40 rfl (lv_at hl 0 rfl) ?_
      refine G_X11_123 X.1 hn hP dX11_count_41 ?_
      obtain rfl := Option.some.inj h
      exact W.iret hx hb hr (r_end X hP hS) hS.2.2 dX11_count_44 (hlocks := hlk)
    · rw [if_neg c_2] at h
      by_cases c_3 : a1 = 1
      · rw [if_pos c_3] at h
        refine lv_tableIn (tgt := 45) (off := 44) hx hb dX11_count_1 (fun q => c_1 (Or.inl q)) (fun q => c_1 (Or.inr q)) (by rw [c_3]; rfl) (by decide) ?_
        refine lv_aload_n hx hb dX11_count_45 rfl (lv_at hl 0 rfl) ?_
        refine G_X11_131 X.1 hn hP dX11_count_46 ?_
        obtain rfl := Option.some.inj h
        exact W.iret hx hb hr (r_end X hP hS) hS.2.2 dX11_count_49 (hlocks := hlk)
      · rw [if_neg c_3] at h
        by_cases c_4 : a1 = 2
        · rw [if_pos c_4] at h
          refine lv_tableIn (tgt := 50) (off := 49) hx hb dX11_count_1 (fun q => c_1 (Or.inl q)) (fun q => c_1 (Or.inr q)) (by rw [c_4]; rfl) (by decide) ?_
          refine lv_aload_n hx hb dX11_count_50 rfl (lv_at hl 0 rfl) ?_
          refine G_X11_278 X.1 hn hP dX11_count_51 ?_
          obtain rfl := Option.some.inj h
          exact W.iret hx hb hr (r_end X hP hS) hS.2.2 dX11_count_54 (hlocks := hlk)
        · rw [if_neg c_4] at h
          by_cases c_5 : a1 = 3
          · rw [if_pos c_5] at h
            refine lv_tableIn (tgt := 55) (off := 54) hx hb dX11_count_1 (fun q => c_1 (Or.inl q)) (fun q => c_1 (Or.inr q)) (by rw [c_5]; rfl) (by decide) ?_
            refine lv_aload_n hx hb dX11_count_55 rfl (lv_at hl 0 rfl) ?_
            refine G_X11_187 X.1 hn hP dX11_count_56 ?_
            obtain rfl := Option.some.inj h
            exact W.iret hx hb hr (r_end X hP hS) hS.2.2 dX11_count_59 (hlocks := hlk)
          · rw [if_neg c_5] at h
            by_cases c_6 : a1 = 4
            · rw [if_pos c_6] at h
              refine lv_tableIn (tgt := 60) (off := 59) hx hb dX11_count_1 (fun q => c_1 (Or.inl q)) (fun q => c_1 (Or.inr q)) (by rw [c_6]; rfl) (by decide) ?_
              refine lv_aload_n hx hb dX11_count_60 rfl (lv_at hl 0 rfl) ?_
              refine G_X11_153 X.1 hn hP dX11_count_61 ?_
              obtain rfl := Option.some.inj h
              exact W.iret hx hb hr (r_end X hP hS) hS.2.2 dX11_count_64 (hlocks := hlk)
            · rw [if_neg c_6] at h
              by_cases c_7 : a1 = 5
              · rw [if_pos c_7] at h
                refine lv_tableIn (tgt := 65) (off := 64) hx hb dX11_count_1 (fun q => c_1 (Or.inl q)) (fun q => c_1 (Or.inr q)) (by rw [c_7]; rfl) (by decide) ?_
                refine lv_aload_n hx hb dX11_count_65 rfl (lv_at hl 0 rfl) ?_
                refine G_X11_243 X.1 hn hP dX11_count_66 ?_
                obtain rfl := Option.some.inj h
                exact W.iret hx hb hr (r_end X hP hS) hS.2.2 dX11_count_69 (hlocks := hlk)
              · rw [if_neg c_7] at h
                cases h

def f_X11_sheet_68 (x1_8 : Int32) : Nat → Int32 → Mem → Option (Int32 × Mem)
  | 0, _, _ => none
  | fu_11 + 1, x4_9, M_10 => (if 40 ≤ x4_9 then some ((1, M_10)) else (if ibd (((40 * x1_8) + x4_9)) 160 then (f_X11_sheet_68 x1_8 fu_11 ((x4_9 + 1)) (upd2 M_10 30 (Int32.toNatClampNeg (((40 * x1_8) + x4_9))) (0))) else none))
def f_X11_sheet (M : Mem) (a1 : Int32) (a2 : Int32) (a3 : Int32) : Option (Int32 × Mem) :=
  (if (f_X11_within (a1) (0) (3)) = 0 then some (((-2), M)) else (if (f_X11_within (a2) ((-1)) (2)) = 0 then some (((-2), M)) else (if a2 = (-1) then (if ibd (a1) 4 then some ((1, (upd2 M 28 (Int32.toNatClampNeg (a1)) ((-1))))) else none) else (if a3 ≤ 40 then (if 0 ≤ a3 then (if ibd (a1) 4 then (if ibd (a1) 4 then (f_X11_sheet_68 (a1) FU (0) (upd2 (upd2 M 28 (Int32.toNatClampNeg (a1)) (a2)) 29 (Int32.toNatClampNeg (a1)) (a3))) else none) else none) else some (((-14), M))) else some (((-2), M))))))
set_option maxRecDepth 100000 in
set_option maxHeartbeats 4000000 in
theorem c_X11_sheet (l : Launch) {G : GT} {φ : Nat → Nat} {n : Nat} {M : Mem} {L : Nat → Int64} {a1 : Int32} {a2 : Int32} {a3 : Int32} (hI : wI φ n) (hn : 32 ≤ n) {r : Int32 × Mem} (h : f_X11_sheet M a1 a2 a3 = some r) : CT l yX11_sheet cX11_sheet 5 (some .int) ({ frames := 1, cells := 0, slots := 0, locals := 22 } : Room) [.ref (φ 0), .int (a1), .int (a2), .int (a3)] (WB (cM G φ L) φ M n G) (some (.int r.1)) (WB (cM G φ L) φ (r.2) n G) φ n := by
  unfold f_X11_sheet at h
  refine r_start (plainFor_of_name (by decide)) (Nat.le_of_ble_eq_true rfl) hI ?_
  intro p e s m args below meth c ls X hr hlk hP hl
  have hS : va_S (wA φ n s.heap.size) s.heap s.heap [] := va_S.rf
  have hx := X.1.1
  have hb := X.1.2.1
  have hl : lv_has ls 5 [(0, .ref (φ 0)), (1, .int (a1)), (2, .int (a2)), (3, .int (a3))] := hl
  have L68 : ∀ (fu_11 : Nat) (M_10 : Mem) (x1_8 : Int32) (x4_9 : Int32)  (H : Heap) (locs : List Loc) (ls : Array Slot), va_P G.1 vwCl (wW (cM G φ L) φ M_10 n) H → va_S (wA φ n s.heap.size) s.heap H locs → lv_has ls 5 [(0, .ref (φ 0)), (1, .int (x1_8)), (4, .int (x4_9))] → f_X11_sheet_68 x1_8 fu_11 x4_9 M_10 = some r → W p l e ({ frames := 1, cells := 0, slots := 0, locals := 22 } : Room) s m args below meth c H locs 0 0 (MQ below (QQ (some (.int r.1)) (WB (cM G φ L) φ (r.2) n G) (wA φ n s.heap.size)) args s 0 0 (wA φ n s.heap.size)) (F0 m 68 ls []) := by
    intro fu_11
    induction fu_11 with
    | zero =>
      intro M_10 x1_8 x4_9 H locs ls _ _ _  h
      have h : (none : Option (Int32 × Mem)) = some r := h
      cases h
    | succ fu_11 ih =>
      intro M_10 x1_8 x4_9 H locs ls hP hS hl  h
      rw [f_X11_sheet_68] at h
      refine lv_iload hx hb dX11_sheet_68 (lv_at hl 2 rfl) ?_
      refine lv_bipush (v := 40) hx hb dX11_sheet_70 (by decide) ?_
      refine lv_icmp_ge (tgt := 94) hx hb dX11_sheet_72 (by decide) (fun c_12 => ?_) (fun c_12 => ?_)
      · rw [if_pos c_12] at h
        refine lv_iconst (v := 1) hx hb dX11_sheet_94 (by decide) ?_
        obtain rfl := Option.some.inj h
        exact W.iret hx hb hr (r_end X hP hS) hS.2.2 dX11_sheet_95 (hlocks := hlk)
      · rw [if_neg c_12] at h
        refine lv_aload_n hx hb dX11_sheet_75 rfl (lv_at hl 0 rfl) ?_
        refine G_X11_98 X.1 hn hP dX11_sheet_76 ?_
        refine lv_bipush (v := 40) hx hb dX11_sheet_79 (by decide) ?_
        refine lv_iload_n hx hb dX11_sheet_81 rfl (lv_at hl 1 rfl) ?_
        refine lv_imul hx hb dX11_sheet_82 ?_
        refine lv_iload hx hb dX11_sheet_83 (lv_at hl 2 rfl) ?_
        refine lv_iadd hx hb dX11_sheet_85 ?_
        refine lv_iconst (v := 0) hx hb dX11_sheet_86 (by decide) ?_
        obtain ⟨c_13, h⟩ := og h
        refine r_iast (k := (Int32.toNatClampNeg (((40 * x1_8) + x4_9)))) X.1 X.2.2.2.1 hP hS (by omega) sM_cells rfl (vin c_13) dX11_sheet_87 (fun H locs hP hS => ?_)
        refine lv_iinc (v := (x4_9 + 1)) (lv' := [(4, .int ((x4_9 + 1))), (0, .ref (φ 0)), (1, .int (x1_8))]) hx hb dX11_sheet_88 hl (k := 2) rfl (by rw [show Int32.ofInt (1) = 1 from by decide]) (by decide) rfl (fun ls hl => ?_)
        refine lv_goto (tgt := 68) hx hb dX11_sheet_91 (by decide) ?_
        exact ih _ _ _ _ _ _ hP hS (lv_sub hl [1, 2, 0] rfl)  h
  refine lv_iload_n hx hb dX11_sheet_0 rfl (lv_at hl 1 rfl) ?_
  refine lv_iconst (v := 0) hx hb dX11_sheet_1 (by decide) ?_
  refine lv_iconst (v := 3) hx hb dX11_sheet_2 (by decide) ?_
  refine c_S0 (As := [.int (a1), .int (0), .int (3)]) (rest := []) X hl.1 (c_X11_within l X.2.2.2.1.1 hn rfl) (w_X11_127) qw_933 ⟨Nat.le_of_ble_eq_true rfl, Nat.le_of_ble_eq_true rfl⟩ rfl rfl hP hS (Nat.le_of_ble_eq_true rfl) dX11_sheet_3 (fun H locs hP hS => ?_)
  refine lv_if_eq (tgt := 18) hx hb dX11_sheet_6 (by decide) (fun c_1 => ?_) (fun c_1 => ?_)
  · rw [if_pos c_1] at h
    refine lv_bipush (v := (-2)) hx hb dX11_sheet_18 (by decide) ?_
    obtain rfl := Option.some.inj h
    exact W.iret hx hb hr (r_end X hP hS) hS.2.2 dX11_sheet_20 (hlocks := hlk)
  · rw [if_neg c_1] at h
    refine lv_iload_n hx hb dX11_sheet_9 rfl (lv_at hl 2 rfl) ?_
    refine lv_iconst (v := (-1)) hx hb dX11_sheet_10 (by decide) ?_
    refine lv_iconst (v := 2) hx hb dX11_sheet_11 (by decide) ?_
    refine c_S0 (As := [.int (a2), .int ((-1)), .int (2)]) (rest := []) X hl.1 (c_X11_within l X.2.2.2.1.1 hn rfl) (w_X11_127) qw_933 ⟨Nat.le_of_ble_eq_true rfl, Nat.le_of_ble_eq_true rfl⟩ rfl rfl hP hS (Nat.le_of_ble_eq_true rfl) dX11_sheet_12 (fun H locs hP hS => ?_)
    refine lv_if_ne (tgt := 21) hx hb dX11_sheet_15 (by decide) (fun c_2 => ?_) (fun c_2 => ?_)
    · rw [if_neg c_2] at h
      refine lv_iload_n hx hb dX11_sheet_21 rfl (lv_at hl 2 rfl) ?_
      refine lv_iconst (v := (-1)) hx hb dX11_sheet_22 (by decide) ?_
      refine lv_icmp_ne (tgt := 35) hx hb dX11_sheet_23 (by decide) (fun c_3 => ?_) (fun c_3 => ?_)
      · rw [if_neg c_3] at h
        refine lv_iload_n hx hb dX11_sheet_35 rfl (lv_at hl 3 rfl) ?_
        refine lv_bipush (v := 40) hx hb dX11_sheet_36 (by decide) ?_
        refine lv_icmp_le (tgt := 44) hx hb dX11_sheet_38 (by decide) (fun c_4 => ?_) (fun c_4 => ?_)
        · rw [if_pos c_4] at h
          refine lv_iload_n hx hb dX11_sheet_44 rfl (lv_at hl 3 rfl) ?_
          refine lv_if_ge (tgt := 51) hx hb dX11_sheet_45 (by decide) (fun c_5 => ?_) (fun c_5 => ?_)
          · rw [if_pos c_5] at h
            refine lv_aload_n hx hb dX11_sheet_51 rfl (lv_at hl 0 rfl) ?_
            refine G_X11_92 X.1 hn hP dX11_sheet_52 ?_
            refine lv_iload_n hx hb dX11_sheet_55 rfl (lv_at hl 1 rfl) ?_
            refine lv_iload_n hx hb dX11_sheet_56 rfl (lv_at hl 2 rfl) ?_
            obtain ⟨c_6, h⟩ := og h
            refine r_iast (k := (Int32.toNatClampNeg (a1))) X.1 X.2.2.2.1 hP hS (by omega) sM_sheetSort rfl (vin c_6) dX11_sheet_57 (fun H locs hP hS => ?_)
            refine lv_aload_n hx hb dX11_sheet_58 rfl (lv_at hl 0 rfl) ?_
            refine G_X11_95 X.1 hn hP dX11_sheet_59 ?_
            refine lv_iload_n hx hb dX11_sheet_62 rfl (lv_at hl 1 rfl) ?_
            refine lv_iload_n hx hb dX11_sheet_63 rfl (lv_at hl 3 rfl) ?_
            obtain ⟨c_7, h⟩ := og h
            refine r_iast (k := (Int32.toNatClampNeg (a1))) X.1 X.2.2.2.1 hP hS (by omega) sM_sheetSize rfl (vin c_7) dX11_sheet_64 (fun H locs hP hS => ?_)
            refine lv_iconst (v := 0) hx hb dX11_sheet_65 (by decide) ?_
            refine lv_istore (lv' := [(4, .int (0)), (0, .ref (φ 0)), (1, .int (a1)), (2, .int (a2)), (3, .int (a3))]) hx hb dX11_sheet_66 hl (by decide) rfl (fun ls hl => ?_)
            refine L68 _ _ _ _ _ _ _ hP hS (lv_sub hl [1, 2, 0] rfl)  h
          · rw [if_neg c_5] at h
            refine lv_bipush (v := (-14)) hx hb dX11_sheet_48 (by decide) ?_
            obtain rfl := Option.some.inj h
            exact W.iret hx hb hr (r_end X hP hS) hS.2.2 dX11_sheet_50 (hlocks := hlk)
        · rw [if_neg c_4] at h
          refine lv_bipush (v := (-2)) hx hb dX11_sheet_41 (by decide) ?_
          obtain rfl := Option.some.inj h
          exact W.iret hx hb hr (r_end X hP hS) hS.2.2 dX11_sheet_43 (hlocks := hlk)
      · rw [if_pos c_3] at h
        refine lv_aload_n hx hb dX11_sheet_26 rfl (lv_at hl 0 rfl) ?_
        refine G_X11_92 X.1 hn hP dX11_sheet_27 ?_
        refine lv_iload_n hx hb dX11_sheet_30 rfl (lv_at hl 1 rfl) ?_
        refine lv_iconst (v := (-1)) hx hb dX11_sheet_31 (by decide) ?_
        obtain ⟨c_14, h⟩ := og h
        refine r_iast (k := (Int32.toNatClampNeg (a1))) X.1 X.2.2.2.1 hP hS (by omega) sM_sheetSort rfl (vin c_14) dX11_sheet_32 (fun H locs hP hS => ?_)
        refine lv_iconst (v := 1) hx hb dX11_sheet_33 (by decide) ?_
        obtain rfl := Option.some.inj h
        exact W.iret hx hb hr (r_end X hP hS) hS.2.2 dX11_sheet_34 (hlocks := hlk)
    · rw [if_pos c_2] at h
      refine lv_bipush (v := (-2)) hx hb dX11_sheet_18 (by decide) ?_
      obtain rfl := Option.some.inj h
      exact W.iret hx hb hr (r_end X hP hS) hS.2.2 dX11_sheet_20 (hlocks := hlk)

def f_X11_cell (M : Mem) (a1 : Int32) (a2 : Int32) (a3 : Int32) : Option (Int32 × Mem) :=
  (if (f_X11_within (a1) (0) (3)) = 0 then some (((-2), M)) else (if ibd (a1) 4 then (if (M 28 (Int32.toNatClampNeg (a1))) = (-1) then some (((-11), M)) else (if ibd (a1) 4 then (if (f_X11_within (a2) (0) (((M 29 (Int32.toNatClampNeg (a1))) - 1))) = 0 then some (((-12), M)) else (if ibd (a1) 4 then (if (M 28 (Int32.toNatClampNeg (a1))) = 0 then (if ibd (((40 * a1) + a2)) 160 then some ((1, (upd2 M 30 (Int32.toNatClampNeg (((40 * a1) + a2))) ((Int32.toInt8 (a3)).toInt32)))) else none) else (if ibd (a1) 4 then (if (M 28 (Int32.toNatClampNeg (a1))) = 1 then (if ibd (((40 * a1) + a2)) 160 then some ((1, (upd2 M 30 (Int32.toNatClampNeg (((40 * a1) + a2))) ((Int32.toInt16 (a3)).toInt32)))) else none) else (if ibd (((40 * a1) + a2)) 160 then some ((1, (upd2 M 30 (Int32.toNatClampNeg (((40 * a1) + a2))) (a3)))) else none)) else none)) else none)) else none)) else none))
set_option maxRecDepth 100000 in
set_option maxHeartbeats 4000000 in
theorem c_X11_cell (l : Launch) {G : GT} {φ : Nat → Nat} {n : Nat} {M : Mem} {L : Nat → Int64} {a1 : Int32} {a2 : Int32} {a3 : Int32} (hI : wI φ n) (hn : 32 ≤ n) {r : Int32 × Mem} (h : f_X11_cell M a1 a2 a3 = some r) : CT l yX11_cell cX11_cell 4 (some .int) ({ frames := 1, cells := 0, slots := 0, locals := 22 } : Room) [.ref (φ 0), .int (a1), .int (a2), .int (a3)] (WB (cM G φ L) φ M n G) (some (.int r.1)) (WB (cM G φ L) φ (r.2) n G) φ n := by
  unfold f_X11_cell at h
  refine r_start (plainFor_of_name (by decide)) (Nat.le_of_ble_eq_true rfl) hI ?_
  intro p e s m args below meth c ls X hr hlk hP hl
  have hS : va_S (wA φ n s.heap.size) s.heap s.heap [] := va_S.rf
  have hx := X.1.1
  have hb := X.1.2.1
  have hl : lv_has ls 4 [(0, .ref (φ 0)), (1, .int (a1)), (2, .int (a2)), (3, .int (a3))] := hl
  refine lv_iload_n hx hb dX11_cell_0 rfl (lv_at hl 1 rfl) ?_
  refine lv_iconst (v := 0) hx hb dX11_cell_1 (by decide) ?_
  refine lv_iconst (v := 3) hx hb dX11_cell_2 (by decide) ?_
  refine c_S0 (As := [.int (a1), .int (0), .int (3)]) (rest := []) X hl.1 (c_X11_within l X.2.2.2.1.1 hn rfl) (w_X11_127) qw_933 ⟨Nat.le_of_ble_eq_true rfl, Nat.le_of_ble_eq_true rfl⟩ rfl rfl hP hS (Nat.le_of_ble_eq_true rfl) dX11_cell_3 (fun H locs hP hS => ?_)
  refine lv_if_ne (tgt := 12) hx hb dX11_cell_6 (by decide) (fun c_1 => ?_) (fun c_1 => ?_)
  · rw [if_neg c_1] at h
    refine lv_aload_n hx hb dX11_cell_12 rfl (lv_at hl 0 rfl) ?_
    refine G_X11_92 X.1 hn hP dX11_cell_13 ?_
    refine lv_iload_n hx hb dX11_cell_16 rfl (lv_at hl 1 rfl) ?_
    obtain ⟨c_2, h⟩ := og h
    refine r_iald (k := (Int32.toNatClampNeg (a1))) X.1 hP (by omega) sM_sheetSort rfl (vin c_2) dX11_cell_17 ?_
    refine lv_iconst (v := (-1)) hx hb dX11_cell_18 (by decide) ?_
    refine lv_icmp_ne (tgt := 25) hx hb dX11_cell_19 (by decide) (fun c_3 => ?_) (fun c_3 => ?_)
    · rw [if_neg c_3] at h
      refine lv_iload_n hx hb dX11_cell_25 rfl (lv_at hl 2 rfl) ?_
      refine lv_iconst (v := 0) hx hb dX11_cell_26 (by decide) ?_
      refine lv_aload_n hx hb dX11_cell_27 rfl (lv_at hl 0 rfl) ?_
      refine G_X11_95 X.1 hn hP dX11_cell_28 ?_
      refine lv_iload_n hx hb dX11_cell_31 rfl (lv_at hl 1 rfl) ?_
      obtain ⟨c_4, h⟩ := og h
      refine r_iald (k := (Int32.toNatClampNeg (a1))) X.1 hP (by omega) sM_sheetSize rfl (vin c_4) dX11_cell_32 ?_
      refine lv_iconst (v := 1) hx hb dX11_cell_33 (by decide) ?_
      refine lv_isub hx hb dX11_cell_34 ?_
      refine c_S0 (As := [.int (a2), .int (0), .int (((M 29 (Int32.toNatClampNeg (a1))) - 1))]) (rest := []) X hl.1 (c_X11_within l X.2.2.2.1.1 hn rfl) (w_X11_127) qw_933 ⟨Nat.le_of_ble_eq_true rfl, Nat.le_of_ble_eq_true rfl⟩ rfl rfl hP hS (Nat.le_of_ble_eq_true rfl) dX11_cell_35 (fun H locs hP hS => ?_)
      refine lv_if_ne (tgt := 44) hx hb dX11_cell_38 (by decide) (fun c_5 => ?_) (fun c_5 => ?_)
      · rw [if_neg c_5] at h
        refine lv_aload_n hx hb dX11_cell_44 rfl (lv_at hl 0 rfl) ?_
        refine G_X11_98 X.1 hn hP dX11_cell_45 ?_
        refine lv_bipush (v := 40) hx hb dX11_cell_48 (by decide) ?_
        refine lv_iload_n hx hb dX11_cell_50 rfl (lv_at hl 1 rfl) ?_
        refine lv_imul hx hb dX11_cell_51 ?_
        refine lv_iload_n hx hb dX11_cell_52 rfl (lv_at hl 2 rfl) ?_
        refine lv_iadd hx hb dX11_cell_53 ?_
        refine lv_aload_n hx hb dX11_cell_54 rfl (lv_at hl 0 rfl) ?_
        refine G_X11_92 X.1 hn hP dX11_cell_55 ?_
        refine lv_iload_n hx hb dX11_cell_58 rfl (lv_at hl 1 rfl) ?_
        obtain ⟨c_6, h⟩ := og h
        refine r_iald (k := (Int32.toNatClampNeg (a1))) X.1 hP (by omega) sM_sheetSort rfl (vin c_6) dX11_cell_59 ?_
        refine lv_if_ne (tgt := 68) hx hb dX11_cell_60 (by decide) (fun c_7 => ?_) (fun c_7 => ?_)
        · rw [if_neg c_7] at h
          refine lv_aload_n hx hb dX11_cell_68 rfl (lv_at hl 0 rfl) ?_
          refine G_X11_92 X.1 hn hP dX11_cell_69 ?_
          refine lv_iload_n hx hb dX11_cell_72 rfl (lv_at hl 1 rfl) ?_
          obtain ⟨c_8, h⟩ := og h
          refine r_iald (k := (Int32.toNatClampNeg (a1))) X.1 hP (by omega) sM_sheetSort rfl (vin c_8) dX11_cell_73 ?_
          refine lv_iconst (v := 1) hx hb dX11_cell_74 (by decide) ?_
          refine lv_icmp_ne (tgt := 83) hx hb dX11_cell_75 (by decide) (fun c_9 => ?_) (fun c_9 => ?_)
          · rw [if_neg c_9] at h
            refine lv_iload_n hx hb dX11_cell_83 rfl (lv_at hl 3 rfl) ?_
            obtain ⟨c_10, h⟩ := og h
            refine r_iast (k := (Int32.toNatClampNeg (((40 * a1) + a2)))) X.1 X.2.2.2.1 hP hS (by omega) sM_cells rfl (vin c_10) dX11_cell_84 (fun H locs hP hS => ?_)
            refine lv_iconst (v := 1) hx hb dX11_cell_85 (by decide) ?_
            obtain rfl := Option.some.inj h
            exact W.iret hx hb hr (r_end X hP hS) hS.2.2 dX11_cell_86 (hlocks := hlk)
          · rw [if_pos c_9] at h
            refine lv_iload_n hx hb dX11_cell_78 rfl (lv_at hl 3 rfl) ?_
            refine lv_i2s hx hb dX11_cell_79 rfl ?_
            refine lv_goto (tgt := 84) hx hb dX11_cell_80 (by decide) ?_
            obtain ⟨c_11, h⟩ := og h
            refine r_iast (k := (Int32.toNatClampNeg (((40 * a1) + a2)))) X.1 X.2.2.2.1 hP hS (by omega) sM_cells rfl (vin c_11) dX11_cell_84 (fun H locs hP hS => ?_)
            refine lv_iconst (v := 1) hx hb dX11_cell_85 (by decide) ?_
            obtain rfl := Option.some.inj h
            exact W.iret hx hb hr (r_end X hP hS) hS.2.2 dX11_cell_86 (hlocks := hlk)
        · rw [if_pos c_7] at h
          refine lv_iload_n hx hb dX11_cell_63 rfl (lv_at hl 3 rfl) ?_
          refine lv_i2b hx hb dX11_cell_64 rfl ?_
          refine lv_goto (tgt := 84) hx hb dX11_cell_65 (by decide) ?_
          obtain ⟨c_12, h⟩ := og h
          refine r_iast (k := (Int32.toNatClampNeg (((40 * a1) + a2)))) X.1 X.2.2.2.1 hP hS (by omega) sM_cells rfl (vin c_12) dX11_cell_84 (fun H locs hP hS => ?_)
          refine lv_iconst (v := 1) hx hb dX11_cell_85 (by decide) ?_
          obtain rfl := Option.some.inj h
          exact W.iret hx hb hr (r_end X hP hS) hS.2.2 dX11_cell_86 (hlocks := hlk)
      · rw [if_pos c_5] at h
        refine lv_bipush (v := (-12)) hx hb dX11_cell_41 (by decide) ?_
        obtain rfl := Option.some.inj h
        exact W.iret hx hb hr (r_end X hP hS) hS.2.2 dX11_cell_43 (hlocks := hlk)
    · rw [if_pos c_3] at h
      refine lv_bipush (v := (-11)) hx hb dX11_cell_22 (by decide) ?_
      obtain rfl := Option.some.inj h
      exact W.iret hx hb hr (r_end X hP hS) hS.2.2 dX11_cell_24 (hlocks := hlk)
  · rw [if_pos c_1] at h
    refine lv_bipush (v := (-2)) hx hb dX11_cell_9 (by decide) ?_
    obtain rfl := Option.some.inj h
    exact W.iret hx hb hr (r_end X hP hS) hS.2.2 dX11_cell_11 (hlocks := hlk)

def f_X11_copy_117 (x1_17 : Int32) (x2_18 : Int32) (x3_19 : Int32) (x4_20 : Int32) (x5_21 : Int32) (k151 : Mem → Option (Int32 × Mem)) : Nat → Int32 → Mem → Option (Int32 × Mem)
  | 0, _, _ => none
  | fu_24 + 1, x6_22, M_23 => (if x5_21 ≤ x6_22 then (k151 M_23) else (if ibd ((((40 * x1_17) + x2_18) + x6_22)) 160 then (if ibd (x6_22) 40 then (f_X11_copy_117 x1_17 x2_18 x3_19 x4_20 x5_21 k151 fu_24 ((x6_22 + 1)) (upd2 M_23 31 (Int32.toNatClampNeg (x6_22)) ((M_23 30 (Int32.toNatClampNeg ((((40 * x1_17) + x2_18) + x6_22))))))) else none) else none))
def f_X11_copy_154 (x3_30 : Int32) (x4_31 : Int32) (x5_32 : Int32) : Nat → Int32 → Mem → Option (Int32 × Mem)
  | 0, _, _ => none
  | fu_35 + 1, x6_33, M_34 => (if x5_32 ≤ x6_33 then some ((x5_32, M_34)) else (if ibd (x6_33) 40 then (if ibd ((((40 * x3_30) + x4_31) + x6_33)) 160 then (f_X11_copy_154 x3_30 x4_31 x5_32 fu_35 ((x6_33 + 1)) (upd2 M_34 30 (Int32.toNatClampNeg ((((40 * x3_30) + x4_31) + x6_33))) ((M_34 31 (Int32.toNatClampNeg (x6_33)))))) else none) else none))
def f_X11_copy (M : Mem) (a1 : Int32) (a2 : Int32) (a3 : Int32) (a4 : Int32) (a5 : Int32) : Option (Int32 × Mem) :=
  (if (f_X11_within (a1) (0) (3)) = 0 then some (((-2), M)) else (if (f_X11_within (a3) (0) (3)) = 0 then some (((-2), M)) else (if ibd (a1) 4 then (if (M 28 (Int32.toNatClampNeg (a1))) = (-1) then some (((-11), M)) else (if ibd (a3) 4 then (if (M 28 (Int32.toNatClampNeg (a3))) = (-1) then some (((-11), M)) else (if ibd (a1) 4 then (if ibd (a3) 4 then (if (M 28 (Int32.toNatClampNeg (a1))) = (M 28 (Int32.toNatClampNeg (a3))) then (if a2 < 0 then some (((-12), M)) else (if a4 < 0 then some (((-12), M)) else (if a5 < 0 then some (((-12), M)) else (if ibd (a1) 4 then (if 0 < (lg_cmp ((Int32.toInt64 (a2)) + (Int32.toInt64 (a5))) (Int32.toInt64 ((M 29 (Int32.toNatClampNeg (a1)))))) then some (((-12), M)) else (if ibd (a3) 4 then (if (lg_cmp ((Int32.toInt64 (a4)) + (Int32.toInt64 (a5))) (Int32.toInt64 ((M 29 (Int32.toNatClampNeg (a3)))))) ≤ 0 then (f_X11_copy_117 (a1) (a2) (a3) (a4) (a5) (fun M_29 => (f_X11_copy_154 (a3) (a4) (a5) FU (0) M_29)) FU (0) M) else some (((-12), M))) else none)) else none)))) else some (((-13), M))) else none) else none)) else none)) else none)))
set_option maxRecDepth 100000 in
set_option maxHeartbeats 4000000 in
theorem c_X11_copy (l : Launch) {G : GT} {φ : Nat → Nat} {n : Nat} {M : Mem} {L : Nat → Int64} {a1 : Int32} {a2 : Int32} {a3 : Int32} {a4 : Int32} {a5 : Int32} (hI : wI φ n) (hn : 32 ≤ n) {r : Int32 × Mem} (h : f_X11_copy M a1 a2 a3 a4 a5 = some r) : CT l yX11_copy cX11_copy 7 (some .int) ({ frames := 1, cells := 0, slots := 0, locals := 22 } : Room) [.ref (φ 0), .int (a1), .int (a2), .int (a3), .int (a4), .int (a5)] (WB (cM G φ L) φ M n G) (some (.int r.1)) (WB (cM G φ L) φ (r.2) n G) φ n := by
  unfold f_X11_copy at h
  refine r_start (plainFor_of_name (by decide)) (Nat.le_of_ble_eq_true rfl) hI ?_
  intro p e s m args below meth c ls X hr hlk hP hl
  have hS : va_S (wA φ n s.heap.size) s.heap s.heap [] := va_S.rf
  have hx := X.1.1
  have hb := X.1.2.1
  have hl : lv_has ls 7 [(0, .ref (φ 0)), (1, .int (a1)), (2, .int (a2)), (3, .int (a3)), (4, .int (a4)), (5, .int (a5))] := hl
  have L117 : ∀ (fu_24 : Nat) (M_23 : Mem) (x1_17 : Int32) (x2_18 : Int32) (x3_19 : Int32) (x4_20 : Int32) (x5_21 : Int32) (k151 : Mem → Option (Int32 × Mem)) (x6_22 : Int32)  (H : Heap) (locs : List Loc) (ls : Array Slot), va_P G.1 vwCl (wW (cM G φ L) φ M_23 n) H → va_S (wA φ n s.heap.size) s.heap H locs → lv_has ls 7 [(0, .ref (φ 0)), (1, .int (x1_17)), (2, .int (x2_18)), (3, .int (x3_19)), (4, .int (x4_20)), (5, .int (x5_21)), (6, .int (x6_22))] → (∀ (M_28 : Mem) (H : Heap) (locs : List Loc) (ls : Array Slot), va_P G.1 vwCl (wW (cM G φ L) φ M_28 n) H → va_S (wA φ n s.heap.size) s.heap H locs → lv_has ls 7 [(0, .ref (φ 0)), (3, .int (x3_19)), (4, .int (x4_20)), (5, .int (x5_21))] → k151 M_28 = some r → W p l e ({ frames := 1, cells := 0, slots := 0, locals := 22 } : Room) s m args below meth c H locs 0 0 (MQ below (QQ (some (.int r.1)) (WB (cM G φ L) φ (r.2) n G) (wA φ n s.heap.size)) args s 0 0 (wA φ n s.heap.size)) (F0 m 151 ls [])) → f_X11_copy_117 x1_17 x2_18 x3_19 x4_20 x5_21 k151 fu_24 x6_22 M_23 = some r → W p l e ({ frames := 1, cells := 0, slots := 0, locals := 22 } : Room) s m args below meth c H locs 0 0 (MQ below (QQ (some (.int r.1)) (WB (cM G φ L) φ (r.2) n G) (wA φ n s.heap.size)) args s 0 0 (wA φ n s.heap.size)) (F0 m 117 ls []) := by
    intro fu_24
    induction fu_24 with
    | zero =>
      intro M_23 x1_17 x2_18 x3_19 x4_20 x5_21 k151 x6_22 H locs ls _ _ _ _ h
      have h : (none : Option (Int32 × Mem)) = some r := h
      cases h
    | succ fu_24 ih =>
      intro M_23 x1_17 x2_18 x3_19 x4_20 x5_21 k151 x6_22 H locs ls hP hS hl hk151 h
      rw [f_X11_copy_117] at h
      refine lv_iload hx hb dX11_copy_117 (lv_at hl 6 rfl) ?_
      refine lv_iload hx hb dX11_copy_119 (lv_at hl 5 rfl) ?_
      refine lv_icmp_ge (tgt := 151) hx hb dX11_copy_121 (by decide) (fun c_25 => ?_) (fun c_25 => ?_)
      · rw [if_pos c_25] at h
        exact hk151 _ _ _ _ hP hS (lv_sub hl [0, 3, 4, 5] rfl) h
      · rw [if_neg c_25] at h
        refine lv_aload_n hx hb dX11_copy_124 rfl (lv_at hl 0 rfl) ?_
        refine G_X11_101 X.1 hn hP dX11_copy_125 ?_
        refine lv_iload hx hb dX11_copy_128 (lv_at hl 6 rfl) ?_
        refine lv_aload_n hx hb dX11_copy_130 rfl (lv_at hl 0 rfl) ?_
        refine G_X11_98 X.1 hn hP dX11_copy_131 ?_
        refine lv_bipush (v := 40) hx hb dX11_copy_134 (by decide) ?_
        refine lv_iload_n hx hb dX11_copy_136 rfl (lv_at hl 1 rfl) ?_
        refine lv_imul hx hb dX11_copy_137 ?_
        refine lv_iload_n hx hb dX11_copy_138 rfl (lv_at hl 2 rfl) ?_
        refine lv_iadd hx hb dX11_copy_139 ?_
        refine lv_iload hx hb dX11_copy_140 (lv_at hl 6 rfl) ?_
        refine lv_iadd hx hb dX11_copy_142 ?_
        obtain ⟨c_26, h⟩ := og h
        refine r_iald (k := (Int32.toNatClampNeg ((((40 * x1_17) + x2_18) + x6_22)))) X.1 hP (by omega) sM_cells rfl (vin c_26) dX11_copy_143 ?_
        obtain ⟨c_27, h⟩ := og h
        refine r_iast (k := (Int32.toNatClampNeg (x6_22))) X.1 X.2.2.2.1 hP hS (by omega) sM_spare rfl (vin c_27) dX11_copy_144 (fun H locs hP hS => ?_)
        refine lv_iinc (v := (x6_22 + 1)) (lv' := [(6, .int ((x6_22 + 1))), (0, .ref (φ 0)), (1, .int (x1_17)), (2, .int (x2_18)), (3, .int (x3_19)), (4, .int (x4_20)), (5, .int (x5_21))]) hx hb dX11_copy_145 hl (k := 6) rfl (by rw [show Int32.ofInt (1) = 1 from by decide]) (by decide) rfl (fun ls hl => ?_)
        refine lv_goto (tgt := 117) hx hb dX11_copy_148 (by decide) ?_
        exact ih _ _ _ _ _ _ _ _ _ _ _ hP hS (lv_sub hl [1, 2, 3, 4, 5, 6, 0] rfl) hk151 h
  have L154 : ∀ (fu_35 : Nat) (M_34 : Mem) (x3_30 : Int32) (x4_31 : Int32) (x5_32 : Int32) (x6_33 : Int32)  (H : Heap) (locs : List Loc) (ls : Array Slot), va_P G.1 vwCl (wW (cM G φ L) φ M_34 n) H → va_S (wA φ n s.heap.size) s.heap H locs → lv_has ls 7 [(0, .ref (φ 0)), (3, .int (x3_30)), (4, .int (x4_31)), (5, .int (x5_32)), (6, .int (x6_33))] → f_X11_copy_154 x3_30 x4_31 x5_32 fu_35 x6_33 M_34 = some r → W p l e ({ frames := 1, cells := 0, slots := 0, locals := 22 } : Room) s m args below meth c H locs 0 0 (MQ below (QQ (some (.int r.1)) (WB (cM G φ L) φ (r.2) n G) (wA φ n s.heap.size)) args s 0 0 (wA φ n s.heap.size)) (F0 m 154 ls []) := by
    intro fu_35
    induction fu_35 with
    | zero =>
      intro M_34 x3_30 x4_31 x5_32 x6_33 H locs ls _ _ _  h
      have h : (none : Option (Int32 × Mem)) = some r := h
      cases h
    | succ fu_35 ih =>
      intro M_34 x3_30 x4_31 x5_32 x6_33 H locs ls hP hS hl  h
      rw [f_X11_copy_154] at h
      refine lv_iload hx hb dX11_copy_154 (lv_at hl 4 rfl) ?_
      refine lv_iload hx hb dX11_copy_156 (lv_at hl 3 rfl) ?_
      refine lv_icmp_ge (tgt := 189) hx hb dX11_copy_158 (by decide) (fun c_36 => ?_) (fun c_36 => ?_)
      · rw [if_pos c_36] at h
        refine lv_iload hx hb dX11_copy_189 (lv_at hl 3 rfl) ?_
        obtain rfl := Option.some.inj h
        exact W.iret hx hb hr (r_end X hP hS) hS.2.2 dX11_copy_191 (hlocks := hlk)
      · rw [if_neg c_36] at h
        refine lv_aload_n hx hb dX11_copy_161 rfl (lv_at hl 0 rfl) ?_
        refine G_X11_98 X.1 hn hP dX11_copy_162 ?_
        refine lv_bipush (v := 40) hx hb dX11_copy_165 (by decide) ?_
        refine lv_iload_n hx hb dX11_copy_167 rfl (lv_at hl 1 rfl) ?_
        refine lv_imul hx hb dX11_copy_168 ?_
        refine lv_iload hx hb dX11_copy_169 (lv_at hl 2 rfl) ?_
        refine lv_iadd hx hb dX11_copy_171 ?_
        refine lv_iload hx hb dX11_copy_172 (lv_at hl 4 rfl) ?_
        refine lv_iadd hx hb dX11_copy_174 ?_
        refine lv_aload_n hx hb dX11_copy_175 rfl (lv_at hl 0 rfl) ?_
        refine G_X11_101 X.1 hn hP dX11_copy_176 ?_
        refine lv_iload hx hb dX11_copy_179 (lv_at hl 4 rfl) ?_
        obtain ⟨c_37, h⟩ := og h
        refine r_iald (k := (Int32.toNatClampNeg (x6_33))) X.1 hP (by omega) sM_spare rfl (vin c_37) dX11_copy_181 ?_
        obtain ⟨c_38, h⟩ := og h
        refine r_iast (k := (Int32.toNatClampNeg ((((40 * x3_30) + x4_31) + x6_33)))) X.1 X.2.2.2.1 hP hS (by omega) sM_cells rfl (vin c_38) dX11_copy_182 (fun H locs hP hS => ?_)
        refine lv_iinc (v := (x6_33 + 1)) (lv' := [(6, .int ((x6_33 + 1))), (0, .ref (φ 0)), (3, .int (x3_30)), (4, .int (x4_31)), (5, .int (x5_32))]) hx hb dX11_copy_183 hl (k := 4) rfl (by rw [show Int32.ofInt (1) = 1 from by decide]) (by decide) rfl (fun ls hl => ?_)
        refine lv_goto (tgt := 154) hx hb dX11_copy_186 (by decide) ?_
        exact ih _ _ _ _ _ _ _ _ hP hS (lv_sub hl [1, 2, 3, 4, 0] rfl)  h
  refine lv_iload_n hx hb dX11_copy_0 rfl (lv_at hl 1 rfl) ?_
  refine lv_iconst (v := 0) hx hb dX11_copy_1 (by decide) ?_
  refine lv_iconst (v := 3) hx hb dX11_copy_2 (by decide) ?_
  refine c_S0 (As := [.int (a1), .int (0), .int (3)]) (rest := []) X hl.1 (c_X11_within l X.2.2.2.1.1 hn rfl) (w_X11_127) qw_933 ⟨Nat.le_of_ble_eq_true rfl, Nat.le_of_ble_eq_true rfl⟩ rfl rfl hP hS (Nat.le_of_ble_eq_true rfl) dX11_copy_3 (fun H locs hP hS => ?_)
  refine lv_if_eq (tgt := 18) hx hb dX11_copy_6 (by decide) (fun c_1 => ?_) (fun c_1 => ?_)
  · rw [if_pos c_1] at h
    refine lv_bipush (v := (-2)) hx hb dX11_copy_18 (by decide) ?_
    obtain rfl := Option.some.inj h
    exact W.iret hx hb hr (r_end X hP hS) hS.2.2 dX11_copy_20 (hlocks := hlk)
  · rw [if_neg c_1] at h
    refine lv_iload_n hx hb dX11_copy_9 rfl (lv_at hl 3 rfl) ?_
    refine lv_iconst (v := 0) hx hb dX11_copy_10 (by decide) ?_
    refine lv_iconst (v := 3) hx hb dX11_copy_11 (by decide) ?_
    refine c_S0 (As := [.int (a3), .int (0), .int (3)]) (rest := []) X hl.1 (c_X11_within l X.2.2.2.1.1 hn rfl) (w_X11_127) qw_933 ⟨Nat.le_of_ble_eq_true rfl, Nat.le_of_ble_eq_true rfl⟩ rfl rfl hP hS (Nat.le_of_ble_eq_true rfl) dX11_copy_12 (fun H locs hP hS => ?_)
    refine lv_if_ne (tgt := 21) hx hb dX11_copy_15 (by decide) (fun c_2 => ?_) (fun c_2 => ?_)
    · rw [if_neg c_2] at h
      refine lv_aload_n hx hb dX11_copy_21 rfl (lv_at hl 0 rfl) ?_
      refine G_X11_92 X.1 hn hP dX11_copy_22 ?_
      refine lv_iload_n hx hb dX11_copy_25 rfl (lv_at hl 1 rfl) ?_
      obtain ⟨c_3, h⟩ := og h
      refine r_iald (k := (Int32.toNatClampNeg (a1))) X.1 hP (by omega) sM_sheetSort rfl (vin c_3) dX11_copy_26 ?_
      refine lv_iconst (v := (-1)) hx hb dX11_copy_27 (by decide) ?_
      refine lv_icmp_eq (tgt := 41) hx hb dX11_copy_28 (by decide) (fun c_4 => ?_) (fun c_4 => ?_)
      · rw [if_pos c_4] at h
        refine lv_bipush (v := (-11)) hx hb dX11_copy_41 (by decide) ?_
        obtain rfl := Option.some.inj h
        exact W.iret hx hb hr (r_end X hP hS) hS.2.2 dX11_copy_43 (hlocks := hlk)
      · rw [if_neg c_4] at h
        refine lv_aload_n hx hb dX11_copy_31 rfl (lv_at hl 0 rfl) ?_
        refine G_X11_92 X.1 hn hP dX11_copy_32 ?_
        refine lv_iload_n hx hb dX11_copy_35 rfl (lv_at hl 3 rfl) ?_
        obtain ⟨c_5, h⟩ := og h
        refine r_iald (k := (Int32.toNatClampNeg (a3))) X.1 hP (by omega) sM_sheetSort rfl (vin c_5) dX11_copy_36 ?_
        refine lv_iconst (v := (-1)) hx hb dX11_copy_37 (by decide) ?_
        refine lv_icmp_ne (tgt := 44) hx hb dX11_copy_38 (by decide) (fun c_6 => ?_) (fun c_6 => ?_)
        · rw [if_neg c_6] at h
          refine lv_aload_n hx hb dX11_copy_44 rfl (lv_at hl 0 rfl) ?_
          refine G_X11_92 X.1 hn hP dX11_copy_45 ?_
          refine lv_iload_n hx hb dX11_copy_48 rfl (lv_at hl 1 rfl) ?_
          obtain ⟨c_7, h⟩ := og h
          refine r_iald (k := (Int32.toNatClampNeg (a1))) X.1 hP (by omega) sM_sheetSort rfl (vin c_7) dX11_copy_49 ?_
          refine lv_aload_n hx hb dX11_copy_50 rfl (lv_at hl 0 rfl) ?_
          refine G_X11_92 X.1 hn hP dX11_copy_51 ?_
          refine lv_iload_n hx hb dX11_copy_54 rfl (lv_at hl 3 rfl) ?_
          obtain ⟨c_8, h⟩ := og h
          refine r_iald (k := (Int32.toNatClampNeg (a3))) X.1 hP (by omega) sM_sheetSort rfl (vin c_8) dX11_copy_55 ?_
          refine lv_icmp_eq (tgt := 62) hx hb dX11_copy_56 (by decide) (fun c_9 => ?_) (fun c_9 => ?_)
          · rw [if_pos c_9] at h
            refine lv_iload_n hx hb dX11_copy_62 rfl (lv_at hl 2 rfl) ?_
            refine lv_if_lt (tgt := 111) hx hb dX11_copy_63 (by decide) (fun c_10 => ?_) (fun c_10 => ?_)
            · rw [if_pos c_10] at h
              refine lv_bipush (v := (-12)) hx hb dX11_copy_111 (by decide) ?_
              obtain rfl := Option.some.inj h
              exact W.iret hx hb hr (r_end X hP hS) hS.2.2 dX11_copy_113 (hlocks := hlk)
            · rw [if_neg c_10] at h
              refine lv_iload hx hb dX11_copy_66 (lv_at hl 4 rfl) ?_
              refine lv_if_lt (tgt := 111) hx hb dX11_copy_68 (by decide) (fun c_11 => ?_) (fun c_11 => ?_)
              · rw [if_pos c_11] at h
                refine lv_bipush (v := (-12)) hx hb dX11_copy_111 (by decide) ?_
                obtain rfl := Option.some.inj h
                exact W.iret hx hb hr (r_end X hP hS) hS.2.2 dX11_copy_113 (hlocks := hlk)
              · rw [if_neg c_11] at h
                refine lv_iload hx hb dX11_copy_71 (lv_at hl 5 rfl) ?_
                refine lv_if_lt (tgt := 111) hx hb dX11_copy_73 (by decide) (fun c_12 => ?_) (fun c_12 => ?_)
                · rw [if_pos c_12] at h
                  refine lv_bipush (v := (-12)) hx hb dX11_copy_111 (by decide) ?_
                  obtain rfl := Option.some.inj h
                  exact W.iret hx hb hr (r_end X hP hS) hS.2.2 dX11_copy_113 (hlocks := hlk)
                · rw [if_neg c_12] at h
                  refine lv_iload_n hx hb dX11_copy_76 rfl (lv_at hl 2 rfl) ?_
                  refine lv_i2l hx hb dX11_copy_77 rfl ?_
                  refine lv_iload hx hb dX11_copy_78 (lv_at hl 5 rfl) ?_
                  refine lv_i2l hx hb dX11_copy_80 rfl ?_
                  refine lv_ladd hx hb dX11_copy_81 ?_
                  refine lv_aload_n hx hb dX11_copy_82 rfl (lv_at hl 0 rfl) ?_
                  refine G_X11_95 X.1 hn hP dX11_copy_83 ?_
                  refine lv_iload_n hx hb dX11_copy_86 rfl (lv_at hl 1 rfl) ?_
                  obtain ⟨c_13, h⟩ := og h
                  refine r_iald (k := (Int32.toNatClampNeg (a1))) X.1 hP (by omega) sM_sheetSize rfl (vin c_13) dX11_copy_87 ?_
                  refine lv_i2l hx hb dX11_copy_88 rfl ?_
                  refine W.lcmp hx hb dX11_copy_89 ?_
                  refine lv_if_gt (tgt := 111) hx hb dX11_copy_90 (by decide) (fun c_14 => ?_) (fun c_14 => ?_)
                  · rw [if_pos c_14] at h
                    refine lv_bipush (v := (-12)) hx hb dX11_copy_111 (by decide) ?_
                    obtain rfl := Option.some.inj h
                    exact W.iret hx hb hr (r_end X hP hS) hS.2.2 dX11_copy_113 (hlocks := hlk)
                  · rw [if_neg c_14] at h
                    refine lv_iload hx hb dX11_copy_93 (lv_at hl 4 rfl) ?_
                    refine lv_i2l hx hb dX11_copy_95 rfl ?_
                    refine lv_iload hx hb dX11_copy_96 (lv_at hl 5 rfl) ?_
                    refine lv_i2l hx hb dX11_copy_98 rfl ?_
                    refine lv_ladd hx hb dX11_copy_99 ?_
                    refine lv_aload_n hx hb dX11_copy_100 rfl (lv_at hl 0 rfl) ?_
                    refine G_X11_95 X.1 hn hP dX11_copy_101 ?_
                    refine lv_iload_n hx hb dX11_copy_104 rfl (lv_at hl 3 rfl) ?_
                    obtain ⟨c_15, h⟩ := og h
                    refine r_iald (k := (Int32.toNatClampNeg (a3))) X.1 hP (by omega) sM_sheetSize rfl (vin c_15) dX11_copy_105 ?_
                    refine lv_i2l hx hb dX11_copy_106 rfl ?_
                    refine W.lcmp hx hb dX11_copy_107 ?_
                    refine lv_if_le (tgt := 114) hx hb dX11_copy_108 (by decide) (fun c_16 => ?_) (fun c_16 => ?_)
                    · rw [if_pos c_16] at h
                      refine lv_iconst (v := 0) hx hb dX11_copy_114 (by decide) ?_
                      refine lv_istore (lv' := [(6, .int (0)), (0, .ref (φ 0)), (1, .int (a1)), (2, .int (a2)), (3, .int (a3)), (4, .int (a4)), (5, .int (a5))]) hx hb dX11_copy_115 hl (by decide) rfl (fun ls hl => ?_)
                      refine L117 _ _ _ _ _ _ _ _ _ _ _ _ hP hS (lv_sub hl [1, 2, 3, 4, 5, 6, 0] rfl) (fun M_29 H locs ls hP hS hl h => ?_) h
                      · try dsimp only at h
                        refine lv_iconst (v := 0) hx hb dX11_copy_151 (by decide) ?_
                        refine lv_istore (lv' := [(6, .int (0)), (0, .ref (φ 0)), (3, .int (a3)), (4, .int (a4)), (5, .int (a5))]) hx hb dX11_copy_152 hl (by decide) rfl (fun ls hl => ?_)
                        refine L154 _ _ _ _ _ _ _ _ _ hP hS (lv_sub hl [1, 2, 3, 4, 0] rfl)  h
                    · rw [if_neg c_16] at h
                      refine lv_bipush (v := (-12)) hx hb dX11_copy_111 (by decide) ?_
                      obtain rfl := Option.some.inj h
                      exact W.iret hx hb hr (r_end X hP hS) hS.2.2 dX11_copy_113 (hlocks := hlk)
          · rw [if_neg c_9] at h
            refine lv_bipush (v := (-13)) hx hb dX11_copy_59 (by decide) ?_
            obtain rfl := Option.some.inj h
            exact W.iret hx hb hr (r_end X hP hS) hS.2.2 dX11_copy_61 (hlocks := hlk)
        · rw [if_pos c_6] at h
          refine lv_bipush (v := (-11)) hx hb dX11_copy_41 (by decide) ?_
          obtain rfl := Option.some.inj h
          exact W.iret hx hb hr (r_end X hP hS) hS.2.2 dX11_copy_43 (hlocks := hlk)
    · rw [if_pos c_2] at h
      refine lv_bipush (v := (-2)) hx hb dX11_copy_18 (by decide) ?_
      obtain rfl := Option.some.inj h
      exact W.iret hx hb hr (r_end X hP hS) hS.2.2 dX11_copy_20 (hlocks := hlk)

def f_X11_notes_64 (x1_8 : Int32) (x3_9 : Int32) (x4_10 : Int32) : Nat → Int32 → Int32 → Mem → Option (Int32 × Mem)
  | 0, _, _, _ => none
  | fu_14 + 1, x5_11, x6_12, M_13 => (if x4_10 ≤ x6_12 then some ((x5_11, M_13)) else (if (lg_cmp ((Int32.toInt64 (x3_9)) + (3 * (Int32.toInt64 (x6_12)))) 0) < 0 then some (((-12), M_13)) else (if ibd (x1_8) 4 then (if (lg_cmp (((Int32.toInt64 (x3_9)) + (3 * (Int32.toInt64 (x6_12)))) + 2) (Int32.toInt64 ((M_13 29 (Int32.toNatClampNeg (x1_8)))))) < 0 then (if ibd (((40 * x1_8) + (Int64.toInt32 (((Int32.toInt64 (x3_9)) + (3 * (Int32.toInt64 (x6_12)))))))) 160 then (if ibd ((((40 * x1_8) + (Int64.toInt32 (((Int32.toInt64 (x3_9)) + (3 * (Int32.toInt64 (x6_12))))))) + 1)) 160 then (if ibd ((((40 * x1_8) + (Int64.toInt32 (((Int32.toInt64 (x3_9)) + (3 * (Int32.toInt64 (x6_12))))))) + 2)) 160 then (Option.bind (f_X11_note M_13 ((M_13 30 (Int32.toNatClampNeg (((40 * x1_8) + (Int64.toInt32 (((Int32.toInt64 (x3_9)) + (3 * (Int32.toInt64 (x6_12))))))))))) ((M_13 30 (Int32.toNatClampNeg ((((40 * x1_8) + (Int64.toInt32 (((Int32.toInt64 (x3_9)) + (3 * (Int32.toInt64 (x6_12))))))) + 1))))) ((M_13 30 (Int32.toNatClampNeg ((((40 * x1_8) + (Int64.toInt32 (((Int32.toInt64 (x3_9)) + (3 * (Int32.toInt64 (x6_12))))))) + 2)))))) fun r_22 => (if r_22.1 < 0 then (f_X11_notes_64 x1_8 x3_9 x4_10 fu_14 (x5_11) ((x6_12 + 1)) r_22.2) else (f_X11_notes_64 x1_8 x3_9 x4_10 fu_14 ((x5_11 + 1)) ((x6_12 + 1)) r_22.2))) else none) else none) else none) else some (((-12), M_13))) else none)))
def f_X11_notes (M : Mem) (a1 : Int32) (a2 : Int32) (a3 : Int32) (a4 : Int32) : Option (Int32 × Mem) :=
  (if (f_X11_within (a1) (0) (3)) = 0 then some (((-2), M)) else (if (f_X11_within (a2) (0) (2)) = 0 then some (((-2), M)) else (if (f_X11_within (a4) (0) (10)) = 0 then some (((-2), M)) else (if ibd (a1) 4 then (if (M 28 (Int32.toNatClampNeg (a1))) = (-1) then some (((-11), M)) else (if ibd (a1) 4 then (if (M 28 (Int32.toNatClampNeg (a1))) = a2 then (f_X11_notes_64 (a1) (a3) (a4) FU (0) (0) M) else some (((-13), M))) else none)) else none))))
set_option maxRecDepth 100000 in
set_option maxHeartbeats 4000000 in
theorem c_X11_notes (l : Launch) {G : GT} {φ : Nat → Nat} {n : Nat} {M : Mem} {L : Nat → Int64} {a1 : Int32} {a2 : Int32} {a3 : Int32} {a4 : Int32} (hI : wI φ n) (hn : 32 ≤ n) {r : Int32 × Mem} (h : f_X11_notes M a1 a2 a3 a4 = some r) : CT l yX11_notes cX11_notes 10 (some .int) ({ frames := 2, cells := 0, slots := 0, locals := 45 } : Room) [.ref (φ 0), .int (a1), .int (a2), .int (a3), .int (a4)] (WB (cM G φ L) φ M n G) (some (.int r.1)) (WB (cM G φ L) φ (r.2) n G) φ n := by
  unfold f_X11_notes at h
  refine r_start (plainFor_of_name (by decide)) (Nat.le_of_ble_eq_true rfl) hI ?_
  intro p e s m args below meth c ls X hr hlk hP hl
  have hS : va_S (wA φ n s.heap.size) s.heap s.heap [] := va_S.rf
  have hx := X.1.1
  have hb := X.1.2.1
  have hl : lv_has ls 10 [(0, .ref (φ 0)), (1, .int (a1)), (2, .int (a2)), (3, .int (a3)), (4, .int (a4))] := hl
  have L64 : ∀ (fu_14 : Nat) (M_13 : Mem) (x1_8 : Int32) (x3_9 : Int32) (x4_10 : Int32) (x5_11 : Int32) (x6_12 : Int32)  (H : Heap) (locs : List Loc) (ls : Array Slot), va_P G.1 vwCl (wW (cM G φ L) φ M_13 n) H → va_S (wA φ n s.heap.size) s.heap H locs → lv_has ls 10 [(0, .ref (φ 0)), (1, .int (x1_8)), (3, .int (x3_9)), (4, .int (x4_10)), (5, .int (x5_11)), (6, .int (x6_12))] → f_X11_notes_64 x1_8 x3_9 x4_10 fu_14 x5_11 x6_12 M_13 = some r → W p l e ({ frames := 2, cells := 0, slots := 0, locals := 45 } : Room) s m args below meth c H locs 0 0 (MQ below (QQ (some (.int r.1)) (WB (cM G φ L) φ (r.2) n G) (wA φ n s.heap.size)) args s 0 0 (wA φ n s.heap.size)) (F0 m 64 ls []) := by
    intro fu_14
    induction fu_14 with
    | zero =>
      intro M_13 x1_8 x3_9 x4_10 x5_11 x6_12 H locs ls _ _ _  h
      have h : (none : Option (Int32 × Mem)) = some r := h
      cases h
    | succ fu_14 ih =>
      intro M_13 x1_8 x3_9 x4_10 x5_11 x6_12 H locs ls hP hS hl  h
      rw [f_X11_notes_64] at h
      refine lv_iload hx hb dX11_notes_64 (lv_at hl 5 rfl) ?_
      refine lv_iload hx hb dX11_notes_66 (lv_at hl 3 rfl) ?_
      refine lv_icmp_ge (tgt := 161) hx hb dX11_notes_68 (by decide) (fun c_15 => ?_) (fun c_15 => ?_)
      · rw [if_pos c_15] at h
        refine lv_iload hx hb dX11_notes_161 (lv_at hl 4 rfl) ?_
        obtain rfl := Option.some.inj h
        exact W.iret hx hb hr (r_end X hP hS) hS.2.2 dX11_notes_163 (hlocks := hlk)
      · rw [if_neg c_15] at h
        refine lv_iload_n hx hb dX11_notes_71 rfl (lv_at hl 2 rfl) ?_
        refine lv_i2l hx hb dX11_notes_72 rfl ?_
        refine lv_ldc2 (v := 3) hx hb X.1.2.2.1 (X.1.2.2.2.1 _ qw_1332) dX11_notes_73 ?_
        refine lv_iload hx hb dX11_notes_76 (lv_at hl 5 rfl) ?_
        refine lv_i2l hx hb dX11_notes_78 rfl ?_
        refine lv_lmul hx hb dX11_notes_79 ?_
        refine lv_ladd hx hb dX11_notes_80 ?_
        refine lv_lstore (lv' := [(7, .long (((Int32.toInt64 (x3_9)) + (3 * (Int32.toInt64 (x6_12)))))), (0, .ref (φ 0)), (1, .int (x1_8)), (3, .int (x3_9)), (4, .int (x4_10)), (5, .int (x5_11)), (6, .int (x6_12))]) hx hb dX11_notes_81 hl (by decide) rfl (fun ls hl => ?_)
        refine lv_lload hx hb dX11_notes_83 (lv_at hl 0 rfl) ?_
        refine lv_lconst (v := 0) hx hb dX11_notes_85 (by decide) ?_
        refine W.lcmp hx hb dX11_notes_86 ?_
        refine lv_if_lt (tgt := 107) hx hb dX11_notes_87 (by decide) (fun c_16 => ?_) (fun c_16 => ?_)
        · rw [if_pos c_16] at h
          refine lv_bipush (v := (-12)) hx hb dX11_notes_107 (by decide) ?_
          obtain rfl := Option.some.inj h
          exact W.iret hx hb hr (r_end X hP hS) hS.2.2 dX11_notes_109 (hlocks := hlk)
        · rw [if_neg c_16] at h
          refine lv_lload hx hb dX11_notes_90 (lv_at hl 0 rfl) ?_
          refine lv_ldc2 (v := 2) hx hb X.1.2.2.1 (X.1.2.2.2.1 _ qw_1333) dX11_notes_92 ?_
          refine lv_ladd hx hb dX11_notes_95 ?_
          refine lv_aload_n hx hb dX11_notes_96 rfl (lv_at hl 1 rfl) ?_
          refine G_X11_95 X.1 hn hP dX11_notes_97 ?_
          refine lv_iload_n hx hb dX11_notes_100 rfl (lv_at hl 2 rfl) ?_
          obtain ⟨c_17, h⟩ := og h
          refine r_iald (k := (Int32.toNatClampNeg (x1_8))) X.1 hP (by omega) sM_sheetSize rfl (vin c_17) dX11_notes_101 ?_
          refine lv_i2l hx hb dX11_notes_102 rfl ?_
          refine W.lcmp hx hb dX11_notes_103 ?_
          refine lv_if_lt (tgt := 110) hx hb dX11_notes_104 (by decide) (fun c_18 => ?_) (fun c_18 => ?_)
          · rw [if_pos c_18] at h
            refine lv_bipush (v := 40) hx hb dX11_notes_110 (by decide) ?_
            refine lv_iload_n hx hb dX11_notes_112 rfl (lv_at hl 2 rfl) ?_
            refine lv_imul hx hb dX11_notes_113 ?_
            refine lv_lload hx hb dX11_notes_114 (lv_at hl 0 rfl) ?_
            refine lv_l2i hx hb dX11_notes_116 rfl ?_
            refine lv_iadd hx hb dX11_notes_117 ?_
            refine lv_istore (lv' := [(9, .int (((40 * x1_8) + (Int64.toInt32 (((Int32.toInt64 (x3_9)) + (3 * (Int32.toInt64 (x6_12))))))))), (7, .long (((Int32.toInt64 (x3_9)) + (3 * (Int32.toInt64 (x6_12)))))), (0, .ref (φ 0)), (1, .int (x1_8)), (3, .int (x3_9)), (4, .int (x4_10)), (5, .int (x5_11)), (6, .int (x6_12))]) hx hb dX11_notes_118 hl (by decide) rfl (fun ls hl => ?_)
            refine lv_aload_n hx hb dX11_notes_120 rfl (lv_at hl 2 rfl) ?_
            refine lv_aload_n hx hb dX11_notes_121 rfl (lv_at hl 2 rfl) ?_
            refine G_X11_98 X.1 hn hP dX11_notes_122 ?_
            refine lv_iload hx hb dX11_notes_125 (lv_at hl 0 rfl) ?_
            obtain ⟨c_19, h⟩ := og h
            refine r_iald (k := (Int32.toNatClampNeg (((40 * x1_8) + (Int64.toInt32 (((Int32.toInt64 (x3_9)) + (3 * (Int32.toInt64 (x6_12)))))))))) X.1 hP (by omega) sM_cells rfl (vin c_19) dX11_notes_127 ?_
            refine lv_aload_n hx hb dX11_notes_128 rfl (lv_at hl 2 rfl) ?_
            refine G_X11_98 X.1 hn hP dX11_notes_129 ?_
            refine lv_iload hx hb dX11_notes_132 (lv_at hl 0 rfl) ?_
            refine lv_iconst (v := 1) hx hb dX11_notes_134 (by decide) ?_
            refine lv_iadd hx hb dX11_notes_135 ?_
            obtain ⟨c_20, h⟩ := og h
            refine r_iald (k := (Int32.toNatClampNeg ((((40 * x1_8) + (Int64.toInt32 (((Int32.toInt64 (x3_9)) + (3 * (Int32.toInt64 (x6_12))))))) + 1)))) X.1 hP (by omega) sM_cells rfl (vin c_20) dX11_notes_136 ?_
            refine lv_aload_n hx hb dX11_notes_137 rfl (lv_at hl 2 rfl) ?_
            refine G_X11_98 X.1 hn hP dX11_notes_138 ?_
            refine lv_iload hx hb dX11_notes_141 (lv_at hl 0 rfl) ?_
            refine lv_iconst (v := 2) hx hb dX11_notes_143 (by decide) ?_
            refine lv_iadd hx hb dX11_notes_144 ?_
            obtain ⟨c_21, h⟩ := og h
            refine r_iald (k := (Int32.toNatClampNeg ((((40 * x1_8) + (Int64.toInt32 (((Int32.toInt64 (x3_9)) + (3 * (Int32.toInt64 (x6_12))))))) + 2)))) X.1 hP (by omega) sM_cells rfl (vin c_21) dX11_notes_145 ?_
            obtain ⟨r_22, hr_22, h⟩ := ob h
            refine c_V0 (As := [.int ((M_13 30 (Int32.toNatClampNeg (((40 * x1_8) + (Int64.toInt32 (((Int32.toInt64 (x3_9)) + (3 * (Int32.toInt64 (x6_12))))))))))), .int ((M_13 30 (Int32.toNatClampNeg ((((40 * x1_8) + (Int64.toInt32 (((Int32.toInt64 (x3_9)) + (3 * (Int32.toInt64 (x6_12))))))) + 1))))), .int ((M_13 30 (Int32.toNatClampNeg ((((40 * x1_8) + (Int64.toInt32 (((Int32.toInt64 (x3_9)) + (3 * (Int32.toInt64 (x6_12))))))) + 2)))))]) (rest := []) (a := 0) X hl.1 (c_X11_note l X.2.2.2.1.1 hn hr_22) (w_X11_312) qw_1156 qw_1157 ⟨Nat.le_of_ble_eq_true rfl, Nat.le_of_ble_eq_true rfl⟩ rfl rfl hP hS (by omega) sM_Model rfl rfl (Nat.le_of_ble_eq_true rfl) dX11_notes_146 (fun H locs hP hS => ?_)
            refine lv_if_lt (tgt := 155) hx hb dX11_notes_149 (by decide) (fun c_23 => ?_) (fun c_23 => ?_)
            · rw [if_pos c_23] at h
              refine lv_iinc (v := (x6_12 + 1)) (lv' := [(6, .int ((x6_12 + 1))), (9, .int (((40 * x1_8) + (Int64.toInt32 (((Int32.toInt64 (x3_9)) + (3 * (Int32.toInt64 (x6_12))))))))), (7, .long (((Int32.toInt64 (x3_9)) + (3 * (Int32.toInt64 (x6_12)))))), (0, .ref (φ 0)), (1, .int (x1_8)), (3, .int (x3_9)), (4, .int (x4_10)), (5, .int (x5_11))]) hx hb dX11_notes_155 hl (k := 7) rfl (by rw [show Int32.ofInt (1) = 1 from by decide]) (by decide) rfl (fun ls hl => ?_)
              refine lv_goto (tgt := 64) hx hb dX11_notes_158 (by decide) ?_
              exact ih _ _ _ _ _ _ _ _ _ hP hS (lv_sub hl [3, 4, 5, 6, 7, 0] rfl)  h
            · rw [if_neg c_23] at h
              refine lv_iinc (v := (x5_11 + 1)) (lv' := [(5, .int ((x5_11 + 1))), (9, .int (((40 * x1_8) + (Int64.toInt32 (((Int32.toInt64 (x3_9)) + (3 * (Int32.toInt64 (x6_12))))))))), (7, .long (((Int32.toInt64 (x3_9)) + (3 * (Int32.toInt64 (x6_12)))))), (0, .ref (φ 0)), (1, .int (x1_8)), (3, .int (x3_9)), (4, .int (x4_10)), (6, .int (x6_12))]) hx hb dX11_notes_152 hl (k := 6) rfl (by rw [show Int32.ofInt (1) = 1 from by decide]) (by decide) rfl (fun ls hl => ?_)
              refine lv_iinc (v := (x6_12 + 1)) (lv' := [(6, .int ((x6_12 + 1))), (5, .int ((x5_11 + 1))), (9, .int (((40 * x1_8) + (Int64.toInt32 (((Int32.toInt64 (x3_9)) + (3 * (Int32.toInt64 (x6_12))))))))), (7, .long (((Int32.toInt64 (x3_9)) + (3 * (Int32.toInt64 (x6_12)))))), (0, .ref (φ 0)), (1, .int (x1_8)), (3, .int (x3_9)), (4, .int (x4_10))]) hx hb dX11_notes_155 hl (k := 7) rfl (by rw [show Int32.ofInt (1) = 1 from by decide]) (by decide) rfl (fun ls hl => ?_)
              refine lv_goto (tgt := 64) hx hb dX11_notes_158 (by decide) ?_
              exact ih _ _ _ _ _ _ _ _ _ hP hS (lv_sub hl [4, 5, 6, 7, 1, 0] rfl)  h
          · rw [if_neg c_18] at h
            refine lv_bipush (v := (-12)) hx hb dX11_notes_107 (by decide) ?_
            obtain rfl := Option.some.inj h
            exact W.iret hx hb hr (r_end X hP hS) hS.2.2 dX11_notes_109 (hlocks := hlk)
  refine lv_iload_n hx hb dX11_notes_0 rfl (lv_at hl 1 rfl) ?_
  refine lv_iconst (v := 0) hx hb dX11_notes_1 (by decide) ?_
  refine lv_iconst (v := 3) hx hb dX11_notes_2 (by decide) ?_
  refine c_S0 (As := [.int (a1), .int (0), .int (3)]) (rest := []) X hl.1 (c_X11_within l X.2.2.2.1.1 hn rfl) (w_X11_127) qw_933 ⟨Nat.le_of_ble_eq_true rfl, Nat.le_of_ble_eq_true rfl⟩ rfl rfl hP hS (Nat.le_of_ble_eq_true rfl) dX11_notes_3 (fun H locs hP hS => ?_)
  refine lv_if_eq (tgt := 29) hx hb dX11_notes_6 (by decide) (fun c_1 => ?_) (fun c_1 => ?_)
  · rw [if_pos c_1] at h
    refine lv_bipush (v := (-2)) hx hb dX11_notes_29 (by decide) ?_
    obtain rfl := Option.some.inj h
    exact W.iret hx hb hr (r_end X hP hS) hS.2.2 dX11_notes_31 (hlocks := hlk)
  · rw [if_neg c_1] at h
    refine lv_iload_n hx hb dX11_notes_9 rfl (lv_at hl 2 rfl) ?_
    refine lv_iconst (v := 0) hx hb dX11_notes_10 (by decide) ?_
    refine lv_iconst (v := 2) hx hb dX11_notes_11 (by decide) ?_
    refine c_S0 (As := [.int (a2), .int (0), .int (2)]) (rest := []) X hl.1 (c_X11_within l X.2.2.2.1.1 hn rfl) (w_X11_127) qw_933 ⟨Nat.le_of_ble_eq_true rfl, Nat.le_of_ble_eq_true rfl⟩ rfl rfl hP hS (Nat.le_of_ble_eq_true rfl) dX11_notes_12 (fun H locs hP hS => ?_)
    refine lv_if_eq (tgt := 29) hx hb dX11_notes_15 (by decide) (fun c_2 => ?_) (fun c_2 => ?_)
    · rw [if_pos c_2] at h
      refine lv_bipush (v := (-2)) hx hb dX11_notes_29 (by decide) ?_
      obtain rfl := Option.some.inj h
      exact W.iret hx hb hr (r_end X hP hS) hS.2.2 dX11_notes_31 (hlocks := hlk)
    · rw [if_neg c_2] at h
      refine lv_iload hx hb dX11_notes_18 (lv_at hl 4 rfl) ?_
      refine lv_iconst (v := 0) hx hb dX11_notes_20 (by decide) ?_
      refine lv_bipush (v := 10) hx hb dX11_notes_21 (by decide) ?_
      refine c_S0 (As := [.int (a4), .int (0), .int (10)]) (rest := []) X hl.1 (c_X11_within l X.2.2.2.1.1 hn rfl) (w_X11_127) qw_933 ⟨Nat.le_of_ble_eq_true rfl, Nat.le_of_ble_eq_true rfl⟩ rfl rfl hP hS (Nat.le_of_ble_eq_true rfl) dX11_notes_23 (fun H locs hP hS => ?_)
      refine lv_if_ne (tgt := 32) hx hb dX11_notes_26 (by decide) (fun c_3 => ?_) (fun c_3 => ?_)
      · rw [if_neg c_3] at h
        refine lv_aload_n hx hb dX11_notes_32 rfl (lv_at hl 0 rfl) ?_
        refine G_X11_92 X.1 hn hP dX11_notes_33 ?_
        refine lv_iload_n hx hb dX11_notes_36 rfl (lv_at hl 1 rfl) ?_
        obtain ⟨c_4, h⟩ := og h
        refine r_iald (k := (Int32.toNatClampNeg (a1))) X.1 hP (by omega) sM_sheetSort rfl (vin c_4) dX11_notes_37 ?_
        refine lv_iconst (v := (-1)) hx hb dX11_notes_38 (by decide) ?_
        refine lv_icmp_ne (tgt := 45) hx hb dX11_notes_39 (by decide) (fun c_5 => ?_) (fun c_5 => ?_)
        · rw [if_neg c_5] at h
          refine lv_aload_n hx hb dX11_notes_45 rfl (lv_at hl 0 rfl) ?_
          refine G_X11_92 X.1 hn hP dX11_notes_46 ?_
          refine lv_iload_n hx hb dX11_notes_49 rfl (lv_at hl 1 rfl) ?_
          obtain ⟨c_6, h⟩ := og h
          refine r_iald (k := (Int32.toNatClampNeg (a1))) X.1 hP (by omega) sM_sheetSort rfl (vin c_6) dX11_notes_50 ?_
          refine lv_iload_n hx hb dX11_notes_51 rfl (lv_at hl 2 rfl) ?_
          refine lv_icmp_eq (tgt := 58) hx hb dX11_notes_52 (by decide) (fun c_7 => ?_) (fun c_7 => ?_)
          · rw [if_pos c_7] at h
            refine lv_iconst (v := 0) hx hb dX11_notes_58 (by decide) ?_
            refine lv_istore (lv' := [(5, .int (0)), (0, .ref (φ 0)), (1, .int (a1)), (2, .int (a2)), (3, .int (a3)), (4, .int (a4))]) hx hb dX11_notes_59 hl (by decide) rfl (fun ls hl => ?_)
            refine lv_iconst (v := 0) hx hb dX11_notes_61 (by decide) ?_
            refine lv_istore (lv' := [(6, .int (0)), (5, .int (0)), (0, .ref (φ 0)), (1, .int (a1)), (2, .int (a2)), (3, .int (a3)), (4, .int (a4))]) hx hb dX11_notes_62 hl (by decide) rfl (fun ls hl => ?_)
            refine L64 _ _ _ _ _ _ _ _ _ _ hP hS (lv_sub hl [2, 3, 5, 6, 1, 0] rfl)  h
          · rw [if_neg c_7] at h
            refine lv_bipush (v := (-13)) hx hb dX11_notes_55 (by decide) ?_
            obtain rfl := Option.some.inj h
            exact W.iret hx hb hr (r_end X hP hS) hS.2.2 dX11_notes_57 (hlocks := hlk)
        · rw [if_pos c_5] at h
          refine lv_bipush (v := (-11)) hx hb dX11_notes_42 (by decide) ?_
          obtain rfl := Option.some.inj h
          exact W.iret hx hb hr (r_end X hP hS) hS.2.2 dX11_notes_44 (hlocks := hlk)
      · rw [if_pos c_3] at h
        refine lv_bipush (v := (-2)) hx hb dX11_notes_29 (by decide) ?_
        obtain rfl := Option.some.inj h
        exact W.iret hx hb hr (r_end X hP hS) hS.2.2 dX11_notes_31 (hlocks := hlk)

def f_X11_taken_30 (M : Mem) (x1_4 : Int32) (x2_5 : Int32) : Nat → Int32 → Option (Int32)
  | 0, _ => none
  | fu_7 + 1, x3_6 => (if x3_6 = x2_5 then (if x3_6 = x2_5 then (if ibd (x1_4) 10 then some ((M 8 (Int32.toNatClampNeg (x1_4)))) else none) else some ((-13))) else (if x3_6 ≤ 0 then (if x3_6 = x2_5 then (if ibd (x1_4) 10 then some ((M 8 (Int32.toNatClampNeg (x1_4)))) else none) else some ((-13))) else (if x3_6 = 1 then (f_X11_taken_30 M x1_4 x2_5 fu_7 (0)) else (if x3_6 = 2 then (f_X11_taken_30 M x1_4 x2_5 fu_7 (0)) else (f_X11_taken_30 M x1_4 x2_5 fu_7 ((x3_6 - 2)))))))
def f_X11_taken (M : Mem) (a1 : Int32) (a2 : Int32) : Option (Int32) :=
  (if (f_X11_within (a2) (0) (5)) = 0 then some ((-2)) else (if (f_X11_isNote M (a1)) = 0 then some ((-11)) else (if ibd (a1) 10 then (f_X11_taken_30 M (a1) (a2) FU ((M 5 (Int32.toNatClampNeg (a1))))) else none)))
set_option maxRecDepth 100000 in
set_option maxHeartbeats 4000000 in
theorem c_X11_taken (l : Launch) {G : GT} {φ : Nat → Nat} {n : Nat} {M : Mem} {L : Nat → Int64} {a1 : Int32} {a2 : Int32} (hI : wI φ n) (hn : 32 ≤ n) {r : Int32} (h : f_X11_taken M a1 a2 = some r) : CT l yX11_taken cX11_taken 4 (some .int) ({ frames := 2, cells := 0, slots := 0, locals := 43 } : Room) [.ref (φ 0), .int (a1), .int (a2)] (WB (cM G φ L) φ M n G) (some (.int r)) (WB (cM G φ L) φ (M) n G) φ n := by
  unfold f_X11_taken at h
  refine r_start (plainFor_of_name (by decide)) (Nat.le_of_ble_eq_true rfl) hI ?_
  intro p e s m args below meth c ls X hr hlk hP hl
  have hS : va_S (wA φ n s.heap.size) s.heap s.heap [] := va_S.rf
  have hx := X.1.1
  have hb := X.1.2.1
  have hl : lv_has ls 4 [(0, .ref (φ 0)), (1, .int (a1)), (2, .int (a2))] := hl
  have L30 : ∀ (fu_7 : Nat) (x1_4 : Int32) (x2_5 : Int32) (x3_6 : Int32)  (H : Heap) (locs : List Loc) (ls : Array Slot), va_P G.1 vwCl (wW (cM G φ L) φ M n) H → va_S (wA φ n s.heap.size) s.heap H locs → lv_has ls 4 [(0, .ref (φ 0)), (1, .int (x1_4)), (2, .int (x2_5)), (3, .int (x3_6))] → f_X11_taken_30 M x1_4 x2_5 fu_7 x3_6 = some r → W p l e ({ frames := 2, cells := 0, slots := 0, locals := 43 } : Room) s m args below meth c H locs 0 0 (MQ below (QQ (some (.int r)) (WB (cM G φ L) φ (M) n G) (wA φ n s.heap.size)) args s 0 0 (wA φ n s.heap.size)) (F0 m 30 ls []) := by
    intro fu_7
    induction fu_7 with
    | zero =>
      intro x1_4 x2_5 x3_6 H locs ls _ _ _  h
      have h : (none : Option (Int32)) = some r := h
      cases h
    | succ fu_7 ih =>
      intro x1_4 x2_5 x3_6 H locs ls hP hS hl  h
      rw [f_X11_taken_30] at h
      refine lv_iload_n hx hb dX11_taken_30 rfl (lv_at hl 3 rfl) ?_
      refine lv_iload_n hx hb dX11_taken_31 rfl (lv_at hl 2 rfl) ?_
      refine lv_icmp_eq (tgt := 60) hx hb dX11_taken_32 (by decide) (fun c_8 => ?_) (fun c_8 => ?_)
      · rw [if_pos c_8] at h
        refine lv_iload_n hx hb dX11_taken_60 rfl (lv_at hl 3 rfl) ?_
        refine lv_iload_n hx hb dX11_taken_61 rfl (lv_at hl 2 rfl) ?_
        refine lv_icmp_ne (tgt := 74) hx hb dX11_taken_62 (by decide) (fun c_9 => ?_) (fun c_9 => ?_)
        · rw [if_neg c_9] at h
          refine lv_bipush (v := (-13)) hx hb dX11_taken_74 (by decide) ?_
          obtain rfl := Option.some.inj h
          exact W.iret hx hb hr (r_end X hP hS) hS.2.2 dX11_taken_76 (hlocks := hlk)
        · rw [if_pos c_9] at h
          refine lv_aload_n hx hb dX11_taken_65 rfl (lv_at hl 0 rfl) ?_
          refine G_X11_31 X.1 hn hP dX11_taken_66 ?_
          refine lv_iload_n hx hb dX11_taken_69 rfl (lv_at hl 1 rfl) ?_
          obtain ⟨c_10, h⟩ := og h
          refine r_iald (k := (Int32.toNatClampNeg (x1_4))) X.1 hP (by omega) sM_number rfl (vin c_10) dX11_taken_70 ?_
          refine lv_goto (tgt := 76) hx hb dX11_taken_71 (by decide) ?_
          obtain rfl := Option.some.inj h
          exact W.iret hx hb hr (r_end X hP hS) hS.2.2 dX11_taken_76 (hlocks := hlk)
      · rw [if_neg c_8] at h
        refine lv_iload_n hx hb dX11_taken_35 rfl (lv_at hl 3 rfl) ?_
        refine lv_if_le (tgt := 60) hx hb dX11_taken_36 (by decide) (fun c_11 => ?_) (fun c_11 => ?_)
        · rw [if_pos c_11] at h
          refine lv_iload_n hx hb dX11_taken_60 rfl (lv_at hl 3 rfl) ?_
          refine lv_iload_n hx hb dX11_taken_61 rfl (lv_at hl 2 rfl) ?_
          refine lv_icmp_ne (tgt := 74) hx hb dX11_taken_62 (by decide) (fun c_12 => ?_) (fun c_12 => ?_)
          · rw [if_neg c_12] at h
            refine lv_bipush (v := (-13)) hx hb dX11_taken_74 (by decide) ?_
            obtain rfl := Option.some.inj h
            exact W.iret hx hb hr (r_end X hP hS) hS.2.2 dX11_taken_76 (hlocks := hlk)
          · rw [if_pos c_12] at h
            refine lv_aload_n hx hb dX11_taken_65 rfl (lv_at hl 0 rfl) ?_
            refine G_X11_31 X.1 hn hP dX11_taken_66 ?_
            refine lv_iload_n hx hb dX11_taken_69 rfl (lv_at hl 1 rfl) ?_
            obtain ⟨c_13, h⟩ := og h
            refine r_iald (k := (Int32.toNatClampNeg (x1_4))) X.1 hP (by omega) sM_number rfl (vin c_13) dX11_taken_70 ?_
            refine lv_goto (tgt := 76) hx hb dX11_taken_71 (by decide) ?_
            obtain rfl := Option.some.inj h
            exact W.iret hx hb hr (r_end X hP hS) hS.2.2 dX11_taken_76 (hlocks := hlk)
        · rw [if_neg c_11] at h
          refine lv_iload_n hx hb dX11_taken_39 rfl (lv_at hl 3 rfl) ?_
          refine lv_iconst (v := 1) hx hb dX11_taken_40 (by decide) ?_
          refine lv_icmp_eq (tgt := 49) hx hb dX11_taken_41 (by decide) (fun c_14 => ?_) (fun c_14 => ?_)
          · rw [if_pos c_14] at h
            refine lv_iconst (v := 0) hx hb dX11_taken_49 (by decide) ?_
            refine lv_goto (tgt := 56) hx hb dX11_taken_50 (by decide) ?_
            refine lv_istore_n (lv' := [(3, .int (0)), (0, .ref (φ 0)), (1, .int (x1_4)), (2, .int (x2_5))]) hx hb dX11_taken_56 rfl hl (by decide) rfl (fun ls hl => ?_)
            refine lv_goto (tgt := 30) hx hb dX11_taken_57 (by decide) ?_
            exact ih _ _ _ _ _ _ hP hS (lv_sub hl [1, 2, 3, 0] rfl)  h
          · rw [if_neg c_14] at h
            refine lv_iload_n hx hb dX11_taken_44 rfl (lv_at hl 3 rfl) ?_
            refine lv_iconst (v := 2) hx hb dX11_taken_45 (by decide) ?_
            refine lv_icmp_ne (tgt := 53) hx hb dX11_taken_46 (by decide) (fun c_15 => ?_) (fun c_15 => ?_)
            · rw [if_neg c_15] at h
              refine lv_iload_n hx hb dX11_taken_53 rfl (lv_at hl 3 rfl) ?_
              refine lv_iconst (v := 2) hx hb dX11_taken_54 (by decide) ?_
              refine lv_isub hx hb dX11_taken_55 ?_
              refine lv_istore_n (lv' := [(3, .int ((x3_6 - 2))), (0, .ref (φ 0)), (1, .int (x1_4)), (2, .int (x2_5))]) hx hb dX11_taken_56 rfl hl (by decide) rfl (fun ls hl => ?_)
              refine lv_goto (tgt := 30) hx hb dX11_taken_57 (by decide) ?_
              exact ih _ _ _ _ _ _ hP hS (lv_sub hl [1, 2, 3, 0] rfl)  h
            · rw [if_pos c_15] at h
              refine lv_iconst (v := 0) hx hb dX11_taken_49 (by decide) ?_
              refine lv_goto (tgt := 56) hx hb dX11_taken_50 (by decide) ?_
              refine lv_istore_n (lv' := [(3, .int (0)), (0, .ref (φ 0)), (1, .int (x1_4)), (2, .int (x2_5))]) hx hb dX11_taken_56 rfl hl (by decide) rfl (fun ls hl => ?_)
              refine lv_goto (tgt := 30) hx hb dX11_taken_57 (by decide) ?_
              exact ih _ _ _ _ _ _ hP hS (lv_sub hl [1, 2, 3, 0] rfl)  h
  refine lv_iload_n hx hb dX11_taken_0 rfl (lv_at hl 2 rfl) ?_
  refine lv_iconst (v := 0) hx hb dX11_taken_1 (by decide) ?_
  refine lv_iconst (v := 5) hx hb dX11_taken_2 (by decide) ?_
  refine c_S0 (As := [.int (a2), .int (0), .int (5)]) (rest := []) X hl.1 (c_X11_within l X.2.2.2.1.1 hn rfl) (w_X11_127) qw_933 ⟨Nat.le_of_ble_eq_true rfl, Nat.le_of_ble_eq_true rfl⟩ rfl rfl hP hS (Nat.le_of_ble_eq_true rfl) dX11_taken_3 (fun H locs hP hS => ?_)
  refine lv_if_ne (tgt := 12) hx hb dX11_taken_6 (by decide) (fun c_1 => ?_) (fun c_1 => ?_)
  · rw [if_neg c_1] at h
    refine lv_aload_n hx hb dX11_taken_12 rfl (lv_at hl 0 rfl) ?_
    refine lv_iload_n hx hb dX11_taken_13 rfl (lv_at hl 1 rfl) ?_
    refine c_V0 (As := [.int (a1)]) (rest := []) (a := 0) X hl.1 (c_X11_isNote l X.2.2.2.1.1 hn rfl) (w_X11_134) qw_1165 qw_44 ⟨Nat.le_of_ble_eq_true rfl, Nat.le_of_ble_eq_true rfl⟩ rfl rfl hP hS (by omega) sM_Model rfl rfl (Nat.le_of_ble_eq_true rfl) dX11_taken_14 (fun H locs hP hS => ?_)
    refine lv_if_ne (tgt := 23) hx hb dX11_taken_17 (by decide) (fun c_2 => ?_) (fun c_2 => ?_)
    · rw [if_neg c_2] at h
      refine lv_aload_n hx hb dX11_taken_23 rfl (lv_at hl 0 rfl) ?_
      refine G_X11_22 X.1 hn hP dX11_taken_24 ?_
      refine lv_iload_n hx hb dX11_taken_27 rfl (lv_at hl 1 rfl) ?_
      obtain ⟨c_3, h⟩ := og h
      refine r_iald (k := (Int32.toNatClampNeg (a1))) X.1 hP (by omega) sM_kind rfl (vin c_3) dX11_taken_28 ?_
      refine lv_istore_n (lv' := [(3, .int ((M 5 (Int32.toNatClampNeg (a1))))), (0, .ref (φ 0)), (1, .int (a1)), (2, .int (a2))]) hx hb dX11_taken_29 rfl hl (by decide) rfl (fun ls hl => ?_)
      refine L30 _ _ _ _ _ _ _ hP hS (lv_sub hl [1, 2, 3, 0] rfl)  h
    · rw [if_pos c_2] at h
      refine lv_bipush (v := (-11)) hx hb dX11_taken_20 (by decide) ?_
      obtain rfl := Option.some.inj h
      exact W.iret hx hb hr (r_end X hP hS) hS.2.2 dX11_taken_22 (hlocks := hlk)
  · rw [if_pos c_1] at h
    refine lv_bipush (v := (-2)) hx hb dX11_taken_9 (by decide) ?_
    obtain rfl := Option.some.inj h
    exact W.iret hx hb hr (r_end X hP hS) hS.2.2 dX11_taken_11 (hlocks := hlk)

