def f_X1_comesIn (M : Mem) (i0 : Nat) (a1 : Int32) : Option (Int32) :=
  (if (M (25 + i0) 1) ≤ 0 then some (0) else (if a1 < (M (25 + i0) 0) then some (0) else (if ¬ (M (25 + i0) 1) = 0 then (if ((a1 - (M (25 + i0) 0)) - (a1 - (M (25 + i0) 0)) / (M (25 + i0) 1) * (M (25 + i0) 1)) = 0 then some (1) else some (0)) else none)))
set_option maxRecDepth 100000 in
set_option maxHeartbeats 4000000 in
theorem c_X1_comesIn (l : Launch) {G : GT} {φ : Nat → Nat} {n : Nat} {M : Mem} {i0 : Nat} {a1 : Int32} (hI : wI φ n) (hn : 107 ≤ n) (hi0 : i0 < 5) {r : Int32} (h : f_X1_comesIn M i0 a1 = some r) : CT l yX1_comesIn cX1_comesIn 3 (some .boolean) ({ frames := 0, cells := 0, slots := 0, locals := 0 } : Room) [.ref (φ (20 + i0)), .int (a1)] (WB (cX G φ) φ M n G) (some (.int r)) (WB (cX G φ) φ (M) n G) φ n := by
  unfold f_X1_comesIn at h
  refine r_start (plainFor_of_name (by decide)) (Nat.le_of_ble_eq_true rfl) hI ?_
  intro p e s m args below meth c ls X hr hlk hP hl
  have hS : va_S (wA φ n s.heap.size) s.heap s.heap [] := va_S.rf
  have hx := X.1.1
  have hb := X.1.2.1
  have hl : lv_has ls 3 [(0, .ref (φ (20 + i0))), (1, .int (a1))] := hl
  refine lv_aload_n hx hb dX1_comesIn_0 rfl (lv_at hl 0 rfl) ?_
  refine G_X1_9 X.1 hn hP hi0 dX1_comesIn_1 ?_
  refine lv_iconst (v := 1) hx hb dX1_comesIn_4 (by decide) ?_
  refine r_iald (k := 1) X.1 hP (by omega) (sX_traits hi0) (by decide) (vin (by decide)) dX1_comesIn_5 ?_
  refine lv_istore_n (lv' := [(2, .int ((M (25 + i0) 1))), (0, .ref (φ (20 + i0))), (1, .int (a1))]) hx hb dX1_comesIn_6 rfl hl (by decide) rfl (fun ls hl => ?_)
  refine lv_iload_n hx hb dX1_comesIn_7 rfl (lv_at hl 0 rfl) ?_
  refine lv_if_le (tgt := 38) hx hb dX1_comesIn_8 (by decide) (fun c_1 => ?_) (fun c_1 => ?_)
  · rw [if_pos c_1] at h
    refine lv_iconst (v := 0) hx hb dX1_comesIn_38 (by decide) ?_
    cases h
    exact W.zret (v := 0) (ty := .boolean) hx hb hr rfl (r_end X hP hS) hS.2.2 dX1_comesIn_39 (hlocks := hlk)
  · rw [if_neg c_1] at h
    refine lv_iload_n hx hb dX1_comesIn_11 rfl (lv_at hl 2 rfl) ?_
    refine lv_aload_n hx hb dX1_comesIn_12 rfl (lv_at hl 1 rfl) ?_
    refine G_X1_9 X.1 hn hP hi0 dX1_comesIn_13 ?_
    refine lv_iconst (v := 0) hx hb dX1_comesIn_16 (by decide) ?_
    refine r_iald (k := 0) X.1 hP (by omega) (sX_traits hi0) (by decide) (vin (by decide)) dX1_comesIn_17 ?_
    refine lv_icmp_lt (tgt := 38) hx hb dX1_comesIn_18 (by decide) (fun c_2 => ?_) (fun c_2 => ?_)
    · rw [if_pos c_2] at h
      refine lv_iconst (v := 0) hx hb dX1_comesIn_38 (by decide) ?_
      cases h
      exact W.zret (v := 0) (ty := .boolean) hx hb hr rfl (r_end X hP hS) hS.2.2 dX1_comesIn_39 (hlocks := hlk)
    · rw [if_neg c_2] at h
      refine lv_iload_n hx hb dX1_comesIn_21 rfl (lv_at hl 2 rfl) ?_
      refine lv_aload_n hx hb dX1_comesIn_22 rfl (lv_at hl 1 rfl) ?_
      refine G_X1_9 X.1 hn hP hi0 dX1_comesIn_23 ?_
      refine lv_iconst (v := 0) hx hb dX1_comesIn_26 (by decide) ?_
      refine r_iald (k := 0) X.1 hP (by omega) (sX_traits hi0) (by decide) (vin (by decide)) dX1_comesIn_27 ?_
      refine lv_isub hx hb dX1_comesIn_28 ?_
      refine lv_iload_n hx hb dX1_comesIn_29 rfl (lv_at hl 0 rfl) ?_
      obtain ⟨c_3, h⟩ := og h
      refine lv_irem hx hb dX1_comesIn_30 c_3 ?_
      refine lv_if_ne (tgt := 38) hx hb dX1_comesIn_31 (by decide) (fun c_4 => ?_) (fun c_4 => ?_)
      · rw [if_neg c_4] at h
        refine lv_iconst (v := 0) hx hb dX1_comesIn_38 (by decide) ?_
        cases h
        exact W.zret (v := 0) (ty := .boolean) hx hb hr rfl (r_end X hP hS) hS.2.2 dX1_comesIn_39 (hlocks := hlk)
      · rw [if_pos c_4] at h
        refine lv_iconst (v := 1) hx hb dX1_comesIn_34 (by decide) ?_
        refine lv_goto (tgt := 39) hx hb dX1_comesIn_35 (by decide) ?_
        cases h
        exact W.zret (v := 1) (ty := .boolean) hx hb hr rfl (r_end X hP hS) hS.2.2 dX1_comesIn_39 (hlocks := hlk)

def f_X8_hasGuest (M : Mem) (a1 : Int32) : Int32 :=
  (if a1 < 0 then 0 else (if (M 1 3) ≤ a1 then 0 else 1))
theorem bz_X8_hasGuest (M : Mem) (a1 : Int32) : f_X8_hasGuest M a1 = 0 ∨ f_X8_hasGuest M a1 = 1 := by
  unfold f_X8_hasGuest
  repeat' (first | exact Or.inl rfl | exact Or.inr rfl | split)
set_option maxRecDepth 100000 in
set_option maxHeartbeats 4000000 in
theorem c_X8_hasGuest (l : Launch) {G : GT} {φ : Nat → Nat} {n : Nat} {M : Mem} {a1 : Int32} (hI : wI φ n) (hn : 107 ≤ n) {r : Int32} (h : f_X8_hasGuest M a1 = r) : CT l yX8_hasGuest cX8_hasGuest 2 (some .boolean) ({ frames := 0, cells := 0, slots := 0, locals := 0 } : Room) [.ref (φ 1), .int (a1)] (WB (cX G φ) φ M n G) (some (.int r)) (WB (cX G φ) φ (M) n G) φ n := by
  unfold f_X8_hasGuest at h
  refine r_start (plainFor_of_name (by decide)) (Nat.le_of_ble_eq_true rfl) hI ?_
  intro p e s m args below meth c ls X hr hlk hP hl
  have hS : va_S (wA φ n s.heap.size) s.heap s.heap [] := va_S.rf
  have hx := X.1.1
  have hb := X.1.2.1
  have hl : lv_has ls 2 [(0, .ref (φ 1)), (1, .int (a1))] := hl
  refine lv_iload_n hx hb dX8_hasGuest_0 rfl (lv_at hl 1 rfl) ?_
  refine lv_if_lt (tgt := 16) hx hb dX8_hasGuest_1 (by decide) (fun c_1 => ?_) (fun c_1 => ?_)
  · rw [if_pos c_1] at h
    refine lv_iconst (v := 0) hx hb dX8_hasGuest_16 (by decide) ?_
    cases h
    exact W.zret (v := 0) (ty := .boolean) hx hb hr rfl (r_end X hP hS) hS.2.2 dX8_hasGuest_17 (hlocks := hlk)
  · rw [if_neg c_1] at h
    refine lv_iload_n hx hb dX8_hasGuest_4 rfl (lv_at hl 1 rfl) ?_
    refine lv_aload_n hx hb dX8_hasGuest_5 rfl (lv_at hl 0 rfl) ?_
    refine G_X8_29 X.1 hn hP dX8_hasGuest_6 ?_
    refine lv_icmp_ge (tgt := 16) hx hb dX8_hasGuest_9 (by decide) (fun c_2 => ?_) (fun c_2 => ?_)
    · rw [if_pos c_2] at h
      refine lv_iconst (v := 0) hx hb dX8_hasGuest_16 (by decide) ?_
      cases h
      exact W.zret (v := 0) (ty := .boolean) hx hb hr rfl (r_end X hP hS) hS.2.2 dX8_hasGuest_17 (hlocks := hlk)
    · rw [if_neg c_2] at h
      refine lv_iconst (v := 1) hx hb dX8_hasGuest_12 (by decide) ?_
      refine lv_goto (tgt := 17) hx hb dX8_hasGuest_13 (by decide) ?_
      cases h
      exact W.zret (v := 1) (ty := .boolean) hx hb hr rfl (r_end X hP hS) hS.2.2 dX8_hasGuest_17 (hlocks := hlk)

def f_X8_liesAbove (M : Mem) (a1 : Int32) (a2 : Int32) : Option (Int32) :=
  (if ibd (a1) 10 then (if ibd (a2) 10 then (if (M (30 + (Int32.toNatClampNeg (a1))) 4) = (M (30 + (Int32.toNatClampNeg (a2))) 4) then (if (M (30 + (Int32.toNatClampNeg (a1))) 1) = (M (30 + (Int32.toNatClampNeg (a2))) 1) then (if a1 ≤ a2 then some (0) else some (1)) else (if (M (30 + (Int32.toNatClampNeg (a1))) 1) ≤ (M (30 + (Int32.toNatClampNeg (a2))) 1) then some (0) else some (1))) else (if (M (30 + (Int32.toNatClampNeg (a1))) 4) ≤ (M (30 + (Int32.toNatClampNeg (a2))) 4) then some (0) else some (1))) else none) else none)
set_option maxRecDepth 100000 in
set_option maxHeartbeats 4000000 in
theorem c_X8_liesAbove (l : Launch) {G : GT} {φ : Nat → Nat} {n : Nat} {M : Mem} {a1 : Int32} {a2 : Int32} (hI : wI φ n) (hn : 107 ≤ n) {r : Int32} (h : f_X8_liesAbove M a1 a2 = some r) : CT l yX8_liesAbove cX8_liesAbove 5 (some .boolean) ({ frames := 0, cells := 0, slots := 0, locals := 0 } : Room) [.ref (φ 1), .int (a1), .int (a2)] (WB (cX G φ) φ M n G) (some (.int r)) (WB (cX G φ) φ (M) n G) φ n := by
  unfold f_X8_liesAbove at h
  refine r_start (plainFor_of_name (by decide)) (Nat.le_of_ble_eq_true rfl) hI ?_
  intro p e s m args below meth c ls X hr hlk hP hl
  have hS : va_S (wA φ n s.heap.size) s.heap s.heap [] := va_S.rf
  have hx := X.1.1
  have hb := X.1.2.1
  have hl : lv_has ls 5 [(0, .ref (φ 1)), (1, .int (a1)), (2, .int (a2))] := hl
  refine lv_aload_n hx hb dX8_liesAbove_0 rfl (lv_at hl 0 rfl) ?_
  refine G_X8_19 X.1 hn hP dX8_liesAbove_1 ?_
  refine lv_iload_n hx hb dX8_liesAbove_4 rfl (lv_at hl 1 rfl) ?_
  obtain ⟨c_1, h⟩ := og h
  refine r_aald (t0 := 3) (k := (Int32.toNatClampNeg (a1))) X.1 hP rfl rfl (by omega) sX_slips rfl (vin c_1) dX8_liesAbove_5 ?_
  have hj_2 : (Int32.toNatClampNeg (a1)) < 10 := ibd_lt c_1
  refine lv_astore_n (lv' := [(3, .ref (φ (30 + (Int32.toNatClampNeg (a1))))), (0, .ref (φ 1)), (1, .int (a1)), (2, .int (a2))]) hx hb dX8_liesAbove_6 rfl hl (by decide) rfl (fun ls hl => ?_)
  refine lv_aload_n hx hb dX8_liesAbove_7 rfl (lv_at hl 1 rfl) ?_
  refine G_X8_19 X.1 hn hP dX8_liesAbove_8 ?_
  refine lv_iload_n hx hb dX8_liesAbove_11 rfl (lv_at hl 3 rfl) ?_
  obtain ⟨c_3, h⟩ := og h
  refine r_aald (t0 := 3) (k := (Int32.toNatClampNeg (a2))) X.1 hP rfl rfl (by omega) sX_slips rfl (vin c_3) dX8_liesAbove_12 ?_
  have hj_4 : (Int32.toNatClampNeg (a2)) < 10 := ibd_lt c_3
  refine lv_astore (lv' := [(4, .ref (φ (30 + (Int32.toNatClampNeg (a2))))), (3, .ref (φ (30 + (Int32.toNatClampNeg (a1))))), (0, .ref (φ 1)), (1, .int (a1)), (2, .int (a2))]) hx hb dX8_liesAbove_13 hl (by decide) rfl (fun ls hl => ?_)
  refine lv_aload_n hx hb dX8_liesAbove_15 rfl (lv_at hl 1 rfl) ?_
  refine G_X8_53 X.1 hn hP hj_2 dX8_liesAbove_16 ?_
  refine lv_aload hx hb dX8_liesAbove_19 (lv_at hl 0 rfl) ?_
  refine G_X8_53 X.1 hn hP hj_4 dX8_liesAbove_21 ?_
  refine lv_icmp_eq (tgt := 45) hx hb dX8_liesAbove_24 (by decide) (fun c_5 => ?_) (fun c_5 => ?_)
  · rw [if_pos c_5] at h
    refine lv_aload_n hx hb dX8_liesAbove_45 rfl (lv_at hl 1 rfl) ?_
    refine G_X8_56 X.1 hn hP hj_2 dX8_liesAbove_46 ?_
    refine lv_aload hx hb dX8_liesAbove_49 (lv_at hl 0 rfl) ?_
    refine G_X8_56 X.1 hn hP hj_4 dX8_liesAbove_51 ?_
    refine lv_icmp_eq (tgt := 77) hx hb dX8_liesAbove_54 (by decide) (fun c_6 => ?_) (fun c_6 => ?_)
    · rw [if_pos c_6] at h
      refine lv_iload_n hx hb dX8_liesAbove_77 rfl (lv_at hl 3 rfl) ?_
      refine lv_iload_n hx hb dX8_liesAbove_78 rfl (lv_at hl 4 rfl) ?_
      refine lv_icmp_le (tgt := 86) hx hb dX8_liesAbove_79 (by decide) (fun c_7 => ?_) (fun c_7 => ?_)
      · rw [if_pos c_7] at h
        refine lv_iconst (v := 0) hx hb dX8_liesAbove_86 (by decide) ?_
        cases h
        exact W.zret (v := 0) (ty := .boolean) hx hb hr rfl (r_end X hP hS) hS.2.2 dX8_liesAbove_87 (hlocks := hlk)
      · rw [if_neg c_7] at h
        refine lv_iconst (v := 1) hx hb dX8_liesAbove_82 (by decide) ?_
        refine lv_goto (tgt := 87) hx hb dX8_liesAbove_83 (by decide) ?_
        cases h
        exact W.zret (v := 1) (ty := .boolean) hx hb hr rfl (r_end X hP hS) hS.2.2 dX8_liesAbove_87 (hlocks := hlk)
    · rw [if_neg c_6] at h
      refine lv_aload_n hx hb dX8_liesAbove_57 rfl (lv_at hl 1 rfl) ?_
      refine G_X8_56 X.1 hn hP hj_2 dX8_liesAbove_58 ?_
      refine lv_aload hx hb dX8_liesAbove_61 (lv_at hl 0 rfl) ?_
      refine G_X8_56 X.1 hn hP hj_4 dX8_liesAbove_63 ?_
      refine lv_icmp_le (tgt := 73) hx hb dX8_liesAbove_66 (by decide) (fun c_8 => ?_) (fun c_8 => ?_)
      · rw [if_pos c_8] at h
        refine lv_iconst (v := 0) hx hb dX8_liesAbove_73 (by decide) ?_
        refine lv_goto (tgt := 87) hx hb dX8_liesAbove_74 (by decide) ?_
        cases h
        exact W.zret (v := 0) (ty := .boolean) hx hb hr rfl (r_end X hP hS) hS.2.2 dX8_liesAbove_87 (hlocks := hlk)
      · rw [if_neg c_8] at h
        refine lv_iconst (v := 1) hx hb dX8_liesAbove_69 (by decide) ?_
        refine lv_goto (tgt := 87) hx hb dX8_liesAbove_70 (by decide) ?_
        cases h
        exact W.zret (v := 1) (ty := .boolean) hx hb hr rfl (r_end X hP hS) hS.2.2 dX8_liesAbove_87 (hlocks := hlk)
  · rw [if_neg c_5] at h
    refine lv_aload_n hx hb dX8_liesAbove_27 rfl (lv_at hl 1 rfl) ?_
    refine G_X8_53 X.1 hn hP hj_2 dX8_liesAbove_28 ?_
    refine lv_aload hx hb dX8_liesAbove_31 (lv_at hl 0 rfl) ?_
    refine G_X8_53 X.1 hn hP hj_4 dX8_liesAbove_33 ?_
    refine lv_icmp_le (tgt := 43) hx hb dX8_liesAbove_36 (by decide) (fun c_9 => ?_) (fun c_9 => ?_)
    · rw [if_pos c_9] at h
      refine lv_iconst (v := 0) hx hb dX8_liesAbove_43 (by decide) ?_
      cases h
      exact W.zret (v := 0) (ty := .boolean) hx hb hr rfl (r_end X hP hS) hS.2.2 dX8_liesAbove_44 (hlocks := hlk)
    · rw [if_neg c_9] at h
      refine lv_iconst (v := 1) hx hb dX8_liesAbove_39 (by decide) ?_
      refine lv_goto (tgt := 44) hx hb dX8_liesAbove_40 (by decide) ?_
      cases h
      exact W.zret (v := 1) (ty := .boolean) hx hb hr rfl (r_end X hP hS) hS.2.2 dX8_liesAbove_44 (hlocks := hlk)

def f_X8_whoComes_4 (M : Mem) (x1_1 : Int32) : Nat → Int32 → Int32 → Option (Int32)
  | 0, _, _ => none
  | fu_4 + 1, x2_2, x3_3 => (if (M 1 3) ≤ x3_3 then some (x2_2) else (if ibd (x3_3) 5 then (Option.bind (f_X1_comesIn M (Int32.toNatClampNeg (x3_3)) (x1_1)) fun r_8 => (if r_8 = 0 then (f_X8_whoComes_4 M x1_1 fu_4 (x2_2) ((x3_3 + 1))) else (f_X8_whoComes_4 M x1_1 fu_4 ((x2_2 ||| (1 <<< (x3_3 &&& 31)))) ((x3_3 + 1))))) else none))
def f_X8_whoComes (M : Mem) (a1 : Int32) : Option (Int32) :=
  (f_X8_whoComes_4 M (a1) FU (0) (0))
set_option maxRecDepth 100000 in
set_option maxHeartbeats 4000000 in
theorem c_X8_whoComes (l : Launch) {G : GT} {φ : Nat → Nat} {n : Nat} {M : Mem} {a1 : Int32} (hI : wI φ n) (hn : 107 ≤ n) {r : Int32} (h : f_X8_whoComes M a1 = some r) : CT l yX8_whoComes cX8_whoComes 4 (some .int) ({ frames := 1, cells := 0, slots := 0, locals := 22 } : Room) [.ref (φ 1), .int (a1)] (WB (cX G φ) φ M n G) (some (.int r)) (WB (cX G φ) φ (M) n G) φ n := by
  unfold f_X8_whoComes at h
  refine r_start (plainFor_of_name (by decide)) (Nat.le_of_ble_eq_true rfl) hI ?_
  intro p e s m args below meth c ls X hr hlk hP hl
  have hS : va_S (wA φ n s.heap.size) s.heap s.heap [] := va_S.rf
  have hx := X.1.1
  have hb := X.1.2.1
  have hl : lv_has ls 4 [(0, .ref (φ 1)), (1, .int (a1))] := hl
  have L4 : ∀ (fu_4 : Nat) (x1_1 : Int32) (x2_2 : Int32) (x3_3 : Int32)  (H : Heap) (locs : List Loc) (ls : Array Slot), va_P G.1 vwCl (wW (cX G φ) φ M n) H → va_S (wA φ n s.heap.size) s.heap H locs → lv_has ls 4 [(0, .ref (φ 1)), (1, .int (x1_1)), (2, .int (x2_2)), (3, .int (x3_3))] → f_X8_whoComes_4 M x1_1 fu_4 x2_2 x3_3 = some r → W p l e ({ frames := 1, cells := 0, slots := 0, locals := 22 } : Room) s m args below meth c H locs 0 0 (MQ below (QQ (some (.int r)) (WB (cX G φ) φ (M) n G) (wA φ n s.heap.size)) args s 0 0 (wA φ n s.heap.size)) (F0 m 4 ls []) := by
    intro fu_4
    induction fu_4 with
    | zero =>
      intro x1_1 x2_2 x3_3 H locs ls _ _ _  h
      have h : (none : Option (Int32)) = some r := h
      cases h
    | succ fu_4 ih =>
      intro x1_1 x2_2 x3_3 H locs ls hP hS hl  h
      rw [f_X8_whoComes_4] at h
      refine lv_iload_n hx hb dX8_whoComes_4 rfl (lv_at hl 3 rfl) ?_
      refine lv_aload_n hx hb dX8_whoComes_5 rfl (lv_at hl 0 rfl) ?_
      refine G_X8_29 X.1 hn hP dX8_whoComes_6 ?_
      refine lv_icmp_ge (tgt := 37) hx hb dX8_whoComes_9 (by decide) (fun c_5 => ?_) (fun c_5 => ?_)
      · rw [if_pos c_5] at h
        refine lv_iload_n hx hb dX8_whoComes_37 rfl (lv_at hl 2 rfl) ?_
        cases h
        exact W.iret hx hb hr (r_end X hP hS) hS.2.2 dX8_whoComes_38 (hlocks := hlk)
      · rw [if_neg c_5] at h
        refine lv_aload_n hx hb dX8_whoComes_12 rfl (lv_at hl 0 rfl) ?_
        refine G_X8_11 X.1 hn hP dX8_whoComes_13 ?_
        refine lv_iload_n hx hb dX8_whoComes_16 rfl (lv_at hl 3 rfl) ?_
        obtain ⟨c_6, h⟩ := og h
        refine r_aald (t0 := 2) (k := (Int32.toNatClampNeg (x3_3))) X.1 hP rfl rfl (by omega) sX_people rfl (vin c_6) dX8_whoComes_17 ?_
        have hj_7 : (Int32.toNatClampNeg (x3_3)) < 5 := ibd_lt c_6
        refine lv_iload_n hx hb dX8_whoComes_18 rfl (lv_at hl 1 rfl) ?_
        obtain ⟨r_8, hr_8, h⟩ := ob h
        refine c_V0 (As := [.int (x1_1)]) (rest := []) (a := (20 + (Int32.toNatClampNeg (x3_3)))) X hl.1 (c_X1_comesIn l X.2.2.2.1.1 hn hj_7 hr_8) (w_X8_59) qw_703 qw_704 ⟨Nat.le_of_ble_eq_true rfl, Nat.le_of_ble_eq_true rfl⟩ rfl rfl hP hS (by omega) (sX_Guest hj_7) rfl rfl (Nat.le_of_ble_eq_true rfl) dX8_whoComes_19 (fun H locs hP hS => ?_)
        refine lv_if_eq (tgt := 31) hx hb dX8_whoComes_22 (by decide) (fun c_9 => ?_) (fun c_9 => ?_)
        · rw [if_pos c_9] at h
          refine lv_iinc (v := (x3_3 + 1)) (lv' := [(3, .int ((x3_3 + 1))), (0, .ref (φ 1)), (1, .int (x1_1)), (2, .int (x2_2))]) hx hb dX8_whoComes_31 hl (k := 3) rfl (by rw [show Int32.ofInt (1) = 1 from by decide]) (by decide) rfl (fun ls hl => ?_)
          refine lv_goto (tgt := 4) hx hb dX8_whoComes_34 (by decide) ?_
          exact ih _ _ _ _ _ _ hP hS (lv_sub hl [1, 2, 3, 0] rfl)  h
        · rw [if_neg c_9] at h
          refine lv_iload_n hx hb dX8_whoComes_25 rfl (lv_at hl 2 rfl) ?_
          refine lv_iconst (v := 1) hx hb dX8_whoComes_26 (by decide) ?_
          refine lv_iload_n hx hb dX8_whoComes_27 rfl (lv_at hl 3 rfl) ?_
          refine lv_ishl hx hb dX8_whoComes_28 ?_
          refine lv_ior hx hb dX8_whoComes_29 ?_
          refine lv_istore_n (lv' := [(2, .int ((x2_2 ||| (1 <<< (x3_3 &&& 31))))), (0, .ref (φ 1)), (1, .int (x1_1)), (3, .int (x3_3))]) hx hb dX8_whoComes_30 rfl hl (by decide) rfl (fun ls hl => ?_)
          refine lv_iinc (v := (x3_3 + 1)) (lv' := [(3, .int ((x3_3 + 1))), (2, .int ((x2_2 ||| (1 <<< (x3_3 &&& 31))))), (0, .ref (φ 1)), (1, .int (x1_1))]) hx hb dX8_whoComes_31 hl (k := 3) rfl (by rw [show Int32.ofInt (1) = 1 from by decide]) (by decide) rfl (fun ls hl => ?_)
          refine lv_goto (tgt := 4) hx hb dX8_whoComes_34 (by decide) ?_
          exact ih _ _ _ _ _ _ hP hS (lv_sub hl [2, 3, 1, 0] rfl)  h
  refine lv_iconst (v := 0) hx hb dX8_whoComes_0 (by decide) ?_
  refine lv_istore_n (lv' := [(2, .int (0)), (0, .ref (φ 1)), (1, .int (a1))]) hx hb dX8_whoComes_1 rfl hl (by decide) rfl (fun ls hl => ?_)
  refine lv_iconst (v := 0) hx hb dX8_whoComes_2 (by decide) ?_
  refine lv_istore_n (lv' := [(3, .int (0)), (2, .int (0)), (0, .ref (φ 1)), (1, .int (a1))]) hx hb dX8_whoComes_3 rfl hl (by decide) rfl (fun ls hl => ?_)
  refine L4 _ _ _ _ _ _ _ hP hS (lv_sub hl [2, 3, 1, 0] rfl)  h

def f_X7_isUnder_7 (M : Mem) (i0 : Nat) (x1_1 : Int32) : Nat → Int32 → Int32 → Option (Int32)
  | 0, _, _ => none
  | fu_4 + 1, x2_2, x3_3 => (if 6 ≤ x3_3 then some (0) else (if x2_2 = (-1) then some (0) else (if x2_2 = x1_1 then some (1) else (if ibd (x2_2) 6 then (f_X7_isUnder_7 M i0 x1_1 fu_4 ((([-1, 0, 0, 1, 2, 3] : List Int32).getD (Int32.toNatClampNeg (x2_2)) 0)) ((x3_3 + 1))) else none))))
def f_X7_isUnder (M : Mem) (i0 : Nat) (a1 : Int32) : Option (Int32) :=
  (f_X7_isUnder_7 M i0 (a1) FU ((M (30 + i0) 0)) (0))
set_option maxRecDepth 100000 in
set_option maxHeartbeats 4000000 in
theorem c_X7_isUnder (l : Launch) {G : GT} {φ : Nat → Nat} {n : Nat} {M : Mem} {i0 : Nat} {a1 : Int32} (hI : wI φ n) (hn : 107 ≤ n) (hi0 : i0 < 10) {r : Int32} (h : f_X7_isUnder M i0 a1 = some r) : CT l yX7_isUnder cX7_isUnder 4 (some .boolean) ({ frames := 0, cells := 0, slots := 0, locals := 0 } : Room) [.ref (φ (30 + i0)), .int (a1)] (WB (cX G φ) φ M n G) (some (.int r)) (WB (cX G φ) φ (M) n G) φ n := by
  unfold f_X7_isUnder at h
  refine r_start (plainFor_of_name (by decide)) (Nat.le_of_ble_eq_true rfl) hI ?_
  intro p e s m args below meth c ls X hr hlk hP hl
  have hS : va_S (wA φ n s.heap.size) s.heap s.heap [] := va_S.rf
  have hx := X.1.1
  have hb := X.1.2.1
  have hl : lv_has ls 4 [(0, .ref (φ (30 + i0))), (1, .int (a1))] := hl
  have L7 : ∀ (fu_4 : Nat) (x1_1 : Int32) (x2_2 : Int32) (x3_3 : Int32)  (H : Heap) (locs : List Loc) (ls : Array Slot), va_P G.1 vwCl (wW (cX G φ) φ M n) H → va_S (wA φ n s.heap.size) s.heap H locs → lv_has ls 4 [(1, .int (x1_1)), (2, .int (x2_2)), (3, .int (x3_3))] → f_X7_isUnder_7 M i0 x1_1 fu_4 x2_2 x3_3 = some r → W p l e ({ frames := 0, cells := 0, slots := 0, locals := 0 } : Room) s m args below meth c H locs 0 0 (MQ below (QQ (some (.int r)) (WB (cX G φ) φ (M) n G) (wA φ n s.heap.size)) args s 0 0 (wA φ n s.heap.size)) (F0 m 7 ls []) := by
    intro fu_4
    induction fu_4 with
    | zero =>
      intro x1_1 x2_2 x3_3 H locs ls _ _ _  h
      have h : (none : Option (Int32)) = some r := h
      cases h
    | succ fu_4 ih =>
      intro x1_1 x2_2 x3_3 H locs ls hP hS hl  h
      rw [f_X7_isUnder_7] at h
      refine lv_iload_n hx hb dX7_isUnder_7 rfl (lv_at hl 2 rfl) ?_
      refine lv_bipush (v := 6) hx hb dX7_isUnder_8 (by decide) ?_
      refine lv_icmp_ge (tgt := 37) hx hb dX7_isUnder_10 (by decide) (fun c_5 => ?_) (fun c_5 => ?_)
      · rw [if_pos c_5] at h
        refine lv_iconst (v := 0) hx hb dX7_isUnder_37 (by decide) ?_
        cases h
        exact W.zret (v := 0) (ty := .boolean) hx hb hr rfl (r_end X hP hS) hS.2.2 dX7_isUnder_38 (hlocks := hlk)
      · rw [if_neg c_5] at h
        refine lv_iload_n hx hb dX7_isUnder_13 rfl (lv_at hl 1 rfl) ?_
        refine lv_iconst (v := (-1)) hx hb dX7_isUnder_14 (by decide) ?_
        refine lv_icmp_eq (tgt := 37) hx hb dX7_isUnder_15 (by decide) (fun c_6 => ?_) (fun c_6 => ?_)
        · rw [if_pos c_6] at h
          refine lv_iconst (v := 0) hx hb dX7_isUnder_37 (by decide) ?_
          cases h
          exact W.zret (v := 0) (ty := .boolean) hx hb hr rfl (r_end X hP hS) hS.2.2 dX7_isUnder_38 (hlocks := hlk)
        · rw [if_neg c_6] at h
          refine lv_iload_n hx hb dX7_isUnder_18 rfl (lv_at hl 1 rfl) ?_
          refine lv_iload_n hx hb dX7_isUnder_19 rfl (lv_at hl 0 rfl) ?_
          refine lv_icmp_ne (tgt := 25) hx hb dX7_isUnder_20 (by decide) (fun c_7 => ?_) (fun c_7 => ?_)
          · rw [if_neg c_7] at h
            refine va_gets hx hb X.2.2.1.1.2.2.1.1 hS X.1.2.2.1 (X.1.2.2.2.1 _ qw_914) (fun _ h => h) dX7_isUnder_25 ?_
            refine lv_iload_n hx hb dX7_isUnder_28 rfl (lv_at hl 1 rfl) ?_
            obtain ⟨c_8, h⟩ := og h
            refine va_ti hx hb X.2.2.1.1.2.2.1.2 hS (vin c_8) rfl dX7_isUnder_29 ?_
            refine lv_istore_n (lv' := [(2, .int ((([-1, 0, 0, 1, 2, 3] : List Int32).getD (Int32.toNatClampNeg (x2_2)) 0))), (1, .int (x1_1)), (3, .int (x3_3))]) hx hb dX7_isUnder_30 rfl hl (by decide) rfl (fun ls hl => ?_)
            refine lv_iinc (v := (x3_3 + 1)) (lv' := [(3, .int ((x3_3 + 1))), (2, .int ((([-1, 0, 0, 1, 2, 3] : List Int32).getD (Int32.toNatClampNeg (x2_2)) 0))), (1, .int (x1_1))]) hx hb dX7_isUnder_31 hl (k := 2) rfl (by rw [show Int32.ofInt (1) = 1 from by decide]) (by decide) rfl (fun ls hl => ?_)
            refine lv_goto (tgt := 7) hx hb dX7_isUnder_34 (by decide) ?_
            exact ih _ _ _ _ _ _ hP hS (lv_sub hl [2, 1, 0] rfl)  h
          · rw [if_pos c_7] at h
            refine lv_iconst (v := 1) hx hb dX7_isUnder_23 (by decide) ?_
            cases h
            exact W.zret (v := 1) (ty := .boolean) hx hb hr rfl (r_end X hP hS) hS.2.2 dX7_isUnder_24 (hlocks := hlk)
  refine lv_aload_n hx hb dX7_isUnder_0 rfl (lv_at hl 0 rfl) ?_
  refine G_X7_9 X.1 hn hP hi0 dX7_isUnder_1 ?_
  refine lv_istore_n (lv' := [(2, .int ((M (30 + i0) 0))), (0, .ref (φ (30 + i0))), (1, .int (a1))]) hx hb dX7_isUnder_4 rfl hl (by decide) rfl (fun ls hl => ?_)
  refine lv_iconst (v := 0) hx hb dX7_isUnder_5 (by decide) ?_
  refine lv_istore_n (lv' := [(3, .int (0)), (2, .int ((M (30 + i0) 0))), (0, .ref (φ (30 + i0))), (1, .int (a1))]) hx hb dX7_isUnder_6 rfl hl (by decide) rfl (fun ls hl => ?_)
  refine L7 _ _ _ _ _ _ _ hP hS (lv_sub hl [3, 1, 0] rfl)  h

def f_J9_max_7cf53 (a1 : Int32) (a2 : Int32) : Int32 :=
  (if a1 < a2 then a2 else a1)
set_option maxRecDepth 100000 in
set_option maxHeartbeats 4000000 in
theorem c_J9_max_7cf53 (l : Launch) {G : GT} {φ : Nat → Nat} {n : Nat} {M : Mem} {sh : ShT} {a1 : Int32} {a2 : Int32} (hI : wI φ n) {r : Int32} (h : f_J9_max_7cf53 a1 a2 = r) : CT l yJ9_max_7cf53 cJ9_max_7cf53 2 (some .int) ({ frames := 0, cells := 0, slots := 0, locals := 0 } : Room) [.int (a1), .int (a2)] (WB (sh) φ M n G) (some (.int r)) (WB (sh) φ (M) n G) φ n := by
  unfold f_J9_max_7cf53 at h
  refine r_start (by decide +kernel) (Nat.le_of_ble_eq_true rfl) hI ?_
  intro p e s m args below meth c ls X hr hlk hP hl
  have hS : va_S (wA φ n s.heap.size) s.heap s.heap [] := va_S.rf
  have hx := X.1.1
  have hb := X.1.2.1
  have hl : lv_has ls 2 [(0, .int (a1)), (1, .int (a2))] := hl
  refine lv_iload_n hx hb dJ9_max_7cf53_0 rfl (lv_at hl 0 rfl) ?_
  refine lv_iload_n hx hb dJ9_max_7cf53_1 rfl (lv_at hl 1 rfl) ?_
  refine lv_icmp_lt (tgt := 9) hx hb dJ9_max_7cf53_2 (by decide) (fun c_1 => ?_) (fun c_1 => ?_)
  · rw [if_pos c_1] at h
    refine lv_iload_n hx hb dJ9_max_7cf53_9 rfl (lv_at hl 1 rfl) ?_
    cases h
    exact W.iret hx hb hr (r_end X hP hS) hS.2.2 dJ9_max_7cf53_10 (hlocks := hlk)
  · rw [if_neg c_1] at h
    refine lv_iload_n hx hb dJ9_max_7cf53_5 rfl (lv_at hl 0 rfl) ?_
    refine lv_goto (tgt := 10) hx hb dJ9_max_7cf53_6 (by decide) ?_
    cases h
    exact W.iret hx hb hr (r_end X hP hS) hS.2.2 dJ9_max_7cf53_10 (hlocks := hlk)

def f_X7_highOf (a1 : Int32) (a2 : Int32) : Option (Int32) :=
  (if Int32.toInt (a1) < 2 ∨ 5 < Int32.toInt (a1) then some (0) else (if a1 = 2 then some (1) else (if a1 = 3 then some ((a2 / 3)) else (if a1 = 4 then some (4) else (if a1 = 5 then some ((f_J9_max_7cf53 (0) (((a2 / 3) - 2)))) else none)))))
set_option maxRecDepth 100000 in
set_option maxHeartbeats 4000000 in
theorem c_X7_highOf (l : Launch) {G : GT} {φ : Nat → Nat} {n : Nat} {M : Mem} {a1 : Int32} {a2 : Int32} (hI : wI φ n) (hn : 107 ≤ n) {r : Int32} (h : f_X7_highOf a1 a2 = some r) : CT l yX7_highOf cX7_highOf 2 (some .int) ({ frames := 1, cells := 0, slots := 0, locals := 21 } : Room) [.int (a1), .int (a2)] (WB (cX G φ) φ M n G) (some (.int r)) (WB (cX G φ) φ (M) n G) φ n := by
  unfold f_X7_highOf at h
  refine r_start (plainFor_of_name (by decide)) (Nat.le_of_ble_eq_true rfl) hI ?_
  intro p e s m args below meth c ls X hr hlk hP hl
  have hS : va_S (wA φ n s.heap.size) s.heap s.heap [] := va_S.rf
  have hx := X.1.1
  have hb := X.1.2.1
  have hl : lv_has ls 2 [(0, .int (a1)), (1, .int (a2))] := hl
  refine lv_iload_n hx hb dX7_highOf_0 rfl (lv_at hl 0 rfl) ?_
  by_cases c_1 : Int32.toInt (a1) < 2 ∨ 5 < Int32.toInt (a1)
  · rw [if_pos c_1] at h
    refine lv_tableOut (tgt := 50) hx hb dX7_highOf_1 c_1 (by decide) ?_
    refine lv_iconst (v := 0) hx hb dX7_highOf_50 (by decide) ?_
    cases h
    exact W.iret hx hb hr (r_end X hP hS) hS.2.2 dX7_highOf_51 (hlocks := hlk)
  · rw [if_neg c_1] at h
    by_cases c_2 : a1 = 2
    · rw [if_pos c_2] at h
      refine lv_tableIn (tgt := 32) (off := 31) hx hb dX7_highOf_1 (fun q => c_1 (Or.inl q)) (fun q => c_1 (Or.inr q)) (by rw [c_2]; rfl) (by decide) ?_
      refine lv_iconst (v := 1) hx hb dX7_highOf_32 (by decide) ?_
      cases h
      exact W.iret hx hb hr (r_end X hP hS) hS.2.2 dX7_highOf_33 (hlocks := hlk)
    · rw [if_neg c_2] at h
      by_cases c_3 : a1 = 3
      · rw [if_pos c_3] at h
        refine lv_tableIn (tgt := 34) (off := 33) hx hb dX7_highOf_1 (fun q => c_1 (Or.inl q)) (fun q => c_1 (Or.inr q)) (by rw [c_3]; rfl) (by decide) ?_
        refine lv_iload_n hx hb dX7_highOf_34 rfl (lv_at hl 1 rfl) ?_
        refine lv_iconst (v := 3) hx hb dX7_highOf_35 (by decide) ?_
        refine lv_idiv hx hb dX7_highOf_36 (by decide) ?_
        cases h
        exact W.iret hx hb hr (r_end X hP hS) hS.2.2 dX7_highOf_37 (hlocks := hlk)
      · rw [if_neg c_3] at h
        by_cases c_4 : a1 = 4
        · rw [if_pos c_4] at h
          refine lv_tableIn (tgt := 38) (off := 37) hx hb dX7_highOf_1 (fun q => c_1 (Or.inl q)) (fun q => c_1 (Or.inr q)) (by rw [c_4]; rfl) (by decide) ?_
          refine lv_iconst (v := 4) hx hb dX7_highOf_38 (by decide) ?_
          cases h
          exact W.iret hx hb hr (r_end X hP hS) hS.2.2 dX7_highOf_39 (hlocks := hlk)
        · rw [if_neg c_4] at h
          by_cases c_5 : a1 = 5
          · rw [if_pos c_5] at h
            refine lv_tableIn (tgt := 40) (off := 39) hx hb dX7_highOf_1 (fun q => c_1 (Or.inl q)) (fun q => c_1 (Or.inr q)) (by rw [c_5]; rfl) (by decide) ?_
            refine lv_iconst (v := 0) hx hb dX7_highOf_40 (by decide) ?_
            refine lv_iload_n hx hb dX7_highOf_41 rfl (lv_at hl 1 rfl) ?_
            refine lv_iconst (v := 3) hx hb dX7_highOf_42 (by decide) ?_
            refine lv_idiv hx hb dX7_highOf_43 (by decide) ?_
            refine lv_iconst (v := 2) hx hb dX7_highOf_44 (by decide) ?_
            refine lv_isub hx hb dX7_highOf_45 ?_
            refine c_S0 (As := [.int (0), .int (((a2 / 3) - 2))]) (rest := []) X hl.1 (c_J9_max_7cf53 l X.2.2.2.1.1 rfl) (w_X7_54) qw_624 ⟨Nat.le_of_ble_eq_true rfl, Nat.le_of_ble_eq_true rfl⟩ rfl rfl hP hS (Nat.le_of_ble_eq_true rfl) dX7_highOf_46 (fun H locs hP hS => ?_)
            cases h
            exact W.iret hx hb hr (r_end X hP hS) hS.2.2 dX7_highOf_49 (hlocks := hlk)
          · rw [if_neg c_5] at h
            cases h

def f_X10_isHour (a1 : Int32) : Int32 :=
  (if a1 < 0 then 0 else (if 48 ≤ a1 then 0 else 1))
theorem bz_X10_isHour (a1 : Int32) : f_X10_isHour a1 = 0 ∨ f_X10_isHour a1 = 1 := by
  unfold f_X10_isHour
  repeat' (first | exact Or.inl rfl | exact Or.inr rfl | split)
set_option maxRecDepth 100000 in
set_option maxHeartbeats 4000000 in
theorem c_X10_isHour (l : Launch) {G : GT} {φ : Nat → Nat} {n : Nat} {M : Mem} {a1 : Int32} (hI : wI φ n) (hn : 107 ≤ n) {r : Int32} (h : f_X10_isHour a1 = r) : CT l yX10_isHour cX10_isHour 1 (some .boolean) ({ frames := 0, cells := 0, slots := 0, locals := 0 } : Room) [.int (a1)] (WB (cX G φ) φ M n G) (some (.int r)) (WB (cX G φ) φ (M) n G) φ n := by
  unfold f_X10_isHour at h
  refine r_start (plainFor_of_name (by decide)) (Nat.le_of_ble_eq_true rfl) hI ?_
  intro p e s m args below meth c ls X hr hlk hP hl
  have hS : va_S (wA φ n s.heap.size) s.heap s.heap [] := va_S.rf
  have hx := X.1.1
  have hb := X.1.2.1
  have hl : lv_has ls 1 [(0, .int (a1))] := hl
  refine lv_iload_n hx hb dX10_isHour_0 rfl (lv_at hl 0 rfl) ?_
  refine lv_if_lt (tgt := 14) hx hb dX10_isHour_1 (by decide) (fun c_1 => ?_) (fun c_1 => ?_)
  · rw [if_pos c_1] at h
    refine lv_iconst (v := 0) hx hb dX10_isHour_14 (by decide) ?_
    cases h
    exact W.zret (v := 0) (ty := .boolean) hx hb hr rfl (r_end X hP hS) hS.2.2 dX10_isHour_15 (hlocks := hlk)
  · rw [if_neg c_1] at h
    refine lv_iload_n hx hb dX10_isHour_4 rfl (lv_at hl 0 rfl) ?_
    refine lv_bipush (v := 48) hx hb dX10_isHour_5 (by decide) ?_
    refine lv_icmp_ge (tgt := 14) hx hb dX10_isHour_7 (by decide) (fun c_2 => ?_) (fun c_2 => ?_)
    · rw [if_pos c_2] at h
      refine lv_iconst (v := 0) hx hb dX10_isHour_14 (by decide) ?_
      cases h
      exact W.zret (v := 0) (ty := .boolean) hx hb hr rfl (r_end X hP hS) hS.2.2 dX10_isHour_15 (hlocks := hlk)
    · rw [if_neg c_2] at h
      refine lv_iconst (v := 1) hx hb dX10_isHour_10 (by decide) ?_
      refine lv_goto (tgt := 15) hx hb dX10_isHour_11 (by decide) ?_
      cases h
      exact W.zret (v := 1) (ty := .boolean) hx hb hr rfl (r_end X hP hS) hS.2.2 dX10_isHour_15 (hlocks := hlk)

def f_X10_fits (M : Mem) (a1 : Int32) (a2 : Int32) : Option (Int32) :=
  (if ibd (a1) 4 then (if a2 < (([0, 1, 0, 0] : List Int32).getD (Int32.toNatClampNeg (a1)) 0) then some (0) else (if ibd (a1) 4 then (if (([47, 24, 12, 9] : List Int32).getD (Int32.toNatClampNeg (a1)) 0) < a2 then some (0) else some (1)) else none)) else none)
set_option maxRecDepth 100000 in
set_option maxHeartbeats 4000000 in
theorem c_X10_fits (l : Launch) {G : GT} {φ : Nat → Nat} {n : Nat} {M : Mem} {a1 : Int32} {a2 : Int32} (hI : wI φ n) (hn : 107 ≤ n) {r : Int32} (h : f_X10_fits M a1 a2 = some r) : CT l yX10_fits cX10_fits 2 (some .boolean) ({ frames := 0, cells := 0, slots := 0, locals := 0 } : Room) [.int (a1), .int (a2)] (WB (cX G φ) φ M n G) (some (.int r)) (WB (cX G φ) φ (M) n G) φ n := by
  unfold f_X10_fits at h
  refine r_start (plainFor_of_name (by decide)) (Nat.le_of_ble_eq_true rfl) hI ?_
  intro p e s m args below meth c ls X hr hlk hP hl
  have hS : va_S (wA φ n s.heap.size) s.heap s.heap [] := va_S.rf
  have hx := X.1.1
  have hb := X.1.2.1
  have hl : lv_has ls 2 [(0, .int (a1)), (1, .int (a2))] := hl
  refine lv_iload_n hx hb dX10_fits_0 rfl (lv_at hl 1 rfl) ?_
  refine va_gets hx hb X.2.2.1.1.1.1 hS X.1.2.2.1 (X.1.2.2.2.1 _ qw_590) (fun _ h => h) dX10_fits_1 ?_
  refine lv_iload_n hx hb dX10_fits_4 rfl (lv_at hl 0 rfl) ?_
  obtain ⟨c_1, h⟩ := og h
  refine va_ti hx hb X.2.2.1.1.1.2 hS (vin c_1) rfl dX10_fits_5 ?_
  refine lv_icmp_lt (tgt := 22) hx hb dX10_fits_6 (by decide) (fun c_2 => ?_) (fun c_2 => ?_)
  · rw [if_pos c_2] at h
    refine lv_iconst (v := 0) hx hb dX10_fits_22 (by decide) ?_
    cases h
    exact W.zret (v := 0) (ty := .boolean) hx hb hr rfl (r_end X hP hS) hS.2.2 dX10_fits_23 (hlocks := hlk)
  · rw [if_neg c_2] at h
    refine lv_iload_n hx hb dX10_fits_9 rfl (lv_at hl 1 rfl) ?_
    refine va_gets hx hb X.2.2.1.1.2.1.1 hS X.1.2.2.1 (X.1.2.2.2.1 _ qw_592) (fun _ h => h) dX10_fits_10 ?_
    refine lv_iload_n hx hb dX10_fits_13 rfl (lv_at hl 0 rfl) ?_
    obtain ⟨c_3, h⟩ := og h
    refine va_ti hx hb X.2.2.1.1.2.1.2 hS (vin c_3) rfl dX10_fits_14 ?_
    refine lv_icmp_gt (tgt := 22) hx hb dX10_fits_15 (by decide) (fun c_4 => ?_) (fun c_4 => ?_)
    · rw [if_pos c_4] at h
      refine lv_iconst (v := 0) hx hb dX10_fits_22 (by decide) ?_
      cases h
      exact W.zret (v := 0) (ty := .boolean) hx hb hr rfl (r_end X hP hS) hS.2.2 dX10_fits_23 (hlocks := hlk)
    · rw [if_neg c_4] at h
      refine lv_iconst (v := 1) hx hb dX10_fits_18 (by decide) ?_
      refine lv_goto (tgt := 23) hx hb dX10_fits_19 (by decide) ?_
      cases h
      exact W.zret (v := 1) (ty := .boolean) hx hb hr rfl (r_end X hP hS) hS.2.2 dX10_fits_23 (hlocks := hlk)

def f_X11_within (a1 : Int32) (a2 : Int32) (a3 : Int32) : Int32 :=
  (if a1 < a2 then 0 else (if a3 < a1 then 0 else 1))
theorem bz_X11_within (a1 : Int32) (a2 : Int32) (a3 : Int32) : f_X11_within a1 a2 a3 = 0 ∨ f_X11_within a1 a2 a3 = 1 := by
  unfold f_X11_within
  repeat' (first | exact Or.inl rfl | exact Or.inr rfl | split)
set_option maxRecDepth 100000 in
set_option maxHeartbeats 4000000 in
theorem c_X11_within (l : Launch) {G : GT} {φ : Nat → Nat} {n : Nat} {M : Mem} {L : Nat → Int64} {a1 : Int32} {a2 : Int32} {a3 : Int32} (hI : wI φ n) (hn : 32 ≤ n) {r : Int32} (h : f_X11_within a1 a2 a3 = r) : CT l yX11_within cX11_within 3 (some .boolean) ({ frames := 0, cells := 0, slots := 0, locals := 0 } : Room) [.int (a1), .int (a2), .int (a3)] (WB (cM G φ L) φ M n G) (some (.int r)) (WB (cM G φ L) φ (M) n G) φ n := by
  unfold f_X11_within at h
  refine r_start (plainFor_of_name (by decide)) (Nat.le_of_ble_eq_true rfl) hI ?_
  intro p e s m args below meth c ls X hr hlk hP hl
  have hS : va_S (wA φ n s.heap.size) s.heap s.heap [] := va_S.rf
  have hx := X.1.1
  have hb := X.1.2.1
  have hl : lv_has ls 3 [(0, .int (a1)), (1, .int (a2)), (2, .int (a3))] := hl
  refine lv_iload_n hx hb dX11_within_0 rfl (lv_at hl 0 rfl) ?_
  refine lv_iload_n hx hb dX11_within_1 rfl (lv_at hl 1 rfl) ?_
  refine lv_icmp_lt (tgt := 14) hx hb dX11_within_2 (by decide) (fun c_1 => ?_) (fun c_1 => ?_)
  · rw [if_pos c_1] at h
    refine lv_iconst (v := 0) hx hb dX11_within_14 (by decide) ?_
    cases h
    exact W.zret (v := 0) (ty := .boolean) hx hb hr rfl (r_end X hP hS) hS.2.2 dX11_within_15 (hlocks := hlk)
  · rw [if_neg c_1] at h
    refine lv_iload_n hx hb dX11_within_5 rfl (lv_at hl 0 rfl) ?_
    refine lv_iload_n hx hb dX11_within_6 rfl (lv_at hl 2 rfl) ?_
    refine lv_icmp_gt (tgt := 14) hx hb dX11_within_7 (by decide) (fun c_2 => ?_) (fun c_2 => ?_)
    · rw [if_pos c_2] at h
      refine lv_iconst (v := 0) hx hb dX11_within_14 (by decide) ?_
      cases h
      exact W.zret (v := 0) (ty := .boolean) hx hb hr rfl (r_end X hP hS) hS.2.2 dX11_within_15 (hlocks := hlk)
    · rw [if_neg c_2] at h
      refine lv_iconst (v := 1) hx hb dX11_within_10 (by decide) ?_
      refine lv_goto (tgt := 15) hx hb dX11_within_11 (by decide) ?_
      cases h
      exact W.zret (v := 1) (ty := .boolean) hx hb hr rfl (r_end X hP hS) hS.2.2 dX11_within_15 (hlocks := hlk)

def f_X11_isPerson (M : Mem) (a1 : Int32) : Int32 :=
  (f_X11_within (a1) (0) (((M 0 0) - 1)))
theorem bz_X11_isPerson (M : Mem) (a1 : Int32) : f_X11_isPerson M a1 = 0 ∨ f_X11_isPerson M a1 = 1 := by
  unfold f_X11_isPerson
  repeat' (first | exact Or.inl rfl | exact Or.inr rfl | exact bz_X11_within .. | split)
set_option maxRecDepth 100000 in
set_option maxHeartbeats 4000000 in
theorem c_X11_isPerson (l : Launch) {G : GT} {φ : Nat → Nat} {n : Nat} {M : Mem} {L : Nat → Int64} {a1 : Int32} (hI : wI φ n) (hn : 32 ≤ n) {r : Int32} (h : f_X11_isPerson M a1 = r) : CT l yX11_isPerson cX11_isPerson 2 (some .boolean) ({ frames := 1, cells := 0, slots := 0, locals := 22 } : Room) [.ref (φ 0), .int (a1)] (WB (cM G φ L) φ M n G) (some (.int r)) (WB (cM G φ L) φ (M) n G) φ n := by
  unfold f_X11_isPerson at h
  refine r_start (plainFor_of_name (by decide)) (Nat.le_of_ble_eq_true rfl) hI ?_
  intro p e s m args below meth c ls X hr hlk hP hl
  have hS : va_S (wA φ n s.heap.size) s.heap s.heap [] := va_S.rf
  have hx := X.1.1
  have hb := X.1.2.1
  have hl : lv_has ls 2 [(0, .ref (φ 0)), (1, .int (a1))] := hl
  refine lv_iload_n hx hb dX11_isPerson_0 rfl (lv_at hl 1 rfl) ?_
  refine lv_iconst (v := 0) hx hb dX11_isPerson_1 (by decide) ?_
  refine lv_aload_n hx hb dX11_isPerson_2 rfl (lv_at hl 0 rfl) ?_
  refine G_X11_123 X.1 hn hP dX11_isPerson_3 ?_
  refine lv_iconst (v := 1) hx hb dX11_isPerson_6 (by decide) ?_
  refine lv_isub hx hb dX11_isPerson_7 ?_
  refine c_S0 (As := [.int (a1), .int (0), .int (((M 0 0) - 1))]) (rest := []) X hl.1 (c_X11_within l X.2.2.2.1.1 hn rfl) (w_X11_127) qw_930 ⟨Nat.le_of_ble_eq_true rfl, Nat.le_of_ble_eq_true rfl⟩ rfl rfl hP hS (Nat.le_of_ble_eq_true rfl) dX11_isPerson_8 (fun H locs hP hS => ?_)
  cases h
  exact W.zret (v := _) (ty := .boolean) hx hb hr (nbz (bz_X11_within (a1) (0) (((M 0 0) - 1)))) (r_end X hP hS) hS.2.2 dX11_isPerson_11 (hlocks := hlk)

def f_X11_isNote (M : Mem) (a1 : Int32) : Int32 :=
  (f_X11_within (a1) (0) (((M 0 5) - 1)))
theorem bz_X11_isNote (M : Mem) (a1 : Int32) : f_X11_isNote M a1 = 0 ∨ f_X11_isNote M a1 = 1 := by
  unfold f_X11_isNote
  repeat' (first | exact Or.inl rfl | exact Or.inr rfl | exact bz_X11_within .. | split)
set_option maxRecDepth 100000 in
set_option maxHeartbeats 4000000 in
theorem c_X11_isNote (l : Launch) {G : GT} {φ : Nat → Nat} {n : Nat} {M : Mem} {L : Nat → Int64} {a1 : Int32} (hI : wI φ n) (hn : 32 ≤ n) {r : Int32} (h : f_X11_isNote M a1 = r) : CT l yX11_isNote cX11_isNote 2 (some .boolean) ({ frames := 1, cells := 0, slots := 0, locals := 22 } : Room) [.ref (φ 0), .int (a1)] (WB (cM G φ L) φ M n G) (some (.int r)) (WB (cM G φ L) φ (M) n G) φ n := by
  unfold f_X11_isNote at h
  refine r_start (plainFor_of_name (by decide)) (Nat.le_of_ble_eq_true rfl) hI ?_
  intro p e s m args below meth c ls X hr hlk hP hl
  have hS : va_S (wA φ n s.heap.size) s.heap s.heap [] := va_S.rf
  have hx := X.1.1
  have hb := X.1.2.1
  have hl : lv_has ls 2 [(0, .ref (φ 0)), (1, .int (a1))] := hl
  refine lv_iload_n hx hb dX11_isNote_0 rfl (lv_at hl 1 rfl) ?_
  refine lv_iconst (v := 0) hx hb dX11_isNote_1 (by decide) ?_
  refine lv_aload_n hx hb dX11_isNote_2 rfl (lv_at hl 0 rfl) ?_
  refine G_X11_131 X.1 hn hP dX11_isNote_3 ?_
  refine lv_iconst (v := 1) hx hb dX11_isNote_6 (by decide) ?_
  refine lv_isub hx hb dX11_isNote_7 ?_
  refine c_S0 (As := [.int (a1), .int (0), .int (((M 0 5) - 1))]) (rest := []) X hl.1 (c_X11_within l X.2.2.2.1.1 hn rfl) (w_X11_127) qw_930 ⟨Nat.le_of_ble_eq_true rfl, Nat.le_of_ble_eq_true rfl⟩ rfl rfl hP hS (Nat.le_of_ble_eq_true rfl) dX11_isNote_8 (fun H locs hP hS => ?_)
  cases h
  exact W.zret (v := _) (ty := .boolean) hx hb hr (nbz (bz_X11_within (a1) (0) (((M 0 5) - 1)))) (r_end X hP hS) hS.2.2 dX11_isNote_11 (hlocks := hlk)

def f_X11_set (M : Mem) (a1 : Int32) (a2 : Int32) (a3 : Int32) : Option (Int32 × Mem) :=
  (if (f_X11_within (a1) (0) (4)) = 0 then some (((-2), M)) else (if a1 = 4 then (if (f_X11_isNote M (a2)) = 0 then some (((-2), M)) else (if Int32.toInt (a1) < 0 ∨ 3 < Int32.toInt (a1) then (if (f_X11_within (a3) (0) (47)) = 0 then some (((-2), M)) else (if ibd (a2) 10 then (if ibd (a2) 10 then some (((M 6 (Int32.toNatClampNeg (a2))), (upd2 M 6 (Int32.toNatClampNeg (a2)) (a3)))) else none) else none)) else (if a1 = 0 then (if (f_X11_within (a3) (0) (47)) = 0 then some (((-2), M)) else (if ibd (a2) 5 then (if ibd (a2) 5 then some (((M 1 (Int32.toNatClampNeg (a2))), (upd2 M 1 (Int32.toNatClampNeg (a2)) (a3)))) else none) else none)) else (if a1 = 1 then (if (f_X11_within (a3) (1) (24)) = 0 then some (((-2), M)) else (if ibd (a2) 5 then (if ibd (a2) 5 then some (((M 2 (Int32.toNatClampNeg (a2))), (upd2 M 2 (Int32.toNatClampNeg (a2)) (a3)))) else none) else none)) else (if a1 = 2 then (if (f_X11_within (a3) (0) (12)) = 0 then some (((-2), M)) else (if ibd (a2) 5 then (if ibd (a2) 5 then some (((M 3 (Int32.toNatClampNeg (a2))), (upd2 M 3 (Int32.toNatClampNeg (a2)) (a3)))) else none) else none)) else (if a1 = 3 then (if (f_X11_within (a3) (0) (9)) = 0 then some (((-2), M)) else (if ibd (a2) 5 then (if ibd (a2) 5 then some (((M 4 (Int32.toNatClampNeg (a2))), (upd2 M 4 (Int32.toNatClampNeg (a2)) (a3)))) else none) else none)) else none)))))) else (if (f_X11_isPerson M (a2)) = 0 then some (((-2), M)) else (if Int32.toInt (a1) < 0 ∨ 3 < Int32.toInt (a1) then (if (f_X11_within (a3) (0) (47)) = 0 then some (((-2), M)) else (if ibd (a2) 10 then (if ibd (a2) 10 then some (((M 6 (Int32.toNatClampNeg (a2))), (upd2 M 6 (Int32.toNatClampNeg (a2)) (a3)))) else none) else none)) else (if a1 = 0 then (if (f_X11_within (a3) (0) (47)) = 0 then some (((-2), M)) else (if ibd (a2) 5 then (if ibd (a2) 5 then some (((M 1 (Int32.toNatClampNeg (a2))), (upd2 M 1 (Int32.toNatClampNeg (a2)) (a3)))) else none) else none)) else (if a1 = 1 then (if (f_X11_within (a3) (1) (24)) = 0 then some (((-2), M)) else (if ibd (a2) 5 then (if ibd (a2) 5 then some (((M 2 (Int32.toNatClampNeg (a2))), (upd2 M 2 (Int32.toNatClampNeg (a2)) (a3)))) else none) else none)) else (if a1 = 2 then (if (f_X11_within (a3) (0) (12)) = 0 then some (((-2), M)) else (if ibd (a2) 5 then (if ibd (a2) 5 then some (((M 3 (Int32.toNatClampNeg (a2))), (upd2 M 3 (Int32.toNatClampNeg (a2)) (a3)))) else none) else none)) else (if a1 = 3 then (if (f_X11_within (a3) (0) (9)) = 0 then some (((-2), M)) else (if ibd (a2) 5 then (if ibd (a2) 5 then some (((M 4 (Int32.toNatClampNeg (a2))), (upd2 M 4 (Int32.toNatClampNeg (a2)) (a3)))) else none) else none)) else none))))))))
set_option maxRecDepth 100000 in
set_option maxHeartbeats 4000000 in
theorem c_X11_set (l : Launch) {G : GT} {φ : Nat → Nat} {n : Nat} {M : Mem} {L : Nat → Int64} {a1 : Int32} {a2 : Int32} {a3 : Int32} (hI : wI φ n) (hn : 32 ≤ n) {r : Int32 × Mem} (h : f_X11_set M a1 a2 a3 = some r) : CT l yX11_set cX11_set 5 (some .int) ({ frames := 2, cells := 0, slots := 0, locals := 43 } : Room) [.ref (φ 0), .int (a1), .int (a2), .int (a3)] (WB (cM G φ L) φ M n G) (some (.int r.1)) (WB (cM G φ L) φ (r.2) n G) φ n := by
  unfold f_X11_set at h
  refine r_start (plainFor_of_name (by decide)) (Nat.le_of_ble_eq_true rfl) hI ?_
  intro p e s m args below meth c ls X hr hlk hP hl
  have hS : va_S (wA φ n s.heap.size) s.heap s.heap [] := va_S.rf
  have hx := X.1.1
  have hb := X.1.2.1
  have hl : lv_has ls 5 [(0, .ref (φ 0)), (1, .int (a1)), (2, .int (a2)), (3, .int (a3))] := hl
  refine lv_iload_n hx hb dX11_set_0 rfl (lv_at hl 1 rfl) ?_
  refine lv_iconst (v := 0) hx hb dX11_set_1 (by decide) ?_
  refine lv_iconst (v := 4) hx hb dX11_set_2 (by decide) ?_
  refine c_S0 (As := [.int (a1), .int (0), .int (4)]) (rest := []) X hl.1 (c_X11_within l X.2.2.2.1.1 hn rfl) (w_X11_127) qw_930 ⟨Nat.le_of_ble_eq_true rfl, Nat.le_of_ble_eq_true rfl⟩ rfl rfl hP hS (Nat.le_of_ble_eq_true rfl) dX11_set_3 (fun H locs hP hS => ?_)
  refine lv_if_ne (tgt := 12) hx hb dX11_set_6 (by decide) (fun c_1 => ?_) (fun c_1 => ?_)
  · rw [if_neg c_1] at h
    refine lv_iload_n hx hb dX11_set_12 rfl (lv_at hl 1 rfl) ?_
    refine lv_iconst (v := 4) hx hb dX11_set_13 (by decide) ?_
    refine lv_icmp_ne (tgt := 28) hx hb dX11_set_14 (by decide) (fun c_2 => ?_) (fun c_2 => ?_)
    · rw [if_neg c_2] at h
      refine lv_aload_n hx hb dX11_set_28 rfl (lv_at hl 0 rfl) ?_
      refine lv_iload_n hx hb dX11_set_29 rfl (lv_at hl 2 rfl) ?_
      refine c_V0 (As := [.int (a2)]) (rest := []) (a := 0) X hl.1 (c_X11_isPerson l X.2.2.2.1.1 hn rfl) (w_X11_138) qw_1166 qw_45 ⟨Nat.le_of_ble_eq_true rfl, Nat.le_of_ble_eq_true rfl⟩ rfl rfl hP hS (by omega) sM_Model rfl rfl (Nat.le_of_ble_eq_true rfl) dX11_set_30 (fun H locs hP hS => ?_)
      refine lv_if_ne (tgt := 39) hx hb dX11_set_33 (by decide) (fun c_3 => ?_) (fun c_3 => ?_)
      · rw [if_neg c_3] at h
        refine lv_iload_n hx hb dX11_set_39 rfl (lv_at hl 1 rfl) ?_
        by_cases c_4 : Int32.toInt (a1) < 0 ∨ 3 < Int32.toInt (a1)
        · rw [if_pos c_4] at h
          refine lv_tableOut (tgt := 196) hx hb dX11_set_40 c_4 (by decide) ?_
          refine lv_iload_n hx hb dX11_set_196 rfl (lv_at hl 3 rfl) ?_
          refine lv_iconst (v := 0) hx hb dX11_set_197 (by decide) ?_
          refine lv_bipush (v := 47) hx hb dX11_set_198 (by decide) ?_
          refine c_S0 (As := [.int (a3), .int (0), .int (47)]) (rest := []) X hl.1 (c_X11_within l X.2.2.2.1.1 hn rfl) (w_X11_127) qw_930 ⟨Nat.le_of_ble_eq_true rfl, Nat.le_of_ble_eq_true rfl⟩ rfl rfl hP hS (Nat.le_of_ble_eq_true rfl) dX11_set_200 (fun H locs hP hS => ?_)
          refine lv_if_ne (tgt := 209) hx hb dX11_set_203 (by decide) (fun c_5 => ?_) (fun c_5 => ?_)
          · rw [if_neg c_5] at h
            refine lv_aload_n hx hb dX11_set_209 rfl (lv_at hl 0 rfl) ?_
            refine G_X11_25 X.1 hn hP dX11_set_210 ?_
            refine lv_iload_n hx hb dX11_set_213 rfl (lv_at hl 2 rfl) ?_
            obtain ⟨c_6, h⟩ := og h
            refine r_iald (k := (Int32.toNatClampNeg (a2))) X.1 hP (by omega) sM_hour rfl (vin c_6) dX11_set_214 ?_
            refine lv_istore (lv' := [(4, .int ((M 6 (Int32.toNatClampNeg (a2))))), (0, .ref (φ 0)), (1, .int (a1)), (2, .int (a2)), (3, .int (a3))]) hx hb dX11_set_215 hl (by decide) rfl (fun ls hl => ?_)
            refine lv_aload_n hx hb dX11_set_217 rfl (lv_at hl 1 rfl) ?_
            refine G_X11_25 X.1 hn hP dX11_set_218 ?_
            refine lv_iload_n hx hb dX11_set_221 rfl (lv_at hl 3 rfl) ?_
            refine lv_iload_n hx hb dX11_set_222 rfl (lv_at hl 4 rfl) ?_
            obtain ⟨c_7, h⟩ := og h
            refine r_iast (k := (Int32.toNatClampNeg (a2))) X.1 X.2.2.2.1 hP hS (by omega) sM_hour rfl (vin c_7) dX11_set_223 (fun H locs hP hS => ?_)
            refine lv_iload hx hb dX11_set_224 (lv_at hl 0 rfl) ?_
            cases h
            exact W.iret hx hb hr (r_end X hP hS) hS.2.2 dX11_set_226 (hlocks := hlk)
          · rw [if_pos c_5] at h
            refine lv_bipush (v := (-2)) hx hb dX11_set_206 (by decide) ?_
            cases h
            exact W.iret hx hb hr (r_end X hP hS) hS.2.2 dX11_set_208 (hlocks := hlk)
        · rw [if_neg c_4] at h
          by_cases c_8 : a1 = 0
          · rw [if_pos c_8] at h
            refine lv_tableIn (tgt := 72) (off := 32) hx hb dX11_set_40 (fun q => c_4 (Or.inl q)) (fun q => c_4 (Or.inr q)) (by rw [c_8]; rfl) (by decide) ?_
            refine lv_iload_n hx hb dX11_set_72 rfl (lv_at hl 3 rfl) ?_
            refine lv_iconst (v := 0) hx hb dX11_set_73 (by decide) ?_
            refine lv_bipush (v := 47) hx hb dX11_set_74 (by decide) ?_
            refine c_S0 (As := [.int (a3), .int (0), .int (47)]) (rest := []) X hl.1 (c_X11_within l X.2.2.2.1.1 hn rfl) (w_X11_127) qw_930 ⟨Nat.le_of_ble_eq_true rfl, Nat.le_of_ble_eq_true rfl⟩ rfl rfl hP hS (Nat.le_of_ble_eq_true rfl) dX11_set_76 (fun H locs hP hS => ?_)
            refine lv_if_ne (tgt := 85) hx hb dX11_set_79 (by decide) (fun c_9 => ?_) (fun c_9 => ?_)
            · rw [if_neg c_9] at h
              refine lv_aload_n hx hb dX11_set_85 rfl (lv_at hl 0 rfl) ?_
              refine G_X11_7 X.1 hn hP dX11_set_86 ?_
              refine lv_iload_n hx hb dX11_set_89 rfl (lv_at hl 2 rfl) ?_
              obtain ⟨c_10, h⟩ := og h
              refine r_iald (k := (Int32.toNatClampNeg (a2))) X.1 hP (by omega) sM_first rfl (vin c_10) dX11_set_90 ?_
              refine lv_istore (lv' := [(4, .int ((M 1 (Int32.toNatClampNeg (a2))))), (0, .ref (φ 0)), (1, .int (a1)), (2, .int (a2)), (3, .int (a3))]) hx hb dX11_set_91 hl (by decide) rfl (fun ls hl => ?_)
              refine lv_aload_n hx hb dX11_set_93 rfl (lv_at hl 1 rfl) ?_
              refine G_X11_7 X.1 hn hP dX11_set_94 ?_
              refine lv_iload_n hx hb dX11_set_97 rfl (lv_at hl 3 rfl) ?_
              refine lv_iload_n hx hb dX11_set_98 rfl (lv_at hl 4 rfl) ?_
              obtain ⟨c_11, h⟩ := og h
              refine r_iast (k := (Int32.toNatClampNeg (a2))) X.1 X.2.2.2.1 hP hS (by omega) sM_first rfl (vin c_11) dX11_set_99 (fun H locs hP hS => ?_)
              refine lv_iload hx hb dX11_set_100 (lv_at hl 0 rfl) ?_
              cases h
              exact W.iret hx hb hr (r_end X hP hS) hS.2.2 dX11_set_102 (hlocks := hlk)
            · rw [if_pos c_9] at h
              refine lv_bipush (v := (-2)) hx hb dX11_set_82 (by decide) ?_
              cases h
              exact W.iret hx hb hr (r_end X hP hS) hS.2.2 dX11_set_84 (hlocks := hlk)
          · rw [if_neg c_8] at h
            by_cases c_12 : a1 = 1
            · rw [if_pos c_12] at h
              refine lv_tableIn (tgt := 103) (off := 63) hx hb dX11_set_40 (fun q => c_4 (Or.inl q)) (fun q => c_4 (Or.inr q)) (by rw [c_12]; rfl) (by decide) ?_
              refine lv_iload_n hx hb dX11_set_103 rfl (lv_at hl 3 rfl) ?_
              refine lv_iconst (v := 1) hx hb dX11_set_104 (by decide) ?_
              refine lv_bipush (v := 24) hx hb dX11_set_105 (by decide) ?_
              refine c_S0 (As := [.int (a3), .int (1), .int (24)]) (rest := []) X hl.1 (c_X11_within l X.2.2.2.1.1 hn rfl) (w_X11_127) qw_930 ⟨Nat.le_of_ble_eq_true rfl, Nat.le_of_ble_eq_true rfl⟩ rfl rfl hP hS (Nat.le_of_ble_eq_true rfl) dX11_set_107 (fun H locs hP hS => ?_)
              refine lv_if_ne (tgt := 116) hx hb dX11_set_110 (by decide) (fun c_13 => ?_) (fun c_13 => ?_)
              · rw [if_neg c_13] at h
                refine lv_aload_n hx hb dX11_set_116 rfl (lv_at hl 0 rfl) ?_
                refine G_X11_13 X.1 hn hP dX11_set_117 ?_
                refine lv_iload_n hx hb dX11_set_120 rfl (lv_at hl 2 rfl) ?_
                obtain ⟨c_14, h⟩ := og h
                refine r_iald (k := (Int32.toNatClampNeg (a2))) X.1 hP (by omega) sM_every rfl (vin c_14) dX11_set_121 ?_
                refine lv_istore (lv' := [(4, .int ((M 2 (Int32.toNatClampNeg (a2))))), (0, .ref (φ 0)), (1, .int (a1)), (2, .int (a2)), (3, .int (a3))]) hx hb dX11_set_122 hl (by decide) rfl (fun ls hl => ?_)
                refine lv_aload_n hx hb dX11_set_124 rfl (lv_at hl 1 rfl) ?_
                refine G_X11_13 X.1 hn hP dX11_set_125 ?_
                refine lv_iload_n hx hb dX11_set_128 rfl (lv_at hl 3 rfl) ?_
                refine lv_iload_n hx hb dX11_set_129 rfl (lv_at hl 4 rfl) ?_
                obtain ⟨c_15, h⟩ := og h
                refine r_iast (k := (Int32.toNatClampNeg (a2))) X.1 X.2.2.2.1 hP hS (by omega) sM_every rfl (vin c_15) dX11_set_130 (fun H locs hP hS => ?_)
                refine lv_iload hx hb dX11_set_131 (lv_at hl 0 rfl) ?_
                cases h
                exact W.iret hx hb hr (r_end X hP hS) hS.2.2 dX11_set_133 (hlocks := hlk)
              · rw [if_pos c_13] at h
                refine lv_bipush (v := (-2)) hx hb dX11_set_113 (by decide) ?_
                cases h
                exact W.iret hx hb hr (r_end X hP hS) hS.2.2 dX11_set_115 (hlocks := hlk)
            · rw [if_neg c_12] at h
              by_cases c_16 : a1 = 2
              · rw [if_pos c_16] at h
                refine lv_tableIn (tgt := 134) (off := 94) hx hb dX11_set_40 (fun q => c_4 (Or.inl q)) (fun q => c_4 (Or.inr q)) (by rw [c_16]; rfl) (by decide) ?_
                refine lv_iload_n hx hb dX11_set_134 rfl (lv_at hl 3 rfl) ?_
                refine lv_iconst (v := 0) hx hb dX11_set_135 (by decide) ?_
                refine lv_bipush (v := 12) hx hb dX11_set_136 (by decide) ?_
                refine c_S0 (As := [.int (a3), .int (0), .int (12)]) (rest := []) X hl.1 (c_X11_within l X.2.2.2.1.1 hn rfl) (w_X11_127) qw_930 ⟨Nat.le_of_ble_eq_true rfl, Nat.le_of_ble_eq_true rfl⟩ rfl rfl hP hS (Nat.le_of_ble_eq_true rfl) dX11_set_138 (fun H locs hP hS => ?_)
                refine lv_if_ne (tgt := 147) hx hb dX11_set_141 (by decide) (fun c_17 => ?_) (fun c_17 => ?_)
                · rw [if_neg c_17] at h
                  refine lv_aload_n hx hb dX11_set_147 rfl (lv_at hl 0 rfl) ?_
                  refine G_X11_16 X.1 hn hP dX11_set_148 ?_
                  refine lv_iload_n hx hb dX11_set_151 rfl (lv_at hl 2 rfl) ?_
                  obtain ⟨c_18, h⟩ := og h
                  refine r_iald (k := (Int32.toNatClampNeg (a2))) X.1 hP (by omega) sM_reads rfl (vin c_18) dX11_set_152 ?_
                  refine lv_istore (lv' := [(4, .int ((M 3 (Int32.toNatClampNeg (a2))))), (0, .ref (φ 0)), (1, .int (a1)), (2, .int (a2)), (3, .int (a3))]) hx hb dX11_set_153 hl (by decide) rfl (fun ls hl => ?_)
                  refine lv_aload_n hx hb dX11_set_155 rfl (lv_at hl 1 rfl) ?_
                  refine G_X11_16 X.1 hn hP dX11_set_156 ?_
                  refine lv_iload_n hx hb dX11_set_159 rfl (lv_at hl 3 rfl) ?_
                  refine lv_iload_n hx hb dX11_set_160 rfl (lv_at hl 4 rfl) ?_
                  obtain ⟨c_19, h⟩ := og h
                  refine r_iast (k := (Int32.toNatClampNeg (a2))) X.1 X.2.2.2.1 hP hS (by omega) sM_reads rfl (vin c_19) dX11_set_161 (fun H locs hP hS => ?_)
                  refine lv_iload hx hb dX11_set_162 (lv_at hl 0 rfl) ?_
                  cases h
                  exact W.iret hx hb hr (r_end X hP hS) hS.2.2 dX11_set_164 (hlocks := hlk)
                · rw [if_pos c_17] at h
                  refine lv_bipush (v := (-2)) hx hb dX11_set_144 (by decide) ?_
                  cases h
                  exact W.iret hx hb hr (r_end X hP hS) hS.2.2 dX11_set_146 (hlocks := hlk)
              · rw [if_neg c_16] at h
                by_cases c_20 : a1 = 3
                · rw [if_pos c_20] at h
                  refine lv_tableIn (tgt := 165) (off := 125) hx hb dX11_set_40 (fun q => c_4 (Or.inl q)) (fun q => c_4 (Or.inr q)) (by rw [c_20]; rfl) (by decide) ?_
                  refine lv_iload_n hx hb dX11_set_165 rfl (lv_at hl 3 rfl) ?_
                  refine lv_iconst (v := 0) hx hb dX11_set_166 (by decide) ?_
                  refine lv_bipush (v := 9) hx hb dX11_set_167 (by decide) ?_
                  refine c_S0 (As := [.int (a3), .int (0), .int (9)]) (rest := []) X hl.1 (c_X11_within l X.2.2.2.1.1 hn rfl) (w_X11_127) qw_930 ⟨Nat.le_of_ble_eq_true rfl, Nat.le_of_ble_eq_true rfl⟩ rfl rfl hP hS (Nat.le_of_ble_eq_true rfl) dX11_set_169 (fun H locs hP hS => ?_)
                  refine lv_if_ne (tgt := 178) hx hb dX11_set_172 (by decide) (fun c_21 => ?_) (fun c_21 => ?_)
                  · rw [if_neg c_21] at h
                    refine lv_aload_n hx hb dX11_set_178 rfl (lv_at hl 0 rfl) ?_
                    refine G_X11_19 X.1 hn hP dX11_set_179 ?_
                    refine lv_iload_n hx hb dX11_set_182 rfl (lv_at hl 2 rfl) ?_
                    obtain ⟨c_22, h⟩ := og h
                    refine r_iald (k := (Int32.toNatClampNeg (a2))) X.1 hP (by omega) sM_temper rfl (vin c_22) dX11_set_183 ?_
                    refine lv_istore (lv' := [(4, .int ((M 4 (Int32.toNatClampNeg (a2))))), (0, .ref (φ 0)), (1, .int (a1)), (2, .int (a2)), (3, .int (a3))]) hx hb dX11_set_184 hl (by decide) rfl (fun ls hl => ?_)
                    refine lv_aload_n hx hb dX11_set_186 rfl (lv_at hl 1 rfl) ?_
                    refine G_X11_19 X.1 hn hP dX11_set_187 ?_
                    refine lv_iload_n hx hb dX11_set_190 rfl (lv_at hl 3 rfl) ?_
                    refine lv_iload_n hx hb dX11_set_191 rfl (lv_at hl 4 rfl) ?_
                    obtain ⟨c_23, h⟩ := og h
                    refine r_iast (k := (Int32.toNatClampNeg (a2))) X.1 X.2.2.2.1 hP hS (by omega) sM_temper rfl (vin c_23) dX11_set_192 (fun H locs hP hS => ?_)
                    refine lv_iload hx hb dX11_set_193 (lv_at hl 0 rfl) ?_
                    cases h
                    exact W.iret hx hb hr (r_end X hP hS) hS.2.2 dX11_set_195 (hlocks := hlk)
                  · rw [if_pos c_21] at h
                    refine lv_bipush (v := (-2)) hx hb dX11_set_175 (by decide) ?_
                    cases h
                    exact W.iret hx hb hr (r_end X hP hS) hS.2.2 dX11_set_177 (hlocks := hlk)
                · rw [if_neg c_20] at h
                  cases h
      · rw [if_pos c_3] at h
        refine lv_bipush (v := (-2)) hx hb dX11_set_36 (by decide) ?_
        cases h
        exact W.iret hx hb hr (r_end X hP hS) hS.2.2 dX11_set_38 (hlocks := hlk)
    · rw [if_pos c_2] at h
      refine lv_aload_n hx hb dX11_set_17 rfl (lv_at hl 0 rfl) ?_
      refine lv_iload_n hx hb dX11_set_18 rfl (lv_at hl 2 rfl) ?_
      refine c_V0 (As := [.int (a2)]) (rest := []) (a := 0) X hl.1 (c_X11_isNote l X.2.2.2.1.1 hn rfl) (w_X11_134) qw_1162 qw_44 ⟨Nat.le_of_ble_eq_true rfl, Nat.le_of_ble_eq_true rfl⟩ rfl rfl hP hS (by omega) sM_Model rfl rfl (Nat.le_of_ble_eq_true rfl) dX11_set_19 (fun H locs hP hS => ?_)
      refine lv_if_ne (tgt := 39) hx hb dX11_set_22 (by decide) (fun c_24 => ?_) (fun c_24 => ?_)
      · rw [if_neg c_24] at h
        refine lv_iload_n hx hb dX11_set_39 rfl (lv_at hl 1 rfl) ?_
        by_cases c_25 : Int32.toInt (a1) < 0 ∨ 3 < Int32.toInt (a1)
        · rw [if_pos c_25] at h
          refine lv_tableOut (tgt := 196) hx hb dX11_set_40 c_25 (by decide) ?_
          refine lv_iload_n hx hb dX11_set_196 rfl (lv_at hl 3 rfl) ?_
          refine lv_iconst (v := 0) hx hb dX11_set_197 (by decide) ?_
          refine lv_bipush (v := 47) hx hb dX11_set_198 (by decide) ?_
          refine c_S0 (As := [.int (a3), .int (0), .int (47)]) (rest := []) X hl.1 (c_X11_within l X.2.2.2.1.1 hn rfl) (w_X11_127) qw_930 ⟨Nat.le_of_ble_eq_true rfl, Nat.le_of_ble_eq_true rfl⟩ rfl rfl hP hS (Nat.le_of_ble_eq_true rfl) dX11_set_200 (fun H locs hP hS => ?_)
          refine lv_if_ne (tgt := 209) hx hb dX11_set_203 (by decide) (fun c_26 => ?_) (fun c_26 => ?_)
          · rw [if_neg c_26] at h
            refine lv_aload_n hx hb dX11_set_209 rfl (lv_at hl 0 rfl) ?_
            refine G_X11_25 X.1 hn hP dX11_set_210 ?_
            refine lv_iload_n hx hb dX11_set_213 rfl (lv_at hl 2 rfl) ?_
            obtain ⟨c_27, h⟩ := og h
            refine r_iald (k := (Int32.toNatClampNeg (a2))) X.1 hP (by omega) sM_hour rfl (vin c_27) dX11_set_214 ?_
            refine lv_istore (lv' := [(4, .int ((M 6 (Int32.toNatClampNeg (a2))))), (0, .ref (φ 0)), (1, .int (a1)), (2, .int (a2)), (3, .int (a3))]) hx hb dX11_set_215 hl (by decide) rfl (fun ls hl => ?_)
            refine lv_aload_n hx hb dX11_set_217 rfl (lv_at hl 1 rfl) ?_
            refine G_X11_25 X.1 hn hP dX11_set_218 ?_
            refine lv_iload_n hx hb dX11_set_221 rfl (lv_at hl 3 rfl) ?_
            refine lv_iload_n hx hb dX11_set_222 rfl (lv_at hl 4 rfl) ?_
            obtain ⟨c_28, h⟩ := og h
            refine r_iast (k := (Int32.toNatClampNeg (a2))) X.1 X.2.2.2.1 hP hS (by omega) sM_hour rfl (vin c_28) dX11_set_223 (fun H locs hP hS => ?_)
            refine lv_iload hx hb dX11_set_224 (lv_at hl 0 rfl) ?_
            cases h
            exact W.iret hx hb hr (r_end X hP hS) hS.2.2 dX11_set_226 (hlocks := hlk)
          · rw [if_pos c_26] at h
            refine lv_bipush (v := (-2)) hx hb dX11_set_206 (by decide) ?_
            cases h
            exact W.iret hx hb hr (r_end X hP hS) hS.2.2 dX11_set_208 (hlocks := hlk)
        · rw [if_neg c_25] at h
          by_cases c_29 : a1 = 0
          · rw [if_pos c_29] at h
            refine lv_tableIn (tgt := 72) (off := 32) hx hb dX11_set_40 (fun q => c_25 (Or.inl q)) (fun q => c_25 (Or.inr q)) (by rw [c_29]; rfl) (by decide) ?_
            refine lv_iload_n hx hb dX11_set_72 rfl (lv_at hl 3 rfl) ?_
            refine lv_iconst (v := 0) hx hb dX11_set_73 (by decide) ?_
            refine lv_bipush (v := 47) hx hb dX11_set_74 (by decide) ?_
            refine c_S0 (As := [.int (a3), .int (0), .int (47)]) (rest := []) X hl.1 (c_X11_within l X.2.2.2.1.1 hn rfl) (w_X11_127) qw_930 ⟨Nat.le_of_ble_eq_true rfl, Nat.le_of_ble_eq_true rfl⟩ rfl rfl hP hS (Nat.le_of_ble_eq_true rfl) dX11_set_76 (fun H locs hP hS => ?_)
            refine lv_if_ne (tgt := 85) hx hb dX11_set_79 (by decide) (fun c_30 => ?_) (fun c_30 => ?_)
            · rw [if_neg c_30] at h
              refine lv_aload_n hx hb dX11_set_85 rfl (lv_at hl 0 rfl) ?_
              refine G_X11_7 X.1 hn hP dX11_set_86 ?_
              refine lv_iload_n hx hb dX11_set_89 rfl (lv_at hl 2 rfl) ?_
              obtain ⟨c_31, h⟩ := og h
              refine r_iald (k := (Int32.toNatClampNeg (a2))) X.1 hP (by omega) sM_first rfl (vin c_31) dX11_set_90 ?_
              refine lv_istore (lv' := [(4, .int ((M 1 (Int32.toNatClampNeg (a2))))), (0, .ref (φ 0)), (1, .int (a1)), (2, .int (a2)), (3, .int (a3))]) hx hb dX11_set_91 hl (by decide) rfl (fun ls hl => ?_)
              refine lv_aload_n hx hb dX11_set_93 rfl (lv_at hl 1 rfl) ?_
              refine G_X11_7 X.1 hn hP dX11_set_94 ?_
              refine lv_iload_n hx hb dX11_set_97 rfl (lv_at hl 3 rfl) ?_
              refine lv_iload_n hx hb dX11_set_98 rfl (lv_at hl 4 rfl) ?_
              obtain ⟨c_32, h⟩ := og h
              refine r_iast (k := (Int32.toNatClampNeg (a2))) X.1 X.2.2.2.1 hP hS (by omega) sM_first rfl (vin c_32) dX11_set_99 (fun H locs hP hS => ?_)
              refine lv_iload hx hb dX11_set_100 (lv_at hl 0 rfl) ?_
              cases h
              exact W.iret hx hb hr (r_end X hP hS) hS.2.2 dX11_set_102 (hlocks := hlk)
            · rw [if_pos c_30] at h
              refine lv_bipush (v := (-2)) hx hb dX11_set_82 (by decide) ?_
              cases h
              exact W.iret hx hb hr (r_end X hP hS) hS.2.2 dX11_set_84 (hlocks := hlk)
          · rw [if_neg c_29] at h
            by_cases c_33 : a1 = 1
            · rw [if_pos c_33] at h
              refine lv_tableIn (tgt := 103) (off := 63) hx hb dX11_set_40 (fun q => c_25 (Or.inl q)) (fun q => c_25 (Or.inr q)) (by rw [c_33]; rfl) (by decide) ?_
              refine lv_iload_n hx hb dX11_set_103 rfl (lv_at hl 3 rfl) ?_
              refine lv_iconst (v := 1) hx hb dX11_set_104 (by decide) ?_
              refine lv_bipush (v := 24) hx hb dX11_set_105 (by decide) ?_
              refine c_S0 (As := [.int (a3), .int (1), .int (24)]) (rest := []) X hl.1 (c_X11_within l X.2.2.2.1.1 hn rfl) (w_X11_127) qw_930 ⟨Nat.le_of_ble_eq_true rfl, Nat.le_of_ble_eq_true rfl⟩ rfl rfl hP hS (Nat.le_of_ble_eq_true rfl) dX11_set_107 (fun H locs hP hS => ?_)
              refine lv_if_ne (tgt := 116) hx hb dX11_set_110 (by decide) (fun c_34 => ?_) (fun c_34 => ?_)
              · rw [if_neg c_34] at h
                refine lv_aload_n hx hb dX11_set_116 rfl (lv_at hl 0 rfl) ?_
                refine G_X11_13 X.1 hn hP dX11_set_117 ?_
                refine lv_iload_n hx hb dX11_set_120 rfl (lv_at hl 2 rfl) ?_
                obtain ⟨c_35, h⟩ := og h
                refine r_iald (k := (Int32.toNatClampNeg (a2))) X.1 hP (by omega) sM_every rfl (vin c_35) dX11_set_121 ?_
                refine lv_istore (lv' := [(4, .int ((M 2 (Int32.toNatClampNeg (a2))))), (0, .ref (φ 0)), (1, .int (a1)), (2, .int (a2)), (3, .int (a3))]) hx hb dX11_set_122 hl (by decide) rfl (fun ls hl => ?_)
                refine lv_aload_n hx hb dX11_set_124 rfl (lv_at hl 1 rfl) ?_
                refine G_X11_13 X.1 hn hP dX11_set_125 ?_
                refine lv_iload_n hx hb dX11_set_128 rfl (lv_at hl 3 rfl) ?_
                refine lv_iload_n hx hb dX11_set_129 rfl (lv_at hl 4 rfl) ?_
                obtain ⟨c_36, h⟩ := og h
                refine r_iast (k := (Int32.toNatClampNeg (a2))) X.1 X.2.2.2.1 hP hS (by omega) sM_every rfl (vin c_36) dX11_set_130 (fun H locs hP hS => ?_)
                refine lv_iload hx hb dX11_set_131 (lv_at hl 0 rfl) ?_
                cases h
                exact W.iret hx hb hr (r_end X hP hS) hS.2.2 dX11_set_133 (hlocks := hlk)
              · rw [if_pos c_34] at h
                refine lv_bipush (v := (-2)) hx hb dX11_set_113 (by decide) ?_
                cases h
                exact W.iret hx hb hr (r_end X hP hS) hS.2.2 dX11_set_115 (hlocks := hlk)
            · rw [if_neg c_33] at h
              by_cases c_37 : a1 = 2
              · rw [if_pos c_37] at h
                refine lv_tableIn (tgt := 134) (off := 94) hx hb dX11_set_40 (fun q => c_25 (Or.inl q)) (fun q => c_25 (Or.inr q)) (by rw [c_37]; rfl) (by decide) ?_
                refine lv_iload_n hx hb dX11_set_134 rfl (lv_at hl 3 rfl) ?_
                refine lv_iconst (v := 0) hx hb dX11_set_135 (by decide) ?_
                refine lv_bipush (v := 12) hx hb dX11_set_136 (by decide) ?_
                refine c_S0 (As := [.int (a3), .int (0), .int (12)]) (rest := []) X hl.1 (c_X11_within l X.2.2.2.1.1 hn rfl) (w_X11_127) qw_930 ⟨Nat.le_of_ble_eq_true rfl, Nat.le_of_ble_eq_true rfl⟩ rfl rfl hP hS (Nat.le_of_ble_eq_true rfl) dX11_set_138 (fun H locs hP hS => ?_)
                refine lv_if_ne (tgt := 147) hx hb dX11_set_141 (by decide) (fun c_38 => ?_) (fun c_38 => ?_)
                · rw [if_neg c_38] at h
                  refine lv_aload_n hx hb dX11_set_147 rfl (lv_at hl 0 rfl) ?_
                  refine G_X11_16 X.1 hn hP dX11_set_148 ?_
                  refine lv_iload_n hx hb dX11_set_151 rfl (lv_at hl 2 rfl) ?_
                  obtain ⟨c_39, h⟩ := og h
                  refine r_iald (k := (Int32.toNatClampNeg (a2))) X.1 hP (by omega) sM_reads rfl (vin c_39) dX11_set_152 ?_
                  refine lv_istore (lv' := [(4, .int ((M 3 (Int32.toNatClampNeg (a2))))), (0, .ref (φ 0)), (1, .int (a1)), (2, .int (a2)), (3, .int (a3))]) hx hb dX11_set_153 hl (by decide) rfl (fun ls hl => ?_)
                  refine lv_aload_n hx hb dX11_set_155 rfl (lv_at hl 1 rfl) ?_
                  refine G_X11_16 X.1 hn hP dX11_set_156 ?_
                  refine lv_iload_n hx hb dX11_set_159 rfl (lv_at hl 3 rfl) ?_
                  refine lv_iload_n hx hb dX11_set_160 rfl (lv_at hl 4 rfl) ?_
                  obtain ⟨c_40, h⟩ := og h
                  refine r_iast (k := (Int32.toNatClampNeg (a2))) X.1 X.2.2.2.1 hP hS (by omega) sM_reads rfl (vin c_40) dX11_set_161 (fun H locs hP hS => ?_)
                  refine lv_iload hx hb dX11_set_162 (lv_at hl 0 rfl) ?_
                  cases h
                  exact W.iret hx hb hr (r_end X hP hS) hS.2.2 dX11_set_164 (hlocks := hlk)
                · rw [if_pos c_38] at h
                  refine lv_bipush (v := (-2)) hx hb dX11_set_144 (by decide) ?_
                  cases h
                  exact W.iret hx hb hr (r_end X hP hS) hS.2.2 dX11_set_146 (hlocks := hlk)
              · rw [if_neg c_37] at h
                by_cases c_41 : a1 = 3
                · rw [if_pos c_41] at h
                  refine lv_tableIn (tgt := 165) (off := 125) hx hb dX11_set_40 (fun q => c_25 (Or.inl q)) (fun q => c_25 (Or.inr q)) (by rw [c_41]; rfl) (by decide) ?_
                  refine lv_iload_n hx hb dX11_set_165 rfl (lv_at hl 3 rfl) ?_
                  refine lv_iconst (v := 0) hx hb dX11_set_166 (by decide) ?_
                  refine lv_bipush (v := 9) hx hb dX11_set_167 (by decide) ?_
                  refine c_S0 (As := [.int (a3), .int (0), .int (9)]) (rest := []) X hl.1 (c_X11_within l X.2.2.2.1.1 hn rfl) (w_X11_127) qw_930 ⟨Nat.le_of_ble_eq_true rfl, Nat.le_of_ble_eq_true rfl⟩ rfl rfl hP hS (Nat.le_of_ble_eq_true rfl) dX11_set_169 (fun H locs hP hS => ?_)
                  refine lv_if_ne (tgt := 178) hx hb dX11_set_172 (by decide) (fun c_42 => ?_) (fun c_42 => ?_)
                  · rw [if_neg c_42] at h
                    refine lv_aload_n hx hb dX11_set_178 rfl (lv_at hl 0 rfl) ?_
                    refine G_X11_19 X.1 hn hP dX11_set_179 ?_
                    refine lv_iload_n hx hb dX11_set_182 rfl (lv_at hl 2 rfl) ?_
                    obtain ⟨c_43, h⟩ := og h
                    refine r_iald (k := (Int32.toNatClampNeg (a2))) X.1 hP (by omega) sM_temper rfl (vin c_43) dX11_set_183 ?_
                    refine lv_istore (lv' := [(4, .int ((M 4 (Int32.toNatClampNeg (a2))))), (0, .ref (φ 0)), (1, .int (a1)), (2, .int (a2)), (3, .int (a3))]) hx hb dX11_set_184 hl (by decide) rfl (fun ls hl => ?_)
                    refine lv_aload_n hx hb dX11_set_186 rfl (lv_at hl 1 rfl) ?_
                    refine G_X11_19 X.1 hn hP dX11_set_187 ?_
                    refine lv_iload_n hx hb dX11_set_190 rfl (lv_at hl 3 rfl) ?_
                    refine lv_iload_n hx hb dX11_set_191 rfl (lv_at hl 4 rfl) ?_
                    obtain ⟨c_44, h⟩ := og h
                    refine r_iast (k := (Int32.toNatClampNeg (a2))) X.1 X.2.2.2.1 hP hS (by omega) sM_temper rfl (vin c_44) dX11_set_192 (fun H locs hP hS => ?_)
                    refine lv_iload hx hb dX11_set_193 (lv_at hl 0 rfl) ?_
                    cases h
                    exact W.iret hx hb hr (r_end X hP hS) hS.2.2 dX11_set_195 (hlocks := hlk)
                  · rw [if_pos c_42] at h
                    refine lv_bipush (v := (-2)) hx hb dX11_set_175 (by decide) ?_
                    cases h
                    exact W.iret hx hb hr (r_end X hP hS) hS.2.2 dX11_set_177 (hlocks := hlk)
                · rw [if_neg c_41] at h
                  cases h
      · rw [if_pos c_24] at h
        refine lv_goto (tgt := 36) hx hb dX11_set_25 (by decide) ?_
        refine lv_bipush (v := (-2)) hx hb dX11_set_36 (by decide) ?_
        cases h
        exact W.iret hx hb hr (r_end X hP hS) hS.2.2 dX11_set_38 (hlocks := hlk)
  · rw [if_pos c_1] at h
    refine lv_bipush (v := (-2)) hx hb dX11_set_9 (by decide) ?_
    cases h
    exact W.iret hx hb hr (r_end X hP hS) hS.2.2 dX11_set_11 (hlocks := hlk)

def f_X11_comes (M : Mem) (a1 : Int32) (a2 : Int32) : Option (Int32) :=
  (if ibd (a1) 5 then (if a2 < (M 1 (Int32.toNatClampNeg (a1))) then some (0) else (if ibd (a1) 5 then (if ibd (a1) 5 then (if ¬ (M 2 (Int32.toNatClampNeg (a1))) = 0 then (if ((a2 - (M 1 (Int32.toNatClampNeg (a1)))) - (a2 - (M 1 (Int32.toNatClampNeg (a1)))) / (M 2 (Int32.toNatClampNeg (a1))) * (M 2 (Int32.toNatClampNeg (a1)))) = 0 then some (1) else some (0)) else none) else none) else none)) else none)
set_option maxRecDepth 100000 in
set_option maxHeartbeats 4000000 in
theorem c_X11_comes (l : Launch) {G : GT} {φ : Nat → Nat} {n : Nat} {M : Mem} {L : Nat → Int64} {a1 : Int32} {a2 : Int32} (hI : wI φ n) (hn : 32 ≤ n) {r : Int32} (h : f_X11_comes M a1 a2 = some r) : CT l yX11_comes cX11_comes 3 (some .boolean) ({ frames := 0, cells := 0, slots := 0, locals := 0 } : Room) [.ref (φ 0), .int (a1), .int (a2)] (WB (cM G φ L) φ M n G) (some (.int r)) (WB (cM G φ L) φ (M) n G) φ n := by
  unfold f_X11_comes at h
  refine r_start (plainFor_of_name (by decide)) (Nat.le_of_ble_eq_true rfl) hI ?_
  intro p e s m args below meth c ls X hr hlk hP hl
  have hS : va_S (wA φ n s.heap.size) s.heap s.heap [] := va_S.rf
  have hx := X.1.1
  have hb := X.1.2.1
  have hl : lv_has ls 3 [(0, .ref (φ 0)), (1, .int (a1)), (2, .int (a2))] := hl
  refine lv_iload_n hx hb dX11_comes_0 rfl (lv_at hl 2 rfl) ?_
  refine lv_aload_n hx hb dX11_comes_1 rfl (lv_at hl 0 rfl) ?_
  refine G_X11_7 X.1 hn hP dX11_comes_2 ?_
  refine lv_iload_n hx hb dX11_comes_5 rfl (lv_at hl 1 rfl) ?_
  obtain ⟨c_1, h⟩ := og h
  refine r_iald (k := (Int32.toNatClampNeg (a1))) X.1 hP (by omega) sM_first rfl (vin c_1) dX11_comes_6 ?_
  refine lv_icmp_lt (tgt := 32) hx hb dX11_comes_7 (by decide) (fun c_2 => ?_) (fun c_2 => ?_)
  · rw [if_pos c_2] at h
    refine lv_iconst (v := 0) hx hb dX11_comes_32 (by decide) ?_
    cases h
    exact W.zret (v := 0) (ty := .boolean) hx hb hr rfl (r_end X hP hS) hS.2.2 dX11_comes_33 (hlocks := hlk)
  · rw [if_neg c_2] at h
    refine lv_iload_n hx hb dX11_comes_10 rfl (lv_at hl 2 rfl) ?_
    refine lv_aload_n hx hb dX11_comes_11 rfl (lv_at hl 0 rfl) ?_
    refine G_X11_7 X.1 hn hP dX11_comes_12 ?_
    refine lv_iload_n hx hb dX11_comes_15 rfl (lv_at hl 1 rfl) ?_
    obtain ⟨c_3, h⟩ := og h
    refine r_iald (k := (Int32.toNatClampNeg (a1))) X.1 hP (by omega) sM_first rfl (vin c_3) dX11_comes_16 ?_
    refine lv_isub hx hb dX11_comes_17 ?_
    refine lv_aload_n hx hb dX11_comes_18 rfl (lv_at hl 0 rfl) ?_
    refine G_X11_13 X.1 hn hP dX11_comes_19 ?_
    refine lv_iload_n hx hb dX11_comes_22 rfl (lv_at hl 1 rfl) ?_
    obtain ⟨c_4, h⟩ := og h
    refine r_iald (k := (Int32.toNatClampNeg (a1))) X.1 hP (by omega) sM_every rfl (vin c_4) dX11_comes_23 ?_
    obtain ⟨c_5, h⟩ := og h
    refine lv_irem hx hb dX11_comes_24 c_5 ?_
    refine lv_if_ne (tgt := 32) hx hb dX11_comes_25 (by decide) (fun c_6 => ?_) (fun c_6 => ?_)
    · rw [if_neg c_6] at h
      refine lv_iconst (v := 0) hx hb dX11_comes_32 (by decide) ?_
      cases h
      exact W.zret (v := 0) (ty := .boolean) hx hb hr rfl (r_end X hP hS) hS.2.2 dX11_comes_33 (hlocks := hlk)
    · rw [if_pos c_6] at h
      refine lv_iconst (v := 1) hx hb dX11_comes_28 (by decide) ?_
      refine lv_goto (tgt := 33) hx hb dX11_comes_29 (by decide) ?_
      cases h
      exact W.zret (v := 1) (ty := .boolean) hx hb hr rfl (r_end X hP hS) hS.2.2 dX11_comes_33 (hlocks := hlk)

def f_J7_fill_53178_5 (ai alen : Nat) (x1_1 : Int32) (x3_3 : Int32) : Nat → Int32 → Mem → Option (Mem)
  | 0, _, _ => none
  | fu_5 + 1, x2_2, M_4 => (if x3_3 ≤ x2_2 then some (M_4) else (if ibd (x2_2) alen then (f_J7_fill_53178_5 ai alen x1_1 x3_3 fu_5 ((x2_2 + 1)) (upd2 M_4 ai (Int32.toNatClampNeg (x2_2)) (x1_1))) else none))
def f_J7_fill_53178 (M : Mem) (ai : Nat) (alen : Nat) (a2 : Int32) : Option (Mem) :=
  (f_J7_fill_53178_5 ai alen (a2) ((Int32.ofNat alen)) FU (0) M)
set_option maxRecDepth 100000 in
set_option maxHeartbeats 4000000 in
theorem c_J7_fill_53178 (l : Launch) {G : GT} {φ : Nat → Nat} {n : Nat} {M : Mem} {sh : ShT} {ai : Nat} {alen : Nat} {a2 : Int32} (hI : wI φ n) (hai : ai < n) (hsa : ∀ r, sh ai r = .inl (G.2.1 0, alen, .inl r)) {r : Mem} (h : f_J7_fill_53178 M ai alen a2 = some r) : CT l yJ7_fill_53178 cJ7_fill_53178 4 none ({ frames := 0, cells := 0, slots := 0, locals := 0 } : Room) [.ref (φ ai), .int (a2)] (WB (sh) φ M n G) (none) (WB (sh) φ (r) n G) φ n := by
  unfold f_J7_fill_53178 at h
  refine r_start (by decide +kernel) (Nat.le_of_ble_eq_true rfl) hI ?_
  intro p e s m args below meth c ls X hr hlk hP hl
  have hS : va_S (wA φ n s.heap.size) s.heap s.heap [] := va_S.rf
  have hx := X.1.1
  have hb := X.1.2.1
  have hl : lv_has ls 4 [(0, .ref (φ ai)), (1, .int (a2))] := hl
  have L5 : ∀ (fu_5 : Nat) (M_4 : Mem) (x1_1 : Int32) (x3_3 : Int32) (x2_2 : Int32)  (H : Heap) (locs : List Loc) (ls : Array Slot), va_P G.1 vwCl (wW (sh) φ M_4 n) H → va_S (wA φ n s.heap.size) s.heap H locs → lv_has ls 4 [(0, .ref (φ ai)), (1, .int (x1_1)), (2, .int (x2_2)), (3, .int (x3_3))] → f_J7_fill_53178_5 ai alen x1_1 x3_3 fu_5 x2_2 M_4 = some r → W p l e ({ frames := 0, cells := 0, slots := 0, locals := 0 } : Room) s m args below meth c H locs 0 0 (MQ below (QQ (none) (WB (sh) φ (r) n G) (wA φ n s.heap.size)) args s 0 0 (wA φ n s.heap.size)) (F0 m 5 ls []) := by
    intro fu_5
    induction fu_5 with
    | zero =>
      intro M_4 x1_1 x3_3 x2_2 H locs ls _ _ _  h
      have h : (none : Option (Mem)) = some r := h
      cases h
    | succ fu_5 ih =>
      intro M_4 x1_1 x3_3 x2_2 H locs ls hP hS hl  h
      rw [f_J7_fill_53178_5] at h
      refine lv_iload_n hx hb dJ7_fill_53178_5 rfl (lv_at hl 2 rfl) ?_
      refine lv_iload_n hx hb dJ7_fill_53178_6 rfl (lv_at hl 3 rfl) ?_
      refine lv_icmp_ge (tgt := 20) hx hb dJ7_fill_53178_7 (by decide) (fun c_6 => ?_) (fun c_6 => ?_)
      · rw [if_pos c_6] at h
        cases h
        exact W.vret hx hb hr (r_end X hP hS) hS.2.2 dJ7_fill_53178_20 (hlocks := hlk)
      · rw [if_neg c_6] at h
        refine lv_aload_n hx hb dJ7_fill_53178_10 rfl (lv_at hl 0 rfl) ?_
        refine lv_iload_n hx hb dJ7_fill_53178_11 rfl (lv_at hl 2 rfl) ?_
        refine lv_iload_n hx hb dJ7_fill_53178_12 rfl (lv_at hl 1 rfl) ?_
        obtain ⟨c_7, h⟩ := og h
        refine r_iast (k := (Int32.toNatClampNeg (x2_2))) X.1 X.2.2.2.1 hP hS hai hsa rfl (vin c_7) dJ7_fill_53178_13 (fun H locs hP hS => ?_)
        refine lv_iinc (v := (x2_2 + 1)) (lv' := [(2, .int ((x2_2 + 1))), (0, .ref (φ ai)), (1, .int (x1_1)), (3, .int (x3_3))]) hx hb dJ7_fill_53178_14 hl (k := 2) rfl (by rw [show Int32.ofInt (1) = 1 from by decide]) (by decide) rfl (fun ls hl => ?_)
        refine lv_goto (tgt := 5) hx hb dJ7_fill_53178_17 (by decide) ?_
        exact ih _ _ _ _ _ _ _ hP hS (lv_sub hl [1, 2, 0, 3] rfl)  h
  refine lv_iconst (v := 0) hx hb dJ7_fill_53178_0 (by decide) ?_
  refine lv_istore_n (lv' := [(2, .int (0)), (0, .ref (φ ai)), (1, .int (a2))]) hx hb dJ7_fill_53178_1 rfl hl (by decide) rfl (fun ls hl => ?_)
  refine lv_aload_n hx hb dJ7_fill_53178_2 rfl (lv_at hl 1 rfl) ?_
  refine va_alen hx hb X.1.2.2.2.2 hP ai 0 (by rw [wW_get hai, hsa]) rfl rfl dJ7_fill_53178_3 ?_
  refine lv_istore_n (lv' := [(3, .int ((Int32.ofNat alen))), (2, .int (0)), (0, .ref (φ ai)), (1, .int (a2))]) hx hb dJ7_fill_53178_4 rfl hl (by decide) rfl (fun ls hl => ?_)
  refine L5 _ _ _ _ _ _ _ _ hP hS (lv_sub hl [2, 3, 1, 0] rfl)  h

