def f_J3_checkIndex_8e157 (a1 : Int32) (a2 : Int32) : Option (Int32) :=
  (if a1 < 0 then none else (if a1 < a2 then some (a1) else none))
set_option maxRecDepth 100000 in
set_option maxHeartbeats 4000000 in
theorem c_J3_checkIndex_8e157 (l : Launch) {G : GT} {φ : Nat → Nat} {n : Nat} {M : Mem} {sh : ShT} {a1 : Int32} {a2 : Int32} {tz : Nat} (hI : wI φ n) {r : Int32} (h : f_J3_checkIndex_8e157 a1 a2 = some r) : CT l yJ3_checkIndex_8e157 cJ3_checkIndex_8e157 3 (some .int) ({ frames := 0, cells := 0, slots := 0, locals := 0 } : Room) [.int (a1), .int (a2), .ref tz] (WB (sh) φ M n G) (some (.int r)) (WB (sh) φ (M) n G) φ n := by
  unfold f_J3_checkIndex_8e157 at h
  refine r_start (by decide +kernel) (Nat.le_of_ble_eq_true rfl) hI ?_
  intro p e s m args below meth c ls X hr hlk hP hl
  have hS : va_S (wA φ n s.heap.size) s.heap s.heap [] := va_S.rf
  have hx := X.1.1
  have hb := X.1.2.1
  have hl : lv_has ls 3 [(0, .int (a1)), (1, .int (a2)), (2, .ref tz)] := hl
  refine lv_iload_n hx hb dJ3_checkIndex_8e157_0 rfl (lv_at hl 0 rfl) ?_
  refine lv_if_lt (tgt := 9) hx hb dJ3_checkIndex_8e157_1 (by decide) (fun c_1 => ?_) (fun c_1 => ?_)
  · rw [if_pos c_1] at h
    cases h
  · rw [if_neg c_1] at h
    refine lv_iload_n hx hb dJ3_checkIndex_8e157_4 rfl (lv_at hl 0 rfl) ?_
    refine lv_iload_n hx hb dJ3_checkIndex_8e157_5 rfl (lv_at hl 1 rfl) ?_
    refine lv_icmp_lt (tgt := 16) hx hb dJ3_checkIndex_8e157_6 (by decide) (fun c_2 => ?_) (fun c_2 => ?_)
    · rw [if_pos c_2] at h
      refine lv_iload_n hx hb dJ3_checkIndex_8e157_16 rfl (lv_at hl 0 rfl) ?_
      obtain rfl := Option.some.inj h
      exact W.iret hx hb hr (r_end X hP hS) hS.2.2 dJ3_checkIndex_8e157_17 (hlocks := hlk)
    · rw [if_neg c_2] at h
      cases h

set_option maxRecDepth 100000 in
set_option maxHeartbeats 4000000 in
theorem c_J3_checkIndex_8e157_n (l : Launch) {G : GT} {φ : Nat → Nat} {n : Nat} {M : Mem} {sh : ShT} {a1 : Int32} {a2 : Int32} (hI : wI φ n) {r : Int32} (h : f_J3_checkIndex_8e157 a1 a2 = some r) : CT l yJ3_checkIndex_8e157 cJ3_checkIndex_8e157 3 (some .int) ({ frames := 0, cells := 0, slots := 0, locals := 0 } : Room) [.int (a1), .int (a2), .null] (WB (sh) φ M n G) (some (.int r)) (WB (sh) φ (M) n G) φ n := by
  unfold f_J3_checkIndex_8e157 at h
  refine r_start (by decide +kernel) (Nat.le_of_ble_eq_true rfl) hI ?_
  intro p e s m args below meth c ls X hr hlk hP hl
  have hS : va_S (wA φ n s.heap.size) s.heap s.heap [] := va_S.rf
  have hx := X.1.1
  have hb := X.1.2.1
  have hl : lv_has ls 3 [(0, .int (a1)), (1, .int (a2)), (2, .null)] := hl
  refine lv_iload_n hx hb dJ3_checkIndex_8e157_0 rfl (lv_at hl 0 rfl) ?_
  refine lv_if_lt (tgt := 9) hx hb dJ3_checkIndex_8e157_1 (by decide) (fun c_1 => ?_) (fun c_1 => ?_)
  · rw [if_pos c_1] at h
    cases h
  · rw [if_neg c_1] at h
    refine lv_iload_n hx hb dJ3_checkIndex_8e157_4 rfl (lv_at hl 0 rfl) ?_
    refine lv_iload_n hx hb dJ3_checkIndex_8e157_5 rfl (lv_at hl 1 rfl) ?_
    refine lv_icmp_lt (tgt := 16) hx hb dJ3_checkIndex_8e157_6 (by decide) (fun c_2 => ?_) (fun c_2 => ?_)
    · rw [if_pos c_2] at h
      refine lv_iload_n hx hb dJ3_checkIndex_8e157_16 rfl (lv_at hl 0 rfl) ?_
      obtain rfl := Option.some.inj h
      exact W.iret hx hb hr (r_end X hP hS) hS.2.2 dJ3_checkIndex_8e157_17 (hlocks := hlk)
    · rw [if_neg c_2] at h
      cases h

def f_X4_token (M : Mem) : Option (Int32) :=
  (if (M 107 4) = (-1) then (if ibd ((M 107 2)) 161 then some ((M 59 (Int32.toNatClampNeg ((M 107 2))))) else none) else some (20260))
set_option maxRecDepth 100000 in
set_option maxHeartbeats 4000000 in
theorem c_X4_token (l : Launch) {G : GT} {φ : Nat → Nat} {n : Nat} {M : Mem} (hI : wI φ n) (hn8 : 108 ≤ n) {r : Int32} (h : f_X4_token M = some r) : CT l yX4_token cX4_token 1 (some .int) ({ frames := 0, cells := 0, slots := 0, locals := 0 } : Room) [.ref (φ 107)] (WB (cX G φ) φ M n G) (some (.int r)) (WB (cX G φ) φ (M) n G) φ n := by
  have hn : 107 ≤ n := Nat.le_of_succ_le hn8
  unfold f_X4_token at h
  refine r_start (plainFor_of_name (by decide)) (Nat.le_of_ble_eq_true rfl) hI ?_
  intro p e s m args below meth c ls X hr hlk hP hl
  have hS : va_S (wA φ n s.heap.size) s.heap s.heap [] := va_S.rf
  have hx := X.1.1
  have hb := X.1.2.1
  have hl : lv_has ls 1 [(0, .ref (φ 107))] := hl
  refine lv_aload_n hx hb dX4_token_0 rfl (lv_at hl 0 rfl) ?_
  refine G_X4_18 X.1 hn8 hP dX4_token_1 ?_
  refine lv_iconst (v := (-1)) hx hb dX4_token_4 (by decide) ?_
  refine lv_icmp_ne (tgt := 23) hx hb dX4_token_5 (by decide) (fun c_1 => ?_) (fun c_1 => ?_)
  · rw [if_neg c_1] at h
    refine lv_sipush (v := 20260) hx hb dX4_token_23 (by decide) ?_
    obtain rfl := Option.some.inj h
    exact W.iret hx hb hr (r_end X hP hS) hS.2.2 dX4_token_26 (hlocks := hlk)
  · rw [if_pos c_1] at h
    refine lv_aload_n hx hb dX4_token_8 rfl (lv_at hl 0 rfl) ?_
    refine G_X4_21 X.1 hn8 hP dX4_token_9 ?_
    refine G_X4_52 X.1 hn hP X.2.2.1.2.2.2.1 dX4_token_12 ?_
    refine lv_aload_n hx hb dX4_token_15 rfl (lv_at hl 0 rfl) ?_
    refine G_X4_9 X.1 hn8 hP dX4_token_16 ?_
    obtain ⟨c_2, h⟩ := og h
    refine r_iald (k := (Int32.toNatClampNeg ((M 107 2)))) X.1 hP (by omega) sX_tokens rfl (vin c_2) dX4_token_19 ?_
    refine lv_goto (tgt := 26) hx hb dX4_token_20 (by decide) ?_
    obtain rfl := Option.some.inj h
    exact W.iret hx hb hr (r_end X hP hS) hS.2.2 dX4_token_26 (hlocks := hlk)

def f_X5_add (M : Mem) (i0 : Nat) (a1 : Int32) : Option (Mem) :=
  (if 320 ≤ (M (40 + i0) 2) then some (M) else (if ibd ((M (40 + i0) 2)) 320 then some ((upd2 (upd2 M (46 + i0) (Int32.toNatClampNeg ((M (40 + i0) 2))) (a1)) (40 + i0) 2 ((((upd2 M (46 + i0) (Int32.toNatClampNeg ((M (40 + i0) 2))) (a1)) (40 + i0) 2) + 1)))) else none))
set_option maxRecDepth 100000 in
set_option maxHeartbeats 4000000 in
theorem c_X5_add (l : Launch) {G : GT} {φ : Nat → Nat} {n : Nat} {M : Mem} {i0 : Nat} {a1 : Int32} (hI : wI φ n) (hn : 107 ≤ n) (hi0 : i0 < 6) {r : Mem} (h : f_X5_add M i0 a1 = some r) : CT l yX5_add cX5_add 2 none ({ frames := 0, cells := 0, slots := 0, locals := 0 } : Room) [.ref (φ (40 + i0)), .int (a1)] (WB (cX G φ) φ M n G) (none) (WB (cX G φ) φ (r) n G) φ n := by
  unfold f_X5_add at h
  refine r_start (plainFor_of_name (by decide)) (Nat.le_of_ble_eq_true rfl) hI ?_
  intro p e s m args below meth c ls X hr hlk hP hl
  have hS : va_S (wA φ n s.heap.size) s.heap s.heap [] := va_S.rf
  have hx := X.1.1
  have hb := X.1.2.1
  have hl : lv_has ls 2 [(0, .ref (φ (40 + i0))), (1, .int (a1))] := hl
  refine lv_aload_n hx hb dX5_add_0 rfl (lv_at hl 0 rfl) ?_
  refine G_X5_18 X.1 hn hP hi0 dX5_add_1 ?_
  refine lv_sipush (v := 320) hx hb dX5_add_4 (by decide) ?_
  refine lv_icmp_ge (tgt := 30) hx hb dX5_add_7 (by decide) (fun c_1 => ?_) (fun c_1 => ?_)
  · rw [if_pos c_1] at h
    obtain rfl := Option.some.inj h
    exact W.vret hx hb hr (r_end X hP hS) hS.2.2 dX5_add_30 (hlocks := hlk)
  · rw [if_neg c_1] at h
    refine lv_aload_n hx hb dX5_add_10 rfl (lv_at hl 0 rfl) ?_
    refine G_X5_11 X.1 hn hP hi0 dX5_add_11 ?_
    refine lv_aload_n hx hb dX5_add_14 rfl (lv_at hl 0 rfl) ?_
    refine G_X5_18 X.1 hn hP hi0 dX5_add_15 ?_
    refine lv_iload_n hx hb dX5_add_18 rfl (lv_at hl 1 rfl) ?_
    obtain ⟨c_2, h⟩ := og h
    refine r_iast (k := (Int32.toNatClampNeg ((M (40 + i0) 2)))) X.1 X.2.2.2.1 hP hS (by omega) (sX_steps hi0) rfl (vin c_2) dX5_add_19 (fun H locs hP hS => ?_)
    refine lv_aload_n hx hb dX5_add_20 rfl (lv_at hl 0 rfl) ?_
    refine lv_dup hx hb dX5_add_21 rfl ?_
    refine G_X5_18 X.1 hn hP hi0 dX5_add_22 ?_
    refine lv_iconst (v := 1) hx hb dX5_add_25 (by decide) ?_
    refine lv_iadd hx hb dX5_add_26 ?_
    refine P_X5_18 X.1 hn X.2.2.2.1 hP hS hi0 dX5_add_27 (fun H locs hP hS => ?_)
    obtain rfl := Option.some.inj h
    exact W.vret hx hb hr (r_end X hP hS) hS.2.2 dX5_add_30 (hlocks := hlk)

def f_X4_advance (M : Mem) : Mem :=
  (if 160 ≤ (M 107 2) then M else (upd2 M 107 2 (((M 107 2) + 1))))
set_option maxRecDepth 100000 in
set_option maxHeartbeats 4000000 in
theorem c_X4_advance (l : Launch) {G : GT} {φ : Nat → Nat} {n : Nat} {M : Mem} (hI : wI φ n) (hn8 : 108 ≤ n) {r : Mem} (h : f_X4_advance M = r) : CT l yX4_advance cX4_advance 1 none ({ frames := 0, cells := 0, slots := 0, locals := 0 } : Room) [.ref (φ 107)] (WB (cX G φ) φ M n G) (none) (WB (cX G φ) φ (r) n G) φ n := by
  have hn : 107 ≤ n := Nat.le_of_succ_le hn8
  unfold f_X4_advance at h
  refine r_start (plainFor_of_name (by decide)) (Nat.le_of_ble_eq_true rfl) hI ?_
  intro p e s m args below meth c ls X hr hlk hP hl
  have hS : va_S (wA φ n s.heap.size) s.heap s.heap [] := va_S.rf
  have hx := X.1.1
  have hb := X.1.2.1
  have hl : lv_has ls 1 [(0, .ref (φ 107))] := hl
  refine lv_aload_n hx hb dX4_advance_0 rfl (lv_at hl 0 rfl) ?_
  refine G_X4_9 X.1 hn8 hP dX4_advance_1 ?_
  refine lv_sipush (v := 160) hx hb dX4_advance_4 (by decide) ?_
  refine lv_icmp_ge (tgt := 20) hx hb dX4_advance_7 (by decide) (fun c_1 => ?_) (fun c_1 => ?_)
  · rw [if_pos c_1] at h
    subst h
    exact W.vret hx hb hr (r_end X hP hS) hS.2.2 dX4_advance_20 (hlocks := hlk)
  · rw [if_neg c_1] at h
    refine lv_aload_n hx hb dX4_advance_10 rfl (lv_at hl 0 rfl) ?_
    refine lv_dup hx hb dX4_advance_11 rfl ?_
    refine G_X4_9 X.1 hn8 hP dX4_advance_12 ?_
    refine lv_iconst (v := 1) hx hb dX4_advance_15 (by decide) ?_
    refine lv_iadd hx hb dX4_advance_16 ?_
    refine P_X4_9 X.1 hn8 X.2.2.2.1 hP hS dX4_advance_17 (fun H locs hP hS => ?_)
    subst h
    exact W.vret hx hb hr (r_end X hP hS) hS.2.2 dX4_advance_20 (hlocks := hlk)

def f_X4_fail (M : Mem) : Option (Mem) :=
  (if (M 107 4) = (-1) then (if ibd ((M 107 2)) 161 then some ((upd2 M 107 4 ((M 74 (Int32.toNatClampNeg ((M 107 2))))))) else none) else some (M))
set_option maxRecDepth 100000 in
set_option maxHeartbeats 4000000 in
theorem c_X4_fail (l : Launch) {G : GT} {φ : Nat → Nat} {n : Nat} {M : Mem} (hI : wI φ n) (hn8 : 108 ≤ n) {r : Mem} (h : f_X4_fail M = some r) : CT l yX4_fail cX4_fail 1 none ({ frames := 0, cells := 0, slots := 0, locals := 0 } : Room) [.ref (φ 107)] (WB (cX G φ) φ M n G) (none) (WB (cX G φ) φ (r) n G) φ n := by
  have hn : 107 ≤ n := Nat.le_of_succ_le hn8
  unfold f_X4_fail at h
  refine r_start (plainFor_of_name (by decide)) (Nat.le_of_ble_eq_true rfl) hI ?_
  intro p e s m args below meth c ls X hr hlk hP hl
  have hS : va_S (wA φ n s.heap.size) s.heap s.heap [] := va_S.rf
  have hx := X.1.1
  have hb := X.1.2.1
  have hl : lv_has ls 1 [(0, .ref (φ 107))] := hl
  refine lv_aload_n hx hb dX4_fail_0 rfl (lv_at hl 0 rfl) ?_
  refine G_X4_18 X.1 hn8 hP dX4_fail_1 ?_
  refine lv_iconst (v := (-1)) hx hb dX4_fail_4 (by decide) ?_
  refine lv_icmp_ne (tgt := 24) hx hb dX4_fail_5 (by decide) (fun c_1 => ?_) (fun c_1 => ?_)
  · rw [if_neg c_1] at h
    obtain rfl := Option.some.inj h
    exact W.vret hx hb hr (r_end X hP hS) hS.2.2 dX4_fail_24 (hlocks := hlk)
  · rw [if_pos c_1] at h
    refine lv_aload_n hx hb dX4_fail_8 rfl (lv_at hl 0 rfl) ?_
    refine lv_aload_n hx hb dX4_fail_9 rfl (lv_at hl 0 rfl) ?_
    refine G_X4_21 X.1 hn8 hP dX4_fail_10 ?_
    refine G_X4_56 X.1 hn hP X.2.2.1.2.2.2.2 dX4_fail_13 ?_
    refine lv_aload_n hx hb dX4_fail_16 rfl (lv_at hl 0 rfl) ?_
    refine G_X4_9 X.1 hn8 hP dX4_fail_17 ?_
    obtain ⟨c_2, h⟩ := og h
    refine r_iald (k := (Int32.toNatClampNeg ((M 107 2)))) X.1 hP (by omega) sX_starts rfl (vin c_2) dX4_fail_20 ?_
    refine P_X4_18 X.1 hn8 X.2.2.2.1 hP hS dX4_fail_21 (fun H locs hP hS => ?_)
    obtain rfl := Option.some.inj h
    exact W.vret hx hb hr (r_end X hP hS) hS.2.2 dX4_fail_24 (hlocks := hlk)

def f_X4_opens (M : Mem) : Option (Int32 × Mem) :=
  (if (M 107 3) < 5 then some ((1, (f_X4_advance (upd2 M 107 3 (((M 107 3) + 1)))))) else (Option.bind (f_X4_fail M) fun r_2 => some ((0, r_2))))
set_option maxRecDepth 100000 in
set_option maxHeartbeats 4000000 in
theorem c_X4_opens (l : Launch) {G : GT} {φ : Nat → Nat} {n : Nat} {M : Mem} (hI : wI φ n) (hn8 : 108 ≤ n) {r : Int32 × Mem} (h : f_X4_opens M = some r) : CT l yX4_opens cX4_opens 1 (some .boolean) ({ frames := 1, cells := 0, slots := 0, locals := 20 } : Room) [.ref (φ 107)] (WB (cX G φ) φ M n G) (some (.int r.1)) (WB (cX G φ) φ (r.2) n G) φ n := by
  have hn : 107 ≤ n := Nat.le_of_succ_le hn8
  unfold f_X4_opens at h
  refine r_start (plainFor_of_name (by decide)) (Nat.le_of_ble_eq_true rfl) hI ?_
  intro p e s m args below meth c ls X hr hlk hP hl
  have hS : va_S (wA φ n s.heap.size) s.heap s.heap [] := va_S.rf
  have hx := X.1.1
  have hb := X.1.2.1
  have hl : lv_has ls 1 [(0, .ref (φ 107))] := hl
  refine lv_aload_n hx hb dX4_opens_0 rfl (lv_at hl 0 rfl) ?_
  refine G_X4_15 X.1 hn8 hP dX4_opens_1 ?_
  refine lv_iconst (v := 5) hx hb dX4_opens_4 (by decide) ?_
  refine lv_icmp_lt (tgt := 14) hx hb dX4_opens_5 (by decide) (fun c_1 => ?_) (fun c_1 => ?_)
  · rw [if_pos c_1] at h
    refine lv_aload_n hx hb dX4_opens_14 rfl (lv_at hl 0 rfl) ?_
    refine lv_dup hx hb dX4_opens_15 rfl ?_
    refine G_X4_15 X.1 hn8 hP dX4_opens_16 ?_
    refine lv_iconst (v := 1) hx hb dX4_opens_19 (by decide) ?_
    refine lv_iadd hx hb dX4_opens_20 ?_
    refine P_X4_15 X.1 hn8 X.2.2.2.1 hP hS dX4_opens_21 (fun H locs hP hS => ?_)
    refine lv_aload_n hx hb dX4_opens_24 rfl (lv_at hl 0 rfl) ?_
    refine c_V0 (As := []) (rest := []) (a := 107) X hl.1 (c_X4_advance l X.2.2.2.1.1 hn8 rfl) (w_X4_63) qw_518 qw_7 ⟨Nat.le_of_ble_eq_true rfl, Nat.le_of_ble_eq_true rfl⟩ rfl rfl hP hS (by omega) sX_Parser rfl rfl (Nat.le_of_ble_eq_true rfl) dX4_opens_25 (fun H locs hP hS => ?_)
    refine lv_iconst (v := 1) hx hb dX4_opens_28 (by decide) ?_
    obtain rfl := Option.some.inj h
    exact W.zret (v := 1) (ty := .boolean) hx hb hr rfl (r_end X hP hS) hS.2.2 dX4_opens_29 (hlocks := hlk)
  · rw [if_neg c_1] at h
    refine lv_aload_n hx hb dX4_opens_8 rfl (lv_at hl 0 rfl) ?_
    obtain ⟨r_2, hr_2, h⟩ := ob h
    refine c_V0 (As := []) (rest := []) (a := 107) X hl.1 (c_X4_fail l X.2.2.2.1.1 hn8 hr_2) (w_X4_66) qw_522 qw_8 ⟨Nat.le_of_ble_eq_true rfl, Nat.le_of_ble_eq_true rfl⟩ rfl rfl hP hS (by omega) sX_Parser rfl rfl (Nat.le_of_ble_eq_true rfl) dX4_opens_9 (fun H locs hP hS => ?_)
    refine lv_iconst (v := 0) hx hb dX4_opens_12 (by decide) ?_
    obtain rfl := Option.some.inj h
    exact W.zret (v := 0) (ty := .boolean) hx hb hr rfl (r_end X hP hS) hS.2.2 dX4_opens_13 (hlocks := hlk)

def f_X4_negative (recL : Mem → Int32 → Option Mem) (M : Mem) : Option (Mem) :=
  (Option.bind (f_X4_opens M) fun r_1 => (if r_1.1 = 0 then some (r_1.2) else (if (r_1.2 107 1).toNatClampNeg < 6 then (Option.bind (f_X5_add r_1.2 (r_1.2 107 1).toNatClampNeg (0)) fun r_4 => (Option.bind (recL r_4 (5)) fun r_5 => (if ((upd2 r_5 107 3 (((r_5 107 3) - 1))) 107 1).toNatClampNeg < 6 then (Option.bind (f_X5_add (upd2 r_5 107 3 (((r_5 107 3) - 1))) ((upd2 r_5 107 3 (((r_5 107 3) - 1))) 107 1).toNatClampNeg (20045)) fun r_7 => some (r_7)) else none))) else none)))
set_option maxRecDepth 100000 in
set_option maxHeartbeats 4000000 in
theorem c_X4_negative (l : Launch) {G : GT} {φ : Nat → Nat} {n : Nat} {M : Mem} {recL : Mem → Int32 → Option Mem} {fL lL : Nat} (hI : wI φ n) (hn8 : 108 ≤ n) (hrecL : ∀ {M : Mem} {a1 : Int32} {r : Mem}, recL M a1 = some r → CT l yX4_level cX4_level 2 none ({ frames := fL, cells := 0, slots := 0, locals := lL } : Room) [.ref (φ 107), .int (a1)] (WB (cX G φ) φ M n G) none (WB (cX G φ) φ r n G) φ n) {r : Mem} (h : f_X4_negative recL M = some r) : CT l yX4_negative cX4_negative 1 none ({ frames := fL + 2, cells := 0, slots := 0, locals := lL + 40 } : Room) [.ref (φ 107)] (WB (cX G φ) φ M n G) (none) (WB (cX G φ) φ (r) n G) φ n := by
  have hn : 107 ≤ n := Nat.le_of_succ_le hn8
  unfold f_X4_negative at h
  refine r_start (plainFor_of_name (by decide)) (Nat.le_of_ble_eq_true rfl) hI ?_
  intro p e s m args below meth c ls X hr hlk hP hl
  have hS : va_S (wA φ n s.heap.size) s.heap s.heap [] := va_S.rf
  have hx := X.1.1
  have hb := X.1.2.1
  have hl : lv_has ls 1 [(0, .ref (φ 107))] := hl
  refine lv_aload_n hx hb dX4_negative_0 rfl (lv_at hl 0 rfl) ?_
  obtain ⟨r_1, hr_1, h⟩ := ob h
  refine c_V0 (As := []) (rest := []) (a := 107) X hl.1 (c_X4_opens l X.2.2.2.1.1 hn8 hr_1) (w_X4_85) qw_542 qw_12 ⟨by (dsimp only; omega), by (dsimp only; omega)⟩ rfl rfl hP hS (by omega) sX_Parser rfl rfl (Nat.le_of_ble_eq_true rfl) dX4_negative_1 (fun H locs hP hS => ?_)
  refine lv_if_eq (tgt := 40) hx hb dX4_negative_4 (by decide) (fun c_2 => ?_) (fun c_2 => ?_)
  · rw [if_pos c_2] at h
    obtain rfl := Option.some.inj h
    exact W.vret hx hb hr (r_end X hP hS) hS.2.2 dX4_negative_40 (hlocks := hlk)
  · rw [if_neg c_2] at h
    refine lv_aload_n hx hb dX4_negative_7 rfl (lv_at hl 0 rfl) ?_
    refine G_X4_25 X.1 hn8 hP dX4_negative_8 ?_
    obtain ⟨c_3, h⟩ := og h
    refine lv_iconst (v := 0) hx hb dX4_negative_11 (by decide) ?_
    obtain ⟨r_4, hr_4, h⟩ := ob h
    refine c_V0 (As := [.int (0)]) (rest := []) (a := (40 + (r_1.2 107 1).toNatClampNeg)) X hl.1 (c_X5_add l X.2.2.2.1.1 hn c_3 hr_4) (w_X4_82) qw_533 qw_534 ⟨by (dsimp only; omega), by (dsimp only; omega)⟩ rfl rfl hP hS (by omega) (sX_Rule c_3) rfl rfl (Nat.le_of_ble_eq_true rfl) dX4_negative_12 (fun H locs hP hS => ?_)
    refine lv_aload_n hx hb dX4_negative_15 rfl (lv_at hl 0 rfl) ?_
    refine lv_iconst (v := 5) hx hb dX4_negative_16 (by decide) ?_
    obtain ⟨r_5, hr_5, h⟩ := ob h
    refine c_V0 (As := [.int (5)]) (rest := []) (a := 107) X hl.1 (hrecL hr_5) (w_X4_43) qw_526 qw_9 ⟨by (dsimp only; omega), by (dsimp only; omega)⟩ rfl rfl hP hS (by omega) sX_Parser rfl rfl (Nat.le_of_ble_eq_true rfl) dX4_negative_17 (fun H locs hP hS => ?_)
    refine lv_aload_n hx hb dX4_negative_20 rfl (lv_at hl 0 rfl) ?_
    refine lv_dup hx hb dX4_negative_21 rfl ?_
    refine G_X4_15 X.1 hn8 hP dX4_negative_22 ?_
    refine lv_iconst (v := 1) hx hb dX4_negative_25 (by decide) ?_
    refine lv_isub hx hb dX4_negative_26 ?_
    refine P_X4_15 X.1 hn8 X.2.2.2.1 hP hS dX4_negative_27 (fun H locs hP hS => ?_)
    refine lv_aload_n hx hb dX4_negative_30 rfl (lv_at hl 0 rfl) ?_
    refine G_X4_25 X.1 hn8 hP dX4_negative_31 ?_
    obtain ⟨c_6, h⟩ := og h
    refine lv_sipush (v := 20045) hx hb dX4_negative_34 (by decide) ?_
    obtain ⟨r_7, hr_7, h⟩ := ob h
    refine c_V0 (As := [.int (20045)]) (rest := []) (a := (40 + ((upd2 r_5 107 3 (((r_5 107 3) - 1))) 107 1).toNatClampNeg)) X hl.1 (c_X5_add l X.2.2.2.1.1 hn c_6 hr_7) (w_X4_82) qw_533 qw_534 ⟨by (dsimp only; omega), by (dsimp only; omega)⟩ rfl rfl hP hS (by omega) (sX_Rule c_6) rfl rfl (Nat.le_of_ble_eq_true rfl) dX4_negative_37 (fun H locs hP hS => ?_)
    obtain rfl := Option.some.inj h
    exact W.vret hx hb hr (r_end X hP hS) hS.2.2 dX4_negative_40 (hlocks := hlk)

def f_X4_expect (M : Mem) (a1 : Int32) : Option (Mem) :=
  (Option.bind (f_X4_token M) fun r_1 => (if r_1 = a1 then some ((f_X4_advance M)) else (Option.bind (f_X4_fail M) fun r_3 => some (r_3))))
set_option maxRecDepth 100000 in
set_option maxHeartbeats 4000000 in
theorem c_X4_expect (l : Launch) {G : GT} {φ : Nat → Nat} {n : Nat} {M : Mem} {a1 : Int32} (hI : wI φ n) (hn8 : 108 ≤ n) {r : Mem} (h : f_X4_expect M a1 = some r) : CT l yX4_expect cX4_expect 2 none ({ frames := 1, cells := 0, slots := 0, locals := 20 } : Room) [.ref (φ 107), .int (a1)] (WB (cX G φ) φ M n G) (none) (WB (cX G φ) φ (r) n G) φ n := by
  have hn : 107 ≤ n := Nat.le_of_succ_le hn8
  unfold f_X4_expect at h
  refine r_start (plainFor_of_name (by decide)) (Nat.le_of_ble_eq_true rfl) hI ?_
  intro p e s m args below meth c ls X hr hlk hP hl
  have hS : va_S (wA φ n s.heap.size) s.heap s.heap [] := va_S.rf
  have hx := X.1.1
  have hb := X.1.2.1
  have hl : lv_has ls 2 [(0, .ref (φ 107)), (1, .int (a1))] := hl
  refine lv_aload_n hx hb dX4_expect_0 rfl (lv_at hl 0 rfl) ?_
  obtain ⟨r_1, hr_1, h⟩ := ob h
  refine c_V0 (As := []) (rest := []) (a := 107) X hl.1 (c_X4_token l X.2.2.2.1.1 hn8 hr_1) (w_X4_59) qw_514 qw_6 ⟨Nat.le_of_ble_eq_true rfl, Nat.le_of_ble_eq_true rfl⟩ rfl rfl hP hS (by omega) sX_Parser rfl rfl (Nat.le_of_ble_eq_true rfl) dX4_expect_1 (fun H locs hP hS => ?_)
  refine lv_iload_n hx hb dX4_expect_4 rfl (lv_at hl 1 rfl) ?_
  refine lv_icmp_ne (tgt := 15) hx hb dX4_expect_5 (by decide) (fun c_2 => ?_) (fun c_2 => ?_)
  · rw [if_neg c_2] at h
    refine lv_aload_n hx hb dX4_expect_15 rfl (lv_at hl 0 rfl) ?_
    obtain ⟨r_3, hr_3, h⟩ := ob h
    refine c_V0 (As := []) (rest := []) (a := 107) X hl.1 (c_X4_fail l X.2.2.2.1.1 hn8 hr_3) (w_X4_66) qw_522 qw_8 ⟨Nat.le_of_ble_eq_true rfl, Nat.le_of_ble_eq_true rfl⟩ rfl rfl hP hS (by omega) sX_Parser rfl rfl (Nat.le_of_ble_eq_true rfl) dX4_expect_16 (fun H locs hP hS => ?_)
    obtain rfl := Option.some.inj h
    exact W.vret hx hb hr (r_end X hP hS) hS.2.2 dX4_expect_19 (hlocks := hlk)
  · rw [if_pos c_2] at h
    refine lv_aload_n hx hb dX4_expect_8 rfl (lv_at hl 0 rfl) ?_
    refine c_V0 (As := []) (rest := []) (a := 107) X hl.1 (c_X4_advance l X.2.2.2.1.1 hn8 rfl) (w_X4_63) qw_518 qw_7 ⟨Nat.le_of_ble_eq_true rfl, Nat.le_of_ble_eq_true rfl⟩ rfl rfl hP hS (by omega) sX_Parser rfl rfl (Nat.le_of_ble_eq_true rfl) dX4_expect_9 (fun H locs hP hS => ?_)
    refine lv_goto (tgt := 19) hx hb dX4_expect_12 (by decide) ?_
    obtain rfl := Option.some.inj h
    exact W.vret hx hb hr (r_end X hP hS) hS.2.2 dX4_expect_19 (hlocks := hlk)

def f_X4_inner (recL : Mem → Int32 → Option Mem) (M : Mem) : Option (Mem) :=
  (Option.bind (f_X4_opens M) fun r_1 => (if r_1.1 = 0 then some (r_1.2) else (Option.bind (recL r_1.2 (0)) fun r_3 => (Option.bind (f_X4_expect r_3 (20041)) fun r_4 => some ((upd2 r_4 107 3 (((r_4 107 3) - 1))))))))
set_option maxRecDepth 100000 in
set_option maxHeartbeats 4000000 in
theorem c_X4_inner (l : Launch) {G : GT} {φ : Nat → Nat} {n : Nat} {M : Mem} {recL : Mem → Int32 → Option Mem} {fL lL : Nat} (hI : wI φ n) (hn8 : 108 ≤ n) (hrecL : ∀ {M : Mem} {a1 : Int32} {r : Mem}, recL M a1 = some r → CT l yX4_level cX4_level 2 none ({ frames := fL, cells := 0, slots := 0, locals := lL } : Room) [.ref (φ 107), .int (a1)] (WB (cX G φ) φ M n G) none (WB (cX G φ) φ r n G) φ n) {r : Mem} (h : f_X4_inner recL M = some r) : CT l yX4_inner cX4_inner 1 none ({ frames := fL + 2, cells := 0, slots := 0, locals := lL + 41 } : Room) [.ref (φ 107)] (WB (cX G φ) φ M n G) (none) (WB (cX G φ) φ (r) n G) φ n := by
  have hn : 107 ≤ n := Nat.le_of_succ_le hn8
  unfold f_X4_inner at h
  refine r_start (plainFor_of_name (by decide)) (Nat.le_of_ble_eq_true rfl) hI ?_
  intro p e s m args below meth c ls X hr hlk hP hl
  have hS : va_S (wA φ n s.heap.size) s.heap s.heap [] := va_S.rf
  have hx := X.1.1
  have hb := X.1.2.1
  have hl : lv_has ls 1 [(0, .ref (φ 107))] := hl
  refine lv_aload_n hx hb dX4_inner_0 rfl (lv_at hl 0 rfl) ?_
  obtain ⟨r_1, hr_1, h⟩ := ob h
  refine c_V0 (As := []) (rest := []) (a := 107) X hl.1 (c_X4_opens l X.2.2.2.1.1 hn8 hr_1) (w_X4_85) qw_542 qw_12 ⟨by (dsimp only; omega), by (dsimp only; omega)⟩ rfl rfl hP hS (by omega) sX_Parser rfl rfl (Nat.le_of_ble_eq_true rfl) dX4_inner_1 (fun H locs hP hS => ?_)
  refine lv_if_eq (tgt := 29) hx hb dX4_inner_4 (by decide) (fun c_2 => ?_) (fun c_2 => ?_)
  · rw [if_pos c_2] at h
    obtain rfl := Option.some.inj h
    exact W.vret hx hb hr (r_end X hP hS) hS.2.2 dX4_inner_29 (hlocks := hlk)
  · rw [if_neg c_2] at h
    refine lv_aload_n hx hb dX4_inner_7 rfl (lv_at hl 0 rfl) ?_
    refine lv_iconst (v := 0) hx hb dX4_inner_8 (by decide) ?_
    obtain ⟨r_3, hr_3, h⟩ := ob h
    refine c_V0 (As := [.int (0)]) (rest := []) (a := 107) X hl.1 (hrecL hr_3) (w_X4_43) qw_526 qw_9 ⟨by (dsimp only; omega), by (dsimp only; omega)⟩ rfl rfl hP hS (by omega) sX_Parser rfl rfl (Nat.le_of_ble_eq_true rfl) dX4_inner_9 (fun H locs hP hS => ?_)
    refine lv_aload_n hx hb dX4_inner_12 rfl (lv_at hl 0 rfl) ?_
    refine lv_sipush (v := 20041) hx hb dX4_inner_13 (by decide) ?_
    obtain ⟨r_4, hr_4, h⟩ := ob h
    refine c_V0 (As := [.int (20041)]) (rest := []) (a := 107) X hl.1 (c_X4_expect l X.2.2.2.1.1 hn8 hr_4) (w_X4_39) qw_510 qw_5 ⟨by (dsimp only; omega), by (dsimp only; omega)⟩ rfl rfl hP hS (by omega) sX_Parser rfl rfl (Nat.le_of_ble_eq_true rfl) dX4_inner_16 (fun H locs hP hS => ?_)
    refine lv_aload_n hx hb dX4_inner_19 rfl (lv_at hl 0 rfl) ?_
    refine lv_dup hx hb dX4_inner_20 rfl ?_
    refine G_X4_15 X.1 hn8 hP dX4_inner_21 ?_
    refine lv_iconst (v := 1) hx hb dX4_inner_24 (by decide) ?_
    refine lv_isub hx hb dX4_inner_25 ?_
    refine P_X4_15 X.1 hn8 X.2.2.2.1 hP hS dX4_inner_26 (fun H locs hP hS => ?_)
    obtain rfl := Option.some.inj h
    exact W.vret hx hb hr (r_end X hP hS) hS.2.2 dX4_inner_29 (hlocks := hlk)

def f_X4_one (recL : Mem → Int32 → Option Mem) (M : Mem) : Option (Mem) :=
  (Option.bind (f_X4_token M) fun r_1 => (if 20000 ≤ r_1 then (if r_1 = 20045 then (Option.bind (f_X4_negative recL M) fun r_7 => some (r_7)) else (if r_1 = 20040 then (Option.bind (f_X4_inner recL M) fun r_6 => some (r_6)) else (Option.bind (f_X4_fail M) fun r_5 => some (r_5)))) else (if (M 107 1).toNatClampNeg < 6 then (Option.bind (f_X5_add M (M 107 1).toNatClampNeg (r_1)) fun r_9 => some ((f_X4_advance r_9))) else none)))
set_option maxRecDepth 100000 in
set_option maxHeartbeats 4000000 in
theorem c_X4_one (l : Launch) {G : GT} {φ : Nat → Nat} {n : Nat} {M : Mem} {recL : Mem → Int32 → Option Mem} {fL lL : Nat} (hI : wI φ n) (hn8 : 108 ≤ n) (hrecL : ∀ {M : Mem} {a1 : Int32} {r : Mem}, recL M a1 = some r → CT l yX4_level cX4_level 2 none ({ frames := fL, cells := 0, slots := 0, locals := lL } : Room) [.ref (φ 107), .int (a1)] (WB (cX G φ) φ M n G) none (WB (cX G φ) φ r n G) φ n) {r : Mem} (h : f_X4_one recL M = some r) : CT l yX4_one cX4_one 2 none ({ frames := fL + 3, cells := 0, slots := 0, locals := lL + 61 } : Room) [.ref (φ 107)] (WB (cX G φ) φ M n G) (none) (WB (cX G φ) φ (r) n G) φ n := by
  have hn : 107 ≤ n := Nat.le_of_succ_le hn8
  unfold f_X4_one at h
  refine r_start (plainFor_of_name (by decide)) (Nat.le_of_ble_eq_true rfl) hI ?_
  intro p e s m args below meth c ls X hr hlk hP hl
  have hS : va_S (wA φ n s.heap.size) s.heap s.heap [] := va_S.rf
  have hx := X.1.1
  have hb := X.1.2.1
  have hl : lv_has ls 2 [(0, .ref (φ 107))] := hl
  refine lv_aload_n hx hb dX4_one_0 rfl (lv_at hl 0 rfl) ?_
  obtain ⟨r_1, hr_1, h⟩ := ob h
  refine c_V0 (As := []) (rest := []) (a := 107) X hl.1 (c_X4_token l X.2.2.2.1.1 hn8 hr_1) (w_X4_59) qw_514 qw_6 ⟨by (dsimp only; omega), by (dsimp only; omega)⟩ rfl rfl hP hS (by omega) sX_Parser rfl rfl (Nat.le_of_ble_eq_true rfl) dX4_one_1 (fun H locs hP hS => ?_)
  refine lv_istore_n (lv' := [(1, .int (r_1)), (0, .ref (φ 107))]) hx hb dX4_one_4 rfl hl (by decide) rfl (fun ls hl => ?_)
  refine lv_iload_n hx hb dX4_one_5 rfl (lv_at hl 0 rfl) ?_
  refine lv_sipush (v := 20000) hx hb dX4_one_6 (by decide) ?_
  refine lv_icmp_ge (tgt := 27) hx hb dX4_one_9 (by decide) (fun c_2 => ?_) (fun c_2 => ?_)
  · rw [if_pos c_2] at h
    refine lv_iload_n hx hb dX4_one_27 rfl (lv_at hl 0 rfl) ?_
    refine lv_sipush (v := 20045) hx hb dX4_one_28 (by decide) ?_
    refine lv_icmp_ne (tgt := 41) hx hb dX4_one_31 (by decide) (fun c_3 => ?_) (fun c_3 => ?_)
    · rw [if_neg c_3] at h
      refine lv_iload_n hx hb dX4_one_41 rfl (lv_at hl 0 rfl) ?_
      refine lv_sipush (v := 20040) hx hb dX4_one_42 (by decide) ?_
      refine lv_icmp_ne (tgt := 55) hx hb dX4_one_45 (by decide) (fun c_4 => ?_) (fun c_4 => ?_)
      · rw [if_neg c_4] at h
        refine lv_aload_n hx hb dX4_one_55 rfl (lv_at hl 1 rfl) ?_
        obtain ⟨r_5, hr_5, h⟩ := ob h
        refine c_V0 (As := []) (rest := []) (a := 107) X hl.1 (c_X4_fail l X.2.2.2.1.1 hn8 hr_5) (w_X4_66) qw_522 qw_8 ⟨by (dsimp only; omega), by (dsimp only; omega)⟩ rfl rfl hP hS (by omega) sX_Parser rfl rfl (Nat.le_of_ble_eq_true rfl) dX4_one_56 (fun H locs hP hS => ?_)
        obtain rfl := Option.some.inj h
        exact W.vret hx hb hr (r_end X hP hS) hS.2.2 dX4_one_59 (hlocks := hlk)
      · rw [if_pos c_4] at h
        refine lv_aload_n hx hb dX4_one_48 rfl (lv_at hl 1 rfl) ?_
        obtain ⟨r_6, hr_6, h⟩ := ob h
        refine c_V0 (As := []) (rest := []) (a := 107) X hl.1 (c_X4_inner l X.2.2.2.1.1 hn8 hrecL hr_6) (w_X4_92) qw_546 qw_13 ⟨by (dsimp only; omega), by (dsimp only; omega)⟩ rfl rfl hP hS (by omega) sX_Parser rfl rfl (Nat.le_of_ble_eq_true rfl) dX4_one_49 (fun H locs hP hS => ?_)
        refine lv_goto (tgt := 59) hx hb dX4_one_52 (by decide) ?_
        obtain rfl := Option.some.inj h
        exact W.vret hx hb hr (r_end X hP hS) hS.2.2 dX4_one_59 (hlocks := hlk)
    · rw [if_pos c_3] at h
      refine lv_aload_n hx hb dX4_one_34 rfl (lv_at hl 1 rfl) ?_
      obtain ⟨r_7, hr_7, h⟩ := ob h
      refine c_V0 (As := []) (rest := []) (a := 107) X hl.1 (c_X4_negative l X.2.2.2.1.1 hn8 hrecL hr_7) (w_X4_89) qw_538 qw_11 ⟨by (dsimp only; omega), by (dsimp only; omega)⟩ rfl rfl hP hS (by omega) sX_Parser rfl rfl (Nat.le_of_ble_eq_true rfl) dX4_one_35 (fun H locs hP hS => ?_)
      refine lv_goto (tgt := 59) hx hb dX4_one_38 (by decide) ?_
      obtain rfl := Option.some.inj h
      exact W.vret hx hb hr (r_end X hP hS) hS.2.2 dX4_one_59 (hlocks := hlk)
  · rw [if_neg c_2] at h
    refine lv_aload_n hx hb dX4_one_12 rfl (lv_at hl 1 rfl) ?_
    refine G_X4_25 X.1 hn8 hP dX4_one_13 ?_
    obtain ⟨c_8, h⟩ := og h
    refine lv_iload_n hx hb dX4_one_16 rfl (lv_at hl 0 rfl) ?_
    obtain ⟨r_9, hr_9, h⟩ := ob h
    refine c_V0 (As := [.int (r_1)]) (rest := []) (a := (40 + (M 107 1).toNatClampNeg)) X hl.1 (c_X5_add l X.2.2.2.1.1 hn c_8 hr_9) (w_X4_82) qw_533 qw_534 ⟨by (dsimp only; omega), by (dsimp only; omega)⟩ rfl rfl hP hS (by omega) (sX_Rule c_8) rfl rfl (Nat.le_of_ble_eq_true rfl) dX4_one_17 (fun H locs hP hS => ?_)
    refine lv_aload_n hx hb dX4_one_20 rfl (lv_at hl 1 rfl) ?_
    refine c_V0 (As := []) (rest := []) (a := 107) X hl.1 (c_X4_advance l X.2.2.2.1.1 hn8 rfl) (w_X4_63) qw_518 qw_7 ⟨by (dsimp only; omega), by (dsimp only; omega)⟩ rfl rfl hP hS (by omega) sX_Parser rfl rfl (Nat.le_of_ble_eq_true rfl) dX4_one_21 (fun H locs hP hS => ?_)
    refine lv_goto (tgt := 59) hx hb dX4_one_24 (by decide) ?_
    obtain rfl := Option.some.inj h
    exact W.vret hx hb hr (r_end X hP hS) hS.2.2 dX4_one_59 (hlocks := hlk)

def f_X4_negation (recL : Mem → Int32 → Option Mem) (M : Mem) : Option (Mem) :=
  (Option.bind (f_X4_opens M) fun r_1 => (if r_1.1 = 0 then some (r_1.2) else (Option.bind (recL r_1.2 (2)) fun r_3 => (if ((upd2 r_3 107 3 (((r_3 107 3) - 1))) 107 1).toNatClampNeg < 6 then (Option.bind (f_X5_add (upd2 r_3 107 3 (((r_3 107 3) - 1))) ((upd2 r_3 107 3 (((r_3 107 3) - 1))) 107 1).toNatClampNeg (0)) fun r_5 => (if (r_5 107 1).toNatClampNeg < 6 then (Option.bind (f_X5_add r_5 (r_5 107 1).toNatClampNeg (20061)) fun r_7 => some (r_7)) else none)) else none))))
set_option maxRecDepth 100000 in
set_option maxHeartbeats 4000000 in
theorem c_X4_negation (l : Launch) {G : GT} {φ : Nat → Nat} {n : Nat} {M : Mem} {recL : Mem → Int32 → Option Mem} {fL lL : Nat} (hI : wI φ n) (hn8 : 108 ≤ n) (hrecL : ∀ {M : Mem} {a1 : Int32} {r : Mem}, recL M a1 = some r → CT l yX4_level cX4_level 2 none ({ frames := fL, cells := 0, slots := 0, locals := lL } : Room) [.ref (φ 107), .int (a1)] (WB (cX G φ) φ M n G) none (WB (cX G φ) φ r n G) φ n) {r : Mem} (h : f_X4_negation recL M = some r) : CT l yX4_negation cX4_negation 1 none ({ frames := fL + 2, cells := 0, slots := 0, locals := lL + 40 } : Room) [.ref (φ 107)] (WB (cX G φ) φ M n G) (none) (WB (cX G φ) φ (r) n G) φ n := by
  have hn : 107 ≤ n := Nat.le_of_succ_le hn8
  unfold f_X4_negation at h
  refine r_start (plainFor_of_name (by decide)) (Nat.le_of_ble_eq_true rfl) hI ?_
  intro p e s m args below meth c ls X hr hlk hP hl
  have hS : va_S (wA φ n s.heap.size) s.heap s.heap [] := va_S.rf
  have hx := X.1.1
  have hb := X.1.2.1
  have hl : lv_has ls 1 [(0, .ref (φ 107))] := hl
  refine lv_aload_n hx hb dX4_negation_0 rfl (lv_at hl 0 rfl) ?_
  obtain ⟨r_1, hr_1, h⟩ := ob h
  refine c_V0 (As := []) (rest := []) (a := 107) X hl.1 (c_X4_opens l X.2.2.2.1.1 hn8 hr_1) (w_X4_85) qw_542 qw_12 ⟨by (dsimp only; omega), by (dsimp only; omega)⟩ rfl rfl hP hS (by omega) sX_Parser rfl rfl (Nat.le_of_ble_eq_true rfl) dX4_negation_1 (fun H locs hP hS => ?_)
  refine lv_if_eq (tgt := 40) hx hb dX4_negation_4 (by decide) (fun c_2 => ?_) (fun c_2 => ?_)
  · rw [if_pos c_2] at h
    obtain rfl := Option.some.inj h
    exact W.vret hx hb hr (r_end X hP hS) hS.2.2 dX4_negation_40 (hlocks := hlk)
  · rw [if_neg c_2] at h
    refine lv_aload_n hx hb dX4_negation_7 rfl (lv_at hl 0 rfl) ?_
    refine lv_iconst (v := 2) hx hb dX4_negation_8 (by decide) ?_
    obtain ⟨r_3, hr_3, h⟩ := ob h
    refine c_V0 (As := [.int (2)]) (rest := []) (a := 107) X hl.1 (hrecL hr_3) (w_X4_43) qw_526 qw_9 ⟨by (dsimp only; omega), by (dsimp only; omega)⟩ rfl rfl hP hS (by omega) sX_Parser rfl rfl (Nat.le_of_ble_eq_true rfl) dX4_negation_9 (fun H locs hP hS => ?_)
    refine lv_aload_n hx hb dX4_negation_12 rfl (lv_at hl 0 rfl) ?_
    refine lv_dup hx hb dX4_negation_13 rfl ?_
    refine G_X4_15 X.1 hn8 hP dX4_negation_14 ?_
    refine lv_iconst (v := 1) hx hb dX4_negation_17 (by decide) ?_
    refine lv_isub hx hb dX4_negation_18 ?_
    refine P_X4_15 X.1 hn8 X.2.2.2.1 hP hS dX4_negation_19 (fun H locs hP hS => ?_)
    refine lv_aload_n hx hb dX4_negation_22 rfl (lv_at hl 0 rfl) ?_
    refine G_X4_25 X.1 hn8 hP dX4_negation_23 ?_
    obtain ⟨c_4, h⟩ := og h
    refine lv_iconst (v := 0) hx hb dX4_negation_26 (by decide) ?_
    obtain ⟨r_5, hr_5, h⟩ := ob h
    refine c_V0 (As := [.int (0)]) (rest := []) (a := (40 + ((upd2 r_3 107 3 (((r_3 107 3) - 1))) 107 1).toNatClampNeg)) X hl.1 (c_X5_add l X.2.2.2.1.1 hn c_4 hr_5) (w_X4_82) qw_533 qw_534 ⟨by (dsimp only; omega), by (dsimp only; omega)⟩ rfl rfl hP hS (by omega) (sX_Rule c_4) rfl rfl (Nat.le_of_ble_eq_true rfl) dX4_negation_27 (fun H locs hP hS => ?_)
    refine lv_aload_n hx hb dX4_negation_30 rfl (lv_at hl 0 rfl) ?_
    refine G_X4_25 X.1 hn8 hP dX4_negation_31 ?_
    obtain ⟨c_6, h⟩ := og h
    refine lv_sipush (v := 20061) hx hb dX4_negation_34 (by decide) ?_
    obtain ⟨r_7, hr_7, h⟩ := ob h
    refine c_V0 (As := [.int (20061)]) (rest := []) (a := (40 + (r_5 107 1).toNatClampNeg)) X hl.1 (c_X5_add l X.2.2.2.1.1 hn c_6 hr_7) (w_X4_82) qw_533 qw_534 ⟨by (dsimp only; omega), by (dsimp only; omega)⟩ rfl rfl hP hS (by omega) (sX_Rule c_6) rfl rfl (Nat.le_of_ble_eq_true rfl) dX4_negation_37 (fun H locs hP hS => ?_)
    obtain rfl := Option.some.inj h
    exact W.vret hx hb hr (r_end X hP hS) hS.2.2 dX4_negation_40 (hlocks := hlk)

def f_X4_joins (M : Mem) (a1 : Int32) : Option (Int32) :=
  (Option.bind (f_X4_token M) fun r_1 => (if Int32.toInt (a1) < 0 ∨ 4 < Int32.toInt (a1) then some (0) else (if a1 = 0 then (if r_1 = 20256 then some (1) else some (0)) else (if a1 = 1 then (if r_1 = 20257 then some (1) else some (0)) else (if a1 = 2 then (if r_1 = 20060 then some (1) else (if r_1 = 20061 then some (1) else some (0))) else (if a1 = 3 then (if r_1 = 20043 then some (1) else (if r_1 = 20045 then some (1) else some (0))) else (if a1 = 4 then (if r_1 = 20042 then some (1) else some (0)) else none)))))))
set_option maxRecDepth 100000 in
set_option maxHeartbeats 4000000 in
theorem c_X4_joins (l : Launch) {G : GT} {φ : Nat → Nat} {n : Nat} {M : Mem} {a1 : Int32} (hI : wI φ n) (hn8 : 108 ≤ n) {r : Int32} (h : f_X4_joins M a1 = some r) : CT l yX4_joins cX4_joins 3 (some .boolean) ({ frames := 1, cells := 0, slots := 0, locals := 20 } : Room) [.ref (φ 107), .int (a1)] (WB (cX G φ) φ M n G) (some (.int r)) (WB (cX G φ) φ (M) n G) φ n := by
  have hn : 107 ≤ n := Nat.le_of_succ_le hn8
  unfold f_X4_joins at h
  refine r_start (plainFor_of_name (by decide)) (Nat.le_of_ble_eq_true rfl) hI ?_
  intro p e s m args below meth c ls X hr hlk hP hl
  have hS : va_S (wA φ n s.heap.size) s.heap s.heap [] := va_S.rf
  have hx := X.1.1
  have hb := X.1.2.1
  have hl : lv_has ls 3 [(0, .ref (φ 107)), (1, .int (a1))] := hl
  refine lv_aload_n hx hb dX4_joins_0 rfl (lv_at hl 0 rfl) ?_
  obtain ⟨r_1, hr_1, h⟩ := ob h
  refine c_V0 (As := []) (rest := []) (a := 107) X hl.1 (c_X4_token l X.2.2.2.1.1 hn8 hr_1) (w_X4_59) qw_514 qw_6 ⟨Nat.le_of_ble_eq_true rfl, Nat.le_of_ble_eq_true rfl⟩ rfl rfl hP hS (by omega) sX_Parser rfl rfl (Nat.le_of_ble_eq_true rfl) dX4_joins_1 (fun H locs hP hS => ?_)
  refine lv_istore_n (lv' := [(2, .int (r_1)), (0, .ref (φ 107)), (1, .int (a1))]) hx hb dX4_joins_4 rfl hl (by decide) rfl (fun ls hl => ?_)
  refine lv_iload_n hx hb dX4_joins_5 rfl (lv_at hl 2 rfl) ?_
  by_cases c_2 : Int32.toInt (a1) < 0 ∨ 4 < Int32.toInt (a1)
  · rw [if_pos c_2] at h
    refine lv_tableOut (tgt := 119) hx hb dX4_joins_6 c_2 (by decide) ?_
    refine lv_iconst (v := 0) hx hb dX4_joins_119 (by decide) ?_
    obtain rfl := Option.some.inj h
    exact W.zret (v := 0) (ty := .boolean) hx hb hr rfl (r_end X hP hS) hS.2.2 dX4_joins_120 (hlocks := hlk)
  · rw [if_neg c_2] at h
    by_cases c_3 : a1 = 0
    · rw [if_pos c_3] at h
      refine lv_tableIn (tgt := 40) (off := 34) hx hb dX4_joins_6 (fun q => c_2 (Or.inl q)) (fun q => c_2 (Or.inr q)) (by rw [c_3]; rfl) (by decide) ?_
      refine lv_iload_n hx hb dX4_joins_40 rfl (lv_at hl 0 rfl) ?_
      refine lv_sipush (v := 20256) hx hb dX4_joins_41 (by decide) ?_
      refine lv_icmp_ne (tgt := 51) hx hb dX4_joins_44 (by decide) (fun c_4 => ?_) (fun c_4 => ?_)
      · rw [if_neg c_4] at h
        refine lv_iconst (v := 0) hx hb dX4_joins_51 (by decide) ?_
        obtain rfl := Option.some.inj h
        exact W.zret (v := 0) (ty := .boolean) hx hb hr rfl (r_end X hP hS) hS.2.2 dX4_joins_52 (hlocks := hlk)
      · rw [if_pos c_4] at h
        refine lv_iconst (v := 1) hx hb dX4_joins_47 (by decide) ?_
        refine lv_goto (tgt := 52) hx hb dX4_joins_48 (by decide) ?_
        obtain rfl := Option.some.inj h
        exact W.zret (v := 1) (ty := .boolean) hx hb hr rfl (r_end X hP hS) hS.2.2 dX4_joins_52 (hlocks := hlk)
    · rw [if_neg c_3] at h
      by_cases c_5 : a1 = 1
      · rw [if_pos c_5] at h
        refine lv_tableIn (tgt := 53) (off := 47) hx hb dX4_joins_6 (fun q => c_2 (Or.inl q)) (fun q => c_2 (Or.inr q)) (by rw [c_5]; rfl) (by decide) ?_
        refine lv_iload_n hx hb dX4_joins_53 rfl (lv_at hl 0 rfl) ?_
        refine lv_sipush (v := 20257) hx hb dX4_joins_54 (by decide) ?_
        refine lv_icmp_ne (tgt := 64) hx hb dX4_joins_57 (by decide) (fun c_6 => ?_) (fun c_6 => ?_)
        · rw [if_neg c_6] at h
          refine lv_iconst (v := 0) hx hb dX4_joins_64 (by decide) ?_
          obtain rfl := Option.some.inj h
          exact W.zret (v := 0) (ty := .boolean) hx hb hr rfl (r_end X hP hS) hS.2.2 dX4_joins_65 (hlocks := hlk)
        · rw [if_pos c_6] at h
          refine lv_iconst (v := 1) hx hb dX4_joins_60 (by decide) ?_
          refine lv_goto (tgt := 65) hx hb dX4_joins_61 (by decide) ?_
          obtain rfl := Option.some.inj h
          exact W.zret (v := 1) (ty := .boolean) hx hb hr rfl (r_end X hP hS) hS.2.2 dX4_joins_65 (hlocks := hlk)
      · rw [if_neg c_5] at h
        by_cases c_7 : a1 = 2
        · rw [if_pos c_7] at h
          refine lv_tableIn (tgt := 66) (off := 60) hx hb dX4_joins_6 (fun q => c_2 (Or.inl q)) (fun q => c_2 (Or.inr q)) (by rw [c_7]; rfl) (by decide) ?_
          refine lv_iload_n hx hb dX4_joins_66 rfl (lv_at hl 0 rfl) ?_
          refine lv_sipush (v := 20060) hx hb dX4_joins_67 (by decide) ?_
          refine lv_icmp_eq (tgt := 80) hx hb dX4_joins_70 (by decide) (fun c_8 => ?_) (fun c_8 => ?_)
          · rw [if_pos c_8] at h
            refine lv_iconst (v := 1) hx hb dX4_joins_80 (by decide) ?_
            refine lv_goto (tgt := 85) hx hb dX4_joins_81 (by decide) ?_
            obtain rfl := Option.some.inj h
            exact W.zret (v := 1) (ty := .boolean) hx hb hr rfl (r_end X hP hS) hS.2.2 dX4_joins_85 (hlocks := hlk)
          · rw [if_neg c_8] at h
            refine lv_iload_n hx hb dX4_joins_73 rfl (lv_at hl 0 rfl) ?_
            refine lv_sipush (v := 20061) hx hb dX4_joins_74 (by decide) ?_
            refine lv_icmp_ne (tgt := 84) hx hb dX4_joins_77 (by decide) (fun c_9 => ?_) (fun c_9 => ?_)
            · rw [if_neg c_9] at h
              refine lv_iconst (v := 0) hx hb dX4_joins_84 (by decide) ?_
              obtain rfl := Option.some.inj h
              exact W.zret (v := 0) (ty := .boolean) hx hb hr rfl (r_end X hP hS) hS.2.2 dX4_joins_85 (hlocks := hlk)
            · rw [if_pos c_9] at h
              refine lv_iconst (v := 1) hx hb dX4_joins_80 (by decide) ?_
              refine lv_goto (tgt := 85) hx hb dX4_joins_81 (by decide) ?_
              obtain rfl := Option.some.inj h
              exact W.zret (v := 1) (ty := .boolean) hx hb hr rfl (r_end X hP hS) hS.2.2 dX4_joins_85 (hlocks := hlk)
        · rw [if_neg c_7] at h
          by_cases c_10 : a1 = 3
          · rw [if_pos c_10] at h
            refine lv_tableIn (tgt := 86) (off := 80) hx hb dX4_joins_6 (fun q => c_2 (Or.inl q)) (fun q => c_2 (Or.inr q)) (by rw [c_10]; rfl) (by decide) ?_
            refine lv_iload_n hx hb dX4_joins_86 rfl (lv_at hl 0 rfl) ?_
            refine lv_sipush (v := 20043) hx hb dX4_joins_87 (by decide) ?_
            refine lv_icmp_eq (tgt := 100) hx hb dX4_joins_90 (by decide) (fun c_11 => ?_) (fun c_11 => ?_)
            · rw [if_pos c_11] at h
              refine lv_iconst (v := 1) hx hb dX4_joins_100 (by decide) ?_
              refine lv_goto (tgt := 105) hx hb dX4_joins_101 (by decide) ?_
              obtain rfl := Option.some.inj h
              exact W.zret (v := 1) (ty := .boolean) hx hb hr rfl (r_end X hP hS) hS.2.2 dX4_joins_105 (hlocks := hlk)
            · rw [if_neg c_11] at h
              refine lv_iload_n hx hb dX4_joins_93 rfl (lv_at hl 0 rfl) ?_
              refine lv_sipush (v := 20045) hx hb dX4_joins_94 (by decide) ?_
              refine lv_icmp_ne (tgt := 104) hx hb dX4_joins_97 (by decide) (fun c_12 => ?_) (fun c_12 => ?_)
              · rw [if_neg c_12] at h
                refine lv_iconst (v := 0) hx hb dX4_joins_104 (by decide) ?_
                obtain rfl := Option.some.inj h
                exact W.zret (v := 0) (ty := .boolean) hx hb hr rfl (r_end X hP hS) hS.2.2 dX4_joins_105 (hlocks := hlk)
              · rw [if_pos c_12] at h
                refine lv_iconst (v := 1) hx hb dX4_joins_100 (by decide) ?_
                refine lv_goto (tgt := 105) hx hb dX4_joins_101 (by decide) ?_
                obtain rfl := Option.some.inj h
                exact W.zret (v := 1) (ty := .boolean) hx hb hr rfl (r_end X hP hS) hS.2.2 dX4_joins_105 (hlocks := hlk)
          · rw [if_neg c_10] at h
            by_cases c_13 : a1 = 4
            · rw [if_pos c_13] at h
              refine lv_tableIn (tgt := 106) (off := 100) hx hb dX4_joins_6 (fun q => c_2 (Or.inl q)) (fun q => c_2 (Or.inr q)) (by rw [c_13]; rfl) (by decide) ?_
              refine lv_iload_n hx hb dX4_joins_106 rfl (lv_at hl 0 rfl) ?_
              refine lv_sipush (v := 20042) hx hb dX4_joins_107 (by decide) ?_
              refine lv_icmp_ne (tgt := 117) hx hb dX4_joins_110 (by decide) (fun c_14 => ?_) (fun c_14 => ?_)
              · rw [if_neg c_14] at h
                refine lv_iconst (v := 0) hx hb dX4_joins_117 (by decide) ?_
                obtain rfl := Option.some.inj h
                exact W.zret (v := 0) (ty := .boolean) hx hb hr rfl (r_end X hP hS) hS.2.2 dX4_joins_118 (hlocks := hlk)
              · rw [if_pos c_14] at h
                refine lv_iconst (v := 1) hx hb dX4_joins_113 (by decide) ?_
                refine lv_goto (tgt := 118) hx hb dX4_joins_114 (by decide) ?_
                obtain rfl := Option.some.inj h
                exact W.zret (v := 1) (ty := .boolean) hx hb hr rfl (r_end X hP hS) hS.2.2 dX4_joins_118 (hlocks := hlk)
            · rw [if_neg c_13] at h
              cases h

def f_X4_chain_22 (recL : Mem → Int32 → Option Mem) (x1_3 : Int32) (x2_4 : Int32) : Nat → Int32 → Mem → Option (Mem)
  | 0, _, _ => none
  | fu_7 + 1, x3_5, M_6 => (if x2_4 ≤ x3_5 then some (M_6) else (Option.bind (f_X4_joins M_6 (x1_3)) fun r_9 => (if r_9 = 0 then some (M_6) else (Option.bind (f_X4_token M_6) fun r_11 => (Option.bind (recL (f_X4_advance M_6) ((x1_3 + 1))) fun r_12 => (if (r_12 107 1).toNatClampNeg < 6 then (Option.bind (f_X5_add r_12 (r_12 107 1).toNatClampNeg (r_11)) fun r_14 => (f_X4_chain_22 recL x1_3 x2_4 fu_7 ((x3_5 + 1)) r_14)) else none))))))
def f_X4_chain (recL : Mem → Int32 → Option Mem) (M : Mem) (a1 : Int32) : Option (Mem) :=
  (Option.bind (recL M ((a1 + 1))) fun r_1 => (if a1 = 2 then (f_X4_chain_22 recL (a1) (1) FU (0) r_1) else (f_X4_chain_22 recL (a1) (160) FU (0) r_1)))
set_option maxRecDepth 100000 in
set_option maxHeartbeats 4000000 in
theorem c_X4_chain (l : Launch) {G : GT} {φ : Nat → Nat} {n : Nat} {M : Mem} {a1 : Int32} {recL : Mem → Int32 → Option Mem} {fL lL : Nat} (hI : wI φ n) (hn8 : 108 ≤ n) (hrecL : ∀ {M : Mem} {a1 : Int32} {r : Mem}, recL M a1 = some r → CT l yX4_level cX4_level 2 none ({ frames := fL, cells := 0, slots := 0, locals := lL } : Room) [.ref (φ 107), .int (a1)] (WB (cX G φ) φ M n G) none (WB (cX G φ) φ r n G) φ n) {r : Mem} (h : f_X4_chain recL M a1 = some r) : CT l yX4_chain cX4_chain 5 none ({ frames := fL + 2, cells := 0, slots := 0, locals := lL + 42 } : Room) [.ref (φ 107), .int (a1)] (WB (cX G φ) φ M n G) (none) (WB (cX G φ) φ (r) n G) φ n := by
  have hn : 107 ≤ n := Nat.le_of_succ_le hn8
  unfold f_X4_chain at h
  refine r_start (plainFor_of_name (by decide)) (Nat.le_of_ble_eq_true rfl) hI ?_
  intro p e s m args below meth c ls X hr hlk hP hl
  have hS : va_S (wA φ n s.heap.size) s.heap s.heap [] := va_S.rf
  have hx := X.1.1
  have hb := X.1.2.1
  have hl : lv_has ls 5 [(0, .ref (φ 107)), (1, .int (a1))] := hl
  have L22 : ∀ (fu_7 : Nat) (M_6 : Mem) (x1_3 : Int32) (x2_4 : Int32) (x3_5 : Int32)  (H : Heap) (locs : List Loc) (ls : Array Slot), va_P G.1 vwCl (wW (cX G φ) φ M_6 n) H → va_S (wA φ n s.heap.size) s.heap H locs → lv_has ls 5 [(0, .ref (φ 107)), (1, .int (x1_3)), (2, .int (x2_4)), (3, .int (x3_5))] → f_X4_chain_22 recL x1_3 x2_4 fu_7 x3_5 M_6 = some r → W p l e ({ frames := fL + 2, cells := 0, slots := 0, locals := lL + 42 } : Room) s m args below meth c H locs 0 0 (MQ below (QQ (none) (WB (cX G φ) φ (r) n G) (wA φ n s.heap.size)) args s 0 0 (wA φ n s.heap.size)) (F0 m 22 ls []) := by
    intro fu_7
    induction fu_7 with
    | zero =>
      intro M_6 x1_3 x2_4 x3_5 H locs ls _ _ _  h
      have h : (none : Option (Mem)) = some r := h
      cases h
    | succ fu_7 ih =>
      intro M_6 x1_3 x2_4 x3_5 H locs ls hP hS hl  h
      rw [f_X4_chain_22] at h
      refine lv_iload_n hx hb dX4_chain_22 rfl (lv_at hl 3 rfl) ?_
      refine lv_iload_n hx hb dX4_chain_23 rfl (lv_at hl 2 rfl) ?_
      refine lv_icmp_ge (tgt := 67) hx hb dX4_chain_24 (by decide) (fun c_8 => ?_) (fun c_8 => ?_)
      · rw [if_pos c_8] at h
        obtain rfl := Option.some.inj h
        exact W.vret hx hb hr (r_end X hP hS) hS.2.2 dX4_chain_67 (hlocks := hlk)
      · rw [if_neg c_8] at h
        refine lv_aload_n hx hb dX4_chain_27 rfl (lv_at hl 0 rfl) ?_
        refine lv_iload_n hx hb dX4_chain_28 rfl (lv_at hl 1 rfl) ?_
        obtain ⟨r_9, hr_9, h⟩ := ob h
        refine c_V0 (As := [.int (x1_3)]) (rest := []) (a := 107) X hl.1 (c_X4_joins l X.2.2.2.1.1 hn8 hr_9) (w_X4_78) qw_558 qw_16 ⟨by (dsimp only; omega), by (dsimp only; omega)⟩ rfl rfl hP hS (by omega) sX_Parser rfl rfl (Nat.le_of_ble_eq_true rfl) dX4_chain_29 (fun H locs hP hS => ?_)
        refine lv_if_eq (tgt := 67) hx hb dX4_chain_32 (by decide) (fun c_10 => ?_) (fun c_10 => ?_)
        · rw [if_pos c_10] at h
          obtain rfl := Option.some.inj h
          exact W.vret hx hb hr (r_end X hP hS) hS.2.2 dX4_chain_67 (hlocks := hlk)
        · rw [if_neg c_10] at h
          refine lv_aload_n hx hb dX4_chain_35 rfl (lv_at hl 0 rfl) ?_
          obtain ⟨r_11, hr_11, h⟩ := ob h
          refine c_V0 (As := []) (rest := []) (a := 107) X hl.1 (c_X4_token l X.2.2.2.1.1 hn8 hr_11) (w_X4_59) qw_514 qw_6 ⟨by (dsimp only; omega), by (dsimp only; omega)⟩ rfl rfl hP hS (by omega) sX_Parser rfl rfl (Nat.le_of_ble_eq_true rfl) dX4_chain_36 (fun H locs hP hS => ?_)
          refine lv_istore (lv' := [(4, .int (r_11)), (0, .ref (φ 107)), (1, .int (x1_3)), (2, .int (x2_4)), (3, .int (x3_5))]) hx hb dX4_chain_39 hl (by decide) rfl (fun ls hl => ?_)
          refine lv_aload_n hx hb dX4_chain_41 rfl (lv_at hl 1 rfl) ?_
          refine c_V0 (As := []) (rest := []) (a := 107) X hl.1 (c_X4_advance l X.2.2.2.1.1 hn8 rfl) (w_X4_63) qw_518 qw_7 ⟨by (dsimp only; omega), by (dsimp only; omega)⟩ rfl rfl hP hS (by omega) sX_Parser rfl rfl (Nat.le_of_ble_eq_true rfl) dX4_chain_42 (fun H locs hP hS => ?_)
          refine lv_aload_n hx hb dX4_chain_45 rfl (lv_at hl 1 rfl) ?_
          refine lv_iload_n hx hb dX4_chain_46 rfl (lv_at hl 2 rfl) ?_
          refine lv_iconst (v := 1) hx hb dX4_chain_47 (by decide) ?_
          refine lv_iadd hx hb dX4_chain_48 ?_
          obtain ⟨r_12, hr_12, h⟩ := ob h
          refine c_V0 (As := [.int ((x1_3 + 1))]) (rest := []) (a := 107) X hl.1 (hrecL hr_12) (w_X4_43) qw_526 qw_9 ⟨by (dsimp only; omega), by (dsimp only; omega)⟩ rfl rfl hP hS (by omega) sX_Parser rfl rfl (Nat.le_of_ble_eq_true rfl) dX4_chain_49 (fun H locs hP hS => ?_)
          refine lv_aload_n hx hb dX4_chain_52 rfl (lv_at hl 1 rfl) ?_
          refine G_X4_25 X.1 hn8 hP dX4_chain_53 ?_
          obtain ⟨c_13, h⟩ := og h
          refine lv_iload hx hb dX4_chain_56 (lv_at hl 0 rfl) ?_
          obtain ⟨r_14, hr_14, h⟩ := ob h
          refine c_V0 (As := [.int (r_11)]) (rest := []) (a := (40 + (r_12 107 1).toNatClampNeg)) X hl.1 (c_X5_add l X.2.2.2.1.1 hn c_13 hr_14) (w_X4_82) qw_533 qw_534 ⟨by (dsimp only; omega), by (dsimp only; omega)⟩ rfl rfl hP hS (by omega) (sX_Rule c_13) rfl rfl (Nat.le_of_ble_eq_true rfl) dX4_chain_58 (fun H locs hP hS => ?_)
          refine lv_iinc (v := (x3_5 + 1)) (lv' := [(3, .int ((x3_5 + 1))), (4, .int (r_11)), (0, .ref (φ 107)), (1, .int (x1_3)), (2, .int (x2_4))]) hx hb dX4_chain_61 hl (k := 4) rfl (by rw [show Int32.ofInt (1) = 1 from by decide]) (by decide) rfl (fun ls hl => ?_)
          refine lv_goto (tgt := 22) hx hb dX4_chain_64 (by decide) ?_
          exact ih _ _ _ _ _ _ _ hP hS (lv_sub hl [2, 3, 4, 0] rfl)  h
  refine lv_aload_n hx hb dX4_chain_0 rfl (lv_at hl 0 rfl) ?_
  refine lv_iload_n hx hb dX4_chain_1 rfl (lv_at hl 1 rfl) ?_
  refine lv_iconst (v := 1) hx hb dX4_chain_2 (by decide) ?_
  refine lv_iadd hx hb dX4_chain_3 ?_
  obtain ⟨r_1, hr_1, h⟩ := ob h
  refine c_V0 (As := [.int ((a1 + 1))]) (rest := []) (a := 107) X hl.1 (hrecL hr_1) (w_X4_43) qw_526 qw_9 ⟨by (dsimp only; omega), by (dsimp only; omega)⟩ rfl rfl hP hS (by omega) sX_Parser rfl rfl (Nat.le_of_ble_eq_true rfl) dX4_chain_4 (fun H locs hP hS => ?_)
  refine lv_iload_n hx hb dX4_chain_7 rfl (lv_at hl 1 rfl) ?_
  refine lv_iconst (v := 2) hx hb dX4_chain_8 (by decide) ?_
  refine lv_icmp_ne (tgt := 16) hx hb dX4_chain_9 (by decide) (fun c_2 => ?_) (fun c_2 => ?_)
  · rw [if_neg c_2] at h
    refine lv_sipush (v := 160) hx hb dX4_chain_16 (by decide) ?_
    refine lv_istore_n (lv' := [(2, .int (160)), (0, .ref (φ 107)), (1, .int (a1))]) hx hb dX4_chain_19 rfl hl (by decide) rfl (fun ls hl => ?_)
    refine lv_iconst (v := 0) hx hb dX4_chain_20 (by decide) ?_
    refine lv_istore_n (lv' := [(3, .int (0)), (2, .int (160)), (0, .ref (φ 107)), (1, .int (a1))]) hx hb dX4_chain_21 rfl hl (by decide) rfl (fun ls hl => ?_)
    refine L22 _ _ _ _ _ _ _ _ hP hS (lv_sub hl [2, 3, 1, 0] rfl)  h
  · rw [if_pos c_2] at h
    refine lv_iconst (v := 1) hx hb dX4_chain_12 (by decide) ?_
    refine lv_goto (tgt := 19) hx hb dX4_chain_13 (by decide) ?_
    refine lv_istore_n (lv' := [(2, .int (1)), (0, .ref (φ 107)), (1, .int (a1))]) hx hb dX4_chain_19 rfl hl (by decide) rfl (fun ls hl => ?_)
    refine lv_iconst (v := 0) hx hb dX4_chain_20 (by decide) ?_
    refine lv_istore_n (lv' := [(3, .int (0)), (2, .int (1)), (0, .ref (φ 107)), (1, .int (a1))]) hx hb dX4_chain_21 rfl hl (by decide) rfl (fun ls hl => ?_)
    refine L22 _ _ _ _ _ _ _ _ hP hS (lv_sub hl [2, 3, 1, 0] rfl)  h

def f_X4_level (recL : Mem → Int32 → Option Mem) (M : Mem) (a1 : Int32) : Option (Mem) :=
  (if a1 < 5 then (if a1 = 2 then (Option.bind (f_X4_token M) fun r_4 => (if r_4 = 20258 then (Option.bind (f_X4_negation recL M) fun r_7 => some (r_7)) else (Option.bind (f_X4_chain recL M (a1)) fun r_6 => some (r_6)))) else (Option.bind (f_X4_chain recL M (a1)) fun r_3 => some (r_3))) else (Option.bind (f_X4_one recL M) fun r_8 => some (r_8)))
set_option maxRecDepth 100000 in
set_option maxHeartbeats 4000000 in
theorem c_X4_level (l : Launch) {G : GT} {φ : Nat → Nat} {n : Nat} {M : Mem} {a1 : Int32} {recL : Mem → Int32 → Option Mem} {fL lL : Nat} (hI : wI φ n) (hn8 : 108 ≤ n) (hrecL : ∀ {M : Mem} {a1 : Int32} {r : Mem}, recL M a1 = some r → CT l yX4_level cX4_level 2 none ({ frames := fL, cells := 0, slots := 0, locals := lL } : Room) [.ref (φ 107), .int (a1)] (WB (cX G φ) φ M n G) none (WB (cX G φ) φ r n G) φ n) {r : Mem} (h : f_X4_level recL M a1 = some r) : CT l yX4_level cX4_level 2 none ({ frames := fL + 4, cells := 0, slots := 0, locals := lL + 82 } : Room) [.ref (φ 107), .int (a1)] (WB (cX G φ) φ M n G) (none) (WB (cX G φ) φ (r) n G) φ n := by
  have hn : 107 ≤ n := Nat.le_of_succ_le hn8
  unfold f_X4_level at h
  refine r_start (plainFor_of_name (by decide)) (Nat.le_of_ble_eq_true rfl) hI ?_
  intro p e s m args below meth c ls X hr hlk hP hl
  have hS : va_S (wA φ n s.heap.size) s.heap s.heap [] := va_S.rf
  have hx := X.1.1
  have hb := X.1.2.1
  have hl : lv_has ls 2 [(0, .ref (φ 107)), (1, .int (a1))] := hl
  refine lv_iload_n hx hb dX4_level_0 rfl (lv_at hl 1 rfl) ?_
  refine lv_iconst (v := 5) hx hb dX4_level_1 (by decide) ?_
  refine lv_icmp_lt (tgt := 12) hx hb dX4_level_2 (by decide) (fun c_1 => ?_) (fun c_1 => ?_)
  · rw [if_pos c_1] at h
    refine lv_iload_n hx hb dX4_level_12 rfl (lv_at hl 1 rfl) ?_
    refine lv_iconst (v := 2) hx hb dX4_level_13 (by decide) ?_
    refine lv_icmp_ne (tgt := 34) hx hb dX4_level_14 (by decide) (fun c_2 => ?_) (fun c_2 => ?_)
    · rw [if_neg c_2] at h
      refine lv_aload_n hx hb dX4_level_34 rfl (lv_at hl 0 rfl) ?_
      refine lv_iload_n hx hb dX4_level_35 rfl (lv_at hl 1 rfl) ?_
      obtain ⟨r_3, hr_3, h⟩ := ob h
      refine c_V0 (As := [.int (a1)]) (rest := []) (a := 107) X hl.1 (c_X4_chain l X.2.2.2.1.1 hn8 hrecL hr_3) (w_X4_75) qw_554 qw_15 ⟨by (dsimp only; omega), by (dsimp only; omega)⟩ rfl rfl hP hS (by omega) sX_Parser rfl rfl (Nat.le_of_ble_eq_true rfl) dX4_level_36 (fun H locs hP hS => ?_)
      obtain rfl := Option.some.inj h
      exact W.vret hx hb hr (r_end X hP hS) hS.2.2 dX4_level_39 (hlocks := hlk)
    · rw [if_pos c_2] at h
      refine lv_aload_n hx hb dX4_level_17 rfl (lv_at hl 0 rfl) ?_
      obtain ⟨r_4, hr_4, h⟩ := ob h
      refine c_V0 (As := []) (rest := []) (a := 107) X hl.1 (c_X4_token l X.2.2.2.1.1 hn8 hr_4) (w_X4_59) qw_514 qw_6 ⟨by (dsimp only; omega), by (dsimp only; omega)⟩ rfl rfl hP hS (by omega) sX_Parser rfl rfl (Nat.le_of_ble_eq_true rfl) dX4_level_18 (fun H locs hP hS => ?_)
      refine lv_sipush (v := 20258) hx hb dX4_level_21 (by decide) ?_
      refine lv_icmp_ne (tgt := 34) hx hb dX4_level_24 (by decide) (fun c_5 => ?_) (fun c_5 => ?_)
      · rw [if_neg c_5] at h
        refine lv_aload_n hx hb dX4_level_34 rfl (lv_at hl 0 rfl) ?_
        refine lv_iload_n hx hb dX4_level_35 rfl (lv_at hl 1 rfl) ?_
        obtain ⟨r_6, hr_6, h⟩ := ob h
        refine c_V0 (As := [.int (a1)]) (rest := []) (a := 107) X hl.1 (c_X4_chain l X.2.2.2.1.1 hn8 hrecL hr_6) (w_X4_75) qw_554 qw_15 ⟨by (dsimp only; omega), by (dsimp only; omega)⟩ rfl rfl hP hS (by omega) sX_Parser rfl rfl (Nat.le_of_ble_eq_true rfl) dX4_level_36 (fun H locs hP hS => ?_)
        obtain rfl := Option.some.inj h
        exact W.vret hx hb hr (r_end X hP hS) hS.2.2 dX4_level_39 (hlocks := hlk)
      · rw [if_pos c_5] at h
        refine lv_aload_n hx hb dX4_level_27 rfl (lv_at hl 0 rfl) ?_
        obtain ⟨r_7, hr_7, h⟩ := ob h
        refine c_V0 (As := []) (rest := []) (a := 107) X hl.1 (c_X4_negation l X.2.2.2.1.1 hn8 hrecL hr_7) (w_X4_72) qw_550 qw_14 ⟨by (dsimp only; omega), by (dsimp only; omega)⟩ rfl rfl hP hS (by omega) sX_Parser rfl rfl (Nat.le_of_ble_eq_true rfl) dX4_level_28 (fun H locs hP hS => ?_)
        refine lv_goto (tgt := 39) hx hb dX4_level_31 (by decide) ?_
        obtain rfl := Option.some.inj h
        exact W.vret hx hb hr (r_end X hP hS) hS.2.2 dX4_level_39 (hlocks := hlk)
  · rw [if_neg c_1] at h
    refine lv_aload_n hx hb dX4_level_5 rfl (lv_at hl 0 rfl) ?_
    obtain ⟨r_8, hr_8, h⟩ := ob h
    refine c_V0 (As := []) (rest := []) (a := 107) X hl.1 (c_X4_one l X.2.2.2.1.1 hn8 hrecL hr_8) (w_X4_69) qw_530 qw_10 ⟨by (dsimp only; omega), by (dsimp only; omega)⟩ rfl rfl hP hS (by omega) sX_Parser rfl rfl (Nat.le_of_ble_eq_true rfl) dX4_level_6 (fun H locs hP hS => ?_)
    refine lv_goto (tgt := 39) hx hb dX4_level_9 (by decide) ?_
    obtain rfl := Option.some.inj h
    exact W.vret hx hb hr (r_end X hP hS) hS.2.2 dX4_level_39 (hlocks := hlk)

def f_J0_coder_7d493 (M : Mem) (k0 : Nat) : Int32 :=
  0
set_option maxRecDepth 100000 in
set_option maxHeartbeats 4000000 in
theorem c_J0_coder_7d493 (l : Launch) {G : GT} {φ : Nat → Nat} {n : Nat} {M : Mem} {sh : ShT} {k0 : Nat} (hI : wI φ n) (hk0 : k0 < 13) {r : Int32} (h : f_J0_coder_7d493 M k0 = r) : CT l yJ0_coder_7d493 cJ0_coder_7d493 1 (some .byte) ({ frames := 0, cells := 0, slots := 0, locals := 0 } : Room) [.ref (saS G k0)] (WB (sh) φ M n G) (some (.int r)) (WB (sh) φ (M) n G) φ n := by
  unfold f_J0_coder_7d493 at h
  refine r_start (by decide +kernel) (Nat.le_of_ble_eq_true rfl) hI ?_
  intro p e s m args below meth c ls X hr hlk hP hl
  have hS : va_S (wA φ n s.heap.size) s.heap s.heap [] := va_S.rf
  have hx := X.1.1
  have hb := X.1.2.1
  have hl : lv_has ls 1 [(0, .ref (saS G k0))] := hl
  refine va_gets hx hb X.2.2.1.1.2.2.2.1 hS X.1.2.2.1 (X.1.2.2.2.1 _ qw_386) (fun _ h => h) dJ0_coder_7d493_0 ?_
  refine lv_if_eq (tgt := 13) hx hb dJ0_coder_7d493_3 (by decide) (fun c => absurd c (by decide)) (fun _ => ?_)
  refine lv_aload_n hx hb dJ0_coder_7d493_6 rfl (lv_at hl 0 rfl) ?_
  refine vk_getf hx hb (X.2.2.1.1.2.2.2.2.2.1 k0 hk0).2.1 hS X.1.2.2.1 (X.1.2.2.2.1 _ qw_1340) (fun _ h => h) dJ0_coder_7d493_7 ?_
  refine lv_goto (tgt := 14) hx hb dJ0_coder_7d493_10 (by decide) ?_
  subst h
  exact W.zret (v := 0) (ty := .byte) hx hb hr rfl (r_end X hP hS) hS.2.2 dJ0_coder_7d493_14 (hlocks := hlk)

def f_J0_length_8abf5 (M : Mem) (k0 : Nat) : Int32 :=
  (((Int32.ofNat (lenS.getD k0 0)) : Int32) >>> ((f_J0_coder_7d493 M k0) &&& 31))
set_option maxRecDepth 100000 in
set_option maxHeartbeats 4000000 in
theorem c_J0_length_8abf5 (l : Launch) {G : GT} {φ : Nat → Nat} {n : Nat} {M : Mem} {sh : ShT} {k0 : Nat} (hI : wI φ n) (hk0 : k0 < 13) {r : Int32} (h : f_J0_length_8abf5 M k0 = r) : CT l yJ0_length_8abf5 cJ0_length_8abf5 1 (some .int) ({ frames := 1, cells := 0, slots := 0, locals := 20 } : Room) [.ref (saS G k0)] (WB (sh) φ M n G) (some (.int r)) (WB (sh) φ (M) n G) φ n := by
  unfold f_J0_length_8abf5 at h
  refine r_start (by decide +kernel) (Nat.le_of_ble_eq_true rfl) hI ?_
  intro p e s m args below meth c ls X hr hlk hP hl
  have hS : va_S (wA φ n s.heap.size) s.heap s.heap [] := va_S.rf
  have hx := X.1.1
  have hb := X.1.2.1
  have hl : lv_has ls 1 [(0, .ref (saS G k0))] := hl
  refine lv_aload_n hx hb dJ0_length_8abf5_0 rfl (lv_at hl 0 rfl) ?_
  refine vk_getf hx hb (X.2.2.1.1.2.2.2.2.2.1 k0 hk0).2.2.1 hS X.1.2.2.1 (X.1.2.2.2.1 _ qw_1339) (fun _ h => h) dJ0_length_8abf5_1 ?_
  refine va_tlen hx hb (X.2.2.1.1.2.2.2.2.2.1 k0 hk0).2.2.2 hS rfl dJ0_length_8abf5_4 ?_
  refine lv_aload_n hx hb dJ0_length_8abf5_5 rfl (lv_at hl 0 rfl) ?_
  refine c_VS0 (As := []) (rest := [.int ((Int32.ofNat (lenS.getD k0 0)))]) (k := k0) X hl.1 (c_J0_coder_7d493 l X.2.2.2.1.1 hk0 rfl) (w_J0_335) qw_383 qw_384 ⟨Nat.le_of_ble_eq_true rfl, Nat.le_of_ble_eq_true rfl⟩ rfl rfl hP hS hk0 rfl (Nat.le_of_ble_eq_true rfl) dJ0_length_8abf5_6 (fun H locs hP hS => ?_)
  refine lv_ishr hx hb dJ0_length_8abf5_9 ?_
  subst h
  exact W.iret hx hb hr (r_end X hP hS) hS.2.2 dJ0_length_8abf5_10 (hlocks := hlk)

def f_J0_isLatin1_aae02 (M : Mem) (k0 : Nat) : Int32 :=
  1
theorem bz_J0_isLatin1_aae02 (M : Mem) (k0 : Nat) : f_J0_isLatin1_aae02 M k0 = 0 ∨ f_J0_isLatin1_aae02 M k0 = 1 := by
  unfold f_J0_isLatin1_aae02
  repeat' (first | exact Or.inl rfl | exact Or.inr rfl | split)
set_option maxRecDepth 100000 in
set_option maxHeartbeats 4000000 in
theorem c_J0_isLatin1_aae02 (l : Launch) {G : GT} {φ : Nat → Nat} {n : Nat} {M : Mem} {sh : ShT} {k0 : Nat} (hI : wI φ n) (hk0 : k0 < 13) {r : Int32} (h : f_J0_isLatin1_aae02 M k0 = r) : CT l yJ0_isLatin1_aae02 cJ0_isLatin1_aae02 1 (some .boolean) ({ frames := 0, cells := 0, slots := 0, locals := 0 } : Room) [.ref (saS G k0)] (WB (sh) φ M n G) (some (.int r)) (WB (sh) φ (M) n G) φ n := by
  unfold f_J0_isLatin1_aae02 at h
  refine r_start (by decide +kernel) (Nat.le_of_ble_eq_true rfl) hI ?_
  intro p e s m args below meth c ls X hr hlk hP hl
  have hS : va_S (wA φ n s.heap.size) s.heap s.heap [] := va_S.rf
  have hx := X.1.1
  have hb := X.1.2.1
  have hl : lv_has ls 1 [(0, .ref (saS G k0))] := hl
  refine va_gets hx hb X.2.2.1.1.2.2.2.1 hS X.1.2.2.1 (X.1.2.2.2.1 _ qw_386) (fun _ h => h) dJ0_isLatin1_aae02_0 ?_
  refine lv_if_eq (tgt := 17) hx hb dJ0_isLatin1_aae02_3 (by decide) (fun c => absurd c (by decide)) (fun _ => ?_)
  refine lv_aload_n hx hb dJ0_isLatin1_aae02_6 rfl (lv_at hl 0 rfl) ?_
  refine vk_getf hx hb (X.2.2.1.1.2.2.2.2.2.1 k0 hk0).2.1 hS X.1.2.2.1 (X.1.2.2.2.1 _ qw_1340) (fun _ h => h) dJ0_isLatin1_aae02_7 ?_
  refine lv_if_ne (tgt := 17) hx hb dJ0_isLatin1_aae02_10 (by decide) (fun c => absurd c (by decide)) (fun _ => ?_)
  refine lv_iconst (v := 1) hx hb dJ0_isLatin1_aae02_13 (by decide) ?_
  refine lv_goto (tgt := 18) hx hb dJ0_isLatin1_aae02_14 (by decide) ?_
  subst h
  exact W.zret (v := 1) (ty := .boolean) hx hb hr rfl (r_end X hP hS) hS.2.2 dJ0_isLatin1_aae02_18 (hlocks := hlk)

def f_J0_checkIndex_df160 (a1 : Int32) (a2 : Int32) : Option (Unit) :=
  (Option.bind (f_J3_checkIndex_8e157 (a1) (a2)) fun r_1 => some (()))
set_option maxRecDepth 100000 in
set_option maxHeartbeats 4000000 in
theorem c_J0_checkIndex_df160 (l : Launch) {G : GT} {φ : Nat → Nat} {n : Nat} {M : Mem} {sh : ShT} {a1 : Int32} {a2 : Int32} (hI : wI φ n) {r : Unit} (h : f_J0_checkIndex_df160 a1 a2 = some r) : CT l yJ0_checkIndex_df160 cJ0_checkIndex_df160 2 none ({ frames := 1, cells := 0, slots := 0, locals := 22 } : Room) [.int (a1), .int (a2)] (WB (sh) φ M n G) (none) (WB (sh) φ (M) n G) φ n := by
  unfold f_J0_checkIndex_df160 at h
  refine r_start (by decide +kernel) (Nat.le_of_ble_eq_true rfl) hI ?_
  intro p e s m args below meth c ls X hr hlk hP hl
  have hS : va_S (wA φ n s.heap.size) s.heap s.heap [] := va_S.rf
  have hx := X.1.1
  have hb := X.1.2.1
  have hl : lv_has ls 2 [(0, .int (a1)), (1, .int (a2))] := hl
  refine lv_iload_n hx hb dJ0_checkIndex_df160_0 rfl (lv_at hl 0 rfl) ?_
  refine lv_iload_n hx hb dJ0_checkIndex_df160_1 rfl (lv_at hl 1 rfl) ?_
  rcases X.2.2.1.1.2.2.2.2.1 with hz | ⟨tz, hz⟩
  · refine va_gets hx hb hz hS X.1.2.2.1 (X.1.2.2.2.1 _ qw_402) (fun _ h => h) dJ0_checkIndex_df160_2 ?_
    obtain ⟨r_1, hr_1, h⟩ := ob h
    refine c_S0 (As := [.int (a1), .int (a2), .null]) (rest := []) X hl.1 (c_J3_checkIndex_8e157_n l X.2.2.2.1.1 hr_1) (w_J0_1059) qw_405 ⟨Nat.le_of_ble_eq_true rfl, Nat.le_of_ble_eq_true rfl⟩ rfl rfl hP hS (Nat.le_of_ble_eq_true rfl) dJ0_checkIndex_df160_5 (fun H locs hP hS => ?_)
    refine lv_pop hx hb dJ0_checkIndex_df160_8 rfl ?_
    obtain rfl := Option.some.inj h
    exact W.vret hx hb hr (r_end X hP hS) hS.2.2 dJ0_checkIndex_df160_9 (hlocks := hlk)
  · refine va_gets hx hb hz hS X.1.2.2.1 (X.1.2.2.2.1 _ qw_402) (fun _ h => h) dJ0_checkIndex_df160_2 ?_
    obtain ⟨r_2, hr_2, h⟩ := ob h
    refine c_S0 (As := [.int (a1), .int (a2), .ref tz]) (rest := []) X hl.1 (c_J3_checkIndex_8e157 l X.2.2.2.1.1 hr_2) (w_J0_1059) qw_405 ⟨Nat.le_of_ble_eq_true rfl, Nat.le_of_ble_eq_true rfl⟩ rfl rfl hP hS (Nat.le_of_ble_eq_true rfl) dJ0_checkIndex_df160_5 (fun H locs hP hS => ?_)
    refine lv_pop hx hb dJ0_checkIndex_df160_8 rfl ?_
    obtain rfl := Option.some.inj h
    exact W.vret hx hb hr (r_end X hP hS) hS.2.2 dJ0_checkIndex_df160_9 (hlocks := hlk)

def f_J1_charAt_3b067 (k1 : Nat) (a2 : Int32) : Option (Int32) :=
  (Option.bind (f_J0_checkIndex_df160 (a2) ((Int32.ofNat (lenS.getD k1 0)))) fun r_1 => (if ibd (a2) (lenS.getD k1 0) then (if narrow .char (.int (((Int32.toUInt32 ((((bytS.getD k1 []).getD (Int32.toNatClampNeg (a2)) 0) &&& 255))) % 65536).toInt32)) = .int (((Int32.toUInt32 ((((bytS.getD k1 []).getD (Int32.toNatClampNeg (a2)) 0) &&& 255))) % 65536).toInt32) then some (((Int32.toUInt32 ((((bytS.getD k1 []).getD (Int32.toNatClampNeg (a2)) 0) &&& 255))) % 65536).toInt32) else none) else none))
set_option maxRecDepth 100000 in
set_option maxHeartbeats 4000000 in
theorem c_J1_charAt_3b067 (l : Launch) {G : GT} {φ : Nat → Nat} {n : Nat} {M : Mem} {sh : ShT} {k1 : Nat} {a2 : Int32} (hI : wI φ n) (hk1 : k1 < 13) {r : Int32} (h : f_J1_charAt_3b067 k1 a2 = some r) : CT l yJ1_charAt_3b067 cJ1_charAt_3b067 2 (some .char) ({ frames := 2, cells := 0, slots := 0, locals := 43 } : Room) [.ref (sbS G k1), .int (a2)] (WB (sh) φ M n G) (some (.int r)) (WB (sh) φ (M) n G) φ n := by
  unfold f_J1_charAt_3b067 at h
  refine r_start (by decide +kernel) (Nat.le_of_ble_eq_true rfl) hI ?_
  intro p e s m args below meth c ls X hr hlk hP hl
  have hS : va_S (wA φ n s.heap.size) s.heap s.heap [] := va_S.rf
  have hx := X.1.1
  have hb := X.1.2.1
  have hl : lv_has ls 2 [(0, .ref (sbS G k1)), (1, .int (a2))] := hl
  refine lv_iload_n hx hb dJ1_charAt_3b067_0 rfl (lv_at hl 1 rfl) ?_
  refine lv_aload_n hx hb dJ1_charAt_3b067_1 rfl (lv_at hl 0 rfl) ?_
  refine va_tlen hx hb (X.2.2.1.1.2.2.2.2.2.1 k1 hk1).2.2.2 hS rfl dJ1_charAt_3b067_2 ?_
  obtain ⟨r_1, hr_1, h⟩ := ob h
  refine c_S0 (As := [.int (a2), .int ((Int32.ofNat (lenS.getD k1 0)))]) (rest := []) X hl.1 (c_J0_checkIndex_df160 l X.2.2.2.1.1 hr_1) (w_J1_9) qw_400 ⟨Nat.le_of_ble_eq_true rfl, Nat.le_of_ble_eq_true rfl⟩ rfl rfl hP hS (Nat.le_of_ble_eq_true rfl) dJ1_charAt_3b067_3 (fun H locs hP hS => ?_)
  refine lv_aload_n hx hb dJ1_charAt_3b067_6 rfl (lv_at hl 0 rfl) ?_
  refine lv_iload_n hx hb dJ1_charAt_3b067_7 rfl (lv_at hl 1 rfl) ?_
  obtain ⟨c_2, h⟩ := og h
  refine va_tb hx hb (X.2.2.1.1.2.2.2.2.2.1 k1 hk1).2.2.2 hS (vin c_2) rfl dJ1_charAt_3b067_8 ?_
  refine lv_sipush (v := 255) hx hb dJ1_charAt_3b067_9 (by decide) ?_
  refine lv_iand hx hb dJ1_charAt_3b067_12 ?_
  refine lv_i2c hx hb dJ1_charAt_3b067_13 rfl ?_
  obtain ⟨c_3, h⟩ := og h
  obtain rfl := Option.some.inj h
  exact W.zret (ty := .char) hx hb hr (ncz c_3) (r_end X hP hS) hS.2.2 dJ1_charAt_3b067_14 (hlocks := hlk)

def f_J0_charAt_5068e (M : Mem) (k0 : Nat) (a1 : Int32) : Option (Int32) :=
  (if (f_J0_isLatin1_aae02 M k0) = 0 then none else (Option.bind (f_J1_charAt_3b067 k0 (a1)) fun r_2 => (if narrow .char (.int (r_2)) = .int (r_2) then some (r_2) else none)))
set_option maxRecDepth 100000 in
set_option maxHeartbeats 4000000 in
theorem c_J0_charAt_5068e (l : Launch) {G : GT} {φ : Nat → Nat} {n : Nat} {M : Mem} {sh : ShT} {k0 : Nat} {a1 : Int32} (hI : wI φ n) (hk0 : k0 < 13) {r : Int32} (h : f_J0_charAt_5068e M k0 a1 = some r) : CT l yJ0_charAt_5068e cJ0_charAt_5068e 2 (some .char) ({ frames := 3, cells := 0, slots := 0, locals := 64 } : Room) [.ref (saS G k0), .int (a1)] (WB (sh) φ M n G) (some (.int r)) (WB (sh) φ (M) n G) φ n := by
  unfold f_J0_charAt_5068e at h
  refine r_start (by decide +kernel) (Nat.le_of_ble_eq_true rfl) hI ?_
  intro p e s m args below meth c ls X hr hlk hP hl
  have hS : va_S (wA φ n s.heap.size) s.heap s.heap [] := va_S.rf
  have hx := X.1.1
  have hb := X.1.2.1
  have hl : lv_has ls 2 [(0, .ref (saS G k0)), (1, .int (a1))] := hl
  refine lv_aload_n hx hb dJ0_charAt_5068e_0 rfl (lv_at hl 0 rfl) ?_
  refine c_VS0 (As := []) (rest := []) (k := k0) X hl.1 (c_J0_isLatin1_aae02 l X.2.2.2.1.1 hk0 rfl) (w_J0_492) qw_393 qw_394 ⟨Nat.le_of_ble_eq_true rfl, Nat.le_of_ble_eq_true rfl⟩ rfl rfl hP hS hk0 rfl (Nat.le_of_ble_eq_true rfl) dJ0_charAt_5068e_1 (fun H locs hP hS => ?_)
  refine lv_if_eq (tgt := 16) hx hb dJ0_charAt_5068e_4 (by decide) (fun c_1 => ?_) (fun c_1 => ?_)
  · rw [if_pos c_1] at h
    refine lv_aload_n hx hb dJ0_charAt_5068e_16 rfl (lv_at hl 0 rfl) ?_
    refine vk_getf hx hb (X.2.2.1.1.2.2.2.2.2.1 k0 hk0).2.2.1 hS X.1.2.2.1 (X.1.2.2.2.1 _ qw_1339) (fun _ h => h) dJ0_charAt_5068e_17 ?_
    refine lv_iload_n hx hb dJ0_charAt_5068e_20 rfl (lv_at hl 1 rfl) ?_
    cases h
  · rw [if_neg c_1] at h
    refine lv_aload_n hx hb dJ0_charAt_5068e_7 rfl (lv_at hl 0 rfl) ?_
    refine vk_getf hx hb (X.2.2.1.1.2.2.2.2.2.1 k0 hk0).2.2.1 hS X.1.2.2.1 (X.1.2.2.2.1 _ qw_1339) (fun _ h => h) dJ0_charAt_5068e_8 ?_
    refine lv_iload_n hx hb dJ0_charAt_5068e_11 rfl (lv_at hl 1 rfl) ?_
    obtain ⟨r_2, hr_2, h⟩ := ob h
    refine c_S0 (As := [.ref (sbS G k0), .int (a1)]) (rest := []) X hl.1 (c_J1_charAt_3b067 l X.2.2.2.1.1 hk0 hr_2) (w_J0_495) qw_397 ⟨Nat.le_of_ble_eq_true rfl, Nat.le_of_ble_eq_true rfl⟩ rfl rfl hP hS (Nat.le_of_ble_eq_true rfl) dJ0_charAt_5068e_12 (fun H locs hP hS => ?_)
    obtain ⟨c_3, h⟩ := og h
    obtain rfl := Option.some.inj h
    exact W.zret (ty := .char) hx hb hr (ncz c_3) (r_end X hP hS) hS.2.2 dJ0_charAt_5068e_15 (hlocks := hlk)

def f_X11_is_28 (M : Mem) (k1_3 : Nat) : Nat → Int32 → Option (Int32)
  | 0, _ => none
  | fu_6 + 1, x2_5 => (if (f_J0_length_8abf5 M k1_3) ≤ x2_5 then some (1) else (if ibd (((M 0 21) + x2_5)) 160 then (Option.bind (f_J0_charAt_5068e M k1_3 (x2_5)) fun r_9 => (if (M 11 (Int32.toNatClampNeg (((M 0 21) + x2_5)))) = r_9 then (f_X11_is_28 M k1_3 fu_6 ((x2_5 + 1))) else some (0))) else none))
def f_X11_is (M : Mem) (k1 : Nat) : Option (Int32) :=
  (if (M 0 22) = 2 then (if ((M 0 20) - (M 0 21)) = (f_J0_length_8abf5 M k1) then (f_X11_is_28 M k1 FU (0)) else some (0)) else some (0))
set_option maxRecDepth 100000 in
set_option maxHeartbeats 4000000 in
theorem c_X11_is (l : Launch) {G : GT} {φ : Nat → Nat} {n : Nat} {M : Mem} {L : Nat → Int64} {k1 : Nat} (hI : wI φ n) (hn : 32 ≤ n) (hk1 : k1 < 13) {r : Int32} (h : f_X11_is M k1 = some r) : CT l yX11_is cX11_is 3 (some .boolean) ({ frames := 4, cells := 0, slots := 0, locals := 85 } : Room) [.ref (φ 0), .ref (saS G k1)] (WB (cM G φ L) φ M n G) (some (.int r)) (WB (cM G φ L) φ (M) n G) φ n := by
  unfold f_X11_is at h
  refine r_start (plainFor_of_name (by decide)) (Nat.le_of_ble_eq_true rfl) hI ?_
  intro p e s m args below meth c ls X hr hlk hP hl
  have hS : va_S (wA φ n s.heap.size) s.heap s.heap [] := va_S.rf
  have hx := X.1.1
  have hb := X.1.2.1
  have hl : lv_has ls 3 [(0, .ref (φ 0)), (1, .ref (saS G k1))] := hl
  have L28 : ∀ (fu_6 : Nat) (k1_3 : Nat) (x2_5 : Int32)  (H : Heap) (locs : List Loc) (ls : Array Slot) (hk_4 : k1_3 < 13), va_P G.1 vwCl (wW (cM G φ L) φ M n) H → va_S (wA φ n s.heap.size) s.heap H locs → lv_has ls 3 [(0, .ref (φ 0)), (1, .ref (saS G k1_3)), (2, .int (x2_5))] → f_X11_is_28 M k1_3 fu_6 x2_5 = some r → W p l e ({ frames := 4, cells := 0, slots := 0, locals := 85 } : Room) s m args below meth c H locs 0 0 (MQ below (QQ (some (.int r)) (WB (cM G φ L) φ (M) n G) (wA φ n s.heap.size)) args s 0 0 (wA φ n s.heap.size)) (F0 m 28 ls []) := by
    intro fu_6
    induction fu_6 with
    | zero =>
      intro k1_3 x2_5 H locs ls hk_4 _ _ _  h
      have h : (none : Option (Int32)) = some r := h
      cases h
    | succ fu_6 ih =>
      intro k1_3 x2_5 H locs ls hk_4 hP hS hl  h
      rw [f_X11_is_28] at h
      refine lv_iload_n hx hb dX11_is_28 rfl (lv_at hl 2 rfl) ?_
      refine lv_aload_n hx hb dX11_is_29 rfl (lv_at hl 1 rfl) ?_
      refine c_VS0 (As := []) (rest := [.int (x2_5)]) (k := k1_3) X hl.1 (c_J0_length_8abf5 l X.2.2.2.1.1 hk_4 rfl) (w_X11_106) qw_379 qw_380 ⟨Nat.le_of_ble_eq_true rfl, Nat.le_of_ble_eq_true rfl⟩ rfl rfl hP hS hk_4 rfl (Nat.le_of_ble_eq_true rfl) dX11_is_30 (fun H locs hP hS => ?_)
      refine lv_icmp_ge (tgt := 63) hx hb dX11_is_33 (by decide) (fun c_7 => ?_) (fun c_7 => ?_)
      · rw [if_pos c_7] at h
        refine lv_iconst (v := 1) hx hb dX11_is_63 (by decide) ?_
        obtain rfl := Option.some.inj h
        exact W.zret (v := 1) (ty := .boolean) hx hb hr rfl (r_end X hP hS) hS.2.2 dX11_is_64 (hlocks := hlk)
      · rw [if_neg c_7] at h
        refine lv_aload_n hx hb dX11_is_36 rfl (lv_at hl 0 rfl) ?_
        refine G_X11_40 X.1 hn hP dX11_is_37 ?_
        refine lv_aload_n hx hb dX11_is_40 rfl (lv_at hl 0 rfl) ?_
        refine G_X11_159 X.1 hn hP dX11_is_41 ?_
        refine lv_iload_n hx hb dX11_is_44 rfl (lv_at hl 2 rfl) ?_
        refine lv_iadd hx hb dX11_is_45 ?_
        obtain ⟨c_8, h⟩ := og h
        refine r_iald (k := (Int32.toNatClampNeg (((M 0 21) + x2_5)))) X.1 hP (by omega) sM_tape rfl (vin c_8) dX11_is_46 ?_
        refine lv_aload_n hx hb dX11_is_47 rfl (lv_at hl 1 rfl) ?_
        refine lv_iload_n hx hb dX11_is_48 rfl (lv_at hl 2 rfl) ?_
        obtain ⟨r_9, hr_9, h⟩ := ob h
        refine c_VS0 (As := [.int (x2_5)]) (rest := [.int ((M 11 (Int32.toNatClampNeg (((M 0 21) + x2_5)))))]) (k := k1_3) X hl.1 (c_J0_charAt_5068e l X.2.2.2.1.1 hk_4 hr_9) (w_X11_112) qw_389 qw_390 ⟨Nat.le_of_ble_eq_true rfl, Nat.le_of_ble_eq_true rfl⟩ rfl rfl hP hS hk_4 rfl (Nat.le_of_ble_eq_true rfl) dX11_is_49 (fun H locs hP hS => ?_)
        refine lv_icmp_eq (tgt := 57) hx hb dX11_is_52 (by decide) (fun c_10 => ?_) (fun c_10 => ?_)
        · rw [if_pos c_10] at h
          refine lv_iinc (v := (x2_5 + 1)) (lv' := [(2, .int ((x2_5 + 1))), (0, .ref (φ 0)), (1, .ref (saS G k1_3))]) hx hb dX11_is_57 hl (k := 2) rfl (by rw [show Int32.ofInt (1) = 1 from by decide]) (by decide) rfl (fun ls hl => ?_)
          refine lv_goto (tgt := 28) hx hb dX11_is_60 (by decide) ?_
          exact ih _ _ _ _ _ hk_4 hP hS (lv_sub hl [1, 2, 0] rfl)  h
        · rw [if_neg c_10] at h
          refine lv_iconst (v := 0) hx hb dX11_is_55 (by decide) ?_
          obtain rfl := Option.some.inj h
          exact W.zret (v := 0) (ty := .boolean) hx hb hr rfl (r_end X hP hS) hS.2.2 dX11_is_56 (hlocks := hlk)
  refine lv_aload_n hx hb dX11_is_0 rfl (lv_at hl 0 rfl) ?_
  refine G_X11_162 X.1 hn hP dX11_is_1 ?_
  refine lv_iconst (v := 2) hx hb dX11_is_4 (by decide) ?_
  refine lv_icmp_ne (tgt := 24) hx hb dX11_is_5 (by decide) (fun c_1 => ?_) (fun c_1 => ?_)
  · rw [if_neg c_1] at h
    refine lv_iconst (v := 0) hx hb dX11_is_24 (by decide) ?_
    obtain rfl := Option.some.inj h
    exact W.zret (v := 0) (ty := .boolean) hx hb hr rfl (r_end X hP hS) hS.2.2 dX11_is_25 (hlocks := hlk)
  · rw [if_pos c_1] at h
    refine lv_aload_n hx hb dX11_is_8 rfl (lv_at hl 0 rfl) ?_
    refine G_X11_156 X.1 hn hP dX11_is_9 ?_
    refine lv_aload_n hx hb dX11_is_12 rfl (lv_at hl 0 rfl) ?_
    refine G_X11_159 X.1 hn hP dX11_is_13 ?_
    refine lv_isub hx hb dX11_is_16 ?_
    refine lv_aload_n hx hb dX11_is_17 rfl (lv_at hl 1 rfl) ?_
    refine c_VS0 (As := []) (rest := [.int (((M 0 20) - (M 0 21)))]) (k := k1) X hl.1 (c_J0_length_8abf5 l X.2.2.2.1.1 hk1 rfl) (w_X11_106) qw_379 qw_380 ⟨Nat.le_of_ble_eq_true rfl, Nat.le_of_ble_eq_true rfl⟩ rfl rfl hP hS hk1 rfl (Nat.le_of_ble_eq_true rfl) dX11_is_18 (fun H locs hP hS => ?_)
    refine lv_icmp_eq (tgt := 26) hx hb dX11_is_21 (by decide) (fun c_2 => ?_) (fun c_2 => ?_)
    · rw [if_pos c_2] at h
      refine lv_iconst (v := 0) hx hb dX11_is_26 (by decide) ?_
      refine lv_istore_n (lv' := [(2, .int (0)), (0, .ref (φ 0)), (1, .ref (saS G k1))]) hx hb dX11_is_27 rfl hl (by decide) rfl (fun ls hl => ?_)
      refine L28 _ _ _ _ _ _ hk1 hP hS (lv_sub hl [1, 2, 0] rfl)  h
    · rw [if_neg c_2] at h
      refine lv_iconst (v := 0) hx hb dX11_is_24 (by decide) ?_
      obtain rfl := Option.some.inj h
      exact W.zret (v := 0) (ty := .boolean) hx hb hr rfl (r_end X hP hS) hS.2.2 dX11_is_25 (hlocks := hlk)

def f_X11_isDigit (a1 : Int32) : Int32 :=
  (if a1 < 48 then 0 else (if 57 < a1 then 0 else 1))
theorem bz_X11_isDigit (a1 : Int32) : f_X11_isDigit a1 = 0 ∨ f_X11_isDigit a1 = 1 := by
  unfold f_X11_isDigit
  repeat' (first | exact Or.inl rfl | exact Or.inr rfl | split)
set_option maxRecDepth 100000 in
set_option maxHeartbeats 4000000 in
theorem c_X11_isDigit (l : Launch) {G : GT} {φ : Nat → Nat} {n : Nat} {M : Mem} {L : Nat → Int64} {a1 : Int32} (hI : wI φ n) (hn : 32 ≤ n) {r : Int32} (h : f_X11_isDigit a1 = r) : CT l yX11_isDigit cX11_isDigit 1 (some .boolean) ({ frames := 0, cells := 0, slots := 0, locals := 0 } : Room) [.int (a1)] (WB (cM G φ L) φ M n G) (some (.int r)) (WB (cM G φ L) φ (M) n G) φ n := by
  unfold f_X11_isDigit at h
  refine r_start (plainFor_of_name (by decide)) (Nat.le_of_ble_eq_true rfl) hI ?_
  intro p e s m args below meth c ls X hr hlk hP hl
  have hS : va_S (wA φ n s.heap.size) s.heap s.heap [] := va_S.rf
  have hx := X.1.1
  have hb := X.1.2.1
  have hl : lv_has ls 1 [(0, .int (a1))] := hl
  refine lv_iload_n hx hb dX11_isDigit_0 rfl (lv_at hl 0 rfl) ?_
  refine lv_bipush (v := 48) hx hb dX11_isDigit_1 (by decide) ?_
  refine lv_icmp_lt (tgt := 16) hx hb dX11_isDigit_3 (by decide) (fun c_1 => ?_) (fun c_1 => ?_)
  · rw [if_pos c_1] at h
    refine lv_iconst (v := 0) hx hb dX11_isDigit_16 (by decide) ?_
    subst h
    exact W.zret (v := 0) (ty := .boolean) hx hb hr rfl (r_end X hP hS) hS.2.2 dX11_isDigit_17 (hlocks := hlk)
  · rw [if_neg c_1] at h
    refine lv_iload_n hx hb dX11_isDigit_6 rfl (lv_at hl 0 rfl) ?_
    refine lv_bipush (v := 57) hx hb dX11_isDigit_7 (by decide) ?_
    refine lv_icmp_gt (tgt := 16) hx hb dX11_isDigit_9 (by decide) (fun c_2 => ?_) (fun c_2 => ?_)
    · rw [if_pos c_2] at h
      refine lv_iconst (v := 0) hx hb dX11_isDigit_16 (by decide) ?_
      subst h
      exact W.zret (v := 0) (ty := .boolean) hx hb hr rfl (r_end X hP hS) hS.2.2 dX11_isDigit_17 (hlocks := hlk)
    · rw [if_neg c_2] at h
      refine lv_iconst (v := 1) hx hb dX11_isDigit_12 (by decide) ?_
      refine lv_goto (tgt := 17) hx hb dX11_isDigit_13 (by decide) ?_
      subst h
      exact W.zret (v := 1) (ty := .boolean) hx hb hr rfl (r_end X hP hS) hS.2.2 dX11_isDigit_17 (hlocks := hlk)

def f_X11_isLetter (a1 : Int32) : Int32 :=
  (if a1 < 97 then 0 else (if 122 < a1 then 0 else 1))
theorem bz_X11_isLetter (a1 : Int32) : f_X11_isLetter a1 = 0 ∨ f_X11_isLetter a1 = 1 := by
  unfold f_X11_isLetter
  repeat' (first | exact Or.inl rfl | exact Or.inr rfl | split)
set_option maxRecDepth 100000 in
set_option maxHeartbeats 4000000 in
theorem c_X11_isLetter (l : Launch) {G : GT} {φ : Nat → Nat} {n : Nat} {M : Mem} {L : Nat → Int64} {a1 : Int32} (hI : wI φ n) (hn : 32 ≤ n) {r : Int32} (h : f_X11_isLetter a1 = r) : CT l yX11_isLetter cX11_isLetter 1 (some .boolean) ({ frames := 0, cells := 0, slots := 0, locals := 0 } : Room) [.int (a1)] (WB (cM G φ L) φ M n G) (some (.int r)) (WB (cM G φ L) φ (M) n G) φ n := by
  unfold f_X11_isLetter at h
  refine r_start (plainFor_of_name (by decide)) (Nat.le_of_ble_eq_true rfl) hI ?_
  intro p e s m args below meth c ls X hr hlk hP hl
  have hS : va_S (wA φ n s.heap.size) s.heap s.heap [] := va_S.rf
  have hx := X.1.1
  have hb := X.1.2.1
  have hl : lv_has ls 1 [(0, .int (a1))] := hl
  refine lv_iload_n hx hb dX11_isLetter_0 rfl (lv_at hl 0 rfl) ?_
  refine lv_bipush (v := 97) hx hb dX11_isLetter_1 (by decide) ?_
  refine lv_icmp_lt (tgt := 16) hx hb dX11_isLetter_3 (by decide) (fun c_1 => ?_) (fun c_1 => ?_)
  · rw [if_pos c_1] at h
    refine lv_iconst (v := 0) hx hb dX11_isLetter_16 (by decide) ?_
    subst h
    exact W.zret (v := 0) (ty := .boolean) hx hb hr rfl (r_end X hP hS) hS.2.2 dX11_isLetter_17 (hlocks := hlk)
  · rw [if_neg c_1] at h
    refine lv_iload_n hx hb dX11_isLetter_6 rfl (lv_at hl 0 rfl) ?_
    refine lv_bipush (v := 122) hx hb dX11_isLetter_7 (by decide) ?_
    refine lv_icmp_gt (tgt := 16) hx hb dX11_isLetter_9 (by decide) (fun c_2 => ?_) (fun c_2 => ?_)
    · rw [if_pos c_2] at h
      refine lv_iconst (v := 0) hx hb dX11_isLetter_16 (by decide) ?_
      subst h
      exact W.zret (v := 0) (ty := .boolean) hx hb hr rfl (r_end X hP hS) hS.2.2 dX11_isLetter_17 (hlocks := hlk)
    · rw [if_neg c_2] at h
      refine lv_iconst (v := 1) hx hb dX11_isLetter_12 (by decide) ?_
      refine lv_goto (tgt := 17) hx hb dX11_isLetter_13 (by decide) ?_
      subst h
      exact W.zret (v := 1) (ty := .boolean) hx hb hr rfl (r_end X hP hS) hS.2.2 dX11_isLetter_17 (hlocks := hlk)

def f_X11_next_0 (k52 : Mem → Option (Mem)) : Nat → Mem → Option (Mem)
  | 0, _ => none
  | fu_2 + 1, M_1 => (if (M_1 0 13) ≤ (M_1 0 20) then (k52 M_1) else (if ibd ((M_1 0 20)) 160 then (if (M_1 11 (Int32.toNatClampNeg ((M_1 0 20)))) = 32 then (f_X11_next_0 k52 fu_2 (upd2 M_1 0 20 (((M_1 0 20) + 1)))) else (if ibd ((M_1 0 20)) 160 then (if (M_1 11 (Int32.toNatClampNeg ((M_1 0 20)))) = 10 then (f_X11_next_0 k52 fu_2 (upd2 M_1 0 20 (((M_1 0 20) + 1)))) else (k52 M_1)) else none)) else none))
def f_X11_next_205 : Nat → Mem → Option (Mem)
  | 0, _ => none
  | fu_23 + 1, M_22 => (if (M_22 0 13) ≤ (M_22 0 20) then some ((upd2 M_22 0 22 (2))) else (if ibd ((M_22 0 20)) 160 then (if (f_X11_isLetter ((M_22 11 (Int32.toNatClampNeg ((M_22 0 20)))))) = 0 then some ((upd2 M_22 0 22 (2))) else (f_X11_next_205 fu_23 (upd2 M_22 0 20 (((M_22 0 20) + 1))))) else none))
def f_X11_next_99 : Nat → Mem → Option (Mem)
  | 0, _ => none
  | fu_28 + 1, M_27 => (if (M_27 0 13) ≤ (M_27 0 20) then (if ((M_27 0 20) - (M_27 0 21)) ≤ 4 then some ((upd2 M_27 0 22 (1))) else some ((upd2 M_27 0 22 (4)))) else (if ibd ((M_27 0 20)) 160 then (if (f_X11_isDigit ((M_27 11 (Int32.toNatClampNeg ((M_27 0 20)))))) = 0 then (if ((M_27 0 20) - (M_27 0 21)) ≤ 4 then some ((upd2 M_27 0 22 (1))) else some ((upd2 M_27 0 22 (4)))) else (if 4 ≤ ((M_27 0 20) - (M_27 0 21)) then (f_X11_next_99 fu_28 (upd2 M_27 0 20 (((M_27 0 20) + 1)))) else (if ibd ((M_27 0 20)) 160 then (f_X11_next_99 fu_28 (upd2 (upd2 M_27 0 23 ((((10 * (M_27 0 23)) + (M_27 11 (Int32.toNatClampNeg ((M_27 0 20))))) - 48))) 0 20 ((((upd2 M_27 0 23 ((((10 * (M_27 0 23)) + (M_27 11 (Int32.toNatClampNeg ((M_27 0 20))))) - 48))) 0 20) + 1)))) else none))) else none))
def f_X11_next (M : Mem) : Option (Mem) :=
  (f_X11_next_0 (fun M_9 => (if ((upd2 M_9 0 21 ((M_9 0 20))) 0 20) = ((upd2 M_9 0 21 ((M_9 0 20))) 0 13) then some ((upd2 (upd2 M_9 0 21 ((M_9 0 20))) 0 22 (0))) else (if ibd (((upd2 M_9 0 21 ((M_9 0 20))) 0 20)) 160 then (if (f_X11_isDigit (((upd2 M_9 0 21 ((M_9 0 20))) 11 (Int32.toNatClampNeg (((upd2 M_9 0 21 ((M_9 0 20))) 0 20)))))) = 0 then (if (f_X11_isLetter (((upd2 M_9 0 21 ((M_9 0 20))) 11 (Int32.toNatClampNeg (((upd2 M_9 0 21 ((M_9 0 20))) 0 20)))))) = 0 then (if ((upd2 M_9 0 21 ((M_9 0 20))) 11 (Int32.toNatClampNeg (((upd2 M_9 0 21 ((M_9 0 20))) 0 20)))) = 40 then some ((upd2 (upd2 (upd2 (upd2 M_9 0 21 ((M_9 0 20))) 0 20 ((((upd2 M_9 0 21 ((M_9 0 20))) 0 20) + 1))) 0 23 (((upd2 M_9 0 21 ((M_9 0 20))) 11 (Int32.toNatClampNeg (((upd2 M_9 0 21 ((M_9 0 20))) 0 20)))))) 0 22 (3))) else (if ((upd2 M_9 0 21 ((M_9 0 20))) 11 (Int32.toNatClampNeg (((upd2 M_9 0 21 ((M_9 0 20))) 0 20)))) = 41 then some ((upd2 (upd2 (upd2 (upd2 M_9 0 21 ((M_9 0 20))) 0 20 ((((upd2 M_9 0 21 ((M_9 0 20))) 0 20) + 1))) 0 23 (((upd2 M_9 0 21 ((M_9 0 20))) 11 (Int32.toNatClampNeg (((upd2 M_9 0 21 ((M_9 0 20))) 0 20)))))) 0 22 (3))) else (if ((upd2 M_9 0 21 ((M_9 0 20))) 11 (Int32.toNatClampNeg (((upd2 M_9 0 21 ((M_9 0 20))) 0 20)))) = 59 then some ((upd2 (upd2 (upd2 (upd2 M_9 0 21 ((M_9 0 20))) 0 20 ((((upd2 M_9 0 21 ((M_9 0 20))) 0 20) + 1))) 0 23 (((upd2 M_9 0 21 ((M_9 0 20))) 11 (Int32.toNatClampNeg (((upd2 M_9 0 21 ((M_9 0 20))) 0 20)))))) 0 22 (3))) else (if ((upd2 M_9 0 21 ((M_9 0 20))) 11 (Int32.toNatClampNeg (((upd2 M_9 0 21 ((M_9 0 20))) 0 20)))) = 43 then some ((upd2 (upd2 (upd2 (upd2 M_9 0 21 ((M_9 0 20))) 0 20 ((((upd2 M_9 0 21 ((M_9 0 20))) 0 20) + 1))) 0 23 (((upd2 M_9 0 21 ((M_9 0 20))) 11 (Int32.toNatClampNeg (((upd2 M_9 0 21 ((M_9 0 20))) 0 20)))))) 0 22 (3))) else (if ((upd2 M_9 0 21 ((M_9 0 20))) 11 (Int32.toNatClampNeg (((upd2 M_9 0 21 ((M_9 0 20))) 0 20)))) = 45 then some ((upd2 (upd2 (upd2 (upd2 M_9 0 21 ((M_9 0 20))) 0 20 ((((upd2 M_9 0 21 ((M_9 0 20))) 0 20) + 1))) 0 23 (((upd2 M_9 0 21 ((M_9 0 20))) 11 (Int32.toNatClampNeg (((upd2 M_9 0 21 ((M_9 0 20))) 0 20)))))) 0 22 (3))) else (if ((upd2 M_9 0 21 ((M_9 0 20))) 11 (Int32.toNatClampNeg (((upd2 M_9 0 21 ((M_9 0 20))) 0 20)))) = 42 then some ((upd2 (upd2 (upd2 (upd2 M_9 0 21 ((M_9 0 20))) 0 20 ((((upd2 M_9 0 21 ((M_9 0 20))) 0 20) + 1))) 0 23 (((upd2 M_9 0 21 ((M_9 0 20))) 11 (Int32.toNatClampNeg (((upd2 M_9 0 21 ((M_9 0 20))) 0 20)))))) 0 22 (3))) else (if ((upd2 M_9 0 21 ((M_9 0 20))) 11 (Int32.toNatClampNeg (((upd2 M_9 0 21 ((M_9 0 20))) 0 20)))) = 60 then some ((upd2 (upd2 (upd2 (upd2 M_9 0 21 ((M_9 0 20))) 0 20 ((((upd2 M_9 0 21 ((M_9 0 20))) 0 20) + 1))) 0 23 (((upd2 M_9 0 21 ((M_9 0 20))) 11 (Int32.toNatClampNeg (((upd2 M_9 0 21 ((M_9 0 20))) 0 20)))))) 0 22 (3))) else (if ((upd2 M_9 0 21 ((M_9 0 20))) 11 (Int32.toNatClampNeg (((upd2 M_9 0 21 ((M_9 0 20))) 0 20)))) = 61 then some ((upd2 (upd2 (upd2 (upd2 M_9 0 21 ((M_9 0 20))) 0 20 ((((upd2 M_9 0 21 ((M_9 0 20))) 0 20) + 1))) 0 23 (((upd2 M_9 0 21 ((M_9 0 20))) 11 (Int32.toNatClampNeg (((upd2 M_9 0 21 ((M_9 0 20))) 0 20)))))) 0 22 (3))) else some ((upd2 (upd2 (upd2 (upd2 M_9 0 21 ((M_9 0 20))) 0 20 ((((upd2 M_9 0 21 ((M_9 0 20))) 0 20) + 1))) 0 23 (((upd2 M_9 0 21 ((M_9 0 20))) 11 (Int32.toNatClampNeg (((upd2 M_9 0 21 ((M_9 0 20))) 0 20)))))) 0 22 (4))))))))))) else (f_X11_next_205 FU (upd2 M_9 0 21 ((M_9 0 20))))) else (f_X11_next_99 FU (upd2 (upd2 M_9 0 21 ((M_9 0 20))) 0 23 (0)))) else none))) FU M)
set_option maxRecDepth 100000 in
set_option maxHeartbeats 4000000 in
theorem c_X11_next (l : Launch) {G : GT} {φ : Nat → Nat} {n : Nat} {M : Mem} {L : Nat → Int64} (hI : wI φ n) (hn : 32 ≤ n) {r : Mem} (h : f_X11_next M = some r) : CT l yX11_next cX11_next 2 none ({ frames := 1, cells := 0, slots := 0, locals := 20 } : Room) [.ref (φ 0)] (WB (cM G φ L) φ M n G) (none) (WB (cM G φ L) φ (r) n G) φ n := by
  unfold f_X11_next at h
  refine r_start (plainFor_of_name (by decide)) (Nat.le_of_ble_eq_true rfl) hI ?_
  intro p e s m args below meth c ls X hr hlk hP hl
  have hS : va_S (wA φ n s.heap.size) s.heap s.heap [] := va_S.rf
  have hx := X.1.1
  have hb := X.1.2.1
  have hl : lv_has ls 2 [(0, .ref (φ 0))] := hl
  have L0 : ∀ (fu_2 : Nat) (M_1 : Mem) (k52 : Mem → Option (Mem))  (H : Heap) (locs : List Loc) (ls : Array Slot), va_P G.1 vwCl (wW (cM G φ L) φ M_1 n) H → va_S (wA φ n s.heap.size) s.heap H locs → lv_has ls 2 [(0, .ref (φ 0))] → (∀ (M_8 : Mem) (H : Heap) (locs : List Loc) (ls : Array Slot), va_P G.1 vwCl (wW (cM G φ L) φ M_8 n) H → va_S (wA φ n s.heap.size) s.heap H locs → lv_has ls 2 [(0, .ref (φ 0))] → k52 M_8 = some r → W p l e ({ frames := 1, cells := 0, slots := 0, locals := 20 } : Room) s m args below meth c H locs 0 0 (MQ below (QQ (none) (WB (cM G φ L) φ (r) n G) (wA φ n s.heap.size)) args s 0 0 (wA φ n s.heap.size)) (F0 m 52 ls [])) → f_X11_next_0 k52 fu_2 M_1 = some r → W p l e ({ frames := 1, cells := 0, slots := 0, locals := 20 } : Room) s m args below meth c H locs 0 0 (MQ below (QQ (none) (WB (cM G φ L) φ (r) n G) (wA φ n s.heap.size)) args s 0 0 (wA φ n s.heap.size)) (F0 m 0 ls []) := by
    intro fu_2
    induction fu_2 with
    | zero =>
      intro M_1 k52 H locs ls _ _ _ _ h
      have h : (none : Option (Mem)) = some r := h
      cases h
    | succ fu_2 ih =>
      intro M_1 k52 H locs ls hP hS hl hk52 h
      rw [f_X11_next_0] at h
      refine lv_aload_n hx hb dX11_next_0 rfl (lv_at hl 0 rfl) ?_
      refine G_X11_156 X.1 hn hP dX11_next_1 ?_
      refine lv_aload_n hx hb dX11_next_4 rfl (lv_at hl 0 rfl) ?_
      refine G_X11_153 X.1 hn hP dX11_next_5 ?_
      refine lv_icmp_ge (tgt := 52) hx hb dX11_next_8 (by decide) (fun c_3 => ?_) (fun c_3 => ?_)
      · rw [if_pos c_3] at h
        exact hk52 _ _ _ _ hP hS (lv_sub hl [0] rfl) h
      · rw [if_neg c_3] at h
        refine lv_aload_n hx hb dX11_next_11 rfl (lv_at hl 0 rfl) ?_
        refine G_X11_40 X.1 hn hP dX11_next_12 ?_
        refine lv_aload_n hx hb dX11_next_15 rfl (lv_at hl 0 rfl) ?_
        refine G_X11_156 X.1 hn hP dX11_next_16 ?_
        obtain ⟨c_4, h⟩ := og h
        refine r_iald (k := (Int32.toNatClampNeg ((M_1 0 20)))) X.1 hP (by omega) sM_tape rfl (vin c_4) dX11_next_19 ?_
        refine lv_bipush (v := 32) hx hb dX11_next_20 (by decide) ?_
        refine lv_icmp_eq (tgt := 39) hx hb dX11_next_22 (by decide) (fun c_5 => ?_) (fun c_5 => ?_)
        · rw [if_pos c_5] at h
          refine lv_aload_n hx hb dX11_next_39 rfl (lv_at hl 0 rfl) ?_
          refine lv_dup hx hb dX11_next_40 rfl ?_
          refine G_X11_156 X.1 hn hP dX11_next_41 ?_
          refine lv_iconst (v := 1) hx hb dX11_next_44 (by decide) ?_
          refine lv_iadd hx hb dX11_next_45 ?_
          refine P_X11_156 X.1 hn X.2.2.2.1 hP hS dX11_next_46 (fun H locs hP hS => ?_)
          refine lv_goto (tgt := 0) hx hb dX11_next_49 (by decide) ?_
          exact ih _ _ _ _ _ hP hS (lv_sub hl [0] rfl) hk52 h
        · rw [if_neg c_5] at h
          refine lv_aload_n hx hb dX11_next_25 rfl (lv_at hl 0 rfl) ?_
          refine G_X11_40 X.1 hn hP dX11_next_26 ?_
          refine lv_aload_n hx hb dX11_next_29 rfl (lv_at hl 0 rfl) ?_
          refine G_X11_156 X.1 hn hP dX11_next_30 ?_
          obtain ⟨c_6, h⟩ := og h
          refine r_iald (k := (Int32.toNatClampNeg ((M_1 0 20)))) X.1 hP (by omega) sM_tape rfl (vin c_6) dX11_next_33 ?_
          refine lv_bipush (v := 10) hx hb dX11_next_34 (by decide) ?_
          refine lv_icmp_ne (tgt := 52) hx hb dX11_next_36 (by decide) (fun c_7 => ?_) (fun c_7 => ?_)
          · rw [if_neg c_7] at h
            exact hk52 _ _ _ _ hP hS (lv_sub hl [0] rfl) h
          · rw [if_pos c_7] at h
            refine lv_aload_n hx hb dX11_next_39 rfl (lv_at hl 0 rfl) ?_
            refine lv_dup hx hb dX11_next_40 rfl ?_
            refine G_X11_156 X.1 hn hP dX11_next_41 ?_
            refine lv_iconst (v := 1) hx hb dX11_next_44 (by decide) ?_
            refine lv_iadd hx hb dX11_next_45 ?_
            refine P_X11_156 X.1 hn X.2.2.2.1 hP hS dX11_next_46 (fun H locs hP hS => ?_)
            refine lv_goto (tgt := 0) hx hb dX11_next_49 (by decide) ?_
            exact ih _ _ _ _ _ hP hS (lv_sub hl [0] rfl) hk52 h
  have L205 : ∀ (fu_23 : Nat) (M_22 : Mem)  (H : Heap) (locs : List Loc) (ls : Array Slot), va_P G.1 vwCl (wW (cM G φ L) φ M_22 n) H → va_S (wA φ n s.heap.size) s.heap H locs → lv_has ls 2 [(0, .ref (φ 0))] → f_X11_next_205 fu_23 M_22 = some r → W p l e ({ frames := 1, cells := 0, slots := 0, locals := 20 } : Room) s m args below meth c H locs 0 0 (MQ below (QQ (none) (WB (cM G φ L) φ (r) n G) (wA φ n s.heap.size)) args s 0 0 (wA φ n s.heap.size)) (F0 m 205 ls []) := by
    intro fu_23
    induction fu_23 with
    | zero =>
      intro M_22 H locs ls _ _ _  h
      have h : (none : Option (Mem)) = some r := h
      cases h
    | succ fu_23 ih =>
      intro M_22 H locs ls hP hS hl  h
      rw [f_X11_next_205] at h
      refine lv_aload_n hx hb dX11_next_205 rfl (lv_at hl 0 rfl) ?_
      refine G_X11_156 X.1 hn hP dX11_next_206 ?_
      refine lv_aload_n hx hb dX11_next_209 rfl (lv_at hl 0 rfl) ?_
      refine G_X11_153 X.1 hn hP dX11_next_210 ?_
      refine lv_icmp_ge (tgt := 244) hx hb dX11_next_213 (by decide) (fun c_24 => ?_) (fun c_24 => ?_)
      · rw [if_pos c_24] at h
        refine lv_aload_n hx hb dX11_next_244 rfl (lv_at hl 0 rfl) ?_
        refine lv_iconst (v := 2) hx hb dX11_next_245 (by decide) ?_
        refine P_X11_162 X.1 hn X.2.2.2.1 hP hS dX11_next_246 (fun H locs hP hS => ?_)
        obtain rfl := Option.some.inj h
        exact W.vret hx hb hr (r_end X hP hS) hS.2.2 dX11_next_249 (hlocks := hlk)
      · rw [if_neg c_24] at h
        refine lv_aload_n hx hb dX11_next_216 rfl (lv_at hl 0 rfl) ?_
        refine G_X11_40 X.1 hn hP dX11_next_217 ?_
        refine lv_aload_n hx hb dX11_next_220 rfl (lv_at hl 0 rfl) ?_
        refine G_X11_156 X.1 hn hP dX11_next_221 ?_
        obtain ⟨c_25, h⟩ := og h
        refine r_iald (k := (Int32.toNatClampNeg ((M_22 0 20)))) X.1 hP (by omega) sM_tape rfl (vin c_25) dX11_next_224 ?_
        refine c_S0 (As := [.int ((M_22 11 (Int32.toNatClampNeg ((M_22 0 20)))))]) (rest := []) X hl.1 (c_X11_isLetter l X.2.2.2.1.1 hn rfl) (w_X11_171) qw_947 ⟨Nat.le_of_ble_eq_true rfl, Nat.le_of_ble_eq_true rfl⟩ rfl rfl hP hS (Nat.le_of_ble_eq_true rfl) dX11_next_225 (fun H locs hP hS => ?_)
        refine lv_if_eq (tgt := 244) hx hb dX11_next_228 (by decide) (fun c_26 => ?_) (fun c_26 => ?_)
        · rw [if_pos c_26] at h
          refine lv_aload_n hx hb dX11_next_244 rfl (lv_at hl 0 rfl) ?_
          refine lv_iconst (v := 2) hx hb dX11_next_245 (by decide) ?_
          refine P_X11_162 X.1 hn X.2.2.2.1 hP hS dX11_next_246 (fun H locs hP hS => ?_)
          obtain rfl := Option.some.inj h
          exact W.vret hx hb hr (r_end X hP hS) hS.2.2 dX11_next_249 (hlocks := hlk)
        · rw [if_neg c_26] at h
          refine lv_aload_n hx hb dX11_next_231 rfl (lv_at hl 0 rfl) ?_
          refine lv_dup hx hb dX11_next_232 rfl ?_
          refine G_X11_156 X.1 hn hP dX11_next_233 ?_
          refine lv_iconst (v := 1) hx hb dX11_next_236 (by decide) ?_
          refine lv_iadd hx hb dX11_next_237 ?_
          refine P_X11_156 X.1 hn X.2.2.2.1 hP hS dX11_next_238 (fun H locs hP hS => ?_)
          refine lv_goto (tgt := 205) hx hb dX11_next_241 (by decide) ?_
          exact ih _ _ _ _ hP hS (lv_sub hl [0] rfl)  h
  have L99 : ∀ (fu_28 : Nat) (M_27 : Mem)  (H : Heap) (locs : List Loc) (ls : Array Slot), va_P G.1 vwCl (wW (cM G φ L) φ M_27 n) H → va_S (wA φ n s.heap.size) s.heap H locs → lv_has ls 2 [(0, .ref (φ 0))] → f_X11_next_99 fu_28 M_27 = some r → W p l e ({ frames := 1, cells := 0, slots := 0, locals := 20 } : Room) s m args below meth c H locs 0 0 (MQ below (QQ (none) (WB (cM G φ L) φ (r) n G) (wA φ n s.heap.size)) args s 0 0 (wA φ n s.heap.size)) (F0 m 99 ls []) := by
    intro fu_28
    induction fu_28 with
    | zero =>
      intro M_27 H locs ls _ _ _  h
      have h : (none : Option (Mem)) = some r := h
      cases h
    | succ fu_28 ih =>
      intro M_27 H locs ls hP hS hl  h
      rw [f_X11_next_99] at h
      refine lv_aload_n hx hb dX11_next_99 rfl (lv_at hl 0 rfl) ?_
      refine G_X11_156 X.1 hn hP dX11_next_100 ?_
      refine lv_aload_n hx hb dX11_next_103 rfl (lv_at hl 0 rfl) ?_
      refine G_X11_153 X.1 hn hP dX11_next_104 ?_
      refine lv_icmp_ge (tgt := 175) hx hb dX11_next_107 (by decide) (fun c_29 => ?_) (fun c_29 => ?_)
      · rw [if_pos c_29] at h
        refine lv_aload_n hx hb dX11_next_175 rfl (lv_at hl 0 rfl) ?_
        refine lv_aload_n hx hb dX11_next_176 rfl (lv_at hl 0 rfl) ?_
        refine G_X11_156 X.1 hn hP dX11_next_177 ?_
        refine lv_aload_n hx hb dX11_next_180 rfl (lv_at hl 0 rfl) ?_
        refine G_X11_159 X.1 hn hP dX11_next_181 ?_
        refine lv_isub hx hb dX11_next_184 ?_
        refine lv_iconst (v := 4) hx hb dX11_next_185 (by decide) ?_
        refine lv_icmp_le (tgt := 193) hx hb dX11_next_186 (by decide) (fun c_30 => ?_) (fun c_30 => ?_)
        · rw [if_pos c_30] at h
          refine lv_iconst (v := 1) hx hb dX11_next_193 (by decide) ?_
          refine P_X11_162 X.1 hn X.2.2.2.1 hP hS dX11_next_194 (fun H locs hP hS => ?_)
          obtain rfl := Option.some.inj h
          exact W.vret hx hb hr (r_end X hP hS) hS.2.2 dX11_next_197 (hlocks := hlk)
        · rw [if_neg c_30] at h
          refine lv_iconst (v := 4) hx hb dX11_next_189 (by decide) ?_
          refine lv_goto (tgt := 194) hx hb dX11_next_190 (by decide) ?_
          refine P_X11_162 X.1 hn X.2.2.2.1 hP hS dX11_next_194 (fun H locs hP hS => ?_)
          obtain rfl := Option.some.inj h
          exact W.vret hx hb hr (r_end X hP hS) hS.2.2 dX11_next_197 (hlocks := hlk)
      · rw [if_neg c_29] at h
        refine lv_aload_n hx hb dX11_next_110 rfl (lv_at hl 0 rfl) ?_
        refine G_X11_40 X.1 hn hP dX11_next_111 ?_
        refine lv_aload_n hx hb dX11_next_114 rfl (lv_at hl 0 rfl) ?_
        refine G_X11_156 X.1 hn hP dX11_next_115 ?_
        obtain ⟨c_31, h⟩ := og h
        refine r_iald (k := (Int32.toNatClampNeg ((M_27 0 20)))) X.1 hP (by omega) sM_tape rfl (vin c_31) dX11_next_118 ?_
        refine c_S0 (As := [.int ((M_27 11 (Int32.toNatClampNeg ((M_27 0 20)))))]) (rest := []) X hl.1 (c_X11_isDigit l X.2.2.2.1.1 hn rfl) (w_X11_165) qw_944 ⟨Nat.le_of_ble_eq_true rfl, Nat.le_of_ble_eq_true rfl⟩ rfl rfl hP hS (Nat.le_of_ble_eq_true rfl) dX11_next_119 (fun H locs hP hS => ?_)
        refine lv_if_eq (tgt := 175) hx hb dX11_next_122 (by decide) (fun c_32 => ?_) (fun c_32 => ?_)
        · rw [if_pos c_32] at h
          refine lv_aload_n hx hb dX11_next_175 rfl (lv_at hl 0 rfl) ?_
          refine lv_aload_n hx hb dX11_next_176 rfl (lv_at hl 0 rfl) ?_
          refine G_X11_156 X.1 hn hP dX11_next_177 ?_
          refine lv_aload_n hx hb dX11_next_180 rfl (lv_at hl 0 rfl) ?_
          refine G_X11_159 X.1 hn hP dX11_next_181 ?_
          refine lv_isub hx hb dX11_next_184 ?_
          refine lv_iconst (v := 4) hx hb dX11_next_185 (by decide) ?_
          refine lv_icmp_le (tgt := 193) hx hb dX11_next_186 (by decide) (fun c_33 => ?_) (fun c_33 => ?_)
          · rw [if_pos c_33] at h
            refine lv_iconst (v := 1) hx hb dX11_next_193 (by decide) ?_
            refine P_X11_162 X.1 hn X.2.2.2.1 hP hS dX11_next_194 (fun H locs hP hS => ?_)
            obtain rfl := Option.some.inj h
            exact W.vret hx hb hr (r_end X hP hS) hS.2.2 dX11_next_197 (hlocks := hlk)
          · rw [if_neg c_33] at h
            refine lv_iconst (v := 4) hx hb dX11_next_189 (by decide) ?_
            refine lv_goto (tgt := 194) hx hb dX11_next_190 (by decide) ?_
            refine P_X11_162 X.1 hn X.2.2.2.1 hP hS dX11_next_194 (fun H locs hP hS => ?_)
            obtain rfl := Option.some.inj h
            exact W.vret hx hb hr (r_end X hP hS) hS.2.2 dX11_next_197 (hlocks := hlk)
        · rw [if_neg c_32] at h
          refine lv_aload_n hx hb dX11_next_125 rfl (lv_at hl 0 rfl) ?_
          refine G_X11_156 X.1 hn hP dX11_next_126 ?_
          refine lv_aload_n hx hb dX11_next_129 rfl (lv_at hl 0 rfl) ?_
          refine G_X11_159 X.1 hn hP dX11_next_130 ?_
          refine lv_isub hx hb dX11_next_133 ?_
          refine lv_iconst (v := 4) hx hb dX11_next_134 (by decide) ?_
          refine lv_icmp_ge (tgt := 162) hx hb dX11_next_135 (by decide) (fun c_34 => ?_) (fun c_34 => ?_)
          · rw [if_pos c_34] at h
            refine lv_aload_n hx hb dX11_next_162 rfl (lv_at hl 0 rfl) ?_
            refine lv_dup hx hb dX11_next_163 rfl ?_
            refine G_X11_156 X.1 hn hP dX11_next_164 ?_
            refine lv_iconst (v := 1) hx hb dX11_next_167 (by decide) ?_
            refine lv_iadd hx hb dX11_next_168 ?_
            refine P_X11_156 X.1 hn X.2.2.2.1 hP hS dX11_next_169 (fun H locs hP hS => ?_)
            refine lv_goto (tgt := 99) hx hb dX11_next_172 (by decide) ?_
            exact ih _ _ _ _ hP hS (lv_sub hl [0] rfl)  h
          · rw [if_neg c_34] at h
            refine lv_aload_n hx hb dX11_next_138 rfl (lv_at hl 0 rfl) ?_
            refine lv_bipush (v := 10) hx hb dX11_next_139 (by decide) ?_
            refine lv_aload_n hx hb dX11_next_141 rfl (lv_at hl 0 rfl) ?_
            refine G_X11_168 X.1 hn hP dX11_next_142 ?_
            refine lv_imul hx hb dX11_next_145 ?_
            refine lv_aload_n hx hb dX11_next_146 rfl (lv_at hl 0 rfl) ?_
            refine G_X11_40 X.1 hn hP dX11_next_147 ?_
            refine lv_aload_n hx hb dX11_next_150 rfl (lv_at hl 0 rfl) ?_
            refine G_X11_156 X.1 hn hP dX11_next_151 ?_
            obtain ⟨c_35, h⟩ := og h
            refine r_iald (k := (Int32.toNatClampNeg ((M_27 0 20)))) X.1 hP (by omega) sM_tape rfl (vin c_35) dX11_next_154 ?_
            refine lv_iadd hx hb dX11_next_155 ?_
            refine lv_bipush (v := 48) hx hb dX11_next_156 (by decide) ?_
            refine lv_isub hx hb dX11_next_158 ?_
            refine P_X11_168 X.1 hn X.2.2.2.1 hP hS dX11_next_159 (fun H locs hP hS => ?_)
            refine lv_aload_n hx hb dX11_next_162 rfl (lv_at hl 0 rfl) ?_
            refine lv_dup hx hb dX11_next_163 rfl ?_
            refine G_X11_156 X.1 hn hP dX11_next_164 ?_
            refine lv_iconst (v := 1) hx hb dX11_next_167 (by decide) ?_
            refine lv_iadd hx hb dX11_next_168 ?_
            refine P_X11_156 X.1 hn X.2.2.2.1 hP hS dX11_next_169 (fun H locs hP hS => ?_)
            refine lv_goto (tgt := 99) hx hb dX11_next_172 (by decide) ?_
            exact ih _ _ _ _ hP hS (lv_sub hl [0] rfl)  h
  refine L0 _ _ _ _ _ _ hP hS (lv_sub hl [0] rfl) (fun M_9 H locs ls hP hS hl h => ?_) h
  · try dsimp only at h
    refine lv_aload_n hx hb dX11_next_52 rfl (lv_at hl 0 rfl) ?_
    refine lv_aload_n hx hb dX11_next_53 rfl (lv_at hl 0 rfl) ?_
    refine G_X11_156 X.1 hn hP dX11_next_54 ?_
    refine P_X11_159 X.1 hn X.2.2.2.1 hP hS dX11_next_57 (fun H locs hP hS => ?_)
    refine lv_aload_n hx hb dX11_next_60 rfl (lv_at hl 0 rfl) ?_
    refine G_X11_156 X.1 hn hP dX11_next_61 ?_
    refine lv_aload_n hx hb dX11_next_64 rfl (lv_at hl 0 rfl) ?_
    refine G_X11_153 X.1 hn hP dX11_next_65 ?_
    refine lv_icmp_ne (tgt := 77) hx hb dX11_next_68 (by decide) (fun c_10 => ?_) (fun c_10 => ?_)
    · rw [if_neg c_10] at h
      refine lv_aload_n hx hb dX11_next_77 rfl (lv_at hl 0 rfl) ?_
      refine G_X11_40 X.1 hn hP dX11_next_78 ?_
      refine lv_aload_n hx hb dX11_next_81 rfl (lv_at hl 0 rfl) ?_
      refine G_X11_156 X.1 hn hP dX11_next_82 ?_
      obtain ⟨c_11, h⟩ := og h
      refine r_iald (k := (Int32.toNatClampNeg (((upd2 M_9 0 21 ((M_9 0 20))) 0 20)))) X.1 hP (by omega) sM_tape rfl (vin c_11) dX11_next_85 ?_
      refine lv_istore_n (lv' := [(1, .int (((upd2 M_9 0 21 ((M_9 0 20))) 11 (Int32.toNatClampNeg (((upd2 M_9 0 21 ((M_9 0 20))) 0 20)))))), (0, .ref (φ 0))]) hx hb dX11_next_86 rfl hl (by decide) rfl (fun ls hl => ?_)
      refine lv_iload_n hx hb dX11_next_87 rfl (lv_at hl 0 rfl) ?_
      refine c_S0 (As := [.int (((upd2 M_9 0 21 ((M_9 0 20))) 11 (Int32.toNatClampNeg (((upd2 M_9 0 21 ((M_9 0 20))) 0 20)))))]) (rest := []) X hl.1 (c_X11_isDigit l X.2.2.2.1.1 hn rfl) (w_X11_165) qw_944 ⟨Nat.le_of_ble_eq_true rfl, Nat.le_of_ble_eq_true rfl⟩ rfl rfl hP hS (Nat.le_of_ble_eq_true rfl) dX11_next_88 (fun H locs hP hS => ?_)
      refine lv_if_eq (tgt := 198) hx hb dX11_next_91 (by decide) (fun c_12 => ?_) (fun c_12 => ?_)
      · rw [if_pos c_12] at h
        refine lv_iload_n hx hb dX11_next_198 rfl (lv_at hl 0 rfl) ?_
        refine c_S0 (As := [.int (((upd2 M_9 0 21 ((M_9 0 20))) 11 (Int32.toNatClampNeg (((upd2 M_9 0 21 ((M_9 0 20))) 0 20)))))]) (rest := []) X hl.1 (c_X11_isLetter l X.2.2.2.1.1 hn rfl) (w_X11_171) qw_947 ⟨Nat.le_of_ble_eq_true rfl, Nat.le_of_ble_eq_true rfl⟩ rfl rfl hP hS (Nat.le_of_ble_eq_true rfl) dX11_next_199 (fun H locs hP hS => ?_)
        refine lv_if_eq (tgt := 250) hx hb dX11_next_202 (by decide) (fun c_13 => ?_) (fun c_13 => ?_)
        · rw [if_pos c_13] at h
          refine lv_aload_n hx hb dX11_next_250 rfl (lv_at hl 1 rfl) ?_
          refine lv_dup hx hb dX11_next_251 rfl ?_
          refine G_X11_156 X.1 hn hP dX11_next_252 ?_
          refine lv_iconst (v := 1) hx hb dX11_next_255 (by decide) ?_
          refine lv_iadd hx hb dX11_next_256 ?_
          refine P_X11_156 X.1 hn X.2.2.2.1 hP hS dX11_next_257 (fun H locs hP hS => ?_)
          refine lv_aload_n hx hb dX11_next_260 rfl (lv_at hl 1 rfl) ?_
          refine lv_iload_n hx hb dX11_next_261 rfl (lv_at hl 0 rfl) ?_
          refine P_X11_168 X.1 hn X.2.2.2.1 hP hS dX11_next_262 (fun H locs hP hS => ?_)
          refine lv_aload_n hx hb dX11_next_265 rfl (lv_at hl 1 rfl) ?_
          refine lv_iload_n hx hb dX11_next_266 rfl (lv_at hl 0 rfl) ?_
          refine lv_bipush (v := 40) hx hb dX11_next_267 (by decide) ?_
          refine lv_icmp_eq (tgt := 314) hx hb dX11_next_269 (by decide) (fun c_14 => ?_) (fun c_14 => ?_)
          · rw [if_pos c_14] at h
            refine lv_iconst (v := 3) hx hb dX11_next_314 (by decide) ?_
            refine lv_goto (tgt := 319) hx hb dX11_next_315 (by decide) ?_
            refine P_X11_162 X.1 hn X.2.2.2.1 hP hS dX11_next_319 (fun H locs hP hS => ?_)
            obtain rfl := Option.some.inj h
            exact W.vret hx hb hr (r_end X hP hS) hS.2.2 dX11_next_322 (hlocks := hlk)
          · rw [if_neg c_14] at h
            refine lv_iload_n hx hb dX11_next_272 rfl (lv_at hl 0 rfl) ?_
            refine lv_bipush (v := 41) hx hb dX11_next_273 (by decide) ?_
            refine lv_icmp_eq (tgt := 314) hx hb dX11_next_275 (by decide) (fun c_15 => ?_) (fun c_15 => ?_)
            · rw [if_pos c_15] at h
              refine lv_iconst (v := 3) hx hb dX11_next_314 (by decide) ?_
              refine lv_goto (tgt := 319) hx hb dX11_next_315 (by decide) ?_
              refine P_X11_162 X.1 hn X.2.2.2.1 hP hS dX11_next_319 (fun H locs hP hS => ?_)
              obtain rfl := Option.some.inj h
              exact W.vret hx hb hr (r_end X hP hS) hS.2.2 dX11_next_322 (hlocks := hlk)
            · rw [if_neg c_15] at h
              refine lv_iload_n hx hb dX11_next_278 rfl (lv_at hl 0 rfl) ?_
              refine lv_bipush (v := 59) hx hb dX11_next_279 (by decide) ?_
              refine lv_icmp_eq (tgt := 314) hx hb dX11_next_281 (by decide) (fun c_16 => ?_) (fun c_16 => ?_)
              · rw [if_pos c_16] at h
                refine lv_iconst (v := 3) hx hb dX11_next_314 (by decide) ?_
                refine lv_goto (tgt := 319) hx hb dX11_next_315 (by decide) ?_
                refine P_X11_162 X.1 hn X.2.2.2.1 hP hS dX11_next_319 (fun H locs hP hS => ?_)
                obtain rfl := Option.some.inj h
                exact W.vret hx hb hr (r_end X hP hS) hS.2.2 dX11_next_322 (hlocks := hlk)
              · rw [if_neg c_16] at h
                refine lv_iload_n hx hb dX11_next_284 rfl (lv_at hl 0 rfl) ?_
                refine lv_bipush (v := 43) hx hb dX11_next_285 (by decide) ?_
                refine lv_icmp_eq (tgt := 314) hx hb dX11_next_287 (by decide) (fun c_17 => ?_) (fun c_17 => ?_)
                · rw [if_pos c_17] at h
                  refine lv_iconst (v := 3) hx hb dX11_next_314 (by decide) ?_
                  refine lv_goto (tgt := 319) hx hb dX11_next_315 (by decide) ?_
                  refine P_X11_162 X.1 hn X.2.2.2.1 hP hS dX11_next_319 (fun H locs hP hS => ?_)
                  obtain rfl := Option.some.inj h
                  exact W.vret hx hb hr (r_end X hP hS) hS.2.2 dX11_next_322 (hlocks := hlk)
                · rw [if_neg c_17] at h
                  refine lv_iload_n hx hb dX11_next_290 rfl (lv_at hl 0 rfl) ?_
                  refine lv_bipush (v := 45) hx hb dX11_next_291 (by decide) ?_
                  refine lv_icmp_eq (tgt := 314) hx hb dX11_next_293 (by decide) (fun c_18 => ?_) (fun c_18 => ?_)
                  · rw [if_pos c_18] at h
                    refine lv_iconst (v := 3) hx hb dX11_next_314 (by decide) ?_
                    refine lv_goto (tgt := 319) hx hb dX11_next_315 (by decide) ?_
                    refine P_X11_162 X.1 hn X.2.2.2.1 hP hS dX11_next_319 (fun H locs hP hS => ?_)
                    obtain rfl := Option.some.inj h
                    exact W.vret hx hb hr (r_end X hP hS) hS.2.2 dX11_next_322 (hlocks := hlk)
                  · rw [if_neg c_18] at h
                    refine lv_iload_n hx hb dX11_next_296 rfl (lv_at hl 0 rfl) ?_
                    refine lv_bipush (v := 42) hx hb dX11_next_297 (by decide) ?_
                    refine lv_icmp_eq (tgt := 314) hx hb dX11_next_299 (by decide) (fun c_19 => ?_) (fun c_19 => ?_)
                    · rw [if_pos c_19] at h
                      refine lv_iconst (v := 3) hx hb dX11_next_314 (by decide) ?_
                      refine lv_goto (tgt := 319) hx hb dX11_next_315 (by decide) ?_
                      refine P_X11_162 X.1 hn X.2.2.2.1 hP hS dX11_next_319 (fun H locs hP hS => ?_)
                      obtain rfl := Option.some.inj h
                      exact W.vret hx hb hr (r_end X hP hS) hS.2.2 dX11_next_322 (hlocks := hlk)
                    · rw [if_neg c_19] at h
                      refine lv_iload_n hx hb dX11_next_302 rfl (lv_at hl 0 rfl) ?_
                      refine lv_bipush (v := 60) hx hb dX11_next_303 (by decide) ?_
                      refine lv_icmp_eq (tgt := 314) hx hb dX11_next_305 (by decide) (fun c_20 => ?_) (fun c_20 => ?_)
                      · rw [if_pos c_20] at h
                        refine lv_iconst (v := 3) hx hb dX11_next_314 (by decide) ?_
                        refine lv_goto (tgt := 319) hx hb dX11_next_315 (by decide) ?_
                        refine P_X11_162 X.1 hn X.2.2.2.1 hP hS dX11_next_319 (fun H locs hP hS => ?_)
                        obtain rfl := Option.some.inj h
                        exact W.vret hx hb hr (r_end X hP hS) hS.2.2 dX11_next_322 (hlocks := hlk)
                      · rw [if_neg c_20] at h
                        refine lv_iload_n hx hb dX11_next_308 rfl (lv_at hl 0 rfl) ?_
                        refine lv_bipush (v := 61) hx hb dX11_next_309 (by decide) ?_
                        refine lv_icmp_ne (tgt := 318) hx hb dX11_next_311 (by decide) (fun c_21 => ?_) (fun c_21 => ?_)
                        · rw [if_neg c_21] at h
                          refine lv_iconst (v := 4) hx hb dX11_next_318 (by decide) ?_
                          refine P_X11_162 X.1 hn X.2.2.2.1 hP hS dX11_next_319 (fun H locs hP hS => ?_)
                          obtain rfl := Option.some.inj h
                          exact W.vret hx hb hr (r_end X hP hS) hS.2.2 dX11_next_322 (hlocks := hlk)
                        · rw [if_pos c_21] at h
                          refine lv_iconst (v := 3) hx hb dX11_next_314 (by decide) ?_
                          refine lv_goto (tgt := 319) hx hb dX11_next_315 (by decide) ?_
                          refine P_X11_162 X.1 hn X.2.2.2.1 hP hS dX11_next_319 (fun H locs hP hS => ?_)
                          obtain rfl := Option.some.inj h
                          exact W.vret hx hb hr (r_end X hP hS) hS.2.2 dX11_next_322 (hlocks := hlk)
        · rw [if_neg c_13] at h
          refine L205 _ _ _ _ _ hP hS (lv_sub hl [1] rfl)  h
      · rw [if_neg c_12] at h
        refine lv_aload_n hx hb dX11_next_94 rfl (lv_at hl 1 rfl) ?_
        refine lv_iconst (v := 0) hx hb dX11_next_95 (by decide) ?_
        refine P_X11_168 X.1 hn X.2.2.2.1 hP hS dX11_next_96 (fun H locs hP hS => ?_)
        refine L99 _ _ _ _ _ hP hS (lv_sub hl [1] rfl)  h
    · rw [if_pos c_10] at h
      refine lv_aload_n hx hb dX11_next_71 rfl (lv_at hl 0 rfl) ?_
      refine lv_iconst (v := 0) hx hb dX11_next_72 (by decide) ?_
      refine P_X11_162 X.1 hn X.2.2.2.1 hP hS dX11_next_73 (fun H locs hP hS => ?_)
      obtain rfl := Option.some.inj h
      exact W.vret hx hb hr (r_end X hP hS) hS.2.2 dX11_next_76 (hlocks := hlk)

def f_X11_put (M : Mem) (a1 : Int32) : Option (Mem) :=
  (if ibd (((170 * (M 0 15)) + (M 0 19))) 1020 then some ((upd2 (upd2 M 0 19 (((M 0 19) + 1))) 12 (Int32.toNatClampNeg (((170 * (M 0 15)) + (M 0 19)))) (a1))) else none)
set_option maxRecDepth 100000 in
set_option maxHeartbeats 4000000 in
theorem c_X11_put (l : Launch) {G : GT} {φ : Nat → Nat} {n : Nat} {M : Mem} {L : Nat → Int64} {a1 : Int32} (hI : wI φ n) (hn : 32 ≤ n) {r : Mem} (h : f_X11_put M a1 = some r) : CT l yX11_put cX11_put 2 none ({ frames := 0, cells := 0, slots := 0, locals := 0 } : Room) [.ref (φ 0), .int (a1)] (WB (cM G φ L) φ M n G) (none) (WB (cM G φ L) φ (r) n G) φ n := by
  unfold f_X11_put at h
  refine r_start (plainFor_of_name (by decide)) (Nat.le_of_ble_eq_true rfl) hI ?_
  intro p e s m args below meth c ls X hr hlk hP hl
  have hS : va_S (wA φ n s.heap.size) s.heap s.heap [] := va_S.rf
  have hx := X.1.1
  have hb := X.1.2.1
  have hl : lv_has ls 2 [(0, .ref (φ 0)), (1, .int (a1))] := hl
  refine lv_aload_n hx hb dX11_put_0 rfl (lv_at hl 0 rfl) ?_
  refine G_X11_43 X.1 hn hP dX11_put_1 ?_
  refine lv_sipush (v := 170) hx hb dX11_put_4 (by decide) ?_
  refine lv_aload_n hx hb dX11_put_7 rfl (lv_at hl 0 rfl) ?_
  refine G_X11_187 X.1 hn hP dX11_put_8 ?_
  refine lv_imul hx hb dX11_put_11 ?_
  refine lv_aload_n hx hb dX11_put_12 rfl (lv_at hl 0 rfl) ?_
  refine lv_dup hx hb dX11_put_13 rfl ?_
  refine G_X11_190 X.1 hn hP dX11_put_14 ?_
  refine lv_dup_x1 hx hb dX11_put_17 rfl rfl ?_
  refine lv_iconst (v := 1) hx hb dX11_put_18 (by decide) ?_
  refine lv_iadd hx hb dX11_put_19 ?_
  refine P_X11_190 X.1 hn X.2.2.2.1 hP hS dX11_put_20 (fun H locs hP hS => ?_)
  refine lv_iadd hx hb dX11_put_23 ?_
  refine lv_iload_n hx hb dX11_put_24 rfl (lv_at hl 1 rfl) ?_
  obtain ⟨c_1, h⟩ := og h
  refine r_iast (k := (Int32.toNatClampNeg (((170 * (M 0 15)) + (M 0 19))))) X.1 X.2.2.2.1 hP hS (by omega) sM_code rfl (vin c_1) dX11_put_25 (fun H locs hP hS => ?_)
  obtain rfl := Option.some.inj h
  exact W.vret hx hb hr (r_end X hP hS) hS.2.2 dX11_put_26 (hlocks := hlk)

def f_X11_name (M : Mem) : Option (Int32) :=
  (Option.bind (f_X11_is M 1) fun r_1 => (if r_1 = 0 then (Option.bind (f_X11_is M 2) fun r_3 => (if r_3 = 0 then (Option.bind (f_X11_is M 3) fun r_5 => (if r_5 = 0 then (Option.bind (f_X11_is M 4) fun r_7 => (if r_7 = 0 then (Option.bind (f_X11_is M 5) fun r_9 => (if r_9 = 0 then (Option.bind (f_X11_is M 6) fun r_11 => (if r_11 = 0 then some (0) else some (6))) else some (5))) else some (4))) else some (3))) else some (2))) else some (1)))
set_option maxRecDepth 100000 in
set_option maxHeartbeats 4000000 in
theorem c_X11_name (l : Launch) {G : GT} {φ : Nat → Nat} {n : Nat} {M : Mem} {L : Nat → Int64} (hI : wI φ n) (hn : 32 ≤ n) {r : Int32} (h : f_X11_name M = some r) : CT l yX11_name cX11_name 1 (some .int) ({ frames := 5, cells := 0, slots := 0, locals := 107 } : Room) [.ref (φ 0)] (WB (cM G φ L) φ M n G) (some (.int r)) (WB (cM G φ L) φ (M) n G) φ n := by
  unfold f_X11_name at h
  refine r_start (plainFor_of_name (by decide)) (Nat.le_of_ble_eq_true rfl) hI ?_
  intro p e s m args below meth c ls X hr hlk hP hl
  have hS : va_S (wA φ n s.heap.size) s.heap s.heap [] := va_S.rf
  have hx := X.1.1
  have hb := X.1.2.1
  have hl : lv_has ls 1 [(0, .ref (φ 0))] := hl
  refine lv_aload_n hx hb dX11_name_0 rfl (lv_at hl 0 rfl) ?_
  refine va_ldcS hx hb X.1.2.2.1 (X.2.2.1.2.1 ("KitchenTableModel", 174, 1) (List.mem_of_getElem? (i := 14) rfl)) dX11_name_1 ?_
  obtain ⟨r_1, hr_1, h⟩ := ob h
  refine c_V0 (As := [.ref (saS G 1)]) (rest := []) (a := 0) X hl.1 (c_X11_is l X.2.2.2.1.1 hn (by decide) hr_1) (w_X11_176) qw_956 qw_34 ⟨Nat.le_of_ble_eq_true rfl, Nat.le_of_ble_eq_true rfl⟩ rfl rfl hP hS (by omega) sM_Model rfl rfl (Nat.le_of_ble_eq_true rfl) dX11_name_3 (fun H locs hP hS => ?_)
  refine lv_if_eq (tgt := 11) hx hb dX11_name_6 (by decide) (fun c_2 => ?_) (fun c_2 => ?_)
  · rw [if_pos c_2] at h
    refine lv_aload_n hx hb dX11_name_11 rfl (lv_at hl 0 rfl) ?_
    refine va_ldcS hx hb X.1.2.2.1 (X.2.2.1.2.1 ("KitchenTableModel", 180, 2) (List.mem_of_getElem? (i := 15) rfl)) dX11_name_12 ?_
    obtain ⟨r_3, hr_3, h⟩ := ob h
    refine c_V0 (As := [.ref (saS G 2)]) (rest := []) (a := 0) X hl.1 (c_X11_is l X.2.2.2.1.1 hn (by decide) hr_3) (w_X11_176) qw_956 qw_34 ⟨Nat.le_of_ble_eq_true rfl, Nat.le_of_ble_eq_true rfl⟩ rfl rfl hP hS (by omega) sM_Model rfl rfl (Nat.le_of_ble_eq_true rfl) dX11_name_14 (fun H locs hP hS => ?_)
    refine lv_if_eq (tgt := 22) hx hb dX11_name_17 (by decide) (fun c_4 => ?_) (fun c_4 => ?_)
    · rw [if_pos c_4] at h
      refine lv_aload_n hx hb dX11_name_22 rfl (lv_at hl 0 rfl) ?_
      refine va_ldcS hx hb X.1.2.2.1 (X.2.2.1.2.1 ("KitchenTableModel", 182, 3) (List.mem_of_getElem? (i := 16) rfl)) dX11_name_23 ?_
      obtain ⟨r_5, hr_5, h⟩ := ob h
      refine c_V0 (As := [.ref (saS G 3)]) (rest := []) (a := 0) X hl.1 (c_X11_is l X.2.2.2.1.1 hn (by decide) hr_5) (w_X11_176) qw_956 qw_34 ⟨Nat.le_of_ble_eq_true rfl, Nat.le_of_ble_eq_true rfl⟩ rfl rfl hP hS (by omega) sM_Model rfl rfl (Nat.le_of_ble_eq_true rfl) dX11_name_25 (fun H locs hP hS => ?_)
      refine lv_if_eq (tgt := 33) hx hb dX11_name_28 (by decide) (fun c_6 => ?_) (fun c_6 => ?_)
      · rw [if_pos c_6] at h
        refine lv_aload_n hx hb dX11_name_33 rfl (lv_at hl 0 rfl) ?_
        refine va_ldcS hx hb X.1.2.2.1 (X.2.2.1.2.1 ("KitchenTableModel", 183, 4) (List.mem_of_getElem? (i := 17) rfl)) dX11_name_34 ?_
        obtain ⟨r_7, hr_7, h⟩ := ob h
        refine c_V0 (As := [.ref (saS G 4)]) (rest := []) (a := 0) X hl.1 (c_X11_is l X.2.2.2.1.1 hn (by decide) hr_7) (w_X11_176) qw_956 qw_34 ⟨Nat.le_of_ble_eq_true rfl, Nat.le_of_ble_eq_true rfl⟩ rfl rfl hP hS (by omega) sM_Model rfl rfl (Nat.le_of_ble_eq_true rfl) dX11_name_36 (fun H locs hP hS => ?_)
        refine lv_if_eq (tgt := 44) hx hb dX11_name_39 (by decide) (fun c_8 => ?_) (fun c_8 => ?_)
        · rw [if_pos c_8] at h
          refine lv_aload_n hx hb dX11_name_44 rfl (lv_at hl 0 rfl) ?_
          refine va_ldcS hx hb X.1.2.2.1 (X.2.2.1.2.1 ("KitchenTableModel", 185, 5) (List.mem_of_getElem? (i := 18) rfl)) dX11_name_45 ?_
          obtain ⟨r_9, hr_9, h⟩ := ob h
          refine c_V0 (As := [.ref (saS G 5)]) (rest := []) (a := 0) X hl.1 (c_X11_is l X.2.2.2.1.1 hn (by decide) hr_9) (w_X11_176) qw_956 qw_34 ⟨Nat.le_of_ble_eq_true rfl, Nat.le_of_ble_eq_true rfl⟩ rfl rfl hP hS (by omega) sM_Model rfl rfl (Nat.le_of_ble_eq_true rfl) dX11_name_47 (fun H locs hP hS => ?_)
          refine lv_if_eq (tgt := 55) hx hb dX11_name_50 (by decide) (fun c_10 => ?_) (fun c_10 => ?_)
          · rw [if_pos c_10] at h
            refine lv_aload_n hx hb dX11_name_55 rfl (lv_at hl 0 rfl) ?_
            refine va_ldcS hx hb X.1.2.2.1 (X.2.2.1.2.1 ("KitchenTableModel", 186, 6) (List.mem_of_getElem? (i := 19) rfl)) dX11_name_56 ?_
            obtain ⟨r_11, hr_11, h⟩ := ob h
            refine c_V0 (As := [.ref (saS G 6)]) (rest := []) (a := 0) X hl.1 (c_X11_is l X.2.2.2.1.1 hn (by decide) hr_11) (w_X11_176) qw_956 qw_34 ⟨Nat.le_of_ble_eq_true rfl, Nat.le_of_ble_eq_true rfl⟩ rfl rfl hP hS (by omega) sM_Model rfl rfl (Nat.le_of_ble_eq_true rfl) dX11_name_58 (fun H locs hP hS => ?_)
            refine lv_if_eq (tgt := 67) hx hb dX11_name_61 (by decide) (fun c_12 => ?_) (fun c_12 => ?_)
            · rw [if_pos c_12] at h
              refine lv_iconst (v := 0) hx hb dX11_name_67 (by decide) ?_
              obtain rfl := Option.some.inj h
              exact W.iret hx hb hr (r_end X hP hS) hS.2.2 dX11_name_68 (hlocks := hlk)
            · rw [if_neg c_12] at h
              refine lv_bipush (v := 6) hx hb dX11_name_64 (by decide) ?_
              obtain rfl := Option.some.inj h
              exact W.iret hx hb hr (r_end X hP hS) hS.2.2 dX11_name_66 (hlocks := hlk)
          · rw [if_neg c_10] at h
            refine lv_iconst (v := 5) hx hb dX11_name_53 (by decide) ?_
            obtain rfl := Option.some.inj h
            exact W.iret hx hb hr (r_end X hP hS) hS.2.2 dX11_name_54 (hlocks := hlk)
        · rw [if_neg c_8] at h
          refine lv_iconst (v := 4) hx hb dX11_name_42 (by decide) ?_
          obtain rfl := Option.some.inj h
          exact W.iret hx hb hr (r_end X hP hS) hS.2.2 dX11_name_43 (hlocks := hlk)
      · rw [if_neg c_6] at h
        refine lv_iconst (v := 3) hx hb dX11_name_31 (by decide) ?_
        obtain rfl := Option.some.inj h
        exact W.iret hx hb hr (r_end X hP hS) hS.2.2 dX11_name_32 (hlocks := hlk)
    · rw [if_neg c_4] at h
      refine lv_iconst (v := 2) hx hb dX11_name_20 (by decide) ?_
      obtain rfl := Option.some.inj h
      exact W.iret hx hb hr (r_end X hP hS) hS.2.2 dX11_name_21 (hlocks := hlk)
  · rw [if_neg c_2] at h
    refine lv_iconst (v := 1) hx hb dX11_name_9 (by decide) ?_
    obtain rfl := Option.some.inj h
    exact W.iret hx hb hr (r_end X hP hS) hS.2.2 dX11_name_10 (hlocks := hlk)

def f_X11_is_ (M : Mem) (a1 : Int32) : Int32 :=
  (if (M 0 22) = 3 then (if (M 0 23) = a1 then 1 else 0) else 0)
theorem bz_X11_is_ (M : Mem) (a1 : Int32) : f_X11_is_ M a1 = 0 ∨ f_X11_is_ M a1 = 1 := by
  unfold f_X11_is_
  repeat' (first | exact Or.inl rfl | exact Or.inr rfl | split)
set_option maxRecDepth 100000 in
set_option maxHeartbeats 4000000 in
theorem c_X11_is_ (l : Launch) {G : GT} {φ : Nat → Nat} {n : Nat} {M : Mem} {L : Nat → Int64} {a1 : Int32} (hI : wI φ n) (hn : 32 ≤ n) {r : Int32} (h : f_X11_is_ M a1 = r) : CT l yX11_is_ cX11_is_ 2 (some .boolean) ({ frames := 0, cells := 0, slots := 0, locals := 0 } : Room) [.ref (φ 0), .int (a1)] (WB (cM G φ L) φ M n G) (some (.int r)) (WB (cM G φ L) φ (M) n G) φ n := by
  unfold f_X11_is_ at h
  refine r_start (plainFor_of_name (by decide)) (Nat.le_of_ble_eq_true rfl) hI ?_
  intro p e s m args below meth c ls X hr hlk hP hl
  have hS : va_S (wA φ n s.heap.size) s.heap s.heap [] := va_S.rf
  have hx := X.1.1
  have hb := X.1.2.1
  have hl : lv_has ls 2 [(0, .ref (φ 0)), (1, .int (a1))] := hl
  refine lv_aload_n hx hb dX11_is__0 rfl (lv_at hl 0 rfl) ?_
  refine G_X11_162 X.1 hn hP dX11_is__1 ?_
  refine lv_iconst (v := 3) hx hb dX11_is__4 (by decide) ?_
  refine lv_icmp_ne (tgt := 20) hx hb dX11_is__5 (by decide) (fun c_1 => ?_) (fun c_1 => ?_)
  · rw [if_neg c_1] at h
    refine lv_iconst (v := 0) hx hb dX11_is__20 (by decide) ?_
    subst h
    exact W.zret (v := 0) (ty := .boolean) hx hb hr rfl (r_end X hP hS) hS.2.2 dX11_is__21 (hlocks := hlk)
  · rw [if_pos c_1] at h
    refine lv_aload_n hx hb dX11_is__8 rfl (lv_at hl 0 rfl) ?_
    refine G_X11_168 X.1 hn hP dX11_is__9 ?_
    refine lv_iload_n hx hb dX11_is__12 rfl (lv_at hl 1 rfl) ?_
    refine lv_icmp_ne (tgt := 20) hx hb dX11_is__13 (by decide) (fun c_2 => ?_) (fun c_2 => ?_)
    · rw [if_neg c_2] at h
      refine lv_iconst (v := 0) hx hb dX11_is__20 (by decide) ?_
      subst h
      exact W.zret (v := 0) (ty := .boolean) hx hb hr rfl (r_end X hP hS) hS.2.2 dX11_is__21 (hlocks := hlk)
    · rw [if_pos c_2] at h
      refine lv_iconst (v := 1) hx hb dX11_is__16 (by decide) ?_
      refine lv_goto (tgt := 21) hx hb dX11_is__17 (by decide) ?_
      subst h
      exact W.zret (v := 1) (ty := .boolean) hx hb hr rfl (r_end X hP hS) hS.2.2 dX11_is__21 (hlocks := hlk)

def f_X11_one (recA : Mem → Option (Int32 × Mem)) (recN : Mem → Option (Int32 × Mem)) (recO : Mem → Option (Int32 × Mem)) (M : Mem) : Option (Int32 × Mem) :=
  (if (M 0 22) = 1 then (Option.bind (f_X11_put M ((M 0 23))) fun r_19 => (Option.bind (f_X11_next r_19) fun r_20 => some ((1, r_20)))) else (Option.bind (f_X11_name M) fun r_2 => (if r_2 ≤ 0 then (if (f_X11_is_ M (45)) = 0 then (if (f_X11_is_ M (40)) = 0 then some ((0, M)) else (if (M 0 24) = 5 then some ((0, M)) else (Option.bind (f_X11_next (upd2 M 0 24 (((M 0 24) + 1)))) fun r_7 => (Option.bind (recA r_7) fun r_8 => (if r_8.1 = 0 then some ((0, r_8.2)) else (if (f_X11_is_ r_8.2 (41)) = 0 then some ((0, r_8.2)) else (Option.bind (f_X11_next (upd2 r_8.2 0 24 (((r_8.2 0 24) - 1)))) fun r_11 => some ((1, r_11))))))))) else (if (M 0 24) = 5 then some ((0, M)) else (Option.bind (f_X11_next (upd2 M 0 24 (((M 0 24) + 1)))) fun r_13 => (Option.bind (recO r_13) fun r_14 => (if r_14.1 = 0 then some ((0, r_14.2)) else (Option.bind (f_X11_put (upd2 r_14.2 0 24 (((r_14.2 0 24) - 1))) ((-19))) fun r_16 => some ((1, r_16)))))))) else (Option.bind (f_X11_put M ((-r_2))) fun r_17 => (Option.bind (f_X11_next r_17) fun r_18 => some ((1, r_18)))))))
set_option maxRecDepth 100000 in
set_option maxHeartbeats 4000000 in
theorem c_X11_one (l : Launch) {G : GT} {φ : Nat → Nat} {n : Nat} {M : Mem} {L : Nat → Int64} {recA : Mem → Option (Int32 × Mem)} {recN : Mem → Option (Int32 × Mem)} {recO : Mem → Option (Int32 × Mem)} {fL lL : Nat} (hI : wI φ n) (hn : 32 ≤ n) (hrecA : ∀ {M : Mem} {r : Int32 × Mem}, recA M = some r → CT l yX11_any cX11_any 1 (some .boolean) ({ frames := fL, cells := 0, slots := 0, locals := lL } : Room) [.ref (φ 0)] (WB (cM G φ L) φ M n G) (some (.int r.1)) (WB (cM G φ L) φ r.2 n G) φ n) (hrecN : ∀ {M : Mem} {r : Int32 × Mem}, recN M = some r → CT l yX11_not cX11_not 2 (some .boolean) ({ frames := fL, cells := 0, slots := 0, locals := lL } : Room) [.ref (φ 0)] (WB (cM G φ L) φ M n G) (some (.int r.1)) (WB (cM G φ L) φ r.2 n G) φ n) (hrecO : ∀ {M : Mem} {r : Int32 × Mem}, recO M = some r → CT l yX11_one cX11_one 2 (some .boolean) ({ frames := fL, cells := 0, slots := 0, locals := lL } : Room) [.ref (φ 0)] (WB (cM G φ L) φ M n G) (some (.int r.1)) (WB (cM G φ L) φ r.2 n G) φ n) {r : Int32 × Mem} (h : f_X11_one recA recN recO M = some r) : CT l yX11_one cX11_one 2 (some .boolean) ({ frames := fL + 6, cells := 0, slots := 0, locals := lL + 127 } : Room) [.ref (φ 0)] (WB (cM G φ L) φ M n G) (some (.int r.1)) (WB (cM G φ L) φ (r.2) n G) φ n := by
  unfold f_X11_one at h
  refine r_start (plainFor_of_name (by decide)) (Nat.le_of_ble_eq_true rfl) hI ?_
  intro p e s m args below meth c ls X hr hlk hP hl
  have hS : va_S (wA φ n s.heap.size) s.heap s.heap [] := va_S.rf
  have hx := X.1.1
  have hb := X.1.2.1
  have hl : lv_has ls 2 [(0, .ref (φ 0))] := hl
  refine lv_aload_n hx hb dX11_one_0 rfl (lv_at hl 0 rfl) ?_
  refine G_X11_162 X.1 hn hP dX11_one_1 ?_
  refine lv_iconst (v := 1) hx hb dX11_one_4 (by decide) ?_
  refine lv_icmp_ne (tgt := 22) hx hb dX11_one_5 (by decide) (fun c_1 => ?_) (fun c_1 => ?_)
  · rw [if_neg c_1] at h
    refine lv_aload_n hx hb dX11_one_22 rfl (lv_at hl 0 rfl) ?_
    obtain ⟨r_2, hr_2, h⟩ := ob h
    refine c_V0 (As := []) (rest := []) (a := 0) X hl.1 (c_X11_name l X.2.2.2.1.1 hn hr_2) (w_X11_227) qw_989 qw_42 ⟨by (dsimp only; omega), by (dsimp only; omega)⟩ rfl rfl hP hS (by omega) sM_Model rfl rfl (Nat.le_of_ble_eq_true rfl) dX11_one_23 (fun H locs hP hS => ?_)
    refine lv_istore_n (lv' := [(1, .int (r_2)), (0, .ref (φ 0))]) hx hb dX11_one_26 rfl hl (by decide) rfl (fun ls hl => ?_)
    refine lv_iload_n hx hb dX11_one_27 rfl (lv_at hl 0 rfl) ?_
    refine lv_if_le (tgt := 43) hx hb dX11_one_28 (by decide) (fun c_3 => ?_) (fun c_3 => ?_)
    · rw [if_pos c_3] at h
      refine lv_aload_n hx hb dX11_one_43 rfl (lv_at hl 1 rfl) ?_
      refine lv_bipush (v := 45) hx hb dX11_one_44 (by decide) ?_
      refine c_V0 (As := [.int (45)]) (rest := []) (a := 0) X hl.1 (c_X11_is_ l X.2.2.2.1.1 hn rfl) (w_X11_218) qw_999 qw_43 ⟨by (dsimp only; omega), by (dsimp only; omega)⟩ rfl rfl hP hS (by omega) sM_Model rfl rfl (Nat.le_of_ble_eq_true rfl) dX11_one_46 (fun H locs hP hS => ?_)
      refine lv_if_eq (tgt := 103) hx hb dX11_one_49 (by decide) (fun c_4 => ?_) (fun c_4 => ?_)
      · rw [if_pos c_4] at h
        refine lv_aload_n hx hb dX11_one_103 rfl (lv_at hl 1 rfl) ?_
        refine lv_bipush (v := 40) hx hb dX11_one_104 (by decide) ?_
        refine c_V0 (As := [.int (40)]) (rest := []) (a := 0) X hl.1 (c_X11_is_ l X.2.2.2.1.1 hn rfl) (w_X11_218) qw_999 qw_43 ⟨by (dsimp only; omega), by (dsimp only; omega)⟩ rfl rfl hP hS (by omega) sM_Model rfl rfl (Nat.le_of_ble_eq_true rfl) dX11_one_106 (fun H locs hP hS => ?_)
        refine lv_if_eq (tgt := 120) hx hb dX11_one_109 (by decide) (fun c_5 => ?_) (fun c_5 => ?_)
        · rw [if_pos c_5] at h
          refine lv_iconst (v := 0) hx hb dX11_one_120 (by decide) ?_
          obtain rfl := Option.some.inj h
          exact W.zret (v := 0) (ty := .boolean) hx hb hr rfl (r_end X hP hS) hS.2.2 dX11_one_121 (hlocks := hlk)
        · rw [if_neg c_5] at h
          refine lv_aload_n hx hb dX11_one_112 rfl (lv_at hl 1 rfl) ?_
          refine G_X11_212 X.1 hn hP dX11_one_113 ?_
          refine lv_iconst (v := 5) hx hb dX11_one_116 (by decide) ?_
          refine lv_icmp_ne (tgt := 122) hx hb dX11_one_117 (by decide) (fun c_6 => ?_) (fun c_6 => ?_)
          · rw [if_neg c_6] at h
            refine lv_aload_n hx hb dX11_one_122 rfl (lv_at hl 1 rfl) ?_
            refine lv_dup hx hb dX11_one_123 rfl ?_
            refine G_X11_212 X.1 hn hP dX11_one_124 ?_
            refine lv_iconst (v := 1) hx hb dX11_one_127 (by decide) ?_
            refine lv_iadd hx hb dX11_one_128 ?_
            refine P_X11_212 X.1 hn X.2.2.2.1 hP hS dX11_one_129 (fun H locs hP hS => ?_)
            refine lv_aload_n hx hb dX11_one_132 rfl (lv_at hl 1 rfl) ?_
            obtain ⟨r_7, hr_7, h⟩ := ob h
            refine c_V0 (As := []) (rest := []) (a := 0) X hl.1 (c_X11_next l X.2.2.2.1.1 hn hr_7) (w_X11_199) qw_941 qw_32 ⟨by (dsimp only; omega), by (dsimp only; omega)⟩ rfl rfl hP hS (by omega) sM_Model rfl rfl (Nat.le_of_ble_eq_true rfl) dX11_one_133 (fun H locs hP hS => ?_)
            refine lv_aload_n hx hb dX11_one_136 rfl (lv_at hl 1 rfl) ?_
            obtain ⟨r_8, hr_8, h⟩ := ob h
            refine c_V0 (As := []) (rest := []) (a := 0) X hl.1 (hrecA hr_8) (w_X11_230) qw_960 qw_35 ⟨by (dsimp only; omega), by (dsimp only; omega)⟩ rfl rfl hP hS (by omega) sM_Model rfl rfl (Nat.le_of_ble_eq_true rfl) dX11_one_137 (fun H locs hP hS => ?_)
            refine lv_if_eq (tgt := 152) hx hb dX11_one_140 (by decide) (fun c_9 => ?_) (fun c_9 => ?_)
            · rw [if_pos c_9] at h
              refine lv_iconst (v := 0) hx hb dX11_one_152 (by decide) ?_
              obtain rfl := Option.some.inj h
              exact W.zret (v := 0) (ty := .boolean) hx hb hr rfl (r_end X hP hS) hS.2.2 dX11_one_153 (hlocks := hlk)
            · rw [if_neg c_9] at h
              refine lv_aload_n hx hb dX11_one_143 rfl (lv_at hl 1 rfl) ?_
              refine lv_bipush (v := 41) hx hb dX11_one_144 (by decide) ?_
              refine c_V0 (As := [.int (41)]) (rest := []) (a := 0) X hl.1 (c_X11_is_ l X.2.2.2.1.1 hn rfl) (w_X11_218) qw_999 qw_43 ⟨by (dsimp only; omega), by (dsimp only; omega)⟩ rfl rfl hP hS (by omega) sM_Model rfl rfl (Nat.le_of_ble_eq_true rfl) dX11_one_146 (fun H locs hP hS => ?_)
              refine lv_if_ne (tgt := 154) hx hb dX11_one_149 (by decide) (fun c_10 => ?_) (fun c_10 => ?_)
              · rw [if_neg c_10] at h
                refine lv_aload_n hx hb dX11_one_154 rfl (lv_at hl 1 rfl) ?_
                refine lv_dup hx hb dX11_one_155 rfl ?_
                refine G_X11_212 X.1 hn hP dX11_one_156 ?_
                refine lv_iconst (v := 1) hx hb dX11_one_159 (by decide) ?_
                refine lv_isub hx hb dX11_one_160 ?_
                refine P_X11_212 X.1 hn X.2.2.2.1 hP hS dX11_one_161 (fun H locs hP hS => ?_)
                refine lv_aload_n hx hb dX11_one_164 rfl (lv_at hl 1 rfl) ?_
                obtain ⟨r_11, hr_11, h⟩ := ob h
                refine c_V0 (As := []) (rest := []) (a := 0) X hl.1 (c_X11_next l X.2.2.2.1.1 hn hr_11) (w_X11_199) qw_941 qw_32 ⟨by (dsimp only; omega), by (dsimp only; omega)⟩ rfl rfl hP hS (by omega) sM_Model rfl rfl (Nat.le_of_ble_eq_true rfl) dX11_one_165 (fun H locs hP hS => ?_)
                refine lv_iconst (v := 1) hx hb dX11_one_168 (by decide) ?_
                obtain rfl := Option.some.inj h
                exact W.zret (v := 1) (ty := .boolean) hx hb hr rfl (r_end X hP hS) hS.2.2 dX11_one_169 (hlocks := hlk)
              · rw [if_pos c_10] at h
                refine lv_iconst (v := 0) hx hb dX11_one_152 (by decide) ?_
                obtain rfl := Option.some.inj h
                exact W.zret (v := 0) (ty := .boolean) hx hb hr rfl (r_end X hP hS) hS.2.2 dX11_one_153 (hlocks := hlk)
          · rw [if_pos c_6] at h
            refine lv_iconst (v := 0) hx hb dX11_one_120 (by decide) ?_
            obtain rfl := Option.some.inj h
            exact W.zret (v := 0) (ty := .boolean) hx hb hr rfl (r_end X hP hS) hS.2.2 dX11_one_121 (hlocks := hlk)
      · rw [if_neg c_4] at h
        refine lv_aload_n hx hb dX11_one_52 rfl (lv_at hl 1 rfl) ?_
        refine G_X11_212 X.1 hn hP dX11_one_53 ?_
        refine lv_iconst (v := 5) hx hb dX11_one_56 (by decide) ?_
        refine lv_icmp_ne (tgt := 62) hx hb dX11_one_57 (by decide) (fun c_12 => ?_) (fun c_12 => ?_)
        · rw [if_neg c_12] at h
          refine lv_aload_n hx hb dX11_one_62 rfl (lv_at hl 1 rfl) ?_
          refine lv_dup hx hb dX11_one_63 rfl ?_
          refine G_X11_212 X.1 hn hP dX11_one_64 ?_
          refine lv_iconst (v := 1) hx hb dX11_one_67 (by decide) ?_
          refine lv_iadd hx hb dX11_one_68 ?_
          refine P_X11_212 X.1 hn X.2.2.2.1 hP hS dX11_one_69 (fun H locs hP hS => ?_)
          refine lv_aload_n hx hb dX11_one_72 rfl (lv_at hl 1 rfl) ?_
          obtain ⟨r_13, hr_13, h⟩ := ob h
          refine c_V0 (As := []) (rest := []) (a := 0) X hl.1 (c_X11_next l X.2.2.2.1.1 hn hr_13) (w_X11_199) qw_941 qw_32 ⟨by (dsimp only; omega), by (dsimp only; omega)⟩ rfl rfl hP hS (by omega) sM_Model rfl rfl (Nat.le_of_ble_eq_true rfl) dX11_one_73 (fun H locs hP hS => ?_)
          refine lv_aload_n hx hb dX11_one_76 rfl (lv_at hl 1 rfl) ?_
          obtain ⟨r_14, hr_14, h⟩ := ob h
          refine c_V0 (As := []) (rest := []) (a := 0) X hl.1 (hrecO hr_14) (w_X11_224) qw_985 qw_41 ⟨by (dsimp only; omega), by (dsimp only; omega)⟩ rfl rfl hP hS (by omega) sM_Model rfl rfl (Nat.le_of_ble_eq_true rfl) dX11_one_77 (fun H locs hP hS => ?_)
          refine lv_if_ne (tgt := 85) hx hb dX11_one_80 (by decide) (fun c_15 => ?_) (fun c_15 => ?_)
          · rw [if_neg c_15] at h
            refine lv_aload_n hx hb dX11_one_85 rfl (lv_at hl 1 rfl) ?_
            refine lv_dup hx hb dX11_one_86 rfl ?_
            refine G_X11_212 X.1 hn hP dX11_one_87 ?_
            refine lv_iconst (v := 1) hx hb dX11_one_90 (by decide) ?_
            refine lv_isub hx hb dX11_one_91 ?_
            refine P_X11_212 X.1 hn X.2.2.2.1 hP hS dX11_one_92 (fun H locs hP hS => ?_)
            refine lv_aload_n hx hb dX11_one_95 rfl (lv_at hl 1 rfl) ?_
            refine lv_bipush (v := (-19)) hx hb dX11_one_96 (by decide) ?_
            obtain ⟨r_16, hr_16, h⟩ := ob h
            refine c_V0 (As := [.int ((-19))]) (rest := []) (a := 0) X hl.1 (c_X11_put l X.2.2.2.1.1 hn hr_16) (w_X11_202) qw_973 qw_38 ⟨by (dsimp only; omega), by (dsimp only; omega)⟩ rfl rfl hP hS (by omega) sM_Model rfl rfl (Nat.le_of_ble_eq_true rfl) dX11_one_98 (fun H locs hP hS => ?_)
            refine lv_iconst (v := 1) hx hb dX11_one_101 (by decide) ?_
            obtain rfl := Option.some.inj h
            exact W.zret (v := 1) (ty := .boolean) hx hb hr rfl (r_end X hP hS) hS.2.2 dX11_one_102 (hlocks := hlk)
          · rw [if_pos c_15] at h
            refine lv_iconst (v := 0) hx hb dX11_one_83 (by decide) ?_
            obtain rfl := Option.some.inj h
            exact W.zret (v := 0) (ty := .boolean) hx hb hr rfl (r_end X hP hS) hS.2.2 dX11_one_84 (hlocks := hlk)
        · rw [if_pos c_12] at h
          refine lv_iconst (v := 0) hx hb dX11_one_60 (by decide) ?_
          obtain rfl := Option.some.inj h
          exact W.zret (v := 0) (ty := .boolean) hx hb hr rfl (r_end X hP hS) hS.2.2 dX11_one_61 (hlocks := hlk)
    · rw [if_neg c_3] at h
      refine lv_aload_n hx hb dX11_one_31 rfl (lv_at hl 1 rfl) ?_
      refine lv_iload_n hx hb dX11_one_32 rfl (lv_at hl 0 rfl) ?_
      refine lv_ineg hx hb dX11_one_33 ?_
      obtain ⟨r_17, hr_17, h⟩ := ob h
      refine c_V0 (As := [.int ((-r_2))]) (rest := []) (a := 0) X hl.1 (c_X11_put l X.2.2.2.1.1 hn hr_17) (w_X11_202) qw_973 qw_38 ⟨by (dsimp only; omega), by (dsimp only; omega)⟩ rfl rfl hP hS (by omega) sM_Model rfl rfl (Nat.le_of_ble_eq_true rfl) dX11_one_34 (fun H locs hP hS => ?_)
      refine lv_aload_n hx hb dX11_one_37 rfl (lv_at hl 1 rfl) ?_
      obtain ⟨r_18, hr_18, h⟩ := ob h
      refine c_V0 (As := []) (rest := []) (a := 0) X hl.1 (c_X11_next l X.2.2.2.1.1 hn hr_18) (w_X11_199) qw_941 qw_32 ⟨by (dsimp only; omega), by (dsimp only; omega)⟩ rfl rfl hP hS (by omega) sM_Model rfl rfl (Nat.le_of_ble_eq_true rfl) dX11_one_38 (fun H locs hP hS => ?_)
      refine lv_iconst (v := 1) hx hb dX11_one_41 (by decide) ?_
      obtain rfl := Option.some.inj h
      exact W.zret (v := 1) (ty := .boolean) hx hb hr rfl (r_end X hP hS) hS.2.2 dX11_one_42 (hlocks := hlk)
  · rw [if_pos c_1] at h
    refine lv_aload_n hx hb dX11_one_8 rfl (lv_at hl 0 rfl) ?_
    refine lv_aload_n hx hb dX11_one_9 rfl (lv_at hl 0 rfl) ?_
    refine G_X11_168 X.1 hn hP dX11_one_10 ?_
    obtain ⟨r_19, hr_19, h⟩ := ob h
    refine c_V0 (As := [.int ((M 0 23))]) (rest := []) (a := 0) X hl.1 (c_X11_put l X.2.2.2.1.1 hn hr_19) (w_X11_202) qw_973 qw_38 ⟨by (dsimp only; omega), by (dsimp only; omega)⟩ rfl rfl hP hS (by omega) sM_Model rfl rfl (Nat.le_of_ble_eq_true rfl) dX11_one_13 (fun H locs hP hS => ?_)
    refine lv_aload_n hx hb dX11_one_16 rfl (lv_at hl 0 rfl) ?_
    obtain ⟨r_20, hr_20, h⟩ := ob h
    refine c_V0 (As := []) (rest := []) (a := 0) X hl.1 (c_X11_next l X.2.2.2.1.1 hn hr_20) (w_X11_199) qw_941 qw_32 ⟨by (dsimp only; omega), by (dsimp only; omega)⟩ rfl rfl hP hS (by omega) sM_Model rfl rfl (Nat.le_of_ble_eq_true rfl) dX11_one_17 (fun H locs hP hS => ?_)
    refine lv_iconst (v := 1) hx hb dX11_one_20 (by decide) ?_
    obtain rfl := Option.some.inj h
    exact W.zret (v := 1) (ty := .boolean) hx hb hr rfl (r_end X hP hS) hS.2.2 dX11_one_21 (hlocks := hlk)

