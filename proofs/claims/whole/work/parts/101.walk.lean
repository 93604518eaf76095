def f_X11_term_9 (recA : Mem → Option (Int32 × Mem)) (recN : Mem → Option (Int32 × Mem)) (recO : Mem → Option (Int32 × Mem)) : Nat → Mem → Option (Int32 × Mem)
  | 0, _ => none
  | fu_4 + 1, M_3 => (if (f_X11_is_ M_3 (42)) = 0 then some ((1, M_3)) else (Option.bind (f_X11_next M_3) fun r_6 => (Option.bind (f_X11_one recA recN recO r_6) fun r_7 => (if r_7.1 = 0 then some ((0, r_7.2)) else (Option.bind (f_X11_put r_7.2 ((-18))) fun r_9 => (f_X11_term_9 recA recN recO fu_4 r_9))))))
def f_X11_term (recA : Mem → Option (Int32 × Mem)) (recN : Mem → Option (Int32 × Mem)) (recO : Mem → Option (Int32 × Mem)) (M : Mem) : Option (Int32 × Mem) :=
  (Option.bind (f_X11_one recA recN recO M) fun r_1 => (if r_1.1 = 0 then some ((0, r_1.2)) else (f_X11_term_9 recA recN recO FU r_1.2)))
set_option maxRecDepth 100000 in
set_option maxHeartbeats 4000000 in
theorem c_X11_term (l : Launch) {G : GT} {φ : Nat → Nat} {n : Nat} {M : Mem} {L : Nat → Int64} {recA : Mem → Option (Int32 × Mem)} {recN : Mem → Option (Int32 × Mem)} {recO : Mem → Option (Int32 × Mem)} {fL lL : Nat} (hI : wI φ n) (hn : 32 ≤ n) (hrecA : ∀ {M : Mem} {r : Int32 × Mem}, recA M = some r → CT l yX11_any cX11_any 1 (some .boolean) ({ frames := fL, cells := 0, slots := 0, locals := lL } : Room) [.ref (φ 0)] (WB (cM G φ L) φ M n G) (some (.int r.1)) (WB (cM G φ L) φ r.2 n G) φ n) (hrecN : ∀ {M : Mem} {r : Int32 × Mem}, recN M = some r → CT l yX11_not cX11_not 2 (some .boolean) ({ frames := fL, cells := 0, slots := 0, locals := lL } : Room) [.ref (φ 0)] (WB (cM G φ L) φ M n G) (some (.int r.1)) (WB (cM G φ L) φ r.2 n G) φ n) (hrecO : ∀ {M : Mem} {r : Int32 × Mem}, recO M = some r → CT l yX11_one cX11_one 2 (some .boolean) ({ frames := fL, cells := 0, slots := 0, locals := lL } : Room) [.ref (φ 0)] (WB (cM G φ L) φ M n G) (some (.int r.1)) (WB (cM G φ L) φ r.2 n G) φ n) {r : Int32 × Mem} (h : f_X11_term recA recN recO M = some r) : CT l yX11_term cX11_term 1 (some .boolean) ({ frames := fL + 7, cells := 0, slots := 0, locals := lL + 148 } : Room) [.ref (φ 0)] (WB (cM G φ L) φ M n G) (some (.int r.1)) (WB (cM G φ L) φ (r.2) n G) φ n := by
  unfold f_X11_term at h
  refine r_start (plainFor_of_name (by decide)) (Nat.le_of_ble_eq_true rfl) hI ?_
  intro p e s m args below meth c ls X hr hlk hP hl
  have hS : va_S (wA φ n s.heap.size) s.heap s.heap [] := va_S.rf
  have hx := X.1.1
  have hb := X.1.2.1
  have hl : lv_has ls 1 [(0, .ref (φ 0))] := hl
  have L9 : ∀ (fu_4 : Nat) (M_3 : Mem)  (H : Heap) (locs : List Loc) (ls : Array Slot), va_P G.1 vwCl (wW (cM G φ L) φ M_3 n) H → va_S (wA φ n s.heap.size) s.heap H locs → lv_has ls 1 [(0, .ref (φ 0))] → f_X11_term_9 recA recN recO fu_4 M_3 = some r → W p l e ({ frames := fL + 7, cells := 0, slots := 0, locals := lL + 148 } : Room) s m args below meth c H locs 0 0 (MQ below (QQ (some (.int r.1)) (WB (cM G φ L) φ (r.2) n G) (wA φ n s.heap.size)) args s 0 0 (wA φ n s.heap.size)) (F0 m 9 ls []) := by
    intro fu_4
    induction fu_4 with
    | zero =>
      intro M_3 H locs ls _ _ _  h
      have h : (none : Option (Int32 × Mem)) = some r := h
      cases h
    | succ fu_4 ih =>
      intro M_3 H locs ls hP hS hl  h
      rw [f_X11_term_9] at h
      refine lv_aload_n hx hb dX11_term_9 rfl (lv_at hl 0 rfl) ?_
      refine lv_bipush (v := 42) hx hb dX11_term_10 (by decide) ?_
      refine c_V0 (As := [.int (42)]) (rest := []) (a := 0) X hl.1 (c_X11_is_ l X.2.2.2.1.1 hn rfl) (w_X11_218) qw_999 qw_43 ⟨by (dsimp only; omega), by (dsimp only; omega)⟩ rfl rfl hP hS (by omega) sM_Model rfl rfl (Nat.le_of_ble_eq_true rfl) dX11_term_12 (fun H locs hP hS => ?_)
      refine lv_if_eq (tgt := 40) hx hb dX11_term_15 (by decide) (fun c_5 => ?_) (fun c_5 => ?_)
      · rw [if_pos c_5] at h
        refine lv_iconst (v := 1) hx hb dX11_term_40 (by decide) ?_
        obtain rfl := Option.some.inj h
        exact W.zret (v := 1) (ty := .boolean) hx hb hr rfl (r_end X hP hS) hS.2.2 dX11_term_41 (hlocks := hlk)
      · rw [if_neg c_5] at h
        refine lv_aload_n hx hb dX11_term_18 rfl (lv_at hl 0 rfl) ?_
        obtain ⟨r_6, hr_6, h⟩ := ob h
        refine c_V0 (As := []) (rest := []) (a := 0) X hl.1 (c_X11_next l X.2.2.2.1.1 hn hr_6) (w_X11_199) qw_941 qw_32 ⟨by (dsimp only; omega), by (dsimp only; omega)⟩ rfl rfl hP hS (by omega) sM_Model rfl rfl (Nat.le_of_ble_eq_true rfl) dX11_term_19 (fun H locs hP hS => ?_)
        refine lv_aload_n hx hb dX11_term_22 rfl (lv_at hl 0 rfl) ?_
        obtain ⟨r_7, hr_7, h⟩ := ob h
        refine c_V0 (As := []) (rest := []) (a := 0) X hl.1 (c_X11_one l X.2.2.2.1.1 hn hrecA hrecN hrecO hr_7) (w_X11_224) qw_985 qw_41 ⟨by (dsimp only; omega), by (dsimp only; omega)⟩ rfl rfl hP hS (by omega) sM_Model rfl rfl (Nat.le_of_ble_eq_true rfl) dX11_term_23 (fun H locs hP hS => ?_)
        refine lv_if_ne (tgt := 31) hx hb dX11_term_26 (by decide) (fun c_8 => ?_) (fun c_8 => ?_)
        · rw [if_neg c_8] at h
          refine lv_aload_n hx hb dX11_term_31 rfl (lv_at hl 0 rfl) ?_
          refine lv_bipush (v := (-18)) hx hb dX11_term_32 (by decide) ?_
          obtain ⟨r_9, hr_9, h⟩ := ob h
          refine c_V0 (As := [.int ((-18))]) (rest := []) (a := 0) X hl.1 (c_X11_put l X.2.2.2.1.1 hn hr_9) (w_X11_202) qw_973 qw_38 ⟨by (dsimp only; omega), by (dsimp only; omega)⟩ rfl rfl hP hS (by omega) sM_Model rfl rfl (Nat.le_of_ble_eq_true rfl) dX11_term_34 (fun H locs hP hS => ?_)
          refine lv_goto (tgt := 9) hx hb dX11_term_37 (by decide) ?_
          exact ih _ _ _ _ hP hS (lv_sub hl [0] rfl)  h
        · rw [if_pos c_8] at h
          refine lv_iconst (v := 0) hx hb dX11_term_29 (by decide) ?_
          obtain rfl := Option.some.inj h
          exact W.zret (v := 0) (ty := .boolean) hx hb hr rfl (r_end X hP hS) hS.2.2 dX11_term_30 (hlocks := hlk)
  refine lv_aload_n hx hb dX11_term_0 rfl (lv_at hl 0 rfl) ?_
  obtain ⟨r_1, hr_1, h⟩ := ob h
  refine c_V0 (As := []) (rest := []) (a := 0) X hl.1 (c_X11_one l X.2.2.2.1.1 hn hrecA hrecN hrecO hr_1) (w_X11_224) qw_985 qw_41 ⟨by (dsimp only; omega), by (dsimp only; omega)⟩ rfl rfl hP hS (by omega) sM_Model rfl rfl (Nat.le_of_ble_eq_true rfl) dX11_term_1 (fun H locs hP hS => ?_)
  refine lv_if_ne (tgt := 9) hx hb dX11_term_4 (by decide) (fun c_2 => ?_) (fun c_2 => ?_)
  · rw [if_neg c_2] at h
    refine L9 _ _ _ _ _ hP hS (lv_sub hl [0] rfl)  h
  · rw [if_pos c_2] at h
    refine lv_iconst (v := 0) hx hb dX11_term_7 (by decide) ?_
    obtain rfl := Option.some.inj h
    exact W.zret (v := 0) (ty := .boolean) hx hb hr rfl (r_end X hP hS) hS.2.2 dX11_term_8 (hlocks := hlk)

def f_X11_sum_9 (recA : Mem → Option (Int32 × Mem)) (recN : Mem → Option (Int32 × Mem)) (recO : Mem → Option (Int32 × Mem)) : Nat → Mem → Option (Int32 × Mem)
  | 0, _ => none
  | fu_4 + 1, M_3 => (if (f_X11_is_ M_3 (43)) = 0 then (if (f_X11_is_ M_3 (45)) = 0 then some ((1, M_3)) else (if (f_X11_is_ M_3 (43)) = 0 then (Option.bind (f_X11_next M_3) fun r_17 => (Option.bind (f_X11_term recA recN recO r_17) fun r_18 => (if r_18.1 = 0 then some ((0, r_18.2)) else (Option.bind (f_X11_put r_18.2 ((-17))) fun r_20 => (f_X11_sum_9 recA recN recO fu_4 r_20))))) else (Option.bind (f_X11_next M_3) fun r_21 => (Option.bind (f_X11_term recA recN recO r_21) fun r_22 => (if r_22.1 = 0 then some ((0, r_22.2)) else (Option.bind (f_X11_put r_22.2 ((-16))) fun r_24 => (f_X11_sum_9 recA recN recO fu_4 r_24))))))) else (if (f_X11_is_ M_3 (43)) = 0 then (Option.bind (f_X11_next M_3) fun r_7 => (Option.bind (f_X11_term recA recN recO r_7) fun r_8 => (if r_8.1 = 0 then some ((0, r_8.2)) else (Option.bind (f_X11_put r_8.2 ((-17))) fun r_10 => (f_X11_sum_9 recA recN recO fu_4 r_10))))) else (Option.bind (f_X11_next M_3) fun r_11 => (Option.bind (f_X11_term recA recN recO r_11) fun r_12 => (if r_12.1 = 0 then some ((0, r_12.2)) else (Option.bind (f_X11_put r_12.2 ((-16))) fun r_14 => (f_X11_sum_9 recA recN recO fu_4 r_14)))))))
def f_X11_sum (recA : Mem → Option (Int32 × Mem)) (recN : Mem → Option (Int32 × Mem)) (recO : Mem → Option (Int32 × Mem)) (M : Mem) : Option (Int32 × Mem) :=
  (Option.bind (f_X11_term recA recN recO M) fun r_1 => (if r_1.1 = 0 then some ((0, r_1.2)) else (f_X11_sum_9 recA recN recO FU r_1.2)))
set_option maxRecDepth 100000 in
set_option maxHeartbeats 4000000 in
theorem c_X11_sum (l : Launch) {G : GT} {φ : Nat → Nat} {n : Nat} {M : Mem} {L : Nat → Int64} {recA : Mem → Option (Int32 × Mem)} {recN : Mem → Option (Int32 × Mem)} {recO : Mem → Option (Int32 × Mem)} {fL lL : Nat} (hI : wI φ n) (hn : 32 ≤ n) (hrecA : ∀ {M : Mem} {r : Int32 × Mem}, recA M = some r → CT l yX11_any cX11_any 1 (some .boolean) ({ frames := fL, cells := 0, slots := 0, locals := lL } : Room) [.ref (φ 0)] (WB (cM G φ L) φ M n G) (some (.int r.1)) (WB (cM G φ L) φ r.2 n G) φ n) (hrecN : ∀ {M : Mem} {r : Int32 × Mem}, recN M = some r → CT l yX11_not cX11_not 2 (some .boolean) ({ frames := fL, cells := 0, slots := 0, locals := lL } : Room) [.ref (φ 0)] (WB (cM G φ L) φ M n G) (some (.int r.1)) (WB (cM G φ L) φ r.2 n G) φ n) (hrecO : ∀ {M : Mem} {r : Int32 × Mem}, recO M = some r → CT l yX11_one cX11_one 2 (some .boolean) ({ frames := fL, cells := 0, slots := 0, locals := lL } : Room) [.ref (φ 0)] (WB (cM G φ L) φ M n G) (some (.int r.1)) (WB (cM G φ L) φ r.2 n G) φ n) {r : Int32 × Mem} (h : f_X11_sum recA recN recO M = some r) : CT l yX11_sum cX11_sum 2 (some .boolean) ({ frames := fL + 8, cells := 0, slots := 0, locals := lL + 168 } : Room) [.ref (φ 0)] (WB (cM G φ L) φ M n G) (some (.int r.1)) (WB (cM G φ L) φ (r.2) n G) φ n := by
  unfold f_X11_sum at h
  refine r_start (plainFor_of_name (by decide)) (Nat.le_of_ble_eq_true rfl) hI ?_
  intro p e s m args below meth c ls X hr hlk hP hl
  have hS : va_S (wA φ n s.heap.size) s.heap s.heap [] := va_S.rf
  have hx := X.1.1
  have hb := X.1.2.1
  have hl : lv_has ls 2 [(0, .ref (φ 0))] := hl
  have L9 : ∀ (fu_4 : Nat) (M_3 : Mem)  (H : Heap) (locs : List Loc) (ls : Array Slot), va_P G.1 vwCl (wW (cM G φ L) φ M_3 n) H → va_S (wA φ n s.heap.size) s.heap H locs → lv_has ls 2 [(0, .ref (φ 0))] → f_X11_sum_9 recA recN recO fu_4 M_3 = some r → W p l e ({ frames := fL + 8, cells := 0, slots := 0, locals := lL + 168 } : Room) s m args below meth c H locs 0 0 (MQ below (QQ (some (.int r.1)) (WB (cM G φ L) φ (r.2) n G) (wA φ n s.heap.size)) args s 0 0 (wA φ n s.heap.size)) (F0 m 9 ls []) := by
    intro fu_4
    induction fu_4 with
    | zero =>
      intro M_3 H locs ls _ _ _  h
      have h : (none : Option (Int32 × Mem)) = some r := h
      cases h
    | succ fu_4 ih =>
      intro M_3 H locs ls hP hS hl  h
      rw [f_X11_sum_9] at h
      refine lv_aload_n hx hb dX11_sum_9 rfl (lv_at hl 0 rfl) ?_
      refine lv_bipush (v := 43) hx hb dX11_sum_10 (by decide) ?_
      refine c_V0 (As := [.int (43)]) (rest := []) (a := 0) X hl.1 (c_X11_is_ l X.2.2.2.1.1 hn rfl) (w_X11_218) qw_999 qw_43 ⟨by (dsimp only; omega), by (dsimp only; omega)⟩ rfl rfl hP hS (by omega) sM_Model rfl rfl (Nat.le_of_ble_eq_true rfl) dX11_sum_12 (fun H locs hP hS => ?_)
      refine lv_if_ne (tgt := 27) hx hb dX11_sum_15 (by decide) (fun c_5 => ?_) (fun c_5 => ?_)
      · rw [if_neg c_5] at h
        refine lv_aload_n hx hb dX11_sum_27 rfl (lv_at hl 0 rfl) ?_
        refine lv_bipush (v := 43) hx hb dX11_sum_28 (by decide) ?_
        refine c_V0 (As := [.int (43)]) (rest := []) (a := 0) X hl.1 (c_X11_is_ l X.2.2.2.1.1 hn rfl) (w_X11_218) qw_999 qw_43 ⟨by (dsimp only; omega), by (dsimp only; omega)⟩ rfl rfl hP hS (by omega) sM_Model rfl rfl (Nat.le_of_ble_eq_true rfl) dX11_sum_30 (fun H locs hP hS => ?_)
        refine lv_if_eq (tgt := 41) hx hb dX11_sum_33 (by decide) (fun c_6 => ?_) (fun c_6 => ?_)
        · rw [if_pos c_6] at h
          refine lv_bipush (v := (-17)) hx hb dX11_sum_41 (by decide) ?_
          refine lv_istore_n (lv' := [(1, .int ((-17))), (0, .ref (φ 0))]) hx hb dX11_sum_43 rfl hl (by decide) rfl (fun ls hl => ?_)
          refine lv_aload_n hx hb dX11_sum_44 rfl (lv_at hl 1 rfl) ?_
          obtain ⟨r_7, hr_7, h⟩ := ob h
          refine c_V0 (As := []) (rest := []) (a := 0) X hl.1 (c_X11_next l X.2.2.2.1.1 hn hr_7) (w_X11_199) qw_941 qw_32 ⟨by (dsimp only; omega), by (dsimp only; omega)⟩ rfl rfl hP hS (by omega) sM_Model rfl rfl (Nat.le_of_ble_eq_true rfl) dX11_sum_45 (fun H locs hP hS => ?_)
          refine lv_aload_n hx hb dX11_sum_48 rfl (lv_at hl 1 rfl) ?_
          obtain ⟨r_8, hr_8, h⟩ := ob h
          refine c_V0 (As := []) (rest := []) (a := 0) X hl.1 (c_X11_term l X.2.2.2.1.1 hn hrecA hrecN hrecO hr_8) (w_X11_221) qw_981 qw_40 ⟨by (dsimp only; omega), by (dsimp only; omega)⟩ rfl rfl hP hS (by omega) sM_Model rfl rfl (Nat.le_of_ble_eq_true rfl) dX11_sum_49 (fun H locs hP hS => ?_)
          refine lv_if_ne (tgt := 57) hx hb dX11_sum_52 (by decide) (fun c_9 => ?_) (fun c_9 => ?_)
          · rw [if_neg c_9] at h
            refine lv_aload_n hx hb dX11_sum_57 rfl (lv_at hl 1 rfl) ?_
            refine lv_iload_n hx hb dX11_sum_58 rfl (lv_at hl 0 rfl) ?_
            obtain ⟨r_10, hr_10, h⟩ := ob h
            refine c_V0 (As := [.int ((-17))]) (rest := []) (a := 0) X hl.1 (c_X11_put l X.2.2.2.1.1 hn hr_10) (w_X11_202) qw_973 qw_38 ⟨by (dsimp only; omega), by (dsimp only; omega)⟩ rfl rfl hP hS (by omega) sM_Model rfl rfl (Nat.le_of_ble_eq_true rfl) dX11_sum_59 (fun H locs hP hS => ?_)
            refine lv_goto (tgt := 9) hx hb dX11_sum_62 (by decide) ?_
            exact ih _ _ _ _ hP hS (lv_sub hl [1] rfl)  h
          · rw [if_pos c_9] at h
            refine lv_iconst (v := 0) hx hb dX11_sum_55 (by decide) ?_
            obtain rfl := Option.some.inj h
            exact W.zret (v := 0) (ty := .boolean) hx hb hr rfl (r_end X hP hS) hS.2.2 dX11_sum_56 (hlocks := hlk)
        · rw [if_neg c_6] at h
          refine lv_bipush (v := (-16)) hx hb dX11_sum_36 (by decide) ?_
          refine lv_goto (tgt := 43) hx hb dX11_sum_38 (by decide) ?_
          refine lv_istore_n (lv' := [(1, .int ((-16))), (0, .ref (φ 0))]) hx hb dX11_sum_43 rfl hl (by decide) rfl (fun ls hl => ?_)
          refine lv_aload_n hx hb dX11_sum_44 rfl (lv_at hl 1 rfl) ?_
          obtain ⟨r_11, hr_11, h⟩ := ob h
          refine c_V0 (As := []) (rest := []) (a := 0) X hl.1 (c_X11_next l X.2.2.2.1.1 hn hr_11) (w_X11_199) qw_941 qw_32 ⟨by (dsimp only; omega), by (dsimp only; omega)⟩ rfl rfl hP hS (by omega) sM_Model rfl rfl (Nat.le_of_ble_eq_true rfl) dX11_sum_45 (fun H locs hP hS => ?_)
          refine lv_aload_n hx hb dX11_sum_48 rfl (lv_at hl 1 rfl) ?_
          obtain ⟨r_12, hr_12, h⟩ := ob h
          refine c_V0 (As := []) (rest := []) (a := 0) X hl.1 (c_X11_term l X.2.2.2.1.1 hn hrecA hrecN hrecO hr_12) (w_X11_221) qw_981 qw_40 ⟨by (dsimp only; omega), by (dsimp only; omega)⟩ rfl rfl hP hS (by omega) sM_Model rfl rfl (Nat.le_of_ble_eq_true rfl) dX11_sum_49 (fun H locs hP hS => ?_)
          refine lv_if_ne (tgt := 57) hx hb dX11_sum_52 (by decide) (fun c_13 => ?_) (fun c_13 => ?_)
          · rw [if_neg c_13] at h
            refine lv_aload_n hx hb dX11_sum_57 rfl (lv_at hl 1 rfl) ?_
            refine lv_iload_n hx hb dX11_sum_58 rfl (lv_at hl 0 rfl) ?_
            obtain ⟨r_14, hr_14, h⟩ := ob h
            refine c_V0 (As := [.int ((-16))]) (rest := []) (a := 0) X hl.1 (c_X11_put l X.2.2.2.1.1 hn hr_14) (w_X11_202) qw_973 qw_38 ⟨by (dsimp only; omega), by (dsimp only; omega)⟩ rfl rfl hP hS (by omega) sM_Model rfl rfl (Nat.le_of_ble_eq_true rfl) dX11_sum_59 (fun H locs hP hS => ?_)
            refine lv_goto (tgt := 9) hx hb dX11_sum_62 (by decide) ?_
            exact ih _ _ _ _ hP hS (lv_sub hl [1] rfl)  h
          · rw [if_pos c_13] at h
            refine lv_iconst (v := 0) hx hb dX11_sum_55 (by decide) ?_
            obtain rfl := Option.some.inj h
            exact W.zret (v := 0) (ty := .boolean) hx hb hr rfl (r_end X hP hS) hS.2.2 dX11_sum_56 (hlocks := hlk)
      · rw [if_pos c_5] at h
        refine lv_aload_n hx hb dX11_sum_18 rfl (lv_at hl 0 rfl) ?_
        refine lv_bipush (v := 45) hx hb dX11_sum_19 (by decide) ?_
        refine c_V0 (As := [.int (45)]) (rest := []) (a := 0) X hl.1 (c_X11_is_ l X.2.2.2.1.1 hn rfl) (w_X11_218) qw_999 qw_43 ⟨by (dsimp only; omega), by (dsimp only; omega)⟩ rfl rfl hP hS (by omega) sM_Model rfl rfl (Nat.le_of_ble_eq_true rfl) dX11_sum_21 (fun H locs hP hS => ?_)
        refine lv_if_eq (tgt := 65) hx hb dX11_sum_24 (by decide) (fun c_15 => ?_) (fun c_15 => ?_)
        · rw [if_pos c_15] at h
          refine lv_iconst (v := 1) hx hb dX11_sum_65 (by decide) ?_
          obtain rfl := Option.some.inj h
          exact W.zret (v := 1) (ty := .boolean) hx hb hr rfl (r_end X hP hS) hS.2.2 dX11_sum_66 (hlocks := hlk)
        · rw [if_neg c_15] at h
          refine lv_aload_n hx hb dX11_sum_27 rfl (lv_at hl 0 rfl) ?_
          refine lv_bipush (v := 43) hx hb dX11_sum_28 (by decide) ?_
          refine c_V0 (As := [.int (43)]) (rest := []) (a := 0) X hl.1 (c_X11_is_ l X.2.2.2.1.1 hn rfl) (w_X11_218) qw_999 qw_43 ⟨by (dsimp only; omega), by (dsimp only; omega)⟩ rfl rfl hP hS (by omega) sM_Model rfl rfl (Nat.le_of_ble_eq_true rfl) dX11_sum_30 (fun H locs hP hS => ?_)
          refine lv_if_eq (tgt := 41) hx hb dX11_sum_33 (by decide) (fun c_16 => ?_) (fun c_16 => ?_)
          · rw [if_pos c_16] at h
            refine lv_bipush (v := (-17)) hx hb dX11_sum_41 (by decide) ?_
            refine lv_istore_n (lv' := [(1, .int ((-17))), (0, .ref (φ 0))]) hx hb dX11_sum_43 rfl hl (by decide) rfl (fun ls hl => ?_)
            refine lv_aload_n hx hb dX11_sum_44 rfl (lv_at hl 1 rfl) ?_
            obtain ⟨r_17, hr_17, h⟩ := ob h
            refine c_V0 (As := []) (rest := []) (a := 0) X hl.1 (c_X11_next l X.2.2.2.1.1 hn hr_17) (w_X11_199) qw_941 qw_32 ⟨by (dsimp only; omega), by (dsimp only; omega)⟩ rfl rfl hP hS (by omega) sM_Model rfl rfl (Nat.le_of_ble_eq_true rfl) dX11_sum_45 (fun H locs hP hS => ?_)
            refine lv_aload_n hx hb dX11_sum_48 rfl (lv_at hl 1 rfl) ?_
            obtain ⟨r_18, hr_18, h⟩ := ob h
            refine c_V0 (As := []) (rest := []) (a := 0) X hl.1 (c_X11_term l X.2.2.2.1.1 hn hrecA hrecN hrecO hr_18) (w_X11_221) qw_981 qw_40 ⟨by (dsimp only; omega), by (dsimp only; omega)⟩ rfl rfl hP hS (by omega) sM_Model rfl rfl (Nat.le_of_ble_eq_true rfl) dX11_sum_49 (fun H locs hP hS => ?_)
            refine lv_if_ne (tgt := 57) hx hb dX11_sum_52 (by decide) (fun c_19 => ?_) (fun c_19 => ?_)
            · rw [if_neg c_19] at h
              refine lv_aload_n hx hb dX11_sum_57 rfl (lv_at hl 1 rfl) ?_
              refine lv_iload_n hx hb dX11_sum_58 rfl (lv_at hl 0 rfl) ?_
              obtain ⟨r_20, hr_20, h⟩ := ob h
              refine c_V0 (As := [.int ((-17))]) (rest := []) (a := 0) X hl.1 (c_X11_put l X.2.2.2.1.1 hn hr_20) (w_X11_202) qw_973 qw_38 ⟨by (dsimp only; omega), by (dsimp only; omega)⟩ rfl rfl hP hS (by omega) sM_Model rfl rfl (Nat.le_of_ble_eq_true rfl) dX11_sum_59 (fun H locs hP hS => ?_)
              refine lv_goto (tgt := 9) hx hb dX11_sum_62 (by decide) ?_
              exact ih _ _ _ _ hP hS (lv_sub hl [1] rfl)  h
            · rw [if_pos c_19] at h
              refine lv_iconst (v := 0) hx hb dX11_sum_55 (by decide) ?_
              obtain rfl := Option.some.inj h
              exact W.zret (v := 0) (ty := .boolean) hx hb hr rfl (r_end X hP hS) hS.2.2 dX11_sum_56 (hlocks := hlk)
          · rw [if_neg c_16] at h
            refine lv_bipush (v := (-16)) hx hb dX11_sum_36 (by decide) ?_
            refine lv_goto (tgt := 43) hx hb dX11_sum_38 (by decide) ?_
            refine lv_istore_n (lv' := [(1, .int ((-16))), (0, .ref (φ 0))]) hx hb dX11_sum_43 rfl hl (by decide) rfl (fun ls hl => ?_)
            refine lv_aload_n hx hb dX11_sum_44 rfl (lv_at hl 1 rfl) ?_
            obtain ⟨r_21, hr_21, h⟩ := ob h
            refine c_V0 (As := []) (rest := []) (a := 0) X hl.1 (c_X11_next l X.2.2.2.1.1 hn hr_21) (w_X11_199) qw_941 qw_32 ⟨by (dsimp only; omega), by (dsimp only; omega)⟩ rfl rfl hP hS (by omega) sM_Model rfl rfl (Nat.le_of_ble_eq_true rfl) dX11_sum_45 (fun H locs hP hS => ?_)
            refine lv_aload_n hx hb dX11_sum_48 rfl (lv_at hl 1 rfl) ?_
            obtain ⟨r_22, hr_22, h⟩ := ob h
            refine c_V0 (As := []) (rest := []) (a := 0) X hl.1 (c_X11_term l X.2.2.2.1.1 hn hrecA hrecN hrecO hr_22) (w_X11_221) qw_981 qw_40 ⟨by (dsimp only; omega), by (dsimp only; omega)⟩ rfl rfl hP hS (by omega) sM_Model rfl rfl (Nat.le_of_ble_eq_true rfl) dX11_sum_49 (fun H locs hP hS => ?_)
            refine lv_if_ne (tgt := 57) hx hb dX11_sum_52 (by decide) (fun c_23 => ?_) (fun c_23 => ?_)
            · rw [if_neg c_23] at h
              refine lv_aload_n hx hb dX11_sum_57 rfl (lv_at hl 1 rfl) ?_
              refine lv_iload_n hx hb dX11_sum_58 rfl (lv_at hl 0 rfl) ?_
              obtain ⟨r_24, hr_24, h⟩ := ob h
              refine c_V0 (As := [.int ((-16))]) (rest := []) (a := 0) X hl.1 (c_X11_put l X.2.2.2.1.1 hn hr_24) (w_X11_202) qw_973 qw_38 ⟨by (dsimp only; omega), by (dsimp only; omega)⟩ rfl rfl hP hS (by omega) sM_Model rfl rfl (Nat.le_of_ble_eq_true rfl) dX11_sum_59 (fun H locs hP hS => ?_)
              refine lv_goto (tgt := 9) hx hb dX11_sum_62 (by decide) ?_
              exact ih _ _ _ _ hP hS (lv_sub hl [1] rfl)  h
            · rw [if_pos c_23] at h
              refine lv_iconst (v := 0) hx hb dX11_sum_55 (by decide) ?_
              obtain rfl := Option.some.inj h
              exact W.zret (v := 0) (ty := .boolean) hx hb hr rfl (r_end X hP hS) hS.2.2 dX11_sum_56 (hlocks := hlk)
  refine lv_aload_n hx hb dX11_sum_0 rfl (lv_at hl 0 rfl) ?_
  obtain ⟨r_1, hr_1, h⟩ := ob h
  refine c_V0 (As := []) (rest := []) (a := 0) X hl.1 (c_X11_term l X.2.2.2.1.1 hn hrecA hrecN hrecO hr_1) (w_X11_221) qw_981 qw_40 ⟨by (dsimp only; omega), by (dsimp only; omega)⟩ rfl rfl hP hS (by omega) sM_Model rfl rfl (Nat.le_of_ble_eq_true rfl) dX11_sum_1 (fun H locs hP hS => ?_)
  refine lv_if_ne (tgt := 9) hx hb dX11_sum_4 (by decide) (fun c_2 => ?_) (fun c_2 => ?_)
  · rw [if_neg c_2] at h
    refine L9 _ _ _ _ _ hP hS (lv_sub hl [0] rfl)  h
  · rw [if_pos c_2] at h
    refine lv_iconst (v := 0) hx hb dX11_sum_7 (by decide) ?_
    obtain rfl := Option.some.inj h
    exact W.zret (v := 0) (ty := .boolean) hx hb hr rfl (r_end X hP hS) hS.2.2 dX11_sum_8 (hlocks := hlk)

def f_X11_not (recA : Mem → Option (Int32 × Mem)) (recN : Mem → Option (Int32 × Mem)) (recO : Mem → Option (Int32 × Mem)) (M : Mem) : Option (Int32 × Mem) :=
  (Option.bind (f_X11_is M 12) fun r_1 => (if r_1 = 0 then (Option.bind (f_X11_sum recA recN recO M) fun r_3 => (if r_3.1 = 0 then some ((0, r_3.2)) else (if (f_X11_is_ r_3.2 (60)) = 0 then (if (f_X11_is_ r_3.2 (61)) = 0 then some ((1, r_3.2)) else (if (f_X11_is_ r_3.2 (60)) = 0 then (Option.bind (f_X11_next r_3.2) fun r_17 => (Option.bind (f_X11_sum recA recN recO r_17) fun r_18 => (if r_18.1 = 0 then some ((0, r_18.2)) else (Option.bind (f_X11_put r_18.2 ((-15))) fun r_20 => some ((1, r_20)))))) else (Option.bind (f_X11_next r_3.2) fun r_21 => (Option.bind (f_X11_sum recA recN recO r_21) fun r_22 => (if r_22.1 = 0 then some ((0, r_22.2)) else (Option.bind (f_X11_put r_22.2 ((-14))) fun r_24 => some ((1, r_24)))))))) else (if (f_X11_is_ r_3.2 (60)) = 0 then (Option.bind (f_X11_next r_3.2) fun r_7 => (Option.bind (f_X11_sum recA recN recO r_7) fun r_8 => (if r_8.1 = 0 then some ((0, r_8.2)) else (Option.bind (f_X11_put r_8.2 ((-15))) fun r_10 => some ((1, r_10)))))) else (Option.bind (f_X11_next r_3.2) fun r_11 => (Option.bind (f_X11_sum recA recN recO r_11) fun r_12 => (if r_12.1 = 0 then some ((0, r_12.2)) else (Option.bind (f_X11_put r_12.2 ((-14))) fun r_14 => some ((1, r_14)))))))))) else (if (M 0 24) = 5 then some ((0, M)) else (Option.bind (f_X11_next (upd2 M 0 24 (((M 0 24) + 1)))) fun r_26 => (Option.bind (recN r_26) fun r_27 => (if r_27.1 = 0 then some ((0, r_27.2)) else (Option.bind (f_X11_put (upd2 r_27.2 0 24 (((r_27.2 0 24) - 1))) ((-13))) fun r_29 => some ((1, r_29)))))))))
set_option maxRecDepth 100000 in
set_option maxHeartbeats 4000000 in
theorem c_X11_not (l : Launch) {G : GT} {φ : Nat → Nat} {n : Nat} {M : Mem} {L : Nat → Int64} {recA : Mem → Option (Int32 × Mem)} {recN : Mem → Option (Int32 × Mem)} {recO : Mem → Option (Int32 × Mem)} {fL lL : Nat} (hI : wI φ n) (hn : 32 ≤ n) (hrecA : ∀ {M : Mem} {r : Int32 × Mem}, recA M = some r → CT l yX11_any cX11_any 1 (some .boolean) ({ frames := fL, cells := 0, slots := 0, locals := lL } : Room) [.ref (φ 0)] (WB (cM G φ L) φ M n G) (some (.int r.1)) (WB (cM G φ L) φ r.2 n G) φ n) (hrecN : ∀ {M : Mem} {r : Int32 × Mem}, recN M = some r → CT l yX11_not cX11_not 2 (some .boolean) ({ frames := fL, cells := 0, slots := 0, locals := lL } : Room) [.ref (φ 0)] (WB (cM G φ L) φ M n G) (some (.int r.1)) (WB (cM G φ L) φ r.2 n G) φ n) (hrecO : ∀ {M : Mem} {r : Int32 × Mem}, recO M = some r → CT l yX11_one cX11_one 2 (some .boolean) ({ frames := fL, cells := 0, slots := 0, locals := lL } : Room) [.ref (φ 0)] (WB (cM G φ L) φ M n G) (some (.int r.1)) (WB (cM G φ L) φ r.2 n G) φ n) {r : Int32 × Mem} (h : f_X11_not recA recN recO M = some r) : CT l yX11_not cX11_not 2 (some .boolean) ({ frames := fL + 9, cells := 0, slots := 0, locals := lL + 189 } : Room) [.ref (φ 0)] (WB (cM G φ L) φ M n G) (some (.int r.1)) (WB (cM G φ L) φ (r.2) n G) φ n := by
  unfold f_X11_not at h
  refine r_start (plainFor_of_name (by decide)) (Nat.le_of_ble_eq_true rfl) hI ?_
  intro p e s m args below meth c ls X hr hlk hP hl
  have hS : va_S (wA φ n s.heap.size) s.heap s.heap [] := va_S.rf
  have hx := X.1.1
  have hb := X.1.2.1
  have hl : lv_has ls 2 [(0, .ref (φ 0))] := hl
  refine lv_aload_n hx hb dX11_not_0 rfl (lv_at hl 0 rfl) ?_
  refine va_ldcS hx hb X.1.2.2.1 (X.2.2.1.2.1 ("KitchenTableModel", 211, 12) (List.mem_of_getElem? (i := 25) rfl)) dX11_not_1 ?_
  obtain ⟨r_1, hr_1, h⟩ := ob h
  refine c_V0 (As := [.ref (saS G 12)]) (rest := []) (a := 0) X hl.1 (c_X11_is l X.2.2.2.1.1 hn (by decide) hr_1) (w_X11_176) qw_956 qw_34 ⟨by (dsimp only; omega), by (dsimp only; omega)⟩ rfl rfl hP hS (by omega) sM_Model rfl rfl (Nat.le_of_ble_eq_true rfl) dX11_not_3 (fun H locs hP hS => ?_)
  refine lv_if_eq (tgt := 60) hx hb dX11_not_6 (by decide) (fun c_2 => ?_) (fun c_2 => ?_)
  · rw [if_pos c_2] at h
    refine lv_aload_n hx hb dX11_not_60 rfl (lv_at hl 0 rfl) ?_
    obtain ⟨r_3, hr_3, h⟩ := ob h
    refine c_V0 (As := []) (rest := []) (a := 0) X hl.1 (c_X11_sum l X.2.2.2.1.1 hn hrecA hrecN hrecO hr_3) (w_X11_215) qw_977 qw_39 ⟨by (dsimp only; omega), by (dsimp only; omega)⟩ rfl rfl hP hS (by omega) sM_Model rfl rfl (Nat.le_of_ble_eq_true rfl) dX11_not_61 (fun H locs hP hS => ?_)
    refine lv_if_ne (tgt := 69) hx hb dX11_not_64 (by decide) (fun c_4 => ?_) (fun c_4 => ?_)
    · rw [if_neg c_4] at h
      refine lv_aload_n hx hb dX11_not_69 rfl (lv_at hl 0 rfl) ?_
      refine lv_bipush (v := 60) hx hb dX11_not_70 (by decide) ?_
      refine c_V0 (As := [.int (60)]) (rest := []) (a := 0) X hl.1 (c_X11_is_ l X.2.2.2.1.1 hn rfl) (w_X11_218) qw_999 qw_43 ⟨by (dsimp only; omega), by (dsimp only; omega)⟩ rfl rfl hP hS (by omega) sM_Model rfl rfl (Nat.le_of_ble_eq_true rfl) dX11_not_72 (fun H locs hP hS => ?_)
      refine lv_if_ne (tgt := 87) hx hb dX11_not_75 (by decide) (fun c_5 => ?_) (fun c_5 => ?_)
      · rw [if_neg c_5] at h
        refine lv_aload_n hx hb dX11_not_87 rfl (lv_at hl 0 rfl) ?_
        refine lv_bipush (v := 60) hx hb dX11_not_88 (by decide) ?_
        refine c_V0 (As := [.int (60)]) (rest := []) (a := 0) X hl.1 (c_X11_is_ l X.2.2.2.1.1 hn rfl) (w_X11_218) qw_999 qw_43 ⟨by (dsimp only; omega), by (dsimp only; omega)⟩ rfl rfl hP hS (by omega) sM_Model rfl rfl (Nat.le_of_ble_eq_true rfl) dX11_not_90 (fun H locs hP hS => ?_)
        refine lv_if_eq (tgt := 101) hx hb dX11_not_93 (by decide) (fun c_6 => ?_) (fun c_6 => ?_)
        · rw [if_pos c_6] at h
          refine lv_bipush (v := (-15)) hx hb dX11_not_101 (by decide) ?_
          refine lv_istore_n (lv' := [(1, .int ((-15))), (0, .ref (φ 0))]) hx hb dX11_not_103 rfl hl (by decide) rfl (fun ls hl => ?_)
          refine lv_aload_n hx hb dX11_not_104 rfl (lv_at hl 1 rfl) ?_
          obtain ⟨r_7, hr_7, h⟩ := ob h
          refine c_V0 (As := []) (rest := []) (a := 0) X hl.1 (c_X11_next l X.2.2.2.1.1 hn hr_7) (w_X11_199) qw_941 qw_32 ⟨by (dsimp only; omega), by (dsimp only; omega)⟩ rfl rfl hP hS (by omega) sM_Model rfl rfl (Nat.le_of_ble_eq_true rfl) dX11_not_105 (fun H locs hP hS => ?_)
          refine lv_aload_n hx hb dX11_not_108 rfl (lv_at hl 1 rfl) ?_
          obtain ⟨r_8, hr_8, h⟩ := ob h
          refine c_V0 (As := []) (rest := []) (a := 0) X hl.1 (c_X11_sum l X.2.2.2.1.1 hn hrecA hrecN hrecO hr_8) (w_X11_215) qw_977 qw_39 ⟨by (dsimp only; omega), by (dsimp only; omega)⟩ rfl rfl hP hS (by omega) sM_Model rfl rfl (Nat.le_of_ble_eq_true rfl) dX11_not_109 (fun H locs hP hS => ?_)
          refine lv_if_ne (tgt := 117) hx hb dX11_not_112 (by decide) (fun c_9 => ?_) (fun c_9 => ?_)
          · rw [if_neg c_9] at h
            refine lv_aload_n hx hb dX11_not_117 rfl (lv_at hl 1 rfl) ?_
            refine lv_iload_n hx hb dX11_not_118 rfl (lv_at hl 0 rfl) ?_
            obtain ⟨r_10, hr_10, h⟩ := ob h
            refine c_V0 (As := [.int ((-15))]) (rest := []) (a := 0) X hl.1 (c_X11_put l X.2.2.2.1.1 hn hr_10) (w_X11_202) qw_973 qw_38 ⟨by (dsimp only; omega), by (dsimp only; omega)⟩ rfl rfl hP hS (by omega) sM_Model rfl rfl (Nat.le_of_ble_eq_true rfl) dX11_not_119 (fun H locs hP hS => ?_)
            refine lv_iconst (v := 1) hx hb dX11_not_122 (by decide) ?_
            obtain rfl := Option.some.inj h
            exact W.zret (v := 1) (ty := .boolean) hx hb hr rfl (r_end X hP hS) hS.2.2 dX11_not_123 (hlocks := hlk)
          · rw [if_pos c_9] at h
            refine lv_iconst (v := 0) hx hb dX11_not_115 (by decide) ?_
            obtain rfl := Option.some.inj h
            exact W.zret (v := 0) (ty := .boolean) hx hb hr rfl (r_end X hP hS) hS.2.2 dX11_not_116 (hlocks := hlk)
        · rw [if_neg c_6] at h
          refine lv_bipush (v := (-14)) hx hb dX11_not_96 (by decide) ?_
          refine lv_goto (tgt := 103) hx hb dX11_not_98 (by decide) ?_
          refine lv_istore_n (lv' := [(1, .int ((-14))), (0, .ref (φ 0))]) hx hb dX11_not_103 rfl hl (by decide) rfl (fun ls hl => ?_)
          refine lv_aload_n hx hb dX11_not_104 rfl (lv_at hl 1 rfl) ?_
          obtain ⟨r_11, hr_11, h⟩ := ob h
          refine c_V0 (As := []) (rest := []) (a := 0) X hl.1 (c_X11_next l X.2.2.2.1.1 hn hr_11) (w_X11_199) qw_941 qw_32 ⟨by (dsimp only; omega), by (dsimp only; omega)⟩ rfl rfl hP hS (by omega) sM_Model rfl rfl (Nat.le_of_ble_eq_true rfl) dX11_not_105 (fun H locs hP hS => ?_)
          refine lv_aload_n hx hb dX11_not_108 rfl (lv_at hl 1 rfl) ?_
          obtain ⟨r_12, hr_12, h⟩ := ob h
          refine c_V0 (As := []) (rest := []) (a := 0) X hl.1 (c_X11_sum l X.2.2.2.1.1 hn hrecA hrecN hrecO hr_12) (w_X11_215) qw_977 qw_39 ⟨by (dsimp only; omega), by (dsimp only; omega)⟩ rfl rfl hP hS (by omega) sM_Model rfl rfl (Nat.le_of_ble_eq_true rfl) dX11_not_109 (fun H locs hP hS => ?_)
          refine lv_if_ne (tgt := 117) hx hb dX11_not_112 (by decide) (fun c_13 => ?_) (fun c_13 => ?_)
          · rw [if_neg c_13] at h
            refine lv_aload_n hx hb dX11_not_117 rfl (lv_at hl 1 rfl) ?_
            refine lv_iload_n hx hb dX11_not_118 rfl (lv_at hl 0 rfl) ?_
            obtain ⟨r_14, hr_14, h⟩ := ob h
            refine c_V0 (As := [.int ((-14))]) (rest := []) (a := 0) X hl.1 (c_X11_put l X.2.2.2.1.1 hn hr_14) (w_X11_202) qw_973 qw_38 ⟨by (dsimp only; omega), by (dsimp only; omega)⟩ rfl rfl hP hS (by omega) sM_Model rfl rfl (Nat.le_of_ble_eq_true rfl) dX11_not_119 (fun H locs hP hS => ?_)
            refine lv_iconst (v := 1) hx hb dX11_not_122 (by decide) ?_
            obtain rfl := Option.some.inj h
            exact W.zret (v := 1) (ty := .boolean) hx hb hr rfl (r_end X hP hS) hS.2.2 dX11_not_123 (hlocks := hlk)
          · rw [if_pos c_13] at h
            refine lv_iconst (v := 0) hx hb dX11_not_115 (by decide) ?_
            obtain rfl := Option.some.inj h
            exact W.zret (v := 0) (ty := .boolean) hx hb hr rfl (r_end X hP hS) hS.2.2 dX11_not_116 (hlocks := hlk)
      · rw [if_pos c_5] at h
        refine lv_aload_n hx hb dX11_not_78 rfl (lv_at hl 0 rfl) ?_
        refine lv_bipush (v := 61) hx hb dX11_not_79 (by decide) ?_
        refine c_V0 (As := [.int (61)]) (rest := []) (a := 0) X hl.1 (c_X11_is_ l X.2.2.2.1.1 hn rfl) (w_X11_218) qw_999 qw_43 ⟨by (dsimp only; omega), by (dsimp only; omega)⟩ rfl rfl hP hS (by omega) sM_Model rfl rfl (Nat.le_of_ble_eq_true rfl) dX11_not_81 (fun H locs hP hS => ?_)
        refine lv_if_eq (tgt := 122) hx hb dX11_not_84 (by decide) (fun c_15 => ?_) (fun c_15 => ?_)
        · rw [if_pos c_15] at h
          refine lv_iconst (v := 1) hx hb dX11_not_122 (by decide) ?_
          obtain rfl := Option.some.inj h
          exact W.zret (v := 1) (ty := .boolean) hx hb hr rfl (r_end X hP hS) hS.2.2 dX11_not_123 (hlocks := hlk)
        · rw [if_neg c_15] at h
          refine lv_aload_n hx hb dX11_not_87 rfl (lv_at hl 0 rfl) ?_
          refine lv_bipush (v := 60) hx hb dX11_not_88 (by decide) ?_
          refine c_V0 (As := [.int (60)]) (rest := []) (a := 0) X hl.1 (c_X11_is_ l X.2.2.2.1.1 hn rfl) (w_X11_218) qw_999 qw_43 ⟨by (dsimp only; omega), by (dsimp only; omega)⟩ rfl rfl hP hS (by omega) sM_Model rfl rfl (Nat.le_of_ble_eq_true rfl) dX11_not_90 (fun H locs hP hS => ?_)
          refine lv_if_eq (tgt := 101) hx hb dX11_not_93 (by decide) (fun c_16 => ?_) (fun c_16 => ?_)
          · rw [if_pos c_16] at h
            refine lv_bipush (v := (-15)) hx hb dX11_not_101 (by decide) ?_
            refine lv_istore_n (lv' := [(1, .int ((-15))), (0, .ref (φ 0))]) hx hb dX11_not_103 rfl hl (by decide) rfl (fun ls hl => ?_)
            refine lv_aload_n hx hb dX11_not_104 rfl (lv_at hl 1 rfl) ?_
            obtain ⟨r_17, hr_17, h⟩ := ob h
            refine c_V0 (As := []) (rest := []) (a := 0) X hl.1 (c_X11_next l X.2.2.2.1.1 hn hr_17) (w_X11_199) qw_941 qw_32 ⟨by (dsimp only; omega), by (dsimp only; omega)⟩ rfl rfl hP hS (by omega) sM_Model rfl rfl (Nat.le_of_ble_eq_true rfl) dX11_not_105 (fun H locs hP hS => ?_)
            refine lv_aload_n hx hb dX11_not_108 rfl (lv_at hl 1 rfl) ?_
            obtain ⟨r_18, hr_18, h⟩ := ob h
            refine c_V0 (As := []) (rest := []) (a := 0) X hl.1 (c_X11_sum l X.2.2.2.1.1 hn hrecA hrecN hrecO hr_18) (w_X11_215) qw_977 qw_39 ⟨by (dsimp only; omega), by (dsimp only; omega)⟩ rfl rfl hP hS (by omega) sM_Model rfl rfl (Nat.le_of_ble_eq_true rfl) dX11_not_109 (fun H locs hP hS => ?_)
            refine lv_if_ne (tgt := 117) hx hb dX11_not_112 (by decide) (fun c_19 => ?_) (fun c_19 => ?_)
            · rw [if_neg c_19] at h
              refine lv_aload_n hx hb dX11_not_117 rfl (lv_at hl 1 rfl) ?_
              refine lv_iload_n hx hb dX11_not_118 rfl (lv_at hl 0 rfl) ?_
              obtain ⟨r_20, hr_20, h⟩ := ob h
              refine c_V0 (As := [.int ((-15))]) (rest := []) (a := 0) X hl.1 (c_X11_put l X.2.2.2.1.1 hn hr_20) (w_X11_202) qw_973 qw_38 ⟨by (dsimp only; omega), by (dsimp only; omega)⟩ rfl rfl hP hS (by omega) sM_Model rfl rfl (Nat.le_of_ble_eq_true rfl) dX11_not_119 (fun H locs hP hS => ?_)
              refine lv_iconst (v := 1) hx hb dX11_not_122 (by decide) ?_
              obtain rfl := Option.some.inj h
              exact W.zret (v := 1) (ty := .boolean) hx hb hr rfl (r_end X hP hS) hS.2.2 dX11_not_123 (hlocks := hlk)
            · rw [if_pos c_19] at h
              refine lv_iconst (v := 0) hx hb dX11_not_115 (by decide) ?_
              obtain rfl := Option.some.inj h
              exact W.zret (v := 0) (ty := .boolean) hx hb hr rfl (r_end X hP hS) hS.2.2 dX11_not_116 (hlocks := hlk)
          · rw [if_neg c_16] at h
            refine lv_bipush (v := (-14)) hx hb dX11_not_96 (by decide) ?_
            refine lv_goto (tgt := 103) hx hb dX11_not_98 (by decide) ?_
            refine lv_istore_n (lv' := [(1, .int ((-14))), (0, .ref (φ 0))]) hx hb dX11_not_103 rfl hl (by decide) rfl (fun ls hl => ?_)
            refine lv_aload_n hx hb dX11_not_104 rfl (lv_at hl 1 rfl) ?_
            obtain ⟨r_21, hr_21, h⟩ := ob h
            refine c_V0 (As := []) (rest := []) (a := 0) X hl.1 (c_X11_next l X.2.2.2.1.1 hn hr_21) (w_X11_199) qw_941 qw_32 ⟨by (dsimp only; omega), by (dsimp only; omega)⟩ rfl rfl hP hS (by omega) sM_Model rfl rfl (Nat.le_of_ble_eq_true rfl) dX11_not_105 (fun H locs hP hS => ?_)
            refine lv_aload_n hx hb dX11_not_108 rfl (lv_at hl 1 rfl) ?_
            obtain ⟨r_22, hr_22, h⟩ := ob h
            refine c_V0 (As := []) (rest := []) (a := 0) X hl.1 (c_X11_sum l X.2.2.2.1.1 hn hrecA hrecN hrecO hr_22) (w_X11_215) qw_977 qw_39 ⟨by (dsimp only; omega), by (dsimp only; omega)⟩ rfl rfl hP hS (by omega) sM_Model rfl rfl (Nat.le_of_ble_eq_true rfl) dX11_not_109 (fun H locs hP hS => ?_)
            refine lv_if_ne (tgt := 117) hx hb dX11_not_112 (by decide) (fun c_23 => ?_) (fun c_23 => ?_)
            · rw [if_neg c_23] at h
              refine lv_aload_n hx hb dX11_not_117 rfl (lv_at hl 1 rfl) ?_
              refine lv_iload_n hx hb dX11_not_118 rfl (lv_at hl 0 rfl) ?_
              obtain ⟨r_24, hr_24, h⟩ := ob h
              refine c_V0 (As := [.int ((-14))]) (rest := []) (a := 0) X hl.1 (c_X11_put l X.2.2.2.1.1 hn hr_24) (w_X11_202) qw_973 qw_38 ⟨by (dsimp only; omega), by (dsimp only; omega)⟩ rfl rfl hP hS (by omega) sM_Model rfl rfl (Nat.le_of_ble_eq_true rfl) dX11_not_119 (fun H locs hP hS => ?_)
              refine lv_iconst (v := 1) hx hb dX11_not_122 (by decide) ?_
              obtain rfl := Option.some.inj h
              exact W.zret (v := 1) (ty := .boolean) hx hb hr rfl (r_end X hP hS) hS.2.2 dX11_not_123 (hlocks := hlk)
            · rw [if_pos c_23] at h
              refine lv_iconst (v := 0) hx hb dX11_not_115 (by decide) ?_
              obtain rfl := Option.some.inj h
              exact W.zret (v := 0) (ty := .boolean) hx hb hr rfl (r_end X hP hS) hS.2.2 dX11_not_116 (hlocks := hlk)
    · rw [if_pos c_4] at h
      refine lv_iconst (v := 0) hx hb dX11_not_67 (by decide) ?_
      obtain rfl := Option.some.inj h
      exact W.zret (v := 0) (ty := .boolean) hx hb hr rfl (r_end X hP hS) hS.2.2 dX11_not_68 (hlocks := hlk)
  · rw [if_neg c_2] at h
    refine lv_aload_n hx hb dX11_not_9 rfl (lv_at hl 0 rfl) ?_
    refine G_X11_212 X.1 hn hP dX11_not_10 ?_
    refine lv_iconst (v := 5) hx hb dX11_not_13 (by decide) ?_
    refine lv_icmp_ne (tgt := 19) hx hb dX11_not_14 (by decide) (fun c_25 => ?_) (fun c_25 => ?_)
    · rw [if_neg c_25] at h
      refine lv_aload_n hx hb dX11_not_19 rfl (lv_at hl 0 rfl) ?_
      refine lv_dup hx hb dX11_not_20 rfl ?_
      refine G_X11_212 X.1 hn hP dX11_not_21 ?_
      refine lv_iconst (v := 1) hx hb dX11_not_24 (by decide) ?_
      refine lv_iadd hx hb dX11_not_25 ?_
      refine P_X11_212 X.1 hn X.2.2.2.1 hP hS dX11_not_26 (fun H locs hP hS => ?_)
      refine lv_aload_n hx hb dX11_not_29 rfl (lv_at hl 0 rfl) ?_
      obtain ⟨r_26, hr_26, h⟩ := ob h
      refine c_V0 (As := []) (rest := []) (a := 0) X hl.1 (c_X11_next l X.2.2.2.1.1 hn hr_26) (w_X11_199) qw_941 qw_32 ⟨by (dsimp only; omega), by (dsimp only; omega)⟩ rfl rfl hP hS (by omega) sM_Model rfl rfl (Nat.le_of_ble_eq_true rfl) dX11_not_30 (fun H locs hP hS => ?_)
      refine lv_aload_n hx hb dX11_not_33 rfl (lv_at hl 0 rfl) ?_
      obtain ⟨r_27, hr_27, h⟩ := ob h
      refine c_V0 (As := []) (rest := []) (a := 0) X hl.1 (hrecN hr_27) (w_X11_206) qw_968 qw_37 ⟨by (dsimp only; omega), by (dsimp only; omega)⟩ rfl rfl hP hS (by omega) sM_Model rfl rfl (Nat.le_of_ble_eq_true rfl) dX11_not_34 (fun H locs hP hS => ?_)
      refine lv_if_ne (tgt := 42) hx hb dX11_not_37 (by decide) (fun c_28 => ?_) (fun c_28 => ?_)
      · rw [if_neg c_28] at h
        refine lv_aload_n hx hb dX11_not_42 rfl (lv_at hl 0 rfl) ?_
        refine lv_dup hx hb dX11_not_43 rfl ?_
        refine G_X11_212 X.1 hn hP dX11_not_44 ?_
        refine lv_iconst (v := 1) hx hb dX11_not_47 (by decide) ?_
        refine lv_isub hx hb dX11_not_48 ?_
        refine P_X11_212 X.1 hn X.2.2.2.1 hP hS dX11_not_49 (fun H locs hP hS => ?_)
        refine lv_aload_n hx hb dX11_not_52 rfl (lv_at hl 0 rfl) ?_
        refine lv_bipush (v := (-13)) hx hb dX11_not_53 (by decide) ?_
        obtain ⟨r_29, hr_29, h⟩ := ob h
        refine c_V0 (As := [.int ((-13))]) (rest := []) (a := 0) X hl.1 (c_X11_put l X.2.2.2.1.1 hn hr_29) (w_X11_202) qw_973 qw_38 ⟨by (dsimp only; omega), by (dsimp only; omega)⟩ rfl rfl hP hS (by omega) sM_Model rfl rfl (Nat.le_of_ble_eq_true rfl) dX11_not_55 (fun H locs hP hS => ?_)
        refine lv_iconst (v := 1) hx hb dX11_not_58 (by decide) ?_
        obtain rfl := Option.some.inj h
        exact W.zret (v := 1) (ty := .boolean) hx hb hr rfl (r_end X hP hS) hS.2.2 dX11_not_59 (hlocks := hlk)
      · rw [if_pos c_28] at h
        refine lv_iconst (v := 0) hx hb dX11_not_40 (by decide) ?_
        obtain rfl := Option.some.inj h
        exact W.zret (v := 0) (ty := .boolean) hx hb hr rfl (r_end X hP hS) hS.2.2 dX11_not_41 (hlocks := hlk)
    · rw [if_pos c_25] at h
      refine lv_iconst (v := 0) hx hb dX11_not_17 (by decide) ?_
      obtain rfl := Option.some.inj h
      exact W.zret (v := 0) (ty := .boolean) hx hb hr rfl (r_end X hP hS) hS.2.2 dX11_not_18 (hlocks := hlk)

def f_X11_both_9 (recA : Mem → Option (Int32 × Mem)) (recN : Mem → Option (Int32 × Mem)) (recO : Mem → Option (Int32 × Mem)) : Nat → Mem → Option (Int32 × Mem)
  | 0, _ => none
  | fu_4 + 1, M_3 => (Option.bind (f_X11_is M_3 11) fun r_5 => (if r_5 = 0 then some ((1, M_3)) else (Option.bind (f_X11_next M_3) fun r_7 => (Option.bind (f_X11_not recA recN recO r_7) fun r_8 => (if r_8.1 = 0 then some ((0, r_8.2)) else (Option.bind (f_X11_put r_8.2 ((-12))) fun r_10 => (f_X11_both_9 recA recN recO fu_4 r_10)))))))
def f_X11_both (recA : Mem → Option (Int32 × Mem)) (recN : Mem → Option (Int32 × Mem)) (recO : Mem → Option (Int32 × Mem)) (M : Mem) : Option (Int32 × Mem) :=
  (Option.bind (f_X11_not recA recN recO M) fun r_1 => (if r_1.1 = 0 then some ((0, r_1.2)) else (f_X11_both_9 recA recN recO FU r_1.2)))
set_option maxRecDepth 100000 in
set_option maxHeartbeats 4000000 in
theorem c_X11_both (l : Launch) {G : GT} {φ : Nat → Nat} {n : Nat} {M : Mem} {L : Nat → Int64} {recA : Mem → Option (Int32 × Mem)} {recN : Mem → Option (Int32 × Mem)} {recO : Mem → Option (Int32 × Mem)} {fL lL : Nat} (hI : wI φ n) (hn : 32 ≤ n) (hrecA : ∀ {M : Mem} {r : Int32 × Mem}, recA M = some r → CT l yX11_any cX11_any 1 (some .boolean) ({ frames := fL, cells := 0, slots := 0, locals := lL } : Room) [.ref (φ 0)] (WB (cM G φ L) φ M n G) (some (.int r.1)) (WB (cM G φ L) φ r.2 n G) φ n) (hrecN : ∀ {M : Mem} {r : Int32 × Mem}, recN M = some r → CT l yX11_not cX11_not 2 (some .boolean) ({ frames := fL, cells := 0, slots := 0, locals := lL } : Room) [.ref (φ 0)] (WB (cM G φ L) φ M n G) (some (.int r.1)) (WB (cM G φ L) φ r.2 n G) φ n) (hrecO : ∀ {M : Mem} {r : Int32 × Mem}, recO M = some r → CT l yX11_one cX11_one 2 (some .boolean) ({ frames := fL, cells := 0, slots := 0, locals := lL } : Room) [.ref (φ 0)] (WB (cM G φ L) φ M n G) (some (.int r.1)) (WB (cM G φ L) φ r.2 n G) φ n) {r : Int32 × Mem} (h : f_X11_both recA recN recO M = some r) : CT l yX11_both cX11_both 1 (some .boolean) ({ frames := fL + 10, cells := 0, slots := 0, locals := lL + 210 } : Room) [.ref (φ 0)] (WB (cM G φ L) φ M n G) (some (.int r.1)) (WB (cM G φ L) φ (r.2) n G) φ n := by
  unfold f_X11_both at h
  refine r_start (plainFor_of_name (by decide)) (Nat.le_of_ble_eq_true rfl) hI ?_
  intro p e s m args below meth c ls X hr hlk hP hl
  have hS : va_S (wA φ n s.heap.size) s.heap s.heap [] := va_S.rf
  have hx := X.1.1
  have hb := X.1.2.1
  have hl : lv_has ls 1 [(0, .ref (φ 0))] := hl
  have L9 : ∀ (fu_4 : Nat) (M_3 : Mem)  (H : Heap) (locs : List Loc) (ls : Array Slot), va_P G.1 vwCl (wW (cM G φ L) φ M_3 n) H → va_S (wA φ n s.heap.size) s.heap H locs → lv_has ls 1 [(0, .ref (φ 0))] → f_X11_both_9 recA recN recO fu_4 M_3 = some r → W p l e ({ frames := fL + 10, cells := 0, slots := 0, locals := lL + 210 } : Room) s m args below meth c H locs 0 0 (MQ below (QQ (some (.int r.1)) (WB (cM G φ L) φ (r.2) n G) (wA φ n s.heap.size)) args s 0 0 (wA φ n s.heap.size)) (F0 m 9 ls []) := by
    intro fu_4
    induction fu_4 with
    | zero =>
      intro M_3 H locs ls _ _ _  h
      have h : (none : Option (Int32 × Mem)) = some r := h
      cases h
    | succ fu_4 ih =>
      intro M_3 H locs ls hP hS hl  h
      rw [f_X11_both_9] at h
      refine lv_aload_n hx hb dX11_both_9 rfl (lv_at hl 0 rfl) ?_
      refine va_ldcS hx hb X.1.2.2.1 (X.2.2.1.2.1 ("KitchenTableModel", 209, 11) (List.mem_of_getElem? (i := 24) rfl)) dX11_both_10 ?_
      obtain ⟨r_5, hr_5, h⟩ := ob h
      refine c_V0 (As := [.ref (saS G 11)]) (rest := []) (a := 0) X hl.1 (c_X11_is l X.2.2.2.1.1 hn (by decide) hr_5) (w_X11_176) qw_956 qw_34 ⟨by (dsimp only; omega), by (dsimp only; omega)⟩ rfl rfl hP hS (by omega) sM_Model rfl rfl (Nat.le_of_ble_eq_true rfl) dX11_both_12 (fun H locs hP hS => ?_)
      refine lv_if_eq (tgt := 40) hx hb dX11_both_15 (by decide) (fun c_6 => ?_) (fun c_6 => ?_)
      · rw [if_pos c_6] at h
        refine lv_iconst (v := 1) hx hb dX11_both_40 (by decide) ?_
        obtain rfl := Option.some.inj h
        exact W.zret (v := 1) (ty := .boolean) hx hb hr rfl (r_end X hP hS) hS.2.2 dX11_both_41 (hlocks := hlk)
      · rw [if_neg c_6] at h
        refine lv_aload_n hx hb dX11_both_18 rfl (lv_at hl 0 rfl) ?_
        obtain ⟨r_7, hr_7, h⟩ := ob h
        refine c_V0 (As := []) (rest := []) (a := 0) X hl.1 (c_X11_next l X.2.2.2.1.1 hn hr_7) (w_X11_199) qw_941 qw_32 ⟨by (dsimp only; omega), by (dsimp only; omega)⟩ rfl rfl hP hS (by omega) sM_Model rfl rfl (Nat.le_of_ble_eq_true rfl) dX11_both_19 (fun H locs hP hS => ?_)
        refine lv_aload_n hx hb dX11_both_22 rfl (lv_at hl 0 rfl) ?_
        obtain ⟨r_8, hr_8, h⟩ := ob h
        refine c_V0 (As := []) (rest := []) (a := 0) X hl.1 (c_X11_not l X.2.2.2.1.1 hn hrecA hrecN hrecO hr_8) (w_X11_206) qw_968 qw_37 ⟨by (dsimp only; omega), by (dsimp only; omega)⟩ rfl rfl hP hS (by omega) sM_Model rfl rfl (Nat.le_of_ble_eq_true rfl) dX11_both_23 (fun H locs hP hS => ?_)
        refine lv_if_ne (tgt := 31) hx hb dX11_both_26 (by decide) (fun c_9 => ?_) (fun c_9 => ?_)
        · rw [if_neg c_9] at h
          refine lv_aload_n hx hb dX11_both_31 rfl (lv_at hl 0 rfl) ?_
          refine lv_bipush (v := (-12)) hx hb dX11_both_32 (by decide) ?_
          obtain ⟨r_10, hr_10, h⟩ := ob h
          refine c_V0 (As := [.int ((-12))]) (rest := []) (a := 0) X hl.1 (c_X11_put l X.2.2.2.1.1 hn hr_10) (w_X11_202) qw_973 qw_38 ⟨by (dsimp only; omega), by (dsimp only; omega)⟩ rfl rfl hP hS (by omega) sM_Model rfl rfl (Nat.le_of_ble_eq_true rfl) dX11_both_34 (fun H locs hP hS => ?_)
          refine lv_goto (tgt := 9) hx hb dX11_both_37 (by decide) ?_
          exact ih _ _ _ _ hP hS (lv_sub hl [0] rfl)  h
        · rw [if_pos c_9] at h
          refine lv_iconst (v := 0) hx hb dX11_both_29 (by decide) ?_
          obtain rfl := Option.some.inj h
          exact W.zret (v := 0) (ty := .boolean) hx hb hr rfl (r_end X hP hS) hS.2.2 dX11_both_30 (hlocks := hlk)
  refine lv_aload_n hx hb dX11_both_0 rfl (lv_at hl 0 rfl) ?_
  obtain ⟨r_1, hr_1, h⟩ := ob h
  refine c_V0 (As := []) (rest := []) (a := 0) X hl.1 (c_X11_not l X.2.2.2.1.1 hn hrecA hrecN hrecO hr_1) (w_X11_206) qw_968 qw_37 ⟨by (dsimp only; omega), by (dsimp only; omega)⟩ rfl rfl hP hS (by omega) sM_Model rfl rfl (Nat.le_of_ble_eq_true rfl) dX11_both_1 (fun H locs hP hS => ?_)
  refine lv_if_ne (tgt := 9) hx hb dX11_both_4 (by decide) (fun c_2 => ?_) (fun c_2 => ?_)
  · rw [if_neg c_2] at h
    refine L9 _ _ _ _ _ hP hS (lv_sub hl [0] rfl)  h
  · rw [if_pos c_2] at h
    refine lv_iconst (v := 0) hx hb dX11_both_7 (by decide) ?_
    obtain rfl := Option.some.inj h
    exact W.zret (v := 0) (ty := .boolean) hx hb hr rfl (r_end X hP hS) hS.2.2 dX11_both_8 (hlocks := hlk)

def f_X11_any_9 (recA : Mem → Option (Int32 × Mem)) (recN : Mem → Option (Int32 × Mem)) (recO : Mem → Option (Int32 × Mem)) : Nat → Mem → Option (Int32 × Mem)
  | 0, _ => none
  | fu_4 + 1, M_3 => (Option.bind (f_X11_is M_3 10) fun r_5 => (if r_5 = 0 then some ((1, M_3)) else (Option.bind (f_X11_next M_3) fun r_7 => (Option.bind (f_X11_both recA recN recO r_7) fun r_8 => (if r_8.1 = 0 then some ((0, r_8.2)) else (Option.bind (f_X11_put r_8.2 ((-11))) fun r_10 => (f_X11_any_9 recA recN recO fu_4 r_10)))))))
def f_X11_any (recA : Mem → Option (Int32 × Mem)) (recN : Mem → Option (Int32 × Mem)) (recO : Mem → Option (Int32 × Mem)) (M : Mem) : Option (Int32 × Mem) :=
  (Option.bind (f_X11_both recA recN recO M) fun r_1 => (if r_1.1 = 0 then some ((0, r_1.2)) else (f_X11_any_9 recA recN recO FU r_1.2)))
set_option maxRecDepth 100000 in
set_option maxHeartbeats 4000000 in
theorem c_X11_any (l : Launch) {G : GT} {φ : Nat → Nat} {n : Nat} {M : Mem} {L : Nat → Int64} {recA : Mem → Option (Int32 × Mem)} {recN : Mem → Option (Int32 × Mem)} {recO : Mem → Option (Int32 × Mem)} {fL lL : Nat} (hI : wI φ n) (hn : 32 ≤ n) (hrecA : ∀ {M : Mem} {r : Int32 × Mem}, recA M = some r → CT l yX11_any cX11_any 1 (some .boolean) ({ frames := fL, cells := 0, slots := 0, locals := lL } : Room) [.ref (φ 0)] (WB (cM G φ L) φ M n G) (some (.int r.1)) (WB (cM G φ L) φ r.2 n G) φ n) (hrecN : ∀ {M : Mem} {r : Int32 × Mem}, recN M = some r → CT l yX11_not cX11_not 2 (some .boolean) ({ frames := fL, cells := 0, slots := 0, locals := lL } : Room) [.ref (φ 0)] (WB (cM G φ L) φ M n G) (some (.int r.1)) (WB (cM G φ L) φ r.2 n G) φ n) (hrecO : ∀ {M : Mem} {r : Int32 × Mem}, recO M = some r → CT l yX11_one cX11_one 2 (some .boolean) ({ frames := fL, cells := 0, slots := 0, locals := lL } : Room) [.ref (φ 0)] (WB (cM G φ L) φ M n G) (some (.int r.1)) (WB (cM G φ L) φ r.2 n G) φ n) {r : Int32 × Mem} (h : f_X11_any recA recN recO M = some r) : CT l yX11_any cX11_any 1 (some .boolean) ({ frames := fL + 11, cells := 0, slots := 0, locals := lL + 230 } : Room) [.ref (φ 0)] (WB (cM G φ L) φ M n G) (some (.int r.1)) (WB (cM G φ L) φ (r.2) n G) φ n := by
  unfold f_X11_any at h
  refine r_start (plainFor_of_name (by decide)) (Nat.le_of_ble_eq_true rfl) hI ?_
  intro p e s m args below meth c ls X hr hlk hP hl
  have hS : va_S (wA φ n s.heap.size) s.heap s.heap [] := va_S.rf
  have hx := X.1.1
  have hb := X.1.2.1
  have hl : lv_has ls 1 [(0, .ref (φ 0))] := hl
  have L9 : ∀ (fu_4 : Nat) (M_3 : Mem)  (H : Heap) (locs : List Loc) (ls : Array Slot), va_P G.1 vwCl (wW (cM G φ L) φ M_3 n) H → va_S (wA φ n s.heap.size) s.heap H locs → lv_has ls 1 [(0, .ref (φ 0))] → f_X11_any_9 recA recN recO fu_4 M_3 = some r → W p l e ({ frames := fL + 11, cells := 0, slots := 0, locals := lL + 230 } : Room) s m args below meth c H locs 0 0 (MQ below (QQ (some (.int r.1)) (WB (cM G φ L) φ (r.2) n G) (wA φ n s.heap.size)) args s 0 0 (wA φ n s.heap.size)) (F0 m 9 ls []) := by
    intro fu_4
    induction fu_4 with
    | zero =>
      intro M_3 H locs ls _ _ _  h
      have h : (none : Option (Int32 × Mem)) = some r := h
      cases h
    | succ fu_4 ih =>
      intro M_3 H locs ls hP hS hl  h
      rw [f_X11_any_9] at h
      refine lv_aload_n hx hb dX11_any_9 rfl (lv_at hl 0 rfl) ?_
      refine va_ldcS hx hb X.1.2.2.1 (X.2.2.1.2.1 ("KitchenTableModel", 197, 10) (List.mem_of_getElem? (i := 23) rfl)) dX11_any_10 ?_
      obtain ⟨r_5, hr_5, h⟩ := ob h
      refine c_V0 (As := [.ref (saS G 10)]) (rest := []) (a := 0) X hl.1 (c_X11_is l X.2.2.2.1.1 hn (by decide) hr_5) (w_X11_176) qw_956 qw_34 ⟨by (dsimp only; omega), by (dsimp only; omega)⟩ rfl rfl hP hS (by omega) sM_Model rfl rfl (Nat.le_of_ble_eq_true rfl) dX11_any_12 (fun H locs hP hS => ?_)
      refine lv_if_eq (tgt := 40) hx hb dX11_any_15 (by decide) (fun c_6 => ?_) (fun c_6 => ?_)
      · rw [if_pos c_6] at h
        refine lv_iconst (v := 1) hx hb dX11_any_40 (by decide) ?_
        obtain rfl := Option.some.inj h
        exact W.zret (v := 1) (ty := .boolean) hx hb hr rfl (r_end X hP hS) hS.2.2 dX11_any_41 (hlocks := hlk)
      · rw [if_neg c_6] at h
        refine lv_aload_n hx hb dX11_any_18 rfl (lv_at hl 0 rfl) ?_
        obtain ⟨r_7, hr_7, h⟩ := ob h
        refine c_V0 (As := []) (rest := []) (a := 0) X hl.1 (c_X11_next l X.2.2.2.1.1 hn hr_7) (w_X11_199) qw_941 qw_32 ⟨by (dsimp only; omega), by (dsimp only; omega)⟩ rfl rfl hP hS (by omega) sM_Model rfl rfl (Nat.le_of_ble_eq_true rfl) dX11_any_19 (fun H locs hP hS => ?_)
        refine lv_aload_n hx hb dX11_any_22 rfl (lv_at hl 0 rfl) ?_
        obtain ⟨r_8, hr_8, h⟩ := ob h
        refine c_V0 (As := []) (rest := []) (a := 0) X hl.1 (c_X11_both l X.2.2.2.1.1 hn hrecA hrecN hrecO hr_8) (w_X11_193) qw_964 qw_36 ⟨by (dsimp only; omega), by (dsimp only; omega)⟩ rfl rfl hP hS (by omega) sM_Model rfl rfl (Nat.le_of_ble_eq_true rfl) dX11_any_23 (fun H locs hP hS => ?_)
        refine lv_if_ne (tgt := 31) hx hb dX11_any_26 (by decide) (fun c_9 => ?_) (fun c_9 => ?_)
        · rw [if_neg c_9] at h
          refine lv_aload_n hx hb dX11_any_31 rfl (lv_at hl 0 rfl) ?_
          refine lv_bipush (v := (-11)) hx hb dX11_any_32 (by decide) ?_
          obtain ⟨r_10, hr_10, h⟩ := ob h
          refine c_V0 (As := [.int ((-11))]) (rest := []) (a := 0) X hl.1 (c_X11_put l X.2.2.2.1.1 hn hr_10) (w_X11_202) qw_973 qw_38 ⟨by (dsimp only; omega), by (dsimp only; omega)⟩ rfl rfl hP hS (by omega) sM_Model rfl rfl (Nat.le_of_ble_eq_true rfl) dX11_any_34 (fun H locs hP hS => ?_)
          refine lv_goto (tgt := 9) hx hb dX11_any_37 (by decide) ?_
          exact ih _ _ _ _ hP hS (lv_sub hl [0] rfl)  h
        · rw [if_pos c_9] at h
          refine lv_iconst (v := 0) hx hb dX11_any_29 (by decide) ?_
          obtain rfl := Option.some.inj h
          exact W.zret (v := 0) (ty := .boolean) hx hb hr rfl (r_end X hP hS) hS.2.2 dX11_any_30 (hlocks := hlk)
  refine lv_aload_n hx hb dX11_any_0 rfl (lv_at hl 0 rfl) ?_
  obtain ⟨r_1, hr_1, h⟩ := ob h
  refine c_V0 (As := []) (rest := []) (a := 0) X hl.1 (c_X11_both l X.2.2.2.1.1 hn hrecA hrecN hrecO hr_1) (w_X11_193) qw_964 qw_36 ⟨by (dsimp only; omega), by (dsimp only; omega)⟩ rfl rfl hP hS (by omega) sM_Model rfl rfl (Nat.le_of_ble_eq_true rfl) dX11_any_1 (fun H locs hP hS => ?_)
  refine lv_if_ne (tgt := 9) hx hb dX11_any_4 (by decide) (fun c_2 => ?_) (fun c_2 => ?_)
  · rw [if_neg c_2] at h
    refine L9 _ _ _ _ _ hP hS (lv_sub hl [0] rfl)  h
  · rw [if_pos c_2] at h
    refine lv_iconst (v := 0) hx hb dX11_any_7 (by decide) ?_
    obtain rfl := Option.some.inj h
    exact W.zret (v := 0) (ty := .boolean) hx hb hr rfl (r_end X hP hS) hS.2.2 dX11_any_8 (hlocks := hlk)

def f_X4_lev : Nat → Mem → Int32 → Option Mem
  | 0 => fun _ _ => none
  | d + 1 => fun M a1 => f_X4_level (f_X4_lev d) M a1
theorem c_X4_lev (l : Launch) {G : GT} {φ : Nat → Nat} {n : Nat} (hI : wI φ n) (hn8 : 108 ≤ n) : ∀ (d : Nat) {M : Mem} {a1 : Int32} {r : Mem}, f_X4_lev d M a1 = some r → CT l yX4_level cX4_level 2 none ({ frames := 4 * d, cells := 0, slots := 0, locals := 82 * d } : Room) [.ref (φ 107), .int (a1)] (WB (cX G φ) φ M n G) none (WB (cX G φ) φ r n G) φ n := by
  intro d
  induction d with
  | zero => intro M a1 r h; have h : (none : Option Mem) = some r := h; cases h
  | succ d ih =>
    intro M a1 r h
    exact (c_X4_level l hI hn8 ih h).mono (by dsimp only; omega) (by dsimp only; omega) rfl rfl

def f_X11_rec : Nat → Nat → Mem → Option (Int32 × Mem)
  | 0 => fun _ _ => none
  | d + 1 => fun k M => if k = 0 then f_X11_any (f_X11_rec d 0) (f_X11_rec d 1) (f_X11_rec d 2) M else if k = 1 then f_X11_not (f_X11_rec d 0) (f_X11_rec d 1) (f_X11_rec d 2) M else f_X11_one (f_X11_rec d 0) (f_X11_rec d 1) (f_X11_rec d 2) M
theorem c_X11_rec (l : Launch) {G : GT} {φ : Nat → Nat} {n : Nat} {L : Nat → Int64} (hI : wI φ n) (hn : 32 ≤ n) : ∀ (d : Nat), (∀ {M : Mem} {r : Int32 × Mem}, f_X11_rec d 0 M = some r → CT l yX11_any cX11_any 1 (some .boolean) ({ frames := 11 * d, cells := 0, slots := 0, locals := 230 * d } : Room) [.ref (φ 0)] (WB (cM G φ L) φ M n G) (some (.int r.1)) (WB (cM G φ L) φ r.2 n G) φ n) ∧ (∀ {M : Mem} {r : Int32 × Mem}, f_X11_rec d 1 M = some r → CT l yX11_not cX11_not 2 (some .boolean) ({ frames := 11 * d, cells := 0, slots := 0, locals := 230 * d } : Room) [.ref (φ 0)] (WB (cM G φ L) φ M n G) (some (.int r.1)) (WB (cM G φ L) φ r.2 n G) φ n) ∧ (∀ {M : Mem} {r : Int32 × Mem}, f_X11_rec d 2 M = some r → CT l yX11_one cX11_one 2 (some .boolean) ({ frames := 11 * d, cells := 0, slots := 0, locals := 230 * d } : Room) [.ref (φ 0)] (WB (cM G φ L) φ M n G) (some (.int r.1)) (WB (cM G φ L) φ r.2 n G) φ n) := by
  intro d
  induction d with
  | zero =>
    refine ⟨?_, ?_, ?_⟩ <;> (intro M r h; have h : (none : Option (Int32 × Mem)) = some r := h; cases h)
  | succ d ih =>
    refine ⟨?_, ?_, ?_⟩
    · intro M r h
      exact (c_X11_any l hI hn ih.1 ih.2.1 ih.2.2 h).mono (by dsimp only; omega) (by dsimp only; omega) rfl rfl
    · intro M r h
      exact (c_X11_not l hI hn ih.1 ih.2.1 ih.2.2 h).mono (by dsimp only; omega) (by dsimp only; omega) rfl rfl
    · intro M r h
      exact (c_X11_one l hI hn ih.1 ih.2.1 ih.2.2 h).mono (by dsimp only; omega) (by dsimp only; omega) rfl rfl
theorem c_X11_anyD (l : Launch) {G : GT} {φ : Nat → Nat} {n : Nat} {L : Nat → Int64} (hI : wI φ n) (hn : 32 ≤ n) (d : Nat) {M : Mem} {r : Int32 × Mem} (h : f_X11_rec d 0 M = some r) : CT l yX11_any cX11_any 1 (some .boolean) ({ frames := 11 * d, cells := 0, slots := 0, locals := 230 * d } : Room) [.ref (φ 0)] (WB (cM G φ L) φ M n G) (some (.int r.1)) (WB (cM G φ L) φ r.2 n G) φ n := (c_X11_rec l hI hn d).1 h

def f_J7_fill_53178_5 (ai alen : Nat) (x1_1 : Int32) (x3_3 : Int32) : Nat → Int32 → Mem → Option (Mem)
  | 0, _, _ => none
  | fu_5 + 1, x2_2, M_4 => (if x3_3 ≤ x2_2 then some (M_4) else (if ibd (x2_2) alen then (f_J7_fill_53178_5 ai alen x1_1 x3_3 fu_5 ((x2_2 + 1)) (upd2 M_4 ai (Int32.toNatClampNeg (x2_2)) (x1_1))) else none))
def f_J7_fill_53178 (M : Mem) (ai : Nat) (alen : Nat) (a2 : Int32) : Option (Mem) :=
  (f_J7_fill_53178_5 ai alen (a2) ((Int32.ofNat alen)) FU (0) M)
set_option maxRecDepth 100000 in
set_option maxHeartbeats 4000000 in
theorem c_J7_fill_53178 (l : Launch) {G : GT} {φ : Nat → Nat} {n : Nat} {M : Mem} {sh : ShT} {ai : Nat} {alen : Nat} {a2 : Int32} (hI : wI φ n) (hai : ai < n) (hsa : ∀ r, sh ai r = .inl (G.2.1 0, alen, .inl r)) {r : Mem} (h : f_J7_fill_53178 M ai alen a2 = some r) : CT l yJ7_fill_53178 cJ7_fill_53178 4 none ({ frames := 0, cells := 0, slots := 0, locals := 0 } : Room) [.ref (φ ai), .int (a2)] (WB (sh) φ M n G) (none) (WB (sh) φ (r) n G) φ n := by
  unfold f_J7_fill_53178 at h
  refine r_start (by decide +kernel) (Nat.le_of_ble_eq_true rfl) hI ?_
  intro p e s m args below meth c ls X hr hlk hP hl
  have hS : va_S (wA φ n s.heap.size) s.heap s.heap [] := va_S.rf
  have hx := X.1.1
  have hb := X.1.2.1
  have hl : lv_has ls 4 [(0, .ref (φ ai)), (1, .int (a2))] := hl
  have L5 : ∀ (fu_5 : Nat) (M_4 : Mem) (x1_1 : Int32) (x3_3 : Int32) (x2_2 : Int32)  (H : Heap) (locs : List Loc) (ls : Array Slot), va_P G.1 vwCl (wW (sh) φ M_4 n) H → va_S (wA φ n s.heap.size) s.heap H locs → lv_has ls 4 [(0, .ref (φ ai)), (1, .int (x1_1)), (2, .int (x2_2)), (3, .int (x3_3))] → f_J7_fill_53178_5 ai alen x1_1 x3_3 fu_5 x2_2 M_4 = some r → W p l e ({ frames := 0, cells := 0, slots := 0, locals := 0 } : Room) s m args below meth c H locs 0 0 (MQ below (QQ (none) (WB (sh) φ (r) n G) (wA φ n s.heap.size)) args s 0 0 (wA φ n s.heap.size)) (F0 m 5 ls []) := by
    intro fu_5
    induction fu_5 with
    | zero =>
      intro M_4 x1_1 x3_3 x2_2 H locs ls _ _ _  h
      have h : (none : Option (Mem)) = some r := h
      cases h
    | succ fu_5 ih =>
      intro M_4 x1_1 x3_3 x2_2 H locs ls hP hS hl  h
      rw [f_J7_fill_53178_5] at h
      refine lv_iload_n hx hb dJ7_fill_53178_5 rfl (lv_at hl 2 rfl) ?_
      refine lv_iload_n hx hb dJ7_fill_53178_6 rfl (lv_at hl 3 rfl) ?_
      refine lv_icmp_ge (tgt := 20) hx hb dJ7_fill_53178_7 (by decide) (fun c_6 => ?_) (fun c_6 => ?_)
      · rw [if_pos c_6] at h
        obtain rfl := Option.some.inj h
        exact W.vret hx hb hr (r_end X hP hS) hS.2.2 dJ7_fill_53178_20 (hlocks := hlk)
      · rw [if_neg c_6] at h
        refine lv_aload_n hx hb dJ7_fill_53178_10 rfl (lv_at hl 0 rfl) ?_
        refine lv_iload_n hx hb dJ7_fill_53178_11 rfl (lv_at hl 2 rfl) ?_
        refine lv_iload_n hx hb dJ7_fill_53178_12 rfl (lv_at hl 1 rfl) ?_
        obtain ⟨c_7, h⟩ := og h
        refine r_iast (k := (Int32.toNatClampNeg (x2_2))) X.1 X.2.2.2.1 hP hS hai hsa rfl (vin c_7) dJ7_fill_53178_13 (fun H locs hP hS => ?_)
        refine lv_iinc (v := (x2_2 + 1)) (lv' := [(2, .int ((x2_2 + 1))), (0, .ref (φ ai)), (1, .int (x1_1)), (3, .int (x3_3))]) hx hb dJ7_fill_53178_14 hl (k := 2) rfl (by rw [show Int32.ofInt (1) = 1 from by decide]) (by decide) rfl (fun ls hl => ?_)
        refine lv_goto (tgt := 5) hx hb dJ7_fill_53178_17 (by decide) ?_
        exact ih _ _ _ _ _ _ _ hP hS (lv_sub hl [1, 2, 0, 3] rfl)  h
  refine lv_iconst (v := 0) hx hb dJ7_fill_53178_0 (by decide) ?_
  refine lv_istore_n (lv' := [(2, .int (0)), (0, .ref (φ ai)), (1, .int (a2))]) hx hb dJ7_fill_53178_1 rfl hl (by decide) rfl (fun ls hl => ?_)
  refine lv_aload_n hx hb dJ7_fill_53178_2 rfl (lv_at hl 1 rfl) ?_
  refine va_alen hx hb X.1.2.2.2.2 hP ai 0 (by rw [wW_get hai, hsa]) rfl rfl dJ7_fill_53178_3 ?_
  refine lv_istore_n (lv' := [(3, .int ((Int32.ofNat alen))), (2, .int (0)), (0, .ref (φ ai)), (1, .int (a2))]) hx hb dJ7_fill_53178_4 rfl hl (by decide) rfl (fun ls hl => ?_)
  refine L5 _ _ _ _ _ _ _ _ hP hS (lv_sub hl [2, 3, 1, 0] rfl)  h

def f_X0_clear_15 (k56 : Mem → Option (Mem)) : Nat → Int32 → Mem → Option (Mem)
  | 0, _, _ => none
  | fu_4 + 1, x1_2, M_3 => (if 5 ≤ x1_2 then (k56 M_3) else (if ibd (x1_2) 5 then (Option.bind (f_J7_fill_53178 M_3 (65 + (Int32.toNatClampNeg (x1_2))) 10 ((-1))) fun r_8 => (if ibd (x1_2) 5 then (Option.bind (f_J7_fill_53178 r_8 (75 + (Int32.toNatClampNeg (x1_2))) 4 (0)) fun r_11 => (if ibd (x1_2) 5 then (Option.bind (f_J7_fill_53178 r_11 (80 + (Int32.toNatClampNeg (x1_2))) 4 (0)) fun r_14 => (f_X0_clear_15 k56 fu_4 ((x1_2 + 1)) r_14)) else none)) else none)) else none))
def f_X0_clear_58 : Nat → Int32 → Mem → Option (Mem)
  | 0, _, _ => none
  | fu_19 + 1, x1_17, M_18 => (if 4 ≤ x1_17 then (Option.bind (f_J7_fill_53178 M_18 10 4 (0)) fun r_21 => (Option.bind (f_J7_fill_53178 r_21 11 4 ((-1))) fun r_22 => (Option.bind (f_J7_fill_53178 r_22 12 4 ((-1))) fun r_23 => some (r_23)))) else (if ibd (x1_17) 4 then (Option.bind (f_J7_fill_53178 M_18 (70 + (Int32.toNatClampNeg (x1_17))) 5 (0)) fun r_26 => (f_X0_clear_58 fu_19 ((x1_17 + 1)) r_26)) else none))
def f_X0_clear (M : Mem) : Option (Mem) :=
  (Option.bind (f_J7_fill_53178 (upd2 M 5 15 (0)) 14 5 (0)) fun r_1 => (f_X0_clear_15 (fun M_16 => (f_X0_clear_58 FU (0) M_16)) FU (0) r_1))
set_option maxRecDepth 100000 in
set_option maxHeartbeats 4000000 in
theorem c_X0_clear (l : Launch) {G : GT} {φ : Nat → Nat} {n : Nat} {M : Mem} (hI : wI φ n) (hn : 107 ≤ n) {r : Mem} (h : f_X0_clear M = some r) : CT l yX0_clear cX0_clear 2 none ({ frames := 1, cells := 0, slots := 0, locals := 23 } : Room) [.ref (φ 5)] (WB (cX G φ) φ M n G) (none) (WB (cX G φ) φ (r) n G) φ n := by
  unfold f_X0_clear at h
  refine r_start (plainFor_of_name (by decide)) (Nat.le_of_ble_eq_true rfl) hI ?_
  intro p e s m args below meth c ls X hr hlk hP hl
  have hS : va_S (wA φ n s.heap.size) s.heap s.heap [] := va_S.rf
  have hx := X.1.1
  have hb := X.1.2.1
  have hl : lv_has ls 2 [(0, .ref (φ 5))] := hl
  have L15 : ∀ (fu_4 : Nat) (M_3 : Mem) (k56 : Mem → Option (Mem)) (x1_2 : Int32)  (H : Heap) (locs : List Loc) (ls : Array Slot), va_P G.1 vwCl (wW (cX G φ) φ M_3 n) H → va_S (wA φ n s.heap.size) s.heap H locs → lv_has ls 2 [(0, .ref (φ 5)), (1, .int (x1_2))] → (∀ (M_15 : Mem) (H : Heap) (locs : List Loc) (ls : Array Slot), va_P G.1 vwCl (wW (cX G φ) φ M_15 n) H → va_S (wA φ n s.heap.size) s.heap H locs → lv_has ls 2 [(0, .ref (φ 5))] → k56 M_15 = some r → W p l e ({ frames := 1, cells := 0, slots := 0, locals := 23 } : Room) s m args below meth c H locs 0 0 (MQ below (QQ (none) (WB (cX G φ) φ (r) n G) (wA φ n s.heap.size)) args s 0 0 (wA φ n s.heap.size)) (F0 m 56 ls [])) → f_X0_clear_15 k56 fu_4 x1_2 M_3 = some r → W p l e ({ frames := 1, cells := 0, slots := 0, locals := 23 } : Room) s m args below meth c H locs 0 0 (MQ below (QQ (none) (WB (cX G φ) φ (r) n G) (wA φ n s.heap.size)) args s 0 0 (wA φ n s.heap.size)) (F0 m 15 ls []) := by
    intro fu_4
    induction fu_4 with
    | zero =>
      intro M_3 k56 x1_2 H locs ls _ _ _ _ h
      have h : (none : Option (Mem)) = some r := h
      cases h
    | succ fu_4 ih =>
      intro M_3 k56 x1_2 H locs ls hP hS hl hk56 h
      rw [f_X0_clear_15] at h
      refine lv_iload_n hx hb dX0_clear_15 rfl (lv_at hl 1 rfl) ?_
      refine lv_iconst (v := 5) hx hb dX0_clear_16 (by decide) ?_
      refine lv_icmp_ge (tgt := 56) hx hb dX0_clear_17 (by decide) (fun c_5 => ?_) (fun c_5 => ?_)
      · rw [if_pos c_5] at h
        exact hk56 _ _ _ _ hP hS (lv_sub hl [0] rfl) h
      · rw [if_neg c_5] at h
        refine lv_aload_n hx hb dX0_clear_20 rfl (lv_at hl 0 rfl) ?_
        refine G_X0_24 X.1 hn hP dX0_clear_21 ?_
        refine lv_iload_n hx hb dX0_clear_24 rfl (lv_at hl 1 rfl) ?_
        obtain ⟨c_6, h⟩ := og h
        refine r_aald (t0 := 1) (k := (Int32.toNatClampNeg (x1_2))) X.1 hP rfl rfl (by omega) sX_firstRead rfl (vin c_6) dX0_clear_25 ?_
        have hj_7 : (Int32.toNatClampNeg (x1_2)) < 5 := ibd_lt c_6
        refine lv_iconst (v := (-1)) hx hb dX0_clear_26 (by decide) ?_
        obtain ⟨r_8, hr_8, h⟩ := ob h
        refine c_S0 (As := [.ref (φ (65 + (Int32.toNatClampNeg (x1_2)))), .int ((-1))]) (rest := []) X hl.1 (c_J7_fill_53178 l X.2.2.2.1.1 (by omega) (sX_readRow hj_7) hr_8) (w_X0_111) qw_684 ⟨Nat.le_of_ble_eq_true rfl, Nat.le_of_ble_eq_true rfl⟩ rfl rfl hP hS (Nat.le_of_ble_eq_true rfl) dX0_clear_27 (fun H locs hP hS => ?_)
        refine lv_aload_n hx hb dX0_clear_30 rfl (lv_at hl 0 rfl) ?_
        refine G_X0_45 X.1 hn hP dX0_clear_31 ?_
        refine lv_iload_n hx hb dX0_clear_34 rfl (lv_at hl 1 rfl) ?_
        obtain ⟨c_9, h⟩ := og h
        refine r_aald (t0 := 1) (k := (Int32.toNatClampNeg (x1_2))) X.1 hP rfl rfl (by omega) sX_askedOf rfl (vin c_9) dX0_clear_35 ?_
        have hj_10 : (Int32.toNatClampNeg (x1_2)) < 5 := ibd_lt c_9
        refine lv_iconst (v := 0) hx hb dX0_clear_36 (by decide) ?_
        obtain ⟨r_11, hr_11, h⟩ := ob h
        refine c_S0 (As := [.ref (φ (75 + (Int32.toNatClampNeg (x1_2)))), .int (0)]) (rest := []) X hl.1 (c_J7_fill_53178 l X.2.2.2.1.1 (by omega) (sX_askedRow hj_10) hr_11) (w_X0_111) qw_684 ⟨Nat.le_of_ble_eq_true rfl, Nat.le_of_ble_eq_true rfl⟩ rfl rfl hP hS (Nat.le_of_ble_eq_true rfl) dX0_clear_37 (fun H locs hP hS => ?_)
        refine lv_aload_n hx hb dX0_clear_40 rfl (lv_at hl 0 rfl) ?_
        refine G_X0_48 X.1 hn hP dX0_clear_41 ?_
        refine lv_iload_n hx hb dX0_clear_44 rfl (lv_at hl 1 rfl) ?_
        obtain ⟨c_12, h⟩ := og h
        refine r_aald (t0 := 1) (k := (Int32.toNatClampNeg (x1_2))) X.1 hP rfl rfl (by omega) sX_toldTo rfl (vin c_12) dX0_clear_45 ?_
        have hj_13 : (Int32.toNatClampNeg (x1_2)) < 5 := ibd_lt c_12
        refine lv_iconst (v := 0) hx hb dX0_clear_46 (by decide) ?_
        obtain ⟨r_14, hr_14, h⟩ := ob h
        refine c_S0 (As := [.ref (φ (80 + (Int32.toNatClampNeg (x1_2)))), .int (0)]) (rest := []) X hl.1 (c_J7_fill_53178 l X.2.2.2.1.1 (by omega) (sX_toldRow hj_13) hr_14) (w_X0_111) qw_684 ⟨Nat.le_of_ble_eq_true rfl, Nat.le_of_ble_eq_true rfl⟩ rfl rfl hP hS (Nat.le_of_ble_eq_true rfl) dX0_clear_47 (fun H locs hP hS => ?_)
        refine lv_iinc (v := (x1_2 + 1)) (lv' := [(1, .int ((x1_2 + 1))), (0, .ref (φ 5))]) hx hb dX0_clear_50 hl (k := 1) rfl (by rw [show Int32.ofInt (1) = 1 from by decide]) (by decide) rfl (fun ls hl => ?_)
        refine lv_goto (tgt := 15) hx hb dX0_clear_53 (by decide) ?_
        exact ih _ _ _ _ _ _ hP hS (lv_sub hl [1, 0] rfl) hk56 h
  have L58 : ∀ (fu_19 : Nat) (M_18 : Mem) (x1_17 : Int32)  (H : Heap) (locs : List Loc) (ls : Array Slot), va_P G.1 vwCl (wW (cX G φ) φ M_18 n) H → va_S (wA φ n s.heap.size) s.heap H locs → lv_has ls 2 [(0, .ref (φ 5)), (1, .int (x1_17))] → f_X0_clear_58 fu_19 x1_17 M_18 = some r → W p l e ({ frames := 1, cells := 0, slots := 0, locals := 23 } : Room) s m args below meth c H locs 0 0 (MQ below (QQ (none) (WB (cX G φ) φ (r) n G) (wA φ n s.heap.size)) args s 0 0 (wA φ n s.heap.size)) (F0 m 58 ls []) := by
    intro fu_19
    induction fu_19 with
    | zero =>
      intro M_18 x1_17 H locs ls _ _ _  h
      have h : (none : Option (Mem)) = some r := h
      cases h
    | succ fu_19 ih =>
      intro M_18 x1_17 H locs ls hP hS hl  h
      rw [f_X0_clear_58] at h
      refine lv_iload_n hx hb dX0_clear_58 rfl (lv_at hl 1 rfl) ?_
      refine lv_iconst (v := 4) hx hb dX0_clear_59 (by decide) ?_
      refine lv_icmp_ge (tgt := 79) hx hb dX0_clear_60 (by decide) (fun c_20 => ?_) (fun c_20 => ?_)
      · rw [if_pos c_20] at h
        refine lv_aload_n hx hb dX0_clear_79 rfl (lv_at hl 0 rfl) ?_
        refine G_X0_30 X.1 hn hP dX0_clear_80 ?_
        refine lv_iconst (v := 0) hx hb dX0_clear_83 (by decide) ?_
        obtain ⟨r_21, hr_21, h⟩ := ob h
        refine c_S0 (As := [.ref (φ 10), .int (0)]) (rest := []) X hl.1 (c_J7_fill_53178 l X.2.2.2.1.1 (by omega) sX_timesInAll hr_21) (w_X0_111) qw_684 ⟨Nat.le_of_ble_eq_true rfl, Nat.le_of_ble_eq_true rfl⟩ rfl rfl hP hS (Nat.le_of_ble_eq_true rfl) dX0_clear_84 (fun H locs hP hS => ?_)
        refine lv_aload_n hx hb dX0_clear_87 rfl (lv_at hl 0 rfl) ?_
        refine G_X0_33 X.1 hn hP dX0_clear_88 ?_
        refine lv_iconst (v := (-1)) hx hb dX0_clear_91 (by decide) ?_
        obtain ⟨r_22, hr_22, h⟩ := ob h
        refine c_S0 (As := [.ref (φ 11), .int ((-1))]) (rest := []) X hl.1 (c_J7_fill_53178 l X.2.2.2.1.1 (by omega) sX_firstHour hr_22) (w_X0_111) qw_684 ⟨Nat.le_of_ble_eq_true rfl, Nat.le_of_ble_eq_true rfl⟩ rfl rfl hP hS (Nat.le_of_ble_eq_true rfl) dX0_clear_92 (fun H locs hP hS => ?_)
        refine lv_aload_n hx hb dX0_clear_95 rfl (lv_at hl 0 rfl) ?_
        refine G_X0_36 X.1 hn hP dX0_clear_96 ?_
        refine lv_iconst (v := (-1)) hx hb dX0_clear_99 (by decide) ?_
        obtain ⟨r_23, hr_23, h⟩ := ob h
        refine c_S0 (As := [.ref (φ 12), .int ((-1))]) (rest := []) X hl.1 (c_J7_fill_53178 l X.2.2.2.1.1 (by omega) sX_firstDoer hr_23) (w_X0_111) qw_684 ⟨Nat.le_of_ble_eq_true rfl, Nat.le_of_ble_eq_true rfl⟩ rfl rfl hP hS (Nat.le_of_ble_eq_true rfl) dX0_clear_100 (fun H locs hP hS => ?_)
        obtain rfl := Option.some.inj h
        exact W.vret hx hb hr (r_end X hP hS) hS.2.2 dX0_clear_103 (hlocks := hlk)
      · rw [if_neg c_20] at h
        refine lv_aload_n hx hb dX0_clear_63 rfl (lv_at hl 0 rfl) ?_
        refine G_X0_27 X.1 hn hP dX0_clear_64 ?_
        refine lv_iload_n hx hb dX0_clear_67 rfl (lv_at hl 1 rfl) ?_
        obtain ⟨c_24, h⟩ := og h
        refine r_aald (t0 := 1) (k := (Int32.toNatClampNeg (x1_17))) X.1 hP rfl rfl (by omega) sX_timesDone rfl (vin c_24) dX0_clear_68 ?_
        have hj_25 : (Int32.toNatClampNeg (x1_17)) < 4 := ibd_lt c_24
        refine lv_iconst (v := 0) hx hb dX0_clear_69 (by decide) ?_
        obtain ⟨r_26, hr_26, h⟩ := ob h
        refine c_S0 (As := [.ref (φ (70 + (Int32.toNatClampNeg (x1_17)))), .int (0)]) (rest := []) X hl.1 (c_J7_fill_53178 l X.2.2.2.1.1 (by omega) (sX_doneRow hj_25) hr_26) (w_X0_111) qw_684 ⟨Nat.le_of_ble_eq_true rfl, Nat.le_of_ble_eq_true rfl⟩ rfl rfl hP hS (Nat.le_of_ble_eq_true rfl) dX0_clear_70 (fun H locs hP hS => ?_)
        refine lv_iinc (v := (x1_17 + 1)) (lv' := [(1, .int ((x1_17 + 1))), (0, .ref (φ 5))]) hx hb dX0_clear_73 hl (k := 1) rfl (by rw [show Int32.ofInt (1) = 1 from by decide]) (by decide) rfl (fun ls hl => ?_)
        refine lv_goto (tgt := 58) hx hb dX0_clear_76 (by decide) ?_
        exact ih _ _ _ _ _ hP hS (lv_sub hl [1, 0] rfl)  h
  refine lv_aload_n hx hb dX0_clear_0 rfl (lv_at hl 0 rfl) ?_
  refine lv_iconst (v := 0) hx hb dX0_clear_1 (by decide) ?_
  refine P_X0_59 X.1 hn X.2.2.2.1 hP hS dX0_clear_2 (fun H locs hP hS => ?_)
  refine lv_aload_n hx hb dX0_clear_5 rfl (lv_at hl 0 rfl) ?_
  refine G_X0_42 X.1 hn hP dX0_clear_6 ?_
  refine lv_iconst (v := 0) hx hb dX0_clear_9 (by decide) ?_
  obtain ⟨r_1, hr_1, h⟩ := ob h
  refine c_S0 (As := [.ref (φ 14), .int (0)]) (rest := []) X hl.1 (c_J7_fill_53178 l X.2.2.2.1.1 (by omega) sX_known hr_1) (w_X0_111) qw_684 ⟨Nat.le_of_ble_eq_true rfl, Nat.le_of_ble_eq_true rfl⟩ rfl rfl hP hS (Nat.le_of_ble_eq_true rfl) dX0_clear_10 (fun H locs hP hS => ?_)
  refine lv_iconst (v := 0) hx hb dX0_clear_13 (by decide) ?_
  refine lv_istore_n (lv' := [(1, .int (0)), (0, .ref (φ 5))]) hx hb dX0_clear_14 rfl hl (by decide) rfl (fun ls hl => ?_)
  refine L15 _ _ _ _ _ _ _ hP hS (lv_sub hl [1, 0] rfl) (fun M_16 H locs ls hP hS hl h => ?_) h
  · try dsimp only at h
    refine lv_iconst (v := 0) hx hb dX0_clear_56 (by decide) ?_
    refine lv_istore_n (lv' := [(1, .int (0)), (0, .ref (φ 5))]) hx hb dX0_clear_57 rfl hl (by decide) rfl (fun ls hl => ?_)
    refine L58 _ _ _ _ _ _ hP hS (lv_sub hl [1, 0] rfl)  h

def f_X8_liesAbove (M : Mem) (a1 : Int32) (a2 : Int32) : Option (Int32) :=
  (if ibd (a1) 10 then (if ibd (a2) 10 then (if (M (30 + (Int32.toNatClampNeg (a1))) 4) = (M (30 + (Int32.toNatClampNeg (a2))) 4) then (if (M (30 + (Int32.toNatClampNeg (a1))) 1) = (M (30 + (Int32.toNatClampNeg (a2))) 1) then (if a1 ≤ a2 then some (0) else some (1)) else (if (M (30 + (Int32.toNatClampNeg (a1))) 1) ≤ (M (30 + (Int32.toNatClampNeg (a2))) 1) then some (0) else some (1))) else (if (M (30 + (Int32.toNatClampNeg (a1))) 4) ≤ (M (30 + (Int32.toNatClampNeg (a2))) 4) then some (0) else some (1))) else none) else none)
set_option maxRecDepth 100000 in
set_option maxHeartbeats 4000000 in
theorem c_X8_liesAbove (l : Launch) {G : GT} {φ : Nat → Nat} {n : Nat} {M : Mem} {a1 : Int32} {a2 : Int32} (hI : wI φ n) (hn : 107 ≤ n) {r : Int32} (h : f_X8_liesAbove M a1 a2 = some r) : CT l yX8_liesAbove cX8_liesAbove 5 (some .boolean) ({ frames := 0, cells := 0, slots := 0, locals := 0 } : Room) [.ref (φ 1), .int (a1), .int (a2)] (WB (cX G φ) φ M n G) (some (.int r)) (WB (cX G φ) φ (M) n G) φ n := by
  unfold f_X8_liesAbove at h
  refine r_start (plainFor_of_name (by decide)) (Nat.le_of_ble_eq_true rfl) hI ?_
  intro p e s m args below meth c ls X hr hlk hP hl
  have hS : va_S (wA φ n s.heap.size) s.heap s.heap [] := va_S.rf
  have hx := X.1.1
  have hb := X.1.2.1
  have hl : lv_has ls 5 [(0, .ref (φ 1)), (1, .int (a1)), (2, .int (a2))] := hl
  refine lv_aload_n hx hb dX8_liesAbove_0 rfl (lv_at hl 0 rfl) ?_
  refine G_X8_19 X.1 hn hP dX8_liesAbove_1 ?_
  refine lv_iload_n hx hb dX8_liesAbove_4 rfl (lv_at hl 1 rfl) ?_
  obtain ⟨c_1, h⟩ := og h
  refine r_aald (t0 := 3) (k := (Int32.toNatClampNeg (a1))) X.1 hP rfl rfl (by omega) sX_slips rfl (vin c_1) dX8_liesAbove_5 ?_
  have hj_2 : (Int32.toNatClampNeg (a1)) < 10 := ibd_lt c_1
  refine lv_astore_n (lv' := [(3, .ref (φ (30 + (Int32.toNatClampNeg (a1))))), (0, .ref (φ 1)), (1, .int (a1)), (2, .int (a2))]) hx hb dX8_liesAbove_6 rfl hl (by decide) rfl (fun ls hl => ?_)
  refine lv_aload_n hx hb dX8_liesAbove_7 rfl (lv_at hl 1 rfl) ?_
  refine G_X8_19 X.1 hn hP dX8_liesAbove_8 ?_
  refine lv_iload_n hx hb dX8_liesAbove_11 rfl (lv_at hl 3 rfl) ?_
  obtain ⟨c_3, h⟩ := og h
  refine r_aald (t0 := 3) (k := (Int32.toNatClampNeg (a2))) X.1 hP rfl rfl (by omega) sX_slips rfl (vin c_3) dX8_liesAbove_12 ?_
  have hj_4 : (Int32.toNatClampNeg (a2)) < 10 := ibd_lt c_3
  refine lv_astore (lv' := [(4, .ref (φ (30 + (Int32.toNatClampNeg (a2))))), (3, .ref (φ (30 + (Int32.toNatClampNeg (a1))))), (0, .ref (φ 1)), (1, .int (a1)), (2, .int (a2))]) hx hb dX8_liesAbove_13 hl (by decide) rfl (fun ls hl => ?_)
  refine lv_aload_n hx hb dX8_liesAbove_15 rfl (lv_at hl 1 rfl) ?_
  refine G_X8_53 X.1 hn hP hj_2 dX8_liesAbove_16 ?_
  refine lv_aload hx hb dX8_liesAbove_19 (lv_at hl 0 rfl) ?_
  refine G_X8_53 X.1 hn hP hj_4 dX8_liesAbove_21 ?_
  refine lv_icmp_eq (tgt := 45) hx hb dX8_liesAbove_24 (by decide) (fun c_5 => ?_) (fun c_5 => ?_)
  · rw [if_pos c_5] at h
    refine lv_aload_n hx hb dX8_liesAbove_45 rfl (lv_at hl 1 rfl) ?_
    refine G_X8_56 X.1 hn hP hj_2 dX8_liesAbove_46 ?_
    refine lv_aload hx hb dX8_liesAbove_49 (lv_at hl 0 rfl) ?_
    refine G_X8_56 X.1 hn hP hj_4 dX8_liesAbove_51 ?_
    refine lv_icmp_eq (tgt := 77) hx hb dX8_liesAbove_54 (by decide) (fun c_6 => ?_) (fun c_6 => ?_)
    · rw [if_pos c_6] at h
      refine lv_iload_n hx hb dX8_liesAbove_77 rfl (lv_at hl 3 rfl) ?_
      refine lv_iload_n hx hb dX8_liesAbove_78 rfl (lv_at hl 4 rfl) ?_
      refine lv_icmp_le (tgt := 86) hx hb dX8_liesAbove_79 (by decide) (fun c_7 => ?_) (fun c_7 => ?_)
      · rw [if_pos c_7] at h
        refine lv_iconst (v := 0) hx hb dX8_liesAbove_86 (by decide) ?_
        obtain rfl := Option.some.inj h
        exact W.zret (v := 0) (ty := .boolean) hx hb hr rfl (r_end X hP hS) hS.2.2 dX8_liesAbove_87 (hlocks := hlk)
      · rw [if_neg c_7] at h
        refine lv_iconst (v := 1) hx hb dX8_liesAbove_82 (by decide) ?_
        refine lv_goto (tgt := 87) hx hb dX8_liesAbove_83 (by decide) ?_
        obtain rfl := Option.some.inj h
        exact W.zret (v := 1) (ty := .boolean) hx hb hr rfl (r_end X hP hS) hS.2.2 dX8_liesAbove_87 (hlocks := hlk)
    · rw [if_neg c_6] at h
      refine lv_aload_n hx hb dX8_liesAbove_57 rfl (lv_at hl 1 rfl) ?_
      refine G_X8_56 X.1 hn hP hj_2 dX8_liesAbove_58 ?_
      refine lv_aload hx hb dX8_liesAbove_61 (lv_at hl 0 rfl) ?_
      refine G_X8_56 X.1 hn hP hj_4 dX8_liesAbove_63 ?_
      refine lv_icmp_le (tgt := 73) hx hb dX8_liesAbove_66 (by decide) (fun c_8 => ?_) (fun c_8 => ?_)
      · rw [if_pos c_8] at h
        refine lv_iconst (v := 0) hx hb dX8_liesAbove_73 (by decide) ?_
        refine lv_goto (tgt := 87) hx hb dX8_liesAbove_74 (by decide) ?_
        obtain rfl := Option.some.inj h
        exact W.zret (v := 0) (ty := .boolean) hx hb hr rfl (r_end X hP hS) hS.2.2 dX8_liesAbove_87 (hlocks := hlk)
      · rw [if_neg c_8] at h
        refine lv_iconst (v := 1) hx hb dX8_liesAbove_69 (by decide) ?_
        refine lv_goto (tgt := 87) hx hb dX8_liesAbove_70 (by decide) ?_
        obtain rfl := Option.some.inj h
        exact W.zret (v := 1) (ty := .boolean) hx hb hr rfl (r_end X hP hS) hS.2.2 dX8_liesAbove_87 (hlocks := hlk)
  · rw [if_neg c_5] at h
    refine lv_aload_n hx hb dX8_liesAbove_27 rfl (lv_at hl 1 rfl) ?_
    refine G_X8_53 X.1 hn hP hj_2 dX8_liesAbove_28 ?_
    refine lv_aload hx hb dX8_liesAbove_31 (lv_at hl 0 rfl) ?_
    refine G_X8_53 X.1 hn hP hj_4 dX8_liesAbove_33 ?_
    refine lv_icmp_le (tgt := 43) hx hb dX8_liesAbove_36 (by decide) (fun c_9 => ?_) (fun c_9 => ?_)
    · rw [if_pos c_9] at h
      refine lv_iconst (v := 0) hx hb dX8_liesAbove_43 (by decide) ?_
      obtain rfl := Option.some.inj h
      exact W.zret (v := 0) (ty := .boolean) hx hb hr rfl (r_end X hP hS) hS.2.2 dX8_liesAbove_44 (hlocks := hlk)
    · rw [if_neg c_9] at h
      refine lv_iconst (v := 1) hx hb dX8_liesAbove_39 (by decide) ?_
      refine lv_goto (tgt := 44) hx hb dX8_liesAbove_40 (by decide) ?_
      obtain rfl := Option.some.inj h
      exact W.zret (v := 1) (ty := .boolean) hx hb hr rfl (r_end X hP hS) hS.2.2 dX8_liesAbove_44 (hlocks := hlk)

def f_X0_sortUppermost_15 (x1_5 : Int32) (k58 : Int32 → Mem → Option (Mem)) : Nat → Int32 → Mem → Option (Mem)
  | 0, _, _ => none
  | fu_8 + 1, x2_6, M_7 => (if x2_6 ≤ 0 then (k58 (x2_6) M_7) else (if ibd ((x2_6 - 1)) 10 then (Option.bind (f_X8_liesAbove M_7 (x1_5) ((M_7 13 (Int32.toNatClampNeg ((x2_6 - 1)))))) fun r_11 => (if r_11 = 0 then (k58 (x2_6) M_7) else (if ibd ((x2_6 - 1)) 10 then (if ibd (x2_6) 10 then (f_X0_sortUppermost_15 x1_5 k58 fu_8 ((x2_6 + (-1))) (upd2 M_7 13 (Int32.toNatClampNeg (x2_6)) ((M_7 13 (Int32.toNatClampNeg ((x2_6 - 1))))))) else none) else none))) else none))
def f_X0_sortUppermost_2 : Nat → Int32 → Mem → Option (Mem)
  | 0, _, _ => none
  | fu_3 + 1, x1_1, M_2 => (if (M_2 1 4) ≤ x1_1 then some (M_2) else (f_X0_sortUppermost_15 (x1_1) (fun x2_17 M_18 => (if ibd (x2_17) 10 then (f_X0_sortUppermost_2 fu_3 ((x1_1 + 1)) (upd2 M_18 13 (Int32.toNatClampNeg (x2_17)) (x1_1))) else none)) FU (x1_1) M_2))
def f_X0_sortUppermost (M : Mem) : Option (Mem) :=
  (f_X0_sortUppermost_2 FU (0) M)
set_option maxRecDepth 100000 in
set_option maxHeartbeats 4000000 in
theorem c_X0_sortUppermost (l : Launch) {G : GT} {φ : Nat → Nat} {n : Nat} {M : Mem} (hI : wI φ n) (hn : 107 ≤ n) {r : Mem} (h : f_X0_sortUppermost M = some r) : CT l yX0_sortUppermost cX0_sortUppermost 3 none ({ frames := 1, cells := 0, slots := 0, locals := 24 } : Room) [.ref (φ 5)] (WB (cX G φ) φ M n G) (none) (WB (cX G φ) φ (r) n G) φ n := by
  unfold f_X0_sortUppermost at h
  refine r_start (plainFor_of_name (by decide)) (Nat.le_of_ble_eq_true rfl) hI ?_
  intro p e s m args below meth c ls X hr hlk hP hl
  have hS : va_S (wA φ n s.heap.size) s.heap s.heap [] := va_S.rf
  have hx := X.1.1
  have hb := X.1.2.1
  have hl : lv_has ls 3 [(0, .ref (φ 5))] := hl
  have L15 : ∀ (fu_8 : Nat) (M_7 : Mem) (x1_5 : Int32) (k58 : Int32 → Mem → Option (Mem)) (x2_6 : Int32)  (H : Heap) (locs : List Loc) (ls : Array Slot), va_P G.1 vwCl (wW (cX G φ) φ M_7 n) H → va_S (wA φ n s.heap.size) s.heap H locs → lv_has ls 3 [(0, .ref (φ 5)), (1, .int (x1_5)), (2, .int (x2_6))] → (∀ (z_15 : Int32) (M_16 : Mem) (H : Heap) (locs : List Loc) (ls : Array Slot), va_P G.1 vwCl (wW (cX G φ) φ M_16 n) H → va_S (wA φ n s.heap.size) s.heap H locs → lv_has ls 3 [(0, .ref (φ 5)), (1, .int (x1_5)), (2, .int (z_15))] → k58 z_15 M_16 = some r → W p l e ({ frames := 1, cells := 0, slots := 0, locals := 24 } : Room) s m args below meth c H locs 0 0 (MQ below (QQ (none) (WB (cX G φ) φ (r) n G) (wA φ n s.heap.size)) args s 0 0 (wA φ n s.heap.size)) (F0 m 58 ls [])) → f_X0_sortUppermost_15 x1_5 k58 fu_8 x2_6 M_7 = some r → W p l e ({ frames := 1, cells := 0, slots := 0, locals := 24 } : Room) s m args below meth c H locs 0 0 (MQ below (QQ (none) (WB (cX G φ) φ (r) n G) (wA φ n s.heap.size)) args s 0 0 (wA φ n s.heap.size)) (F0 m 15 ls []) := by
    intro fu_8
    induction fu_8 with
    | zero =>
      intro M_7 x1_5 k58 x2_6 H locs ls _ _ _ _ h
      have h : (none : Option (Mem)) = some r := h
      cases h
    | succ fu_8 ih =>
      intro M_7 x1_5 k58 x2_6 H locs ls hP hS hl hk58 h
      rw [f_X0_sortUppermost_15] at h
      refine lv_iload_n hx hb dX0_sortUppermost_15 rfl (lv_at hl 2 rfl) ?_
      refine lv_if_le (tgt := 58) hx hb dX0_sortUppermost_16 (by decide) (fun c_9 => ?_) (fun c_9 => ?_)
      · rw [if_pos c_9] at h
        exact hk58 _ _ _ _ _ hP hS (lv_sub hl [0, 1, 2] rfl) h
      · rw [if_neg c_9] at h
        refine lv_aload_n hx hb dX0_sortUppermost_19 rfl (lv_at hl 0 rfl) ?_
        refine G_X0_63 X.1 hn hP dX0_sortUppermost_20 ?_
        refine lv_iload_n hx hb dX0_sortUppermost_23 rfl (lv_at hl 1 rfl) ?_
        refine lv_aload_n hx hb dX0_sortUppermost_24 rfl (lv_at hl 0 rfl) ?_
        refine G_X0_39 X.1 hn hP dX0_sortUppermost_25 ?_
        refine lv_iload_n hx hb dX0_sortUppermost_28 rfl (lv_at hl 2 rfl) ?_
        refine lv_iconst (v := 1) hx hb dX0_sortUppermost_29 (by decide) ?_
        refine lv_isub hx hb dX0_sortUppermost_30 ?_
        obtain ⟨c_10, h⟩ := og h
        refine r_iald (k := (Int32.toNatClampNeg ((x2_6 - 1)))) X.1 hP (by omega) sX_uppermost rfl (vin c_10) dX0_sortUppermost_31 ?_
        obtain ⟨r_11, hr_11, h⟩ := ob h
        refine c_V0 (As := [.int (x1_5), .int ((M_7 13 (Int32.toNatClampNeg ((x2_6 - 1)))))]) (rest := []) (a := 1) X hl.1 (c_X8_liesAbove l X.2.2.2.1.1 hn hr_11) (w_X0_120) qw_691 qw_692 ⟨Nat.le_of_ble_eq_true rfl, Nat.le_of_ble_eq_true rfl⟩ rfl rfl hP hS (by omega) sX_Table rfl rfl (Nat.le_of_ble_eq_true rfl) dX0_sortUppermost_32 (fun H locs hP hS => ?_)
        refine lv_if_eq (tgt := 58) hx hb dX0_sortUppermost_35 (by decide) (fun c_12 => ?_) (fun c_12 => ?_)
        · rw [if_pos c_12] at h
          exact hk58 _ _ _ _ _ hP hS (lv_sub hl [0, 1, 2] rfl) h
        · rw [if_neg c_12] at h
          refine lv_aload_n hx hb dX0_sortUppermost_38 rfl (lv_at hl 0 rfl) ?_
          refine G_X0_39 X.1 hn hP dX0_sortUppermost_39 ?_
          refine lv_iload_n hx hb dX0_sortUppermost_42 rfl (lv_at hl 2 rfl) ?_
          refine lv_aload_n hx hb dX0_sortUppermost_43 rfl (lv_at hl 0 rfl) ?_
          refine G_X0_39 X.1 hn hP dX0_sortUppermost_44 ?_
          refine lv_iload_n hx hb dX0_sortUppermost_47 rfl (lv_at hl 2 rfl) ?_
          refine lv_iconst (v := 1) hx hb dX0_sortUppermost_48 (by decide) ?_
          refine lv_isub hx hb dX0_sortUppermost_49 ?_
          obtain ⟨c_13, h⟩ := og h
          refine r_iald (k := (Int32.toNatClampNeg ((x2_6 - 1)))) X.1 hP (by omega) sX_uppermost rfl (vin c_13) dX0_sortUppermost_50 ?_
          obtain ⟨c_14, h⟩ := og h
          refine r_iast (k := (Int32.toNatClampNeg (x2_6))) X.1 X.2.2.2.1 hP hS (by omega) sX_uppermost rfl (vin c_14) dX0_sortUppermost_51 (fun H locs hP hS => ?_)
          refine lv_iinc (v := (x2_6 + (-1))) (lv' := [(2, .int ((x2_6 + (-1)))), (0, .ref (φ 5)), (1, .int (x1_5))]) hx hb dX0_sortUppermost_52 hl (k := 2) rfl (by rw [show Int32.ofInt (-1) = (-1) from by decide]) (by decide) rfl (fun ls hl => ?_)
          refine lv_goto (tgt := 15) hx hb dX0_sortUppermost_55 (by decide) ?_
          exact ih _ _ _ _ _ _ _ hP hS (lv_sub hl [1, 2, 0] rfl) hk58 h
  have L2 : ∀ (fu_3 : Nat) (M_2 : Mem) (x1_1 : Int32)  (H : Heap) (locs : List Loc) (ls : Array Slot), va_P G.1 vwCl (wW (cX G φ) φ M_2 n) H → va_S (wA φ n s.heap.size) s.heap H locs → lv_has ls 3 [(0, .ref (φ 5)), (1, .int (x1_1))] → f_X0_sortUppermost_2 fu_3 x1_1 M_2 = some r → W p l e ({ frames := 1, cells := 0, slots := 0, locals := 24 } : Room) s m args below meth c H locs 0 0 (MQ below (QQ (none) (WB (cX G φ) φ (r) n G) (wA φ n s.heap.size)) args s 0 0 (wA φ n s.heap.size)) (F0 m 2 ls []) := by
    intro fu_3
    induction fu_3 with
    | zero =>
      intro M_2 x1_1 H locs ls _ _ _  h
      have h : (none : Option (Mem)) = some r := h
      cases h
    | succ fu_3 ih =>
      intro M_2 x1_1 H locs ls hP hS hl  h
      rw [f_X0_sortUppermost_2] at h
      refine lv_iload_n hx hb dX0_sortUppermost_2 rfl (lv_at hl 1 rfl) ?_
      refine lv_aload_n hx hb dX0_sortUppermost_3 rfl (lv_at hl 0 rfl) ?_
      refine G_X0_63 X.1 hn hP dX0_sortUppermost_4 ?_
      refine G_X0_117 X.1 hn hP dX0_sortUppermost_7 ?_
      refine lv_icmp_ge (tgt := 71) hx hb dX0_sortUppermost_10 (by decide) (fun c_4 => ?_) (fun c_4 => ?_)
      · rw [if_pos c_4] at h
        obtain rfl := Option.some.inj h
        exact W.vret hx hb hr (r_end X hP hS) hS.2.2 dX0_sortUppermost_71 (hlocks := hlk)
      · rw [if_neg c_4] at h
        refine lv_iload_n hx hb dX0_sortUppermost_13 rfl (lv_at hl 1 rfl) ?_
        refine lv_istore_n (lv' := [(2, .int (x1_1)), (0, .ref (φ 5)), (1, .int (x1_1))]) hx hb dX0_sortUppermost_14 rfl hl (by decide) rfl (fun ls hl => ?_)
        refine L15 _ _ _ _ _ _ _ _ hP hS (lv_sub hl [1, 2, 0] rfl) (fun x2_17 M_18 H locs ls hP hS hl h => ?_) h
        · try dsimp only at h
          refine lv_aload_n hx hb dX0_sortUppermost_58 rfl (lv_at hl 0 rfl) ?_
          refine G_X0_39 X.1 hn hP dX0_sortUppermost_59 ?_
          refine lv_iload_n hx hb dX0_sortUppermost_62 rfl (lv_at hl 2 rfl) ?_
          refine lv_iload_n hx hb dX0_sortUppermost_63 rfl (lv_at hl 1 rfl) ?_
          obtain ⟨c_19, h⟩ := og h
          refine r_iast (k := (Int32.toNatClampNeg (x2_17))) X.1 X.2.2.2.1 hP hS (by omega) sX_uppermost rfl (vin c_19) dX0_sortUppermost_64 (fun H locs hP hS => ?_)
          refine lv_iinc (v := (x1_1 + 1)) (lv' := [(1, .int ((x1_1 + 1))), (0, .ref (φ 5)), (2, .int (x2_17))]) hx hb dX0_sortUppermost_65 hl (k := 1) rfl (by rw [show Int32.ofInt (1) = 1 from by decide]) (by decide) rfl (fun ls hl => ?_)
          refine lv_goto (tgt := 2) hx hb dX0_sortUppermost_68 (by decide) ?_
          exact ih _ _ _ _ _ hP hS (lv_sub hl [1, 0] rfl)  h
  refine lv_iconst (v := 0) hx hb dX0_sortUppermost_0 (by decide) ?_
  refine lv_istore_n (lv' := [(1, .int (0)), (0, .ref (φ 5))]) hx hb dX0_sortUppermost_1 rfl hl (by decide) rfl (fun ls hl => ?_)
  refine L2 _ _ _ _ _ _ hP hS (lv_sub hl [1, 0] rfl)  h

def f_X7_liesIn (M : Mem) (i0 : Nat) (a1 : Int32) : Int32 :=
  (if a1 ≤ (M (30 + i0) 1) then 0 else (if ((M (30 + i0) 1) + (M (30 + i0) 5)) < a1 then 0 else 1))
theorem bz_X7_liesIn (M : Mem) (i0 : Nat) (a1 : Int32) : f_X7_liesIn M i0 a1 = 0 ∨ f_X7_liesIn M i0 a1 = 1 := by
  unfold f_X7_liesIn
  repeat' (first | exact Or.inl rfl | exact Or.inr rfl | split)
set_option maxRecDepth 100000 in
set_option maxHeartbeats 4000000 in
theorem c_X7_liesIn (l : Launch) {G : GT} {φ : Nat → Nat} {n : Nat} {M : Mem} {i0 : Nat} {a1 : Int32} (hI : wI φ n) (hn : 107 ≤ n) (hi0 : i0 < 10) {r : Int32} (h : f_X7_liesIn M i0 a1 = r) : CT l yX7_liesIn cX7_liesIn 2 (some .boolean) ({ frames := 0, cells := 0, slots := 0, locals := 0 } : Room) [.ref (φ (30 + i0)), .int (a1)] (WB (cX G φ) φ M n G) (some (.int r)) (WB (cX G φ) φ (M) n G) φ n := by
  unfold f_X7_liesIn at h
  refine r_start (plainFor_of_name (by decide)) (Nat.le_of_ble_eq_true rfl) hI ?_
  intro p e s m args below meth c ls X hr hlk hP hl
  have hS : va_S (wA φ n s.heap.size) s.heap s.heap [] := va_S.rf
  have hx := X.1.1
  have hb := X.1.2.1
  have hl : lv_has ls 2 [(0, .ref (φ (30 + i0))), (1, .int (a1))] := hl
  refine lv_iload_n hx hb dX7_liesIn_0 rfl (lv_at hl 1 rfl) ?_
  refine lv_aload_n hx hb dX7_liesIn_1 rfl (lv_at hl 0 rfl) ?_
  refine G_X7_15 X.1 hn hP hi0 dX7_liesIn_2 ?_
  refine lv_icmp_le (tgt := 25) hx hb dX7_liesIn_5 (by decide) (fun c_1 => ?_) (fun c_1 => ?_)
  · rw [if_pos c_1] at h
    refine lv_iconst (v := 0) hx hb dX7_liesIn_25 (by decide) ?_
    subst h
    exact W.zret (v := 0) (ty := .boolean) hx hb hr rfl (r_end X hP hS) hS.2.2 dX7_liesIn_26 (hlocks := hlk)
  · rw [if_neg c_1] at h
    refine lv_iload_n hx hb dX7_liesIn_8 rfl (lv_at hl 1 rfl) ?_
    refine lv_aload_n hx hb dX7_liesIn_9 rfl (lv_at hl 0 rfl) ?_
    refine G_X7_15 X.1 hn hP hi0 dX7_liesIn_10 ?_
    refine lv_aload_n hx hb dX7_liesIn_13 rfl (lv_at hl 0 rfl) ?_
    refine G_X7_34 X.1 hn hP hi0 dX7_liesIn_14 ?_
    refine lv_iadd hx hb dX7_liesIn_17 ?_
    refine lv_icmp_gt (tgt := 25) hx hb dX7_liesIn_18 (by decide) (fun c_2 => ?_) (fun c_2 => ?_)
    · rw [if_pos c_2] at h
      refine lv_iconst (v := 0) hx hb dX7_liesIn_25 (by decide) ?_
      subst h
      exact W.zret (v := 0) (ty := .boolean) hx hb hr rfl (r_end X hP hS) hS.2.2 dX7_liesIn_26 (hlocks := hlk)
    · rw [if_neg c_2] at h
      refine lv_iconst (v := 1) hx hb dX7_liesIn_21 (by decide) ?_
      refine lv_goto (tgt := 26) hx hb dX7_liesIn_22 (by decide) ?_
      subst h
      exact W.zret (v := 1) (ty := .boolean) hx hb hr rfl (r_end X hP hS) hS.2.2 dX7_liesIn_26 (hlocks := hlk)

def f_X0_putIn_4 (M : Mem) (x1_1 : Int32) : Nat → Int32 → Int32 → Option (Int32)
  | 0, _, _ => none
  | fu_4 + 1, x2_2, x3_3 => (if (M 1 4) ≤ x3_3 then some (x2_2) else (if ibd (x3_3) 10 then (if (f_X7_liesIn M (Int32.toNatClampNeg (x3_3)) (x1_1)) = 0 then (f_X0_putIn_4 M x1_1 fu_4 (x2_2) ((x3_3 + 1))) else (f_X0_putIn_4 M x1_1 fu_4 ((x2_2 ||| ((1 : Int32) <<< (x3_3 &&& 31)))) ((x3_3 + 1)))) else none))
def f_X0_putIn (M : Mem) (a1 : Int32) : Option (Int32) :=
  (f_X0_putIn_4 M (a1) FU (0) (0))
set_option maxRecDepth 100000 in
set_option maxHeartbeats 4000000 in
theorem c_X0_putIn (l : Launch) {G : GT} {φ : Nat → Nat} {n : Nat} {M : Mem} {a1 : Int32} (hI : wI φ n) (hn : 107 ≤ n) {r : Int32} (h : f_X0_putIn M a1 = some r) : CT l yX0_putIn cX0_putIn 4 (some .int) ({ frames := 1, cells := 0, slots := 0, locals := 21 } : Room) [.ref (φ 5), .int (a1)] (WB (cX G φ) φ M n G) (some (.int r)) (WB (cX G φ) φ (M) n G) φ n := by
  unfold f_X0_putIn at h
  refine r_start (plainFor_of_name (by decide)) (Nat.le_of_ble_eq_true rfl) hI ?_
  intro p e s m args below meth c ls X hr hlk hP hl
  have hS : va_S (wA φ n s.heap.size) s.heap s.heap [] := va_S.rf
  have hx := X.1.1
  have hb := X.1.2.1
  have hl : lv_has ls 4 [(0, .ref (φ 5)), (1, .int (a1))] := hl
  have L4 : ∀ (fu_4 : Nat) (x1_1 : Int32) (x2_2 : Int32) (x3_3 : Int32)  (H : Heap) (locs : List Loc) (ls : Array Slot), va_P G.1 vwCl (wW (cX G φ) φ M n) H → va_S (wA φ n s.heap.size) s.heap H locs → lv_has ls 4 [(0, .ref (φ 5)), (1, .int (x1_1)), (2, .int (x2_2)), (3, .int (x3_3))] → f_X0_putIn_4 M x1_1 fu_4 x2_2 x3_3 = some r → W p l e ({ frames := 1, cells := 0, slots := 0, locals := 21 } : Room) s m args below meth c H locs 0 0 (MQ below (QQ (some (.int r)) (WB (cX G φ) φ (M) n G) (wA φ n s.heap.size)) args s 0 0 (wA φ n s.heap.size)) (F0 m 4 ls []) := by
    intro fu_4
    induction fu_4 with
    | zero =>
      intro x1_1 x2_2 x3_3 H locs ls _ _ _  h
      have h : (none : Option (Int32)) = some r := h
      cases h
    | succ fu_4 ih =>
      intro x1_1 x2_2 x3_3 H locs ls hP hS hl  h
      rw [f_X0_putIn_4] at h
      refine lv_iload_n hx hb dX0_putIn_4 rfl (lv_at hl 3 rfl) ?_
      refine lv_aload_n hx hb dX0_putIn_5 rfl (lv_at hl 0 rfl) ?_
      refine G_X0_63 X.1 hn hP dX0_putIn_6 ?_
      refine G_X0_117 X.1 hn hP dX0_putIn_9 ?_
      refine lv_icmp_ge (tgt := 43) hx hb dX0_putIn_12 (by decide) (fun c_5 => ?_) (fun c_5 => ?_)
      · rw [if_pos c_5] at h
        refine lv_iload_n hx hb dX0_putIn_43 rfl (lv_at hl 2 rfl) ?_
        obtain rfl := Option.some.inj h
        exact W.iret hx hb hr (r_end X hP hS) hS.2.2 dX0_putIn_44 (hlocks := hlk)
      · rw [if_neg c_5] at h
        refine lv_aload_n hx hb dX0_putIn_15 rfl (lv_at hl 0 rfl) ?_
        refine G_X0_63 X.1 hn hP dX0_putIn_16 ?_
        refine G_X0_124 X.1 hn hP dX0_putIn_19 ?_
        refine lv_iload_n hx hb dX0_putIn_22 rfl (lv_at hl 3 rfl) ?_
        obtain ⟨c_6, h⟩ := og h
        refine r_aald (t0 := 3) (k := (Int32.toNatClampNeg (x3_3))) X.1 hP rfl rfl (by omega) sX_slips rfl (vin c_6) dX0_putIn_23 ?_
        have hj_7 : (Int32.toNatClampNeg (x3_3)) < 10 := ibd_lt c_6
        refine lv_iload_n hx hb dX0_putIn_24 rfl (lv_at hl 1 rfl) ?_
        refine c_V0 (As := [.int (x1_1)]) (rest := []) (a := (30 + (Int32.toNatClampNeg (x3_3)))) X hl.1 (c_X7_liesIn l X.2.2.2.1.1 hn hj_7 rfl) (w_X0_128) qw_699 qw_700 ⟨Nat.le_of_ble_eq_true rfl, Nat.le_of_ble_eq_true rfl⟩ rfl rfl hP hS (by omega) (sX_Slip hj_7) rfl rfl (Nat.le_of_ble_eq_true rfl) dX0_putIn_25 (fun H locs hP hS => ?_)
        refine lv_if_eq (tgt := 37) hx hb dX0_putIn_28 (by decide) (fun c_8 => ?_) (fun c_8 => ?_)
        · rw [if_pos c_8] at h
          refine lv_iinc (v := (x3_3 + 1)) (lv' := [(3, .int ((x3_3 + 1))), (0, .ref (φ 5)), (1, .int (x1_1)), (2, .int (x2_2))]) hx hb dX0_putIn_37 hl (k := 3) rfl (by rw [show Int32.ofInt (1) = 1 from by decide]) (by decide) rfl (fun ls hl => ?_)
          refine lv_goto (tgt := 4) hx hb dX0_putIn_40 (by decide) ?_
          exact ih _ _ _ _ _ _ hP hS (lv_sub hl [1, 2, 3, 0] rfl)  h
        · rw [if_neg c_8] at h
          refine lv_iload_n hx hb dX0_putIn_31 rfl (lv_at hl 2 rfl) ?_
          refine lv_iconst (v := 1) hx hb dX0_putIn_32 (by decide) ?_
          refine lv_iload_n hx hb dX0_putIn_33 rfl (lv_at hl 3 rfl) ?_
          refine lv_ishl hx hb dX0_putIn_34 ?_
          refine lv_ior hx hb dX0_putIn_35 ?_
          refine lv_istore_n (lv' := [(2, .int ((x2_2 ||| ((1 : Int32) <<< (x3_3 &&& 31))))), (0, .ref (φ 5)), (1, .int (x1_1)), (3, .int (x3_3))]) hx hb dX0_putIn_36 rfl hl (by decide) rfl (fun ls hl => ?_)
          refine lv_iinc (v := (x3_3 + 1)) (lv' := [(3, .int ((x3_3 + 1))), (2, .int ((x2_2 ||| ((1 : Int32) <<< (x3_3 &&& 31))))), (0, .ref (φ 5)), (1, .int (x1_1))]) hx hb dX0_putIn_37 hl (k := 3) rfl (by rw [show Int32.ofInt (1) = 1 from by decide]) (by decide) rfl (fun ls hl => ?_)
          refine lv_goto (tgt := 4) hx hb dX0_putIn_40 (by decide) ?_
          exact ih _ _ _ _ _ _ hP hS (lv_sub hl [2, 3, 1, 0] rfl)  h
  refine lv_iconst (v := 0) hx hb dX0_putIn_0 (by decide) ?_
  refine lv_istore_n (lv' := [(2, .int (0)), (0, .ref (φ 5)), (1, .int (a1))]) hx hb dX0_putIn_1 rfl hl (by decide) rfl (fun ls hl => ?_)
  refine lv_iconst (v := 0) hx hb dX0_putIn_2 (by decide) ?_
  refine lv_istore_n (lv' := [(3, .int (0)), (2, .int (0)), (0, .ref (φ 5)), (1, .int (a1))]) hx hb dX0_putIn_3 rfl hl (by decide) rfl (fun ls hl => ?_)
  refine L4 _ _ _ _ _ _ _ hP hS (lv_sub hl [2, 3, 1, 0] rfl)  h

def f_X1_comesIn (M : Mem) (i0 : Nat) (a1 : Int32) : Option (Int32) :=
  (if (M (25 + i0) 1) ≤ 0 then some (0) else (if a1 < (M (25 + i0) 0) then some (0) else (if ¬ (M (25 + i0) 1) = 0 then (if ((a1 - (M (25 + i0) 0)) - (a1 - (M (25 + i0) 0)) / (M (25 + i0) 1) * (M (25 + i0) 1)) = 0 then some (1) else some (0)) else none)))
set_option maxRecDepth 100000 in
set_option maxHeartbeats 4000000 in
theorem c_X1_comesIn (l : Launch) {G : GT} {φ : Nat → Nat} {n : Nat} {M : Mem} {i0 : Nat} {a1 : Int32} (hI : wI φ n) (hn : 107 ≤ n) (hi0 : i0 < 5) {r : Int32} (h : f_X1_comesIn M i0 a1 = some r) : CT l yX1_comesIn cX1_comesIn 3 (some .boolean) ({ frames := 0, cells := 0, slots := 0, locals := 0 } : Room) [.ref (φ (20 + i0)), .int (a1)] (WB (cX G φ) φ M n G) (some (.int r)) (WB (cX G φ) φ (M) n G) φ n := by
  unfold f_X1_comesIn at h
  refine r_start (plainFor_of_name (by decide)) (Nat.le_of_ble_eq_true rfl) hI ?_
  intro p e s m args below meth c ls X hr hlk hP hl
  have hS : va_S (wA φ n s.heap.size) s.heap s.heap [] := va_S.rf
  have hx := X.1.1
  have hb := X.1.2.1
  have hl : lv_has ls 3 [(0, .ref (φ (20 + i0))), (1, .int (a1))] := hl
  refine lv_aload_n hx hb dX1_comesIn_0 rfl (lv_at hl 0 rfl) ?_
  refine G_X1_9 X.1 hn hP hi0 dX1_comesIn_1 ?_
  refine lv_iconst (v := 1) hx hb dX1_comesIn_4 (by decide) ?_
  refine r_iald (k := 1) X.1 hP (by omega) (sX_traits hi0) (by decide) (vin (by decide)) dX1_comesIn_5 ?_
  refine lv_istore_n (lv' := [(2, .int ((M (25 + i0) 1))), (0, .ref (φ (20 + i0))), (1, .int (a1))]) hx hb dX1_comesIn_6 rfl hl (by decide) rfl (fun ls hl => ?_)
  refine lv_iload_n hx hb dX1_comesIn_7 rfl (lv_at hl 0 rfl) ?_
  refine lv_if_le (tgt := 38) hx hb dX1_comesIn_8 (by decide) (fun c_1 => ?_) (fun c_1 => ?_)
  · rw [if_pos c_1] at h
    refine lv_iconst (v := 0) hx hb dX1_comesIn_38 (by decide) ?_
    obtain rfl := Option.some.inj h
    exact W.zret (v := 0) (ty := .boolean) hx hb hr rfl (r_end X hP hS) hS.2.2 dX1_comesIn_39 (hlocks := hlk)
  · rw [if_neg c_1] at h
    refine lv_iload_n hx hb dX1_comesIn_11 rfl (lv_at hl 2 rfl) ?_
    refine lv_aload_n hx hb dX1_comesIn_12 rfl (lv_at hl 1 rfl) ?_
    refine G_X1_9 X.1 hn hP hi0 dX1_comesIn_13 ?_
    refine lv_iconst (v := 0) hx hb dX1_comesIn_16 (by decide) ?_
    refine r_iald (k := 0) X.1 hP (by omega) (sX_traits hi0) (by decide) (vin (by decide)) dX1_comesIn_17 ?_
    refine lv_icmp_lt (tgt := 38) hx hb dX1_comesIn_18 (by decide) (fun c_2 => ?_) (fun c_2 => ?_)
    · rw [if_pos c_2] at h
      refine lv_iconst (v := 0) hx hb dX1_comesIn_38 (by decide) ?_
      obtain rfl := Option.some.inj h
      exact W.zret (v := 0) (ty := .boolean) hx hb hr rfl (r_end X hP hS) hS.2.2 dX1_comesIn_39 (hlocks := hlk)
    · rw [if_neg c_2] at h
      refine lv_iload_n hx hb dX1_comesIn_21 rfl (lv_at hl 2 rfl) ?_
      refine lv_aload_n hx hb dX1_comesIn_22 rfl (lv_at hl 1 rfl) ?_
      refine G_X1_9 X.1 hn hP hi0 dX1_comesIn_23 ?_
      refine lv_iconst (v := 0) hx hb dX1_comesIn_26 (by decide) ?_
      refine r_iald (k := 0) X.1 hP (by omega) (sX_traits hi0) (by decide) (vin (by decide)) dX1_comesIn_27 ?_
      refine lv_isub hx hb dX1_comesIn_28 ?_
      refine lv_iload_n hx hb dX1_comesIn_29 rfl (lv_at hl 0 rfl) ?_
      obtain ⟨c_3, h⟩ := og h
      refine lv_irem hx hb dX1_comesIn_30 c_3 ?_
      refine lv_if_ne (tgt := 38) hx hb dX1_comesIn_31 (by decide) (fun c_4 => ?_) (fun c_4 => ?_)
      · rw [if_neg c_4] at h
        refine lv_iconst (v := 0) hx hb dX1_comesIn_38 (by decide) ?_
        obtain rfl := Option.some.inj h
        exact W.zret (v := 0) (ty := .boolean) hx hb hr rfl (r_end X hP hS) hS.2.2 dX1_comesIn_39 (hlocks := hlk)
      · rw [if_pos c_4] at h
        refine lv_iconst (v := 1) hx hb dX1_comesIn_34 (by decide) ?_
        refine lv_goto (tgt := 39) hx hb dX1_comesIn_35 (by decide) ?_
        obtain rfl := Option.some.inj h
        exact W.zret (v := 1) (ty := .boolean) hx hb hr rfl (r_end X hP hS) hS.2.2 dX1_comesIn_39 (hlocks := hlk)

def f_X0_uppermostOf_8 (M : Mem) (x1_1 : Int32) : Nat → Int32 → Int32 → Int32 → Option (Int32)
  | 0, _, _, _ => none
  | fu_5 + 1, x3_2, x4_3, x5_4 => (if (M 1 4) ≤ x5_4 then some (x3_2) else (if x4_3 ≤ 0 then some (x3_2) else (if ibd (x5_4) 10 then (if (x1_1 &&& ((1 : Int32) <<< ((M 13 (Int32.toNatClampNeg (x5_4))) &&& 31))) = 0 then (f_X0_uppermostOf_8 M x1_1 fu_5 (x3_2) (x4_3) ((x5_4 + 1))) else (f_X0_uppermostOf_8 M x1_1 fu_5 ((x3_2 ||| (x1_1 &&& ((1 : Int32) <<< ((M 13 (Int32.toNatClampNeg (x5_4))) &&& 31))))) ((x4_3 + (-1))) ((x5_4 + 1)))) else none)))
def f_X0_uppermostOf (M : Mem) (a1 : Int32) (a2 : Int32) : Option (Int32) :=
  (f_X0_uppermostOf_8 M (a1) FU (0) (a2) (0))
set_option maxRecDepth 100000 in
set_option maxHeartbeats 4000000 in
theorem c_X0_uppermostOf (l : Launch) {G : GT} {φ : Nat → Nat} {n : Nat} {M : Mem} {a1 : Int32} {a2 : Int32} (hI : wI φ n) (hn : 107 ≤ n) {r : Int32} (h : f_X0_uppermostOf M a1 a2 = some r) : CT l yX0_uppermostOf cX0_uppermostOf 7 (some .int) ({ frames := 0, cells := 0, slots := 0, locals := 0 } : Room) [.ref (φ 5), .int (a1), .int (a2)] (WB (cX G φ) φ M n G) (some (.int r)) (WB (cX G φ) φ (M) n G) φ n := by
  unfold f_X0_uppermostOf at h
  refine r_start (plainFor_of_name (by decide)) (Nat.le_of_ble_eq_true rfl) hI ?_
  intro p e s m args below meth c ls X hr hlk hP hl
  have hS : va_S (wA φ n s.heap.size) s.heap s.heap [] := va_S.rf
  have hx := X.1.1
  have hb := X.1.2.1
  have hl : lv_has ls 7 [(0, .ref (φ 5)), (1, .int (a1)), (2, .int (a2))] := hl
  have L8 : ∀ (fu_5 : Nat) (x1_1 : Int32) (x3_2 : Int32) (x4_3 : Int32) (x5_4 : Int32)  (H : Heap) (locs : List Loc) (ls : Array Slot), va_P G.1 vwCl (wW (cX G φ) φ M n) H → va_S (wA φ n s.heap.size) s.heap H locs → lv_has ls 7 [(0, .ref (φ 5)), (1, .int (x1_1)), (3, .int (x3_2)), (4, .int (x4_3)), (5, .int (x5_4))] → f_X0_uppermostOf_8 M x1_1 fu_5 x3_2 x4_3 x5_4 = some r → W p l e ({ frames := 0, cells := 0, slots := 0, locals := 0 } : Room) s m args below meth c H locs 0 0 (MQ below (QQ (some (.int r)) (WB (cX G φ) φ (M) n G) (wA φ n s.heap.size)) args s 0 0 (wA φ n s.heap.size)) (F0 m 8 ls []) := by
    intro fu_5
    induction fu_5 with
    | zero =>
      intro x1_1 x3_2 x4_3 x5_4 H locs ls _ _ _  h
      have h : (none : Option (Int32)) = some r := h
      cases h
    | succ fu_5 ih =>
      intro x1_1 x3_2 x4_3 x5_4 H locs ls hP hS hl  h
      rw [f_X0_uppermostOf_8] at h
      refine lv_iload hx hb dX0_uppermostOf_8 (lv_at hl 4 rfl) ?_
      refine lv_aload_n hx hb dX0_uppermostOf_10 rfl (lv_at hl 0 rfl) ?_
      refine G_X0_63 X.1 hn hP dX0_uppermostOf_11 ?_
      refine G_X0_117 X.1 hn hP dX0_uppermostOf_14 ?_
      refine lv_icmp_ge (tgt := 57) hx hb dX0_uppermostOf_17 (by decide) (fun c_6 => ?_) (fun c_6 => ?_)
      · rw [if_pos c_6] at h
        refine lv_iload_n hx hb dX0_uppermostOf_57 rfl (lv_at hl 2 rfl) ?_
        obtain rfl := Option.some.inj h
        exact W.iret hx hb hr (r_end X hP hS) hS.2.2 dX0_uppermostOf_58 (hlocks := hlk)
      · rw [if_neg c_6] at h
        refine lv_iload hx hb dX0_uppermostOf_20 (lv_at hl 3 rfl) ?_
        refine lv_if_le (tgt := 57) hx hb dX0_uppermostOf_22 (by decide) (fun c_7 => ?_) (fun c_7 => ?_)
        · rw [if_pos c_7] at h
          refine lv_iload_n hx hb dX0_uppermostOf_57 rfl (lv_at hl 2 rfl) ?_
          obtain rfl := Option.some.inj h
          exact W.iret hx hb hr (r_end X hP hS) hS.2.2 dX0_uppermostOf_58 (hlocks := hlk)
        · rw [if_neg c_7] at h
          refine lv_iload_n hx hb dX0_uppermostOf_25 rfl (lv_at hl 1 rfl) ?_
          refine lv_iconst (v := 1) hx hb dX0_uppermostOf_26 (by decide) ?_
          refine lv_aload_n hx hb dX0_uppermostOf_27 rfl (lv_at hl 0 rfl) ?_
          refine G_X0_39 X.1 hn hP dX0_uppermostOf_28 ?_
          refine lv_iload hx hb dX0_uppermostOf_31 (lv_at hl 4 rfl) ?_
          obtain ⟨c_8, h⟩ := og h
          refine r_iald (k := (Int32.toNatClampNeg (x5_4))) X.1 hP (by omega) sX_uppermost rfl (vin c_8) dX0_uppermostOf_33 ?_
          refine lv_ishl hx hb dX0_uppermostOf_34 ?_
          refine lv_iand hx hb dX0_uppermostOf_35 ?_
          refine lv_istore (lv' := [(6, .int ((x1_1 &&& ((1 : Int32) <<< ((M 13 (Int32.toNatClampNeg (x5_4))) &&& 31))))), (0, .ref (φ 5)), (1, .int (x1_1)), (3, .int (x3_2)), (4, .int (x4_3)), (5, .int (x5_4))]) hx hb dX0_uppermostOf_36 hl (by decide) rfl (fun ls hl => ?_)
          refine lv_iload hx hb dX0_uppermostOf_38 (lv_at hl 0 rfl) ?_
          refine lv_if_eq (tgt := 51) hx hb dX0_uppermostOf_40 (by decide) (fun c_9 => ?_) (fun c_9 => ?_)
          · rw [if_pos c_9] at h
            refine lv_iinc (v := (x5_4 + 1)) (lv' := [(5, .int ((x5_4 + 1))), (6, .int ((x1_1 &&& ((1 : Int32) <<< ((M 13 (Int32.toNatClampNeg (x5_4))) &&& 31))))), (0, .ref (φ 5)), (1, .int (x1_1)), (3, .int (x3_2)), (4, .int (x4_3))]) hx hb dX0_uppermostOf_51 hl (k := 5) rfl (by rw [show Int32.ofInt (1) = 1 from by decide]) (by decide) rfl (fun ls hl => ?_)
            refine lv_goto (tgt := 8) hx hb dX0_uppermostOf_54 (by decide) ?_
            exact ih _ _ _ _ _ _ _ hP hS (lv_sub hl [2, 3, 4, 5, 0] rfl)  h
          · rw [if_neg c_9] at h
            refine lv_iload_n hx hb dX0_uppermostOf_43 rfl (lv_at hl 3 rfl) ?_
            refine lv_iload hx hb dX0_uppermostOf_44 (lv_at hl 0 rfl) ?_
            refine lv_ior hx hb dX0_uppermostOf_46 ?_
            refine lv_istore_n (lv' := [(3, .int ((x3_2 ||| (x1_1 &&& ((1 : Int32) <<< ((M 13 (Int32.toNatClampNeg (x5_4))) &&& 31)))))), (6, .int ((x1_1 &&& ((1 : Int32) <<< ((M 13 (Int32.toNatClampNeg (x5_4))) &&& 31))))), (0, .ref (φ 5)), (1, .int (x1_1)), (4, .int (x4_3)), (5, .int (x5_4))]) hx hb dX0_uppermostOf_47 rfl hl (by decide) rfl (fun ls hl => ?_)
            refine lv_iinc (v := (x4_3 + (-1))) (lv' := [(4, .int ((x4_3 + (-1)))), (3, .int ((x3_2 ||| (x1_1 &&& ((1 : Int32) <<< ((M 13 (Int32.toNatClampNeg (x5_4))) &&& 31)))))), (6, .int ((x1_1 &&& ((1 : Int32) <<< ((M 13 (Int32.toNatClampNeg (x5_4))) &&& 31))))), (0, .ref (φ 5)), (1, .int (x1_1)), (5, .int (x5_4))]) hx hb dX0_uppermostOf_48 hl (k := 4) rfl (by rw [show Int32.ofInt (-1) = (-1) from by decide]) (by decide) rfl (fun ls hl => ?_)
            refine lv_iinc (v := (x5_4 + 1)) (lv' := [(5, .int ((x5_4 + 1))), (4, .int ((x4_3 + (-1)))), (3, .int ((x3_2 ||| (x1_1 &&& ((1 : Int32) <<< ((M 13 (Int32.toNatClampNeg (x5_4))) &&& 31)))))), (6, .int ((x1_1 &&& ((1 : Int32) <<< ((M 13 (Int32.toNatClampNeg (x5_4))) &&& 31))))), (0, .ref (φ 5)), (1, .int (x1_1))]) hx hb dX0_uppermostOf_51 hl (k := 5) rfl (by rw [show Int32.ofInt (1) = 1 from by decide]) (by decide) rfl (fun ls hl => ?_)
            refine lv_goto (tgt := 8) hx hb dX0_uppermostOf_54 (by decide) ?_
            exact ih _ _ _ _ _ _ _ hP hS (lv_sub hl [4, 5, 2, 1, 0] rfl)  h
  refine lv_iconst (v := 0) hx hb dX0_uppermostOf_0 (by decide) ?_
  refine lv_istore_n (lv' := [(3, .int (0)), (0, .ref (φ 5)), (1, .int (a1)), (2, .int (a2))]) hx hb dX0_uppermostOf_1 rfl hl (by decide) rfl (fun ls hl => ?_)
  refine lv_iload_n hx hb dX0_uppermostOf_2 rfl (lv_at hl 3 rfl) ?_
  refine lv_istore (lv' := [(4, .int (a2)), (3, .int (0)), (0, .ref (φ 5)), (1, .int (a1)), (2, .int (a2))]) hx hb dX0_uppermostOf_3 hl (by decide) rfl (fun ls hl => ?_)
  refine lv_iconst (v := 0) hx hb dX0_uppermostOf_5 (by decide) ?_
  refine lv_istore (lv' := [(5, .int (0)), (4, .int (a2)), (3, .int (0)), (0, .ref (φ 5)), (1, .int (a1)), (2, .int (a2))]) hx hb dX0_uppermostOf_6 hl (by decide) rfl (fun ls hl => ?_)
  refine L8 _ _ _ _ _ _ _ _ hP hS (lv_sub hl [3, 4, 2, 1, 0] rfl)  h

def f_X0_learn_15 (x1_2 : Int32) (x2_3 : Int32) (x3_4 : Int32) (x4_5 : Int32) : Nat → Int32 → Mem → Option (Mem)
  | 0, _, _ => none
  | fu_8 + 1, x5_6, M_7 => (if (M_7 1 4) ≤ x5_6 then (if ibd (x1_2) 5 then (if ibd (x1_2) 5 then some ((upd2 M_7 14 (Int32.toNatClampNeg (x1_2)) (((M_7 14 (Int32.toNatClampNeg (x1_2))) ||| x3_4)))) else none) else none) else (if (((x4_5 : Int32) >>> (x5_6 &&& 31)) &&& 1) = 0 then (f_X0_learn_15 x1_2 x2_3 x3_4 x4_5 fu_8 ((x5_6 + 1)) M_7) else (if ibd (x5_6) 10 then (if ibd (x1_2) 5 then (if ibd (x5_6) 10 then (if ibd (x1_2) 5 then (if ibd (((upd2 M_7 (65 + (Int32.toNatClampNeg (x1_2))) (Int32.toNatClampNeg (x5_6)) (x2_3)) (30 + (Int32.toNatClampNeg (x5_6))) 2)) 4 then (if ibd (((upd2 M_7 (65 + (Int32.toNatClampNeg (x1_2))) (Int32.toNatClampNeg (x5_6)) (x2_3)) (30 + (Int32.toNatClampNeg (x5_6))) 2)) 4 then (if ibd (x1_2) 5 then (if ibd (((upd2 (upd2 M_7 (65 + (Int32.toNatClampNeg (x1_2))) (Int32.toNatClampNeg (x5_6)) (x2_3)) (75 + (Int32.toNatClampNeg (x1_2))) (Int32.toNatClampNeg (((upd2 M_7 (65 + (Int32.toNatClampNeg (x1_2))) (Int32.toNatClampNeg (x5_6)) (x2_3)) (30 + (Int32.toNatClampNeg (x5_6))) 2))) ((((upd2 M_7 (65 + (Int32.toNatClampNeg (x1_2))) (Int32.toNatClampNeg (x5_6)) (x2_3)) (75 + (Int32.toNatClampNeg (x1_2))) (Int32.toNatClampNeg (((upd2 M_7 (65 + (Int32.toNatClampNeg (x1_2))) (Int32.toNatClampNeg (x5_6)) (x2_3)) (30 + (Int32.toNatClampNeg (x5_6))) 2)))) + ((upd2 M_7 (65 + (Int32.toNatClampNeg (x1_2))) (Int32.toNatClampNeg (x5_6)) (x2_3)) (30 + (Int32.toNatClampNeg (x5_6))) 6)))) (30 + (Int32.toNatClampNeg (x5_6))) 2)) 4 then (if ibd (((upd2 (upd2 M_7 (65 + (Int32.toNatClampNeg (x1_2))) (Int32.toNatClampNeg (x5_6)) (x2_3)) (75 + (Int32.toNatClampNeg (x1_2))) (Int32.toNatClampNeg (((upd2 M_7 (65 + (Int32.toNatClampNeg (x1_2))) (Int32.toNatClampNeg (x5_6)) (x2_3)) (30 + (Int32.toNatClampNeg (x5_6))) 2))) ((((upd2 M_7 (65 + (Int32.toNatClampNeg (x1_2))) (Int32.toNatClampNeg (x5_6)) (x2_3)) (75 + (Int32.toNatClampNeg (x1_2))) (Int32.toNatClampNeg (((upd2 M_7 (65 + (Int32.toNatClampNeg (x1_2))) (Int32.toNatClampNeg (x5_6)) (x2_3)) (30 + (Int32.toNatClampNeg (x5_6))) 2)))) + ((upd2 M_7 (65 + (Int32.toNatClampNeg (x1_2))) (Int32.toNatClampNeg (x5_6)) (x2_3)) (30 + (Int32.toNatClampNeg (x5_6))) 6)))) (30 + (Int32.toNatClampNeg (x5_6))) 2)) 4 then (f_X0_learn_15 x1_2 x2_3 x3_4 x4_5 fu_8 ((x5_6 + 1)) (upd2 (upd2 (upd2 M_7 (65 + (Int32.toNatClampNeg (x1_2))) (Int32.toNatClampNeg (x5_6)) (x2_3)) (75 + (Int32.toNatClampNeg (x1_2))) (Int32.toNatClampNeg (((upd2 M_7 (65 + (Int32.toNatClampNeg (x1_2))) (Int32.toNatClampNeg (x5_6)) (x2_3)) (30 + (Int32.toNatClampNeg (x5_6))) 2))) ((((upd2 M_7 (65 + (Int32.toNatClampNeg (x1_2))) (Int32.toNatClampNeg (x5_6)) (x2_3)) (75 + (Int32.toNatClampNeg (x1_2))) (Int32.toNatClampNeg (((upd2 M_7 (65 + (Int32.toNatClampNeg (x1_2))) (Int32.toNatClampNeg (x5_6)) (x2_3)) (30 + (Int32.toNatClampNeg (x5_6))) 2)))) + ((upd2 M_7 (65 + (Int32.toNatClampNeg (x1_2))) (Int32.toNatClampNeg (x5_6)) (x2_3)) (30 + (Int32.toNatClampNeg (x5_6))) 6)))) (80 + (Int32.toNatClampNeg (x1_2))) (Int32.toNatClampNeg (((upd2 (upd2 M_7 (65 + (Int32.toNatClampNeg (x1_2))) (Int32.toNatClampNeg (x5_6)) (x2_3)) (75 + (Int32.toNatClampNeg (x1_2))) (Int32.toNatClampNeg (((upd2 M_7 (65 + (Int32.toNatClampNeg (x1_2))) (Int32.toNatClampNeg (x5_6)) (x2_3)) (30 + (Int32.toNatClampNeg (x5_6))) 2))) ((((upd2 M_7 (65 + (Int32.toNatClampNeg (x1_2))) (Int32.toNatClampNeg (x5_6)) (x2_3)) (75 + (Int32.toNatClampNeg (x1_2))) (Int32.toNatClampNeg (((upd2 M_7 (65 + (Int32.toNatClampNeg (x1_2))) (Int32.toNatClampNeg (x5_6)) (x2_3)) (30 + (Int32.toNatClampNeg (x5_6))) 2)))) + ((upd2 M_7 (65 + (Int32.toNatClampNeg (x1_2))) (Int32.toNatClampNeg (x5_6)) (x2_3)) (30 + (Int32.toNatClampNeg (x5_6))) 6)))) (30 + (Int32.toNatClampNeg (x5_6))) 2))) ((((upd2 (upd2 M_7 (65 + (Int32.toNatClampNeg (x1_2))) (Int32.toNatClampNeg (x5_6)) (x2_3)) (75 + (Int32.toNatClampNeg (x1_2))) (Int32.toNatClampNeg (((upd2 M_7 (65 + (Int32.toNatClampNeg (x1_2))) (Int32.toNatClampNeg (x5_6)) (x2_3)) (30 + (Int32.toNatClampNeg (x5_6))) 2))) ((((upd2 M_7 (65 + (Int32.toNatClampNeg (x1_2))) (Int32.toNatClampNeg (x5_6)) (x2_3)) (75 + (Int32.toNatClampNeg (x1_2))) (Int32.toNatClampNeg (((upd2 M_7 (65 + (Int32.toNatClampNeg (x1_2))) (Int32.toNatClampNeg (x5_6)) (x2_3)) (30 + (Int32.toNatClampNeg (x5_6))) 2)))) + ((upd2 M_7 (65 + (Int32.toNatClampNeg (x1_2))) (Int32.toNatClampNeg (x5_6)) (x2_3)) (30 + (Int32.toNatClampNeg (x5_6))) 6)))) (80 + (Int32.toNatClampNeg (x1_2))) (Int32.toNatClampNeg (((upd2 (upd2 M_7 (65 + (Int32.toNatClampNeg (x1_2))) (Int32.toNatClampNeg (x5_6)) (x2_3)) (75 + (Int32.toNatClampNeg (x1_2))) (Int32.toNatClampNeg (((upd2 M_7 (65 + (Int32.toNatClampNeg (x1_2))) (Int32.toNatClampNeg (x5_6)) (x2_3)) (30 + (Int32.toNatClampNeg (x5_6))) 2))) ((((upd2 M_7 (65 + (Int32.toNatClampNeg (x1_2))) (Int32.toNatClampNeg (x5_6)) (x2_3)) (75 + (Int32.toNatClampNeg (x1_2))) (Int32.toNatClampNeg (((upd2 M_7 (65 + (Int32.toNatClampNeg (x1_2))) (Int32.toNatClampNeg (x5_6)) (x2_3)) (30 + (Int32.toNatClampNeg (x5_6))) 2)))) + ((upd2 M_7 (65 + (Int32.toNatClampNeg (x1_2))) (Int32.toNatClampNeg (x5_6)) (x2_3)) (30 + (Int32.toNatClampNeg (x5_6))) 6)))) (30 + (Int32.toNatClampNeg (x5_6))) 2)))) + ((upd2 (upd2 M_7 (65 + (Int32.toNatClampNeg (x1_2))) (Int32.toNatClampNeg (x5_6)) (x2_3)) (75 + (Int32.toNatClampNeg (x1_2))) (Int32.toNatClampNeg (((upd2 M_7 (65 + (Int32.toNatClampNeg (x1_2))) (Int32.toNatClampNeg (x5_6)) (x2_3)) (30 + (Int32.toNatClampNeg (x5_6))) 2))) ((((upd2 M_7 (65 + (Int32.toNatClampNeg (x1_2))) (Int32.toNatClampNeg (x5_6)) (x2_3)) (75 + (Int32.toNatClampNeg (x1_2))) (Int32.toNatClampNeg (((upd2 M_7 (65 + (Int32.toNatClampNeg (x1_2))) (Int32.toNatClampNeg (x5_6)) (x2_3)) (30 + (Int32.toNatClampNeg (x5_6))) 2)))) + ((upd2 M_7 (65 + (Int32.toNatClampNeg (x1_2))) (Int32.toNatClampNeg (x5_6)) (x2_3)) (30 + (Int32.toNatClampNeg (x5_6))) 6)))) (30 + (Int32.toNatClampNeg (x5_6))) 7))))) else none) else none) else none) else none) else none) else none) else none) else none) else none)))
def f_X0_learn (M : Mem) (a1 : Int32) (a2 : Int32) (a3 : Int32) : Option (Mem) :=
  (if ibd (a1) 5 then (f_X0_learn_15 (a1) (a2) (a3) ((a3 &&& ((M 14 (Int32.toNatClampNeg (a1))) ^^^ (-1)))) FU (0) M) else none)
set_option maxRecDepth 100000 in
set_option maxHeartbeats 4000000 in
theorem c_X0_learn (l : Launch) {G : GT} {φ : Nat → Nat} {n : Nat} {M : Mem} {a1 : Int32} {a2 : Int32} {a3 : Int32} (hI : wI φ n) (hn : 107 ≤ n) {r : Mem} (h : f_X0_learn M a1 a2 a3 = some r) : CT l yX0_learn cX0_learn 7 none ({ frames := 0, cells := 0, slots := 0, locals := 0 } : Room) [.ref (φ 5), .int (a1), .int (a2), .int (a3)] (WB (cX G φ) φ M n G) (none) (WB (cX G φ) φ (r) n G) φ n := by
  unfold f_X0_learn at h
  refine r_start (plainFor_of_name (by decide)) (Nat.le_of_ble_eq_true rfl) hI ?_
  intro p e s m args below meth c ls X hr hlk hP hl
  have hS : va_S (wA φ n s.heap.size) s.heap s.heap [] := va_S.rf
  have hx := X.1.1
  have hb := X.1.2.1
  have hl : lv_has ls 7 [(0, .ref (φ 5)), (1, .int (a1)), (2, .int (a2)), (3, .int (a3))] := hl
  have L15 : ∀ (fu_8 : Nat) (M_7 : Mem) (x1_2 : Int32) (x2_3 : Int32) (x3_4 : Int32) (x4_5 : Int32) (x5_6 : Int32)  (H : Heap) (locs : List Loc) (ls : Array Slot), va_P G.1 vwCl (wW (cX G φ) φ M_7 n) H → va_S (wA φ n s.heap.size) s.heap H locs → lv_has ls 7 [(0, .ref (φ 5)), (1, .int (x1_2)), (2, .int (x2_3)), (3, .int (x3_4)), (4, .int (x4_5)), (5, .int (x5_6))] → f_X0_learn_15 x1_2 x2_3 x3_4 x4_5 fu_8 x5_6 M_7 = some r → W p l e ({ frames := 0, cells := 0, slots := 0, locals := 0 } : Room) s m args below meth c H locs 0 0 (MQ below (QQ (none) (WB (cX G φ) φ (r) n G) (wA φ n s.heap.size)) args s 0 0 (wA φ n s.heap.size)) (F0 m 15 ls []) := by
    intro fu_8
    induction fu_8 with
    | zero =>
      intro M_7 x1_2 x2_3 x3_4 x4_5 x5_6 H locs ls _ _ _  h
      have h : (none : Option (Mem)) = some r := h
      cases h
    | succ fu_8 ih =>
      intro M_7 x1_2 x2_3 x3_4 x4_5 x5_6 H locs ls hP hS hl  h
      rw [f_X0_learn_15] at h
      refine lv_iload hx hb dX0_learn_15 (lv_at hl 5 rfl) ?_
      refine lv_aload_n hx hb dX0_learn_17 rfl (lv_at hl 0 rfl) ?_
      refine G_X0_63 X.1 hn hP dX0_learn_18 ?_
      refine G_X0_117 X.1 hn hP dX0_learn_21 ?_
      refine lv_icmp_ge (tgt := 105) hx hb dX0_learn_24 (by decide) (fun c_9 => ?_) (fun c_9 => ?_)
      · rw [if_pos c_9] at h
        refine lv_aload_n hx hb dX0_learn_105 rfl (lv_at hl 0 rfl) ?_
        refine G_X0_42 X.1 hn hP dX0_learn_106 ?_
        refine lv_iload_n hx hb dX0_learn_109 rfl (lv_at hl 1 rfl) ?_
        refine lv_dup2_11 hx hb dX0_learn_110 rfl rfl ?_
        obtain ⟨c_10, h⟩ := og h
        refine r_iald (k := (Int32.toNatClampNeg (x1_2))) X.1 hP (by omega) sX_known rfl (vin c_10) dX0_learn_111 ?_
        refine lv_iload_n hx hb dX0_learn_112 rfl (lv_at hl 3 rfl) ?_
        refine lv_ior hx hb dX0_learn_113 ?_
        obtain ⟨c_11, h⟩ := og h
        refine r_iast (k := (Int32.toNatClampNeg (x1_2))) X.1 X.2.2.2.1 hP hS (by omega) sX_known rfl (vin c_11) dX0_learn_114 (fun H locs hP hS => ?_)
        obtain rfl := Option.some.inj h
        exact W.vret hx hb hr (r_end X hP hS) hS.2.2 dX0_learn_115 (hlocks := hlk)
      · rw [if_neg c_9] at h
        refine lv_iload hx hb dX0_learn_27 (lv_at hl 4 rfl) ?_
        refine lv_iload hx hb dX0_learn_29 (lv_at hl 5 rfl) ?_
        refine lv_ishr hx hb dX0_learn_31 ?_
        refine lv_iconst (v := 1) hx hb dX0_learn_32 (by decide) ?_
        refine lv_iand hx hb dX0_learn_33 ?_
        refine lv_if_eq (tgt := 99) hx hb dX0_learn_34 (by decide) (fun c_12 => ?_) (fun c_12 => ?_)
        · rw [if_pos c_12] at h
          refine lv_iinc (v := (x5_6 + 1)) (lv' := [(5, .int ((x5_6 + 1))), (0, .ref (φ 5)), (1, .int (x1_2)), (2, .int (x2_3)), (3, .int (x3_4)), (4, .int (x4_5))]) hx hb dX0_learn_99 hl (k := 5) rfl (by rw [show Int32.ofInt (1) = 1 from by decide]) (by decide) rfl (fun ls hl => ?_)
          refine lv_goto (tgt := 15) hx hb dX0_learn_102 (by decide) ?_
          exact ih _ _ _ _ _ _ _ _ _ hP hS (lv_sub hl [1, 2, 3, 4, 5, 0] rfl)  h
        · rw [if_neg c_12] at h
          refine lv_aload_n hx hb dX0_learn_37 rfl (lv_at hl 0 rfl) ?_
          refine G_X0_63 X.1 hn hP dX0_learn_38 ?_
          refine G_X0_124 X.1 hn hP dX0_learn_41 ?_
          refine lv_iload hx hb dX0_learn_44 (lv_at hl 5 rfl) ?_
          obtain ⟨c_13, h⟩ := og h
          refine r_aald (t0 := 3) (k := (Int32.toNatClampNeg (x5_6))) X.1 hP rfl rfl (by omega) sX_slips rfl (vin c_13) dX0_learn_46 ?_
          have hj_14 : (Int32.toNatClampNeg (x5_6)) < 10 := ibd_lt c_13
          refine lv_astore (lv' := [(6, .ref (φ (30 + (Int32.toNatClampNeg (x5_6))))), (0, .ref (φ 5)), (1, .int (x1_2)), (2, .int (x2_3)), (3, .int (x3_4)), (4, .int (x4_5)), (5, .int (x5_6))]) hx hb dX0_learn_47 hl (by decide) rfl (fun ls hl => ?_)
          refine lv_aload_n hx hb dX0_learn_49 rfl (lv_at hl 1 rfl) ?_
          refine G_X0_24 X.1 hn hP dX0_learn_50 ?_
          refine lv_iload_n hx hb dX0_learn_53 rfl (lv_at hl 2 rfl) ?_
          obtain ⟨c_15, h⟩ := og h
          refine r_aald (t0 := 1) (k := (Int32.toNatClampNeg (x1_2))) X.1 hP rfl rfl (by omega) sX_firstRead rfl (vin c_15) dX0_learn_54 ?_
          have hj_16 : (Int32.toNatClampNeg (x1_2)) < 5 := ibd_lt c_15
          refine lv_iload hx hb dX0_learn_55 (lv_at hl 6 rfl) ?_
          refine lv_iload_n hx hb dX0_learn_57 rfl (lv_at hl 3 rfl) ?_
          obtain ⟨c_17, h⟩ := og h
          refine r_iast (k := (Int32.toNatClampNeg (x5_6))) X.1 X.2.2.2.1 hP hS (by omega) (sX_readRow hj_16) rfl (vin c_17) dX0_learn_58 (fun H locs hP hS => ?_)
          refine lv_aload_n hx hb dX0_learn_59 rfl (lv_at hl 1 rfl) ?_
          refine G_X0_45 X.1 hn hP dX0_learn_60 ?_
          refine lv_iload_n hx hb dX0_learn_63 rfl (lv_at hl 2 rfl) ?_
          obtain ⟨c_18, h⟩ := og h
          refine r_aald (t0 := 1) (k := (Int32.toNatClampNeg (x1_2))) X.1 hP rfl rfl (by omega) sX_askedOf rfl (vin c_18) dX0_learn_64 ?_
          have hj_19 : (Int32.toNatClampNeg (x1_2)) < 5 := ibd_lt c_18
          refine lv_aload hx hb dX0_learn_65 (lv_at hl 0 rfl) ?_
          refine G_X0_155 X.1 hn hP hj_14 dX0_learn_67 ?_
          refine lv_dup2_11 hx hb dX0_learn_70 rfl rfl ?_
          obtain ⟨c_20, h⟩ := og h
          refine r_iald (k := (Int32.toNatClampNeg (((upd2 M_7 (65 + (Int32.toNatClampNeg (x1_2))) (Int32.toNatClampNeg (x5_6)) (x2_3)) (30 + (Int32.toNatClampNeg (x5_6))) 2)))) X.1 hP (by omega) (sX_askedRow hj_19) rfl (vin c_20) dX0_learn_71 ?_
          refine lv_aload hx hb dX0_learn_72 (lv_at hl 0 rfl) ?_
          refine G_X0_149 X.1 hn hP hj_14 dX0_learn_74 ?_
          refine lv_iadd hx hb dX0_learn_77 ?_
          obtain ⟨c_21, h⟩ := og h
          refine r_iast (k := (Int32.toNatClampNeg (((upd2 M_7 (65 + (Int32.toNatClampNeg (x1_2))) (Int32.toNatClampNeg (x5_6)) (x2_3)) (30 + (Int32.toNatClampNeg (x5_6))) 2)))) X.1 X.2.2.2.1 hP hS (by omega) (sX_askedRow hj_19) rfl (vin c_21) dX0_learn_78 (fun H locs hP hS => ?_)
          refine lv_aload_n hx hb dX0_learn_79 rfl (lv_at hl 1 rfl) ?_
          refine G_X0_48 X.1 hn hP dX0_learn_80 ?_
          refine lv_iload_n hx hb dX0_learn_83 rfl (lv_at hl 2 rfl) ?_
          obtain ⟨c_22, h⟩ := og h
          refine r_aald (t0 := 1) (k := (Int32.toNatClampNeg (x1_2))) X.1 hP rfl rfl (by omega) sX_toldTo rfl (vin c_22) dX0_learn_84 ?_
          have hj_23 : (Int32.toNatClampNeg (x1_2)) < 5 := ibd_lt c_22
          refine lv_aload hx hb dX0_learn_85 (lv_at hl 0 rfl) ?_
          refine G_X0_155 X.1 hn hP hj_14 dX0_learn_87 ?_
          refine lv_dup2_11 hx hb dX0_learn_90 rfl rfl ?_
          obtain ⟨c_24, h⟩ := og h
          refine r_iald (k := (Int32.toNatClampNeg (((upd2 (upd2 M_7 (65 + (Int32.toNatClampNeg (x1_2))) (Int32.toNatClampNeg (x5_6)) (x2_3)) (75 + (Int32.toNatClampNeg (x1_2))) (Int32.toNatClampNeg (((upd2 M_7 (65 + (Int32.toNatClampNeg (x1_2))) (Int32.toNatClampNeg (x5_6)) (x2_3)) (30 + (Int32.toNatClampNeg (x5_6))) 2))) ((((upd2 M_7 (65 + (Int32.toNatClampNeg (x1_2))) (Int32.toNatClampNeg (x5_6)) (x2_3)) (75 + (Int32.toNatClampNeg (x1_2))) (Int32.toNatClampNeg (((upd2 M_7 (65 + (Int32.toNatClampNeg (x1_2))) (Int32.toNatClampNeg (x5_6)) (x2_3)) (30 + (Int32.toNatClampNeg (x5_6))) 2)))) + ((upd2 M_7 (65 + (Int32.toNatClampNeg (x1_2))) (Int32.toNatClampNeg (x5_6)) (x2_3)) (30 + (Int32.toNatClampNeg (x5_6))) 6)))) (30 + (Int32.toNatClampNeg (x5_6))) 2)))) X.1 hP (by omega) (sX_toldRow hj_23) rfl (vin c_24) dX0_learn_91 ?_
          refine lv_aload hx hb dX0_learn_92 (lv_at hl 0 rfl) ?_
          refine G_X0_152 X.1 hn hP hj_14 dX0_learn_94 ?_
          refine lv_iadd hx hb dX0_learn_97 ?_
          obtain ⟨c_25, h⟩ := og h
          refine r_iast (k := (Int32.toNatClampNeg (((upd2 (upd2 M_7 (65 + (Int32.toNatClampNeg (x1_2))) (Int32.toNatClampNeg (x5_6)) (x2_3)) (75 + (Int32.toNatClampNeg (x1_2))) (Int32.toNatClampNeg (((upd2 M_7 (65 + (Int32.toNatClampNeg (x1_2))) (Int32.toNatClampNeg (x5_6)) (x2_3)) (30 + (Int32.toNatClampNeg (x5_6))) 2))) ((((upd2 M_7 (65 + (Int32.toNatClampNeg (x1_2))) (Int32.toNatClampNeg (x5_6)) (x2_3)) (75 + (Int32.toNatClampNeg (x1_2))) (Int32.toNatClampNeg (((upd2 M_7 (65 + (Int32.toNatClampNeg (x1_2))) (Int32.toNatClampNeg (x5_6)) (x2_3)) (30 + (Int32.toNatClampNeg (x5_6))) 2)))) + ((upd2 M_7 (65 + (Int32.toNatClampNeg (x1_2))) (Int32.toNatClampNeg (x5_6)) (x2_3)) (30 + (Int32.toNatClampNeg (x5_6))) 6)))) (30 + (Int32.toNatClampNeg (x5_6))) 2)))) X.1 X.2.2.2.1 hP hS (by omega) (sX_toldRow hj_23) rfl (vin c_25) dX0_learn_98 (fun H locs hP hS => ?_)
          refine lv_iinc (v := (x5_6 + 1)) (lv' := [(5, .int ((x5_6 + 1))), (6, .ref (φ (30 + (Int32.toNatClampNeg (x5_6))))), (0, .ref (φ 5)), (1, .int (x1_2)), (2, .int (x2_3)), (3, .int (x3_4)), (4, .int (x4_5))]) hx hb dX0_learn_99 hl (k := 6) rfl (by rw [show Int32.ofInt (1) = 1 from by decide]) (by decide) rfl (fun ls hl => ?_)
          refine lv_goto (tgt := 15) hx hb dX0_learn_102 (by decide) ?_
          exact ih _ _ _ _ _ _ _ _ _ hP hS (lv_sub hl [2, 3, 4, 5, 6, 0] rfl)  h
  refine lv_iload_n hx hb dX0_learn_0 rfl (lv_at hl 3 rfl) ?_
  refine lv_aload_n hx hb dX0_learn_1 rfl (lv_at hl 0 rfl) ?_
  refine G_X0_42 X.1 hn hP dX0_learn_2 ?_
  refine lv_iload_n hx hb dX0_learn_5 rfl (lv_at hl 1 rfl) ?_
  obtain ⟨c_1, h⟩ := og h
  refine r_iald (k := (Int32.toNatClampNeg (a1))) X.1 hP (by omega) sX_known rfl (vin c_1) dX0_learn_6 ?_
  refine lv_iconst (v := (-1)) hx hb dX0_learn_7 (by decide) ?_
  refine lv_ixor hx hb dX0_learn_8 ?_
  refine lv_iand hx hb dX0_learn_9 ?_
  refine lv_istore (lv' := [(4, .int ((a3 &&& ((M 14 (Int32.toNatClampNeg (a1))) ^^^ (-1))))), (0, .ref (φ 5)), (1, .int (a1)), (2, .int (a2)), (3, .int (a3))]) hx hb dX0_learn_10 hl (by decide) rfl (fun ls hl => ?_)
  refine lv_iconst (v := 0) hx hb dX0_learn_12 (by decide) ?_
  refine lv_istore (lv' := [(5, .int (0)), (4, .int ((a3 &&& ((M 14 (Int32.toNatClampNeg (a1))) ^^^ (-1))))), (0, .ref (φ 5)), (1, .int (a1)), (2, .int (a2)), (3, .int (a3))]) hx hb dX0_learn_13 hl (by decide) rfl (fun ls hl => ?_)
  refine L15 _ _ _ _ _ _ _ _ _ _ hP hS (lv_sub hl [2, 3, 4, 5, 1, 0] rfl)  h

def f_X5_meant (M : Mem) (a1 : Int32) : Option (Int32) :=
  (if (a1 - 10000) < 0 then some (a1) else (if 6 ≤ (a1 - 10000) then some (a1) else (if ibd ((a1 - 10000)) 6 then some ((M 17 (Int32.toNatClampNeg ((a1 - 10000))))) else none)))
set_option maxRecDepth 100000 in
set_option maxHeartbeats 4000000 in
theorem c_X5_meant (l : Launch) {G : GT} {φ : Nat → Nat} {n : Nat} {M : Mem} {a1 : Int32} (hI : wI φ n) (hn : 107 ≤ n) {r : Int32} (h : f_X5_meant M a1 = some r) : CT l yX5_meant cX5_meant 3 (some .int) ({ frames := 0, cells := 0, slots := 0, locals := 0 } : Room) [.int (a1), .ref (φ 17)] (WB (cX G φ) φ M n G) (some (.int r)) (WB (cX G φ) φ (M) n G) φ n := by
  unfold f_X5_meant at h
  refine r_start (plainFor_of_name (by decide)) (Nat.le_of_ble_eq_true rfl) hI ?_
  intro p e s m args below meth c ls X hr hlk hP hl
  have hS : va_S (wA φ n s.heap.size) s.heap s.heap [] := va_S.rf
  have hx := X.1.1
  have hb := X.1.2.1
  have hl : lv_has ls 3 [(0, .int (a1)), (1, .ref (φ 17))] := hl
  refine lv_iload_n hx hb dX5_meant_0 rfl (lv_at hl 0 rfl) ?_
  refine lv_sipush (v := 10000) hx hb dX5_meant_1 (by decide) ?_
  refine lv_isub hx hb dX5_meant_4 ?_
  refine lv_istore_n (lv' := [(2, .int ((a1 - 10000))), (0, .int (a1)), (1, .ref (φ 17))]) hx hb dX5_meant_5 rfl hl (by decide) rfl (fun ls hl => ?_)
  refine lv_iload_n hx hb dX5_meant_6 rfl (lv_at hl 0 rfl) ?_
  refine lv_if_lt (tgt := 22) hx hb dX5_meant_7 (by decide) (fun c_1 => ?_) (fun c_1 => ?_)
  · rw [if_pos c_1] at h
    refine lv_iload_n hx hb dX5_meant_22 rfl (lv_at hl 1 rfl) ?_
    obtain rfl := Option.some.inj h
    exact W.iret hx hb hr (r_end X hP hS) hS.2.2 dX5_meant_23 (hlocks := hlk)
  · rw [if_neg c_1] at h
    refine lv_iload_n hx hb dX5_meant_10 rfl (lv_at hl 0 rfl) ?_
    refine lv_aload_n hx hb dX5_meant_11 rfl (lv_at hl 2 rfl) ?_
    refine va_alen (cA := G.2.1 0) (x := (6, .inl (M 17))) (v := 6) hx hb X.1.2.2.2.2 hP 17 0 (by rw [wW_get (by omega), sX_facts]) rfl rfl dX5_meant_12 ?_
    refine lv_icmp_ge (tgt := 22) hx hb dX5_meant_13 (by decide) (fun c_2 => ?_) (fun c_2 => ?_)
    · rw [if_pos c_2] at h
      refine lv_iload_n hx hb dX5_meant_22 rfl (lv_at hl 1 rfl) ?_
      obtain rfl := Option.some.inj h
      exact W.iret hx hb hr (r_end X hP hS) hS.2.2 dX5_meant_23 (hlocks := hlk)
    · rw [if_neg c_2] at h
      refine lv_aload_n hx hb dX5_meant_16 rfl (lv_at hl 2 rfl) ?_
      refine lv_iload_n hx hb dX5_meant_17 rfl (lv_at hl 0 rfl) ?_
      obtain ⟨c_3, h⟩ := og h
      refine r_iald (k := (Int32.toNatClampNeg ((a1 - 10000)))) X.1 hP (by omega) sX_facts rfl (vin c_3) dX5_meant_18 ?_
      refine lv_goto (tgt := 23) hx hb dX5_meant_19 (by decide) ?_
      obtain rfl := Option.some.inj h
      exact W.iret hx hb hr (r_end X hP hS) hS.2.2 dX5_meant_23 (hlocks := hlk)

def f_X5_joined (a1 : Int32) (a2 : Int32) (a3 : Int32) : Int32 :=
  (if a1 = 20042 then (a2 * a3) else (if a1 = 20043 then (a2 + a3) else (if a1 = 20045 then (a2 - a3) else (if a1 = 20060 then (if a3 ≤ a2 then 0 else 1) else (if a1 = 20061 then (if a2 = a3 then 1 else 0) else (if a1 = 20256 then (if a2 = 0 then (if a3 = 0 then 0 else 1) else 1) else (if a1 = 20257 then (if a2 = 0 then 0 else (if a3 = 0 then 0 else 1)) else 0)))))))
set_option maxRecDepth 100000 in
set_option maxHeartbeats 4000000 in
theorem c_X5_joined (l : Launch) {G : GT} {φ : Nat → Nat} {n : Nat} {M : Mem} {a1 : Int32} {a2 : Int32} {a3 : Int32} (hI : wI φ n) (hn : 107 ≤ n) {r : Int32} (h : f_X5_joined a1 a2 a3 = r) : CT l yX5_joined cX5_joined 3 (some .int) ({ frames := 0, cells := 0, slots := 0, locals := 0 } : Room) [.int (a1), .int (a2), .int (a3)] (WB (cX G φ) φ M n G) (some (.int r)) (WB (cX G φ) φ (M) n G) φ n := by
  unfold f_X5_joined at h
  refine r_start (plainFor_of_name (by decide)) (Nat.le_of_ble_eq_true rfl) hI ?_
  intro p e s m args below meth c ls X hr hlk hP hl
  have hS : va_S (wA φ n s.heap.size) s.heap s.heap [] := va_S.rf
  have hx := X.1.1
  have hb := X.1.2.1
  have hl : lv_has ls 3 [(0, .int (a1)), (1, .int (a2)), (2, .int (a3))] := hl
  refine lv_iload_n hx hb dX5_joined_0 rfl (lv_at hl 0 rfl) ?_
  by_cases c_1 : a1 = 20042
  · rw [if_pos c_1] at h
    refine lv_lookup (tgt := 76) (off := 75) hx hb dX5_joined_1 (by decide) (by rw [c_1]; decide) (by decide) ?_
    refine lv_iload_n hx hb dX5_joined_76 rfl (lv_at hl 1 rfl) ?_
    refine lv_iload_n hx hb dX5_joined_77 rfl (lv_at hl 2 rfl) ?_
    refine lv_imul hx hb dX5_joined_78 ?_
    subst h
    exact W.iret hx hb hr (r_end X hP hS) hS.2.2 dX5_joined_79 (hlocks := hlk)
  · rw [if_neg c_1] at h
    by_cases c_2 : a1 = 20043
    · rw [if_pos c_2] at h
      refine lv_lookup (tgt := 68) (off := 67) hx hb dX5_joined_1 (by decide) (by rw [c_2]; decide) (by decide) ?_
      refine lv_iload_n hx hb dX5_joined_68 rfl (lv_at hl 1 rfl) ?_
      refine lv_iload_n hx hb dX5_joined_69 rfl (lv_at hl 2 rfl) ?_
      refine lv_iadd hx hb dX5_joined_70 ?_
      subst h
      exact W.iret hx hb hr (r_end X hP hS) hS.2.2 dX5_joined_71 (hlocks := hlk)
    · rw [if_neg c_2] at h
      by_cases c_3 : a1 = 20045
      · rw [if_pos c_3] at h
        refine lv_lookup (tgt := 72) (off := 71) hx hb dX5_joined_1 (by decide) (by rw [c_3]; decide) (by decide) ?_
        refine lv_iload_n hx hb dX5_joined_72 rfl (lv_at hl 1 rfl) ?_
        refine lv_iload_n hx hb dX5_joined_73 rfl (lv_at hl 2 rfl) ?_
        refine lv_isub hx hb dX5_joined_74 ?_
        subst h
        exact W.iret hx hb hr (r_end X hP hS) hS.2.2 dX5_joined_75 (hlocks := hlk)
      · rw [if_neg c_3] at h
        by_cases c_4 : a1 = 20060
        · rw [if_pos c_4] at h
          refine lv_lookup (tgt := 80) (off := 79) hx hb dX5_joined_1 (by decide) (by rw [c_4]; decide) (by decide) ?_
          refine lv_iload_n hx hb dX5_joined_80 rfl (lv_at hl 1 rfl) ?_
          refine lv_iload_n hx hb dX5_joined_81 rfl (lv_at hl 2 rfl) ?_
          refine lv_icmp_ge (tgt := 89) hx hb dX5_joined_82 (by decide) (fun c_5 => ?_) (fun c_5 => ?_)
          · rw [if_pos c_5] at h
            refine lv_iconst (v := 0) hx hb dX5_joined_89 (by decide) ?_
            subst h
            exact W.iret hx hb hr (r_end X hP hS) hS.2.2 dX5_joined_90 (hlocks := hlk)
          · rw [if_neg c_5] at h
            refine lv_iconst (v := 1) hx hb dX5_joined_85 (by decide) ?_
            refine lv_goto (tgt := 90) hx hb dX5_joined_86 (by decide) ?_
            subst h
            exact W.iret hx hb hr (r_end X hP hS) hS.2.2 dX5_joined_90 (hlocks := hlk)
        · rw [if_neg c_4] at h
          by_cases c_6 : a1 = 20061
          · rw [if_pos c_6] at h
            refine lv_lookup (tgt := 91) (off := 90) hx hb dX5_joined_1 (by decide) (by rw [c_6]; decide) (by decide) ?_
            refine lv_iload_n hx hb dX5_joined_91 rfl (lv_at hl 1 rfl) ?_
            refine lv_iload_n hx hb dX5_joined_92 rfl (lv_at hl 2 rfl) ?_
            refine lv_icmp_ne (tgt := 100) hx hb dX5_joined_93 (by decide) (fun c_7 => ?_) (fun c_7 => ?_)
            · rw [if_neg c_7] at h
              refine lv_iconst (v := 0) hx hb dX5_joined_100 (by decide) ?_
              subst h
              exact W.iret hx hb hr (r_end X hP hS) hS.2.2 dX5_joined_101 (hlocks := hlk)
            · rw [if_pos c_7] at h
              refine lv_iconst (v := 1) hx hb dX5_joined_96 (by decide) ?_
              refine lv_goto (tgt := 101) hx hb dX5_joined_97 (by decide) ?_
              subst h
              exact W.iret hx hb hr (r_end X hP hS) hS.2.2 dX5_joined_101 (hlocks := hlk)
          · rw [if_neg c_6] at h
            by_cases c_8 : a1 = 20256
            · rw [if_pos c_8] at h
              refine lv_lookup (tgt := 116) (off := 115) hx hb dX5_joined_1 (by decide) (by rw [c_8]; decide) (by decide) ?_
              refine lv_iload_n hx hb dX5_joined_116 rfl (lv_at hl 1 rfl) ?_
              refine lv_if_ne (tgt := 124) hx hb dX5_joined_117 (by decide) (fun c_9 => ?_) (fun c_9 => ?_)
              · rw [if_neg c_9] at h
                refine lv_iconst (v := 1) hx hb dX5_joined_124 (by decide) ?_
                refine lv_goto (tgt := 129) hx hb dX5_joined_125 (by decide) ?_
                subst h
                exact W.iret hx hb hr (r_end X hP hS) hS.2.2 dX5_joined_129 (hlocks := hlk)
              · rw [if_pos c_9] at h
                refine lv_iload_n hx hb dX5_joined_120 rfl (lv_at hl 2 rfl) ?_
                refine lv_if_eq (tgt := 128) hx hb dX5_joined_121 (by decide) (fun c_10 => ?_) (fun c_10 => ?_)
                · rw [if_pos c_10] at h
                  refine lv_iconst (v := 0) hx hb dX5_joined_128 (by decide) ?_
                  subst h
                  exact W.iret hx hb hr (r_end X hP hS) hS.2.2 dX5_joined_129 (hlocks := hlk)
                · rw [if_neg c_10] at h
                  refine lv_iconst (v := 1) hx hb dX5_joined_124 (by decide) ?_
                  refine lv_goto (tgt := 129) hx hb dX5_joined_125 (by decide) ?_
                  subst h
                  exact W.iret hx hb hr (r_end X hP hS) hS.2.2 dX5_joined_129 (hlocks := hlk)
            · rw [if_neg c_8] at h
              by_cases c_11 : a1 = 20257
              · rw [if_pos c_11] at h
                refine lv_lookup (tgt := 102) (off := 101) hx hb dX5_joined_1 (by decide) (by rw [c_11]; decide) (by decide) ?_
                refine lv_iload_n hx hb dX5_joined_102 rfl (lv_at hl 1 rfl) ?_
                refine lv_if_eq (tgt := 114) hx hb dX5_joined_103 (by decide) (fun c_12 => ?_) (fun c_12 => ?_)
                · rw [if_pos c_12] at h
                  refine lv_iconst (v := 0) hx hb dX5_joined_114 (by decide) ?_
                  subst h
                  exact W.iret hx hb hr (r_end X hP hS) hS.2.2 dX5_joined_115 (hlocks := hlk)
                · rw [if_neg c_12] at h
                  refine lv_iload_n hx hb dX5_joined_106 rfl (lv_at hl 2 rfl) ?_
                  refine lv_if_eq (tgt := 114) hx hb dX5_joined_107 (by decide) (fun c_13 => ?_) (fun c_13 => ?_)
                  · rw [if_pos c_13] at h
                    refine lv_iconst (v := 0) hx hb dX5_joined_114 (by decide) ?_
                    subst h
                    exact W.iret hx hb hr (r_end X hP hS) hS.2.2 dX5_joined_115 (hlocks := hlk)
                  · rw [if_neg c_13] at h
                    refine lv_iconst (v := 1) hx hb dX5_joined_110 (by decide) ?_
                    refine lv_goto (tgt := 115) hx hb dX5_joined_111 (by decide) ?_
                    subst h
                    exact W.iret hx hb hr (r_end X hP hS) hS.2.2 dX5_joined_115 (hlocks := hlk)
              · rw [if_neg c_11] at h
                have kc_1 : ¬ (20042 : Int) = Int32.toInt (a1) := fun q => c_1 (Int32.toInt_inj.mp q.symm)
                have kc_2 : ¬ (20043 : Int) = Int32.toInt (a1) := fun q => c_2 (Int32.toInt_inj.mp q.symm)
                have kc_3 : ¬ (20045 : Int) = Int32.toInt (a1) := fun q => c_3 (Int32.toInt_inj.mp q.symm)
                have kc_4 : ¬ (20060 : Int) = Int32.toInt (a1) := fun q => c_4 (Int32.toInt_inj.mp q.symm)
                have kc_6 : ¬ (20061 : Int) = Int32.toInt (a1) := fun q => c_6 (Int32.toInt_inj.mp q.symm)
                have kc_8 : ¬ (20256 : Int) = Int32.toInt (a1) := fun q => c_8 (Int32.toInt_inj.mp q.symm)
                have kc_11 : ¬ (20257 : Int) = Int32.toInt (a1) := fun q => c_11 (Int32.toInt_inj.mp q.symm)
                refine lv_lookup (tgt := 130) (off := 129) hx hb dX5_joined_1 (by decide) (by simp [Op.lookupswitch.offset, kc_1, kc_2, kc_3, kc_4, kc_6, kc_8, kc_11]) (by decide) ?_
                refine lv_iconst (v := 0) hx hb dX5_joined_130 (by decide) ?_
                subst h
                exact W.iret hx hb hr (r_end X hP hS) hS.2.2 dX5_joined_131 (hlocks := hlk)

def f_X5_value_21 (i0 : Nat) (x1_3 : Int32) : Nat → Int32 → Int32 → Mem → Option (Int32 × Mem)
  | 0, _, _, _ => none
  | fu_7 + 1, x4_4, x5_5, M_6 => (if ibd (x1_3) 3 then (if (M_6 (52 + i0) (Int32.toNatClampNeg (x1_3))) ≤ x5_5 then (if x4_4 ≤ 0 then some ((0, M_6)) else (if ibd ((x4_4 - 1)) 320 then some (((M_6 18 (Int32.toNatClampNeg ((x4_4 - 1)))), M_6)) else none)) else (if ibd (x5_5) 320 then (if 20000 ≤ (M_6 (46 + i0) (Int32.toNatClampNeg (x5_5))) then (if x4_4 < 2 then (f_X5_value_21 i0 x1_3 fu_7 (x4_4) ((x5_5 + 1)) M_6) else (if ibd (((x4_4 + (-1)) - 1)) 320 then (if ibd ((x4_4 + (-1))) 320 then (if ibd (((x4_4 + (-1)) - 1)) 320 then (f_X5_value_21 i0 x1_3 fu_7 ((x4_4 + (-1))) ((x5_5 + 1)) (upd2 M_6 18 (Int32.toNatClampNeg (((x4_4 + (-1)) - 1))) ((f_X5_joined ((M_6 (46 + i0) (Int32.toNatClampNeg (x5_5)))) ((M_6 18 (Int32.toNatClampNeg (((x4_4 + (-1)) - 1))))) ((M_6 18 (Int32.toNatClampNeg ((x4_4 + (-1)))))))))) else none) else none) else none)) else (if 320 ≤ x4_4 then (f_X5_value_21 i0 x1_3 fu_7 (x4_4) ((x5_5 + 1)) M_6) else (Option.bind (f_X5_meant M_6 ((M_6 (46 + i0) (Int32.toNatClampNeg (x5_5))))) fun r_19 => (if ibd (x4_4) 320 then (f_X5_value_21 i0 x1_3 fu_7 ((x4_4 + 1)) ((x5_5 + 1)) (upd2 M_6 18 (Int32.toNatClampNeg (x4_4)) (r_19))) else none)))) else none)) else none)
def f_X5_value (M : Mem) (i0 : Nat) (a1 : Int32) : Option (Int32 × Mem) :=
  (if a1 = 0 then (f_X5_value_21 i0 (a1) FU (0) (0) M) else (if ibd ((a1 - 1)) 3 then (f_X5_value_21 i0 (a1) FU (0) ((M (52 + i0) (Int32.toNatClampNeg ((a1 - 1))))) M) else none))
set_option maxRecDepth 100000 in
set_option maxHeartbeats 4000000 in
theorem c_X5_value (l : Launch) {G : GT} {φ : Nat → Nat} {n : Nat} {M : Mem} {i0 : Nat} {a1 : Int32} (hI : wI φ n) (hn : 107 ≤ n) (hi0 : i0 < 6) {r : Int32 × Mem} (h : f_X5_value M i0 a1 = some r) : CT l yX5_value cX5_value 7 (some .int) ({ frames := 1, cells := 0, slots := 0, locals := 22 } : Room) [.ref (φ (40 + i0)), .int (a1), .ref (φ 17), .ref (φ 18)] (WB (cX G φ) φ M n G) (some (.int r.1)) (WB (cX G φ) φ (r.2) n G) φ n := by
  unfold f_X5_value at h
  refine r_start (plainFor_of_name (by decide)) (Nat.le_of_ble_eq_true rfl) hI ?_
  intro p e s m args below meth c ls X hr hlk hP hl
  have hS : va_S (wA φ n s.heap.size) s.heap s.heap [] := va_S.rf
  have hx := X.1.1
  have hb := X.1.2.1
  have hl : lv_has ls 7 [(0, .ref (φ (40 + i0))), (1, .int (a1)), (2, .ref (φ 17)), (3, .ref (φ 18))] := hl
  have L21 : ∀ (fu_7 : Nat) (M_6 : Mem) (x1_3 : Int32) (x4_4 : Int32) (x5_5 : Int32)  (H : Heap) (locs : List Loc) (ls : Array Slot), va_P G.1 vwCl (wW (cX G φ) φ M_6 n) H → va_S (wA φ n s.heap.size) s.heap H locs → lv_has ls 7 [(0, .ref (φ (40 + i0))), (1, .int (x1_3)), (2, .ref (φ 17)), (3, .ref (φ 18)), (4, .int (x4_4)), (5, .int (x5_5))] → f_X5_value_21 i0 x1_3 fu_7 x4_4 x5_5 M_6 = some r → W p l e ({ frames := 1, cells := 0, slots := 0, locals := 22 } : Room) s m args below meth c H locs 0 0 (MQ below (QQ (some (.int r.1)) (WB (cX G φ) φ (r.2) n G) (wA φ n s.heap.size)) args s 0 0 (wA φ n s.heap.size)) (F0 m 21 ls []) := by
    intro fu_7
    induction fu_7 with
    | zero =>
      intro M_6 x1_3 x4_4 x5_5 H locs ls _ _ _  h
      have h : (none : Option (Int32 × Mem)) = some r := h
      cases h
    | succ fu_7 ih =>
      intro M_6 x1_3 x4_4 x5_5 H locs ls hP hS hl  h
      rw [f_X5_value_21] at h
      refine lv_iload hx hb dX5_value_21 (lv_at hl 5 rfl) ?_
      refine lv_aload_n hx hb dX5_value_23 rfl (lv_at hl 0 rfl) ?_
      refine G_X5_15 X.1 hn hP hi0 dX5_value_24 ?_
      refine lv_iload_n hx hb dX5_value_27 rfl (lv_at hl 1 rfl) ?_
      obtain ⟨c_8, h⟩ := og h
      refine r_iald (k := (Int32.toNatClampNeg (x1_3))) X.1 hP (by omega) (sX_ends hi0) rfl (vin c_8) dX5_value_28 ?_
      refine lv_icmp_ge (tgt := 108) hx hb dX5_value_29 (by decide) (fun c_9 => ?_) (fun c_9 => ?_)
      · rw [if_pos c_9] at h
        refine lv_iload hx hb dX5_value_108 (lv_at hl 4 rfl) ?_
        refine lv_if_le (tgt := 122) hx hb dX5_value_110 (by decide) (fun c_10 => ?_) (fun c_10 => ?_)
        · rw [if_pos c_10] at h
          refine lv_iconst (v := 0) hx hb dX5_value_122 (by decide) ?_
          obtain rfl := Option.some.inj h
          exact W.iret hx hb hr (r_end X hP hS) hS.2.2 dX5_value_123 (hlocks := hlk)
        · rw [if_neg c_10] at h
          refine lv_aload_n hx hb dX5_value_113 rfl (lv_at hl 3 rfl) ?_
          refine lv_iload hx hb dX5_value_114 (lv_at hl 4 rfl) ?_
          refine lv_iconst (v := 1) hx hb dX5_value_116 (by decide) ?_
          refine lv_isub hx hb dX5_value_117 ?_
          obtain ⟨c_11, h⟩ := og h
          refine r_iald (k := (Int32.toNatClampNeg ((x4_4 - 1)))) X.1 hP (by omega) sX_stack rfl (vin c_11) dX5_value_118 ?_
          refine lv_goto (tgt := 123) hx hb dX5_value_119 (by decide) ?_
          obtain rfl := Option.some.inj h
          exact W.iret hx hb hr (r_end X hP hS) hS.2.2 dX5_value_123 (hlocks := hlk)
      · rw [if_neg c_9] at h
        refine lv_aload_n hx hb dX5_value_32 rfl (lv_at hl 0 rfl) ?_
        refine G_X5_11 X.1 hn hP hi0 dX5_value_33 ?_
        refine lv_iload hx hb dX5_value_36 (lv_at hl 5 rfl) ?_
        obtain ⟨c_12, h⟩ := og h
        refine r_iald (k := (Int32.toNatClampNeg (x5_5))) X.1 hP (by omega) (sX_steps hi0) rfl (vin c_12) dX5_value_38 ?_
        refine lv_istore (lv' := [(6, .int ((M_6 (46 + i0) (Int32.toNatClampNeg (x5_5))))), (0, .ref (φ (40 + i0))), (1, .int (x1_3)), (2, .ref (φ 17)), (3, .ref (φ 18)), (4, .int (x4_4)), (5, .int (x5_5))]) hx hb dX5_value_39 hl (by decide) rfl (fun ls hl => ?_)
        refine lv_iload hx hb dX5_value_41 (lv_at hl 0 rfl) ?_
        refine lv_sipush (v := 20000) hx hb dX5_value_43 (by decide) ?_
        refine lv_icmp_ge (tgt := 72) hx hb dX5_value_46 (by decide) (fun c_13 => ?_) (fun c_13 => ?_)
        · rw [if_pos c_13] at h
          refine lv_iload hx hb dX5_value_72 (lv_at hl 5 rfl) ?_
          refine lv_iconst (v := 2) hx hb dX5_value_74 (by decide) ?_
          refine lv_icmp_lt (tgt := 102) hx hb dX5_value_75 (by decide) (fun c_14 => ?_) (fun c_14 => ?_)
          · rw [if_pos c_14] at h
            refine lv_iinc (v := (x5_5 + 1)) (lv' := [(5, .int ((x5_5 + 1))), (6, .int ((M_6 (46 + i0) (Int32.toNatClampNeg (x5_5))))), (0, .ref (φ (40 + i0))), (1, .int (x1_3)), (2, .ref (φ 17)), (3, .ref (φ 18)), (4, .int (x4_4))]) hx hb dX5_value_102 hl (k := 6) rfl (by rw [show Int32.ofInt (1) = 1 from by decide]) (by decide) rfl (fun ls hl => ?_)
            refine lv_goto (tgt := 21) hx hb dX5_value_105 (by decide) ?_
            exact ih _ _ _ _ _ _ _ hP hS (lv_sub hl [2, 3, 4, 5, 6, 0] rfl)  h
          · rw [if_neg c_14] at h
            refine lv_iinc (v := (x4_4 + (-1))) (lv' := [(4, .int ((x4_4 + (-1)))), (6, .int ((M_6 (46 + i0) (Int32.toNatClampNeg (x5_5))))), (0, .ref (φ (40 + i0))), (1, .int (x1_3)), (2, .ref (φ 17)), (3, .ref (φ 18)), (5, .int (x5_5))]) hx hb dX5_value_78 hl (k := 5) rfl (by rw [show Int32.ofInt (-1) = (-1) from by decide]) (by decide) rfl (fun ls hl => ?_)
            refine lv_aload_n hx hb dX5_value_81 rfl (lv_at hl 5 rfl) ?_
            refine lv_iload hx hb dX5_value_82 (lv_at hl 0 rfl) ?_
            refine lv_iconst (v := 1) hx hb dX5_value_84 (by decide) ?_
            refine lv_isub hx hb dX5_value_85 ?_
            refine lv_iload hx hb dX5_value_86 (lv_at hl 1 rfl) ?_
            refine lv_aload_n hx hb dX5_value_88 rfl (lv_at hl 5 rfl) ?_
            refine lv_iload hx hb dX5_value_89 (lv_at hl 0 rfl) ?_
            refine lv_iconst (v := 1) hx hb dX5_value_91 (by decide) ?_
            refine lv_isub hx hb dX5_value_92 ?_
            obtain ⟨c_15, h⟩ := og h
            refine r_iald (k := (Int32.toNatClampNeg (((x4_4 + (-1)) - 1)))) X.1 hP (by omega) sX_stack rfl (vin c_15) dX5_value_93 ?_
            refine lv_aload_n hx hb dX5_value_94 rfl (lv_at hl 5 rfl) ?_
            refine lv_iload hx hb dX5_value_95 (lv_at hl 0 rfl) ?_
            obtain ⟨c_16, h⟩ := og h
            refine r_iald (k := (Int32.toNatClampNeg ((x4_4 + (-1))))) X.1 hP (by omega) sX_stack rfl (vin c_16) dX5_value_97 ?_
            refine c_S0 (As := [.int ((M_6 (46 + i0) (Int32.toNatClampNeg (x5_5)))), .int ((M_6 18 (Int32.toNatClampNeg (((x4_4 + (-1)) - 1))))), .int ((M_6 18 (Int32.toNatClampNeg ((x4_4 + (-1))))))]) (rest := [.int (((x4_4 + (-1)) - 1)), .ref (φ 18)]) X hl.1 (c_X5_joined l X.2.2.2.1.1 hn rfl) (w_X5_28) qw_730 ⟨Nat.le_of_ble_eq_true rfl, Nat.le_of_ble_eq_true rfl⟩ rfl rfl hP hS (Nat.le_of_ble_eq_true rfl) dX5_value_98 (fun H locs hP hS => ?_)
            obtain ⟨c_17, h⟩ := og h
            refine r_iast (k := (Int32.toNatClampNeg (((x4_4 + (-1)) - 1)))) X.1 X.2.2.2.1 hP hS (by omega) sX_stack rfl (vin c_17) dX5_value_101 (fun H locs hP hS => ?_)
            refine lv_iinc (v := (x5_5 + 1)) (lv' := [(5, .int ((x5_5 + 1))), (4, .int ((x4_4 + (-1)))), (6, .int ((M_6 (46 + i0) (Int32.toNatClampNeg (x5_5))))), (0, .ref (φ (40 + i0))), (1, .int (x1_3)), (2, .ref (φ 17)), (3, .ref (φ 18))]) hx hb dX5_value_102 hl (k := 6) rfl (by rw [show Int32.ofInt (1) = 1 from by decide]) (by decide) rfl (fun ls hl => ?_)
            refine lv_goto (tgt := 21) hx hb dX5_value_105 (by decide) ?_
            exact ih _ _ _ _ _ _ _ hP hS (lv_sub hl [3, 4, 5, 6, 1, 0] rfl)  h
        · rw [if_neg c_13] at h
          refine lv_iload hx hb dX5_value_49 (lv_at hl 5 rfl) ?_
          refine lv_aload_n hx hb dX5_value_51 rfl (lv_at hl 4 rfl) ?_
          refine va_alen (cA := G.2.1 0) (x := (320, .inl (M_6 18))) (v := 320) hx hb X.1.2.2.2.2 hP 18 0 (by rw [wW_get (by omega), sX_stack]) rfl rfl dX5_value_52 ?_
          refine lv_icmp_ge (tgt := 102) hx hb dX5_value_53 (by decide) (fun c_18 => ?_) (fun c_18 => ?_)
          · rw [if_pos c_18] at h
            refine lv_iinc (v := (x5_5 + 1)) (lv' := [(5, .int ((x5_5 + 1))), (6, .int ((M_6 (46 + i0) (Int32.toNatClampNeg (x5_5))))), (0, .ref (φ (40 + i0))), (1, .int (x1_3)), (2, .ref (φ 17)), (3, .ref (φ 18)), (4, .int (x4_4))]) hx hb dX5_value_102 hl (k := 6) rfl (by rw [show Int32.ofInt (1) = 1 from by decide]) (by decide) rfl (fun ls hl => ?_)
            refine lv_goto (tgt := 21) hx hb dX5_value_105 (by decide) ?_
            exact ih _ _ _ _ _ _ _ hP hS (lv_sub hl [2, 3, 4, 5, 6, 0] rfl)  h
          · rw [if_neg c_18] at h
            refine lv_aload_n hx hb dX5_value_56 rfl (lv_at hl 4 rfl) ?_
            refine lv_iload hx hb dX5_value_57 (lv_at hl 5 rfl) ?_
            refine lv_iload hx hb dX5_value_59 (lv_at hl 0 rfl) ?_
            refine lv_aload_n hx hb dX5_value_61 rfl (lv_at hl 3 rfl) ?_
            obtain ⟨r_19, hr_19, h⟩ := ob h
            refine c_S0 (As := [.int ((M_6 (46 + i0) (Int32.toNatClampNeg (x5_5)))), .ref (φ 17)]) (rest := [.int (x4_4), .ref (φ 18)]) X hl.1 (c_X5_meant l X.2.2.2.1.1 hn hr_19) (w_X5_24) qw_727 ⟨Nat.le_of_ble_eq_true rfl, Nat.le_of_ble_eq_true rfl⟩ rfl rfl hP hS (Nat.le_of_ble_eq_true rfl) dX5_value_62 (fun H locs hP hS => ?_)
            obtain ⟨c_20, h⟩ := og h
            refine r_iast (k := (Int32.toNatClampNeg (x4_4))) X.1 X.2.2.2.1 hP hS (by omega) sX_stack rfl (vin c_20) dX5_value_65 (fun H locs hP hS => ?_)
            refine lv_iinc (v := (x4_4 + 1)) (lv' := [(4, .int ((x4_4 + 1))), (6, .int ((M_6 (46 + i0) (Int32.toNatClampNeg (x5_5))))), (0, .ref (φ (40 + i0))), (1, .int (x1_3)), (2, .ref (φ 17)), (3, .ref (φ 18)), (5, .int (x5_5))]) hx hb dX5_value_66 hl (k := 5) rfl (by rw [show Int32.ofInt (1) = 1 from by decide]) (by decide) rfl (fun ls hl => ?_)
            refine lv_goto (tgt := 102) hx hb dX5_value_69 (by decide) ?_
            refine lv_iinc (v := (x5_5 + 1)) (lv' := [(5, .int ((x5_5 + 1))), (4, .int ((x4_4 + 1))), (6, .int ((M_6 (46 + i0) (Int32.toNatClampNeg (x5_5))))), (0, .ref (φ (40 + i0))), (1, .int (x1_3)), (2, .ref (φ 17)), (3, .ref (φ 18))]) hx hb dX5_value_102 hl (k := 6) rfl (by rw [show Int32.ofInt (1) = 1 from by decide]) (by decide) rfl (fun ls hl => ?_)
            refine lv_goto (tgt := 21) hx hb dX5_value_105 (by decide) ?_
            exact ih _ _ _ _ _ _ _ hP hS (lv_sub hl [3, 4, 5, 6, 1, 0] rfl)  h
  refine lv_iconst (v := 0) hx hb dX5_value_0 (by decide) ?_
  refine lv_istore (lv' := [(4, .int (0)), (0, .ref (φ (40 + i0))), (1, .int (a1)), (2, .ref (φ 17)), (3, .ref (φ 18))]) hx hb dX5_value_1 hl (by decide) rfl (fun ls hl => ?_)
  refine lv_iload_n hx hb dX5_value_3 rfl (lv_at hl 2 rfl) ?_
  refine lv_if_ne (tgt := 11) hx hb dX5_value_4 (by decide) (fun c_1 => ?_) (fun c_1 => ?_)
  · rw [if_neg c_1] at h
    refine lv_aload_n hx hb dX5_value_11 rfl (lv_at hl 1 rfl) ?_
    refine G_X5_15 X.1 hn hP hi0 dX5_value_12 ?_
    refine lv_iload_n hx hb dX5_value_15 rfl (lv_at hl 2 rfl) ?_
    refine lv_iconst (v := 1) hx hb dX5_value_16 (by decide) ?_
    refine lv_isub hx hb dX5_value_17 ?_
    obtain ⟨c_2, h⟩ := og h
    refine r_iald (k := (Int32.toNatClampNeg ((a1 - 1)))) X.1 hP (by omega) (sX_ends hi0) rfl (vin c_2) dX5_value_18 ?_
    refine lv_istore (lv' := [(5, .int ((M (52 + i0) (Int32.toNatClampNeg ((a1 - 1)))))), (4, .int (0)), (0, .ref (φ (40 + i0))), (1, .int (a1)), (2, .ref (φ 17)), (3, .ref (φ 18))]) hx hb dX5_value_19 hl (by decide) rfl (fun ls hl => ?_)
    refine L21 _ _ _ _ _ _ _ _ hP hS (lv_sub hl [2, 3, 4, 5, 1, 0] rfl)  h
  · rw [if_pos c_1] at h
    refine lv_iconst (v := 0) hx hb dX5_value_7 (by decide) ?_
    refine lv_goto (tgt := 19) hx hb dX5_value_8 (by decide) ?_
    refine lv_istore (lv' := [(5, .int (0)), (4, .int (0)), (0, .ref (φ (40 + i0))), (1, .int (a1)), (2, .ref (φ 17)), (3, .ref (φ 18))]) hx hb dX5_value_19 hl (by decide) rfl (fun ls hl => ?_)
    refine L21 _ _ _ _ _ _ _ _ hP hS (lv_sub hl [2, 3, 4, 5, 1, 0] rfl)  h

