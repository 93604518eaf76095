def f_X9_isDigit (a1 : Int32) : Int32 :=
  (if a1 < 48 then 0 else (if 57 < a1 then 0 else 1))
theorem bz_X9_isDigit (a1 : Int32) : f_X9_isDigit a1 = 0 ∨ f_X9_isDigit a1 = 1 := by
  unfold f_X9_isDigit
  repeat' (first | exact Or.inl rfl | exact Or.inr rfl | split)
set_option maxRecDepth 100000 in
set_option maxHeartbeats 4000000 in
theorem c_X9_isDigit (l : Launch) {G : GT} {φ : Nat → Nat} {n : Nat} {M : Mem} {a1 : Int32} (hI : wI φ n) (hn : 107 ≤ n) {r : Int32} (h : f_X9_isDigit a1 = r) : CT l yX9_isDigit cX9_isDigit 1 (some .boolean) ({ frames := 0, cells := 0, slots := 0, locals := 0 } : Room) [.int (a1)] (WB (cX G φ) φ M n G) (some (.int r)) (WB (cX G φ) φ (M) n G) φ n := by
  unfold f_X9_isDigit at h
  refine r_start (plainFor_of_name (by decide)) (Nat.le_of_ble_eq_true rfl) hI ?_
  intro p e s m args below meth c ls X hr hlk hP hl
  have hS : va_S (wA φ n s.heap.size) s.heap s.heap [] := va_S.rf
  have hx := X.1.1
  have hb := X.1.2.1
  have hl : lv_has ls 1 [(0, .int (a1))] := hl
  refine lv_iload_n hx hb dX9_isDigit_0 rfl (lv_at hl 0 rfl) ?_
  refine lv_bipush (v := 48) hx hb dX9_isDigit_1 (by decide) ?_
  refine lv_icmp_lt (tgt := 16) hx hb dX9_isDigit_3 (by decide) (fun c_1 => ?_) (fun c_1 => ?_)
  · rw [if_pos c_1] at h
    refine lv_iconst (v := 0) hx hb dX9_isDigit_16 (by decide) ?_
    subst h
    exact W.zret (v := 0) (ty := .boolean) hx hb hr rfl (r_end X hP hS) hS.2.2 dX9_isDigit_17 (hlocks := hlk)
  · rw [if_neg c_1] at h
    refine lv_iload_n hx hb dX9_isDigit_6 rfl (lv_at hl 0 rfl) ?_
    refine lv_bipush (v := 57) hx hb dX9_isDigit_7 (by decide) ?_
    refine lv_icmp_gt (tgt := 16) hx hb dX9_isDigit_9 (by decide) (fun c_2 => ?_) (fun c_2 => ?_)
    · rw [if_pos c_2] at h
      refine lv_iconst (v := 0) hx hb dX9_isDigit_16 (by decide) ?_
      subst h
      exact W.zret (v := 0) (ty := .boolean) hx hb hr rfl (r_end X hP hS) hS.2.2 dX9_isDigit_17 (hlocks := hlk)
    · rw [if_neg c_2] at h
      refine lv_iconst (v := 1) hx hb dX9_isDigit_12 (by decide) ?_
      refine lv_goto (tgt := 17) hx hb dX9_isDigit_13 (by decide) ?_
      subst h
      exact W.zret (v := 1) (ty := .boolean) hx hb hr rfl (r_end X hP hS) hS.2.2 dX9_isDigit_17 (hlocks := hlk)

def f_X9_numberToken_2 (x1_1 : Int32) : Nat → Int32 → Mem → Option (Int32 × Mem)
  | 0, _, _ => none
  | fu_4 + 1, x2_2, M_3 => (if (M_3 19 0) ≤ (M_3 19 4) then (if ((M_3 19 4) - x1_1) ≤ 4 then some ((x2_2, M_3)) else some ((20260, M_3))) else (if ibd ((M_3 19 4)) 160 then (if (f_X9_isDigit ((M_3 58 (Int32.toNatClampNeg ((M_3 19 4)))))) = 0 then (if ((M_3 19 4) - x1_1) ≤ 4 then some ((x2_2, M_3)) else some ((20260, M_3))) else (if ibd ((M_3 19 4)) 160 then (f_X9_numberToken_2 x1_1 fu_4 ((((10 * x2_2) + (M_3 58 (Int32.toNatClampNeg ((M_3 19 4))))) - 48)) (upd2 M_3 19 4 (((M_3 19 4) + 1)))) else none)) else none))
def f_X9_numberToken (M : Mem) (a1 : Int32) : Option (Int32 × Mem) :=
  (f_X9_numberToken_2 (a1) FU (0) M)
set_option maxRecDepth 100000 in
set_option maxHeartbeats 4000000 in
theorem c_X9_numberToken (l : Launch) {G : GT} {φ : Nat → Nat} {n : Nat} {M : Mem} {a1 : Int32} (hI : wI φ n) (hn : 107 ≤ n) {r : Int32 × Mem} (h : f_X9_numberToken M a1 = some r) : CT l yX9_numberToken cX9_numberToken 3 (some .int) ({ frames := 1, cells := 0, slots := 0, locals := 20 } : Room) [.ref (φ 19), .int (a1)] (WB (cX G φ) φ M n G) (some (.int r.1)) (WB (cX G φ) φ (r.2) n G) φ n := by
  unfold f_X9_numberToken at h
  refine r_start (plainFor_of_name (by decide)) (Nat.le_of_ble_eq_true rfl) hI ?_
  intro p e s m args below meth c ls X hr hlk hP hl
  have hS : va_S (wA φ n s.heap.size) s.heap s.heap [] := va_S.rf
  have hx := X.1.1
  have hb := X.1.2.1
  have hl : lv_has ls 3 [(0, .ref (φ 19)), (1, .int (a1))] := hl
  have L2 : ∀ (fu_4 : Nat) (M_3 : Mem) (x1_1 : Int32) (x2_2 : Int32)  (H : Heap) (locs : List Loc) (ls : Array Slot), va_P G.1 vwCl (wW (cX G φ) φ M_3 n) H → va_S (wA φ n s.heap.size) s.heap H locs → lv_has ls 3 [(0, .ref (φ 19)), (1, .int (x1_1)), (2, .int (x2_2))] → f_X9_numberToken_2 x1_1 fu_4 x2_2 M_3 = some r → W p l e ({ frames := 1, cells := 0, slots := 0, locals := 20 } : Room) s m args below meth c H locs 0 0 (MQ below (QQ (some (.int r.1)) (WB (cX G φ) φ (r.2) n G) (wA φ n s.heap.size)) args s 0 0 (wA φ n s.heap.size)) (F0 m 2 ls []) := by
    intro fu_4
    induction fu_4 with
    | zero =>
      intro M_3 x1_1 x2_2 H locs ls _ _ _  h
      have h : (none : Option (Int32 × Mem)) = some r := h
      cases h
    | succ fu_4 ih =>
      intro M_3 x1_1 x2_2 H locs ls hP hS hl  h
      rw [f_X9_numberToken_2] at h
      refine lv_aload_n hx hb dX9_numberToken_2 rfl (lv_at hl 0 rfl) ?_
      refine G_X9_25 X.1 hn hP dX9_numberToken_3 ?_
      refine lv_aload_n hx hb dX9_numberToken_6 rfl (lv_at hl 0 rfl) ?_
      refine G_X9_11 X.1 hn hP dX9_numberToken_7 ?_
      refine lv_icmp_ge (tgt := 59) hx hb dX9_numberToken_10 (by decide) (fun c_5 => ?_) (fun c_5 => ?_)
      · rw [if_pos c_5] at h
        refine lv_aload_n hx hb dX9_numberToken_59 rfl (lv_at hl 0 rfl) ?_
        refine G_X9_25 X.1 hn hP dX9_numberToken_60 ?_
        refine lv_iload_n hx hb dX9_numberToken_63 rfl (lv_at hl 1 rfl) ?_
        refine lv_isub hx hb dX9_numberToken_64 ?_
        refine lv_iconst (v := 4) hx hb dX9_numberToken_65 (by decide) ?_
        refine lv_icmp_le (tgt := 75) hx hb dX9_numberToken_66 (by decide) (fun c_6 => ?_) (fun c_6 => ?_)
        · rw [if_pos c_6] at h
          refine lv_iload_n hx hb dX9_numberToken_75 rfl (lv_at hl 2 rfl) ?_
          obtain rfl := Option.some.inj h
          exact W.iret hx hb hr (r_end X hP hS) hS.2.2 dX9_numberToken_76 (hlocks := hlk)
        · rw [if_neg c_6] at h
          refine lv_sipush (v := 20260) hx hb dX9_numberToken_69 (by decide) ?_
          refine lv_goto (tgt := 76) hx hb dX9_numberToken_72 (by decide) ?_
          obtain rfl := Option.some.inj h
          exact W.iret hx hb hr (r_end X hP hS) hS.2.2 dX9_numberToken_76 (hlocks := hlk)
      · rw [if_neg c_5] at h
        refine lv_aload_n hx hb dX9_numberToken_13 rfl (lv_at hl 0 rfl) ?_
        refine G_X9_15 X.1 hn hP dX9_numberToken_14 ?_
        refine lv_aload_n hx hb dX9_numberToken_17 rfl (lv_at hl 0 rfl) ?_
        refine G_X9_25 X.1 hn hP dX9_numberToken_18 ?_
        obtain ⟨c_7, h⟩ := og h
        refine r_iald (k := (Int32.toNatClampNeg ((M_3 19 4)))) X.1 hP (by omega) sX_bytes rfl (vin c_7) dX9_numberToken_21 ?_
        refine c_S0 (As := [.int ((M_3 58 (Int32.toNatClampNeg ((M_3 19 4)))))]) (rest := []) X hl.1 (c_X9_isDigit l X.2.2.2.1.1 hn rfl) (w_X9_42) qw_495 ⟨Nat.le_of_ble_eq_true rfl, Nat.le_of_ble_eq_true rfl⟩ rfl rfl hP hS (Nat.le_of_ble_eq_true rfl) dX9_numberToken_22 (fun H locs hP hS => ?_)
        refine lv_if_eq (tgt := 59) hx hb dX9_numberToken_25 (by decide) (fun c_8 => ?_) (fun c_8 => ?_)
        · rw [if_pos c_8] at h
          refine lv_aload_n hx hb dX9_numberToken_59 rfl (lv_at hl 0 rfl) ?_
          refine G_X9_25 X.1 hn hP dX9_numberToken_60 ?_
          refine lv_iload_n hx hb dX9_numberToken_63 rfl (lv_at hl 1 rfl) ?_
          refine lv_isub hx hb dX9_numberToken_64 ?_
          refine lv_iconst (v := 4) hx hb dX9_numberToken_65 (by decide) ?_
          refine lv_icmp_le (tgt := 75) hx hb dX9_numberToken_66 (by decide) (fun c_9 => ?_) (fun c_9 => ?_)
          · rw [if_pos c_9] at h
            refine lv_iload_n hx hb dX9_numberToken_75 rfl (lv_at hl 2 rfl) ?_
            obtain rfl := Option.some.inj h
            exact W.iret hx hb hr (r_end X hP hS) hS.2.2 dX9_numberToken_76 (hlocks := hlk)
          · rw [if_neg c_9] at h
            refine lv_sipush (v := 20260) hx hb dX9_numberToken_69 (by decide) ?_
            refine lv_goto (tgt := 76) hx hb dX9_numberToken_72 (by decide) ?_
            obtain rfl := Option.some.inj h
            exact W.iret hx hb hr (r_end X hP hS) hS.2.2 dX9_numberToken_76 (hlocks := hlk)
        · rw [if_neg c_8] at h
          refine lv_bipush (v := 10) hx hb dX9_numberToken_28 (by decide) ?_
          refine lv_iload_n hx hb dX9_numberToken_30 rfl (lv_at hl 2 rfl) ?_
          refine lv_imul hx hb dX9_numberToken_31 ?_
          refine lv_aload_n hx hb dX9_numberToken_32 rfl (lv_at hl 0 rfl) ?_
          refine G_X9_15 X.1 hn hP dX9_numberToken_33 ?_
          refine lv_aload_n hx hb dX9_numberToken_36 rfl (lv_at hl 0 rfl) ?_
          refine G_X9_25 X.1 hn hP dX9_numberToken_37 ?_
          obtain ⟨c_10, h⟩ := og h
          refine r_iald (k := (Int32.toNatClampNeg ((M_3 19 4)))) X.1 hP (by omega) sX_bytes rfl (vin c_10) dX9_numberToken_40 ?_
          refine lv_iadd hx hb dX9_numberToken_41 ?_
          refine lv_bipush (v := 48) hx hb dX9_numberToken_42 (by decide) ?_
          refine lv_isub hx hb dX9_numberToken_44 ?_
          refine lv_istore_n (lv' := [(2, .int ((((10 * x2_2) + (M_3 58 (Int32.toNatClampNeg ((M_3 19 4))))) - 48))), (0, .ref (φ 19)), (1, .int (x1_1))]) hx hb dX9_numberToken_45 rfl hl (by decide) rfl (fun ls hl => ?_)
          refine lv_aload_n hx hb dX9_numberToken_46 rfl (lv_at hl 1 rfl) ?_
          refine lv_dup hx hb dX9_numberToken_47 rfl ?_
          refine G_X9_25 X.1 hn hP dX9_numberToken_48 ?_
          refine lv_iconst (v := 1) hx hb dX9_numberToken_51 (by decide) ?_
          refine lv_iadd hx hb dX9_numberToken_52 ?_
          refine P_X9_25 X.1 hn X.2.2.2.1 hP hS dX9_numberToken_53 (fun H locs hP hS => ?_)
          refine lv_goto (tgt := 2) hx hb dX9_numberToken_56 (by decide) ?_
          exact ih _ _ _ _ _ _ hP hS (lv_sub hl [1, 2, 0] rfl)  h
  refine lv_iconst (v := 0) hx hb dX9_numberToken_0 (by decide) ?_
  refine lv_istore_n (lv' := [(2, .int (0)), (0, .ref (φ 19)), (1, .int (a1))]) hx hb dX9_numberToken_1 rfl hl (by decide) rfl (fun ls hl => ?_)
  refine L2 _ _ _ _ _ _ _ hP hS (lv_sub hl [1, 2, 0] rfl)  h

def f_X9_isSign (a1 : Int32) : Option (Int32) :=
  (if Int32.toInt (a1) < 40 ∨ 61 < Int32.toInt (a1) then some (0) else (if a1 = 40 then some (1) else (if a1 = 41 then some (1) else (if a1 = 42 then some (1) else (if a1 = 43 then some (1) else (if a1 = 44 then some (0) else (if a1 = 45 then some (1) else (if a1 = 46 then some (0) else (if a1 = 47 then some (0) else (if a1 = 48 then some (0) else (if a1 = 49 then some (0) else (if a1 = 50 then some (0) else (if a1 = 51 then some (0) else (if a1 = 52 then some (0) else (if a1 = 53 then some (0) else (if a1 = 54 then some (0) else (if a1 = 55 then some (0) else (if a1 = 56 then some (0) else (if a1 = 57 then some (0) else (if a1 = 58 then some (0) else (if a1 = 59 then some (1) else (if a1 = 60 then some (1) else (if a1 = 61 then some (1) else none)))))))))))))))))))))))
set_option maxRecDepth 100000 in
set_option maxHeartbeats 4000000 in
theorem c_X9_isSign (l : Launch) {G : GT} {φ : Nat → Nat} {n : Nat} {M : Mem} {a1 : Int32} (hI : wI φ n) (hn : 107 ≤ n) {r : Int32} (h : f_X9_isSign a1 = some r) : CT l yX9_isSign cX9_isSign 1 (some .boolean) ({ frames := 0, cells := 0, slots := 0, locals := 0 } : Room) [.int (a1)] (WB (cX G φ) φ M n G) (some (.int r)) (WB (cX G φ) φ (M) n G) φ n := by
  unfold f_X9_isSign at h
  refine r_start (plainFor_of_name (by decide)) (Nat.le_of_ble_eq_true rfl) hI ?_
  intro p e s m args below meth c ls X hr hlk hP hl
  have hS : va_S (wA φ n s.heap.size) s.heap s.heap [] := va_S.rf
  have hx := X.1.1
  have hb := X.1.2.1
  have hl : lv_has ls 1 [(0, .int (a1))] := hl
  refine lv_iload_n hx hb dX9_isSign_0 rfl (lv_at hl 0 rfl) ?_
  by_cases c_1 : Int32.toInt (a1) < 40 ∨ 61 < Int32.toInt (a1)
  · rw [if_pos c_1] at h
    refine lv_tableOut (tgt := 106) hx hb dX9_isSign_1 c_1 (by decide) ?_
    refine lv_iconst (v := 0) hx hb dX9_isSign_106 (by decide) ?_
    obtain rfl := Option.some.inj h
    exact W.zret (v := 0) (ty := .boolean) hx hb hr rfl (r_end X hP hS) hS.2.2 dX9_isSign_107 (hlocks := hlk)
  · rw [if_neg c_1] at h
    by_cases c_2 : a1 = 40
    · rw [if_pos c_2] at h
      refine lv_tableIn (tgt := 104) (off := 103) hx hb dX9_isSign_1 (fun q => c_1 (Or.inl q)) (fun q => c_1 (Or.inr q)) (by rw [c_2]; rfl) (by decide) ?_
      refine lv_iconst (v := 1) hx hb dX9_isSign_104 (by decide) ?_
      obtain rfl := Option.some.inj h
      exact W.zret (v := 1) (ty := .boolean) hx hb hr rfl (r_end X hP hS) hS.2.2 dX9_isSign_105 (hlocks := hlk)
    · rw [if_neg c_2] at h
      by_cases c_3 : a1 = 41
      · rw [if_pos c_3] at h
        refine lv_tableIn (tgt := 104) (off := 103) hx hb dX9_isSign_1 (fun q => c_1 (Or.inl q)) (fun q => c_1 (Or.inr q)) (by rw [c_3]; rfl) (by decide) ?_
        refine lv_iconst (v := 1) hx hb dX9_isSign_104 (by decide) ?_
        obtain rfl := Option.some.inj h
        exact W.zret (v := 1) (ty := .boolean) hx hb hr rfl (r_end X hP hS) hS.2.2 dX9_isSign_105 (hlocks := hlk)
      · rw [if_neg c_3] at h
        by_cases c_4 : a1 = 42
        · rw [if_pos c_4] at h
          refine lv_tableIn (tgt := 104) (off := 103) hx hb dX9_isSign_1 (fun q => c_1 (Or.inl q)) (fun q => c_1 (Or.inr q)) (by rw [c_4]; rfl) (by decide) ?_
          refine lv_iconst (v := 1) hx hb dX9_isSign_104 (by decide) ?_
          obtain rfl := Option.some.inj h
          exact W.zret (v := 1) (ty := .boolean) hx hb hr rfl (r_end X hP hS) hS.2.2 dX9_isSign_105 (hlocks := hlk)
        · rw [if_neg c_4] at h
          by_cases c_5 : a1 = 43
          · rw [if_pos c_5] at h
            refine lv_tableIn (tgt := 104) (off := 103) hx hb dX9_isSign_1 (fun q => c_1 (Or.inl q)) (fun q => c_1 (Or.inr q)) (by rw [c_5]; rfl) (by decide) ?_
            refine lv_iconst (v := 1) hx hb dX9_isSign_104 (by decide) ?_
            obtain rfl := Option.some.inj h
            exact W.zret (v := 1) (ty := .boolean) hx hb hr rfl (r_end X hP hS) hS.2.2 dX9_isSign_105 (hlocks := hlk)
          · rw [if_neg c_5] at h
            by_cases c_6 : a1 = 44
            · rw [if_pos c_6] at h
              refine lv_tableIn (tgt := 106) (off := 105) hx hb dX9_isSign_1 (fun q => c_1 (Or.inl q)) (fun q => c_1 (Or.inr q)) (by rw [c_6]; rfl) (by decide) ?_
              refine lv_iconst (v := 0) hx hb dX9_isSign_106 (by decide) ?_
              obtain rfl := Option.some.inj h
              exact W.zret (v := 0) (ty := .boolean) hx hb hr rfl (r_end X hP hS) hS.2.2 dX9_isSign_107 (hlocks := hlk)
            · rw [if_neg c_6] at h
              by_cases c_7 : a1 = 45
              · rw [if_pos c_7] at h
                refine lv_tableIn (tgt := 104) (off := 103) hx hb dX9_isSign_1 (fun q => c_1 (Or.inl q)) (fun q => c_1 (Or.inr q)) (by rw [c_7]; rfl) (by decide) ?_
                refine lv_iconst (v := 1) hx hb dX9_isSign_104 (by decide) ?_
                obtain rfl := Option.some.inj h
                exact W.zret (v := 1) (ty := .boolean) hx hb hr rfl (r_end X hP hS) hS.2.2 dX9_isSign_105 (hlocks := hlk)
              · rw [if_neg c_7] at h
                by_cases c_8 : a1 = 46
                · rw [if_pos c_8] at h
                  refine lv_tableIn (tgt := 106) (off := 105) hx hb dX9_isSign_1 (fun q => c_1 (Or.inl q)) (fun q => c_1 (Or.inr q)) (by rw [c_8]; rfl) (by decide) ?_
                  refine lv_iconst (v := 0) hx hb dX9_isSign_106 (by decide) ?_
                  obtain rfl := Option.some.inj h
                  exact W.zret (v := 0) (ty := .boolean) hx hb hr rfl (r_end X hP hS) hS.2.2 dX9_isSign_107 (hlocks := hlk)
                · rw [if_neg c_8] at h
                  by_cases c_9 : a1 = 47
                  · rw [if_pos c_9] at h
                    refine lv_tableIn (tgt := 106) (off := 105) hx hb dX9_isSign_1 (fun q => c_1 (Or.inl q)) (fun q => c_1 (Or.inr q)) (by rw [c_9]; rfl) (by decide) ?_
                    refine lv_iconst (v := 0) hx hb dX9_isSign_106 (by decide) ?_
                    obtain rfl := Option.some.inj h
                    exact W.zret (v := 0) (ty := .boolean) hx hb hr rfl (r_end X hP hS) hS.2.2 dX9_isSign_107 (hlocks := hlk)
                  · rw [if_neg c_9] at h
                    by_cases c_10 : a1 = 48
                    · rw [if_pos c_10] at h
                      refine lv_tableIn (tgt := 106) (off := 105) hx hb dX9_isSign_1 (fun q => c_1 (Or.inl q)) (fun q => c_1 (Or.inr q)) (by rw [c_10]; rfl) (by decide) ?_
                      refine lv_iconst (v := 0) hx hb dX9_isSign_106 (by decide) ?_
                      obtain rfl := Option.some.inj h
                      exact W.zret (v := 0) (ty := .boolean) hx hb hr rfl (r_end X hP hS) hS.2.2 dX9_isSign_107 (hlocks := hlk)
                    · rw [if_neg c_10] at h
                      by_cases c_11 : a1 = 49
                      · rw [if_pos c_11] at h
                        refine lv_tableIn (tgt := 106) (off := 105) hx hb dX9_isSign_1 (fun q => c_1 (Or.inl q)) (fun q => c_1 (Or.inr q)) (by rw [c_11]; rfl) (by decide) ?_
                        refine lv_iconst (v := 0) hx hb dX9_isSign_106 (by decide) ?_
                        obtain rfl := Option.some.inj h
                        exact W.zret (v := 0) (ty := .boolean) hx hb hr rfl (r_end X hP hS) hS.2.2 dX9_isSign_107 (hlocks := hlk)
                      · rw [if_neg c_11] at h
                        by_cases c_12 : a1 = 50
                        · rw [if_pos c_12] at h
                          refine lv_tableIn (tgt := 106) (off := 105) hx hb dX9_isSign_1 (fun q => c_1 (Or.inl q)) (fun q => c_1 (Or.inr q)) (by rw [c_12]; rfl) (by decide) ?_
                          refine lv_iconst (v := 0) hx hb dX9_isSign_106 (by decide) ?_
                          obtain rfl := Option.some.inj h
                          exact W.zret (v := 0) (ty := .boolean) hx hb hr rfl (r_end X hP hS) hS.2.2 dX9_isSign_107 (hlocks := hlk)
                        · rw [if_neg c_12] at h
                          by_cases c_13 : a1 = 51
                          · rw [if_pos c_13] at h
                            refine lv_tableIn (tgt := 106) (off := 105) hx hb dX9_isSign_1 (fun q => c_1 (Or.inl q)) (fun q => c_1 (Or.inr q)) (by rw [c_13]; rfl) (by decide) ?_
                            refine lv_iconst (v := 0) hx hb dX9_isSign_106 (by decide) ?_
                            obtain rfl := Option.some.inj h
                            exact W.zret (v := 0) (ty := .boolean) hx hb hr rfl (r_end X hP hS) hS.2.2 dX9_isSign_107 (hlocks := hlk)
                          · rw [if_neg c_13] at h
                            by_cases c_14 : a1 = 52
                            · rw [if_pos c_14] at h
                              refine lv_tableIn (tgt := 106) (off := 105) hx hb dX9_isSign_1 (fun q => c_1 (Or.inl q)) (fun q => c_1 (Or.inr q)) (by rw [c_14]; rfl) (by decide) ?_
                              refine lv_iconst (v := 0) hx hb dX9_isSign_106 (by decide) ?_
                              obtain rfl := Option.some.inj h
                              exact W.zret (v := 0) (ty := .boolean) hx hb hr rfl (r_end X hP hS) hS.2.2 dX9_isSign_107 (hlocks := hlk)
                            · rw [if_neg c_14] at h
                              by_cases c_15 : a1 = 53
                              · rw [if_pos c_15] at h
                                refine lv_tableIn (tgt := 106) (off := 105) hx hb dX9_isSign_1 (fun q => c_1 (Or.inl q)) (fun q => c_1 (Or.inr q)) (by rw [c_15]; rfl) (by decide) ?_
                                refine lv_iconst (v := 0) hx hb dX9_isSign_106 (by decide) ?_
                                obtain rfl := Option.some.inj h
                                exact W.zret (v := 0) (ty := .boolean) hx hb hr rfl (r_end X hP hS) hS.2.2 dX9_isSign_107 (hlocks := hlk)
                              · rw [if_neg c_15] at h
                                by_cases c_16 : a1 = 54
                                · rw [if_pos c_16] at h
                                  refine lv_tableIn (tgt := 106) (off := 105) hx hb dX9_isSign_1 (fun q => c_1 (Or.inl q)) (fun q => c_1 (Or.inr q)) (by rw [c_16]; rfl) (by decide) ?_
                                  refine lv_iconst (v := 0) hx hb dX9_isSign_106 (by decide) ?_
                                  obtain rfl := Option.some.inj h
                                  exact W.zret (v := 0) (ty := .boolean) hx hb hr rfl (r_end X hP hS) hS.2.2 dX9_isSign_107 (hlocks := hlk)
                                · rw [if_neg c_16] at h
                                  by_cases c_17 : a1 = 55
                                  · rw [if_pos c_17] at h
                                    refine lv_tableIn (tgt := 106) (off := 105) hx hb dX9_isSign_1 (fun q => c_1 (Or.inl q)) (fun q => c_1 (Or.inr q)) (by rw [c_17]; rfl) (by decide) ?_
                                    refine lv_iconst (v := 0) hx hb dX9_isSign_106 (by decide) ?_
                                    obtain rfl := Option.some.inj h
                                    exact W.zret (v := 0) (ty := .boolean) hx hb hr rfl (r_end X hP hS) hS.2.2 dX9_isSign_107 (hlocks := hlk)
                                  · rw [if_neg c_17] at h
                                    by_cases c_18 : a1 = 56
                                    · rw [if_pos c_18] at h
                                      refine lv_tableIn (tgt := 106) (off := 105) hx hb dX9_isSign_1 (fun q => c_1 (Or.inl q)) (fun q => c_1 (Or.inr q)) (by rw [c_18]; rfl) (by decide) ?_
                                      refine lv_iconst (v := 0) hx hb dX9_isSign_106 (by decide) ?_
                                      obtain rfl := Option.some.inj h
                                      exact W.zret (v := 0) (ty := .boolean) hx hb hr rfl (r_end X hP hS) hS.2.2 dX9_isSign_107 (hlocks := hlk)
                                    · rw [if_neg c_18] at h
                                      by_cases c_19 : a1 = 57
                                      · rw [if_pos c_19] at h
                                        refine lv_tableIn (tgt := 106) (off := 105) hx hb dX9_isSign_1 (fun q => c_1 (Or.inl q)) (fun q => c_1 (Or.inr q)) (by rw [c_19]; rfl) (by decide) ?_
                                        refine lv_iconst (v := 0) hx hb dX9_isSign_106 (by decide) ?_
                                        obtain rfl := Option.some.inj h
                                        exact W.zret (v := 0) (ty := .boolean) hx hb hr rfl (r_end X hP hS) hS.2.2 dX9_isSign_107 (hlocks := hlk)
                                      · rw [if_neg c_19] at h
                                        by_cases c_20 : a1 = 58
                                        · rw [if_pos c_20] at h
                                          refine lv_tableIn (tgt := 106) (off := 105) hx hb dX9_isSign_1 (fun q => c_1 (Or.inl q)) (fun q => c_1 (Or.inr q)) (by rw [c_20]; rfl) (by decide) ?_
                                          refine lv_iconst (v := 0) hx hb dX9_isSign_106 (by decide) ?_
                                          obtain rfl := Option.some.inj h
                                          exact W.zret (v := 0) (ty := .boolean) hx hb hr rfl (r_end X hP hS) hS.2.2 dX9_isSign_107 (hlocks := hlk)
                                        · rw [if_neg c_20] at h
                                          by_cases c_21 : a1 = 59
                                          · rw [if_pos c_21] at h
                                            refine lv_tableIn (tgt := 104) (off := 103) hx hb dX9_isSign_1 (fun q => c_1 (Or.inl q)) (fun q => c_1 (Or.inr q)) (by rw [c_21]; rfl) (by decide) ?_
                                            refine lv_iconst (v := 1) hx hb dX9_isSign_104 (by decide) ?_
                                            obtain rfl := Option.some.inj h
                                            exact W.zret (v := 1) (ty := .boolean) hx hb hr rfl (r_end X hP hS) hS.2.2 dX9_isSign_105 (hlocks := hlk)
                                          · rw [if_neg c_21] at h
                                            by_cases c_22 : a1 = 60
                                            · rw [if_pos c_22] at h
                                              refine lv_tableIn (tgt := 104) (off := 103) hx hb dX9_isSign_1 (fun q => c_1 (Or.inl q)) (fun q => c_1 (Or.inr q)) (by rw [c_22]; rfl) (by decide) ?_
                                              refine lv_iconst (v := 1) hx hb dX9_isSign_104 (by decide) ?_
                                              obtain rfl := Option.some.inj h
                                              exact W.zret (v := 1) (ty := .boolean) hx hb hr rfl (r_end X hP hS) hS.2.2 dX9_isSign_105 (hlocks := hlk)
                                            · rw [if_neg c_22] at h
                                              by_cases c_23 : a1 = 61
                                              · rw [if_pos c_23] at h
                                                refine lv_tableIn (tgt := 104) (off := 103) hx hb dX9_isSign_1 (fun q => c_1 (Or.inl q)) (fun q => c_1 (Or.inr q)) (by rw [c_23]; rfl) (by decide) ?_
                                                refine lv_iconst (v := 1) hx hb dX9_isSign_104 (by decide) ?_
                                                obtain rfl := Option.some.inj h
                                                exact W.zret (v := 1) (ty := .boolean) hx hb hr rfl (r_end X hP hS) hS.2.2 dX9_isSign_105 (hlocks := hlk)
                                              · rw [if_neg c_23] at h
                                                cases h

def f_X9_nextToken (M : Mem) (a1 : Int32) : Option (Int32 × Mem) :=
  (if a1 < (M 19 0) then (if ibd (a1) 160 then (if (f_X9_isSmall ((M 58 (Int32.toNatClampNeg (a1))))) = 0 then (if (f_X9_isDigit ((M 58 (Int32.toNatClampNeg (a1))))) = 0 then (Option.bind (f_X9_isSign ((M 58 (Int32.toNatClampNeg (a1))))) fun r_5 => (if r_5 = 0 then some ((20260, (upd2 M 19 4 (((M 19 4) + 1))))) else some (((20000 + (M 58 (Int32.toNatClampNeg (a1)))), (upd2 M 19 4 (((M 19 4) + 1))))))) else (Option.bind (f_X9_numberToken M (a1)) fun r_7 => some ((r_7.1, r_7.2)))) else (Option.bind (f_X9_wordToken M (a1)) fun r_8 => some ((r_8.1, r_8.2)))) else none) else some ((20259, M)))
set_option maxRecDepth 100000 in
set_option maxHeartbeats 4000000 in
theorem c_X9_nextToken (l : Launch) {G : GT} {φ : Nat → Nat} {n : Nat} {M : Mem} {a1 : Int32} (hI : wI φ n) (hn : 107 ≤ n) {r : Int32 × Mem} (h : f_X9_nextToken M a1 = some r) : CT l yX9_nextToken cX9_nextToken 3 (some .int) ({ frames := 6, cells := 0, slots := 0, locals := 129 } : Room) [.ref (φ 19), .int (a1)] (WB (cX G φ) φ M n G) (some (.int r.1)) (WB (cX G φ) φ (r.2) n G) φ n := by
  unfold f_X9_nextToken at h
  refine r_start (plainFor_of_name (by decide)) (Nat.le_of_ble_eq_true rfl) hI ?_
  intro p e s m args below meth c ls X hr hlk hP hl
  have hS : va_S (wA φ n s.heap.size) s.heap s.heap [] := va_S.rf
  have hx := X.1.1
  have hb := X.1.2.1
  have hl : lv_has ls 3 [(0, .ref (φ 19)), (1, .int (a1))] := hl
  refine lv_iload_n hx hb dX9_nextToken_0 rfl (lv_at hl 1 rfl) ?_
  refine lv_aload_n hx hb dX9_nextToken_1 rfl (lv_at hl 0 rfl) ?_
  refine G_X9_11 X.1 hn hP dX9_nextToken_2 ?_
  refine lv_icmp_lt (tgt := 12) hx hb dX9_nextToken_5 (by decide) (fun c_1 => ?_) (fun c_1 => ?_)
  · rw [if_pos c_1] at h
    refine lv_aload_n hx hb dX9_nextToken_12 rfl (lv_at hl 0 rfl) ?_
    refine G_X9_15 X.1 hn hP dX9_nextToken_13 ?_
    refine lv_iload_n hx hb dX9_nextToken_16 rfl (lv_at hl 1 rfl) ?_
    obtain ⟨c_2, h⟩ := og h
    refine r_iald (k := (Int32.toNatClampNeg (a1))) X.1 hP (by omega) sX_bytes rfl (vin c_2) dX9_nextToken_17 ?_
    refine lv_istore_n (lv' := [(2, .int ((M 58 (Int32.toNatClampNeg (a1))))), (0, .ref (φ 19)), (1, .int (a1))]) hx hb dX9_nextToken_18 rfl hl (by decide) rfl (fun ls hl => ?_)
    refine lv_iload_n hx hb dX9_nextToken_19 rfl (lv_at hl 0 rfl) ?_
    refine c_S0 (As := [.int ((M 58 (Int32.toNatClampNeg (a1))))]) (rest := []) X hl.1 (c_X9_isSmall l X.2.2.2.1.1 hn rfl) (w_X9_35) qw_470 ⟨Nat.le_of_ble_eq_true rfl, Nat.le_of_ble_eq_true rfl⟩ rfl rfl hP hS (Nat.le_of_ble_eq_true rfl) dX9_nextToken_20 (fun H locs hP hS => ?_)
    refine lv_if_eq (tgt := 32) hx hb dX9_nextToken_23 (by decide) (fun c_3 => ?_) (fun c_3 => ?_)
    · rw [if_pos c_3] at h
      refine lv_iload_n hx hb dX9_nextToken_32 rfl (lv_at hl 0 rfl) ?_
      refine c_S0 (As := [.int ((M 58 (Int32.toNatClampNeg (a1))))]) (rest := []) X hl.1 (c_X9_isDigit l X.2.2.2.1.1 hn rfl) (w_X9_42) qw_495 ⟨Nat.le_of_ble_eq_true rfl, Nat.le_of_ble_eq_true rfl⟩ rfl rfl hP hS (Nat.le_of_ble_eq_true rfl) dX9_nextToken_33 (fun H locs hP hS => ?_)
      refine lv_if_eq (tgt := 45) hx hb dX9_nextToken_36 (by decide) (fun c_4 => ?_) (fun c_4 => ?_)
      · rw [if_pos c_4] at h
        refine lv_aload_n hx hb dX9_nextToken_45 rfl (lv_at hl 1 rfl) ?_
        refine lv_dup hx hb dX9_nextToken_46 rfl ?_
        refine G_X9_25 X.1 hn hP dX9_nextToken_47 ?_
        refine lv_iconst (v := 1) hx hb dX9_nextToken_50 (by decide) ?_
        refine lv_iadd hx hb dX9_nextToken_51 ?_
        refine P_X9_25 X.1 hn X.2.2.2.1 hP hS dX9_nextToken_52 (fun H locs hP hS => ?_)
        refine lv_iload_n hx hb dX9_nextToken_55 rfl (lv_at hl 0 rfl) ?_
        obtain ⟨r_5, hr_5, h⟩ := ob h
        refine c_S0 (As := [.int ((M 58 (Int32.toNatClampNeg (a1))))]) (rest := []) X hl.1 (c_X9_isSign l X.2.2.2.1.1 hn hr_5) (w_X9_48) qw_502 ⟨Nat.le_of_ble_eq_true rfl, Nat.le_of_ble_eq_true rfl⟩ rfl rfl hP hS (Nat.le_of_ble_eq_true rfl) dX9_nextToken_56 (fun H locs hP hS => ?_)
        refine lv_if_eq (tgt := 70) hx hb dX9_nextToken_59 (by decide) (fun c_6 => ?_) (fun c_6 => ?_)
        · rw [if_pos c_6] at h
          refine lv_sipush (v := 20260) hx hb dX9_nextToken_70 (by decide) ?_
          obtain rfl := Option.some.inj h
          exact W.iret hx hb hr (r_end X hP hS) hS.2.2 dX9_nextToken_73 (hlocks := hlk)
        · rw [if_neg c_6] at h
          refine lv_sipush (v := 20000) hx hb dX9_nextToken_62 (by decide) ?_
          refine lv_iload_n hx hb dX9_nextToken_65 rfl (lv_at hl 0 rfl) ?_
          refine lv_iadd hx hb dX9_nextToken_66 ?_
          refine lv_goto (tgt := 73) hx hb dX9_nextToken_67 (by decide) ?_
          obtain rfl := Option.some.inj h
          exact W.iret hx hb hr (r_end X hP hS) hS.2.2 dX9_nextToken_73 (hlocks := hlk)
      · rw [if_neg c_4] at h
        refine lv_aload_n hx hb dX9_nextToken_39 rfl (lv_at hl 1 rfl) ?_
        refine lv_iload_n hx hb dX9_nextToken_40 rfl (lv_at hl 2 rfl) ?_
        obtain ⟨r_7, hr_7, h⟩ := ob h
        refine c_V0 (As := [.int (a1)]) (rest := []) (a := 19) X hl.1 (c_X9_numberToken l X.2.2.2.1.1 hn hr_7) (w_X9_45) qw_499 qw_4 ⟨Nat.le_of_ble_eq_true rfl, Nat.le_of_ble_eq_true rfl⟩ rfl rfl hP hS (by omega) sX_Tape rfl rfl (Nat.le_of_ble_eq_true rfl) dX9_nextToken_41 (fun H locs hP hS => ?_)
        obtain rfl := Option.some.inj h
        exact W.iret hx hb hr (r_end X hP hS) hS.2.2 dX9_nextToken_44 (hlocks := hlk)
    · rw [if_neg c_3] at h
      refine lv_aload_n hx hb dX9_nextToken_26 rfl (lv_at hl 1 rfl) ?_
      refine lv_iload_n hx hb dX9_nextToken_27 rfl (lv_at hl 2 rfl) ?_
      obtain ⟨r_8, hr_8, h⟩ := ob h
      refine c_V0 (As := [.int (a1)]) (rest := []) (a := 19) X hl.1 (c_X9_wordToken l X.2.2.2.1.1 hn hr_8) (w_X9_39) qw_474 qw_2 ⟨Nat.le_of_ble_eq_true rfl, Nat.le_of_ble_eq_true rfl⟩ rfl rfl hP hS (by omega) sX_Tape rfl rfl (Nat.le_of_ble_eq_true rfl) dX9_nextToken_28 (fun H locs hP hS => ?_)
      obtain rfl := Option.some.inj h
      exact W.iret hx hb hr (r_end X hP hS) hS.2.2 dX9_nextToken_31 (hlocks := hlk)
  · rw [if_neg c_1] at h
    refine lv_sipush (v := 20259) hx hb dX9_nextToken_8 (by decide) ?_
    obtain rfl := Option.some.inj h
    exact W.iret hx hb hr (r_end X hP hS) hS.2.2 dX9_nextToken_11 (hlocks := hlk)

def f_X9_scan_7 : Nat → Int32 → Mem → Option (Mem)
  | 0, _, _ => none
  | fu_3 + 1, x1_1, M_2 => (if 160 < x1_1 then some (M_2) else (Option.bind (f_X9_skipBlanks M_2) fun r_5 => (if ibd (x1_1) 161 then (Option.bind (f_X9_nextToken (upd2 r_5 74 (Int32.toNatClampNeg (x1_1)) ((r_5 19 4))) (((upd2 r_5 74 (Int32.toNatClampNeg (x1_1)) ((r_5 19 4))) 19 4))) fun r_7 => (if ibd (x1_1) 161 then (if ibd (x1_1) 161 then (if ((upd2 r_7.2 59 (Int32.toNatClampNeg (x1_1)) (r_7.1)) 59 (Int32.toNatClampNeg (x1_1))) = 20259 then some ((upd2 r_7.2 59 (Int32.toNatClampNeg (x1_1)) (r_7.1))) else (if ibd (x1_1) 161 then (if ((upd2 r_7.2 59 (Int32.toNatClampNeg (x1_1)) (r_7.1)) 59 (Int32.toNatClampNeg (x1_1))) = 20260 then some ((upd2 r_7.2 59 (Int32.toNatClampNeg (x1_1)) (r_7.1))) else (f_X9_scan_7 fu_3 ((x1_1 + 1)) (upd2 r_7.2 59 (Int32.toNatClampNeg (x1_1)) (r_7.1)))) else none)) else none) else none)) else none)))
def f_X9_scan (M : Mem) : Option (Mem) :=
  (f_X9_scan_7 FU (0) (upd2 M 19 4 (0)))
set_option maxRecDepth 100000 in
set_option maxHeartbeats 4000000 in
theorem c_X9_scan (l : Launch) {G : GT} {φ : Nat → Nat} {n : Nat} {M : Mem} (hI : wI φ n) (hn : 107 ≤ n) {r : Mem} (h : f_X9_scan M = some r) : CT l yX9_scan cX9_scan 2 none ({ frames := 7, cells := 0, slots := 0, locals := 151 } : Room) [.ref (φ 19)] (WB (cX G φ) φ M n G) (none) (WB (cX G φ) φ (r) n G) φ n := by
  unfold f_X9_scan at h
  refine r_start (plainFor_of_name (by decide)) (Nat.le_of_ble_eq_true rfl) hI ?_
  intro p e s m args below meth c ls X hr hlk hP hl
  have hS : va_S (wA φ n s.heap.size) s.heap s.heap [] := va_S.rf
  have hx := X.1.1
  have hb := X.1.2.1
  have hl : lv_has ls 2 [(0, .ref (φ 19))] := hl
  have L7 : ∀ (fu_3 : Nat) (M_2 : Mem) (x1_1 : Int32)  (H : Heap) (locs : List Loc) (ls : Array Slot), va_P G.1 vwCl (wW (cX G φ) φ M_2 n) H → va_S (wA φ n s.heap.size) s.heap H locs → lv_has ls 2 [(0, .ref (φ 19)), (1, .int (x1_1))] → f_X9_scan_7 fu_3 x1_1 M_2 = some r → W p l e ({ frames := 7, cells := 0, slots := 0, locals := 151 } : Room) s m args below meth c H locs 0 0 (MQ below (QQ (none) (WB (cX G φ) φ (r) n G) (wA φ n s.heap.size)) args s 0 0 (wA φ n s.heap.size)) (F0 m 7 ls []) := by
    intro fu_3
    induction fu_3 with
    | zero =>
      intro M_2 x1_1 H locs ls _ _ _  h
      have h : (none : Option (Mem)) = some r := h
      cases h
    | succ fu_3 ih =>
      intro M_2 x1_1 H locs ls hP hS hl  h
      rw [f_X9_scan_7] at h
      refine lv_iload_n hx hb dX9_scan_7 rfl (lv_at hl 1 rfl) ?_
      refine lv_sipush (v := 160) hx hb dX9_scan_8 (by decide) ?_
      refine lv_icmp_gt (tgt := 73) hx hb dX9_scan_11 (by decide) (fun c_4 => ?_) (fun c_4 => ?_)
      · rw [if_pos c_4] at h
        obtain rfl := Option.some.inj h
        exact W.vret hx hb hr (r_end X hP hS) hS.2.2 dX9_scan_73 (hlocks := hlk)
      · rw [if_neg c_4] at h
        refine lv_aload_n hx hb dX9_scan_14 rfl (lv_at hl 0 rfl) ?_
        obtain ⟨r_5, hr_5, h⟩ := ob h
        refine c_V0 (As := []) (rest := []) (a := 19) X hl.1 (c_X9_skipBlanks l X.2.2.2.1.1 hn hr_5) (w_X9_28) qw_463 qw_0 ⟨Nat.le_of_ble_eq_true rfl, Nat.le_of_ble_eq_true rfl⟩ rfl rfl hP hS (by omega) sX_Tape rfl rfl (Nat.le_of_ble_eq_true rfl) dX9_scan_15 (fun H locs hP hS => ?_)
        refine lv_aload_n hx hb dX9_scan_18 rfl (lv_at hl 0 rfl) ?_
        refine G_X9_22 X.1 hn hP dX9_scan_19 ?_
        refine lv_iload_n hx hb dX9_scan_22 rfl (lv_at hl 1 rfl) ?_
        refine lv_aload_n hx hb dX9_scan_23 rfl (lv_at hl 0 rfl) ?_
        refine G_X9_25 X.1 hn hP dX9_scan_24 ?_
        obtain ⟨c_6, h⟩ := og h
        refine r_iast (k := (Int32.toNatClampNeg (x1_1))) X.1 X.2.2.2.1 hP hS (by omega) sX_starts rfl (vin c_6) dX9_scan_27 (fun H locs hP hS => ?_)
        refine lv_aload_n hx hb dX9_scan_28 rfl (lv_at hl 0 rfl) ?_
        refine G_X9_19 X.1 hn hP dX9_scan_29 ?_
        refine lv_iload_n hx hb dX9_scan_32 rfl (lv_at hl 1 rfl) ?_
        refine lv_aload_n hx hb dX9_scan_33 rfl (lv_at hl 0 rfl) ?_
        refine lv_aload_n hx hb dX9_scan_34 rfl (lv_at hl 0 rfl) ?_
        refine G_X9_25 X.1 hn hP dX9_scan_35 ?_
        obtain ⟨r_7, hr_7, h⟩ := ob h
        refine c_V0 (As := [.int (((upd2 r_5 74 (Int32.toNatClampNeg (x1_1)) ((r_5 19 4))) 19 4))]) (rest := [.int (x1_1), .ref (φ 59)]) (a := 19) X hl.1 (c_X9_nextToken l X.2.2.2.1.1 hn hr_7) (w_X9_31) qw_467 qw_1 ⟨Nat.le_of_ble_eq_true rfl, Nat.le_of_ble_eq_true rfl⟩ rfl rfl hP hS (by omega) sX_Tape rfl rfl (Nat.le_of_ble_eq_true rfl) dX9_scan_38 (fun H locs hP hS => ?_)
        obtain ⟨c_8, h⟩ := og h
        refine r_iast (k := (Int32.toNatClampNeg (x1_1))) X.1 X.2.2.2.1 hP hS (by omega) sX_tokens rfl (vin c_8) dX9_scan_41 (fun H locs hP hS => ?_)
        refine lv_aload_n hx hb dX9_scan_42 rfl (lv_at hl 0 rfl) ?_
        refine G_X9_19 X.1 hn hP dX9_scan_43 ?_
        refine lv_iload_n hx hb dX9_scan_46 rfl (lv_at hl 1 rfl) ?_
        obtain ⟨c_9, h⟩ := og h
        refine r_iald (k := (Int32.toNatClampNeg (x1_1))) X.1 hP (by omega) sX_tokens rfl (vin c_9) dX9_scan_47 ?_
        refine lv_sipush (v := 20259) hx hb dX9_scan_48 (by decide) ?_
        refine lv_icmp_eq (tgt := 66) hx hb dX9_scan_51 (by decide) (fun c_10 => ?_) (fun c_10 => ?_)
        · rw [if_pos c_10] at h
          obtain rfl := Option.some.inj h
          exact W.vret hx hb hr (r_end X hP hS) hS.2.2 dX9_scan_66 (hlocks := hlk)
        · rw [if_neg c_10] at h
          refine lv_aload_n hx hb dX9_scan_54 rfl (lv_at hl 0 rfl) ?_
          refine G_X9_19 X.1 hn hP dX9_scan_55 ?_
          refine lv_iload_n hx hb dX9_scan_58 rfl (lv_at hl 1 rfl) ?_
          obtain ⟨c_11, h⟩ := og h
          refine r_iald (k := (Int32.toNatClampNeg (x1_1))) X.1 hP (by omega) sX_tokens rfl (vin c_11) dX9_scan_59 ?_
          refine lv_sipush (v := 20260) hx hb dX9_scan_60 (by decide) ?_
          refine lv_icmp_ne (tgt := 67) hx hb dX9_scan_63 (by decide) (fun c_12 => ?_) (fun c_12 => ?_)
          · rw [if_neg c_12] at h
            refine lv_iinc (v := (x1_1 + 1)) (lv' := [(1, .int ((x1_1 + 1))), (0, .ref (φ 19))]) hx hb dX9_scan_67 hl (k := 1) rfl (by rw [show Int32.ofInt (1) = 1 from by decide]) (by decide) rfl (fun ls hl => ?_)
            refine lv_goto (tgt := 7) hx hb dX9_scan_70 (by decide) ?_
            exact ih _ _ _ _ _ hP hS (lv_sub hl [1, 0] rfl)  h
          · rw [if_pos c_12] at h
            obtain rfl := Option.some.inj h
            exact W.vret hx hb hr (r_end X hP hS) hS.2.2 dX9_scan_66 (hlocks := hlk)
  refine lv_aload_n hx hb dX9_scan_0 rfl (lv_at hl 0 rfl) ?_
  refine lv_iconst (v := 0) hx hb dX9_scan_1 (by decide) ?_
  refine P_X9_25 X.1 hn X.2.2.2.1 hP hS dX9_scan_2 (fun H locs hP hS => ?_)
  refine lv_iconst (v := 0) hx hb dX9_scan_5 (by decide) ?_
  refine lv_istore_n (lv' := [(1, .int (0)), (0, .ref (φ 19))]) hx hb dX9_scan_6 rfl hl (by decide) rfl (fun ls hl => ?_)
  refine L7 _ _ _ _ _ _ hP hS (lv_sub hl [1, 0] rfl)  h

def f_X5_clear (M : Mem) (i0 : Nat) : Mem :=
  (upd2 M (40 + i0) 2 (0))
set_option maxRecDepth 100000 in
set_option maxHeartbeats 4000000 in
theorem c_X5_clear (l : Launch) {G : GT} {φ : Nat → Nat} {n : Nat} {M : Mem} {i0 : Nat} (hI : wI φ n) (hn : 107 ≤ n) (hi0 : i0 < 6) {r : Mem} (h : f_X5_clear M i0 = r) : CT l yX5_clear cX5_clear 1 none ({ frames := 0, cells := 0, slots := 0, locals := 0 } : Room) [.ref (φ (40 + i0))] (WB (cX G φ) φ M n G) (none) (WB (cX G φ) φ (r) n G) φ n := by
  unfold f_X5_clear at h
  refine r_start (plainFor_of_name (by decide)) (Nat.le_of_ble_eq_true rfl) hI ?_
  intro p e s m args below meth c ls X hr hlk hP hl
  have hS : va_S (wA φ n s.heap.size) s.heap s.heap [] := va_S.rf
  have hx := X.1.1
  have hb := X.1.2.1
  have hl : lv_has ls 1 [(0, .ref (φ (40 + i0)))] := hl
  refine lv_aload_n hx hb dX5_clear_0 rfl (lv_at hl 0 rfl) ?_
  refine lv_iconst (v := 0) hx hb dX5_clear_1 (by decide) ?_
  refine P_X5_18 X.1 hn X.2.2.2.1 hP hS hi0 dX5_clear_2 (fun H locs hP hS => ?_)
  subst h
  exact W.vret hx hb hr (r_end X hP hS) hS.2.2 dX5_clear_5 (hlocks := hlk)

def f_X5_endPart (M : Mem) (i0 : Nat) (a1 : Int32) : Option (Mem) :=
  (if ibd (a1) 3 then some ((upd2 M (52 + i0) (Int32.toNatClampNeg (a1)) ((M (40 + i0) 2)))) else none)
set_option maxRecDepth 100000 in
set_option maxHeartbeats 4000000 in
theorem c_X5_endPart (l : Launch) {G : GT} {φ : Nat → Nat} {n : Nat} {M : Mem} {i0 : Nat} {a1 : Int32} (hI : wI φ n) (hn : 107 ≤ n) (hi0 : i0 < 6) {r : Mem} (h : f_X5_endPart M i0 a1 = some r) : CT l yX5_endPart cX5_endPart 2 none ({ frames := 0, cells := 0, slots := 0, locals := 0 } : Room) [.ref (φ (40 + i0)), .int (a1)] (WB (cX G φ) φ M n G) (none) (WB (cX G φ) φ (r) n G) φ n := by
  unfold f_X5_endPart at h
  refine r_start (plainFor_of_name (by decide)) (Nat.le_of_ble_eq_true rfl) hI ?_
  intro p e s m args below meth c ls X hr hlk hP hl
  have hS : va_S (wA φ n s.heap.size) s.heap s.heap [] := va_S.rf
  have hx := X.1.1
  have hb := X.1.2.1
  have hl : lv_has ls 2 [(0, .ref (φ (40 + i0))), (1, .int (a1))] := hl
  refine lv_aload_n hx hb dX5_endPart_0 rfl (lv_at hl 0 rfl) ?_
  refine G_X5_15 X.1 hn hP hi0 dX5_endPart_1 ?_
  refine lv_iload_n hx hb dX5_endPart_4 rfl (lv_at hl 1 rfl) ?_
  refine lv_aload_n hx hb dX5_endPart_5 rfl (lv_at hl 0 rfl) ?_
  refine G_X5_18 X.1 hn hP hi0 dX5_endPart_6 ?_
  obtain ⟨c_1, h⟩ := og h
  refine r_iast (k := (Int32.toNatClampNeg (a1))) X.1 X.2.2.2.1 hP hS (by omega) (sX_ends hi0) rfl (vin c_1) dX5_endPart_9 (fun H locs hP hS => ?_)
  obtain rfl := Option.some.inj h
  exact W.vret hx hb hr (r_end X hP hS) hS.2.2 dX5_endPart_10 (hlocks := hlk)

def f_X4_parse_16 : Nat → Int32 → Mem → Option (Int32 × Mem)
  | 0, _, _ => none
  | fu_5 + 1, x1_3, M_4 => (if 3 ≤ x1_3 then (Option.bind (f_X4_expect M_4 (20259)) fun r_7 => some ((((upd2 r_7 19 0 (0)) 107 4), (upd2 r_7 19 0 (0))))) else (Option.bind (f_X4_expect M_4 ((20261 + x1_3))) fun r_8 => (Option.bind (f_X4_lev 40 r_8 (0)) fun r_9 => (Option.bind (f_X4_expect r_9 (20059)) fun r_10 => (if (r_10 107 1).toNatClampNeg < 6 then (Option.bind (f_X5_endPart r_10 (r_10 107 1).toNatClampNeg (x1_3)) fun r_12 => (f_X4_parse_16 fu_5 ((x1_3 + 1)) r_12)) else none)))))
def f_X4_parse (M : Mem) : Option (Int32 × Mem) :=
  (Option.bind (f_X9_scan M) fun r_1 => (if (r_1 107 1).toNatClampNeg < 6 then (f_X4_parse_16 FU (0) (f_X5_clear r_1 (r_1 107 1).toNatClampNeg)) else none))
set_option maxRecDepth 100000 in
set_option maxHeartbeats 4000000 in
theorem c_X4_parse (l : Launch) {G : GT} {φ : Nat → Nat} {n : Nat} {M : Mem} (hI : wI φ n) (hn8 : 108 ≤ n) {r : Int32 × Mem} (h : f_X4_parse M = some r) : CT l yX4_parse cX4_parse 2 (some .int) ({ frames := 161, cells := 0, slots := 0, locals := 3301 } : Room) [.ref (φ 107)] (WB (cX G φ) φ M n G) (some (.int r.1)) (WB (cX G φ) φ (r.2) n G) φ n := by
  have hn : 107 ≤ n := Nat.le_of_succ_le hn8
  unfold f_X4_parse at h
  refine r_start (plainFor_of_name (by decide)) (Nat.le_of_ble_eq_true rfl) hI ?_
  intro p e s m args below meth c ls X hr hlk hP hl
  have hS : va_S (wA φ n s.heap.size) s.heap s.heap [] := va_S.rf
  have hx := X.1.1
  have hb := X.1.2.1
  have hl : lv_has ls 2 [(0, .ref (φ 107))] := hl
  have L16 : ∀ (fu_5 : Nat) (M_4 : Mem) (x1_3 : Int32)  (H : Heap) (locs : List Loc) (ls : Array Slot), va_P G.1 vwCl (wW (cX G φ) φ M_4 n) H → va_S (wA φ n s.heap.size) s.heap H locs → lv_has ls 2 [(0, .ref (φ 107)), (1, .int (x1_3))] → f_X4_parse_16 fu_5 x1_3 M_4 = some r → W p l e ({ frames := 161, cells := 0, slots := 0, locals := 3301 } : Room) s m args below meth c H locs 0 0 (MQ below (QQ (some (.int r.1)) (WB (cX G φ) φ (r.2) n G) (wA φ n s.heap.size)) args s 0 0 (wA φ n s.heap.size)) (F0 m 16 ls []) := by
    intro fu_5
    induction fu_5 with
    | zero =>
      intro M_4 x1_3 H locs ls _ _ _  h
      have h : (none : Option (Int32 × Mem)) = some r := h
      cases h
    | succ fu_5 ih =>
      intro M_4 x1_3 H locs ls hP hS hl  h
      rw [f_X4_parse_16] at h
      refine lv_iload_n hx hb dX4_parse_16 rfl (lv_at hl 1 rfl) ?_
      refine lv_iconst (v := 3) hx hb dX4_parse_17 (by decide) ?_
      refine lv_icmp_ge (tgt := 56) hx hb dX4_parse_18 (by decide) (fun c_6 => ?_) (fun c_6 => ?_)
      · rw [if_pos c_6] at h
        refine lv_aload_n hx hb dX4_parse_56 rfl (lv_at hl 0 rfl) ?_
        refine lv_sipush (v := 20259) hx hb dX4_parse_57 (by decide) ?_
        obtain ⟨r_7, hr_7, h⟩ := ob h
        refine c_V0 (As := [.int (20259)]) (rest := []) (a := 107) X hl.1 (c_X4_expect l X.2.2.2.1.1 hn8 hr_7) (w_X4_39) qw_510 qw_5 ⟨Nat.le_of_ble_eq_true rfl, Nat.le_of_ble_eq_true rfl⟩ rfl rfl hP hS (by omega) sX_Parser rfl rfl (Nat.le_of_ble_eq_true rfl) dX4_parse_60 (fun H locs hP hS => ?_)
        refine lv_aload_n hx hb dX4_parse_63 rfl (lv_at hl 0 rfl) ?_
        refine G_X4_21 X.1 hn8 hP dX4_parse_64 ?_
        refine lv_iconst (v := 0) hx hb dX4_parse_67 (by decide) ?_
        refine P_X4_49 X.1 hn X.2.2.2.1 hP hS dX4_parse_68 (fun H locs hP hS => ?_)
        refine lv_aload_n hx hb dX4_parse_71 rfl (lv_at hl 0 rfl) ?_
        refine G_X4_18 X.1 hn8 hP dX4_parse_72 ?_
        obtain rfl := Option.some.inj h
        exact W.iret hx hb hr (r_end X hP hS) hS.2.2 dX4_parse_75 (hlocks := hlk)
      · rw [if_neg c_6] at h
        refine lv_aload_n hx hb dX4_parse_21 rfl (lv_at hl 0 rfl) ?_
        refine lv_sipush (v := 20261) hx hb dX4_parse_22 (by decide) ?_
        refine lv_iload_n hx hb dX4_parse_25 rfl (lv_at hl 1 rfl) ?_
        refine lv_iadd hx hb dX4_parse_26 ?_
        obtain ⟨r_8, hr_8, h⟩ := ob h
        refine c_V0 (As := [.int ((20261 + x1_3))]) (rest := []) (a := 107) X hl.1 (c_X4_expect l X.2.2.2.1.1 hn8 hr_8) (w_X4_39) qw_510 qw_5 ⟨Nat.le_of_ble_eq_true rfl, Nat.le_of_ble_eq_true rfl⟩ rfl rfl hP hS (by omega) sX_Parser rfl rfl (Nat.le_of_ble_eq_true rfl) dX4_parse_27 (fun H locs hP hS => ?_)
        refine lv_aload_n hx hb dX4_parse_30 rfl (lv_at hl 0 rfl) ?_
        refine lv_iconst (v := 0) hx hb dX4_parse_31 (by decide) ?_
        obtain ⟨r_9, hr_9, h⟩ := ob h
        refine c_V0 (As := [.int (0)]) (rest := []) (a := 107) X hl.1 (c_X4_lev l X.2.2.2.1.1 hn8 40 hr_9) (w_X4_43) qw_526 qw_9 ⟨Nat.le_of_ble_eq_true rfl, Nat.le_of_ble_eq_true rfl⟩ rfl rfl hP hS (by omega) sX_Parser rfl rfl (Nat.le_of_ble_eq_true rfl) dX4_parse_32 (fun H locs hP hS => ?_)
        refine lv_aload_n hx hb dX4_parse_35 rfl (lv_at hl 0 rfl) ?_
        refine lv_sipush (v := 20059) hx hb dX4_parse_36 (by decide) ?_
        obtain ⟨r_10, hr_10, h⟩ := ob h
        refine c_V0 (As := [.int (20059)]) (rest := []) (a := 107) X hl.1 (c_X4_expect l X.2.2.2.1.1 hn8 hr_10) (w_X4_39) qw_510 qw_5 ⟨Nat.le_of_ble_eq_true rfl, Nat.le_of_ble_eq_true rfl⟩ rfl rfl hP hS (by omega) sX_Parser rfl rfl (Nat.le_of_ble_eq_true rfl) dX4_parse_39 (fun H locs hP hS => ?_)
        refine lv_aload_n hx hb dX4_parse_42 rfl (lv_at hl 0 rfl) ?_
        refine G_X4_25 X.1 hn8 hP dX4_parse_43 ?_
        obtain ⟨c_11, h⟩ := og h
        refine lv_iload_n hx hb dX4_parse_46 rfl (lv_at hl 1 rfl) ?_
        obtain ⟨r_12, hr_12, h⟩ := ob h
        refine c_V0 (As := [.int (x1_3)]) (rest := []) (a := (40 + (r_10 107 1).toNatClampNeg)) X hl.1 (c_X5_endPart l X.2.2.2.1.1 hn c_11 hr_12) (w_X4_46) qw_561 qw_562 ⟨Nat.le_of_ble_eq_true rfl, Nat.le_of_ble_eq_true rfl⟩ rfl rfl hP hS (by omega) (sX_Rule c_11) rfl rfl (Nat.le_of_ble_eq_true rfl) dX4_parse_47 (fun H locs hP hS => ?_)
        refine lv_iinc (v := (x1_3 + 1)) (lv' := [(1, .int ((x1_3 + 1))), (0, .ref (φ 107))]) hx hb dX4_parse_50 hl (k := 1) rfl (by rw [show Int32.ofInt (1) = 1 from by decide]) (by decide) rfl (fun ls hl => ?_)
        refine lv_goto (tgt := 16) hx hb dX4_parse_53 (by decide) ?_
        exact ih _ _ _ _ _ hP hS (lv_sub hl [1, 0] rfl)  h
  refine lv_aload_n hx hb dX4_parse_0 rfl (lv_at hl 0 rfl) ?_
  refine G_X4_21 X.1 hn8 hP dX4_parse_1 ?_
  obtain ⟨r_1, hr_1, h⟩ := ob h
  refine c_V0 (As := []) (rest := []) (a := 19) X hl.1 (c_X9_scan l X.2.2.2.1.1 hn hr_1) (w_X4_29) qw_458 qw_459 ⟨Nat.le_of_ble_eq_true rfl, Nat.le_of_ble_eq_true rfl⟩ rfl rfl hP hS (by omega) sX_Tape rfl rfl (Nat.le_of_ble_eq_true rfl) dX4_parse_4 (fun H locs hP hS => ?_)
  refine lv_aload_n hx hb dX4_parse_7 rfl (lv_at hl 0 rfl) ?_
  refine G_X4_25 X.1 hn8 hP dX4_parse_8 ?_
  obtain ⟨c_2, h⟩ := og h
  refine c_V0 (As := []) (rest := []) (a := (40 + (r_1 107 1).toNatClampNeg)) X hl.1 (c_X5_clear l X.2.2.2.1.1 hn c_2 rfl) (w_X4_34) qw_505 qw_506 ⟨Nat.le_of_ble_eq_true rfl, Nat.le_of_ble_eq_true rfl⟩ rfl rfl hP hS (by omega) (sX_Rule c_2) rfl rfl (Nat.le_of_ble_eq_true rfl) dX4_parse_11 (fun H locs hP hS => ?_)
  refine lv_iconst (v := 0) hx hb dX4_parse_14 (by decide) ?_
  refine lv_istore_n (lv' := [(1, .int (0)), (0, .ref (φ 107))]) hx hb dX4_parse_15 rfl hl (by decide) rfl (fun ls hl => ?_)
  refine L16 _ _ _ _ _ _ hP hS (lv_sub hl [1, 0] rfl)  h

def f_X6_isMissing (M : Mem) (i0 : Nat) : Int32 :=
  (if (M (90 + i0) 1) = (-1) then 1 else 0)
theorem bz_X6_isMissing (M : Mem) (i0 : Nat) : f_X6_isMissing M i0 = 0 ∨ f_X6_isMissing M i0 = 1 := by
  unfold f_X6_isMissing
  repeat' (first | exact Or.inl rfl | exact Or.inr rfl | split)
set_option maxRecDepth 100000 in
set_option maxHeartbeats 4000000 in
theorem c_X6_isMissing (l : Launch) {G : GT} {φ : Nat → Nat} {n : Nat} {M : Mem} {i0 : Nat} (hI : wI φ n) (hn : 107 ≤ n) (hi0 : i0 < 4) {r : Int32} (h : f_X6_isMissing M i0 = r) : CT l yX6_isMissing cX6_isMissing 1 (some .boolean) ({ frames := 0, cells := 0, slots := 0, locals := 0 } : Room) [.ref (φ (90 + i0))] (WB (cX G φ) φ M n G) (some (.int r)) (WB (cX G φ) φ (M) n G) φ n := by
  unfold f_X6_isMissing at h
  refine r_start (plainFor_of_name (by decide)) (Nat.le_of_ble_eq_true rfl) hI ?_
  intro p e s m args below meth c ls X hr hlk hP hl
  have hS : va_S (wA φ n s.heap.size) s.heap s.heap [] := va_S.rf
  have hx := X.1.1
  have hb := X.1.2.1
  have hl : lv_has ls 1 [(0, .ref (φ (90 + i0)))] := hl
  refine lv_aload_n hx hb dX6_isMissing_0 rfl (lv_at hl 0 rfl) ?_
  refine G_X6_15 X.1 hn hP hi0 dX6_isMissing_1 ?_
  refine lv_iconst (v := (-1)) hx hb dX6_isMissing_4 (by decide) ?_
  refine lv_icmp_ne (tgt := 12) hx hb dX6_isMissing_5 (by decide) (fun c_1 => ?_) (fun c_1 => ?_)
  · rw [if_neg c_1] at h
    refine lv_iconst (v := 0) hx hb dX6_isMissing_12 (by decide) ?_
    subst h
    exact W.zret (v := 0) (ty := .boolean) hx hb hr rfl (r_end X hP hS) hS.2.2 dX6_isMissing_13 (hlocks := hlk)
  · rw [if_pos c_1] at h
    refine lv_iconst (v := 1) hx hb dX6_isMissing_8 (by decide) ?_
    refine lv_goto (tgt := 13) hx hb dX6_isMissing_9 (by decide) ?_
    subst h
    exact W.zret (v := 1) (ty := .boolean) hx hb hr rfl (r_end X hP hS) hS.2.2 dX6_isMissing_13 (hlocks := hlk)

def f_X6_has (M : Mem) (i0 : Nat) (a1 : Int32) : Int32 :=
  (if a1 < 0 then 0 else (if (M (90 + i0) 2) ≤ a1 then 0 else 1))
theorem bz_X6_has (M : Mem) (i0 : Nat) (a1 : Int32) : f_X6_has M i0 a1 = 0 ∨ f_X6_has M i0 a1 = 1 := by
  unfold f_X6_has
  repeat' (first | exact Or.inl rfl | exact Or.inr rfl | split)
set_option maxRecDepth 100000 in
set_option maxHeartbeats 4000000 in
theorem c_X6_has (l : Launch) {G : GT} {φ : Nat → Nat} {n : Nat} {M : Mem} {i0 : Nat} {a1 : Int32} (hI : wI φ n) (hn : 107 ≤ n) (hi0 : i0 < 4) {r : Int32} (h : f_X6_has M i0 a1 = r) : CT l yX6_has cX6_has 2 (some .boolean) ({ frames := 0, cells := 0, slots := 0, locals := 0 } : Room) [.ref (φ (90 + i0)), .int (a1)] (WB (cX G φ) φ M n G) (some (.int r)) (WB (cX G φ) φ (M) n G) φ n := by
  unfold f_X6_has at h
  refine r_start (plainFor_of_name (by decide)) (Nat.le_of_ble_eq_true rfl) hI ?_
  intro p e s m args below meth c ls X hr hlk hP hl
  have hS : va_S (wA φ n s.heap.size) s.heap s.heap [] := va_S.rf
  have hx := X.1.1
  have hb := X.1.2.1
  have hl : lv_has ls 2 [(0, .ref (φ (90 + i0))), (1, .int (a1))] := hl
  refine lv_iload_n hx hb dX6_has_0 rfl (lv_at hl 1 rfl) ?_
  refine lv_if_lt (tgt := 16) hx hb dX6_has_1 (by decide) (fun c_1 => ?_) (fun c_1 => ?_)
  · rw [if_pos c_1] at h
    refine lv_iconst (v := 0) hx hb dX6_has_16 (by decide) ?_
    subst h
    exact W.zret (v := 0) (ty := .boolean) hx hb hr rfl (r_end X hP hS) hS.2.2 dX6_has_17 (hlocks := hlk)
  · rw [if_neg c_1] at h
    refine lv_iload_n hx hb dX6_has_4 rfl (lv_at hl 1 rfl) ?_
    refine lv_aload_n hx hb dX6_has_5 rfl (lv_at hl 0 rfl) ?_
    refine G_X6_19 X.1 hn hP hi0 dX6_has_6 ?_
    refine lv_icmp_ge (tgt := 16) hx hb dX6_has_9 (by decide) (fun c_2 => ?_) (fun c_2 => ?_)
    · rw [if_pos c_2] at h
      refine lv_iconst (v := 0) hx hb dX6_has_16 (by decide) ?_
      subst h
      exact W.zret (v := 0) (ty := .boolean) hx hb hr rfl (r_end X hP hS) hS.2.2 dX6_has_17 (hlocks := hlk)
    · rw [if_neg c_2] at h
      refine lv_iconst (v := 1) hx hb dX6_has_12 (by decide) ?_
      refine lv_goto (tgt := 17) hx hb dX6_has_13 (by decide) ?_
      subst h
      exact W.zret (v := 1) (ty := .boolean) hx hb hr rfl (r_end X hP hS) hS.2.2 dX6_has_17 (hlocks := hlk)

def f_X6_hasRun (M : Mem) (i0 : Nat) (a1 : Int32) (a2 : Int32) : Int32 :=
  (if a1 < 0 then 0 else (if a2 < 0 then 0 else (if ((M (90 + i0) 2) - a2) < a1 then 0 else 1)))
theorem bz_X6_hasRun (M : Mem) (i0 : Nat) (a1 : Int32) (a2 : Int32) : f_X6_hasRun M i0 a1 a2 = 0 ∨ f_X6_hasRun M i0 a1 a2 = 1 := by
  unfold f_X6_hasRun
  repeat' (first | exact Or.inl rfl | exact Or.inr rfl | split)
set_option maxRecDepth 100000 in
set_option maxHeartbeats 4000000 in
theorem c_X6_hasRun (l : Launch) {G : GT} {φ : Nat → Nat} {n : Nat} {M : Mem} {i0 : Nat} {a1 : Int32} {a2 : Int32} (hI : wI φ n) (hn : 107 ≤ n) (hi0 : i0 < 4) {r : Int32} (h : f_X6_hasRun M i0 a1 a2 = r) : CT l yX6_hasRun cX6_hasRun 3 (some .boolean) ({ frames := 0, cells := 0, slots := 0, locals := 0 } : Room) [.ref (φ (90 + i0)), .int (a1), .int (a2)] (WB (cX G φ) φ M n G) (some (.int r)) (WB (cX G φ) φ (M) n G) φ n := by
  unfold f_X6_hasRun at h
  refine r_start (plainFor_of_name (by decide)) (Nat.le_of_ble_eq_true rfl) hI ?_
  intro p e s m args below meth c ls X hr hlk hP hl
  have hS : va_S (wA φ n s.heap.size) s.heap s.heap [] := va_S.rf
  have hx := X.1.1
  have hb := X.1.2.1
  have hl : lv_has ls 3 [(0, .ref (φ (90 + i0))), (1, .int (a1)), (2, .int (a2))] := hl
  refine lv_iload_n hx hb dX6_hasRun_0 rfl (lv_at hl 1 rfl) ?_
  refine lv_if_lt (tgt := 22) hx hb dX6_hasRun_1 (by decide) (fun c_1 => ?_) (fun c_1 => ?_)
  · rw [if_pos c_1] at h
    refine lv_iconst (v := 0) hx hb dX6_hasRun_22 (by decide) ?_
    subst h
    exact W.zret (v := 0) (ty := .boolean) hx hb hr rfl (r_end X hP hS) hS.2.2 dX6_hasRun_23 (hlocks := hlk)
  · rw [if_neg c_1] at h
    refine lv_iload_n hx hb dX6_hasRun_4 rfl (lv_at hl 2 rfl) ?_
    refine lv_if_lt (tgt := 22) hx hb dX6_hasRun_5 (by decide) (fun c_2 => ?_) (fun c_2 => ?_)
    · rw [if_pos c_2] at h
      refine lv_iconst (v := 0) hx hb dX6_hasRun_22 (by decide) ?_
      subst h
      exact W.zret (v := 0) (ty := .boolean) hx hb hr rfl (r_end X hP hS) hS.2.2 dX6_hasRun_23 (hlocks := hlk)
    · rw [if_neg c_2] at h
      refine lv_iload_n hx hb dX6_hasRun_8 rfl (lv_at hl 1 rfl) ?_
      refine lv_aload_n hx hb dX6_hasRun_9 rfl (lv_at hl 0 rfl) ?_
      refine G_X6_19 X.1 hn hP hi0 dX6_hasRun_10 ?_
      refine lv_iload_n hx hb dX6_hasRun_13 rfl (lv_at hl 2 rfl) ?_
      refine lv_isub hx hb dX6_hasRun_14 ?_
      refine lv_icmp_gt (tgt := 22) hx hb dX6_hasRun_15 (by decide) (fun c_3 => ?_) (fun c_3 => ?_)
      · rw [if_pos c_3] at h
        refine lv_iconst (v := 0) hx hb dX6_hasRun_22 (by decide) ?_
        subst h
        exact W.zret (v := 0) (ty := .boolean) hx hb hr rfl (r_end X hP hS) hS.2.2 dX6_hasRun_23 (hlocks := hlk)
      · rw [if_neg c_3] at h
        refine lv_iconst (v := 1) hx hb dX6_hasRun_18 (by decide) ?_
        refine lv_goto (tgt := 23) hx hb dX6_hasRun_19 (by decide) ?_
        subst h
        exact W.zret (v := 1) (ty := .boolean) hx hb hr rfl (r_end X hP hS) hS.2.2 dX6_hasRun_23 (hlocks := hlk)

def f_X6_become (M : Mem) (i0 : Nat) (a1 : Int32) (a2 : Int32) : Option (Mem) :=
  (Option.bind (f_J7_fill_53178 (upd2 (upd2 M (90 + i0) 1 (a1)) (90 + i0) 2 (a2)) (94 + i0) 40 (0)) fun r_1 => some (r_1))
set_option maxRecDepth 100000 in
set_option maxHeartbeats 4000000 in
theorem c_X6_become (l : Launch) {G : GT} {φ : Nat → Nat} {n : Nat} {M : Mem} {i0 : Nat} {a1 : Int32} {a2 : Int32} (hI : wI φ n) (hn : 107 ≤ n) (hi0 : i0 < 4) {r : Mem} (h : f_X6_become M i0 a1 a2 = some r) : CT l yX6_become cX6_become 3 none ({ frames := 1, cells := 0, slots := 0, locals := 23 } : Room) [.ref (φ (90 + i0)), .int (a1), .int (a2)] (WB (cX G φ) φ M n G) (none) (WB (cX G φ) φ (r) n G) φ n := by
  unfold f_X6_become at h
  refine r_start (plainFor_of_name (by decide)) (Nat.le_of_ble_eq_true rfl) hI ?_
  intro p e s m args below meth c ls X hr hlk hP hl
  have hS : va_S (wA φ n s.heap.size) s.heap s.heap [] := va_S.rf
  have hx := X.1.1
  have hb := X.1.2.1
  have hl : lv_has ls 3 [(0, .ref (φ (90 + i0))), (1, .int (a1)), (2, .int (a2))] := hl
  refine lv_aload_n hx hb dX6_become_0 rfl (lv_at hl 0 rfl) ?_
  refine lv_iload_n hx hb dX6_become_1 rfl (lv_at hl 1 rfl) ?_
  refine P_X6_15 X.1 hn X.2.2.2.1 hP hS hi0 dX6_become_2 (fun H locs hP hS => ?_)
  refine lv_aload_n hx hb dX6_become_5 rfl (lv_at hl 0 rfl) ?_
  refine lv_iload_n hx hb dX6_become_6 rfl (lv_at hl 2 rfl) ?_
  refine P_X6_19 X.1 hn X.2.2.2.1 hP hS hi0 dX6_become_7 (fun H locs hP hS => ?_)
  refine lv_aload_n hx hb dX6_become_10 rfl (lv_at hl 0 rfl) ?_
  refine G_X6_9 X.1 hn hP hi0 dX6_become_11 ?_
  refine lv_iconst (v := 0) hx hb dX6_become_14 (by decide) ?_
  obtain ⟨r_1, hr_1, h⟩ := ob h
  refine c_S0 (As := [.ref (φ (94 + i0)), .int (0)]) (rest := []) X hl.1 (c_J7_fill_53178 l X.2.2.2.1.1 (by omega) (sX_cells hi0) hr_1) (w_X6_22) qw_684 ⟨Nat.le_of_ble_eq_true rfl, Nat.le_of_ble_eq_true rfl⟩ rfl rfl hP hS (Nat.le_of_ble_eq_true rfl) dX6_become_15 (fun H locs hP hS => ?_)
  obtain rfl := Option.some.inj h
  exact W.vret hx hb hr (r_end X hP hS) hS.2.2 dX6_become_18 (hlocks := hlk)

def f_X6_put (M : Mem) (i0 : Nat) (a1 : Int32) (a2 : Int32) : Option (Mem) :=
  (if (M (90 + i0) 1) = 0 then (if ibd (a1) 40 then some ((upd2 M (94 + i0) (Int32.toNatClampNeg (a1)) ((Int32.toInt8 (a2)).toInt32))) else none) else (if (M (90 + i0) 1) = 1 then (if ibd (a1) 40 then some ((upd2 M (94 + i0) (Int32.toNatClampNeg (a1)) ((Int32.toInt16 (a2)).toInt32))) else none) else (if ibd (a1) 40 then some ((upd2 M (94 + i0) (Int32.toNatClampNeg (a1)) (a2))) else none)))
set_option maxRecDepth 100000 in
set_option maxHeartbeats 4000000 in
theorem c_X6_put (l : Launch) {G : GT} {φ : Nat → Nat} {n : Nat} {M : Mem} {i0 : Nat} {a1 : Int32} {a2 : Int32} (hI : wI φ n) (hn : 107 ≤ n) (hi0 : i0 < 4) {r : Mem} (h : f_X6_put M i0 a1 a2 = some r) : CT l yX6_put cX6_put 3 none ({ frames := 0, cells := 0, slots := 0, locals := 0 } : Room) [.ref (φ (90 + i0)), .int (a1), .int (a2)] (WB (cX G φ) φ M n G) (none) (WB (cX G φ) φ (r) n G) φ n := by
  unfold f_X6_put at h
  refine r_start (plainFor_of_name (by decide)) (Nat.le_of_ble_eq_true rfl) hI ?_
  intro p e s m args below meth c ls X hr hlk hP hl
  have hS : va_S (wA φ n s.heap.size) s.heap s.heap [] := va_S.rf
  have hx := X.1.1
  have hb := X.1.2.1
  have hl : lv_has ls 3 [(0, .ref (φ (90 + i0))), (1, .int (a1)), (2, .int (a2))] := hl
  refine lv_aload_n hx hb dX6_put_0 rfl (lv_at hl 0 rfl) ?_
  refine G_X6_15 X.1 hn hP hi0 dX6_put_1 ?_
  by_cases c_1 : (M (90 + i0) 1) = 0
  · rw [if_pos c_1] at h
    refine lv_lookup (tgt := 32) (off := 28) hx hb dX6_put_4 (by decide) (by rw [c_1]; decide) (by decide) ?_
    refine lv_aload_n hx hb dX6_put_32 rfl (lv_at hl 0 rfl) ?_
    refine G_X6_9 X.1 hn hP hi0 dX6_put_33 ?_
    refine lv_iload_n hx hb dX6_put_36 rfl (lv_at hl 1 rfl) ?_
    refine lv_iload_n hx hb dX6_put_37 rfl (lv_at hl 2 rfl) ?_
    refine lv_i2b hx hb dX6_put_38 rfl ?_
    obtain ⟨c_2, h⟩ := og h
    refine r_iast (k := (Int32.toNatClampNeg (a1))) X.1 X.2.2.2.1 hP hS (by omega) (sX_cells hi0) rfl (vin c_2) dX6_put_39 (fun H locs hP hS => ?_)
    refine lv_goto (tgt := 61) hx hb dX6_put_40 (by decide) ?_
    obtain rfl := Option.some.inj h
    exact W.vret hx hb hr (r_end X hP hS) hS.2.2 dX6_put_61 (hlocks := hlk)
  · rw [if_neg c_1] at h
    by_cases c_3 : (M (90 + i0) 1) = 1
    · rw [if_pos c_3] at h
      refine lv_lookup (tgt := 43) (off := 39) hx hb dX6_put_4 (by decide) (by rw [c_3]; decide) (by decide) ?_
      refine lv_aload_n hx hb dX6_put_43 rfl (lv_at hl 0 rfl) ?_
      refine G_X6_9 X.1 hn hP hi0 dX6_put_44 ?_
      refine lv_iload_n hx hb dX6_put_47 rfl (lv_at hl 1 rfl) ?_
      refine lv_iload_n hx hb dX6_put_48 rfl (lv_at hl 2 rfl) ?_
      refine lv_i2s hx hb dX6_put_49 rfl ?_
      obtain ⟨c_4, h⟩ := og h
      refine r_iast (k := (Int32.toNatClampNeg (a1))) X.1 X.2.2.2.1 hP hS (by omega) (sX_cells hi0) rfl (vin c_4) dX6_put_50 (fun H locs hP hS => ?_)
      refine lv_goto (tgt := 61) hx hb dX6_put_51 (by decide) ?_
      obtain rfl := Option.some.inj h
      exact W.vret hx hb hr (r_end X hP hS) hS.2.2 dX6_put_61 (hlocks := hlk)
    · rw [if_neg c_3] at h
      have kc_1 : ¬ (0 : Int) = Int32.toInt ((M (90 + i0) 1)) := fun q => c_1 (Int32.toInt_inj.mp q.symm)
      have kc_3 : ¬ (1 : Int) = Int32.toInt ((M (90 + i0) 1)) := fun q => c_3 (Int32.toInt_inj.mp q.symm)
      refine lv_lookup (tgt := 54) (off := 50) hx hb dX6_put_4 (by decide) (by simp [Op.lookupswitch.offset, kc_1, kc_3]) (by decide) ?_
      refine lv_aload_n hx hb dX6_put_54 rfl (lv_at hl 0 rfl) ?_
      refine G_X6_9 X.1 hn hP hi0 dX6_put_55 ?_
      refine lv_iload_n hx hb dX6_put_58 rfl (lv_at hl 1 rfl) ?_
      refine lv_iload_n hx hb dX6_put_59 rfl (lv_at hl 2 rfl) ?_
      obtain ⟨c_5, h⟩ := og h
      refine r_iast (k := (Int32.toNatClampNeg (a1))) X.1 X.2.2.2.1 hP hS (by omega) (sX_cells hi0) rfl (vin c_5) dX6_put_60 (fun H locs hP hS => ?_)
      obtain rfl := Option.some.inj h
      exact W.vret hx hb hr (r_end X hP hS) hS.2.2 dX6_put_61 (hlocks := hlk)

def f_X7_highOf (a1 : Int32) (a2 : Int32) : Option (Int32) :=
  (if Int32.toInt (a1) < 2 ∨ 5 < Int32.toInt (a1) then some (0) else (if a1 = 2 then some (1) else (if a1 = 3 then some ((a2 / 3)) else (if a1 = 4 then some (4) else (if a1 = 5 then some ((f_J9_max_7cf53 (0) (((a2 / 3) - 2)))) else none)))))
set_option maxRecDepth 100000 in
set_option maxHeartbeats 4000000 in
theorem c_X7_highOf (l : Launch) {G : GT} {φ : Nat → Nat} {n : Nat} {M : Mem} {a1 : Int32} {a2 : Int32} (hI : wI φ n) (hn : 107 ≤ n) {r : Int32} (h : f_X7_highOf a1 a2 = some r) : CT l yX7_highOf cX7_highOf 2 (some .int) ({ frames := 1, cells := 0, slots := 0, locals := 21 } : Room) [.int (a1), .int (a2)] (WB (cX G φ) φ M n G) (some (.int r)) (WB (cX G φ) φ (M) n G) φ n := by
  unfold f_X7_highOf at h
  refine r_start (plainFor_of_name (by decide)) (Nat.le_of_ble_eq_true rfl) hI ?_
  intro p e s m args below meth c ls X hr hlk hP hl
  have hS : va_S (wA φ n s.heap.size) s.heap s.heap [] := va_S.rf
  have hx := X.1.1
  have hb := X.1.2.1
  have hl : lv_has ls 2 [(0, .int (a1)), (1, .int (a2))] := hl
  refine lv_iload_n hx hb dX7_highOf_0 rfl (lv_at hl 0 rfl) ?_
  by_cases c_1 : Int32.toInt (a1) < 2 ∨ 5 < Int32.toInt (a1)
  · rw [if_pos c_1] at h
    refine lv_tableOut (tgt := 50) hx hb dX7_highOf_1 c_1 (by decide) ?_
    refine lv_iconst (v := 0) hx hb dX7_highOf_50 (by decide) ?_
    obtain rfl := Option.some.inj h
    exact W.iret hx hb hr (r_end X hP hS) hS.2.2 dX7_highOf_51 (hlocks := hlk)
  · rw [if_neg c_1] at h
    by_cases c_2 : a1 = 2
    · rw [if_pos c_2] at h
      refine lv_tableIn (tgt := 32) (off := 31) hx hb dX7_highOf_1 (fun q => c_1 (Or.inl q)) (fun q => c_1 (Or.inr q)) (by rw [c_2]; rfl) (by decide) ?_
      refine lv_iconst (v := 1) hx hb dX7_highOf_32 (by decide) ?_
      obtain rfl := Option.some.inj h
      exact W.iret hx hb hr (r_end X hP hS) hS.2.2 dX7_highOf_33 (hlocks := hlk)
    · rw [if_neg c_2] at h
      by_cases c_3 : a1 = 3
      · rw [if_pos c_3] at h
        refine lv_tableIn (tgt := 34) (off := 33) hx hb dX7_highOf_1 (fun q => c_1 (Or.inl q)) (fun q => c_1 (Or.inr q)) (by rw [c_3]; rfl) (by decide) ?_
        refine lv_iload_n hx hb dX7_highOf_34 rfl (lv_at hl 1 rfl) ?_
        refine lv_iconst (v := 3) hx hb dX7_highOf_35 (by decide) ?_
        refine lv_idiv hx hb dX7_highOf_36 (by decide) ?_
        obtain rfl := Option.some.inj h
        exact W.iret hx hb hr (r_end X hP hS) hS.2.2 dX7_highOf_37 (hlocks := hlk)
      · rw [if_neg c_3] at h
        by_cases c_4 : a1 = 4
        · rw [if_pos c_4] at h
          refine lv_tableIn (tgt := 38) (off := 37) hx hb dX7_highOf_1 (fun q => c_1 (Or.inl q)) (fun q => c_1 (Or.inr q)) (by rw [c_4]; rfl) (by decide) ?_
          refine lv_iconst (v := 4) hx hb dX7_highOf_38 (by decide) ?_
          obtain rfl := Option.some.inj h
          exact W.iret hx hb hr (r_end X hP hS) hS.2.2 dX7_highOf_39 (hlocks := hlk)
        · rw [if_neg c_4] at h
          by_cases c_5 : a1 = 5
          · rw [if_pos c_5] at h
            refine lv_tableIn (tgt := 40) (off := 39) hx hb dX7_highOf_1 (fun q => c_1 (Or.inl q)) (fun q => c_1 (Or.inr q)) (by rw [c_5]; rfl) (by decide) ?_
            refine lv_iconst (v := 0) hx hb dX7_highOf_40 (by decide) ?_
            refine lv_iload_n hx hb dX7_highOf_41 rfl (lv_at hl 1 rfl) ?_
            refine lv_iconst (v := 3) hx hb dX7_highOf_42 (by decide) ?_
            refine lv_idiv hx hb dX7_highOf_43 (by decide) ?_
            refine lv_iconst (v := 2) hx hb dX7_highOf_44 (by decide) ?_
            refine lv_isub hx hb dX7_highOf_45 ?_
            refine c_S0 (As := [.int (0), .int (((a2 / 3) - 2))]) (rest := []) X hl.1 (c_J9_max_7cf53 l X.2.2.2.1.1 rfl) (w_X7_54) qw_624 ⟨Nat.le_of_ble_eq_true rfl, Nat.le_of_ble_eq_true rfl⟩ rfl rfl hP hS (Nat.le_of_ble_eq_true rfl) dX7_highOf_46 (fun H locs hP hS => ?_)
            obtain rfl := Option.some.inj h
            exact W.iret hx hb hr (r_end X hP hS) hS.2.2 dX7_highOf_49 (hlocks := hlk)
          · rw [if_neg c_5] at h
            cases h

def f_X7_lastsOf (a1 : Int32) (a2 : Int32) : Option (Int32) :=
  (if Int32.toInt (a1) < 1 ∨ 5 < Int32.toInt (a1) then some (12) else (if a1 = 1 then some ((12 + a2)) else (if a1 = 2 then some (24) else (if a1 = 3 then some (((12 + a2) / 2)) else (if a1 = 4 then some ((24 + a2)) else (if a1 = 5 then some (((12 + a2) / 2)) else none))))))
set_option maxRecDepth 100000 in
set_option maxHeartbeats 4000000 in
theorem c_X7_lastsOf (l : Launch) {G : GT} {φ : Nat → Nat} {n : Nat} {M : Mem} {a1 : Int32} {a2 : Int32} (hI : wI φ n) (hn : 107 ≤ n) {r : Int32} (h : f_X7_lastsOf a1 a2 = some r) : CT l yX7_lastsOf cX7_lastsOf 2 (some .int) ({ frames := 0, cells := 0, slots := 0, locals := 0 } : Room) [.int (a1), .int (a2)] (WB (cX G φ) φ M n G) (some (.int r)) (WB (cX G φ) φ (M) n G) φ n := by
  unfold f_X7_lastsOf at h
  refine r_start (plainFor_of_name (by decide)) (Nat.le_of_ble_eq_true rfl) hI ?_
  intro p e s m args below meth c ls X hr hlk hP hl
  have hS : va_S (wA φ n s.heap.size) s.heap s.heap [] := va_S.rf
  have hx := X.1.1
  have hb := X.1.2.1
  have hl : lv_has ls 2 [(0, .int (a1)), (1, .int (a2))] := hl
  refine lv_iload_n hx hb dX7_lastsOf_0 rfl (lv_at hl 0 rfl) ?_
  by_cases c_1 : Int32.toInt (a1) < 1 ∨ 5 < Int32.toInt (a1)
  · rw [if_pos c_1] at h
    refine lv_tableOut (tgt := 56) hx hb dX7_lastsOf_1 c_1 (by decide) ?_
    refine lv_bipush (v := 12) hx hb dX7_lastsOf_56 (by decide) ?_
    obtain rfl := Option.some.inj h
    exact W.iret hx hb hr (r_end X hP hS) hS.2.2 dX7_lastsOf_58 (hlocks := hlk)
  · rw [if_neg c_1] at h
    by_cases c_2 : a1 = 1
    · rw [if_pos c_2] at h
      refine lv_tableIn (tgt := 36) (off := 35) hx hb dX7_lastsOf_1 (fun q => c_1 (Or.inl q)) (fun q => c_1 (Or.inr q)) (by rw [c_2]; rfl) (by decide) ?_
      refine lv_bipush (v := 12) hx hb dX7_lastsOf_36 (by decide) ?_
      refine lv_iload_n hx hb dX7_lastsOf_38 rfl (lv_at hl 1 rfl) ?_
      refine lv_iadd hx hb dX7_lastsOf_39 ?_
      obtain rfl := Option.some.inj h
      exact W.iret hx hb hr (r_end X hP hS) hS.2.2 dX7_lastsOf_40 (hlocks := hlk)
    · rw [if_neg c_2] at h
      by_cases c_3 : a1 = 2
      · rw [if_pos c_3] at h
        refine lv_tableIn (tgt := 41) (off := 40) hx hb dX7_lastsOf_1 (fun q => c_1 (Or.inl q)) (fun q => c_1 (Or.inr q)) (by rw [c_3]; rfl) (by decide) ?_
        refine lv_bipush (v := 24) hx hb dX7_lastsOf_41 (by decide) ?_
        obtain rfl := Option.some.inj h
        exact W.iret hx hb hr (r_end X hP hS) hS.2.2 dX7_lastsOf_43 (hlocks := hlk)
      · rw [if_neg c_3] at h
        by_cases c_4 : a1 = 3
        · rw [if_pos c_4] at h
          refine lv_tableIn (tgt := 44) (off := 43) hx hb dX7_lastsOf_1 (fun q => c_1 (Or.inl q)) (fun q => c_1 (Or.inr q)) (by rw [c_4]; rfl) (by decide) ?_
          refine lv_bipush (v := 12) hx hb dX7_lastsOf_44 (by decide) ?_
          refine lv_iload_n hx hb dX7_lastsOf_46 rfl (lv_at hl 1 rfl) ?_
          refine lv_iadd hx hb dX7_lastsOf_47 ?_
          refine lv_iconst (v := 2) hx hb dX7_lastsOf_48 (by decide) ?_
          refine lv_idiv hx hb dX7_lastsOf_49 (by decide) ?_
          obtain rfl := Option.some.inj h
          exact W.iret hx hb hr (r_end X hP hS) hS.2.2 dX7_lastsOf_50 (hlocks := hlk)
        · rw [if_neg c_4] at h
          by_cases c_5 : a1 = 4
          · rw [if_pos c_5] at h
            refine lv_tableIn (tgt := 51) (off := 50) hx hb dX7_lastsOf_1 (fun q => c_1 (Or.inl q)) (fun q => c_1 (Or.inr q)) (by rw [c_5]; rfl) (by decide) ?_
            refine lv_bipush (v := 24) hx hb dX7_lastsOf_51 (by decide) ?_
            refine lv_iload_n hx hb dX7_lastsOf_53 rfl (lv_at hl 1 rfl) ?_
            refine lv_iadd hx hb dX7_lastsOf_54 ?_
            obtain rfl := Option.some.inj h
            exact W.iret hx hb hr (r_end X hP hS) hS.2.2 dX7_lastsOf_55 (hlocks := hlk)
          · rw [if_neg c_5] at h
            by_cases c_6 : a1 = 5
            · rw [if_pos c_6] at h
              refine lv_tableIn (tgt := 44) (off := 43) hx hb dX7_lastsOf_1 (fun q => c_1 (Or.inl q)) (fun q => c_1 (Or.inr q)) (by rw [c_6]; rfl) (by decide) ?_
              refine lv_bipush (v := 12) hx hb dX7_lastsOf_44 (by decide) ?_
              refine lv_iload_n hx hb dX7_lastsOf_46 rfl (lv_at hl 1 rfl) ?_
              refine lv_iadd hx hb dX7_lastsOf_47 ?_
              refine lv_iconst (v := 2) hx hb dX7_lastsOf_48 (by decide) ?_
              refine lv_idiv hx hb dX7_lastsOf_49 (by decide) ?_
              obtain rfl := Option.some.inj h
              exact W.iret hx hb hr (r_end X hP hS) hS.2.2 dX7_lastsOf_50 (hlocks := hlk)
            · rw [if_neg c_6] at h
              cases h

def f_X7_asksOf (a1 : Int32) : Int32 :=
  (if a1 = 2 then 1 else (if a1 = 4 then 2 else 0))
set_option maxRecDepth 100000 in
set_option maxHeartbeats 4000000 in
theorem c_X7_asksOf (l : Launch) {G : GT} {φ : Nat → Nat} {n : Nat} {M : Mem} {a1 : Int32} (hI : wI φ n) (hn : 107 ≤ n) {r : Int32} (h : f_X7_asksOf a1 = r) : CT l yX7_asksOf cX7_asksOf 1 (some .int) ({ frames := 0, cells := 0, slots := 0, locals := 0 } : Room) [.int (a1)] (WB (cX G φ) φ M n G) (some (.int r)) (WB (cX G φ) φ (M) n G) φ n := by
  unfold f_X7_asksOf at h
  refine r_start (plainFor_of_name (by decide)) (Nat.le_of_ble_eq_true rfl) hI ?_
  intro p e s m args below meth c ls X hr hlk hP hl
  have hS : va_S (wA φ n s.heap.size) s.heap s.heap [] := va_S.rf
  have hx := X.1.1
  have hb := X.1.2.1
  have hl : lv_has ls 1 [(0, .int (a1))] := hl
  refine lv_iload_n hx hb dX7_asksOf_0 rfl (lv_at hl 0 rfl) ?_
  by_cases c_1 : a1 = 2
  · rw [if_pos c_1] at h
    refine lv_lookup (tgt := 28) (off := 27) hx hb dX7_asksOf_1 (by decide) (by rw [c_1]; decide) (by decide) ?_
    refine lv_iconst (v := 1) hx hb dX7_asksOf_28 (by decide) ?_
    subst h
    exact W.iret hx hb hr (r_end X hP hS) hS.2.2 dX7_asksOf_29 (hlocks := hlk)
  · rw [if_neg c_1] at h
    by_cases c_2 : a1 = 4
    · rw [if_pos c_2] at h
      refine lv_lookup (tgt := 30) (off := 29) hx hb dX7_asksOf_1 (by decide) (by rw [c_2]; decide) (by decide) ?_
      refine lv_iconst (v := 2) hx hb dX7_asksOf_30 (by decide) ?_
      subst h
      exact W.iret hx hb hr (r_end X hP hS) hS.2.2 dX7_asksOf_31 (hlocks := hlk)
    · rw [if_neg c_2] at h
      have kc_1 : ¬ (2 : Int) = Int32.toInt (a1) := fun q => c_1 (Int32.toInt_inj.mp q.symm)
      have kc_2 : ¬ (4 : Int) = Int32.toInt (a1) := fun q => c_2 (Int32.toInt_inj.mp q.symm)
      refine lv_lookup (tgt := 32) (off := 31) hx hb dX7_asksOf_1 (by decide) (by simp [Op.lookupswitch.offset, kc_1, kc_2]) (by decide) ?_
      refine lv_iconst (v := 0) hx hb dX7_asksOf_32 (by decide) ?_
      subst h
      exact W.iret hx hb hr (r_end X hP hS) hS.2.2 dX7_asksOf_33 (hlocks := hlk)

def f_X7_tellsOf (a1 : Int32) : Option (Int32) :=
  (if Int32.toInt (a1) < 1 ∨ 5 < Int32.toInt (a1) then some (0) else (if a1 = 1 then some (1) else (if a1 = 2 then some (0) else (if a1 = 3 then some (2) else (if a1 = 4 then some (0) else (if a1 = 5 then some (2) else none))))))
set_option maxRecDepth 100000 in
set_option maxHeartbeats 4000000 in
theorem c_X7_tellsOf (l : Launch) {G : GT} {φ : Nat → Nat} {n : Nat} {M : Mem} {a1 : Int32} (hI : wI φ n) (hn : 107 ≤ n) {r : Int32} (h : f_X7_tellsOf a1 = some r) : CT l yX7_tellsOf cX7_tellsOf 1 (some .int) ({ frames := 0, cells := 0, slots := 0, locals := 0 } : Room) [.int (a1)] (WB (cX G φ) φ M n G) (some (.int r)) (WB (cX G φ) φ (M) n G) φ n := by
  unfold f_X7_tellsOf at h
  refine r_start (plainFor_of_name (by decide)) (Nat.le_of_ble_eq_true rfl) hI ?_
  intro p e s m args below meth c ls X hr hlk hP hl
  have hS : va_S (wA φ n s.heap.size) s.heap s.heap [] := va_S.rf
  have hx := X.1.1
  have hb := X.1.2.1
  have hl : lv_has ls 1 [(0, .int (a1))] := hl
  refine lv_iload_n hx hb dX7_tellsOf_0 rfl (lv_at hl 0 rfl) ?_
  by_cases c_1 : Int32.toInt (a1) < 1 ∨ 5 < Int32.toInt (a1)
  · rw [if_pos c_1] at h
    refine lv_tableOut (tgt := 40) hx hb dX7_tellsOf_1 c_1 (by decide) ?_
    refine lv_iconst (v := 0) hx hb dX7_tellsOf_40 (by decide) ?_
    obtain rfl := Option.some.inj h
    exact W.iret hx hb hr (r_end X hP hS) hS.2.2 dX7_tellsOf_41 (hlocks := hlk)
  · rw [if_neg c_1] at h
    by_cases c_2 : a1 = 1
    · rw [if_pos c_2] at h
      refine lv_tableIn (tgt := 36) (off := 35) hx hb dX7_tellsOf_1 (fun q => c_1 (Or.inl q)) (fun q => c_1 (Or.inr q)) (by rw [c_2]; rfl) (by decide) ?_
      refine lv_iconst (v := 1) hx hb dX7_tellsOf_36 (by decide) ?_
      obtain rfl := Option.some.inj h
      exact W.iret hx hb hr (r_end X hP hS) hS.2.2 dX7_tellsOf_37 (hlocks := hlk)
    · rw [if_neg c_2] at h
      by_cases c_3 : a1 = 2
      · rw [if_pos c_3] at h
        refine lv_tableIn (tgt := 40) (off := 39) hx hb dX7_tellsOf_1 (fun q => c_1 (Or.inl q)) (fun q => c_1 (Or.inr q)) (by rw [c_3]; rfl) (by decide) ?_
        refine lv_iconst (v := 0) hx hb dX7_tellsOf_40 (by decide) ?_
        obtain rfl := Option.some.inj h
        exact W.iret hx hb hr (r_end X hP hS) hS.2.2 dX7_tellsOf_41 (hlocks := hlk)
      · rw [if_neg c_3] at h
        by_cases c_4 : a1 = 3
        · rw [if_pos c_4] at h
          refine lv_tableIn (tgt := 38) (off := 37) hx hb dX7_tellsOf_1 (fun q => c_1 (Or.inl q)) (fun q => c_1 (Or.inr q)) (by rw [c_4]; rfl) (by decide) ?_
          refine lv_iconst (v := 2) hx hb dX7_tellsOf_38 (by decide) ?_
          obtain rfl := Option.some.inj h
          exact W.iret hx hb hr (r_end X hP hS) hS.2.2 dX7_tellsOf_39 (hlocks := hlk)
        · rw [if_neg c_4] at h
          by_cases c_5 : a1 = 4
          · rw [if_pos c_5] at h
            refine lv_tableIn (tgt := 40) (off := 39) hx hb dX7_tellsOf_1 (fun q => c_1 (Or.inl q)) (fun q => c_1 (Or.inr q)) (by rw [c_5]; rfl) (by decide) ?_
            refine lv_iconst (v := 0) hx hb dX7_tellsOf_40 (by decide) ?_
            obtain rfl := Option.some.inj h
            exact W.iret hx hb hr (r_end X hP hS) hS.2.2 dX7_tellsOf_41 (hlocks := hlk)
          · rw [if_neg c_5] at h
            by_cases c_6 : a1 = 5
            · rw [if_pos c_6] at h
              refine lv_tableIn (tgt := 38) (off := 37) hx hb dX7_tellsOf_1 (fun q => c_1 (Or.inl q)) (fun q => c_1 (Or.inr q)) (by rw [c_6]; rfl) (by decide) ?_
              refine lv_iconst (v := 2) hx hb dX7_tellsOf_38 (by decide) ?_
              obtain rfl := Option.some.inj h
              exact W.iret hx hb hr (r_end X hP hS) hS.2.2 dX7_tellsOf_39 (hlocks := hlk)
            · rw [if_neg c_6] at h
              cases h

def f_X7_become (M : Mem) (i0 : Nat) (a1 : Int32) (a2 : Int32) (a3 : Int32) (a4 : Int32) : Option (Mem) :=
  (Option.bind (f_X7_highOf (a1) (a4)) fun r_1 => (Option.bind (f_X7_lastsOf (a1) (a4)) fun r_2 => (Option.bind (f_X7_tellsOf (a1)) fun r_3 => some ((upd2 (upd2 (upd2 (upd2 (upd2 (upd2 (upd2 (upd2 M (30 + i0) 0 (a1)) (30 + i0) 1 (a2)) (30 + i0) 2 (a3)) (30 + i0) 3 (a4)) (30 + i0) 4 (r_1)) (30 + i0) 5 (r_2)) (30 + i0) 6 ((f_X7_asksOf (a1)))) (30 + i0) 7 (r_3))))))
set_option maxRecDepth 100000 in
set_option maxHeartbeats 4000000 in
theorem c_X7_become (l : Launch) {G : GT} {φ : Nat → Nat} {n : Nat} {M : Mem} {i0 : Nat} {a1 : Int32} {a2 : Int32} {a3 : Int32} {a4 : Int32} (hI : wI φ n) (hn : 107 ≤ n) (hi0 : i0 < 10) {r : Mem} (h : f_X7_become M i0 a1 a2 a3 a4 = some r) : CT l yX7_become cX7_become 5 none ({ frames := 2, cells := 0, slots := 0, locals := 42 } : Room) [.ref (φ (30 + i0)), .int (a1), .int (a2), .int (a3), .int (a4)] (WB (cX G φ) φ M n G) (none) (WB (cX G φ) φ (r) n G) φ n := by
  unfold f_X7_become at h
  refine r_start (plainFor_of_name (by decide)) (Nat.le_of_ble_eq_true rfl) hI ?_
  intro p e s m args below meth c ls X hr hlk hP hl
  have hS : va_S (wA φ n s.heap.size) s.heap s.heap [] := va_S.rf
  have hx := X.1.1
  have hb := X.1.2.1
  have hl : lv_has ls 5 [(0, .ref (φ (30 + i0))), (1, .int (a1)), (2, .int (a2)), (3, .int (a3)), (4, .int (a4))] := hl
  refine lv_aload_n hx hb dX7_become_0 rfl (lv_at hl 0 rfl) ?_
  refine lv_iload_n hx hb dX7_become_1 rfl (lv_at hl 1 rfl) ?_
  refine P_X7_9 X.1 hn X.2.2.2.1 hP hS hi0 dX7_become_2 (fun H locs hP hS => ?_)
  refine lv_aload_n hx hb dX7_become_5 rfl (lv_at hl 0 rfl) ?_
  refine lv_iload_n hx hb dX7_become_6 rfl (lv_at hl 2 rfl) ?_
  refine P_X7_15 X.1 hn X.2.2.2.1 hP hS hi0 dX7_become_7 (fun H locs hP hS => ?_)
  refine lv_aload_n hx hb dX7_become_10 rfl (lv_at hl 0 rfl) ?_
  refine lv_iload_n hx hb dX7_become_11 rfl (lv_at hl 3 rfl) ?_
  refine P_X7_18 X.1 hn X.2.2.2.1 hP hS hi0 dX7_become_12 (fun H locs hP hS => ?_)
  refine lv_aload_n hx hb dX7_become_15 rfl (lv_at hl 0 rfl) ?_
  refine lv_iload hx hb dX7_become_16 (lv_at hl 4 rfl) ?_
  refine P_X7_21 X.1 hn X.2.2.2.1 hP hS hi0 dX7_become_18 (fun H locs hP hS => ?_)
  refine lv_aload_n hx hb dX7_become_21 rfl (lv_at hl 0 rfl) ?_
  refine lv_iload_n hx hb dX7_become_22 rfl (lv_at hl 1 rfl) ?_
  refine lv_iload hx hb dX7_become_23 (lv_at hl 4 rfl) ?_
  obtain ⟨r_1, hr_1, h⟩ := ob h
  refine c_S0 (As := [.int (a1), .int (a4)]) (rest := [.ref (φ (30 + i0))]) X hl.1 (c_X7_highOf l X.2.2.2.1.1 hn hr_1) (w_X7_24) qw_621 ⟨Nat.le_of_ble_eq_true rfl, Nat.le_of_ble_eq_true rfl⟩ rfl rfl hP hS (Nat.le_of_ble_eq_true rfl) dX7_become_25 (fun H locs hP hS => ?_)
  refine P_X7_28 X.1 hn X.2.2.2.1 hP hS hi0 dX7_become_28 (fun H locs hP hS => ?_)
  refine lv_aload_n hx hb dX7_become_31 rfl (lv_at hl 0 rfl) ?_
  refine lv_iload_n hx hb dX7_become_32 rfl (lv_at hl 1 rfl) ?_
  refine lv_iload hx hb dX7_become_33 (lv_at hl 4 rfl) ?_
  obtain ⟨r_2, hr_2, h⟩ := ob h
  refine c_S0 (As := [.int (a1), .int (a4)]) (rest := [.ref (φ (30 + i0))]) X hl.1 (c_X7_lastsOf l X.2.2.2.1.1 hn hr_2) (w_X7_31) qw_627 ⟨Nat.le_of_ble_eq_true rfl, Nat.le_of_ble_eq_true rfl⟩ rfl rfl hP hS (Nat.le_of_ble_eq_true rfl) dX7_become_35 (fun H locs hP hS => ?_)
  refine P_X7_34 X.1 hn X.2.2.2.1 hP hS hi0 dX7_become_38 (fun H locs hP hS => ?_)
  refine lv_aload_n hx hb dX7_become_41 rfl (lv_at hl 0 rfl) ?_
  refine lv_iload_n hx hb dX7_become_42 rfl (lv_at hl 1 rfl) ?_
  refine c_S0 (As := [.int (a1)]) (rest := [.ref (φ (30 + i0))]) X hl.1 (c_X7_asksOf l X.2.2.2.1.1 hn rfl) (w_X7_37) qw_630 ⟨Nat.le_of_ble_eq_true rfl, Nat.le_of_ble_eq_true rfl⟩ rfl rfl hP hS (Nat.le_of_ble_eq_true rfl) dX7_become_43 (fun H locs hP hS => ?_)
  refine P_X7_41 X.1 hn X.2.2.2.1 hP hS hi0 dX7_become_46 (fun H locs hP hS => ?_)
  refine lv_aload_n hx hb dX7_become_49 rfl (lv_at hl 0 rfl) ?_
  refine lv_iload_n hx hb dX7_become_50 rfl (lv_at hl 1 rfl) ?_
  obtain ⟨r_3, hr_3, h⟩ := ob h
  refine c_S0 (As := [.int (a1)]) (rest := [.ref (φ (30 + i0))]) X hl.1 (c_X7_tellsOf l X.2.2.2.1.1 hn hr_3) (w_X7_44) qw_633 ⟨Nat.le_of_ble_eq_true rfl, Nat.le_of_ble_eq_true rfl⟩ rfl rfl hP hS (Nat.le_of_ble_eq_true rfl) dX7_become_51 (fun H locs hP hS => ?_)
  refine P_X7_47 X.1 hn X.2.2.2.1 hP hS hi0 dX7_become_54 (fun H locs hP hS => ?_)
  obtain rfl := Option.some.inj h
  exact W.vret hx hb hr (r_end X hP hS) hS.2.2 dX7_become_57 (hlocks := hlk)

def f_X7_isUnder_7 (M : Mem) (i0 : Nat) (x1_1 : Int32) : Nat → Int32 → Int32 → Option (Int32)
  | 0, _, _ => none
  | fu_4 + 1, x2_2, x3_3 => (if 6 ≤ x3_3 then some (0) else (if x2_2 = (-1) then some (0) else (if x2_2 = x1_1 then some (1) else (if ibd (x2_2) 6 then (f_X7_isUnder_7 M i0 x1_1 fu_4 ((([-1, 0, 0, 1, 2, 3] : List Int32).getD (Int32.toNatClampNeg (x2_2)) 0)) ((x3_3 + 1))) else none))))
def f_X7_isUnder (M : Mem) (i0 : Nat) (a1 : Int32) : Option (Int32) :=
  (f_X7_isUnder_7 M i0 (a1) FU ((M (30 + i0) 0)) (0))
set_option maxRecDepth 100000 in
set_option maxHeartbeats 4000000 in
theorem c_X7_isUnder (l : Launch) {G : GT} {φ : Nat → Nat} {n : Nat} {M : Mem} {i0 : Nat} {a1 : Int32} (hI : wI φ n) (hn : 107 ≤ n) (hi0 : i0 < 10) {r : Int32} (h : f_X7_isUnder M i0 a1 = some r) : CT l yX7_isUnder cX7_isUnder 4 (some .boolean) ({ frames := 0, cells := 0, slots := 0, locals := 0 } : Room) [.ref (φ (30 + i0)), .int (a1)] (WB (cX G φ) φ M n G) (some (.int r)) (WB (cX G φ) φ (M) n G) φ n := by
  unfold f_X7_isUnder at h
  refine r_start (plainFor_of_name (by decide)) (Nat.le_of_ble_eq_true rfl) hI ?_
  intro p e s m args below meth c ls X hr hlk hP hl
  have hS : va_S (wA φ n s.heap.size) s.heap s.heap [] := va_S.rf
  have hx := X.1.1
  have hb := X.1.2.1
  have hl : lv_has ls 4 [(0, .ref (φ (30 + i0))), (1, .int (a1))] := hl
  have L7 : ∀ (fu_4 : Nat) (x1_1 : Int32) (x2_2 : Int32) (x3_3 : Int32)  (H : Heap) (locs : List Loc) (ls : Array Slot), va_P G.1 vwCl (wW (cX G φ) φ M n) H → va_S (wA φ n s.heap.size) s.heap H locs → lv_has ls 4 [(1, .int (x1_1)), (2, .int (x2_2)), (3, .int (x3_3))] → f_X7_isUnder_7 M i0 x1_1 fu_4 x2_2 x3_3 = some r → W p l e ({ frames := 0, cells := 0, slots := 0, locals := 0 } : Room) s m args below meth c H locs 0 0 (MQ below (QQ (some (.int r)) (WB (cX G φ) φ (M) n G) (wA φ n s.heap.size)) args s 0 0 (wA φ n s.heap.size)) (F0 m 7 ls []) := by
    intro fu_4
    induction fu_4 with
    | zero =>
      intro x1_1 x2_2 x3_3 H locs ls _ _ _  h
      have h : (none : Option (Int32)) = some r := h
      cases h
    | succ fu_4 ih =>
      intro x1_1 x2_2 x3_3 H locs ls hP hS hl  h
      rw [f_X7_isUnder_7] at h
      refine lv_iload_n hx hb dX7_isUnder_7 rfl (lv_at hl 2 rfl) ?_
      refine lv_bipush (v := 6) hx hb dX7_isUnder_8 (by decide) ?_
      refine lv_icmp_ge (tgt := 37) hx hb dX7_isUnder_10 (by decide) (fun c_5 => ?_) (fun c_5 => ?_)
      · rw [if_pos c_5] at h
        refine lv_iconst (v := 0) hx hb dX7_isUnder_37 (by decide) ?_
        obtain rfl := Option.some.inj h
        exact W.zret (v := 0) (ty := .boolean) hx hb hr rfl (r_end X hP hS) hS.2.2 dX7_isUnder_38 (hlocks := hlk)
      · rw [if_neg c_5] at h
        refine lv_iload_n hx hb dX7_isUnder_13 rfl (lv_at hl 1 rfl) ?_
        refine lv_iconst (v := (-1)) hx hb dX7_isUnder_14 (by decide) ?_
        refine lv_icmp_eq (tgt := 37) hx hb dX7_isUnder_15 (by decide) (fun c_6 => ?_) (fun c_6 => ?_)
        · rw [if_pos c_6] at h
          refine lv_iconst (v := 0) hx hb dX7_isUnder_37 (by decide) ?_
          obtain rfl := Option.some.inj h
          exact W.zret (v := 0) (ty := .boolean) hx hb hr rfl (r_end X hP hS) hS.2.2 dX7_isUnder_38 (hlocks := hlk)
        · rw [if_neg c_6] at h
          refine lv_iload_n hx hb dX7_isUnder_18 rfl (lv_at hl 1 rfl) ?_
          refine lv_iload_n hx hb dX7_isUnder_19 rfl (lv_at hl 0 rfl) ?_
          refine lv_icmp_ne (tgt := 25) hx hb dX7_isUnder_20 (by decide) (fun c_7 => ?_) (fun c_7 => ?_)
          · rw [if_neg c_7] at h
            refine va_gets hx hb X.2.2.1.1.2.2.1.1 hS X.1.2.2.1 (X.1.2.2.2.1 _ qw_917) (fun _ h => h) dX7_isUnder_25 ?_
            refine lv_iload_n hx hb dX7_isUnder_28 rfl (lv_at hl 1 rfl) ?_
            obtain ⟨c_8, h⟩ := og h
            refine va_ti hx hb X.2.2.1.1.2.2.1.2 hS (vin c_8) rfl dX7_isUnder_29 ?_
            refine lv_istore_n (lv' := [(2, .int ((([-1, 0, 0, 1, 2, 3] : List Int32).getD (Int32.toNatClampNeg (x2_2)) 0))), (1, .int (x1_1)), (3, .int (x3_3))]) hx hb dX7_isUnder_30 rfl hl (by decide) rfl (fun ls hl => ?_)
            refine lv_iinc (v := (x3_3 + 1)) (lv' := [(3, .int ((x3_3 + 1))), (2, .int ((([-1, 0, 0, 1, 2, 3] : List Int32).getD (Int32.toNatClampNeg (x2_2)) 0))), (1, .int (x1_1))]) hx hb dX7_isUnder_31 hl (k := 2) rfl (by rw [show Int32.ofInt (1) = 1 from by decide]) (by decide) rfl (fun ls hl => ?_)
            refine lv_goto (tgt := 7) hx hb dX7_isUnder_34 (by decide) ?_
            exact ih _ _ _ _ _ _ hP hS (lv_sub hl [2, 1, 0] rfl)  h
          · rw [if_pos c_7] at h
            refine lv_iconst (v := 1) hx hb dX7_isUnder_23 (by decide) ?_
            obtain rfl := Option.some.inj h
            exact W.zret (v := 1) (ty := .boolean) hx hb hr rfl (r_end X hP hS) hS.2.2 dX7_isUnder_24 (hlocks := hlk)
  refine lv_aload_n hx hb dX7_isUnder_0 rfl (lv_at hl 0 rfl) ?_
  refine G_X7_9 X.1 hn hP hi0 dX7_isUnder_1 ?_
  refine lv_istore_n (lv' := [(2, .int ((M (30 + i0) 0))), (0, .ref (φ (30 + i0))), (1, .int (a1))]) hx hb dX7_isUnder_4 rfl hl (by decide) rfl (fun ls hl => ?_)
  refine lv_iconst (v := 0) hx hb dX7_isUnder_5 (by decide) ?_
  refine lv_istore_n (lv' := [(3, .int (0)), (2, .int ((M (30 + i0) 0))), (0, .ref (φ (30 + i0))), (1, .int (a1))]) hx hb dX7_isUnder_6 rfl hl (by decide) rfl (fun ls hl => ?_)
  refine L7 _ _ _ _ _ _ _ hP hS (lv_sub hl [3, 1, 0] rfl)  h

def f_X8_hasGuest (M : Mem) (a1 : Int32) : Int32 :=
  (if a1 < 0 then 0 else (if (M 1 3) ≤ a1 then 0 else 1))
theorem bz_X8_hasGuest (M : Mem) (a1 : Int32) : f_X8_hasGuest M a1 = 0 ∨ f_X8_hasGuest M a1 = 1 := by
  unfold f_X8_hasGuest
  repeat' (first | exact Or.inl rfl | exact Or.inr rfl | split)
set_option maxRecDepth 100000 in
set_option maxHeartbeats 4000000 in
theorem c_X8_hasGuest (l : Launch) {G : GT} {φ : Nat → Nat} {n : Nat} {M : Mem} {a1 : Int32} (hI : wI φ n) (hn : 107 ≤ n) {r : Int32} (h : f_X8_hasGuest M a1 = r) : CT l yX8_hasGuest cX8_hasGuest 2 (some .boolean) ({ frames := 0, cells := 0, slots := 0, locals := 0 } : Room) [.ref (φ 1), .int (a1)] (WB (cX G φ) φ M n G) (some (.int r)) (WB (cX G φ) φ (M) n G) φ n := by
  unfold f_X8_hasGuest at h
  refine r_start (plainFor_of_name (by decide)) (Nat.le_of_ble_eq_true rfl) hI ?_
  intro p e s m args below meth c ls X hr hlk hP hl
  have hS : va_S (wA φ n s.heap.size) s.heap s.heap [] := va_S.rf
  have hx := X.1.1
  have hb := X.1.2.1
  have hl : lv_has ls 2 [(0, .ref (φ 1)), (1, .int (a1))] := hl
  refine lv_iload_n hx hb dX8_hasGuest_0 rfl (lv_at hl 1 rfl) ?_
  refine lv_if_lt (tgt := 16) hx hb dX8_hasGuest_1 (by decide) (fun c_1 => ?_) (fun c_1 => ?_)
  · rw [if_pos c_1] at h
    refine lv_iconst (v := 0) hx hb dX8_hasGuest_16 (by decide) ?_
    subst h
    exact W.zret (v := 0) (ty := .boolean) hx hb hr rfl (r_end X hP hS) hS.2.2 dX8_hasGuest_17 (hlocks := hlk)
  · rw [if_neg c_1] at h
    refine lv_iload_n hx hb dX8_hasGuest_4 rfl (lv_at hl 1 rfl) ?_
    refine lv_aload_n hx hb dX8_hasGuest_5 rfl (lv_at hl 0 rfl) ?_
    refine G_X8_29 X.1 hn hP dX8_hasGuest_6 ?_
    refine lv_icmp_ge (tgt := 16) hx hb dX8_hasGuest_9 (by decide) (fun c_2 => ?_) (fun c_2 => ?_)
    · rw [if_pos c_2] at h
      refine lv_iconst (v := 0) hx hb dX8_hasGuest_16 (by decide) ?_
      subst h
      exact W.zret (v := 0) (ty := .boolean) hx hb hr rfl (r_end X hP hS) hS.2.2 dX8_hasGuest_17 (hlocks := hlk)
    · rw [if_neg c_2] at h
      refine lv_iconst (v := 1) hx hb dX8_hasGuest_12 (by decide) ?_
      refine lv_goto (tgt := 17) hx hb dX8_hasGuest_13 (by decide) ?_
      subst h
      exact W.zret (v := 1) (ty := .boolean) hx hb hr rfl (r_end X hP hS) hS.2.2 dX8_hasGuest_17 (hlocks := hlk)

def f_X8_hasSlip (M : Mem) (a1 : Int32) : Int32 :=
  (if a1 < 0 then 0 else (if (M 1 4) ≤ a1 then 0 else 1))
theorem bz_X8_hasSlip (M : Mem) (a1 : Int32) : f_X8_hasSlip M a1 = 0 ∨ f_X8_hasSlip M a1 = 1 := by
  unfold f_X8_hasSlip
  repeat' (first | exact Or.inl rfl | exact Or.inr rfl | split)
set_option maxRecDepth 100000 in
set_option maxHeartbeats 4000000 in
theorem c_X8_hasSlip (l : Launch) {G : GT} {φ : Nat → Nat} {n : Nat} {M : Mem} {a1 : Int32} (hI : wI φ n) (hn : 107 ≤ n) {r : Int32} (h : f_X8_hasSlip M a1 = r) : CT l yX8_hasSlip cX8_hasSlip 2 (some .boolean) ({ frames := 0, cells := 0, slots := 0, locals := 0 } : Room) [.ref (φ 1), .int (a1)] (WB (cX G φ) φ M n G) (some (.int r)) (WB (cX G φ) φ (M) n G) φ n := by
  unfold f_X8_hasSlip at h
  refine r_start (plainFor_of_name (by decide)) (Nat.le_of_ble_eq_true rfl) hI ?_
  intro p e s m args below meth c ls X hr hlk hP hl
  have hS : va_S (wA φ n s.heap.size) s.heap s.heap [] := va_S.rf
  have hx := X.1.1
  have hb := X.1.2.1
  have hl : lv_has ls 2 [(0, .ref (φ 1)), (1, .int (a1))] := hl
  refine lv_iload_n hx hb dX8_hasSlip_0 rfl (lv_at hl 1 rfl) ?_
  refine lv_if_lt (tgt := 16) hx hb dX8_hasSlip_1 (by decide) (fun c_1 => ?_) (fun c_1 => ?_)
  · rw [if_pos c_1] at h
    refine lv_iconst (v := 0) hx hb dX8_hasSlip_16 (by decide) ?_
    subst h
    exact W.zret (v := 0) (ty := .boolean) hx hb hr rfl (r_end X hP hS) hS.2.2 dX8_hasSlip_17 (hlocks := hlk)
  · rw [if_neg c_1] at h
    refine lv_iload_n hx hb dX8_hasSlip_4 rfl (lv_at hl 1 rfl) ?_
    refine lv_aload_n hx hb dX8_hasSlip_5 rfl (lv_at hl 0 rfl) ?_
    refine G_X8_33 X.1 hn hP dX8_hasSlip_6 ?_
    refine lv_icmp_ge (tgt := 16) hx hb dX8_hasSlip_9 (by decide) (fun c_2 => ?_) (fun c_2 => ?_)
    · rw [if_pos c_2] at h
      refine lv_iconst (v := 0) hx hb dX8_hasSlip_16 (by decide) ?_
      subst h
      exact W.zret (v := 0) (ty := .boolean) hx hb hr rfl (r_end X hP hS) hS.2.2 dX8_hasSlip_17 (hlocks := hlk)
    · rw [if_neg c_2] at h
      refine lv_iconst (v := 1) hx hb dX8_hasSlip_12 (by decide) ?_
      refine lv_goto (tgt := 17) hx hb dX8_hasSlip_13 (by decide) ?_
      subst h
      exact W.zret (v := 1) (ty := .boolean) hx hb hr rfl (r_end X hP hS) hS.2.2 dX8_hasSlip_17 (hlocks := hlk)

def f_X8_addGuest (M : Mem) (a1 : Int32) (a2 : Int32) (a3 : Int32) (a4 : Int32) : Option (Int32 × Mem) :=
  (if (M 1 3) < 5 then (if ibd ((M 1 3)) 5 then some (((((upd2 (upd2 (upd2 (upd2 (upd2 M (25 + (Int32.toNatClampNeg ((M 1 3)))) 0 (a1)) (25 + (Int32.toNatClampNeg ((M 1 3)))) 1 (a2)) (25 + (Int32.toNatClampNeg ((M 1 3)))) 2 (a3)) (25 + (Int32.toNatClampNeg ((M 1 3)))) 3 (a4)) 1 3 ((((upd2 (upd2 (upd2 (upd2 M (25 + (Int32.toNatClampNeg ((M 1 3)))) 0 (a1)) (25 + (Int32.toNatClampNeg ((M 1 3)))) 1 (a2)) (25 + (Int32.toNatClampNeg ((M 1 3)))) 2 (a3)) (25 + (Int32.toNatClampNeg ((M 1 3)))) 3 (a4)) 1 3) + 1))) 1 3) - 1), (upd2 (upd2 (upd2 (upd2 (upd2 M (25 + (Int32.toNatClampNeg ((M 1 3)))) 0 (a1)) (25 + (Int32.toNatClampNeg ((M 1 3)))) 1 (a2)) (25 + (Int32.toNatClampNeg ((M 1 3)))) 2 (a3)) (25 + (Int32.toNatClampNeg ((M 1 3)))) 3 (a4)) 1 3 ((((upd2 (upd2 (upd2 (upd2 M (25 + (Int32.toNatClampNeg ((M 1 3)))) 0 (a1)) (25 + (Int32.toNatClampNeg ((M 1 3)))) 1 (a2)) (25 + (Int32.toNatClampNeg ((M 1 3)))) 2 (a3)) (25 + (Int32.toNatClampNeg ((M 1 3)))) 3 (a4)) 1 3) + 1))))) else none) else some (((-4), M)))
set_option maxRecDepth 100000 in
set_option maxHeartbeats 4000000 in
theorem c_X8_addGuest (l : Launch) {G : GT} {φ : Nat → Nat} {n : Nat} {M : Mem} {a1 : Int32} {a2 : Int32} {a3 : Int32} {a4 : Int32} (hI : wI φ n) (hn : 107 ≤ n) {r : Int32 × Mem} (h : f_X8_addGuest M a1 a2 a3 a4 = some r) : CT l yX8_addGuest cX8_addGuest 6 (some .int) ({ frames := 0, cells := 0, slots := 0, locals := 0 } : Room) [.ref (φ 1), .int (a1), .int (a2), .int (a3), .int (a4)] (WB (cX G φ) φ M n G) (some (.int r.1)) (WB (cX G φ) φ (r.2) n G) φ n := by
  unfold f_X8_addGuest at h
  refine r_start (plainFor_of_name (by decide)) (Nat.le_of_ble_eq_true rfl) hI ?_
  intro p e s m args below meth c ls X hr hlk hP hl
  have hS : va_S (wA φ n s.heap.size) s.heap s.heap [] := va_S.rf
  have hx := X.1.1
  have hb := X.1.2.1
  have hl : lv_has ls 6 [(0, .ref (φ 1)), (1, .int (a1)), (2, .int (a2)), (3, .int (a3)), (4, .int (a4))] := hl
  refine lv_aload_n hx hb dX8_addGuest_0 rfl (lv_at hl 0 rfl) ?_
  refine G_X8_29 X.1 hn hP dX8_addGuest_1 ?_
  refine lv_iconst (v := 5) hx hb dX8_addGuest_4 (by decide) ?_
  refine lv_icmp_lt (tgt := 11) hx hb dX8_addGuest_5 (by decide) (fun c_1 => ?_) (fun c_1 => ?_)
  · rw [if_pos c_1] at h
    refine lv_aload_n hx hb dX8_addGuest_11 rfl (lv_at hl 0 rfl) ?_
    refine G_X8_11 X.1 hn hP dX8_addGuest_12 ?_
    refine lv_aload_n hx hb dX8_addGuest_15 rfl (lv_at hl 0 rfl) ?_
    refine G_X8_29 X.1 hn hP dX8_addGuest_16 ?_
    obtain ⟨c_2, h⟩ := og h
    refine r_aald (t0 := 2) (k := (Int32.toNatClampNeg ((M 1 3)))) X.1 hP rfl rfl (by omega) sX_people rfl (vin c_2) dX8_addGuest_19 ?_
    have hj_3 : (Int32.toNatClampNeg ((M 1 3))) < 5 := ibd_lt c_2
    refine G_X8_45 X.1 hn hP hj_3 dX8_addGuest_20 ?_
    refine lv_astore (lv' := [(5, .ref (φ (25 + (Int32.toNatClampNeg ((M 1 3)))))), (0, .ref (φ 1)), (1, .int (a1)), (2, .int (a2)), (3, .int (a3)), (4, .int (a4))]) hx hb dX8_addGuest_23 hl (by decide) rfl (fun ls hl => ?_)
    refine lv_aload hx hb dX8_addGuest_25 (lv_at hl 0 rfl) ?_
    refine lv_iconst (v := 0) hx hb dX8_addGuest_27 (by decide) ?_
    refine lv_iload_n hx hb dX8_addGuest_28 rfl (lv_at hl 2 rfl) ?_
    refine r_iast (k := 0) X.1 X.2.2.2.1 hP hS (by omega) (sX_traits hj_3) (by decide) (vin (by decide)) dX8_addGuest_29 (fun H locs hP hS => ?_)
    refine lv_aload hx hb dX8_addGuest_30 (lv_at hl 0 rfl) ?_
    refine lv_iconst (v := 1) hx hb dX8_addGuest_32 (by decide) ?_
    refine lv_iload_n hx hb dX8_addGuest_33 rfl (lv_at hl 3 rfl) ?_
    refine r_iast (k := 1) X.1 X.2.2.2.1 hP hS (by omega) (sX_traits hj_3) (by decide) (vin (by decide)) dX8_addGuest_34 (fun H locs hP hS => ?_)
    refine lv_aload hx hb dX8_addGuest_35 (lv_at hl 0 rfl) ?_
    refine lv_iconst (v := 2) hx hb dX8_addGuest_37 (by decide) ?_
    refine lv_iload_n hx hb dX8_addGuest_38 rfl (lv_at hl 4 rfl) ?_
    refine r_iast (k := 2) X.1 X.2.2.2.1 hP hS (by omega) (sX_traits hj_3) (by decide) (vin (by decide)) dX8_addGuest_39 (fun H locs hP hS => ?_)
    refine lv_aload hx hb dX8_addGuest_40 (lv_at hl 0 rfl) ?_
    refine lv_iconst (v := 3) hx hb dX8_addGuest_42 (by decide) ?_
    refine lv_iload hx hb dX8_addGuest_43 (lv_at hl 5 rfl) ?_
    refine r_iast (k := 3) X.1 X.2.2.2.1 hP hS (by omega) (sX_traits hj_3) (by decide) (vin (by decide)) dX8_addGuest_45 (fun H locs hP hS => ?_)
    refine lv_aload_n hx hb dX8_addGuest_46 rfl (lv_at hl 1 rfl) ?_
    refine lv_dup hx hb dX8_addGuest_47 rfl ?_
    refine G_X8_29 X.1 hn hP dX8_addGuest_48 ?_
    refine lv_iconst (v := 1) hx hb dX8_addGuest_51 (by decide) ?_
    refine lv_iadd hx hb dX8_addGuest_52 ?_
    refine P_X8_29 X.1 hn X.2.2.2.1 hP hS dX8_addGuest_53 (fun H locs hP hS => ?_)
    refine lv_aload_n hx hb dX8_addGuest_56 rfl (lv_at hl 1 rfl) ?_
    refine G_X8_29 X.1 hn hP dX8_addGuest_57 ?_
    refine lv_iconst (v := 1) hx hb dX8_addGuest_60 (by decide) ?_
    refine lv_isub hx hb dX8_addGuest_61 ?_
    obtain rfl := Option.some.inj h
    exact W.iret hx hb hr (r_end X hP hS) hS.2.2 dX8_addGuest_62 (hlocks := hlk)
  · rw [if_neg c_1] at h
    refine lv_bipush (v := (-4)) hx hb dX8_addGuest_8 (by decide) ?_
    obtain rfl := Option.some.inj h
    exact W.iret hx hb hr (r_end X hP hS) hS.2.2 dX8_addGuest_10 (hlocks := hlk)

def f_X8_addSlip (M : Mem) (a1 : Int32) (a2 : Int32) (a3 : Int32) (a4 : Int32) : Option (Int32 × Mem) :=
  (if (M 1 4) < 10 then (if ibd ((M 1 4)) 10 then (Option.bind (f_X7_become M (Int32.toNatClampNeg ((M 1 4))) (a1) (a2) (a3) (a4)) fun r_4 => some (((((upd2 r_4 1 4 (((r_4 1 4) + 1))) 1 4) - 1), (upd2 r_4 1 4 (((r_4 1 4) + 1)))))) else none) else some (((-4), M)))
set_option maxRecDepth 100000 in
set_option maxHeartbeats 4000000 in
theorem c_X8_addSlip (l : Launch) {G : GT} {φ : Nat → Nat} {n : Nat} {M : Mem} {a1 : Int32} {a2 : Int32} {a3 : Int32} {a4 : Int32} (hI : wI φ n) (hn : 107 ≤ n) {r : Int32 × Mem} (h : f_X8_addSlip M a1 a2 a3 a4 = some r) : CT l yX8_addSlip cX8_addSlip 5 (some .int) ({ frames := 3, cells := 0, slots := 0, locals := 66 } : Room) [.ref (φ 1), .int (a1), .int (a2), .int (a3), .int (a4)] (WB (cX G φ) φ M n G) (some (.int r.1)) (WB (cX G φ) φ (r.2) n G) φ n := by
  unfold f_X8_addSlip at h
  refine r_start (plainFor_of_name (by decide)) (Nat.le_of_ble_eq_true rfl) hI ?_
  intro p e s m args below meth c ls X hr hlk hP hl
  have hS : va_S (wA φ n s.heap.size) s.heap s.heap [] := va_S.rf
  have hx := X.1.1
  have hb := X.1.2.1
  have hl : lv_has ls 5 [(0, .ref (φ 1)), (1, .int (a1)), (2, .int (a2)), (3, .int (a3)), (4, .int (a4))] := hl
  refine lv_aload_n hx hb dX8_addSlip_0 rfl (lv_at hl 0 rfl) ?_
  refine G_X8_33 X.1 hn hP dX8_addSlip_1 ?_
  refine lv_bipush (v := 10) hx hb dX8_addSlip_4 (by decide) ?_
  refine lv_icmp_lt (tgt := 12) hx hb dX8_addSlip_6 (by decide) (fun c_1 => ?_) (fun c_1 => ?_)
  · rw [if_pos c_1] at h
    refine lv_aload_n hx hb dX8_addSlip_12 rfl (lv_at hl 0 rfl) ?_
    refine G_X8_19 X.1 hn hP dX8_addSlip_13 ?_
    refine lv_aload_n hx hb dX8_addSlip_16 rfl (lv_at hl 0 rfl) ?_
    refine G_X8_33 X.1 hn hP dX8_addSlip_17 ?_
    obtain ⟨c_2, h⟩ := og h
    refine r_aald (t0 := 3) (k := (Int32.toNatClampNeg ((M 1 4)))) X.1 hP rfl rfl (by omega) sX_slips rfl (vin c_2) dX8_addSlip_20 ?_
    have hj_3 : (Int32.toNatClampNeg ((M 1 4))) < 10 := ibd_lt c_2
    refine lv_iload_n hx hb dX8_addSlip_21 rfl (lv_at hl 1 rfl) ?_
    refine lv_iload_n hx hb dX8_addSlip_22 rfl (lv_at hl 2 rfl) ?_
    refine lv_iload_n hx hb dX8_addSlip_23 rfl (lv_at hl 3 rfl) ?_
    refine lv_iload hx hb dX8_addSlip_24 (lv_at hl 4 rfl) ?_
    obtain ⟨r_4, hr_4, h⟩ := ob h
    refine c_V0 (As := [.int (a1), .int (a2), .int (a3), .int (a4)]) (rest := []) (a := (30 + (Int32.toNatClampNeg ((M 1 4))))) X hl.1 (c_X7_become l X.2.2.2.1.1 hn hj_3 hr_4) (w_X8_49) qw_617 qw_618 ⟨Nat.le_of_ble_eq_true rfl, Nat.le_of_ble_eq_true rfl⟩ rfl rfl hP hS (by omega) (sX_Slip hj_3) rfl rfl (Nat.le_of_ble_eq_true rfl) dX8_addSlip_26 (fun H locs hP hS => ?_)
    refine lv_aload_n hx hb dX8_addSlip_29 rfl (lv_at hl 0 rfl) ?_
    refine lv_dup hx hb dX8_addSlip_30 rfl ?_
    refine G_X8_33 X.1 hn hP dX8_addSlip_31 ?_
    refine lv_iconst (v := 1) hx hb dX8_addSlip_34 (by decide) ?_
    refine lv_iadd hx hb dX8_addSlip_35 ?_
    refine P_X8_33 X.1 hn X.2.2.2.1 hP hS dX8_addSlip_36 (fun H locs hP hS => ?_)
    refine lv_aload_n hx hb dX8_addSlip_39 rfl (lv_at hl 0 rfl) ?_
    refine G_X8_33 X.1 hn hP dX8_addSlip_40 ?_
    refine lv_iconst (v := 1) hx hb dX8_addSlip_43 (by decide) ?_
    refine lv_isub hx hb dX8_addSlip_44 ?_
    obtain rfl := Option.some.inj h
    exact W.iret hx hb hr (r_end X hP hS) hS.2.2 dX8_addSlip_45 (hlocks := hlk)
  · rw [if_neg c_1] at h
    refine lv_bipush (v := (-4)) hx hb dX8_addSlip_9 (by decide) ?_
    obtain rfl := Option.some.inj h
    exact W.iret hx hb hr (r_end X hP hS) hS.2.2 dX8_addSlip_11 (hlocks := hlk)

def f_X8_whoComes_4 (M : Mem) (x1_1 : Int32) : Nat → Int32 → Int32 → Option (Int32)
  | 0, _, _ => none
  | fu_4 + 1, x2_2, x3_3 => (if (M 1 3) ≤ x3_3 then some (x2_2) else (if ibd (x3_3) 5 then (Option.bind (f_X1_comesIn M (Int32.toNatClampNeg (x3_3)) (x1_1)) fun r_8 => (if r_8 = 0 then (f_X8_whoComes_4 M x1_1 fu_4 (x2_2) ((x3_3 + 1))) else (f_X8_whoComes_4 M x1_1 fu_4 ((x2_2 ||| ((1 : Int32) <<< (x3_3 &&& 31)))) ((x3_3 + 1))))) else none))
def f_X8_whoComes (M : Mem) (a1 : Int32) : Option (Int32) :=
  (f_X8_whoComes_4 M (a1) FU (0) (0))
set_option maxRecDepth 100000 in
set_option maxHeartbeats 4000000 in
theorem c_X8_whoComes (l : Launch) {G : GT} {φ : Nat → Nat} {n : Nat} {M : Mem} {a1 : Int32} (hI : wI φ n) (hn : 107 ≤ n) {r : Int32} (h : f_X8_whoComes M a1 = some r) : CT l yX8_whoComes cX8_whoComes 4 (some .int) ({ frames := 1, cells := 0, slots := 0, locals := 22 } : Room) [.ref (φ 1), .int (a1)] (WB (cX G φ) φ M n G) (some (.int r)) (WB (cX G φ) φ (M) n G) φ n := by
  unfold f_X8_whoComes at h
  refine r_start (plainFor_of_name (by decide)) (Nat.le_of_ble_eq_true rfl) hI ?_
  intro p e s m args below meth c ls X hr hlk hP hl
  have hS : va_S (wA φ n s.heap.size) s.heap s.heap [] := va_S.rf
  have hx := X.1.1
  have hb := X.1.2.1
  have hl : lv_has ls 4 [(0, .ref (φ 1)), (1, .int (a1))] := hl
  have L4 : ∀ (fu_4 : Nat) (x1_1 : Int32) (x2_2 : Int32) (x3_3 : Int32)  (H : Heap) (locs : List Loc) (ls : Array Slot), va_P G.1 vwCl (wW (cX G φ) φ M n) H → va_S (wA φ n s.heap.size) s.heap H locs → lv_has ls 4 [(0, .ref (φ 1)), (1, .int (x1_1)), (2, .int (x2_2)), (3, .int (x3_3))] → f_X8_whoComes_4 M x1_1 fu_4 x2_2 x3_3 = some r → W p l e ({ frames := 1, cells := 0, slots := 0, locals := 22 } : Room) s m args below meth c H locs 0 0 (MQ below (QQ (some (.int r)) (WB (cX G φ) φ (M) n G) (wA φ n s.heap.size)) args s 0 0 (wA φ n s.heap.size)) (F0 m 4 ls []) := by
    intro fu_4
    induction fu_4 with
    | zero =>
      intro x1_1 x2_2 x3_3 H locs ls _ _ _  h
      have h : (none : Option (Int32)) = some r := h
      cases h
    | succ fu_4 ih =>
      intro x1_1 x2_2 x3_3 H locs ls hP hS hl  h
      rw [f_X8_whoComes_4] at h
      refine lv_iload_n hx hb dX8_whoComes_4 rfl (lv_at hl 3 rfl) ?_
      refine lv_aload_n hx hb dX8_whoComes_5 rfl (lv_at hl 0 rfl) ?_
      refine G_X8_29 X.1 hn hP dX8_whoComes_6 ?_
      refine lv_icmp_ge (tgt := 37) hx hb dX8_whoComes_9 (by decide) (fun c_5 => ?_) (fun c_5 => ?_)
      · rw [if_pos c_5] at h
        refine lv_iload_n hx hb dX8_whoComes_37 rfl (lv_at hl 2 rfl) ?_
        obtain rfl := Option.some.inj h
        exact W.iret hx hb hr (r_end X hP hS) hS.2.2 dX8_whoComes_38 (hlocks := hlk)
      · rw [if_neg c_5] at h
        refine lv_aload_n hx hb dX8_whoComes_12 rfl (lv_at hl 0 rfl) ?_
        refine G_X8_11 X.1 hn hP dX8_whoComes_13 ?_
        refine lv_iload_n hx hb dX8_whoComes_16 rfl (lv_at hl 3 rfl) ?_
        obtain ⟨c_6, h⟩ := og h
        refine r_aald (t0 := 2) (k := (Int32.toNatClampNeg (x3_3))) X.1 hP rfl rfl (by omega) sX_people rfl (vin c_6) dX8_whoComes_17 ?_
        have hj_7 : (Int32.toNatClampNeg (x3_3)) < 5 := ibd_lt c_6
        refine lv_iload_n hx hb dX8_whoComes_18 rfl (lv_at hl 1 rfl) ?_
        obtain ⟨r_8, hr_8, h⟩ := ob h
        refine c_V0 (As := [.int (x1_1)]) (rest := []) (a := (20 + (Int32.toNatClampNeg (x3_3)))) X hl.1 (c_X1_comesIn l X.2.2.2.1.1 hn hj_7 hr_8) (w_X8_59) qw_703 qw_704 ⟨Nat.le_of_ble_eq_true rfl, Nat.le_of_ble_eq_true rfl⟩ rfl rfl hP hS (by omega) (sX_Guest hj_7) rfl rfl (Nat.le_of_ble_eq_true rfl) dX8_whoComes_19 (fun H locs hP hS => ?_)
        refine lv_if_eq (tgt := 31) hx hb dX8_whoComes_22 (by decide) (fun c_9 => ?_) (fun c_9 => ?_)
        · rw [if_pos c_9] at h
          refine lv_iinc (v := (x3_3 + 1)) (lv' := [(3, .int ((x3_3 + 1))), (0, .ref (φ 1)), (1, .int (x1_1)), (2, .int (x2_2))]) hx hb dX8_whoComes_31 hl (k := 3) rfl (by rw [show Int32.ofInt (1) = 1 from by decide]) (by decide) rfl (fun ls hl => ?_)
          refine lv_goto (tgt := 4) hx hb dX8_whoComes_34 (by decide) ?_
          exact ih _ _ _ _ _ _ hP hS (lv_sub hl [1, 2, 3, 0] rfl)  h
        · rw [if_neg c_9] at h
          refine lv_iload_n hx hb dX8_whoComes_25 rfl (lv_at hl 2 rfl) ?_
          refine lv_iconst (v := 1) hx hb dX8_whoComes_26 (by decide) ?_
          refine lv_iload_n hx hb dX8_whoComes_27 rfl (lv_at hl 3 rfl) ?_
          refine lv_ishl hx hb dX8_whoComes_28 ?_
          refine lv_ior hx hb dX8_whoComes_29 ?_
          refine lv_istore_n (lv' := [(2, .int ((x2_2 ||| ((1 : Int32) <<< (x3_3 &&& 31))))), (0, .ref (φ 1)), (1, .int (x1_1)), (3, .int (x3_3))]) hx hb dX8_whoComes_30 rfl hl (by decide) rfl (fun ls hl => ?_)
          refine lv_iinc (v := (x3_3 + 1)) (lv' := [(3, .int ((x3_3 + 1))), (2, .int ((x2_2 ||| ((1 : Int32) <<< (x3_3 &&& 31))))), (0, .ref (φ 1)), (1, .int (x1_1))]) hx hb dX8_whoComes_31 hl (k := 3) rfl (by rw [show Int32.ofInt (1) = 1 from by decide]) (by decide) rfl (fun ls hl => ?_)
          refine lv_goto (tgt := 4) hx hb dX8_whoComes_34 (by decide) ?_
          exact ih _ _ _ _ _ _ hP hS (lv_sub hl [2, 3, 1, 0] rfl)  h
  refine lv_iconst (v := 0) hx hb dX8_whoComes_0 (by decide) ?_
  refine lv_istore_n (lv' := [(2, .int (0)), (0, .ref (φ 1)), (1, .int (a1))]) hx hb dX8_whoComes_1 rfl hl (by decide) rfl (fun ls hl => ?_)
  refine lv_iconst (v := 0) hx hb dX8_whoComes_2 (by decide) ?_
  refine lv_istore_n (lv' := [(3, .int (0)), (2, .int (0)), (0, .ref (φ 1)), (1, .int (a1))]) hx hb dX8_whoComes_3 rfl hl (by decide) rfl (fun ls hl => ?_)
  refine L4 _ _ _ _ _ _ _ hP hS (lv_sub hl [2, 3, 1, 0] rfl)  h

def f_X9_append (M : Mem) (a1 : Int32) : Option (Int32 × Mem) :=
  (if (M 19 0) < 160 then (if ibd ((M 19 0)) 160 then some ((1, (upd2 (upd2 M 58 (Int32.toNatClampNeg ((M 19 0))) (a1)) 19 0 ((((upd2 M 58 (Int32.toNatClampNeg ((M 19 0))) (a1)) 19 0) + 1))))) else none) else some ((0, M)))
set_option maxRecDepth 100000 in
set_option maxHeartbeats 4000000 in
theorem c_X9_append (l : Launch) {G : GT} {φ : Nat → Nat} {n : Nat} {M : Mem} {a1 : Int32} (hI : wI φ n) (hn : 107 ≤ n) {r : Int32 × Mem} (h : f_X9_append M a1 = some r) : CT l yX9_append cX9_append 2 (some .boolean) ({ frames := 0, cells := 0, slots := 0, locals := 0 } : Room) [.ref (φ 19), .int (a1)] (WB (cX G φ) φ M n G) (some (.int r.1)) (WB (cX G φ) φ (r.2) n G) φ n := by
  unfold f_X9_append at h
  refine r_start (plainFor_of_name (by decide)) (Nat.le_of_ble_eq_true rfl) hI ?_
  intro p e s m args below meth c ls X hr hlk hP hl
  have hS : va_S (wA φ n s.heap.size) s.heap s.heap [] := va_S.rf
  have hx := X.1.1
  have hb := X.1.2.1
  have hl : lv_has ls 2 [(0, .ref (φ 19)), (1, .int (a1))] := hl
  refine lv_aload_n hx hb dX9_append_0 rfl (lv_at hl 0 rfl) ?_
  refine G_X9_11 X.1 hn hP dX9_append_1 ?_
  refine lv_sipush (v := 160) hx hb dX9_append_4 (by decide) ?_
  refine lv_icmp_lt (tgt := 12) hx hb dX9_append_7 (by decide) (fun c_1 => ?_) (fun c_1 => ?_)
  · rw [if_pos c_1] at h
    refine lv_aload_n hx hb dX9_append_12 rfl (lv_at hl 0 rfl) ?_
    refine G_X9_15 X.1 hn hP dX9_append_13 ?_
    refine lv_aload_n hx hb dX9_append_16 rfl (lv_at hl 0 rfl) ?_
    refine G_X9_11 X.1 hn hP dX9_append_17 ?_
    refine lv_iload_n hx hb dX9_append_20 rfl (lv_at hl 1 rfl) ?_
    obtain ⟨c_2, h⟩ := og h
    refine r_iast (k := (Int32.toNatClampNeg ((M 19 0)))) X.1 X.2.2.2.1 hP hS (by omega) sX_bytes rfl (vin c_2) dX9_append_21 (fun H locs hP hS => ?_)
    refine lv_aload_n hx hb dX9_append_22 rfl (lv_at hl 0 rfl) ?_
    refine lv_dup hx hb dX9_append_23 rfl ?_
    refine G_X9_11 X.1 hn hP dX9_append_24 ?_
    refine lv_iconst (v := 1) hx hb dX9_append_27 (by decide) ?_
    refine lv_iadd hx hb dX9_append_28 ?_
    refine P_X9_11 X.1 hn X.2.2.2.1 hP hS dX9_append_29 (fun H locs hP hS => ?_)
    refine lv_iconst (v := 1) hx hb dX9_append_32 (by decide) ?_
    obtain rfl := Option.some.inj h
    exact W.zret (v := 1) (ty := .boolean) hx hb hr rfl (r_end X hP hS) hS.2.2 dX9_append_33 (hlocks := hlk)
  · rw [if_neg c_1] at h
    refine lv_iconst (v := 0) hx hb dX9_append_10 (by decide) ?_
    obtain rfl := Option.some.inj h
    exact W.zret (v := 0) (ty := .boolean) hx hb hr rfl (r_end X hP hS) hS.2.2 dX9_append_11 (hlocks := hlk)

def f_X10_fits (M : Mem) (a1 : Int32) (a2 : Int32) : Option (Int32) :=
  (if ibd (a1) 4 then (if a2 < (([0, 1, 0, 0] : List Int32).getD (Int32.toNatClampNeg (a1)) 0) then some (0) else (if ibd (a1) 4 then (if (([47, 24, 12, 9] : List Int32).getD (Int32.toNatClampNeg (a1)) 0) < a2 then some (0) else some (1)) else none)) else none)
set_option maxRecDepth 100000 in
set_option maxHeartbeats 4000000 in
theorem c_X10_fits (l : Launch) {G : GT} {φ : Nat → Nat} {n : Nat} {M : Mem} {a1 : Int32} {a2 : Int32} (hI : wI φ n) (hn : 107 ≤ n) {r : Int32} (h : f_X10_fits M a1 a2 = some r) : CT l yX10_fits cX10_fits 2 (some .boolean) ({ frames := 0, cells := 0, slots := 0, locals := 0 } : Room) [.int (a1), .int (a2)] (WB (cX G φ) φ M n G) (some (.int r)) (WB (cX G φ) φ (M) n G) φ n := by
  unfold f_X10_fits at h
  refine r_start (plainFor_of_name (by decide)) (Nat.le_of_ble_eq_true rfl) hI ?_
  intro p e s m args below meth c ls X hr hlk hP hl
  have hS : va_S (wA φ n s.heap.size) s.heap s.heap [] := va_S.rf
  have hx := X.1.1
  have hb := X.1.2.1
  have hl : lv_has ls 2 [(0, .int (a1)), (1, .int (a2))] := hl
  refine lv_iload_n hx hb dX10_fits_0 rfl (lv_at hl 1 rfl) ?_
  refine va_gets hx hb X.2.2.1.1.1.1 hS X.1.2.2.1 (X.1.2.2.2.1 _ qw_590) (fun _ h => h) dX10_fits_1 ?_
  refine lv_iload_n hx hb dX10_fits_4 rfl (lv_at hl 0 rfl) ?_
  obtain ⟨c_1, h⟩ := og h
  refine va_ti hx hb X.2.2.1.1.1.2 hS (vin c_1) rfl dX10_fits_5 ?_
  refine lv_icmp_lt (tgt := 22) hx hb dX10_fits_6 (by decide) (fun c_2 => ?_) (fun c_2 => ?_)
  · rw [if_pos c_2] at h
    refine lv_iconst (v := 0) hx hb dX10_fits_22 (by decide) ?_
    obtain rfl := Option.some.inj h
    exact W.zret (v := 0) (ty := .boolean) hx hb hr rfl (r_end X hP hS) hS.2.2 dX10_fits_23 (hlocks := hlk)
  · rw [if_neg c_2] at h
    refine lv_iload_n hx hb dX10_fits_9 rfl (lv_at hl 1 rfl) ?_
    refine va_gets hx hb X.2.2.1.1.2.1.1 hS X.1.2.2.1 (X.1.2.2.2.1 _ qw_592) (fun _ h => h) dX10_fits_10 ?_
    refine lv_iload_n hx hb dX10_fits_13 rfl (lv_at hl 0 rfl) ?_
    obtain ⟨c_3, h⟩ := og h
    refine va_ti hx hb X.2.2.1.1.2.1.2 hS (vin c_3) rfl dX10_fits_14 ?_
    refine lv_icmp_gt (tgt := 22) hx hb dX10_fits_15 (by decide) (fun c_4 => ?_) (fun c_4 => ?_)
    · rw [if_pos c_4] at h
      refine lv_iconst (v := 0) hx hb dX10_fits_22 (by decide) ?_
      obtain rfl := Option.some.inj h
      exact W.zret (v := 0) (ty := .boolean) hx hb hr rfl (r_end X hP hS) hS.2.2 dX10_fits_23 (hlocks := hlk)
    · rw [if_neg c_4] at h
      refine lv_iconst (v := 1) hx hb dX10_fits_18 (by decide) ?_
      refine lv_goto (tgt := 23) hx hb dX10_fits_19 (by decide) ?_
      obtain rfl := Option.some.inj h
      exact W.zret (v := 1) (ty := .boolean) hx hb hr rfl (r_end X hP hS) hS.2.2 dX10_fits_23 (hlocks := hlk)

def f_X10_person (M : Mem) (a1 : Int32) (a2 : Int32) (a3 : Int32) : Option (Int32 × Mem) :=
  (Option.bind (f_X10_fits M (0) (a1)) fun r_1 => (if r_1 = 0 then some (((-2), M)) else (Option.bind (f_X10_fits M (1) (a2)) fun r_3 => (if r_3 = 0 then some (((-2), M)) else (if a3 < 0 then some (((-2), M)) else (Option.bind (f_X10_fits M (2) ((a3 / 10))) fun r_6 => (if r_6 = 0 then some (((-2), M)) else (Option.bind (f_X10_fits M (3) ((a3 - a3 / 10 * 10))) fun r_8 => (if r_8 = 0 then some (((-2), M)) else (Option.bind (f_X8_addGuest M (a1) (a2) ((a3 / 10)) ((a3 - a3 / 10 * 10))) fun r_10 => some ((r_10.1, (upd2 r_10.2 5 0 (1))))))))))))))
set_option maxRecDepth 100000 in
set_option maxHeartbeats 4000000 in
theorem c_X10_person (l : Launch) {G : GT} {φ : Nat → Nat} {n : Nat} {M : Mem} {a1 : Int32} {a2 : Int32} {a3 : Int32} (hI : wI φ n) (hn : 107 ≤ n) {r : Int32 × Mem} (h : f_X10_person M a1 a2 a3 = some r) : CT l yX10_person cX10_person 6 (some .int) ({ frames := 1, cells := 0, slots := 0, locals := 25 } : Room) [.ref (φ 0), .int (a1), .int (a2), .int (a3)] (WB (cX G φ) φ M n G) (some (.int r.1)) (WB (cX G φ) φ (r.2) n G) φ n := by
  unfold f_X10_person at h
  refine r_start (plainFor_of_name (by decide)) (Nat.le_of_ble_eq_true rfl) hI ?_
  intro p e s m args below meth c ls X hr hlk hP hl
  have hS : va_S (wA φ n s.heap.size) s.heap s.heap [] := va_S.rf
  have hx := X.1.1
  have hb := X.1.2.1
  have hl : lv_has ls 6 [(0, .ref (φ 0)), (1, .int (a1)), (2, .int (a2)), (3, .int (a3))] := hl
  refine lv_iconst (v := 0) hx hb dX10_person_0 (by decide) ?_
  refine lv_iload_n hx hb dX10_person_1 rfl (lv_at hl 1 rfl) ?_
  obtain ⟨r_1, hr_1, h⟩ := ob h
  refine c_S0 (As := [.int (0), .int (a1)]) (rest := []) X hl.1 (c_X10_fits l X.2.2.2.1.1 hn hr_1) (w_X10_85) qw_588 ⟨Nat.le_of_ble_eq_true rfl, Nat.le_of_ble_eq_true rfl⟩ rfl rfl hP hS (Nat.le_of_ble_eq_true rfl) dX10_person_2 (fun H locs hP hS => ?_)
  refine lv_if_eq (tgt := 46) hx hb dX10_person_5 (by decide) (fun c_2 => ?_) (fun c_2 => ?_)
  · rw [if_pos c_2] at h
    refine lv_iconst (v := 0) hx hb dX10_person_46 (by decide) ?_
    refine lv_istore (lv' := [(4, .int (0)), (0, .ref (φ 0)), (1, .int (a1)), (2, .int (a2)), (3, .int (a3))]) hx hb dX10_person_47 hl (by decide) rfl (fun ls hl => ?_)
    refine lv_iload hx hb dX10_person_49 (lv_at hl 0 rfl) ?_
    refine lv_if_ne (tgt := 57) hx hb dX10_person_51 (by decide) (fun c => absurd c (by decide)) (fun _ => ?_)
    refine lv_bipush (v := (-2)) hx hb dX10_person_54 (by decide) ?_
    obtain rfl := Option.some.inj h
    exact W.iret hx hb hr (r_end X hP hS) hS.2.2 dX10_person_56 (hlocks := hlk)
  · rw [if_neg c_2] at h
    refine lv_iconst (v := 1) hx hb dX10_person_8 (by decide) ?_
    refine lv_iload_n hx hb dX10_person_9 rfl (lv_at hl 2 rfl) ?_
    obtain ⟨r_3, hr_3, h⟩ := ob h
    refine c_S0 (As := [.int (1), .int (a2)]) (rest := []) X hl.1 (c_X10_fits l X.2.2.2.1.1 hn hr_3) (w_X10_85) qw_588 ⟨Nat.le_of_ble_eq_true rfl, Nat.le_of_ble_eq_true rfl⟩ rfl rfl hP hS (Nat.le_of_ble_eq_true rfl) dX10_person_10 (fun H locs hP hS => ?_)
    refine lv_if_eq (tgt := 46) hx hb dX10_person_13 (by decide) (fun c_4 => ?_) (fun c_4 => ?_)
    · rw [if_pos c_4] at h
      refine lv_iconst (v := 0) hx hb dX10_person_46 (by decide) ?_
      refine lv_istore (lv' := [(4, .int (0)), (0, .ref (φ 0)), (1, .int (a1)), (2, .int (a2)), (3, .int (a3))]) hx hb dX10_person_47 hl (by decide) rfl (fun ls hl => ?_)
      refine lv_iload hx hb dX10_person_49 (lv_at hl 0 rfl) ?_
      refine lv_if_ne (tgt := 57) hx hb dX10_person_51 (by decide) (fun c => absurd c (by decide)) (fun _ => ?_)
      refine lv_bipush (v := (-2)) hx hb dX10_person_54 (by decide) ?_
      obtain rfl := Option.some.inj h
      exact W.iret hx hb hr (r_end X hP hS) hS.2.2 dX10_person_56 (hlocks := hlk)
    · rw [if_neg c_4] at h
      refine lv_iload_n hx hb dX10_person_16 rfl (lv_at hl 3 rfl) ?_
      refine lv_if_lt (tgt := 46) hx hb dX10_person_17 (by decide) (fun c_5 => ?_) (fun c_5 => ?_)
      · rw [if_pos c_5] at h
        refine lv_iconst (v := 0) hx hb dX10_person_46 (by decide) ?_
        refine lv_istore (lv' := [(4, .int (0)), (0, .ref (φ 0)), (1, .int (a1)), (2, .int (a2)), (3, .int (a3))]) hx hb dX10_person_47 hl (by decide) rfl (fun ls hl => ?_)
        refine lv_iload hx hb dX10_person_49 (lv_at hl 0 rfl) ?_
        refine lv_if_ne (tgt := 57) hx hb dX10_person_51 (by decide) (fun c => absurd c (by decide)) (fun _ => ?_)
        refine lv_bipush (v := (-2)) hx hb dX10_person_54 (by decide) ?_
        obtain rfl := Option.some.inj h
        exact W.iret hx hb hr (r_end X hP hS) hS.2.2 dX10_person_56 (hlocks := hlk)
      · rw [if_neg c_5] at h
        refine lv_iconst (v := 2) hx hb dX10_person_20 (by decide) ?_
        refine lv_iload_n hx hb dX10_person_21 rfl (lv_at hl 3 rfl) ?_
        refine lv_bipush (v := 10) hx hb dX10_person_22 (by decide) ?_
        refine lv_idiv hx hb dX10_person_24 (by decide) ?_
        obtain ⟨r_6, hr_6, h⟩ := ob h
        refine c_S0 (As := [.int (2), .int ((a3 / 10))]) (rest := []) X hl.1 (c_X10_fits l X.2.2.2.1.1 hn hr_6) (w_X10_85) qw_588 ⟨Nat.le_of_ble_eq_true rfl, Nat.le_of_ble_eq_true rfl⟩ rfl rfl hP hS (Nat.le_of_ble_eq_true rfl) dX10_person_25 (fun H locs hP hS => ?_)
        refine lv_if_eq (tgt := 46) hx hb dX10_person_28 (by decide) (fun c_7 => ?_) (fun c_7 => ?_)
        · rw [if_pos c_7] at h
          refine lv_iconst (v := 0) hx hb dX10_person_46 (by decide) ?_
          refine lv_istore (lv' := [(4, .int (0)), (0, .ref (φ 0)), (1, .int (a1)), (2, .int (a2)), (3, .int (a3))]) hx hb dX10_person_47 hl (by decide) rfl (fun ls hl => ?_)
          refine lv_iload hx hb dX10_person_49 (lv_at hl 0 rfl) ?_
          refine lv_if_ne (tgt := 57) hx hb dX10_person_51 (by decide) (fun c => absurd c (by decide)) (fun _ => ?_)
          refine lv_bipush (v := (-2)) hx hb dX10_person_54 (by decide) ?_
          obtain rfl := Option.some.inj h
          exact W.iret hx hb hr (r_end X hP hS) hS.2.2 dX10_person_56 (hlocks := hlk)
        · rw [if_neg c_7] at h
          refine lv_iconst (v := 3) hx hb dX10_person_31 (by decide) ?_
          refine lv_iload_n hx hb dX10_person_32 rfl (lv_at hl 3 rfl) ?_
          refine lv_bipush (v := 10) hx hb dX10_person_33 (by decide) ?_
          refine lv_irem hx hb dX10_person_35 (by decide) ?_
          obtain ⟨r_8, hr_8, h⟩ := ob h
          refine c_S0 (As := [.int (3), .int ((a3 - a3 / 10 * 10))]) (rest := []) X hl.1 (c_X10_fits l X.2.2.2.1.1 hn hr_8) (w_X10_85) qw_588 ⟨Nat.le_of_ble_eq_true rfl, Nat.le_of_ble_eq_true rfl⟩ rfl rfl hP hS (Nat.le_of_ble_eq_true rfl) dX10_person_36 (fun H locs hP hS => ?_)
          refine lv_if_eq (tgt := 46) hx hb dX10_person_39 (by decide) (fun c_9 => ?_) (fun c_9 => ?_)
          · rw [if_pos c_9] at h
            refine lv_iconst (v := 0) hx hb dX10_person_46 (by decide) ?_
            refine lv_istore (lv' := [(4, .int (0)), (0, .ref (φ 0)), (1, .int (a1)), (2, .int (a2)), (3, .int (a3))]) hx hb dX10_person_47 hl (by decide) rfl (fun ls hl => ?_)
            refine lv_iload hx hb dX10_person_49 (lv_at hl 0 rfl) ?_
            refine lv_if_ne (tgt := 57) hx hb dX10_person_51 (by decide) (fun c => absurd c (by decide)) (fun _ => ?_)
            refine lv_bipush (v := (-2)) hx hb dX10_person_54 (by decide) ?_
            obtain rfl := Option.some.inj h
            exact W.iret hx hb hr (r_end X hP hS) hS.2.2 dX10_person_56 (hlocks := hlk)
          · rw [if_neg c_9] at h
            refine lv_iconst (v := 1) hx hb dX10_person_42 (by decide) ?_
            refine lv_goto (tgt := 47) hx hb dX10_person_43 (by decide) ?_
            refine lv_istore (lv' := [(4, .int (1)), (0, .ref (φ 0)), (1, .int (a1)), (2, .int (a2)), (3, .int (a3))]) hx hb dX10_person_47 hl (by decide) rfl (fun ls hl => ?_)
            refine lv_iload hx hb dX10_person_49 (lv_at hl 0 rfl) ?_
            refine lv_if_ne (tgt := 57) hx hb dX10_person_51 (by decide) (fun _ => ?_) (fun c => absurd c (by decide))
            refine lv_aload_n hx hb dX10_person_57 rfl (lv_at hl 1 rfl) ?_
            refine G_X10_10 X.1 hn hP dX10_person_58 ?_
            refine lv_iload_n hx hb dX10_person_61 rfl (lv_at hl 2 rfl) ?_
            refine lv_iload_n hx hb dX10_person_62 rfl (lv_at hl 3 rfl) ?_
            refine lv_iload_n hx hb dX10_person_63 rfl (lv_at hl 4 rfl) ?_
            refine lv_bipush (v := 10) hx hb dX10_person_64 (by decide) ?_
            refine lv_idiv hx hb dX10_person_66 (by decide) ?_
            refine lv_iload_n hx hb dX10_person_67 rfl (lv_at hl 4 rfl) ?_
            refine lv_bipush (v := 10) hx hb dX10_person_68 (by decide) ?_
            refine lv_irem hx hb dX10_person_70 (by decide) ?_
            obtain ⟨r_10, hr_10, h⟩ := ob h
            refine c_V0 (As := [.int (a1), .int (a2), .int ((a3 / 10)), .int ((a3 - a3 / 10 * 10))]) (rest := []) (a := 1) X hl.1 (c_X8_addGuest l X.2.2.2.1.1 hn hr_10) (w_X10_89) qw_595 qw_596 ⟨Nat.le_of_ble_eq_true rfl, Nat.le_of_ble_eq_true rfl⟩ rfl rfl hP hS (by omega) sX_Table rfl rfl (Nat.le_of_ble_eq_true rfl) dX10_person_71 (fun H locs hP hS => ?_)
            refine lv_istore (lv' := [(5, .int (r_10.1)), (4, .int (1)), (0, .ref (φ 0)), (1, .int (a1)), (2, .int (a2)), (3, .int (a3))]) hx hb dX10_person_74 hl (by decide) rfl (fun ls hl => ?_)
            refine lv_aload_n hx hb dX10_person_76 rfl (lv_at hl 2 rfl) ?_
            refine G_X10_21 X.1 hn hP dX10_person_77 ?_
            refine lv_iconst (v := 1) hx hb dX10_person_80 (by decide) ?_
            refine P_X10_93 X.1 hn X.2.2.2.1 hP hS rfl rfl dX10_person_81 (fun H locs hP hS => ?_)
            refine lv_iload hx hb dX10_person_84 (lv_at hl 0 rfl) ?_
            obtain rfl := Option.some.inj h
            exact W.iret hx hb hr (r_end X hP hS) hS.2.2 dX10_person_86 (hlocks := hlk)

