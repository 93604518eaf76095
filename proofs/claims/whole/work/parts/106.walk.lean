def f_X11_high (M : Mem) (a1 : Int32) : Option (Int32) :=
  (if ibd (a1) 10 then (if Int32.toInt ((M 5 (Int32.toNatClampNeg (a1)))) < 2 ∨ 5 < Int32.toInt ((M 5 (Int32.toNatClampNeg (a1)))) then some (0) else (if (M 5 (Int32.toNatClampNeg (a1))) = 2 then some (1) else (if (M 5 (Int32.toNatClampNeg (a1))) = 3 then (if ibd (a1) 10 then some (((M 8 (Int32.toNatClampNeg (a1))) / 3)) else none) else (if (M 5 (Int32.toNatClampNeg (a1))) = 4 then some (4) else (if (M 5 (Int32.toNatClampNeg (a1))) = 5 then (if ibd (a1) 10 then (if ((M 8 (Int32.toNatClampNeg (a1))) / 3) ≤ 2 then some (0) else (if ibd (a1) 10 then some ((((M 8 (Int32.toNatClampNeg (a1))) / 3) - 2)) else none)) else none) else none))))) else none)
set_option maxRecDepth 100000 in
set_option maxHeartbeats 4000000 in
theorem c_X11_high (l : Launch) {G : GT} {φ : Nat → Nat} {n : Nat} {M : Mem} {L : Nat → Int64} {a1 : Int32} (hI : wI φ n) (hn : 32 ≤ n) {r : Int32} (h : f_X11_high M a1 = some r) : CT l yX11_high cX11_high 2 (some .int) ({ frames := 0, cells := 0, slots := 0, locals := 0 } : Room) [.ref (φ 0), .int (a1)] (WB (cM G φ L) φ M n G) (some (.int r)) (WB (cM G φ L) φ (M) n G) φ n := by
  unfold f_X11_high at h
  refine r_start (plainFor_of_name (by decide)) (Nat.le_of_ble_eq_true rfl) hI ?_
  intro p e s m args below meth c ls X hr hlk hP hl
  have hS : va_S (wA φ n s.heap.size) s.heap s.heap [] := va_S.rf
  have hx := X.1.1
  have hb := X.1.2.1
  have hl : lv_has ls 2 [(0, .ref (φ 0)), (1, .int (a1))] := hl
  refine lv_aload_n hx hb dX11_high_0 rfl (lv_at hl 0 rfl) ?_
  refine G_X11_22 X.1 hn hP dX11_high_1 ?_
  refine lv_iload_n hx hb dX11_high_4 rfl (lv_at hl 1 rfl) ?_
  obtain ⟨c_1, h⟩ := og h
  refine r_iald (k := (Int32.toNatClampNeg (a1))) X.1 hP (by omega) sM_kind rfl (vin c_1) dX11_high_5 ?_
  by_cases c_2 : Int32.toInt ((M 5 (Int32.toNatClampNeg (a1)))) < 2 ∨ 5 < Int32.toInt ((M 5 (Int32.toNatClampNeg (a1))))
  · rw [if_pos c_2] at h
    refine lv_tableOut (tgt := 76) hx hb dX11_high_6 c_2 (by decide) ?_
    refine lv_iconst (v := 0) hx hb dX11_high_76 (by decide) ?_
    obtain rfl := Option.some.inj h
    exact W.iret hx hb hr (r_end X hP hS) hS.2.2 dX11_high_77 (hlocks := hlk)
  · rw [if_neg c_2] at h
    by_cases c_3 : (M 5 (Int32.toNatClampNeg (a1))) = 2
    · rw [if_pos c_3] at h
      refine lv_tableIn (tgt := 36) (off := 30) hx hb dX11_high_6 (fun q => c_2 (Or.inl q)) (fun q => c_2 (Or.inr q)) (by rw [c_3]; rfl) (by decide) ?_
      refine lv_iconst (v := 1) hx hb dX11_high_36 (by decide) ?_
      obtain rfl := Option.some.inj h
      exact W.iret hx hb hr (r_end X hP hS) hS.2.2 dX11_high_37 (hlocks := hlk)
    · rw [if_neg c_3] at h
      by_cases c_4 : (M 5 (Int32.toNatClampNeg (a1))) = 3
      · rw [if_pos c_4] at h
        refine lv_tableIn (tgt := 38) (off := 32) hx hb dX11_high_6 (fun q => c_2 (Or.inl q)) (fun q => c_2 (Or.inr q)) (by rw [c_4]; rfl) (by decide) ?_
        refine lv_aload_n hx hb dX11_high_38 rfl (lv_at hl 0 rfl) ?_
        refine G_X11_31 X.1 hn hP dX11_high_39 ?_
        refine lv_iload_n hx hb dX11_high_42 rfl (lv_at hl 1 rfl) ?_
        obtain ⟨c_5, h⟩ := og h
        refine r_iald (k := (Int32.toNatClampNeg (a1))) X.1 hP (by omega) sM_number rfl (vin c_5) dX11_high_43 ?_
        refine lv_iconst (v := 3) hx hb dX11_high_44 (by decide) ?_
        refine lv_idiv hx hb dX11_high_45 (by decide) ?_
        obtain rfl := Option.some.inj h
        exact W.iret hx hb hr (r_end X hP hS) hS.2.2 dX11_high_46 (hlocks := hlk)
      · rw [if_neg c_4] at h
        by_cases c_6 : (M 5 (Int32.toNatClampNeg (a1))) = 4
        · rw [if_pos c_6] at h
          refine lv_tableIn (tgt := 47) (off := 41) hx hb dX11_high_6 (fun q => c_2 (Or.inl q)) (fun q => c_2 (Or.inr q)) (by rw [c_6]; rfl) (by decide) ?_
          refine lv_iconst (v := 4) hx hb dX11_high_47 (by decide) ?_
          obtain rfl := Option.some.inj h
          exact W.iret hx hb hr (r_end X hP hS) hS.2.2 dX11_high_48 (hlocks := hlk)
        · rw [if_neg c_6] at h
          by_cases c_7 : (M 5 (Int32.toNatClampNeg (a1))) = 5
          · rw [if_pos c_7] at h
            refine lv_tableIn (tgt := 49) (off := 43) hx hb dX11_high_6 (fun q => c_2 (Or.inl q)) (fun q => c_2 (Or.inr q)) (by rw [c_7]; rfl) (by decide) ?_
            refine lv_aload_n hx hb dX11_high_49 rfl (lv_at hl 0 rfl) ?_
            refine G_X11_31 X.1 hn hP dX11_high_50 ?_
            refine lv_iload_n hx hb dX11_high_53 rfl (lv_at hl 1 rfl) ?_
            obtain ⟨c_8, h⟩ := og h
            refine r_iald (k := (Int32.toNatClampNeg (a1))) X.1 hP (by omega) sM_number rfl (vin c_8) dX11_high_54 ?_
            refine lv_iconst (v := 3) hx hb dX11_high_55 (by decide) ?_
            refine lv_idiv hx hb dX11_high_56 (by decide) ?_
            refine lv_iconst (v := 2) hx hb dX11_high_57 (by decide) ?_
            refine lv_icmp_le (tgt := 74) hx hb dX11_high_58 (by decide) (fun c_9 => ?_) (fun c_9 => ?_)
            · rw [if_pos c_9] at h
              refine lv_iconst (v := 0) hx hb dX11_high_74 (by decide) ?_
              obtain rfl := Option.some.inj h
              exact W.iret hx hb hr (r_end X hP hS) hS.2.2 dX11_high_75 (hlocks := hlk)
            · rw [if_neg c_9] at h
              refine lv_aload_n hx hb dX11_high_61 rfl (lv_at hl 0 rfl) ?_
              refine G_X11_31 X.1 hn hP dX11_high_62 ?_
              refine lv_iload_n hx hb dX11_high_65 rfl (lv_at hl 1 rfl) ?_
              obtain ⟨c_10, h⟩ := og h
              refine r_iald (k := (Int32.toNatClampNeg (a1))) X.1 hP (by omega) sM_number rfl (vin c_10) dX11_high_66 ?_
              refine lv_iconst (v := 3) hx hb dX11_high_67 (by decide) ?_
              refine lv_idiv hx hb dX11_high_68 (by decide) ?_
              refine lv_iconst (v := 2) hx hb dX11_high_69 (by decide) ?_
              refine lv_isub hx hb dX11_high_70 ?_
              refine lv_goto (tgt := 75) hx hb dX11_high_71 (by decide) ?_
              obtain rfl := Option.some.inj h
              exact W.iret hx hb hr (r_end X hP hS) hS.2.2 dX11_high_75 (hlocks := hlk)
          · rw [if_neg c_7] at h
            cases h

def f_X11_lasts (M : Mem) (a1 : Int32) : Option (Int32) :=
  (if ibd (a1) 10 then (if Int32.toInt ((M 5 (Int32.toNatClampNeg (a1)))) < 1 ∨ 5 < Int32.toInt ((M 5 (Int32.toNatClampNeg (a1)))) then some (12) else (if (M 5 (Int32.toNatClampNeg (a1))) = 1 then (if ibd (a1) 10 then some ((12 + (M 8 (Int32.toNatClampNeg (a1))))) else none) else (if (M 5 (Int32.toNatClampNeg (a1))) = 2 then some (24) else (if (M 5 (Int32.toNatClampNeg (a1))) = 3 then (if ibd (a1) 10 then some (((12 + (M 8 (Int32.toNatClampNeg (a1)))) / 2)) else none) else (if (M 5 (Int32.toNatClampNeg (a1))) = 4 then (if ibd (a1) 10 then some ((24 + (M 8 (Int32.toNatClampNeg (a1))))) else none) else (if (M 5 (Int32.toNatClampNeg (a1))) = 5 then (if ibd (a1) 10 then some (((12 + (M 8 (Int32.toNatClampNeg (a1)))) / 2)) else none) else none)))))) else none)
set_option maxRecDepth 100000 in
set_option maxHeartbeats 4000000 in
theorem c_X11_lasts (l : Launch) {G : GT} {φ : Nat → Nat} {n : Nat} {M : Mem} {L : Nat → Int64} {a1 : Int32} (hI : wI φ n) (hn : 32 ≤ n) {r : Int32} (h : f_X11_lasts M a1 = some r) : CT l yX11_lasts cX11_lasts 2 (some .int) ({ frames := 0, cells := 0, slots := 0, locals := 0 } : Room) [.ref (φ 0), .int (a1)] (WB (cM G φ L) φ M n G) (some (.int r)) (WB (cM G φ L) φ (M) n G) φ n := by
  unfold f_X11_lasts at h
  refine r_start (plainFor_of_name (by decide)) (Nat.le_of_ble_eq_true rfl) hI ?_
  intro p e s m args below meth c ls X hr hlk hP hl
  have hS : va_S (wA φ n s.heap.size) s.heap s.heap [] := va_S.rf
  have hx := X.1.1
  have hb := X.1.2.1
  have hl : lv_has ls 2 [(0, .ref (φ 0)), (1, .int (a1))] := hl
  refine lv_aload_n hx hb dX11_lasts_0 rfl (lv_at hl 0 rfl) ?_
  refine G_X11_22 X.1 hn hP dX11_lasts_1 ?_
  refine lv_iload_n hx hb dX11_lasts_4 rfl (lv_at hl 1 rfl) ?_
  obtain ⟨c_1, h⟩ := og h
  refine r_iald (k := (Int32.toNatClampNeg (a1))) X.1 hP (by omega) sM_kind rfl (vin c_1) dX11_lasts_5 ?_
  by_cases c_2 : Int32.toInt ((M 5 (Int32.toNatClampNeg (a1)))) < 1 ∨ 5 < Int32.toInt ((M 5 (Int32.toNatClampNeg (a1))))
  · rw [if_pos c_2] at h
    refine lv_tableOut (tgt := 87) hx hb dX11_lasts_6 c_2 (by decide) ?_
    refine lv_bipush (v := 12) hx hb dX11_lasts_87 (by decide) ?_
    obtain rfl := Option.some.inj h
    exact W.iret hx hb hr (r_end X hP hS) hS.2.2 dX11_lasts_89 (hlocks := hlk)
  · rw [if_neg c_2] at h
    by_cases c_3 : (M 5 (Int32.toNatClampNeg (a1))) = 1
    · rw [if_pos c_3] at h
      refine lv_tableIn (tgt := 40) (off := 34) hx hb dX11_lasts_6 (fun q => c_2 (Or.inl q)) (fun q => c_2 (Or.inr q)) (by rw [c_3]; rfl) (by decide) ?_
      refine lv_bipush (v := 12) hx hb dX11_lasts_40 (by decide) ?_
      refine lv_aload_n hx hb dX11_lasts_42 rfl (lv_at hl 0 rfl) ?_
      refine G_X11_31 X.1 hn hP dX11_lasts_43 ?_
      refine lv_iload_n hx hb dX11_lasts_46 rfl (lv_at hl 1 rfl) ?_
      obtain ⟨c_4, h⟩ := og h
      refine r_iald (k := (Int32.toNatClampNeg (a1))) X.1 hP (by omega) sM_number rfl (vin c_4) dX11_lasts_47 ?_
      refine lv_iadd hx hb dX11_lasts_48 ?_
      obtain rfl := Option.some.inj h
      exact W.iret hx hb hr (r_end X hP hS) hS.2.2 dX11_lasts_49 (hlocks := hlk)
    · rw [if_neg c_3] at h
      by_cases c_5 : (M 5 (Int32.toNatClampNeg (a1))) = 2
      · rw [if_pos c_5] at h
        refine lv_tableIn (tgt := 50) (off := 44) hx hb dX11_lasts_6 (fun q => c_2 (Or.inl q)) (fun q => c_2 (Or.inr q)) (by rw [c_5]; rfl) (by decide) ?_
        refine lv_bipush (v := 24) hx hb dX11_lasts_50 (by decide) ?_
        obtain rfl := Option.some.inj h
        exact W.iret hx hb hr (r_end X hP hS) hS.2.2 dX11_lasts_52 (hlocks := hlk)
      · rw [if_neg c_5] at h
        by_cases c_6 : (M 5 (Int32.toNatClampNeg (a1))) = 3
        · rw [if_pos c_6] at h
          refine lv_tableIn (tgt := 53) (off := 47) hx hb dX11_lasts_6 (fun q => c_2 (Or.inl q)) (fun q => c_2 (Or.inr q)) (by rw [c_6]; rfl) (by decide) ?_
          refine lv_bipush (v := 12) hx hb dX11_lasts_53 (by decide) ?_
          refine lv_aload_n hx hb dX11_lasts_55 rfl (lv_at hl 0 rfl) ?_
          refine G_X11_31 X.1 hn hP dX11_lasts_56 ?_
          refine lv_iload_n hx hb dX11_lasts_59 rfl (lv_at hl 1 rfl) ?_
          obtain ⟨c_7, h⟩ := og h
          refine r_iald (k := (Int32.toNatClampNeg (a1))) X.1 hP (by omega) sM_number rfl (vin c_7) dX11_lasts_60 ?_
          refine lv_iadd hx hb dX11_lasts_61 ?_
          refine lv_iconst (v := 2) hx hb dX11_lasts_62 (by decide) ?_
          refine lv_idiv hx hb dX11_lasts_63 (by decide) ?_
          obtain rfl := Option.some.inj h
          exact W.iret hx hb hr (r_end X hP hS) hS.2.2 dX11_lasts_64 (hlocks := hlk)
        · rw [if_neg c_6] at h
          by_cases c_8 : (M 5 (Int32.toNatClampNeg (a1))) = 4
          · rw [if_pos c_8] at h
            refine lv_tableIn (tgt := 65) (off := 59) hx hb dX11_lasts_6 (fun q => c_2 (Or.inl q)) (fun q => c_2 (Or.inr q)) (by rw [c_8]; rfl) (by decide) ?_
            refine lv_bipush (v := 24) hx hb dX11_lasts_65 (by decide) ?_
            refine lv_aload_n hx hb dX11_lasts_67 rfl (lv_at hl 0 rfl) ?_
            refine G_X11_31 X.1 hn hP dX11_lasts_68 ?_
            refine lv_iload_n hx hb dX11_lasts_71 rfl (lv_at hl 1 rfl) ?_
            obtain ⟨c_9, h⟩ := og h
            refine r_iald (k := (Int32.toNatClampNeg (a1))) X.1 hP (by omega) sM_number rfl (vin c_9) dX11_lasts_72 ?_
            refine lv_iadd hx hb dX11_lasts_73 ?_
            obtain rfl := Option.some.inj h
            exact W.iret hx hb hr (r_end X hP hS) hS.2.2 dX11_lasts_74 (hlocks := hlk)
          · rw [if_neg c_8] at h
            by_cases c_10 : (M 5 (Int32.toNatClampNeg (a1))) = 5
            · rw [if_pos c_10] at h
              refine lv_tableIn (tgt := 75) (off := 69) hx hb dX11_lasts_6 (fun q => c_2 (Or.inl q)) (fun q => c_2 (Or.inr q)) (by rw [c_10]; rfl) (by decide) ?_
              refine lv_bipush (v := 12) hx hb dX11_lasts_75 (by decide) ?_
              refine lv_aload_n hx hb dX11_lasts_77 rfl (lv_at hl 0 rfl) ?_
              refine G_X11_31 X.1 hn hP dX11_lasts_78 ?_
              refine lv_iload_n hx hb dX11_lasts_81 rfl (lv_at hl 1 rfl) ?_
              obtain ⟨c_11, h⟩ := og h
              refine r_iald (k := (Int32.toNatClampNeg (a1))) X.1 hP (by omega) sM_number rfl (vin c_11) dX11_lasts_82 ?_
              refine lv_iadd hx hb dX11_lasts_83 ?_
              refine lv_iconst (v := 2) hx hb dX11_lasts_84 (by decide) ?_
              refine lv_idiv hx hb dX11_lasts_85 (by decide) ?_
              obtain rfl := Option.some.inj h
              exact W.iret hx hb hr (r_end X hP hS) hS.2.2 dX11_lasts_86 (hlocks := hlk)
            · rw [if_neg c_10] at h
              cases h

def f_X11_asks (M : Mem) (a1 : Int32) : Option (Int32) :=
  (if ibd (a1) 10 then (if (M 5 (Int32.toNatClampNeg (a1))) = 2 then some (1) else (if ibd (a1) 10 then (if (M 5 (Int32.toNatClampNeg (a1))) = 4 then some (2) else some (0)) else none)) else none)
set_option maxRecDepth 100000 in
set_option maxHeartbeats 4000000 in
theorem c_X11_asks (l : Launch) {G : GT} {φ : Nat → Nat} {n : Nat} {M : Mem} {L : Nat → Int64} {a1 : Int32} (hI : wI φ n) (hn : 32 ≤ n) {r : Int32} (h : f_X11_asks M a1 = some r) : CT l yX11_asks cX11_asks 2 (some .int) ({ frames := 0, cells := 0, slots := 0, locals := 0 } : Room) [.ref (φ 0), .int (a1)] (WB (cM G φ L) φ M n G) (some (.int r)) (WB (cM G φ L) φ (M) n G) φ n := by
  unfold f_X11_asks at h
  refine r_start (plainFor_of_name (by decide)) (Nat.le_of_ble_eq_true rfl) hI ?_
  intro p e s m args below meth c ls X hr hlk hP hl
  have hS : va_S (wA φ n s.heap.size) s.heap s.heap [] := va_S.rf
  have hx := X.1.1
  have hb := X.1.2.1
  have hl : lv_has ls 2 [(0, .ref (φ 0)), (1, .int (a1))] := hl
  refine lv_aload_n hx hb dX11_asks_0 rfl (lv_at hl 0 rfl) ?_
  refine G_X11_22 X.1 hn hP dX11_asks_1 ?_
  refine lv_iload_n hx hb dX11_asks_4 rfl (lv_at hl 1 rfl) ?_
  obtain ⟨c_1, h⟩ := og h
  refine r_iald (k := (Int32.toNatClampNeg (a1))) X.1 hP (by omega) sM_kind rfl (vin c_1) dX11_asks_5 ?_
  refine lv_iconst (v := 2) hx hb dX11_asks_6 (by decide) ?_
  refine lv_icmp_ne (tgt := 14) hx hb dX11_asks_7 (by decide) (fun c_2 => ?_) (fun c_2 => ?_)
  · rw [if_neg c_2] at h
    refine lv_aload_n hx hb dX11_asks_14 rfl (lv_at hl 0 rfl) ?_
    refine G_X11_22 X.1 hn hP dX11_asks_15 ?_
    refine lv_iload_n hx hb dX11_asks_18 rfl (lv_at hl 1 rfl) ?_
    obtain ⟨c_3, h⟩ := og h
    refine r_iald (k := (Int32.toNatClampNeg (a1))) X.1 hP (by omega) sM_kind rfl (vin c_3) dX11_asks_19 ?_
    refine lv_iconst (v := 4) hx hb dX11_asks_20 (by decide) ?_
    refine lv_icmp_ne (tgt := 28) hx hb dX11_asks_21 (by decide) (fun c_4 => ?_) (fun c_4 => ?_)
    · rw [if_neg c_4] at h
      refine lv_iconst (v := 0) hx hb dX11_asks_28 (by decide) ?_
      obtain rfl := Option.some.inj h
      exact W.iret hx hb hr (r_end X hP hS) hS.2.2 dX11_asks_29 (hlocks := hlk)
    · rw [if_pos c_4] at h
      refine lv_iconst (v := 2) hx hb dX11_asks_24 (by decide) ?_
      refine lv_goto (tgt := 29) hx hb dX11_asks_25 (by decide) ?_
      obtain rfl := Option.some.inj h
      exact W.iret hx hb hr (r_end X hP hS) hS.2.2 dX11_asks_29 (hlocks := hlk)
  · rw [if_pos c_2] at h
    refine lv_iconst (v := 1) hx hb dX11_asks_10 (by decide) ?_
    refine lv_goto (tgt := 29) hx hb dX11_asks_11 (by decide) ?_
    obtain rfl := Option.some.inj h
    exact W.iret hx hb hr (r_end X hP hS) hS.2.2 dX11_asks_29 (hlocks := hlk)

def f_X11_tells (M : Mem) (a1 : Int32) : Option (Int32) :=
  (if ibd (a1) 10 then (if (M 5 (Int32.toNatClampNeg (a1))) = 1 then some (1) else (if ibd (a1) 10 then (if (M 5 (Int32.toNatClampNeg (a1))) = 3 then some (2) else (if ibd (a1) 10 then (if (M 5 (Int32.toNatClampNeg (a1))) = 5 then some (2) else some (0)) else none)) else none)) else none)
set_option maxRecDepth 100000 in
set_option maxHeartbeats 4000000 in
theorem c_X11_tells (l : Launch) {G : GT} {φ : Nat → Nat} {n : Nat} {M : Mem} {L : Nat → Int64} {a1 : Int32} (hI : wI φ n) (hn : 32 ≤ n) {r : Int32} (h : f_X11_tells M a1 = some r) : CT l yX11_tells cX11_tells 2 (some .int) ({ frames := 0, cells := 0, slots := 0, locals := 0 } : Room) [.ref (φ 0), .int (a1)] (WB (cM G φ L) φ M n G) (some (.int r)) (WB (cM G φ L) φ (M) n G) φ n := by
  unfold f_X11_tells at h
  refine r_start (plainFor_of_name (by decide)) (Nat.le_of_ble_eq_true rfl) hI ?_
  intro p e s m args below meth c ls X hr hlk hP hl
  have hS : va_S (wA φ n s.heap.size) s.heap s.heap [] := va_S.rf
  have hx := X.1.1
  have hb := X.1.2.1
  have hl : lv_has ls 2 [(0, .ref (φ 0)), (1, .int (a1))] := hl
  refine lv_aload_n hx hb dX11_tells_0 rfl (lv_at hl 0 rfl) ?_
  refine G_X11_22 X.1 hn hP dX11_tells_1 ?_
  refine lv_iload_n hx hb dX11_tells_4 rfl (lv_at hl 1 rfl) ?_
  obtain ⟨c_1, h⟩ := og h
  refine r_iald (k := (Int32.toNatClampNeg (a1))) X.1 hP (by omega) sM_kind rfl (vin c_1) dX11_tells_5 ?_
  refine lv_iconst (v := 1) hx hb dX11_tells_6 (by decide) ?_
  refine lv_icmp_ne (tgt := 14) hx hb dX11_tells_7 (by decide) (fun c_2 => ?_) (fun c_2 => ?_)
  · rw [if_neg c_2] at h
    refine lv_aload_n hx hb dX11_tells_14 rfl (lv_at hl 0 rfl) ?_
    refine G_X11_22 X.1 hn hP dX11_tells_15 ?_
    refine lv_iload_n hx hb dX11_tells_18 rfl (lv_at hl 1 rfl) ?_
    obtain ⟨c_3, h⟩ := og h
    refine r_iald (k := (Int32.toNatClampNeg (a1))) X.1 hP (by omega) sM_kind rfl (vin c_3) dX11_tells_19 ?_
    refine lv_iconst (v := 3) hx hb dX11_tells_20 (by decide) ?_
    refine lv_icmp_eq (tgt := 34) hx hb dX11_tells_21 (by decide) (fun c_4 => ?_) (fun c_4 => ?_)
    · rw [if_pos c_4] at h
      refine lv_iconst (v := 2) hx hb dX11_tells_34 (by decide) ?_
      refine lv_goto (tgt := 39) hx hb dX11_tells_35 (by decide) ?_
      obtain rfl := Option.some.inj h
      exact W.iret hx hb hr (r_end X hP hS) hS.2.2 dX11_tells_39 (hlocks := hlk)
    · rw [if_neg c_4] at h
      refine lv_aload_n hx hb dX11_tells_24 rfl (lv_at hl 0 rfl) ?_
      refine G_X11_22 X.1 hn hP dX11_tells_25 ?_
      refine lv_iload_n hx hb dX11_tells_28 rfl (lv_at hl 1 rfl) ?_
      obtain ⟨c_5, h⟩ := og h
      refine r_iald (k := (Int32.toNatClampNeg (a1))) X.1 hP (by omega) sM_kind rfl (vin c_5) dX11_tells_29 ?_
      refine lv_iconst (v := 5) hx hb dX11_tells_30 (by decide) ?_
      refine lv_icmp_ne (tgt := 38) hx hb dX11_tells_31 (by decide) (fun c_6 => ?_) (fun c_6 => ?_)
      · rw [if_neg c_6] at h
        refine lv_iconst (v := 0) hx hb dX11_tells_38 (by decide) ?_
        obtain rfl := Option.some.inj h
        exact W.iret hx hb hr (r_end X hP hS) hS.2.2 dX11_tells_39 (hlocks := hlk)
      · rw [if_pos c_6] at h
        refine lv_iconst (v := 2) hx hb dX11_tells_34 (by decide) ?_
        refine lv_goto (tgt := 39) hx hb dX11_tells_35 (by decide) ?_
        obtain rfl := Option.some.inj h
        exact W.iret hx hb hr (r_end X hP hS) hS.2.2 dX11_tells_39 (hlocks := hlk)
  · rw [if_pos c_2] at h
    refine lv_iconst (v := 1) hx hb dX11_tells_10 (by decide) ?_
    refine lv_goto (tgt := 39) hx hb dX11_tells_11 (by decide) ?_
    obtain rfl := Option.some.inj h
    exact W.iret hx hb hr (r_end X hP hS) hS.2.2 dX11_tells_39 (hlocks := hlk)

def f_X11_told (M : Mem) (a1 : Int32) (a2 : Int32) : Option (Int32) :=
  (if (f_X11_isNote M (a1)) = 0 then some ((-2)) else (if Int32.toInt (a2) < 0 ∨ 7 < Int32.toInt (a2) then some ((-2)) else (if a2 = 0 then (if ibd (a1) 10 then some ((M 5 (Int32.toNatClampNeg (a1)))) else none) else (if a2 = 1 then (if ibd (a1) 10 then some ((M 6 (Int32.toNatClampNeg (a1)))) else none) else (if a2 = 2 then (if ibd (a1) 10 then some ((M 7 (Int32.toNatClampNeg (a1)))) else none) else (if a2 = 3 then (if ibd (a1) 10 then some ((M 8 (Int32.toNatClampNeg (a1)))) else none) else (if a2 = 4 then (Option.bind (f_X11_high M (a1)) fun r_12 => some (r_12)) else (if a2 = 5 then (Option.bind (f_X11_lasts M (a1)) fun r_14 => some (r_14)) else (if a2 = 6 then (Option.bind (f_X11_asks M (a1)) fun r_16 => some (r_16)) else (if a2 = 7 then (Option.bind (f_X11_tells M (a1)) fun r_18 => some (r_18)) else none))))))))))
set_option maxRecDepth 100000 in
set_option maxHeartbeats 4000000 in
theorem c_X11_told (l : Launch) {G : GT} {φ : Nat → Nat} {n : Nat} {M : Mem} {L : Nat → Int64} {a1 : Int32} {a2 : Int32} (hI : wI φ n) (hn : 32 ≤ n) {r : Int32} (h : f_X11_told M a1 a2 = some r) : CT l yX11_told cX11_told 3 (some .int) ({ frames := 2, cells := 0, slots := 0, locals := 43 } : Room) [.ref (φ 0), .int (a1), .int (a2)] (WB (cM G φ L) φ M n G) (some (.int r)) (WB (cM G φ L) φ (M) n G) φ n := by
  unfold f_X11_told at h
  refine r_start (plainFor_of_name (by decide)) (Nat.le_of_ble_eq_true rfl) hI ?_
  intro p e s m args below meth c ls X hr hlk hP hl
  have hS : va_S (wA φ n s.heap.size) s.heap s.heap [] := va_S.rf
  have hx := X.1.1
  have hb := X.1.2.1
  have hl : lv_has ls 3 [(0, .ref (φ 0)), (1, .int (a1)), (2, .int (a2))] := hl
  refine lv_aload_n hx hb dX11_told_0 rfl (lv_at hl 0 rfl) ?_
  refine lv_iload_n hx hb dX11_told_1 rfl (lv_at hl 1 rfl) ?_
  refine c_V0 (As := [.int (a1)]) (rest := []) (a := 0) X hl.1 (c_X11_isNote l X.2.2.2.1.1 hn rfl) (w_X11_134) qw_1165 qw_44 ⟨Nat.le_of_ble_eq_true rfl, Nat.le_of_ble_eq_true rfl⟩ rfl rfl hP hS (by omega) sM_Model rfl rfl (Nat.le_of_ble_eq_true rfl) dX11_told_2 (fun H locs hP hS => ?_)
  refine lv_if_ne (tgt := 11) hx hb dX11_told_5 (by decide) (fun c_1 => ?_) (fun c_1 => ?_)
  · rw [if_neg c_1] at h
    refine lv_iload_n hx hb dX11_told_11 rfl (lv_at hl 2 rfl) ?_
    by_cases c_2 : Int32.toInt (a2) < 0 ∨ 7 < Int32.toInt (a2)
    · rw [if_pos c_2] at h
      refine lv_tableOut (tgt := 112) hx hb dX11_told_12 c_2 (by decide) ?_
      refine lv_bipush (v := (-2)) hx hb dX11_told_112 (by decide) ?_
      obtain rfl := Option.some.inj h
      exact W.iret hx hb hr (r_end X hP hS) hS.2.2 dX11_told_114 (hlocks := hlk)
    · rw [if_neg c_2] at h
      by_cases c_3 : a2 = 0
      · rw [if_pos c_3] at h
        refine lv_tableIn (tgt := 60) (off := 48) hx hb dX11_told_12 (fun q => c_2 (Or.inl q)) (fun q => c_2 (Or.inr q)) (by rw [c_3]; rfl) (by decide) ?_
        refine lv_aload_n hx hb dX11_told_60 rfl (lv_at hl 0 rfl) ?_
        refine G_X11_22 X.1 hn hP dX11_told_61 ?_
        refine lv_iload_n hx hb dX11_told_64 rfl (lv_at hl 1 rfl) ?_
        obtain ⟨c_4, h⟩ := og h
        refine r_iald (k := (Int32.toNatClampNeg (a1))) X.1 hP (by omega) sM_kind rfl (vin c_4) dX11_told_65 ?_
        obtain rfl := Option.some.inj h
        exact W.iret hx hb hr (r_end X hP hS) hS.2.2 dX11_told_66 (hlocks := hlk)
      · rw [if_neg c_3] at h
        by_cases c_5 : a2 = 1
        · rw [if_pos c_5] at h
          refine lv_tableIn (tgt := 67) (off := 55) hx hb dX11_told_12 (fun q => c_2 (Or.inl q)) (fun q => c_2 (Or.inr q)) (by rw [c_5]; rfl) (by decide) ?_
          refine lv_aload_n hx hb dX11_told_67 rfl (lv_at hl 0 rfl) ?_
          refine G_X11_25 X.1 hn hP dX11_told_68 ?_
          refine lv_iload_n hx hb dX11_told_71 rfl (lv_at hl 1 rfl) ?_
          obtain ⟨c_6, h⟩ := og h
          refine r_iald (k := (Int32.toNatClampNeg (a1))) X.1 hP (by omega) sM_hour rfl (vin c_6) dX11_told_72 ?_
          obtain rfl := Option.some.inj h
          exact W.iret hx hb hr (r_end X hP hS) hS.2.2 dX11_told_73 (hlocks := hlk)
        · rw [if_neg c_5] at h
          by_cases c_7 : a2 = 2
          · rw [if_pos c_7] at h
            refine lv_tableIn (tgt := 74) (off := 62) hx hb dX11_told_12 (fun q => c_2 (Or.inl q)) (fun q => c_2 (Or.inr q)) (by rw [c_7]; rfl) (by decide) ?_
            refine lv_aload_n hx hb dX11_told_74 rfl (lv_at hl 0 rfl) ?_
            refine G_X11_28 X.1 hn hP dX11_told_75 ?_
            refine lv_iload_n hx hb dX11_told_78 rfl (lv_at hl 1 rfl) ?_
            obtain ⟨c_8, h⟩ := og h
            refine r_iald (k := (Int32.toNatClampNeg (a1))) X.1 hP (by omega) sM_thing rfl (vin c_8) dX11_told_79 ?_
            obtain rfl := Option.some.inj h
            exact W.iret hx hb hr (r_end X hP hS) hS.2.2 dX11_told_80 (hlocks := hlk)
          · rw [if_neg c_7] at h
            by_cases c_9 : a2 = 3
            · rw [if_pos c_9] at h
              refine lv_tableIn (tgt := 81) (off := 69) hx hb dX11_told_12 (fun q => c_2 (Or.inl q)) (fun q => c_2 (Or.inr q)) (by rw [c_9]; rfl) (by decide) ?_
              refine lv_aload_n hx hb dX11_told_81 rfl (lv_at hl 0 rfl) ?_
              refine G_X11_31 X.1 hn hP dX11_told_82 ?_
              refine lv_iload_n hx hb dX11_told_85 rfl (lv_at hl 1 rfl) ?_
              obtain ⟨c_10, h⟩ := og h
              refine r_iald (k := (Int32.toNatClampNeg (a1))) X.1 hP (by omega) sM_number rfl (vin c_10) dX11_told_86 ?_
              obtain rfl := Option.some.inj h
              exact W.iret hx hb hr (r_end X hP hS) hS.2.2 dX11_told_87 (hlocks := hlk)
            · rw [if_neg c_9] at h
              by_cases c_11 : a2 = 4
              · rw [if_pos c_11] at h
                refine lv_tableIn (tgt := 88) (off := 76) hx hb dX11_told_12 (fun q => c_2 (Or.inl q)) (fun q => c_2 (Or.inr q)) (by rw [c_11]; rfl) (by decide) ?_
                refine lv_aload_n hx hb dX11_told_88 rfl (lv_at hl 0 rfl) ?_
                refine lv_iload_n hx hb dX11_told_89 rfl (lv_at hl 1 rfl) ?_
                obtain ⟨r_12, hr_12, h⟩ := ob h
                refine c_V0 (As := [.int (a1)]) (rest := []) (a := 0) X hl.1 (c_X11_high l X.2.2.2.1.1 hn hr_12) (w_X11_141) qw_1177 qw_46 ⟨Nat.le_of_ble_eq_true rfl, Nat.le_of_ble_eq_true rfl⟩ rfl rfl hP hS (by omega) sM_Model rfl rfl (Nat.le_of_ble_eq_true rfl) dX11_told_90 (fun H locs hP hS => ?_)
                obtain rfl := Option.some.inj h
                exact W.iret hx hb hr (r_end X hP hS) hS.2.2 dX11_told_93 (hlocks := hlk)
              · rw [if_neg c_11] at h
                by_cases c_13 : a2 = 5
                · rw [if_pos c_13] at h
                  refine lv_tableIn (tgt := 94) (off := 82) hx hb dX11_told_12 (fun q => c_2 (Or.inl q)) (fun q => c_2 (Or.inr q)) (by rw [c_13]; rfl) (by decide) ?_
                  refine lv_aload_n hx hb dX11_told_94 rfl (lv_at hl 0 rfl) ?_
                  refine lv_iload_n hx hb dX11_told_95 rfl (lv_at hl 1 rfl) ?_
                  obtain ⟨r_14, hr_14, h⟩ := ob h
                  refine c_V0 (As := [.int (a1)]) (rest := []) (a := 0) X hl.1 (c_X11_lasts l X.2.2.2.1.1 hn hr_14) (w_X11_144) qw_1181 qw_47 ⟨Nat.le_of_ble_eq_true rfl, Nat.le_of_ble_eq_true rfl⟩ rfl rfl hP hS (by omega) sM_Model rfl rfl (Nat.le_of_ble_eq_true rfl) dX11_told_96 (fun H locs hP hS => ?_)
                  obtain rfl := Option.some.inj h
                  exact W.iret hx hb hr (r_end X hP hS) hS.2.2 dX11_told_99 (hlocks := hlk)
                · rw [if_neg c_13] at h
                  by_cases c_15 : a2 = 6
                  · rw [if_pos c_15] at h
                    refine lv_tableIn (tgt := 100) (off := 88) hx hb dX11_told_12 (fun q => c_2 (Or.inl q)) (fun q => c_2 (Or.inr q)) (by rw [c_15]; rfl) (by decide) ?_
                    refine lv_aload_n hx hb dX11_told_100 rfl (lv_at hl 0 rfl) ?_
                    refine lv_iload_n hx hb dX11_told_101 rfl (lv_at hl 1 rfl) ?_
                    obtain ⟨r_16, hr_16, h⟩ := ob h
                    refine c_V0 (As := [.int (a1)]) (rest := []) (a := 0) X hl.1 (c_X11_asks l X.2.2.2.1.1 hn hr_16) (w_X11_147) qw_1185 qw_48 ⟨Nat.le_of_ble_eq_true rfl, Nat.le_of_ble_eq_true rfl⟩ rfl rfl hP hS (by omega) sM_Model rfl rfl (Nat.le_of_ble_eq_true rfl) dX11_told_102 (fun H locs hP hS => ?_)
                    obtain rfl := Option.some.inj h
                    exact W.iret hx hb hr (r_end X hP hS) hS.2.2 dX11_told_105 (hlocks := hlk)
                  · rw [if_neg c_15] at h
                    by_cases c_17 : a2 = 7
                    · rw [if_pos c_17] at h
                      refine lv_tableIn (tgt := 106) (off := 94) hx hb dX11_told_12 (fun q => c_2 (Or.inl q)) (fun q => c_2 (Or.inr q)) (by rw [c_17]; rfl) (by decide) ?_
                      refine lv_aload_n hx hb dX11_told_106 rfl (lv_at hl 0 rfl) ?_
                      refine lv_iload_n hx hb dX11_told_107 rfl (lv_at hl 1 rfl) ?_
                      obtain ⟨r_18, hr_18, h⟩ := ob h
                      refine c_V0 (As := [.int (a1)]) (rest := []) (a := 0) X hl.1 (c_X11_tells l X.2.2.2.1.1 hn hr_18) (w_X11_150) qw_1189 qw_49 ⟨Nat.le_of_ble_eq_true rfl, Nat.le_of_ble_eq_true rfl⟩ rfl rfl hP hS (by omega) sM_Model rfl rfl (Nat.le_of_ble_eq_true rfl) dX11_told_108 (fun H locs hP hS => ?_)
                      obtain rfl := Option.some.inj h
                      exact W.iret hx hb hr (r_end X hP hS) hS.2.2 dX11_told_111 (hlocks := hlk)
                    · rw [if_neg c_17] at h
                      cases h
  · rw [if_pos c_1] at h
    refine lv_bipush (v := (-2)) hx hb dX11_told_8 (by decide) ?_
    obtain rfl := Option.some.inj h
    exact W.iret hx hb hr (r_end X hP hS) hS.2.2 dX11_told_10 (hlocks := hlk)

def f_X11_feed (M : Mem) (a1 : Int32) : Option (Int32 × Mem) :=
  (if (f_X11_within (a1) (0) (255)) = 0 then some (((-2), M)) else (if (M 0 13) = 160 then some (((-4), M)) else (if ibd ((M 0 13)) 160 then some ((((upd2 (upd2 M 0 13 (((M 0 13) + 1))) 11 (Int32.toNatClampNeg ((M 0 13))) (a1)) 0 13), (upd2 (upd2 M 0 13 (((M 0 13) + 1))) 11 (Int32.toNatClampNeg ((M 0 13))) (a1)))) else none)))
set_option maxRecDepth 100000 in
set_option maxHeartbeats 4000000 in
theorem c_X11_feed (l : Launch) {G : GT} {φ : Nat → Nat} {n : Nat} {M : Mem} {L : Nat → Int64} {a1 : Int32} (hI : wI φ n) (hn : 32 ≤ n) {r : Int32 × Mem} (h : f_X11_feed M a1 = some r) : CT l yX11_feed cX11_feed 2 (some .int) ({ frames := 1, cells := 0, slots := 0, locals := 22 } : Room) [.ref (φ 0), .int (a1)] (WB (cM G φ L) φ M n G) (some (.int r.1)) (WB (cM G φ L) φ (r.2) n G) φ n := by
  unfold f_X11_feed at h
  refine r_start (plainFor_of_name (by decide)) (Nat.le_of_ble_eq_true rfl) hI ?_
  intro p e s m args below meth c ls X hr hlk hP hl
  have hS : va_S (wA φ n s.heap.size) s.heap s.heap [] := va_S.rf
  have hx := X.1.1
  have hb := X.1.2.1
  have hl : lv_has ls 2 [(0, .ref (φ 0)), (1, .int (a1))] := hl
  refine lv_iload_n hx hb dX11_feed_0 rfl (lv_at hl 1 rfl) ?_
  refine lv_iconst (v := 0) hx hb dX11_feed_1 (by decide) ?_
  refine lv_sipush (v := 255) hx hb dX11_feed_2 (by decide) ?_
  refine c_S0 (As := [.int (a1), .int (0), .int (255)]) (rest := []) X hl.1 (c_X11_within l X.2.2.2.1.1 hn rfl) (w_X11_127) qw_933 ⟨Nat.le_of_ble_eq_true rfl, Nat.le_of_ble_eq_true rfl⟩ rfl rfl hP hS (Nat.le_of_ble_eq_true rfl) dX11_feed_5 (fun H locs hP hS => ?_)
  refine lv_if_ne (tgt := 14) hx hb dX11_feed_8 (by decide) (fun c_1 => ?_) (fun c_1 => ?_)
  · rw [if_neg c_1] at h
    refine lv_aload_n hx hb dX11_feed_14 rfl (lv_at hl 0 rfl) ?_
    refine G_X11_153 X.1 hn hP dX11_feed_15 ?_
    refine lv_sipush (v := 160) hx hb dX11_feed_18 (by decide) ?_
    refine lv_icmp_ne (tgt := 27) hx hb dX11_feed_21 (by decide) (fun c_2 => ?_) (fun c_2 => ?_)
    · rw [if_neg c_2] at h
      refine lv_aload_n hx hb dX11_feed_27 rfl (lv_at hl 0 rfl) ?_
      refine G_X11_40 X.1 hn hP dX11_feed_28 ?_
      refine lv_aload_n hx hb dX11_feed_31 rfl (lv_at hl 0 rfl) ?_
      refine lv_dup hx hb dX11_feed_32 rfl ?_
      refine G_X11_153 X.1 hn hP dX11_feed_33 ?_
      refine lv_dup_x1 hx hb dX11_feed_36 rfl rfl ?_
      refine lv_iconst (v := 1) hx hb dX11_feed_37 (by decide) ?_
      refine lv_iadd hx hb dX11_feed_38 ?_
      refine P_X11_153 X.1 hn X.2.2.2.1 hP hS dX11_feed_39 (fun H locs hP hS => ?_)
      refine lv_iload_n hx hb dX11_feed_42 rfl (lv_at hl 1 rfl) ?_
      obtain ⟨c_3, h⟩ := og h
      refine r_iast (k := (Int32.toNatClampNeg ((M 0 13)))) X.1 X.2.2.2.1 hP hS (by omega) sM_tape rfl (vin c_3) dX11_feed_43 (fun H locs hP hS => ?_)
      refine lv_aload_n hx hb dX11_feed_44 rfl (lv_at hl 0 rfl) ?_
      refine G_X11_153 X.1 hn hP dX11_feed_45 ?_
      obtain rfl := Option.some.inj h
      exact W.iret hx hb hr (r_end X hP hS) hS.2.2 dX11_feed_48 (hlocks := hlk)
    · rw [if_pos c_2] at h
      refine lv_bipush (v := (-4)) hx hb dX11_feed_24 (by decide) ?_
      obtain rfl := Option.some.inj h
      exact W.iret hx hb hr (r_end X hP hS) hS.2.2 dX11_feed_26 (hlocks := hlk)
  · rw [if_pos c_1] at h
    refine lv_bipush (v := (-2)) hx hb dX11_feed_11 (by decide) ?_
    obtain rfl := Option.some.inj h
    exact W.iret hx hb hr (r_end X hP hS) hS.2.2 dX11_feed_13 (hlocks := hlk)

def f_X11_part (M : Mem) (k1 : Nat) (a2 : Int32) : Option (Int32 × Mem) :=
  (Option.bind (f_X11_is M k1) fun r_1 => (if r_1 = 0 then some ((0, M)) else (Option.bind (f_X11_next M) fun r_3 => (if ibd (((4 * (r_3 0 15)) + a2)) 24 then (Option.bind (f_X11_rec 8 0 (upd2 r_3 13 (Int32.toNatClampNeg (((4 * (r_3 0 15)) + a2))) ((r_3 0 19)))) fun r_5 => (if r_5.1 = 0 then some ((0, r_5.2)) else (if (f_X11_is_ r_5.2 (59)) = 0 then some ((0, r_5.2)) else (Option.bind (f_X11_next r_5.2) fun r_8 => some ((1, r_8)))))) else none))))
set_option maxRecDepth 100000 in
set_option maxHeartbeats 4000000 in
theorem c_X11_part (l : Launch) {G : GT} {φ : Nat → Nat} {n : Nat} {M : Mem} {L : Nat → Int64} {k1 : Nat} {a2 : Int32} (hI : wI φ n) (hn : 32 ≤ n) (hk1 : k1 < 13) {r : Int32 × Mem} (h : f_X11_part M k1 a2 = some r) : CT l yX11_part cX11_part 3 (some .boolean) ({ frames := 89, cells := 0, slots := 0, locals := 1860 } : Room) [.ref (φ 0), .ref (saS G k1), .int (a2)] (WB (cM G φ L) φ M n G) (some (.int r.1)) (WB (cM G φ L) φ (r.2) n G) φ n := by
  unfold f_X11_part at h
  refine r_start (plainFor_of_name (by decide)) (Nat.le_of_ble_eq_true rfl) hI ?_
  intro p e s m args below meth c ls X hr hlk hP hl
  have hS : va_S (wA φ n s.heap.size) s.heap s.heap [] := va_S.rf
  have hx := X.1.1
  have hb := X.1.2.1
  have hl : lv_has ls 3 [(0, .ref (φ 0)), (1, .ref (saS G k1)), (2, .int (a2))] := hl
  refine lv_aload_n hx hb dX11_part_0 rfl (lv_at hl 0 rfl) ?_
  refine lv_aload_n hx hb dX11_part_1 rfl (lv_at hl 1 rfl) ?_
  obtain ⟨r_1, hr_1, h⟩ := ob h
  refine c_V0 (As := [.ref (saS G k1)]) (rest := []) (a := 0) X hl.1 (c_X11_is l X.2.2.2.1.1 hn hk1 hr_1) (w_X11_176) qw_956 qw_34 ⟨Nat.le_of_ble_eq_true rfl, Nat.le_of_ble_eq_true rfl⟩ rfl rfl hP hS (by omega) sM_Model rfl rfl (Nat.le_of_ble_eq_true rfl) dX11_part_2 (fun H locs hP hS => ?_)
  refine lv_if_ne (tgt := 10) hx hb dX11_part_5 (by decide) (fun c_2 => ?_) (fun c_2 => ?_)
  · rw [if_neg c_2] at h
    refine lv_aload_n hx hb dX11_part_10 rfl (lv_at hl 0 rfl) ?_
    obtain ⟨r_3, hr_3, h⟩ := ob h
    refine c_V0 (As := []) (rest := []) (a := 0) X hl.1 (c_X11_next l X.2.2.2.1.1 hn hr_3) (w_X11_199) qw_941 qw_32 ⟨Nat.le_of_ble_eq_true rfl, Nat.le_of_ble_eq_true rfl⟩ rfl rfl hP hS (by omega) sM_Model rfl rfl (Nat.le_of_ble_eq_true rfl) dX11_part_11 (fun H locs hP hS => ?_)
    refine lv_aload_n hx hb dX11_part_14 rfl (lv_at hl 0 rfl) ?_
    refine G_X11_46 X.1 hn hP dX11_part_15 ?_
    refine lv_iconst (v := 4) hx hb dX11_part_18 (by decide) ?_
    refine lv_aload_n hx hb dX11_part_19 rfl (lv_at hl 0 rfl) ?_
    refine G_X11_187 X.1 hn hP dX11_part_20 ?_
    refine lv_imul hx hb dX11_part_23 ?_
    refine lv_iload_n hx hb dX11_part_24 rfl (lv_at hl 2 rfl) ?_
    refine lv_iadd hx hb dX11_part_25 ?_
    refine lv_aload_n hx hb dX11_part_26 rfl (lv_at hl 0 rfl) ?_
    refine G_X11_190 X.1 hn hP dX11_part_27 ?_
    obtain ⟨c_4, h⟩ := og h
    refine r_iast (k := (Int32.toNatClampNeg (((4 * (r_3 0 15)) + a2)))) X.1 X.2.2.2.1 hP hS (by omega) sM_begins rfl (vin c_4) dX11_part_30 (fun H locs hP hS => ?_)
    refine lv_aload_n hx hb dX11_part_31 rfl (lv_at hl 0 rfl) ?_
    obtain ⟨r_5, hr_5, h⟩ := ob h
    refine c_V0 (As := []) (rest := []) (a := 0) X hl.1 (c_X11_anyD l X.2.2.2.1.1 hn 8 hr_5) (w_X11_230) qw_960 qw_35 ⟨Nat.le_of_ble_eq_true rfl, Nat.le_of_ble_eq_true rfl⟩ rfl rfl hP hS (by omega) sM_Model rfl rfl (Nat.le_of_ble_eq_true rfl) dX11_part_32 (fun H locs hP hS => ?_)
    refine lv_if_eq (tgt := 47) hx hb dX11_part_35 (by decide) (fun c_6 => ?_) (fun c_6 => ?_)
    · rw [if_pos c_6] at h
      refine lv_iconst (v := 0) hx hb dX11_part_47 (by decide) ?_
      obtain rfl := Option.some.inj h
      exact W.zret (v := 0) (ty := .boolean) hx hb hr rfl (r_end X hP hS) hS.2.2 dX11_part_48 (hlocks := hlk)
    · rw [if_neg c_6] at h
      refine lv_aload_n hx hb dX11_part_38 rfl (lv_at hl 0 rfl) ?_
      refine lv_bipush (v := 59) hx hb dX11_part_39 (by decide) ?_
      refine c_V0 (As := [.int (59)]) (rest := []) (a := 0) X hl.1 (c_X11_is_ l X.2.2.2.1.1 hn rfl) (w_X11_218) qw_999 qw_43 ⟨Nat.le_of_ble_eq_true rfl, Nat.le_of_ble_eq_true rfl⟩ rfl rfl hP hS (by omega) sM_Model rfl rfl (Nat.le_of_ble_eq_true rfl) dX11_part_41 (fun H locs hP hS => ?_)
      refine lv_if_ne (tgt := 49) hx hb dX11_part_44 (by decide) (fun c_7 => ?_) (fun c_7 => ?_)
      · rw [if_neg c_7] at h
        refine lv_aload_n hx hb dX11_part_49 rfl (lv_at hl 0 rfl) ?_
        obtain ⟨r_8, hr_8, h⟩ := ob h
        refine c_V0 (As := []) (rest := []) (a := 0) X hl.1 (c_X11_next l X.2.2.2.1.1 hn hr_8) (w_X11_199) qw_941 qw_32 ⟨Nat.le_of_ble_eq_true rfl, Nat.le_of_ble_eq_true rfl⟩ rfl rfl hP hS (by omega) sM_Model rfl rfl (Nat.le_of_ble_eq_true rfl) dX11_part_50 (fun H locs hP hS => ?_)
        refine lv_iconst (v := 1) hx hb dX11_part_53 (by decide) ?_
        obtain rfl := Option.some.inj h
        exact W.zret (v := 1) (ty := .boolean) hx hb hr rfl (r_end X hP hS) hS.2.2 dX11_part_54 (hlocks := hlk)
      · rw [if_pos c_7] at h
        refine lv_iconst (v := 0) hx hb dX11_part_47 (by decide) ?_
        obtain rfl := Option.some.inj h
        exact W.zret (v := 0) (ty := .boolean) hx hb hr rfl (r_end X hP hS) hS.2.2 dX11_part_48 (hlocks := hlk)
  · rw [if_pos c_2] at h
    refine lv_iconst (v := 0) hx hb dX11_part_8 (by decide) ?_
    obtain rfl := Option.some.inj h
    exact W.zret (v := 0) (ty := .boolean) hx hb hr rfl (r_end X hP hS) hS.2.2 dX11_part_9 (hlocks := hlk)

def f_X11_text (M : Mem) : Option (Int32 × Mem) :=
  (if (M 0 15) = 6 then some (((-4), M)) else (Option.bind (f_X11_next (upd2 (upd2 (upd2 M 0 20 (0)) 0 24 (0)) 0 19 (0))) fun r_2 => (Option.bind (f_X11_part r_2 7 (0)) fun r_3 => (if r_3.1 = 0 then some ((((-100) - ((upd2 r_3.2 0 13 (0)) 0 21)), (upd2 r_3.2 0 13 (0)))) else (Option.bind (f_X11_part r_3.2 8 (1)) fun r_5 => (if r_5.1 = 0 then some ((((-100) - ((upd2 r_5.2 0 13 (0)) 0 21)), (upd2 r_5.2 0 13 (0)))) else (Option.bind (f_X11_part r_5.2 9 (2)) fun r_7 => (if r_7.1 = 0 then some ((((-100) - ((upd2 r_7.2 0 13 (0)) 0 21)), (upd2 r_7.2 0 13 (0)))) else (if (r_7.2 0 22) = 0 then (if ibd (((4 * ((upd2 r_7.2 0 13 (0)) 0 15)) + 3)) 24 then some ((((upd2 (upd2 r_7.2 0 13 (0)) 13 (Int32.toNatClampNeg (((4 * ((upd2 r_7.2 0 13 (0)) 0 15)) + 3))) (((upd2 r_7.2 0 13 (0)) 0 19))) 0 15), (upd2 (upd2 (upd2 r_7.2 0 13 (0)) 13 (Int32.toNatClampNeg (((4 * ((upd2 r_7.2 0 13 (0)) 0 15)) + 3))) (((upd2 r_7.2 0 13 (0)) 0 19))) 0 15 ((((upd2 (upd2 r_7.2 0 13 (0)) 13 (Int32.toNatClampNeg (((4 * ((upd2 r_7.2 0 13 (0)) 0 15)) + 3))) (((upd2 r_7.2 0 13 (0)) 0 19))) 0 15) + 1))))) else none) else some ((((-100) - ((upd2 r_7.2 0 13 (0)) 0 21)), (upd2 r_7.2 0 13 (0)))))))))))))
set_option maxRecDepth 100000 in
set_option maxHeartbeats 4000000 in
theorem c_X11_text (l : Launch) {G : GT} {φ : Nat → Nat} {n : Nat} {M : Mem} {L : Nat → Int64} (hI : wI φ n) (hn : 32 ≤ n) {r : Int32 × Mem} (h : f_X11_text M = some r) : CT l yX11_text cX11_text 2 (some .int) ({ frames := 90, cells := 0, slots := 0, locals := 1882 } : Room) [.ref (φ 0)] (WB (cM G φ L) φ M n G) (some (.int r.1)) (WB (cM G φ L) φ (r.2) n G) φ n := by
  unfold f_X11_text at h
  refine r_start (plainFor_of_name (by decide)) (Nat.le_of_ble_eq_true rfl) hI ?_
  intro p e s m args below meth c ls X hr hlk hP hl
  have hS : va_S (wA φ n s.heap.size) s.heap s.heap [] := va_S.rf
  have hx := X.1.1
  have hb := X.1.2.1
  have hl : lv_has ls 2 [(0, .ref (φ 0))] := hl
  refine lv_aload_n hx hb dX11_text_0 rfl (lv_at hl 0 rfl) ?_
  refine G_X11_187 X.1 hn hP dX11_text_1 ?_
  refine lv_bipush (v := 6) hx hb dX11_text_4 (by decide) ?_
  refine lv_icmp_ne (tgt := 12) hx hb dX11_text_6 (by decide) (fun c_1 => ?_) (fun c_1 => ?_)
  · rw [if_neg c_1] at h
    refine lv_aload_n hx hb dX11_text_12 rfl (lv_at hl 0 rfl) ?_
    refine lv_iconst (v := 0) hx hb dX11_text_13 (by decide) ?_
    refine P_X11_156 X.1 hn X.2.2.2.1 hP hS dX11_text_14 (fun H locs hP hS => ?_)
    refine lv_aload_n hx hb dX11_text_17 rfl (lv_at hl 0 rfl) ?_
    refine lv_iconst (v := 0) hx hb dX11_text_18 (by decide) ?_
    refine P_X11_212 X.1 hn X.2.2.2.1 hP hS dX11_text_19 (fun H locs hP hS => ?_)
    refine lv_aload_n hx hb dX11_text_22 rfl (lv_at hl 0 rfl) ?_
    refine lv_iconst (v := 0) hx hb dX11_text_23 (by decide) ?_
    refine P_X11_190 X.1 hn X.2.2.2.1 hP hS dX11_text_24 (fun H locs hP hS => ?_)
    refine lv_aload_n hx hb dX11_text_27 rfl (lv_at hl 0 rfl) ?_
    obtain ⟨r_2, hr_2, h⟩ := ob h
    refine c_V0 (As := []) (rest := []) (a := 0) X hl.1 (c_X11_next l X.2.2.2.1.1 hn hr_2) (w_X11_199) qw_941 qw_32 ⟨Nat.le_of_ble_eq_true rfl, Nat.le_of_ble_eq_true rfl⟩ rfl rfl hP hS (by omega) sM_Model rfl rfl (Nat.le_of_ble_eq_true rfl) dX11_text_28 (fun H locs hP hS => ?_)
    refine lv_aload_n hx hb dX11_text_31 rfl (lv_at hl 0 rfl) ?_
    refine va_ldcS hx hb X.1.2.2.1 (X.2.2.1.2.1 ("KitchenTableModel", 233, 7) (List.mem_of_getElem? (i := 20) rfl)) dX11_text_32 ?_
    refine lv_iconst (v := 0) hx hb dX11_text_34 (by decide) ?_
    obtain ⟨r_3, hr_3, h⟩ := ob h
    refine c_V0 (As := [.ref (saS G 7), .int (0)]) (rest := []) (a := 0) X hl.1 (c_X11_part l X.2.2.2.1.1 hn (by decide) hr_3) (w_X11_235) qw_952 qw_33 ⟨Nat.le_of_ble_eq_true rfl, Nat.le_of_ble_eq_true rfl⟩ rfl rfl hP hS (by omega) sM_Model rfl rfl (Nat.le_of_ble_eq_true rfl) dX11_text_35 (fun H locs hP hS => ?_)
    refine lv_if_eq (tgt := 72) hx hb dX11_text_38 (by decide) (fun c_4 => ?_) (fun c_4 => ?_)
    · rw [if_pos c_4] at h
      refine lv_iconst (v := 0) hx hb dX11_text_72 (by decide) ?_
      refine lv_istore_n (lv' := [(1, .int (0)), (0, .ref (φ 0))]) hx hb dX11_text_73 rfl hl (by decide) rfl (fun ls hl => ?_)
      refine lv_aload_n hx hb dX11_text_74 rfl (lv_at hl 1 rfl) ?_
      refine lv_iconst (v := 0) hx hb dX11_text_75 (by decide) ?_
      refine P_X11_153 X.1 hn X.2.2.2.1 hP hS dX11_text_76 (fun H locs hP hS => ?_)
      refine lv_iload_n hx hb dX11_text_79 rfl (lv_at hl 0 rfl) ?_
      refine lv_if_ne (tgt := 91) hx hb dX11_text_80 (by decide) (fun c => absurd c (by decide)) (fun _ => ?_)
      refine lv_bipush (v := (-100)) hx hb dX11_text_83 (by decide) ?_
      refine lv_aload_n hx hb dX11_text_85 rfl (lv_at hl 1 rfl) ?_
      refine G_X11_159 X.1 hn hP dX11_text_86 ?_
      refine lv_isub hx hb dX11_text_89 ?_
      obtain rfl := Option.some.inj h
      exact W.iret hx hb hr (r_end X hP hS) hS.2.2 dX11_text_90 (hlocks := hlk)
    · rw [if_neg c_4] at h
      refine lv_aload_n hx hb dX11_text_41 rfl (lv_at hl 0 rfl) ?_
      refine va_ldcS hx hb X.1.2.2.1 (X.2.2.1.2.1 ("KitchenTableModel", 239, 8) (List.mem_of_getElem? (i := 21) rfl)) dX11_text_42 ?_
      refine lv_iconst (v := 1) hx hb dX11_text_44 (by decide) ?_
      obtain ⟨r_5, hr_5, h⟩ := ob h
      refine c_V0 (As := [.ref (saS G 8), .int (1)]) (rest := []) (a := 0) X hl.1 (c_X11_part l X.2.2.2.1.1 hn (by decide) hr_5) (w_X11_235) qw_952 qw_33 ⟨Nat.le_of_ble_eq_true rfl, Nat.le_of_ble_eq_true rfl⟩ rfl rfl hP hS (by omega) sM_Model rfl rfl (Nat.le_of_ble_eq_true rfl) dX11_text_45 (fun H locs hP hS => ?_)
      refine lv_if_eq (tgt := 72) hx hb dX11_text_48 (by decide) (fun c_6 => ?_) (fun c_6 => ?_)
      · rw [if_pos c_6] at h
        refine lv_iconst (v := 0) hx hb dX11_text_72 (by decide) ?_
        refine lv_istore_n (lv' := [(1, .int (0)), (0, .ref (φ 0))]) hx hb dX11_text_73 rfl hl (by decide) rfl (fun ls hl => ?_)
        refine lv_aload_n hx hb dX11_text_74 rfl (lv_at hl 1 rfl) ?_
        refine lv_iconst (v := 0) hx hb dX11_text_75 (by decide) ?_
        refine P_X11_153 X.1 hn X.2.2.2.1 hP hS dX11_text_76 (fun H locs hP hS => ?_)
        refine lv_iload_n hx hb dX11_text_79 rfl (lv_at hl 0 rfl) ?_
        refine lv_if_ne (tgt := 91) hx hb dX11_text_80 (by decide) (fun c => absurd c (by decide)) (fun _ => ?_)
        refine lv_bipush (v := (-100)) hx hb dX11_text_83 (by decide) ?_
        refine lv_aload_n hx hb dX11_text_85 rfl (lv_at hl 1 rfl) ?_
        refine G_X11_159 X.1 hn hP dX11_text_86 ?_
        refine lv_isub hx hb dX11_text_89 ?_
        obtain rfl := Option.some.inj h
        exact W.iret hx hb hr (r_end X hP hS) hS.2.2 dX11_text_90 (hlocks := hlk)
      · rw [if_neg c_6] at h
        refine lv_aload_n hx hb dX11_text_51 rfl (lv_at hl 0 rfl) ?_
        refine va_ldcS hx hb X.1.2.2.1 (X.2.2.1.2.1 ("KitchenTableModel", 241, 9) (List.mem_of_getElem? (i := 22) rfl)) dX11_text_52 ?_
        refine lv_iconst (v := 2) hx hb dX11_text_54 (by decide) ?_
        obtain ⟨r_7, hr_7, h⟩ := ob h
        refine c_V0 (As := [.ref (saS G 9), .int (2)]) (rest := []) (a := 0) X hl.1 (c_X11_part l X.2.2.2.1.1 hn (by decide) hr_7) (w_X11_235) qw_952 qw_33 ⟨Nat.le_of_ble_eq_true rfl, Nat.le_of_ble_eq_true rfl⟩ rfl rfl hP hS (by omega) sM_Model rfl rfl (Nat.le_of_ble_eq_true rfl) dX11_text_55 (fun H locs hP hS => ?_)
        refine lv_if_eq (tgt := 72) hx hb dX11_text_58 (by decide) (fun c_8 => ?_) (fun c_8 => ?_)
        · rw [if_pos c_8] at h
          refine lv_iconst (v := 0) hx hb dX11_text_72 (by decide) ?_
          refine lv_istore_n (lv' := [(1, .int (0)), (0, .ref (φ 0))]) hx hb dX11_text_73 rfl hl (by decide) rfl (fun ls hl => ?_)
          refine lv_aload_n hx hb dX11_text_74 rfl (lv_at hl 1 rfl) ?_
          refine lv_iconst (v := 0) hx hb dX11_text_75 (by decide) ?_
          refine P_X11_153 X.1 hn X.2.2.2.1 hP hS dX11_text_76 (fun H locs hP hS => ?_)
          refine lv_iload_n hx hb dX11_text_79 rfl (lv_at hl 0 rfl) ?_
          refine lv_if_ne (tgt := 91) hx hb dX11_text_80 (by decide) (fun c => absurd c (by decide)) (fun _ => ?_)
          refine lv_bipush (v := (-100)) hx hb dX11_text_83 (by decide) ?_
          refine lv_aload_n hx hb dX11_text_85 rfl (lv_at hl 1 rfl) ?_
          refine G_X11_159 X.1 hn hP dX11_text_86 ?_
          refine lv_isub hx hb dX11_text_89 ?_
          obtain rfl := Option.some.inj h
          exact W.iret hx hb hr (r_end X hP hS) hS.2.2 dX11_text_90 (hlocks := hlk)
        · rw [if_neg c_8] at h
          refine lv_aload_n hx hb dX11_text_61 rfl (lv_at hl 0 rfl) ?_
          refine G_X11_162 X.1 hn hP dX11_text_62 ?_
          refine lv_if_ne (tgt := 72) hx hb dX11_text_65 (by decide) (fun c_9 => ?_) (fun c_9 => ?_)
          · rw [if_neg c_9] at h
            refine lv_iconst (v := 0) hx hb dX11_text_72 (by decide) ?_
            refine lv_istore_n (lv' := [(1, .int (0)), (0, .ref (φ 0))]) hx hb dX11_text_73 rfl hl (by decide) rfl (fun ls hl => ?_)
            refine lv_aload_n hx hb dX11_text_74 rfl (lv_at hl 1 rfl) ?_
            refine lv_iconst (v := 0) hx hb dX11_text_75 (by decide) ?_
            refine P_X11_153 X.1 hn X.2.2.2.1 hP hS dX11_text_76 (fun H locs hP hS => ?_)
            refine lv_iload_n hx hb dX11_text_79 rfl (lv_at hl 0 rfl) ?_
            refine lv_if_ne (tgt := 91) hx hb dX11_text_80 (by decide) (fun c => absurd c (by decide)) (fun _ => ?_)
            refine lv_bipush (v := (-100)) hx hb dX11_text_83 (by decide) ?_
            refine lv_aload_n hx hb dX11_text_85 rfl (lv_at hl 1 rfl) ?_
            refine G_X11_159 X.1 hn hP dX11_text_86 ?_
            refine lv_isub hx hb dX11_text_89 ?_
            obtain rfl := Option.some.inj h
            exact W.iret hx hb hr (r_end X hP hS) hS.2.2 dX11_text_90 (hlocks := hlk)
          · rw [if_pos c_9] at h
            refine lv_iconst (v := 1) hx hb dX11_text_68 (by decide) ?_
            refine lv_goto (tgt := 73) hx hb dX11_text_69 (by decide) ?_
            refine lv_istore_n (lv' := [(1, .int (1)), (0, .ref (φ 0))]) hx hb dX11_text_73 rfl hl (by decide) rfl (fun ls hl => ?_)
            refine lv_aload_n hx hb dX11_text_74 rfl (lv_at hl 1 rfl) ?_
            refine lv_iconst (v := 0) hx hb dX11_text_75 (by decide) ?_
            refine P_X11_153 X.1 hn X.2.2.2.1 hP hS dX11_text_76 (fun H locs hP hS => ?_)
            refine lv_iload_n hx hb dX11_text_79 rfl (lv_at hl 0 rfl) ?_
            refine lv_if_ne (tgt := 91) hx hb dX11_text_80 (by decide) (fun _ => ?_) (fun c => absurd c (by decide))
            refine lv_aload_n hx hb dX11_text_91 rfl (lv_at hl 1 rfl) ?_
            refine G_X11_46 X.1 hn hP dX11_text_92 ?_
            refine lv_iconst (v := 4) hx hb dX11_text_95 (by decide) ?_
            refine lv_aload_n hx hb dX11_text_96 rfl (lv_at hl 1 rfl) ?_
            refine G_X11_187 X.1 hn hP dX11_text_97 ?_
            refine lv_imul hx hb dX11_text_100 ?_
            refine lv_iconst (v := 3) hx hb dX11_text_101 (by decide) ?_
            refine lv_iadd hx hb dX11_text_102 ?_
            refine lv_aload_n hx hb dX11_text_103 rfl (lv_at hl 1 rfl) ?_
            refine G_X11_190 X.1 hn hP dX11_text_104 ?_
            obtain ⟨c_10, h⟩ := og h
            refine r_iast (k := (Int32.toNatClampNeg (((4 * ((upd2 r_7.2 0 13 (0)) 0 15)) + 3)))) X.1 X.2.2.2.1 hP hS (by omega) sM_begins rfl (vin c_10) dX11_text_107 (fun H locs hP hS => ?_)
            refine lv_aload_n hx hb dX11_text_108 rfl (lv_at hl 1 rfl) ?_
            refine lv_dup hx hb dX11_text_109 rfl ?_
            refine G_X11_187 X.1 hn hP dX11_text_110 ?_
            refine lv_dup_x1 hx hb dX11_text_113 rfl rfl ?_
            refine lv_iconst (v := 1) hx hb dX11_text_114 (by decide) ?_
            refine lv_iadd hx hb dX11_text_115 ?_
            refine P_X11_187 X.1 hn X.2.2.2.1 hP hS dX11_text_116 (fun H locs hP hS => ?_)
            obtain rfl := Option.some.inj h
            exact W.iret hx hb hr (r_end X hP hS) hS.2.2 dX11_text_119 (hlocks := hlk)
  · rw [if_pos c_1] at h
    refine lv_bipush (v := (-4)) hx hb dX11_text_9 (by decide) ?_
    obtain rfl := Option.some.inj h
    exact W.iret hx hb hr (r_end X hP hS) hS.2.2 dX11_text_11 (hlocks := hlk)

def f_X11_force (M : Mem) (a1 : Int32) : Int32 × Mem :=
  (if (f_X11_within (a1) (0) (((M 0 15) - 1))) = 0 then ((-2), M) else ((M 0 16), (upd2 M 0 16 (a1))))
set_option maxRecDepth 100000 in
set_option maxHeartbeats 4000000 in
theorem c_X11_force (l : Launch) {G : GT} {φ : Nat → Nat} {n : Nat} {M : Mem} {L : Nat → Int64} {a1 : Int32} (hI : wI φ n) (hn : 32 ≤ n) {r : Int32 × Mem} (h : f_X11_force M a1 = r) : CT l yX11_force cX11_force 3 (some .int) ({ frames := 1, cells := 0, slots := 0, locals := 22 } : Room) [.ref (φ 0), .int (a1)] (WB (cM G φ L) φ M n G) (some (.int r.1)) (WB (cM G φ L) φ (r.2) n G) φ n := by
  unfold f_X11_force at h
  refine r_start (plainFor_of_name (by decide)) (Nat.le_of_ble_eq_true rfl) hI ?_
  intro p e s m args below meth c ls X hr hlk hP hl
  have hS : va_S (wA φ n s.heap.size) s.heap s.heap [] := va_S.rf
  have hx := X.1.1
  have hb := X.1.2.1
  have hl : lv_has ls 3 [(0, .ref (φ 0)), (1, .int (a1))] := hl
  refine lv_iload_n hx hb dX11_force_0 rfl (lv_at hl 1 rfl) ?_
  refine lv_iconst (v := 0) hx hb dX11_force_1 (by decide) ?_
  refine lv_aload_n hx hb dX11_force_2 rfl (lv_at hl 0 rfl) ?_
  refine G_X11_187 X.1 hn hP dX11_force_3 ?_
  refine lv_iconst (v := 1) hx hb dX11_force_6 (by decide) ?_
  refine lv_isub hx hb dX11_force_7 ?_
  refine c_S0 (As := [.int (a1), .int (0), .int (((M 0 15) - 1))]) (rest := []) X hl.1 (c_X11_within l X.2.2.2.1.1 hn rfl) (w_X11_127) qw_933 ⟨Nat.le_of_ble_eq_true rfl, Nat.le_of_ble_eq_true rfl⟩ rfl rfl hP hS (Nat.le_of_ble_eq_true rfl) dX11_force_8 (fun H locs hP hS => ?_)
  refine lv_if_ne (tgt := 17) hx hb dX11_force_11 (by decide) (fun c_1 => ?_) (fun c_1 => ?_)
  · rw [if_neg c_1] at h
    refine lv_aload_n hx hb dX11_force_17 rfl (lv_at hl 0 rfl) ?_
    refine G_X11_243 X.1 hn hP dX11_force_18 ?_
    refine lv_istore_n (lv' := [(2, .int ((M 0 16))), (0, .ref (φ 0)), (1, .int (a1))]) hx hb dX11_force_21 rfl hl (by decide) rfl (fun ls hl => ?_)
    refine lv_aload_n hx hb dX11_force_22 rfl (lv_at hl 1 rfl) ?_
    refine lv_iload_n hx hb dX11_force_23 rfl (lv_at hl 2 rfl) ?_
    refine P_X11_243 X.1 hn X.2.2.2.1 hP hS dX11_force_24 (fun H locs hP hS => ?_)
    refine lv_iload_n hx hb dX11_force_27 rfl (lv_at hl 0 rfl) ?_
    subst h
    exact W.iret hx hb hr (r_end X hP hS) hS.2.2 dX11_force_28 (hlocks := hlk)
  · rw [if_pos c_1] at h
    refine lv_bipush (v := (-2)) hx hb dX11_force_14 (by decide) ?_
    subst h
    exact W.iret hx hb hr (r_end X hP hS) hS.2.2 dX11_force_16 (hlocks := hlk)

def f_X11_worth_35 (x2_3 : Int32) (x3_4 : Int32) (x4_5 : Int32) (x5_6 : Int32) (x6_7 : Int32) (x7_8 : Int32) (x8_9 : Int32) : Nat → Int32 → Int32 → Mem → Option (Int32 × Mem)
  | 0, _, _, _ => none
  | fu_13 + 1, x9_10, x10_11, M_12 => (if x8_9 ≤ x10_11 then some (((M_12 14 0), M_12)) else (if ibd (((170 * (M_12 0 16)) + x10_11)) 1020 then (if (M_12 12 (Int32.toNatClampNeg (((170 * (M_12 0 16)) + x10_11)))) < 0 then (if (M_12 12 (Int32.toNatClampNeg (((170 * (M_12 0 16)) + x10_11)))) ≤ (-7) then (if ibd ((x9_10 - 1)) 170 then (if (M_12 12 (Int32.toNatClampNeg (((170 * (M_12 0 16)) + x10_11)))) = (-13) then (if (M_12 14 (Int32.toNatClampNeg ((x9_10 - 1)))) = 0 then (if ibd ((x9_10 - 1)) 170 then (f_X11_worth_35 x2_3 x3_4 x4_5 x5_6 x6_7 x7_8 x8_9 fu_13 (x9_10) ((x10_11 + 1)) (upd2 M_12 14 (Int32.toNatClampNeg ((x9_10 - 1))) (1))) else none) else (if ibd ((x9_10 - 1)) 170 then (f_X11_worth_35 x2_3 x3_4 x4_5 x5_6 x6_7 x7_8 x8_9 fu_13 (x9_10) ((x10_11 + 1)) (upd2 M_12 14 (Int32.toNatClampNeg ((x9_10 - 1))) (0))) else none)) else (if (M_12 12 (Int32.toNatClampNeg (((170 * (M_12 0 16)) + x10_11)))) = (-19) then (if ibd ((x9_10 - 1)) 170 then (f_X11_worth_35 x2_3 x3_4 x4_5 x5_6 x6_7 x7_8 x8_9 fu_13 (x9_10) ((x10_11 + 1)) (upd2 M_12 14 (Int32.toNatClampNeg ((x9_10 - 1))) ((-(M_12 14 (Int32.toNatClampNeg ((x9_10 - 1)))))))) else none) else (if ibd ((x9_10 - 2)) 170 then (if Int32.toInt ((M_12 12 (Int32.toNatClampNeg (((170 * (M_12 0 16)) + x10_11))))) < -17 ∨ -11 < Int32.toInt ((M_12 12 (Int32.toNatClampNeg (((170 * (M_12 0 16)) + x10_11))))) then (if ibd (((x9_10 + (-1)) - 1)) 170 then (f_X11_worth_35 x2_3 x3_4 x4_5 x5_6 x6_7 x7_8 x8_9 fu_13 ((x9_10 + (-1))) ((x10_11 + 1)) (upd2 M_12 14 (Int32.toNatClampNeg (((x9_10 + (-1)) - 1))) (((M_12 14 (Int32.toNatClampNeg ((x9_10 - 2)))) * (M_12 14 (Int32.toNatClampNeg ((x9_10 - 1)))))))) else none) else (if (M_12 12 (Int32.toNatClampNeg (((170 * (M_12 0 16)) + x10_11)))) = (-17) then (if ibd (((x9_10 + (-1)) - 1)) 170 then (f_X11_worth_35 x2_3 x3_4 x4_5 x5_6 x6_7 x7_8 x8_9 fu_13 ((x9_10 + (-1))) ((x10_11 + 1)) (upd2 M_12 14 (Int32.toNatClampNeg (((x9_10 + (-1)) - 1))) (((M_12 14 (Int32.toNatClampNeg ((x9_10 - 2)))) - (M_12 14 (Int32.toNatClampNeg ((x9_10 - 1)))))))) else none) else (if (M_12 12 (Int32.toNatClampNeg (((170 * (M_12 0 16)) + x10_11)))) = (-16) then (if ibd (((x9_10 + (-1)) - 1)) 170 then (f_X11_worth_35 x2_3 x3_4 x4_5 x5_6 x6_7 x7_8 x8_9 fu_13 ((x9_10 + (-1))) ((x10_11 + 1)) (upd2 M_12 14 (Int32.toNatClampNeg (((x9_10 + (-1)) - 1))) (((M_12 14 (Int32.toNatClampNeg ((x9_10 - 2)))) + (M_12 14 (Int32.toNatClampNeg ((x9_10 - 1)))))))) else none) else (if (M_12 12 (Int32.toNatClampNeg (((170 * (M_12 0 16)) + x10_11)))) = (-15) then (if (M_12 14 (Int32.toNatClampNeg ((x9_10 - 2)))) = (M_12 14 (Int32.toNatClampNeg ((x9_10 - 1)))) then (if ibd (((x9_10 + (-1)) - 1)) 170 then (f_X11_worth_35 x2_3 x3_4 x4_5 x5_6 x6_7 x7_8 x8_9 fu_13 ((x9_10 + (-1))) ((x10_11 + 1)) (upd2 M_12 14 (Int32.toNatClampNeg (((x9_10 + (-1)) - 1))) (1))) else none) else (if ibd (((x9_10 + (-1)) - 1)) 170 then (f_X11_worth_35 x2_3 x3_4 x4_5 x5_6 x6_7 x7_8 x8_9 fu_13 ((x9_10 + (-1))) ((x10_11 + 1)) (upd2 M_12 14 (Int32.toNatClampNeg (((x9_10 + (-1)) - 1))) (0))) else none)) else (if (M_12 12 (Int32.toNatClampNeg (((170 * (M_12 0 16)) + x10_11)))) = (-14) then (if (M_12 14 (Int32.toNatClampNeg ((x9_10 - 1)))) ≤ (M_12 14 (Int32.toNatClampNeg ((x9_10 - 2)))) then (if ibd (((x9_10 + (-1)) - 1)) 170 then (f_X11_worth_35 x2_3 x3_4 x4_5 x5_6 x6_7 x7_8 x8_9 fu_13 ((x9_10 + (-1))) ((x10_11 + 1)) (upd2 M_12 14 (Int32.toNatClampNeg (((x9_10 + (-1)) - 1))) (0))) else none) else (if ibd (((x9_10 + (-1)) - 1)) 170 then (f_X11_worth_35 x2_3 x3_4 x4_5 x5_6 x6_7 x7_8 x8_9 fu_13 ((x9_10 + (-1))) ((x10_11 + 1)) (upd2 M_12 14 (Int32.toNatClampNeg (((x9_10 + (-1)) - 1))) (1))) else none)) else (if (M_12 12 (Int32.toNatClampNeg (((170 * (M_12 0 16)) + x10_11)))) = (-13) then (if ibd (((x9_10 + (-1)) - 1)) 170 then (f_X11_worth_35 x2_3 x3_4 x4_5 x5_6 x6_7 x7_8 x8_9 fu_13 ((x9_10 + (-1))) ((x10_11 + 1)) (upd2 M_12 14 (Int32.toNatClampNeg (((x9_10 + (-1)) - 1))) (((M_12 14 (Int32.toNatClampNeg ((x9_10 - 2)))) * (M_12 14 (Int32.toNatClampNeg ((x9_10 - 1)))))))) else none) else (if (M_12 12 (Int32.toNatClampNeg (((170 * (M_12 0 16)) + x10_11)))) = (-12) then (if (M_12 14 (Int32.toNatClampNeg ((x9_10 - 2)))) = 0 then (if ibd (((x9_10 + (-1)) - 1)) 170 then (f_X11_worth_35 x2_3 x3_4 x4_5 x5_6 x6_7 x7_8 x8_9 fu_13 ((x9_10 + (-1))) ((x10_11 + 1)) (upd2 M_12 14 (Int32.toNatClampNeg (((x9_10 + (-1)) - 1))) (0))) else none) else (if (M_12 14 (Int32.toNatClampNeg ((x9_10 - 1)))) = 0 then (if ibd (((x9_10 + (-1)) - 1)) 170 then (f_X11_worth_35 x2_3 x3_4 x4_5 x5_6 x6_7 x7_8 x8_9 fu_13 ((x9_10 + (-1))) ((x10_11 + 1)) (upd2 M_12 14 (Int32.toNatClampNeg (((x9_10 + (-1)) - 1))) (0))) else none) else (if ibd (((x9_10 + (-1)) - 1)) 170 then (f_X11_worth_35 x2_3 x3_4 x4_5 x5_6 x6_7 x7_8 x8_9 fu_13 ((x9_10 + (-1))) ((x10_11 + 1)) (upd2 M_12 14 (Int32.toNatClampNeg (((x9_10 + (-1)) - 1))) (1))) else none))) else (if (M_12 12 (Int32.toNatClampNeg (((170 * (M_12 0 16)) + x10_11)))) = (-11) then (if (M_12 14 (Int32.toNatClampNeg ((x9_10 - 2)))) = 0 then (if (M_12 14 (Int32.toNatClampNeg ((x9_10 - 1)))) = 0 then (if ibd (((x9_10 + (-1)) - 1)) 170 then (f_X11_worth_35 x2_3 x3_4 x4_5 x5_6 x6_7 x7_8 x8_9 fu_13 ((x9_10 + (-1))) ((x10_11 + 1)) (upd2 M_12 14 (Int32.toNatClampNeg (((x9_10 + (-1)) - 1))) (0))) else none) else (if ibd (((x9_10 + (-1)) - 1)) 170 then (f_X11_worth_35 x2_3 x3_4 x4_5 x5_6 x6_7 x7_8 x8_9 fu_13 ((x9_10 + (-1))) ((x10_11 + 1)) (upd2 M_12 14 (Int32.toNatClampNeg (((x9_10 + (-1)) - 1))) (1))) else none)) else (if ibd (((x9_10 + (-1)) - 1)) 170 then (f_X11_worth_35 x2_3 x3_4 x4_5 x5_6 x6_7 x7_8 x8_9 fu_13 ((x9_10 + (-1))) ((x10_11 + 1)) (upd2 M_12 14 (Int32.toNatClampNeg (((x9_10 + (-1)) - 1))) (1))) else none)) else none)))))))) else none))) else none) else (if (M_12 12 (Int32.toNatClampNeg (((170 * (M_12 0 16)) + x10_11)))) = (-1) then (if ibd (x9_10) 170 then (f_X11_worth_35 x2_3 x3_4 x4_5 x5_6 x6_7 x7_8 x8_9 fu_13 ((x9_10 + 1)) ((x10_11 + 1)) (upd2 M_12 14 (Int32.toNatClampNeg (x9_10)) (x2_3))) else none) else (if (M_12 12 (Int32.toNatClampNeg (((170 * (M_12 0 16)) + x10_11)))) = (-2) then (if ibd (x9_10) 170 then (f_X11_worth_35 x2_3 x3_4 x4_5 x5_6 x6_7 x7_8 x8_9 fu_13 ((x9_10 + 1)) ((x10_11 + 1)) (upd2 M_12 14 (Int32.toNatClampNeg (x9_10)) (x3_4))) else none) else (if (M_12 12 (Int32.toNatClampNeg (((170 * (M_12 0 16)) + x10_11)))) = (-3) then (if ibd (x9_10) 170 then (f_X11_worth_35 x2_3 x3_4 x4_5 x5_6 x6_7 x7_8 x8_9 fu_13 ((x9_10 + 1)) ((x10_11 + 1)) (upd2 M_12 14 (Int32.toNatClampNeg (x9_10)) (x4_5))) else none) else (if (M_12 12 (Int32.toNatClampNeg (((170 * (M_12 0 16)) + x10_11)))) = (-4) then (if ibd (x9_10) 170 then (f_X11_worth_35 x2_3 x3_4 x4_5 x5_6 x6_7 x7_8 x8_9 fu_13 ((x9_10 + 1)) ((x10_11 + 1)) (upd2 M_12 14 (Int32.toNatClampNeg (x9_10)) (x5_6))) else none) else (if (M_12 12 (Int32.toNatClampNeg (((170 * (M_12 0 16)) + x10_11)))) = (-5) then (if ibd (x9_10) 170 then (f_X11_worth_35 x2_3 x3_4 x4_5 x5_6 x6_7 x7_8 x8_9 fu_13 ((x9_10 + 1)) ((x10_11 + 1)) (upd2 M_12 14 (Int32.toNatClampNeg (x9_10)) (x6_7))) else none) else (if ibd (x9_10) 170 then (f_X11_worth_35 x2_3 x3_4 x4_5 x5_6 x6_7 x7_8 x8_9 fu_13 ((x9_10 + 1)) ((x10_11 + 1)) (upd2 M_12 14 (Int32.toNatClampNeg (x9_10)) (x7_8))) else none))))))) else (if ibd (x9_10) 170 then (f_X11_worth_35 x2_3 x3_4 x4_5 x5_6 x6_7 x7_8 x8_9 fu_13 ((x9_10 + 1)) ((x10_11 + 1)) (upd2 M_12 14 (Int32.toNatClampNeg (x9_10)) ((M_12 12 (Int32.toNatClampNeg (((170 * (M_12 0 16)) + x10_11))))))) else none)) else none))
def f_X11_worth (M : Mem) (a1 : Int32) (a2 : Int32) (a3 : Int32) (a4 : Int32) (a5 : Int32) (a6 : Int32) (a7 : Int32) : Option (Int32 × Mem) :=
  (if ibd ((((4 * (M 0 16)) + a1) + 1)) 24 then (if ibd (((4 * (M 0 16)) + a1)) 24 then (f_X11_worth_35 (a2) (a3) (a4) (a5) (a6) (a7) ((M 13 (Int32.toNatClampNeg ((((4 * (M 0 16)) + a1) + 1))))) FU (0) ((M 13 (Int32.toNatClampNeg (((4 * (M 0 16)) + a1))))) M) else none) else none)
set_option maxRecDepth 100000 in
set_option maxHeartbeats 4000000 in
theorem c_X11_worth (l : Launch) {G : GT} {φ : Nat → Nat} {n : Nat} {M : Mem} {L : Nat → Int64} {a1 : Int32} {a2 : Int32} {a3 : Int32} {a4 : Int32} {a5 : Int32} {a6 : Int32} {a7 : Int32} (hI : wI φ n) (hn : 32 ≤ n) {r : Int32 × Mem} (h : f_X11_worth M a1 a2 a3 a4 a5 a6 a7 = some r) : CT l yX11_worth cX11_worth 15 (some .int) ({ frames := 0, cells := 0, slots := 0, locals := 0 } : Room) [.ref (φ 0), .int (a1), .int (a2), .int (a3), .int (a4), .int (a5), .int (a6), .int (a7)] (WB (cM G φ L) φ M n G) (some (.int r.1)) (WB (cM G φ L) φ (r.2) n G) φ n := by
  unfold f_X11_worth at h
  refine r_start (plainFor_of_name (by decide)) (Nat.le_of_ble_eq_true rfl) hI ?_
  intro p e s m args below meth c ls X hr hlk hP hl
  have hS : va_S (wA φ n s.heap.size) s.heap s.heap [] := va_S.rf
  have hx := X.1.1
  have hb := X.1.2.1
  have hl : lv_has ls 15 [(0, .ref (φ 0)), (1, .int (a1)), (2, .int (a2)), (3, .int (a3)), (4, .int (a4)), (5, .int (a5)), (6, .int (a6)), (7, .int (a7))] := hl
  have L35 : ∀ (fu_13 : Nat) (M_12 : Mem) (x2_3 : Int32) (x3_4 : Int32) (x4_5 : Int32) (x5_6 : Int32) (x6_7 : Int32) (x7_8 : Int32) (x8_9 : Int32) (x9_10 : Int32) (x10_11 : Int32)  (H : Heap) (locs : List Loc) (ls : Array Slot), va_P G.1 vwCl (wW (cM G φ L) φ M_12 n) H → va_S (wA φ n s.heap.size) s.heap H locs → lv_has ls 15 [(0, .ref (φ 0)), (2, .int (x2_3)), (3, .int (x3_4)), (4, .int (x4_5)), (5, .int (x5_6)), (6, .int (x6_7)), (7, .int (x7_8)), (8, .int (x8_9)), (9, .int (x9_10)), (10, .int (x10_11))] → f_X11_worth_35 x2_3 x3_4 x4_5 x5_6 x6_7 x7_8 x8_9 fu_13 x9_10 x10_11 M_12 = some r → W p l e ({ frames := 0, cells := 0, slots := 0, locals := 0 } : Room) s m args below meth c H locs 0 0 (MQ below (QQ (some (.int r.1)) (WB (cM G φ L) φ (r.2) n G) (wA φ n s.heap.size)) args s 0 0 (wA φ n s.heap.size)) (F0 m 35 ls []) := by
    intro fu_13
    induction fu_13 with
    | zero =>
      intro M_12 x2_3 x3_4 x4_5 x5_6 x6_7 x7_8 x8_9 x9_10 x10_11 H locs ls _ _ _  h
      have h : (none : Option (Int32 × Mem)) = some r := h
      cases h
    | succ fu_13 ih =>
      intro M_12 x2_3 x3_4 x4_5 x5_6 x6_7 x7_8 x8_9 x9_10 x10_11 H locs ls hP hS hl  h
      rw [f_X11_worth_35] at h
      refine lv_iload hx hb dX11_worth_35 (lv_at hl 9 rfl) ?_
      refine lv_iload hx hb dX11_worth_37 (lv_at hl 7 rfl) ?_
      refine lv_icmp_ge (tgt := 398) hx hb dX11_worth_39 (by decide) (fun c_14 => ?_) (fun c_14 => ?_)
      · rw [if_pos c_14] at h
        refine lv_aload_n hx hb dX11_worth_398 rfl (lv_at hl 0 rfl) ?_
        refine G_X11_49 X.1 hn hP dX11_worth_399 ?_
        refine lv_iconst (v := 0) hx hb dX11_worth_402 (by decide) ?_
        refine r_iald (k := 0) X.1 hP (by omega) sM_stack (by decide) (vin (by decide)) dX11_worth_403 ?_
        obtain rfl := Option.some.inj h
        exact W.iret hx hb hr (r_end X hP hS) hS.2.2 dX11_worth_404 (hlocks := hlk)
      · rw [if_neg c_14] at h
        refine lv_aload_n hx hb dX11_worth_42 rfl (lv_at hl 0 rfl) ?_
        refine G_X11_43 X.1 hn hP dX11_worth_43 ?_
        refine lv_sipush (v := 170) hx hb dX11_worth_46 (by decide) ?_
        refine lv_aload_n hx hb dX11_worth_49 rfl (lv_at hl 0 rfl) ?_
        refine G_X11_243 X.1 hn hP dX11_worth_50 ?_
        refine lv_imul hx hb dX11_worth_53 ?_
        refine lv_iload hx hb dX11_worth_54 (lv_at hl 9 rfl) ?_
        refine lv_iadd hx hb dX11_worth_56 ?_
        obtain ⟨c_15, h⟩ := og h
        refine r_iald (k := (Int32.toNatClampNeg (((170 * (M_12 0 16)) + x10_11)))) X.1 hP (by omega) sM_code rfl (vin c_15) dX11_worth_57 ?_
        refine lv_istore (lv' := [(11, .int ((M_12 12 (Int32.toNatClampNeg (((170 * (M_12 0 16)) + x10_11)))))), (0, .ref (φ 0)), (2, .int (x2_3)), (3, .int (x3_4)), (4, .int (x4_5)), (5, .int (x5_6)), (6, .int (x6_7)), (7, .int (x7_8)), (8, .int (x8_9)), (9, .int (x9_10)), (10, .int (x10_11))]) hx hb dX11_worth_58 hl (by decide) rfl (fun ls hl => ?_)
        refine lv_iload hx hb dX11_worth_60 (lv_at hl 0 rfl) ?_
        refine lv_if_lt (tgt := 80) hx hb dX11_worth_62 (by decide) (fun c_16 => ?_) (fun c_16 => ?_)
        · rw [if_pos c_16] at h
          refine lv_iload hx hb dX11_worth_80 (lv_at hl 0 rfl) ?_
          refine lv_bipush (v := (-7)) hx hb dX11_worth_82 (by decide) ?_
          refine lv_icmp_le (tgt := 159) hx hb dX11_worth_84 (by decide) (fun c_17 => ?_) (fun c_17 => ?_)
          · rw [if_pos c_17] at h
            refine lv_aload_n hx hb dX11_worth_159 rfl (lv_at hl 1 rfl) ?_
            refine G_X11_49 X.1 hn hP dX11_worth_160 ?_
            refine lv_iload hx hb dX11_worth_163 (lv_at hl 9 rfl) ?_
            refine lv_iconst (v := 1) hx hb dX11_worth_165 (by decide) ?_
            refine lv_isub hx hb dX11_worth_166 ?_
            obtain ⟨c_18, h⟩ := og h
            refine r_iald (k := (Int32.toNatClampNeg ((x9_10 - 1)))) X.1 hP (by omega) sM_stack rfl (vin c_18) dX11_worth_167 ?_
            refine lv_istore (lv' := [(12, .int ((M_12 14 (Int32.toNatClampNeg ((x9_10 - 1)))))), (11, .int ((M_12 12 (Int32.toNatClampNeg (((170 * (M_12 0 16)) + x10_11)))))), (0, .ref (φ 0)), (2, .int (x2_3)), (3, .int (x3_4)), (4, .int (x4_5)), (5, .int (x5_6)), (6, .int (x6_7)), (7, .int (x7_8)), (8, .int (x8_9)), (9, .int (x9_10)), (10, .int (x10_11))]) hx hb dX11_worth_168 hl (by decide) rfl (fun ls hl => ?_)
            refine lv_iload hx hb dX11_worth_170 (lv_at hl 1 rfl) ?_
            refine lv_bipush (v := (-13)) hx hb dX11_worth_172 (by decide) ?_
            refine lv_icmp_ne (tgt := 199) hx hb dX11_worth_174 (by decide) (fun c_19 => ?_) (fun c_19 => ?_)
            · rw [if_neg c_19] at h
              refine lv_iload hx hb dX11_worth_199 (lv_at hl 1 rfl) ?_
              refine lv_bipush (v := (-19)) hx hb dX11_worth_201 (by decide) ?_
              refine lv_icmp_ne (tgt := 221) hx hb dX11_worth_203 (by decide) (fun c_20 => ?_) (fun c_20 => ?_)
              · rw [if_neg c_20] at h
                refine lv_aload_n hx hb dX11_worth_221 rfl (lv_at hl 2 rfl) ?_
                refine G_X11_49 X.1 hn hP dX11_worth_222 ?_
                refine lv_iload hx hb dX11_worth_225 (lv_at hl 10 rfl) ?_
                refine lv_iconst (v := 2) hx hb dX11_worth_227 (by decide) ?_
                refine lv_isub hx hb dX11_worth_228 ?_
                obtain ⟨c_21, h⟩ := og h
                refine r_iald (k := (Int32.toNatClampNeg ((x9_10 - 2)))) X.1 hP (by omega) sM_stack rfl (vin c_21) dX11_worth_229 ?_
                refine lv_istore (lv' := [(13, .int ((M_12 14 (Int32.toNatClampNeg ((x9_10 - 2)))))), (12, .int ((M_12 14 (Int32.toNatClampNeg ((x9_10 - 1)))))), (11, .int ((M_12 12 (Int32.toNatClampNeg (((170 * (M_12 0 16)) + x10_11)))))), (0, .ref (φ 0)), (2, .int (x2_3)), (3, .int (x3_4)), (4, .int (x4_5)), (5, .int (x5_6)), (6, .int (x6_7)), (7, .int (x7_8)), (8, .int (x8_9)), (9, .int (x9_10)), (10, .int (x10_11))]) hx hb dX11_worth_230 hl (by decide) rfl (fun ls hl => ?_)
                refine lv_iinc (v := (x9_10 + (-1))) (lv' := [(9, .int ((x9_10 + (-1)))), (13, .int ((M_12 14 (Int32.toNatClampNeg ((x9_10 - 2)))))), (12, .int ((M_12 14 (Int32.toNatClampNeg ((x9_10 - 1)))))), (11, .int ((M_12 12 (Int32.toNatClampNeg (((170 * (M_12 0 16)) + x10_11)))))), (0, .ref (φ 0)), (2, .int (x2_3)), (3, .int (x3_4)), (4, .int (x4_5)), (5, .int (x5_6)), (6, .int (x6_7)), (7, .int (x7_8)), (8, .int (x8_9)), (10, .int (x10_11))]) hx hb dX11_worth_232 hl (k := 11) rfl (by rw [show Int32.ofInt (-1) = (-1) from by decide]) (by decide) rfl (fun ls hl => ?_)
                refine lv_iload hx hb dX11_worth_235 (lv_at hl 3 rfl) ?_
                by_cases c_22 : Int32.toInt ((M_12 12 (Int32.toNatClampNeg (((170 * (M_12 0 16)) + x10_11))))) < -17 ∨ -11 < Int32.toInt ((M_12 12 (Int32.toNatClampNeg (((170 * (M_12 0 16)) + x10_11)))))
                · rw [if_pos c_22] at h
                  refine lv_tableOut (tgt := 374) hx hb dX11_worth_237 c_22 (by decide) ?_
                  refine lv_iload hx hb dX11_worth_374 (lv_at hl 1 rfl) ?_
                  refine lv_iload hx hb dX11_worth_376 (lv_at hl 2 rfl) ?_
                  refine lv_imul hx hb dX11_worth_378 ?_
                  refine lv_istore (lv' := [(14, .int (((M_12 14 (Int32.toNatClampNeg ((x9_10 - 2)))) * (M_12 14 (Int32.toNatClampNeg ((x9_10 - 1))))))), (9, .int ((x9_10 + (-1)))), (13, .int ((M_12 14 (Int32.toNatClampNeg ((x9_10 - 2)))))), (12, .int ((M_12 14 (Int32.toNatClampNeg ((x9_10 - 1)))))), (11, .int ((M_12 12 (Int32.toNatClampNeg (((170 * (M_12 0 16)) + x10_11)))))), (0, .ref (φ 0)), (2, .int (x2_3)), (3, .int (x3_4)), (4, .int (x4_5)), (5, .int (x5_6)), (6, .int (x6_7)), (7, .int (x7_8)), (8, .int (x8_9)), (10, .int (x10_11))]) hx hb dX11_worth_379 hl (by decide) rfl (fun ls hl => ?_)
                  refine lv_aload_n hx hb dX11_worth_381 rfl (lv_at hl 5 rfl) ?_
                  refine G_X11_49 X.1 hn hP dX11_worth_382 ?_
                  refine lv_iload hx hb dX11_worth_385 (lv_at hl 1 rfl) ?_
                  refine lv_iconst (v := 1) hx hb dX11_worth_387 (by decide) ?_
                  refine lv_isub hx hb dX11_worth_388 ?_
                  refine lv_iload hx hb dX11_worth_389 (lv_at hl 0 rfl) ?_
                  obtain ⟨c_23, h⟩ := og h
                  refine r_iast (k := (Int32.toNatClampNeg (((x9_10 + (-1)) - 1)))) X.1 X.2.2.2.1 hP hS (by omega) sM_stack rfl (vin c_23) dX11_worth_391 (fun H locs hP hS => ?_)
                  refine lv_iinc (v := (x10_11 + 1)) (lv' := [(10, .int ((x10_11 + 1))), (14, .int (((M_12 14 (Int32.toNatClampNeg ((x9_10 - 2)))) * (M_12 14 (Int32.toNatClampNeg ((x9_10 - 1))))))), (9, .int ((x9_10 + (-1)))), (13, .int ((M_12 14 (Int32.toNatClampNeg ((x9_10 - 2)))))), (12, .int ((M_12 14 (Int32.toNatClampNeg ((x9_10 - 1)))))), (11, .int ((M_12 12 (Int32.toNatClampNeg (((170 * (M_12 0 16)) + x10_11)))))), (0, .ref (φ 0)), (2, .int (x2_3)), (3, .int (x3_4)), (4, .int (x4_5)), (5, .int (x5_6)), (6, .int (x6_7)), (7, .int (x7_8)), (8, .int (x8_9))]) hx hb dX11_worth_392 hl (k := 13) rfl (by rw [show Int32.ofInt (1) = 1 from by decide]) (by decide) rfl (fun ls hl => ?_)
                  refine lv_goto (tgt := 35) hx hb dX11_worth_395 (by decide) ?_
                  exact ih _ _ _ _ _ _ _ _ _ _ _ _ _ hP hS (lv_sub hl [6, 7, 8, 9, 10, 11, 12, 13, 2, 0] rfl)  h
                · rw [if_neg c_22] at h
                  by_cases c_24 : (M_12 12 (Int32.toNatClampNeg (((170 * (M_12 0 16)) + x10_11)))) = (-17)
                  · rw [if_pos c_24] at h
                    refine lv_tableIn (tgt := 364) (off := 127) hx hb dX11_worth_237 (fun q => c_22 (Or.inl q)) (fun q => c_22 (Or.inr q)) (by rw [c_24]; rfl) (by decide) ?_
                    refine lv_iload hx hb dX11_worth_364 (lv_at hl 1 rfl) ?_
                    refine lv_iload hx hb dX11_worth_366 (lv_at hl 2 rfl) ?_
                    refine lv_isub hx hb dX11_worth_368 ?_
                    refine lv_istore (lv' := [(14, .int (((M_12 14 (Int32.toNatClampNeg ((x9_10 - 2)))) - (M_12 14 (Int32.toNatClampNeg ((x9_10 - 1))))))), (9, .int ((x9_10 + (-1)))), (13, .int ((M_12 14 (Int32.toNatClampNeg ((x9_10 - 2)))))), (12, .int ((M_12 14 (Int32.toNatClampNeg ((x9_10 - 1)))))), (11, .int ((M_12 12 (Int32.toNatClampNeg (((170 * (M_12 0 16)) + x10_11)))))), (0, .ref (φ 0)), (2, .int (x2_3)), (3, .int (x3_4)), (4, .int (x4_5)), (5, .int (x5_6)), (6, .int (x6_7)), (7, .int (x7_8)), (8, .int (x8_9)), (10, .int (x10_11))]) hx hb dX11_worth_369 hl (by decide) rfl (fun ls hl => ?_)
                    refine lv_goto (tgt := 381) hx hb dX11_worth_371 (by decide) ?_
                    refine lv_aload_n hx hb dX11_worth_381 rfl (lv_at hl 5 rfl) ?_
                    refine G_X11_49 X.1 hn hP dX11_worth_382 ?_
                    refine lv_iload hx hb dX11_worth_385 (lv_at hl 1 rfl) ?_
                    refine lv_iconst (v := 1) hx hb dX11_worth_387 (by decide) ?_
                    refine lv_isub hx hb dX11_worth_388 ?_
                    refine lv_iload hx hb dX11_worth_389 (lv_at hl 0 rfl) ?_
                    obtain ⟨c_25, h⟩ := og h
                    refine r_iast (k := (Int32.toNatClampNeg (((x9_10 + (-1)) - 1)))) X.1 X.2.2.2.1 hP hS (by omega) sM_stack rfl (vin c_25) dX11_worth_391 (fun H locs hP hS => ?_)
                    refine lv_iinc (v := (x10_11 + 1)) (lv' := [(10, .int ((x10_11 + 1))), (14, .int (((M_12 14 (Int32.toNatClampNeg ((x9_10 - 2)))) - (M_12 14 (Int32.toNatClampNeg ((x9_10 - 1))))))), (9, .int ((x9_10 + (-1)))), (13, .int ((M_12 14 (Int32.toNatClampNeg ((x9_10 - 2)))))), (12, .int ((M_12 14 (Int32.toNatClampNeg ((x9_10 - 1)))))), (11, .int ((M_12 12 (Int32.toNatClampNeg (((170 * (M_12 0 16)) + x10_11)))))), (0, .ref (φ 0)), (2, .int (x2_3)), (3, .int (x3_4)), (4, .int (x4_5)), (5, .int (x5_6)), (6, .int (x6_7)), (7, .int (x7_8)), (8, .int (x8_9))]) hx hb dX11_worth_392 hl (k := 13) rfl (by rw [show Int32.ofInt (1) = 1 from by decide]) (by decide) rfl (fun ls hl => ?_)
                    refine lv_goto (tgt := 35) hx hb dX11_worth_395 (by decide) ?_
                    exact ih _ _ _ _ _ _ _ _ _ _ _ _ _ hP hS (lv_sub hl [6, 7, 8, 9, 10, 11, 12, 13, 2, 0] rfl)  h
                  · rw [if_neg c_24] at h
                    by_cases c_26 : (M_12 12 (Int32.toNatClampNeg (((170 * (M_12 0 16)) + x10_11)))) = (-16)
                    · rw [if_pos c_26] at h
                      refine lv_tableIn (tgt := 354) (off := 117) hx hb dX11_worth_237 (fun q => c_22 (Or.inl q)) (fun q => c_22 (Or.inr q)) (by rw [c_26]; rfl) (by decide) ?_
                      refine lv_iload hx hb dX11_worth_354 (lv_at hl 1 rfl) ?_
                      refine lv_iload hx hb dX11_worth_356 (lv_at hl 2 rfl) ?_
                      refine lv_iadd hx hb dX11_worth_358 ?_
                      refine lv_istore (lv' := [(14, .int (((M_12 14 (Int32.toNatClampNeg ((x9_10 - 2)))) + (M_12 14 (Int32.toNatClampNeg ((x9_10 - 1))))))), (9, .int ((x9_10 + (-1)))), (13, .int ((M_12 14 (Int32.toNatClampNeg ((x9_10 - 2)))))), (12, .int ((M_12 14 (Int32.toNatClampNeg ((x9_10 - 1)))))), (11, .int ((M_12 12 (Int32.toNatClampNeg (((170 * (M_12 0 16)) + x10_11)))))), (0, .ref (φ 0)), (2, .int (x2_3)), (3, .int (x3_4)), (4, .int (x4_5)), (5, .int (x5_6)), (6, .int (x6_7)), (7, .int (x7_8)), (8, .int (x8_9)), (10, .int (x10_11))]) hx hb dX11_worth_359 hl (by decide) rfl (fun ls hl => ?_)
                      refine lv_goto (tgt := 381) hx hb dX11_worth_361 (by decide) ?_
                      refine lv_aload_n hx hb dX11_worth_381 rfl (lv_at hl 5 rfl) ?_
                      refine G_X11_49 X.1 hn hP dX11_worth_382 ?_
                      refine lv_iload hx hb dX11_worth_385 (lv_at hl 1 rfl) ?_
                      refine lv_iconst (v := 1) hx hb dX11_worth_387 (by decide) ?_
                      refine lv_isub hx hb dX11_worth_388 ?_
                      refine lv_iload hx hb dX11_worth_389 (lv_at hl 0 rfl) ?_
                      obtain ⟨c_27, h⟩ := og h
                      refine r_iast (k := (Int32.toNatClampNeg (((x9_10 + (-1)) - 1)))) X.1 X.2.2.2.1 hP hS (by omega) sM_stack rfl (vin c_27) dX11_worth_391 (fun H locs hP hS => ?_)
                      refine lv_iinc (v := (x10_11 + 1)) (lv' := [(10, .int ((x10_11 + 1))), (14, .int (((M_12 14 (Int32.toNatClampNeg ((x9_10 - 2)))) + (M_12 14 (Int32.toNatClampNeg ((x9_10 - 1))))))), (9, .int ((x9_10 + (-1)))), (13, .int ((M_12 14 (Int32.toNatClampNeg ((x9_10 - 2)))))), (12, .int ((M_12 14 (Int32.toNatClampNeg ((x9_10 - 1)))))), (11, .int ((M_12 12 (Int32.toNatClampNeg (((170 * (M_12 0 16)) + x10_11)))))), (0, .ref (φ 0)), (2, .int (x2_3)), (3, .int (x3_4)), (4, .int (x4_5)), (5, .int (x5_6)), (6, .int (x6_7)), (7, .int (x7_8)), (8, .int (x8_9))]) hx hb dX11_worth_392 hl (k := 13) rfl (by rw [show Int32.ofInt (1) = 1 from by decide]) (by decide) rfl (fun ls hl => ?_)
                      refine lv_goto (tgt := 35) hx hb dX11_worth_395 (by decide) ?_
                      exact ih _ _ _ _ _ _ _ _ _ _ _ _ _ hP hS (lv_sub hl [6, 7, 8, 9, 10, 11, 12, 13, 2, 0] rfl)  h
                    · rw [if_neg c_26] at h
                      by_cases c_28 : (M_12 12 (Int32.toNatClampNeg (((170 * (M_12 0 16)) + x10_11)))) = (-15)
                      · rw [if_pos c_28] at h
                        refine lv_tableIn (tgt := 337) (off := 100) hx hb dX11_worth_237 (fun q => c_22 (Or.inl q)) (fun q => c_22 (Or.inr q)) (by rw [c_28]; rfl) (by decide) ?_
                        refine lv_iload hx hb dX11_worth_337 (lv_at hl 1 rfl) ?_
                        refine lv_iload hx hb dX11_worth_339 (lv_at hl 2 rfl) ?_
                        refine lv_icmp_ne (tgt := 348) hx hb dX11_worth_341 (by decide) (fun c_29 => ?_) (fun c_29 => ?_)
                        · rw [if_neg c_29] at h
                          refine lv_iconst (v := 0) hx hb dX11_worth_348 (by decide) ?_
                          refine lv_istore (lv' := [(14, .int (0)), (9, .int ((x9_10 + (-1)))), (13, .int ((M_12 14 (Int32.toNatClampNeg ((x9_10 - 2)))))), (12, .int ((M_12 14 (Int32.toNatClampNeg ((x9_10 - 1)))))), (11, .int ((M_12 12 (Int32.toNatClampNeg (((170 * (M_12 0 16)) + x10_11)))))), (0, .ref (φ 0)), (2, .int (x2_3)), (3, .int (x3_4)), (4, .int (x4_5)), (5, .int (x5_6)), (6, .int (x6_7)), (7, .int (x7_8)), (8, .int (x8_9)), (10, .int (x10_11))]) hx hb dX11_worth_349 hl (by decide) rfl (fun ls hl => ?_)
                          refine lv_goto (tgt := 381) hx hb dX11_worth_351 (by decide) ?_
                          refine lv_aload_n hx hb dX11_worth_381 rfl (lv_at hl 5 rfl) ?_
                          refine G_X11_49 X.1 hn hP dX11_worth_382 ?_
                          refine lv_iload hx hb dX11_worth_385 (lv_at hl 1 rfl) ?_
                          refine lv_iconst (v := 1) hx hb dX11_worth_387 (by decide) ?_
                          refine lv_isub hx hb dX11_worth_388 ?_
                          refine lv_iload hx hb dX11_worth_389 (lv_at hl 0 rfl) ?_
                          obtain ⟨c_30, h⟩ := og h
                          refine r_iast (k := (Int32.toNatClampNeg (((x9_10 + (-1)) - 1)))) X.1 X.2.2.2.1 hP hS (by omega) sM_stack rfl (vin c_30) dX11_worth_391 (fun H locs hP hS => ?_)
                          refine lv_iinc (v := (x10_11 + 1)) (lv' := [(10, .int ((x10_11 + 1))), (14, .int (0)), (9, .int ((x9_10 + (-1)))), (13, .int ((M_12 14 (Int32.toNatClampNeg ((x9_10 - 2)))))), (12, .int ((M_12 14 (Int32.toNatClampNeg ((x9_10 - 1)))))), (11, .int ((M_12 12 (Int32.toNatClampNeg (((170 * (M_12 0 16)) + x10_11)))))), (0, .ref (φ 0)), (2, .int (x2_3)), (3, .int (x3_4)), (4, .int (x4_5)), (5, .int (x5_6)), (6, .int (x6_7)), (7, .int (x7_8)), (8, .int (x8_9))]) hx hb dX11_worth_392 hl (k := 13) rfl (by rw [show Int32.ofInt (1) = 1 from by decide]) (by decide) rfl (fun ls hl => ?_)
                          refine lv_goto (tgt := 35) hx hb dX11_worth_395 (by decide) ?_
                          exact ih _ _ _ _ _ _ _ _ _ _ _ _ _ hP hS (lv_sub hl [6, 7, 8, 9, 10, 11, 12, 13, 2, 0] rfl)  h
                        · rw [if_pos c_29] at h
                          refine lv_iconst (v := 1) hx hb dX11_worth_344 (by decide) ?_
                          refine lv_goto (tgt := 349) hx hb dX11_worth_345 (by decide) ?_
                          refine lv_istore (lv' := [(14, .int (1)), (9, .int ((x9_10 + (-1)))), (13, .int ((M_12 14 (Int32.toNatClampNeg ((x9_10 - 2)))))), (12, .int ((M_12 14 (Int32.toNatClampNeg ((x9_10 - 1)))))), (11, .int ((M_12 12 (Int32.toNatClampNeg (((170 * (M_12 0 16)) + x10_11)))))), (0, .ref (φ 0)), (2, .int (x2_3)), (3, .int (x3_4)), (4, .int (x4_5)), (5, .int (x5_6)), (6, .int (x6_7)), (7, .int (x7_8)), (8, .int (x8_9)), (10, .int (x10_11))]) hx hb dX11_worth_349 hl (by decide) rfl (fun ls hl => ?_)
                          refine lv_goto (tgt := 381) hx hb dX11_worth_351 (by decide) ?_
                          refine lv_aload_n hx hb dX11_worth_381 rfl (lv_at hl 5 rfl) ?_
                          refine G_X11_49 X.1 hn hP dX11_worth_382 ?_
                          refine lv_iload hx hb dX11_worth_385 (lv_at hl 1 rfl) ?_
                          refine lv_iconst (v := 1) hx hb dX11_worth_387 (by decide) ?_
                          refine lv_isub hx hb dX11_worth_388 ?_
                          refine lv_iload hx hb dX11_worth_389 (lv_at hl 0 rfl) ?_
                          obtain ⟨c_31, h⟩ := og h
                          refine r_iast (k := (Int32.toNatClampNeg (((x9_10 + (-1)) - 1)))) X.1 X.2.2.2.1 hP hS (by omega) sM_stack rfl (vin c_31) dX11_worth_391 (fun H locs hP hS => ?_)
                          refine lv_iinc (v := (x10_11 + 1)) (lv' := [(10, .int ((x10_11 + 1))), (14, .int (1)), (9, .int ((x9_10 + (-1)))), (13, .int ((M_12 14 (Int32.toNatClampNeg ((x9_10 - 2)))))), (12, .int ((M_12 14 (Int32.toNatClampNeg ((x9_10 - 1)))))), (11, .int ((M_12 12 (Int32.toNatClampNeg (((170 * (M_12 0 16)) + x10_11)))))), (0, .ref (φ 0)), (2, .int (x2_3)), (3, .int (x3_4)), (4, .int (x4_5)), (5, .int (x5_6)), (6, .int (x6_7)), (7, .int (x7_8)), (8, .int (x8_9))]) hx hb dX11_worth_392 hl (k := 13) rfl (by rw [show Int32.ofInt (1) = 1 from by decide]) (by decide) rfl (fun ls hl => ?_)
                          refine lv_goto (tgt := 35) hx hb dX11_worth_395 (by decide) ?_
                          exact ih _ _ _ _ _ _ _ _ _ _ _ _ _ hP hS (lv_sub hl [6, 7, 8, 9, 10, 11, 12, 13, 2, 0] rfl)  h
                      · rw [if_neg c_28] at h
                        by_cases c_32 : (M_12 12 (Int32.toNatClampNeg (((170 * (M_12 0 16)) + x10_11)))) = (-14)
                        · rw [if_pos c_32] at h
                          refine lv_tableIn (tgt := 320) (off := 83) hx hb dX11_worth_237 (fun q => c_22 (Or.inl q)) (fun q => c_22 (Or.inr q)) (by rw [c_32]; rfl) (by decide) ?_
                          refine lv_iload hx hb dX11_worth_320 (lv_at hl 1 rfl) ?_
                          refine lv_iload hx hb dX11_worth_322 (lv_at hl 2 rfl) ?_
                          refine lv_icmp_ge (tgt := 331) hx hb dX11_worth_324 (by decide) (fun c_33 => ?_) (fun c_33 => ?_)
                          · rw [if_pos c_33] at h
                            refine lv_iconst (v := 0) hx hb dX11_worth_331 (by decide) ?_
                            refine lv_istore (lv' := [(14, .int (0)), (9, .int ((x9_10 + (-1)))), (13, .int ((M_12 14 (Int32.toNatClampNeg ((x9_10 - 2)))))), (12, .int ((M_12 14 (Int32.toNatClampNeg ((x9_10 - 1)))))), (11, .int ((M_12 12 (Int32.toNatClampNeg (((170 * (M_12 0 16)) + x10_11)))))), (0, .ref (φ 0)), (2, .int (x2_3)), (3, .int (x3_4)), (4, .int (x4_5)), (5, .int (x5_6)), (6, .int (x6_7)), (7, .int (x7_8)), (8, .int (x8_9)), (10, .int (x10_11))]) hx hb dX11_worth_332 hl (by decide) rfl (fun ls hl => ?_)
                            refine lv_goto (tgt := 381) hx hb dX11_worth_334 (by decide) ?_
                            refine lv_aload_n hx hb dX11_worth_381 rfl (lv_at hl 5 rfl) ?_
                            refine G_X11_49 X.1 hn hP dX11_worth_382 ?_
                            refine lv_iload hx hb dX11_worth_385 (lv_at hl 1 rfl) ?_
                            refine lv_iconst (v := 1) hx hb dX11_worth_387 (by decide) ?_
                            refine lv_isub hx hb dX11_worth_388 ?_
                            refine lv_iload hx hb dX11_worth_389 (lv_at hl 0 rfl) ?_
                            obtain ⟨c_34, h⟩ := og h
                            refine r_iast (k := (Int32.toNatClampNeg (((x9_10 + (-1)) - 1)))) X.1 X.2.2.2.1 hP hS (by omega) sM_stack rfl (vin c_34) dX11_worth_391 (fun H locs hP hS => ?_)
                            refine lv_iinc (v := (x10_11 + 1)) (lv' := [(10, .int ((x10_11 + 1))), (14, .int (0)), (9, .int ((x9_10 + (-1)))), (13, .int ((M_12 14 (Int32.toNatClampNeg ((x9_10 - 2)))))), (12, .int ((M_12 14 (Int32.toNatClampNeg ((x9_10 - 1)))))), (11, .int ((M_12 12 (Int32.toNatClampNeg (((170 * (M_12 0 16)) + x10_11)))))), (0, .ref (φ 0)), (2, .int (x2_3)), (3, .int (x3_4)), (4, .int (x4_5)), (5, .int (x5_6)), (6, .int (x6_7)), (7, .int (x7_8)), (8, .int (x8_9))]) hx hb dX11_worth_392 hl (k := 13) rfl (by rw [show Int32.ofInt (1) = 1 from by decide]) (by decide) rfl (fun ls hl => ?_)
                            refine lv_goto (tgt := 35) hx hb dX11_worth_395 (by decide) ?_
                            exact ih _ _ _ _ _ _ _ _ _ _ _ _ _ hP hS (lv_sub hl [6, 7, 8, 9, 10, 11, 12, 13, 2, 0] rfl)  h
                          · rw [if_neg c_33] at h
                            refine lv_iconst (v := 1) hx hb dX11_worth_327 (by decide) ?_
                            refine lv_goto (tgt := 332) hx hb dX11_worth_328 (by decide) ?_
                            refine lv_istore (lv' := [(14, .int (1)), (9, .int ((x9_10 + (-1)))), (13, .int ((M_12 14 (Int32.toNatClampNeg ((x9_10 - 2)))))), (12, .int ((M_12 14 (Int32.toNatClampNeg ((x9_10 - 1)))))), (11, .int ((M_12 12 (Int32.toNatClampNeg (((170 * (M_12 0 16)) + x10_11)))))), (0, .ref (φ 0)), (2, .int (x2_3)), (3, .int (x3_4)), (4, .int (x4_5)), (5, .int (x5_6)), (6, .int (x6_7)), (7, .int (x7_8)), (8, .int (x8_9)), (10, .int (x10_11))]) hx hb dX11_worth_332 hl (by decide) rfl (fun ls hl => ?_)
                            refine lv_goto (tgt := 381) hx hb dX11_worth_334 (by decide) ?_
                            refine lv_aload_n hx hb dX11_worth_381 rfl (lv_at hl 5 rfl) ?_
                            refine G_X11_49 X.1 hn hP dX11_worth_382 ?_
                            refine lv_iload hx hb dX11_worth_385 (lv_at hl 1 rfl) ?_
                            refine lv_iconst (v := 1) hx hb dX11_worth_387 (by decide) ?_
                            refine lv_isub hx hb dX11_worth_388 ?_
                            refine lv_iload hx hb dX11_worth_389 (lv_at hl 0 rfl) ?_
                            obtain ⟨c_35, h⟩ := og h
                            refine r_iast (k := (Int32.toNatClampNeg (((x9_10 + (-1)) - 1)))) X.1 X.2.2.2.1 hP hS (by omega) sM_stack rfl (vin c_35) dX11_worth_391 (fun H locs hP hS => ?_)
                            refine lv_iinc (v := (x10_11 + 1)) (lv' := [(10, .int ((x10_11 + 1))), (14, .int (1)), (9, .int ((x9_10 + (-1)))), (13, .int ((M_12 14 (Int32.toNatClampNeg ((x9_10 - 2)))))), (12, .int ((M_12 14 (Int32.toNatClampNeg ((x9_10 - 1)))))), (11, .int ((M_12 12 (Int32.toNatClampNeg (((170 * (M_12 0 16)) + x10_11)))))), (0, .ref (φ 0)), (2, .int (x2_3)), (3, .int (x3_4)), (4, .int (x4_5)), (5, .int (x5_6)), (6, .int (x6_7)), (7, .int (x7_8)), (8, .int (x8_9))]) hx hb dX11_worth_392 hl (k := 13) rfl (by rw [show Int32.ofInt (1) = 1 from by decide]) (by decide) rfl (fun ls hl => ?_)
                            refine lv_goto (tgt := 35) hx hb dX11_worth_395 (by decide) ?_
                            exact ih _ _ _ _ _ _ _ _ _ _ _ _ _ hP hS (lv_sub hl [6, 7, 8, 9, 10, 11, 12, 13, 2, 0] rfl)  h
                        · rw [if_neg c_32] at h
                          by_cases c_36 : (M_12 12 (Int32.toNatClampNeg (((170 * (M_12 0 16)) + x10_11)))) = (-13)
                          · rw [if_pos c_36] at h
                            refine lv_tableIn (tgt := 374) (off := 137) hx hb dX11_worth_237 (fun q => c_22 (Or.inl q)) (fun q => c_22 (Or.inr q)) (by rw [c_36]; rfl) (by decide) ?_
                            refine lv_iload hx hb dX11_worth_374 (lv_at hl 1 rfl) ?_
                            refine lv_iload hx hb dX11_worth_376 (lv_at hl 2 rfl) ?_
                            refine lv_imul hx hb dX11_worth_378 ?_
                            refine lv_istore (lv' := [(14, .int (((M_12 14 (Int32.toNatClampNeg ((x9_10 - 2)))) * (M_12 14 (Int32.toNatClampNeg ((x9_10 - 1))))))), (9, .int ((x9_10 + (-1)))), (13, .int ((M_12 14 (Int32.toNatClampNeg ((x9_10 - 2)))))), (12, .int ((M_12 14 (Int32.toNatClampNeg ((x9_10 - 1)))))), (11, .int ((M_12 12 (Int32.toNatClampNeg (((170 * (M_12 0 16)) + x10_11)))))), (0, .ref (φ 0)), (2, .int (x2_3)), (3, .int (x3_4)), (4, .int (x4_5)), (5, .int (x5_6)), (6, .int (x6_7)), (7, .int (x7_8)), (8, .int (x8_9)), (10, .int (x10_11))]) hx hb dX11_worth_379 hl (by decide) rfl (fun ls hl => ?_)
                            refine lv_aload_n hx hb dX11_worth_381 rfl (lv_at hl 5 rfl) ?_
                            refine G_X11_49 X.1 hn hP dX11_worth_382 ?_
                            refine lv_iload hx hb dX11_worth_385 (lv_at hl 1 rfl) ?_
                            refine lv_iconst (v := 1) hx hb dX11_worth_387 (by decide) ?_
                            refine lv_isub hx hb dX11_worth_388 ?_
                            refine lv_iload hx hb dX11_worth_389 (lv_at hl 0 rfl) ?_
                            obtain ⟨c_37, h⟩ := og h
                            refine r_iast (k := (Int32.toNatClampNeg (((x9_10 + (-1)) - 1)))) X.1 X.2.2.2.1 hP hS (by omega) sM_stack rfl (vin c_37) dX11_worth_391 (fun H locs hP hS => ?_)
                            refine lv_iinc (v := (x10_11 + 1)) (lv' := [(10, .int ((x10_11 + 1))), (14, .int (((M_12 14 (Int32.toNatClampNeg ((x9_10 - 2)))) * (M_12 14 (Int32.toNatClampNeg ((x9_10 - 1))))))), (9, .int ((x9_10 + (-1)))), (13, .int ((M_12 14 (Int32.toNatClampNeg ((x9_10 - 2)))))), (12, .int ((M_12 14 (Int32.toNatClampNeg ((x9_10 - 1)))))), (11, .int ((M_12 12 (Int32.toNatClampNeg (((170 * (M_12 0 16)) + x10_11)))))), (0, .ref (φ 0)), (2, .int (x2_3)), (3, .int (x3_4)), (4, .int (x4_5)), (5, .int (x5_6)), (6, .int (x6_7)), (7, .int (x7_8)), (8, .int (x8_9))]) hx hb dX11_worth_392 hl (k := 13) rfl (by rw [show Int32.ofInt (1) = 1 from by decide]) (by decide) rfl (fun ls hl => ?_)
                            refine lv_goto (tgt := 35) hx hb dX11_worth_395 (by decide) ?_
                            exact ih _ _ _ _ _ _ _ _ _ _ _ _ _ hP hS (lv_sub hl [6, 7, 8, 9, 10, 11, 12, 13, 2, 0] rfl)  h
                          · rw [if_neg c_36] at h
                            by_cases c_38 : (M_12 12 (Int32.toNatClampNeg (((170 * (M_12 0 16)) + x10_11)))) = (-12)
                            · rw [if_pos c_38] at h
                              refine lv_tableIn (tgt := 300) (off := 63) hx hb dX11_worth_237 (fun q => c_22 (Or.inl q)) (fun q => c_22 (Or.inr q)) (by rw [c_38]; rfl) (by decide) ?_
                              refine lv_iload hx hb dX11_worth_300 (lv_at hl 1 rfl) ?_
                              refine lv_if_eq (tgt := 314) hx hb dX11_worth_302 (by decide) (fun c_39 => ?_) (fun c_39 => ?_)
                              · rw [if_pos c_39] at h
                                refine lv_iconst (v := 0) hx hb dX11_worth_314 (by decide) ?_
                                refine lv_istore (lv' := [(14, .int (0)), (9, .int ((x9_10 + (-1)))), (13, .int ((M_12 14 (Int32.toNatClampNeg ((x9_10 - 2)))))), (12, .int ((M_12 14 (Int32.toNatClampNeg ((x9_10 - 1)))))), (11, .int ((M_12 12 (Int32.toNatClampNeg (((170 * (M_12 0 16)) + x10_11)))))), (0, .ref (φ 0)), (2, .int (x2_3)), (3, .int (x3_4)), (4, .int (x4_5)), (5, .int (x5_6)), (6, .int (x6_7)), (7, .int (x7_8)), (8, .int (x8_9)), (10, .int (x10_11))]) hx hb dX11_worth_315 hl (by decide) rfl (fun ls hl => ?_)
                                refine lv_goto (tgt := 381) hx hb dX11_worth_317 (by decide) ?_
                                refine lv_aload_n hx hb dX11_worth_381 rfl (lv_at hl 5 rfl) ?_
                                refine G_X11_49 X.1 hn hP dX11_worth_382 ?_
                                refine lv_iload hx hb dX11_worth_385 (lv_at hl 1 rfl) ?_
                                refine lv_iconst (v := 1) hx hb dX11_worth_387 (by decide) ?_
                                refine lv_isub hx hb dX11_worth_388 ?_
                                refine lv_iload hx hb dX11_worth_389 (lv_at hl 0 rfl) ?_
                                obtain ⟨c_40, h⟩ := og h
                                refine r_iast (k := (Int32.toNatClampNeg (((x9_10 + (-1)) - 1)))) X.1 X.2.2.2.1 hP hS (by omega) sM_stack rfl (vin c_40) dX11_worth_391 (fun H locs hP hS => ?_)
                                refine lv_iinc (v := (x10_11 + 1)) (lv' := [(10, .int ((x10_11 + 1))), (14, .int (0)), (9, .int ((x9_10 + (-1)))), (13, .int ((M_12 14 (Int32.toNatClampNeg ((x9_10 - 2)))))), (12, .int ((M_12 14 (Int32.toNatClampNeg ((x9_10 - 1)))))), (11, .int ((M_12 12 (Int32.toNatClampNeg (((170 * (M_12 0 16)) + x10_11)))))), (0, .ref (φ 0)), (2, .int (x2_3)), (3, .int (x3_4)), (4, .int (x4_5)), (5, .int (x5_6)), (6, .int (x6_7)), (7, .int (x7_8)), (8, .int (x8_9))]) hx hb dX11_worth_392 hl (k := 13) rfl (by rw [show Int32.ofInt (1) = 1 from by decide]) (by decide) rfl (fun ls hl => ?_)
                                refine lv_goto (tgt := 35) hx hb dX11_worth_395 (by decide) ?_
                                exact ih _ _ _ _ _ _ _ _ _ _ _ _ _ hP hS (lv_sub hl [6, 7, 8, 9, 10, 11, 12, 13, 2, 0] rfl)  h
                              · rw [if_neg c_39] at h
                                refine lv_iload hx hb dX11_worth_305 (lv_at hl 2 rfl) ?_
                                refine lv_if_eq (tgt := 314) hx hb dX11_worth_307 (by decide) (fun c_41 => ?_) (fun c_41 => ?_)
                                · rw [if_pos c_41] at h
                                  refine lv_iconst (v := 0) hx hb dX11_worth_314 (by decide) ?_
                                  refine lv_istore (lv' := [(14, .int (0)), (9, .int ((x9_10 + (-1)))), (13, .int ((M_12 14 (Int32.toNatClampNeg ((x9_10 - 2)))))), (12, .int ((M_12 14 (Int32.toNatClampNeg ((x9_10 - 1)))))), (11, .int ((M_12 12 (Int32.toNatClampNeg (((170 * (M_12 0 16)) + x10_11)))))), (0, .ref (φ 0)), (2, .int (x2_3)), (3, .int (x3_4)), (4, .int (x4_5)), (5, .int (x5_6)), (6, .int (x6_7)), (7, .int (x7_8)), (8, .int (x8_9)), (10, .int (x10_11))]) hx hb dX11_worth_315 hl (by decide) rfl (fun ls hl => ?_)
                                  refine lv_goto (tgt := 381) hx hb dX11_worth_317 (by decide) ?_
                                  refine lv_aload_n hx hb dX11_worth_381 rfl (lv_at hl 5 rfl) ?_
                                  refine G_X11_49 X.1 hn hP dX11_worth_382 ?_
                                  refine lv_iload hx hb dX11_worth_385 (lv_at hl 1 rfl) ?_
                                  refine lv_iconst (v := 1) hx hb dX11_worth_387 (by decide) ?_
                                  refine lv_isub hx hb dX11_worth_388 ?_
                                  refine lv_iload hx hb dX11_worth_389 (lv_at hl 0 rfl) ?_
                                  obtain ⟨c_42, h⟩ := og h
                                  refine r_iast (k := (Int32.toNatClampNeg (((x9_10 + (-1)) - 1)))) X.1 X.2.2.2.1 hP hS (by omega) sM_stack rfl (vin c_42) dX11_worth_391 (fun H locs hP hS => ?_)
                                  refine lv_iinc (v := (x10_11 + 1)) (lv' := [(10, .int ((x10_11 + 1))), (14, .int (0)), (9, .int ((x9_10 + (-1)))), (13, .int ((M_12 14 (Int32.toNatClampNeg ((x9_10 - 2)))))), (12, .int ((M_12 14 (Int32.toNatClampNeg ((x9_10 - 1)))))), (11, .int ((M_12 12 (Int32.toNatClampNeg (((170 * (M_12 0 16)) + x10_11)))))), (0, .ref (φ 0)), (2, .int (x2_3)), (3, .int (x3_4)), (4, .int (x4_5)), (5, .int (x5_6)), (6, .int (x6_7)), (7, .int (x7_8)), (8, .int (x8_9))]) hx hb dX11_worth_392 hl (k := 13) rfl (by rw [show Int32.ofInt (1) = 1 from by decide]) (by decide) rfl (fun ls hl => ?_)
                                  refine lv_goto (tgt := 35) hx hb dX11_worth_395 (by decide) ?_
                                  exact ih _ _ _ _ _ _ _ _ _ _ _ _ _ hP hS (lv_sub hl [6, 7, 8, 9, 10, 11, 12, 13, 2, 0] rfl)  h
                                · rw [if_neg c_41] at h
                                  refine lv_iconst (v := 1) hx hb dX11_worth_310 (by decide) ?_
                                  refine lv_goto (tgt := 315) hx hb dX11_worth_311 (by decide) ?_
                                  refine lv_istore (lv' := [(14, .int (1)), (9, .int ((x9_10 + (-1)))), (13, .int ((M_12 14 (Int32.toNatClampNeg ((x9_10 - 2)))))), (12, .int ((M_12 14 (Int32.toNatClampNeg ((x9_10 - 1)))))), (11, .int ((M_12 12 (Int32.toNatClampNeg (((170 * (M_12 0 16)) + x10_11)))))), (0, .ref (φ 0)), (2, .int (x2_3)), (3, .int (x3_4)), (4, .int (x4_5)), (5, .int (x5_6)), (6, .int (x6_7)), (7, .int (x7_8)), (8, .int (x8_9)), (10, .int (x10_11))]) hx hb dX11_worth_315 hl (by decide) rfl (fun ls hl => ?_)
                                  refine lv_goto (tgt := 381) hx hb dX11_worth_317 (by decide) ?_
                                  refine lv_aload_n hx hb dX11_worth_381 rfl (lv_at hl 5 rfl) ?_
                                  refine G_X11_49 X.1 hn hP dX11_worth_382 ?_
                                  refine lv_iload hx hb dX11_worth_385 (lv_at hl 1 rfl) ?_
                                  refine lv_iconst (v := 1) hx hb dX11_worth_387 (by decide) ?_
                                  refine lv_isub hx hb dX11_worth_388 ?_
                                  refine lv_iload hx hb dX11_worth_389 (lv_at hl 0 rfl) ?_
                                  obtain ⟨c_43, h⟩ := og h
                                  refine r_iast (k := (Int32.toNatClampNeg (((x9_10 + (-1)) - 1)))) X.1 X.2.2.2.1 hP hS (by omega) sM_stack rfl (vin c_43) dX11_worth_391 (fun H locs hP hS => ?_)
                                  refine lv_iinc (v := (x10_11 + 1)) (lv' := [(10, .int ((x10_11 + 1))), (14, .int (1)), (9, .int ((x9_10 + (-1)))), (13, .int ((M_12 14 (Int32.toNatClampNeg ((x9_10 - 2)))))), (12, .int ((M_12 14 (Int32.toNatClampNeg ((x9_10 - 1)))))), (11, .int ((M_12 12 (Int32.toNatClampNeg (((170 * (M_12 0 16)) + x10_11)))))), (0, .ref (φ 0)), (2, .int (x2_3)), (3, .int (x3_4)), (4, .int (x4_5)), (5, .int (x5_6)), (6, .int (x6_7)), (7, .int (x7_8)), (8, .int (x8_9))]) hx hb dX11_worth_392 hl (k := 13) rfl (by rw [show Int32.ofInt (1) = 1 from by decide]) (by decide) rfl (fun ls hl => ?_)
                                  refine lv_goto (tgt := 35) hx hb dX11_worth_395 (by decide) ?_
                                  exact ih _ _ _ _ _ _ _ _ _ _ _ _ _ hP hS (lv_sub hl [6, 7, 8, 9, 10, 11, 12, 13, 2, 0] rfl)  h
                            · rw [if_neg c_38] at h
                              by_cases c_44 : (M_12 12 (Int32.toNatClampNeg (((170 * (M_12 0 16)) + x10_11)))) = (-11)
                              · rw [if_pos c_44] at h
                                refine lv_tableIn (tgt := 280) (off := 43) hx hb dX11_worth_237 (fun q => c_22 (Or.inl q)) (fun q => c_22 (Or.inr q)) (by rw [c_44]; rfl) (by decide) ?_
                                refine lv_iload hx hb dX11_worth_280 (lv_at hl 1 rfl) ?_
                                refine lv_if_ne (tgt := 290) hx hb dX11_worth_282 (by decide) (fun c_45 => ?_) (fun c_45 => ?_)
                                · rw [if_neg c_45] at h
                                  refine lv_iconst (v := 1) hx hb dX11_worth_290 (by decide) ?_
                                  refine lv_goto (tgt := 295) hx hb dX11_worth_291 (by decide) ?_
                                  refine lv_istore (lv' := [(14, .int (1)), (9, .int ((x9_10 + (-1)))), (13, .int ((M_12 14 (Int32.toNatClampNeg ((x9_10 - 2)))))), (12, .int ((M_12 14 (Int32.toNatClampNeg ((x9_10 - 1)))))), (11, .int ((M_12 12 (Int32.toNatClampNeg (((170 * (M_12 0 16)) + x10_11)))))), (0, .ref (φ 0)), (2, .int (x2_3)), (3, .int (x3_4)), (4, .int (x4_5)), (5, .int (x5_6)), (6, .int (x6_7)), (7, .int (x7_8)), (8, .int (x8_9)), (10, .int (x10_11))]) hx hb dX11_worth_295 hl (by decide) rfl (fun ls hl => ?_)
                                  refine lv_goto (tgt := 381) hx hb dX11_worth_297 (by decide) ?_
                                  refine lv_aload_n hx hb dX11_worth_381 rfl (lv_at hl 5 rfl) ?_
                                  refine G_X11_49 X.1 hn hP dX11_worth_382 ?_
                                  refine lv_iload hx hb dX11_worth_385 (lv_at hl 1 rfl) ?_
                                  refine lv_iconst (v := 1) hx hb dX11_worth_387 (by decide) ?_
                                  refine lv_isub hx hb dX11_worth_388 ?_
                                  refine lv_iload hx hb dX11_worth_389 (lv_at hl 0 rfl) ?_
                                  obtain ⟨c_46, h⟩ := og h
                                  refine r_iast (k := (Int32.toNatClampNeg (((x9_10 + (-1)) - 1)))) X.1 X.2.2.2.1 hP hS (by omega) sM_stack rfl (vin c_46) dX11_worth_391 (fun H locs hP hS => ?_)
                                  refine lv_iinc (v := (x10_11 + 1)) (lv' := [(10, .int ((x10_11 + 1))), (14, .int (1)), (9, .int ((x9_10 + (-1)))), (13, .int ((M_12 14 (Int32.toNatClampNeg ((x9_10 - 2)))))), (12, .int ((M_12 14 (Int32.toNatClampNeg ((x9_10 - 1)))))), (11, .int ((M_12 12 (Int32.toNatClampNeg (((170 * (M_12 0 16)) + x10_11)))))), (0, .ref (φ 0)), (2, .int (x2_3)), (3, .int (x3_4)), (4, .int (x4_5)), (5, .int (x5_6)), (6, .int (x6_7)), (7, .int (x7_8)), (8, .int (x8_9))]) hx hb dX11_worth_392 hl (k := 13) rfl (by rw [show Int32.ofInt (1) = 1 from by decide]) (by decide) rfl (fun ls hl => ?_)
                                  refine lv_goto (tgt := 35) hx hb dX11_worth_395 (by decide) ?_
                                  exact ih _ _ _ _ _ _ _ _ _ _ _ _ _ hP hS (lv_sub hl [6, 7, 8, 9, 10, 11, 12, 13, 2, 0] rfl)  h
                                · rw [if_pos c_45] at h
                                  refine lv_iload hx hb dX11_worth_285 (lv_at hl 2 rfl) ?_
                                  refine lv_if_eq (tgt := 294) hx hb dX11_worth_287 (by decide) (fun c_47 => ?_) (fun c_47 => ?_)
                                  · rw [if_pos c_47] at h
                                    refine lv_iconst (v := 0) hx hb dX11_worth_294 (by decide) ?_
                                    refine lv_istore (lv' := [(14, .int (0)), (9, .int ((x9_10 + (-1)))), (13, .int ((M_12 14 (Int32.toNatClampNeg ((x9_10 - 2)))))), (12, .int ((M_12 14 (Int32.toNatClampNeg ((x9_10 - 1)))))), (11, .int ((M_12 12 (Int32.toNatClampNeg (((170 * (M_12 0 16)) + x10_11)))))), (0, .ref (φ 0)), (2, .int (x2_3)), (3, .int (x3_4)), (4, .int (x4_5)), (5, .int (x5_6)), (6, .int (x6_7)), (7, .int (x7_8)), (8, .int (x8_9)), (10, .int (x10_11))]) hx hb dX11_worth_295 hl (by decide) rfl (fun ls hl => ?_)
                                    refine lv_goto (tgt := 381) hx hb dX11_worth_297 (by decide) ?_
                                    refine lv_aload_n hx hb dX11_worth_381 rfl (lv_at hl 5 rfl) ?_
                                    refine G_X11_49 X.1 hn hP dX11_worth_382 ?_
                                    refine lv_iload hx hb dX11_worth_385 (lv_at hl 1 rfl) ?_
                                    refine lv_iconst (v := 1) hx hb dX11_worth_387 (by decide) ?_
                                    refine lv_isub hx hb dX11_worth_388 ?_
                                    refine lv_iload hx hb dX11_worth_389 (lv_at hl 0 rfl) ?_
                                    obtain ⟨c_48, h⟩ := og h
                                    refine r_iast (k := (Int32.toNatClampNeg (((x9_10 + (-1)) - 1)))) X.1 X.2.2.2.1 hP hS (by omega) sM_stack rfl (vin c_48) dX11_worth_391 (fun H locs hP hS => ?_)
                                    refine lv_iinc (v := (x10_11 + 1)) (lv' := [(10, .int ((x10_11 + 1))), (14, .int (0)), (9, .int ((x9_10 + (-1)))), (13, .int ((M_12 14 (Int32.toNatClampNeg ((x9_10 - 2)))))), (12, .int ((M_12 14 (Int32.toNatClampNeg ((x9_10 - 1)))))), (11, .int ((M_12 12 (Int32.toNatClampNeg (((170 * (M_12 0 16)) + x10_11)))))), (0, .ref (φ 0)), (2, .int (x2_3)), (3, .int (x3_4)), (4, .int (x4_5)), (5, .int (x5_6)), (6, .int (x6_7)), (7, .int (x7_8)), (8, .int (x8_9))]) hx hb dX11_worth_392 hl (k := 13) rfl (by rw [show Int32.ofInt (1) = 1 from by decide]) (by decide) rfl (fun ls hl => ?_)
                                    refine lv_goto (tgt := 35) hx hb dX11_worth_395 (by decide) ?_
                                    exact ih _ _ _ _ _ _ _ _ _ _ _ _ _ hP hS (lv_sub hl [6, 7, 8, 9, 10, 11, 12, 13, 2, 0] rfl)  h
                                  · rw [if_neg c_47] at h
                                    refine lv_iconst (v := 1) hx hb dX11_worth_290 (by decide) ?_
                                    refine lv_goto (tgt := 295) hx hb dX11_worth_291 (by decide) ?_
                                    refine lv_istore (lv' := [(14, .int (1)), (9, .int ((x9_10 + (-1)))), (13, .int ((M_12 14 (Int32.toNatClampNeg ((x9_10 - 2)))))), (12, .int ((M_12 14 (Int32.toNatClampNeg ((x9_10 - 1)))))), (11, .int ((M_12 12 (Int32.toNatClampNeg (((170 * (M_12 0 16)) + x10_11)))))), (0, .ref (φ 0)), (2, .int (x2_3)), (3, .int (x3_4)), (4, .int (x4_5)), (5, .int (x5_6)), (6, .int (x6_7)), (7, .int (x7_8)), (8, .int (x8_9)), (10, .int (x10_11))]) hx hb dX11_worth_295 hl (by decide) rfl (fun ls hl => ?_)
                                    refine lv_goto (tgt := 381) hx hb dX11_worth_297 (by decide) ?_
                                    refine lv_aload_n hx hb dX11_worth_381 rfl (lv_at hl 5 rfl) ?_
                                    refine G_X11_49 X.1 hn hP dX11_worth_382 ?_
                                    refine lv_iload hx hb dX11_worth_385 (lv_at hl 1 rfl) ?_
                                    refine lv_iconst (v := 1) hx hb dX11_worth_387 (by decide) ?_
                                    refine lv_isub hx hb dX11_worth_388 ?_
                                    refine lv_iload hx hb dX11_worth_389 (lv_at hl 0 rfl) ?_
                                    obtain ⟨c_49, h⟩ := og h
                                    refine r_iast (k := (Int32.toNatClampNeg (((x9_10 + (-1)) - 1)))) X.1 X.2.2.2.1 hP hS (by omega) sM_stack rfl (vin c_49) dX11_worth_391 (fun H locs hP hS => ?_)
                                    refine lv_iinc (v := (x10_11 + 1)) (lv' := [(10, .int ((x10_11 + 1))), (14, .int (1)), (9, .int ((x9_10 + (-1)))), (13, .int ((M_12 14 (Int32.toNatClampNeg ((x9_10 - 2)))))), (12, .int ((M_12 14 (Int32.toNatClampNeg ((x9_10 - 1)))))), (11, .int ((M_12 12 (Int32.toNatClampNeg (((170 * (M_12 0 16)) + x10_11)))))), (0, .ref (φ 0)), (2, .int (x2_3)), (3, .int (x3_4)), (4, .int (x4_5)), (5, .int (x5_6)), (6, .int (x6_7)), (7, .int (x7_8)), (8, .int (x8_9))]) hx hb dX11_worth_392 hl (k := 13) rfl (by rw [show Int32.ofInt (1) = 1 from by decide]) (by decide) rfl (fun ls hl => ?_)
                                    refine lv_goto (tgt := 35) hx hb dX11_worth_395 (by decide) ?_
                                    exact ih _ _ _ _ _ _ _ _ _ _ _ _ _ hP hS (lv_sub hl [6, 7, 8, 9, 10, 11, 12, 13, 2, 0] rfl)  h
                              · rw [if_neg c_44] at h
                                cases h
              · rw [if_pos c_20] at h
                refine lv_aload_n hx hb dX11_worth_206 rfl (lv_at hl 2 rfl) ?_
                refine G_X11_49 X.1 hn hP dX11_worth_207 ?_
                refine lv_iload hx hb dX11_worth_210 (lv_at hl 10 rfl) ?_
                refine lv_iconst (v := 1) hx hb dX11_worth_212 (by decide) ?_
                refine lv_isub hx hb dX11_worth_213 ?_
                refine lv_iload hx hb dX11_worth_214 (lv_at hl 0 rfl) ?_
                refine lv_ineg hx hb dX11_worth_216 ?_
                obtain ⟨c_50, h⟩ := og h
                refine r_iast (k := (Int32.toNatClampNeg ((x9_10 - 1)))) X.1 X.2.2.2.1 hP hS (by omega) sM_stack rfl (vin c_50) dX11_worth_217 (fun H locs hP hS => ?_)
                refine lv_goto (tgt := 392) hx hb dX11_worth_218 (by decide) ?_
                refine lv_iinc (v := (x10_11 + 1)) (lv' := [(10, .int ((x10_11 + 1))), (12, .int ((M_12 14 (Int32.toNatClampNeg ((x9_10 - 1)))))), (11, .int ((M_12 12 (Int32.toNatClampNeg (((170 * (M_12 0 16)) + x10_11)))))), (0, .ref (φ 0)), (2, .int (x2_3)), (3, .int (x3_4)), (4, .int (x4_5)), (5, .int (x5_6)), (6, .int (x6_7)), (7, .int (x7_8)), (8, .int (x8_9)), (9, .int (x9_10))]) hx hb dX11_worth_392 hl (k := 11) rfl (by rw [show Int32.ofInt (1) = 1 from by decide]) (by decide) rfl (fun ls hl => ?_)
                refine lv_goto (tgt := 35) hx hb dX11_worth_395 (by decide) ?_
                exact ih _ _ _ _ _ _ _ _ _ _ _ _ _ hP hS (lv_sub hl [3, 4, 5, 6, 7, 8, 9, 10, 11, 0] rfl)  h
            · rw [if_pos c_19] at h
              refine lv_aload_n hx hb dX11_worth_177 rfl (lv_at hl 2 rfl) ?_
              refine G_X11_49 X.1 hn hP dX11_worth_178 ?_
              refine lv_iload hx hb dX11_worth_181 (lv_at hl 10 rfl) ?_
              refine lv_iconst (v := 1) hx hb dX11_worth_183 (by decide) ?_
              refine lv_isub hx hb dX11_worth_184 ?_
              refine lv_iload hx hb dX11_worth_185 (lv_at hl 0 rfl) ?_
              refine lv_if_ne (tgt := 194) hx hb dX11_worth_187 (by decide) (fun c_51 => ?_) (fun c_51 => ?_)
              · rw [if_neg c_51] at h
                refine lv_iconst (v := 0) hx hb dX11_worth_194 (by decide) ?_
                obtain ⟨c_52, h⟩ := og h
                refine r_iast (k := (Int32.toNatClampNeg ((x9_10 - 1)))) X.1 X.2.2.2.1 hP hS (by omega) sM_stack rfl (vin c_52) dX11_worth_195 (fun H locs hP hS => ?_)
                refine lv_goto (tgt := 392) hx hb dX11_worth_196 (by decide) ?_
                refine lv_iinc (v := (x10_11 + 1)) (lv' := [(10, .int ((x10_11 + 1))), (12, .int ((M_12 14 (Int32.toNatClampNeg ((x9_10 - 1)))))), (11, .int ((M_12 12 (Int32.toNatClampNeg (((170 * (M_12 0 16)) + x10_11)))))), (0, .ref (φ 0)), (2, .int (x2_3)), (3, .int (x3_4)), (4, .int (x4_5)), (5, .int (x5_6)), (6, .int (x6_7)), (7, .int (x7_8)), (8, .int (x8_9)), (9, .int (x9_10))]) hx hb dX11_worth_392 hl (k := 11) rfl (by rw [show Int32.ofInt (1) = 1 from by decide]) (by decide) rfl (fun ls hl => ?_)
                refine lv_goto (tgt := 35) hx hb dX11_worth_395 (by decide) ?_
                exact ih _ _ _ _ _ _ _ _ _ _ _ _ _ hP hS (lv_sub hl [3, 4, 5, 6, 7, 8, 9, 10, 11, 0] rfl)  h
              · rw [if_pos c_51] at h
                refine lv_iconst (v := 1) hx hb dX11_worth_190 (by decide) ?_
                refine lv_goto (tgt := 195) hx hb dX11_worth_191 (by decide) ?_
                obtain ⟨c_53, h⟩ := og h
                refine r_iast (k := (Int32.toNatClampNeg ((x9_10 - 1)))) X.1 X.2.2.2.1 hP hS (by omega) sM_stack rfl (vin c_53) dX11_worth_195 (fun H locs hP hS => ?_)
                refine lv_goto (tgt := 392) hx hb dX11_worth_196 (by decide) ?_
                refine lv_iinc (v := (x10_11 + 1)) (lv' := [(10, .int ((x10_11 + 1))), (12, .int ((M_12 14 (Int32.toNatClampNeg ((x9_10 - 1)))))), (11, .int ((M_12 12 (Int32.toNatClampNeg (((170 * (M_12 0 16)) + x10_11)))))), (0, .ref (φ 0)), (2, .int (x2_3)), (3, .int (x3_4)), (4, .int (x4_5)), (5, .int (x5_6)), (6, .int (x6_7)), (7, .int (x7_8)), (8, .int (x8_9)), (9, .int (x9_10))]) hx hb dX11_worth_392 hl (k := 11) rfl (by rw [show Int32.ofInt (1) = 1 from by decide]) (by decide) rfl (fun ls hl => ?_)
                refine lv_goto (tgt := 35) hx hb dX11_worth_395 (by decide) ?_
                exact ih _ _ _ _ _ _ _ _ _ _ _ _ _ hP hS (lv_sub hl [3, 4, 5, 6, 7, 8, 9, 10, 11, 0] rfl)  h
          · rw [if_neg c_17] at h
            refine lv_aload_n hx hb dX11_worth_87 rfl (lv_at hl 1 rfl) ?_
            refine G_X11_49 X.1 hn hP dX11_worth_88 ?_
            refine lv_iload hx hb dX11_worth_91 (lv_at hl 9 rfl) ?_
            refine lv_iinc (v := (x9_10 + 1)) (lv' := [(9, .int ((x9_10 + 1))), (11, .int ((M_12 12 (Int32.toNatClampNeg (((170 * (M_12 0 16)) + x10_11)))))), (0, .ref (φ 0)), (2, .int (x2_3)), (3, .int (x3_4)), (4, .int (x4_5)), (5, .int (x5_6)), (6, .int (x6_7)), (7, .int (x7_8)), (8, .int (x8_9)), (10, .int (x10_11))]) hx hb dX11_worth_93 hl (k := 9) rfl (by rw [show Int32.ofInt (1) = 1 from by decide]) (by decide) rfl (fun ls hl => ?_)
            refine lv_iload hx hb dX11_worth_96 (lv_at hl 1 rfl) ?_
            refine lv_iconst (v := (-1)) hx hb dX11_worth_98 (by decide) ?_
            refine lv_icmp_ne (tgt := 106) hx hb dX11_worth_99 (by decide) (fun c_54 => ?_) (fun c_54 => ?_)
            · rw [if_neg c_54] at h
              refine lv_iload hx hb dX11_worth_106 (lv_at hl 1 rfl) ?_
              refine lv_bipush (v := (-2)) hx hb dX11_worth_108 (by decide) ?_
              refine lv_icmp_ne (tgt := 117) hx hb dX11_worth_110 (by decide) (fun c_55 => ?_) (fun c_55 => ?_)
              · rw [if_neg c_55] at h
                refine lv_iload hx hb dX11_worth_117 (lv_at hl 1 rfl) ?_
                refine lv_bipush (v := (-3)) hx hb dX11_worth_119 (by decide) ?_
                refine lv_icmp_ne (tgt := 129) hx hb dX11_worth_121 (by decide) (fun c_56 => ?_) (fun c_56 => ?_)
                · rw [if_neg c_56] at h
                  refine lv_iload hx hb dX11_worth_129 (lv_at hl 1 rfl) ?_
                  refine lv_bipush (v := (-4)) hx hb dX11_worth_131 (by decide) ?_
                  refine lv_icmp_ne (tgt := 141) hx hb dX11_worth_133 (by decide) (fun c_57 => ?_) (fun c_57 => ?_)
                  · rw [if_neg c_57] at h
                    refine lv_iload hx hb dX11_worth_141 (lv_at hl 1 rfl) ?_
                    refine lv_bipush (v := (-5)) hx hb dX11_worth_143 (by decide) ?_
                    refine lv_icmp_ne (tgt := 153) hx hb dX11_worth_145 (by decide) (fun c_58 => ?_) (fun c_58 => ?_)
                    · rw [if_neg c_58] at h
                      refine lv_iload hx hb dX11_worth_153 (lv_at hl 8 rfl) ?_
                      obtain ⟨c_59, h⟩ := og h
                      refine r_iast (k := (Int32.toNatClampNeg (x9_10))) X.1 X.2.2.2.1 hP hS (by omega) sM_stack rfl (vin c_59) dX11_worth_155 (fun H locs hP hS => ?_)
                      refine lv_goto (tgt := 392) hx hb dX11_worth_156 (by decide) ?_
                      refine lv_iinc (v := (x10_11 + 1)) (lv' := [(10, .int ((x10_11 + 1))), (9, .int ((x9_10 + 1))), (11, .int ((M_12 12 (Int32.toNatClampNeg (((170 * (M_12 0 16)) + x10_11)))))), (0, .ref (φ 0)), (2, .int (x2_3)), (3, .int (x3_4)), (4, .int (x4_5)), (5, .int (x5_6)), (6, .int (x6_7)), (7, .int (x7_8)), (8, .int (x8_9))]) hx hb dX11_worth_392 hl (k := 10) rfl (by rw [show Int32.ofInt (1) = 1 from by decide]) (by decide) rfl (fun ls hl => ?_)
                      refine lv_goto (tgt := 35) hx hb dX11_worth_395 (by decide) ?_
                      exact ih _ _ _ _ _ _ _ _ _ _ _ _ _ hP hS (lv_sub hl [3, 4, 5, 6, 7, 8, 9, 10, 1, 0] rfl)  h
                    · rw [if_pos c_58] at h
                      refine lv_iload hx hb dX11_worth_148 (lv_at hl 7 rfl) ?_
                      refine lv_goto (tgt := 155) hx hb dX11_worth_150 (by decide) ?_
                      obtain ⟨c_60, h⟩ := og h
                      refine r_iast (k := (Int32.toNatClampNeg (x9_10))) X.1 X.2.2.2.1 hP hS (by omega) sM_stack rfl (vin c_60) dX11_worth_155 (fun H locs hP hS => ?_)
                      refine lv_goto (tgt := 392) hx hb dX11_worth_156 (by decide) ?_
                      refine lv_iinc (v := (x10_11 + 1)) (lv' := [(10, .int ((x10_11 + 1))), (9, .int ((x9_10 + 1))), (11, .int ((M_12 12 (Int32.toNatClampNeg (((170 * (M_12 0 16)) + x10_11)))))), (0, .ref (φ 0)), (2, .int (x2_3)), (3, .int (x3_4)), (4, .int (x4_5)), (5, .int (x5_6)), (6, .int (x6_7)), (7, .int (x7_8)), (8, .int (x8_9))]) hx hb dX11_worth_392 hl (k := 10) rfl (by rw [show Int32.ofInt (1) = 1 from by decide]) (by decide) rfl (fun ls hl => ?_)
                      refine lv_goto (tgt := 35) hx hb dX11_worth_395 (by decide) ?_
                      exact ih _ _ _ _ _ _ _ _ _ _ _ _ _ hP hS (lv_sub hl [3, 4, 5, 6, 7, 8, 9, 10, 1, 0] rfl)  h
                  · rw [if_pos c_57] at h
                    refine lv_iload hx hb dX11_worth_136 (lv_at hl 6 rfl) ?_
                    refine lv_goto (tgt := 155) hx hb dX11_worth_138 (by decide) ?_
                    obtain ⟨c_61, h⟩ := og h
                    refine r_iast (k := (Int32.toNatClampNeg (x9_10))) X.1 X.2.2.2.1 hP hS (by omega) sM_stack rfl (vin c_61) dX11_worth_155 (fun H locs hP hS => ?_)
                    refine lv_goto (tgt := 392) hx hb dX11_worth_156 (by decide) ?_
                    refine lv_iinc (v := (x10_11 + 1)) (lv' := [(10, .int ((x10_11 + 1))), (9, .int ((x9_10 + 1))), (11, .int ((M_12 12 (Int32.toNatClampNeg (((170 * (M_12 0 16)) + x10_11)))))), (0, .ref (φ 0)), (2, .int (x2_3)), (3, .int (x3_4)), (4, .int (x4_5)), (5, .int (x5_6)), (6, .int (x6_7)), (7, .int (x7_8)), (8, .int (x8_9))]) hx hb dX11_worth_392 hl (k := 10) rfl (by rw [show Int32.ofInt (1) = 1 from by decide]) (by decide) rfl (fun ls hl => ?_)
                    refine lv_goto (tgt := 35) hx hb dX11_worth_395 (by decide) ?_
                    exact ih _ _ _ _ _ _ _ _ _ _ _ _ _ hP hS (lv_sub hl [3, 4, 5, 6, 7, 8, 9, 10, 1, 0] rfl)  h
                · rw [if_pos c_56] at h
                  refine lv_iload hx hb dX11_worth_124 (lv_at hl 5 rfl) ?_
                  refine lv_goto (tgt := 155) hx hb dX11_worth_126 (by decide) ?_
                  obtain ⟨c_62, h⟩ := og h
                  refine r_iast (k := (Int32.toNatClampNeg (x9_10))) X.1 X.2.2.2.1 hP hS (by omega) sM_stack rfl (vin c_62) dX11_worth_155 (fun H locs hP hS => ?_)
                  refine lv_goto (tgt := 392) hx hb dX11_worth_156 (by decide) ?_
                  refine lv_iinc (v := (x10_11 + 1)) (lv' := [(10, .int ((x10_11 + 1))), (9, .int ((x9_10 + 1))), (11, .int ((M_12 12 (Int32.toNatClampNeg (((170 * (M_12 0 16)) + x10_11)))))), (0, .ref (φ 0)), (2, .int (x2_3)), (3, .int (x3_4)), (4, .int (x4_5)), (5, .int (x5_6)), (6, .int (x6_7)), (7, .int (x7_8)), (8, .int (x8_9))]) hx hb dX11_worth_392 hl (k := 10) rfl (by rw [show Int32.ofInt (1) = 1 from by decide]) (by decide) rfl (fun ls hl => ?_)
                  refine lv_goto (tgt := 35) hx hb dX11_worth_395 (by decide) ?_
                  exact ih _ _ _ _ _ _ _ _ _ _ _ _ _ hP hS (lv_sub hl [3, 4, 5, 6, 7, 8, 9, 10, 1, 0] rfl)  h
              · rw [if_pos c_55] at h
                refine lv_iload_n hx hb dX11_worth_113 rfl (lv_at hl 4 rfl) ?_
                refine lv_goto (tgt := 155) hx hb dX11_worth_114 (by decide) ?_
                obtain ⟨c_63, h⟩ := og h
                refine r_iast (k := (Int32.toNatClampNeg (x9_10))) X.1 X.2.2.2.1 hP hS (by omega) sM_stack rfl (vin c_63) dX11_worth_155 (fun H locs hP hS => ?_)
                refine lv_goto (tgt := 392) hx hb dX11_worth_156 (by decide) ?_
                refine lv_iinc (v := (x10_11 + 1)) (lv' := [(10, .int ((x10_11 + 1))), (9, .int ((x9_10 + 1))), (11, .int ((M_12 12 (Int32.toNatClampNeg (((170 * (M_12 0 16)) + x10_11)))))), (0, .ref (φ 0)), (2, .int (x2_3)), (3, .int (x3_4)), (4, .int (x4_5)), (5, .int (x5_6)), (6, .int (x6_7)), (7, .int (x7_8)), (8, .int (x8_9))]) hx hb dX11_worth_392 hl (k := 10) rfl (by rw [show Int32.ofInt (1) = 1 from by decide]) (by decide) rfl (fun ls hl => ?_)
                refine lv_goto (tgt := 35) hx hb dX11_worth_395 (by decide) ?_
                exact ih _ _ _ _ _ _ _ _ _ _ _ _ _ hP hS (lv_sub hl [3, 4, 5, 6, 7, 8, 9, 10, 1, 0] rfl)  h
            · rw [if_pos c_54] at h
              refine lv_iload_n hx hb dX11_worth_102 rfl (lv_at hl 3 rfl) ?_
              refine lv_goto (tgt := 155) hx hb dX11_worth_103 (by decide) ?_
              obtain ⟨c_64, h⟩ := og h
              refine r_iast (k := (Int32.toNatClampNeg (x9_10))) X.1 X.2.2.2.1 hP hS (by omega) sM_stack rfl (vin c_64) dX11_worth_155 (fun H locs hP hS => ?_)
              refine lv_goto (tgt := 392) hx hb dX11_worth_156 (by decide) ?_
              refine lv_iinc (v := (x10_11 + 1)) (lv' := [(10, .int ((x10_11 + 1))), (9, .int ((x9_10 + 1))), (11, .int ((M_12 12 (Int32.toNatClampNeg (((170 * (M_12 0 16)) + x10_11)))))), (0, .ref (φ 0)), (2, .int (x2_3)), (3, .int (x3_4)), (4, .int (x4_5)), (5, .int (x5_6)), (6, .int (x6_7)), (7, .int (x7_8)), (8, .int (x8_9))]) hx hb dX11_worth_392 hl (k := 10) rfl (by rw [show Int32.ofInt (1) = 1 from by decide]) (by decide) rfl (fun ls hl => ?_)
              refine lv_goto (tgt := 35) hx hb dX11_worth_395 (by decide) ?_
              exact ih _ _ _ _ _ _ _ _ _ _ _ _ _ hP hS (lv_sub hl [3, 4, 5, 6, 7, 8, 9, 10, 1, 0] rfl)  h
        · rw [if_neg c_16] at h
          refine lv_aload_n hx hb dX11_worth_65 rfl (lv_at hl 1 rfl) ?_
          refine G_X11_49 X.1 hn hP dX11_worth_66 ?_
          refine lv_iload hx hb dX11_worth_69 (lv_at hl 9 rfl) ?_
          refine lv_iinc (v := (x9_10 + 1)) (lv' := [(9, .int ((x9_10 + 1))), (11, .int ((M_12 12 (Int32.toNatClampNeg (((170 * (M_12 0 16)) + x10_11)))))), (0, .ref (φ 0)), (2, .int (x2_3)), (3, .int (x3_4)), (4, .int (x4_5)), (5, .int (x5_6)), (6, .int (x6_7)), (7, .int (x7_8)), (8, .int (x8_9)), (10, .int (x10_11))]) hx hb dX11_worth_71 hl (k := 9) rfl (by rw [show Int32.ofInt (1) = 1 from by decide]) (by decide) rfl (fun ls hl => ?_)
          refine lv_iload hx hb dX11_worth_74 (lv_at hl 1 rfl) ?_
          obtain ⟨c_65, h⟩ := og h
          refine r_iast (k := (Int32.toNatClampNeg (x9_10))) X.1 X.2.2.2.1 hP hS (by omega) sM_stack rfl (vin c_65) dX11_worth_76 (fun H locs hP hS => ?_)
          refine lv_goto (tgt := 392) hx hb dX11_worth_77 (by decide) ?_
          refine lv_iinc (v := (x10_11 + 1)) (lv' := [(10, .int ((x10_11 + 1))), (9, .int ((x9_10 + 1))), (11, .int ((M_12 12 (Int32.toNatClampNeg (((170 * (M_12 0 16)) + x10_11)))))), (0, .ref (φ 0)), (2, .int (x2_3)), (3, .int (x3_4)), (4, .int (x4_5)), (5, .int (x5_6)), (6, .int (x6_7)), (7, .int (x7_8)), (8, .int (x8_9))]) hx hb dX11_worth_392 hl (k := 10) rfl (by rw [show Int32.ofInt (1) = 1 from by decide]) (by decide) rfl (fun ls hl => ?_)
          refine lv_goto (tgt := 35) hx hb dX11_worth_395 (by decide) ?_
          exact ih _ _ _ _ _ _ _ _ _ _ _ _ _ hP hS (lv_sub hl [3, 4, 5, 6, 7, 8, 9, 10, 1, 0] rfl)  h
  refine lv_aload_n hx hb dX11_worth_0 rfl (lv_at hl 0 rfl) ?_
  refine G_X11_46 X.1 hn hP dX11_worth_1 ?_
  refine lv_iconst (v := 4) hx hb dX11_worth_4 (by decide) ?_
  refine lv_aload_n hx hb dX11_worth_5 rfl (lv_at hl 0 rfl) ?_
  refine G_X11_243 X.1 hn hP dX11_worth_6 ?_
  refine lv_imul hx hb dX11_worth_9 ?_
  refine lv_iload_n hx hb dX11_worth_10 rfl (lv_at hl 1 rfl) ?_
  refine lv_iadd hx hb dX11_worth_11 ?_
  refine lv_iconst (v := 1) hx hb dX11_worth_12 (by decide) ?_
  refine lv_iadd hx hb dX11_worth_13 ?_
  obtain ⟨c_1, h⟩ := og h
  refine r_iald (k := (Int32.toNatClampNeg ((((4 * (M 0 16)) + a1) + 1)))) X.1 hP (by omega) sM_begins rfl (vin c_1) dX11_worth_14 ?_
  refine lv_istore (lv' := [(8, .int ((M 13 (Int32.toNatClampNeg ((((4 * (M 0 16)) + a1) + 1)))))), (0, .ref (φ 0)), (1, .int (a1)), (2, .int (a2)), (3, .int (a3)), (4, .int (a4)), (5, .int (a5)), (6, .int (a6)), (7, .int (a7))]) hx hb dX11_worth_15 hl (by decide) rfl (fun ls hl => ?_)
  refine lv_iconst (v := 0) hx hb dX11_worth_17 (by decide) ?_
  refine lv_istore (lv' := [(9, .int (0)), (8, .int ((M 13 (Int32.toNatClampNeg ((((4 * (M 0 16)) + a1) + 1)))))), (0, .ref (φ 0)), (1, .int (a1)), (2, .int (a2)), (3, .int (a3)), (4, .int (a4)), (5, .int (a5)), (6, .int (a6)), (7, .int (a7))]) hx hb dX11_worth_18 hl (by decide) rfl (fun ls hl => ?_)
  refine lv_aload_n hx hb dX11_worth_20 rfl (lv_at hl 2 rfl) ?_
  refine G_X11_46 X.1 hn hP dX11_worth_21 ?_
  refine lv_iconst (v := 4) hx hb dX11_worth_24 (by decide) ?_
  refine lv_aload_n hx hb dX11_worth_25 rfl (lv_at hl 2 rfl) ?_
  refine G_X11_243 X.1 hn hP dX11_worth_26 ?_
  refine lv_imul hx hb dX11_worth_29 ?_
  refine lv_iload_n hx hb dX11_worth_30 rfl (lv_at hl 3 rfl) ?_
  refine lv_iadd hx hb dX11_worth_31 ?_
  obtain ⟨c_2, h⟩ := og h
  refine r_iald (k := (Int32.toNatClampNeg (((4 * (M 0 16)) + a1)))) X.1 hP (by omega) sM_begins rfl (vin c_2) dX11_worth_32 ?_
  refine lv_istore (lv' := [(10, .int ((M 13 (Int32.toNatClampNeg (((4 * (M 0 16)) + a1)))))), (9, .int (0)), (8, .int ((M 13 (Int32.toNatClampNeg ((((4 * (M 0 16)) + a1) + 1)))))), (0, .ref (φ 0)), (1, .int (a1)), (2, .int (a2)), (3, .int (a3)), (4, .int (a4)), (5, .int (a5)), (6, .int (a6)), (7, .int (a7))]) hx hb dX11_worth_33 hl (by decide) rfl (fun ls hl => ?_)
  refine L35 _ _ _ _ _ _ _ _ _ _ _ _ _ _ hP hS (lv_sub hl [3, 5, 6, 7, 8, 9, 10, 2, 1, 0] rfl)  h

def f_X11_comes (M : Mem) (a1 : Int32) (a2 : Int32) : Option (Int32) :=
  (if ibd (a1) 5 then (if a2 < (M 1 (Int32.toNatClampNeg (a1))) then some (0) else (if ibd (a1) 5 then (if ibd (a1) 5 then (if ¬ (M 2 (Int32.toNatClampNeg (a1))) = 0 then (if ((a2 - (M 1 (Int32.toNatClampNeg (a1)))) - (a2 - (M 1 (Int32.toNatClampNeg (a1)))) / (M 2 (Int32.toNatClampNeg (a1))) * (M 2 (Int32.toNatClampNeg (a1)))) = 0 then some (1) else some (0)) else none) else none) else none)) else none)
set_option maxRecDepth 100000 in
set_option maxHeartbeats 4000000 in
theorem c_X11_comes (l : Launch) {G : GT} {φ : Nat → Nat} {n : Nat} {M : Mem} {L : Nat → Int64} {a1 : Int32} {a2 : Int32} (hI : wI φ n) (hn : 32 ≤ n) {r : Int32} (h : f_X11_comes M a1 a2 = some r) : CT l yX11_comes cX11_comes 3 (some .boolean) ({ frames := 0, cells := 0, slots := 0, locals := 0 } : Room) [.ref (φ 0), .int (a1), .int (a2)] (WB (cM G φ L) φ M n G) (some (.int r)) (WB (cM G φ L) φ (M) n G) φ n := by
  unfold f_X11_comes at h
  refine r_start (plainFor_of_name (by decide)) (Nat.le_of_ble_eq_true rfl) hI ?_
  intro p e s m args below meth c ls X hr hlk hP hl
  have hS : va_S (wA φ n s.heap.size) s.heap s.heap [] := va_S.rf
  have hx := X.1.1
  have hb := X.1.2.1
  have hl : lv_has ls 3 [(0, .ref (φ 0)), (1, .int (a1)), (2, .int (a2))] := hl
  refine lv_iload_n hx hb dX11_comes_0 rfl (lv_at hl 2 rfl) ?_
  refine lv_aload_n hx hb dX11_comes_1 rfl (lv_at hl 0 rfl) ?_
  refine G_X11_7 X.1 hn hP dX11_comes_2 ?_
  refine lv_iload_n hx hb dX11_comes_5 rfl (lv_at hl 1 rfl) ?_
  obtain ⟨c_1, h⟩ := og h
  refine r_iald (k := (Int32.toNatClampNeg (a1))) X.1 hP (by omega) sM_first rfl (vin c_1) dX11_comes_6 ?_
  refine lv_icmp_lt (tgt := 32) hx hb dX11_comes_7 (by decide) (fun c_2 => ?_) (fun c_2 => ?_)
  · rw [if_pos c_2] at h
    refine lv_iconst (v := 0) hx hb dX11_comes_32 (by decide) ?_
    obtain rfl := Option.some.inj h
    exact W.zret (v := 0) (ty := .boolean) hx hb hr rfl (r_end X hP hS) hS.2.2 dX11_comes_33 (hlocks := hlk)
  · rw [if_neg c_2] at h
    refine lv_iload_n hx hb dX11_comes_10 rfl (lv_at hl 2 rfl) ?_
    refine lv_aload_n hx hb dX11_comes_11 rfl (lv_at hl 0 rfl) ?_
    refine G_X11_7 X.1 hn hP dX11_comes_12 ?_
    refine lv_iload_n hx hb dX11_comes_15 rfl (lv_at hl 1 rfl) ?_
    obtain ⟨c_3, h⟩ := og h
    refine r_iald (k := (Int32.toNatClampNeg (a1))) X.1 hP (by omega) sM_first rfl (vin c_3) dX11_comes_16 ?_
    refine lv_isub hx hb dX11_comes_17 ?_
    refine lv_aload_n hx hb dX11_comes_18 rfl (lv_at hl 0 rfl) ?_
    refine G_X11_13 X.1 hn hP dX11_comes_19 ?_
    refine lv_iload_n hx hb dX11_comes_22 rfl (lv_at hl 1 rfl) ?_
    obtain ⟨c_4, h⟩ := og h
    refine r_iald (k := (Int32.toNatClampNeg (a1))) X.1 hP (by omega) sM_every rfl (vin c_4) dX11_comes_23 ?_
    obtain ⟨c_5, h⟩ := og h
    refine lv_irem hx hb dX11_comes_24 c_5 ?_
    refine lv_if_ne (tgt := 32) hx hb dX11_comes_25 (by decide) (fun c_6 => ?_) (fun c_6 => ?_)
    · rw [if_neg c_6] at h
      refine lv_iconst (v := 0) hx hb dX11_comes_32 (by decide) ?_
      obtain rfl := Option.some.inj h
      exact W.zret (v := 0) (ty := .boolean) hx hb hr rfl (r_end X hP hS) hS.2.2 dX11_comes_33 (hlocks := hlk)
    · rw [if_pos c_6] at h
      refine lv_iconst (v := 1) hx hb dX11_comes_28 (by decide) ?_
      refine lv_goto (tgt := 33) hx hb dX11_comes_29 (by decide) ?_
      obtain rfl := Option.some.inj h
      exact W.zret (v := 1) (ty := .boolean) hx hb hr rfl (r_end X hP hS) hS.2.2 dX11_comes_33 (hlocks := hlk)

def f_X11_there (M : Mem) (a1 : Int32) (a2 : Int32) : Option (Int32) :=
  (if ibd (a1) 10 then (if a2 ≤ (M 6 (Int32.toNatClampNeg (a1))) then some (0) else (if ibd (a1) 10 then (Option.bind (f_X11_lasts M (a1)) fun r_4 => (if r_4 < (a2 - (M 6 (Int32.toNatClampNeg (a1)))) then some (0) else some (1))) else none)) else none)
set_option maxRecDepth 100000 in
set_option maxHeartbeats 4000000 in
theorem c_X11_there (l : Launch) {G : GT} {φ : Nat → Nat} {n : Nat} {M : Mem} {L : Nat → Int64} {a1 : Int32} {a2 : Int32} (hI : wI φ n) (hn : 32 ≤ n) {r : Int32} (h : f_X11_there M a1 a2 = some r) : CT l yX11_there cX11_there 3 (some .boolean) ({ frames := 1, cells := 0, slots := 0, locals := 21 } : Room) [.ref (φ 0), .int (a1), .int (a2)] (WB (cM G φ L) φ M n G) (some (.int r)) (WB (cM G φ L) φ (M) n G) φ n := by
  unfold f_X11_there at h
  refine r_start (plainFor_of_name (by decide)) (Nat.le_of_ble_eq_true rfl) hI ?_
  intro p e s m args below meth c ls X hr hlk hP hl
  have hS : va_S (wA φ n s.heap.size) s.heap s.heap [] := va_S.rf
  have hx := X.1.1
  have hb := X.1.2.1
  have hl : lv_has ls 3 [(0, .ref (φ 0)), (1, .int (a1)), (2, .int (a2))] := hl
  refine lv_iload_n hx hb dX11_there_0 rfl (lv_at hl 2 rfl) ?_
  refine lv_aload_n hx hb dX11_there_1 rfl (lv_at hl 0 rfl) ?_
  refine G_X11_25 X.1 hn hP dX11_there_2 ?_
  refine lv_iload_n hx hb dX11_there_5 rfl (lv_at hl 1 rfl) ?_
  obtain ⟨c_1, h⟩ := og h
  refine r_iald (k := (Int32.toNatClampNeg (a1))) X.1 hP (by omega) sM_hour rfl (vin c_1) dX11_there_6 ?_
  refine lv_icmp_le (tgt := 30) hx hb dX11_there_7 (by decide) (fun c_2 => ?_) (fun c_2 => ?_)
  · rw [if_pos c_2] at h
    refine lv_iconst (v := 0) hx hb dX11_there_30 (by decide) ?_
    obtain rfl := Option.some.inj h
    exact W.zret (v := 0) (ty := .boolean) hx hb hr rfl (r_end X hP hS) hS.2.2 dX11_there_31 (hlocks := hlk)
  · rw [if_neg c_2] at h
    refine lv_iload_n hx hb dX11_there_10 rfl (lv_at hl 2 rfl) ?_
    refine lv_aload_n hx hb dX11_there_11 rfl (lv_at hl 0 rfl) ?_
    refine G_X11_25 X.1 hn hP dX11_there_12 ?_
    refine lv_iload_n hx hb dX11_there_15 rfl (lv_at hl 1 rfl) ?_
    obtain ⟨c_3, h⟩ := og h
    refine r_iald (k := (Int32.toNatClampNeg (a1))) X.1 hP (by omega) sM_hour rfl (vin c_3) dX11_there_16 ?_
    refine lv_isub hx hb dX11_there_17 ?_
    refine lv_aload_n hx hb dX11_there_18 rfl (lv_at hl 0 rfl) ?_
    refine lv_iload_n hx hb dX11_there_19 rfl (lv_at hl 1 rfl) ?_
    obtain ⟨r_4, hr_4, h⟩ := ob h
    refine c_V0 (As := [.int (a1)]) (rest := [.int ((a2 - (M 6 (Int32.toNatClampNeg (a1)))))]) (a := 0) X hl.1 (c_X11_lasts l X.2.2.2.1.1 hn hr_4) (w_X11_144) qw_1181 qw_47 ⟨Nat.le_of_ble_eq_true rfl, Nat.le_of_ble_eq_true rfl⟩ rfl rfl hP hS (by omega) sM_Model rfl rfl (Nat.le_of_ble_eq_true rfl) dX11_there_20 (fun H locs hP hS => ?_)
    refine lv_icmp_gt (tgt := 30) hx hb dX11_there_23 (by decide) (fun c_5 => ?_) (fun c_5 => ?_)
    · rw [if_pos c_5] at h
      refine lv_iconst (v := 0) hx hb dX11_there_30 (by decide) ?_
      obtain rfl := Option.some.inj h
      exact W.zret (v := 0) (ty := .boolean) hx hb hr rfl (r_end X hP hS) hS.2.2 dX11_there_31 (hlocks := hlk)
    · rw [if_neg c_5] at h
      refine lv_iconst (v := 1) hx hb dX11_there_26 (by decide) ?_
      refine lv_goto (tgt := 31) hx hb dX11_there_27 (by decide) ?_
      obtain rfl := Option.some.inj h
      exact W.zret (v := 1) (ty := .boolean) hx hb hr rfl (r_end X hP hS) hS.2.2 dX11_there_31 (hlocks := hlk)

def f_X11_above (M : Mem) (a1 : Int32) (a2 : Int32) : Option (Int32) :=
  (if 0 ≤ a2 then (Option.bind (f_X11_high M (a1)) fun r_2 => (Option.bind (f_X11_high M (a2)) fun r_3 => (if r_2 = r_3 then (if ibd (a1) 10 then (if ibd (a2) 10 then (if (M 6 (Int32.toNatClampNeg (a1))) = (M 6 (Int32.toNatClampNeg (a2))) then (if a1 ≤ a2 then some (0) else some (1)) else (if ibd (a1) 10 then (if ibd (a2) 10 then (if (M 6 (Int32.toNatClampNeg (a1))) ≤ (M 6 (Int32.toNatClampNeg (a2))) then some (0) else some (1)) else none) else none)) else none) else none) else (Option.bind (f_X11_high M (a1)) fun r_12 => (Option.bind (f_X11_high M (a2)) fun r_13 => (if r_12 ≤ r_13 then some (0) else some (1))))))) else some (1))
set_option maxRecDepth 100000 in
set_option maxHeartbeats 4000000 in
theorem c_X11_above (l : Launch) {G : GT} {φ : Nat → Nat} {n : Nat} {M : Mem} {L : Nat → Int64} {a1 : Int32} {a2 : Int32} (hI : wI φ n) (hn : 32 ≤ n) {r : Int32} (h : f_X11_above M a1 a2 = some r) : CT l yX11_above cX11_above 3 (some .boolean) ({ frames := 1, cells := 0, slots := 0, locals := 21 } : Room) [.ref (φ 0), .int (a1), .int (a2)] (WB (cM G φ L) φ M n G) (some (.int r)) (WB (cM G φ L) φ (M) n G) φ n := by
  unfold f_X11_above at h
  refine r_start (plainFor_of_name (by decide)) (Nat.le_of_ble_eq_true rfl) hI ?_
  intro p e s m args below meth c ls X hr hlk hP hl
  have hS : va_S (wA φ n s.heap.size) s.heap s.heap [] := va_S.rf
  have hx := X.1.1
  have hb := X.1.2.1
  have hl : lv_has ls 3 [(0, .ref (φ 0)), (1, .int (a1)), (2, .int (a2))] := hl
  refine lv_iload_n hx hb dX11_above_0 rfl (lv_at hl 2 rfl) ?_
  refine lv_if_ge (tgt := 6) hx hb dX11_above_1 (by decide) (fun c_1 => ?_) (fun c_1 => ?_)
  · rw [if_pos c_1] at h
    refine lv_aload_n hx hb dX11_above_6 rfl (lv_at hl 0 rfl) ?_
    refine lv_iload_n hx hb dX11_above_7 rfl (lv_at hl 1 rfl) ?_
    obtain ⟨r_2, hr_2, h⟩ := ob h
    refine c_V0 (As := [.int (a1)]) (rest := []) (a := 0) X hl.1 (c_X11_high l X.2.2.2.1.1 hn hr_2) (w_X11_141) qw_1177 qw_46 ⟨Nat.le_of_ble_eq_true rfl, Nat.le_of_ble_eq_true rfl⟩ rfl rfl hP hS (by omega) sM_Model rfl rfl (Nat.le_of_ble_eq_true rfl) dX11_above_8 (fun H locs hP hS => ?_)
    refine lv_aload_n hx hb dX11_above_11 rfl (lv_at hl 0 rfl) ?_
    refine lv_iload_n hx hb dX11_above_12 rfl (lv_at hl 2 rfl) ?_
    obtain ⟨r_3, hr_3, h⟩ := ob h
    refine c_V0 (As := [.int (a2)]) (rest := [.int (r_2)]) (a := 0) X hl.1 (c_X11_high l X.2.2.2.1.1 hn hr_3) (w_X11_141) qw_1177 qw_46 ⟨Nat.le_of_ble_eq_true rfl, Nat.le_of_ble_eq_true rfl⟩ rfl rfl hP hS (by omega) sM_Model rfl rfl (Nat.le_of_ble_eq_true rfl) dX11_above_13 (fun H locs hP hS => ?_)
    refine lv_icmp_eq (tgt := 38) hx hb dX11_above_16 (by decide) (fun c_4 => ?_) (fun c_4 => ?_)
    · rw [if_pos c_4] at h
      refine lv_aload_n hx hb dX11_above_38 rfl (lv_at hl 0 rfl) ?_
      refine G_X11_25 X.1 hn hP dX11_above_39 ?_
      refine lv_iload_n hx hb dX11_above_42 rfl (lv_at hl 1 rfl) ?_
      obtain ⟨c_5, h⟩ := og h
      refine r_iald (k := (Int32.toNatClampNeg (a1))) X.1 hP (by omega) sM_hour rfl (vin c_5) dX11_above_43 ?_
      refine lv_aload_n hx hb dX11_above_44 rfl (lv_at hl 0 rfl) ?_
      refine G_X11_25 X.1 hn hP dX11_above_45 ?_
      refine lv_iload_n hx hb dX11_above_48 rfl (lv_at hl 2 rfl) ?_
      obtain ⟨c_6, h⟩ := og h
      refine r_iald (k := (Int32.toNatClampNeg (a2))) X.1 hP (by omega) sM_hour rfl (vin c_6) dX11_above_49 ?_
      refine lv_icmp_eq (tgt := 76) hx hb dX11_above_50 (by decide) (fun c_7 => ?_) (fun c_7 => ?_)
      · rw [if_pos c_7] at h
        refine lv_iload_n hx hb dX11_above_76 rfl (lv_at hl 1 rfl) ?_
        refine lv_iload_n hx hb dX11_above_77 rfl (lv_at hl 2 rfl) ?_
        refine lv_icmp_le (tgt := 85) hx hb dX11_above_78 (by decide) (fun c_8 => ?_) (fun c_8 => ?_)
        · rw [if_pos c_8] at h
          refine lv_iconst (v := 0) hx hb dX11_above_85 (by decide) ?_
          obtain rfl := Option.some.inj h
          exact W.zret (v := 0) (ty := .boolean) hx hb hr rfl (r_end X hP hS) hS.2.2 dX11_above_86 (hlocks := hlk)
        · rw [if_neg c_8] at h
          refine lv_iconst (v := 1) hx hb dX11_above_81 (by decide) ?_
          refine lv_goto (tgt := 86) hx hb dX11_above_82 (by decide) ?_
          obtain rfl := Option.some.inj h
          exact W.zret (v := 1) (ty := .boolean) hx hb hr rfl (r_end X hP hS) hS.2.2 dX11_above_86 (hlocks := hlk)
      · rw [if_neg c_7] at h
        refine lv_aload_n hx hb dX11_above_53 rfl (lv_at hl 0 rfl) ?_
        refine G_X11_25 X.1 hn hP dX11_above_54 ?_
        refine lv_iload_n hx hb dX11_above_57 rfl (lv_at hl 1 rfl) ?_
        obtain ⟨c_9, h⟩ := og h
        refine r_iald (k := (Int32.toNatClampNeg (a1))) X.1 hP (by omega) sM_hour rfl (vin c_9) dX11_above_58 ?_
        refine lv_aload_n hx hb dX11_above_59 rfl (lv_at hl 0 rfl) ?_
        refine G_X11_25 X.1 hn hP dX11_above_60 ?_
        refine lv_iload_n hx hb dX11_above_63 rfl (lv_at hl 2 rfl) ?_
        obtain ⟨c_10, h⟩ := og h
        refine r_iald (k := (Int32.toNatClampNeg (a2))) X.1 hP (by omega) sM_hour rfl (vin c_10) dX11_above_64 ?_
        refine lv_icmp_le (tgt := 72) hx hb dX11_above_65 (by decide) (fun c_11 => ?_) (fun c_11 => ?_)
        · rw [if_pos c_11] at h
          refine lv_iconst (v := 0) hx hb dX11_above_72 (by decide) ?_
          refine lv_goto (tgt := 86) hx hb dX11_above_73 (by decide) ?_
          obtain rfl := Option.some.inj h
          exact W.zret (v := 0) (ty := .boolean) hx hb hr rfl (r_end X hP hS) hS.2.2 dX11_above_86 (hlocks := hlk)
        · rw [if_neg c_11] at h
          refine lv_iconst (v := 1) hx hb dX11_above_68 (by decide) ?_
          refine lv_goto (tgt := 86) hx hb dX11_above_69 (by decide) ?_
          obtain rfl := Option.some.inj h
          exact W.zret (v := 1) (ty := .boolean) hx hb hr rfl (r_end X hP hS) hS.2.2 dX11_above_86 (hlocks := hlk)
    · rw [if_neg c_4] at h
      refine lv_aload_n hx hb dX11_above_19 rfl (lv_at hl 0 rfl) ?_
      refine lv_iload_n hx hb dX11_above_20 rfl (lv_at hl 1 rfl) ?_
      obtain ⟨r_12, hr_12, h⟩ := ob h
      refine c_V0 (As := [.int (a1)]) (rest := []) (a := 0) X hl.1 (c_X11_high l X.2.2.2.1.1 hn hr_12) (w_X11_141) qw_1177 qw_46 ⟨Nat.le_of_ble_eq_true rfl, Nat.le_of_ble_eq_true rfl⟩ rfl rfl hP hS (by omega) sM_Model rfl rfl (Nat.le_of_ble_eq_true rfl) dX11_above_21 (fun H locs hP hS => ?_)
      refine lv_aload_n hx hb dX11_above_24 rfl (lv_at hl 0 rfl) ?_
      refine lv_iload_n hx hb dX11_above_25 rfl (lv_at hl 2 rfl) ?_
      obtain ⟨r_13, hr_13, h⟩ := ob h
      refine c_V0 (As := [.int (a2)]) (rest := [.int (r_12)]) (a := 0) X hl.1 (c_X11_high l X.2.2.2.1.1 hn hr_13) (w_X11_141) qw_1177 qw_46 ⟨Nat.le_of_ble_eq_true rfl, Nat.le_of_ble_eq_true rfl⟩ rfl rfl hP hS (by omega) sM_Model rfl rfl (Nat.le_of_ble_eq_true rfl) dX11_above_26 (fun H locs hP hS => ?_)
      refine lv_icmp_le (tgt := 36) hx hb dX11_above_29 (by decide) (fun c_14 => ?_) (fun c_14 => ?_)
      · rw [if_pos c_14] at h
        refine lv_iconst (v := 0) hx hb dX11_above_36 (by decide) ?_
        obtain rfl := Option.some.inj h
        exact W.zret (v := 0) (ty := .boolean) hx hb hr rfl (r_end X hP hS) hS.2.2 dX11_above_37 (hlocks := hlk)
      · rw [if_neg c_14] at h
        refine lv_iconst (v := 1) hx hb dX11_above_32 (by decide) ?_
        refine lv_goto (tgt := 37) hx hb dX11_above_33 (by decide) ?_
        obtain rfl := Option.some.inj h
        exact W.zret (v := 1) (ty := .boolean) hx hb hr rfl (r_end X hP hS) hS.2.2 dX11_above_37 (hlocks := hlk)
  · rw [if_neg c_1] at h
    refine lv_iconst (v := 1) hx hb dX11_above_4 (by decide) ?_
    obtain rfl := Option.some.inj h
    exact W.zret (v := 1) (ty := .boolean) hx hb hr rfl (r_end X hP hS) hS.2.2 dX11_above_5 (hlocks := hlk)

def f_X11_come_22 (M_15 : Mem) (x1_9 : Int32) (x2_10 : Int32) (x3_11 : Int32) (x4_12 : Int32) (k82 : Int32 → Option (Mem)) : Nat → Int32 → Int32 → Option (Mem)
  | 0, _, _ => none
  | fu_16 + 1, x5_13, x6_14 => (if (M_15 0 5) ≤ x6_14 then (k82 (x5_13)) else (if (((x3_11 : Int32) >>> (x6_14 &&& 31)) &&& 1) = 0 then (if ibd (x6_14) 10 then (if (M_15 20 (Int32.toNatClampNeg (x6_14))) = (-1) then (Option.bind (f_X11_there M_15 (x6_14) (x2_10)) fun r_21 => (if r_21 = 0 then (f_X11_come_22 M_15 x1_9 x2_10 x3_11 x4_12 k82 fu_16 (x5_13) ((x6_14 + 1))) else (Option.bind (f_X11_above M_15 (x6_14) (x5_13)) fun r_23 => (if r_23 = 0 then (f_X11_come_22 M_15 x1_9 x2_10 x3_11 x4_12 k82 fu_16 (x5_13) ((x6_14 + 1))) else (f_X11_come_22 M_15 x1_9 x2_10 x3_11 x4_12 k82 fu_16 (x6_14) ((x6_14 + 1))))))) else (f_X11_come_22 M_15 x1_9 x2_10 x3_11 x4_12 k82 fu_16 (x5_13) ((x6_14 + 1)))) else none) else (f_X11_come_22 M_15 x1_9 x2_10 x3_11 x4_12 k82 fu_16 (x5_13) ((x6_14 + 1)))))
def f_X11_come_5 (x1_1 : Int32) (x2_2 : Int32) (k133 : Int32 → Mem → Option (Mem)) (k88 : Int32 → Mem → Option (Mem)) : Nat → Int32 → Int32 → Mem → Option (Mem)
  | 0, _, _, _ => none
  | fu_6 + 1, x3_3, x4_4, M_5 => (if ibd (x1_1) 5 then (if (M_5 3 (Int32.toNatClampNeg (x1_1))) ≤ x4_4 then (k133 (x3_3) M_5) else (f_X11_come_22 M_5 (x1_1) (x2_2) (x3_3) (x4_4) (fun x5_26 => (if x5_26 = (-1) then (k88 (x3_3) M_5) else (if ibd (((10 * x1_1) + x5_26)) 50 then (if (M_5 15 (Int32.toNatClampNeg (((10 * x1_1) + x5_26)))) = (-1) then (if ibd (((10 * x1_1) + x5_26)) 50 then (f_X11_come_5 x1_1 x2_2 k133 k88 fu_6 ((x3_3 ||| ((1 : Int32) <<< (x5_26 &&& 31)))) ((x4_4 + 1)) (upd2 M_5 15 (Int32.toNatClampNeg (((10 * x1_1) + x5_26))) (x2_2))) else none) else (f_X11_come_5 x1_1 x2_2 k133 k88 fu_6 ((x3_3 ||| ((1 : Int32) <<< (x5_26 &&& 31)))) ((x4_4 + 1)) M_5)) else none))) FU ((-1)) (0))) else none)
def f_X11_come_151 (M_51 : Mem) (x1_44 : Int32) (x2_45 : Int32) (x3_46 : Int32) (x4_47 : Int32) (k219 : Int32 → Int32 → Option (Mem)) : Nat → Int32 → Int32 → Int32 → Option (Mem)
  | 0, _, _, _ => none
  | fu_52 + 1, x5_48, x6_49, x7_50 => (if (M_51 0 5) ≤ x7_50 then (k219 (x5_48) (x6_49)) else (if ibd (x7_50) 10 then (if (M_51 7 (Int32.toNatClampNeg (x7_50))) = x4_47 then (if ibd (((10 * x1_44) + x7_50)) 50 then (if (M_51 15 (Int32.toNatClampNeg (((10 * x1_44) + x7_50)))) = (-1) then (f_X11_come_151 M_51 x1_44 x2_45 x3_46 x4_47 k219 fu_52 (x5_48) (x6_49) ((x7_50 + 1))) else (Option.bind (f_X11_asks M_51 (x7_50)) fun r_58 => (Option.bind (f_X11_tells M_51 (x7_50)) fun r_59 => (f_X11_come_151 M_51 x1_44 x2_45 x3_46 x4_47 k219 fu_52 ((x5_48 + r_58)) ((x6_49 + r_59)) ((x7_50 + 1)))))) else none) else (f_X11_come_151 M_51 x1_44 x2_45 x3_46 x4_47 k219 fu_52 (x5_48) (x6_49) ((x7_50 + 1)))) else none))
def f_X11_come_136 (x1_37 : Int32) (x2_38 : Int32) (x3_39 : Int32) (k299 : Mem → Option (Mem)) : Nat → Int32 → Mem → Option (Mem)
  | 0, _, _ => none
  | fu_42 + 1, x4_40, M_41 => (if 4 ≤ x4_40 then (k299 M_41) else (f_X11_come_151 M_41 (x1_37) (x2_38) (x3_39) (x4_40) (fun x5_62 x6_63 => (if ibd (x1_37) 5 then (Option.bind (f_X11_worth M_41 (0) (x5_62) (x6_63) (x2_38) (x1_37) ((M_41 4 (Int32.toNatClampNeg (x1_37)))) (x4_40)) fun r_65 => (if r_65.1 = 0 then (f_X11_come_136 x1_37 x2_38 x3_39 k299 fu_42 ((x4_40 + 1)) r_65.2) else (if ibd (((4 * x1_37) + x4_40)) 20 then (if ibd (((4 * x1_37) + x4_40)) 20 then (if ibd (x4_40) 4 then (if ibd (x4_40) 4 then (if ((upd2 r_65.2 16 (Int32.toNatClampNeg (((4 * x1_37) + x4_40))) (((r_65.2 16 (Int32.toNatClampNeg (((4 * x1_37) + x4_40)))) + 1))) 17 (Int32.toNatClampNeg (x4_40))) ≤ 0 then (if ibd (x4_40) 4 then (if ibd (x4_40) 4 then (f_X11_come_136 x1_37 x2_38 x3_39 k299 fu_42 ((x4_40 + 1)) (upd2 (upd2 (upd2 (upd2 r_65.2 16 (Int32.toNatClampNeg (((4 * x1_37) + x4_40))) (((r_65.2 16 (Int32.toNatClampNeg (((4 * x1_37) + x4_40)))) + 1))) 17 (Int32.toNatClampNeg (x4_40)) ((((upd2 r_65.2 16 (Int32.toNatClampNeg (((4 * x1_37) + x4_40))) (((r_65.2 16 (Int32.toNatClampNeg (((4 * x1_37) + x4_40)))) + 1))) 17 (Int32.toNatClampNeg (x4_40))) + 1))) 18 (Int32.toNatClampNeg (x4_40)) (x2_38)) 19 (Int32.toNatClampNeg (x4_40)) (x1_37))) else none) else none) else (f_X11_come_136 x1_37 x2_38 x3_39 k299 fu_42 ((x4_40 + 1)) (upd2 (upd2 r_65.2 16 (Int32.toNatClampNeg (((4 * x1_37) + x4_40))) (((r_65.2 16 (Int32.toNatClampNeg (((4 * x1_37) + x4_40)))) + 1))) 17 (Int32.toNatClampNeg (x4_40)) ((((upd2 r_65.2 16 (Int32.toNatClampNeg (((4 * x1_37) + x4_40))) (((r_65.2 16 (Int32.toNatClampNeg (((4 * x1_37) + x4_40)))) + 1))) 17 (Int32.toNatClampNeg (x4_40))) + 1))))) else none) else none) else none) else none))) else none)) FU (0) (0) (0)))
def f_X11_come_302 (x1_76 : Int32) (x2_77 : Int32) (x3_78 : Int32) : Nat → Int32 → Mem → Option (Mem)
  | 0, _, _ => none
  | fu_81 + 1, x4_79, M_80 => (if (M_80 0 5) ≤ x4_79 then some (M_80) else (if (((x3_78 : Int32) >>> (x4_79 &&& 31)) &&& 1) = 1 then (Option.bind (f_X11_asks M_80 (x4_79)) fun r_84 => (Option.bind (f_X11_tells M_80 (x4_79)) fun r_85 => (if ibd (x1_76) 5 then (if ibd (x4_79) 10 then (Option.bind (f_X11_worth M_80 (1) (r_84) (r_85) (x2_77) (x1_76) ((M_80 4 (Int32.toNatClampNeg (x1_76)))) ((M_80 7 (Int32.toNatClampNeg (x4_79))))) fun r_88 => (if r_88.1 = 0 then (f_X11_come_302 x1_76 x2_77 x3_78 fu_81 ((x4_79 + 1)) r_88.2) else (if ibd (x4_79) 10 then (f_X11_come_302 x1_76 x2_77 x3_78 fu_81 ((x4_79 + 1)) (upd2 r_88.2 20 (Int32.toNatClampNeg (x4_79)) (x2_77))) else none))) else none) else none))) else (f_X11_come_302 x1_76 x2_77 x3_78 fu_81 ((x4_79 + 1)) M_80)))
def f_X11_come (M : Mem) (a1 : Int32) (a2 : Int32) : Option (Mem) :=
  (f_X11_come_5 (a1) (a2) (fun x3_35 M_36 => (f_X11_come_136 (a1) (a2) (x3_35) (fun M_75 => (f_X11_come_302 (a1) (a2) (x3_35) FU (0) M_75)) FU (0) M_36)) (fun x3_91 M_92 => (f_X11_come_136 (a1) (a2) (x3_91) (fun M_93 => (f_X11_come_302 (a1) (a2) (x3_91) FU (0) M_93)) FU (0) M_92)) FU (0) (0) M)
set_option maxRecDepth 100000 in
set_option maxHeartbeats 4000000 in
theorem c_X11_come (l : Launch) {G : GT} {φ : Nat → Nat} {n : Nat} {M : Mem} {L : Nat → Int64} {a1 : Int32} {a2 : Int32} (hI : wI φ n) (hn : 32 ≤ n) {r : Mem} (h : f_X11_come M a1 a2 = some r) : CT l yX11_come cX11_come 8 none ({ frames := 2, cells := 0, slots := 0, locals := 43 } : Room) [.ref (φ 0), .int (a1), .int (a2)] (WB (cM G φ L) φ M n G) (none) (WB (cM G φ L) φ (r) n G) φ n := by
  unfold f_X11_come at h
  refine r_start (plainFor_of_name (by decide)) (Nat.le_of_ble_eq_true rfl) hI ?_
  intro p e s m args below meth c ls X hr hlk hP hl
  have hS : va_S (wA φ n s.heap.size) s.heap s.heap [] := va_S.rf
  have hx := X.1.1
  have hb := X.1.2.1
  have hl : lv_has ls 8 [(0, .ref (φ 0)), (1, .int (a1)), (2, .int (a2))] := hl
  have L22 : ∀ (fu_16 : Nat) (M_15 : Mem) (x1_9 : Int32) (x2_10 : Int32) (x3_11 : Int32) (x4_12 : Int32) (k82 : Int32 → Option (Mem)) (x5_13 : Int32) (x6_14 : Int32)  (H : Heap) (locs : List Loc) (ls : Array Slot), va_P G.1 vwCl (wW (cM G φ L) φ M_15 n) H → va_S (wA φ n s.heap.size) s.heap H locs → lv_has ls 8 [(0, .ref (φ 0)), (1, .int (x1_9)), (2, .int (x2_10)), (3, .int (x3_11)), (4, .int (x4_12)), (5, .int (x5_13)), (6, .int (x6_14))] → (∀ (z_25 : Int32) (H : Heap) (locs : List Loc) (ls : Array Slot), va_P G.1 vwCl (wW (cM G φ L) φ M_15 n) H → va_S (wA φ n s.heap.size) s.heap H locs → lv_has ls 8 [(0, .ref (φ 0)), (1, .int (x1_9)), (2, .int (x2_10)), (3, .int (x3_11)), (4, .int (x4_12)), (5, .int (z_25))] → k82 z_25 = some r → W p l e ({ frames := 2, cells := 0, slots := 0, locals := 43 } : Room) s m args below meth c H locs 0 0 (MQ below (QQ (none) (WB (cM G φ L) φ (r) n G) (wA φ n s.heap.size)) args s 0 0 (wA φ n s.heap.size)) (F0 m 82 ls [])) → f_X11_come_22 M_15 x1_9 x2_10 x3_11 x4_12 k82 fu_16 x5_13 x6_14 = some r → W p l e ({ frames := 2, cells := 0, slots := 0, locals := 43 } : Room) s m args below meth c H locs 0 0 (MQ below (QQ (none) (WB (cM G φ L) φ (r) n G) (wA φ n s.heap.size)) args s 0 0 (wA φ n s.heap.size)) (F0 m 22 ls []) := by
    intro fu_16
    induction fu_16 with
    | zero =>
      intro M_15 x1_9 x2_10 x3_11 x4_12 k82 x5_13 x6_14 H locs ls _ _ _ _ h
      have h : (none : Option (Mem)) = some r := h
      cases h
    | succ fu_16 ih =>
      intro M_15 x1_9 x2_10 x3_11 x4_12 k82 x5_13 x6_14 H locs ls hP hS hl hk82 h
      rw [f_X11_come_22] at h
      refine lv_iload hx hb dX11_come_22 (lv_at hl 6 rfl) ?_
      refine lv_aload_n hx hb dX11_come_24 rfl (lv_at hl 0 rfl) ?_
      refine G_X11_131 X.1 hn hP dX11_come_25 ?_
      refine lv_icmp_ge (tgt := 82) hx hb dX11_come_28 (by decide) (fun c_17 => ?_) (fun c_17 => ?_)
      · rw [if_pos c_17] at h
        exact hk82 _ _ _ _ hP hS (lv_sub hl [0, 1, 2, 3, 4, 5] rfl) h
      · rw [if_neg c_17] at h
        refine lv_iload_n hx hb dX11_come_31 rfl (lv_at hl 3 rfl) ?_
        refine lv_iload hx hb dX11_come_32 (lv_at hl 6 rfl) ?_
        refine lv_ishr hx hb dX11_come_34 ?_
        refine lv_iconst (v := 1) hx hb dX11_come_35 (by decide) ?_
        refine lv_iand hx hb dX11_come_36 ?_
        refine lv_if_ne (tgt := 76) hx hb dX11_come_37 (by decide) (fun c_18 => ?_) (fun c_18 => ?_)
        · rw [if_neg c_18] at h
          refine lv_iinc (v := (x6_14 + 1)) (lv' := [(6, .int ((x6_14 + 1))), (0, .ref (φ 0)), (1, .int (x1_9)), (2, .int (x2_10)), (3, .int (x3_11)), (4, .int (x4_12)), (5, .int (x5_13))]) hx hb dX11_come_76 hl (k := 6) rfl (by rw [show Int32.ofInt (1) = 1 from by decide]) (by decide) rfl (fun ls hl => ?_)
          refine lv_goto (tgt := 22) hx hb dX11_come_79 (by decide) ?_
          exact ih _ _ _ _ _ _ _ _ _ _ _ hP hS (lv_sub hl [1, 2, 3, 4, 5, 6, 0] rfl) hk82 h
        · rw [if_pos c_18] at h
          refine lv_aload_n hx hb dX11_come_40 rfl (lv_at hl 0 rfl) ?_
          refine G_X11_67 X.1 hn hP dX11_come_41 ?_
          refine lv_iload hx hb dX11_come_44 (lv_at hl 6 rfl) ?_
          obtain ⟨c_19, h⟩ := og h
          refine r_iald (k := (Int32.toNatClampNeg (x6_14))) X.1 hP (by omega) sM_takenAt rfl (vin c_19) dX11_come_46 ?_
          refine lv_iconst (v := (-1)) hx hb dX11_come_47 (by decide) ?_
          refine lv_icmp_ne (tgt := 76) hx hb dX11_come_48 (by decide) (fun c_20 => ?_) (fun c_20 => ?_)
          · rw [if_neg c_20] at h
            refine lv_iinc (v := (x6_14 + 1)) (lv' := [(6, .int ((x6_14 + 1))), (0, .ref (φ 0)), (1, .int (x1_9)), (2, .int (x2_10)), (3, .int (x3_11)), (4, .int (x4_12)), (5, .int (x5_13))]) hx hb dX11_come_76 hl (k := 6) rfl (by rw [show Int32.ofInt (1) = 1 from by decide]) (by decide) rfl (fun ls hl => ?_)
            refine lv_goto (tgt := 22) hx hb dX11_come_79 (by decide) ?_
            exact ih _ _ _ _ _ _ _ _ _ _ _ hP hS (lv_sub hl [1, 2, 3, 4, 5, 6, 0] rfl) hk82 h
          · rw [if_pos c_20] at h
            refine lv_aload_n hx hb dX11_come_51 rfl (lv_at hl 0 rfl) ?_
            refine lv_iload hx hb dX11_come_52 (lv_at hl 6 rfl) ?_
            refine lv_iload_n hx hb dX11_come_54 rfl (lv_at hl 2 rfl) ?_
            obtain ⟨r_21, hr_21, h⟩ := ob h
            refine c_V0 (As := [.int (x6_14), .int (x2_10)]) (rest := []) (a := 0) X hl.1 (c_X11_there l X.2.2.2.1.1 hn hr_21) (w_X11_254) qw_1215 qw_53 ⟨Nat.le_of_ble_eq_true rfl, Nat.le_of_ble_eq_true rfl⟩ rfl rfl hP hS (by omega) sM_Model rfl rfl (Nat.le_of_ble_eq_true rfl) dX11_come_55 (fun H locs hP hS => ?_)
            refine lv_if_eq (tgt := 76) hx hb dX11_come_58 (by decide) (fun c_22 => ?_) (fun c_22 => ?_)
            · rw [if_pos c_22] at h
              refine lv_iinc (v := (x6_14 + 1)) (lv' := [(6, .int ((x6_14 + 1))), (0, .ref (φ 0)), (1, .int (x1_9)), (2, .int (x2_10)), (3, .int (x3_11)), (4, .int (x4_12)), (5, .int (x5_13))]) hx hb dX11_come_76 hl (k := 6) rfl (by rw [show Int32.ofInt (1) = 1 from by decide]) (by decide) rfl (fun ls hl => ?_)
              refine lv_goto (tgt := 22) hx hb dX11_come_79 (by decide) ?_
              exact ih _ _ _ _ _ _ _ _ _ _ _ hP hS (lv_sub hl [1, 2, 3, 4, 5, 6, 0] rfl) hk82 h
            · rw [if_neg c_22] at h
              refine lv_aload_n hx hb dX11_come_61 rfl (lv_at hl 0 rfl) ?_
              refine lv_iload hx hb dX11_come_62 (lv_at hl 6 rfl) ?_
              refine lv_iload hx hb dX11_come_64 (lv_at hl 5 rfl) ?_
              obtain ⟨r_23, hr_23, h⟩ := ob h
              refine c_V0 (As := [.int (x6_14), .int (x5_13)]) (rest := []) (a := 0) X hl.1 (c_X11_above l X.2.2.2.1.1 hn hr_23) (w_X11_257) qw_1219 qw_54 ⟨Nat.le_of_ble_eq_true rfl, Nat.le_of_ble_eq_true rfl⟩ rfl rfl hP hS (by omega) sM_Model rfl rfl (Nat.le_of_ble_eq_true rfl) dX11_come_66 (fun H locs hP hS => ?_)
              refine lv_if_eq (tgt := 76) hx hb dX11_come_69 (by decide) (fun c_24 => ?_) (fun c_24 => ?_)
              · rw [if_pos c_24] at h
                refine lv_iinc (v := (x6_14 + 1)) (lv' := [(6, .int ((x6_14 + 1))), (0, .ref (φ 0)), (1, .int (x1_9)), (2, .int (x2_10)), (3, .int (x3_11)), (4, .int (x4_12)), (5, .int (x5_13))]) hx hb dX11_come_76 hl (k := 6) rfl (by rw [show Int32.ofInt (1) = 1 from by decide]) (by decide) rfl (fun ls hl => ?_)
                refine lv_goto (tgt := 22) hx hb dX11_come_79 (by decide) ?_
                exact ih _ _ _ _ _ _ _ _ _ _ _ hP hS (lv_sub hl [1, 2, 3, 4, 5, 6, 0] rfl) hk82 h
              · rw [if_neg c_24] at h
                refine lv_iload hx hb dX11_come_72 (lv_at hl 6 rfl) ?_
                refine lv_istore (lv' := [(5, .int (x6_14)), (0, .ref (φ 0)), (1, .int (x1_9)), (2, .int (x2_10)), (3, .int (x3_11)), (4, .int (x4_12)), (6, .int (x6_14))]) hx hb dX11_come_74 hl (by decide) rfl (fun ls hl => ?_)
                refine lv_iinc (v := (x6_14 + 1)) (lv' := [(6, .int ((x6_14 + 1))), (5, .int (x6_14)), (0, .ref (φ 0)), (1, .int (x1_9)), (2, .int (x2_10)), (3, .int (x3_11)), (4, .int (x4_12))]) hx hb dX11_come_76 hl (k := 6) rfl (by rw [show Int32.ofInt (1) = 1 from by decide]) (by decide) rfl (fun ls hl => ?_)
                refine lv_goto (tgt := 22) hx hb dX11_come_79 (by decide) ?_
                exact ih _ _ _ _ _ _ _ _ _ _ _ hP hS (lv_sub hl [2, 3, 4, 5, 6, 1, 0] rfl) hk82 h
  have L5 : ∀ (fu_6 : Nat) (M_5 : Mem) (x1_1 : Int32) (x2_2 : Int32) (k133 : Int32 → Mem → Option (Mem)) (k88 : Int32 → Mem → Option (Mem)) (x3_3 : Int32) (x4_4 : Int32)  (H : Heap) (locs : List Loc) (ls : Array Slot), va_P G.1 vwCl (wW (cM G φ L) φ M_5 n) H → va_S (wA φ n s.heap.size) s.heap H locs → lv_has ls 8 [(0, .ref (φ 0)), (1, .int (x1_1)), (2, .int (x2_2)), (3, .int (x3_3)), (4, .int (x4_4))] → (∀ (z_31 : Int32) (M_32 : Mem) (H : Heap) (locs : List Loc) (ls : Array Slot), va_P G.1 vwCl (wW (cM G φ L) φ M_32 n) H → va_S (wA φ n s.heap.size) s.heap H locs → lv_has ls 8 [(0, .ref (φ 0)), (1, .int (x1_1)), (2, .int (x2_2)), (3, .int (z_31))] → k133 z_31 M_32 = some r → W p l e ({ frames := 2, cells := 0, slots := 0, locals := 43 } : Room) s m args below meth c H locs 0 0 (MQ below (QQ (none) (WB (cM G φ L) φ (r) n G) (wA φ n s.heap.size)) args s 0 0 (wA φ n s.heap.size)) (F0 m 133 ls [])) → (∀ (z_33 : Int32) (M_34 : Mem) (H : Heap) (locs : List Loc) (ls : Array Slot), va_P G.1 vwCl (wW (cM G φ L) φ M_34 n) H → va_S (wA φ n s.heap.size) s.heap H locs → lv_has ls 8 [(0, .ref (φ 0)), (1, .int (x1_1)), (2, .int (x2_2)), (3, .int (z_33))] → k88 z_33 M_34 = some r → W p l e ({ frames := 2, cells := 0, slots := 0, locals := 43 } : Room) s m args below meth c H locs 0 0 (MQ below (QQ (none) (WB (cM G φ L) φ (r) n G) (wA φ n s.heap.size)) args s 0 0 (wA φ n s.heap.size)) (F0 m 88 ls [])) → f_X11_come_5 x1_1 x2_2 k133 k88 fu_6 x3_3 x4_4 M_5 = some r → W p l e ({ frames := 2, cells := 0, slots := 0, locals := 43 } : Room) s m args below meth c H locs 0 0 (MQ below (QQ (none) (WB (cM G φ L) φ (r) n G) (wA φ n s.heap.size)) args s 0 0 (wA φ n s.heap.size)) (F0 m 5 ls []) := by
    intro fu_6
    induction fu_6 with
    | zero =>
      intro M_5 x1_1 x2_2 k133 k88 x3_3 x4_4 H locs ls _ _ _ _ _ h
      have h : (none : Option (Mem)) = some r := h
      cases h
    | succ fu_6 ih =>
      intro M_5 x1_1 x2_2 k133 k88 x3_3 x4_4 H locs ls hP hS hl hk133 hk88 h
      rw [f_X11_come_5] at h
      refine lv_iload hx hb dX11_come_5 (lv_at hl 4 rfl) ?_
      refine lv_aload_n hx hb dX11_come_7 rfl (lv_at hl 0 rfl) ?_
      refine G_X11_16 X.1 hn hP dX11_come_8 ?_
      refine lv_iload_n hx hb dX11_come_11 rfl (lv_at hl 1 rfl) ?_
      obtain ⟨c_7, h⟩ := og h
      refine r_iald (k := (Int32.toNatClampNeg (x1_1))) X.1 hP (by omega) sM_reads rfl (vin c_7) dX11_come_12 ?_
      refine lv_icmp_ge (tgt := 133) hx hb dX11_come_13 (by decide) (fun c_8 => ?_) (fun c_8 => ?_)
      · rw [if_pos c_8] at h
        exact hk133 _ _ _ _ _ hP hS (lv_sub hl [0, 1, 2, 3] rfl) h
      · rw [if_neg c_8] at h
        refine lv_iconst (v := (-1)) hx hb dX11_come_16 (by decide) ?_
        refine lv_istore (lv' := [(5, .int ((-1))), (0, .ref (φ 0)), (1, .int (x1_1)), (2, .int (x2_2)), (3, .int (x3_3)), (4, .int (x4_4))]) hx hb dX11_come_17 hl (by decide) rfl (fun ls hl => ?_)
        refine lv_iconst (v := 0) hx hb dX11_come_19 (by decide) ?_
        refine lv_istore (lv' := [(6, .int (0)), (5, .int ((-1))), (0, .ref (φ 0)), (1, .int (x1_1)), (2, .int (x2_2)), (3, .int (x3_3)), (4, .int (x4_4))]) hx hb dX11_come_20 hl (by decide) rfl (fun ls hl => ?_)
        refine L22 _ _ _ _ _ _ _ _ _ _ _ _ hP hS (lv_sub hl [2, 3, 4, 5, 6, 1, 0] rfl) (fun x5_26 H locs ls hP hS hl h => ?_) h
        · try dsimp only at h
          refine lv_iload hx hb dX11_come_82 (lv_at hl 5 rfl) ?_
          refine lv_iconst (v := (-1)) hx hb dX11_come_84 (by decide) ?_
          refine lv_icmp_ne (tgt := 91) hx hb dX11_come_85 (by decide) (fun c_27 => ?_) (fun c_27 => ?_)
          · rw [if_neg c_27] at h
            refine lv_iload_n hx hb dX11_come_91 rfl (lv_at hl 3 rfl) ?_
            refine lv_iconst (v := 1) hx hb dX11_come_92 (by decide) ?_
            refine lv_iload hx hb dX11_come_93 (lv_at hl 5 rfl) ?_
            refine lv_ishl hx hb dX11_come_95 ?_
            refine lv_ior hx hb dX11_come_96 ?_
            refine lv_istore_n (lv' := [(3, .int ((x3_3 ||| ((1 : Int32) <<< (x5_26 &&& 31))))), (0, .ref (φ 0)), (1, .int (x1_1)), (2, .int (x2_2)), (4, .int (x4_4)), (5, .int (x5_26))]) hx hb dX11_come_97 rfl hl (by decide) rfl (fun ls hl => ?_)
            refine lv_aload_n hx hb dX11_come_98 rfl (lv_at hl 1 rfl) ?_
            refine G_X11_52 X.1 hn hP dX11_come_99 ?_
            refine lv_bipush (v := 10) hx hb dX11_come_102 (by decide) ?_
            refine lv_iload_n hx hb dX11_come_104 rfl (lv_at hl 2 rfl) ?_
            refine lv_imul hx hb dX11_come_105 ?_
            refine lv_iload hx hb dX11_come_106 (lv_at hl 5 rfl) ?_
            refine lv_iadd hx hb dX11_come_108 ?_
            obtain ⟨c_28, h⟩ := og h
            refine r_iald (k := (Int32.toNatClampNeg (((10 * x1_1) + x5_26)))) X.1 hP (by omega) sM_readAt rfl (vin c_28) dX11_come_109 ?_
            refine lv_iconst (v := (-1)) hx hb dX11_come_110 (by decide) ?_
            refine lv_icmp_ne (tgt := 127) hx hb dX11_come_111 (by decide) (fun c_29 => ?_) (fun c_29 => ?_)
            · rw [if_neg c_29] at h
              refine lv_iinc (v := (x4_4 + 1)) (lv' := [(4, .int ((x4_4 + 1))), (3, .int ((x3_3 ||| ((1 : Int32) <<< (x5_26 &&& 31))))), (0, .ref (φ 0)), (1, .int (x1_1)), (2, .int (x2_2)), (5, .int (x5_26))]) hx hb dX11_come_127 hl (k := 4) rfl (by rw [show Int32.ofInt (1) = 1 from by decide]) (by decide) rfl (fun ls hl => ?_)
              refine lv_goto (tgt := 5) hx hb dX11_come_130 (by decide) ?_
              exact ih _ _ _ _ _ _ _ _ _ _ hP hS (lv_sub hl [2, 3, 4, 1, 0] rfl) hk133 hk88 h
            · rw [if_pos c_29] at h
              refine lv_aload_n hx hb dX11_come_114 rfl (lv_at hl 1 rfl) ?_
              refine G_X11_52 X.1 hn hP dX11_come_115 ?_
              refine lv_bipush (v := 10) hx hb dX11_come_118 (by decide) ?_
              refine lv_iload_n hx hb dX11_come_120 rfl (lv_at hl 2 rfl) ?_
              refine lv_imul hx hb dX11_come_121 ?_
              refine lv_iload hx hb dX11_come_122 (lv_at hl 5 rfl) ?_
              refine lv_iadd hx hb dX11_come_124 ?_
              refine lv_iload_n hx hb dX11_come_125 rfl (lv_at hl 3 rfl) ?_
              obtain ⟨c_30, h⟩ := og h
              refine r_iast (k := (Int32.toNatClampNeg (((10 * x1_1) + x5_26)))) X.1 X.2.2.2.1 hP hS (by omega) sM_readAt rfl (vin c_30) dX11_come_126 (fun H locs hP hS => ?_)
              refine lv_iinc (v := (x4_4 + 1)) (lv' := [(4, .int ((x4_4 + 1))), (3, .int ((x3_3 ||| ((1 : Int32) <<< (x5_26 &&& 31))))), (0, .ref (φ 0)), (1, .int (x1_1)), (2, .int (x2_2)), (5, .int (x5_26))]) hx hb dX11_come_127 hl (k := 4) rfl (by rw [show Int32.ofInt (1) = 1 from by decide]) (by decide) rfl (fun ls hl => ?_)
              refine lv_goto (tgt := 5) hx hb dX11_come_130 (by decide) ?_
              exact ih _ _ _ _ _ _ _ _ _ _ hP hS (lv_sub hl [2, 3, 4, 1, 0] rfl) hk133 hk88 h
          · rw [if_pos c_27] at h
            exact hk88 _ _ _ _ _ hP hS (lv_sub hl [0, 1, 2, 3] rfl) h
  have L151 : ∀ (fu_52 : Nat) (M_51 : Mem) (x1_44 : Int32) (x2_45 : Int32) (x3_46 : Int32) (x4_47 : Int32) (k219 : Int32 → Int32 → Option (Mem)) (x5_48 : Int32) (x6_49 : Int32) (x7_50 : Int32)  (H : Heap) (locs : List Loc) (ls : Array Slot), va_P G.1 vwCl (wW (cM G φ L) φ M_51 n) H → va_S (wA φ n s.heap.size) s.heap H locs → lv_has ls 8 [(0, .ref (φ 0)), (1, .int (x1_44)), (2, .int (x2_45)), (3, .int (x3_46)), (4, .int (x4_47)), (5, .int (x5_48)), (6, .int (x6_49)), (7, .int (x7_50))] → (∀ (z_60 : Int32) (z_61 : Int32) (H : Heap) (locs : List Loc) (ls : Array Slot), va_P G.1 vwCl (wW (cM G φ L) φ M_51 n) H → va_S (wA φ n s.heap.size) s.heap H locs → lv_has ls 8 [(0, .ref (φ 0)), (1, .int (x1_44)), (2, .int (x2_45)), (3, .int (x3_46)), (4, .int (x4_47)), (5, .int (z_60)), (6, .int (z_61))] → k219 z_60 z_61 = some r → W p l e ({ frames := 2, cells := 0, slots := 0, locals := 43 } : Room) s m args below meth c H locs 0 0 (MQ below (QQ (none) (WB (cM G φ L) φ (r) n G) (wA φ n s.heap.size)) args s 0 0 (wA φ n s.heap.size)) (F0 m 219 ls [])) → f_X11_come_151 M_51 x1_44 x2_45 x3_46 x4_47 k219 fu_52 x5_48 x6_49 x7_50 = some r → W p l e ({ frames := 2, cells := 0, slots := 0, locals := 43 } : Room) s m args below meth c H locs 0 0 (MQ below (QQ (none) (WB (cM G φ L) φ (r) n G) (wA φ n s.heap.size)) args s 0 0 (wA φ n s.heap.size)) (F0 m 151 ls []) := by
    intro fu_52
    induction fu_52 with
    | zero =>
      intro M_51 x1_44 x2_45 x3_46 x4_47 k219 x5_48 x6_49 x7_50 H locs ls _ _ _ _ h
      have h : (none : Option (Mem)) = some r := h
      cases h
    | succ fu_52 ih =>
      intro M_51 x1_44 x2_45 x3_46 x4_47 k219 x5_48 x6_49 x7_50 H locs ls hP hS hl hk219 h
      rw [f_X11_come_151] at h
      refine lv_iload hx hb dX11_come_151 (lv_at hl 7 rfl) ?_
      refine lv_aload_n hx hb dX11_come_153 rfl (lv_at hl 0 rfl) ?_
      refine G_X11_131 X.1 hn hP dX11_come_154 ?_
      refine lv_icmp_ge (tgt := 219) hx hb dX11_come_157 (by decide) (fun c_53 => ?_) (fun c_53 => ?_)
      · rw [if_pos c_53] at h
        exact hk219 _ _ _ _ _ hP hS (lv_sub hl [0, 1, 2, 3, 4, 5, 6] rfl) h
      · rw [if_neg c_53] at h
        refine lv_aload_n hx hb dX11_come_160 rfl (lv_at hl 0 rfl) ?_
        refine G_X11_28 X.1 hn hP dX11_come_161 ?_
        refine lv_iload hx hb dX11_come_164 (lv_at hl 7 rfl) ?_
        obtain ⟨c_54, h⟩ := og h
        refine r_iald (k := (Int32.toNatClampNeg (x7_50))) X.1 hP (by omega) sM_thing rfl (vin c_54) dX11_come_166 ?_
        refine lv_iload hx hb dX11_come_167 (lv_at hl 4 rfl) ?_
        refine lv_icmp_ne (tgt := 213) hx hb dX11_come_169 (by decide) (fun c_55 => ?_) (fun c_55 => ?_)
        · rw [if_neg c_55] at h
          refine lv_iinc (v := (x7_50 + 1)) (lv' := [(7, .int ((x7_50 + 1))), (0, .ref (φ 0)), (1, .int (x1_44)), (2, .int (x2_45)), (3, .int (x3_46)), (4, .int (x4_47)), (5, .int (x5_48)), (6, .int (x6_49))]) hx hb dX11_come_213 hl (k := 7) rfl (by rw [show Int32.ofInt (1) = 1 from by decide]) (by decide) rfl (fun ls hl => ?_)
          refine lv_goto (tgt := 151) hx hb dX11_come_216 (by decide) ?_
          exact ih _ _ _ _ _ _ _ _ _ _ _ _ hP hS (lv_sub hl [1, 2, 3, 4, 5, 6, 7, 0] rfl) hk219 h
        · rw [if_pos c_55] at h
          refine lv_aload_n hx hb dX11_come_172 rfl (lv_at hl 0 rfl) ?_
          refine G_X11_52 X.1 hn hP dX11_come_173 ?_
          refine lv_bipush (v := 10) hx hb dX11_come_176 (by decide) ?_
          refine lv_iload_n hx hb dX11_come_178 rfl (lv_at hl 1 rfl) ?_
          refine lv_imul hx hb dX11_come_179 ?_
          refine lv_iload hx hb dX11_come_180 (lv_at hl 7 rfl) ?_
          refine lv_iadd hx hb dX11_come_182 ?_
          obtain ⟨c_56, h⟩ := og h
          refine r_iald (k := (Int32.toNatClampNeg (((10 * x1_44) + x7_50)))) X.1 hP (by omega) sM_readAt rfl (vin c_56) dX11_come_183 ?_
          refine lv_iconst (v := (-1)) hx hb dX11_come_184 (by decide) ?_
          refine lv_icmp_ne (tgt := 191) hx hb dX11_come_185 (by decide) (fun c_57 => ?_) (fun c_57 => ?_)
          · rw [if_neg c_57] at h
            refine lv_iload hx hb dX11_come_191 (lv_at hl 5 rfl) ?_
            refine lv_aload_n hx hb dX11_come_193 rfl (lv_at hl 0 rfl) ?_
            refine lv_iload hx hb dX11_come_194 (lv_at hl 7 rfl) ?_
            obtain ⟨r_58, hr_58, h⟩ := ob h
            refine c_V0 (As := [.int (x7_50)]) (rest := [.int (x5_48)]) (a := 0) X hl.1 (c_X11_asks l X.2.2.2.1.1 hn hr_58) (w_X11_147) qw_1185 qw_48 ⟨Nat.le_of_ble_eq_true rfl, Nat.le_of_ble_eq_true rfl⟩ rfl rfl hP hS (by omega) sM_Model rfl rfl (Nat.le_of_ble_eq_true rfl) dX11_come_196 (fun H locs hP hS => ?_)
            refine lv_iadd hx hb dX11_come_199 ?_
            refine lv_istore (lv' := [(5, .int ((x5_48 + r_58))), (0, .ref (φ 0)), (1, .int (x1_44)), (2, .int (x2_45)), (3, .int (x3_46)), (4, .int (x4_47)), (6, .int (x6_49)), (7, .int (x7_50))]) hx hb dX11_come_200 hl (by decide) rfl (fun ls hl => ?_)
            refine lv_iload hx hb dX11_come_202 (lv_at hl 6 rfl) ?_
            refine lv_aload_n hx hb dX11_come_204 rfl (lv_at hl 1 rfl) ?_
            refine lv_iload hx hb dX11_come_205 (lv_at hl 7 rfl) ?_
            obtain ⟨r_59, hr_59, h⟩ := ob h
            refine c_V0 (As := [.int (x7_50)]) (rest := [.int (x6_49)]) (a := 0) X hl.1 (c_X11_tells l X.2.2.2.1.1 hn hr_59) (w_X11_150) qw_1189 qw_49 ⟨Nat.le_of_ble_eq_true rfl, Nat.le_of_ble_eq_true rfl⟩ rfl rfl hP hS (by omega) sM_Model rfl rfl (Nat.le_of_ble_eq_true rfl) dX11_come_207 (fun H locs hP hS => ?_)
            refine lv_iadd hx hb dX11_come_210 ?_
            refine lv_istore (lv' := [(6, .int ((x6_49 + r_59))), (5, .int ((x5_48 + r_58))), (0, .ref (φ 0)), (1, .int (x1_44)), (2, .int (x2_45)), (3, .int (x3_46)), (4, .int (x4_47)), (7, .int (x7_50))]) hx hb dX11_come_211 hl (by decide) rfl (fun ls hl => ?_)
            refine lv_iinc (v := (x7_50 + 1)) (lv' := [(7, .int ((x7_50 + 1))), (6, .int ((x6_49 + r_59))), (5, .int ((x5_48 + r_58))), (0, .ref (φ 0)), (1, .int (x1_44)), (2, .int (x2_45)), (3, .int (x3_46)), (4, .int (x4_47))]) hx hb dX11_come_213 hl (k := 7) rfl (by rw [show Int32.ofInt (1) = 1 from by decide]) (by decide) rfl (fun ls hl => ?_)
            refine lv_goto (tgt := 151) hx hb dX11_come_216 (by decide) ?_
            exact ih _ _ _ _ _ _ _ _ _ _ _ _ hP hS (lv_sub hl [3, 4, 5, 6, 7, 2, 1, 0] rfl) hk219 h
          · rw [if_pos c_57] at h
            refine lv_goto (tgt := 213) hx hb dX11_come_188 (by decide) ?_
            refine lv_iinc (v := (x7_50 + 1)) (lv' := [(7, .int ((x7_50 + 1))), (0, .ref (φ 0)), (1, .int (x1_44)), (2, .int (x2_45)), (3, .int (x3_46)), (4, .int (x4_47)), (5, .int (x5_48)), (6, .int (x6_49))]) hx hb dX11_come_213 hl (k := 7) rfl (by rw [show Int32.ofInt (1) = 1 from by decide]) (by decide) rfl (fun ls hl => ?_)
            refine lv_goto (tgt := 151) hx hb dX11_come_216 (by decide) ?_
            exact ih _ _ _ _ _ _ _ _ _ _ _ _ hP hS (lv_sub hl [1, 2, 3, 4, 5, 6, 7, 0] rfl) hk219 h
  have L136 : ∀ (fu_42 : Nat) (M_41 : Mem) (x1_37 : Int32) (x2_38 : Int32) (x3_39 : Int32) (k299 : Mem → Option (Mem)) (x4_40 : Int32)  (H : Heap) (locs : List Loc) (ls : Array Slot), va_P G.1 vwCl (wW (cM G φ L) φ M_41 n) H → va_S (wA φ n s.heap.size) s.heap H locs → lv_has ls 8 [(0, .ref (φ 0)), (1, .int (x1_37)), (2, .int (x2_38)), (3, .int (x3_39)), (4, .int (x4_40))] → (∀ (M_74 : Mem) (H : Heap) (locs : List Loc) (ls : Array Slot), va_P G.1 vwCl (wW (cM G φ L) φ M_74 n) H → va_S (wA φ n s.heap.size) s.heap H locs → lv_has ls 8 [(0, .ref (φ 0)), (1, .int (x1_37)), (2, .int (x2_38)), (3, .int (x3_39))] → k299 M_74 = some r → W p l e ({ frames := 2, cells := 0, slots := 0, locals := 43 } : Room) s m args below meth c H locs 0 0 (MQ below (QQ (none) (WB (cM G φ L) φ (r) n G) (wA φ n s.heap.size)) args s 0 0 (wA φ n s.heap.size)) (F0 m 299 ls [])) → f_X11_come_136 x1_37 x2_38 x3_39 k299 fu_42 x4_40 M_41 = some r → W p l e ({ frames := 2, cells := 0, slots := 0, locals := 43 } : Room) s m args below meth c H locs 0 0 (MQ below (QQ (none) (WB (cM G φ L) φ (r) n G) (wA φ n s.heap.size)) args s 0 0 (wA φ n s.heap.size)) (F0 m 136 ls []) := by
    intro fu_42
    induction fu_42 with
    | zero =>
      intro M_41 x1_37 x2_38 x3_39 k299 x4_40 H locs ls _ _ _ _ h
      have h : (none : Option (Mem)) = some r := h
      cases h
    | succ fu_42 ih =>
      intro M_41 x1_37 x2_38 x3_39 k299 x4_40 H locs ls hP hS hl hk299 h
      rw [f_X11_come_136] at h
      refine lv_iload hx hb dX11_come_136 (lv_at hl 4 rfl) ?_
      refine lv_iconst (v := 4) hx hb dX11_come_138 (by decide) ?_
      refine lv_icmp_ge (tgt := 299) hx hb dX11_come_139 (by decide) (fun c_43 => ?_) (fun c_43 => ?_)
      · rw [if_pos c_43] at h
        exact hk299 _ _ _ _ hP hS (lv_sub hl [0, 1, 2, 3] rfl) h
      · rw [if_neg c_43] at h
        refine lv_iconst (v := 0) hx hb dX11_come_142 (by decide) ?_
        refine lv_istore (lv' := [(5, .int (0)), (0, .ref (φ 0)), (1, .int (x1_37)), (2, .int (x2_38)), (3, .int (x3_39)), (4, .int (x4_40))]) hx hb dX11_come_143 hl (by decide) rfl (fun ls hl => ?_)
        refine lv_iconst (v := 0) hx hb dX11_come_145 (by decide) ?_
        refine lv_istore (lv' := [(6, .int (0)), (5, .int (0)), (0, .ref (φ 0)), (1, .int (x1_37)), (2, .int (x2_38)), (3, .int (x3_39)), (4, .int (x4_40))]) hx hb dX11_come_146 hl (by decide) rfl (fun ls hl => ?_)
        refine lv_iconst (v := 0) hx hb dX11_come_148 (by decide) ?_
        refine lv_istore (lv' := [(7, .int (0)), (6, .int (0)), (5, .int (0)), (0, .ref (φ 0)), (1, .int (x1_37)), (2, .int (x2_38)), (3, .int (x3_39)), (4, .int (x4_40))]) hx hb dX11_come_149 hl (by decide) rfl (fun ls hl => ?_)
        refine L151 _ _ _ _ _ _ _ _ _ _ _ _ _ hP hS (lv_sub hl [3, 4, 5, 6, 7, 2, 1, 0] rfl) (fun x5_62 x6_63 H locs ls hP hS hl h => ?_) h
        · try dsimp only at h
          refine lv_aload_n hx hb dX11_come_219 rfl (lv_at hl 0 rfl) ?_
          refine lv_iconst (v := 0) hx hb dX11_come_220 (by decide) ?_
          refine lv_iload hx hb dX11_come_221 (lv_at hl 5 rfl) ?_
          refine lv_iload hx hb dX11_come_223 (lv_at hl 6 rfl) ?_
          refine lv_iload_n hx hb dX11_come_225 rfl (lv_at hl 2 rfl) ?_
          refine lv_iload_n hx hb dX11_come_226 rfl (lv_at hl 1 rfl) ?_
          refine lv_aload_n hx hb dX11_come_227 rfl (lv_at hl 0 rfl) ?_
          refine G_X11_19 X.1 hn hP dX11_come_228 ?_
          refine lv_iload_n hx hb dX11_come_231 rfl (lv_at hl 1 rfl) ?_
          obtain ⟨c_64, h⟩ := og h
          refine r_iald (k := (Int32.toNatClampNeg (x1_37))) X.1 hP (by omega) sM_temper rfl (vin c_64) dX11_come_232 ?_
          refine lv_iload hx hb dX11_come_233 (lv_at hl 4 rfl) ?_
          obtain ⟨r_65, hr_65, h⟩ := ob h
          refine c_V0 (As := [.int (0), .int (x5_62), .int (x6_63), .int (x2_38), .int (x1_37), .int ((M_41 4 (Int32.toNatClampNeg (x1_37)))), .int (x4_40)]) (rest := []) (a := 0) X hl.1 (c_X11_worth l X.2.2.2.1.1 hn hr_65) (w_X11_260) qw_1223 qw_55 ⟨Nat.le_of_ble_eq_true rfl, Nat.le_of_ble_eq_true rfl⟩ rfl rfl hP hS (by omega) sM_Model rfl rfl (Nat.le_of_ble_eq_true rfl) dX11_come_235 (fun H locs hP hS => ?_)
          refine lv_if_ne (tgt := 244) hx hb dX11_come_238 (by decide) (fun c_66 => ?_) (fun c_66 => ?_)
          · rw [if_neg c_66] at h
            refine lv_aload_n hx hb dX11_come_244 rfl (lv_at hl 0 rfl) ?_
            refine G_X11_55 X.1 hn hP dX11_come_245 ?_
            refine lv_iconst (v := 4) hx hb dX11_come_248 (by decide) ?_
            refine lv_iload_n hx hb dX11_come_249 rfl (lv_at hl 1 rfl) ?_
            refine lv_imul hx hb dX11_come_250 ?_
            refine lv_iload hx hb dX11_come_251 (lv_at hl 4 rfl) ?_
            refine lv_iadd hx hb dX11_come_253 ?_
            refine lv_dup2_11 hx hb dX11_come_254 rfl rfl ?_
            obtain ⟨c_67, h⟩ := og h
            refine r_iald (k := (Int32.toNatClampNeg (((4 * x1_37) + x4_40)))) X.1 hP (by omega) sM_doneBy rfl (vin c_67) dX11_come_255 ?_
            refine lv_iconst (v := 1) hx hb dX11_come_256 (by decide) ?_
            refine lv_iadd hx hb dX11_come_257 ?_
            obtain ⟨c_68, h⟩ := og h
            refine r_iast (k := (Int32.toNatClampNeg (((4 * x1_37) + x4_40)))) X.1 X.2.2.2.1 hP hS (by omega) sM_doneBy rfl (vin c_68) dX11_come_258 (fun H locs hP hS => ?_)
            refine lv_aload_n hx hb dX11_come_259 rfl (lv_at hl 0 rfl) ?_
            refine G_X11_58 X.1 hn hP dX11_come_260 ?_
            refine lv_iload hx hb dX11_come_263 (lv_at hl 4 rfl) ?_
            refine lv_dup2_11 hx hb dX11_come_265 rfl rfl ?_
            obtain ⟨c_69, h⟩ := og h
            refine r_iald (k := (Int32.toNatClampNeg (x4_40))) X.1 hP (by omega) sM_doneAll rfl (vin c_69) dX11_come_266 ?_
            refine lv_dup_x2 hx hb dX11_come_267 rfl rfl rfl ?_
            refine lv_iconst (v := 1) hx hb dX11_come_268 (by decide) ?_
            refine lv_iadd hx hb dX11_come_269 ?_
            obtain ⟨c_70, h⟩ := og h
            refine r_iast (k := (Int32.toNatClampNeg (x4_40))) X.1 X.2.2.2.1 hP hS (by omega) sM_doneAll rfl (vin c_70) dX11_come_270 (fun H locs hP hS => ?_)
            refine lv_if_le (tgt := 277) hx hb dX11_come_271 (by decide) (fun c_71 => ?_) (fun c_71 => ?_)
            · rw [if_pos c_71] at h
              refine lv_aload_n hx hb dX11_come_277 rfl (lv_at hl 0 rfl) ?_
              refine G_X11_61 X.1 hn hP dX11_come_278 ?_
              refine lv_iload hx hb dX11_come_281 (lv_at hl 4 rfl) ?_
              refine lv_iload_n hx hb dX11_come_283 rfl (lv_at hl 2 rfl) ?_
              obtain ⟨c_72, h⟩ := og h
              refine r_iast (k := (Int32.toNatClampNeg (x4_40))) X.1 X.2.2.2.1 hP hS (by omega) sM_doneHour rfl (vin c_72) dX11_come_284 (fun H locs hP hS => ?_)
              refine lv_aload_n hx hb dX11_come_285 rfl (lv_at hl 0 rfl) ?_
              refine G_X11_64 X.1 hn hP dX11_come_286 ?_
              refine lv_iload hx hb dX11_come_289 (lv_at hl 4 rfl) ?_
              refine lv_iload_n hx hb dX11_come_291 rfl (lv_at hl 1 rfl) ?_
              obtain ⟨c_73, h⟩ := og h
              refine r_iast (k := (Int32.toNatClampNeg (x4_40))) X.1 X.2.2.2.1 hP hS (by omega) sM_doneWho rfl (vin c_73) dX11_come_292 (fun H locs hP hS => ?_)
              refine lv_iinc (v := (x4_40 + 1)) (lv' := [(4, .int ((x4_40 + 1))), (0, .ref (φ 0)), (1, .int (x1_37)), (2, .int (x2_38)), (3, .int (x3_39)), (5, .int (x5_62)), (6, .int (x6_63))]) hx hb dX11_come_293 hl (k := 4) rfl (by rw [show Int32.ofInt (1) = 1 from by decide]) (by decide) rfl (fun ls hl => ?_)
              refine lv_goto (tgt := 136) hx hb dX11_come_296 (by decide) ?_
              exact ih _ _ _ _ _ _ _ _ _ hP hS (lv_sub hl [1, 2, 3, 4, 0] rfl) hk299 h
            · rw [if_neg c_71] at h
              refine lv_goto (tgt := 293) hx hb dX11_come_274 (by decide) ?_
              refine lv_iinc (v := (x4_40 + 1)) (lv' := [(4, .int ((x4_40 + 1))), (0, .ref (φ 0)), (1, .int (x1_37)), (2, .int (x2_38)), (3, .int (x3_39)), (5, .int (x5_62)), (6, .int (x6_63))]) hx hb dX11_come_293 hl (k := 4) rfl (by rw [show Int32.ofInt (1) = 1 from by decide]) (by decide) rfl (fun ls hl => ?_)
              refine lv_goto (tgt := 136) hx hb dX11_come_296 (by decide) ?_
              exact ih _ _ _ _ _ _ _ _ _ hP hS (lv_sub hl [1, 2, 3, 4, 0] rfl) hk299 h
          · rw [if_pos c_66] at h
            refine lv_goto (tgt := 293) hx hb dX11_come_241 (by decide) ?_
            refine lv_iinc (v := (x4_40 + 1)) (lv' := [(4, .int ((x4_40 + 1))), (0, .ref (φ 0)), (1, .int (x1_37)), (2, .int (x2_38)), (3, .int (x3_39)), (5, .int (x5_62)), (6, .int (x6_63))]) hx hb dX11_come_293 hl (k := 4) rfl (by rw [show Int32.ofInt (1) = 1 from by decide]) (by decide) rfl (fun ls hl => ?_)
            refine lv_goto (tgt := 136) hx hb dX11_come_296 (by decide) ?_
            exact ih _ _ _ _ _ _ _ _ _ hP hS (lv_sub hl [1, 2, 3, 4, 0] rfl) hk299 h
  have L302 : ∀ (fu_81 : Nat) (M_80 : Mem) (x1_76 : Int32) (x2_77 : Int32) (x3_78 : Int32) (x4_79 : Int32)  (H : Heap) (locs : List Loc) (ls : Array Slot), va_P G.1 vwCl (wW (cM G φ L) φ M_80 n) H → va_S (wA φ n s.heap.size) s.heap H locs → lv_has ls 8 [(0, .ref (φ 0)), (1, .int (x1_76)), (2, .int (x2_77)), (3, .int (x3_78)), (4, .int (x4_79))] → f_X11_come_302 x1_76 x2_77 x3_78 fu_81 x4_79 M_80 = some r → W p l e ({ frames := 2, cells := 0, slots := 0, locals := 43 } : Room) s m args below meth c H locs 0 0 (MQ below (QQ (none) (WB (cM G φ L) φ (r) n G) (wA φ n s.heap.size)) args s 0 0 (wA φ n s.heap.size)) (F0 m 302 ls []) := by
    intro fu_81
    induction fu_81 with
    | zero =>
      intro M_80 x1_76 x2_77 x3_78 x4_79 H locs ls _ _ _  h
      have h : (none : Option (Mem)) = some r := h
      cases h
    | succ fu_81 ih =>
      intro M_80 x1_76 x2_77 x3_78 x4_79 H locs ls hP hS hl  h
      rw [f_X11_come_302] at h
      refine lv_iload hx hb dX11_come_302 (lv_at hl 4 rfl) ?_
      refine lv_aload_n hx hb dX11_come_304 rfl (lv_at hl 0 rfl) ?_
      refine G_X11_131 X.1 hn hP dX11_come_305 ?_
      refine lv_icmp_ge (tgt := 370) hx hb dX11_come_308 (by decide) (fun c_82 => ?_) (fun c_82 => ?_)
      · rw [if_pos c_82] at h
        obtain rfl := Option.some.inj h
        exact W.vret hx hb hr (r_end X hP hS) hS.2.2 dX11_come_370 (hlocks := hlk)
      · rw [if_neg c_82] at h
        refine lv_iload_n hx hb dX11_come_311 rfl (lv_at hl 3 rfl) ?_
        refine lv_iload hx hb dX11_come_312 (lv_at hl 4 rfl) ?_
        refine lv_ishr hx hb dX11_come_314 ?_
        refine lv_iconst (v := 1) hx hb dX11_come_315 (by decide) ?_
        refine lv_iand hx hb dX11_come_316 ?_
        refine lv_iconst (v := 1) hx hb dX11_come_317 (by decide) ?_
        refine lv_icmp_ne (tgt := 364) hx hb dX11_come_318 (by decide) (fun c_83 => ?_) (fun c_83 => ?_)
        · rw [if_neg c_83] at h
          refine lv_iinc (v := (x4_79 + 1)) (lv' := [(4, .int ((x4_79 + 1))), (0, .ref (φ 0)), (1, .int (x1_76)), (2, .int (x2_77)), (3, .int (x3_78))]) hx hb dX11_come_364 hl (k := 4) rfl (by rw [show Int32.ofInt (1) = 1 from by decide]) (by decide) rfl (fun ls hl => ?_)
          refine lv_goto (tgt := 302) hx hb dX11_come_367 (by decide) ?_
          exact ih _ _ _ _ _ _ _ _ hP hS (lv_sub hl [1, 2, 3, 4, 0] rfl)  h
        · rw [if_pos c_83] at h
          refine lv_aload_n hx hb dX11_come_321 rfl (lv_at hl 0 rfl) ?_
          refine lv_iconst (v := 1) hx hb dX11_come_322 (by decide) ?_
          refine lv_aload_n hx hb dX11_come_323 rfl (lv_at hl 0 rfl) ?_
          refine lv_iload hx hb dX11_come_324 (lv_at hl 4 rfl) ?_
          obtain ⟨r_84, hr_84, h⟩ := ob h
          refine c_V0 (As := [.int (x4_79)]) (rest := [.int (1), .ref (φ 0)]) (a := 0) X hl.1 (c_X11_asks l X.2.2.2.1.1 hn hr_84) (w_X11_147) qw_1185 qw_48 ⟨Nat.le_of_ble_eq_true rfl, Nat.le_of_ble_eq_true rfl⟩ rfl rfl hP hS (by omega) sM_Model rfl rfl (Nat.le_of_ble_eq_true rfl) dX11_come_326 (fun H locs hP hS => ?_)
          refine lv_aload_n hx hb dX11_come_329 rfl (lv_at hl 0 rfl) ?_
          refine lv_iload hx hb dX11_come_330 (lv_at hl 4 rfl) ?_
          obtain ⟨r_85, hr_85, h⟩ := ob h
          refine c_V0 (As := [.int (x4_79)]) (rest := [.int (r_84), .int (1), .ref (φ 0)]) (a := 0) X hl.1 (c_X11_tells l X.2.2.2.1.1 hn hr_85) (w_X11_150) qw_1189 qw_49 ⟨Nat.le_of_ble_eq_true rfl, Nat.le_of_ble_eq_true rfl⟩ rfl rfl hP hS (by omega) sM_Model rfl rfl (Nat.le_of_ble_eq_true rfl) dX11_come_332 (fun H locs hP hS => ?_)
          refine lv_iload_n hx hb dX11_come_335 rfl (lv_at hl 2 rfl) ?_
          refine lv_iload_n hx hb dX11_come_336 rfl (lv_at hl 1 rfl) ?_
          refine lv_aload_n hx hb dX11_come_337 rfl (lv_at hl 0 rfl) ?_
          refine G_X11_19 X.1 hn hP dX11_come_338 ?_
          refine lv_iload_n hx hb dX11_come_341 rfl (lv_at hl 1 rfl) ?_
          obtain ⟨c_86, h⟩ := og h
          refine r_iald (k := (Int32.toNatClampNeg (x1_76))) X.1 hP (by omega) sM_temper rfl (vin c_86) dX11_come_342 ?_
          refine lv_aload_n hx hb dX11_come_343 rfl (lv_at hl 0 rfl) ?_
          refine G_X11_28 X.1 hn hP dX11_come_344 ?_
          refine lv_iload hx hb dX11_come_347 (lv_at hl 4 rfl) ?_
          obtain ⟨c_87, h⟩ := og h
          refine r_iald (k := (Int32.toNatClampNeg (x4_79))) X.1 hP (by omega) sM_thing rfl (vin c_87) dX11_come_349 ?_
          obtain ⟨r_88, hr_88, h⟩ := ob h
          refine c_V0 (As := [.int (1), .int (r_84), .int (r_85), .int (x2_77), .int (x1_76), .int ((M_80 4 (Int32.toNatClampNeg (x1_76)))), .int ((M_80 7 (Int32.toNatClampNeg (x4_79))))]) (rest := []) (a := 0) X hl.1 (c_X11_worth l X.2.2.2.1.1 hn hr_88) (w_X11_260) qw_1223 qw_55 ⟨Nat.le_of_ble_eq_true rfl, Nat.le_of_ble_eq_true rfl⟩ rfl rfl hP hS (by omega) sM_Model rfl rfl (Nat.le_of_ble_eq_true rfl) dX11_come_350 (fun H locs hP hS => ?_)
          refine lv_if_eq (tgt := 364) hx hb dX11_come_353 (by decide) (fun c_89 => ?_) (fun c_89 => ?_)
          · rw [if_pos c_89] at h
            refine lv_iinc (v := (x4_79 + 1)) (lv' := [(4, .int ((x4_79 + 1))), (0, .ref (φ 0)), (1, .int (x1_76)), (2, .int (x2_77)), (3, .int (x3_78))]) hx hb dX11_come_364 hl (k := 4) rfl (by rw [show Int32.ofInt (1) = 1 from by decide]) (by decide) rfl (fun ls hl => ?_)
            refine lv_goto (tgt := 302) hx hb dX11_come_367 (by decide) ?_
            exact ih _ _ _ _ _ _ _ _ hP hS (lv_sub hl [1, 2, 3, 4, 0] rfl)  h
          · rw [if_neg c_89] at h
            refine lv_aload_n hx hb dX11_come_356 rfl (lv_at hl 0 rfl) ?_
            refine G_X11_67 X.1 hn hP dX11_come_357 ?_
            refine lv_iload hx hb dX11_come_360 (lv_at hl 4 rfl) ?_
            refine lv_iload_n hx hb dX11_come_362 rfl (lv_at hl 2 rfl) ?_
            obtain ⟨c_90, h⟩ := og h
            refine r_iast (k := (Int32.toNatClampNeg (x4_79))) X.1 X.2.2.2.1 hP hS (by omega) sM_takenAt rfl (vin c_90) dX11_come_363 (fun H locs hP hS => ?_)
            refine lv_iinc (v := (x4_79 + 1)) (lv' := [(4, .int ((x4_79 + 1))), (0, .ref (φ 0)), (1, .int (x1_76)), (2, .int (x2_77)), (3, .int (x3_78))]) hx hb dX11_come_364 hl (k := 4) rfl (by rw [show Int32.ofInt (1) = 1 from by decide]) (by decide) rfl (fun ls hl => ?_)
            refine lv_goto (tgt := 302) hx hb dX11_come_367 (by decide) ?_
            exact ih _ _ _ _ _ _ _ _ hP hS (lv_sub hl [1, 2, 3, 4, 0] rfl)  h
  refine lv_iconst (v := 0) hx hb dX11_come_0 (by decide) ?_
  refine lv_istore_n (lv' := [(3, .int (0)), (0, .ref (φ 0)), (1, .int (a1)), (2, .int (a2))]) hx hb dX11_come_1 rfl hl (by decide) rfl (fun ls hl => ?_)
  refine lv_iconst (v := 0) hx hb dX11_come_2 (by decide) ?_
  refine lv_istore (lv' := [(4, .int (0)), (3, .int (0)), (0, .ref (φ 0)), (1, .int (a1)), (2, .int (a2))]) hx hb dX11_come_3 hl (by decide) rfl (fun ls hl => ?_)
  refine L5 _ _ _ _ _ _ _ _ _ _ _ hP hS (lv_sub hl [2, 3, 4, 1, 0] rfl) (fun x3_35 M_36 H locs ls hP hS hl h => ?_) (fun x3_91 M_92 H locs ls hP hS hl h => ?_) h
  · try dsimp only at h
    refine lv_iconst (v := 0) hx hb dX11_come_133 (by decide) ?_
    refine lv_istore (lv' := [(4, .int (0)), (0, .ref (φ 0)), (1, .int (a1)), (2, .int (a2)), (3, .int (x3_35))]) hx hb dX11_come_134 hl (by decide) rfl (fun ls hl => ?_)
    refine L136 _ _ _ _ _ _ _ _ _ _ hP hS (lv_sub hl [1, 2, 3, 4, 0] rfl) (fun M_75 H locs ls hP hS hl h => ?_) h
    · try dsimp only at h
      refine lv_iconst (v := 0) hx hb dX11_come_299 (by decide) ?_
      refine lv_istore (lv' := [(4, .int (0)), (0, .ref (φ 0)), (1, .int (a1)), (2, .int (a2)), (3, .int (x3_35))]) hx hb dX11_come_300 hl (by decide) rfl (fun ls hl => ?_)
      refine L302 _ _ _ _ _ _ _ _ _ hP hS (lv_sub hl [1, 2, 3, 4, 0] rfl)  h
  · try dsimp only at h
    refine lv_goto (tgt := 133) hx hb dX11_come_88 (by decide) ?_
    refine lv_iconst (v := 0) hx hb dX11_come_133 (by decide) ?_
    refine lv_istore (lv' := [(4, .int (0)), (0, .ref (φ 0)), (1, .int (a1)), (2, .int (a2)), (3, .int (x3_91))]) hx hb dX11_come_134 hl (by decide) rfl (fun ls hl => ?_)
    refine L136 _ _ _ _ _ _ _ _ _ _ hP hS (lv_sub hl [1, 2, 3, 4, 0] rfl) (fun M_93 H locs ls hP hS hl h => ?_) h
    · try dsimp only at h
      refine lv_iconst (v := 0) hx hb dX11_come_299 (by decide) ?_
      refine lv_istore (lv' := [(4, .int (0)), (0, .ref (φ 0)), (1, .int (a1)), (2, .int (a2)), (3, .int (x3_91))]) hx hb dX11_come_300 hl (by decide) rfl (fun ls hl => ?_)
      refine L302 _ _ _ _ _ _ _ _ _ hP hS (lv_sub hl [1, 2, 3, 4, 0] rfl)  h

