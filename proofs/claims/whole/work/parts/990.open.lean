section LOPEN
variable {p : Program} {l : Launch} {e : Env} {R : Room} {s : State} {m : MethodId} {args : Array Value} {below : List Frame} {meth : Method} {c : Code} {H : Heap} {locs : List Loc} {cells slots : Nat} {Q : State → Prop}
variable {cc : ByteArray} {pc : Nat} {ls : Array Slot} {rest : List Value} {A : Nat → Prop} {G : GT} {own : String} {ws : va_W}
/-- a law's constructor: from one blank cell to a whole world -/
def KL (l : Launch) (y : MethodName) (b : ByteArray) (nL : Nat) (rm : Room) (a : Nat) (e0 : va_E) (sh : (Nat → Nat) → ShT) (M : Mem) (n : Nat) (G : GT) : Prop :=
  ∀ sz, Met l y (wm y b nL none) rm (va_Pc [.ref a] (fun U => U.heap.size = sz ∧ va_P G.1 vwCl [(a, e0)] U.heap ∧ KT G U ∧ va_D (fun _ => True) [(a, e0)] ∧ RO G (va_A [(a, e0)] sz) U U.heap ∧ RO3 U)) (va_Qv (fun (φ : Nat → Nat) => φ 0 = a) (fun φ t => va_P G.1 vwCl (wW (sh φ) φ M n) t.heap ∧ KT G t ∧ wD φ n (va_A [(a, e0)] sz)) (va_A [(a, e0)] sz)) rm.cells rm.slots (va_A [(a, e0)] sz)
theorem l_ctor {y : MethodName} {b : ByteArray} {nL nLc index a n : Nat} {rm : Room} {e0 : va_E} {sh : (Nat → Nat) → ShT} {M : Mem} (E : En p s m args c cc own G) (hml : c.maxLocals = nLc) (hlz : ls.size = nLc) (hM : KL l y b nL rm a e0 sh M n G) (w : CW own index y b nL 0 none) (hy : y.name = "<init>") (wi : Cond.instanceMethod y ∈ GW) (hR : rm.frames + 1 ≤ R.frames ∧ 8 + (nL + 11) + rm.locals ≤ R.locals)
    (hP : va_P G.1 vwCl ws H) (hD : va_D A ws) (hS : va_S A s.heap H locs) (hA : ∀ q, s.heap.size ≤ q → A q) (hRO : RO G A s s.heap) (hR3 : RO3 s) (k0 : Nat) (he : ws[k0]? = some (a, e0)) (isR : List Nat) (wr : va_W) (hRs : isR.map (fun i => ws[i]?) = wr.map some) (hn : va_nd isR = true) (hdis : ∀ i ∈ isR, i ∉ [k0]) (hrm : (rest.map fun v => v.category).sum ≤ 8) (hdg : decode cc pc = .ok (.invokespecial index, 3)) (hf : cells + rm.cells ≤ R.cells ∧ slots + rm.slots ≤ R.slots)
    (kk : ∀ (u : Nat → Nat) (H1 : Heap) (locs1 : List Loc), u 0 = a → wD u n A → va_P G.1 vwCl (wr ++ wW (sh u) u M n) H1 → va_D A (wr ++ wW (sh u) u M n) → va_S A s.heap H1 locs1 → W p l e R s m args below meth c H1 locs1 (cells + rm.cells) (slots + rm.slots) Q (F0 m (pc + 3) ls rest)) : W p l e R s m args below meth c H locs cells slots Q (F0 m pc ls (.ref a :: rest)) := by
  have hPc : va_P G.1 vwCl [(a, e0)] H := hP.sub [k0] (by simp [he])
  have hDc : va_D A [(a, e0)] := hD.sub [k0] (by simp [va_nd]) (by simp [he])
  have hF : ∀ q, va_A [(a, e0)] H.size q → A q := va_free (wc := [(a, e0)]) hD hS hA [k0] (by simp [he])
  refine va_callv (va_runI (As := []) (rest := rest) (b := a) ⟨E.1, E.2.1, hml, E.2.2.1, E.2.2.2.1⟩ (hM H.size) ⟨w.B E.2.2.2.1 hR, hy, E.2.2.2.1 _ wi⟩ ⟨fun _ U g mk h => ⟨h.1, h.2.1, h.2.2.1, KT.moved (u := U) (U := U.calling g mk _) (Vm.Alike.refl U.vm) h.2.2.2.1, h.2.2.2.2.1, ⟨RO1.moved (u := U) (U := U.calling g mk _) (Vm.Alike.refl U.vm) h.2.2.2.2.2.1.1, RO2.same (u := U) rfl h.2.2.2.2.2.1.2⟩, RO3.moved (u := U) (U := U.calling g mk _) (Vm.Alike.refl U.vm) h.2.2.2.2.2.2⟩, fun U hU hW => ⟨rfl, by rw [hU], by rw [hU]; exact hPc, E.2.2.2.2.moved hW.alike, hDc.weaken (fun _ _ _ _ => trivial), by rw [hU]; exact ⟨((hRO.1.moved hW.alike).kept hS.2.1).narrow hF, hRO.2.warm hW⟩, hR3.moved hW.alike⟩⟩ rfl rfl hlz rfl (lv_room hrm) hdg hf) hS (fun q _ h => hF q h) hF (fun u t H1 locs1 ht hvm h0 hB hz1 hk1 hS1 => ?_)
  obtain ⟨hP1, -, hD1⟩ := hB
  rw [ht] at hP1
  obtain ⟨hP2, hD2⟩ := va_join (wc := [(a, e0)]) (wr := wr) (w1 := wW (sh u) u M n) hP hD [k0] isR (by simp [he]) hRs hn hdis hk1 hF hP1 hD1.va
  exact kk u H1 locs1 h0 ⟨hD1.1, fun i hi => hF _ (hD1.2 i hi)⟩ hP2 hD2 hS1
end LOPEN

set_option maxRecDepth 100000 in
set_option maxHeartbeats 4000000 in
theorem whole_open {R : Mem → Mem → Prop} (h0 : S_0 R) (h1 : S_1 R) (h2 : S_2 R) (h3 : S_3 R) (h4 : S_4 R) (h5 : S_5 R) (h6 : S_6 R) (h7 : S_7 R) (h8 : S_8 R) (h9 : S_9 R) (h10 : S_10 R) (h11 : S_11 R) (h12 : S_12 R) (h13 : S_13 R) (h14 : S_14 R) (h15 : S_15 R) (h16 : S_16 R) (h17 : S_17 R) (h18 : S_18 R) (h19 : S_19 R) (h20 : S_20 R) (h21 : S_21 R) (h22 : S_22 R) (h23 : S_23 R) (h24 : S_24 R) (h25 : S_25 R) (h26 : S_26 R) (h27 : S_27 R) (h28 : S_28 R) (h29 : S_29 R) (h30 : S_30 R) {MX1 MM1 : Mem} (iX : f_X10_initT MX0 = some MX1) (iM : f_X11_initT MM0 = some MM1) (iR : R MX1 MM1) {p : Program} {e : Env} {s : State} {m : MethodId} {below : List Frame} {meth : Method} {c : Code} (l : Launch) {b L : Nat} {xs : Nat → Int32} (hL : L ≤ 3072) (C0 : lw_At p s m meth c b L xs) : W p l e room_1 s m #[Value.ref b] below meth c s.heap [] 0 0 (lw_Z below #[Value.ref b] s) (entryFrame m ([Value.ref b] : List Value).toArray 4) := by
  obtain ⟨hx, hb, hr, hml, hown, hts, hX, hbl, hlk, hgv⟩ := C0
  obtain ⟨G, hK, hRO⟩ := so_G hts (fun c hc => flat_of_before _ hgv c hc)
  have hR3 : RO3 s := so_3 hts
  have E : En p s m #[Value.ref b] c code RL G := ⟨hx, hb, hown, fun w h => hts w (List.mem_filter.mp h).1, hK⟩
  have hA : ∀ q, s.heap.size ≤ q → (fun q : Nat => s.heap.size ≤ q) q := fun _ h => h
  have hS : va_S (fun q : Nat => s.heap.size ≤ q) s.heap s.heap [] := va_S.rf
  rw [lg_entry_eq]
  have hl : lv_has _ 4 [(0, Value.ref b)] := lv_entry [Value.ref b] (Nat.le_of_ble_eq_true rfl)
  have hP : va_P G.1 vwCl [] s.heap := fun k q h => by simp at h
  have hD : va_D (fun q : Nat => s.heap.size ≤ q) ([] : va_W) := ⟨fun i j p q h => by simp at h, fun k q h => by simp at h⟩
  refine e_new (C := RX10) (T := TX10) (N := 6) (ci := 10) (fs := [.null, .null, .null, .null, .null, .null]) E in_X10 tyX10 tyX10_ok qw_81 qw_82 qw_61 hP hD hS hA rfl (by intro j hj; match j, hj with | 0, _ => rfl | 1, _ => rfl | 2, _ => rfl | 3, _ => rfl | 4, _ => rfl | 5, _ => rfl | j + 6, h => exact absurd h (by omega)) (Nat.le_of_ble_eq_true rfl) (Nat.le_of_ble_eq_true rfl) dL_law_0 (fun q H hP hD hS => ?_)
  refine lv_dup hx hb dL_law_3 rfl ?_
  refine l_ctor (rest := [.ref q]) (rm := { frames := 162, cells := 107, slots := 4669, locals := 3322 }) E hml hl.1 (k_X10_init l q iX) w_L_9 rfl qw_84 ⟨Nat.le_of_ble_eq_true rfl, Nat.le_of_ble_eq_true rfl⟩ hP hD hS hA hRO hR3 0 rfl [] [] rfl rfl (fun _ h => absurd h List.not_mem_nil) (Nat.le_of_ble_eq_true rfl) dL_law_4 ⟨Nat.le_of_ble_eq_true rfl, Nat.le_of_ble_eq_true rfl⟩ (fun φ H locs h0 hDX hP8 hD8 hS => ?_)
  subst h0
  have hP : va_P G.1 vwCl (wW (cX G φ) φ MX1 107) H := hP8
  have hD : va_D (fun q : Nat => s.heap.size ≤ q) (wW (cX G φ) φ MX1 107) := hD8
  refine lv_astore_n (lv' := [(1, .ref (φ 0)), (0, .ref b)]) hx hb dL_law_7 rfl hl (by decide) rfl (fun ls hl => ?_)
  refine e_new (C := RX11) (T := TX11) (N := 48) (ci := 11) (fs := [.int 0, .null, .null, .null, .null, .int 0, .null, .null, .null, .null, .int 0, .null, .null, .int 0, .null, .int 0, .int 0, .null, .null, .int 0, .int 0, .int 0, .int 0, .int 0, .int 0, .null, .null, .null, .null, .null, .null, .null, .null, .null, .int 0, .int 0, .int 0, .int 0, .int 0, .null, .null, .null, .null, .null, .null, .null, .null, .null]) E in_X11 tyX11 tyX11_ok qw_919 qw_920 qw_76 hP hD hS hA rfl (by intro j hj; match j, hj with | 0, _ => rfl | 1, _ => rfl | 2, _ => rfl | 3, _ => rfl | 4, _ => rfl | 5, _ => rfl | 6, _ => rfl | 7, _ => rfl | 8, _ => rfl | 9, _ => rfl | 10, _ => rfl | 11, _ => rfl | 12, _ => rfl | 13, _ => rfl | 14, _ => rfl | 15, _ => rfl | 16, _ => rfl | 17, _ => rfl | 18, _ => rfl | 19, _ => rfl | 20, _ => rfl | 21, _ => rfl | 22, _ => rfl | 23, _ => rfl | 24, _ => rfl | 25, _ => rfl | 26, _ => rfl | 27, _ => rfl | 28, _ => rfl | 29, _ => rfl | 30, _ => rfl | 31, _ => rfl | 32, _ => rfl | 33, _ => rfl | 34, _ => rfl | 35, _ => rfl | 36, _ => rfl | 37, _ => rfl | 38, _ => rfl | 39, _ => rfl | 40, _ => rfl | 41, _ => rfl | 42, _ => rfl | 43, _ => rfl | 44, _ => rfl | 45, _ => rfl | 46, _ => rfl | 47, _ => rfl | j + 48, h => exact absurd h (by omega)) (Nat.le_of_ble_eq_true rfl) (Nat.le_of_ble_eq_true rfl) dL_law_8 (fun q H hP hD hS => ?_)
  refine lv_dup hx hb dL_law_11 rfl ?_
  refine l_ctor (rest := [.ref q]) (rm := { frames := 91, cells := 31, slots := 2838, locals := 1903 }) E hml hl.1 (k_X11_init l q iM) w_L_12 rfl qw_922 ⟨Nat.le_of_ble_eq_true rfl, Nat.le_of_ble_eq_true rfl⟩ hP hD hS hA hRO hR3 107 (wW_snoc _) (List.range 107) (wW (cX G φ) φ MX1 107) (wW_rest _) nd_107 (fun i h => by simp at h ⊢; omega) (Nat.le_of_ble_eq_true rfl) dL_law_12 ⟨Nat.le_of_ble_eq_true rfl, Nat.le_of_ble_eq_true rfl⟩ (fun ψ H locs h0 hDM hP9 hD9 hS => ?_)
  subst h0
  have hPX := va_P.left hP9
  have hPM : va_P G.1 vwCl (wW (cM G ψ (fun _ => 0)) ψ MM1 32) H := fun k q h => hP9 (107 + k) q (by
    rw [List.getElem?_append_right (by rw [wW_len]; omega), wW_len, Nat.add_sub_cancel_left]
    exact h)
  have hdis : ∀ i j, i < 107 → j < 32 → φ i ≠ ψ j := fun i j hi hj e => by
    have := hD9.1 i (107 + j) _ _ (by rw [List.getElem?_append_left (by rw [wW_len]; exact hi)]; exact wW_get hi) (by rw [List.getElem?_append_right (by rw [wW_len]; omega), wW_len, Nat.add_sub_cancel_left]; exact wW_get hj) e
    omega
  refine lv_astore_n (lv' := [(2, .ref (ψ 0)), (1, .ref (φ 0)), (0, .ref b)]) hx hb dL_law_15 rfl hl (by decide) rfl (fun ls hl => ?_)
  refine lv_iconst (v := 0) hx hb dL_law_16 (by decide) ?_
  refine lv_istore_n (lv' := [(3, .int 0), (2, .ref (ψ 0)), (1, .ref (φ 0)), (0, .ref b)]) hx hb dL_law_17 rfl hl (by decide) rfl (fun ls hl => ?_)
  exact law_loop l h0 h1 h2 h3 h4 h5 h6 h7 h8 h9 h10 h11 h12 h13 h14 h15 h16 h17 h18 h19 h20 h21 h22 h23 h24 h25 h26 h27 h28 h29 h30 hL hx hb hr hlk hX hbl ⟨E, hml, hRO, hDX, hA⟩ ⟨E, hml, hRO, hDM, hA⟩ hdis 4000 0 0 MX1 MM1 (fun _ => 0) H locs ls _ _ (by decide) (by omega) (by omega) (Nat.le_of_ble_eq_true rfl) (Nat.le_of_ble_eq_true rfl) iR hPX hPM hS (lv_sub hl [3, 2, 1, 0] rfl)
