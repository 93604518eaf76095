/-! THE CLAIM OUT OF ONE WALK OF THE LAW'S BODY. Your part is whole_start (and what it stands on); all else here is the same for every law, but numbers. -/
def R_law : String := "KitchenTableLaw"
def lw_P (b : Addr) (xs : List Int32) (args : Array Value) (s : State) : Prop := args = #[.ref b] ∧ s.IntsAt b xs ∧ xs.length ≤ 3072 ∧ (Jvm.Cond.and given_1 narrow_1).before args s = true
def lw_Q (_ : Array Value) (s : State) (o : Outcome) (t : State) : Prop := o = .returned (some (.int 1)) ∧ Framed s o t [] 600000 7302250
def lw_Z (below : List Frame) (a : Array Value) (s : State) : State → Prop := fun t => ∃ o, t.status = .running ∧ Ended t below o ∧ lw_Q a s o t
/-- the law's own end, with 1 on the stack, nothing written that was there before, its room as the claim has it -/
theorem lw_ret {p : Program} {l : Launch} {e : Env} {s : State} {m : MethodId} {below : List Frame} {meth : Method} {c : Code} {b : Nat} (hx : p.tables.exec = Jvm.exec) (hb : c.code = code) (hr : meth.sig.returnType = ret) (hlocks : meth.locks = false) {pc : Nat} {H : Heap} {ls : Array Slot} (hdg : decode code pc = .ok (.ireturn, 1)) : W p l e room_1 s m #[Value.ref b] below meth c H [] 600000 7302250 (lw_Z below #[Value.ref b] s) (F0 m pc ls [.int 1]) := by
  intro T hT X
  obtain ⟨fs, hret, hrun, hended, hW, hframe⟩ := X.leave (v := some (.int 1)) (hlocks := hlocks) (fun h => by rw [hr] at h; cases h)
  have hmeth' : T.vm.method? m = some meth := X.method'
  refine ⟨T.setFrames fs, ?_, .returned (some (.int 1)), hrun, hended, rfl, ⟨_, rfl⟩, hW, hframe⟩
  jvm_step X.here [X.here.top, hx, hb, hdg, hmeth', hr, ret, narrow_b1]
  (try refine ⟨rfl, ?_⟩); (try refine ⟨rfl, ?_⟩)
  first | (intro acts; rw [hret _ acts rfl rfl rfl]) | rw [hret _ _ rfl rfl rfl]
  exact Steps.refl _
/-- what holds at the law's entry: the machine, the code, the tables' words (any of lw_tbl by 'hts w (by decide +kernel)'), the script of L ints xs at the cell b, what the Statement gives of the start (any of its parts by flat_of_before) -/
def lw_At (p : Program) (s : State) (m : MethodId) (meth : Method) (c : Code) (b L : Nat) (xs : Nat → Int32) : Prop :=
  p.tables.exec = Jvm.exec ∧ c.code = code ∧ meth.sig.returnType = ret ∧ c.maxLocals = 4 ∧ s.vm.findClass R_law = some m.cls ∧ (∀ w ∈ lw_tbl, w.before #[Value.ref b] s = true) ∧ va_X b L xs s s.heap ∧ b < s.heap.size ∧ meth.locks = false ∧ (Jvm.Cond.and given_1 narrow_1).before #[Value.ref b] s = true

theorem lg_self (x : Int64) : lg_cmp x x = 0 := by
  unfold lg_cmp
  rw [if_neg (by simp [Int64.lt_iff_toInt_lt]), if_pos rfl]
section LCALL
variable {p : Program} {l : Launch} {e : Env} {R : Room} {s : State} {m : MethodId} {args : Array Value} {below : List Frame} {meth : Method} {c : Code} {H : Heap} {locs : List Loc} {cells slots : Nat} {Q : State → Prop}
variable {cc : ByteArray} {pc : Nat} {ls : Array Slot} {rest : List Value} {sh : ShT} {φ : Nat → Nat} {M : Mem} {n : Nat} {G : GT} {own : String}
variable {sh' : ShT} {r : Option Value} {M' : Mem} {A0 : Nat → Prop} {y : MethodName} {b : ByteArray} {nL nLc index : Nat} {ret : Option FieldType} {rm : Room} {a : Nat} {As : List Value} {sh2 : ShT} {φ2 : Nat → Nat} {M2 : Mem} {n2 : Nat}
theorem l_call (X : At p s m args c cc own G A0 φ n nLc) (hf : cells + rm.cells ≤ R.cells ∧ slots + rm.slots ≤ R.slots) (hlz : ls.size = nLc) (hM : CT l y b nL ret rm (.ref (φ a) :: As) (WB sh φ M n G) r (WB sh' φ M' n G) φ n) (w : CW own index y b nL As.length ret) (wi : Cond.instanceMethod y ∈ GW) (ws : Cond.selects y.cls y y ∈ GW) (hR : rm.frames + 1 ≤ R.frames ∧ 8 + (nL + 11) + rm.locals ≤ R.locals)
    (hP : va_P G.1 vwCl (wW sh φ M n) H) (hS : va_S A0 s.heap H locs) (hP2 : va_P G.1 vwCl (wW sh2 φ2 M2 n2) H) (hdis : ∀ i j, i < n → j < n2 → φ i ≠ φ2 j) {ci : Nat} {q : vw_C} {fs : (Nat → Int32) → List Value} (ha : a < n) (hs : ∀ r, sh a r = .inr (ci, fs r)) (hci : vwCl[ci]? = some q) (hq : q.1 = y.cls) (hrm : (rest.map fun v => v.category).sum ≤ 8) (hdg : decode cc pc = .ok (.invokevirtual index, 3))
    (kk : ∀ (H1 : Heap) (locs1 : List Loc), va_P G.1 vwCl (wW sh' φ M' n) H1 → va_P G.1 vwCl (wW sh2 φ2 M2 n2) H1 → va_S A0 s.heap H1 locs1 → W p l e R s m args below meth c H1 locs1 (cells + rm.cells) (slots + rm.slots) Q (F0 m (pc + 3) ls (r.toList ++ rest))) : W p l e R s m args below meth c H locs cells slots Q (F0 m pc ls (As.reverse ++ .ref (φ a) :: rest)) := by
  have hB := X.B hP hS
  refine r_call (va_runV (C := y.cls) (b := φ a) (As := As) (rest := rest) ⟨X.1.1, X.1.2.1, X.2.1, X.1.2.2.1, X.1.2.2.2.1⟩ (hM H.size) ⟨w.B X.1.2.2.2.1 hR, X.1.2.2.2.1 _ wi, X.1.2.2.2.1 _ ws⟩ ⟨fun _ U g mk h => ⟨h.1, h.2.1, h.2.2.blind U g mk _⟩, ?_, fun U hU hW => ⟨rfl, by rw [hU], hB U hU hW⟩⟩ rfl rfl hlz rfl (lv_room hrm) hdg hf) hS (X.fr hS) (fun H1 locs1 h1 _ hk h4 => kk H1 locs1 h1 (hP2.kept (fun k q hq => ?_)) h4)
  · have h0 := va_recv (q := q) (fs := fs (M a)) X.1.2.2.2.2 hP hci (q0 := a) (a := φ a) (by rw [wW_get ha, hs])
    rw [hq] at h0
    exact h0
  · have hlt := (hP2 k q hq).lt
    obtain ⟨h1, rfl⟩ := wW_some hq
    refine hk _ hlt (fun hz => ?_)
    rcases hz with ⟨i, hi, e⟩ | hz
    · exact hdis i k hi h1 e.symm
    · exact Nat.lt_irrefl _ (Nat.lt_of_lt_of_le hlt hz)
end LCALL

def S_0 (R : Mem → Mem → Prop) : Prop := ∀ (MX MM : Mem) (a1 : Int32) (a2 : Int32) (a3 : Int32), R MX MM → ∃ rX rM, f_X10_person MX a1 a2 a3 = some rX ∧ f_X11_person MM a1 a2 a3 = some rM ∧ rX.1 = rM.1 ∧ R rX.2 rM.2
def S_1 (R : Mem → Mem → Prop) : Prop := ∀ (MX MM : Mem) (a1 : Int32) (a2 : Int32) (a3 : Int32), R MX MM → ∃ rX rM, f_X10_note MX a1 a2 a3 = some rX ∧ f_X11_note MM a1 a2 a3 = some rM ∧ rX.1 = rM.1 ∧ R rX.2 rM.2
def S_2 (R : Mem → Mem → Prop) : Prop := ∀ (MX MM : Mem) (a1 : Int32) (a2 : Int32) (a3 : Int32), R MX MM → ∃ rX rM, f_X10_set MX a1 a2 a3 = some rX ∧ f_X11_set MM a1 a2 a3 = some rM ∧ rX.1 = rM.1 ∧ R rX.2 rM.2
def S_3 (R : Mem → Mem → Prop) : Prop := ∀ (MX MM : Mem) (a1 : Int32) (a2 : Int32), R MX MM → ∃ rX rM, f_X10_told MX a1 a2 = some rX ∧ f_X11_told MM a1 a2 = some rM ∧ rX = rM ∧ R MX MM
def S_4 (R : Mem → Mem → Prop) : Prop := ∀ (MX MM : Mem) (a1 : Int32), R MX MM → ∃ rX rM, f_X10_feed MX a1 = some rX ∧ f_X11_feed MM a1 = some rM ∧ rX.1 = rM.1 ∧ R rX.2 rM.2
def S_5 (R : Mem → Mem → Prop) : Prop := ∀ (MX MM : Mem), R MX MM → ∃ rX rM, f_X10_text MX = some rX ∧ f_X11_text MM = some rM ∧ rX.1 = rM.1 ∧ R rX.2 rM.2
def S_6 (R : Mem → Mem → Prop) : Prop := ∀ (MX MM : Mem) (a1 : Int32), R MX MM → ∃ rX rM, f_X10_force MX a1 = rX ∧ f_X11_force MM a1 = rM ∧ rX.1 = rM.1 ∧ R rX.2 rM.2
def S_7 (R : Mem → Mem → Prop) : Prop := ∀ (MX MM : Mem) (a1 : Int32), R MX MM → ∃ rX rM, f_X10_lies MX a1 = some rX ∧ f_X11_lies MM a1 = some rM ∧ rX.1 = rM.1 ∧ R rX.2 rM.2
def S_8 (R : Mem → Mem → Prop) : Prop := ∀ (MX MM : Mem) (a1 : Int32), R MX MM → ∃ rX rM, f_X10_top MX a1 = some rX ∧ f_X11_top MM a1 = some rM ∧ rX.1 = rM.1 ∧ R rX.2 rM.2
def S_9 (R : Mem → Mem → Prop) : Prop := ∀ (MX MM : Mem) (a1 : Int32) (a2 : Int32), R MX MM → ∃ rX rM, f_X10_read MX a1 a2 = some rX ∧ f_X11_read MM a1 a2 = some rM ∧ rX.1 = rM.1 ∧ R rX.2 rM.2
def S_10 (R : Mem → Mem → Prop) : Prop := ∀ (MX MM : Mem) (a1 : Int32) (a2 : Int32), R MX MM → ∃ rX rM, f_X10_knew MX a1 a2 = some rX ∧ f_X11_knew MM a1 a2 = some rM ∧ rX.1 = rM.1 ∧ R rX.2 rM.2
def S_11 (R : Mem → Mem → Prop) : Prop := ∀ (MX MM : Mem) (a1 : Int32) (a2 : Int32), R MX MM → ∃ rX rM, f_X10_done MX a1 a2 = some rX ∧ f_X11_done MM a1 a2 = some rM ∧ rX.1 = rM.1 ∧ R rX.2 rM.2
def S_12 (R : Mem → Mem → Prop) : Prop := ∀ (MX MM : Mem) (a1 : Int32) (a2 : Int32), R MX MM → ∃ rX rM, f_X10_when MX a1 a2 = some rX ∧ f_X11_when MM a1 a2 = some rM ∧ rX.1 = rM.1 ∧ R rX.2 rM.2
def S_13 (R : Mem → Mem → Prop) : Prop := ∀ (MX MM : Mem) (a1 : Int32), R MX MM → ∃ rX rM, f_X10_things MX a1 = some rX ∧ f_X11_things MM a1 = some rM ∧ rX.1 = rM.1 ∧ R rX.2 rM.2
def S_14 (R : Mem → Mem → Prop) : Prop := ∀ (MX MM : Mem), R MX MM → ∃ rX rM, f_X10_harm MX = some rX ∧ f_X11_harm MM = some rM ∧ rX.1 = rM.1 ∧ R rX.2 rM.2
def S_15 (R : Mem → Mem → Prop) : Prop := ∀ (MX MM : Mem) (a1 : Int32), R MX MM → ∃ rX rM, f_X10_helps MX a1 = some rX ∧ f_X11_helps MM a1 = some rM ∧ rX.1 = rM.1 ∧ R rX.2 rM.2
def S_16 (R : Mem → Mem → Prop) : Prop := ∀ (MX MM : Mem) (a1 : Int32), R MX MM → ∃ rX rM, f_X10_once MX a1 = some rX ∧ f_X11_once MM a1 = some rM ∧ rX.1 = rM.1 ∧ R rX.2 rM.2
def S_17 (R : Mem → Mem → Prop) : Prop := ∀ (MX MM : Mem) (a1 : Int32) (a2 : Int32), R MX MM → ∃ rX rM, f_X10_whose MX a1 a2 = some rX ∧ f_X11_whose MM a1 a2 = some rM ∧ rX.1 = rM.1 ∧ R rX.2 rM.2
def S_18 (R : Mem → Mem → Prop) : Prop := ∀ (MX MM : Mem) (a1 : Int32) (a2 : Int32), R MX MM → ∃ rX rM, f_X10_mark MX a1 a2 = some rX ∧ f_X11_mark MM a1 a2 = some rM ∧ rX.1 = rM.1 ∧ R rX.2 rM.2
def S_19 (R : Mem → Mem → Prop) : Prop := ∀ (MX MM : Mem) (Lw : Nat → Int64), R MX MM → ∃ rX rM, f_X10_orders MX = some rX ∧ f_X11_orders MM Lw = some rM ∧ rX.1 = rM.1 ∧ R rX.2 rM.2.1
def S_20 (R : Mem → Mem → Prop) : Prop := ∀ (MX MM : Mem) (Lw : Nat → Int64) (a1 : Int32) (a2 : Int32) (a3 : Int32), R MX MM → ∃ rX rM, f_X10_odds MX a1 a2 a3 = some rX ∧ f_X11_odds MM Lw a1 a2 a3 = some rM ∧ rX.1 = rM.1 ∧ R rX.2 rM.2.1
def S_21 (R : Mem → Mem → Prop) : Prop := ∀ (MX MM : Mem) (Lw : Nat → Int64) (a1 : Int32) (a2 : Int32), R MX MM → ∃ rX rM, f_X10_place MX a1 a2 = some rX ∧ f_X11_place MM Lw a1 a2 = some rM ∧ rX.1 = rM.1 ∧ R rX.2 rM.2.1
def S_22 (R : Mem → Mem → Prop) : Prop := ∀ (MX MM : Mem) (a1 : Int32), R MX MM → ∃ rX rM, f_X10_came MX a1 = some rX ∧ f_X11_came MM a1 = some rM ∧ rX = rM ∧ R MX MM
def S_23 (R : Mem → Mem → Prop) : Prop := ∀ (MX MM : Mem), R MX MM → ∃ rX rM, f_X10_image MX = some rX ∧ f_X11_image MM = some rM ∧ rX.1 = rM.1 ∧ R rX.2 rM.2
def S_24 (R : Mem → Mem → Prop) : Prop := ∀ (MX MM : Mem), R MX MM → ∃ rX rM, f_X10_back MX = some rX ∧ f_X11_back MM = some rM ∧ rX.1 = rM.1 ∧ R rX.2 rM.2
def S_25 (R : Mem → Mem → Prop) : Prop := ∀ (MX MM : Mem) (a1 : Int32), R MX MM → ∃ rX rM, f_X10_count MX a1 = some rX ∧ f_X11_count MM a1 = some rM ∧ rX = rM ∧ R MX MM
def S_26 (R : Mem → Mem → Prop) : Prop := ∀ (MX MM : Mem) (a1 : Int32) (a2 : Int32) (a3 : Int32), R MX MM → ∃ rX rM, f_X10_sheet MX a1 a2 a3 = some rX ∧ f_X11_sheet MM a1 a2 a3 = some rM ∧ rX.1 = rM.1 ∧ R rX.2 rM.2
def S_27 (R : Mem → Mem → Prop) : Prop := ∀ (MX MM : Mem) (a1 : Int32) (a2 : Int32) (a3 : Int32), R MX MM → ∃ rX rM, f_X10_cell MX a1 a2 a3 = some rX ∧ f_X11_cell MM a1 a2 a3 = some rM ∧ rX.1 = rM.1 ∧ R rX.2 rM.2
def S_28 (R : Mem → Mem → Prop) : Prop := ∀ (MX MM : Mem) (a1 : Int32) (a2 : Int32) (a3 : Int32) (a4 : Int32) (a5 : Int32), R MX MM → ∃ rX rM, f_X10_copy MX a1 a2 a3 a4 a5 = some rX ∧ f_X11_copy MM a1 a2 a3 a4 a5 = some rM ∧ rX.1 = rM.1 ∧ R rX.2 rM.2
def S_29 (R : Mem → Mem → Prop) : Prop := ∀ (MX MM : Mem) (a1 : Int32) (a2 : Int32) (a3 : Int32) (a4 : Int32), R MX MM → ∃ rX rM, f_X10_notes MX a1 a2 a3 a4 = some rX ∧ f_X11_notes MM a1 a2 a3 a4 = some rM ∧ rX.1 = rM.1 ∧ R rX.2 rM.2
def S_30 (R : Mem → Mem → Prop) : Prop := ∀ (MX MM : Mem) (a1 : Int32) (a2 : Int32), R MX MM → ∃ rX rM, f_X10_taken MX a1 a2 = some rX ∧ f_X11_taken MM a1 a2 = some rM ∧ rX = rM ∧ R MX MM
theorem law_sub {L : Nat} (hL : L ≤ 3072) : (Int32.ofNat L - 6).toInt = (L : Int) - 6 := by
  have h1 : (Int32.ofNat L).toInt = (L : Int) := nI_toInt (n := L) (by omega)
  rw [Int32.toInt_sub, h1, show (6 : Int32).toInt = 6 from by decide]
  rw [Int.bmod_eq_of_le] <;> omega
theorem law_gt {L i : Nat} {x3 : Int32} (hL : L ≤ 3072) (ex3 : x3 = nI i) (h : L < i + 6 ∧ i < 4000) : Int32.ofNat L - 6 < x3 := by
  rw [Int32.lt_iff_toInt_lt, law_sub hL, ex3, nI_toInt (by omega)]
  omega
theorem law_ngt {L i : Nat} {x3 : Int32} (hL : L ≤ 3072) (ex3 : x3 = nI i) (h : i + 6 ≤ L) : ¬ Int32.ofNat L - 6 < x3 := by
  rw [Int32.lt_iff_toInt_lt, law_sub hL, ex3, nI_toInt (by omega)]
  omega
theorem law_in {L i k : Nat} {x3 kI : Int32} (hL : L ≤ 3072) (ex3 : x3 = nI i) (h : i + 6 ≤ L) (hk : k < 6) (ek : kI = nI k) : vp_in (x3 + kI) L := by
  rw [ex3, ek, nI_add]
  exact vp_in_nI (by omega) (by omega)
theorem law_sw {sw : Int32} (c : ¬ (sw.toInt < 0 ∨ 30 < sw.toInt)) (e0 : ¬ sw = 0) (e1 : ¬ sw = 1) (e2 : ¬ sw = 2) (e3 : ¬ sw = 3) (e4 : ¬ sw = 4) (e5 : ¬ sw = 5) (e6 : ¬ sw = 6) (e7 : ¬ sw = 7) (e8 : ¬ sw = 8) (e9 : ¬ sw = 9) (e10 : ¬ sw = 10) (e11 : ¬ sw = 11) (e12 : ¬ sw = 12) (e13 : ¬ sw = 13) (e14 : ¬ sw = 14) (e15 : ¬ sw = 15) (e16 : ¬ sw = 16) (e17 : ¬ sw = 17) (e18 : ¬ sw = 18) (e19 : ¬ sw = 19) (e20 : ¬ sw = 20) (e21 : ¬ sw = 21) (e22 : ¬ sw = 22) (e23 : ¬ sw = 23) (e24 : ¬ sw = 24) (e25 : ¬ sw = 25) (e26 : ¬ sw = 26) (e27 : ¬ sw = 27) (e28 : ¬ sw = 28) (e29 : ¬ sw = 29) (e30 : ¬ sw = 30) : False := by
  have h0 : 0 ≤ sw.toInt := by omega
  have h1 : sw.toInt ≤ 30 := by omega
  obtain ⟨k, hk⟩ : ∃ k : Nat, sw.toInt = k := ⟨sw.toInt.toNat, by omega⟩
  have hs : sw = nI k := by
    apply Int32.toInt_inj.mp
    rw [nI_toInt (by omega)]
    exact hk
  have hk2 : k < 31 := by omega
  subst hs
  match k, hk2 with
  | 0, _ => exact e0 (by decide)
  | 1, _ => exact e1 (by decide)
  | 2, _ => exact e2 (by decide)
  | 3, _ => exact e3 (by decide)
  | 4, _ => exact e4 (by decide)
  | 5, _ => exact e5 (by decide)
  | 6, _ => exact e6 (by decide)
  | 7, _ => exact e7 (by decide)
  | 8, _ => exact e8 (by decide)
  | 9, _ => exact e9 (by decide)
  | 10, _ => exact e10 (by decide)
  | 11, _ => exact e11 (by decide)
  | 12, _ => exact e12 (by decide)
  | 13, _ => exact e13 (by decide)
  | 14, _ => exact e14 (by decide)
  | 15, _ => exact e15 (by decide)
  | 16, _ => exact e16 (by decide)
  | 17, _ => exact e17 (by decide)
  | 18, _ => exact e18 (by decide)
  | 19, _ => exact e19 (by decide)
  | 20, _ => exact e20 (by decide)
  | 21, _ => exact e21 (by decide)
  | 22, _ => exact e22 (by decide)
  | 23, _ => exact e23 (by decide)
  | 24, _ => exact e24 (by decide)
  | 25, _ => exact e25 (by decide)
  | 26, _ => exact e26 (by decide)
  | 27, _ => exact e27 (by decide)
  | 28, _ => exact e28 (by decide)
  | 29, _ => exact e29 (by decide)
  | 30, _ => exact e30 (by decide)
  | k + 31, h => exact absurd h (by omega)

set_option maxRecDepth 100000 in
set_option maxHeartbeats 40000000 in
theorem law_loop (l : Launch) {p : Program} {e : Env} {s : State} {m : MethodId} {below : List Frame} {meth : Method} {c : Code} {b L : Nat} {xs : Nat → Int32} {G : GT} {φ ψ : Nat → Nat} {R : Mem → Mem → Prop} (h0 : S_0 R) (h1 : S_1 R) (h2 : S_2 R) (h3 : S_3 R) (h4 : S_4 R) (h5 : S_5 R) (h6 : S_6 R) (h7 : S_7 R) (h8 : S_8 R) (h9 : S_9 R) (h10 : S_10 R) (h11 : S_11 R) (h12 : S_12 R) (h13 : S_13 R) (h14 : S_14 R) (h15 : S_15 R) (h16 : S_16 R) (h17 : S_17 R) (h18 : S_18 R) (h19 : S_19 R) (h20 : S_20 R) (h21 : S_21 R) (h22 : S_22 R) (h23 : S_23 R) (h24 : S_24 R) (h25 : S_25 R) (h26 : S_26 R) (h27 : S_27 R) (h28 : S_28 R) (h29 : S_29 R) (h30 : S_30 R) (hL : L ≤ 3072) (hx : p.tables.exec = Jvm.exec) (hb : c.code = code) (hr : meth.sig.returnType = ret) (hlk : meth.locks = false) (hX : va_X b L xs s s.heap) (hbl : b < s.heap.size) (XX : At p s m #[Value.ref b] c code RL G (fun q => s.heap.size ≤ q) φ 107 4) (XM : At p s m #[Value.ref b] c code RL G (fun q => s.heap.size ≤ q) ψ 32 4) (hdis : ∀ i j, i < 107 → j < 32 → φ i ≠ ψ j) : ∀ (N i : Nat) (x3 : Int32) (MX MM : Mem) (Lw : Nat → Int64) (H : Heap) (locs : List Loc) (ls : Array Slot) (cells slots : Nat), x3 = nI i → L < N + i → i ≤ L + 6 → cells ≤ 200 + i → slots ≤ 8000 + i * 5 → R MX MM → va_P G.1 vwCl (wW (cX G φ) φ MX 107) H → va_P G.1 vwCl (wW (cM G ψ Lw) ψ MM 32) H → va_S (fun q => s.heap.size ≤ q) s.heap H locs → lv_has ls 4 [(0, .ref b), (1, .ref (φ 0)), (2, .ref (ψ 0)), (3, .int x3)] → W p l e room_1 s m #[Value.ref b] below meth c H locs cells slots (lw_Z below #[Value.ref b] s) (F0 m 18 ls []) := by
  have hbA : ¬ (fun q : Nat => s.heap.size ≤ q) b := Nat.not_le.mpr hbl
  have hdis2 : ∀ i j, i < 32 → j < 107 → ψ i ≠ φ j := fun i j hi hj e => hdis j i hj hi e.symm
  have hend : ∀ (H : Heap) (locs : List Loc) (ls : Array Slot) (cells slots : Nat), cells ≤ 600000 → slots ≤ 7302250 → va_S (fun q => s.heap.size ≤ q) s.heap H locs → W p l e room_1 s m #[Value.ref b] below meth c H locs cells slots (lw_Z below #[Value.ref b] s) (F0 m 1123 ls []) := by
    intro H locs ls cells slots hc hs hS
    refine lv_iconst (v := 1) hx hb dL_law_1123 (by decide) ?_
    refine va_forget (fun q hq => hS.2.2 q hq) ?_
    refine W.widen hc hs ?_
    exact lw_ret hx hb hr hlk dL_law_1124
  intro N
  induction N with
  | zero =>
    intro i x3 MX MM Lw H locs ls cells slots ex3 hN hi0 hc hs hR hPX hPM hS hl
    refine lv_iload_n hx hb dL_law_18 rfl (lv_at hl 3 rfl) ?_
    refine lv_aload_n hx hb dL_law_19 rfl (lv_at hl 0 rfl) ?_
    refine va_slen hx hb hX hbl hbA hS dL_law_20 ?_
    refine lv_bipush (v := 6) hx hb dL_law_21 (by decide) ?_
    refine lv_isub hx hb dL_law_23 ?_
    refine lv_icmp_gt (tgt := 1123) hx hb dL_law_24 (by decide) (fun _ => ?_) (fun c0 => ?_)
    · exact hend H locs ls cells slots (by omega) (by omega) hS
    · exact absurd (law_gt hL ex3 ⟨by omega, by omega⟩) c0
  | succ N ih =>
    intro i x3 MX MM Lw H locs ls cells slots ex3 hN hi0 hc hs hR hPX hPM hS hl
    refine lv_iload_n hx hb dL_law_18 rfl (lv_at hl 3 rfl) ?_
    refine lv_aload_n hx hb dL_law_19 rfl (lv_at hl 0 rfl) ?_
    refine va_slen hx hb hX hbl hbA hS dL_law_20 ?_
    refine lv_bipush (v := 6) hx hb dL_law_21 (by decide) ?_
    refine lv_isub hx hb dL_law_23 ?_
    by_cases hi : L < i + 6
    · refine lv_icmp_gt (tgt := 1123) hx hb dL_law_24 (by decide) (fun _ => ?_) (fun c0 => ?_)
      · exact hend H locs ls cells slots (by omega) (by omega) hS
      · exact absurd (law_gt hL ex3 ⟨by omega, by omega⟩) c0
    have hiL : i + 6 ≤ L := by omega
    refine lv_icmp_gt (tgt := 1123) hx hb dL_law_24 (by decide) (fun c0 => absurd c0 (law_ngt hL ex3 hiL)) (fun _ => ?_)
    have g0 : vp_in x3 L := by rw [ex3]; exact vp_in_nI (by omega) (by omega)
    have g1 : vp_in (x3 + 1) L := law_in hL ex3 hiL (k := 1) (by decide) (by decide)
    have g2 : vp_in (x3 + 2) L := law_in hL ex3 hiL (k := 2) (by decide) (by decide)
    have g3 : vp_in (x3 + 3) L := law_in hL ex3 hiL (k := 3) (by decide) (by decide)
    have g4 : vp_in (x3 + 4) L := law_in hL ex3 hiL (k := 4) (by decide) (by decide)
    have g5 : vp_in (x3 + 5) L := law_in hL ex3 hiL (k := 5) (by decide) (by decide)
    refine lv_aload_n hx hb dL_law_27 rfl (lv_at hl 0 rfl) ?_
    refine lv_iload_n hx hb dL_law_28 rfl (lv_at hl 3 rfl) ?_
    refine va_sld hx hb hX hbl hbA hS g0 dL_law_29 ?_
    refine lv_bipush (v := 31) hx hb dL_law_30 (by decide) ?_
    refine lv_iand hx hb dL_law_32 ?_
    refine lv_topi (fun sw esw => ?_)
    have hcs2 : cells + 1 ≤ 600000 := by omega
    by_cases c9 : sw.toInt < 0 ∨ 30 < sw.toInt
    · refine lv_tableOut (tgt := 1117) hx hb dL_law_33 c9 (by decide) ?_
      refine lv_iinc (v := x3 + 6) (lv' := [(3, .int (x3 + 6)), (0, .ref b), (1, .ref (φ 0)), (2, .ref (ψ 0))]) hx hb dL_law_1117 hl (k := 3) rfl (by rw [show Int32.ofInt 6 = 6 from by decide]) (by decide) rfl (fun ls hl => ?_)
      refine lv_goto (tgt := 18) hx hb dL_law_1120 (by decide) ?_
      exact ih (i + 6) (x3 + 6) MX MM Lw H locs ls cells slots (by rw [ex3, show (6 : Int32) = nI 6 from by decide, nI_add]) (by omega) (by omega) (by omega) (by omega) hR hPX hPM hS (lv_sub hl [1, 2, 3, 0] rfl)
    by_cases e0 : sw = 0
    · refine lv_tableIn (tgt := 172) (off := 139) hx hb dL_law_33 (fun q => c9 (Or.inl q)) (fun q => c9 (Or.inr q)) (by rw [e0]; rfl) (by decide) ?_
      obtain ⟨rX, rM, eX, eM, ev, hR1⟩ := h0 MX MM (xs (Int32.toNatClampNeg (x3 + 1))) (xs (Int32.toNatClampNeg (x3 + 2))) (xs (Int32.toNatClampNeg (x3 + 3))) hR
      refine lv_aload_n hx hb dL_law_172 rfl (lv_at hl 1 rfl) ?_
      refine lv_aload_n hx hb dL_law_173 rfl (lv_at hl 0 rfl) ?_
      refine lv_iload_n hx hb dL_law_174 rfl (lv_at hl 3 rfl) ?_
      refine lv_iconst (v := 1) hx hb dL_law_175 (by decide) ?_
      refine lv_iadd hx hb dL_law_176 ?_
      refine va_sld hx hb hX hbl hbA hS g1 dL_law_177 ?_
      refine lv_aload_n hx hb dL_law_178 rfl (lv_at hl 0 rfl) ?_
      refine lv_iload_n hx hb dL_law_179 rfl (lv_at hl 3 rfl) ?_
      refine lv_iconst (v := 2) hx hb dL_law_180 (by decide) ?_
      refine lv_iadd hx hb dL_law_181 ?_
      refine va_sld hx hb hX hbl hbA hS g2 dL_law_182 ?_
      refine lv_aload_n hx hb dL_law_183 rfl (lv_at hl 0 rfl) ?_
      refine lv_iload_n hx hb dL_law_184 rfl (lv_at hl 3 rfl) ?_
      refine lv_iconst (v := 3) hx hb dL_law_185 (by decide) ?_
      refine lv_iadd hx hb dL_law_186 ?_
      refine va_sld hx hb hX hbl hbA hS g3 dL_law_187 ?_
      refine l_call (As := [.int (xs (Int32.toNatClampNeg (x3 + 1))), .int (xs (Int32.toNatClampNeg (x3 + 2))), .int (xs (Int32.toNatClampNeg (x3 + 3)))]) (rest := []) (a := 0) XX ⟨show cells + 0 ≤ 600000 by omega, show slots + 0 ≤ 7302250 by omega⟩ hl.1 (c_X10_person l XX.2.2.2.1.1 (Nat.le_refl 107) eX) w_L_13 qw_584 qw_585 ⟨Nat.le_of_ble_eq_true rfl, Nat.le_of_ble_eq_true rfl⟩ hPX hS hPM hdis (by decide) sX_KT rfl rfl (Nat.le_of_ble_eq_true rfl) dL_law_188 (fun H locs hPX hPM hS => ?_)
      refine W.widen (k := cells + 1) (n := slots + 5) (show cells + 0 ≤ cells + 1 by omega) (show slots + 0 ≤ slots + 5 by omega) ?_
      refine lv_aload_n hx hb dL_law_191 rfl (lv_at hl 2 rfl) ?_
      refine lv_aload_n hx hb dL_law_192 rfl (lv_at hl 0 rfl) ?_
      refine lv_iload_n hx hb dL_law_193 rfl (lv_at hl 3 rfl) ?_
      refine lv_iconst (v := 1) hx hb dL_law_194 (by decide) ?_
      refine lv_iadd hx hb dL_law_195 ?_
      refine va_sld hx hb hX hbl hbA hS g1 dL_law_196 ?_
      refine lv_aload_n hx hb dL_law_197 rfl (lv_at hl 0 rfl) ?_
      refine lv_iload_n hx hb dL_law_198 rfl (lv_at hl 3 rfl) ?_
      refine lv_iconst (v := 2) hx hb dL_law_199 (by decide) ?_
      refine lv_iadd hx hb dL_law_200 ?_
      refine va_sld hx hb hX hbl hbA hS g2 dL_law_201 ?_
      refine lv_aload_n hx hb dL_law_202 rfl (lv_at hl 0 rfl) ?_
      refine lv_iload_n hx hb dL_law_203 rfl (lv_at hl 3 rfl) ?_
      refine lv_iconst (v := 3) hx hb dL_law_204 (by decide) ?_
      refine lv_iadd hx hb dL_law_205 ?_
      refine va_sld hx hb hX hbl hbA hS g3 dL_law_206 ?_
      refine l_call (As := [.int (xs (Int32.toNatClampNeg (x3 + 1))), .int (xs (Int32.toNatClampNeg (x3 + 2))), .int (xs (Int32.toNatClampNeg (x3 + 3)))]) (rest := [.int (rX.1)]) (a := 0) XM ⟨show cells + 1 + 0 ≤ 600000 by omega, show slots + 5 + 0 ≤ 7302250 by omega⟩ hl.1 (c_X11_person l XM.2.2.2.1.1 (Nat.le_refl 32) eM) w_L_17 qw_1152 qw_1153 ⟨Nat.le_of_ble_eq_true rfl, Nat.le_of_ble_eq_true rfl⟩ hPM hS hPX hdis2 (by decide) sM_Model rfl rfl (Nat.le_of_ble_eq_true rfl) dL_law_207 (fun H locs hPM hPX hS => ?_)
      refine W.widen (k := cells + 1) (n := slots + 5) (show cells + 1 + 0 ≤ cells + 1 by omega) (show slots + 5 + 0 ≤ slots + 5 by omega) ?_
      refine lv_icmp_eq (tgt := 1117) hx hb dL_law_210 (by decide) (fun _ => ?_) (fun c => absurd ev c)
      refine lv_iinc (v := x3 + 6) (lv' := [(3, .int (x3 + 6)), (0, .ref b), (1, .ref (φ 0)), (2, .ref (ψ 0))]) hx hb dL_law_1117 hl (k := 3) rfl (by rw [show Int32.ofInt 6 = 6 from by decide]) (by decide) rfl (fun ls hl => ?_)
      refine lv_goto (tgt := 18) hx hb dL_law_1120 (by decide) ?_
      exact ih (i + 6) (x3 + 6) _ _ _ H locs ls (cells + 1) (slots + 5) (by rw [ex3, show (6 : Int32) = nI 6 from by decide, nI_add]) (by omega) (by omega) (by omega) (by omega) hR1 hPX hPM hS (lv_sub hl [1, 2, 3, 0] rfl)
    by_cases e1 : sw = 1
    · refine lv_tableIn (tgt := 215) (off := 182) hx hb dL_law_33 (fun q => c9 (Or.inl q)) (fun q => c9 (Or.inr q)) (by rw [e1]; rfl) (by decide) ?_
      obtain ⟨rX, rM, eX, eM, ev, hR1⟩ := h1 MX MM (xs (Int32.toNatClampNeg (x3 + 1))) (xs (Int32.toNatClampNeg (x3 + 2))) (xs (Int32.toNatClampNeg (x3 + 3))) hR
      refine lv_aload_n hx hb dL_law_215 rfl (lv_at hl 1 rfl) ?_
      refine lv_aload_n hx hb dL_law_216 rfl (lv_at hl 0 rfl) ?_
      refine lv_iload_n hx hb dL_law_217 rfl (lv_at hl 3 rfl) ?_
      refine lv_iconst (v := 1) hx hb dL_law_218 (by decide) ?_
      refine lv_iadd hx hb dL_law_219 ?_
      refine va_sld hx hb hX hbl hbA hS g1 dL_law_220 ?_
      refine lv_aload_n hx hb dL_law_221 rfl (lv_at hl 0 rfl) ?_
      refine lv_iload_n hx hb dL_law_222 rfl (lv_at hl 3 rfl) ?_
      refine lv_iconst (v := 2) hx hb dL_law_223 (by decide) ?_
      refine lv_iadd hx hb dL_law_224 ?_
      refine va_sld hx hb hX hbl hbA hS g2 dL_law_225 ?_
      refine lv_aload_n hx hb dL_law_226 rfl (lv_at hl 0 rfl) ?_
      refine lv_iload_n hx hb dL_law_227 rfl (lv_at hl 3 rfl) ?_
      refine lv_iconst (v := 3) hx hb dL_law_228 (by decide) ?_
      refine lv_iadd hx hb dL_law_229 ?_
      refine va_sld hx hb hX hbl hbA hS g3 dL_law_230 ?_
      refine l_call (As := [.int (xs (Int32.toNatClampNeg (x3 + 1))), .int (xs (Int32.toNatClampNeg (x3 + 2))), .int (xs (Int32.toNatClampNeg (x3 + 3)))]) (rest := []) (a := 0) XX ⟨show cells + 0 ≤ 600000 by omega, show slots + 0 ≤ 7302250 by omega⟩ hl.1 (c_X10_note l XX.2.2.2.1.1 (Nat.le_refl 107) eX) w_L_18 qw_599 qw_600 ⟨Nat.le_of_ble_eq_true rfl, Nat.le_of_ble_eq_true rfl⟩ hPX hS hPM hdis (by decide) sX_KT rfl rfl (Nat.le_of_ble_eq_true rfl) dL_law_231 (fun H locs hPX hPM hS => ?_)
      refine W.widen (k := cells + 1) (n := slots + 5) (show cells + 0 ≤ cells + 1 by omega) (show slots + 0 ≤ slots + 5 by omega) ?_
      refine lv_aload_n hx hb dL_law_234 rfl (lv_at hl 2 rfl) ?_
      refine lv_aload_n hx hb dL_law_235 rfl (lv_at hl 0 rfl) ?_
      refine lv_iload_n hx hb dL_law_236 rfl (lv_at hl 3 rfl) ?_
      refine lv_iconst (v := 1) hx hb dL_law_237 (by decide) ?_
      refine lv_iadd hx hb dL_law_238 ?_
      refine va_sld hx hb hX hbl hbA hS g1 dL_law_239 ?_
      refine lv_aload_n hx hb dL_law_240 rfl (lv_at hl 0 rfl) ?_
      refine lv_iload_n hx hb dL_law_241 rfl (lv_at hl 3 rfl) ?_
      refine lv_iconst (v := 2) hx hb dL_law_242 (by decide) ?_
      refine lv_iadd hx hb dL_law_243 ?_
      refine va_sld hx hb hX hbl hbA hS g2 dL_law_244 ?_
      refine lv_aload_n hx hb dL_law_245 rfl (lv_at hl 0 rfl) ?_
      refine lv_iload_n hx hb dL_law_246 rfl (lv_at hl 3 rfl) ?_
      refine lv_iconst (v := 3) hx hb dL_law_247 (by decide) ?_
      refine lv_iadd hx hb dL_law_248 ?_
      refine va_sld hx hb hX hbl hbA hS g3 dL_law_249 ?_
      refine l_call (As := [.int (xs (Int32.toNatClampNeg (x3 + 1))), .int (xs (Int32.toNatClampNeg (x3 + 2))), .int (xs (Int32.toNatClampNeg (x3 + 3)))]) (rest := [.int (rX.1)]) (a := 0) XM ⟨show cells + 1 + 0 ≤ 600000 by omega, show slots + 5 + 0 ≤ 7302250 by omega⟩ hl.1 (c_X11_note l XM.2.2.2.1.1 (Nat.le_refl 32) eM) w_L_21 qw_1156 qw_1157 ⟨Nat.le_of_ble_eq_true rfl, Nat.le_of_ble_eq_true rfl⟩ hPM hS hPX hdis2 (by decide) sM_Model rfl rfl (Nat.le_of_ble_eq_true rfl) dL_law_250 (fun H locs hPM hPX hS => ?_)
      refine W.widen (k := cells + 1) (n := slots + 5) (show cells + 1 + 0 ≤ cells + 1 by omega) (show slots + 5 + 0 ≤ slots + 5 by omega) ?_
      refine lv_icmp_eq (tgt := 1117) hx hb dL_law_253 (by decide) (fun _ => ?_) (fun c => absurd ev c)
      refine lv_iinc (v := x3 + 6) (lv' := [(3, .int (x3 + 6)), (0, .ref b), (1, .ref (φ 0)), (2, .ref (ψ 0))]) hx hb dL_law_1117 hl (k := 3) rfl (by rw [show Int32.ofInt 6 = 6 from by decide]) (by decide) rfl (fun ls hl => ?_)
      refine lv_goto (tgt := 18) hx hb dL_law_1120 (by decide) ?_
      exact ih (i + 6) (x3 + 6) _ _ _ H locs ls (cells + 1) (slots + 5) (by rw [ex3, show (6 : Int32) = nI 6 from by decide, nI_add]) (by omega) (by omega) (by omega) (by omega) hR1 hPX hPM hS (lv_sub hl [1, 2, 3, 0] rfl)
    by_cases e2 : sw = 2
    · refine lv_tableIn (tgt := 258) (off := 225) hx hb dL_law_33 (fun q => c9 (Or.inl q)) (fun q => c9 (Or.inr q)) (by rw [e2]; rfl) (by decide) ?_
      obtain ⟨rX, rM, eX, eM, ev, hR1⟩ := h2 MX MM (xs (Int32.toNatClampNeg (x3 + 1))) (xs (Int32.toNatClampNeg (x3 + 2))) (xs (Int32.toNatClampNeg (x3 + 3))) hR
      refine lv_aload_n hx hb dL_law_258 rfl (lv_at hl 1 rfl) ?_
      refine lv_aload_n hx hb dL_law_259 rfl (lv_at hl 0 rfl) ?_
      refine lv_iload_n hx hb dL_law_260 rfl (lv_at hl 3 rfl) ?_
      refine lv_iconst (v := 1) hx hb dL_law_261 (by decide) ?_
      refine lv_iadd hx hb dL_law_262 ?_
      refine va_sld hx hb hX hbl hbA hS g1 dL_law_263 ?_
      refine lv_aload_n hx hb dL_law_264 rfl (lv_at hl 0 rfl) ?_
      refine lv_iload_n hx hb dL_law_265 rfl (lv_at hl 3 rfl) ?_
      refine lv_iconst (v := 2) hx hb dL_law_266 (by decide) ?_
      refine lv_iadd hx hb dL_law_267 ?_
      refine va_sld hx hb hX hbl hbA hS g2 dL_law_268 ?_
      refine lv_aload_n hx hb dL_law_269 rfl (lv_at hl 0 rfl) ?_
      refine lv_iload_n hx hb dL_law_270 rfl (lv_at hl 3 rfl) ?_
      refine lv_iconst (v := 3) hx hb dL_law_271 (by decide) ?_
      refine lv_iadd hx hb dL_law_272 ?_
      refine va_sld hx hb hX hbl hbA hS g3 dL_law_273 ?_
      refine l_call (As := [.int (xs (Int32.toNatClampNeg (x3 + 1))), .int (xs (Int32.toNatClampNeg (x3 + 2))), .int (xs (Int32.toNatClampNeg (x3 + 3)))]) (rest := []) (a := 0) XX ⟨show cells + 0 ≤ 600000 by omega, show slots + 0 ≤ 7302250 by omega⟩ hl.1 (c_X10_set l XX.2.2.2.1.1 (Nat.le_refl 107) eX) w_L_22 qw_636 qw_637 ⟨Nat.le_of_ble_eq_true rfl, Nat.le_of_ble_eq_true rfl⟩ hPX hS hPM hdis (by decide) sX_KT rfl rfl (Nat.le_of_ble_eq_true rfl) dL_law_274 (fun H locs hPX hPM hS => ?_)
      refine W.widen (k := cells + 1) (n := slots + 5) (show cells + 0 ≤ cells + 1 by omega) (show slots + 0 ≤ slots + 5 by omega) ?_
      refine lv_aload_n hx hb dL_law_277 rfl (lv_at hl 2 rfl) ?_
      refine lv_aload_n hx hb dL_law_278 rfl (lv_at hl 0 rfl) ?_
      refine lv_iload_n hx hb dL_law_279 rfl (lv_at hl 3 rfl) ?_
      refine lv_iconst (v := 1) hx hb dL_law_280 (by decide) ?_
      refine lv_iadd hx hb dL_law_281 ?_
      refine va_sld hx hb hX hbl hbA hS g1 dL_law_282 ?_
      refine lv_aload_n hx hb dL_law_283 rfl (lv_at hl 0 rfl) ?_
      refine lv_iload_n hx hb dL_law_284 rfl (lv_at hl 3 rfl) ?_
      refine lv_iconst (v := 2) hx hb dL_law_285 (by decide) ?_
      refine lv_iadd hx hb dL_law_286 ?_
      refine va_sld hx hb hX hbl hbA hS g2 dL_law_287 ?_
      refine lv_aload_n hx hb dL_law_288 rfl (lv_at hl 0 rfl) ?_
      refine lv_iload_n hx hb dL_law_289 rfl (lv_at hl 3 rfl) ?_
      refine lv_iconst (v := 3) hx hb dL_law_290 (by decide) ?_
      refine lv_iadd hx hb dL_law_291 ?_
      refine va_sld hx hb hX hbl hbA hS g3 dL_law_292 ?_
      refine l_call (As := [.int (xs (Int32.toNatClampNeg (x3 + 1))), .int (xs (Int32.toNatClampNeg (x3 + 2))), .int (xs (Int32.toNatClampNeg (x3 + 3)))]) (rest := [.int (rX.1)]) (a := 0) XM ⟨show cells + 1 + 0 ≤ 600000 by omega, show slots + 5 + 0 ≤ 7302250 by omega⟩ hl.1 (c_X11_set l XM.2.2.2.1.1 (Nat.le_refl 32) eM) w_L_25 qw_1160 qw_1161 ⟨Nat.le_of_ble_eq_true rfl, Nat.le_of_ble_eq_true rfl⟩ hPM hS hPX hdis2 (by decide) sM_Model rfl rfl (Nat.le_of_ble_eq_true rfl) dL_law_293 (fun H locs hPM hPX hS => ?_)
      refine W.widen (k := cells + 1) (n := slots + 5) (show cells + 1 + 0 ≤ cells + 1 by omega) (show slots + 5 + 0 ≤ slots + 5 by omega) ?_
      refine lv_icmp_eq (tgt := 1117) hx hb dL_law_296 (by decide) (fun _ => ?_) (fun c => absurd ev c)
      refine lv_iinc (v := x3 + 6) (lv' := [(3, .int (x3 + 6)), (0, .ref b), (1, .ref (φ 0)), (2, .ref (ψ 0))]) hx hb dL_law_1117 hl (k := 3) rfl (by rw [show Int32.ofInt 6 = 6 from by decide]) (by decide) rfl (fun ls hl => ?_)
      refine lv_goto (tgt := 18) hx hb dL_law_1120 (by decide) ?_
      exact ih (i + 6) (x3 + 6) _ _ _ H locs ls (cells + 1) (slots + 5) (by rw [ex3, show (6 : Int32) = nI 6 from by decide, nI_add]) (by omega) (by omega) (by omega) (by omega) hR1 hPX hPM hS (lv_sub hl [1, 2, 3, 0] rfl)
    by_cases e3 : sw = 3
    · refine lv_tableIn (tgt := 301) (off := 268) hx hb dL_law_33 (fun q => c9 (Or.inl q)) (fun q => c9 (Or.inr q)) (by rw [e3]; rfl) (by decide) ?_
      obtain ⟨rX, rM, eX, eM, ev, hR1⟩ := h3 MX MM (xs (Int32.toNatClampNeg (x3 + 1))) (xs (Int32.toNatClampNeg (x3 + 2))) hR
      refine lv_aload_n hx hb dL_law_301 rfl (lv_at hl 1 rfl) ?_
      refine lv_aload_n hx hb dL_law_302 rfl (lv_at hl 0 rfl) ?_
      refine lv_iload_n hx hb dL_law_303 rfl (lv_at hl 3 rfl) ?_
      refine lv_iconst (v := 1) hx hb dL_law_304 (by decide) ?_
      refine lv_iadd hx hb dL_law_305 ?_
      refine va_sld hx hb hX hbl hbA hS g1 dL_law_306 ?_
      refine lv_aload_n hx hb dL_law_307 rfl (lv_at hl 0 rfl) ?_
      refine lv_iload_n hx hb dL_law_308 rfl (lv_at hl 3 rfl) ?_
      refine lv_iconst (v := 2) hx hb dL_law_309 (by decide) ?_
      refine lv_iadd hx hb dL_law_310 ?_
      refine va_sld hx hb hX hbl hbA hS g2 dL_law_311 ?_
      refine l_call (As := [.int (xs (Int32.toNatClampNeg (x3 + 1))), .int (xs (Int32.toNatClampNeg (x3 + 2)))]) (rest := []) (a := 0) XX ⟨show cells + 0 ≤ 600000 by omega, show slots + 0 ≤ 7302250 by omega⟩ hl.1 (c_X10_told l XX.2.2.2.1.1 (Nat.le_refl 107) eX) w_L_26 qw_652 qw_653 ⟨Nat.le_of_ble_eq_true rfl, Nat.le_of_ble_eq_true rfl⟩ hPX hS hPM hdis (by decide) sX_KT rfl rfl (Nat.le_of_ble_eq_true rfl) dL_law_312 (fun H locs hPX hPM hS => ?_)
      refine W.widen (k := cells + 1) (n := slots + 5) (show cells + 0 ≤ cells + 1 by omega) (show slots + 0 ≤ slots + 5 by omega) ?_
      refine lv_aload_n hx hb dL_law_315 rfl (lv_at hl 2 rfl) ?_
      refine lv_aload_n hx hb dL_law_316 rfl (lv_at hl 0 rfl) ?_
      refine lv_iload_n hx hb dL_law_317 rfl (lv_at hl 3 rfl) ?_
      refine lv_iconst (v := 1) hx hb dL_law_318 (by decide) ?_
      refine lv_iadd hx hb dL_law_319 ?_
      refine va_sld hx hb hX hbl hbA hS g1 dL_law_320 ?_
      refine lv_aload_n hx hb dL_law_321 rfl (lv_at hl 0 rfl) ?_
      refine lv_iload_n hx hb dL_law_322 rfl (lv_at hl 3 rfl) ?_
      refine lv_iconst (v := 2) hx hb dL_law_323 (by decide) ?_
      refine lv_iadd hx hb dL_law_324 ?_
      refine va_sld hx hb hX hbl hbA hS g2 dL_law_325 ?_
      refine l_call (As := [.int (xs (Int32.toNatClampNeg (x3 + 1))), .int (xs (Int32.toNatClampNeg (x3 + 2)))]) (rest := [.int (rX)]) (a := 0) XM ⟨show cells + 1 + 0 ≤ 600000 by omega, show slots + 5 + 0 ≤ 7302250 by omega⟩ hl.1 (c_X11_told l XM.2.2.2.1.1 (Nat.le_refl 32) eM) w_L_30 qw_1172 qw_1173 ⟨Nat.le_of_ble_eq_true rfl, Nat.le_of_ble_eq_true rfl⟩ hPM hS hPX hdis2 (by decide) sM_Model rfl rfl (Nat.le_of_ble_eq_true rfl) dL_law_326 (fun H locs hPM hPX hS => ?_)
      refine W.widen (k := cells + 1) (n := slots + 5) (show cells + 1 + 0 ≤ cells + 1 by omega) (show slots + 5 + 0 ≤ slots + 5 by omega) ?_
      refine lv_icmp_eq (tgt := 1117) hx hb dL_law_329 (by decide) (fun _ => ?_) (fun c => absurd ev c)
      refine lv_iinc (v := x3 + 6) (lv' := [(3, .int (x3 + 6)), (0, .ref b), (1, .ref (φ 0)), (2, .ref (ψ 0))]) hx hb dL_law_1117 hl (k := 3) rfl (by rw [show Int32.ofInt 6 = 6 from by decide]) (by decide) rfl (fun ls hl => ?_)
      refine lv_goto (tgt := 18) hx hb dL_law_1120 (by decide) ?_
      exact ih (i + 6) (x3 + 6) _ _ _ H locs ls (cells + 1) (slots + 5) (by rw [ex3, show (6 : Int32) = nI 6 from by decide, nI_add]) (by omega) (by omega) (by omega) (by omega) hR1 hPX hPM hS (lv_sub hl [1, 2, 3, 0] rfl)
    by_cases e4 : sw = 4
    · refine lv_tableIn (tgt := 334) (off := 301) hx hb dL_law_33 (fun q => c9 (Or.inl q)) (fun q => c9 (Or.inr q)) (by rw [e4]; rfl) (by decide) ?_
      obtain ⟨rX, rM, eX, eM, ev, hR1⟩ := h4 MX MM (xs (Int32.toNatClampNeg (x3 + 1))) hR
      refine lv_aload_n hx hb dL_law_334 rfl (lv_at hl 1 rfl) ?_
      refine lv_aload_n hx hb dL_law_335 rfl (lv_at hl 0 rfl) ?_
      refine lv_iload_n hx hb dL_law_336 rfl (lv_at hl 3 rfl) ?_
      refine lv_iconst (v := 1) hx hb dL_law_337 (by decide) ?_
      refine lv_iadd hx hb dL_law_338 ?_
      refine va_sld hx hb hX hbl hbA hS g1 dL_law_339 ?_
      refine l_call (As := [.int (xs (Int32.toNatClampNeg (x3 + 1)))]) (rest := []) (a := 0) XX ⟨show cells + 0 ≤ 600000 by omega, show slots + 0 ≤ 7302250 by omega⟩ hl.1 (c_X10_feed l XX.2.2.2.1.1 (Nat.le_refl 107) eX) w_L_31 qw_656 qw_657 ⟨Nat.le_of_ble_eq_true rfl, Nat.le_of_ble_eq_true rfl⟩ hPX hS hPM hdis (by decide) sX_KT rfl rfl (Nat.le_of_ble_eq_true rfl) dL_law_340 (fun H locs hPX hPM hS => ?_)
      refine W.widen (k := cells + 1) (n := slots + 5) (show cells + 0 ≤ cells + 1 by omega) (show slots + 0 ≤ slots + 5 by omega) ?_
      refine lv_aload_n hx hb dL_law_343 rfl (lv_at hl 2 rfl) ?_
      refine lv_aload_n hx hb dL_law_344 rfl (lv_at hl 0 rfl) ?_
      refine lv_iload_n hx hb dL_law_345 rfl (lv_at hl 3 rfl) ?_
      refine lv_iconst (v := 1) hx hb dL_law_346 (by decide) ?_
      refine lv_iadd hx hb dL_law_347 ?_
      refine va_sld hx hb hX hbl hbA hS g1 dL_law_348 ?_
      refine l_call (As := [.int (xs (Int32.toNatClampNeg (x3 + 1)))]) (rest := [.int (rX.1)]) (a := 0) XM ⟨show cells + 1 + 0 ≤ 600000 by omega, show slots + 5 + 0 ≤ 7302250 by omega⟩ hl.1 (c_X11_feed l XM.2.2.2.1.1 (Nat.le_refl 32) eM) w_L_35 qw_929 qw_930 ⟨Nat.le_of_ble_eq_true rfl, Nat.le_of_ble_eq_true rfl⟩ hPM hS hPX hdis2 (by decide) sM_Model rfl rfl (Nat.le_of_ble_eq_true rfl) dL_law_349 (fun H locs hPM hPX hS => ?_)
      refine W.widen (k := cells + 1) (n := slots + 5) (show cells + 1 + 0 ≤ cells + 1 by omega) (show slots + 5 + 0 ≤ slots + 5 by omega) ?_
      refine lv_icmp_eq (tgt := 1117) hx hb dL_law_352 (by decide) (fun _ => ?_) (fun c => absurd ev c)
      refine lv_iinc (v := x3 + 6) (lv' := [(3, .int (x3 + 6)), (0, .ref b), (1, .ref (φ 0)), (2, .ref (ψ 0))]) hx hb dL_law_1117 hl (k := 3) rfl (by rw [show Int32.ofInt 6 = 6 from by decide]) (by decide) rfl (fun ls hl => ?_)
      refine lv_goto (tgt := 18) hx hb dL_law_1120 (by decide) ?_
      exact ih (i + 6) (x3 + 6) _ _ _ H locs ls (cells + 1) (slots + 5) (by rw [ex3, show (6 : Int32) = nI 6 from by decide, nI_add]) (by omega) (by omega) (by omega) (by omega) hR1 hPX hPM hS (lv_sub hl [1, 2, 3, 0] rfl)
    by_cases e5 : sw = 5
    · refine lv_tableIn (tgt := 357) (off := 324) hx hb dL_law_33 (fun q => c9 (Or.inl q)) (fun q => c9 (Or.inr q)) (by rw [e5]; rfl) (by decide) ?_
      obtain ⟨rX, rM, eX, eM, ev, hR1⟩ := h5 MX MM hR
      refine lv_aload_n hx hb dL_law_357 rfl (lv_at hl 1 rfl) ?_
      refine l_call (As := []) (rest := []) (a := 0) XX ⟨show cells + 1 ≤ 600000 by omega, show slots + 5 ≤ 7302250 by omega⟩ hl.1 (c_X10_text l XX.2.2.2.1.1 rfl eX) w_L_36 qw_660 qw_661 ⟨Nat.le_of_ble_eq_true rfl, Nat.le_of_ble_eq_true rfl⟩ hPX hS hPM hdis (by decide) sX_KT rfl rfl (Nat.le_of_ble_eq_true rfl) dL_law_358 (fun H locs hPX hPM hS => ?_)
      refine W.widen (k := cells + 1) (n := slots + 5) (show cells + 1 ≤ cells + 1 by omega) (show slots + 5 ≤ slots + 5 by omega) ?_
      refine lv_aload_n hx hb dL_law_361 rfl (lv_at hl 2 rfl) ?_
      refine l_call (As := []) (rest := [.int (rX.1)]) (a := 0) XM ⟨show cells + 1 + 0 ≤ 600000 by omega, show slots + 5 + 0 ≤ 7302250 by omega⟩ hl.1 (c_X11_text l XM.2.2.2.1.1 (Nat.le_refl 32) eM) w_L_40 qw_936 qw_937 ⟨Nat.le_of_ble_eq_true rfl, Nat.le_of_ble_eq_true rfl⟩ hPM hS hPX hdis2 (by decide) sM_Model rfl rfl (Nat.le_of_ble_eq_true rfl) dL_law_362 (fun H locs hPM hPX hS => ?_)
      refine W.widen (k := cells + 1) (n := slots + 5) (show cells + 1 + 0 ≤ cells + 1 by omega) (show slots + 5 + 0 ≤ slots + 5 by omega) ?_
      refine lv_icmp_eq (tgt := 1117) hx hb dL_law_365 (by decide) (fun _ => ?_) (fun c => absurd ev c)
      refine lv_iinc (v := x3 + 6) (lv' := [(3, .int (x3 + 6)), (0, .ref b), (1, .ref (φ 0)), (2, .ref (ψ 0))]) hx hb dL_law_1117 hl (k := 3) rfl (by rw [show Int32.ofInt 6 = 6 from by decide]) (by decide) rfl (fun ls hl => ?_)
      refine lv_goto (tgt := 18) hx hb dL_law_1120 (by decide) ?_
      exact ih (i + 6) (x3 + 6) _ _ _ H locs ls (cells + 1) (slots + 5) (by rw [ex3, show (6 : Int32) = nI 6 from by decide, nI_add]) (by omega) (by omega) (by omega) (by omega) hR1 hPX hPM hS (lv_sub hl [1, 2, 3, 0] rfl)
    by_cases e6 : sw = 6
    · refine lv_tableIn (tgt := 370) (off := 337) hx hb dL_law_33 (fun q => c9 (Or.inl q)) (fun q => c9 (Or.inr q)) (by rw [e6]; rfl) (by decide) ?_
      obtain ⟨rX, rM, eX, eM, ev, hR1⟩ := h6 MX MM (xs (Int32.toNatClampNeg (x3 + 1))) hR
      refine lv_aload_n hx hb dL_law_370 rfl (lv_at hl 1 rfl) ?_
      refine lv_aload_n hx hb dL_law_371 rfl (lv_at hl 0 rfl) ?_
      refine lv_iload_n hx hb dL_law_372 rfl (lv_at hl 3 rfl) ?_
      refine lv_iconst (v := 1) hx hb dL_law_373 (by decide) ?_
      refine lv_iadd hx hb dL_law_374 ?_
      refine va_sld hx hb hX hbl hbA hS g1 dL_law_375 ?_
      refine l_call (As := [.int (xs (Int32.toNatClampNeg (x3 + 1)))]) (rest := []) (a := 0) XX ⟨show cells + 0 ≤ 600000 by omega, show slots + 0 ≤ 7302250 by omega⟩ hl.1 (c_X10_force l XX.2.2.2.1.1 (Nat.le_refl 107) eX) w_L_41 qw_664 qw_665 ⟨Nat.le_of_ble_eq_true rfl, Nat.le_of_ble_eq_true rfl⟩ hPX hS hPM hdis (by decide) sX_KT rfl rfl (Nat.le_of_ble_eq_true rfl) dL_law_376 (fun H locs hPX hPM hS => ?_)
      refine W.widen (k := cells + 1) (n := slots + 5) (show cells + 0 ≤ cells + 1 by omega) (show slots + 0 ≤ slots + 5 by omega) ?_
      refine lv_aload_n hx hb dL_law_379 rfl (lv_at hl 2 rfl) ?_
      refine lv_aload_n hx hb dL_law_380 rfl (lv_at hl 0 rfl) ?_
      refine lv_iload_n hx hb dL_law_381 rfl (lv_at hl 3 rfl) ?_
      refine lv_iconst (v := 1) hx hb dL_law_382 (by decide) ?_
      refine lv_iadd hx hb dL_law_383 ?_
      refine va_sld hx hb hX hbl hbA hS g1 dL_law_384 ?_
      refine l_call (As := [.int (xs (Int32.toNatClampNeg (x3 + 1)))]) (rest := [.int (rX.1)]) (a := 0) XM ⟨show cells + 1 + 0 ≤ 600000 by omega, show slots + 5 + 0 ≤ 7302250 by omega⟩ hl.1 (c_X11_force l XM.2.2.2.1.1 (Nat.le_refl 32) eM) w_L_44 qw_1194 qw_1195 ⟨Nat.le_of_ble_eq_true rfl, Nat.le_of_ble_eq_true rfl⟩ hPM hS hPX hdis2 (by decide) sM_Model rfl rfl (Nat.le_of_ble_eq_true rfl) dL_law_385 (fun H locs hPM hPX hS => ?_)
      refine W.widen (k := cells + 1) (n := slots + 5) (show cells + 1 + 0 ≤ cells + 1 by omega) (show slots + 5 + 0 ≤ slots + 5 by omega) ?_
      refine lv_icmp_eq (tgt := 1117) hx hb dL_law_388 (by decide) (fun _ => ?_) (fun c => absurd ev c)
      refine lv_iinc (v := x3 + 6) (lv' := [(3, .int (x3 + 6)), (0, .ref b), (1, .ref (φ 0)), (2, .ref (ψ 0))]) hx hb dL_law_1117 hl (k := 3) rfl (by rw [show Int32.ofInt 6 = 6 from by decide]) (by decide) rfl (fun ls hl => ?_)
      refine lv_goto (tgt := 18) hx hb dL_law_1120 (by decide) ?_
      exact ih (i + 6) (x3 + 6) _ _ _ H locs ls (cells + 1) (slots + 5) (by rw [ex3, show (6 : Int32) = nI 6 from by decide, nI_add]) (by omega) (by omega) (by omega) (by omega) hR1 hPX hPM hS (lv_sub hl [1, 2, 3, 0] rfl)
    by_cases e7 : sw = 7
    · refine lv_tableIn (tgt := 393) (off := 360) hx hb dL_law_33 (fun q => c9 (Or.inl q)) (fun q => c9 (Or.inr q)) (by rw [e7]; rfl) (by decide) ?_
      obtain ⟨rX, rM, eX, eM, ev, hR1⟩ := h7 MX MM (xs (Int32.toNatClampNeg (x3 + 1))) hR
      refine lv_aload_n hx hb dL_law_393 rfl (lv_at hl 1 rfl) ?_
      refine lv_aload_n hx hb dL_law_394 rfl (lv_at hl 0 rfl) ?_
      refine lv_iload_n hx hb dL_law_395 rfl (lv_at hl 3 rfl) ?_
      refine lv_iconst (v := 1) hx hb dL_law_396 (by decide) ?_
      refine lv_iadd hx hb dL_law_397 ?_
      refine va_sld hx hb hX hbl hbA hS g1 dL_law_398 ?_
      refine l_call (As := [.int (xs (Int32.toNatClampNeg (x3 + 1)))]) (rest := []) (a := 0) XX ⟨show cells + 0 ≤ 600000 by omega, show slots + 0 ≤ 7302250 by omega⟩ hl.1 (c_X10_lies l XX.2.2.2.1.1 (Nat.le_refl 107) eX) w_L_45 qw_668 qw_669 ⟨Nat.le_of_ble_eq_true rfl, Nat.le_of_ble_eq_true rfl⟩ hPX hS hPM hdis (by decide) sX_KT rfl rfl (Nat.le_of_ble_eq_true rfl) dL_law_399 (fun H locs hPX hPM hS => ?_)
      refine W.widen (k := cells + 1) (n := slots + 5) (show cells + 0 ≤ cells + 1 by omega) (show slots + 0 ≤ slots + 5 by omega) ?_
      refine lv_aload_n hx hb dL_law_402 rfl (lv_at hl 2 rfl) ?_
      refine lv_aload_n hx hb dL_law_403 rfl (lv_at hl 0 rfl) ?_
      refine lv_iload_n hx hb dL_law_404 rfl (lv_at hl 3 rfl) ?_
      refine lv_iconst (v := 1) hx hb dL_law_405 (by decide) ?_
      refine lv_iadd hx hb dL_law_406 ?_
      refine va_sld hx hb hX hbl hbA hS g1 dL_law_407 ?_
      refine l_call (As := [.int (xs (Int32.toNatClampNeg (x3 + 1)))]) (rest := [.int (rX.1)]) (a := 0) XM ⟨show cells + 1 + 0 ≤ 600000 by omega, show slots + 5 + 0 ≤ 7302250 by omega⟩ hl.1 (c_X11_lies l XM.2.2.2.1.1 (Nat.le_refl 32) eM) w_L_48 qw_1198 qw_1199 ⟨Nat.le_of_ble_eq_true rfl, Nat.le_of_ble_eq_true rfl⟩ hPM hS hPX hdis2 (by decide) sM_Model rfl rfl (Nat.le_of_ble_eq_true rfl) dL_law_408 (fun H locs hPM hPX hS => ?_)
      refine W.widen (k := cells + 1) (n := slots + 5) (show cells + 1 + 0 ≤ cells + 1 by omega) (show slots + 5 + 0 ≤ slots + 5 by omega) ?_
      refine lv_icmp_eq (tgt := 1117) hx hb dL_law_411 (by decide) (fun _ => ?_) (fun c => absurd ev c)
      refine lv_iinc (v := x3 + 6) (lv' := [(3, .int (x3 + 6)), (0, .ref b), (1, .ref (φ 0)), (2, .ref (ψ 0))]) hx hb dL_law_1117 hl (k := 3) rfl (by rw [show Int32.ofInt 6 = 6 from by decide]) (by decide) rfl (fun ls hl => ?_)
      refine lv_goto (tgt := 18) hx hb dL_law_1120 (by decide) ?_
      exact ih (i + 6) (x3 + 6) _ _ _ H locs ls (cells + 1) (slots + 5) (by rw [ex3, show (6 : Int32) = nI 6 from by decide, nI_add]) (by omega) (by omega) (by omega) (by omega) hR1 hPX hPM hS (lv_sub hl [1, 2, 3, 0] rfl)
    by_cases e8 : sw = 8
    · refine lv_tableIn (tgt := 416) (off := 383) hx hb dL_law_33 (fun q => c9 (Or.inl q)) (fun q => c9 (Or.inr q)) (by rw [e8]; rfl) (by decide) ?_
      obtain ⟨rX, rM, eX, eM, ev, hR1⟩ := h8 MX MM (xs (Int32.toNatClampNeg (x3 + 1))) hR
      refine lv_aload_n hx hb dL_law_416 rfl (lv_at hl 1 rfl) ?_
      refine lv_aload_n hx hb dL_law_417 rfl (lv_at hl 0 rfl) ?_
      refine lv_iload_n hx hb dL_law_418 rfl (lv_at hl 3 rfl) ?_
      refine lv_iconst (v := 1) hx hb dL_law_419 (by decide) ?_
      refine lv_iadd hx hb dL_law_420 ?_
      refine va_sld hx hb hX hbl hbA hS g1 dL_law_421 ?_
      refine l_call (As := [.int (xs (Int32.toNatClampNeg (x3 + 1)))]) (rest := []) (a := 0) XX ⟨show cells + 0 ≤ 600000 by omega, show slots + 0 ≤ 7302250 by omega⟩ hl.1 (c_X10_top l XX.2.2.2.1.1 (Nat.le_refl 107) eX) w_L_49 qw_737 qw_738 ⟨Nat.le_of_ble_eq_true rfl, Nat.le_of_ble_eq_true rfl⟩ hPX hS hPM hdis (by decide) sX_KT rfl rfl (Nat.le_of_ble_eq_true rfl) dL_law_422 (fun H locs hPX hPM hS => ?_)
      refine W.widen (k := cells + 1) (n := slots + 5) (show cells + 0 ≤ cells + 1 by omega) (show slots + 0 ≤ slots + 5 by omega) ?_
      refine lv_aload_n hx hb dL_law_425 rfl (lv_at hl 2 rfl) ?_
      refine lv_aload_n hx hb dL_law_426 rfl (lv_at hl 0 rfl) ?_
      refine lv_iload_n hx hb dL_law_427 rfl (lv_at hl 3 rfl) ?_
      refine lv_iconst (v := 1) hx hb dL_law_428 (by decide) ?_
      refine lv_iadd hx hb dL_law_429 ?_
      refine va_sld hx hb hX hbl hbA hS g1 dL_law_430 ?_
      refine l_call (As := [.int (xs (Int32.toNatClampNeg (x3 + 1)))]) (rest := [.int (rX.1)]) (a := 0) XM ⟨show cells + 1 + 0 ≤ 600000 by omega, show slots + 5 + 0 ≤ 7302250 by omega⟩ hl.1 (c_X11_top l XM.2.2.2.1.1 (Nat.le_refl 32) eM) w_L_52 qw_1230 qw_1231 ⟨Nat.le_of_ble_eq_true rfl, Nat.le_of_ble_eq_true rfl⟩ hPM hS hPX hdis2 (by decide) sM_Model rfl rfl (Nat.le_of_ble_eq_true rfl) dL_law_431 (fun H locs hPM hPX hS => ?_)
      refine W.widen (k := cells + 1) (n := slots + 5) (show cells + 1 + 0 ≤ cells + 1 by omega) (show slots + 5 + 0 ≤ slots + 5 by omega) ?_
      refine lv_icmp_eq (tgt := 1117) hx hb dL_law_434 (by decide) (fun _ => ?_) (fun c => absurd ev c)
      refine lv_iinc (v := x3 + 6) (lv' := [(3, .int (x3 + 6)), (0, .ref b), (1, .ref (φ 0)), (2, .ref (ψ 0))]) hx hb dL_law_1117 hl (k := 3) rfl (by rw [show Int32.ofInt 6 = 6 from by decide]) (by decide) rfl (fun ls hl => ?_)
      refine lv_goto (tgt := 18) hx hb dL_law_1120 (by decide) ?_
      exact ih (i + 6) (x3 + 6) _ _ _ H locs ls (cells + 1) (slots + 5) (by rw [ex3, show (6 : Int32) = nI 6 from by decide, nI_add]) (by omega) (by omega) (by omega) (by omega) hR1 hPX hPM hS (lv_sub hl [1, 2, 3, 0] rfl)
    by_cases e9 : sw = 9
    · refine lv_tableIn (tgt := 439) (off := 406) hx hb dL_law_33 (fun q => c9 (Or.inl q)) (fun q => c9 (Or.inr q)) (by rw [e9]; rfl) (by decide) ?_
      obtain ⟨rX, rM, eX, eM, ev, hR1⟩ := h9 MX MM (xs (Int32.toNatClampNeg (x3 + 1))) (xs (Int32.toNatClampNeg (x3 + 2))) hR
      refine lv_aload_n hx hb dL_law_439 rfl (lv_at hl 1 rfl) ?_
      refine lv_aload_n hx hb dL_law_440 rfl (lv_at hl 0 rfl) ?_
      refine lv_iload_n hx hb dL_law_441 rfl (lv_at hl 3 rfl) ?_
      refine lv_iconst (v := 1) hx hb dL_law_442 (by decide) ?_
      refine lv_iadd hx hb dL_law_443 ?_
      refine va_sld hx hb hX hbl hbA hS g1 dL_law_444 ?_
      refine lv_aload_n hx hb dL_law_445 rfl (lv_at hl 0 rfl) ?_
      refine lv_iload_n hx hb dL_law_446 rfl (lv_at hl 3 rfl) ?_
      refine lv_iconst (v := 2) hx hb dL_law_447 (by decide) ?_
      refine lv_iadd hx hb dL_law_448 ?_
      refine va_sld hx hb hX hbl hbA hS g2 dL_law_449 ?_
      refine l_call (As := [.int (xs (Int32.toNatClampNeg (x3 + 1))), .int (xs (Int32.toNatClampNeg (x3 + 2)))]) (rest := []) (a := 0) XX ⟨show cells + 0 ≤ 600000 by omega, show slots + 0 ≤ 7302250 by omega⟩ hl.1 (c_X10_read l XX.2.2.2.1.1 (Nat.le_refl 107) eX) w_L_53 qw_742 qw_743 ⟨Nat.le_of_ble_eq_true rfl, Nat.le_of_ble_eq_true rfl⟩ hPX hS hPM hdis (by decide) sX_KT rfl rfl (Nat.le_of_ble_eq_true rfl) dL_law_450 (fun H locs hPX hPM hS => ?_)
      refine W.widen (k := cells + 1) (n := slots + 5) (show cells + 0 ≤ cells + 1 by omega) (show slots + 0 ≤ slots + 5 by omega) ?_
      refine lv_aload_n hx hb dL_law_453 rfl (lv_at hl 2 rfl) ?_
      refine lv_aload_n hx hb dL_law_454 rfl (lv_at hl 0 rfl) ?_
      refine lv_iload_n hx hb dL_law_455 rfl (lv_at hl 3 rfl) ?_
      refine lv_iconst (v := 1) hx hb dL_law_456 (by decide) ?_
      refine lv_iadd hx hb dL_law_457 ?_
      refine va_sld hx hb hX hbl hbA hS g1 dL_law_458 ?_
      refine lv_aload_n hx hb dL_law_459 rfl (lv_at hl 0 rfl) ?_
      refine lv_iload_n hx hb dL_law_460 rfl (lv_at hl 3 rfl) ?_
      refine lv_iconst (v := 2) hx hb dL_law_461 (by decide) ?_
      refine lv_iadd hx hb dL_law_462 ?_
      refine va_sld hx hb hX hbl hbA hS g2 dL_law_463 ?_
      refine l_call (As := [.int (xs (Int32.toNatClampNeg (x3 + 1))), .int (xs (Int32.toNatClampNeg (x3 + 2)))]) (rest := [.int (rX.1)]) (a := 0) XM ⟨show cells + 1 + 0 ≤ 600000 by omega, show slots + 5 + 0 ≤ 7302250 by omega⟩ hl.1 (c_X11_read l XM.2.2.2.1.1 (Nat.le_refl 32) eM) w_L_56 qw_1234 qw_1235 ⟨Nat.le_of_ble_eq_true rfl, Nat.le_of_ble_eq_true rfl⟩ hPM hS hPX hdis2 (by decide) sM_Model rfl rfl (Nat.le_of_ble_eq_true rfl) dL_law_464 (fun H locs hPM hPX hS => ?_)
      refine W.widen (k := cells + 1) (n := slots + 5) (show cells + 1 + 0 ≤ cells + 1 by omega) (show slots + 5 + 0 ≤ slots + 5 by omega) ?_
      refine lv_icmp_eq (tgt := 1117) hx hb dL_law_467 (by decide) (fun _ => ?_) (fun c => absurd ev c)
      refine lv_iinc (v := x3 + 6) (lv' := [(3, .int (x3 + 6)), (0, .ref b), (1, .ref (φ 0)), (2, .ref (ψ 0))]) hx hb dL_law_1117 hl (k := 3) rfl (by rw [show Int32.ofInt 6 = 6 from by decide]) (by decide) rfl (fun ls hl => ?_)
      refine lv_goto (tgt := 18) hx hb dL_law_1120 (by decide) ?_
      exact ih (i + 6) (x3 + 6) _ _ _ H locs ls (cells + 1) (slots + 5) (by rw [ex3, show (6 : Int32) = nI 6 from by decide, nI_add]) (by omega) (by omega) (by omega) (by omega) hR1 hPX hPM hS (lv_sub hl [1, 2, 3, 0] rfl)
    by_cases e10 : sw = 10
    · refine lv_tableIn (tgt := 472) (off := 439) hx hb dL_law_33 (fun q => c9 (Or.inl q)) (fun q => c9 (Or.inr q)) (by rw [e10]; rfl) (by decide) ?_
      obtain ⟨rX, rM, eX, eM, ev, hR1⟩ := h10 MX MM (xs (Int32.toNatClampNeg (x3 + 1))) (xs (Int32.toNatClampNeg (x3 + 2))) hR
      refine lv_aload_n hx hb dL_law_472 rfl (lv_at hl 1 rfl) ?_
      refine lv_aload_n hx hb dL_law_473 rfl (lv_at hl 0 rfl) ?_
      refine lv_iload_n hx hb dL_law_474 rfl (lv_at hl 3 rfl) ?_
      refine lv_iconst (v := 1) hx hb dL_law_475 (by decide) ?_
      refine lv_iadd hx hb dL_law_476 ?_
      refine va_sld hx hb hX hbl hbA hS g1 dL_law_477 ?_
      refine lv_aload_n hx hb dL_law_478 rfl (lv_at hl 0 rfl) ?_
      refine lv_iload_n hx hb dL_law_479 rfl (lv_at hl 3 rfl) ?_
      refine lv_iconst (v := 2) hx hb dL_law_480 (by decide) ?_
      refine lv_iadd hx hb dL_law_481 ?_
      refine va_sld hx hb hX hbl hbA hS g2 dL_law_482 ?_
      refine l_call (As := [.int (xs (Int32.toNatClampNeg (x3 + 1))), .int (xs (Int32.toNatClampNeg (x3 + 2)))]) (rest := []) (a := 0) XX ⟨show cells + 0 ≤ 600000 by omega, show slots + 0 ≤ 7302250 by omega⟩ hl.1 (c_X10_knew l XX.2.2.2.1.1 (Nat.le_refl 107) eX) w_L_57 qw_746 qw_747 ⟨Nat.le_of_ble_eq_true rfl, Nat.le_of_ble_eq_true rfl⟩ hPX hS hPM hdis (by decide) sX_KT rfl rfl (Nat.le_of_ble_eq_true rfl) dL_law_483 (fun H locs hPX hPM hS => ?_)
      refine W.widen (k := cells + 1) (n := slots + 5) (show cells + 0 ≤ cells + 1 by omega) (show slots + 0 ≤ slots + 5 by omega) ?_
      refine lv_aload_n hx hb dL_law_486 rfl (lv_at hl 2 rfl) ?_
      refine lv_aload_n hx hb dL_law_487 rfl (lv_at hl 0 rfl) ?_
      refine lv_iload_n hx hb dL_law_488 rfl (lv_at hl 3 rfl) ?_
      refine lv_iconst (v := 1) hx hb dL_law_489 (by decide) ?_
      refine lv_iadd hx hb dL_law_490 ?_
      refine va_sld hx hb hX hbl hbA hS g1 dL_law_491 ?_
      refine lv_aload_n hx hb dL_law_492 rfl (lv_at hl 0 rfl) ?_
      refine lv_iload_n hx hb dL_law_493 rfl (lv_at hl 3 rfl) ?_
      refine lv_iconst (v := 2) hx hb dL_law_494 (by decide) ?_
      refine lv_iadd hx hb dL_law_495 ?_
      refine va_sld hx hb hX hbl hbA hS g2 dL_law_496 ?_
      refine l_call (As := [.int (xs (Int32.toNatClampNeg (x3 + 1))), .int (xs (Int32.toNatClampNeg (x3 + 2)))]) (rest := [.int (rX.1)]) (a := 0) XM ⟨show cells + 1 + 0 ≤ 600000 by omega, show slots + 5 + 0 ≤ 7302250 by omega⟩ hl.1 (c_X11_knew l XM.2.2.2.1.1 (Nat.le_refl 32) eM) w_L_60 qw_1238 qw_1239 ⟨Nat.le_of_ble_eq_true rfl, Nat.le_of_ble_eq_true rfl⟩ hPM hS hPX hdis2 (by decide) sM_Model rfl rfl (Nat.le_of_ble_eq_true rfl) dL_law_497 (fun H locs hPM hPX hS => ?_)
      refine W.widen (k := cells + 1) (n := slots + 5) (show cells + 1 + 0 ≤ cells + 1 by omega) (show slots + 5 + 0 ≤ slots + 5 by omega) ?_
      refine lv_icmp_eq (tgt := 1117) hx hb dL_law_500 (by decide) (fun _ => ?_) (fun c => absurd ev c)
      refine lv_iinc (v := x3 + 6) (lv' := [(3, .int (x3 + 6)), (0, .ref b), (1, .ref (φ 0)), (2, .ref (ψ 0))]) hx hb dL_law_1117 hl (k := 3) rfl (by rw [show Int32.ofInt 6 = 6 from by decide]) (by decide) rfl (fun ls hl => ?_)
      refine lv_goto (tgt := 18) hx hb dL_law_1120 (by decide) ?_
      exact ih (i + 6) (x3 + 6) _ _ _ H locs ls (cells + 1) (slots + 5) (by rw [ex3, show (6 : Int32) = nI 6 from by decide, nI_add]) (by omega) (by omega) (by omega) (by omega) hR1 hPX hPM hS (lv_sub hl [1, 2, 3, 0] rfl)
    by_cases e11 : sw = 11
    · refine lv_tableIn (tgt := 505) (off := 472) hx hb dL_law_33 (fun q => c9 (Or.inl q)) (fun q => c9 (Or.inr q)) (by rw [e11]; rfl) (by decide) ?_
      obtain ⟨rX, rM, eX, eM, ev, hR1⟩ := h11 MX MM (xs (Int32.toNatClampNeg (x3 + 1))) (xs (Int32.toNatClampNeg (x3 + 2))) hR
      refine lv_aload_n hx hb dL_law_505 rfl (lv_at hl 1 rfl) ?_
      refine lv_aload_n hx hb dL_law_506 rfl (lv_at hl 0 rfl) ?_
      refine lv_iload_n hx hb dL_law_507 rfl (lv_at hl 3 rfl) ?_
      refine lv_iconst (v := 1) hx hb dL_law_508 (by decide) ?_
      refine lv_iadd hx hb dL_law_509 ?_
      refine va_sld hx hb hX hbl hbA hS g1 dL_law_510 ?_
      refine lv_aload_n hx hb dL_law_511 rfl (lv_at hl 0 rfl) ?_
      refine lv_iload_n hx hb dL_law_512 rfl (lv_at hl 3 rfl) ?_
      refine lv_iconst (v := 2) hx hb dL_law_513 (by decide) ?_
      refine lv_iadd hx hb dL_law_514 ?_
      refine va_sld hx hb hX hbl hbA hS g2 dL_law_515 ?_
      refine l_call (As := [.int (xs (Int32.toNatClampNeg (x3 + 1))), .int (xs (Int32.toNatClampNeg (x3 + 2)))]) (rest := []) (a := 0) XX ⟨show cells + 0 ≤ 600000 by omega, show slots + 0 ≤ 7302250 by omega⟩ hl.1 (c_X10_done l XX.2.2.2.1.1 (Nat.le_refl 107) eX) w_L_61 qw_750 qw_751 ⟨Nat.le_of_ble_eq_true rfl, Nat.le_of_ble_eq_true rfl⟩ hPX hS hPM hdis (by decide) sX_KT rfl rfl (Nat.le_of_ble_eq_true rfl) dL_law_516 (fun H locs hPX hPM hS => ?_)
      refine W.widen (k := cells + 1) (n := slots + 5) (show cells + 0 ≤ cells + 1 by omega) (show slots + 0 ≤ slots + 5 by omega) ?_
      refine lv_aload_n hx hb dL_law_519 rfl (lv_at hl 2 rfl) ?_
      refine lv_aload_n hx hb dL_law_520 rfl (lv_at hl 0 rfl) ?_
      refine lv_iload_n hx hb dL_law_521 rfl (lv_at hl 3 rfl) ?_
      refine lv_iconst (v := 1) hx hb dL_law_522 (by decide) ?_
      refine lv_iadd hx hb dL_law_523 ?_
      refine va_sld hx hb hX hbl hbA hS g1 dL_law_524 ?_
      refine lv_aload_n hx hb dL_law_525 rfl (lv_at hl 0 rfl) ?_
      refine lv_iload_n hx hb dL_law_526 rfl (lv_at hl 3 rfl) ?_
      refine lv_iconst (v := 2) hx hb dL_law_527 (by decide) ?_
      refine lv_iadd hx hb dL_law_528 ?_
      refine va_sld hx hb hX hbl hbA hS g2 dL_law_529 ?_
      refine l_call (As := [.int (xs (Int32.toNatClampNeg (x3 + 1))), .int (xs (Int32.toNatClampNeg (x3 + 2)))]) (rest := [.int (rX.1)]) (a := 0) XM ⟨show cells + 1 + 0 ≤ 600000 by omega, show slots + 5 + 0 ≤ 7302250 by omega⟩ hl.1 (c_X11_done l XM.2.2.2.1.1 (Nat.le_refl 32) eM) w_L_64 qw_1242 qw_1243 ⟨Nat.le_of_ble_eq_true rfl, Nat.le_of_ble_eq_true rfl⟩ hPM hS hPX hdis2 (by decide) sM_Model rfl rfl (Nat.le_of_ble_eq_true rfl) dL_law_530 (fun H locs hPM hPX hS => ?_)
      refine W.widen (k := cells + 1) (n := slots + 5) (show cells + 1 + 0 ≤ cells + 1 by omega) (show slots + 5 + 0 ≤ slots + 5 by omega) ?_
      refine lv_icmp_eq (tgt := 1117) hx hb dL_law_533 (by decide) (fun _ => ?_) (fun c => absurd ev c)
      refine lv_iinc (v := x3 + 6) (lv' := [(3, .int (x3 + 6)), (0, .ref b), (1, .ref (φ 0)), (2, .ref (ψ 0))]) hx hb dL_law_1117 hl (k := 3) rfl (by rw [show Int32.ofInt 6 = 6 from by decide]) (by decide) rfl (fun ls hl => ?_)
      refine lv_goto (tgt := 18) hx hb dL_law_1120 (by decide) ?_
      exact ih (i + 6) (x3 + 6) _ _ _ H locs ls (cells + 1) (slots + 5) (by rw [ex3, show (6 : Int32) = nI 6 from by decide, nI_add]) (by omega) (by omega) (by omega) (by omega) hR1 hPX hPM hS (lv_sub hl [1, 2, 3, 0] rfl)
    by_cases e12 : sw = 12
    · refine lv_tableIn (tgt := 538) (off := 505) hx hb dL_law_33 (fun q => c9 (Or.inl q)) (fun q => c9 (Or.inr q)) (by rw [e12]; rfl) (by decide) ?_
      obtain ⟨rX, rM, eX, eM, ev, hR1⟩ := h12 MX MM (xs (Int32.toNatClampNeg (x3 + 1))) (xs (Int32.toNatClampNeg (x3 + 2))) hR
      refine lv_aload_n hx hb dL_law_538 rfl (lv_at hl 1 rfl) ?_
      refine lv_aload_n hx hb dL_law_539 rfl (lv_at hl 0 rfl) ?_
      refine lv_iload_n hx hb dL_law_540 rfl (lv_at hl 3 rfl) ?_
      refine lv_iconst (v := 1) hx hb dL_law_541 (by decide) ?_
      refine lv_iadd hx hb dL_law_542 ?_
      refine va_sld hx hb hX hbl hbA hS g1 dL_law_543 ?_
      refine lv_aload_n hx hb dL_law_544 rfl (lv_at hl 0 rfl) ?_
      refine lv_iload_n hx hb dL_law_545 rfl (lv_at hl 3 rfl) ?_
      refine lv_iconst (v := 2) hx hb dL_law_546 (by decide) ?_
      refine lv_iadd hx hb dL_law_547 ?_
      refine va_sld hx hb hX hbl hbA hS g2 dL_law_548 ?_
      refine l_call (As := [.int (xs (Int32.toNatClampNeg (x3 + 1))), .int (xs (Int32.toNatClampNeg (x3 + 2)))]) (rest := []) (a := 0) XX ⟨show cells + 0 ≤ 600000 by omega, show slots + 0 ≤ 7302250 by omega⟩ hl.1 (c_X10_when l XX.2.2.2.1.1 (Nat.le_refl 107) eX) w_L_65 qw_754 qw_755 ⟨Nat.le_of_ble_eq_true rfl, Nat.le_of_ble_eq_true rfl⟩ hPX hS hPM hdis (by decide) sX_KT rfl rfl (Nat.le_of_ble_eq_true rfl) dL_law_549 (fun H locs hPX hPM hS => ?_)
      refine W.widen (k := cells + 1) (n := slots + 5) (show cells + 0 ≤ cells + 1 by omega) (show slots + 0 ≤ slots + 5 by omega) ?_
      refine lv_aload_n hx hb dL_law_552 rfl (lv_at hl 2 rfl) ?_
      refine lv_aload_n hx hb dL_law_553 rfl (lv_at hl 0 rfl) ?_
      refine lv_iload_n hx hb dL_law_554 rfl (lv_at hl 3 rfl) ?_
      refine lv_iconst (v := 1) hx hb dL_law_555 (by decide) ?_
      refine lv_iadd hx hb dL_law_556 ?_
      refine va_sld hx hb hX hbl hbA hS g1 dL_law_557 ?_
      refine lv_aload_n hx hb dL_law_558 rfl (lv_at hl 0 rfl) ?_
      refine lv_iload_n hx hb dL_law_559 rfl (lv_at hl 3 rfl) ?_
      refine lv_iconst (v := 2) hx hb dL_law_560 (by decide) ?_
      refine lv_iadd hx hb dL_law_561 ?_
      refine va_sld hx hb hX hbl hbA hS g2 dL_law_562 ?_
      refine l_call (As := [.int (xs (Int32.toNatClampNeg (x3 + 1))), .int (xs (Int32.toNatClampNeg (x3 + 2)))]) (rest := [.int (rX.1)]) (a := 0) XM ⟨show cells + 1 + 0 ≤ 600000 by omega, show slots + 5 + 0 ≤ 7302250 by omega⟩ hl.1 (c_X11_when l XM.2.2.2.1.1 (Nat.le_refl 32) eM) w_L_68 qw_1246 qw_1247 ⟨Nat.le_of_ble_eq_true rfl, Nat.le_of_ble_eq_true rfl⟩ hPM hS hPX hdis2 (by decide) sM_Model rfl rfl (Nat.le_of_ble_eq_true rfl) dL_law_563 (fun H locs hPM hPX hS => ?_)
      refine W.widen (k := cells + 1) (n := slots + 5) (show cells + 1 + 0 ≤ cells + 1 by omega) (show slots + 5 + 0 ≤ slots + 5 by omega) ?_
      refine lv_icmp_eq (tgt := 1117) hx hb dL_law_566 (by decide) (fun _ => ?_) (fun c => absurd ev c)
      refine lv_iinc (v := x3 + 6) (lv' := [(3, .int (x3 + 6)), (0, .ref b), (1, .ref (φ 0)), (2, .ref (ψ 0))]) hx hb dL_law_1117 hl (k := 3) rfl (by rw [show Int32.ofInt 6 = 6 from by decide]) (by decide) rfl (fun ls hl => ?_)
      refine lv_goto (tgt := 18) hx hb dL_law_1120 (by decide) ?_
      exact ih (i + 6) (x3 + 6) _ _ _ H locs ls (cells + 1) (slots + 5) (by rw [ex3, show (6 : Int32) = nI 6 from by decide, nI_add]) (by omega) (by omega) (by omega) (by omega) hR1 hPX hPM hS (lv_sub hl [1, 2, 3, 0] rfl)
    by_cases e13 : sw = 13
    · refine lv_tableIn (tgt := 571) (off := 538) hx hb dL_law_33 (fun q => c9 (Or.inl q)) (fun q => c9 (Or.inr q)) (by rw [e13]; rfl) (by decide) ?_
      obtain ⟨rX, rM, eX, eM, ev, hR1⟩ := h13 MX MM (xs (Int32.toNatClampNeg (x3 + 1))) hR
      refine lv_aload_n hx hb dL_law_571 rfl (lv_at hl 1 rfl) ?_
      refine lv_aload_n hx hb dL_law_572 rfl (lv_at hl 0 rfl) ?_
      refine lv_iload_n hx hb dL_law_573 rfl (lv_at hl 3 rfl) ?_
      refine lv_iconst (v := 1) hx hb dL_law_574 (by decide) ?_
      refine lv_iadd hx hb dL_law_575 ?_
      refine va_sld hx hb hX hbl hbA hS g1 dL_law_576 ?_
      refine l_call (As := [.int (xs (Int32.toNatClampNeg (x3 + 1)))]) (rest := []) (a := 0) XX ⟨show cells + 0 ≤ 600000 by omega, show slots + 0 ≤ 7302250 by omega⟩ hl.1 (c_X10_things l XX.2.2.2.1.1 (Nat.le_refl 107) eX) w_L_69 qw_758 qw_759 ⟨Nat.le_of_ble_eq_true rfl, Nat.le_of_ble_eq_true rfl⟩ hPX hS hPM hdis (by decide) sX_KT rfl rfl (Nat.le_of_ble_eq_true rfl) dL_law_577 (fun H locs hPX hPM hS => ?_)
      refine W.widen (k := cells + 1) (n := slots + 5) (show cells + 0 ≤ cells + 1 by omega) (show slots + 0 ≤ slots + 5 by omega) ?_
      refine lv_aload_n hx hb dL_law_580 rfl (lv_at hl 2 rfl) ?_
      refine lv_aload_n hx hb dL_law_581 rfl (lv_at hl 0 rfl) ?_
      refine lv_iload_n hx hb dL_law_582 rfl (lv_at hl 3 rfl) ?_
      refine lv_iconst (v := 1) hx hb dL_law_583 (by decide) ?_
      refine lv_iadd hx hb dL_law_584 ?_
      refine va_sld hx hb hX hbl hbA hS g1 dL_law_585 ?_
      refine l_call (As := [.int (xs (Int32.toNatClampNeg (x3 + 1)))]) (rest := [.int (rX.1)]) (a := 0) XM ⟨show cells + 1 + 0 ≤ 600000 by omega, show slots + 5 + 0 ≤ 7302250 by omega⟩ hl.1 (c_X11_things l XM.2.2.2.1.1 (Nat.le_refl 32) eM) w_L_72 qw_1250 qw_1251 ⟨Nat.le_of_ble_eq_true rfl, Nat.le_of_ble_eq_true rfl⟩ hPM hS hPX hdis2 (by decide) sM_Model rfl rfl (Nat.le_of_ble_eq_true rfl) dL_law_586 (fun H locs hPM hPX hS => ?_)
      refine W.widen (k := cells + 1) (n := slots + 5) (show cells + 1 + 0 ≤ cells + 1 by omega) (show slots + 5 + 0 ≤ slots + 5 by omega) ?_
      refine lv_icmp_eq (tgt := 1117) hx hb dL_law_589 (by decide) (fun _ => ?_) (fun c => absurd ev c)
      refine lv_iinc (v := x3 + 6) (lv' := [(3, .int (x3 + 6)), (0, .ref b), (1, .ref (φ 0)), (2, .ref (ψ 0))]) hx hb dL_law_1117 hl (k := 3) rfl (by rw [show Int32.ofInt 6 = 6 from by decide]) (by decide) rfl (fun ls hl => ?_)
      refine lv_goto (tgt := 18) hx hb dL_law_1120 (by decide) ?_
      exact ih (i + 6) (x3 + 6) _ _ _ H locs ls (cells + 1) (slots + 5) (by rw [ex3, show (6 : Int32) = nI 6 from by decide, nI_add]) (by omega) (by omega) (by omega) (by omega) hR1 hPX hPM hS (lv_sub hl [1, 2, 3, 0] rfl)
    by_cases e14 : sw = 14
    · refine lv_tableIn (tgt := 594) (off := 561) hx hb dL_law_33 (fun q => c9 (Or.inl q)) (fun q => c9 (Or.inr q)) (by rw [e14]; rfl) (by decide) ?_
      obtain ⟨rX, rM, eX, eM, ev, hR1⟩ := h14 MX MM hR
      refine lv_aload_n hx hb dL_law_594 rfl (lv_at hl 1 rfl) ?_
      refine l_call (As := []) (rest := []) (a := 0) XX ⟨show cells + 0 ≤ 600000 by omega, show slots + 0 ≤ 7302250 by omega⟩ hl.1 (c_X10_harm l XX.2.2.2.1.1 (Nat.le_refl 107) eX) w_L_73 qw_770 qw_771 ⟨Nat.le_of_ble_eq_true rfl, Nat.le_of_ble_eq_true rfl⟩ hPX hS hPM hdis (by decide) sX_KT rfl rfl (Nat.le_of_ble_eq_true rfl) dL_law_595 (fun H locs hPX hPM hS => ?_)
      refine W.widen (k := cells + 1) (n := slots + 5) (show cells + 0 ≤ cells + 1 by omega) (show slots + 0 ≤ slots + 5 by omega) ?_
      refine lv_aload_n hx hb dL_law_598 rfl (lv_at hl 2 rfl) ?_
      refine l_call (As := []) (rest := [.int (rX.1)]) (a := 0) XM ⟨show cells + 1 + 0 ≤ 600000 by omega, show slots + 5 + 0 ≤ 7302250 by omega⟩ hl.1 (c_X11_harm l XM.2.2.2.1.1 (Nat.le_refl 32) eM) w_L_76 qw_1258 qw_1259 ⟨Nat.le_of_ble_eq_true rfl, Nat.le_of_ble_eq_true rfl⟩ hPM hS hPX hdis2 (by decide) sM_Model rfl rfl (Nat.le_of_ble_eq_true rfl) dL_law_599 (fun H locs hPM hPX hS => ?_)
      refine W.widen (k := cells + 1) (n := slots + 5) (show cells + 1 + 0 ≤ cells + 1 by omega) (show slots + 5 + 0 ≤ slots + 5 by omega) ?_
      refine lv_icmp_eq (tgt := 1117) hx hb dL_law_602 (by decide) (fun _ => ?_) (fun c => absurd ev c)
      refine lv_iinc (v := x3 + 6) (lv' := [(3, .int (x3 + 6)), (0, .ref b), (1, .ref (φ 0)), (2, .ref (ψ 0))]) hx hb dL_law_1117 hl (k := 3) rfl (by rw [show Int32.ofInt 6 = 6 from by decide]) (by decide) rfl (fun ls hl => ?_)
      refine lv_goto (tgt := 18) hx hb dL_law_1120 (by decide) ?_
      exact ih (i + 6) (x3 + 6) _ _ _ H locs ls (cells + 1) (slots + 5) (by rw [ex3, show (6 : Int32) = nI 6 from by decide, nI_add]) (by omega) (by omega) (by omega) (by omega) hR1 hPX hPM hS (lv_sub hl [1, 2, 3, 0] rfl)
    by_cases e15 : sw = 15
    · refine lv_tableIn (tgt := 607) (off := 574) hx hb dL_law_33 (fun q => c9 (Or.inl q)) (fun q => c9 (Or.inr q)) (by rw [e15]; rfl) (by decide) ?_
      obtain ⟨rX, rM, eX, eM, ev, hR1⟩ := h15 MX MM (xs (Int32.toNatClampNeg (x3 + 1))) hR
      refine lv_aload_n hx hb dL_law_607 rfl (lv_at hl 1 rfl) ?_
      refine lv_aload_n hx hb dL_law_608 rfl (lv_at hl 0 rfl) ?_
      refine lv_iload_n hx hb dL_law_609 rfl (lv_at hl 3 rfl) ?_
      refine lv_iconst (v := 1) hx hb dL_law_610 (by decide) ?_
      refine lv_iadd hx hb dL_law_611 ?_
      refine va_sld hx hb hX hbl hbA hS g1 dL_law_612 ?_
      refine l_call (As := [.int (xs (Int32.toNatClampNeg (x3 + 1)))]) (rest := []) (a := 0) XX ⟨show cells + 0 ≤ 600000 by omega, show slots + 0 ≤ 7302250 by omega⟩ hl.1 (c_X10_helps l XX.2.2.2.1.1 (Nat.le_refl 107) eX) w_L_77 qw_787 qw_788 ⟨Nat.le_of_ble_eq_true rfl, Nat.le_of_ble_eq_true rfl⟩ hPX hS hPM hdis (by decide) sX_KT rfl rfl (Nat.le_of_ble_eq_true rfl) dL_law_613 (fun H locs hPX hPM hS => ?_)
      refine W.widen (k := cells + 1) (n := slots + 5) (show cells + 0 ≤ cells + 1 by omega) (show slots + 0 ≤ slots + 5 by omega) ?_
      refine lv_aload_n hx hb dL_law_616 rfl (lv_at hl 2 rfl) ?_
      refine lv_aload_n hx hb dL_law_617 rfl (lv_at hl 0 rfl) ?_
      refine lv_iload_n hx hb dL_law_618 rfl (lv_at hl 3 rfl) ?_
      refine lv_iconst (v := 1) hx hb dL_law_619 (by decide) ?_
      refine lv_iadd hx hb dL_law_620 ?_
      refine va_sld hx hb hX hbl hbA hS g1 dL_law_621 ?_
      refine l_call (As := [.int (xs (Int32.toNatClampNeg (x3 + 1)))]) (rest := [.int (rX.1)]) (a := 0) XM ⟨show cells + 1 + 0 ≤ 600000 by omega, show slots + 5 + 0 ≤ 7302250 by omega⟩ hl.1 (c_X11_helps l XM.2.2.2.1.1 (Nat.le_refl 32) eM) w_L_80 qw_1266 qw_1267 ⟨Nat.le_of_ble_eq_true rfl, Nat.le_of_ble_eq_true rfl⟩ hPM hS hPX hdis2 (by decide) sM_Model rfl rfl (Nat.le_of_ble_eq_true rfl) dL_law_622 (fun H locs hPM hPX hS => ?_)
      refine W.widen (k := cells + 1) (n := slots + 5) (show cells + 1 + 0 ≤ cells + 1 by omega) (show slots + 5 + 0 ≤ slots + 5 by omega) ?_
      refine lv_icmp_eq (tgt := 1117) hx hb dL_law_625 (by decide) (fun _ => ?_) (fun c => absurd ev c)
      refine lv_iinc (v := x3 + 6) (lv' := [(3, .int (x3 + 6)), (0, .ref b), (1, .ref (φ 0)), (2, .ref (ψ 0))]) hx hb dL_law_1117 hl (k := 3) rfl (by rw [show Int32.ofInt 6 = 6 from by decide]) (by decide) rfl (fun ls hl => ?_)
      refine lv_goto (tgt := 18) hx hb dL_law_1120 (by decide) ?_
      exact ih (i + 6) (x3 + 6) _ _ _ H locs ls (cells + 1) (slots + 5) (by rw [ex3, show (6 : Int32) = nI 6 from by decide, nI_add]) (by omega) (by omega) (by omega) (by omega) hR1 hPX hPM hS (lv_sub hl [1, 2, 3, 0] rfl)
    by_cases e16 : sw = 16
    · refine lv_tableIn (tgt := 630) (off := 597) hx hb dL_law_33 (fun q => c9 (Or.inl q)) (fun q => c9 (Or.inr q)) (by rw [e16]; rfl) (by decide) ?_
      obtain ⟨rX, rM, eX, eM, ev, hR1⟩ := h16 MX MM (xs (Int32.toNatClampNeg (x3 + 1))) hR
      refine lv_aload_n hx hb dL_law_630 rfl (lv_at hl 1 rfl) ?_
      refine lv_aload_n hx hb dL_law_631 rfl (lv_at hl 0 rfl) ?_
      refine lv_iload_n hx hb dL_law_632 rfl (lv_at hl 3 rfl) ?_
      refine lv_iconst (v := 1) hx hb dL_law_633 (by decide) ?_
      refine lv_iadd hx hb dL_law_634 ?_
      refine va_sld hx hb hX hbl hbA hS g1 dL_law_635 ?_
      refine l_call (As := [.int (xs (Int32.toNatClampNeg (x3 + 1)))]) (rest := []) (a := 0) XX ⟨show cells + 0 ≤ 600000 by omega, show slots + 0 ≤ 7302250 by omega⟩ hl.1 (c_X10_once l XX.2.2.2.1.1 (Nat.le_refl 107) eX) w_L_81 qw_795 qw_796 ⟨Nat.le_of_ble_eq_true rfl, Nat.le_of_ble_eq_true rfl⟩ hPX hS hPM hdis (by decide) sX_KT rfl rfl (Nat.le_of_ble_eq_true rfl) dL_law_636 (fun H locs hPX hPM hS => ?_)
      refine W.widen (k := cells + 1) (n := slots + 5) (show cells + 0 ≤ cells + 1 by omega) (show slots + 0 ≤ slots + 5 by omega) ?_
      refine lv_aload_n hx hb dL_law_639 rfl (lv_at hl 2 rfl) ?_
      refine lv_aload_n hx hb dL_law_640 rfl (lv_at hl 0 rfl) ?_
      refine lv_iload_n hx hb dL_law_641 rfl (lv_at hl 3 rfl) ?_
      refine lv_iconst (v := 1) hx hb dL_law_642 (by decide) ?_
      refine lv_iadd hx hb dL_law_643 ?_
      refine va_sld hx hb hX hbl hbA hS g1 dL_law_644 ?_
      refine l_call (As := [.int (xs (Int32.toNatClampNeg (x3 + 1)))]) (rest := [.int (rX.1)]) (a := 0) XM ⟨show cells + 1 + 0 ≤ 600000 by omega, show slots + 5 + 0 ≤ 7302250 by omega⟩ hl.1 (c_X11_once l XM.2.2.2.1.1 (Nat.le_refl 32) eM) w_L_84 qw_1271 qw_1272 ⟨Nat.le_of_ble_eq_true rfl, Nat.le_of_ble_eq_true rfl⟩ hPM hS hPX hdis2 (by decide) sM_Model rfl rfl (Nat.le_of_ble_eq_true rfl) dL_law_645 (fun H locs hPM hPX hS => ?_)
      refine W.widen (k := cells + 1) (n := slots + 5) (show cells + 1 + 0 ≤ cells + 1 by omega) (show slots + 5 + 0 ≤ slots + 5 by omega) ?_
      refine lv_icmp_eq (tgt := 1117) hx hb dL_law_648 (by decide) (fun _ => ?_) (fun c => absurd ev c)
      refine lv_iinc (v := x3 + 6) (lv' := [(3, .int (x3 + 6)), (0, .ref b), (1, .ref (φ 0)), (2, .ref (ψ 0))]) hx hb dL_law_1117 hl (k := 3) rfl (by rw [show Int32.ofInt 6 = 6 from by decide]) (by decide) rfl (fun ls hl => ?_)
      refine lv_goto (tgt := 18) hx hb dL_law_1120 (by decide) ?_
      exact ih (i + 6) (x3 + 6) _ _ _ H locs ls (cells + 1) (slots + 5) (by rw [ex3, show (6 : Int32) = nI 6 from by decide, nI_add]) (by omega) (by omega) (by omega) (by omega) hR1 hPX hPM hS (lv_sub hl [1, 2, 3, 0] rfl)
    by_cases e17 : sw = 17
    · refine lv_tableIn (tgt := 653) (off := 620) hx hb dL_law_33 (fun q => c9 (Or.inl q)) (fun q => c9 (Or.inr q)) (by rw [e17]; rfl) (by decide) ?_
      obtain ⟨rX, rM, eX, eM, ev, hR1⟩ := h17 MX MM (xs (Int32.toNatClampNeg (x3 + 1))) (xs (Int32.toNatClampNeg (x3 + 2))) hR
      refine lv_aload_n hx hb dL_law_653 rfl (lv_at hl 1 rfl) ?_
      refine lv_aload_n hx hb dL_law_654 rfl (lv_at hl 0 rfl) ?_
      refine lv_iload_n hx hb dL_law_655 rfl (lv_at hl 3 rfl) ?_
      refine lv_iconst (v := 1) hx hb dL_law_656 (by decide) ?_
      refine lv_iadd hx hb dL_law_657 ?_
      refine va_sld hx hb hX hbl hbA hS g1 dL_law_658 ?_
      refine lv_aload_n hx hb dL_law_659 rfl (lv_at hl 0 rfl) ?_
      refine lv_iload_n hx hb dL_law_660 rfl (lv_at hl 3 rfl) ?_
      refine lv_iconst (v := 2) hx hb dL_law_661 (by decide) ?_
      refine lv_iadd hx hb dL_law_662 ?_
      refine va_sld hx hb hX hbl hbA hS g2 dL_law_663 ?_
      refine l_call (As := [.int (xs (Int32.toNatClampNeg (x3 + 1))), .int (xs (Int32.toNatClampNeg (x3 + 2)))]) (rest := []) (a := 0) XX ⟨show cells + 0 ≤ 600000 by omega, show slots + 0 ≤ 7302250 by omega⟩ hl.1 (c_X10_whose l XX.2.2.2.1.1 (Nat.le_refl 107) eX) w_L_85 qw_799 qw_800 ⟨Nat.le_of_ble_eq_true rfl, Nat.le_of_ble_eq_true rfl⟩ hPX hS hPM hdis (by decide) sX_KT rfl rfl (Nat.le_of_ble_eq_true rfl) dL_law_664 (fun H locs hPX hPM hS => ?_)
      refine W.widen (k := cells + 1) (n := slots + 5) (show cells + 0 ≤ cells + 1 by omega) (show slots + 0 ≤ slots + 5 by omega) ?_
      refine lv_aload_n hx hb dL_law_667 rfl (lv_at hl 2 rfl) ?_
      refine lv_aload_n hx hb dL_law_668 rfl (lv_at hl 0 rfl) ?_
      refine lv_iload_n hx hb dL_law_669 rfl (lv_at hl 3 rfl) ?_
      refine lv_iconst (v := 1) hx hb dL_law_670 (by decide) ?_
      refine lv_iadd hx hb dL_law_671 ?_
      refine va_sld hx hb hX hbl hbA hS g1 dL_law_672 ?_
      refine lv_aload_n hx hb dL_law_673 rfl (lv_at hl 0 rfl) ?_
      refine lv_iload_n hx hb dL_law_674 rfl (lv_at hl 3 rfl) ?_
      refine lv_iconst (v := 2) hx hb dL_law_675 (by decide) ?_
      refine lv_iadd hx hb dL_law_676 ?_
      refine va_sld hx hb hX hbl hbA hS g2 dL_law_677 ?_
      refine l_call (As := [.int (xs (Int32.toNatClampNeg (x3 + 1))), .int (xs (Int32.toNatClampNeg (x3 + 2)))]) (rest := [.int (rX.1)]) (a := 0) XM ⟨show cells + 1 + 0 ≤ 600000 by omega, show slots + 5 + 0 ≤ 7302250 by omega⟩ hl.1 (c_X11_whose l XM.2.2.2.1.1 (Nat.le_refl 32) eM) w_L_88 qw_1275 qw_1276 ⟨Nat.le_of_ble_eq_true rfl, Nat.le_of_ble_eq_true rfl⟩ hPM hS hPX hdis2 (by decide) sM_Model rfl rfl (Nat.le_of_ble_eq_true rfl) dL_law_678 (fun H locs hPM hPX hS => ?_)
      refine W.widen (k := cells + 1) (n := slots + 5) (show cells + 1 + 0 ≤ cells + 1 by omega) (show slots + 5 + 0 ≤ slots + 5 by omega) ?_
      refine lv_icmp_eq (tgt := 1117) hx hb dL_law_681 (by decide) (fun _ => ?_) (fun c => absurd ev c)
      refine lv_iinc (v := x3 + 6) (lv' := [(3, .int (x3 + 6)), (0, .ref b), (1, .ref (φ 0)), (2, .ref (ψ 0))]) hx hb dL_law_1117 hl (k := 3) rfl (by rw [show Int32.ofInt 6 = 6 from by decide]) (by decide) rfl (fun ls hl => ?_)
      refine lv_goto (tgt := 18) hx hb dL_law_1120 (by decide) ?_
      exact ih (i + 6) (x3 + 6) _ _ _ H locs ls (cells + 1) (slots + 5) (by rw [ex3, show (6 : Int32) = nI 6 from by decide, nI_add]) (by omega) (by omega) (by omega) (by omega) hR1 hPX hPM hS (lv_sub hl [1, 2, 3, 0] rfl)
    by_cases e18 : sw = 18
    · refine lv_tableIn (tgt := 686) (off := 653) hx hb dL_law_33 (fun q => c9 (Or.inl q)) (fun q => c9 (Or.inr q)) (by rw [e18]; rfl) (by decide) ?_
      obtain ⟨rX, rM, eX, eM, ev, hR1⟩ := h18 MX MM (xs (Int32.toNatClampNeg (x3 + 1))) (xs (Int32.toNatClampNeg (x3 + 2))) hR
      refine lv_aload_n hx hb dL_law_686 rfl (lv_at hl 1 rfl) ?_
      refine lv_aload_n hx hb dL_law_687 rfl (lv_at hl 0 rfl) ?_
      refine lv_iload_n hx hb dL_law_688 rfl (lv_at hl 3 rfl) ?_
      refine lv_iconst (v := 1) hx hb dL_law_689 (by decide) ?_
      refine lv_iadd hx hb dL_law_690 ?_
      refine va_sld hx hb hX hbl hbA hS g1 dL_law_691 ?_
      refine lv_aload_n hx hb dL_law_692 rfl (lv_at hl 0 rfl) ?_
      refine lv_iload_n hx hb dL_law_693 rfl (lv_at hl 3 rfl) ?_
      refine lv_iconst (v := 2) hx hb dL_law_694 (by decide) ?_
      refine lv_iadd hx hb dL_law_695 ?_
      refine va_sld hx hb hX hbl hbA hS g2 dL_law_696 ?_
      refine l_call (As := [.int (xs (Int32.toNatClampNeg (x3 + 1))), .int (xs (Int32.toNatClampNeg (x3 + 2)))]) (rest := []) (a := 0) XX ⟨show cells + 0 ≤ 600000 by omega, show slots + 0 ≤ 7302250 by omega⟩ hl.1 (c_X10_mark l XX.2.2.2.1.1 (Nat.le_refl 107) eX) w_L_89 qw_803 qw_804 ⟨Nat.le_of_ble_eq_true rfl, Nat.le_of_ble_eq_true rfl⟩ hPX hS hPM hdis (by decide) sX_KT rfl rfl (Nat.le_of_ble_eq_true rfl) dL_law_697 (fun H locs hPX hPM hS => ?_)
      refine W.widen (k := cells + 1) (n := slots + 5) (show cells + 0 ≤ cells + 1 by omega) (show slots + 0 ≤ slots + 5 by omega) ?_
      refine lv_aload_n hx hb dL_law_700 rfl (lv_at hl 2 rfl) ?_
      refine lv_aload_n hx hb dL_law_701 rfl (lv_at hl 0 rfl) ?_
      refine lv_iload_n hx hb dL_law_702 rfl (lv_at hl 3 rfl) ?_
      refine lv_iconst (v := 1) hx hb dL_law_703 (by decide) ?_
      refine lv_iadd hx hb dL_law_704 ?_
      refine va_sld hx hb hX hbl hbA hS g1 dL_law_705 ?_
      refine lv_aload_n hx hb dL_law_706 rfl (lv_at hl 0 rfl) ?_
      refine lv_iload_n hx hb dL_law_707 rfl (lv_at hl 3 rfl) ?_
      refine lv_iconst (v := 2) hx hb dL_law_708 (by decide) ?_
      refine lv_iadd hx hb dL_law_709 ?_
      refine va_sld hx hb hX hbl hbA hS g2 dL_law_710 ?_
      refine l_call (As := [.int (xs (Int32.toNatClampNeg (x3 + 1))), .int (xs (Int32.toNatClampNeg (x3 + 2)))]) (rest := [.int (rX.1)]) (a := 0) XM ⟨show cells + 1 + 0 ≤ 600000 by omega, show slots + 5 + 0 ≤ 7302250 by omega⟩ hl.1 (c_X11_mark l XM.2.2.2.1.1 (Nat.le_refl 32) eM) w_L_92 qw_1279 qw_1280 ⟨Nat.le_of_ble_eq_true rfl, Nat.le_of_ble_eq_true rfl⟩ hPM hS hPX hdis2 (by decide) sM_Model rfl rfl (Nat.le_of_ble_eq_true rfl) dL_law_711 (fun H locs hPM hPX hS => ?_)
      refine W.widen (k := cells + 1) (n := slots + 5) (show cells + 1 + 0 ≤ cells + 1 by omega) (show slots + 5 + 0 ≤ slots + 5 by omega) ?_
      refine lv_icmp_eq (tgt := 1117) hx hb dL_law_714 (by decide) (fun _ => ?_) (fun c => absurd ev c)
      refine lv_iinc (v := x3 + 6) (lv' := [(3, .int (x3 + 6)), (0, .ref b), (1, .ref (φ 0)), (2, .ref (ψ 0))]) hx hb dL_law_1117 hl (k := 3) rfl (by rw [show Int32.ofInt 6 = 6 from by decide]) (by decide) rfl (fun ls hl => ?_)
      refine lv_goto (tgt := 18) hx hb dL_law_1120 (by decide) ?_
      exact ih (i + 6) (x3 + 6) _ _ _ H locs ls (cells + 1) (slots + 5) (by rw [ex3, show (6 : Int32) = nI 6 from by decide, nI_add]) (by omega) (by omega) (by omega) (by omega) hR1 hPX hPM hS (lv_sub hl [1, 2, 3, 0] rfl)
    by_cases e19 : sw = 19
    · refine lv_tableIn (tgt := 719) (off := 686) hx hb dL_law_33 (fun q => c9 (Or.inl q)) (fun q => c9 (Or.inr q)) (by rw [e19]; rfl) (by decide) ?_
      obtain ⟨rX, rM, eX, eM, ev, hR1⟩ := h19 MX MM Lw hR
      refine lv_aload_n hx hb dL_law_719 rfl (lv_at hl 1 rfl) ?_
      refine l_call (As := []) (rest := []) (a := 0) XX ⟨show cells + 0 ≤ 600000 by omega, show slots + 0 ≤ 7302250 by omega⟩ hl.1 (c_X10_orders l XX.2.2.2.1.1 (Nat.le_refl 107) eX) w_L_93 qw_811 qw_812 ⟨Nat.le_of_ble_eq_true rfl, Nat.le_of_ble_eq_true rfl⟩ hPX hS hPM hdis (by decide) sX_KT rfl rfl (Nat.le_of_ble_eq_true rfl) dL_law_720 (fun H locs hPX hPM hS => ?_)
      refine W.widen (k := cells + 1) (n := slots + 5) (show cells + 0 ≤ cells + 1 by omega) (show slots + 0 ≤ slots + 5 by omega) ?_
      refine lv_aload_n hx hb dL_law_723 rfl (lv_at hl 2 rfl) ?_
      refine l_call (As := []) (rest := [.long (rX.1)]) (a := 0) XM ⟨show cells + 1 + 0 ≤ 600000 by omega, show slots + 5 + 0 ≤ 7302250 by omega⟩ hl.1 (c_X11_orders l XM.2.2.2.1.1 (Nat.le_refl 32) eM) w_L_97 qw_1283 qw_1284 ⟨Nat.le_of_ble_eq_true rfl, Nat.le_of_ble_eq_true rfl⟩ hPM hS hPX hdis2 (by decide) sM_Model rfl rfl (Nat.le_of_ble_eq_true rfl) dL_law_724 (fun H locs hPM hPX hS => ?_)
      refine W.widen (k := cells + 1) (n := slots + 5) (show cells + 1 + 0 ≤ cells + 1 by omega) (show slots + 5 + 0 ≤ slots + 5 by omega) ?_
      refine W.lcmp hx hb dL_law_727 ?_
      refine lv_if_eq (tgt := 1117) hx hb dL_law_728 (by decide) (fun _ => ?_) (fun c => absurd (by rw [ev]; exact lg_self _) c)
      refine lv_iinc (v := x3 + 6) (lv' := [(3, .int (x3 + 6)), (0, .ref b), (1, .ref (φ 0)), (2, .ref (ψ 0))]) hx hb dL_law_1117 hl (k := 3) rfl (by rw [show Int32.ofInt 6 = 6 from by decide]) (by decide) rfl (fun ls hl => ?_)
      refine lv_goto (tgt := 18) hx hb dL_law_1120 (by decide) ?_
      exact ih (i + 6) (x3 + 6) _ _ _ H locs ls (cells + 1) (slots + 5) (by rw [ex3, show (6 : Int32) = nI 6 from by decide, nI_add]) (by omega) (by omega) (by omega) (by omega) hR1 hPX hPM hS (lv_sub hl [1, 2, 3, 0] rfl)
    by_cases e20 : sw = 20
    · refine lv_tableIn (tgt := 733) (off := 700) hx hb dL_law_33 (fun q => c9 (Or.inl q)) (fun q => c9 (Or.inr q)) (by rw [e20]; rfl) (by decide) ?_
      obtain ⟨rX, rM, eX, eM, ev, hR1⟩ := h20 MX MM Lw (xs (Int32.toNatClampNeg (x3 + 1))) (xs (Int32.toNatClampNeg (x3 + 2))) (xs (Int32.toNatClampNeg (x3 + 3))) hR
      refine lv_aload_n hx hb dL_law_733 rfl (lv_at hl 1 rfl) ?_
      refine lv_aload_n hx hb dL_law_734 rfl (lv_at hl 0 rfl) ?_
      refine lv_iload_n hx hb dL_law_735 rfl (lv_at hl 3 rfl) ?_
      refine lv_iconst (v := 1) hx hb dL_law_736 (by decide) ?_
      refine lv_iadd hx hb dL_law_737 ?_
      refine va_sld hx hb hX hbl hbA hS g1 dL_law_738 ?_
      refine lv_aload_n hx hb dL_law_739 rfl (lv_at hl 0 rfl) ?_
      refine lv_iload_n hx hb dL_law_740 rfl (lv_at hl 3 rfl) ?_
      refine lv_iconst (v := 2) hx hb dL_law_741 (by decide) ?_
      refine lv_iadd hx hb dL_law_742 ?_
      refine va_sld hx hb hX hbl hbA hS g2 dL_law_743 ?_
      refine lv_aload_n hx hb dL_law_744 rfl (lv_at hl 0 rfl) ?_
      refine lv_iload_n hx hb dL_law_745 rfl (lv_at hl 3 rfl) ?_
      refine lv_iconst (v := 3) hx hb dL_law_746 (by decide) ?_
      refine lv_iadd hx hb dL_law_747 ?_
      refine va_sld hx hb hX hbl hbA hS g3 dL_law_748 ?_
      refine l_call (As := [.int (xs (Int32.toNatClampNeg (x3 + 1))), .int (xs (Int32.toNatClampNeg (x3 + 2))), .int (xs (Int32.toNatClampNeg (x3 + 3)))]) (rest := []) (a := 0) XX ⟨show cells + 0 ≤ 600000 by omega, show slots + 0 ≤ 7302250 by omega⟩ hl.1 (c_X10_odds l XX.2.2.2.1.1 (Nat.le_refl 107) eX) w_L_98 qw_824 qw_825 ⟨Nat.le_of_ble_eq_true rfl, Nat.le_of_ble_eq_true rfl⟩ hPX hS hPM hdis (by decide) sX_KT rfl rfl (Nat.le_of_ble_eq_true rfl) dL_law_749 (fun H locs hPX hPM hS => ?_)
      refine W.widen (k := cells + 1) (n := slots + 5) (show cells + 0 ≤ cells + 1 by omega) (show slots + 0 ≤ slots + 5 by omega) ?_
      refine lv_aload_n hx hb dL_law_752 rfl (lv_at hl 2 rfl) ?_
      refine lv_aload_n hx hb dL_law_753 rfl (lv_at hl 0 rfl) ?_
      refine lv_iload_n hx hb dL_law_754 rfl (lv_at hl 3 rfl) ?_
      refine lv_iconst (v := 1) hx hb dL_law_755 (by decide) ?_
      refine lv_iadd hx hb dL_law_756 ?_
      refine va_sld hx hb hX hbl hbA hS g1 dL_law_757 ?_
      refine lv_aload_n hx hb dL_law_758 rfl (lv_at hl 0 rfl) ?_
      refine lv_iload_n hx hb dL_law_759 rfl (lv_at hl 3 rfl) ?_
      refine lv_iconst (v := 2) hx hb dL_law_760 (by decide) ?_
      refine lv_iadd hx hb dL_law_761 ?_
      refine va_sld hx hb hX hbl hbA hS g2 dL_law_762 ?_
      refine lv_aload_n hx hb dL_law_763 rfl (lv_at hl 0 rfl) ?_
      refine lv_iload_n hx hb dL_law_764 rfl (lv_at hl 3 rfl) ?_
      refine lv_iconst (v := 3) hx hb dL_law_765 (by decide) ?_
      refine lv_iadd hx hb dL_law_766 ?_
      refine va_sld hx hb hX hbl hbA hS g3 dL_law_767 ?_
      refine l_call (As := [.int (xs (Int32.toNatClampNeg (x3 + 1))), .int (xs (Int32.toNatClampNeg (x3 + 2))), .int (xs (Int32.toNatClampNeg (x3 + 3)))]) (rest := [.long (rX.1)]) (a := 0) XM ⟨show cells + 1 + 0 ≤ 600000 by omega, show slots + 5 + 0 ≤ 7302250 by omega⟩ hl.1 (c_X11_odds l XM.2.2.2.1.1 (Nat.le_refl 32) eM) w_L_102 qw_1291 qw_1292 ⟨Nat.le_of_ble_eq_true rfl, Nat.le_of_ble_eq_true rfl⟩ hPM hS hPX hdis2 (by decide) sM_Model rfl rfl (Nat.le_of_ble_eq_true rfl) dL_law_768 (fun H locs hPM hPX hS => ?_)
      refine W.widen (k := cells + 1) (n := slots + 5) (show cells + 1 + 0 ≤ cells + 1 by omega) (show slots + 5 + 0 ≤ slots + 5 by omega) ?_
      refine W.lcmp hx hb dL_law_771 ?_
      refine lv_if_eq (tgt := 1117) hx hb dL_law_772 (by decide) (fun _ => ?_) (fun c => absurd (by rw [ev]; exact lg_self _) c)
      refine lv_iinc (v := x3 + 6) (lv' := [(3, .int (x3 + 6)), (0, .ref b), (1, .ref (φ 0)), (2, .ref (ψ 0))]) hx hb dL_law_1117 hl (k := 3) rfl (by rw [show Int32.ofInt 6 = 6 from by decide]) (by decide) rfl (fun ls hl => ?_)
      refine lv_goto (tgt := 18) hx hb dL_law_1120 (by decide) ?_
      exact ih (i + 6) (x3 + 6) _ _ _ H locs ls (cells + 1) (slots + 5) (by rw [ex3, show (6 : Int32) = nI 6 from by decide, nI_add]) (by omega) (by omega) (by omega) (by omega) hR1 hPX hPM hS (lv_sub hl [1, 2, 3, 0] rfl)
    by_cases e21 : sw = 21
    · refine lv_tableIn (tgt := 777) (off := 744) hx hb dL_law_33 (fun q => c9 (Or.inl q)) (fun q => c9 (Or.inr q)) (by rw [e21]; rfl) (by decide) ?_
      obtain ⟨rX, rM, eX, eM, ev, hR1⟩ := h21 MX MM Lw (xs (Int32.toNatClampNeg (x3 + 1))) (xs (Int32.toNatClampNeg (x3 + 2))) hR
      refine lv_aload_n hx hb dL_law_777 rfl (lv_at hl 1 rfl) ?_
      refine lv_aload_n hx hb dL_law_778 rfl (lv_at hl 0 rfl) ?_
      refine lv_iload_n hx hb dL_law_779 rfl (lv_at hl 3 rfl) ?_
      refine lv_iconst (v := 1) hx hb dL_law_780 (by decide) ?_
      refine lv_iadd hx hb dL_law_781 ?_
      refine va_sld hx hb hX hbl hbA hS g1 dL_law_782 ?_
      refine lv_aload_n hx hb dL_law_783 rfl (lv_at hl 0 rfl) ?_
      refine lv_iload_n hx hb dL_law_784 rfl (lv_at hl 3 rfl) ?_
      refine lv_iconst (v := 2) hx hb dL_law_785 (by decide) ?_
      refine lv_iadd hx hb dL_law_786 ?_
      refine va_sld hx hb hX hbl hbA hS g2 dL_law_787 ?_
      refine l_call (As := [.int (xs (Int32.toNatClampNeg (x3 + 1))), .int (xs (Int32.toNatClampNeg (x3 + 2)))]) (rest := []) (a := 0) XX ⟨show cells + 0 ≤ 600000 by omega, show slots + 0 ≤ 7302250 by omega⟩ hl.1 (c_X10_place l XX.2.2.2.1.1 (Nat.le_refl 107) eX) w_L_103 qw_832 qw_833 ⟨Nat.le_of_ble_eq_true rfl, Nat.le_of_ble_eq_true rfl⟩ hPX hS hPM hdis (by decide) sX_KT rfl rfl (Nat.le_of_ble_eq_true rfl) dL_law_788 (fun H locs hPX hPM hS => ?_)
      refine W.widen (k := cells + 1) (n := slots + 5) (show cells + 0 ≤ cells + 1 by omega) (show slots + 0 ≤ slots + 5 by omega) ?_
      refine lv_aload_n hx hb dL_law_791 rfl (lv_at hl 2 rfl) ?_
      refine lv_aload_n hx hb dL_law_792 rfl (lv_at hl 0 rfl) ?_
      refine lv_iload_n hx hb dL_law_793 rfl (lv_at hl 3 rfl) ?_
      refine lv_iconst (v := 1) hx hb dL_law_794 (by decide) ?_
      refine lv_iadd hx hb dL_law_795 ?_
      refine va_sld hx hb hX hbl hbA hS g1 dL_law_796 ?_
      refine lv_aload_n hx hb dL_law_797 rfl (lv_at hl 0 rfl) ?_
      refine lv_iload_n hx hb dL_law_798 rfl (lv_at hl 3 rfl) ?_
      refine lv_iconst (v := 2) hx hb dL_law_799 (by decide) ?_
      refine lv_iadd hx hb dL_law_800 ?_
      refine va_sld hx hb hX hbl hbA hS g2 dL_law_801 ?_
      refine l_call (As := [.int (xs (Int32.toNatClampNeg (x3 + 1))), .int (xs (Int32.toNatClampNeg (x3 + 2)))]) (rest := [.int (rX.1)]) (a := 0) XM ⟨show cells + 1 + 0 ≤ 600000 by omega, show slots + 5 + 0 ≤ 7302250 by omega⟩ hl.1 (c_X11_place l XM.2.2.2.1.1 (Nat.le_refl 32) eM) w_L_106 qw_1296 qw_1297 ⟨Nat.le_of_ble_eq_true rfl, Nat.le_of_ble_eq_true rfl⟩ hPM hS hPX hdis2 (by decide) sM_Model rfl rfl (Nat.le_of_ble_eq_true rfl) dL_law_802 (fun H locs hPM hPX hS => ?_)
      refine W.widen (k := cells + 1) (n := slots + 5) (show cells + 1 + 0 ≤ cells + 1 by omega) (show slots + 5 + 0 ≤ slots + 5 by omega) ?_
      refine lv_icmp_eq (tgt := 1117) hx hb dL_law_805 (by decide) (fun _ => ?_) (fun c => absurd ev c)
      refine lv_iinc (v := x3 + 6) (lv' := [(3, .int (x3 + 6)), (0, .ref b), (1, .ref (φ 0)), (2, .ref (ψ 0))]) hx hb dL_law_1117 hl (k := 3) rfl (by rw [show Int32.ofInt 6 = 6 from by decide]) (by decide) rfl (fun ls hl => ?_)
      refine lv_goto (tgt := 18) hx hb dL_law_1120 (by decide) ?_
      exact ih (i + 6) (x3 + 6) _ _ _ H locs ls (cells + 1) (slots + 5) (by rw [ex3, show (6 : Int32) = nI 6 from by decide, nI_add]) (by omega) (by omega) (by omega) (by omega) hR1 hPX hPM hS (lv_sub hl [1, 2, 3, 0] rfl)
    by_cases e22 : sw = 22
    · refine lv_tableIn (tgt := 810) (off := 777) hx hb dL_law_33 (fun q => c9 (Or.inl q)) (fun q => c9 (Or.inr q)) (by rw [e22]; rfl) (by decide) ?_
      obtain ⟨rX, rM, eX, eM, ev, hR1⟩ := h22 MX MM (xs (Int32.toNatClampNeg (x3 + 1))) hR
      refine lv_aload_n hx hb dL_law_810 rfl (lv_at hl 1 rfl) ?_
      refine lv_aload_n hx hb dL_law_811 rfl (lv_at hl 0 rfl) ?_
      refine lv_iload_n hx hb dL_law_812 rfl (lv_at hl 3 rfl) ?_
      refine lv_iconst (v := 1) hx hb dL_law_813 (by decide) ?_
      refine lv_iadd hx hb dL_law_814 ?_
      refine va_sld hx hb hX hbl hbA hS g1 dL_law_815 ?_
      refine l_call (As := [.int (xs (Int32.toNatClampNeg (x3 + 1)))]) (rest := []) (a := 0) XX ⟨show cells + 0 ≤ 600000 by omega, show slots + 0 ≤ 7302250 by omega⟩ hl.1 (c_X10_came l XX.2.2.2.1.1 (Nat.le_refl 107) eX) w_L_107 qw_846 qw_847 ⟨Nat.le_of_ble_eq_true rfl, Nat.le_of_ble_eq_true rfl⟩ hPX hS hPM hdis (by decide) sX_KT rfl rfl (Nat.le_of_ble_eq_true rfl) dL_law_816 (fun H locs hPX hPM hS => ?_)
      refine W.widen (k := cells + 1) (n := slots + 5) (show cells + 0 ≤ cells + 1 by omega) (show slots + 0 ≤ slots + 5 by omega) ?_
      refine lv_aload_n hx hb dL_law_819 rfl (lv_at hl 2 rfl) ?_
      refine lv_aload_n hx hb dL_law_820 rfl (lv_at hl 0 rfl) ?_
      refine lv_iload_n hx hb dL_law_821 rfl (lv_at hl 3 rfl) ?_
      refine lv_iconst (v := 1) hx hb dL_law_822 (by decide) ?_
      refine lv_iadd hx hb dL_law_823 ?_
      refine va_sld hx hb hX hbl hbA hS g1 dL_law_824 ?_
      refine l_call (As := [.int (xs (Int32.toNatClampNeg (x3 + 1)))]) (rest := [.int (rX)]) (a := 0) XM ⟨show cells + 1 + 0 ≤ 600000 by omega, show slots + 5 + 0 ≤ 7302250 by omega⟩ hl.1 (c_X11_came l XM.2.2.2.1.1 (Nat.le_refl 32) eM) w_L_110 qw_1301 qw_1302 ⟨Nat.le_of_ble_eq_true rfl, Nat.le_of_ble_eq_true rfl⟩ hPM hS hPX hdis2 (by decide) sM_Model rfl rfl (Nat.le_of_ble_eq_true rfl) dL_law_825 (fun H locs hPM hPX hS => ?_)
      refine W.widen (k := cells + 1) (n := slots + 5) (show cells + 1 + 0 ≤ cells + 1 by omega) (show slots + 5 + 0 ≤ slots + 5 by omega) ?_
      refine lv_icmp_eq (tgt := 1117) hx hb dL_law_828 (by decide) (fun _ => ?_) (fun c => absurd ev c)
      refine lv_iinc (v := x3 + 6) (lv' := [(3, .int (x3 + 6)), (0, .ref b), (1, .ref (φ 0)), (2, .ref (ψ 0))]) hx hb dL_law_1117 hl (k := 3) rfl (by rw [show Int32.ofInt 6 = 6 from by decide]) (by decide) rfl (fun ls hl => ?_)
      refine lv_goto (tgt := 18) hx hb dL_law_1120 (by decide) ?_
      exact ih (i + 6) (x3 + 6) _ _ _ H locs ls (cells + 1) (slots + 5) (by rw [ex3, show (6 : Int32) = nI 6 from by decide, nI_add]) (by omega) (by omega) (by omega) (by omega) hR1 hPX hPM hS (lv_sub hl [1, 2, 3, 0] rfl)
    by_cases e23 : sw = 23
    · refine lv_tableIn (tgt := 833) (off := 800) hx hb dL_law_33 (fun q => c9 (Or.inl q)) (fun q => c9 (Or.inr q)) (by rw [e23]; rfl) (by decide) ?_
      obtain ⟨rX, rM, eX, eM, ev, hR1⟩ := h23 MX MM hR
      refine lv_aload_n hx hb dL_law_833 rfl (lv_at hl 1 rfl) ?_
      refine l_call (As := []) (rest := []) (a := 0) XX ⟨show cells + 0 ≤ 600000 by omega, show slots + 0 ≤ 7302250 by omega⟩ hl.1 (c_X10_image l XX.2.2.2.1.1 (Nat.le_refl 107) eX) w_L_111 qw_862 qw_863 ⟨Nat.le_of_ble_eq_true rfl, Nat.le_of_ble_eq_true rfl⟩ hPX hS hPM hdis (by decide) sX_KT rfl rfl (Nat.le_of_ble_eq_true rfl) dL_law_834 (fun H locs hPX hPM hS => ?_)
      refine W.widen (k := cells + 1) (n := slots + 5) (show cells + 0 ≤ cells + 1 by omega) (show slots + 0 ≤ slots + 5 by omega) ?_
      refine lv_aload_n hx hb dL_law_837 rfl (lv_at hl 2 rfl) ?_
      refine l_call (As := []) (rest := [.int (rX.1)]) (a := 0) XM ⟨show cells + 1 + 0 ≤ 600000 by omega, show slots + 5 + 0 ≤ 7302250 by omega⟩ hl.1 (c_X11_image l XM.2.2.2.1.1 (Nat.le_refl 32) eM) w_L_114 qw_1305 qw_1306 ⟨Nat.le_of_ble_eq_true rfl, Nat.le_of_ble_eq_true rfl⟩ hPM hS hPX hdis2 (by decide) sM_Model rfl rfl (Nat.le_of_ble_eq_true rfl) dL_law_838 (fun H locs hPM hPX hS => ?_)
      refine W.widen (k := cells + 1) (n := slots + 5) (show cells + 1 + 0 ≤ cells + 1 by omega) (show slots + 5 + 0 ≤ slots + 5 by omega) ?_
      refine lv_icmp_eq (tgt := 1117) hx hb dL_law_841 (by decide) (fun _ => ?_) (fun c => absurd ev c)
      refine lv_iinc (v := x3 + 6) (lv' := [(3, .int (x3 + 6)), (0, .ref b), (1, .ref (φ 0)), (2, .ref (ψ 0))]) hx hb dL_law_1117 hl (k := 3) rfl (by rw [show Int32.ofInt 6 = 6 from by decide]) (by decide) rfl (fun ls hl => ?_)
      refine lv_goto (tgt := 18) hx hb dL_law_1120 (by decide) ?_
      exact ih (i + 6) (x3 + 6) _ _ _ H locs ls (cells + 1) (slots + 5) (by rw [ex3, show (6 : Int32) = nI 6 from by decide, nI_add]) (by omega) (by omega) (by omega) (by omega) hR1 hPX hPM hS (lv_sub hl [1, 2, 3, 0] rfl)
    by_cases e24 : sw = 24
    · refine lv_tableIn (tgt := 846) (off := 813) hx hb dL_law_33 (fun q => c9 (Or.inl q)) (fun q => c9 (Or.inr q)) (by rw [e24]; rfl) (by decide) ?_
      obtain ⟨rX, rM, eX, eM, ev, hR1⟩ := h24 MX MM hR
      refine lv_aload_n hx hb dL_law_846 rfl (lv_at hl 1 rfl) ?_
      refine l_call (As := []) (rest := []) (a := 0) XX ⟨show cells + 0 ≤ 600000 by omega, show slots + 0 ≤ 7302250 by omega⟩ hl.1 (c_X10_back l XX.2.2.2.1.1 (Nat.le_refl 107) eX) w_L_115 qw_869 qw_870 ⟨Nat.le_of_ble_eq_true rfl, Nat.le_of_ble_eq_true rfl⟩ hPX hS hPM hdis (by decide) sX_KT rfl rfl (Nat.le_of_ble_eq_true rfl) dL_law_847 (fun H locs hPX hPM hS => ?_)
      refine W.widen (k := cells + 1) (n := slots + 5) (show cells + 0 ≤ cells + 1 by omega) (show slots + 0 ≤ slots + 5 by omega) ?_
      refine lv_aload_n hx hb dL_law_850 rfl (lv_at hl 2 rfl) ?_
      refine l_call (As := []) (rest := [.int (rX.1)]) (a := 0) XM ⟨show cells + 1 + 0 ≤ 600000 by omega, show slots + 5 + 0 ≤ 7302250 by omega⟩ hl.1 (c_X11_back l XM.2.2.2.1.1 (Nat.le_refl 32) eM) w_L_118 qw_1309 qw_1310 ⟨Nat.le_of_ble_eq_true rfl, Nat.le_of_ble_eq_true rfl⟩ hPM hS hPX hdis2 (by decide) sM_Model rfl rfl (Nat.le_of_ble_eq_true rfl) dL_law_851 (fun H locs hPM hPX hS => ?_)
      refine W.widen (k := cells + 1) (n := slots + 5) (show cells + 1 + 0 ≤ cells + 1 by omega) (show slots + 5 + 0 ≤ slots + 5 by omega) ?_
      refine lv_icmp_eq (tgt := 1117) hx hb dL_law_854 (by decide) (fun _ => ?_) (fun c => absurd ev c)
      refine lv_iinc (v := x3 + 6) (lv' := [(3, .int (x3 + 6)), (0, .ref b), (1, .ref (φ 0)), (2, .ref (ψ 0))]) hx hb dL_law_1117 hl (k := 3) rfl (by rw [show Int32.ofInt 6 = 6 from by decide]) (by decide) rfl (fun ls hl => ?_)
      refine lv_goto (tgt := 18) hx hb dL_law_1120 (by decide) ?_
      exact ih (i + 6) (x3 + 6) _ _ _ H locs ls (cells + 1) (slots + 5) (by rw [ex3, show (6 : Int32) = nI 6 from by decide, nI_add]) (by omega) (by omega) (by omega) (by omega) hR1 hPX hPM hS (lv_sub hl [1, 2, 3, 0] rfl)
    by_cases e25 : sw = 25
    · refine lv_tableIn (tgt := 859) (off := 826) hx hb dL_law_33 (fun q => c9 (Or.inl q)) (fun q => c9 (Or.inr q)) (by rw [e25]; rfl) (by decide) ?_
      obtain ⟨rX, rM, eX, eM, ev, hR1⟩ := h25 MX MM (xs (Int32.toNatClampNeg (x3 + 1))) hR
      refine lv_aload_n hx hb dL_law_859 rfl (lv_at hl 1 rfl) ?_
      refine lv_aload_n hx hb dL_law_860 rfl (lv_at hl 0 rfl) ?_
      refine lv_iload_n hx hb dL_law_861 rfl (lv_at hl 3 rfl) ?_
      refine lv_iconst (v := 1) hx hb dL_law_862 (by decide) ?_
      refine lv_iadd hx hb dL_law_863 ?_
      refine va_sld hx hb hX hbl hbA hS g1 dL_law_864 ?_
      refine l_call (As := [.int (xs (Int32.toNatClampNeg (x3 + 1)))]) (rest := []) (a := 0) XX ⟨show cells + 0 ≤ 600000 by omega, show slots + 0 ≤ 7302250 by omega⟩ hl.1 (c_X10_count l XX.2.2.2.1.1 (Nat.le_refl 107) eX) w_L_119 qw_873 qw_874 ⟨Nat.le_of_ble_eq_true rfl, Nat.le_of_ble_eq_true rfl⟩ hPX hS hPM hdis (by decide) sX_KT rfl rfl (Nat.le_of_ble_eq_true rfl) dL_law_865 (fun H locs hPX hPM hS => ?_)
      refine W.widen (k := cells + 1) (n := slots + 5) (show cells + 0 ≤ cells + 1 by omega) (show slots + 0 ≤ slots + 5 by omega) ?_
      refine lv_aload_n hx hb dL_law_868 rfl (lv_at hl 2 rfl) ?_
      refine lv_aload_n hx hb dL_law_869 rfl (lv_at hl 0 rfl) ?_
      refine lv_iload_n hx hb dL_law_870 rfl (lv_at hl 3 rfl) ?_
      refine lv_iconst (v := 1) hx hb dL_law_871 (by decide) ?_
      refine lv_iadd hx hb dL_law_872 ?_
      refine va_sld hx hb hX hbl hbA hS g1 dL_law_873 ?_
      refine l_call (As := [.int (xs (Int32.toNatClampNeg (x3 + 1)))]) (rest := [.int (rX)]) (a := 0) XM ⟨show cells + 1 + 0 ≤ 600000 by omega, show slots + 5 + 0 ≤ 7302250 by omega⟩ hl.1 (c_X11_count l XM.2.2.2.1.1 (Nat.le_refl 32) eM) w_L_122 qw_1313 qw_1314 ⟨Nat.le_of_ble_eq_true rfl, Nat.le_of_ble_eq_true rfl⟩ hPM hS hPX hdis2 (by decide) sM_Model rfl rfl (Nat.le_of_ble_eq_true rfl) dL_law_874 (fun H locs hPM hPX hS => ?_)
      refine W.widen (k := cells + 1) (n := slots + 5) (show cells + 1 + 0 ≤ cells + 1 by omega) (show slots + 5 + 0 ≤ slots + 5 by omega) ?_
      refine lv_icmp_eq (tgt := 1117) hx hb dL_law_877 (by decide) (fun _ => ?_) (fun c => absurd ev c)
      refine lv_iinc (v := x3 + 6) (lv' := [(3, .int (x3 + 6)), (0, .ref b), (1, .ref (φ 0)), (2, .ref (ψ 0))]) hx hb dL_law_1117 hl (k := 3) rfl (by rw [show Int32.ofInt 6 = 6 from by decide]) (by decide) rfl (fun ls hl => ?_)
      refine lv_goto (tgt := 18) hx hb dL_law_1120 (by decide) ?_
      exact ih (i + 6) (x3 + 6) _ _ _ H locs ls (cells + 1) (slots + 5) (by rw [ex3, show (6 : Int32) = nI 6 from by decide, nI_add]) (by omega) (by omega) (by omega) (by omega) hR1 hPX hPM hS (lv_sub hl [1, 2, 3, 0] rfl)
    by_cases e26 : sw = 26
    · refine lv_tableIn (tgt := 882) (off := 849) hx hb dL_law_33 (fun q => c9 (Or.inl q)) (fun q => c9 (Or.inr q)) (by rw [e26]; rfl) (by decide) ?_
      obtain ⟨rX, rM, eX, eM, ev, hR1⟩ := h26 MX MM (xs (Int32.toNatClampNeg (x3 + 1))) (xs (Int32.toNatClampNeg (x3 + 2))) (xs (Int32.toNatClampNeg (x3 + 3))) hR
      refine lv_aload_n hx hb dL_law_882 rfl (lv_at hl 1 rfl) ?_
      refine lv_aload_n hx hb dL_law_883 rfl (lv_at hl 0 rfl) ?_
      refine lv_iload_n hx hb dL_law_884 rfl (lv_at hl 3 rfl) ?_
      refine lv_iconst (v := 1) hx hb dL_law_885 (by decide) ?_
      refine lv_iadd hx hb dL_law_886 ?_
      refine va_sld hx hb hX hbl hbA hS g1 dL_law_887 ?_
      refine lv_aload_n hx hb dL_law_888 rfl (lv_at hl 0 rfl) ?_
      refine lv_iload_n hx hb dL_law_889 rfl (lv_at hl 3 rfl) ?_
      refine lv_iconst (v := 2) hx hb dL_law_890 (by decide) ?_
      refine lv_iadd hx hb dL_law_891 ?_
      refine va_sld hx hb hX hbl hbA hS g2 dL_law_892 ?_
      refine lv_aload_n hx hb dL_law_893 rfl (lv_at hl 0 rfl) ?_
      refine lv_iload_n hx hb dL_law_894 rfl (lv_at hl 3 rfl) ?_
      refine lv_iconst (v := 3) hx hb dL_law_895 (by decide) ?_
      refine lv_iadd hx hb dL_law_896 ?_
      refine va_sld hx hb hX hbl hbA hS g3 dL_law_897 ?_
      refine l_call (As := [.int (xs (Int32.toNatClampNeg (x3 + 1))), .int (xs (Int32.toNatClampNeg (x3 + 2))), .int (xs (Int32.toNatClampNeg (x3 + 3)))]) (rest := []) (a := 0) XX ⟨show cells + 0 ≤ 600000 by omega, show slots + 0 ≤ 7302250 by omega⟩ hl.1 (c_X10_sheet l XX.2.2.2.1.1 (Nat.le_refl 107) eX) w_L_123 qw_877 qw_878 ⟨Nat.le_of_ble_eq_true rfl, Nat.le_of_ble_eq_true rfl⟩ hPX hS hPM hdis (by decide) sX_KT rfl rfl (Nat.le_of_ble_eq_true rfl) dL_law_898 (fun H locs hPX hPM hS => ?_)
      refine W.widen (k := cells + 1) (n := slots + 5) (show cells + 0 ≤ cells + 1 by omega) (show slots + 0 ≤ slots + 5 by omega) ?_
      refine lv_aload_n hx hb dL_law_901 rfl (lv_at hl 2 rfl) ?_
      refine lv_aload_n hx hb dL_law_902 rfl (lv_at hl 0 rfl) ?_
      refine lv_iload_n hx hb dL_law_903 rfl (lv_at hl 3 rfl) ?_
      refine lv_iconst (v := 1) hx hb dL_law_904 (by decide) ?_
      refine lv_iadd hx hb dL_law_905 ?_
      refine va_sld hx hb hX hbl hbA hS g1 dL_law_906 ?_
      refine lv_aload_n hx hb dL_law_907 rfl (lv_at hl 0 rfl) ?_
      refine lv_iload_n hx hb dL_law_908 rfl (lv_at hl 3 rfl) ?_
      refine lv_iconst (v := 2) hx hb dL_law_909 (by decide) ?_
      refine lv_iadd hx hb dL_law_910 ?_
      refine va_sld hx hb hX hbl hbA hS g2 dL_law_911 ?_
      refine lv_aload_n hx hb dL_law_912 rfl (lv_at hl 0 rfl) ?_
      refine lv_iload_n hx hb dL_law_913 rfl (lv_at hl 3 rfl) ?_
      refine lv_iconst (v := 3) hx hb dL_law_914 (by decide) ?_
      refine lv_iadd hx hb dL_law_915 ?_
      refine va_sld hx hb hX hbl hbA hS g3 dL_law_916 ?_
      refine l_call (As := [.int (xs (Int32.toNatClampNeg (x3 + 1))), .int (xs (Int32.toNatClampNeg (x3 + 2))), .int (xs (Int32.toNatClampNeg (x3 + 3)))]) (rest := [.int (rX.1)]) (a := 0) XM ⟨show cells + 1 + 0 ≤ 600000 by omega, show slots + 5 + 0 ≤ 7302250 by omega⟩ hl.1 (c_X11_sheet l XM.2.2.2.1.1 (Nat.le_refl 32) eM) w_L_126 qw_1317 qw_1318 ⟨Nat.le_of_ble_eq_true rfl, Nat.le_of_ble_eq_true rfl⟩ hPM hS hPX hdis2 (by decide) sM_Model rfl rfl (Nat.le_of_ble_eq_true rfl) dL_law_917 (fun H locs hPM hPX hS => ?_)
      refine W.widen (k := cells + 1) (n := slots + 5) (show cells + 1 + 0 ≤ cells + 1 by omega) (show slots + 5 + 0 ≤ slots + 5 by omega) ?_
      refine lv_icmp_eq (tgt := 1117) hx hb dL_law_920 (by decide) (fun _ => ?_) (fun c => absurd ev c)
      refine lv_iinc (v := x3 + 6) (lv' := [(3, .int (x3 + 6)), (0, .ref b), (1, .ref (φ 0)), (2, .ref (ψ 0))]) hx hb dL_law_1117 hl (k := 3) rfl (by rw [show Int32.ofInt 6 = 6 from by decide]) (by decide) rfl (fun ls hl => ?_)
      refine lv_goto (tgt := 18) hx hb dL_law_1120 (by decide) ?_
      exact ih (i + 6) (x3 + 6) _ _ _ H locs ls (cells + 1) (slots + 5) (by rw [ex3, show (6 : Int32) = nI 6 from by decide, nI_add]) (by omega) (by omega) (by omega) (by omega) hR1 hPX hPM hS (lv_sub hl [1, 2, 3, 0] rfl)
    by_cases e27 : sw = 27
    · refine lv_tableIn (tgt := 925) (off := 892) hx hb dL_law_33 (fun q => c9 (Or.inl q)) (fun q => c9 (Or.inr q)) (by rw [e27]; rfl) (by decide) ?_
      obtain ⟨rX, rM, eX, eM, ev, hR1⟩ := h27 MX MM (xs (Int32.toNatClampNeg (x3 + 1))) (xs (Int32.toNatClampNeg (x3 + 2))) (xs (Int32.toNatClampNeg (x3 + 3))) hR
      refine lv_aload_n hx hb dL_law_925 rfl (lv_at hl 1 rfl) ?_
      refine lv_aload_n hx hb dL_law_926 rfl (lv_at hl 0 rfl) ?_
      refine lv_iload_n hx hb dL_law_927 rfl (lv_at hl 3 rfl) ?_
      refine lv_iconst (v := 1) hx hb dL_law_928 (by decide) ?_
      refine lv_iadd hx hb dL_law_929 ?_
      refine va_sld hx hb hX hbl hbA hS g1 dL_law_930 ?_
      refine lv_aload_n hx hb dL_law_931 rfl (lv_at hl 0 rfl) ?_
      refine lv_iload_n hx hb dL_law_932 rfl (lv_at hl 3 rfl) ?_
      refine lv_iconst (v := 2) hx hb dL_law_933 (by decide) ?_
      refine lv_iadd hx hb dL_law_934 ?_
      refine va_sld hx hb hX hbl hbA hS g2 dL_law_935 ?_
      refine lv_aload_n hx hb dL_law_936 rfl (lv_at hl 0 rfl) ?_
      refine lv_iload_n hx hb dL_law_937 rfl (lv_at hl 3 rfl) ?_
      refine lv_iconst (v := 3) hx hb dL_law_938 (by decide) ?_
      refine lv_iadd hx hb dL_law_939 ?_
      refine va_sld hx hb hX hbl hbA hS g3 dL_law_940 ?_
      refine l_call (As := [.int (xs (Int32.toNatClampNeg (x3 + 1))), .int (xs (Int32.toNatClampNeg (x3 + 2))), .int (xs (Int32.toNatClampNeg (x3 + 3)))]) (rest := []) (a := 0) XX ⟨show cells + 0 ≤ 600000 by omega, show slots + 0 ≤ 7302250 by omega⟩ hl.1 (c_X10_cell l XX.2.2.2.1.1 (Nat.le_refl 107) eX) w_L_127 qw_886 qw_887 ⟨Nat.le_of_ble_eq_true rfl, Nat.le_of_ble_eq_true rfl⟩ hPX hS hPM hdis (by decide) sX_KT rfl rfl (Nat.le_of_ble_eq_true rfl) dL_law_941 (fun H locs hPX hPM hS => ?_)
      refine W.widen (k := cells + 1) (n := slots + 5) (show cells + 0 ≤ cells + 1 by omega) (show slots + 0 ≤ slots + 5 by omega) ?_
      refine lv_aload_n hx hb dL_law_944 rfl (lv_at hl 2 rfl) ?_
      refine lv_aload_n hx hb dL_law_945 rfl (lv_at hl 0 rfl) ?_
      refine lv_iload_n hx hb dL_law_946 rfl (lv_at hl 3 rfl) ?_
      refine lv_iconst (v := 1) hx hb dL_law_947 (by decide) ?_
      refine lv_iadd hx hb dL_law_948 ?_
      refine va_sld hx hb hX hbl hbA hS g1 dL_law_949 ?_
      refine lv_aload_n hx hb dL_law_950 rfl (lv_at hl 0 rfl) ?_
      refine lv_iload_n hx hb dL_law_951 rfl (lv_at hl 3 rfl) ?_
      refine lv_iconst (v := 2) hx hb dL_law_952 (by decide) ?_
      refine lv_iadd hx hb dL_law_953 ?_
      refine va_sld hx hb hX hbl hbA hS g2 dL_law_954 ?_
      refine lv_aload_n hx hb dL_law_955 rfl (lv_at hl 0 rfl) ?_
      refine lv_iload_n hx hb dL_law_956 rfl (lv_at hl 3 rfl) ?_
      refine lv_iconst (v := 3) hx hb dL_law_957 (by decide) ?_
      refine lv_iadd hx hb dL_law_958 ?_
      refine va_sld hx hb hX hbl hbA hS g3 dL_law_959 ?_
      refine l_call (As := [.int (xs (Int32.toNatClampNeg (x3 + 1))), .int (xs (Int32.toNatClampNeg (x3 + 2))), .int (xs (Int32.toNatClampNeg (x3 + 3)))]) (rest := [.int (rX.1)]) (a := 0) XM ⟨show cells + 1 + 0 ≤ 600000 by omega, show slots + 5 + 0 ≤ 7302250 by omega⟩ hl.1 (c_X11_cell l XM.2.2.2.1.1 (Nat.le_refl 32) eM) w_L_130 qw_1321 qw_1322 ⟨Nat.le_of_ble_eq_true rfl, Nat.le_of_ble_eq_true rfl⟩ hPM hS hPX hdis2 (by decide) sM_Model rfl rfl (Nat.le_of_ble_eq_true rfl) dL_law_960 (fun H locs hPM hPX hS => ?_)
      refine W.widen (k := cells + 1) (n := slots + 5) (show cells + 1 + 0 ≤ cells + 1 by omega) (show slots + 5 + 0 ≤ slots + 5 by omega) ?_
      refine lv_icmp_eq (tgt := 1117) hx hb dL_law_963 (by decide) (fun _ => ?_) (fun c => absurd ev c)
      refine lv_iinc (v := x3 + 6) (lv' := [(3, .int (x3 + 6)), (0, .ref b), (1, .ref (φ 0)), (2, .ref (ψ 0))]) hx hb dL_law_1117 hl (k := 3) rfl (by rw [show Int32.ofInt 6 = 6 from by decide]) (by decide) rfl (fun ls hl => ?_)
      refine lv_goto (tgt := 18) hx hb dL_law_1120 (by decide) ?_
      exact ih (i + 6) (x3 + 6) _ _ _ H locs ls (cells + 1) (slots + 5) (by rw [ex3, show (6 : Int32) = nI 6 from by decide, nI_add]) (by omega) (by omega) (by omega) (by omega) hR1 hPX hPM hS (lv_sub hl [1, 2, 3, 0] rfl)
    by_cases e28 : sw = 28
    · refine lv_tableIn (tgt := 968) (off := 935) hx hb dL_law_33 (fun q => c9 (Or.inl q)) (fun q => c9 (Or.inr q)) (by rw [e28]; rfl) (by decide) ?_
      obtain ⟨rX, rM, eX, eM, ev, hR1⟩ := h28 MX MM (xs (Int32.toNatClampNeg (x3 + 1))) (xs (Int32.toNatClampNeg (x3 + 2))) (xs (Int32.toNatClampNeg (x3 + 3))) (xs (Int32.toNatClampNeg (x3 + 4))) (xs (Int32.toNatClampNeg (x3 + 5))) hR
      refine lv_aload_n hx hb dL_law_968 rfl (lv_at hl 1 rfl) ?_
      refine lv_aload_n hx hb dL_law_969 rfl (lv_at hl 0 rfl) ?_
      refine lv_iload_n hx hb dL_law_970 rfl (lv_at hl 3 rfl) ?_
      refine lv_iconst (v := 1) hx hb dL_law_971 (by decide) ?_
      refine lv_iadd hx hb dL_law_972 ?_
      refine va_sld hx hb hX hbl hbA hS g1 dL_law_973 ?_
      refine lv_aload_n hx hb dL_law_974 rfl (lv_at hl 0 rfl) ?_
      refine lv_iload_n hx hb dL_law_975 rfl (lv_at hl 3 rfl) ?_
      refine lv_iconst (v := 2) hx hb dL_law_976 (by decide) ?_
      refine lv_iadd hx hb dL_law_977 ?_
      refine va_sld hx hb hX hbl hbA hS g2 dL_law_978 ?_
      refine lv_aload_n hx hb dL_law_979 rfl (lv_at hl 0 rfl) ?_
      refine lv_iload_n hx hb dL_law_980 rfl (lv_at hl 3 rfl) ?_
      refine lv_iconst (v := 3) hx hb dL_law_981 (by decide) ?_
      refine lv_iadd hx hb dL_law_982 ?_
      refine va_sld hx hb hX hbl hbA hS g3 dL_law_983 ?_
      refine lv_aload_n hx hb dL_law_984 rfl (lv_at hl 0 rfl) ?_
      refine lv_iload_n hx hb dL_law_985 rfl (lv_at hl 3 rfl) ?_
      refine lv_iconst (v := 4) hx hb dL_law_986 (by decide) ?_
      refine lv_iadd hx hb dL_law_987 ?_
      refine va_sld hx hb hX hbl hbA hS g4 dL_law_988 ?_
      refine lv_aload_n hx hb dL_law_989 rfl (lv_at hl 0 rfl) ?_
      refine lv_iload_n hx hb dL_law_990 rfl (lv_at hl 3 rfl) ?_
      refine lv_iconst (v := 5) hx hb dL_law_991 (by decide) ?_
      refine lv_iadd hx hb dL_law_992 ?_
      refine va_sld hx hb hX hbl hbA hS g5 dL_law_993 ?_
      refine l_call (As := [.int (xs (Int32.toNatClampNeg (x3 + 1))), .int (xs (Int32.toNatClampNeg (x3 + 2))), .int (xs (Int32.toNatClampNeg (x3 + 3))), .int (xs (Int32.toNatClampNeg (x3 + 4))), .int (xs (Int32.toNatClampNeg (x3 + 5)))]) (rest := []) (a := 0) XX ⟨show cells + 0 ≤ 600000 by omega, show slots + 0 ≤ 7302250 by omega⟩ hl.1 (c_X10_copy l XX.2.2.2.1.1 (Nat.le_refl 107) eX) w_L_131 qw_898 qw_899 ⟨Nat.le_of_ble_eq_true rfl, Nat.le_of_ble_eq_true rfl⟩ hPX hS hPM hdis (by decide) sX_KT rfl rfl (Nat.le_of_ble_eq_true rfl) dL_law_994 (fun H locs hPX hPM hS => ?_)
      refine W.widen (k := cells + 1) (n := slots + 5) (show cells + 0 ≤ cells + 1 by omega) (show slots + 0 ≤ slots + 5 by omega) ?_
      refine lv_aload_n hx hb dL_law_997 rfl (lv_at hl 2 rfl) ?_
      refine lv_aload_n hx hb dL_law_998 rfl (lv_at hl 0 rfl) ?_
      refine lv_iload_n hx hb dL_law_999 rfl (lv_at hl 3 rfl) ?_
      refine lv_iconst (v := 1) hx hb dL_law_1000 (by decide) ?_
      refine lv_iadd hx hb dL_law_1001 ?_
      refine va_sld hx hb hX hbl hbA hS g1 dL_law_1002 ?_
      refine lv_aload_n hx hb dL_law_1003 rfl (lv_at hl 0 rfl) ?_
      refine lv_iload_n hx hb dL_law_1004 rfl (lv_at hl 3 rfl) ?_
      refine lv_iconst (v := 2) hx hb dL_law_1005 (by decide) ?_
      refine lv_iadd hx hb dL_law_1006 ?_
      refine va_sld hx hb hX hbl hbA hS g2 dL_law_1007 ?_
      refine lv_aload_n hx hb dL_law_1008 rfl (lv_at hl 0 rfl) ?_
      refine lv_iload_n hx hb dL_law_1009 rfl (lv_at hl 3 rfl) ?_
      refine lv_iconst (v := 3) hx hb dL_law_1010 (by decide) ?_
      refine lv_iadd hx hb dL_law_1011 ?_
      refine va_sld hx hb hX hbl hbA hS g3 dL_law_1012 ?_
      refine lv_aload_n hx hb dL_law_1013 rfl (lv_at hl 0 rfl) ?_
      refine lv_iload_n hx hb dL_law_1014 rfl (lv_at hl 3 rfl) ?_
      refine lv_iconst (v := 4) hx hb dL_law_1015 (by decide) ?_
      refine lv_iadd hx hb dL_law_1016 ?_
      refine va_sld hx hb hX hbl hbA hS g4 dL_law_1017 ?_
      refine lv_aload_n hx hb dL_law_1018 rfl (lv_at hl 0 rfl) ?_
      refine lv_iload_n hx hb dL_law_1019 rfl (lv_at hl 3 rfl) ?_
      refine lv_iconst (v := 5) hx hb dL_law_1020 (by decide) ?_
      refine lv_iadd hx hb dL_law_1021 ?_
      refine va_sld hx hb hX hbl hbA hS g5 dL_law_1022 ?_
      refine l_call (As := [.int (xs (Int32.toNatClampNeg (x3 + 1))), .int (xs (Int32.toNatClampNeg (x3 + 2))), .int (xs (Int32.toNatClampNeg (x3 + 3))), .int (xs (Int32.toNatClampNeg (x3 + 4))), .int (xs (Int32.toNatClampNeg (x3 + 5)))]) (rest := [.int (rX.1)]) (a := 0) XM ⟨show cells + 1 + 0 ≤ 600000 by omega, show slots + 5 + 0 ≤ 7302250 by omega⟩ hl.1 (c_X11_copy l XM.2.2.2.1.1 (Nat.le_refl 32) eM) w_L_135 qw_1325 qw_1326 ⟨Nat.le_of_ble_eq_true rfl, Nat.le_of_ble_eq_true rfl⟩ hPM hS hPX hdis2 (by decide) sM_Model rfl rfl (Nat.le_of_ble_eq_true rfl) dL_law_1023 (fun H locs hPM hPX hS => ?_)
      refine W.widen (k := cells + 1) (n := slots + 5) (show cells + 1 + 0 ≤ cells + 1 by omega) (show slots + 5 + 0 ≤ slots + 5 by omega) ?_
      refine lv_icmp_eq (tgt := 1117) hx hb dL_law_1026 (by decide) (fun _ => ?_) (fun c => absurd ev c)
      refine lv_iinc (v := x3 + 6) (lv' := [(3, .int (x3 + 6)), (0, .ref b), (1, .ref (φ 0)), (2, .ref (ψ 0))]) hx hb dL_law_1117 hl (k := 3) rfl (by rw [show Int32.ofInt 6 = 6 from by decide]) (by decide) rfl (fun ls hl => ?_)
      refine lv_goto (tgt := 18) hx hb dL_law_1120 (by decide) ?_
      exact ih (i + 6) (x3 + 6) _ _ _ H locs ls (cells + 1) (slots + 5) (by rw [ex3, show (6 : Int32) = nI 6 from by decide, nI_add]) (by omega) (by omega) (by omega) (by omega) hR1 hPX hPM hS (lv_sub hl [1, 2, 3, 0] rfl)
    by_cases e29 : sw = 29
    · refine lv_tableIn (tgt := 1031) (off := 998) hx hb dL_law_33 (fun q => c9 (Or.inl q)) (fun q => c9 (Or.inr q)) (by rw [e29]; rfl) (by decide) ?_
      obtain ⟨rX, rM, eX, eM, ev, hR1⟩ := h29 MX MM (xs (Int32.toNatClampNeg (x3 + 1))) (xs (Int32.toNatClampNeg (x3 + 2))) (xs (Int32.toNatClampNeg (x3 + 3))) (xs (Int32.toNatClampNeg (x3 + 4))) hR
      refine lv_aload_n hx hb dL_law_1031 rfl (lv_at hl 1 rfl) ?_
      refine lv_aload_n hx hb dL_law_1032 rfl (lv_at hl 0 rfl) ?_
      refine lv_iload_n hx hb dL_law_1033 rfl (lv_at hl 3 rfl) ?_
      refine lv_iconst (v := 1) hx hb dL_law_1034 (by decide) ?_
      refine lv_iadd hx hb dL_law_1035 ?_
      refine va_sld hx hb hX hbl hbA hS g1 dL_law_1036 ?_
      refine lv_aload_n hx hb dL_law_1037 rfl (lv_at hl 0 rfl) ?_
      refine lv_iload_n hx hb dL_law_1038 rfl (lv_at hl 3 rfl) ?_
      refine lv_iconst (v := 2) hx hb dL_law_1039 (by decide) ?_
      refine lv_iadd hx hb dL_law_1040 ?_
      refine va_sld hx hb hX hbl hbA hS g2 dL_law_1041 ?_
      refine lv_aload_n hx hb dL_law_1042 rfl (lv_at hl 0 rfl) ?_
      refine lv_iload_n hx hb dL_law_1043 rfl (lv_at hl 3 rfl) ?_
      refine lv_iconst (v := 3) hx hb dL_law_1044 (by decide) ?_
      refine lv_iadd hx hb dL_law_1045 ?_
      refine va_sld hx hb hX hbl hbA hS g3 dL_law_1046 ?_
      refine lv_aload_n hx hb dL_law_1047 rfl (lv_at hl 0 rfl) ?_
      refine lv_iload_n hx hb dL_law_1048 rfl (lv_at hl 3 rfl) ?_
      refine lv_iconst (v := 4) hx hb dL_law_1049 (by decide) ?_
      refine lv_iadd hx hb dL_law_1050 ?_
      refine va_sld hx hb hX hbl hbA hS g4 dL_law_1051 ?_
      refine l_call (As := [.int (xs (Int32.toNatClampNeg (x3 + 1))), .int (xs (Int32.toNatClampNeg (x3 + 2))), .int (xs (Int32.toNatClampNeg (x3 + 3))), .int (xs (Int32.toNatClampNeg (x3 + 4)))]) (rest := []) (a := 0) XX ⟨show cells + 0 ≤ 600000 by omega, show slots + 0 ≤ 7302250 by omega⟩ hl.1 (c_X10_notes l XX.2.2.2.1.1 (Nat.le_refl 107) eX) w_L_136 qw_906 qw_907 ⟨Nat.le_of_ble_eq_true rfl, Nat.le_of_ble_eq_true rfl⟩ hPX hS hPM hdis (by decide) sX_KT rfl rfl (Nat.le_of_ble_eq_true rfl) dL_law_1052 (fun H locs hPX hPM hS => ?_)
      refine W.widen (k := cells + 1) (n := slots + 5) (show cells + 0 ≤ cells + 1 by omega) (show slots + 0 ≤ slots + 5 by omega) ?_
      refine lv_aload_n hx hb dL_law_1055 rfl (lv_at hl 2 rfl) ?_
      refine lv_aload_n hx hb dL_law_1056 rfl (lv_at hl 0 rfl) ?_
      refine lv_iload_n hx hb dL_law_1057 rfl (lv_at hl 3 rfl) ?_
      refine lv_iconst (v := 1) hx hb dL_law_1058 (by decide) ?_
      refine lv_iadd hx hb dL_law_1059 ?_
      refine va_sld hx hb hX hbl hbA hS g1 dL_law_1060 ?_
      refine lv_aload_n hx hb dL_law_1061 rfl (lv_at hl 0 rfl) ?_
      refine lv_iload_n hx hb dL_law_1062 rfl (lv_at hl 3 rfl) ?_
      refine lv_iconst (v := 2) hx hb dL_law_1063 (by decide) ?_
      refine lv_iadd hx hb dL_law_1064 ?_
      refine va_sld hx hb hX hbl hbA hS g2 dL_law_1065 ?_
      refine lv_aload_n hx hb dL_law_1066 rfl (lv_at hl 0 rfl) ?_
      refine lv_iload_n hx hb dL_law_1067 rfl (lv_at hl 3 rfl) ?_
      refine lv_iconst (v := 3) hx hb dL_law_1068 (by decide) ?_
      refine lv_iadd hx hb dL_law_1069 ?_
      refine va_sld hx hb hX hbl hbA hS g3 dL_law_1070 ?_
      refine lv_aload_n hx hb dL_law_1071 rfl (lv_at hl 0 rfl) ?_
      refine lv_iload_n hx hb dL_law_1072 rfl (lv_at hl 3 rfl) ?_
      refine lv_iconst (v := 4) hx hb dL_law_1073 (by decide) ?_
      refine lv_iadd hx hb dL_law_1074 ?_
      refine va_sld hx hb hX hbl hbA hS g4 dL_law_1075 ?_
      refine l_call (As := [.int (xs (Int32.toNatClampNeg (x3 + 1))), .int (xs (Int32.toNatClampNeg (x3 + 2))), .int (xs (Int32.toNatClampNeg (x3 + 3))), .int (xs (Int32.toNatClampNeg (x3 + 4)))]) (rest := [.int (rX.1)]) (a := 0) XM ⟨show cells + 1 + 0 ≤ 600000 by omega, show slots + 5 + 0 ≤ 7302250 by omega⟩ hl.1 (c_X11_notes l XM.2.2.2.1.1 (Nat.le_refl 32) eM) w_L_140 qw_1329 qw_1330 ⟨Nat.le_of_ble_eq_true rfl, Nat.le_of_ble_eq_true rfl⟩ hPM hS hPX hdis2 (by decide) sM_Model rfl rfl (Nat.le_of_ble_eq_true rfl) dL_law_1076 (fun H locs hPM hPX hS => ?_)
      refine W.widen (k := cells + 1) (n := slots + 5) (show cells + 1 + 0 ≤ cells + 1 by omega) (show slots + 5 + 0 ≤ slots + 5 by omega) ?_
      refine lv_icmp_eq (tgt := 1117) hx hb dL_law_1079 (by decide) (fun _ => ?_) (fun c => absurd ev c)
      refine lv_iinc (v := x3 + 6) (lv' := [(3, .int (x3 + 6)), (0, .ref b), (1, .ref (φ 0)), (2, .ref (ψ 0))]) hx hb dL_law_1117 hl (k := 3) rfl (by rw [show Int32.ofInt 6 = 6 from by decide]) (by decide) rfl (fun ls hl => ?_)
      refine lv_goto (tgt := 18) hx hb dL_law_1120 (by decide) ?_
      exact ih (i + 6) (x3 + 6) _ _ _ H locs ls (cells + 1) (slots + 5) (by rw [ex3, show (6 : Int32) = nI 6 from by decide, nI_add]) (by omega) (by omega) (by omega) (by omega) hR1 hPX hPM hS (lv_sub hl [1, 2, 3, 0] rfl)
    by_cases e30 : sw = 30
    · refine lv_tableIn (tgt := 1084) (off := 1051) hx hb dL_law_33 (fun q => c9 (Or.inl q)) (fun q => c9 (Or.inr q)) (by rw [e30]; rfl) (by decide) ?_
      obtain ⟨rX, rM, eX, eM, ev, hR1⟩ := h30 MX MM (xs (Int32.toNatClampNeg (x3 + 1))) (xs (Int32.toNatClampNeg (x3 + 2))) hR
      refine lv_aload_n hx hb dL_law_1084 rfl (lv_at hl 1 rfl) ?_
      refine lv_aload_n hx hb dL_law_1085 rfl (lv_at hl 0 rfl) ?_
      refine lv_iload_n hx hb dL_law_1086 rfl (lv_at hl 3 rfl) ?_
      refine lv_iconst (v := 1) hx hb dL_law_1087 (by decide) ?_
      refine lv_iadd hx hb dL_law_1088 ?_
      refine va_sld hx hb hX hbl hbA hS g1 dL_law_1089 ?_
      refine lv_aload_n hx hb dL_law_1090 rfl (lv_at hl 0 rfl) ?_
      refine lv_iload_n hx hb dL_law_1091 rfl (lv_at hl 3 rfl) ?_
      refine lv_iconst (v := 2) hx hb dL_law_1092 (by decide) ?_
      refine lv_iadd hx hb dL_law_1093 ?_
      refine va_sld hx hb hX hbl hbA hS g2 dL_law_1094 ?_
      refine l_call (As := [.int (xs (Int32.toNatClampNeg (x3 + 1))), .int (xs (Int32.toNatClampNeg (x3 + 2)))]) (rest := []) (a := 0) XX ⟨show cells + 0 ≤ 600000 by omega, show slots + 0 ≤ 7302250 by omega⟩ hl.1 (c_X10_taken l XX.2.2.2.1.1 (Nat.le_refl 107) eX) w_L_141 qw_910 qw_911 ⟨Nat.le_of_ble_eq_true rfl, Nat.le_of_ble_eq_true rfl⟩ hPX hS hPM hdis (by decide) sX_KT rfl rfl (Nat.le_of_ble_eq_true rfl) dL_law_1095 (fun H locs hPX hPM hS => ?_)
      refine W.widen (k := cells + 1) (n := slots + 5) (show cells + 0 ≤ cells + 1 by omega) (show slots + 0 ≤ slots + 5 by omega) ?_
      refine lv_aload_n hx hb dL_law_1098 rfl (lv_at hl 2 rfl) ?_
      refine lv_aload_n hx hb dL_law_1099 rfl (lv_at hl 0 rfl) ?_
      refine lv_iload_n hx hb dL_law_1100 rfl (lv_at hl 3 rfl) ?_
      refine lv_iconst (v := 1) hx hb dL_law_1101 (by decide) ?_
      refine lv_iadd hx hb dL_law_1102 ?_
      refine va_sld hx hb hX hbl hbA hS g1 dL_law_1103 ?_
      refine lv_aload_n hx hb dL_law_1104 rfl (lv_at hl 0 rfl) ?_
      refine lv_iload_n hx hb dL_law_1105 rfl (lv_at hl 3 rfl) ?_
      refine lv_iconst (v := 2) hx hb dL_law_1106 (by decide) ?_
      refine lv_iadd hx hb dL_law_1107 ?_
      refine va_sld hx hb hX hbl hbA hS g2 dL_law_1108 ?_
      refine l_call (As := [.int (xs (Int32.toNatClampNeg (x3 + 1))), .int (xs (Int32.toNatClampNeg (x3 + 2)))]) (rest := [.int (rX)]) (a := 0) XM ⟨show cells + 1 + 0 ≤ 600000 by omega, show slots + 5 + 0 ≤ 7302250 by omega⟩ hl.1 (c_X11_taken l XM.2.2.2.1.1 (Nat.le_refl 32) eM) w_L_144 qw_1336 qw_1337 ⟨Nat.le_of_ble_eq_true rfl, Nat.le_of_ble_eq_true rfl⟩ hPM hS hPX hdis2 (by decide) sM_Model rfl rfl (Nat.le_of_ble_eq_true rfl) dL_law_1109 (fun H locs hPM hPX hS => ?_)
      refine W.widen (k := cells + 1) (n := slots + 5) (show cells + 1 + 0 ≤ cells + 1 by omega) (show slots + 5 + 0 ≤ slots + 5 by omega) ?_
      refine lv_icmp_eq (tgt := 1117) hx hb dL_law_1112 (by decide) (fun _ => ?_) (fun c => absurd ev c)
      refine lv_iinc (v := x3 + 6) (lv' := [(3, .int (x3 + 6)), (0, .ref b), (1, .ref (φ 0)), (2, .ref (ψ 0))]) hx hb dL_law_1117 hl (k := 3) rfl (by rw [show Int32.ofInt 6 = 6 from by decide]) (by decide) rfl (fun ls hl => ?_)
      refine lv_goto (tgt := 18) hx hb dL_law_1120 (by decide) ?_
      exact ih (i + 6) (x3 + 6) _ _ _ H locs ls (cells + 1) (slots + 5) (by rw [ex3, show (6 : Int32) = nI 6 from by decide, nI_add]) (by omega) (by omega) (by omega) (by omega) hR1 hPX hPM hS (lv_sub hl [1, 2, 3, 0] rfl)
    exact absurd (law_sw c9 e0 e1 e2 e3 e4 e5 e6 e7 e8 e9 e10 e11 e12 e13 e14 e15 e16 e17 e18 e19 e20 e21 e22 e23 e24 e25 e26 e27 e28 e29 e30) id
