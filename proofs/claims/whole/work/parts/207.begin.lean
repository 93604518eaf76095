abbrev FL1 : List Cond := flatC (Cond.and given_1 narrow_1)
def tmS (i : Nat) : Term := .string (strS.getD i ("", 0, 0)).1 (strS.getD i ("", 0, 0)).2.1
def posS : List Nat := [80, 127, 136, 144, 152, 159, 169, 178, 184, 192, 200, 206, 213]
set_option maxRecDepth 20000 in
theorem st_ex : ∀ i, i < 13 → FL1[posS.getD i 0]? = some (.exactly (tmS i) "java/lang/String") := by decide +kernel
set_option maxRecDepth 20000 in
theorem st_co : ∀ i, i < 13 → FL1[posS.getD i 0 + 1]? = some (.eq (.field (tmS i) "java/lang/String" "coder" "B") (.int 0)) := by decide +kernel
set_option maxRecDepth 20000 in
theorem st_ar : ∀ i, i < 13 → FL1[posS.getD i 0 + 2]? = some (.arrayOf (.field (tmS i) "java/lang/String" "value" "[B") .byte) := by decide +kernel
set_option maxRecDepth 20000 in
theorem st_le : ∀ i, i < 13 → FL1[posS.getD i 0 + 3]? = some (.eq (.length (.field (tmS i) "java/lang/String" "value" "[B")) (.int (Int32.ofNat (lenS.getD i 0)))) := by decide +kernel
set_option maxRecDepth 20000 in
theorem st_el : ∀ i, i < 13 → ∀ j, j < lenS.getD i 0 → FL1[posS.getD i 0 + 4 + j]? = some (.eq (.elem (.field (tmS i) "java/lang/String" "value" "[B") (.int (Int32.ofNat j))) (.int ((bytS.getD i []).getD j 0))) := by decide +kernel
theorem st_in : ∀ i, i < 13 → ∀ j, j < 13 → lenS.getD i 0 = lenS.getD j 0 → (∀ q, q < lenS.getD i 0 → (bytS.getD i []).getD q 0 = (bytS.getD j []).getD q 0) → i = j := by decide +kernel
theorem st_sm : ∀ i, i < 13 → lenS.getD i 0 < 2 ^ 31 := by decide +kernel
/-- the texts at the law's begin -/
theorem my_Sof {args : Array Value} {s : State} {A : Nat → Prop} (hq : ∀ c ∈ FL1, c.before args s = true) (hA : ∀ a : Nat, a < s.heap.size → ¬ A a) : ∃ adK adV : Nat → Nat, vk_S 13 lenS bytS adK adV A s s.heap ∧ ∀ i : Nat, i < 13 → (tmS i).eval args s none [] s = some (.ref (adK i)) := by
  have g : ∀ {w : Cond} {k : Nat}, FL1[k]? = some w → w.before args s = true := fun h => hq _ (List.mem_of_getElem? h)
  have h0 : ∀ i : Nat, ∃ q : Nat × Nat, i < 13 → (tmS i).eval args s none [] s = some (.ref q.1) ∧ va_O "java/lang/String" q.1 A s s.heap ∧ va_OF "java/lang/String" "coder" "B" (.int 0) q.1 A s s.heap ∧ va_OF "java/lang/String" "value" "[B" (.ref q.2) q.1 A s s.heap ∧ va_T .byte q.2 (lenS.getD i 0) (fun j => .int ((bytS.getD i []).getD j 0)) A s s.heap := by
    intro i
    by_cases hi : i < 13
    · obtain ⟨a, c, cA, kA, q1, q2, q3, q4, q5, q6, -⟩ := Cond.exactly_spec (args := args) (first := s) (o := none) (s := s) (idx := []) (t := tmS i) (cls := "java/lang/String") (g (st_ex i hi))
      obtain ⟨t, ht, hT⟩ := va_Tof (f := fun j => .int ((bytS.getD i []).getD j 0)) (A := A) (st_sm i hi) (g (st_ar i hi)) (va_eqt (g (st_le i hi))) (fun j hj => va_eqt (g (st_el i hi j hj))) hA
      exact ⟨(a, t), fun _ => ⟨q1, ⟨cA, q3, q5, by rw [q6]; exact q2, hA a (Array.getElem?_eq_some_iff.mp q3).1⟩, vk_OFof q1 (va_eqt (g (st_co i hi))) hA, vk_OFof q1 ht hA, hT⟩⟩
    · exact ⟨(0, 0), fun h => absurd h hi⟩
  obtain ⟨ad, had⟩ := Classical.axiomOfChoice h0
  refine ⟨fun i => (ad i).1, fun i => (ad i).2, ⟨fun i hi => (had i hi).2, fun i j hi hj e => ?_⟩, fun i hi => (had i hi).1⟩
  obtain ⟨-, -, -, ⟨cf, k, fi, f, cell, a1, a2, a3, a4, a5, a6⟩, ⟨ci, b1, b2, b3, b4, b5, b6, b7⟩⟩ := had i hi
  obtain ⟨-, -, -, ⟨cf', k', fi', f', cell', a1', a2', a3', a4', a5', a6'⟩, ⟨cj, b1', b2', b3', b4', b5', b6', b7'⟩⟩ := had j hj
  have e : (ad i).1 = (ad j).1 := e
  cases a1.symm.trans a1'
  rw [e] at a3
  cases a3.symm.trans a3'
  have ev : (ad i).2 = (ad j).2 := by
    have := a5.symm.trans a5'
    simpa using this
  rw [ev] at b1
  cases b1.symm.trans b1'
  have el : lenS.getD i 0 = lenS.getD j 0 := by
    have h := b5.symm.trans b5'
    exact (nI_eq (st_sm i hi) (st_sm j hj)).mp h
  refine st_in i hi j hj el (fun q hq9 => ?_)
  have h1 := b6 q hq9
  have h2 := b6' q (by rw [← el]; exact hq9)
  have h3 := h1.symm.trans h2
  simpa using h3

set_option maxRecDepth 20000 in
theorem sa_0 : ∀ j, j < 4 → FL1[12 + j]? = some (.eq (.elem (.static "KitchenTable" "LEAST_TRAIT" "[I") (.int (Int32.ofNat j))) (.int (([0, 1, 0, 0] : List Int32).getD j 0))) := by decide +kernel
theorem so_0 {b : Nat} {s : State} {A : Nat → Prop} (hts : ∀ w ∈ lw_tbl, w.before #[Value.ref b] s = true) (hq : ∀ c ∈ FL1, c.before #[Value.ref b] s = true) (hA : ∀ a : Nat, a < s.heap.size → ¬ A a) : ∃ t : Nat, va_Z "KitchenTable" "LEAST_TRAIT" "[I" (.ref t) A s s.heap ∧ va_T .int t 4 (fun j => .int (([0, 1, 0, 0] : List Int32).getD j 0)) A s s.heap := by
  obtain ⟨t, ht, hT⟩ := va_Tof (tm := .static "KitchenTable" "LEAST_TRAIT" "[I") (N := 4) (f := fun j => .int (([0, 1, 0, 0] : List Int32).getD j 0)) (A := A) (by decide) (hq _ (List.mem_of_getElem? (i := 10) (by decide +kernel)) : (Cond.arrayOf (Term.static "KitchenTable" "LEAST_TRAIT" "[I") FieldType.int).before #[.ref b] s = true) (va_eqt (hq _ (List.mem_of_getElem? (i := 11) (by decide +kernel)) : (Cond.eq (Term.length (Term.static "KitchenTable" "LEAST_TRAIT" "[I")) (Term.int (4 : Int32))).before #[.ref b] s = true)) (fun j hj => va_eqt (hq _ (List.mem_of_getElem? (sa_0 j hj)))) hA
  exact ⟨t, va_Zof (hts _ (List.mem_of_getElem? (i := 591) (by decide +kernel)) : (Cond.laysStatic "KitchenTable" "LEAST_TRAIT" "[I").before #[.ref b] s = true) (hts _ (List.mem_of_getElem? (i := 61) (by decide +kernel)) : (Cond.initialized "KitchenTable").before #[.ref b] s = true) ht hA, hT⟩
set_option maxRecDepth 20000 in
theorem sa_1 : ∀ j, j < 4 → FL1[19 + j]? = some (.eq (.elem (.static "KitchenTable" "MOST_TRAIT" "[I") (.int (Int32.ofNat j))) (.int (([47, 24, 12, 9] : List Int32).getD j 0))) := by decide +kernel
theorem so_1 {b : Nat} {s : State} {A : Nat → Prop} (hts : ∀ w ∈ lw_tbl, w.before #[Value.ref b] s = true) (hq : ∀ c ∈ FL1, c.before #[Value.ref b] s = true) (hA : ∀ a : Nat, a < s.heap.size → ¬ A a) : ∃ t : Nat, va_Z "KitchenTable" "MOST_TRAIT" "[I" (.ref t) A s s.heap ∧ va_T .int t 4 (fun j => .int (([47, 24, 12, 9] : List Int32).getD j 0)) A s s.heap := by
  obtain ⟨t, ht, hT⟩ := va_Tof (tm := .static "KitchenTable" "MOST_TRAIT" "[I") (N := 4) (f := fun j => .int (([47, 24, 12, 9] : List Int32).getD j 0)) (A := A) (by decide) (hq _ (List.mem_of_getElem? (i := 17) (by decide +kernel)) : (Cond.arrayOf (Term.static "KitchenTable" "MOST_TRAIT" "[I") FieldType.int).before #[.ref b] s = true) (va_eqt (hq _ (List.mem_of_getElem? (i := 18) (by decide +kernel)) : (Cond.eq (Term.length (Term.static "KitchenTable" "MOST_TRAIT" "[I")) (Term.int (4 : Int32))).before #[.ref b] s = true)) (fun j hj => va_eqt (hq _ (List.mem_of_getElem? (sa_1 j hj)))) hA
  exact ⟨t, va_Zof (hts _ (List.mem_of_getElem? (i := 593) (by decide +kernel)) : (Cond.laysStatic "KitchenTable" "MOST_TRAIT" "[I").before #[.ref b] s = true) (hts _ (List.mem_of_getElem? (i := 61) (by decide +kernel)) : (Cond.initialized "KitchenTable").before #[.ref b] s = true) ht hA, hT⟩
set_option maxRecDepth 20000 in
theorem sa_2 : ∀ j, j < 6 → FL1[26 + j]? = some (.eq (.elem (.static "KitchenTable$Slip" "ABOVE" "[I") (.int (Int32.ofNat j))) (.int (([-1, 0, 0, 1, 2, 3] : List Int32).getD j 0))) := by decide +kernel
theorem so_2 {b : Nat} {s : State} {A : Nat → Prop} (hts : ∀ w ∈ lw_tbl, w.before #[Value.ref b] s = true) (hq : ∀ c ∈ FL1, c.before #[Value.ref b] s = true) (hA : ∀ a : Nat, a < s.heap.size → ¬ A a) : ∃ t : Nat, va_Z "KitchenTable$Slip" "ABOVE" "[I" (.ref t) A s s.heap ∧ va_T .int t 6 (fun j => .int (([-1, 0, 0, 1, 2, 3] : List Int32).getD j 0)) A s s.heap := by
  obtain ⟨t, ht, hT⟩ := va_Tof (tm := .static "KitchenTable$Slip" "ABOVE" "[I") (N := 6) (f := fun j => .int (([-1, 0, 0, 1, 2, 3] : List Int32).getD j 0)) (A := A) (by decide) (hq _ (List.mem_of_getElem? (i := 24) (by decide +kernel)) : (Cond.arrayOf (Term.static "KitchenTable$Slip" "ABOVE" "[I") FieldType.int).before #[.ref b] s = true) (va_eqt (hq _ (List.mem_of_getElem? (i := 25) (by decide +kernel)) : (Cond.eq (Term.length (Term.static "KitchenTable$Slip" "ABOVE" "[I")) (Term.int (6 : Int32))).before #[.ref b] s = true)) (fun j hj => va_eqt (hq _ (List.mem_of_getElem? (sa_2 j hj)))) hA
  exact ⟨t, va_Zof (hts _ (List.mem_of_getElem? (i := 918) (by decide +kernel)) : (Cond.laysStatic "KitchenTable$Slip" "ABOVE" "[I").before #[.ref b] s = true) (hts _ (List.mem_of_getElem? (i := 64) (by decide +kernel)) : (Cond.initialized "KitchenTable$Slip").before #[.ref b] s = true) ht hA, hT⟩
theorem so_c {b : Nat} {s : State} {A : Nat → Prop} (hts : ∀ w ∈ lw_tbl, w.before #[Value.ref b] s = true) (hq : ∀ c ∈ FL1, c.before #[Value.ref b] s = true) (hA : ∀ a : Nat, a < s.heap.size → ¬ A a) : va_Z "java/lang/String" "COMPACT_STRINGS" "Z" (.int 1) A s s.heap := va_Zof (hts _ (List.mem_of_getElem? (i := 387) (by decide +kernel)) : (Cond.laysStatic "java/lang/String" "COMPACT_STRINGS" "Z").before #[.ref b] s = true) (hts _ (List.mem_of_getElem? (i := 71) (by decide +kernel)) : (Cond.initialized "java/lang/String").before #[.ref b] s = true) (va_eqi (hq _ (List.mem_of_getElem? (i := 4) (by decide +kernel)) : (Cond.eq (Term.static "java/lang/String" "COMPACT_STRINGS" "Z") (Term.int (1 : Int32))).before #[.ref b] s = true)) hA
theorem so_s {b : Nat} {s : State} {A : Nat → Prop} (hts : ∀ w ∈ lw_tbl, w.before #[Value.ref b] s = true) (hq : ∀ c ∈ FL1, c.before #[Value.ref b] s = true) (hA : ∀ a : Nat, a < s.heap.size → ¬ A a) : va_Zq "jdk/internal/util/Preconditions" "SIOOBE_FORMATTER" "Ljava/util/function/BiFunction;" A s s.heap := va_Zqof (hts _ (List.mem_of_getElem? (i := 403) (by decide +kernel)) : (Cond.laysStatic "jdk/internal/util/Preconditions" "SIOOBE_FORMATTER" "Ljava/util/function/BiFunction;").before #[.ref b] s = true) (hts _ (List.mem_of_getElem? (i := 73) (by decide +kernel)) : (Cond.initialized "jdk/internal/util/Preconditions").before #[.ref b] s = true) (hq _ (List.mem_of_getElem? (i := 5) (by decide +kernel)) : (Cond.isRef (Term.static "jdk/internal/util/Preconditions" "SIOOBE_FORMATTER" "Ljava/util/function/BiFunction;")).before #[.ref b] s = true) hA
set_option maxRecDepth 20000 in
theorem so_r {b : Nat} {s : State} {adK : Nat → Nat} (hts : ∀ w ∈ lw_tbl, w.before #[Value.ref b] s = true) (hq : ∀ c ∈ FL1, c.before #[Value.ref b] s = true) (hv : ∀ i : Nat, i < 13 → (tmS i).eval #[Value.ref b] s none [] s = some (.ref (adK i))) : ∀ q ∈ strS, vk_R q.1 q.2.1 (txO q.2.2) (adK q.2.2) s := by
  unfold strS
  exact List.forall_mem_cons.mpr ⟨vk_R.of (hts _ (List.mem_of_getElem? (i := 377) (by decide +kernel)) : (Cond.stringRef "KitchenTable" (53 : Nat) "do told < asked ; take 0 ; care 1 + thing ;").before #[.ref b] s = true) (hv 0 (by decide)), List.forall_mem_cons.mpr ⟨vk_R.of (hts _ (List.mem_of_getElem? (i := 476) (by decide +kernel)) : (Cond.stringRef "KitchenTable$Tape" (51 : Nat) "asked").before #[.ref b] s = true) (hv 1 (by decide)), List.forall_mem_cons.mpr ⟨vk_R.of (hts _ (List.mem_of_getElem? (i := 483) (by decide +kernel)) : (Cond.stringRef "KitchenTable$Tape" (59 : Nat) "told").before #[.ref b] s = true) (hv 2 (by decide)), List.forall_mem_cons.mpr ⟨vk_R.of (hts _ (List.mem_of_getElem? (i := 484) (by decide +kernel)) : (Cond.stringRef "KitchenTable$Tape" (61 : Nat) "hour").before #[.ref b] s = true) (hv 3 (by decide)), List.forall_mem_cons.mpr ⟨vk_R.of (hts _ (List.mem_of_getElem? (i := 485) (by decide +kernel)) : (Cond.stringRef "KitchenTable$Tape" (63 : Nat) "who").before #[.ref b] s = true) (hv 4 (by decide)), List.forall_mem_cons.mpr ⟨vk_R.of (hts _ (List.mem_of_getElem? (i := 486) (by decide +kernel)) : (Cond.stringRef "KitchenTable$Tape" (65 : Nat) "temper").before #[.ref b] s = true) (hv 5 (by decide)), List.forall_mem_cons.mpr ⟨vk_R.of (hts _ (List.mem_of_getElem? (i := 487) (by decide +kernel)) : (Cond.stringRef "KitchenTable$Tape" (67 : Nat) "thing").before #[.ref b] s = true) (hv 6 (by decide)), List.forall_mem_cons.mpr ⟨vk_R.of (hts _ (List.mem_of_getElem? (i := 488) (by decide +kernel)) : (Cond.stringRef "KitchenTable$Tape" (69 : Nat) "do").before #[.ref b] s = true) (hv 7 (by decide)), List.forall_mem_cons.mpr ⟨vk_R.of (hts _ (List.mem_of_getElem? (i := 489) (by decide +kernel)) : (Cond.stringRef "KitchenTable$Tape" (73 : Nat) "take").before #[.ref b] s = true) (hv 8 (by decide)), List.forall_mem_cons.mpr ⟨vk_R.of (hts _ (List.mem_of_getElem? (i := 490) (by decide +kernel)) : (Cond.stringRef "KitchenTable$Tape" (75 : Nat) "care").before #[.ref b] s = true) (hv 9 (by decide)), List.forall_mem_cons.mpr ⟨vk_R.of (hts _ (List.mem_of_getElem? (i := 491) (by decide +kernel)) : (Cond.stringRef "KitchenTable$Tape" (77 : Nat) "or").before #[.ref b] s = true) (hv 10 (by decide)), List.forall_mem_cons.mpr ⟨vk_R.of (hts _ (List.mem_of_getElem? (i := 492) (by decide +kernel)) : (Cond.stringRef "KitchenTable$Tape" (79 : Nat) "and").before #[.ref b] s = true) (hv 11 (by decide)), List.forall_mem_cons.mpr ⟨vk_R.of (hts _ (List.mem_of_getElem? (i := 493) (by decide +kernel)) : (Cond.stringRef "KitchenTable$Tape" (81 : Nat) "not").before #[.ref b] s = true) (hv 12 (by decide)), List.forall_mem_cons.mpr ⟨vk_R.of (hts _ (List.mem_of_getElem? (i := 925) (by decide +kernel)) : (Cond.stringRef "KitchenTableModel" (104 : Nat) "do told < asked ; take 0 ; care 1 + thing ;").before #[.ref b] s = true) (va_eqR (hq _ (List.mem_of_getElem? (i := 267) (by decide +kernel)) : (Cond.eq (Term.string "KitchenTable" (53 : Nat)) (Term.string "KitchenTableModel" (104 : Nat))).before #[.ref b] s = true) (hv 0 (by decide))), List.forall_mem_cons.mpr ⟨vk_R.of (hts _ (List.mem_of_getElem? (i := 991) (by decide +kernel)) : (Cond.stringRef "KitchenTableModel" (174 : Nat) "asked").before #[.ref b] s = true) (va_eqR (hq _ (List.mem_of_getElem? (i := 292) (by decide +kernel)) : (Cond.eq (Term.string "KitchenTable$Tape" (51 : Nat)) (Term.string "KitchenTableModel" (174 : Nat))).before #[.ref b] s = true) (hv 1 (by decide))), List.forall_mem_cons.mpr ⟨vk_R.of (hts _ (List.mem_of_getElem? (i := 992) (by decide +kernel)) : (Cond.stringRef "KitchenTableModel" (180 : Nat) "told").before #[.ref b] s = true) (va_eqR (hq _ (List.mem_of_getElem? (i := 301) (by decide +kernel)) : (Cond.eq (Term.string "KitchenTable$Tape" (59 : Nat)) (Term.string "KitchenTableModel" (180 : Nat))).before #[.ref b] s = true) (hv 2 (by decide))), List.forall_mem_cons.mpr ⟨vk_R.of (hts _ (List.mem_of_getElem? (i := 993) (by decide +kernel)) : (Cond.stringRef "KitchenTableModel" (182 : Nat) "hour").before #[.ref b] s = true) (va_eqR (hq _ (List.mem_of_getElem? (i := 310) (by decide +kernel)) : (Cond.eq (Term.string "KitchenTable$Tape" (61 : Nat)) (Term.string "KitchenTableModel" (182 : Nat))).before #[.ref b] s = true) (hv 3 (by decide))), List.forall_mem_cons.mpr ⟨vk_R.of (hts _ (List.mem_of_getElem? (i := 994) (by decide +kernel)) : (Cond.stringRef "KitchenTableModel" (183 : Nat) "who").before #[.ref b] s = true) (va_eqR (hq _ (List.mem_of_getElem? (i := 318) (by decide +kernel)) : (Cond.eq (Term.string "KitchenTable$Tape" (63 : Nat)) (Term.string "KitchenTableModel" (183 : Nat))).before #[.ref b] s = true) (hv 4 (by decide))), List.forall_mem_cons.mpr ⟨vk_R.of (hts _ (List.mem_of_getElem? (i := 995) (by decide +kernel)) : (Cond.stringRef "KitchenTableModel" (185 : Nat) "temper").before #[.ref b] s = true) (va_eqR (hq _ (List.mem_of_getElem? (i := 329) (by decide +kernel)) : (Cond.eq (Term.string "KitchenTable$Tape" (65 : Nat)) (Term.string "KitchenTableModel" (185 : Nat))).before #[.ref b] s = true) (hv 5 (by decide))), List.forall_mem_cons.mpr ⟨vk_R.of (hts _ (List.mem_of_getElem? (i := 996) (by decide +kernel)) : (Cond.stringRef "KitchenTableModel" (186 : Nat) "thing").before #[.ref b] s = true) (va_eqR (hq _ (List.mem_of_getElem? (i := 339) (by decide +kernel)) : (Cond.eq (Term.string "KitchenTable$Tape" (67 : Nat)) (Term.string "KitchenTableModel" (186 : Nat))).before #[.ref b] s = true) (hv 6 (by decide))), List.forall_mem_cons.mpr ⟨vk_R.of (hts _ (List.mem_of_getElem? (i := 949) (by decide +kernel)) : (Cond.stringRef "KitchenTableModel" (233 : Nat) "do").before #[.ref b] s = true) (va_eqR (hq _ (List.mem_of_getElem? (i := 274) (by decide +kernel)) : (Cond.eq (Term.string "KitchenTable$Tape" (69 : Nat)) (Term.string "KitchenTableModel" (233 : Nat))).before #[.ref b] s = true) (hv 7 (by decide))), List.forall_mem_cons.mpr ⟨vk_R.of (hts _ (List.mem_of_getElem? (i := 1003) (by decide +kernel)) : (Cond.stringRef "KitchenTableModel" (239 : Nat) "take").before #[.ref b] s = true) (va_eqR (hq _ (List.mem_of_getElem? (i := 363) (by decide +kernel)) : (Cond.eq (Term.string "KitchenTable$Tape" (73 : Nat)) (Term.string "KitchenTableModel" (239 : Nat))).before #[.ref b] s = true) (hv 8 (by decide))), List.forall_mem_cons.mpr ⟨vk_R.of (hts _ (List.mem_of_getElem? (i := 1004) (by decide +kernel)) : (Cond.stringRef "KitchenTableModel" (241 : Nat) "care").before #[.ref b] s = true) (va_eqR (hq _ (List.mem_of_getElem? (i := 372) (by decide +kernel)) : (Cond.eq (Term.string "KitchenTable$Tape" (75 : Nat)) (Term.string "KitchenTableModel" (241 : Nat))).before #[.ref b] s = true) (hv 9 (by decide))), List.forall_mem_cons.mpr ⟨vk_R.of (hts _ (List.mem_of_getElem? (i := 1002) (by decide +kernel)) : (Cond.stringRef "KitchenTableModel" (197 : Nat) "or").before #[.ref b] s = true) (va_eqR (hq _ (List.mem_of_getElem? (i := 354) (by decide +kernel)) : (Cond.eq (Term.string "KitchenTable$Tape" (77 : Nat)) (Term.string "KitchenTableModel" (197 : Nat))).before #[.ref b] s = true) (hv 10 (by decide))), List.forall_mem_cons.mpr ⟨vk_R.of (hts _ (List.mem_of_getElem? (i := 1001) (by decide +kernel)) : (Cond.stringRef "KitchenTableModel" (209 : Nat) "and").before #[.ref b] s = true) (va_eqR (hq _ (List.mem_of_getElem? (i := 347) (by decide +kernel)) : (Cond.eq (Term.string "KitchenTable$Tape" (79 : Nat)) (Term.string "KitchenTableModel" (209 : Nat))).before #[.ref b] s = true) (hv 11 (by decide))), List.forall_mem_cons.mpr ⟨vk_R.of (hts _ (List.mem_of_getElem? (i := 970) (by decide +kernel)) : (Cond.stringRef "KitchenTableModel" (211 : Nat) "not").before #[.ref b] s = true) (va_eqR (hq _ (List.mem_of_getElem? (i := 282) (by decide +kernel)) : (Cond.eq (Term.string "KitchenTable$Tape" (81 : Nat)) (Term.string "KitchenTableModel" (211 : Nat))).before #[.ref b] s = true) (hv 12 (by decide))), fun _ h => absurd h List.not_mem_nil⟩⟩⟩⟩⟩⟩⟩⟩⟩⟩⟩⟩⟩⟩⟩⟩⟩⟩⟩⟩⟩⟩⟩⟩⟩⟩
theorem so_n {b : Nat} {s : State} (hts : ∀ w ∈ lw_tbl, w.before #[Value.ref b] s = true) : ∀ q ∈ nestM, va_Nw (.methodLinkNest q.1 q.2.1 q.2.2 "KitchenTable") s := by
  unfold nestM
  exact List.forall_mem_cons.mpr ⟨va_Nw.of rfl (hts _ (List.mem_of_getElem? (i := 102) (by decide +kernel)) : (Cond.methodLinkNest "KitchenTable$Table" (42 : Nat) ({ cls := "KitchenTable$Guest", name := "<init>", desc := "()V" } : MethodName) "KitchenTable").before #[.ref b] s = true), List.forall_mem_cons.mpr ⟨va_Nw.of rfl (hts _ (List.mem_of_getElem? (i := 115) (by decide +kernel)) : (Cond.methodLinkNest "KitchenTable$Table" (43 : Nat) ({ cls := "KitchenTable$Slip", name := "<init>", desc := "()V" } : MethodName) "KitchenTable").before #[.ref b] s = true), List.forall_mem_cons.mpr ⟨va_Nw.of rfl (hts _ (List.mem_of_getElem? (i := 158) (by decide +kernel)) : (Cond.methodLinkNest "KitchenTable$Table" (44 : Nat) ({ cls := "KitchenTable$Rule", name := "<init>", desc := "()V" } : MethodName) "KitchenTable").before #[.ref b] s = true), List.forall_mem_cons.mpr ⟨va_Nw.of rfl (hts _ (List.mem_of_getElem? (i := 274) (by decide +kernel)) : (Cond.methodLinkNest "KitchenTable" (27 : Nat) ({ cls := "KitchenTable$Tape", name := "<init>", desc := "()V" } : MethodName) "KitchenTable").before #[.ref b] s = true), List.forall_mem_cons.mpr ⟨va_Nw.of rfl (hts _ (List.mem_of_getElem? (i := 300) (by decide +kernel)) : (Cond.methodLinkNest "KitchenTable" (34 : Nat) ({ cls := "KitchenTable$Marks", name := "<init>", desc := "()V" } : MethodName) "KitchenTable").before #[.ref b] s = true), List.forall_mem_cons.mpr ⟨va_Nw.of rfl (hts _ (List.mem_of_getElem? (i := 323) (by decide +kernel)) : (Cond.methodLinkNest "KitchenTable" (41 : Nat) ({ cls := "KitchenTable$Image", name := "<init>", desc := "()V" } : MethodName) "KitchenTable").before #[.ref b] s = true), List.forall_mem_cons.mpr ⟨va_Nw.of rfl (hts _ (List.mem_of_getElem? (i := 360) (by decide +kernel)) : (Cond.methodLinkNest "KitchenTable" (52 : Nat) ({ cls := "KitchenTable$Sheet", name := "<init>", desc := "()V" } : MethodName) "KitchenTable").before #[.ref b] s = true), fun _ h => absurd h List.not_mem_nil⟩⟩⟩⟩⟩⟩⟩
theorem so_3 {b : Nat} {s : State} (hts : ∀ w ∈ lw_tbl, w.before #[Value.ref b] s = true) : RO3 s := ⟨va_AO.of (hts _ (List.mem_of_getElem? (i := 96) (by decide +kernel)) : (Cond.arrayOver (FieldType.object "KitchenTable$Guest")).before #[.ref b] s = true), va_AO.of (hts _ (List.mem_of_getElem? (i := 98) (by decide +kernel)) : (Cond.arrayOver (FieldType.object "KitchenTable$Slip")).before #[.ref b] s = true), va_AO.of (hts _ (List.mem_of_getElem? (i := 100) (by decide +kernel)) : (Cond.arrayOver (FieldType.object "KitchenTable$Rule")).before #[.ref b] s = true), va_AO.of (hts _ (List.mem_of_getElem? (i := 358) (by decide +kernel)) : (Cond.arrayOver (FieldType.object "KitchenTable$Sheet")).before #[.ref b] s = true), (hts _ (List.mem_of_getElem? (i := 214) (by decide +kernel)) : (Cond.arrayOver (FieldType.array FieldType.int)).before #[.ref b] s = true)⟩
theorem ca_p {s : State} {args : Array Value} {ty : FieldType} (h : (Cond.arrayClass ty).before args s = true) : ∃ c, ArrOfT s c ty ∧ s.vm.findClass ("[" ++ ty.toString) = some c := by
  obtain ⟨c, k, comp, h1, h2, h3⟩ := Cond.arrayClass_spec h
  exact ⟨c, fun N z => ⟨(fun k h => by cases h), k, h2, comp, h3⟩, h1⟩
theorem ca_o {s : State} {C : String} (h : va_AO C s) : ∃ c, ArrOfT s c (.object C) ∧ va_RA s c (.object C) := by
  obtain ⟨comp, c, k, h1, h2, h3, h4, h5⟩ := Cond.arrayOver_spec h
  exact ⟨c, fun N z => ⟨(fun k h => by cases h), k, h3, comp, h4⟩, k, comp, h3, h4, h1, h5⟩
theorem ca_a {s : State} (h : va_AOA .int s) : ∃ c, ArrOfT s c (.array .int) ∧ s.vm.findClass ("[" ++ (FieldType.array .int).toString) = some c := by
  obtain ⟨cy, c, k, h1, h2, h3, h4⟩ := vg_made h
  exact ⟨c, fun N z => ⟨(fun k h => by cases h), k, h3, cy, h4⟩, h2⟩

set_option maxRecDepth 20000 in
/-- what is the same for every world, at the law's begin -/
theorem so_G {b : Nat} {s : State} (hts : ∀ w ∈ lw_tbl, w.before #[Value.ref b] s = true) (hq : ∀ c ∈ FL1, c.before #[Value.ref b] s = true) : ∃ G : GT, KT G s ∧ RO G (fun q => s.heap.size ≤ q) s s.heap := by
  have htg : ∀ w ∈ GW, w.before #[Value.ref b] s = true := fun w h => hts w (List.mem_filter.mp h).1
  have hA : ∀ a : Nat, a < s.heap.size → ¬ (fun q : Nat => s.heap.size ≤ q) a := fun a h => Nat.not_le.mpr h
  obtain ⟨cX0, iX0, hKnX0⟩ := u_known (C := RX0) (T := TX0) (N := 16) (n := 16) htg in_X0 (htg _ qw_208)
  obtain ⟨cX1, iX1, hKnX1⟩ := u_known (C := RX1) (T := TX1) (N := 1) (n := 1) htg in_X1 (htg _ qw_101)
  obtain ⟨cX2, iX2, hKnX2⟩ := u_known (C := RX2) (T := TX2) (N := 7) (n := 7) htg in_X2 (htg _ qw_322)
  obtain ⟨cX3, iX3, hKnX3⟩ := u_known (C := RX3) (T := TX3) (N := 5) (n := 5) htg in_X3 (htg _ qw_299)
  obtain ⟨cX4, iX4, hKnX4⟩ := u_known (C := RX4) (T := TX4) (N := 5) (n := 5) htg in_X4 (htg _ qw_431)
  obtain ⟨cX5, iX5, hKnX5⟩ := u_known (C := RX5) (T := TX5) (N := 3) (n := 3) htg in_X5 (htg _ qw_157)
  obtain ⟨cX6, iX6, hKnX6⟩ := u_known (C := RX6) (T := TX6) (N := 3) (n := 3) htg in_X6 (htg _ qw_359)
  obtain ⟨cX7, iX7, hKnX7⟩ := u_known (C := RX7) (T := TX7) (N := 8) (n := 8) htg in_X7 (htg _ qw_114)
  obtain ⟨cX8, iX8, hKnX8⟩ := u_known (C := RX8) (T := TX8) (N := 7) (n := 7) htg in_X8 (htg _ qw_90)
  obtain ⟨cX9, iX9, hKnX9⟩ := u_known (C := RX9) (T := TX9) (N := 5) (n := 5) htg in_X9 (htg _ qw_273)
  obtain ⟨cX10, iX10, hKnX10⟩ := u_known (C := RX10) (T := TX10) (N := 6) (n := 6) htg in_X10 (htg _ qw_82)
  obtain ⟨cX11, iX11, hKnX11⟩ := u_known (C := RX11) (T := TX11) (N := 48) (n := 48) htg in_X11 (htg _ qw_920)
  obtain ⟨dC, dI, hKc⟩ : ∃ (dC : Nat → ClassId) (dI : Nat → Nat → Nat), ∀ (k : Nat) (q : vw_C), vwCl[k]? = some q → u_Kn s q.1 q.2.1 q.2.2 (dC k) (dI k) := by
    refine ⟨fun k => if k = 0 then cX0 else if k = 1 then cX1 else if k = 2 then cX2 else if k = 3 then cX3 else if k = 4 then cX4 else if k = 5 then cX5 else if k = 6 then cX6 else if k = 7 then cX7 else if k = 8 then cX8 else if k = 9 then cX9 else if k = 10 then cX10 else cX11, fun k => if k = 0 then iX0 else if k = 1 then iX1 else if k = 2 then iX2 else if k = 3 then iX3 else if k = 4 then iX4 else if k = 5 then iX5 else if k = 6 then iX6 else if k = 7 then iX7 else if k = 8 then iX8 else if k = 9 then iX9 else if k = 10 then iX10 else iX11, ?_⟩
    intro k q hq
    match k, hq with
    | 0, hq => cases hq; exact hKnX0
    | 1, hq => cases hq; exact hKnX1
    | 2, hq => cases hq; exact hKnX2
    | 3, hq => cases hq; exact hKnX3
    | 4, hq => cases hq; exact hKnX4
    | 5, hq => cases hq; exact hKnX5
    | 6, hq => cases hq; exact hKnX6
    | 7, hq => cases hq; exact hKnX7
    | 8, hq => cases hq; exact hKnX8
    | 9, hq => cases hq; exact hKnX9
    | 10, hq => cases hq; exact hKnX10
    | 11, hq => cases hq; exact hKnX11
    | k + 12, hq => simp [vwCl] at hq
  have h3 := so_3 hts
  obtain ⟨aI, hI1, hI2⟩ := ca_p (hts _ (List.mem_of_getElem? (i := 113) (by decide +kernel)) : (Cond.arrayClass FieldType.int).before #[.ref b] s = true)
  obtain ⟨aL, hL1, hL2⟩ := ca_p (hts _ (List.mem_of_getElem? (i := 1150) (by decide +kernel)) : (Cond.arrayClass FieldType.long).before #[.ref b] s = true)
  obtain ⟨aA, hA1, hA2⟩ := ca_a h3.2.2.2.2
  obtain ⟨aG, hG1, hG2⟩ := ca_o h3.1
  obtain ⟨aS, hS1, hS2⟩ := ca_o h3.2.1
  obtain ⟨aR, hR1, hR2⟩ := ca_o h3.2.2.1
  obtain ⟨aH, hH1, hH2⟩ := ca_o h3.2.2.2.1
  obtain ⟨t0, z0, T0⟩ := so_0 (A := fun q => s.heap.size ≤ q) hts hq hA
  obtain ⟨t1, z1, T1⟩ := so_1 (A := fun q => s.heap.size ≤ q) hts hq hA
  obtain ⟨t2, z2, T2⟩ := so_2 (A := fun q => s.heap.size ≤ q) hts hq hA
  obtain ⟨adK, adV, hSt, hv⟩ := my_Sof (A := fun q => s.heap.size ≤ q) hq hA
  let G : GT := ((dC, dI), (fun k => if k = 0 then aI else if k = 1 then aA else if k = 2 then aG else if k = 3 then aS else if k = 4 then aR else if k = 5 then aH else aL), fun k => if k = 0 then t0 else if k = 1 then t1 else if k = 2 then t2 else if k % 2 = 1 then adK ((k - 3) / 2) else adV ((k - 4) / 2))
  have eK : saS G = adK := by
    funext i
    show (if 3 + 2 * i = 0 then t0 else if 3 + 2 * i = 1 then t1 else if 3 + 2 * i = 2 then t2 else if (3 + 2 * i) % 2 = 1 then adK ((3 + 2 * i - 3) / 2) else adV ((3 + 2 * i - 4) / 2)) = adK i
    rw [if_neg (by omega), if_neg (by omega), if_neg (by omega), if_pos (by omega), show (3 + 2 * i - 3) / 2 = i by omega]
  have eV : sbS G = adV := by
    funext i
    show (if 4 + 2 * i = 0 then t0 else if 4 + 2 * i = 1 then t1 else if 4 + 2 * i = 2 then t2 else if (4 + 2 * i) % 2 = 1 then adK ((4 + 2 * i - 3) / 2) else adV ((4 + 2 * i - 4) / 2)) = adV i
    rw [if_neg (by omega), if_neg (by omega), if_neg (by omega), if_neg (by omega), show (4 + 2 * i - 4) / 2 = i by omega]
  refine ⟨G, ⟨hKc, fun k q hq => ?_⟩, ⟨⟨z0, T0⟩, ⟨z1, T1⟩, ⟨z2, T2⟩, so_c hts hq hA, so_s hts hq hA, by rw [eK, eV]; exact hSt⟩, by rw [eK]; exact so_r hts hq hv, so_n hts, va_Nw.of rfl (hts _ (List.mem_of_getElem? (i := 283) (by decide +kernel)) : (Cond.fieldLinkNest "KitchenTable$Parser" (52 : Nat) "KitchenTable$Tape" "tokens" "[I" "KitchenTable").before #[.ref b] s = true), va_Nw.of rfl (hts _ (List.mem_of_getElem? (i := 285) (by decide +kernel)) : (Cond.fieldLinkNest "KitchenTable$Parser" (56 : Nat) "KitchenTable$Tape" "starts" "[I" "KitchenTable").before #[.ref b] s = true)⟩
  match k, hq with
  | 0, hq => cases hq; exact ⟨hI1, hI2⟩
  | 1, hq => cases hq; exact ⟨hA1, hA2⟩
  | 2, hq => cases hq; exact ⟨hG1, hG2⟩
  | 3, hq => cases hq; exact ⟨hS1, hS2⟩
  | 4, hq => cases hq; exact ⟨hR1, hR2⟩
  | 5, hq => cases hq; exact ⟨hH1, hH2⟩
  | 6, hq => cases hq; exact ⟨hL1, hL2⟩
  | k + 7, hq => simp [tysG] at hq
