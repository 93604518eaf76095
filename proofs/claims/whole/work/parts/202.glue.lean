theorem va_P.left {D : va_G} {cl : List vw_C} {a b : va_W} {H : Heap} (h : va_P D cl (a ++ b) H) : va_P D cl a H := by
  intro k q hq
  refine h k q ?_
  rw [List.getElem?_append_left (List.getElem?_eq_some_iff.mp hq).1]
  exact hq
theorem wW_snoc {sh : ShT} {φ : Nat → Nat} {M : Mem} {n : Nat} (x : Nat × va_E) : (wW sh φ M n ++ [x])[n]? = some x := by
  rw [List.getElem?_append_right (by rw [wW_len]; exact Nat.le_refl _), wW_len, Nat.sub_self]
  rfl
theorem wW_rest {sh : ShT} {φ : Nat → Nat} {M : Mem} {n : Nat} (x : Nat × va_E) : (List.range n).map (fun i => (wW sh φ M n ++ [x])[i]?) = (wW sh φ M n).map some := by
  apply List.ext_getElem?
  intro k
  by_cases hk : k < n
  · rw [List.getElem?_map, List.getElem?_map, wW_get hk, List.getElem?_range hk]
    show some ((wW sh φ M n ++ [x])[k]?) = _
    rw [List.getElem?_append_left (by rw [wW_len]; exact hk), wW_get hk]
    rfl
  · rw [List.getElem?_eq_none (by simp; omega), List.getElem?_eq_none (by rw [List.length_map, wW_len]; omega)]
theorem nd_107 : va_nd (List.range 107) = true := by decide +kernel
theorem wW_of {sh : ShT} {φ : Nat → Nat} {M : Mem} {n : Nat} {D : va_G} {H : Heap} (h : ∀ i, i < n → va_at D vwCl (φ i, sh i (M i)) H) : va_P D vwCl (wW sh φ M n) H := by
  intro k q hq
  obtain ⟨hk, rfl⟩ := wW_some hq
  exact h k hk
def phX (l : List Nat) : Nat → Nat := fun i => l.getD i 0
theorem wD_of {A : Nat → Prop} {ws : va_W} (hD : va_D A ws) : wD (phX (ws.map (fun q => q.1))) ws.length A := by
  have key : ∀ i, i < ws.length → ∃ e, ws[i]? = some (phX (ws.map (fun q => q.1)) i, e) := by
    intro i hi
    refine ⟨(ws[i]).2, ?_⟩
    rw [List.getElem?_eq_getElem hi]
    simp [phX, List.getD_eq_getElem?_getD, hi]
  refine ⟨fun i j hi hj e => ?_, fun i hi => ?_⟩
  · obtain ⟨e1, h1⟩ := key i hi
    obtain ⟨e2, h2⟩ := key j hj
    exact hD.1 i j _ _ h1 h2 e
  · obtain ⟨e1, h1⟩ := key i hi
    exact hD.2 i _ h1
theorem fcongr {φ φ' : Nat → Nat} {N b L : Nat} (h : ∀ i, i < N → φ' i = φ i) (hb : b + L ≤ N) : (fun q => if q < L then some (φ' (b + q)) else none) = (fun q => if q < L then some (φ (b + q)) else none) := by
  funext q
  by_cases hq : q < L
  · rw [if_pos hq, if_pos hq, h _ (by omega)]
  · rw [if_neg hq, if_neg hq]

theorem cX_congr {G : GT} {φ φ' : Nat → Nat} (h : ∀ i, i < 107 → φ' i = φ i) : ∀ i, i < 107 → ∀ r, cX G φ' i r = cX G φ i r := by
  intro i hi r
  by_cases h20 : i < 20
  · match i, h20, (show 0 ≤ i by omega) with
    | 0, _, _ => rw [sX_KT, sX_KT, h 1 (by decide), h 5 (by decide), h 19 (by decide), h 85 (by decide), h 98 (by decide), h 106 (by decide)]
    | 1, _, _ => rw [sX_Table, sX_Table, h 2 (by decide), h 3 (by decide), h 4 (by decide)]
    | 2, _, _ => rw [sX_people, sX_people, fcongr h (by decide)]
    | 3, _, _ => rw [sX_slips, sX_slips, fcongr h (by decide)]
    | 4, _, _ => rw [sX_rules, sX_rules, fcongr h (by decide)]
    | 5, _, _ => rw [sX_Course, sX_Course, h 6 (by decide), h 7 (by decide), h 8 (by decide), h 9 (by decide), h 10 (by decide), h 11 (by decide), h 12 (by decide), h 1 (by decide), h 13 (by decide), h 14 (by decide), h 15 (by decide), h 16 (by decide), h 17 (by decide), h 18 (by decide)]
    | 6, _, _ => rw [sX_lyingAtEnd, sX_lyingAtEnd]
    | 7, _, _ => rw [sX_knownAtEnd, sX_knownAtEnd, fcongr h (by decide)]
    | 8, _, _ => rw [sX_firstRead, sX_firstRead, fcongr h (by decide)]
    | 9, _, _ => rw [sX_timesDone, sX_timesDone, fcongr h (by decide)]
    | 10, _, _ => rw [sX_timesInAll, sX_timesInAll]
    | 11, _, _ => rw [sX_firstHour, sX_firstHour]
    | 12, _, _ => rw [sX_firstDoer, sX_firstDoer]
    | 13, _, _ => rw [sX_uppermost, sX_uppermost]
    | 14, _, _ => rw [sX_known, sX_known]
    | 15, _, _ => rw [sX_askedOf, sX_askedOf, fcongr h (by decide)]
    | 16, _, _ => rw [sX_toldTo, sX_toldTo, fcongr h (by decide)]
    | 17, _, _ => rw [sX_facts, sX_facts]
    | 18, _, _ => rw [sX_stack, sX_stack]
    | 19, _, _ => rw [sX_Tape, sX_Tape, h 58 (by decide), h 59 (by decide), h 74 (by decide)]
    | i + 20, a, _ => exact absurd a (by omega)
  by_cases h25 : i < 25
  · obtain ⟨j, rfl⟩ : ∃ j, i = 20 + j := ⟨i - 20, by omega⟩
    have hj : j < 5 := by omega
    rw [(sX_Guest hj), (sX_Guest hj), h (25 + j) (by omega)]
  by_cases h30 : i < 30
  · obtain ⟨j, rfl⟩ : ∃ j, i = 25 + j := ⟨i - 25, by omega⟩
    have hj : j < 5 := by omega
    rw [(sX_traits hj), (sX_traits hj)]
  by_cases h40 : i < 40
  · obtain ⟨j, rfl⟩ : ∃ j, i = 30 + j := ⟨i - 30, by omega⟩
    have hj : j < 10 := by omega
    rw [(sX_Slip hj), (sX_Slip hj)]
  by_cases h46 : i < 46
  · obtain ⟨j, rfl⟩ : ∃ j, i = 40 + j := ⟨i - 40, by omega⟩
    have hj : j < 6 := by omega
    rw [(sX_Rule hj), (sX_Rule hj), h (46 + j) (by omega), h (52 + j) (by omega)]
  by_cases h52 : i < 52
  · obtain ⟨j, rfl⟩ : ∃ j, i = 46 + j := ⟨i - 46, by omega⟩
    have hj : j < 6 := by omega
    rw [(sX_steps hj), (sX_steps hj)]
  by_cases h58 : i < 58
  · obtain ⟨j, rfl⟩ : ∃ j, i = 52 + j := ⟨i - 52, by omega⟩
    have hj : j < 6 := by omega
    rw [(sX_ends hj), (sX_ends hj)]
  by_cases h60 : i < 60
  · match i, h60, (show 58 ≤ i by omega) with
    | 58, _, _ => rw [sX_bytes, sX_bytes]
    | 59, _, _ => rw [sX_tokens, sX_tokens]
    | 0, _, b => exact absurd b (by decide)
    | 1, _, b => exact absurd b (by decide)
    | 2, _, b => exact absurd b (by decide)
    | 3, _, b => exact absurd b (by decide)
    | 4, _, b => exact absurd b (by decide)
    | 5, _, b => exact absurd b (by decide)
    | 6, _, b => exact absurd b (by decide)
    | 7, _, b => exact absurd b (by decide)
    | 8, _, b => exact absurd b (by decide)
    | 9, _, b => exact absurd b (by decide)
    | 10, _, b => exact absurd b (by decide)
    | 11, _, b => exact absurd b (by decide)
    | 12, _, b => exact absurd b (by decide)
    | 13, _, b => exact absurd b (by decide)
    | 14, _, b => exact absurd b (by decide)
    | 15, _, b => exact absurd b (by decide)
    | 16, _, b => exact absurd b (by decide)
    | 17, _, b => exact absurd b (by decide)
    | 18, _, b => exact absurd b (by decide)
    | 19, _, b => exact absurd b (by decide)
    | 20, _, b => exact absurd b (by decide)
    | 21, _, b => exact absurd b (by decide)
    | 22, _, b => exact absurd b (by decide)
    | 23, _, b => exact absurd b (by decide)
    | 24, _, b => exact absurd b (by decide)
    | 25, _, b => exact absurd b (by decide)
    | 26, _, b => exact absurd b (by decide)
    | 27, _, b => exact absurd b (by decide)
    | 28, _, b => exact absurd b (by decide)
    | 29, _, b => exact absurd b (by decide)
    | 30, _, b => exact absurd b (by decide)
    | 31, _, b => exact absurd b (by decide)
    | 32, _, b => exact absurd b (by decide)
    | 33, _, b => exact absurd b (by decide)
    | 34, _, b => exact absurd b (by decide)
    | 35, _, b => exact absurd b (by decide)
    | 36, _, b => exact absurd b (by decide)
    | 37, _, b => exact absurd b (by decide)
    | 38, _, b => exact absurd b (by decide)
    | 39, _, b => exact absurd b (by decide)
    | 40, _, b => exact absurd b (by decide)
    | 41, _, b => exact absurd b (by decide)
    | 42, _, b => exact absurd b (by decide)
    | 43, _, b => exact absurd b (by decide)
    | 44, _, b => exact absurd b (by decide)
    | 45, _, b => exact absurd b (by decide)
    | 46, _, b => exact absurd b (by decide)
    | 47, _, b => exact absurd b (by decide)
    | 48, _, b => exact absurd b (by decide)
    | 49, _, b => exact absurd b (by decide)
    | 50, _, b => exact absurd b (by decide)
    | 51, _, b => exact absurd b (by decide)
    | 52, _, b => exact absurd b (by decide)
    | 53, _, b => exact absurd b (by decide)
    | 54, _, b => exact absurd b (by decide)
    | 55, _, b => exact absurd b (by decide)
    | 56, _, b => exact absurd b (by decide)
    | 57, _, b => exact absurd b (by decide)
    | i + 60, a, _ => exact absurd a (by omega)
  by_cases h65 : i < 65
  · obtain ⟨j, rfl⟩ : ∃ j, i = 60 + j := ⟨i - 60, by omega⟩
    have hj : j < 5 := by omega
    rw [(sX_knownRow hj), (sX_knownRow hj)]
  by_cases h70 : i < 70
  · obtain ⟨j, rfl⟩ : ∃ j, i = 65 + j := ⟨i - 65, by omega⟩
    have hj : j < 5 := by omega
    rw [(sX_readRow hj), (sX_readRow hj)]
  by_cases h74 : i < 74
  · obtain ⟨j, rfl⟩ : ∃ j, i = 70 + j := ⟨i - 70, by omega⟩
    have hj : j < 4 := by omega
    rw [(sX_doneRow hj), (sX_doneRow hj)]
  by_cases h75 : i < 75
  · match i, h75, (show 74 ≤ i by omega) with
    | 74, _, _ => rw [sX_starts, sX_starts]
    | 0, _, b => exact absurd b (by decide)
    | 1, _, b => exact absurd b (by decide)
    | 2, _, b => exact absurd b (by decide)
    | 3, _, b => exact absurd b (by decide)
    | 4, _, b => exact absurd b (by decide)
    | 5, _, b => exact absurd b (by decide)
    | 6, _, b => exact absurd b (by decide)
    | 7, _, b => exact absurd b (by decide)
    | 8, _, b => exact absurd b (by decide)
    | 9, _, b => exact absurd b (by decide)
    | 10, _, b => exact absurd b (by decide)
    | 11, _, b => exact absurd b (by decide)
    | 12, _, b => exact absurd b (by decide)
    | 13, _, b => exact absurd b (by decide)
    | 14, _, b => exact absurd b (by decide)
    | 15, _, b => exact absurd b (by decide)
    | 16, _, b => exact absurd b (by decide)
    | 17, _, b => exact absurd b (by decide)
    | 18, _, b => exact absurd b (by decide)
    | 19, _, b => exact absurd b (by decide)
    | 20, _, b => exact absurd b (by decide)
    | 21, _, b => exact absurd b (by decide)
    | 22, _, b => exact absurd b (by decide)
    | 23, _, b => exact absurd b (by decide)
    | 24, _, b => exact absurd b (by decide)
    | 25, _, b => exact absurd b (by decide)
    | 26, _, b => exact absurd b (by decide)
    | 27, _, b => exact absurd b (by decide)
    | 28, _, b => exact absurd b (by decide)
    | 29, _, b => exact absurd b (by decide)
    | 30, _, b => exact absurd b (by decide)
    | 31, _, b => exact absurd b (by decide)
    | 32, _, b => exact absurd b (by decide)
    | 33, _, b => exact absurd b (by decide)
    | 34, _, b => exact absurd b (by decide)
    | 35, _, b => exact absurd b (by decide)
    | 36, _, b => exact absurd b (by decide)
    | 37, _, b => exact absurd b (by decide)
    | 38, _, b => exact absurd b (by decide)
    | 39, _, b => exact absurd b (by decide)
    | 40, _, b => exact absurd b (by decide)
    | 41, _, b => exact absurd b (by decide)
    | 42, _, b => exact absurd b (by decide)
    | 43, _, b => exact absurd b (by decide)
    | 44, _, b => exact absurd b (by decide)
    | 45, _, b => exact absurd b (by decide)
    | 46, _, b => exact absurd b (by decide)
    | 47, _, b => exact absurd b (by decide)
    | 48, _, b => exact absurd b (by decide)
    | 49, _, b => exact absurd b (by decide)
    | 50, _, b => exact absurd b (by decide)
    | 51, _, b => exact absurd b (by decide)
    | 52, _, b => exact absurd b (by decide)
    | 53, _, b => exact absurd b (by decide)
    | 54, _, b => exact absurd b (by decide)
    | 55, _, b => exact absurd b (by decide)
    | 56, _, b => exact absurd b (by decide)
    | 57, _, b => exact absurd b (by decide)
    | 58, _, b => exact absurd b (by decide)
    | 59, _, b => exact absurd b (by decide)
    | 60, _, b => exact absurd b (by decide)
    | 61, _, b => exact absurd b (by decide)
    | 62, _, b => exact absurd b (by decide)
    | 63, _, b => exact absurd b (by decide)
    | 64, _, b => exact absurd b (by decide)
    | 65, _, b => exact absurd b (by decide)
    | 66, _, b => exact absurd b (by decide)
    | 67, _, b => exact absurd b (by decide)
    | 68, _, b => exact absurd b (by decide)
    | 69, _, b => exact absurd b (by decide)
    | 70, _, b => exact absurd b (by decide)
    | 71, _, b => exact absurd b (by decide)
    | 72, _, b => exact absurd b (by decide)
    | 73, _, b => exact absurd b (by decide)
    | i + 75, a, _ => exact absurd a (by omega)
  by_cases h80 : i < 80
  · obtain ⟨j, rfl⟩ : ∃ j, i = 75 + j := ⟨i - 75, by omega⟩
    have hj : j < 5 := by omega
    rw [(sX_askedRow hj), (sX_askedRow hj)]
  by_cases h85 : i < 85
  · obtain ⟨j, rfl⟩ : ∃ j, i = 80 + j := ⟨i - 80, by omega⟩
    have hj : j < 5 := by omega
    rw [(sX_toldRow hj), (sX_toldRow hj)]
  by_cases h90 : i < 90
  · match i, h90, (show 85 ≤ i by omega) with
    | 85, _, _ => rw [sX_Marks, sX_Marks, h 86 (by decide), h 87 (by decide), h 88 (by decide), h 89 (by decide)]
    | 86, _, _ => rw [sX_mahead, sX_mahead]
    | 87, _, _ => rw [sX_mbehind, sX_mbehind]
    | 88, _, _ => rw [sX_mbefore, sX_mbefore]
    | 89, _, _ => rw [sX_mways, sX_mways]
    | 0, _, b => exact absurd b (by decide)
    | 1, _, b => exact absurd b (by decide)
    | 2, _, b => exact absurd b (by decide)
    | 3, _, b => exact absurd b (by decide)
    | 4, _, b => exact absurd b (by decide)
    | 5, _, b => exact absurd b (by decide)
    | 6, _, b => exact absurd b (by decide)
    | 7, _, b => exact absurd b (by decide)
    | 8, _, b => exact absurd b (by decide)
    | 9, _, b => exact absurd b (by decide)
    | 10, _, b => exact absurd b (by decide)
    | 11, _, b => exact absurd b (by decide)
    | 12, _, b => exact absurd b (by decide)
    | 13, _, b => exact absurd b (by decide)
    | 14, _, b => exact absurd b (by decide)
    | 15, _, b => exact absurd b (by decide)
    | 16, _, b => exact absurd b (by decide)
    | 17, _, b => exact absurd b (by decide)
    | 18, _, b => exact absurd b (by decide)
    | 19, _, b => exact absurd b (by decide)
    | 20, _, b => exact absurd b (by decide)
    | 21, _, b => exact absurd b (by decide)
    | 22, _, b => exact absurd b (by decide)
    | 23, _, b => exact absurd b (by decide)
    | 24, _, b => exact absurd b (by decide)
    | 25, _, b => exact absurd b (by decide)
    | 26, _, b => exact absurd b (by decide)
    | 27, _, b => exact absurd b (by decide)
    | 28, _, b => exact absurd b (by decide)
    | 29, _, b => exact absurd b (by decide)
    | 30, _, b => exact absurd b (by decide)
    | 31, _, b => exact absurd b (by decide)
    | 32, _, b => exact absurd b (by decide)
    | 33, _, b => exact absurd b (by decide)
    | 34, _, b => exact absurd b (by decide)
    | 35, _, b => exact absurd b (by decide)
    | 36, _, b => exact absurd b (by decide)
    | 37, _, b => exact absurd b (by decide)
    | 38, _, b => exact absurd b (by decide)
    | 39, _, b => exact absurd b (by decide)
    | 40, _, b => exact absurd b (by decide)
    | 41, _, b => exact absurd b (by decide)
    | 42, _, b => exact absurd b (by decide)
    | 43, _, b => exact absurd b (by decide)
    | 44, _, b => exact absurd b (by decide)
    | 45, _, b => exact absurd b (by decide)
    | 46, _, b => exact absurd b (by decide)
    | 47, _, b => exact absurd b (by decide)
    | 48, _, b => exact absurd b (by decide)
    | 49, _, b => exact absurd b (by decide)
    | 50, _, b => exact absurd b (by decide)
    | 51, _, b => exact absurd b (by decide)
    | 52, _, b => exact absurd b (by decide)
    | 53, _, b => exact absurd b (by decide)
    | 54, _, b => exact absurd b (by decide)
    | 55, _, b => exact absurd b (by decide)
    | 56, _, b => exact absurd b (by decide)
    | 57, _, b => exact absurd b (by decide)
    | 58, _, b => exact absurd b (by decide)
    | 59, _, b => exact absurd b (by decide)
    | 60, _, b => exact absurd b (by decide)
    | 61, _, b => exact absurd b (by decide)
    | 62, _, b => exact absurd b (by decide)
    | 63, _, b => exact absurd b (by decide)
    | 64, _, b => exact absurd b (by decide)
    | 65, _, b => exact absurd b (by decide)
    | 66, _, b => exact absurd b (by decide)
    | 67, _, b => exact absurd b (by decide)
    | 68, _, b => exact absurd b (by decide)
    | 69, _, b => exact absurd b (by decide)
    | 70, _, b => exact absurd b (by decide)
    | 71, _, b => exact absurd b (by decide)
    | 72, _, b => exact absurd b (by decide)
    | 73, _, b => exact absurd b (by decide)
    | 74, _, b => exact absurd b (by decide)
    | 75, _, b => exact absurd b (by decide)
    | 76, _, b => exact absurd b (by decide)
    | 77, _, b => exact absurd b (by decide)
    | 78, _, b => exact absurd b (by decide)
    | 79, _, b => exact absurd b (by decide)
    | 80, _, b => exact absurd b (by decide)
    | 81, _, b => exact absurd b (by decide)
    | 82, _, b => exact absurd b (by decide)
    | 83, _, b => exact absurd b (by decide)
    | 84, _, b => exact absurd b (by decide)
    | i + 90, a, _ => exact absurd a (by omega)
  by_cases h94 : i < 94
  · obtain ⟨j, rfl⟩ : ∃ j, i = 90 + j := ⟨i - 90, by omega⟩
    have hj : j < 4 := by omega
    rw [(sX_Sheet hj), (sX_Sheet hj), h (94 + j) (by omega)]
  by_cases h98 : i < 98
  · obtain ⟨j, rfl⟩ : ∃ j, i = 94 + j := ⟨i - 94, by omega⟩
    have hj : j < 4 := by omega
    rw [(sX_cells hj), (sX_cells hj)]
  by_cases h101 : i < 101
  · match i, h101, (show 98 ≤ i by omega) with
    | 98, _, _ => rw [sX_Image, sX_Image, h 99 (by decide), h 100 (by decide)]
    | 99, _, _ => rw [sX_itraits, sX_itraits, fcongr h (by decide)]
    | 100, _, _ => rw [sX_ihours, sX_ihours]
    | 0, _, b => exact absurd b (by decide)
    | 1, _, b => exact absurd b (by decide)
    | 2, _, b => exact absurd b (by decide)
    | 3, _, b => exact absurd b (by decide)
    | 4, _, b => exact absurd b (by decide)
    | 5, _, b => exact absurd b (by decide)
    | 6, _, b => exact absurd b (by decide)
    | 7, _, b => exact absurd b (by decide)
    | 8, _, b => exact absurd b (by decide)
    | 9, _, b => exact absurd b (by decide)
    | 10, _, b => exact absurd b (by decide)
    | 11, _, b => exact absurd b (by decide)
    | 12, _, b => exact absurd b (by decide)
    | 13, _, b => exact absurd b (by decide)
    | 14, _, b => exact absurd b (by decide)
    | 15, _, b => exact absurd b (by decide)
    | 16, _, b => exact absurd b (by decide)
    | 17, _, b => exact absurd b (by decide)
    | 18, _, b => exact absurd b (by decide)
    | 19, _, b => exact absurd b (by decide)
    | 20, _, b => exact absurd b (by decide)
    | 21, _, b => exact absurd b (by decide)
    | 22, _, b => exact absurd b (by decide)
    | 23, _, b => exact absurd b (by decide)
    | 24, _, b => exact absurd b (by decide)
    | 25, _, b => exact absurd b (by decide)
    | 26, _, b => exact absurd b (by decide)
    | 27, _, b => exact absurd b (by decide)
    | 28, _, b => exact absurd b (by decide)
    | 29, _, b => exact absurd b (by decide)
    | 30, _, b => exact absurd b (by decide)
    | 31, _, b => exact absurd b (by decide)
    | 32, _, b => exact absurd b (by decide)
    | 33, _, b => exact absurd b (by decide)
    | 34, _, b => exact absurd b (by decide)
    | 35, _, b => exact absurd b (by decide)
    | 36, _, b => exact absurd b (by decide)
    | 37, _, b => exact absurd b (by decide)
    | 38, _, b => exact absurd b (by decide)
    | 39, _, b => exact absurd b (by decide)
    | 40, _, b => exact absurd b (by decide)
    | 41, _, b => exact absurd b (by decide)
    | 42, _, b => exact absurd b (by decide)
    | 43, _, b => exact absurd b (by decide)
    | 44, _, b => exact absurd b (by decide)
    | 45, _, b => exact absurd b (by decide)
    | 46, _, b => exact absurd b (by decide)
    | 47, _, b => exact absurd b (by decide)
    | 48, _, b => exact absurd b (by decide)
    | 49, _, b => exact absurd b (by decide)
    | 50, _, b => exact absurd b (by decide)
    | 51, _, b => exact absurd b (by decide)
    | 52, _, b => exact absurd b (by decide)
    | 53, _, b => exact absurd b (by decide)
    | 54, _, b => exact absurd b (by decide)
    | 55, _, b => exact absurd b (by decide)
    | 56, _, b => exact absurd b (by decide)
    | 57, _, b => exact absurd b (by decide)
    | 58, _, b => exact absurd b (by decide)
    | 59, _, b => exact absurd b (by decide)
    | 60, _, b => exact absurd b (by decide)
    | 61, _, b => exact absurd b (by decide)
    | 62, _, b => exact absurd b (by decide)
    | 63, _, b => exact absurd b (by decide)
    | 64, _, b => exact absurd b (by decide)
    | 65, _, b => exact absurd b (by decide)
    | 66, _, b => exact absurd b (by decide)
    | 67, _, b => exact absurd b (by decide)
    | 68, _, b => exact absurd b (by decide)
    | 69, _, b => exact absurd b (by decide)
    | 70, _, b => exact absurd b (by decide)
    | 71, _, b => exact absurd b (by decide)
    | 72, _, b => exact absurd b (by decide)
    | 73, _, b => exact absurd b (by decide)
    | 74, _, b => exact absurd b (by decide)
    | 75, _, b => exact absurd b (by decide)
    | 76, _, b => exact absurd b (by decide)
    | 77, _, b => exact absurd b (by decide)
    | 78, _, b => exact absurd b (by decide)
    | 79, _, b => exact absurd b (by decide)
    | 80, _, b => exact absurd b (by decide)
    | 81, _, b => exact absurd b (by decide)
    | 82, _, b => exact absurd b (by decide)
    | 83, _, b => exact absurd b (by decide)
    | 84, _, b => exact absurd b (by decide)
    | 85, _, b => exact absurd b (by decide)
    | 86, _, b => exact absurd b (by decide)
    | 87, _, b => exact absurd b (by decide)
    | 88, _, b => exact absurd b (by decide)
    | 89, _, b => exact absurd b (by decide)
    | 90, _, b => exact absurd b (by decide)
    | 91, _, b => exact absurd b (by decide)
    | 92, _, b => exact absurd b (by decide)
    | 93, _, b => exact absurd b (by decide)
    | 94, _, b => exact absurd b (by decide)
    | 95, _, b => exact absurd b (by decide)
    | 96, _, b => exact absurd b (by decide)
    | 97, _, b => exact absurd b (by decide)
    | i + 101, a, _ => exact absurd a (by omega)
  by_cases h106 : i < 106
  · obtain ⟨j, rfl⟩ : ∃ j, i = 101 + j := ⟨i - 101, by omega⟩
    have hj : j < 5 := by omega
    rw [(sX_itrow hj), (sX_itrow hj)]
  by_cases h107 : i < 107
  · match i, h107, (show 106 ≤ i by omega) with
    | 106, _, _ => rw [sX_sheets, sX_sheets, fcongr h (by decide)]
    | 0, _, b => exact absurd b (by decide)
    | 1, _, b => exact absurd b (by decide)
    | 2, _, b => exact absurd b (by decide)
    | 3, _, b => exact absurd b (by decide)
    | 4, _, b => exact absurd b (by decide)
    | 5, _, b => exact absurd b (by decide)
    | 6, _, b => exact absurd b (by decide)
    | 7, _, b => exact absurd b (by decide)
    | 8, _, b => exact absurd b (by decide)
    | 9, _, b => exact absurd b (by decide)
    | 10, _, b => exact absurd b (by decide)
    | 11, _, b => exact absurd b (by decide)
    | 12, _, b => exact absurd b (by decide)
    | 13, _, b => exact absurd b (by decide)
    | 14, _, b => exact absurd b (by decide)
    | 15, _, b => exact absurd b (by decide)
    | 16, _, b => exact absurd b (by decide)
    | 17, _, b => exact absurd b (by decide)
    | 18, _, b => exact absurd b (by decide)
    | 19, _, b => exact absurd b (by decide)
    | 20, _, b => exact absurd b (by decide)
    | 21, _, b => exact absurd b (by decide)
    | 22, _, b => exact absurd b (by decide)
    | 23, _, b => exact absurd b (by decide)
    | 24, _, b => exact absurd b (by decide)
    | 25, _, b => exact absurd b (by decide)
    | 26, _, b => exact absurd b (by decide)
    | 27, _, b => exact absurd b (by decide)
    | 28, _, b => exact absurd b (by decide)
    | 29, _, b => exact absurd b (by decide)
    | 30, _, b => exact absurd b (by decide)
    | 31, _, b => exact absurd b (by decide)
    | 32, _, b => exact absurd b (by decide)
    | 33, _, b => exact absurd b (by decide)
    | 34, _, b => exact absurd b (by decide)
    | 35, _, b => exact absurd b (by decide)
    | 36, _, b => exact absurd b (by decide)
    | 37, _, b => exact absurd b (by decide)
    | 38, _, b => exact absurd b (by decide)
    | 39, _, b => exact absurd b (by decide)
    | 40, _, b => exact absurd b (by decide)
    | 41, _, b => exact absurd b (by decide)
    | 42, _, b => exact absurd b (by decide)
    | 43, _, b => exact absurd b (by decide)
    | 44, _, b => exact absurd b (by decide)
    | 45, _, b => exact absurd b (by decide)
    | 46, _, b => exact absurd b (by decide)
    | 47, _, b => exact absurd b (by decide)
    | 48, _, b => exact absurd b (by decide)
    | 49, _, b => exact absurd b (by decide)
    | 50, _, b => exact absurd b (by decide)
    | 51, _, b => exact absurd b (by decide)
    | 52, _, b => exact absurd b (by decide)
    | 53, _, b => exact absurd b (by decide)
    | 54, _, b => exact absurd b (by decide)
    | 55, _, b => exact absurd b (by decide)
    | 56, _, b => exact absurd b (by decide)
    | 57, _, b => exact absurd b (by decide)
    | 58, _, b => exact absurd b (by decide)
    | 59, _, b => exact absurd b (by decide)
    | 60, _, b => exact absurd b (by decide)
    | 61, _, b => exact absurd b (by decide)
    | 62, _, b => exact absurd b (by decide)
    | 63, _, b => exact absurd b (by decide)
    | 64, _, b => exact absurd b (by decide)
    | 65, _, b => exact absurd b (by decide)
    | 66, _, b => exact absurd b (by decide)
    | 67, _, b => exact absurd b (by decide)
    | 68, _, b => exact absurd b (by decide)
    | 69, _, b => exact absurd b (by decide)
    | 70, _, b => exact absurd b (by decide)
    | 71, _, b => exact absurd b (by decide)
    | 72, _, b => exact absurd b (by decide)
    | 73, _, b => exact absurd b (by decide)
    | 74, _, b => exact absurd b (by decide)
    | 75, _, b => exact absurd b (by decide)
    | 76, _, b => exact absurd b (by decide)
    | 77, _, b => exact absurd b (by decide)
    | 78, _, b => exact absurd b (by decide)
    | 79, _, b => exact absurd b (by decide)
    | 80, _, b => exact absurd b (by decide)
    | 81, _, b => exact absurd b (by decide)
    | 82, _, b => exact absurd b (by decide)
    | 83, _, b => exact absurd b (by decide)
    | 84, _, b => exact absurd b (by decide)
    | 85, _, b => exact absurd b (by decide)
    | 86, _, b => exact absurd b (by decide)
    | 87, _, b => exact absurd b (by decide)
    | 88, _, b => exact absurd b (by decide)
    | 89, _, b => exact absurd b (by decide)
    | 90, _, b => exact absurd b (by decide)
    | 91, _, b => exact absurd b (by decide)
    | 92, _, b => exact absurd b (by decide)
    | 93, _, b => exact absurd b (by decide)
    | 94, _, b => exact absurd b (by decide)
    | 95, _, b => exact absurd b (by decide)
    | 96, _, b => exact absurd b (by decide)
    | 97, _, b => exact absurd b (by decide)
    | 98, _, b => exact absurd b (by decide)
    | 99, _, b => exact absurd b (by decide)
    | 100, _, b => exact absurd b (by decide)
    | 101, _, b => exact absurd b (by decide)
    | 102, _, b => exact absurd b (by decide)
    | 103, _, b => exact absurd b (by decide)
    | 104, _, b => exact absurd b (by decide)
    | 105, _, b => exact absurd b (by decide)
    | i + 107, a, _ => exact absurd a (by omega)
  omega

/-- a parser's row: number of the rule, the index, how many are open, the fault -/
def rowP (j : Nat) : Nat → Int32 := fun k => if k = 1 then nI j else if k = 4 then -1 else 0
def pushP (M : Mem) (j : Nat) : Mem := fun i => if i = 107 then rowP j else M i
theorem world_push {G : GT} {φ : Nat → Nat} {M : Mem} {H : Heap} {q j : Nat} (hj : j < 6) (hP : va_P G.1 vwCl (wW (cX G φ) φ M 107 ++ [(q, .inr (4, [.ref (φ 19), .ref (φ (40 + j)), .int 0, .int 0, .int (-1)]))]) H) : va_P G.1 vwCl (wW (cX G (va_up φ 107 q)) (va_up φ 107 q) (pushP M j) 108) H := by
  have hφ : ∀ i, i < 107 → va_up φ 107 q i = φ i := fun i hi => by unfold va_up; rw [if_neg (by omega)]
  refine wW_of (fun i hi => ?_)
  by_cases h : i < 107
  · rw [cX_congr hφ i h, hφ i h]
    have h1 := hP i (φ i, cX G φ i (M i)) (by rw [List.getElem?_append_left (by rw [wW_len]; exact h), wW_get h])
    rw [show pushP M j i = M i by unfold pushP; rw [if_neg (by omega)]]
    exact h1
  · have e : i = 107 := by omega
    subst e
    have h1 := hP 107 _ (wW_snoc _)
    rw [sX_Parser, show va_up φ 107 q 107 = q by simp [va_up], hφ 19 (by decide)]
    have e1 : pushP M j 107 = rowP j := by simp [pushP]
    rw [e1]
    have e2 : (rowP j 1).toNatClampNeg = j := by
      show (nI j).toNatClampNeg = j
      exact nI_clamp (by omega)
    rw [e2, hφ (40 + j) (by omega)]
    exact h1
theorem world_pop {G : GT} {φ : Nat → Nat} {M : Mem} {H : Heap} {q : Nat} (hP : va_P G.1 vwCl (wW (cX G (va_up φ 107 q)) (va_up φ 107 q) M 108) H) : va_P G.1 vwCl (wW (cX G φ) φ M 107) H := by
  have hφ : ∀ i, i < 107 → va_up φ 107 q i = φ i := fun i hi => by unfold va_up; rw [if_neg (by omega)]
  refine wW_of (fun i hi => ?_)
  have h1 := hP i _ (wW_get (show i < 108 by omega))
  rw [cX_congr hφ i hi, hφ i hi] at h1
  exact h1
theorem wD_push {φ : Nat → Nat} {A : Nat → Prop} {M : Mem} {sh : ShT} {x : va_E} {q : Nat} (h : wD φ 107 A) (hD : va_D A (wW sh φ M 107 ++ [(q, x)])) : wD (va_up φ 107 q) 108 A := by
  have hφ : ∀ i, i < 107 → va_up φ 107 q i = φ i := fun i hi => by unfold va_up; rw [if_neg (by omega)]
  have hq : va_up φ 107 q 107 = q := by simp [va_up]
  have key : ∀ i, i < 108 → ∃ e, (wW sh φ M 107 ++ [(q, x)])[i]? = some (va_up φ 107 q i, e) := by
    intro i hi
    by_cases h : i < 107
    · exact ⟨_, by rw [List.getElem?_append_left (by rw [wW_len]; exact h), wW_get h, hφ i h]⟩
    · have e : i = 107 := by omega
      subst e
      exact ⟨x, by rw [wW_snoc, hq]⟩
  refine ⟨fun i j hi hj e => ?_, fun i hi => ?_⟩
  · obtain ⟨e1, h1⟩ := key i hi
    obtain ⟨e2, h2⟩ := key j hj
    exact hD.1 i j _ _ h1 h2 e
  · obtain ⟨e1, h1⟩ := key i hi
    exact hD.2 i _ h1
section RW3
variable {p : Program} {l : Launch} {e : Env} {R : Room} {s : State} {m : MethodId} {args : Array Value} {below : List Frame} {meth : Method} {c : Code} {H : Heap} {locs : List Loc} {cells slots : Nat} {Q : State → Prop}
variable {cc : ByteArray} {pc : Nat} {ls : Array Slot} {rest : List Value} {sh : ShT} {φ : Nat → Nat} {M : Mem} {n : Nat} {A : Nat → Prop} {H0 : Heap} {G : GT} {own : String}
variable {sh' : ShT} {n' : Nat} {r : Option Value} {M' : Mem} {A0 : Nat → Prop} {y : MethodName} {b : ByteArray} {nL nLc index : Nat} {ret : Option FieldType} {rm : Room} {a : Nat} {As : List Value}
theorem c_V1 (hcs : cells ≤ R.cells ∧ slots ≤ R.slots) (X : At p s m args c cc own G A0 φ n nLc) (hlz : ls.size = nLc) (hM : CT l y b nL ret rm (.ref (φ a) :: As) (WB sh φ M n G) r (WB sh' φ M' n' G) φ n) (w : CW own index y b nL As.length ret) (wi : Cond.instanceMethod y ∈ GW) (ws : Cond.selects y.cls y y ∈ GW) (hR : rm.frames + 1 ≤ R.frames ∧ 8 + (nL + 11) + rm.locals ≤ R.locals) (z1 : rm.cells = 0) (z2 : rm.slots = 0)
    (hP : va_P G.1 vwCl (wW sh φ M n) H) (hS : va_S A0 s.heap H locs) {ci : Nat} {q : vw_C} {fs : (Nat → Int32) → List Value} (ha : a < n) (hs : ∀ r, sh a r = .inr (ci, fs r)) (hci : vwCl[ci]? = some q) (hq : q.1 = y.cls) (hrm : (rest.map fun v => v.category).sum ≤ 8) (hdg : decode cc pc = .ok (.invokevirtual index, 3))
    (kk : ∀ (H1 : Heap) (locs1 : List Loc), va_P G.1 vwCl (wW sh' φ M' n') H1 → va_S A0 s.heap H1 locs1 → W p l e R s m args below meth c H1 locs1 cells slots Q (F0 m (pc + 3) ls (r.toList ++ rest))) : W p l e R s m args below meth c H locs cells slots Q (F0 m pc ls (As.reverse ++ .ref (φ a) :: rest)) :=
  c_V X hlz hM w wi ws hR hP hS ha hs hci hq hrm hdg ⟨by rw [z1]; exact hcs.1, by rw [z2]; exact hcs.2⟩ (by rw [z1, z2]; exact kk)
theorem c_S1 (hcs : cells ≤ R.cells ∧ slots ≤ R.slots) (X : At p s m args c cc own G A0 φ n nLc) (hlz : ls.size = nLc) (hM : CT l y b nL ret rm As (WB sh φ M n G) r (WB sh' φ M' n' G) φ n) (w : CW own index y b nL As.length ret) (wi : Cond.static y ∈ GW) (hR : rm.frames + 1 ≤ R.frames ∧ 8 + (nL + 11) + rm.locals ≤ R.locals) (z1 : rm.cells = 0) (z2 : rm.slots = 0)
    (hP : va_P G.1 vwCl (wW sh φ M n) H) (hS : va_S A0 s.heap H locs) (hrm : (rest.map fun v => v.category).sum ≤ 8) (hdg : decode cc pc = .ok (.invokestatic index, 3))
    (kk : ∀ (H1 : Heap) (locs1 : List Loc), va_P G.1 vwCl (wW sh' φ M' n') H1 → va_S A0 s.heap H1 locs1 → W p l e R s m args below meth c H1 locs1 cells slots Q (F0 m (pc + 3) ls (r.toList ++ rest))) : W p l e R s m args below meth c H locs cells slots Q (F0 m pc ls (As.reverse ++ rest)) :=
  c_S X hlz hM w wi hR hP hS hrm hdg ⟨by rw [z1]; exact hcs.1, by rw [z2]; exact hcs.2⟩ (by rw [z1, z2]; exact kk)
theorem c_VS1 {k : Nat} (hcs : cells ≤ R.cells ∧ slots ≤ R.slots) (X : At p s m args c cc own G A0 φ n nLc) (hlz : ls.size = nLc) (hM : CT l y b nL ret rm (.ref (saS G k) :: As) (WB sh φ M n G) r (WB sh' φ M' n' G) φ n) (w : CW own index y b nL As.length ret) (wi : Cond.instanceMethod y ∈ GW) (ws : Cond.selects y.cls y y ∈ GW) (hR : rm.frames + 1 ≤ R.frames ∧ 8 + (nL + 11) + rm.locals ≤ R.locals) (z1 : rm.cells = 0) (z2 : rm.slots = 0)
    (hP : va_P G.1 vwCl (wW sh φ M n) H) (hS : va_S A0 s.heap H locs) (hk : k < 13) (hq : "java/lang/String" = y.cls) (hrm : (rest.map fun v => v.category).sum ≤ 8) (hdg : decode cc pc = .ok (.invokevirtual index, 3))
    (kk : ∀ (H1 : Heap) (locs1 : List Loc), va_P G.1 vwCl (wW sh' φ M' n') H1 → va_S A0 s.heap H1 locs1 → W p l e R s m args below meth c H1 locs1 cells slots Q (F0 m (pc + 3) ls (r.toList ++ rest))) : W p l e R s m args below meth c H locs cells slots Q (F0 m pc ls (As.reverse ++ .ref (saS G k) :: rest)) := by
  have hB := X.B hP hS
  have h0 := vk_recv (A := A0) X.2.2.1.1.2.2.2.2.2 hk hS
  rw [hq] at h0
  exact r_call (va_runV (C := y.cls) (b := saS G k) (As := As) (rest := rest) ⟨X.1.1, X.1.2.1, X.2.1, X.1.2.2.1, X.1.2.2.2.1⟩ (hM H.size) ⟨w.B X.1.2.2.2.1 hR, X.1.2.2.2.1 _ wi, X.1.2.2.2.1 _ ws⟩ ⟨fun _ U g mk h => ⟨h.1, h.2.1, h.2.2.blind U g mk _⟩, h0, fun U hU hW => ⟨rfl, by rw [hU], hB U hU hW⟩⟩ rfl rfl hlz rfl (lv_room hrm) hdg ⟨by rw [z1]; exact hcs.1, by rw [z2]; exact hcs.2⟩) hS (X.fr hS) (fun H1 locs1 h1 _ _ h4 => by
    have := kk H1 locs1 h1 h4
    rw [z1, z2]
    exact this)
end RW3
