def Fr (X Y : Mem) : Prop := ∀ c, ¬ crs c → Y c = X c
theorem Fr.rf {X : Mem} : Fr X X := fun _ _ => rfl
theorem Fr.tr {X Y Z : Mem} (h : Fr X Y) (h2 : Fr Y Z) : Fr X Z := fun c hc => (h2 c hc).trans (h c hc)
theorem XE.fr {X Y : Mem} {e : ET} {ru : Nat} (h : XE X e ru) (ok : Eok e) (f : Fr X Y) : XE Y e ru := by
  have h1 : Y 1 = X 1 := f 1 (by unfold crs; omega)
  exact h.cg ok (by rw [h1]) (by rw [h1]) (by rw [h1]) (fun c hc => f c (by unfold crs; omega))
theorem xli {X : Mem} {e : ET} {n h : Nat} (ok : Eok e) (hX : XN X e) (hn : n < e.2.1) (hh : h < 48) : f_X7_liesIn X n (nI h) = if thB e n h = true then 1 else 0 := by
  obtain ⟨a1, -, a3⟩ := hX.2 n hn
  have o := ok.2.2.2 n hn
  have s := (hi_small ok hn).2
  unfold f_X7_liesIn thB
  rw [a1, a3, nI_add]
  by_cases c : h ≤ e.2.2.1 6 n
  · rw [if_pos (show nI h ≤ nI (e.2.2.1 6 n) from (by simp (disch := omega) only [fa_lt, fa_le, fa_eq, nI_toInt, Int32.reduceToInt, im1] <;> omega)), decide_eq_false (show ¬ e.2.2.1 6 n < h by omega)]
    rfl
  · rw [if_neg (show ¬ nI h ≤ nI (e.2.2.1 6 n) from (by simp (disch := omega) only [fa_lt, fa_le, fa_eq, nI_toInt, Int32.reduceToInt, im1] <;> omega)), decide_eq_true (show e.2.2.1 6 n < h by omega), Bool.true_and]
    by_cases c2 : h ≤ e.2.2.1 6 n + laS (e.2.2.1 5 n) (e.2.2.1 8 n)
    · rw [if_neg (show ¬ nI (e.2.2.1 6 n + laS (e.2.2.1 5 n) (e.2.2.1 8 n)) < nI h from (by simp (disch := omega) only [fa_lt, fa_le, fa_eq, nI_toInt, Int32.reduceToInt, im1] <;> omega)), decide_eq_true c2, if_pos rfl]
    · rw [if_pos (show nI (e.2.2.1 6 n + laS (e.2.2.1 5 n) (e.2.2.1 8 n)) < nI h from (by simp (disch := omega) only [fa_lt, fa_le, fa_eq, nI_toInt, Int32.reduceToInt, im1] <;> omega)), decide_eq_false c2]
      rfl
theorem put_ok {X : Mem} {e : ET} {h : Nat} (ok : Eok e) (hX : XN X e) (hh : h < 48) : f_X0_putIn X (nI h) = some (mk (fun n => thB e n h) e.2.1) := by
  have n10 := ok.2.1
  unfold f_X0_putIn
  obtain ⟨z, hz, hz2⟩ := lp0 (F := fun fu x a => f_X0_putIn_4 X (nI h) fu a x) (a := (0 : Int32)) (fun a => some a) e.2.1 (fun q a => a = mk (fun n => thB e n h) q) rfl (fun fu q a hq hI => by
    refine ⟨mk (fun n => thB e n h) (q + 1), ?_, rfl⟩
    show f_X0_putIn_4 X (nI h) (fu + 1) a (nI q) = f_X0_putIn_4 X (nI h) fu _ (nI (q + 1))
    rw [f_X0_putIn_4, hX.1, if_neg (show ¬ nI e.2.1 ≤ nI q from (by simp (disch := omega) only [fa_lt, fa_le, fa_eq, nI_toInt, Int32.reduceToInt, im1] <;> omega)), if_pos (iblt (show q < 10 by omega) (by decide)), nI_clamp (by omega), xli ok hX hq hh, mk, hI, nI_1]
    by_cases c : thB e q h = true
    · rw [if_pos c, if_neg t10, if_pos c]
    · rw [if_neg c, if_pos t00, if_neg c]) (fun fu a hI => by
    show f_X0_putIn_4 X (nI h) (fu + 1) a (nI e.2.1) = _
    rw [f_X0_putIn_4, hX.1, if_pos (show nI e.2.1 ≤ nI e.2.1 from (by simp (disch := omega) only [fa_lt, fa_le, fa_eq, nI_toInt, Int32.reduceToInt, im1] <;> omega))]) (by omega)
  rw [← hz2]
  exact hz
/-- the set of the first m of those that lie there, as far as k places down -/
def jsA (u : Nat → Nat) (L : Nat → Bool) (m k i : Nat) : Bool := (List.range k).any fun j => decide (u j = i) && L i && decide (fb_ct (fun i => L (u i)) j < m)
theorem jsA_s (u : Nat → Nat) (L : Nat → Bool) (m k i : Nat) : jsA u L m (k + 1) i = (jsA u L m k i || (decide (u k = i) && L i && decide (fb_ct (fun i => L (u i)) k < m))) := by
  unfold jsA
  rw [List.range_succ, List.any_append]
  simp
theorem jsA_late (u : Nat → Nat) (L : Nat → Bool) {m k : Nat} (i : Nat) (h : m ≤ fb_ct (fun i => L (u i)) k) : ∀ r, jsA u L m (k + r) i = jsA u L m k i := by
  intro r
  induction r with
  | zero => rfl
  | succ r ih =>
    rw [← Nat.add_assoc, jsA_s, ih]
    have := fb_ct_step (fun i => L (u i)) k r
    rw [decide_eq_false (show ¬ fb_ct (fun i => L (u i)) (k + r) < m by omega), Bool.and_false, Bool.or_false]
theorem upm_loop {X : Mem} {e : ET} {u : Nat → Nat} {L : Nat → Bool} {m : Nat} {ly : Int32} (n10 : e.2.1 ≤ 10) (h4 : X 1 4 = nI e.2.1) (hu : ∀ j, j < e.2.1 → X 13 j = nI (u j) ∧ u j < e.2.1) (hL : ∀ n, n < e.2.1 → bt ly n = L n) (hm : m < 100) : ∀ (r k fu : Nat) (x3 : Int32), k + r = e.2.1 → r < fu → (∀ i, i < 32 → bt x3 i = (decide (i < e.2.1) && jsA u L m k i)) → ∃ y, f_X0_uppermostOf_8 X ly fu x3 (nI (m - fb_ct (fun i => L (u i)) k)) (nI k) = some y ∧ ∀ i, i < 32 → bt y i = (decide (i < e.2.1) && jsA u L m e.2.1 i) := by
  intro r
  induction r with
  | zero =>
    intro k fu x3 hk hf hx
    obtain ⟨g, rfl⟩ : ∃ g, fu = g + 1 := ⟨fu - 1, by omega⟩
    have : k = e.2.1 := by omega
    subst this
    exact ⟨x3, by rw [f_X0_uppermostOf_8, h4, if_pos (show nI e.2.1 ≤ nI e.2.1 from (by simp (disch := omega) only [fa_lt, fa_le, fa_eq, nI_toInt, Int32.reduceToInt, im1] <;> omega))], hx⟩
  | succ r ih =>
    intro k fu x3 hk hf hx
    obtain ⟨g, rfl⟩ : ∃ g, fu = g + 1 := ⟨fu - 1, by omega⟩
    have hk2 : k < e.2.1 := by omega
    obtain ⟨q1, q2⟩ := hu k hk2
    rw [f_X0_uppermostOf_8, h4, if_neg (show ¬ nI e.2.1 ≤ nI k from (by simp (disch := omega) only [fa_lt, fa_le, fa_eq, nI_toInt, Int32.reduceToInt, im1] <;> omega))]
    by_cases c : m ≤ fb_ct (fun i => L (u i)) k
    · rw [show m - fb_ct (fun i => L (u i)) k = 0 by omega, if_pos (show nI 0 ≤ 0 by decide)]
      refine ⟨x3, rfl, fun i hi => ?_⟩
      rw [hx i hi, ← hk, jsA_late u L i c]
    · rw [if_neg (show ¬ nI (m - fb_ct (fun i => L (u i)) k) ≤ 0 from (by simp (disch := omega) only [fa_lt, fa_le, fa_eq, nI_toInt, Int32.reduceToInt, im1] <;> omega)), if_pos (iblt (show k < 10 by omega) (by decide)), nI_clamp (show k < 2 ^ 31 by omega), q1, nI_1]
      by_cases cL : L (u k) = true
      · rw [if_neg (show ¬ ly &&& ((1 : Int32) <<< (nI (u k) &&& 31)) = 0 by rw [one_bit (by omega), hL _ q2, cL]; decide)]
        have hct : fb_ct (fun i => L (u i)) (k + 1) = fb_ct (fun i => L (u i)) k + 1 := by
          rw [fb_ct_succ, if_pos cL]
        obtain ⟨d, hd⟩ : ∃ d, m - fb_ct (fun i => L (u i)) k = d + 1 := ⟨m - fb_ct (fun i => L (u i)) k - 1, by omega⟩
        have hd2 : m - fb_ct (fun i => L (u i)) (k + 1) = d := by omega
        rw [hd, n_m1, ← hd2]
        refine ih (k + 1) g _ (by omega) (by omega) (fun i hi => ?_)
        rw [b_or, hx i hi, b_and, bt_sh (by omega) hi, jsA_s, decide_eq_true (show fb_ct (fun i => L (u i)) k < m by omega), Bool.and_true]
        by_cases ci : i = u k
        · subst ci
          rw [hL _ q2, decide_eq_true q2, cL]
          simp
        · rw [decide_eq_false ci, Bool.and_false, Bool.or_false, decide_eq_false (show ¬ u k = i from fun q => ci q.symm), Bool.false_and, Bool.or_false]
      · rw [if_pos (show ly &&& ((1 : Int32) <<< (nI (u k) &&& 31)) = 0 by rw [one_bit (by omega), hL _ q2]; exact Bool.not_eq_true _ ▸ cL)]
        have hct : fb_ct (fun i => L (u i)) (k + 1) = fb_ct (fun i => L (u i)) k := by
          rw [fb_ct_succ, if_neg cL]
          rfl
        rw [← hct]
        refine ih (k + 1) g _ (by omega) (by omega) (fun i hi => ?_)
        rw [hx i hi, jsA_s]
        by_cases ci : u k = i
        · subst ci
          rw [Bool.not_eq_true] at cL
          rw [cL]
          simp
        · rw [decide_eq_false ci, Bool.false_and, Bool.false_and, Bool.or_false]
theorem upm_ok {X : Mem} {e : ET} {u : Nat → Nat} {L : Nat → Bool} {m : Nat} {ly : Int32} (ok : Eok e) (h4 : X 1 4 = nI e.2.1) (hu : ∀ j, j < e.2.1 → X 13 j = nI (u j) ∧ u j < e.2.1) (hL : ∀ n, n < e.2.1 → bt ly n = L n) (hm : m < 100) : ∃ y, f_X0_uppermostOf X ly (nI m) = some y ∧ ∀ i, i < 32 → bt y i = (decide (i < e.2.1) && jsA u L m e.2.1 i) := by
  unfold f_X0_uppermostOf
  have := upm_loop ok.2.1 h4 hu hL hm e.2.1 0 FU 0 (by omega) (by rw [FU_eq]; have := ok.2.1; omega) (fun i hi => by rw [b_0]; simp [jsA])
  exact this
