/-! sets of small numbers as bits -/
theorem bt_one : ∀ k, k < 32 → bt 1 k = decide (k = 0) := by decide +kernel
theorem bt_sh {n i : Nat} (hn : n < 32) (hi : i < 32) : bt ((1 : Int32) <<< (nI n &&& 31)) i = decide (i = n) := by
  rw [b_shl n hn _ hi, bt_one _ (by omega)]
  by_cases c : i = n
  · subst c
    simp
  · by_cases c2 : n ≤ i
    · simp [c, c2]
      omega
    · simp [c, c2]
theorem and_1 (y : Int32) : y &&& 1 = if bt y 0 = true then 1 else 0 := by
  apply b_ext
  intro i hi
  rw [b_and, bt_one i hi]
  by_cases c : i = 0
  · subst c
    cases h : bt y 0
    · simp [b_0]
    · simp [bt_one 0 (by decide)]
  · have hd : decide (i = 0) = false := decide_eq_false c
    rw [hd, Bool.and_false]
    split
    · rw [bt_one i hi, hd]
    · rw [b_0]
theorem sh_bit {x : Int32} {n : Nat} (hn : n < 32) : bt (x >>> (nI n &&& 31)) 0 = bt x n := by
  rw [b_sshr n hn x (by decide), if_pos (by omega), Nat.add_zero]
theorem tst0 {x : Int32} {n : Nat} (hn : n < 32) : (x >>> (nI n &&& 31)) &&& 1 = 0 ↔ bt x n = false := by
  rw [and_1, sh_bit hn]
  cases bt x n <;> simp
theorem tst1 {x : Int32} {n : Nat} (hn : n < 32) : (x >>> (nI n &&& 31)) &&& 1 = 1 ↔ bt x n = true := by
  rw [and_1, sh_bit hn]
  cases bt x n <;> simp
theorem one_bit {x : Int32} {n : Nat} (hn : n < 32) : x &&& ((1 : Int32) <<< (nI n &&& 31)) = 0 ↔ bt x n = false := by
  constructor
  · intro h
    have := congrArg (fun z => bt z n) h
    simp only [b_and, bt_sh hn hn, b_0, decide_true, Bool.and_true] at this
    exact this
  · intro h
    apply b_ext
    intro i hi
    rw [b_and, bt_sh hn hi, b_0]
    by_cases c : i = n
    · rw [c, h, Bool.false_and]
    · rw [decide_eq_false c, Bool.and_false]
theorem bt_not {x : Int32} {i : Nat} (hi : i < 32) : bt (x ^^^ (-1)) i = !bt x i := by
  rw [b_xor, b_m1 i hi]
  cases bt x i <;> rfl
theorem bt_mk (P : Nat → Bool) : ∀ (n : Nat), n ≤ 32 → ∀ i, i < 32 → bt (mk P n) i = (decide (i < n) && P i) := by
  intro n
  induction n with
  | zero =>
    intro _ i _
    rw [mk, b_0]
    simp
  | succ n ih =>
    intro hn i hi
    have h := ih (by omega) i hi
    rw [mk]
    by_cases c : P n = true
    · rw [if_pos c, b_or, h, bt_sh (by omega) hi]
      by_cases ci : i = n
      · subst ci
        simp [c]
      · have : decide (i < n + 1) = decide (i < n) := by
          apply decide_eq_decide.mpr
          omega
        rw [decide_eq_false ci, Bool.or_false, this]
    · rw [if_neg c, h]
      by_cases ci : i = n
      · subst ci
        simp [c]
      · have : decide (i < n + 1) = decide (i < n) := by
          apply decide_eq_decide.mpr
          omega
        rw [this]
theorem mk_of {x : Int32} {P : Nat → Bool} {n : Nat} (hn : n ≤ 32) (h : ∀ i, i < 32 → bt x i = (decide (i < n) && P i)) : x = mk P n := by
  apply b_ext
  intro i hi
  rw [h i hi, bt_mk P n hn i hi]
theorem mk_cg {P Q : Nat → Bool} {n : Nat} (hn : n ≤ 32) (h : ∀ i, i < n → P i = Q i) : mk P n = mk Q n := by
  apply mk_of hn
  intro i hi
  rw [bt_mk P n hn i hi]
  by_cases c : i < n
  · rw [h i c]
  · rw [decide_eq_false c]
    rfl
/-- who comes in an hour -/
def coB (e : ET) (h p : Nat) : Bool := decide (coP e p h)
theorem rem_z {h f v : Nat} (hf : f ≤ h) (hh : h < 1000) (hv : 1 ≤ v) (hv2 : v < 1000) : (nI h - nI f) - (nI h - nI f) / nI v * nI v = nI ((h - f) % v) := by
  rw [pk_sub hf, pk_rem (by omega) (by omega) (by omega)]
theorem xco {X : Mem} {e : ET} {p h : Nat} (ok : Eok e) (hX : X (25 + p) 0 = nI (e.2.2.1 1 p) ∧ X (25 + p) 1 = nI (e.2.2.1 2 p)) (hp : p < e.1) (hh : h < 48) : f_X1_comesIn X p (nI h) = some (if coB e h p = true then 1 else 0) := by
  obtain ⟨o1, o2, o3, -⟩ := ok.2.2.1 p hp
  unfold f_X1_comesIn coB
  rw [hX.1, hX.2, if_neg (show ¬ nI (e.2.2.1 2 p) ≤ 0 from (by simp (disch := omega) only [fa_lt, fa_le, fa_eq, nI_toInt, Int32.reduceToInt, im1] <;> omega))]
  by_cases c : h < e.2.2.1 1 p
  · rw [if_pos (show nI h < nI (e.2.2.1 1 p) from (by simp (disch := omega) only [fa_lt, fa_le, fa_eq, nI_toInt, Int32.reduceToInt, im1] <;> omega)), if_neg (show ¬ decide (coP e p h) = true by rw [decide_eq_true_eq]; intro q; exact absurd q.1 (by omega))]
  · rw [if_neg (show ¬ nI h < nI (e.2.2.1 1 p) from (by simp (disch := omega) only [fa_lt, fa_le, fa_eq, nI_toInt, Int32.reduceToInt, im1] <;> omega)), if_pos (show ¬ nI (e.2.2.1 2 p) = 0 from (by simp (disch := omega) only [fa_lt, fa_le, fa_eq, nI_toInt, Int32.reduceToInt, im1] <;> omega)), rem_z (by omega) (by omega) o2 (by omega)]
    by_cases c2 : (h - e.2.2.1 1 p) % e.2.2.1 2 p = 0
    · rw [if_pos (show nI ((h - e.2.2.1 1 p) % e.2.2.1 2 p) = 0 by rw [c2]; rfl), if_pos (show decide (coP e p h) = true by rw [decide_eq_true_eq]; exact ⟨by omega, c2⟩)]
    · have : (h - e.2.2.1 1 p) % e.2.2.1 2 p < e.2.2.1 2 p := Nat.mod_lt _ (by omega)
      rw [if_neg (show ¬ nI ((h - e.2.2.1 1 p) % e.2.2.1 2 p) = 0 from (by simp (disch := omega) only [fa_lt, fa_le, fa_eq, nI_toInt, Int32.reduceToInt, im1] <;> omega)), if_neg (show ¬ decide (coP e p h) = true by rw [decide_eq_true_eq]; intro q; exact c2 q.2)]
theorem mco {M : Mem} {e : ET} {p h : Nat} (ok : Eok e) (hM : M 1 p = nI (e.2.2.1 1 p) ∧ M 2 p = nI (e.2.2.1 2 p)) (hp : p < e.1) (hh : h < 48) : f_X11_comes M (nI p) (nI h) = some (if coB e h p = true then 1 else 0) := by
  obtain ⟨o1, o2, o3, -⟩ := ok.2.2.1 p hp
  have p5 := ok.1
  unfold f_X11_comes coB
  simp only [if_pos (iblt (show p < 5 by omega) (by decide)), nI_clamp (show p < 2 ^ 31 by omega)]
  rw [hM.1, hM.2]
  by_cases c : h < e.2.2.1 1 p
  · rw [if_pos (show nI h < nI (e.2.2.1 1 p) from (by simp (disch := omega) only [fa_lt, fa_le, fa_eq, nI_toInt, Int32.reduceToInt, im1] <;> omega)), if_neg (show ¬ decide (coP e p h) = true by rw [decide_eq_true_eq]; intro q; exact absurd q.1 (by omega))]
  · rw [if_neg (show ¬ nI h < nI (e.2.2.1 1 p) from (by simp (disch := omega) only [fa_lt, fa_le, fa_eq, nI_toInt, Int32.reduceToInt, im1] <;> omega)), if_pos (show ¬ nI (e.2.2.1 2 p) = 0 from (by simp (disch := omega) only [fa_lt, fa_le, fa_eq, nI_toInt, Int32.reduceToInt, im1] <;> omega)), rem_z (by omega) (by omega) o2 (by omega)]
    by_cases c2 : (h - e.2.2.1 1 p) % e.2.2.1 2 p = 0
    · rw [if_pos (show nI ((h - e.2.2.1 1 p) % e.2.2.1 2 p) = 0 by rw [c2]; rfl), if_pos (show decide (coP e p h) = true by rw [decide_eq_true_eq]; exact ⟨by omega, c2⟩)]
    · have : (h - e.2.2.1 1 p) % e.2.2.1 2 p < e.2.2.1 2 p := Nat.mod_lt _ (by omega)
      rw [if_neg (show ¬ nI ((h - e.2.2.1 1 p) % e.2.2.1 2 p) = 0 from (by simp (disch := omega) only [fa_lt, fa_le, fa_eq, nI_toInt, Int32.reduceToInt, im1] <;> omega)), if_neg (show ¬ decide (coP e p h) = true by rw [decide_eq_true_eq]; intro q; exact c2 q.2)]
theorem xwho {X : Mem} {e : ET} {h : Nat} (ok : Eok e) (h3 : X 1 3 = nI e.1) (hX : ∀ p, p < e.1 → X (25 + p) 0 = nI (e.2.2.1 1 p) ∧ X (25 + p) 1 = nI (e.2.2.1 2 p)) (hh : h < 48) : f_X8_whoComes X (nI h) = some (mk (coB e h) e.1) := by
  have p5 := ok.1
  unfold f_X8_whoComes
  obtain ⟨z, hz, hz2⟩ := lp0 (F := fun fu x a => f_X8_whoComes_4 X (nI h) fu a x) (a := (0 : Int32)) (fun a => some a) e.1 (fun q a => a = mk (coB e h) q) rfl (fun fu q a hq hI => by
    refine ⟨mk (coB e h) (q + 1), ?_, rfl⟩
    show f_X8_whoComes_4 X (nI h) (fu + 1) a (nI q) = f_X8_whoComes_4 X (nI h) fu _ (nI (q + 1))
    rw [f_X8_whoComes_4, h3, if_neg (show ¬ nI e.1 ≤ nI q from (by simp (disch := omega) only [fa_lt, fa_le, fa_eq, nI_toInt, Int32.reduceToInt, im1] <;> omega)), if_pos (iblt (show q < 5 by omega) (by decide)), nI_clamp (by omega), xco ok (hX q hq) hq hh, mk, hI, nI_1]
    simp only [Option.bind]
    by_cases c : coB e h q = true
    · rw [if_pos c, if_neg t10, if_pos c]
    · rw [if_neg c, if_pos t00, if_neg c]) (fun fu a hI => by
    show f_X8_whoComes_4 X (nI h) (fu + 1) a (nI e.1) = _
    rw [f_X8_whoComes_4, h3, if_pos (show nI e.1 ≤ nI e.1 from (by simp (disch := omega) only [fa_lt, fa_le, fa_eq, nI_toInt, Int32.reduceToInt, im1] <;> omega))]) (by omega)
  rw [← hz2]
  exact hz
theorem mwho {M : Mem} {e : ET} {h : Nat} {x : Int32} {k : Int32 → Option Int32} (ok : Eok e) (h3 : M 0 0 = nI e.1) (hM : ∀ p, p < e.1 → M 1 p = nI (e.2.2.1 1 p) ∧ M 2 p = nI (e.2.2.1 2 p)) (hh : h < 48) : f_X11_came_55 M x (nI h) k FU 0 0 = k (mk (coB e h) e.1) := by
  have p5 := ok.1
  obtain ⟨z, hz, hz2⟩ := lp0 (F := fun fu y a => f_X11_came_55 M x (nI h) k fu a y) (a := (0 : Int32)) k e.1 (fun q a => a = mk (coB e h) q) rfl (fun fu q a hq hI => by
    refine ⟨mk (coB e h) (q + 1), ?_, rfl⟩
    show f_X11_came_55 M x (nI h) k (fu + 1) a (nI q) = f_X11_came_55 M x (nI h) k fu _ (nI (q + 1))
    rw [f_X11_came_55, h3, if_neg (show ¬ nI e.1 ≤ nI q from (by simp (disch := omega) only [fa_lt, fa_le, fa_eq, nI_toInt, Int32.reduceToInt, im1] <;> omega)), mco ok (hM q hq) hq hh, mk, hI, nI_1]
    simp only [Option.bind]
    by_cases c : coB e h q = true
    · rw [if_pos c, if_neg t10, if_pos c]
    · rw [if_neg c, if_pos t00, if_neg c]) (fun fu a hI => by
    show f_X11_came_55 M x (nI h) k (fu + 1) a (nI e.1) = _
    rw [f_X11_came_55, h3, if_pos (show nI e.1 ≤ nI e.1 from (by simp (disch := omega) only [fa_lt, fa_le, fa_eq, nI_toInt, Int32.reduceToInt, im1] <;> omega))]) (by omega)
  rw [← hz2]
  exact hz
