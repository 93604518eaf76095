theorem rel_of {X M Y Z : Mem} {e : ET} {d : DT} {nm tp : Nat} (ok : Eok e) (hX : XD X e d) (hM : MD M e d) (hma : Rma X M e.2.1 nm) (hta : Rta X M tp) (him : Rim X M e.1 e.2.1 nm d.1) (hsh : Rsh X M) (f : Fr X Y) (g : ∀ c, ¬ (14 ≤ c ∧ c < 21) → Z c = M c) (st : Rst Y (eW e (d.2.2 d.2.1))) : Rel Y Z := by
  have f1 : Y 1 = X 1 := f 1 (by unfold crs; omega)
  have g0 : Z 0 = M 0 := g 0 (by omega)
  exact ⟨e, d, nm, tp, ok, hX.cg ok (by rw [f1]) (by rw [f1]) (by rw [f1]) (by rw [f1]) (fun c hc => f c (by unfold crs; omega)), hM.cg (by rw [g0]) (by rw [g0]) (by rw [g0]) (by rw [g0]) (fun c hc => g c (by omega)), hma.cg (by rw [f 85 (by unfold crs; omega)]) (f 86 (by unfold crs; omega)) (f 87 (by unfold crs; omega)) (by rw [g0]) (g 9 (by omega)) (g 10 (by omega)), hta.cg (by rw [f 19 (by unfold crs; omega)]) (f 58 (by unfold crs; omega)) (by rw [g0]) (g 11 (by omega)), him.cg ok.1 (f 98 (by unfold crs; omega)) (f 100 (by unfold crs; omega)) (fun c hc => f c (by unfold crs; omega)) (fun k _ => by rw [g0]) (fun c hc => g c (by omega)), hsh.cg (fun c hc => f c (by unfold crs; omega)) (fun c hc => g c (by omega)), st⟩
/-- class and model behind a run: one course, E the table, s what came to pass -/
def Two (Y Z : Mem) (E : ET) (ru : Nat) (s : CS) : Prop := Eok E ∧ XE Y E ru ∧ ME Z E ru ∧ CK Y E s ∧ MK Z E s ∧ Bd s ∧ (∃ u, SP E u ∧ s = hrsS E u 48) ∧ Y 5 0 = 0
theorem run_both {A B C : Mem} (hR : Rel A B) (hC : ∀ c, c ≠ 5 → C c = A c) : ∃ Y Z E ru s, f_X0_run C = some Y ∧ f_X11_go B = some Z ∧ Two Y Z E ru s ∧ Rel Y Z ∧ Fr A Y ∧ ∀ c, ¬ (14 ≤ c ∧ c < 21) → Z c = B c := by
  obtain ⟨e, d, nm, tp, ok, hX, hM, hma, hta, him, hsh, hst⟩ := hR
  have hA : XE A (eW e (d.2.2 d.2.1)) d.2.1 := hX.1
  have hCE : XE C (eW e (d.2.2 d.2.1)) d.2.1 := hA.cg ok.eW (by rw [hC 1 (by decide)]) (by rw [hC 1 (by decide)]) (by rw [hC 1 (by decide)]) (fun c hc => hC c (by omega))
  obtain ⟨Y, u, y1, y2, y3, y4, y5⟩ := run_ok ok.eW hCE
  obtain ⟨Z, z1, z2, z3⟩ := go_ok ok.eW y2 hM.1
  have fA : Fr A Y := fun c hc => (y4 c hc).trans (hC c (by unfold crs at hc; omega))
  exact ⟨Y, Z, eW e (d.2.2 d.2.1), d.2.1, hrsS (eW e (d.2.2 d.2.1)) u 48, y1, z1, ⟨ok.eW, hA.fr ok.eW fA, hM.1.fr (fun c hc => z3 c (by omega)), y3, z2, Bd_hrs (e := eW e (d.2.2 d.2.1)) ok.1 (Nat.le_refl _), ⟨u, y2, rfl⟩, y5⟩, rel_of ok hX hM hma hta him hsh fA z3 (Or.inr ⟨y5, u, y2, y3⟩), fA, z3⟩
theorem both {X M : Mem} (hR : Rel X M) : ∃ Y Z E ru s, f_X10_settledCourse X = some Y ∧ f_X11_go M = some Z ∧ Two Y Z E ru s ∧ Rel Y Z ∧ X 1 3 = nI E.1 ∧ X 1 4 = nI E.2.1 ∧ M 0 0 = nI E.1 ∧ M 0 5 = nI E.2.1 := by
  have hR0 := hR
  obtain ⟨e, d, nm, tp, ok, hX, hM, hma, hta, him, hsh, hst⟩ := hR
  rcases hst with h | ⟨h, u, hs, hk⟩
  · obtain ⟨Y, Z, E, ru, s, r1, r2, r3, r4, r5, r6⟩ := run_both hR0 (fun _ _ => rfl)
    refine ⟨Y, Z, E, ru, s, ?_, r2, r3, r4, ?_, ?_, ?_, ?_⟩
    · unfold f_X10_settledCourse
      rw [if_neg (show ¬ X 5 0 = 0 by rw [h]; decide), r1, Option.bind_some]
    · rw [← r5 1 (by unfold crs; omega)]
      exact r3.2.1.1
    · rw [← r5 1 (by unfold crs; omega)]
      exact r3.2.1.2.1
    · rw [← r6 0 (by omega)]
      exact r3.2.2.1.1
    · rw [← r6 0 (by omega)]
      exact r3.2.2.1.2.1
  · obtain ⟨Z, z1, z2, z3⟩ := go_ok ok.eW hs hM.1
    refine ⟨X, Z, eW e (d.2.2 d.2.1), d.2.1, hrsS (eW e (d.2.2 d.2.1)) u 48, ?_, z1, ⟨ok.eW, hX.1, hM.1.fr (fun c hc => z3 c (by omega)), hk, z2, Bd_hrs (e := eW e (d.2.2 d.2.1)) ok.1 (Nat.le_refl _), ⟨u, hs, rfl⟩, h⟩, rel_of ok hX hM hma hta him hsh Fr.rf z3 (Or.inr ⟨h, u, hs, hk⟩), hX.1.1, hX.1.2.1, hM.1.1, hM.1.2.1⟩
    unfold f_X10_settledCourse
    rw [if_pos h]
theorem ih_in {h : Nat} (hh : h < 48) : f_X10_isHour (nI h) = 1 := by
  unfold f_X10_isHour
  rw [if_neg (show ¬ nI h < 0 from (by simp (disch := omega) only [fa_lt, fa_le, fa_eq, nI_toInt, Int32.reduceToInt, im1] <;> omega)), if_neg (show ¬ 48 ≤ nI h from (by simp (disch := omega) only [fa_lt, fa_le, fa_eq, nI_toInt, Int32.reduceToInt, im1] <;> omega))]
theorem ih_out {a : Int32} (h : a.toInt < 0 ∨ (48 : Int) ≤ a.toInt) : f_X10_isHour a = 0 := by
  unfold f_X10_isHour
  by_cases c : a < 0
  · rw [if_pos c]
  · rw [if_neg c, if_pos (show 48 ≤ a by rw [fa_lt] at c; rw [fa_le]; simp only [Int32.reduceToInt] at c ⊢; omega)]
theorem it_in {h : Nat} (hh : h < 4) : f_X10_isThing (nI h) = 1 := by
  unfold f_X10_isThing
  rw [if_neg (show ¬ nI h < 0 from (by simp (disch := omega) only [fa_lt, fa_le, fa_eq, nI_toInt, Int32.reduceToInt, im1] <;> omega)), if_neg (show ¬ 4 ≤ nI h from (by simp (disch := omega) only [fa_lt, fa_le, fa_eq, nI_toInt, Int32.reduceToInt, im1] <;> omega))]
theorem it_out {a : Int32} (h : a.toInt < 0 ∨ (4 : Int) ≤ a.toInt) : f_X10_isThing a = 0 := by
  unfold f_X10_isThing
  by_cases c : a < 0
  · rw [if_pos c]
  · rw [if_neg c, if_pos (show 4 ≤ a by rw [fa_lt] at c; rw [fa_le]; simp only [Int32.reduceToInt] at c ⊢; omega)]
theorem lying_ok {Y Z : Mem} {E : ET} {ru h : Nat} {s : CS} (T : Two Y Z E ru s) (hh : h < 48) : f_X11_lying Z (nI h) = some (lyM E s h) := by
  obtain ⟨ok, -, hM, -, hK, hB, -, -⟩ := T
  have n10 := ok.2.1
  unfold f_X11_lying
  obtain ⟨z, z1, z2⟩ := lp0 (F := fun fu x a => f_X11_lying_4 Z (nI h) fu a x) (a := (0 : Int32)) (fun a => some a) E.2.1 (fun q a => a = mk (fun n => thB E n h && decide (h < s.2.1 n)) q) rfl (fun fu q a hq hI => by
    refine ⟨mk (fun n => thB E n h && decide (h < s.2.1 n)) (q + 1), ?_, rfl⟩
    show f_X11_lying_4 Z (nI h) (fu + 1) a (nI q) = f_X11_lying_4 Z (nI h) fu _ (nI (q + 1))
    rw [f_X11_lying_4, hM.2.1, if_neg (show ¬ nI E.2.1 ≤ nI q from (by simp (disch := omega) only [fa_lt, fa_le, fa_eq, nI_toInt, Int32.reduceToInt, im1] <;> omega)), mth ok hM hq hh, Option.bind_some, mk, hI, nI_1]
    by_cases c : thB E q h = true
    · rw [if_pos c, if_neg t10, if_pos (iblt (show q < 10 by omega) (by decide)), nI_clamp (by omega), hK.2.1 q hq, c, Bool.true_and]
      by_cases c9 : s.2.1 q = 99
      · rw [if_pos ((hv_m1 (hB.2.1 q)).mpr c9), if_pos (show decide (h < s.2.1 q) = true by rw [decide_eq_true_eq]; omega)]
      · have : s.2.1 q < 48 := by
          rcases hB.2.1 q with w | w
          · exact absurd w c9
          · exact w
        rw [if_neg (fun w => c9 ((hv_m1 (hB.2.1 q)).mp w)), if_pos (iblt (show q < 10 by omega) (by decide)), hv_n (by omega)]
        by_cases c8 : h < s.2.1 q
        · rw [if_neg (show ¬ nI (s.2.1 q) ≤ nI h from (by simp (disch := omega) only [fa_lt, fa_le, fa_eq, nI_toInt, Int32.reduceToInt, im1] <;> omega)), if_pos (decide_eq_true c8)]
        · rw [if_pos (show nI (s.2.1 q) ≤ nI h from (by simp (disch := omega) only [fa_lt, fa_le, fa_eq, nI_toInt, Int32.reduceToInt, im1] <;> omega)), if_neg (fun w => c8 (decide_eq_true_eq.mp w))]
    · rw [if_neg c, if_pos t00]
      rw [Bool.not_eq_true] at c
      rw [c, Bool.false_and, if_neg (by decide)]) (fun fu a hI => by
    show f_X11_lying_4 Z (nI h) (fu + 1) a (nI E.2.1) = _
    rw [f_X11_lying_4, hM.2.1, if_pos (show nI E.2.1 ≤ nI E.2.1 from (by simp (disch := omega) only [fa_lt, fa_le, fa_eq, nI_toInt, Int32.reduceToInt, im1] <;> omega))]) (by omega)
  rw [show lyM E s h = z from z2.symm]
  exact z1
/-- lies: promise 9 -/
theorem s_lies : S_7 Rel := by
  intro X M a hR
  unfold f_X10_lies f_X11_lies
  rcases cl a 48 (by decide) with ⟨h, hh, rfl⟩ | hc
  · obtain ⟨Y, Z, E, ru, s, r1, r2, T, r4, -⟩ := both hR
    rw [ih_in hh, if_neg t10, wi_in (by simp (disch := omega) only [fa_lt, fa_le, fa_eq, nI_toInt, Int32.reduceToInt, im1] <;> omega) (by simp (disch := omega) only [fa_lt, fa_le, fa_eq, nI_toInt, Int32.reduceToInt, im1] <;> omega), if_neg t10, r1, Option.bind_some, r2, Option.bind_some, if_pos (iblt hh (by decide)), lying_ok T hh, Option.bind_some, nI_clamp (by omega)]
    exact ⟨_, _, rfl, rfl, T.2.2.2.1.1 h hh, r4⟩
  · rw [ih_out hc, if_pos t00, wi_out (by simp (disch := omega) only [fa_lt, fa_le, fa_eq, nI_toInt, Int32.reduceToInt, im1] <;> omega), if_pos t00]
    exact ⟨_, _, rfl, rfl, rfl, hR⟩
theorem top_loop {Y Z : Mem} {E : ET} {ru h : Nat} {s : CS} {x : Int32} (T : Two Y Z E ru s) : ∀ (r k f1 f2 : Nat) (a : Int32), k + r = E.2.1 → r < f1 → r < f2 → (a = -1 ∨ ∃ m, m < E.2.1 ∧ a = nI m) → ∃ v, f_X10_top_25 Y x f1 a (nI k) = some (v, Y) ∧ f_X11_top_28 Z x f2 a (nI k) = some (v, Z) := by
  obtain ⟨ok, hX, hM, -, -, -, -, -⟩ := T
  have n10 := ok.2.1
  intro r
  induction r with
  | zero =>
    intro k f1 f2 a hk hf1 hf2 ha
    obtain ⟨g1, rfl⟩ : ∃ g, f1 = g + 1 := ⟨f1 - 1, by omega⟩
    obtain ⟨g2, rfl⟩ : ∃ g, f2 = g + 1 := ⟨f2 - 1, by omega⟩
    refine ⟨a, ?_, ?_⟩
    · rw [f_X10_top_25, hX.2.1, if_pos (show nI E.2.1 ≤ nI k from (by simp (disch := omega) only [fa_lt, fa_le, fa_eq, nI_toInt, Int32.reduceToInt, im1] <;> omega))]
    · rw [f_X11_top_28, hM.2.1, if_pos (show nI E.2.1 ≤ nI k from (by simp (disch := omega) only [fa_lt, fa_le, fa_eq, nI_toInt, Int32.reduceToInt, im1] <;> omega))]
  | succ r ih =>
    intro k f1 f2 a hk hf1 hf2 ha
    obtain ⟨g1, rfl⟩ : ∃ g, f1 = g + 1 := ⟨f1 - 1, by omega⟩
    obtain ⟨g2, rfl⟩ : ∃ g, f2 = g + 1 := ⟨f2 - 1, by omega⟩
    have hk2 : k < E.2.1 := by omega
    rw [f_X10_top_25, hX.2.1, if_neg (show ¬ nI E.2.1 ≤ nI k from (by simp (disch := omega) only [fa_lt, fa_le, fa_eq, nI_toInt, Int32.reduceToInt, im1] <;> omega)), f_X11_top_28, hM.2.1, if_neg (show ¬ nI E.2.1 ≤ nI k from (by simp (disch := omega) only [fa_lt, fa_le, fa_eq, nI_toInt, Int32.reduceToInt, im1] <;> omega)), nI_1]
    cases hb : bt x k
    · rw [if_pos ((tst0 (by omega)).mpr hb), if_neg (fun w => by rw [(tst1 (by omega)).mp w] at hb; exact absurd hb (by decide))]
      exact ih (k + 1) g1 g2 a (by omega) (by omega) (by omega) ha
    · rw [if_neg (fun w => by rw [(tst0 (by omega)).mp w] at hb; exact absurd hb (by decide)), if_pos ((tst1 (by omega)).mpr hb)]
      rcases ha with rfl | ⟨m, hm, rfl⟩
      · rw [if_pos rfl, mab0, Option.bind_some, if_neg t10]
        exact ih (k + 1) g1 g2 _ (by omega) (by omega) (by omega) (Or.inr ⟨k, hk2, rfl⟩)
      · rw [if_neg (show ¬ nI m = -1 from (by simp (disch := omega) only [fa_lt, fa_le, fa_eq, nI_toInt, Int32.reduceToInt, im1] <;> omega)), xab ok hX.n hk2 hm, mab ok hM hk2 hm, Option.bind_some, Option.bind_some]
        by_cases c : abP E k m
        · rw [if_pos c, if_neg t10, if_neg t10]
          exact ih (k + 1) g1 g2 _ (by omega) (by omega) (by omega) (Or.inr ⟨k, hk2, rfl⟩)
        · rw [if_neg c, if_pos t00, if_pos t00]
          exact ih (k + 1) g1 g2 _ (by omega) (by omega) (by omega) (Or.inr ⟨m, hm, rfl⟩)
/-- top: promise 10 -/
theorem s_top : S_8 Rel := by
  intro X M a hR
  unfold f_X10_top f_X11_top
  rcases cl a 48 (by decide) with ⟨h, hh, rfl⟩ | hc
  · obtain ⟨Y, Z, E, ru, s, r1, r2, T, r4, -⟩ := both hR
    have n10 := T.1.2.1
    rw [ih_in hh, if_neg t10, wi_in (by simp (disch := omega) only [fa_lt, fa_le, fa_eq, nI_toInt, Int32.reduceToInt, im1] <;> omega) (by simp (disch := omega) only [fa_lt, fa_le, fa_eq, nI_toInt, Int32.reduceToInt, im1] <;> omega), if_neg t10, r1, Option.bind_some, r2, Option.bind_some, if_pos (iblt hh (by decide)), lying_ok T hh, Option.bind_some, nI_clamp (by omega), T.2.2.2.1.1 h hh]
    obtain ⟨v, v1, v2⟩ := top_loop (h := h) (x := lyM E s h) T E.2.1 0 FU FU (-1) (by omega) (by rw [FU_eq]; omega) (by rw [FU_eq]; omega) (Or.inl rfl)
    exact ⟨(v, Y), (v, Z), v1, v2, rfl, r4⟩
  · rw [ih_out hc, if_pos t00, wi_out (by simp (disch := omega) only [fa_lt, fa_le, fa_eq, nI_toInt, Int32.reduceToInt, im1] <;> omega), if_pos t00]
    exact ⟨_, _, rfl, rfl, rfl, hR⟩
theorem em10 (p n : Nat) : (10 : Int32) * nI p + nI n = nI (10 * p + n) := by rw [show (10 : Int32) * nI p = nI (10 * p) from pk_mul 10 p, nI_add]
theorem em4 (p n : Nat) : (4 : Int32) * nI p + nI n = nI (4 * p + n) := by rw [show (4 : Int32) * nI p = nI (4 * p) from pk_mul 4 p, nI_add]
/-- read: promise 11 -/
theorem s_read : S_9 Rel := by
  intro X M a b hR
  obtain ⟨Y, Z, E, ru, s, r1, r2, T, r4, x3, x4, m0, m5⟩ := both hR
  have p5 := T.1.1
  have n10 := T.1.2.1
  unfold f_X10_read f_X11_read
  rcases cl a E.1 (by omega) with ⟨p, hp, rfl⟩ | hc
  · rw [hg_in x3 hp p5, if_neg t10, ip_in m0 hp p5, if_neg t10]
    rcases cl b E.2.1 (by omega) with ⟨n, hn, rfl⟩ | hc
    · rw [hs_in x4 hn n10, if_neg t10, in_in m5 hn n10, if_neg t10, r1, r2, Option.bind_some, Option.bind_some, em10]
      simp only [if_pos (iblt (show p < 5 by omega) (by decide)), if_pos (iblt (show n < 10 by omega) (by decide)), if_pos (iblt (show 10 * p + n < 50 by omega) (by decide)), nI_clamp (show p < 2 ^ 31 by omega), nI_clamp (show n < 2 ^ 31 by omega), nI_clamp (show 10 * p + n < 2 ^ 31 by omega)]
      exact ⟨_, _, rfl, rfl, by rw [T.2.2.2.1.2.2.1 p n hp hn, T.2.2.2.2.1.1 p n hp hn], r4⟩
    · rw [hs_out x4 n10 hc, if_pos t00, in_out m5 n10 hc, if_pos t00]
      exact ⟨_, _, rfl, rfl, rfl, hR⟩
  · rw [hg_out x3 p5 hc, if_pos t00, ip_out m0 p5 hc, if_pos t00]
    exact ⟨_, _, rfl, rfl, rfl, hR⟩
theorem knew_ok {Y Z : Mem} {E : ET} {ru p h : Nat} {s : CS} (T : Two Y Z E ru s) (hp : p < E.1) (hh : h < 48) : f_X11_knew_30 Z (nI p) (nI h) FU 0 0 = some (knM E s p h, Z) := by
  obtain ⟨ok, -, hM, -, hK, hB, -, -⟩ := T
  have n10 := ok.2.1
  have p5 := ok.1
  obtain ⟨z, z1, z2⟩ := lp0 (F := fun fu x a => f_X11_knew_30 Z (nI p) (nI h) fu a x) (a := (0 : Int32)) (fun a => some (a, Z)) E.2.1 (fun q a => a = mk (fun n => decide (s.1 p n ≤ h)) q) rfl (fun fu q a hq hI => by
    refine ⟨mk (fun n => decide (s.1 p n ≤ h)) (q + 1), ?_, rfl⟩
    show f_X11_knew_30 Z (nI p) (nI h) (fu + 1) a (nI q) = f_X11_knew_30 Z (nI p) (nI h) fu _ (nI (q + 1))
    rw [f_X11_knew_30, hM.2.1, if_neg (show ¬ nI E.2.1 ≤ nI q from (by simp (disch := omega) only [fa_lt, fa_le, fa_eq, nI_toInt, Int32.reduceToInt, im1] <;> omega)), em10, if_pos (iblt (show 10 * p + q < 50 by omega) (by decide)), nI_clamp (by omega), hK.1 p q hp hq, mk, hI, nI_1]
    by_cases c9 : s.1 p q = 99
    · rw [if_pos ((hv_m1 (hB.1 p q)).mpr c9), if_neg (show ¬ decide (s.1 p q ≤ h) = true by rw [decide_eq_true_eq]; omega)]
    · have : s.1 p q < 48 := by
        rcases hB.1 p q with w | w
        · exact absurd w c9
        · exact w
      rw [if_neg (fun w => c9 ((hv_m1 (hB.1 p q)).mp w)), if_pos (iblt (show 10 * p + q < 50 by omega) (by decide)), hv_n (by omega)]
      by_cases c8 : s.1 p q ≤ h
      · rw [if_neg (show ¬ nI h < nI (s.1 p q) from (by simp (disch := omega) only [fa_lt, fa_le, fa_eq, nI_toInt, Int32.reduceToInt, im1] <;> omega)), if_pos (decide_eq_true c8)]
      · rw [if_pos (show nI h < nI (s.1 p q) from (by simp (disch := omega) only [fa_lt, fa_le, fa_eq, nI_toInt, Int32.reduceToInt, im1] <;> omega)), if_neg (fun w => c8 (decide_eq_true_eq.mp w))]) (fun fu a hI => by
    show f_X11_knew_30 Z (nI p) (nI h) (fu + 1) a (nI E.2.1) = _
    rw [f_X11_knew_30, hM.2.1, if_pos (show nI E.2.1 ≤ nI E.2.1 from (by simp (disch := omega) only [fa_lt, fa_le, fa_eq, nI_toInt, Int32.reduceToInt, im1] <;> omega))]) (by omega)
  rw [show knM E s p h = z from z2.symm]
  exact z1
/-- knew: promise 12 -/
theorem s_knew : S_10 Rel := by
  intro X M a b hR
  obtain ⟨Y, Z, E, ru, s, r1, r2, T, r4, x3, x4, m0, m5⟩ := both hR
  have p5 := T.1.1
  unfold f_X10_knew f_X11_knew
  rcases cl a E.1 (by omega) with ⟨p, hp, rfl⟩ | hc
  · rw [hg_in x3 hp p5, if_neg t10, ip_in m0 hp p5, if_neg t10]
    rcases cl b 48 (by omega) with ⟨h, hh, rfl⟩ | hc
    · rw [ih_in hh, if_neg t10, wi_in (by simp (disch := omega) only [fa_lt, fa_le, fa_eq, nI_toInt, Int32.reduceToInt, im1] <;> omega) (by simp (disch := omega) only [fa_lt, fa_le, fa_eq, nI_toInt, Int32.reduceToInt, im1] <;> omega), if_neg t10, r1, r2, Option.bind_some, Option.bind_some, knew_ok T hp hh]
      simp only [if_pos (iblt (show p < 5 by omega) (by decide)), if_pos (iblt hh (by decide)), nI_clamp (show p < 2 ^ 31 by omega), nI_clamp (show h < 2 ^ 31 by omega)]
      exact ⟨_, _, rfl, rfl, T.2.2.2.1.2.1 p h hp hh, r4⟩
    · rw [ih_out hc, if_pos t00, wi_out (by simp (disch := omega) only [fa_lt, fa_le, fa_eq, nI_toInt, Int32.reduceToInt, im1] <;> omega), if_pos t00]
      exact ⟨_, _, rfl, rfl, rfl, hR⟩
  · rw [hg_out x3 p5 hc, if_pos t00, ip_out m0 p5 hc, if_pos t00]
    exact ⟨_, _, rfl, rfl, rfl, hR⟩
/-- done: promise 13 -/
theorem s_done : S_11 Rel := by
  intro X M a b hR
  obtain ⟨Y, Z, E, ru, s, r1, r2, T, r4, x3, x4, m0, m5⟩ := both hR
  have p5 := T.1.1
  unfold f_X10_done f_X11_done
  rcases cl a 4 (by decide) with ⟨t, ht, rfl⟩ | hc
  · rw [it_in ht, if_neg t10, wi_in (by simp (disch := omega) only [fa_lt, fa_le, fa_eq, nI_toInt, Int32.reduceToInt, im1] <;> omega) (by simp (disch := omega) only [fa_lt, fa_le, fa_eq, nI_toInt, Int32.reduceToInt, im1] <;> omega), if_neg t10, r1, r2]
    by_cases cb : b = -1
    · simp only [if_pos cb, Option.bind_some, if_pos (iblt ht (by decide)), nI_clamp (show t < 2 ^ 31 by omega)]
      exact ⟨_, _, rfl, rfl, by rw [(T.2.2.2.1.2.2.2.2 t ht).1, (T.2.2.2.2.1.2.2.2 t ht).1], r4⟩
    · simp only [if_neg cb]
      rcases cl b E.1 (by omega) with ⟨p, hp, rfl⟩ | hc
      · rw [hg_in x3 hp p5, if_neg t10, ip_in m0 hp p5, if_neg t10, em4]
        simp only [Option.bind_some, if_pos (iblt (show p < 5 by omega) (by decide)), if_pos (iblt ht (by decide)), if_pos (iblt (show 4 * p + t < 20 by omega) (by decide)), nI_clamp (show p < 2 ^ 31 by omega), nI_clamp (show t < 2 ^ 31 by omega), nI_clamp (show 4 * p + t < 2 ^ 31 by omega)]
        exact ⟨_, _, rfl, rfl, by rw [T.2.2.2.1.2.2.2.1 t p ht hp, T.2.2.2.2.1.2.2.1 t p ht hp], r4⟩
      · rw [hg_out x3 p5 hc, if_pos t00, ip_out m0 p5 hc, if_pos t00]
        exact ⟨_, _, rfl, rfl, rfl, hR⟩
  · rw [it_out hc, if_pos t00, wi_out (by simp (disch := omega) only [fa_lt, fa_le, fa_eq, nI_toInt, Int32.reduceToInt, im1] <;> omega), if_pos t00]
    exact ⟨_, _, rfl, rfl, rfl, hR⟩
theorem two_or {b : Int32} : (b = 0 ∨ b = 1) ∨ (b < 0 ∨ (¬ b < 0 ∧ ¬ b ≤ 1)) ∧ (b.toInt < 0 ∨ 1 < b.toInt) := by
  rcases cl b 2 (by decide) with ⟨j, hj, rfl⟩ | hc
  · match j, hj with
    | 0, _ => exact Or.inl (Or.inl rfl)
    | 1, _ => exact Or.inl (Or.inr rfl)
    | j + 2, h => exact absurd h (by omega)
  · refine Or.inr ⟨?_, by omega⟩
    rw [fa_lt, fa_le]
    simp only [Int32.reduceToInt]
    omega
/-- when: promise 14 -/
theorem s_when : S_12 Rel := by
  intro X M a b hR
  obtain ⟨Y, Z, E, ru, s, r1, r2, T, r4, x3, x4, m0, m5⟩ := both hR
  unfold f_X10_when f_X11_when
  rcases cl a 4 (by decide) with ⟨t, ht, rfl⟩ | hc
  · rw [it_in ht, if_neg t10, wi_in (by simp (disch := omega) only [fa_lt, fa_le, fa_eq, nI_toInt, Int32.reduceToInt, im1] <;> omega) (by simp (disch := omega) only [fa_lt, fa_le, fa_eq, nI_toInt, Int32.reduceToInt, im1] <;> omega), if_neg t10, r1, r2]
    rcases two_or (b := b) with (rfl | rfl) | ⟨h1, h2⟩
    · rw [if_neg (by decide), if_pos (by decide), wi_in (by decide) (by decide), if_neg t10]
      simp only [Option.bind_some, if_pos (iblt ht (by decide)), nI_clamp (show t < 2 ^ 31 by omega), if_true]
      exact ⟨_, _, rfl, rfl, by rw [(T.2.2.2.1.2.2.2.2 t ht).2.1, (T.2.2.2.2.1.2.2.2 t ht).2.1], r4⟩
    · rw [if_neg (by decide), if_pos (by decide), wi_in (by decide) (by decide), if_neg t10]
      simp only [Option.bind_some, if_pos (iblt ht (by decide)), nI_clamp (show t < 2 ^ 31 by omega), if_neg t10]
      exact ⟨_, _, rfl, rfl, by rw [(T.2.2.2.1.2.2.2.2 t ht).2.2, (T.2.2.2.2.1.2.2.2 t ht).2.2], r4⟩
    · rw [wi_out (a := b) (by simp only [Int32.reduceToInt]; omega), if_pos t00]
      rcases h1 with w | w
      · rw [if_pos w]
        exact ⟨_, _, rfl, rfl, rfl, hR⟩
      · rw [if_neg w.1, if_neg w.2]
        exact ⟨_, _, rfl, rfl, rfl, hR⟩
  · rw [it_out hc, if_pos t00, wi_out (by simp (disch := omega) only [fa_lt, fa_le, fa_eq, nI_toInt, Int32.reduceToInt, im1] <;> omega), if_pos t00]
    exact ⟨_, _, rfl, rfl, rfl, hR⟩
