/-- what all notes of a thing ask, tell -/
def aN (E : ET) (t : Nat) : Nat := fb_sm (fun n => if E.2.2.1 7 n = t then asS (E.2.2.1 5 n) else 0) E.2.1
def tN (E : ET) (t : Nat) : Nat := fb_sm (fun n => if E.2.2.1 7 n = t then teS (E.2.2.1 5 n) else 0) E.2.1
theorem as_le (k : Nat) : asS k ≤ 2 := by unfold asS; split <;> (try split) <;> omega
theorem te_le (k : Nat) : teS k ≤ 2 := by
  unfold teS
  split
  · omega
  · split
    · omega
    · split <;> omega
theorem aN_le {E : ET} (n10 : E.2.1 ≤ 10) (t : Nat) : aN E t ≤ 20 := by
  have := fb_sm_bound (f := fun n => if E.2.2.1 7 n = t then asS (E.2.2.1 5 n) else 0) (c := 2) (n := E.2.1) (fun k _ => by
    show (if E.2.2.1 7 k = t then asS (E.2.2.1 5 k) else 0) ≤ 2
    have := as_le (E.2.2.1 5 k)
    split <;> omega)
  unfold aN
  omega
theorem asked_ok {Y : Mem} {E : ET} {ru t : Nat} (ok : Eok E) (hX : XE Y E ru) (ht : t < 4) : f_X0_askedInAll Y (nI t) = some (nI (aN E t)) := by
  have n10 := ok.2.1
  unfold f_X0_askedInAll
  obtain ⟨z, z1, z2⟩ := lp0 (F := fun fu x a => f_X0_askedInAll_4 Y (nI t) fu a x) (a := (0 : Int32)) (fun a => some a) E.2.1 (fun q a => a = nI (fb_sm (fun n => if E.2.2.1 7 n = t then asS (E.2.2.1 5 n) else 0) q)) rfl (fun fu q a hq hI => by
    have hs := hX.2.2.2.1 q hq
    have o := ok.2.2.2 q hq
    show ∃ a', f_X0_askedInAll_4 Y (nI t) (fu + 1) a (nI q) = f_X0_askedInAll_4 Y (nI t) fu a' (nI (q + 1)) ∧ _
    rw [f_X0_askedInAll_4, hX.2.1, if_neg (show ¬ nI E.2.1 ≤ nI q from (by simp (disch := omega) only [fa_lt, fa_le, fa_eq, nI_toInt, Int32.reduceToInt, im1] <;> omega))]
    simp only [if_pos (iblt (show q < 10 by omega) (by decide)), nI_clamp (show q < 2 ^ 31 by omega), hs.2.2.1, hs.2.2.2.2.2.2.1, nI_1, fb_sm_succ, hI, nI_add]
    by_cases c : E.2.2.1 7 q = t
    · rw [if_pos (congrArg nI c)]
      exact ⟨_, rfl, by rw [if_pos c]⟩
    · rw [if_neg (show ¬ nI (E.2.2.1 7 q) = nI t from (by simp (disch := omega) only [fa_lt, fa_le, fa_eq, nI_toInt, Int32.reduceToInt, im1] <;> omega))]
      exact ⟨_, rfl, by rw [if_neg c, Nat.add_zero]⟩) (fun fu a hI => by
    show f_X0_askedInAll_4 Y (nI t) (fu + 1) a (nI E.2.1) = _
    rw [f_X0_askedInAll_4, hX.2.1, if_pos (show nI E.2.1 ≤ nI E.2.1 from (by simp (disch := omega) only [fa_lt, fa_le, fa_eq, nI_toInt, Int32.reduceToInt, im1] <;> omega))]) (by omega)
  have z1 : f_X0_askedInAll_4 Y (nI t) FU 0 0 = some z := z1
  rw [z1, z2]
  rfl
theorem misA_loop {Z : Mem} {E : ET} {ru t : Nat} (ok : Eok E) (hM : ME Z E ru) (ht : t < 4) : ∀ (r k fu : Nat), k + r = E.2.1 → r < fu → f_X11_isAsked_2 Z (nI t) fu (nI k) = some (if 0 < fb_sm (fun n => if E.2.2.1 7 (k + n) = t then asS (E.2.2.1 5 (k + n)) else 0) r then 1 else 0) := by
  have n10 := ok.2.1
  intro r
  induction r with
  | zero =>
    intro k fu hk hf
    obtain ⟨g, rfl⟩ : ∃ g, fu = g + 1 := ⟨fu - 1, by omega⟩
    rw [f_X11_isAsked_2, hM.2.1, if_pos (show nI E.2.1 ≤ nI k from (by simp (disch := omega) only [fa_lt, fa_le, fa_eq, nI_toInt, Int32.reduceToInt, im1] <;> omega))]
    rfl
  | succ r ih =>
    intro k fu hk hf
    obtain ⟨g, rfl⟩ : ∃ g, fu = g + 1 := ⟨fu - 1, by omega⟩
    have o := ok.2.2.2 k (by omega)
    have hsum : fb_sm (fun n => if E.2.2.1 7 (k + n) = t then asS (E.2.2.1 5 (k + n)) else 0) (r + 1) = (if E.2.2.1 7 k = t then asS (E.2.2.1 5 k) else 0) + fb_sm (fun n => if E.2.2.1 7 (k + 1 + n) = t then asS (E.2.2.1 5 (k + 1 + n)) else 0) r := by
      have := fb_sm_split (fun n => if E.2.2.1 7 (k + n) = t then asS (E.2.2.1 5 (k + n)) else 0) 1 r
      rw [Nat.add_comm 1 r] at this
      rw [this]
      have e1 : fb_sm (fun n => if E.2.2.1 7 (k + n) = t then asS (E.2.2.1 5 (k + n)) else 0) 1 = (if E.2.2.1 7 k = t then asS (E.2.2.1 5 k) else 0) := by
        rw [fb_sm_succ]
        show 0 + _ = _
        rw [Nat.zero_add]
        rfl
      rw [e1]
      congr 1
      exact fb_sm_cong (fun n _ => by rw [Nat.add_assoc])
    rw [f_X11_isAsked_2, hM.2.1, if_neg (show ¬ nI E.2.1 ≤ nI k from (by simp (disch := omega) only [fa_lt, fa_le, fa_eq, nI_toInt, Int32.reduceToInt, im1] <;> omega)), if_pos (iblt (show k < 10 by omega) (by decide)), nI_clamp (by omega), (hM.2.2.2.1 k (by omega)).2.2.1, mas ok hM (show k < E.2.1 by omega), Option.bind_some, nI_1, ih (k + 1) g (by omega) (by omega), hsum]
    have := as_le (E.2.2.1 5 k)
    by_cases c : E.2.2.1 7 k = t
    · rw [if_pos (congrArg nI c), if_pos c]
      by_cases c0 : asS (E.2.2.1 5 k) = 0
      · rw [if_pos (show nI (asS (E.2.2.1 5 k)) ≤ 0 by rw [c0]; decide), c0, Nat.zero_add]
      · rw [if_neg (show ¬ nI (asS (E.2.2.1 5 k)) ≤ 0 from (by simp (disch := omega) only [fa_lt, fa_le, fa_eq, nI_toInt, Int32.reduceToInt, im1] <;> omega)), if_pos (by omega)]
    · rw [if_neg (show ¬ nI (E.2.2.1 7 k) = nI t from (by simp (disch := omega) only [fa_lt, fa_le, fa_eq, nI_toInt, Int32.reduceToInt, im1] <;> omega)), if_neg c, Nat.zero_add]
theorem misA_ok {Z : Mem} {E : ET} {ru t : Nat} (ok : Eok E) (hM : ME Z E ru) (ht : t < 4) : f_X11_isAsked Z (nI t) = some (if 0 < aN E t then 1 else 0) := by
  have n10 := ok.2.1
  unfold f_X11_isAsked
  have := misA_loop ok hM ht E.2.1 0 FU (by omega) (by rw [FU_eq]; omega)
  simp only [Nat.zero_add] at this
  exact this
theorem negl_ok {Y : Mem} {E : ET} {ru t : Nat} {c : Nat} (ok : Eok E) (hX : XE Y E ru) (ht : t < 4) (h10 : Y 10 t = nI c) (hc : c < 1000) : f_X0_isNeglected Y (nI t) = some (if c = 0 ∧ 0 < aN E t then 1 else 0) := by
  have := aN_le ok.2.1 t
  unfold f_X0_isNeglected
  rw [if_pos (iblt ht (by decide)), nI_clamp (by omega), h10, asked_ok ok hX ht, Option.bind_some]
  by_cases c0 : c = 0
  · rw [if_pos (show nI c = 0 by rw [c0]; rfl)]
    by_cases ca : 0 < aN E t
    · rw [if_neg (show ¬ nI (aN E t) ≤ 0 from (by simp (disch := omega) only [fa_lt, fa_le, fa_eq, nI_toInt, Int32.reduceToInt, im1] <;> omega)), if_pos ⟨c0, ca⟩]
    · rw [if_pos (show nI (aN E t) ≤ 0 from (by simp (disch := omega) only [fa_lt, fa_le, fa_eq, nI_toInt, Int32.reduceToInt, im1] <;> omega)), if_neg (fun w => ca w.2)]
  · rw [if_neg (show ¬ nI c = 0 from (by simp (disch := omega) only [fa_lt, fa_le, fa_eq, nI_toInt, Int32.reduceToInt, im1] <;> omega)), if_neg (fun w => c0 w.1)]
def thQ (E : ET) (s : CS) (w : Bool) (t : Nat) : Bool := if w then decide (s.2.2.2.1 t = 0) && decide (0 < aN E t) else decide (1 < s.2.2.2.1 t)
theorem thX {Y Z : Mem} {E : ET} {ru : Nat} {s : CS} {x : Int32} (T : Two Y Z E ru s) : f_X10_things_22 Y x FU 0 0 = some (mk (thQ E s (decide (x = 0))) 4, Y) := by
  obtain ⟨ok, hX, -, hK, -, hB, -, -⟩ := T
  obtain ⟨z, z1, z2⟩ := lp0 (F := fun fu y a => f_X10_things_22 Y x fu a y) (a := (0 : Int32)) (fun a => some (a, Y)) 4 (fun q a => a = mk (thQ E s (decide (x = 0))) q) rfl (fun fu q a hq hI => by
    refine ⟨mk (thQ E s (decide (x = 0))) (q + 1), ?_, rfl⟩
    have hb := hB.2.2 q
    show f_X10_things_22 Y x (fu + 1) a (nI q) = f_X10_things_22 Y x fu _ (nI (q + 1))
    rw [f_X10_things_22, if_neg (show ¬ 4 ≤ nI q from (by simp (disch := omega) only [fa_lt, fa_le, fa_eq, nI_toInt, Int32.reduceToInt, im1] <;> omega)), mk, hI, nI_1]
    by_cases cx : x = 0
    · rw [if_pos cx, negl_ok ok hX hq (hK.2.2.2.2 q hq).1 hb, Option.bind_some]
      by_cases c : s.2.2.2.1 q = 0 ∧ 0 < aN E q
      · rw [if_pos c, if_neg t10, if_pos (show thQ E s (decide (x = 0)) q = true by unfold thQ; rw [decide_eq_true cx, if_pos rfl, decide_eq_true c.1, decide_eq_true c.2]; rfl)]
      · rw [if_neg c, if_pos t00, if_neg (show ¬ thQ E s (decide (x = 0)) q = true by unfold thQ; rw [decide_eq_true cx, if_pos rfl]; simpa using c)]
    · rw [if_neg cx, if_pos (iblt hq (by decide)), nI_clamp (by omega), (hK.2.2.2.2 q hq).1]
      by_cases c : 1 < s.2.2.2.1 q
      · rw [if_neg (show ¬ nI (s.2.2.2.1 q) ≤ 1 from (by simp (disch := omega) only [fa_lt, fa_le, fa_eq, nI_toInt, Int32.reduceToInt, im1] <;> omega)), if_pos (show thQ E s (decide (x = 0)) q = true by unfold thQ; rw [decide_eq_false cx, if_neg (by decide), decide_eq_true c])]
      · rw [if_pos (show nI (s.2.2.2.1 q) ≤ 1 from (by simp (disch := omega) only [fa_lt, fa_le, fa_eq, nI_toInt, Int32.reduceToInt, im1] <;> omega)), if_neg (show ¬ thQ E s (decide (x = 0)) q = true by unfold thQ; rw [decide_eq_false cx, if_neg (by decide), decide_eq_true_eq]; exact c)]) (fun fu a hI => by
    show f_X10_things_22 Y x (fu + 1) a (nI 4) = _
    rw [f_X10_things_22, if_pos (show 4 ≤ nI 4 by decide)]) (by decide)
  rw [← z2]
  exact z1
theorem thM {Y Z : Mem} {E : ET} {ru : Nat} {s : CS} {x : Int32} (T : Two Y Z E ru s) : f_X11_things_20 Z x FU 0 0 = some (mk (thQ E s (decide (x = 0))) 4, Z) := by
  obtain ⟨ok, -, hM, -, hK, hB, -, -⟩ := T
  obtain ⟨z, z1, z2⟩ := lp0 (F := fun fu y a => f_X11_things_20 Z x fu a y) (a := (0 : Int32)) (fun a => some (a, Z)) 4 (fun q a => a = mk (thQ E s (decide (x = 0))) q) rfl (fun fu q a hq hI => by
    refine ⟨mk (thQ E s (decide (x = 0))) (q + 1), ?_, rfl⟩
    have hb := hB.2.2 q
    show f_X11_things_20 Z x (fu + 1) a (nI q) = f_X11_things_20 Z x fu _ (nI (q + 1))
    rw [f_X11_things_20, if_neg (show ¬ 4 ≤ nI q from (by simp (disch := omega) only [fa_lt, fa_le, fa_eq, nI_toInt, Int32.reduceToInt, im1] <;> omega)), mk, hI, nI_1]
    simp only [if_pos (iblt hq (by decide)), nI_clamp (show q < 2 ^ 31 by omega), (hK.2.2.2 q hq).1]
    by_cases cx : x = 0
    · rw [if_pos cx, misA_ok ok hM hq, Option.bind_some]
      by_cases ca : 0 < aN E q
      · rw [if_pos ca, if_neg t10]
        by_cases c : s.2.2.2.1 q = 0
        · rw [if_pos (show nI (s.2.2.2.1 q) = 0 by rw [c]; rfl), if_pos (show thQ E s (decide (x = 0)) q = true by unfold thQ; rw [decide_eq_true cx, if_pos rfl, decide_eq_true c, decide_eq_true ca]; rfl)]
        · rw [if_neg (show ¬ nI (s.2.2.2.1 q) = 0 from (by simp (disch := omega) only [fa_lt, fa_le, fa_eq, nI_toInt, Int32.reduceToInt, im1] <;> omega)), if_neg (show ¬ thQ E s (decide (x = 0)) q = true by unfold thQ; rw [decide_eq_true cx, if_pos rfl, decide_eq_false c]; simp)]
      · rw [if_neg ca, if_pos t00, if_neg (show ¬ thQ E s (decide (x = 0)) q = true by unfold thQ; rw [decide_eq_true cx, if_pos rfl, decide_eq_false ca]; simp)]
    · rw [if_neg cx]
      by_cases c : 1 < s.2.2.2.1 q
      · rw [if_neg (show ¬ nI (s.2.2.2.1 q) ≤ 1 from (by simp (disch := omega) only [fa_lt, fa_le, fa_eq, nI_toInt, Int32.reduceToInt, im1] <;> omega)), if_pos (show thQ E s (decide (x = 0)) q = true by unfold thQ; rw [decide_eq_false cx, if_neg (by decide), decide_eq_true c])]
      · rw [if_pos (show nI (s.2.2.2.1 q) ≤ 1 from (by simp (disch := omega) only [fa_lt, fa_le, fa_eq, nI_toInt, Int32.reduceToInt, im1] <;> omega)), if_neg (show ¬ thQ E s (decide (x = 0)) q = true by unfold thQ; rw [decide_eq_false cx, if_neg (by decide), decide_eq_true_eq]; exact c)]) (fun fu a hI => by
    show f_X11_things_20 Z x (fu + 1) a (nI 4) = _
    rw [f_X11_things_20, if_pos (show 4 ≤ nI 4 by decide)]) (by decide)
  rw [← z2]
  exact z1
/-- things: promise 15 -/
theorem s_things : S_13 Rel := by
  intro X M a hR
  unfold f_X10_things f_X11_things
  rcases two_or (b := a) with h | ⟨h1, h2⟩
  · obtain ⟨Y, Z, E, ru, s, r1, r2, T, r4, -⟩ := both hR
    have hin : (0 : Int32).toInt ≤ a.toInt ∧ a.toInt ≤ (1 : Int32).toInt := by rcases h with rfl | rfl <;> decide
    have h0 : ¬ a < 0 ∧ a ≤ 1 := by rcases h with rfl | rfl <;> decide
    rw [if_neg h0.1, if_pos h0.2, wi_in hin.1 hin.2, if_neg t10, r1, r2, Option.bind_some, Option.bind_some, thX T, thM T]
    exact ⟨_, _, rfl, rfl, rfl, r4⟩
  · rw [wi_out (a := a) (by simp only [Int32.reduceToInt]; omega), if_pos t00]
    rcases h1 with w | w
    · rw [if_pos w]
      exact ⟨_, _, rfl, rfl, rfl, hR⟩
    · rw [if_neg w.1, if_neg w.2]
      exact ⟨_, _, rfl, rfl, rfl, hR⟩
/-- care of a thing -/
def carR (E : ET) (t : Nat) : Int32 := E.2.2.2 2 (fc (nI (aN E t)) (nI (tN E t)) 48 0 0 (nI t))
def carV (E : ET) (t : Nat) : Int32 := if 0 ≤ carR E t then (if carR E t ≤ 99 then carR E t else 99) else 0
theorem mm_ok (v : Int32) : f_J9_max_7cf53 0 (f_J9_min_7cf53 99 v) = if 0 ≤ v then (if v ≤ 99 then v else 99) else 0 := by
  unfold f_J9_max_7cf53 f_J9_min_7cf53
  by_cases c0 : 0 ≤ v
  · rw [if_pos c0]
    by_cases c1 : v ≤ 99
    · rw [if_pos c1]
      by_cases c2 : v < 99
      · rw [if_pos c2]
        by_cases c3 : 0 < v
        · rw [if_pos c3]
        · rw [if_neg c3]
          rw [fa_le] at c0
          rw [fa_lt] at c3
          rw [fa_eq]
          omega
      · rw [if_neg c2, if_pos (by decide)]
        rw [fa_le] at c1
        rw [fa_lt] at c2
        rw [fa_eq]
        omega
    · rw [if_neg c1, if_neg (show ¬ v < 99 by rw [fa_le] at c1; rw [fa_lt]; omega), if_pos (by decide)]
  · rw [if_neg c0]
    rw [fa_le] at c0
    rw [if_pos (show v < 99 by rw [fa_lt]; simp only [Int32.reduceToInt] at c0 ⊢; omega), if_neg (show ¬ 0 < v by rw [fa_lt]; omega)]
theorem careX {Y : Mem} {E : ET} {ru t : Nat} (ok : Eok E) (hX : XE Y E ru) (ht : t < 4) : ∃ W, f_X0_careFor Y (nI t) = some (carV E t, W) ∧ ∀ c, c ≠ 17 → c ≠ 18 → W c = Y c := by
  have n10 := ok.2.1
  generalize hY2 : upd2 (upd2 (upd2 Y 17 2 48) 17 3 0) 17 4 0 = Y2
  have Yc : ∀ c, c ≠ 17 → Y2 c = Y c := fun c hc => by rw [← hY2, u2n hc, u2n hc, u2n hc]
  have hX2 : XE Y2 E ru := hX.cg ok (by rw [Yc 1 (by decide)]) (by rw [Yc 1 (by decide)]) (by rw [Yc 1 (by decide)]) (fun c hc => Yc c (by omega))
  obtain ⟨W, w1, w2, -⟩ := says_ok (j := 2) (a := nI (aN E t)) (b := nI (tN E t)) (t := nI t) hX2 (by decide)
  have e1 : Y2 17 2 = 48 ∧ Y2 17 3 = 0 ∧ Y2 17 4 = 0 := by rw [← hY2]; exact ⟨rfl, rfl, rfl⟩
  rw [e1.1, e1.2.1, e1.2.2] at w1
  refine ⟨W, ?_, fun c h1 h2 => (w2 c h1 h2).trans (Yc c h1)⟩
  unfold f_X0_careFor
  obtain ⟨z, z1, z2⟩ := lp0 (F := fun fu x a => f_X0_careFor_4 Y (nI t) fu a x) (a := (0 : Int32)) (fun a => Option.bind (f_X0_askedInAll Y2 (nI t)) fun r_7 => Option.bind (f_X0_says Y2 2 r_7 a (nI t)) fun r_8 => some (f_J9_max_7cf53 0 (f_J9_min_7cf53 99 r_8.1), r_8.2)) E.2.1 (fun q a => a = nI (fb_sm (fun n => if E.2.2.1 7 n = t then teS (E.2.2.1 5 n) else 0) q)) rfl (fun fu q a hq hI => by
    have hs := hX.2.2.2.1 q hq
    have o := ok.2.2.2 q hq
    show ∃ a', f_X0_careFor_4 Y (nI t) (fu + 1) a (nI q) = f_X0_careFor_4 Y (nI t) fu a' (nI (q + 1)) ∧ _
    rw [f_X0_careFor_4, hX.2.1, if_neg (show ¬ nI E.2.1 ≤ nI q from (by simp (disch := omega) only [fa_lt, fa_le, fa_eq, nI_toInt, Int32.reduceToInt, im1] <;> omega))]
    simp only [if_pos (iblt (show q < 10 by omega) (by decide)), nI_clamp (show q < 2 ^ 31 by omega), hs.2.2.1, hs.2.2.2.2.2.2.2, nI_1, fb_sm_succ, hI, nI_add]
    by_cases c : E.2.2.1 7 q = t
    · rw [if_pos (congrArg nI c)]
      exact ⟨_, rfl, by rw [if_pos c]⟩
    · rw [if_neg (show ¬ nI (E.2.2.1 7 q) = nI t from (by simp (disch := omega) only [fa_lt, fa_le, fa_eq, nI_toInt, Int32.reduceToInt, im1] <;> omega))]
      exact ⟨_, rfl, by rw [if_neg c, Nat.add_zero]⟩) (fun fu a hI => by
    show f_X0_careFor_4 Y (nI t) (fu + 1) a (nI E.2.1) = _
    rw [f_X0_careFor_4, hX.2.1, if_pos (show nI E.2.1 ≤ nI E.2.1 from (by simp (disch := omega) only [fa_lt, fa_le, fa_eq, nI_toInt, Int32.reduceToInt, im1] <;> omega)), hY2]) (by omega)
  have z1 : f_X0_careFor_4 Y (nI t) FU 0 0 = Option.bind (f_X0_askedInAll Y2 (nI t)) fun r_7 => Option.bind (f_X0_says Y2 2 r_7 z (nI t)) fun r_8 => some (f_J9_max_7cf53 0 (f_J9_min_7cf53 99 r_8.1), r_8.2) := z1
  rw [z1, z2, asked_ok ok hX2 ht, Option.bind_some]
  rw [show f_X0_says Y2 2 (nI (aN E t)) (nI (fb_sm (fun n => if E.2.2.1 7 n = t then teS (E.2.2.1 5 n) else 0) E.2.1)) (nI t) = _ from w1, Option.bind_some]
  show some (f_J9_max_7cf53 0 (f_J9_min_7cf53 99 (carR E t)), W) = _
  rw [mm_ok]
  rfl
theorem careM {Z : Mem} {E : ET} {ru t : Nat} (ok : Eok E) (hM : ME Z E ru) (ht : t < 4) : ∃ W, f_X11_care Z (nI t) = some (carV E t, W) ∧ ∀ c, c ≠ 14 → W c = Z c := by
  have n10 := ok.2.1
  obtain ⟨W, w1, w2⟩ := worth_ok (j := 2) (a := nI (aN E t)) (b := nI (tN E t)) (h := 48) (w := 0) (t := 0) (g := nI t) hM (by decide)
  refine ⟨W, ?_, w2⟩
  unfold f_X11_care
  obtain ⟨z, z1, z2⟩ := lp0 (F := fun fu x (a : Int32 × Int32) => f_X11_care_7 Z (nI t) fu a.1 a.2 x) (a := ((0 : Int32), (0 : Int32))) (fun a => Option.bind (f_X11_worth Z 2 a.1 a.2 48 0 0 (nI t)) fun r_8 => if 0 ≤ r_8.1 then (if r_8.1 ≤ 99 then some (r_8.1, r_8.2) else some (99, r_8.2)) else some (0, r_8.2)) E.2.1 (fun q a => a.1 = nI (fb_sm (fun n => if E.2.2.1 7 n = t then asS (E.2.2.1 5 n) else 0) q) ∧ a.2 = nI (fb_sm (fun n => if E.2.2.1 7 n = t then teS (E.2.2.1 5 n) else 0) q)) ⟨rfl, rfl⟩ (fun fu q a hq hI => by
    have o := ok.2.2.2 q hq
    show ∃ a' : Int32 × Int32, f_X11_care_7 Z (nI t) (fu + 1) a.1 a.2 (nI q) = f_X11_care_7 Z (nI t) fu a'.1 a'.2 (nI (q + 1)) ∧ _
    rw [f_X11_care_7, hM.2.1, if_neg (show ¬ nI E.2.1 ≤ nI q from (by simp (disch := omega) only [fa_lt, fa_le, fa_eq, nI_toInt, Int32.reduceToInt, im1] <;> omega))]
    simp only [if_pos (iblt (show q < 10 by omega) (by decide)), nI_clamp (show q < 2 ^ 31 by omega), (hM.2.2.2.1 q hq).2.2.1, mas ok hM hq, mte ok hM hq, Option.bind_some, nI_1, fb_sm_succ, hI.1, hI.2, nI_add]
    by_cases c : E.2.2.1 7 q = t
    · rw [if_pos (congrArg nI c)]
      exact ⟨(_, _), rfl, by rw [if_pos c]; rfl, by rw [if_pos c]; rfl⟩
    · rw [if_neg (show ¬ nI (E.2.2.1 7 q) = nI t from (by simp (disch := omega) only [fa_lt, fa_le, fa_eq, nI_toInt, Int32.reduceToInt, im1] <;> omega))]
      exact ⟨(_, _), rfl, by rw [if_neg c, Nat.add_zero]; rfl, by rw [if_neg c, Nat.add_zero]; rfl⟩) (fun fu a hI => by
    show f_X11_care_7 Z (nI t) (fu + 1) a.1 a.2 (nI E.2.1) = _
    rw [f_X11_care_7, hM.2.1, if_pos (show nI E.2.1 ≤ nI E.2.1 from (by simp (disch := omega) only [fa_lt, fa_le, fa_eq, nI_toInt, Int32.reduceToInt, im1] <;> omega))]) (by omega)
  have z1 : f_X11_care_7 Z (nI t) FU 0 0 0 = Option.bind (f_X11_worth Z 2 z.1 z.2 48 0 0 (nI t)) fun r_8 => if 0 ≤ r_8.1 then (if r_8.1 ≤ 99 then some (r_8.1, r_8.2) else some (99, r_8.2)) else some (0, r_8.2) := z1
  rw [z1, z2.1, z2.2]
  rw [show f_X11_worth Z 2 (nI (fb_sm (fun n => if E.2.2.1 7 n = t then asS (E.2.2.1 5 n) else 0) E.2.1)) (nI (fb_sm (fun n => if E.2.2.1 7 n = t then teS (E.2.2.1 5 n) else 0) E.2.1)) 48 0 0 (nI t) = _ from w1, Option.bind_some]
  show (if 0 ≤ carR E t then (if carR E t ≤ 99 then some (carR E t, W) else some (99, W)) else some (0, W)) = some (carV E t, W)
  unfold carV
  split
  · split <;> rfl
  · rfl
def hrmS (E : ET) (s : CS) : Nat → Int32
  | 0 => 0
  | t + 1 => if s.2.2.2.1 t = 0 then (if 0 < aN E t then hrmS E s t + carV E t else hrmS E s t) else hrmS E s t + nI (s.2.2.2.1 t - 1)
theorem max_c {c : Nat} (hc : c < 1000) : f_J9_max_7cf53 0 (nI c - 1) = nI (c - 1) := by
  unfold f_J9_max_7cf53
  by_cases c0 : c = 0
  · rw [c0, if_neg (by decide)]
    rfl
  · obtain ⟨d, rfl⟩ : ∃ d, c = d + 1 := ⟨c - 1, by omega⟩
    rw [nI_pred, Nat.add_sub_cancel]
    by_cases c1 : d = 0
    · rw [c1]
      decide
    · rw [if_pos (show 0 < nI d from (by simp (disch := omega) only [fa_lt, fa_le, fa_eq, nI_toInt, Int32.reduceToInt, im1] <;> omega))]
theorem i_add0 (a : Int32) : a + nI 0 = a := by
  show a + 0 = a
  exact Int32.add_zero a
theorem harmX {Y Z : Mem} {E : ET} {ru : Nat} {s : CS} (T : Two Y Z E ru s) : ∃ W, f_X0_harmDone Y = some (hrmS E s 4, W) ∧ ∀ c, c ≠ 17 → c ≠ 18 → W c = Y c := by
  obtain ⟨ok, hX, -, hK, -, hB, -, -⟩ := T
  unfold f_X0_harmDone
  obtain ⟨z, z1, z2, z3⟩ := lp0 (F := fun fu y (a : Int32 × Mem) => f_X0_harmDone_4 fu a.1 y a.2) (a := ((0 : Int32), Y)) (fun a => some a) 4 (fun q a => a.1 = hrmS E s q ∧ ∀ c, c ≠ 17 → c ≠ 18 → a.2 c = Y c) ⟨rfl, fun _ _ _ => rfl⟩ (fun fu q a hq hI => by
    obtain ⟨i1, i2⟩ := hI
    have hA : XE a.2 E ru := hX.cg ok (by rw [i2 1 (by decide) (by decide)]) (by rw [i2 1 (by decide) (by decide)]) (by rw [i2 1 (by decide) (by decide)]) (fun c hc => i2 c (by omega) (by omega))
    have hb := hB.2.2 q
    have h10 : a.2 10 q = nI (s.2.2.2.1 q) := by rw [i2 10 (by decide) (by decide)]; exact (hK.2.2.2.2 q hq).1
    show ∃ a' : Int32 × Mem, f_X0_harmDone_4 (fu + 1) a.1 (nI q) a.2 = f_X0_harmDone_4 fu a'.1 (nI (q + 1)) a'.2 ∧ _
    rw [f_X0_harmDone_4, if_neg (show ¬ 4 ≤ nI q from (by simp (disch := omega) only [fa_lt, fa_le, fa_eq, nI_toInt, Int32.reduceToInt, im1] <;> omega)), negl_ok ok hA hq h10 hb, Option.bind_some, hrmS]
    by_cases c : s.2.2.2.1 q = 0 ∧ 0 < aN E q
    · obtain ⟨W, w1, w2⟩ := careX ok hA hq
      have h10W : (carV E q, W).2 10 q = nI (s.2.2.2.1 q) := (congrFun (w2 10 (by decide) (by decide)) q).trans h10
      rw [if_pos c, if_neg t10, w1, Option.bind_some, if_pos (iblt hq (by decide)), nI_clamp (by omega), h10W, max_c hb, c.1, if_pos rfl, if_pos c.2, nI_1, i1]
      exact ⟨(_, W), rfl, by rw [show nI (0 - 1) = nI 0 from rfl, i_add0], fun c h1 h2 => (w2 c h1 h2).trans (i2 c h1 h2)⟩
    · rw [if_neg c, if_pos t00, if_pos (iblt hq (by decide)), nI_clamp (by omega), h10, max_c hb, nI_1, i1]
      refine ⟨(_, a.2), rfl, ?_, i2⟩
      by_cases c0 : s.2.2.2.1 q = 0
      · rw [if_pos c0, if_neg (fun w => c ⟨c0, w⟩), c0, show nI (0 - 1) = nI 0 from rfl, i_add0]
      · rw [if_neg c0]) (fun fu a hI => by
    show f_X0_harmDone_4 (fu + 1) a.1 (nI 4) a.2 = some a
    rw [f_X0_harmDone_4, if_pos (show 4 ≤ nI 4 by decide)]) (by decide)
  refine ⟨z.2, ?_, z3⟩
  have z1 : f_X0_harmDone_4 FU 0 0 Y = some z := z1
  rw [z1, ← z2]
theorem harmM {Y Z : Mem} {E : ET} {ru : Nat} {s : CS} (T : Two Y Z E ru s) : ∃ W, f_X11_harm_8 FU 0 0 Z = some (hrmS E s 4, W) ∧ ∀ c, c ≠ 14 → W c = Z c := by
  obtain ⟨ok, -, hM, -, hK, hB, -, -⟩ := T
  obtain ⟨z, z1, z2, z3⟩ := lp0 (F := fun fu y (a : Int32 × Mem) => f_X11_harm_8 fu a.1 y a.2) (a := ((0 : Int32), Z)) (fun a => some a) 4 (fun q a => a.1 = hrmS E s q ∧ ∀ c, c ≠ 14 → a.2 c = Z c) ⟨rfl, fun _ _ => rfl⟩ (fun fu q a hq hI => by
    obtain ⟨i1, i2⟩ := hI
    have hA : ME a.2 E ru := hM.fr (fun c hc => i2 c (by omega))
    have hb := hB.2.2 q
    have h17 : a.2 17 q = nI (s.2.2.2.1 q) := by rw [i2 17 (by decide)]; exact (hK.2.2.2 q hq).1
    show ∃ a' : Int32 × Mem, f_X11_harm_8 (fu + 1) a.1 (nI q) a.2 = f_X11_harm_8 fu a'.1 (nI (q + 1)) a'.2 ∧ _
    rw [f_X11_harm_8, if_neg (show ¬ 4 ≤ nI q from (by simp (disch := omega) only [fa_lt, fa_le, fa_eq, nI_toInt, Int32.reduceToInt, im1] <;> omega)), hrmS]
    simp only [if_pos (iblt hq (by decide)), nI_clamp (show q < 2 ^ 31 by omega), h17, nI_1, i1]
    by_cases c0 : s.2.2.2.1 q = 0
    · rw [if_pos (show nI (s.2.2.2.1 q) ≤ 1 by rw [c0]; decide), if_pos (show nI (s.2.2.2.1 q) = 0 by rw [c0]; rfl), if_pos c0, misA_ok ok hA hq, Option.bind_some]
      by_cases ca : 0 < aN E q
      · obtain ⟨W, w1, w2⟩ := careM ok hA hq
        rw [if_pos ca, if_neg t10, if_pos ca, w1, Option.bind_some]
        exact ⟨(_, W), rfl, rfl, fun c h1 => (w2 c h1).trans (i2 c h1)⟩
      · rw [if_neg ca, if_pos t00, if_neg ca]
        exact ⟨(_, a.2), rfl, rfl, i2⟩
    · rw [if_neg c0]
      by_cases c1 : s.2.2.2.1 q = 1
      · rw [if_pos (show nI (s.2.2.2.1 q) ≤ 1 by rw [c1]; decide), if_neg (show ¬ nI (s.2.2.2.1 q) = 0 from (by simp (disch := omega) only [fa_lt, fa_le, fa_eq, nI_toInt, Int32.reduceToInt, im1] <;> omega)), c1]
        exact ⟨(_, a.2), rfl, by rw [show nI (1 - 1) = nI 0 from rfl, i_add0], i2⟩
      · obtain ⟨d, hd⟩ : ∃ d, s.2.2.2.1 q = d + 1 := ⟨s.2.2.2.1 q - 1, by omega⟩
        rw [if_neg (show ¬ nI (s.2.2.2.1 q) ≤ 1 from (by simp (disch := omega) only [fa_lt, fa_le, fa_eq, nI_toInt, Int32.reduceToInt, im1] <;> omega)), if_neg (show ¬ nI (s.2.2.2.1 q) = 0 from (by simp (disch := omega) only [fa_lt, fa_le, fa_eq, nI_toInt, Int32.reduceToInt, im1] <;> omega)), hd, nI_pred, Nat.add_sub_cancel]
        exact ⟨(_, a.2), rfl, rfl, i2⟩) (fun fu a hI => by
    show f_X11_harm_8 (fu + 1) a.1 (nI 4) a.2 = some a
    rw [f_X11_harm_8, if_pos (show 4 ≤ nI 4 by decide)]) (by decide)
  refine ⟨z.2, ?_, z3⟩
  have z1 : f_X11_harm_8 FU 0 0 Z = some z := z1
  rw [z1, ← z2]
/-- the scratch rows do not matter -/
theorem Rel.scr {Y Z W V : Mem} (hR : Rel Y Z) (hW : ∀ c, c ≠ 17 → c ≠ 18 → W c = Y c) (hV : ∀ c, c ≠ 14 → V c = Z c) : Rel W V := by
  obtain ⟨e, d, nm, tp, ok, hX, hM, hma, hta, him, hsh, hst⟩ := hR
  exact rel_of ok hX hM hma hta him hsh (fun c hc => hW c (by unfold crs at hc; omega) (by unfold crs at hc; omega)) (fun c hc => hV c (by omega)) (hst.cg ok.eW (by rw [hW 5 (by decide) (by decide)]) (hW 6 (by decide) (by decide)) (fun c hc => hW c (by omega) (by omega)) (fun c hc => hW c (by omega) (by omega)))
/-- harm: promise 16 -/
theorem s_harm : S_14 Rel := by
  intro X M hR
  obtain ⟨Y, Z, E, ru, s, r1, r2, T, r4, -⟩ := both hR
  obtain ⟨W, w1, w2⟩ := harmX T
  obtain ⟨V, v1, v2⟩ := harmM T
  unfold f_X10_harm f_X11_harm
  rw [r1, r2, Option.bind_some, Option.bind_some, w1, v1, Option.bind_some]
  exact ⟨_, _, rfl, rfl, rfl, r4.scr w2 v2⟩
