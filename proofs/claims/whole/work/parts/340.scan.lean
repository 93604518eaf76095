/-! the model's course -/
def Bd (s : CS) : Prop := (∀ q n, s.1 q n = 99 ∨ s.1 q n < 48) ∧ (∀ n, s.2.1 n = 99 ∨ s.2.1 n < 48) ∧ ∀ t, s.2.2.2.1 t < 1000
theorem hv_m1 {v : Nat} (h : v = 99 ∨ v < 48) : hv v = -1 ↔ v = 99 := by
  unfold hv
  by_cases c : v = 99
  · rw [if_pos c]
    exact ⟨fun _ => c, fun _ => rfl⟩
  · rw [if_neg c]
    exact ⟨fun w => absurd w (by simp (disch := omega) only [fa_lt, fa_le, fa_eq, nI_toInt, Int32.reduceToInt, im1] <;> omega), fun w => absurd w c⟩
theorem mth {M : Mem} {e : ET} {ru n h : Nat} (ok : Eok e) (hM : ME M e ru) (hn : n < e.2.1) (hh : h < 48) : f_X11_there M (nI n) (nI h) = some (if thB e n h = true then 1 else 0) := by
  have n10 := ok.2.1
  have o := ok.2.2.2 n hn
  have s := (hi_small ok hn).2
  unfold f_X11_there thB
  simp only [if_pos (iblt (show n < 10 by omega) (by decide)), nI_clamp (show n < 2 ^ 31 by omega), (hM.2.2.2.1 n hn).2.1, mla ok hM hn, Option.bind_some]
  by_cases c : h ≤ e.2.2.1 6 n
  · rw [if_pos (show nI h ≤ nI (e.2.2.1 6 n) from (by simp (disch := omega) only [fa_lt, fa_le, fa_eq, nI_toInt, Int32.reduceToInt, im1] <;> omega)), decide_eq_false (show ¬ e.2.2.1 6 n < h by omega)]
    rfl
  · rw [if_neg (show ¬ nI h ≤ nI (e.2.2.1 6 n) from (by simp (disch := omega) only [fa_lt, fa_le, fa_eq, nI_toInt, Int32.reduceToInt, im1] <;> omega)), decide_eq_true (show e.2.2.1 6 n < h by omega), Bool.true_and, pk_sub (by omega)]
    by_cases c2 : h ≤ e.2.2.1 6 n + laS (e.2.2.1 5 n) (e.2.2.1 8 n)
    · rw [if_neg (show ¬ nI (laS (e.2.2.1 5 n) (e.2.2.1 8 n)) < nI (h - e.2.2.1 6 n) from (by simp (disch := omega) only [fa_lt, fa_le, fa_eq, nI_toInt, Int32.reduceToInt, im1] <;> omega)), decide_eq_true c2, if_pos rfl]
    · rw [if_pos (show nI (laS (e.2.2.1 5 n) (e.2.2.1 8 n)) < nI (h - e.2.2.1 6 n) from (by simp (disch := omega) only [fa_lt, fa_le, fa_eq, nI_toInt, Int32.reduceToInt, im1] <;> omega)), decide_eq_false c2]
      rfl
theorem mab0 {M : Mem} {n : Int32} : f_X11_above M n (-1) = some 1 := by
  unfold f_X11_above
  rw [if_neg (by decide)]
theorem mab {M : Mem} {e : ET} {ru a b : Nat} (ok : Eok e) (hM : ME M e ru) (ha : a < e.2.1) (hb : b < e.2.1) : f_X11_above M (nI a) (nI b) = some (if abP e a b then 1 else 0) := by
  have n10 := ok.2.1
  have a2 := (hM.2.2.2.1 a ha).2.1
  have b2 := (hM.2.2.2.1 b hb).2.1
  have oa := ok.2.2.2 a ha
  have ob := ok.2.2.2 b hb
  have sa := (hi_small ok ha).1
  have sb := (hi_small ok hb).1
  unfold f_X11_above
  simp only [if_pos (iblt (show a < 10 by omega) (by decide)), if_pos (iblt (show b < 10 by omega) (by decide)), nI_clamp (show a < 2 ^ 31 by omega), nI_clamp (show b < 2 ^ 31 by omega), a2, b2, mhi ok hM ha, mhi ok hM hb, Option.bind_some]
  rw [if_pos (show (0 : Int32) ≤ nI b from (by simp (disch := omega) only [fa_lt, fa_le, fa_eq, nI_toInt, Int32.reduceToInt, im1] <;> omega))]
  by_cases c1 : hiS (e.2.2.1 5 a) (e.2.2.1 8 a) = hiS (e.2.2.1 5 b) (e.2.2.1 8 b)
  · rw [if_pos (congrArg nI c1)]
    by_cases c2 : e.2.2.1 6 a = e.2.2.1 6 b
    · rw [if_pos (congrArg nI c2)]
      by_cases c3 : a ≤ b
      · rw [if_pos (show nI a ≤ nI b from (by simp (disch := omega) only [fa_lt, fa_le, fa_eq, nI_toInt, Int32.reduceToInt, im1] <;> omega)), if_neg (show ¬ abP e a b by unfold abP; omega)]
      · rw [if_neg (show ¬ nI a ≤ nI b from (by simp (disch := omega) only [fa_lt, fa_le, fa_eq, nI_toInt, Int32.reduceToInt, im1] <;> omega)), if_pos (show abP e a b by unfold abP; omega)]
    · rw [if_neg (show ¬ nI (e.2.2.1 6 a) = nI (e.2.2.1 6 b) from (by simp (disch := omega) only [fa_lt, fa_le, fa_eq, nI_toInt, Int32.reduceToInt, im1] <;> omega))]
      by_cases c3 : e.2.2.1 6 a ≤ e.2.2.1 6 b
      · rw [if_pos (show nI (e.2.2.1 6 a) ≤ nI (e.2.2.1 6 b) from (by simp (disch := omega) only [fa_lt, fa_le, fa_eq, nI_toInt, Int32.reduceToInt, im1] <;> omega)), if_neg (show ¬ abP e a b by unfold abP; omega)]
      · rw [if_neg (show ¬ nI (e.2.2.1 6 a) ≤ nI (e.2.2.1 6 b) from (by simp (disch := omega) only [fa_lt, fa_le, fa_eq, nI_toInt, Int32.reduceToInt, im1] <;> omega)), if_pos (show abP e a b by unfold abP; omega)]
  · rw [if_neg (show ¬ nI (hiS (e.2.2.1 5 a) (e.2.2.1 8 a)) = nI (hiS (e.2.2.1 5 b) (e.2.2.1 8 b)) from (by simp (disch := omega) only [fa_lt, fa_le, fa_eq, nI_toInt, Int32.reduceToInt, im1] <;> omega))]
    by_cases c3 : hiS (e.2.2.1 5 a) (e.2.2.1 8 a) ≤ hiS (e.2.2.1 5 b) (e.2.2.1 8 b)
    · rw [if_pos (show nI (hiS (e.2.2.1 5 a) (e.2.2.1 8 a)) ≤ nI (hiS (e.2.2.1 5 b) (e.2.2.1 8 b)) from (by simp (disch := omega) only [fa_lt, fa_le, fa_eq, nI_toInt, Int32.reduceToInt, im1] <;> omega)), if_neg (show ¬ abP e a b by unfold abP; omega)]
    · rw [if_neg (show ¬ nI (hiS (e.2.2.1 5 a) (e.2.2.1 8 a)) ≤ nI (hiS (e.2.2.1 5 b) (e.2.2.1 8 b)) from (by simp (disch := omega) only [fa_lt, fa_le, fa_eq, nI_toInt, Int32.reduceToInt, im1] <;> omega)), if_pos (show abP e a b by unfold abP; omega)]
/-- the uppermost of the first k that Q tells, or none -/
def BQ (e : ET) (Q : Nat → Bool) (k : Nat) (b : Int32) : Prop := (b = -1 ∧ ∀ n, n < k → Q n = false) ∨ ∃ m, m < k ∧ b = nI m ∧ Q m = true ∧ ∀ n, n < k → Q n = true → n ≠ m → abP e m n
theorem BQ.no {e : ET} {Q : Nat → Bool} {k : Nat} {b : Int32} (H : BQ e Q k b) (hq : Q k = false) : BQ e Q (k + 1) b := by
  rcases H with ⟨h1, h2⟩ | ⟨m, h1, h2, h3, h4⟩
  · refine Or.inl ⟨h1, fun n hn => ?_⟩
    by_cases c : n = k
    · rw [c]; exact hq
    · exact h2 n (by omega)
  · refine Or.inr ⟨m, by omega, h2, h3, fun n hn hQ hne => ?_⟩
    by_cases c : n = k
    · rw [c, hq] at hQ
      exact absurd hQ (by decide)
    · exact h4 n (by omega) hQ hne
theorem BQ.first {e : ET} {Q : Nat → Bool} {k : Nat} (h2 : ∀ n, n < k → Q n = false) (hq : Q k = true) : BQ e Q (k + 1) (nI k) := by
  refine Or.inr ⟨k, by omega, rfl, hq, fun n hn hQ hne => ?_⟩
  rw [h2 n (by omega)] at hQ
  exact absurd hQ (by decide)
theorem BQ.more {e : ET} {Q : Nat → Bool} {k m : Nat} (h1 : m < k) (h3 : Q m = true) (h4 : ∀ n, n < k → Q n = true → n ≠ m → abP e m n) (hq : Q k = true) (ha : abP e k m) : BQ e Q (k + 1) (nI k) := by
  refine Or.inr ⟨k, by omega, rfl, hq, fun n hn hQ hne => ?_⟩
  by_cases c : n = m
  · rw [c]; exact ha
  · exact ab_tr ha (h4 n (by omega) hQ c)
theorem BQ.keep {e : ET} {Q : Nat → Bool} {k m : Nat} (h1 : m < k) (h3 : Q m = true) (h4 : ∀ n, n < k → Q n = true → n ≠ m → abP e m n) (ha : ¬ abP e k m) : BQ e Q (k + 1) (nI m) := by
  refine Or.inr ⟨m, by omega, rfl, h3, fun n hn hQ hne => ?_⟩
  by_cases c : n = k
  · subst c
    rcases ab_tot (e := e) hne with w | w
    · exact absurd w ha
    · exact w
  · exact h4 n (by omega) hQ hne
theorem scan_ok {M : Mem} {e : ET} {ru h : Nat} {s : CS} {J : Nat → Bool} {x1 x3 x4 : Int32} {k : Int32 → Option Mem} (ok : Eok e) (hM : ME M e ru) (hh : h < 48) (h20 : ∀ n, n < e.2.1 → M 20 n = hv (s.2.1 n)) (hT : ∀ n, s.2.1 n = 99 ∨ s.2.1 n < 48) (hJ : ∀ i, i < 32 → bt x3 i = (decide (i < e.2.1) && J i)) : ∃ b, f_X11_come_22 M x1 (nI h) x3 x4 k FU (-1) 0 = k b ∧ BQ e (fun n => liB e s h n && !J n) e.2.1 b := by
  have n10 := ok.2.1
  refine lp0 (F := fun fu x a => f_X11_come_22 M x1 (nI h) x3 x4 k fu a x) (a := (-1 : Int32)) k e.2.1 (fun q a => BQ e (fun n => liB e s h n && !J n) q a) (Or.inl ⟨rfl, fun _ w => absurd w (Nat.not_lt_zero _)⟩) (fun fu q a hq hI => ?_) (fun fu a hI => ?_) (by omega)
  · show ∃ a', f_X11_come_22 M x1 (nI h) x3 x4 k (fu + 1) a (nI q) = f_X11_come_22 M x1 (nI h) x3 x4 k fu a' (nI (q + 1)) ∧ _
    rw [f_X11_come_22, hM.2.1, if_neg (show ¬ nI e.2.1 ≤ nI q from (by simp (disch := omega) only [fa_lt, fa_le, fa_eq, nI_toInt, Int32.reduceToInt, im1] <;> omega))]
    simp only [if_pos (iblt (show q < 10 by omega) (by decide)), nI_clamp (show q < 2 ^ 31 by omega), h20 q hq, mth ok hM hq hh, Option.bind_some, nI_1]
    by_cases cJ : J q = true
    · rw [if_neg (show ¬ (x3 >>> (nI q &&& 31)) &&& 1 = 0 by rw [tst0 (by omega), hJ q (by omega), decide_eq_true hq, cJ]; decide)]
      refine ⟨a, rfl, hI.no ?_⟩
      show (liB e s h q && !J q) = false
      rw [cJ]
      simp
    · rw [Bool.not_eq_true] at cJ
      rw [if_pos (show (x3 >>> (nI q &&& 31)) &&& 1 = 0 by rw [tst0 (by omega), hJ q (by omega), decide_eq_true hq, cJ]; rfl)]
      by_cases cT : s.2.1 q = 99
      · rw [if_pos ((hv_m1 (hT q)).mpr cT)]
        by_cases cB : thB e q h = true
        · have hQ : (liB e s h q && !J q) = true := by
            unfold liB
            rw [cB, cJ, decide_eq_true cT]
            rfl
          rw [if_pos cB, if_neg t10]
          rcases hI with ⟨h1, h2⟩ | ⟨m, h1, h2, h3, h4⟩
          · subst h1
            rw [mab0, Option.bind_some, if_neg t10]
            exact ⟨_, rfl, BQ.first h2 hQ⟩
          · subst h2
            rw [mab ok hM hq (by omega), Option.bind_some]
            by_cases cA : abP e q m
            · rw [if_pos cA, if_neg t10]
              exact ⟨_, rfl, BQ.more h1 h3 h4 hQ cA⟩
            · rw [if_neg cA, if_pos t00]
              exact ⟨_, rfl, BQ.keep h1 h3 h4 cA⟩
        · rw [if_neg cB, if_pos t00]
          refine ⟨a, rfl, hI.no ?_⟩
          show (liB e s h q && !J q) = false
          rw [Bool.not_eq_true] at cB
          unfold liB
          rw [cB]
          rfl
      · rw [if_neg (fun w => cT ((hv_m1 (hT q)).mp w))]
        refine ⟨a, rfl, hI.no ?_⟩
        show (liB e s h q && !J q) = false
        unfold liB
        rw [decide_eq_false cT]
        simp
  · show f_X11_come_22 M x1 (nI h) x3 x4 k (fu + 1) a (nI e.2.1) = _
    rw [f_X11_come_22, hM.2.1, if_pos (show nI e.2.1 ≤ nI e.2.1 from (by simp (disch := omega) only [fa_lt, fa_le, fa_eq, nI_toInt, Int32.reduceToInt, im1] <;> omega))]
theorem SP.inj {e : ET} {u : Nat → Nat} (H : SP e u) {i j : Nat} (hi : i < e.2.1) (hj : j < e.2.1) (h : u i = u j) : i = j := by
  rcases Nat.lt_trichotomy i j with c | c | c
  · have := H.2.2 i j c hj
    rw [h] at this
    exact absurd this (ab_irr e _)
  · exact c
  · have := H.2.2 j i c hi
    rw [h] at this
    exact absurd this (ab_irr e _)
theorem jsA_u {e : ET} {u : Nat → Nat} (H : SP e u) (L : Nat → Bool) (m : Nat) {j : Nat} (hj : j < e.2.1) : jsA u L m e.2.1 (u j) = (L (u j) && decide (fb_ct (fun i => L (u i)) j < m)) := by
  unfold jsA
  rw [Bool.eq_iff_iff, List.any_eq_true]
  constructor
  · rintro ⟨i, hi, q⟩
    rw [List.mem_range] at hi
    rw [Bool.and_eq_true, Bool.and_eq_true, decide_eq_true_eq] at q
    have := H.inj hi hj q.1.1
    subst this
    rw [Bool.and_eq_true]
    exact ⟨q.1.2, q.2⟩
  · intro q
    rw [Bool.and_eq_true] at q
    exact ⟨j, List.mem_range.mpr hj, by rw [Bool.and_eq_true, Bool.and_eq_true, decide_eq_true_eq]; exact ⟨⟨rfl, q.1⟩, q.2⟩⟩
theorem jsA_end {e : ET} {u : Nat → Nat} (H : SP e u) {L : Nat → Bool} {m m2 : Nat} (hm : m ≤ m2) (h : ∀ n, n < e.2.1 → (L n && !jsA u L m e.2.1 n) = false) {n : Nat} (hn : n < e.2.1) : jsA u L m2 e.2.1 n = jsA u L m e.2.1 n := by
  obtain ⟨j, hj, rfl⟩ := H.2.1 n hn
  have := h (u j) hn
  rw [jsA_u H L m hj] at this
  rw [jsA_u H L m hj, jsA_u H L m2 hj]
  by_cases c : L (u j) = true
  · rw [c] at this ⊢
    simp only [Bool.true_and] at this ⊢
    rw [Bool.not_eq_false', decide_eq_true_eq] at this
    rw [decide_eq_true this, decide_eq_true (show fb_ct (fun i => L (u i)) j < m2 by omega)]
  · rw [Bool.not_eq_true] at c
    rw [c]
    rfl
theorem jsA_next {e : ET} {u : Nat → Nat} (H : SP e u) {L : Nat → Bool} {m b : Nat} (hb : b < e.2.1) (hQ : (L b && !jsA u L m e.2.1 b) = true) (hm : ∀ n, n < e.2.1 → (L n && !jsA u L m e.2.1 n) = true → n ≠ b → abP e b n) {n : Nat} (hn : n < e.2.1) : jsA u L (m + 1) e.2.1 n = (jsA u L m e.2.1 n || decide (n = b)) := by
  obtain ⟨j, hj, rfl⟩ := H.2.1 n hn
  obtain ⟨i, hi, rfl⟩ := H.2.1 b hb
  rw [jsA_u H L m hi, Bool.and_eq_true] at hQ
  obtain ⟨q1, q2⟩ := hQ
  rw [q1, Bool.true_and, Bool.not_eq_true', decide_eq_false_iff_not] at q2
  have hct : fb_ct (fun i => L (u i)) i = m := by
    rcases Nat.lt_or_ge m (fb_ct (fun i => L (u i)) i) with c | c
    · obtain ⟨a, a1, a2, a3⟩ := fb_ct_kth c
      have := hm (u a) (H.1 a (by omega)) (by rw [jsA_u H L m (by omega), a3]; simp [a2]) (fun w => by have := H.inj (by omega) hi w; omega)
      exact absurd (H.2.2 a i a1 hi) (ab_as this)
    · omega
  rw [jsA_u H L m hj, jsA_u H L (m + 1) hj]
  by_cases c : L (u j) = true
  · rw [c]
    simp only [Bool.true_and]
    by_cases c2 : j = i
    · subst c2
      rw [decide_eq_true (show u j = u j from rfl), Bool.or_true, decide_eq_true (show fb_ct (fun i => L (u i)) j < m + 1 by omega)]
    · rw [decide_eq_false (show ¬ u j = u i from fun w => c2 (H.inj hj hi w)), Bool.or_false]
      refine decide_eq_decide.mpr ⟨fun w => ?_, fun w => by omega⟩
      rcases Nat.lt_or_ge (fb_ct (fun i => L (u i)) j) m with w2 | w2
      · exact w2
      · exact absurd (fb_ct_kth_one (p := fun i => L (u i)) c q1 (by omega)) c2
  · have hne : ¬ u j = u i := fun w => c (by rw [w]; exact q1)
    rw [Bool.not_eq_true] at c
    rw [c, decide_eq_false hne]
    rfl
