/-- the class's notes as it holds them -/
def XN (X : Mem) (e : ET) : Prop := X 1 4 = nI e.2.1 ∧ ∀ n, n < e.2.1 → X (30 + n) 1 = nI (e.2.2.1 6 n) ∧ X (30 + n) 4 = nI (hiS (e.2.2.1 5 n) (e.2.2.1 8 n)) ∧ X (30 + n) 5 = nI (laS (e.2.2.1 5 n) (e.2.2.1 8 n))
theorem XE.n {X : Mem} {e : ET} {ru : Nat} (h : XE X e ru) : XN X e := ⟨h.2.1, fun n hn => by
  obtain ⟨a0, a1, a2, a3, a4, a5, -⟩ := h.2.2.2.1 n hn
  exact ⟨a1, a4, a5⟩⟩
theorem XN.cg {X Y : Mem} {e : ET} (h : XN X e) (ok : Eok e) (hc : ∀ c, c = 1 ∨ (30 ≤ c ∧ c < 40) → Y c = X c) : XN Y e := ⟨by rw [hc 1 (by omega)]; exact h.1, fun n hn => by
  have := ok.2.1
  rw [hc (30 + n) (by omega)]
  exact h.2 n hn⟩
theorem hi_small {e : ET} {n : Nat} (ok : Eok e) (hn : n < e.2.1) : hiS (e.2.2.1 5 n) (e.2.2.1 8 n) < 100 ∧ laS (e.2.2.1 5 n) (e.2.2.1 8 n) < 100 := by
  have := ok.2.2.2 n hn
  unfold hiS laS
  constructor
  · split
    · omega
    · split
      · omega
      · split
        · omega
        · split <;> omega
  · split
    · omega
    · split
      · omega
      · split
        · omega
        · split
          · omega
          · split <;> omega
theorem xab {X : Mem} {e : ET} {a b : Nat} (ok : Eok e) (hX : XN X e) (ha : a < e.2.1) (hb : b < e.2.1) : f_X8_liesAbove X (nI a) (nI b) = some (if abP e a b then 1 else 0) := by
  have n10 := ok.2.1
  obtain ⟨a1, a2, -⟩ := hX.2 a ha
  obtain ⟨b1, b2, -⟩ := hX.2 b hb
  have oa := ok.2.2.2 a ha
  have ob := ok.2.2.2 b hb
  have sa := (hi_small ok ha).1
  have sb := (hi_small ok hb).1
  unfold f_X8_liesAbove
  rw [if_pos (iblt (show a < 10 by omega) (by decide)), if_pos (iblt (show b < 10 by omega) (by decide)), nI_clamp (by omega), nI_clamp (by omega), a1, a2, b1, b2]
  by_cases c1 : hiS (e.2.2.1 5 a) (e.2.2.1 8 a) = hiS (e.2.2.1 5 b) (e.2.2.1 8 b)
  · rw [if_pos (congrArg nI c1)]
    by_cases c2 : e.2.2.1 6 a = e.2.2.1 6 b
    · rw [if_pos (congrArg nI c2)]
      by_cases c3 : a ≤ b
      · rw [if_pos (show nI a ≤ nI b from (by simp (disch := omega) only [fa_lt, fa_le, fa_eq, nI_toInt, Int32.reduceToInt, im1] <;> omega)), if_neg (show ¬ abP e a b by unfold abP; omega)]
      · rw [if_neg (show ¬ nI a ≤ nI b from (by simp (disch := omega) only [fa_lt, fa_le, fa_eq, nI_toInt, Int32.reduceToInt, im1] <;> omega)), if_pos (show abP e a b by unfold abP; omega)]
    · rw [if_neg (show ¬ nI (e.2.2.1 6 a) = nI (e.2.2.1 6 b) from (by simp (disch := omega) only [fa_lt, fa_le, fa_eq, nI_toInt, Int32.reduceToInt, im1] <;> omega))]
      by_cases c3 : e.2.2.1 6 a ≤ e.2.2.1 6 b
      · rw [if_pos (show nI (e.2.2.1 6 a) ≤ nI (e.2.2.1 6 b) from (by simp (disch := omega) only [fa_lt, fa_le, fa_eq, nI_toInt, Int32.reduceToInt, im1] <;> omega)), if_neg (show ¬ abP e a b by unfold abP; omega)]
      · rw [if_neg (show ¬ nI (e.2.2.1 6 a) ≤ nI (e.2.2.1 6 b) from (by simp (disch := omega) only [fa_lt, fa_le, fa_eq, nI_toInt, Int32.reduceToInt, im1] <;> omega)), if_pos (show abP e a b by unfold abP; omega)]
  · rw [if_neg (show ¬ nI (hiS (e.2.2.1 5 a) (e.2.2.1 8 a)) = nI (hiS (e.2.2.1 5 b) (e.2.2.1 8 b)) from (by simp (disch := omega) only [fa_lt, fa_le, fa_eq, nI_toInt, Int32.reduceToInt, im1] <;> omega))]
    by_cases c3 : hiS (e.2.2.1 5 a) (e.2.2.1 8 a) ≤ hiS (e.2.2.1 5 b) (e.2.2.1 8 b)
    · rw [if_pos (show nI (hiS (e.2.2.1 5 a) (e.2.2.1 8 a)) ≤ nI (hiS (e.2.2.1 5 b) (e.2.2.1 8 b)) from (by simp (disch := omega) only [fa_lt, fa_le, fa_eq, nI_toInt, Int32.reduceToInt, im1] <;> omega)), if_neg (show ¬ abP e a b by unfold abP; omega)]
    · rw [if_neg (show ¬ nI (hiS (e.2.2.1 5 a) (e.2.2.1 8 a)) ≤ nI (hiS (e.2.2.1 5 b) (e.2.2.1 8 b)) from (by simp (disch := omega) only [fa_lt, fa_le, fa_eq, nI_toInt, Int32.reduceToInt, im1] <;> omega)), if_pos (show abP e a b by unfold abP; omega)]
def SPk (e : ET) (u : Nat → Nat) (i : Nat) : Prop := (∀ j, j < i → u j < i) ∧ (∀ n, n < i → ∃ j, j < i ∧ u j = n) ∧ (∀ a b, a < b → b < i → abP e (u a) (u b))
theorem sort_in {X : Mem} {e : ET} {u : Nat → Nat} {i : Nat} {k : Int32 → Mem → Option Mem} (ok : Eok e) (hX : XN X e) (hi : i < e.2.1) (hS : SPk e u i) : ∀ (p fu : Nat) (M : Mem), p ≤ i → p < fu → (∀ c, c ≠ 13 → M c = X c) → (∀ j, j < p → M 13 j = nI (u j)) → (∀ j, p ≤ j → j < i → M 13 (j + 1) = nI (u j) ∧ abP e i (u j)) → ∃ q M', f_X0_sortUppermost_15 (nI i) k fu (nI p) M = k (nI q) M' ∧ q ≤ i ∧ (∀ c, c ≠ 13 → M' c = X c) ∧ (∀ j, j < q → M' 13 j = nI (u j)) ∧ (∀ j, q ≤ j → j < i → M' 13 (j + 1) = nI (u j) ∧ abP e i (u j)) ∧ (0 < q → ¬ abP e i (u (q - 1))) := by
  have n10 := ok.2.1
  intro p
  induction p with
  | zero =>
    intro fu M hp hf hc h1 h2
    obtain ⟨g, rfl⟩ : ∃ g, fu = g + 1 := ⟨fu - 1, by omega⟩
    refine ⟨0, M, ?_, Nat.zero_le _, hc, h1, h2, fun h => absurd h (Nat.lt_irrefl _)⟩
    rw [f_X0_sortUppermost_15, if_pos (show nI 0 ≤ 0 by decide)]
  | succ p ih =>
    intro fu M hp hf hc h1 h2
    obtain ⟨g, rfl⟩ : ∃ g, fu = g + 1 := ⟨fu - 1, by omega⟩
    have hup : u p < i := hS.1 p (by omega)
    rw [f_X0_sortUppermost_15, if_neg (show ¬ nI (p + 1) ≤ 0 from (by simp (disch := omega) only [fa_lt, fa_le, fa_eq, nI_toInt, Int32.reduceToInt, im1] <;> omega)), nI_pred, if_pos (iblt (show p < 10 by omega) (by decide)), nI_clamp (show p < 2 ^ 31 by omega), h1 p (by omega), xab ok (hX.cg ok (fun c q => hc c (by omega))) hi (show u p < e.2.1 by omega)]
    simp only [Option.bind]
    by_cases c : abP e i (u p)
    · rw [if_pos c, if_neg t10, if_pos (iblt (show p < 10 by omega) (by decide)), if_pos (iblt (show p + 1 < 10 by omega) (by decide)), n_m1, nI_clamp (show p + 1 < 2 ^ 31 by omega)]
      refine ih g _ (by omega) (by omega) (fun c q => by rw [u2n q]; exact hc c q) (fun j hj => by rw [u2t (by omega)]; exact h1 j (by omega)) (fun j hj1 hj2 => ?_)
      by_cases cj : j = p
      · subst cj
        exact ⟨u2s, c⟩
      · rw [u2t (by omega)]
        exact h2 j (by omega) hj2
    · rw [if_neg c, if_pos t00]
      exact ⟨p + 1, M, rfl, hp, hc, h1, h2, fun _ => c⟩
theorem SPk.put {e : ET} {u : Nat → Nat} {i q : Nat} (hS : SPk e u i) (hq : q ≤ i) (hb : ∀ j, q ≤ j → j < i → abP e i (u j)) (ha : 0 < q → ¬ abP e i (u (q - 1))) : SPk e (fun j => if j < q then u j else if j = q then i else u (j - 1)) (i + 1) := by
  refine ⟨fun j hj => ?_, fun n hn => ?_, fun a b hab hb2 => ?_⟩
  · by_cases c : j < q
    · simp only [if_pos c]
      have := hS.1 j (by omega)
      omega
    · by_cases c2 : j = q
      · simp only [if_neg c, if_pos c2]
        omega
      · simp only [if_neg c, if_neg c2]
        have := hS.1 (j - 1) (by omega)
        omega
  · by_cases c : n = i
    · refine ⟨q, by omega, ?_⟩
      simp [c]
    · obtain ⟨j, hj, e1⟩ := hS.2.1 n (by omega)
      by_cases c2 : j < q
      · exact ⟨j, by omega, by simp only [if_pos c2]; exact e1⟩
      · refine ⟨j + 1, by omega, ?_⟩
        simp only [if_neg (show ¬ j + 1 < q by omega), if_neg (show ¬ j + 1 = q by omega), Nat.add_sub_cancel]
        exact e1
  · have above : ∀ j, j < q → abP e (u j) i := by
      intro j hj
      have hne : ∀ m, m < i → u m ≠ i := fun m hm => Nat.ne_of_lt (hS.1 m hm)
      have htop : abP e (u (q - 1)) i := by
        rcases ab_tot (e := e) (hne (q - 1) (by omega)) with h | h
        · exact h
        · exact absurd h (ha (by omega))
      by_cases c : j = q - 1
      · rw [c]
        exact htop
      · exact ab_tr (hS.2.2 j (q - 1) (by omega) (by omega)) htop
    by_cases ca : a < q
    · simp only [if_pos ca]
      by_cases cb : b < q
      · simp only [if_pos cb]
        exact hS.2.2 a b hab (by omega)
      · by_cases cb2 : b = q
        · simp only [if_neg cb, if_pos cb2]
          exact above a ca
        · simp only [if_neg cb, if_neg cb2]
          exact hS.2.2 a (b - 1) (by omega) (by omega)
    · by_cases ca2 : a = q
      · simp only [if_neg ca, if_pos ca2, if_neg (show ¬ b < q by omega), if_neg (show ¬ b = q by omega)]
        exact hb (b - 1) (by omega) (by omega)
      · simp only [if_neg ca, if_neg ca2, if_neg (show ¬ b < q by omega), if_neg (show ¬ b = q by omega)]
        exact hS.2.2 (a - 1) (b - 1) (by omega) (by omega)
theorem sort_out {X : Mem} {e : ET} (ok : Eok e) (hX : XN X e) : ∀ (r i fu : Nat) (M : Mem) (u : Nat → Nat), i + r = e.2.1 → r < fu → (∀ c, c ≠ 13 → M c = X c) → (∀ j, j < i → M 13 j = nI (u j)) → SPk e u i → ∃ M' u', f_X0_sortUppermost_2 fu (nI i) M = some M' ∧ (∀ c, c ≠ 13 → M' c = X c) ∧ (∀ j, j < e.2.1 → M' 13 j = nI (u' j)) ∧ SP e u' := by
  have n10 := ok.2.1
  intro r
  induction r with
  | zero =>
    intro i fu M u hi hf hc h1 hS
    obtain ⟨g, rfl⟩ : ∃ g, fu = g + 1 := ⟨fu - 1, by omega⟩
    have : i = e.2.1 := by omega
    subst this
    refine ⟨M, u, ?_, hc, h1, hS⟩
    rw [f_X0_sortUppermost_2, hc 1 (by decide), hX.1, if_pos (show nI e.2.1 ≤ nI e.2.1 from (by simp (disch := omega) only [fa_lt, fa_le, fa_eq, nI_toInt, Int32.reduceToInt, im1] <;> omega))]
  | succ r ih =>
    intro i fu M u hi hf hc h1 hS
    obtain ⟨g, rfl⟩ : ∃ g, fu = g + 1 := ⟨fu - 1, by omega⟩
    rw [f_X0_sortUppermost_2, hc 1 (by decide), hX.1, if_neg (show ¬ nI e.2.1 ≤ nI i from (by simp (disch := omega) only [fa_lt, fa_le, fa_eq, nI_toInt, Int32.reduceToInt, im1] <;> omega))]
    obtain ⟨q, N, e1, q1, q2, q3, q4, q5⟩ := sort_in (k := fun x2_17 M_18 => (if ibd (x2_17) 10 then (f_X0_sortUppermost_2 g ((nI i + 1)) (upd2 M_18 13 (Int32.toNatClampNeg (x2_17)) (nI i))) else none)) ok hX (show i < e.2.1 by omega) hS i FU M (Nat.le_refl _) (by rw [FU_eq]; omega) hc h1 (fun j a b => absurd a (by omega))
    rw [e1, if_pos (iblt (show q < 10 by omega) (by decide)), nI_1, nI_clamp (show q < 2 ^ 31 by omega)]
    refine ih (i + 1) g _ _ (by omega) (by omega) (fun c hc => by rw [u2n hc]; exact q2 c hc) (fun j hj => ?_) (hS.put q1 (fun j a b => (q4 j a b).2) q5)
    by_cases c : j < q
    · simp only [if_pos c]
      rw [u2t (by omega)]
      exact q3 j c
    · by_cases c2 : j = q
      · simp only [if_neg c, if_pos c2]
        rw [c2, u2s]
      · simp only [if_neg c, if_neg c2]
        rw [u2t c2]
        have := (q4 (j - 1) (by omega) (by omega)).1
        rw [show j - 1 + 1 = j by omega] at this
        exact this
theorem sort_ok {X : Mem} {e : ET} (ok : Eok e) (hX : XN X e) : ∃ M' u', f_X0_sortUppermost X = some M' ∧ (∀ c, c ≠ 13 → M' c = X c) ∧ (∀ j, j < e.2.1 → M' 13 j = nI (u' j)) ∧ SP e u' := by
  unfold f_X0_sortUppermost
  exact sort_out ok hX e.2.1 0 FU X (fun j => j) (by omega) (by rw [FU_eq]; have := ok.2.1; omega) (fun _ _ => rfl) (fun _ h => absurd h (Nat.not_lt_zero _)) ⟨fun _ h => absurd h (Nat.not_lt_zero _), fun _ h => absurd h (Nat.not_lt_zero _), fun _ _ _ h => absurd h (Nat.not_lt_zero _)⟩
