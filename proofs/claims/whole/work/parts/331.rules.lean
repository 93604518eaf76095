/-! a rule's steps, run by the class and by the model -/
def SK (f : Nat → Int32) (s : List Int32) : Prop := ∀ k, k < s.length → f (s.length - 1 - k) = s.getD k 0
theorem SK.push {f : Nat → Int32} {s : List Int32} {v : Int32} (h : SK f s) : SK (upd f s.length v) (v :: s) := by
  intro k hk
  rw [List.length_cons] at hk ⊢
  cases k with
  | zero =>
    rw [show s.length + 1 - 1 - 0 = s.length by omega]
    simp [upd]
  | succ k =>
    have := h k (by omega)
    rw [show s.length + 1 - 1 - (k + 1) = s.length - 1 - k by omega]
    simp only [upd]
    rw [if_neg (by omega), this]
    simp
theorem SK.top {f : Nat → Int32} {b : Int32} {s : List Int32} (h : SK f (b :: s)) : f s.length = b := by
  have := h 0 (by simp)
  simpa using this
theorem SK.tail {f : Nat → Int32} {b : Int32} {s : List Int32} (h : SK f (b :: s)) : SK f s := by
  intro k hk
  have := h (k + 1) (by simp; omega)
  rw [List.length_cons, show s.length + 1 - 1 - (k + 1) = s.length - 1 - k by omega] at this
  rw [this]
  simp
theorem SK.out {f : Nat → Int32} {s : List Int32} {k : Nat} {v : Int32} (h : SK f s) (hk : s.length ≤ k) : SK (upd f k v) s := by
  intro q hq
  simp only [upd]
  rw [if_neg (by omega)]
  exact h q hq
theorem l10k : (10000 : Int32) = nI 10000 := by decide
theorem n_m1 (n : Nat) : nI (n + 1) + -1 = nI n := by
  rw [← Int32.sub_eq_add_neg]
  exact nI_pred n
theorem Seg.tl {f : Nat → Int32} {a : Nat} {x : Int32} {xs : List Int32} (h : Seg f a (x :: xs)) : Seg f (a + 1) xs := by
  intro i hi
  have := h (i + 1) (by simp; omega)
  rw [show a + 1 + i = a + (i + 1) by omega, this]
  simp
theorem Seg.hd {f : Nat → Int32} {a : Nat} {x : Int32} {xs : List Int32} (h : Seg f a (x :: xs)) : f a = x := by
  have := h 0 (by simp)
  simpa using this
/-- what a number or a name stands for: both indices lie inside -/
theorem mt_num {M : Mem} {n : Nat} (hn : n < 10000) : f_X5_meant M (nI n) = some (nI n) := by
  have h : nI n - 10000 < 0 := by
    rw [fa_lt, l10k, Int32.toInt_sub, nI_toInt (show n < 2 ^ 31 by omega), nI_toInt (show 10000 < 2 ^ 31 by decide), fb_bmod (by omega) (by omega), show (0 : Int32).toInt = 0 from by decide]
    omega
  unfold f_X5_meant
  rw [if_pos h]
theorem mt_name {M : Mem} {q : Nat} (hq : q < 6) : f_X5_meant M (nI (10000 + q)) = some (M 17 q) := by
  have hs10 : nI (10000 + q) - 10000 = nI q := by
    rw [l10k, pk_sub (by omega), show 10000 + q - 10000 = q by omega]
  unfold f_X5_meant
  rw [hs10, if_neg (show ¬ nI q < 0 from (by simp (disch := omega) only [fa_lt, fa_le, fa_eq, nI_toInt, Int32.reduceToInt, im1] <;> omega)), if_neg (show ¬ 6 ≤ nI q from (by simp (disch := omega) only [fa_lt, fa_le, fa_eq, nI_toInt, Int32.reduceToInt, im1] <;> omega)), if_pos (iblt hq (by decide)), nI_clamp (show q < 2 ^ 31 by omega)]
theorem val_ok {i0 j : Nat} (hi0 : i0 < 6) (hj : j < 3) {fa : Nat → Int32} : ∀ (xs s : List Int32) (i fu : Nat) (M : Mem), Seg (M (46 + i0)) i xs → M (52 + i0) j = nI (i + xs.length) → i + xs.length ≤ 320 → s.length + xs.length ≤ 320 → SK (M 18) s → (∀ x ∈ xs, okX x) → (∀ q, q < 6 → M 17 q = fa q) → xs.length < fu → ∃ M', f_X5_value_21 i0 (nI j) fu (nI s.length) (nI i) M = some ((rnX fa xs s).headD 0, M') ∧ ∀ c, c ≠ 18 → M' c = M c := by
  intro xs
  induction xs with
  | nil =>
    intro s i fu M _ he hi hs hK _ _ hf
    obtain ⟨g, rfl⟩ : ∃ g, fu = g + 1 := ⟨fu - 1, by omega⟩
    simp only [List.length_nil, Nat.add_zero] at he hi hs
    rw [f_X5_value_21, if_pos (iblt hj (by decide)), nI_clamp (by omega), he, if_pos (show nI i ≤ nI i from (by simp (disch := omega) only [fa_lt, fa_le, fa_eq, nI_toInt, Int32.reduceToInt, im1] <;> omega))]
    cases s with
    | nil =>
      refine ⟨M, ?_, fun _ _ => rfl⟩
      rw [if_pos (show nI ([] : List Int32).length ≤ 0 by decide)]
      rfl
    | cons b s =>
      refine ⟨M, ?_, fun _ _ => rfl⟩
      rw [List.length_cons] at hs ⊢
      rw [if_neg (show ¬ nI (s.length + 1) ≤ 0 from (by simp (disch := omega) only [fa_lt, fa_le, fa_eq, nI_toInt, Int32.reduceToInt, im1] <;> omega)), nI_pred, if_pos (iblt (show s.length < 320 by omega) (by decide)), nI_clamp (by omega), hK.top]
      rfl
  | cons x xs ih =>
    intro s i fu M hg he hi hs hK hx hfa hf
    obtain ⟨g, rfl⟩ : ∃ g, fu = g + 1 := ⟨fu - 1, by omega⟩
    rw [List.length_cons] at he hi hs hf
    have hx0 : M (46 + i0) i = x := hg.hd
    have step : ∀ (s2 : List Int32) (M2 : Mem), s2 = stX fa s x → s2.length + xs.length ≤ 320 → SK (M2 18) s2 → (∀ c, c ≠ 18 → M2 c = M c) → ∃ M', f_X5_value_21 i0 (nI j) g (nI s2.length) (nI (i + 1)) M2 = some ((rnX fa (x :: xs) s).headD 0, M') ∧ ∀ c, c ≠ 18 → M' c = M c := by
      intro s2 M2 e2 h2 k2 f2
      obtain ⟨M', h1, h3⟩ := ih s2 (i + 1) g M2 (by rw [f2 _ (by omega)]; exact hg.tl) (by rw [f2 _ (by omega), he]; congr 1; omega) (by omega) h2 k2 (fun y hy => hx y (List.mem_cons_of_mem _ hy)) (fun q hq => by rw [f2 17 (by decide)]; exact hfa q hq) (by omega)
      refine ⟨M', ?_, fun c hc => (h3 c hc).trans (f2 c hc)⟩
      rw [h1, e2]
      rfl
    rw [f_X5_value_21, if_pos (iblt hj (by decide)), nI_clamp (show j < 2 ^ 31 by omega), he, if_neg (show ¬ nI (i + (xs.length + 1)) ≤ nI i from (by simp (disch := omega) only [fa_lt, fa_le, fa_eq, nI_toInt, Int32.reduceToInt, im1] <;> omega)), if_pos (iblt (show i < 320 by omega) (by decide)), nI_clamp (show i < 2 ^ 31 by omega), hx0]
    rcases hx x List.mem_cons_self with ⟨n, hn, e⟩ | ⟨q, hq, e⟩ | h2
    · rw [if_neg (show ¬ 20000 ≤ x by rw [e]; exact (by simp (disch := omega) only [fa_lt, fa_le, fa_eq, nI_toInt, Int32.reduceToInt, im1] <;> omega)), if_neg (show ¬ 320 ≤ nI s.length from (by simp (disch := omega) only [fa_lt, fa_le, fa_eq, nI_toInt, Int32.reduceToInt, im1] <;> omega)), show f_X5_meant M x = some x by rw [e]; exact mt_num hn]
      simp only [Option.bind]
      rw [if_pos (iblt (show s.length < 320 by omega) (by decide)), nI_clamp (show s.length < 2 ^ 31 by omega), nI_1, nI_1]
      refine step (x :: s) _ ?_ (by rw [List.length_cons]; omega) (by rw [upd2_self]; exact hK.push) (fun c hc => u2n hc)
      unfold stX
      rw [if_pos (show x < 20000 by rw [e]; exact (by simp (disch := omega) only [fa_lt, fa_le, fa_eq, nI_toInt, Int32.reduceToInt, im1] <;> omega)), if_pos (show x < 10000 by rw [e]; exact (by simp (disch := omega) only [fa_lt, fa_le, fa_eq, nI_toInt, Int32.reduceToInt, im1] <;> omega))]
    · have hs10 : x - 10000 = nI q := by
        rw [e, l10k, pk_sub (by omega), show 10000 + q - 10000 = q by omega]
      rw [if_neg (show ¬ 20000 ≤ x by rw [e]; exact (by simp (disch := omega) only [fa_lt, fa_le, fa_eq, nI_toInt, Int32.reduceToInt, im1] <;> omega)), if_neg (show ¬ 320 ≤ nI s.length from (by simp (disch := omega) only [fa_lt, fa_le, fa_eq, nI_toInt, Int32.reduceToInt, im1] <;> omega)), show f_X5_meant M x = some (fa q) by rw [e, mt_name hq, hfa q hq]]
      simp only [Option.bind]
      rw [if_pos (iblt (show s.length < 320 by omega) (by decide)), nI_clamp (show s.length < 2 ^ 31 by omega), nI_1, nI_1]
      refine step (fa q :: s) _ ?_ (by rw [List.length_cons]; omega) (by rw [upd2_self]; exact hK.push) (fun c hc => u2n hc)
      unfold stX
      rw [if_pos (show x < 20000 by rw [e]; exact (by simp (disch := omega) only [fa_lt, fa_le, fa_eq, nI_toInt, Int32.reduceToInt, im1] <;> omega)), if_neg (show ¬ x < 10000 by rw [e]; exact (by simp (disch := omega) only [fa_lt, fa_le, fa_eq, nI_toInt, Int32.reduceToInt, im1] <;> omega)), hs10, nI_clamp (show q < 2 ^ 31 by omega)]
    · have hx2 : ¬ x < 20000 := by
        rw [fa_le] at h2
        rw [fa_lt]
        omega
      rw [if_pos h2]
      match s, hs, hK, step with
      | [], hs, hK, step =>
        rw [if_pos (show nI ([] : List Int32).length < 2 by decide), nI_1]
        exact step [] M (by unfold stX; rw [if_neg hx2]) (by simp at hs ⊢; omega) hK (fun _ _ => rfl)
      | [b], hs, hK, step =>
        rw [if_pos (show nI ([b] : List Int32).length < 2 by simp [List.length]; decide), nI_1]
        exact step [b] M (by unfold stX; rw [if_neg hx2]) (by simp at hs ⊢; omega) hK (fun _ _ => rfl)
      | b :: a :: r, hs, hK, step =>
        simp only [List.length_cons] at hs ⊢
        rw [if_neg (show ¬ nI (r.length + 1 + 1) < 2 from (by simp (disch := omega) only [fa_lt, fa_le, fa_eq, nI_toInt, Int32.reduceToInt, im1] <;> omega)), n_m1, nI_pred, if_pos (iblt (show r.length < 320 by omega) (by decide)), if_pos (iblt (show r.length + 1 < 320 by omega) (by decide)), if_pos (iblt (show r.length < 320 by omega) (by decide)), nI_clamp (show r.length < 2 ^ 31 by omega), nI_clamp (show r.length + 1 < 2 ^ 31 by omega), nI_1]
        have hb : M 18 (r.length + 1) = b := hK.top
        have ha : M 18 r.length = a := hK.tail.top
        rw [hb, ha]
        have := step (f_X5_joined x a b :: r) (upd2 M 18 r.length (f_X5_joined x a b)) (by unfold stX; rw [if_neg hx2]) (by rw [List.length_cons]; omega) (by rw [upd2_self]; exact hK.tail.tail.push) (fun c hc => u2n hc)
        rw [List.length_cons] at this
        exact this
theorem says_ok {X : Mem} {e : ET} {ru j : Nat} {a b t : Int32} (hX : XE X e ru) (hj : j < 3) : ∃ Y, f_X0_says X (nI j) a b t = some (e.2.2.2 j (fc a b (X 17 2) (X 17 3) (X 17 4) t), Y) ∧ (∀ c, c ≠ 17 → c ≠ 18 → Y c = X c) ∧ Y 17 2 = X 17 2 ∧ Y 17 3 = X 17 3 ∧ Y 17 4 = X 17 4 := by
  obtain ⟨-, -, -, -, h6, hr, xa, xs, x0, x3, hs⟩ := hX
  obtain ⟨s1, s2, s3, s4, s5⟩ := hs j hj
  have hle : xa (j + 1) ≤ 320 := by
    have h0 : xa 1 = xa 0 + (xs 0).length := (hs 0 (by decide)).1
    have h1 : xa 2 = xa 1 + (xs 1).length := (hs 1 (by decide)).1
    have h2 : xa 3 = xa 2 + (xs 2).length := (hs 2 (by decide)).1
    match j, hj with
    | 0, _ => show xa 1 ≤ 320; omega
    | 1, _ => show xa 2 ≤ 320; omega
    | 2, _ => exact x3
    | j + 3, h => exact absurd h (by omega)
  unfold f_X0_says
  simp only [u2n (show (1 : Nat) ≠ 17 by decide), h6, if_pos (iblt hr (by decide)), nI_clamp (show ru < 2 ^ 31 by omega)]
  generalize hY : upd2 (upd2 (upd2 X 17 0 a) 17 1 b) 17 5 t = Y
  have Yc : ∀ c, c ≠ 17 → Y c = X c := fun c hc => by
    rw [← hY, u2n hc, u2n hc, u2n hc]
  have Y17 : ∀ q, q < 6 → Y 17 q = fc a b (X 17 2) (X 17 3) (X 17 4) t q := fun q hq => by
    rw [← hY]
    match q, hq with
    | 0, _ => rfl
    | 1, _ => rfl
    | 2, _ => rfl
    | 3, _ => rfl
    | 4, _ => rfl
    | 5, _ => rfl
    | q + 6, h => exact absurd h (by omega)
  obtain ⟨Z, z1, z2⟩ := val_ok hr hj (fa := fc a b (X 17 2) (X 17 3) (X 17 4) t) (xs j) [] (xa j) FU Y (by rw [Yc _ (by omega)]; exact s3) (by rw [Yc _ (by omega), s2, s1]) (by omega) (by simp; omega) (fun k hk => absurd hk (Nat.not_lt_zero _)) s4 Y17 (by rw [FU_eq]; omega)
  have hv : f_X5_value Y ru (nI j) = some (e.2.2.2 j (fc a b (X 17 2) (X 17 3) (X 17 4) t), Z) := by
    unfold f_X5_value
    rw [s5] at z1
    by_cases c : j = 0
    · subst c
      rw [x0] at z1
      rw [if_pos (show nI 0 = 0 from rfl)]
      exact z1
    · obtain ⟨q, rfl⟩ : ∃ q, j = q + 1 := ⟨j - 1, by omega⟩
      have := (hs q (by omega)).2.1
      rw [if_neg (show ¬ nI (q + 1) = 0 from (by simp (disch := omega) only [fa_lt, fa_le, fa_eq, nI_toInt, Int32.reduceToInt, im1] <;> omega)), nI_pred, if_pos (iblt (show q < 3 by omega) (by decide)), nI_clamp (by omega), Yc _ (by omega), this]
      exact z1
  rw [hv]
  refine ⟨Z, rfl, fun c h1 h2 => (z2 c h2).trans (Yc c h1), ?_, ?_, ?_⟩
  · rw [z2 17 (by decide), Y17 2 (by decide)]
    rfl
  · rw [z2 17 (by decide), Y17 3 (by decide)]
    rfl
  · rw [z2 17 (by decide), Y17 4 (by decide)]
    rfl
/-- the model's operation on two -/
theorem worth_op {a1 a2 a3 a4 a5 a6 ed : Int32} {fu L i ru : Nat} {M : Mem} {c : Int32} (hL : L + 1 < 170) (hi : i < 170) (hr : ru < 6) (h16 : M 0 16 = nI ru) (hend : ¬ ed ≤ nI i) (hc : M 12 (170 * ru + i) = c) (hcs : c = -11 ∨ c = -12 ∨ c = -14 ∨ c = -15 ∨ c = -16 ∨ c = -17 ∨ c = -18) : f_X11_worth_35 a1 a2 a3 a4 a5 a6 ed (fu + 1) (nI (L + 2)) (nI i) M = f_X11_worth_35 a1 a2 a3 a4 a5 a6 ed fu (nI (L + 1)) (nI (i + 1)) (upd2 M 14 L (opM c (M 14 L) (M 14 (L + 1)))) := by
  have e2 : nI (L + 2) - 2 = nI L := pk_sub (b := 2) (by omega)
  have e1 : nI (L + 2) - 1 = nI (L + 1) := nI_pred (L + 1)
  have e3 : nI (L + 2) + -1 = nI (L + 1) := n_m1 (L + 1)
  have e4 : nI (L + 1) - 1 = nI L := nI_pred L
  have e5 : (170 : Int32) * nI ru + nI i = nI (170 * ru + i) := by rw [show (170 : Int32) * nI ru = nI (170 * ru) from pk_mul 170 ru, nI_add]
  rw [f_X11_worth_35, if_neg hend, h16, e5, if_pos (iblt (show 170 * ru + i < 1020 by omega) (by decide)), nI_clamp (show 170 * ru + i < 2 ^ 31 by omega), hc, e1, e2, e3, e4]
  simp only [if_pos (iblt (show L + 1 < 170 by omega) (by decide)), if_pos (iblt (show L < 170 by omega) (by decide)), nI_clamp (show L + 1 < 2 ^ 31 by omega), nI_clamp (show L < 2 ^ 31 by omega), nI_1]
  unfold opM
  rcases hcs with h | h | h | h | h | h | h <;> subst h <;> simp (decide := true) only [if_true, if_false]
  · split
    · split <;> rfl
    · rfl
  · split
    · rfl
    · split <;> rfl
  · split <;> rfl
  · split <;> rfl
theorem worth_un {a1 a2 a3 a4 a5 a6 ed : Int32} {fu L i ru : Nat} {M : Mem} {c : Int32} (hL : L < 170) (hi : i < 170) (hr : ru < 6) (h16 : M 0 16 = nI ru) (hend : ¬ ed ≤ nI i) (hc : M 12 (170 * ru + i) = c) (hcs : c = -13 ∨ c = -19) : f_X11_worth_35 a1 a2 a3 a4 a5 a6 ed (fu + 1) (nI (L + 1)) (nI i) M = f_X11_worth_35 a1 a2 a3 a4 a5 a6 ed fu (nI (L + 1)) (nI (i + 1)) (upd2 M 14 L (if c = -13 then (if M 14 L = 0 then 1 else 0) else -(M 14 L))) := by
  have e4 : nI (L + 1) - 1 = nI L := nI_pred L
  have e5 : (170 : Int32) * nI ru + nI i = nI (170 * ru + i) := by rw [show (170 : Int32) * nI ru = nI (170 * ru) from pk_mul 170 ru, nI_add]
  rw [f_X11_worth_35, if_neg hend, h16, e5, if_pos (iblt (show 170 * ru + i < 1020 by omega) (by decide)), nI_clamp (show 170 * ru + i < 2 ^ 31 by omega), hc, e4]
  simp only [if_pos (iblt (show L < 170 by omega) (by decide)), nI_clamp (show L < 2 ^ 31 by omega), nI_1]
  rcases hcs with h | h <;> subst h <;> simp (decide := true) only [if_true, if_false]
  · split <;> rfl
theorem worth_push {a1 a2 a3 a4 a5 a6 ed : Int32} {fu L i ru : Nat} {M : Mem} {c : Int32} (hL : L < 170) (hi : i < 170) (hr : ru < 6) (h16 : M 0 16 = nI ru) (hend : ¬ ed ≤ nI i) (hc : M 12 (170 * ru + i) = c) (hcs : (∃ n, n < 10000 ∧ c = nI n) ∨ ∃ j, j < 6 ∧ c = -nI (1 + j)) : f_X11_worth_35 a1 a2 a3 a4 a5 a6 ed (fu + 1) (nI L) (nI i) M = f_X11_worth_35 a1 a2 a3 a4 a5 a6 ed fu (nI (L + 1)) (nI (i + 1)) (upd2 M 14 L (if 0 ≤ c then c else fc a1 a2 a3 a4 a5 a6 (-1 - c).toNatClampNeg)) := by
  have e5 : (170 : Int32) * nI ru + nI i = nI (170 * ru + i) := by rw [show (170 : Int32) * nI ru = nI (170 * ru) from pk_mul 170 ru, nI_add]
  rw [f_X11_worth_35, if_neg hend, h16, e5, if_pos (iblt (show 170 * ru + i < 1020 by omega) (by decide)), nI_clamp (show 170 * ru + i < 2 ^ 31 by omega), hc]
  simp only [if_pos (iblt (show L < 170 by omega) (by decide)), nI_clamp (show L < 2 ^ 31 by omega), nI_1]
  rcases hcs with ⟨n, hn, h⟩ | ⟨j, hj, h⟩
  · rw [if_neg (show ¬ c < 0 by rw [h]; exact (by simp (disch := omega) only [fa_lt, fa_le, fa_eq, nI_toInt, Int32.reduceToInt, im1] <;> omega)), if_pos (show 0 ≤ c by rw [h]; exact (by simp (disch := omega) only [fa_lt, fa_le, fa_eq, nI_toInt, Int32.reduceToInt, im1] <;> omega))]
  · match j, hj with
    | 0, _ =>
      have : c = -1 := h
      subst this
      simp (decide := true) only [if_true, if_false]
      rfl
    | 1, _ =>
      have : c = -2 := h
      subst this
      simp (decide := true) only [if_true, if_false]
      rfl
    | 2, _ =>
      have : c = -3 := h
      subst this
      simp (decide := true) only [if_true, if_false]
      rfl
    | 3, _ =>
      have : c = -4 := h
      subst this
      simp (decide := true) only [if_true, if_false]
      rfl
    | 4, _ =>
      have : c = -5 := h
      subst this
      simp (decide := true) only [if_true, if_false]
      rfl
    | 5, _ =>
      have : c = -6 := h
      subst this
      simp (decide := true) only [if_true, if_false]
      rfl
    | j + 6, h => exact absurd h (by omega)
theorem okM_neg {c : Int32} (h : okM c) (h0 : ¬ 0 ≤ c) : (∃ j, j < 6 ∧ c = -nI (1 + j)) ∨ ∃ j, j < 9 ∧ c = -nI (11 + j) := by
  rcases h with ⟨n, hn, h⟩ | h | h
  · exact absurd (by rw [h]; exact (by simp (disch := omega) only [fa_lt, fa_le, fa_eq, nI_toInt, Int32.reduceToInt, im1] <;> omega)) h0
  · exact Or.inl h
  · exact Or.inr h
theorem worth_run {a1 a2 a3 a4 a5 a6 v : Int32} {ru N : Nat} (hr : ru < 6) (hN : N ≤ 160) : ∀ (cs s : List Int32) (i fu : Nat) (M : Mem), M 0 16 = nI ru → Seg (M 12) (170 * ru + i) cs → i + cs.length = N → s.length ≤ i → SK (M 14) s → (∀ x ∈ cs, okM x) → rnM (fc a1 a2 a3 a4 a5 a6) cs s = some [v] → cs.length < fu → ∃ M', f_X11_worth_35 a1 a2 a3 a4 a5 a6 (nI N) fu (nI s.length) (nI i) M = some (v, M') ∧ ∀ c, c ≠ 14 → M' c = M c := by
  intro cs
  induction cs with
  | nil =>
    intro s i fu M h16 hg he hs hK _ hrn hf
    obtain ⟨g, rfl⟩ : ∃ g, fu = g + 1 := ⟨fu - 1, by omega⟩
    simp only [List.length_nil, Nat.add_zero] at he
    have : s = [v] := by simpa [rnM] using hrn
    subst this
    rw [f_X11_worth_35, if_pos (show nI N ≤ nI i from (by simp (disch := omega) only [fa_lt, fa_le, fa_eq, nI_toInt, Int32.reduceToInt, im1] <;> omega))]
    refine ⟨M, ?_, fun _ _ => rfl⟩
    have := hK.top
    simp only [List.length_nil] at this
    rw [this]
  | cons c cs ih =>
    intro s i fu M h16 hg he hs hK hx hrn hf
    obtain ⟨g, rfl⟩ : ∃ g, fu = g + 1 := ⟨fu - 1, by omega⟩
    rw [List.length_cons] at he hf
    have hc : M 12 (170 * ru + i) = c := hg.hd
    have hend : ¬ nI N ≤ nI i := (by simp (disch := omega) only [fa_lt, fa_le, fa_eq, nI_toInt, Int32.reduceToInt, im1] <;> omega)
    obtain ⟨s2, e1, e2⟩ := Option.bind_eq_some_iff.mp (show ((stM (fc a1 a2 a3 a4 a5 a6) c s).bind fun s2 => rnM (fc a1 a2 a3 a4 a5 a6) cs s2) = some [v] from hrn)
    have step : ∀ (M2 : Mem), s2.length ≤ i + 1 → SK (M2 14) s2 → (∀ c, c ≠ 14 → M2 c = M c) → ∃ M', f_X11_worth_35 a1 a2 a3 a4 a5 a6 (nI N) g (nI s2.length) (nI (i + 1)) M2 = some (v, M') ∧ ∀ c, c ≠ 14 → M' c = M c := by
      intro M2 h2 k2 f2
      obtain ⟨M', h1, h3⟩ := ih s2 (i + 1) g M2 (by rw [f2 0 (by decide)]; exact h16) (by rw [f2 12 (by decide)]; exact hg.tl) (by omega) h2 k2 (fun y hy => hx y (List.mem_cons_of_mem _ hy)) e2 (by omega)
      exact ⟨M', h1, fun c hc => (h3 c hc).trans (f2 c hc)⟩
    have ok := hx c List.mem_cons_self
    unfold stM at e1
    by_cases h0 : 0 ≤ c
    · rw [if_pos h0] at e1
      cases e1
      have hn : ∃ n, n < 10000 ∧ c = nI n := by
        rcases ok with h | ⟨j, hj, h⟩ | ⟨j, hj, h⟩
        · exact h
        · have := h0
          rw [h, fa_le, fb_negI (by rw [nI_toInt (by omega)]; omega), nI_toInt (by omega)] at this
          simp only [Int32.reduceToInt] at this
          omega
        · have := h0
          rw [h, fa_le, fb_negI (by rw [nI_toInt (by omega)]; omega), nI_toInt (by omega)] at this
          simp only [Int32.reduceToInt] at this
          omega
      rw [worth_push (by omega) (by omega) hr h16 hend hc (Or.inl hn), if_pos h0]
      exact step _ (by rw [List.length_cons]; omega) (by rw [upd2_self]; exact hK.push) (fun c hc => u2n hc)
    · rw [if_neg h0] at e1
      rcases okM_neg ok h0 with ⟨j, hj, h⟩ | ⟨j, hj, h⟩
      · have h7 : -7 < c := by
          rw [h]
          revert hj
          revert j
          intro j _ hj
          match j, hj with
          | 0, _ => decide
          | 1, _ => decide
          | 2, _ => decide
          | 3, _ => decide
          | 4, _ => decide
          | 5, _ => decide
          | j + 6, h => exact absurd h (by omega)
        rw [if_pos h7] at e1
        cases e1
        rw [worth_push (by omega) (by omega) hr h16 hend hc (Or.inr ⟨j, hj, h⟩), if_neg h0]
        exact step _ (by rw [List.length_cons]; omega) (by rw [upd2_self]; exact hK.push) (fun c hc => u2n hc)
      · have h7 : ¬ -7 < c ∧ (c = -13 ∨ c = -19 ∨ c = -11 ∨ c = -12 ∨ c = -14 ∨ c = -15 ∨ c = -16 ∨ c = -17 ∨ c = -18) := by
          rw [h]
          clear h hc
          match j, hj with
          | 0, _ => decide
          | 1, _ => decide
          | 2, _ => decide
          | 3, _ => decide
          | 4, _ => decide
          | 5, _ => decide
          | 6, _ => decide
          | 7, _ => decide
          | 8, _ => decide
          | j + 9, h => exact absurd h (by omega)
        rw [if_neg h7.1] at e1
        match s, e1, hs, hK with
        | [], e1, _, _ => cases e1
        | b :: r, e1, hs, hK =>
          rw [List.length_cons] at hs
          have ht : M 14 r.length = b := hK.top
          by_cases c13 : c = -13
          · simp only [if_pos c13] at e1
            cases e1
            rw [List.length_cons, worth_un (by omega) (by omega) hr h16 hend hc (Or.inl c13), if_pos c13, ht]
            exact step _ (by rw [List.length_cons]; omega) (by rw [upd2_self]; exact hK.tail.push) (fun c hc => u2n hc)
          · by_cases c19 : c = -19
            · simp only [if_neg c13, if_pos c19] at e1
              cases e1
              rw [List.length_cons, worth_un (by omega) (by omega) hr h16 hend hc (Or.inr c19), if_neg c13, ht]
              exact step _ (by rw [List.length_cons]; omega) (by rw [upd2_self]; exact hK.tail.push) (fun c hc => u2n hc)
            · simp only [if_neg c13, if_neg c19] at e1
              match r, e1, hs, hK, ht with
              | [], e1, _, _, _ => cases e1
              | a :: q, e1, hs, hK, ht =>
                cases e1
                rw [List.length_cons] at hs ht
                have hta : M 14 q.length = a := hK.tail.top
                have h9 := h7.2
                rw [List.length_cons, List.length_cons, worth_op (by omega) (by omega) hr h16 hend hc (by
                  rcases h9 with h | h | h
                  · exact absurd h c13
                  · exact absurd h c19
                  · exact h), hta, ht]
                exact step _ (by rw [List.length_cons]; omega) (by rw [upd2_self]; exact hK.tail.tail.push) (fun c hc => u2n hc)
theorem worth_ok {M : Mem} {e : ET} {ru j : Nat} {a b h w t g : Int32} (hM : ME M e ru) (hj : j < 3) : ∃ M', f_X11_worth M (nI j) a b h w t g = some (e.2.2.2 j (fc a b h w t g), M') ∧ ∀ c, c ≠ 14 → M' c = M c := by
  obtain ⟨-, -, -, -, h16, hr, ca, cs, c3, hb, hs⟩ := hM
  obtain ⟨s1, s2, s3, s4⟩ := hs j hj
  have hle : ca (j + 1) ≤ 160 := by
    have h0 : ca 1 = ca 0 + (cs 0).length := (hs 0 (by decide)).1
    have h1 : ca 2 = ca 1 + (cs 1).length := (hs 1 (by decide)).1
    have h2 : ca 3 = ca 2 + (cs 2).length := (hs 2 (by decide)).1
    match j, hj with
    | 0, _ => show ca 1 ≤ 160; omega
    | 1, _ => show ca 2 ≤ 160; omega
    | 2, _ => exact c3
    | j + 3, h => exact absurd h (by omega)
  have e4 : (4 : Int32) * nI ru + nI j = nI (4 * ru + j) := by rw [show (4 : Int32) * nI ru = nI (4 * ru) from pk_mul 4 ru, nI_add]
  unfold f_X11_worth
  rw [h16, e4, nI_1, if_pos (iblt (show 4 * ru + j + 1 < 24 by omega) (by decide)), if_pos (iblt (show 4 * ru + j < 24 by omega) (by decide)), nI_clamp (show 4 * ru + j + 1 < 2 ^ 31 by omega), nI_clamp (show 4 * ru + j < 2 ^ 31 by omega), hb j (by omega), Nat.add_assoc, hb (j + 1) (by omega)]
  exact worth_run hr hle (cs j) [] (ca j) FU M h16 s2 s1.symm (Nat.zero_le _) (fun k hk => absurd hk (Nat.not_lt_zero _)) s3 (s4 _ []) (by rw [FU_eq]; omega)
