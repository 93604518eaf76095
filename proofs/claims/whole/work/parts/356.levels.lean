/-- the levels, from the loosest on -/
def mlv (e : Nat) (l : Nat) : Mem → Option (Int32 × Mem) :=
  if l = 0 then f_X11_any (f_X11_rec e 0) (f_X11_rec e 1) (f_X11_rec e 2) else if l = 1 then f_X11_both (f_X11_rec e 0) (f_X11_rec e 1) (f_X11_rec e 2) else if l = 2 then f_X11_not (f_X11_rec e 0) (f_X11_rec e 1) (f_X11_rec e 2) else if l = 3 then f_X11_sum (f_X11_rec e 0) (f_X11_rec e 1) (f_X11_rec e 2) else if l = 4 then f_X11_term (f_X11_rec e 0) (f_X11_rec e 1) (f_X11_rec e 2) else f_X11_one (f_X11_rec e 0) (f_X11_rec e 1) (f_X11_rec e 2)
theorem rec_0 (e : Nat) : f_X11_rec (e + 1) 0 = mlv e 0 := rfl
theorem rec_1 (e : Nat) : f_X11_rec (e + 1) 1 = mlv e 2 := rfl
theorem rec_2 (e : Nat) : f_X11_rec (e + 1) 2 = mlv e 5 := rfl
theorem jn1 {X : Mem} {t q : Nat} (hq : q < 20300) (ht : t < 20300) : (nI t = nI q) ↔ t = q := nI_eq (by omega) (by omega)
theorem j_0 (X : Mem) (t : Nat) (h : f_X4_token X = some (nI t)) (ht : t < 20300) : f_X4_joins X (nI 0) = some (if decide (t = 20256) = true then 1 else 0) := by
  unfold f_X4_joins
  rw [h, Option.bind_some, if_neg (by decide), if_pos (by decide)]
  by_cases w : t = 20256
  · rw [if_pos (show nI t = 20256 by rw [w]; rfl), if_pos (decide_eq_true w)]
  · rw [if_neg (show ¬ nI t = 20256 from fun z => w ((nI_eq (b := 20256) (by omega) (by decide)).mp z)), if_neg (fun z => w (decide_eq_true_eq.mp z))]
theorem j_1 (X : Mem) (t : Nat) (h : f_X4_token X = some (nI t)) (ht : t < 20300) : f_X4_joins X (nI 1) = some (if decide (t = 20257) = true then 1 else 0) := by
  unfold f_X4_joins
  rw [h, Option.bind_some, if_neg (by decide), if_neg (by decide), if_pos (by decide)]
  by_cases w : t = 20257
  · rw [if_pos (show nI t = 20257 by rw [w]; rfl), if_pos (decide_eq_true w)]
  · rw [if_neg (show ¬ nI t = 20257 from fun z => w ((nI_eq (b := 20257) (by omega) (by decide)).mp z)), if_neg (fun z => w (decide_eq_true_eq.mp z))]
theorem j_4 (X : Mem) (t : Nat) (h : f_X4_token X = some (nI t)) (ht : t < 20300) : f_X4_joins X (nI 4) = some (if decide (t = 20042) = true then 1 else 0) := by
  unfold f_X4_joins
  rw [h, Option.bind_some, if_neg (by decide), if_neg (by decide), if_neg (by decide), if_neg (by decide), if_neg (by decide), if_pos (by decide)]
  by_cases w : t = 20042
  · rw [if_pos (show nI t = 20042 by rw [w]; rfl), if_pos (decide_eq_true w)]
  · rw [if_neg (show ¬ nI t = 20042 from fun z => w ((nI_eq (b := 20042) (by omega) (by decide)).mp z)), if_neg (fun z => w (decide_eq_true_eq.mp z))]
theorem j_3 (X : Mem) (t : Nat) (h : f_X4_token X = some (nI t)) (ht : t < 20300) : f_X4_joins X (nI 3) = some (if (decide (t = 20043) || decide (t = 20045)) = true then 1 else 0) := by
  unfold f_X4_joins
  rw [h, Option.bind_some, if_neg (by decide), if_neg (by decide), if_neg (by decide), if_neg (by decide), if_pos (by decide)]
  by_cases w : t = 20043
  · rw [if_pos (show nI t = 20043 by rw [w]; rfl), if_pos (by rw [decide_eq_true w]; rfl)]
  · rw [if_neg (show ¬ nI t = 20043 from fun z => w ((nI_eq (b := 20043) (by omega) (by decide)).mp z)), decide_eq_false w, Bool.false_or]
    by_cases w2 : t = 20045
    · rw [if_pos (show nI t = 20045 by rw [w2]; rfl), if_pos (decide_eq_true w2)]
    · rw [if_neg (show ¬ nI t = 20045 from fun z => w2 ((nI_eq (b := 20045) (by omega) (by decide)).mp z)), if_neg (fun z => w2 (decide_eq_true_eq.mp z))]
theorem bn_0 (t : Nat) (h : decide (t = 20256) = true) : Bn t (-11) := by
  have w := decide_eq_true_eq.mp h
  subst w
  refine ⟨by decide, by decide, by decide, by decide, Or.inr (Or.inr ⟨0, by decide, by decide⟩), by decide, by decide, by decide, by decide, fun a b => ?_⟩
  show f_X5_joined 20256 a b = _
  unfold f_X5_joined opM
  simp (decide := true) only [if_true, if_false]
theorem bn_1 (t : Nat) (h : decide (t = 20257) = true) : Bn t (-12) := by
  have w := decide_eq_true_eq.mp h
  subst w
  refine ⟨by decide, by decide, by decide, by decide, Or.inr (Or.inr ⟨1, by decide, by decide⟩), by decide, by decide, by decide, by decide, fun a b => ?_⟩
  show f_X5_joined 20257 a b = _
  unfold f_X5_joined opM
  simp (decide := true) only [if_true, if_false]
theorem bn_4 (t : Nat) (h : decide (t = 20042) = true) : Bn t (-18) := by
  have w := decide_eq_true_eq.mp h
  subst w
  refine ⟨by decide, by decide, by decide, by decide, Or.inr (Or.inr ⟨7, by decide, by decide⟩), by decide, by decide, by decide, by decide, fun a b => ?_⟩
  show f_X5_joined 20042 a b = _
  unfold f_X5_joined opM
  simp (decide := true) only [if_true, if_false]
theorem bn_3 (t : Nat) (h : (decide (t = 20043) || decide (t = 20045)) = true) : Bn t (if t = 20043 then -16 else -17) := by
  rw [Bool.or_eq_true, decide_eq_true_eq, decide_eq_true_eq] at h
  rcases h with w | w
  · subst w
    rw [if_pos rfl]
    refine ⟨by decide, by decide, by decide, by decide, Or.inr (Or.inr ⟨5, by decide, by decide⟩), by decide, by decide, by decide, by decide, fun a b => ?_⟩
    show f_X5_joined 20043 a b = _
    unfold f_X5_joined opM
    simp (decide := true) only [if_true, if_false]
  · subst w
    rw [if_neg (by decide)]
    refine ⟨by decide, by decide, by decide, by decide, Or.inr (Or.inr ⟨6, by decide, by decide⟩), by decide, by decide, by decide, by decide, fun a b => ?_⟩
    show f_X5_joined 20045 a b = _
    unfold f_X5_joined opM
    simp (decide := true) only [if_true, if_false]
section LV
variable {x : Tx} {la i o : Nat} {rA rN rO : Mem → Option (Int32 × Mem)} {recL : Mem → Int32 → Option Mem}
theorem lv_4 (S : Sm (fun X => recL X (nI 5)) (f_X11_one rA rN rO) x la i o) : Sm (fun X => f_X4_level recL X (nI 4)) (f_X11_term rA rN rO) x la i o :=
  level_ok (l := 4) (LM := f_X11_term_9 rA rN rO) (cd := fun _ => -18) (by decide) (by decide) S j_4 bn_4 (fun fu M c sm' h => by
    rw [f_X11_term_9, show f_X11_is_ M 42 = _ from q_sg (q := 42) h.2.1 (by decide)]
    by_cases w : tT x c = 20042
    · rw [if_pos (show tT x c = 20000 + 42 from w), if_neg t10, if_pos (decide_eq_true w)]
    · rw [if_neg (show ¬ tT x c = 20000 + 42 from w), if_pos t00, if_neg (fun z => w (decide_eq_true_eq.mp z))])
theorem lv_3 (S : Sm (fun X => recL X (nI 4)) (f_X11_term rA rN rO) x la i o) : Sm (fun X => f_X4_level recL X (nI 3)) (f_X11_sum rA rN rO) x la i o :=
  level_ok (l := 3) (LM := f_X11_sum_9 rA rN rO) (cd := fun t => if t = 20043 then -16 else -17) (by decide) (by decide) S j_3 bn_3 (fun fu M c sm' h => by
    rw [f_X11_sum_9, show f_X11_is_ M 43 = _ from q_sg (q := 43) h.2.1 (by decide), show f_X11_is_ M 45 = _ from q_sg (q := 45) h.2.1 (by decide)]
    by_cases w : tT x c = 20043
    · rw [if_pos (show tT x c = 20000 + 43 from w), if_neg t10, if_neg t10, if_pos (by rw [decide_eq_true w]; rfl), if_pos w]
    · rw [if_neg (show ¬ tT x c = 20000 + 43 from w), if_pos t00]
      by_cases w2 : tT x c = 20045
      · rw [if_pos (show tT x c = 20000 + 45 from w2), if_neg t10, if_pos t00, if_pos (by rw [decide_eq_true w2, Bool.or_true]), if_neg w]
      · rw [if_neg (show ¬ tT x c = 20000 + 45 from w2), if_pos t00, if_neg (by rw [decide_eq_false w, decide_eq_false w2]; decide)])
theorem lv_1 (S : Sm (fun X => recL X (nI 2)) (f_X11_not rA rN rO) x la i o) : Sm (fun X => f_X4_level recL X (nI 1)) (f_X11_both rA rN rO) x la i o :=
  level_ok (l := 1) (LM := f_X11_both_9 rA rN rO) (cd := fun _ => -12) (by decide) (by decide) S j_1 bn_1 (fun fu M c sm' h => by
    rw [f_X11_both_9, q_is (k := 11) h.1 h.2.1 (by decide) (by decide), Option.bind_some]
    by_cases w : tT x c = 20257
    · rw [if_pos (show tT x c = cdN 11 from w), if_neg t10, if_pos (decide_eq_true w)]
    · rw [if_neg (show ¬ tT x c = cdN 11 from w), if_pos t00, if_neg (fun z => w (decide_eq_true_eq.mp z))])
theorem lv_0 (S : Sm (fun X => recL X (nI 1)) (f_X11_both rA rN rO) x la i o) : Sm (fun X => f_X4_level recL X (nI 0)) (f_X11_any rA rN rO) x la i o :=
  level_ok (l := 0) (LM := f_X11_any_9 rA rN rO) (cd := fun _ => -11) (by decide) (by decide) S j_0 bn_0 (fun fu M c sm' h => by
    rw [f_X11_any_9, q_is (k := 10) h.1 h.2.1 (by decide) (by decide), Option.bind_some]
    by_cases w : tT x c = 20256
    · rw [if_pos (show tT x c = cdN 10 from w), if_neg t10, if_pos (decide_eq_true w)]
    · rw [if_neg (show ¬ tT x c = cdN 10 from w), if_pos t00, if_neg (fun z => w (decide_eq_true_eq.mp z))])
end LV
theorem lev_s (d : Nat) (l : Int32) (X : Mem) : f_X4_lev (d + 1) X l = f_X4_level (f_X4_lev d) X l := rfl
theorem main_ok {x : Tx} {la i : Nat} : ∀ k, k ≤ 5 → ∀ e, k ≤ e → ∀ r l, l + r = 5 → ∀ d, 6 * k + 6 ≤ d + l → Sm (fun X => f_X4_lev d X (nI l)) (mlv e l) x la i (5 - k) := by
  intro k
  induction k with
  | zero =>
    intro _ e he r
    induction r with
    | zero =>
      intro l hl d hd
      have : l = 5 := by omega
      subst this
      obtain ⟨g, rfl⟩ : ∃ g, d = g + 1 := ⟨d - 1, by omega⟩
      intro X M c sx sm hX hM hs1 hs2
      obtain ⟨Y, b, N, q1, q2, q3⟩ := one_ok (recL := f_X4_lev g) (rA := f_X11_rec e 0) (rN := f_X11_rec e 1) (rO := f_X11_rec e 2) (o := 5) (Nat.le_refl _) (fun w => absurd w (by decide)) X M c sx sm hX hM hs1 hs2
      refine ⟨Y, b, N, ?_, q2, q3⟩
      have q1 : f_X4_one (f_X4_lev g) X = some Y := q1
      show f_X4_level (f_X4_lev g) X (nI 5) = some Y
      unfold f_X4_level
      rw [if_neg (by decide), q1, Option.bind_some]
    | succ r ih =>
      intro l hl d hd
      obtain ⟨g, rfl⟩ : ∃ g, d = g + 1 := ⟨d - 1, by omega⟩
      have S := ih (l + 1) (by omega) g (by omega)
      match l, hl, S with
      | 0, _, S => exact lv_0 S
      | 1, _, S => exact lv_1 S
      | 2, _, S => exact not_ok (by decide) S (fun w => absurd w (by decide))
      | 3, _, S => exact lv_3 S
      | 4, _, S => exact lv_4 S
      | l + 5, h, _ => exact absurd h (by omega)
  | succ k ihk =>
    intro hk e he r
    obtain ⟨e, rfl⟩ : ∃ g, e = g + 1 := ⟨e - 1, by omega⟩
    have ho : 5 - (k + 1) + 1 = 5 - k := by omega
    induction r with
    | zero =>
      intro l hl d hd
      have : l = 5 := by omega
      subst this
      obtain ⟨g, rfl⟩ : ∃ g, d = g + 1 := ⟨d - 1, by omega⟩
      intro X M c sx sm hX hM hs1 hs2
      obtain ⟨Y, b, N, q1, q2, q3⟩ := one_ok (recL := f_X4_lev g) (rA := f_X11_rec (e + 1) 0) (rN := f_X11_rec (e + 1) 1) (rO := f_X11_rec (e + 1) 2) (o := 5 - (k + 1)) (by omega) (fun w => by
        rw [ho]
        exact ⟨ihk (by omega) e (by omega) 0 5 rfl g (by omega), ihk (by omega) e (by omega) 5 0 rfl g (by omega)⟩) X M c sx sm hX hM hs1 hs2
      refine ⟨Y, b, N, ?_, q2, q3⟩
      have q1 : f_X4_one (f_X4_lev g) X = some Y := q1
      show f_X4_level (f_X4_lev g) X (nI 5) = some Y
      unfold f_X4_level
      rw [if_neg (by decide), q1, Option.bind_some]
    | succ r ih =>
      intro l hl d hd
      obtain ⟨g, rfl⟩ : ∃ g, d = g + 1 := ⟨d - 1, by omega⟩
      have S := ih (l + 1) (by omega) g (by omega)
      match l, hl, hd, S with
      | 0, _, _, S => exact lv_0 S
      | 1, _, _, S => exact lv_1 S
      | 2, _, hd, S =>
        refine not_ok (by omega) S (fun w => ?_)
        rw [ho]
        exact ihk (by omega) e (by omega) 3 2 rfl g (by omega)
      | 3, _, _, S => exact lv_3 S
      | 4, _, _, S => exact lv_4 S
      | l + 5, h, _, _ => exact absurd h (by omega)
