theorem letter_m {c : Nat} (hc : c < 256) : f_X11_isLetter (nI c) = if isL c = true then 1 else 0 := small_x hc
theorem digit_m {c : Nat} (hc : c < 256) : f_X11_isDigit (nI c) = if isD c = true then 1 else 0 := digit_x hc
theorem TM.at {M : Mem} {x : Tx} {j : Nat} {v : Int32} (h : TM M x) (hj : j ≠ 13) : TM (upd2 M 0 j v) x := ⟨h.1, by rw [u2t (fun w => hj w.symm)]; exact h.2.1, fun i hi => by rw [u2n (by decide)]; exact h.2.2 i hi⟩
theorem skip_m {x : Tx} {K : Mem → Option Mem} : ∀ (r a fu : Nat) (M : Mem), TM M x → M 0 20 = nI a → a + r = x.2 → r < fu → f_X11_next_0 K fu M = K (upd2 M 0 20 (nI (sk x a))) := by
  intro r
  induction r with
  | zero =>
    intro a fu M hT h4 ha hf
    obtain ⟨g, rfl⟩ : ∃ g, fu = g + 1 := ⟨fu - 1, by omega⟩
    have hx := hT.1
    have e : sk x a = a := by unfold sk run; rw [show x.2 - a = 0 by omega]; rfl
    rw [f_X11_next_0, hT.2.1, h4, if_pos (show nI x.2 ≤ nI a from (by simp (disch := omega) only [fa_lt, fa_le, fa_eq, nI_toInt, Int32.reduceToInt, im1] <;> omega)), e, ← h4, u2id]
  | succ r ih =>
    intro a fu M hT h4 ha hf
    obtain ⟨g, rfl⟩ : ∃ g, fu = g + 1 := ⟨fu - 1, by omega⟩
    have hx := hT.1
    obtain ⟨c1, c2⟩ := hT.2.2 a (by omega)
    rw [f_X11_next_0, hT.2.1, h4, if_neg (show ¬ nI x.2 ≤ nI a from (by simp (disch := omega) only [fa_lt, fa_le, fa_eq, nI_toInt, Int32.reduceToInt, im1] <;> omega)), nI_1]
    simp only [if_pos (iblt (show a < 160 by omega) (by decide)), nI_clamp (show a < 2 ^ 31 by omega), c2]
    have go := ih (a + 1) g (upd2 M 0 20 (nI (a + 1))) (hT.at (by decide)) u2s (by omega) (by omega)
    rw [u22] at go
    by_cases cb : isB (x.1 a) = true
    · have e : sk x a = sk x (a + 1) := run_yes (P := fun j => isB (x.1 j)) cb (by omega)
      rw [e]
      rcases (blank_b c1).mp cb with h | h
      · rw [if_pos h]
        exact go
      · by_cases h2 : nI (x.1 a) = 32
        · rw [if_pos h2]
          exact go
        · rw [if_neg h2, if_pos h]
          exact go
    · have e : sk x a = a := run_no (P := fun j => isB (x.1 j)) cb
      rw [if_neg (fun w => cb ((blank_b c1).mpr (Or.inl w))), if_neg (fun w => cb ((blank_b c1).mpr (Or.inr w))), e, ← h4, u2id]
theorem word_m {x : Tx} : ∀ (r a fu : Nat) (M : Mem), TM M x → M 0 20 = nI a → a + r = x.2 → r < fu → f_X11_next_205 fu M = some (upd2 (upd2 M 0 20 (nI (ltE x a))) 0 22 2) := by
  intro r
  induction r with
  | zero =>
    intro a fu M hT h4 ha hf
    obtain ⟨g, rfl⟩ : ∃ g, fu = g + 1 := ⟨fu - 1, by omega⟩
    have hx := hT.1
    have e : ltE x a = a := by unfold ltE run; rw [show x.2 - a = 0 by omega]; rfl
    rw [f_X11_next_205, hT.2.1, h4, if_pos (show nI x.2 ≤ nI a from (by simp (disch := omega) only [fa_lt, fa_le, fa_eq, nI_toInt, Int32.reduceToInt, im1] <;> omega)), e, ← h4, u2id]
  | succ r ih =>
    intro a fu M hT h4 ha hf
    obtain ⟨g, rfl⟩ : ∃ g, fu = g + 1 := ⟨fu - 1, by omega⟩
    have hx := hT.1
    obtain ⟨c1, c2⟩ := hT.2.2 a (by omega)
    rw [f_X11_next_205, hT.2.1, h4, if_neg (show ¬ nI x.2 ≤ nI a from (by simp (disch := omega) only [fa_lt, fa_le, fa_eq, nI_toInt, Int32.reduceToInt, im1] <;> omega)), if_pos (iblt (show a < 160 by omega) (by decide)), nI_clamp (show a < 2 ^ 31 by omega), c2, nI_1, letter_m c1]
    by_cases cb : isL (x.1 a) = true
    · have e : ltE x a = ltE x (a + 1) := run_yes (P := fun j => isL (x.1 j)) cb (by omega)
      rw [if_pos cb, if_neg t10, e]
      have go := ih (a + 1) g (upd2 M 0 20 (nI (a + 1))) (hT.at (by decide)) u2s (by omega) (by omega)
      rw [u22] at go
      exact go
    · have e : ltE x a = a := run_no (P := fun j => isL (x.1 j)) cb
      rw [if_neg cb, if_pos t00, e, ← h4, u2id]
theorem num_m {x : Tx} {s : Nat} : ∀ (r a fu : Nat) (M : Mem), TM M x → s ≤ a → M 0 20 = nI a → M 0 21 = nI s → a + r = x.2 → r < fu → (a - s ≤ 4 → M 0 23 = nI (nv x s (a - s))) → ∃ N, f_X11_next_99 fu M = some N ∧ (∀ c, c ≠ 0 → N c = M c) ∧ (∀ j, j ≠ 20 → j ≠ 22 → j ≠ 23 → N 0 j = M 0 j) ∧ N 0 20 = nI (dgE x a) ∧ ((dgE x a - s ≤ 4 ∧ N 0 22 = 1 ∧ N 0 23 = nI (nv x s (dgE x a - s))) ∨ (¬ dgE x a - s ≤ 4 ∧ N 0 22 = 4)) := by
  intro r
  induction r with
  | zero =>
    intro a fu M hT hs h4 h21 ha hf hv
    obtain ⟨g, rfl⟩ : ∃ g, fu = g + 1 := ⟨fu - 1, by omega⟩
    have hx := hT.1
    have e : dgE x a = a := by unfold dgE run; rw [show x.2 - a = 0 by omega]; rfl
    rw [f_X11_next_99, hT.2.1, h4, h21, if_pos (show nI x.2 ≤ nI a from (by simp (disch := omega) only [fa_lt, fa_le, fa_eq, nI_toInt, Int32.reduceToInt, im1] <;> omega)), e, pk_sub hs]
    by_cases c : a - s ≤ 4
    · rw [if_pos (show nI (a - s) ≤ 4 from (by simp (disch := omega) only [fa_lt, fa_le, fa_eq, nI_toInt, Int32.reduceToInt, im1] <;> omega))]
      exact ⟨_, rfl, fun c hc => u2n hc, fun j q1 q2 q3 => u2t q2, by rw [u2t (by decide)]; exact h4, Or.inl ⟨c, u2s, by rw [u2t (by decide)]; exact hv c⟩⟩
    · rw [if_neg (show ¬ nI (a - s) ≤ 4 from (by simp (disch := omega) only [fa_lt, fa_le, fa_eq, nI_toInt, Int32.reduceToInt, im1] <;> omega))]
      exact ⟨_, rfl, fun c hc => u2n hc, fun j q1 q2 q3 => u2t q2, by rw [u2t (by decide)]; exact h4, Or.inr ⟨c, u2s⟩⟩
  | succ r ih =>
    intro a fu M hT hs h4 h21 ha hf hv
    obtain ⟨g, rfl⟩ : ∃ g, fu = g + 1 := ⟨fu - 1, by omega⟩
    have hx := hT.1
    obtain ⟨c1, c2⟩ := hT.2.2 a (by omega)
    rw [f_X11_next_99, hT.2.1, h4, h21, if_neg (show ¬ nI x.2 ≤ nI a from (by simp (disch := omega) only [fa_lt, fa_le, fa_eq, nI_toInt, Int32.reduceToInt, im1] <;> omega))]
    simp only [if_pos (iblt (show a < 160 by omega) (by decide)), nI_clamp (show a < 2 ^ 31 by omega), c2, nI_1, digit_m c1, pk_sub hs, u2t (show (20 : Nat) ≠ 23 by decide), h4]
    by_cases cb : isD (x.1 a) = true
    · have e : dgE x a = dgE x (a + 1) := run_yes (P := fun j => isD (x.1 j)) cb (by omega)
      have hd : 48 ≤ x.1 a ∧ x.1 a ≤ 57 := by
        unfold isD at cb
        rw [Bool.and_eq_true, decide_eq_true_eq, decide_eq_true_eq] at cb
        exact cb
      rw [if_pos cb, if_neg t10, e]
      by_cases c4 : 4 ≤ a - s
      · rw [if_pos (show 4 ≤ nI (a - s) from (by simp (disch := omega) only [fa_lt, fa_le, fa_eq, nI_toInt, Int32.reduceToInt, im1] <;> omega))]
        obtain ⟨N, n1, n2, n3, n4, n5⟩ := ih (a + 1) g (upd2 M 0 20 (nI (a + 1))) (hT.at (by decide)) (by omega) u2s (by rw [u2t (by decide)]; exact h21) (by omega) (by omega) (fun h => absurd h (by omega))
        exact ⟨N, n1, fun c hc => by rw [n2 c hc, u2n hc], fun j q1 q2 q3 => by rw [n3 j q1 q2 q3, u2t q1], n4, n5⟩
      · rw [if_neg (show ¬ 4 ≤ nI (a - s) from (by simp (disch := omega) only [fa_lt, fa_le, fa_eq, nI_toInt, Int32.reduceToInt, im1] <;> omega))]
        have hn : nv x s (a + 1 - s) = 10 * nv x s (a - s) + (x.1 a - 48) := by
          rw [show a + 1 - s = (a - s) + 1 by omega, nv, show s + (a - s) = a by omega]
        obtain ⟨N, n1, n2, n3, n4, n5⟩ := ih (a + 1) g (upd2 (upd2 M 0 23 (10 * M 0 23 + nI (x.1 a) - 48)) 0 20 (nI (a + 1))) ((hT.at (by decide)).at (by decide)) (by omega) u2s (by rw [u2t (by decide), u2t (by decide)]; exact h21) (by omega) (by omega) (fun h => by
          rw [u2t (by decide), u2s, hv (by omega), hn, show (10 : Int32) * nI (nv x s (a - s)) = nI (10 * nv x s (a - s)) from pk_mul 10 _, nI_add, show (48 : Int32) = nI 48 from rfl, pk_sub (by omega)]
          exact congrArg nI (by omega))
        exact ⟨N, n1, fun c hc => by rw [n2 c hc, u2n hc, u2n hc], fun j q1 q2 q3 => by rw [n3 j q1 q2 q3, u2t q1, u2t q3], n4, n5⟩
    · have e : dgE x a = a := run_no (P := fun j => isD (x.1 j)) cb
      rw [if_neg cb, if_pos t00, e]
      by_cases c : a - s ≤ 4
      · rw [if_pos (show nI (a - s) ≤ 4 from (by simp (disch := omega) only [fa_lt, fa_le, fa_eq, nI_toInt, Int32.reduceToInt, im1] <;> omega))]
        exact ⟨_, rfl, fun c hc => u2n hc, fun j q1 q2 q3 => u2t q2, by rw [u2t (by decide)]; exact h4, Or.inl ⟨c, u2s, by rw [u2t (by decide)]; exact hv c⟩⟩
      · rw [if_neg (show ¬ nI (a - s) ≤ 4 from (by simp (disch := omega) only [fa_lt, fa_le, fa_eq, nI_toInt, Int32.reduceToInt, im1] <;> omega))]
        exact ⟨_, rfl, fun c hc => u2n hc, fun j q1 q2 q3 => u2t q2, by rw [u2t (by decide)]; exact h4, Or.inr ⟨c, u2s⟩⟩
/-- the model's token is token c -/
def KD (N : Mem) (x : Tx) (c : Nat) : Prop := N 0 20 = nI (tA x (c + 1)) ∧ N 0 21 = nI (tS x c) ∧ ((N 0 22 = 0 ∧ tT x c = 20259) ∨ (N 0 22 = 1 ∧ tT x c < 10000 ∧ N 0 23 = nI (tT x c)) ∨ (N 0 22 = 2 ∧ tT x c = wcN (wd x (tS x c) (tA x (c + 1)))) ∨ (N 0 22 = 3 ∧ ∃ q, q < 256 ∧ isS q = true ∧ tT x c = 20000 + q ∧ N 0 23 = nI q) ∨ (N 0 22 = 4 ∧ tT x c = 20260))
/-- what next changes -/
def nfr (M N : Mem) : Prop := (∀ c, c ≠ 0 → N c = M c) ∧ ∀ j, ¬ (20 ≤ j ∧ j < 24) → N 0 j = M 0 j
theorem nfr.tr {A B C : Mem} (h : nfr A B) (h2 : nfr B C) : nfr A C := ⟨fun c hc => (h2.1 c hc).trans (h.1 c hc), fun j hj => (h2.2 j hj).trans (h.2 j hj)⟩
theorem nfr.up {A : Mem} {j : Nat} {v : Int32} (h : 20 ≤ j ∧ j < 24) : nfr A (upd2 A 0 j v) := ⟨fun c hc => u2n hc, fun q hq => u2t (by omega)⟩
theorem sig_m {q : Nat} (hq : q < 256) {α : Type} (a b : α) : (if nI q = 40 then a else if nI q = 41 then a else if nI q = 59 then a else if nI q = 43 then a else if nI q = 45 then a else if nI q = 42 then a else if nI q = 60 then a else if nI q = 61 then a else b) = if isS q = true then a else b := by
  by_cases h0 : q = 40
  · subst h0
    rw [if_pos (show nI 40 = 40 from rfl), if_pos (by decide)]
  rw [if_neg (show ¬ nI q = 40 from fun w => h0 ((nI_eq (b := 40) (by omega) (by decide)).mp w))]
  by_cases h1 : q = 41
  · subst h1
    rw [if_pos (show nI 41 = 41 from rfl), if_pos (by decide)]
  rw [if_neg (show ¬ nI q = 41 from fun w => h1 ((nI_eq (b := 41) (by omega) (by decide)).mp w))]
  by_cases h2 : q = 59
  · subst h2
    rw [if_pos (show nI 59 = 59 from rfl), if_pos (by decide)]
  rw [if_neg (show ¬ nI q = 59 from fun w => h2 ((nI_eq (b := 59) (by omega) (by decide)).mp w))]
  by_cases h3 : q = 43
  · subst h3
    rw [if_pos (show nI 43 = 43 from rfl), if_pos (by decide)]
  rw [if_neg (show ¬ nI q = 43 from fun w => h3 ((nI_eq (b := 43) (by omega) (by decide)).mp w))]
  by_cases h4 : q = 45
  · subst h4
    rw [if_pos (show nI 45 = 45 from rfl), if_pos (by decide)]
  rw [if_neg (show ¬ nI q = 45 from fun w => h4 ((nI_eq (b := 45) (by omega) (by decide)).mp w))]
  by_cases h5 : q = 42
  · subst h5
    rw [if_pos (show nI 42 = 42 from rfl), if_pos (by decide)]
  rw [if_neg (show ¬ nI q = 42 from fun w => h5 ((nI_eq (b := 42) (by omega) (by decide)).mp w))]
  by_cases h6 : q = 60
  · subst h6
    rw [if_pos (show nI 60 = 60 from rfl), if_pos (by decide)]
  rw [if_neg (show ¬ nI q = 60 from fun w => h6 ((nI_eq (b := 60) (by omega) (by decide)).mp w))]
  by_cases h7 : q = 61
  · subst h7
    rw [if_pos (show nI 61 = 61 from rfl), if_pos (by decide)]
  rw [if_neg (show ¬ nI q = 61 from fun w => h7 ((nI_eq (b := 61) (by omega) (by decide)).mp w))]
  rw [if_neg (show ¬ isS q = true by unfold isS; simp [h0, h1, h2, h3, h4, h5, h6, h7])]
theorem next_ok {M : Mem} {x : Tx} {c : Nat} (hT : TM M x) (h20 : M 0 20 = nI (tA x c)) : ∃ N, f_X11_next M = some N ∧ KD N x c ∧ nfr M N := by
  have hx := hT.1
  have hle := tS_le x c
  unfold f_X11_next
  rw [skip_m (x.2 - tA x c) (tA x c) FU M hT h20 (by have := tA_le x c; omega) (by rw [FU_eq]; omega)]
  rw [show sk x (tA x c) = tS x c from rfl]
  have ea : tA x (c + 1) = tkE x (tS x c) := rfl
  have et : tT x c = tkT x (tS x c) := rfl
  unfold KD
  rw [ea, et]
  generalize tS x c = s at hle ⊢
  have hA20 : (upd2 M 0 20 (nI s)) 0 20 = nI s := u2s
  have hTA : TM (upd2 M 0 20 (nI s)) x := hT.at (by decide)
  have fA : nfr M (upd2 M 0 20 (nI s)) := nfr.up (by decide)
  generalize upd2 M 0 20 (nI s) = A at hA20 hTA fA ⊢
  rw [hA20]
  have hB20 : (upd2 A 0 21 (nI s)) 0 20 = nI s := by rw [u2t (by decide)]; exact hA20
  have hB21 : (upd2 A 0 21 (nI s)) 0 21 = nI s := u2s
  have hTB : TM (upd2 A 0 21 (nI s)) x := hTA.at (by decide)
  have fB : nfr M (upd2 A 0 21 (nI s)) := fA.tr (nfr.up (by decide))
  generalize upd2 A 0 21 (nI s) = B at hB20 hB21 hTB fB ⊢
  rw [hB20, hTB.2.1]
  by_cases c0 : x.2 ≤ s
  · rw [if_pos (show nI s = nI x.2 by congr 1; omega)]
    have e1 : tkE x s = s := by unfold tkE; rw [if_pos c0]
    have e2 : tkT x s = 20259 := by unfold tkT; rw [if_pos c0]
    rw [e1, e2]
    exact ⟨_, rfl, ⟨by rw [u2t (by decide)]; exact hB20, by rw [u2t (by decide)]; exact hB21, Or.inl ⟨u2s, rfl⟩⟩, fB.tr (nfr.up (by decide))⟩
  · obtain ⟨c1, c2⟩ := hTB.2.2 s (by omega)
    rw [if_neg (show ¬ nI s = nI x.2 from fun w => c0 (by rw [(nI_eq (by omega) (by omega)).mp w]; exact Nat.le_refl _)), if_pos (iblt (show s < 160 by omega) (by decide)), nI_clamp (show s < 2 ^ 31 by omega), c2, digit_m c1]
    by_cases cd : isD (x.1 s) = true
    · have cl : ¬ isL (x.1 s) = true := by
        unfold isD at cd
        unfold isL
        simp only [Bool.and_eq_true, decide_eq_true_eq] at cd ⊢
        omega
      rw [if_pos cd, if_neg t10]
      have e1 : tkE x s = dgE x s := by unfold tkE; rw [if_neg c0, if_neg cl, if_pos cd]
      have e2 : tkT x s = if dgE x s - s ≤ 4 then nv x s (dgE x s - s) else 20260 := by unfold tkT; rw [if_neg c0, if_neg cl, if_pos cd]
      rw [e1, e2]
      obtain ⟨N, n1, n2, n3, n4, n5⟩ := num_m (s := s) (x.2 - s) s FU (upd2 B 0 23 0) (hTB.at (by decide)) (Nat.le_refl _) (by rw [u2t (by decide)]; exact hB20) (by rw [u2t (by decide)]; exact hB21) (by omega) (by rw [FU_eq]; omega) (fun _ => by rw [u2s, Nat.sub_self]; rfl)
      refine ⟨N, n1, ⟨n4, by rw [n3 21 (by decide) (by decide) (by decide), u2t (by decide)]; exact hB21, ?_⟩, fB.tr ⟨fun c hc => by rw [n2 c hc, u2n hc], fun j hj => by rw [n3 j (by omega) (by omega) (by omega), u2t (by omega)]⟩⟩
      rcases n5 with ⟨m1, m2, m3⟩ | ⟨m1, m2⟩
      · rw [if_pos m1]
        refine Or.inr (Or.inl ⟨m2, nv_4 m1 (fun j hj => ?_), m3⟩)
        have := run_in (P := fun j => isD (x.1 j)) (n := x.2) (a := s) (j := s + j) (by omega) (by unfold dgE at hj; omega)
        unfold isD at this
        rw [Bool.and_eq_true, decide_eq_true_eq, decide_eq_true_eq] at this
        exact this.2
      · rw [if_neg m1]
        exact Or.inr (Or.inr (Or.inr (Or.inr ⟨m2, rfl⟩)))
    · rw [if_neg cd, if_pos t00, letter_m c1]
      by_cases cl : isL (x.1 s) = true
      · rw [if_pos cl, if_neg t10]
        have e1 : tkE x s = ltE x s := by unfold tkE; rw [if_neg c0, if_pos cl]
        have e2 : tkT x s = wcN (wd x s (ltE x s)) := by unfold tkT; rw [if_neg c0, if_pos cl]
        rw [e1, e2, word_m (x.2 - s) s FU B hTB hB20 (by omega) (by rw [FU_eq]; omega)]
        exact ⟨_, rfl, ⟨by rw [u2t (by decide), u2s], by rw [u2t (by decide), u2t (by decide)]; exact hB21, Or.inr (Or.inr (Or.inl ⟨u2s, rfl⟩))⟩, fB.tr ((nfr.up (by decide)).tr (nfr.up (by decide)))⟩
      · rw [if_neg cl, if_pos t00, sig_m c1, nI_1]
        have e1 : tkE x s = s + 1 := by unfold tkE; rw [if_neg c0, if_neg cl, if_neg cd]
        rw [e1]
        have fin : ∀ v : Int32, (upd2 (upd2 (upd2 B 0 20 (nI (s + 1))) 0 23 (nI (x.1 s))) 0 22 v) 0 20 = nI (s + 1) ∧ (upd2 (upd2 (upd2 B 0 20 (nI (s + 1))) 0 23 (nI (x.1 s))) 0 22 v) 0 21 = nI s ∧ (upd2 (upd2 (upd2 B 0 20 (nI (s + 1))) 0 23 (nI (x.1 s))) 0 22 v) 0 23 = nI (x.1 s) ∧ nfr M (upd2 (upd2 (upd2 B 0 20 (nI (s + 1))) 0 23 (nI (x.1 s))) 0 22 v) := fun v => ⟨by rw [u2t (by decide), u2t (by decide), u2s], by rw [u2t (by decide), u2t (by decide), u2t (by decide)]; exact hB21, by rw [u2t (by decide), u2s], fB.tr ((nfr.up (by decide)).tr ((nfr.up (by decide)).tr (nfr.up (by decide))))⟩
        by_cases cs : isS (x.1 s) = true
        · have e2 : tkT x s = 20000 + x.1 s := by unfold tkT; rw [if_neg c0, if_neg cl, if_neg cd, if_pos cs]
          rw [if_pos cs, e2]
          obtain ⟨w1, w2, w3, w4⟩ := fin 3
          exact ⟨_, rfl, ⟨w1, w2, Or.inr (Or.inr (Or.inr (Or.inl ⟨u2s, x.1 s, c1, cs, rfl, w3⟩)))⟩, w4⟩
        · have e2 : tkT x s = 20260 := by unfold tkT; rw [if_neg c0, if_neg cl, if_neg cd, if_neg cs]
          rw [if_neg cs, e2]
          obtain ⟨w1, w2, w3, w4⟩ := fin 4
          exact ⟨_, rfl, ⟨w1, w2, Or.inr (Or.inr (Or.inr (Or.inr ⟨u2s, rfl⟩)))⟩, w4⟩
/-- what a word is as a token -/
def cdN (k : Nat) : Nat := if k ≤ 6 then 9999 + k else if k ≤ 9 then 20254 + k else 20246 + k
theorem wc_cd : ∀ k, k < 13 → 1 ≤ k → wcN (wl k) = cdN k := by decide
theorem wc_inj {w : List Nat} {k : Nat} (h1 : 1 ≤ k) (hk : k < 13) (h : wcN w = cdN k) : w = wl k := by
  unfold wcN at h
  have hc : ∀ j, 1 ≤ j → j < 13 → cdN j = cdN k → j = k := by
    intro j q1 q2 q3
    unfold cdN at q3
    repeat' split at q3
    all_goals omega
  have hk60 : cdN k ≠ 20260 := by
    unfold cdN
    repeat' split
    all_goals omega
  by_cases c1 : w = wl 1
  · rw [if_pos c1] at h
    rw [c1, hc 1 (by decide) (by decide) h]
  rw [if_neg c1] at h
  by_cases c2 : w = wl 2
  · rw [if_pos c2] at h
    rw [c2, hc 2 (by decide) (by decide) h]
  rw [if_neg c2] at h
  by_cases c3 : w = wl 3
  · rw [if_pos c3] at h
    rw [c3, hc 3 (by decide) (by decide) h]
  rw [if_neg c3] at h
  by_cases c4 : w = wl 4
  · rw [if_pos c4] at h
    rw [c4, hc 4 (by decide) (by decide) h]
  rw [if_neg c4] at h
  by_cases c5 : w = wl 5
  · rw [if_pos c5] at h
    rw [c5, hc 5 (by decide) (by decide) h]
  rw [if_neg c5] at h
  by_cases c6 : w = wl 6
  · rw [if_pos c6] at h
    rw [c6, hc 6 (by decide) (by decide) h]
  rw [if_neg c6] at h
  by_cases c7 : w = wl 7
  · rw [if_pos c7] at h
    rw [c7, hc 7 (by decide) (by decide) h]
  rw [if_neg c7] at h
  by_cases c8 : w = wl 8
  · rw [if_pos c8] at h
    rw [c8, hc 8 (by decide) (by decide) h]
  rw [if_neg c8] at h
  by_cases c9 : w = wl 9
  · rw [if_pos c9] at h
    rw [c9, hc 9 (by decide) (by decide) h]
  rw [if_neg c9] at h
  by_cases c10 : w = wl 10
  · rw [if_pos c10] at h
    rw [c10, hc 10 (by decide) (by decide) h]
  rw [if_neg c10] at h
  by_cases c11 : w = wl 11
  · rw [if_pos c11] at h
    rw [c11, hc 11 (by decide) (by decide) h]
  rw [if_neg c11] at h
  by_cases c12 : w = wl 12
  · rw [if_pos c12] at h
    rw [c12, hc 12 (by decide) (by decide) h]
  rw [if_neg c12] at h
  exact absurd h.symm hk60
/-- the model's questions -/
theorem q_is {M : Mem} {x : Tx} {c k : Nat} (hT : TM M x) (hK : KD M x c) (h1 : 1 ≤ k) (hk : k < 13) : f_X11_is M k = some (if tT x c = cdN k then 1 else 0) := by
  obtain ⟨k1, k2, k3⟩ := hK
  have hcd : (10000 ≤ cdN k ∧ cdN k < 10006) ∨ (20256 ≤ cdN k ∧ cdN k ≤ 20263 ∧ cdN k ≠ 20259 ∧ cdN k ≠ 20260) := by
    unfold cdN
    split
    · omega
    · split <;> omega
  rcases k3 with ⟨q1, q2⟩ | ⟨q1, q2, q3⟩ | ⟨q1, q2⟩ | ⟨q1, q, q2, q3, q4, q5⟩ | ⟨q1, q2⟩
  · unfold f_X11_is
    rw [q1, if_neg (by decide), q2, if_neg (by omega)]
  · unfold f_X11_is
    rw [q1, if_neg (by decide), if_neg (by omega)]
  · have hE : tA x (c + 1) ≤ x.2 := tA_le x (c + 1)
    rw [is_m hT k1 k2 q1 (tkE_ge x (tS x c)) hE h1 hk]
    congr 1
    refine ifc ?_
    rw [q2]
    exact ⟨fun w => by rw [w, wc_cd k hk h1], fun w => wc_inj h1 hk w⟩
  · unfold f_X11_is
    rw [q1, if_neg (by decide), q4, if_neg (by omega)]
  · unfold f_X11_is
    rw [q1, if_neg (by decide), q2, if_neg (by omega)]
theorem q_sg {M : Mem} {x : Tx} {c q : Nat} (hK : KD M x c) (hq : q < 256) : f_X11_is_ M (nI q) = if tT x c = 20000 + q then 1 else 0 := by
  obtain ⟨k1, k2, k3⟩ := hK
  unfold f_X11_is_
  rcases k3 with ⟨q1, q2⟩ | ⟨q1, q2, q3⟩ | ⟨q1, q2⟩ | ⟨q1, q0, q2, q3, q4, q5⟩ | ⟨q1, q2⟩
  · rw [q1, if_neg (by decide), if_neg (by omega)]
  · rw [q1, if_neg (by decide), if_neg (by omega)]
  · have := wcN_rng (wd x (tS x c) (tA x (c + 1)))
    rw [q1, if_neg (by decide), if_neg (by omega)]
  · rw [if_pos q1, q4, q5]
    by_cases w : q0 = q
    · rw [if_pos (congrArg nI w), if_pos (by omega)]
    · rw [if_neg (show ¬ nI q0 = nI q from fun z => w ((nI_eq (by omega) (by omega)).mp z)), if_neg (by omega)]
  · rw [q1, if_neg (by decide), if_neg (by omega)]
theorem q_num {M : Mem} {x : Tx} {c : Nat} (hK : KD M x c) : (M 0 22 = 1 ↔ tT x c < 10000) ∧ (tT x c < 10000 → M 0 23 = nI (tT x c)) ∧ (M 0 22 = 0 ↔ tT x c = 20259) := by
  obtain ⟨k1, k2, k3⟩ := hK
  rcases k3 with ⟨q1, q2⟩ | ⟨q1, q2, q3⟩ | ⟨q1, q2⟩ | ⟨q1, q0, q2, q3, q4, q5⟩ | ⟨q1, q2⟩
  · rw [q1, q2]
    exact ⟨⟨fun w => absurd w (by decide), fun w => absurd w (by decide)⟩, fun w => absurd w (by decide), fun _ => rfl, fun _ => rfl⟩
  · rw [q1]
    exact ⟨⟨fun _ => q2, fun _ => rfl⟩, fun _ => q3, fun w => absurd w (by decide), fun w => absurd w (by omega)⟩
  · have := wcN_rng (wd x (tS x c) (tA x (c + 1)))
    rw [q1]
    exact ⟨⟨fun w => absurd w (by decide), fun w => absurd w (by omega)⟩, fun w => absurd w (by omega), fun w => absurd w (by decide), fun w => absurd w (by omega)⟩
  · rw [q1]
    exact ⟨⟨fun w => absurd w (by decide), fun w => absurd w (by omega)⟩, fun w => absurd w (by omega), fun w => absurd w (by decide), fun w => absurd w (by omega)⟩
  · rw [q1, q2]
    exact ⟨⟨fun w => absurd w (by decide), fun w => absurd w (by decide)⟩, fun w => absurd w (by decide), fun w => absurd w (by decide), fun w => absurd w (by decide)⟩
theorem q_name {M : Mem} {x : Tx} {c : Nat} (hT : TM M x) (hK : KD M x c) : f_X11_name M = some (if 10000 ≤ tT x c ∧ tT x c < 10006 then nI (tT x c - 9999) else 0) := by
  have q := fun (k : Nat) (h1 : 1 ≤ k) (hk : k < 13) => q_is hT hK h1 hk
  unfold f_X11_name
  rw [q 1 (by decide) (by decide), Option.bind_some]
  by_cases c1 : tT x c = cdN 1
  · rw [if_pos c1, if_neg t10, c1]
    rfl
  rw [if_neg c1, if_pos t00, q 2 (by decide) (by decide), Option.bind_some]
  by_cases c2 : tT x c = cdN 2
  · rw [if_pos c2, if_neg t10, c2]
    rfl
  rw [if_neg c2, if_pos t00, q 3 (by decide) (by decide), Option.bind_some]
  by_cases c3 : tT x c = cdN 3
  · rw [if_pos c3, if_neg t10, c3]
    rfl
  rw [if_neg c3, if_pos t00, q 4 (by decide) (by decide), Option.bind_some]
  by_cases c4 : tT x c = cdN 4
  · rw [if_pos c4, if_neg t10, c4]
    rfl
  rw [if_neg c4, if_pos t00, q 5 (by decide) (by decide), Option.bind_some]
  by_cases c5 : tT x c = cdN 5
  · rw [if_pos c5, if_neg t10, c5]
    rfl
  rw [if_neg c5, if_pos t00, q 6 (by decide) (by decide), Option.bind_some]
  by_cases c6 : tT x c = cdN 6
  · rw [if_pos c6, if_neg t10, c6]
    rfl
  rw [if_neg c6, if_pos t00, if_neg (fun w => by
    have e1 : cdN 1 = 10000 := rfl
    have e2 : cdN 2 = 10001 := rfl
    have e3 : cdN 3 = 10002 := rfl
    have e4 : cdN 4 = 10003 := rfl
    have e5 : cdN 5 = 10004 := rfl
    have e6 : cdN 6 = 10005 := rfl
    omega)]
