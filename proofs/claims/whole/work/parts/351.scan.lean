theorem small_x {c : Nat} (hc : c < 256) : f_X9_isSmall (nI c) = if isL c = true then 1 else 0 := by
  unfold f_X9_isSmall isL
  by_cases h1 : 97 ≤ c
  · rw [if_neg (show ¬ nI c < 97 from (by simp (disch := omega) only [fa_lt, fa_le, fa_eq, nI_toInt, Int32.reduceToInt, im1] <;> omega)), decide_eq_true h1, Bool.true_and]
    by_cases h2 : c ≤ 122
    · rw [if_neg (show ¬ 122 < nI c from (by simp (disch := omega) only [fa_lt, fa_le, fa_eq, nI_toInt, Int32.reduceToInt, im1] <;> omega)), decide_eq_true h2, if_pos rfl]
    · rw [if_pos (show 122 < nI c from (by simp (disch := omega) only [fa_lt, fa_le, fa_eq, nI_toInt, Int32.reduceToInt, im1] <;> omega)), decide_eq_false h2, if_neg (by decide)]
  · rw [if_pos (show nI c < 97 from (by simp (disch := omega) only [fa_lt, fa_le, fa_eq, nI_toInt, Int32.reduceToInt, im1] <;> omega)), decide_eq_false h1, Bool.false_and, if_neg (by decide)]
theorem digit_x {c : Nat} (hc : c < 256) : f_X9_isDigit (nI c) = if isD c = true then 1 else 0 := by
  unfold f_X9_isDigit isD
  by_cases h1 : 48 ≤ c
  · rw [if_neg (show ¬ nI c < 48 from (by simp (disch := omega) only [fa_lt, fa_le, fa_eq, nI_toInt, Int32.reduceToInt, im1] <;> omega)), decide_eq_true h1, Bool.true_and]
    by_cases h2 : c ≤ 57
    · rw [if_neg (show ¬ 57 < nI c from (by simp (disch := omega) only [fa_lt, fa_le, fa_eq, nI_toInt, Int32.reduceToInt, im1] <;> omega)), decide_eq_true h2, if_pos rfl]
    · rw [if_pos (show 57 < nI c from (by simp (disch := omega) only [fa_lt, fa_le, fa_eq, nI_toInt, Int32.reduceToInt, im1] <;> omega)), decide_eq_false h2, if_neg (by decide)]
  · rw [if_pos (show nI c < 48 from (by simp (disch := omega) only [fa_lt, fa_le, fa_eq, nI_toInt, Int32.reduceToInt, im1] <;> omega)), decide_eq_false h1, Bool.false_and, if_neg (by decide)]
theorem sign_x : ∀ c, c < 256 → f_X9_isSign (nI c) = some (if isS c = true then 1 else 0) := by decide +kernel
theorem TX.at {M : Mem} {x : Tx} {a : Nat} (h : TX M x) : TX (upd2 M 19 4 (nI a)) x := ⟨h.1, by rw [u2t (by decide)]; exact h.2.1, fun i hi => by rw [u2n (by decide)]; exact h.2.2 i hi⟩
theorem at_at (M : Mem) (a b : Int32) : upd2 (upd2 M 19 4 a) 19 4 b = upd2 M 19 4 b := u22 M 19 4 a b
theorem blank_b {c : Nat} (hc : c < 256) : isB c = true ↔ (nI c = 32 ∨ nI c = 10) := by
  unfold isB
  rw [Bool.or_eq_true, decide_eq_true_eq, decide_eq_true_eq]
  constructor
  · rintro (h | h)
    · exact Or.inl (by rw [h]; rfl)
    · exact Or.inr (by rw [h]; rfl)
  · rintro (h | h)
    · exact Or.inl ((nI_eq (b := 32) (by omega) (by decide)).mp h)
    · exact Or.inr ((nI_eq (b := 10) (by omega) (by decide)).mp h)
theorem skip_x {x : Tx} : ∀ (r a fu : Nat) (M : Mem), TX M x → M 19 4 = nI a → a + r = x.2 → r < fu → f_X9_skipBlanks_0 fu M = some (upd2 M 19 4 (nI (sk x a))) := by
  intro r
  induction r with
  | zero =>
    intro a fu M hT h4 ha hf
    obtain ⟨g, rfl⟩ : ∃ g, fu = g + 1 := ⟨fu - 1, by omega⟩
    have hx := hT.1
    have e : sk x a = a := by unfold sk run; rw [show x.2 - a = 0 by omega]; rfl
    rw [f_X9_skipBlanks_0, hT.2.1, h4, if_pos (show nI x.2 ≤ nI a from (by simp (disch := omega) only [fa_lt, fa_le, fa_eq, nI_toInt, Int32.reduceToInt, im1] <;> omega)), e, ← h4, u2id]
  | succ r ih =>
    intro a fu M hT h4 ha hf
    obtain ⟨g, rfl⟩ : ∃ g, fu = g + 1 := ⟨fu - 1, by omega⟩
    have hx := hT.1
    obtain ⟨c1, c2⟩ := hT.2.2 a (by omega)
    rw [f_X9_skipBlanks_0, hT.2.1, h4, if_neg (show ¬ nI x.2 ≤ nI a from (by simp (disch := omega) only [fa_lt, fa_le, fa_eq, nI_toInt, Int32.reduceToInt, im1] <;> omega)), nI_1]
    simp only [if_pos (iblt (show a < 160 by omega) (by decide)), nI_clamp (show a < 2 ^ 31 by omega), c2]
    have go := ih (a + 1) g (upd2 M 19 4 (nI (a + 1))) hT.at u2s (by omega) (by omega)
    rw [at_at] at go
    by_cases cb : isB (x.1 a) = true
    · have e : sk x a = sk x (a + 1) := run_yes (P := fun j => isB (x.1 j)) cb (by omega)
      rw [e]
      rcases (blank_b c1).mp cb with h | h
      · rw [if_pos h]
        exact go
      · by_cases h2 : nI (x.1 a) = 32
        · rw [if_pos h2]
          exact go
        · rw [if_neg h2, if_pos h]
          exact go
    · have e : sk x a = a := run_no (P := fun j => isB (x.1 j)) cb
      rw [if_neg (fun w => cb ((blank_b c1).mpr (Or.inl w))), if_neg (fun w => cb ((blank_b c1).mpr (Or.inr w))), e, ← h4, u2id]
theorem word_x {x : Tx} {s0 : Int32} {K : Mem → Option (Int32 × Mem)} : ∀ (r a fu : Nat) (M : Mem), TX M x → M 19 4 = nI a → a + r = x.2 → r < fu → f_X9_wordToken_0 s0 K fu M = K (upd2 M 19 4 (nI (ltE x a))) := by
  intro r
  induction r with
  | zero =>
    intro a fu M hT h4 ha hf
    obtain ⟨g, rfl⟩ : ∃ g, fu = g + 1 := ⟨fu - 1, by omega⟩
    have hx := hT.1
    have e : ltE x a = a := by unfold ltE run; rw [show x.2 - a = 0 by omega]; rfl
    rw [f_X9_wordToken_0, hT.2.1, h4, if_pos (show nI x.2 ≤ nI a from (by simp (disch := omega) only [fa_lt, fa_le, fa_eq, nI_toInt, Int32.reduceToInt, im1] <;> omega)), e, ← h4, u2id]
  | succ r ih =>
    intro a fu M hT h4 ha hf
    obtain ⟨g, rfl⟩ : ∃ g, fu = g + 1 := ⟨fu - 1, by omega⟩
    have hx := hT.1
    obtain ⟨c1, c2⟩ := hT.2.2 a (by omega)
    rw [f_X9_wordToken_0, hT.2.1, h4, if_neg (show ¬ nI x.2 ≤ nI a from (by simp (disch := omega) only [fa_lt, fa_le, fa_eq, nI_toInt, Int32.reduceToInt, im1] <;> omega)), if_pos (iblt (show a < 160 by omega) (by decide)), nI_clamp (show a < 2 ^ 31 by omega), c2, nI_1, small_x c1]
    by_cases cb : isL (x.1 a) = true
    · have e : ltE x a = ltE x (a + 1) := run_yes (P := fun j => isL (x.1 j)) cb (by omega)
      rw [if_pos cb, if_neg t10, e]
      have go := ih (a + 1) g (upd2 M 19 4 (nI (a + 1))) hT.at u2s (by omega) (by omega)
      rw [at_at] at go
      exact go
    · have e : ltE x a = a := run_no (P := fun j => isL (x.1 j)) cb
      rw [if_neg cb, if_pos t00, e, ← h4, u2id]
theorem num_x {x : Tx} {s : Nat} : ∀ (r a fu : Nat) (v : Int32) (M : Mem), TX M x → s ≤ a → M 19 4 = nI a → a + r = x.2 → r < fu → (a - s ≤ 4 → v = nI (nv x s (a - s))) → f_X9_numberToken_2 (nI s) fu v M = some (if dgE x a - s ≤ 4 then nI (nv x s (dgE x a - s)) else 20260, upd2 M 19 4 (nI (dgE x a))) := by
  intro r
  induction r with
  | zero =>
    intro a fu v M hT hs h4 ha hf hv
    obtain ⟨g, rfl⟩ : ∃ g, fu = g + 1 := ⟨fu - 1, by omega⟩
    have hx := hT.1
    have e : dgE x a = a := by unfold dgE run; rw [show x.2 - a = 0 by omega]; rfl
    rw [f_X9_numberToken_2, hT.2.1, h4, if_pos (show nI x.2 ≤ nI a from (by simp (disch := omega) only [fa_lt, fa_le, fa_eq, nI_toInt, Int32.reduceToInt, im1] <;> omega)), e, pk_sub hs, ← h4, u2id]
    by_cases c : a - s ≤ 4
    · rw [if_pos (show nI (a - s) ≤ 4 from (by simp (disch := omega) only [fa_lt, fa_le, fa_eq, nI_toInt, Int32.reduceToInt, im1] <;> omega)), if_pos c, hv c]
    · rw [if_neg (show ¬ nI (a - s) ≤ 4 from (by simp (disch := omega) only [fa_lt, fa_le, fa_eq, nI_toInt, Int32.reduceToInt, im1] <;> omega)), if_neg c]
  | succ r ih =>
    intro a fu v M hT hs h4 ha hf hv
    obtain ⟨g, rfl⟩ : ∃ g, fu = g + 1 := ⟨fu - 1, by omega⟩
    have hx := hT.1
    obtain ⟨c1, c2⟩ := hT.2.2 a (by omega)
    rw [f_X9_numberToken_2, hT.2.1, h4, if_neg (show ¬ nI x.2 ≤ nI a from (by simp (disch := omega) only [fa_lt, fa_le, fa_eq, nI_toInt, Int32.reduceToInt, im1] <;> omega))]
    simp only [if_pos (iblt (show a < 160 by omega) (by decide)), nI_clamp (show a < 2 ^ 31 by omega), c2, nI_1, digit_x c1, pk_sub hs]
    by_cases cb : isD (x.1 a) = true
    · have e : dgE x a = dgE x (a + 1) := run_yes (P := fun j => isD (x.1 j)) cb (by omega)
      rw [if_pos cb, if_neg t10, e]
      have go := ih (a + 1) g (10 * v + nI (x.1 a) - 48) (upd2 M 19 4 (nI (a + 1))) hT.at (by omega) u2s (by omega) (by omega) (fun h => by
        have w1 := hv (by omega)
        have hd : 48 ≤ x.1 a ∧ x.1 a ≤ 57 := by
          unfold isD at cb
          rw [Bool.and_eq_true, decide_eq_true_eq, decide_eq_true_eq] at cb
          exact cb
        have hn : nv x s (a + 1 - s) = 10 * nv x s (a - s) + (x.1 a - 48) := by
          rw [show a + 1 - s = (a - s) + 1 by omega, nv, show s + (a - s) = a by omega]
        rw [w1, hn, show (10 : Int32) * nI (nv x s (a - s)) = nI (10 * nv x s (a - s)) from pk_mul 10 _, nI_add, show (48 : Int32) = nI 48 from rfl, pk_sub (by omega)]
        exact congrArg nI (by omega))
      rw [at_at] at go
      exact go
    · have e : dgE x a = a := run_no (P := fun j => isD (x.1 j)) cb
      rw [if_neg cb, if_pos t00, e, ← h4, u2id]
      by_cases c : a - s ≤ 4
      · rw [if_pos (show nI (a - s) ≤ 4 from (by simp (disch := omega) only [fa_lt, fa_le, fa_eq, nI_toInt, Int32.reduceToInt, im1] <;> omega)), if_pos c, hv c]
      · rw [if_neg (show ¬ nI (a - s) ≤ 4 from (by simp (disch := omega) only [fa_lt, fa_le, fa_eq, nI_toInt, Int32.reduceToInt, im1] <;> omega)), if_neg c]
theorem wtok_x {x : Tx} {s : Nat} {M : Mem} (hT : TX M x) (h4 : M 19 4 = nI s) (hs : s ≤ x.2) : f_X9_wordToken M (nI s) = some (nI (wcN (wd x s (ltE x s))), upd2 M 19 4 (nI (ltE x s))) := by
  unfold f_X9_wordToken
  rw [word_x (x.2 - s) s FU M hT h4 (by omega) (by rw [FU_eq]; have := hT.1; omega)]
  have hT2 : TX (upd2 M 19 4 (nI (ltE x s))) x := hT.at
  have sp := fun (k : Nat) (h1 : 1 ≤ k) (hk : k < 13) => spells_x (k := k) hT2 u2s (run_ge _ _ _ : s ≤ ltE x s) (run_le hs) h1 hk
  rw [sp 1 (by decide) (by decide), Option.bind_some]
  unfold wcN
  by_cases c1 : wd x s (ltE x s) = wl 1
  · rw [if_pos c1, if_neg t10, if_pos c1]
    rfl
  rw [if_neg c1, if_pos t00, if_neg c1, sp 2 (by decide) (by decide), Option.bind_some]
  by_cases c2 : wd x s (ltE x s) = wl 2
  · rw [if_pos c2, if_neg t10, if_pos c2]
    rfl
  rw [if_neg c2, if_pos t00, if_neg c2, sp 3 (by decide) (by decide), Option.bind_some]
  by_cases c3 : wd x s (ltE x s) = wl 3
  · rw [if_pos c3, if_neg t10, if_pos c3]
    rfl
  rw [if_neg c3, if_pos t00, if_neg c3, sp 4 (by decide) (by decide), Option.bind_some]
  by_cases c4 : wd x s (ltE x s) = wl 4
  · rw [if_pos c4, if_neg t10, if_pos c4]
    rfl
  rw [if_neg c4, if_pos t00, if_neg c4, sp 5 (by decide) (by decide), Option.bind_some]
  by_cases c5 : wd x s (ltE x s) = wl 5
  · rw [if_pos c5, if_neg t10, if_pos c5]
    rfl
  rw [if_neg c5, if_pos t00, if_neg c5, sp 6 (by decide) (by decide), Option.bind_some]
  by_cases c6 : wd x s (ltE x s) = wl 6
  · rw [if_pos c6, if_neg t10, if_pos c6]
    rfl
  rw [if_neg c6, if_pos t00, if_neg c6, sp 7 (by decide) (by decide), Option.bind_some]
  by_cases c7 : wd x s (ltE x s) = wl 7
  · rw [if_pos c7, if_neg t10, if_pos c7]
    rfl
  rw [if_neg c7, if_pos t00, if_neg c7, sp 8 (by decide) (by decide), Option.bind_some]
  by_cases c8 : wd x s (ltE x s) = wl 8
  · rw [if_pos c8, if_neg t10, if_pos c8]
    rfl
  rw [if_neg c8, if_pos t00, if_neg c8, sp 9 (by decide) (by decide), Option.bind_some]
  by_cases c9 : wd x s (ltE x s) = wl 9
  · rw [if_pos c9, if_neg t10, if_pos c9]
    rfl
  rw [if_neg c9, if_pos t00, if_neg c9, sp 10 (by decide) (by decide), Option.bind_some]
  by_cases c10 : wd x s (ltE x s) = wl 10
  · rw [if_pos c10, if_neg t10, if_pos c10]
    rfl
  rw [if_neg c10, if_pos t00, if_neg c10, sp 11 (by decide) (by decide), Option.bind_some]
  by_cases c11 : wd x s (ltE x s) = wl 11
  · rw [if_pos c11, if_neg t10, if_pos c11]
    rfl
  rw [if_neg c11, if_pos t00, if_neg c11, sp 12 (by decide) (by decide), Option.bind_some]
  by_cases c12 : wd x s (ltE x s) = wl 12
  · rw [if_pos c12, if_neg t10, if_pos c12]
    rfl
  rw [if_neg c12, if_pos t00, if_neg c12]
  rfl
theorem tok_x {x : Tx} {s : Nat} {M : Mem} (hT : TX M x) (h4 : M 19 4 = nI s) (hs : s ≤ x.2) : f_X9_nextToken M (nI s) = some (nI (tkT x s), upd2 M 19 4 (nI (tkE x s))) := by
  have hx := hT.1
  unfold f_X9_nextToken tkT tkE
  rw [hT.2.1]
  by_cases c : x.2 ≤ s
  · rw [if_neg (show ¬ nI s < nI x.2 from (by simp (disch := omega) only [fa_lt, fa_le, fa_eq, nI_toInt, Int32.reduceToInt, im1] <;> omega)), if_pos c, if_pos c, ← h4, u2id]
    rfl
  · obtain ⟨c1, c2⟩ := hT.2.2 s (by omega)
    rw [if_pos (show nI s < nI x.2 from (by simp (disch := omega) only [fa_lt, fa_le, fa_eq, nI_toInt, Int32.reduceToInt, im1] <;> omega)), if_neg c, if_neg c, if_pos (iblt (show s < 160 by omega) (by decide)), nI_clamp (by omega), c2, small_x c1, h4, nI_1]
    by_cases cl : isL (x.1 s) = true
    · rw [if_pos cl, if_neg t10, if_pos cl, if_pos cl, wtok_x hT h4 hs, Option.bind_some]
    · rw [if_neg cl, if_pos t00, if_neg cl, if_neg cl, digit_x c1]
      by_cases cd : isD (x.1 s) = true
      · rw [if_pos cd, if_neg t10, if_pos cd, if_pos cd]
        unfold f_X9_numberToken
        rw [num_x (s := s) (x.2 - s) s FU 0 M hT (Nat.le_refl _) h4 (by omega) (by rw [FU_eq]; omega) (fun _ => by rw [Nat.sub_self]; rfl), Option.bind_some]
        by_cases c4 : dgE x s - s ≤ 4
        · rw [if_pos c4, if_pos c4]
        · rw [if_neg c4, if_neg c4]
          rfl
      · rw [if_neg cd, if_pos t00, if_neg cd, if_neg cd, sign_x _ c1, Option.bind_some]
        by_cases cs : isS (x.1 s) = true
        · rw [if_pos cs, if_neg t10, if_pos cs, show (20000 : Int32) = nI 20000 from rfl, nI_add]
        · rw [if_neg cs, if_pos t00, if_neg cs]
          rfl
theorem tT_lt (x : Tx) (hb : ∀ i, i < x.2 → x.1 i < 256) (c : Nat) : tT x c < 20300 := by
  unfold tT tkT
  split
  · omega
  · rename_i h0
    split
    · have := wcN_rng (wd x (tS x c) (ltE x (tS x c)))
      omega
    · split
      · split
        · rename_i h4
          have := nv_4 (x := x) (s := tS x c) h4 (fun j hj => by
            have := run_in (P := fun j => isD (x.1 j)) (n := x.2) (a := tS x c) (j := tS x c + j) (by omega) (by unfold dgE at hj; omega)
            unfold isD at this
            rw [Bool.and_eq_true, decide_eq_true_eq, decide_eq_true_eq] at this
            exact this.2)
          omega
        · omega
      · split
        · have := hb (tS x c) (by omega)
          omega
        · omega
/-- the class's tokens as far as the last -/
def TK (M : Mem) (x : Tx) (la : Nat) : Prop := la ≤ 160 ∧ (∀ c, c ≤ la → M 59 c = nI (tT x c) ∧ M 74 c = nI (tS x c)) ∧ (tT x la = 20259 ∨ tT x la = 20260) ∧ ∀ c, c < la → tT x c ≠ 20259 ∧ tT x c ≠ 20260
theorem scan_loop {x : Tx} {X : Mem} : ∀ (r k fu : Nat) (M : Mem), k + r = 161 → r < fu → TX M x → M 19 4 = nI (tA x k) → (∀ c, c < k → M 59 c = nI (tT x c) ∧ M 74 c = nI (tS x c)) → (∀ c, c < k → tT x c ≠ 20259 ∧ tT x c ≠ 20260) → (∀ c, c ≠ 19 → c ≠ 59 → c ≠ 74 → M c = X c) → (∀ j, j ≠ 4 → M 19 j = X 19 j) → ∃ Y la, f_X9_scan_7 fu (nI k) M = some Y ∧ TK Y x la ∧ (∀ c, c ≠ 19 → c ≠ 59 → c ≠ 74 → Y c = X c) ∧ ∀ j, j ≠ 4 → Y 19 j = X 19 j := by
  intro r
  induction r with
  | zero =>
    intro k fu M hk hf hT h4 ht hn h1 h2
    have := tA_c (x := x) k (fun j hj => (hn j hj).1)
    have := tA_le x k
    have := hT.1
    omega
  | succ r ih =>
    intro k fu M hk hf hT h4 ht hn h1 h2
    obtain ⟨g, rfl⟩ : ∃ g, fu = g + 1 := ⟨fu - 1, by omega⟩
    have hx := hT.1
    have a1 := tA_le x k
    rw [f_X9_scan_7, if_neg (show ¬ 160 < nI k from (by simp (disch := omega) only [fa_lt, fa_le, fa_eq, nI_toInt, Int32.reduceToInt, im1] <;> omega))]
    unfold f_X9_skipBlanks
    rw [skip_x (x.2 - tA x k) (tA x k) FU M hT h4 (by omega) (by rw [FU_eq]; omega), Option.bind_some]
    rw [show sk x (tA x k) = tS x k from rfl]
    simp only [if_pos (iblt (show k < 161 by omega) (by decide)), nI_clamp (show k < 2 ^ 31 by omega), u2s, u2n (show (19 : Nat) ≠ 74 by decide)]
    have hTB : TX (upd2 (upd2 M 19 4 (nI (tS x k))) 74 k (nI (tS x k))) x := ⟨hT.1, by rw [u2n (by decide), u2t (by decide)]; exact hT.2.1, fun i hi => by rw [u2n (by decide), u2n (by decide)]; exact hT.2.2 i hi⟩
    rw [tok_x hTB (by rw [u2n (by decide), u2s]) (tS_le x k), Option.bind_some]
    simp only [u2s, nI_1]
    rw [show tkT x (tS x k) = tT x k from rfl, show tkE x (tS x k) = tA x (k + 1) from rfl]
    have hlt := tT_lt x (fun i hi => (hT.2.2 i hi).1) k
    have fr : ∀ c, c ≠ 19 → c ≠ 59 → c ≠ 74 → (upd2 (upd2 (upd2 (upd2 M 19 4 (nI (tS x k))) 74 k (nI (tS x k))) 19 4 (nI (tA x (k + 1)))) 59 k (nI (tT x k))) c = X c := fun c q1 q2 q3 => by
      rw [u2n q2, u2n q1, u2n q3, u2n q1]
      exact h1 c q1 q2 q3
    have fr2 : ∀ j, j ≠ 4 → (upd2 (upd2 (upd2 (upd2 M 19 4 (nI (tS x k))) 74 k (nI (tS x k))) 19 4 (nI (tA x (k + 1)))) 59 k (nI (tT x k))) 19 j = X 19 j := fun j hj => by
      rw [u2n (by decide), u2t hj, u2n (by decide), u2t hj]
      exact h2 j hj
    have tk : ∀ c, c ≤ k → (upd2 (upd2 (upd2 (upd2 M 19 4 (nI (tS x k))) 74 k (nI (tS x k))) 19 4 (nI (tA x (k + 1)))) 59 k (nI (tT x k))) 59 c = nI (tT x c) ∧ (upd2 (upd2 (upd2 (upd2 M 19 4 (nI (tS x k))) 74 k (nI (tS x k))) 19 4 (nI (tA x (k + 1)))) 59 k (nI (tT x k))) 74 c = nI (tS x c) := fun c hc => by
      by_cases ck : c = k
      · subst ck
        exact ⟨u2s, by rw [u2n (by decide), u2n (by decide), u2s]⟩
      · rw [u2t ck, u2n (by decide), u2n (by decide), u2n (by decide), u2n (by decide), u2n (by decide), u2t ck, u2n (by decide)]
        exact ht c (by omega)
    by_cases c1 : tT x k = 20259
    · rw [if_pos (show nI (tT x k) = 20259 by rw [c1]; rfl)]
      exact ⟨_, k, rfl, ⟨by omega, tk, Or.inl c1, hn⟩, fr, fr2⟩
    · rw [if_neg (show ¬ nI (tT x k) = 20259 from fun w => c1 ((nI_eq (b := 20259) (by omega) (by decide)).mp w))]
      by_cases c2 : tT x k = 20260
      · rw [if_pos (show nI (tT x k) = 20260 by rw [c2]; rfl)]
        exact ⟨_, k, rfl, ⟨by omega, tk, Or.inr c2, hn⟩, fr, fr2⟩
      · rw [if_neg (show ¬ nI (tT x k) = 20260 from fun w => c2 ((nI_eq (b := 20260) (by omega) (by decide)).mp w))]
        refine ih (k + 1) g _ (by omega) (by omega) ⟨hT.1, ?_, fun i hi => ?_⟩ (by rw [u2n (by decide), u2s]) (fun c hc => tk c (by omega)) (fun c hc => ?_) fr fr2
        · rw [u2n (by decide), u2t (by decide), u2n (by decide), u2t (by decide)]
          exact hT.2.1
        · rw [u2n (by decide), u2n (by decide), u2n (by decide), u2n (by decide)]
          exact hT.2.2 i hi
        · by_cases ck : c = k
          · rw [ck]
            exact ⟨c1, c2⟩
          · exact hn c (by omega)
theorem scn_ok {X : Mem} {x : Tx} (hT : TX X x) : ∃ Y la, f_X9_scan X = some Y ∧ TK Y x la ∧ (∀ c, c ≠ 19 → c ≠ 59 → c ≠ 74 → Y c = X c) ∧ ∀ j, j ≠ 4 → Y 19 j = X 19 j := by
  unfold f_X9_scan
  exact scan_loop 161 0 FU (upd2 X 19 4 0) (by omega) (by rw [FU_eq]; omega) hT.at u2s (fun c h => absurd h (Nat.not_lt_zero _)) (fun c h => absurd h (Nat.not_lt_zero _)) (fun c h1 h2 h3 => u2n h1) (fun j hj => u2t hj)
