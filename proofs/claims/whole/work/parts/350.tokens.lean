/-! the tokens of a text, in numbers -/
theorem ifc {P Q : Prop} [Decidable P] [Decidable Q] {α : Type} {a b : α} (h : P ↔ Q) : (if P then a else b) = if Q then a else b := by
  by_cases c : P
  · rw [if_pos c, if_pos (h.mp c)]
  · rw [if_neg c, if_neg (fun w => c (h.mpr w))]
/-- from a on as far as P goes -/
def rnF (P : Nat → Bool) : Nat → Nat → Nat
  | 0, a => a
  | f + 1, a => if P a = true then rnF P f (a + 1) else a
def run (P : Nat → Bool) (n a : Nat) : Nat := rnF P (n - a) a
theorem run_yes {P : Nat → Bool} {n a : Nat} (h : P a = true) (hn : a < n) : run P n a = run P n (a + 1) := by
  unfold run
  rw [show n - a = (n - (a + 1)) + 1 by omega, rnF, if_pos h]
theorem run_no {P : Nat → Bool} {n a : Nat} (h : ¬ P a = true) : run P n a = a := by
  unfold run
  cases n - a with
  | zero => rfl
  | succ f => rw [rnF, if_neg h]
theorem rnF_b (P : Nat → Bool) : ∀ f a, a ≤ rnF P f a ∧ rnF P f a ≤ a + f ∧ ∀ j, a ≤ j → j < rnF P f a → P j = true := by
  intro f
  induction f with
  | zero => intro a; exact ⟨Nat.le_refl _, Nat.le_refl _, fun j h1 h2 => absurd h2 (by show ¬ j < a; omega)⟩
  | succ f ih =>
    intro a
    rw [rnF]
    by_cases c : P a = true
    · rw [if_pos c]
      obtain ⟨i1, i2, i3⟩ := ih (a + 1)
      refine ⟨by omega, by omega, fun j h1 h2 => ?_⟩
      by_cases cj : j = a
      · rw [cj]; exact c
      · exact i3 j (by omega) h2
    · rw [if_neg c]
      exact ⟨Nat.le_refl _, by omega, fun j h1 h2 => absurd h2 (by omega)⟩
theorem run_ge (P : Nat → Bool) (n a : Nat) : a ≤ run P n a := (rnF_b P _ a).1
theorem run_le {P : Nat → Bool} {n a : Nat} (h : a ≤ n) : run P n a ≤ n := by
  have := (rnF_b P (n - a) a).2.1
  unfold run
  omega
theorem run_in {P : Nat → Bool} {n a j : Nat} (h1 : a ≤ j) (h2 : j < run P n a) : P j = true := (rnF_b P _ a).2.2 j h1 h2
/-- a text: its bytes, its size -/
abbrev Tx : Type := (Nat → Nat) × Nat
def isB (c : Nat) : Bool := decide (c = 32) || decide (c = 10)
def isL (c : Nat) : Bool := decide (97 ≤ c) && decide (c ≤ 122)
def isD (c : Nat) : Bool := decide (48 ≤ c) && decide (c ≤ 57)
def isS (c : Nat) : Bool := decide (c = 40) || decide (c = 41) || decide (c = 59) || decide (c = 43) || decide (c = 45) || decide (c = 42) || decide (c = 60) || decide (c = 61)
def sk (x : Tx) (a : Nat) : Nat := run (fun j => isB (x.1 j)) x.2 a
def ltE (x : Tx) (a : Nat) : Nat := run (fun j => isL (x.1 j)) x.2 a
def dgE (x : Tx) (a : Nat) : Nat := run (fun j => isD (x.1 j)) x.2 a
def wlS : List (List Nat) := [[], [97, 115, 107, 101, 100], [116, 111, 108, 100], [104, 111, 117, 114], [119, 104, 111], [116, 101, 109, 112, 101, 114], [116, 104, 105, 110, 103], [100, 111], [116, 97, 107, 101], [99, 97, 114, 101], [111, 114], [97, 110, 100], [110, 111, 116]]
def wl (k : Nat) : List Nat := wlS.getD k []
def wd (x : Tx) (s t : Nat) : List Nat := (List.range (t - s)).map (fun i => x.1 (s + i))
def wcN (w : List Nat) : Nat := if w = wl 1 then 10000 else if w = wl 2 then 10001 else if w = wl 3 then 10002 else if w = wl 4 then 10003 else if w = wl 5 then 10004 else if w = wl 6 then 10005 else if w = wl 7 then 20261 else if w = wl 8 then 20262 else if w = wl 9 then 20263 else if w = wl 10 then 20256 else if w = wl 11 then 20257 else if w = wl 12 then 20258 else 20260
def nv (x : Tx) (s : Nat) : Nat → Nat
  | 0 => 0
  | k + 1 => 10 * nv x s k + (x.1 (s + k) - 48)
def tkE (x : Tx) (s : Nat) : Nat := if x.2 ≤ s then s else if isL (x.1 s) = true then ltE x s else if isD (x.1 s) = true then dgE x s else s + 1
def tkT (x : Tx) (s : Nat) : Nat := if x.2 ≤ s then 20259 else if isL (x.1 s) = true then wcN (wd x s (ltE x s)) else if isD (x.1 s) = true then (if dgE x s - s ≤ 4 then nv x s (dgE x s - s) else 20260) else if isS (x.1 s) = true then 20000 + x.1 s else 20260
/-- where the search for token c begins; its start, its end, what it is -/
def tA (x : Tx) : Nat → Nat
  | 0 => 0
  | c + 1 => tkE x (sk x (tA x c))
def tS (x : Tx) (c : Nat) : Nat := sk x (tA x c)
def tT (x : Tx) (c : Nat) : Nat := tkT x (tS x c)
theorem tA_s (x : Tx) (c : Nat) : tA x (c + 1) = tkE x (tS x c) := rfl
theorem tkE_ge (x : Tx) (s : Nat) : s ≤ tkE x s := by
  unfold tkE
  split
  · exact Nat.le_refl _
  · split
    · exact run_ge _ _ _
    · split
      · exact run_ge _ _ _
      · omega
theorem tkE_le {x : Tx} {s : Nat} (h : s ≤ x.2) : tkE x s ≤ x.2 := by
  unfold tkE
  split
  · omega
  · split
    · exact run_le h
    · split
      · exact run_le h
      · omega
theorem tkE_gt {x : Tx} {s : Nat} (h : s < x.2) : s < tkE x s := by
  unfold tkE
  rw [if_neg (by omega)]
  split
  · rename_i c
    unfold ltE
    rw [run_yes (P := fun j => isL (x.1 j)) c h]
    exact Nat.lt_of_lt_of_le (Nat.lt_succ_self s) (run_ge _ _ _)
  · split
    · rename_i c
      unfold dgE
      rw [run_yes (P := fun j => isD (x.1 j)) c h]
      exact Nat.lt_of_lt_of_le (Nat.lt_succ_self s) (run_ge _ _ _)
    · omega
theorem tA_le (x : Tx) : ∀ c, tA x c ≤ x.2 := by
  intro c
  induction c with
  | zero => exact Nat.zero_le _
  | succ c ih => exact tkE_le (run_le ih)
theorem tS_le (x : Tx) (c : Nat) : tS x c ≤ x.2 := run_le (tA_le x c)
theorem tS_ge (x : Tx) (c : Nat) : tA x c ≤ tS x c := run_ge _ _ _
theorem nv_lt {x : Tx} {s : Nat} : ∀ k, (∀ j, j < k → x.1 (s + j) ≤ 57) → nv x s k < 10 ^ k := by
  intro k
  induction k with
  | zero => intro _; exact Nat.one_pos
  | succ k ih =>
    intro h
    have := ih (fun j hj => h j (by omega))
    have := h k (by omega)
    rw [nv, Nat.pow_succ]
    omega
theorem nv_4 {x : Tx} {s k : Nat} (hk : k ≤ 4) (h : ∀ j, j < k → x.1 (s + j) ≤ 57) : nv x s k < 10000 := by
  have h1 := nv_lt k h
  have h2 : 10 ^ k ≤ 10 ^ 4 := Nat.pow_le_pow_right (by decide) hk
  omega
theorem wcN_rng (w : List Nat) : (10000 ≤ wcN w ∧ wcN w < 10006) ∨ (20256 ≤ wcN w ∧ wcN w ≤ 20263 ∧ wcN w ≠ 20259) := by
  unfold wcN
  repeat' split
  all_goals omega
/-- a token that is no end is before the end -/
theorem tT_end {x : Tx} {c : Nat} : tT x c = 20259 ↔ x.2 ≤ tS x c := by
  unfold tT tkT
  by_cases h : x.2 ≤ tS x c
  · rw [if_pos h]
    exact ⟨fun _ => h, fun _ => rfl⟩
  · rw [if_neg h]
    refine ⟨fun w => absurd w ?_, fun w => absurd w h⟩
    split
    · have := wcN_rng (wd x (tS x c) (ltE x (tS x c)))
      omega
    · split
      · rename_i h2 h3
        split
        · rename_i h4
          have := nv_4 (x := x) (s := tS x c) h4 (fun j hj => by
            have := run_in (P := fun j => isD (x.1 j)) (n := x.2) (a := tS x c) (j := tS x c + j) (by omega) (by unfold dgE at hj; omega)
            unfold isD at this
            rw [Bool.and_eq_true, decide_eq_true_eq, decide_eq_true_eq] at this
            exact this.2)
          omega
        · decide
      · split
        · rename_i h5
          unfold isS at h5
          simp only [Bool.or_eq_true, decide_eq_true_eq] at h5
          omega
        · decide
theorem tA_c {x : Tx} : ∀ c, (∀ j, j < c → tT x j ≠ 20259) → c ≤ tA x c := by
  intro c
  induction c with
  | zero => intro _; exact Nat.zero_le _
  | succ c ih =>
    intro h
    have h1 := ih (fun j hj => h j (by omega))
    have h2 := h c (Nat.lt_succ_self c)
    rw [Ne, tT_end] at h2
    have h3 := tS_ge x c
    have h4 := tkE_gt (x := x) (s := tS x c) (by omega)
    rw [tA_s]
    omega
theorem wd_eq {x : Tx} {s t : Nat} {w : List Nat} : wd x s t = w ↔ t - s = w.length ∧ ∀ j, j < w.length → x.1 (s + j) = w.getD j 0 := by
  unfold wd
  constructor
  · intro h
    subst h
    refine ⟨by simp, fun j hj => ?_⟩
    simp at hj
    simp [List.getD, hj]
  · rintro ⟨h1, h2⟩
    apply List.ext_getElem
    · simp [h1]
    · intro i h3 h4
      have := h2 i h4
      simp [List.getD, h4] at this
      simp [this]
/-- the bytes of the class's tape, the model's -/
def TX (M : Mem) (x : Tx) : Prop := x.2 ≤ 160 ∧ M 19 0 = nI x.2 ∧ ∀ i, i < x.2 → x.1 i < 256 ∧ M 58 i = nI (x.1 i)
def TM (M : Mem) (x : Tx) : Prop := x.2 ≤ 160 ∧ M 0 13 = nI x.2 ∧ ∀ i, i < x.2 → x.1 i < 256 ∧ M 11 i = nI (x.1 i)
theorem chr0 : ∀ k, k < 13 → ∀ i, i < (wl k).length → f_J0_charAt_5068e (fun _ _ => 0) k (nI i) = some (nI ((wl k).getD i 0)) := by decide +kernel
theorem chr {M : Mem} {k i : Nat} (hk : k < 13) (hi : i < (wl k).length) : f_J0_charAt_5068e M k (nI i) = some (nI ((wl k).getD i 0)) := chr0 k hk i hi
theorem len0 : ∀ k, k < 13 → 1 ≤ k → f_J0_length_8abf5 (fun _ _ => 0) k = nI (wl k).length := by decide +kernel
theorem len {M : Mem} {k : Nat} (h1 : 1 ≤ k) (hk : k < 13) : f_J0_length_8abf5 M k = nI (wl k).length := len0 k hk h1
theorem wl_len : ∀ k, k < 13 → (wl k).length ≤ 6 := by decide
theorem wl_byte : ∀ k, k < 13 → ∀ i, i < (wl k).length → (wl k).getD i 0 < 256 := by decide
theorem spl_x {M : Mem} {x : Tx} {s k : Nat} (hT : TX M x) (h1 : 1 ≤ k) (hk : k < 13) (hs : s + (wl k).length ≤ x.2) : ∀ (r i fu : Nat), i + r = (wl k).length → r < fu → f_X9_spells_17 M (nI s) k fu (nI i) = some (if (∀ j, j < (wl k).length → i ≤ j → x.1 (s + j) = (wl k).getD j 0) then 1 else 0) := by
  have h6 := wl_len k hk
  have hx := hT.1
  intro r
  induction r with
  | zero =>
    intro i fu hi hf
    obtain ⟨g, rfl⟩ : ∃ g, fu = g + 1 := ⟨fu - 1, by omega⟩
    rw [f_X9_spells_17, len h1 hk, if_pos (show nI (wl k).length ≤ nI i from (by simp (disch := omega) only [fa_lt, fa_le, fa_eq, nI_toInt, Int32.reduceToInt, im1] <;> omega)), if_pos (fun j h1 h2 => absurd h1 (by omega))]
  | succ r ih =>
    intro i fu hi hf
    obtain ⟨g, rfl⟩ : ∃ g, fu = g + 1 := ⟨fu - 1, by omega⟩
    have hb := wl_byte k hk i (by omega)
    obtain ⟨c1, c2⟩ := hT.2.2 (s + i) (by omega)
    rw [f_X9_spells_17, len h1 hk, if_neg (show ¬ nI (wl k).length ≤ nI i from (by simp (disch := omega) only [fa_lt, fa_le, fa_eq, nI_toInt, Int32.reduceToInt, im1] <;> omega)), nI_add, if_pos (iblt (show s + i < 160 by omega) (by decide)), chr hk (by omega), Option.bind_some, nI_clamp (by omega), c2, nI_1, ih (i + 1) g (by omega) (by omega)]
    by_cases c : x.1 (s + i) = (wl k).getD i 0
    · rw [if_pos (congrArg nI c)]
      congr 1
      refine ifc ⟨fun w j h3 h4 => ?_, fun w j h3 h4 => w j h3 (by omega)⟩
      by_cases cj : j = i
      · rw [cj]; exact c
      · exact w j h3 (by omega)
    · rw [if_neg (show ¬ nI (x.1 (s + i)) = nI ((wl k).getD i 0) from fun w => c ((nI_eq (by omega) (by omega)).mp w)), if_neg (fun w => c (w i (by omega) (Nat.le_refl _)))]
theorem spells_x {M : Mem} {x : Tx} {s t k : Nat} (hT : TX M x) (h4 : M 19 4 = nI t) (hst : s ≤ t) (ht : t ≤ x.2) (h1 : 1 ≤ k) (hk : k < 13) : f_X9_spells M (nI s) k = some (if wd x s t = wl k then 1 else 0) := by
  have h6 := wl_len k hk
  have hx := hT.1
  unfold f_X9_spells
  rw [h4, pk_sub hst, len h1 hk]
  by_cases c : t - s = (wl k).length
  · rw [if_pos (congrArg nI c)]
    have := spl_x hT h1 hk (s := s) (by omega) (wl k).length 0 FU (by omega) (by rw [FU_eq]; omega)
    rw [show f_X9_spells_17 M (nI s) k FU 0 = _ from this]
    congr 1
    refine ifc ?_
    rw [wd_eq]
    exact ⟨fun w => ⟨c, fun j hj => w j hj (Nat.zero_le _)⟩, fun w j hj _ => w.2 j hj⟩
  · rw [if_neg (show ¬ nI (t - s) = nI (wl k).length from fun w => c ((nI_eq (by omega) (by omega)).mp w)), if_neg (fun w => c (wd_eq.mp w).1)]
theorem spl_m {M : Mem} {x : Tx} {s k : Nat} (hT : TM M x) (h21 : M 0 21 = nI s) (h1 : 1 ≤ k) (hk : k < 13) (hs : s + (wl k).length ≤ x.2) : ∀ (r i fu : Nat), i + r = (wl k).length → r < fu → f_X11_is_28 M k fu (nI i) = some (if (∀ j, j < (wl k).length → i ≤ j → x.1 (s + j) = (wl k).getD j 0) then 1 else 0) := by
  have h6 := wl_len k hk
  have hx := hT.1
  intro r
  induction r with
  | zero =>
    intro i fu hi hf
    obtain ⟨g, rfl⟩ : ∃ g, fu = g + 1 := ⟨fu - 1, by omega⟩
    rw [f_X11_is_28, len h1 hk, if_pos (show nI (wl k).length ≤ nI i from (by simp (disch := omega) only [fa_lt, fa_le, fa_eq, nI_toInt, Int32.reduceToInt, im1] <;> omega)), if_pos (fun j h1 h2 => absurd h1 (by omega))]
  | succ r ih =>
    intro i fu hi hf
    obtain ⟨g, rfl⟩ : ∃ g, fu = g + 1 := ⟨fu - 1, by omega⟩
    have hb := wl_byte k hk i (by omega)
    obtain ⟨c1, c2⟩ := hT.2.2 (s + i) (by omega)
    rw [f_X11_is_28, len h1 hk, if_neg (show ¬ nI (wl k).length ≤ nI i from (by simp (disch := omega) only [fa_lt, fa_le, fa_eq, nI_toInt, Int32.reduceToInt, im1] <;> omega)), h21, nI_add, if_pos (iblt (show s + i < 160 by omega) (by decide)), chr hk (by omega), Option.bind_some, nI_clamp (by omega), c2, nI_1, ih (i + 1) g (by omega) (by omega)]
    by_cases c : x.1 (s + i) = (wl k).getD i 0
    · rw [if_pos (congrArg nI c)]
      congr 1
      refine ifc ⟨fun w j h3 h4 => ?_, fun w j h3 h4 => w j h3 (by omega)⟩
      by_cases cj : j = i
      · rw [cj]; exact c
      · exact w j h3 (by omega)
    · rw [if_neg (show ¬ nI (x.1 (s + i)) = nI ((wl k).getD i 0) from fun w => c ((nI_eq (by omega) (by omega)).mp w)), if_neg (fun w => c (w i (by omega) (Nat.le_refl _)))]
theorem is_m {M : Mem} {x : Tx} {s t k : Nat} (hT : TM M x) (h20 : M 0 20 = nI t) (h21 : M 0 21 = nI s) (h22 : M 0 22 = 2) (hst : s ≤ t) (ht : t ≤ x.2) (h1 : 1 ≤ k) (hk : k < 13) : f_X11_is M k = some (if wd x s t = wl k then 1 else 0) := by
  have h6 := wl_len k hk
  have hx := hT.1
  unfold f_X11_is
  rw [if_pos h22, h20, h21, pk_sub hst, len h1 hk]
  by_cases c : t - s = (wl k).length
  · rw [if_pos (congrArg nI c)]
    have := spl_m hT h21 h1 hk (s := s) (by omega) (wl k).length 0 FU (by omega) (by rw [FU_eq]; omega)
    rw [show f_X11_is_28 M k FU 0 = _ from this]
    congr 1
    refine ifc ?_
    rw [wd_eq]
    exact ⟨fun w => ⟨c, fun j hj => w j hj (Nat.zero_le _)⟩, fun w j hj _ => w.2 j hj⟩
  · rw [if_neg (show ¬ nI (t - s) = nI (wl k).length from fun w => c ((nI_eq (by omega) (by omega)).mp w)), if_neg (fun w => c (wd_eq.mp w).1)]
