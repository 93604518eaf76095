/-! what the pure side needs of numbers and memories -/
theorem u2 (M : Mem) (i k : Nat) (v : Int32) (j q : Nat) : upd2 M i k v j q = if j = i then (if q = k then v else M i q) else M j q := by
  unfold upd2
  by_cases h : j = i
  · rw [if_pos h, if_pos h]
    rfl
  · rw [if_neg h, if_neg h]
theorem u2n {M : Mem} {i k : Nat} {v : Int32} {j : Nat} (h : j ≠ i) : upd2 M i k v j = M j := upd2_ne M k v h
theorem u2s {M : Mem} {i k : Nat} {v : Int32} : upd2 M i k v i k = v := by rw [u2, if_pos rfl, if_pos rfl]
theorem u2t {M : Mem} {i k q : Nat} {v : Int32} (h : q ≠ k) : upd2 M i k v i q = M i q := by rw [u2, if_pos rfl, if_neg h]
theorem u2q {M : Mem} {i k : Nat} {v : Int32} {j q : Nat} (h : q ≠ k) : upd2 M i k v j q = M j q := by
  rw [u2]
  by_cases c : j = i
  · rw [if_pos c, if_neg h, c]
  · rw [if_neg c]
theorem iblt {k n : Nat} (hk : k < n) (hn : n < 2 ^ 31) : ibd (nI k) n := by
  unfold ibd
  rw [nI_toInt (by omega)]
  omega
theorem iT {n : Nat} (h : n < 2 ^ 31) : (OfNat.ofNat n : Int32).toInt = (n : Int) := nI_toInt h
/-- an int is a small number or none -/
theorem cl (a : Int32) (n : Nat) (hn : n < 2 ^ 31) : (∃ j, j < n ∧ a = nI j) ∨ (a.toInt < 0 ∨ (n : Int) ≤ a.toInt) := by
  by_cases h : 0 ≤ a.toInt ∧ a.toInt < n
  · refine Or.inl ⟨a.toInt.toNat, by omega, ?_⟩
    apply Int32.toInt_inj.mp
    rw [nI_toInt (by omega)]
    omega
  · exact Or.inr (by omega)
/-- a loop upwards from a to N -/
theorem lpU {α γ : Type} (F : Nat → Int32 → α → γ) (K : α → γ) (N : Nat) (Inv : Nat → α → Prop) (hs : ∀ fu k a, k < N → Inv k a → ∃ a', F (fu + 1) (nI k) a = F fu (nI (k + 1)) a' ∧ Inv (k + 1) a') (he : ∀ fu a, Inv N a → F (fu + 1) (nI N) a = K a) : ∀ (r fu k : Nat) (a : α), k + r = N → r < fu → Inv k a → ∃ a', F fu (nI k) a = K a' ∧ Inv N a' := by
  intro r
  induction r with
  | zero =>
    intro fu k a hk hf hI
    obtain ⟨g, rfl⟩ : ∃ g, fu = g + 1 := ⟨fu - 1, by omega⟩
    have : k = N := by omega
    subst this
    exact ⟨a, he g a hI, hI⟩
  | succ r ih =>
    intro fu k a hk hf hI
    obtain ⟨g, rfl⟩ : ∃ g, fu = g + 1 := ⟨fu - 1, by omega⟩
    obtain ⟨a', e, h'⟩ := hs g k a (by omega) hI
    rw [e]
    exact ih g (k + 1) a' (by omega) (by omega) h'
theorem lp0 {α γ : Type} {F : Nat → Int32 → α → γ} (K : α → γ) (N : Nat) (Inv : Nat → α → Prop) {a : α} (h0 : Inv 0 a) (hs : ∀ fu k a, k < N → Inv k a → ∃ a', F (fu + 1) (nI k) a = F fu (nI (k + 1)) a' ∧ Inv (k + 1) a') (he : ∀ fu a, Inv N a → F (fu + 1) (nI N) a = K a) (hN : N < 4000) : ∃ a', F FU 0 a = K a' ∧ Inv N a' :=
  lpU F K N Inv hs he N FU 0 a (by omega) hN h0
theorem im1 : (-1 : Int32).toInt = -1 := by decide
theorem im2 : (-2 : Int32).toInt = -2 := by decide
theorem t10 : ¬ (1 : Int32) = 0 := by decide
theorem t00 : (0 : Int32) = 0 := rfl
