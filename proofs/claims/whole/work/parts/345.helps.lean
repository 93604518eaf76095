theorem u22 (M : Mem) (i k : Nat) (v w : Int32) : upd2 (upd2 M i k v) i k w = upd2 M i k w := by
  funext j q
  by_cases c : j = i
  · subst c
    by_cases c2 : q = k
    · subst c2
      rw [u2s, u2s]
    · rw [u2t c2, u2t c2, u2t c2]
  · rw [u2n c, u2n c, u2n c]
theorem u2id (M : Mem) (i k : Nat) : upd2 M i k (M i k) = M := by
  funext j q
  rw [u2]
  by_cases c : j = i
  · rw [if_pos c]
    by_cases c2 : q = k
    · rw [if_pos c2, c, c2]
    · rw [if_neg c2, c]
  · rw [if_neg c]
theorem u2sw (M : Mem) {i j : Nat} (h : i ≠ j) (k q : Nat) (v w : Int32) : upd2 (upd2 M i k v) j q w = upd2 (upd2 M j q w) i k v := by
  funext a b
  simp only [u2]
  by_cases c1 : a = j
  · have : ¬ a = i := fun w => h (w.symm.trans c1)
    simp only [if_pos c1, if_neg this]
    have c2 : ¬ j = i := fun w => h w.symm
    simp only [if_neg c2]
  · simp only [if_neg c1]
    by_cases c2 : a = i
    · simp only [if_pos c2]
      have c3 : ¬ i = j := h
      simp only [if_neg c3]
    · simp only [if_neg c2]
/-- Rel looks at the scratch cells in no way: a stale world -/
theorem Rel.fr {X M Y Z : Mem} (hR : Rel X M) (f : Fr X Y) (g : ∀ c, ¬ (14 ≤ c ∧ c < 21) → Z c = M c) (h : Y 5 0 = 1) : Rel Y Z := by
  obtain ⟨e, d, nm, tp, ok, hX, hM, hma, hta, him, hsh, -⟩ := hR
  exact rel_of ok hX hM hma hta him hsh f g (Or.inl h)
/-- harm, did one read so many -/
theorem hir_ok {X M : Mem} {np i w : Nat} (hR : Rel X M) (h0 : M 0 0 = nI np) (hnp : np ≤ 5) (hi : i < np) (hw : w < 13) : ∃ v X' M', f_X10_harmIfReading X (nI i) (nI w) = some (v, X') ∧ f_X11_harm (upd2 M 3 i (nI w)) = some (v, M') ∧ Rel X' (upd2 M' 3 i (M 3 i)) ∧ X' 1 = X 1 ∧ M' 0 = M 0 ∧ (∀ c, c ≠ 3 → ¬ (14 ≤ c ∧ c < 21) → M' c = M c) := by
  have hP := put_p (k := 2) (v := w) hR h0 (by omega) hi (by omega) ⟨fun w => absurd w (by decide), fun w => absurd w (by decide), fun _ => hw, fun w => absurd w (by decide)⟩
  obtain ⟨Y, Z, E, ru, s, r1, r2, T, r4, r5, r6⟩ := run_both (C := upd2 X (25 + i) 2 (nI w)) hP (fun c hc => (u2n hc).symm)
  obtain ⟨W, w1, w2⟩ := harmX T
  obtain ⟨V, v1, v2⟩ := harmM T
  have YX : ∀ c, ¬ crs c → Y c = upd2 X (25 + i) 2 (nI w) c := fun c hc => by rw [r5 c hc, u2n (by unfold crs at hc; omega)]
  have WX : ∀ c, ¬ crs c → W c = upd2 X (25 + i) 2 (nI w) c := fun c hc => by rw [w2 c (by unfold crs at hc; omega) (by unfold crs at hc; omega), YX c hc]
  have VM : ∀ c, ¬ (14 ≤ c ∧ c < 21) → V c = upd2 M 3 i (nI w) c := fun c hc => by rw [v2 c (by omega), r6 c hc]
  have fin : ∀ c, ¬ crs c → upd2 (upd2 W (25 + i) 2 (X (25 + i) 2)) 5 0 1 c = X c := by
    intro c hc
    rw [u2n (by unfold crs at hc; omega)]
    have : upd2 W (25 + i) 2 (X (25 + i) 2) c = upd2 (upd2 X (25 + i) 2 (nI w)) (25 + i) 2 (X (25 + i) 2) c := by
      funext q
      rw [u2, u2 (upd2 X (25 + i) 2 (nI w)), WX c hc]
      by_cases cc : c = 25 + i
      · rw [if_pos cc, if_pos cc, WX (25 + i) (by unfold crs; omega)]
      · rw [if_neg cc, if_neg cc]
    rw [this, u22, u2id]
  have finM : ∀ c, ¬ (14 ≤ c ∧ c < 21) → upd2 V 3 i (M 3 i) c = M c := by
    intro c hc
    have : upd2 V 3 i (M 3 i) c = upd2 (upd2 M 3 i (nI w)) 3 i (M 3 i) c := by
      funext q
      rw [u2, u2 (upd2 M 3 i (nI w)), VM c hc]
      by_cases cc : c = 3
      · rw [if_pos cc, if_pos cc, VM 3 (by omega)]
      · rw [if_neg cc, if_neg cc]
    rw [this, u22, u2id]
  refine ⟨hrmS E s 4, upd2 (upd2 W (25 + i) 2 (X (25 + i) 2)) 5 0 1, V, ?_, ?_, hR.fr fin finM u2s, fin 1 (by unfold crs; omega), ?_, fun c h3 hc => ?_⟩
  · unfold f_X10_harmIfReading
    rw [if_pos (iblt (show i < 5 by omega) (by decide)), nI_clamp (by omega), r1, Option.bind_some, w1, Option.bind_some]
  · unfold f_X11_harm
    rw [show upd2 M 3 i (nI w) = upd2 M (2 + 1) i (nI w) from rfl, r2, Option.bind_some, v1]
  · rw [VM 0 (by omega), u2n (by decide)]
  · rw [VM c hc, u2n h3]
theorem helps_loop {x : Int32} {np : Nat} (hnp : np ≤ 5) : ∀ (r k f1 f2 : Nat) (b l : Int32) (X M : Mem), k + r = np → r < f1 → r < f2 → Rel X M → X 1 3 = nI np → M 0 0 = nI np → ∃ rX rM, f_X10_helps_19 x f1 b l (nI k) X = some rX ∧ f_X11_helps_19 x f2 b l (nI k) M = some rM ∧ rX.1 = rM.1 ∧ Rel rX.2 rM.2 := by
  intro r
  induction r with
  | zero =>
    intro k f1 f2 b l X M hk hf1 hf2 hR hx hm
    obtain ⟨g1, rfl⟩ : ∃ g, f1 = g + 1 := ⟨f1 - 1, by omega⟩
    obtain ⟨g2, rfl⟩ : ∃ g, f2 = g + 1 := ⟨f2 - 1, by omega⟩
    rw [f_X10_helps_19, f_X11_helps_19, hx, hm, if_pos (show nI np ≤ nI k from (by simp (disch := omega) only [fa_lt, fa_le, fa_eq, nI_toInt, Int32.reduceToInt, im1] <;> omega)), if_pos (show nI np ≤ nI k from (by simp (disch := omega) only [fa_lt, fa_le, fa_eq, nI_toInt, Int32.reduceToInt, im1] <;> omega))]
    by_cases c : x = 0
    · rw [if_pos c, if_pos c]
      exact ⟨_, _, rfl, rfl, rfl, hR⟩
    · rw [if_neg c, if_neg c]
      exact ⟨_, _, rfl, rfl, rfl, hR⟩
  | succ r ih =>
    intro k f1 f2 b l X M hk hf1 hf2 hR hx hm
    obtain ⟨g1, rfl⟩ : ∃ g, f1 = g + 1 := ⟨f1 - 1, by omega⟩
    obtain ⟨g2, rfl⟩ : ∃ g, f2 = g + 1 := ⟨f2 - 1, by omega⟩
    obtain ⟨v, X', M', e1, e2, e3, e4, e5, -⟩ := hir_ok (i := k) (w := 12) hR hm hnp (by omega) (by decide)
    have x' : X' 1 3 = nI np := by rw [e4]; exact hx
    have m' : (upd2 M' 3 k (M 3 k)) 0 0 = nI np := by rw [u2n (by decide), e5]; exact hm
    rw [f_X10_helps_19, f_X11_helps_19, hx, hm, if_neg (show ¬ nI np ≤ nI k from (by simp (disch := omega) only [fa_lt, fa_le, fa_eq, nI_toInt, Int32.reduceToInt, im1] <;> omega)), if_neg (show ¬ nI np ≤ nI k from (by simp (disch := omega) only [fa_lt, fa_le, fa_eq, nI_toInt, Int32.reduceToInt, im1] <;> omega))]
    simp only [if_pos (iblt (show k < 5 by omega) (by decide)), nI_clamp (show k < 2 ^ 31 by omega), nI_1]
    rw [show f_X10_harmIfReading X (nI k) 12 = _ from e1, show f_X11_harm (upd2 M 3 k 12) = _ from e2, Option.bind_some, Option.bind_some]
    by_cases cb : b = -1
    · rw [if_pos cb, if_pos cb]
      exact ih (k + 1) g1 g2 _ _ _ _ (by omega) (by omega) (by omega) e3 x' m'
    · rw [if_neg cb, if_neg cb]
      by_cases cl : l ≤ v
      · rw [if_pos cl, if_neg (show ¬ v < l by rw [fa_le] at cl; rw [fa_lt]; omega)]
        exact ih (k + 1) g1 g2 _ _ _ _ (by omega) (by omega) (by omega) e3 x' m'
      · rw [if_neg cl, if_pos (show v < l by rw [fa_le] at cl; rw [fa_lt]; omega)]
        exact ih (k + 1) g1 g2 _ _ _ _ (by omega) (by omega) (by omega) e3 x' m'
/-- helps: promise 17 -/
theorem s_helps : S_15 Rel := by
  intro X M a hR
  obtain ⟨np, nn, p5, n10, x3, m0, x4, m5, -⟩ := hR.bounds
  unfold f_X10_helps f_X11_helps
  rcases two_or (b := a) with h | ⟨h1, h2⟩
  · have hin : (0 : Int32).toInt ≤ a.toInt ∧ a.toInt ≤ (1 : Int32).toInt := by rcases h with rfl | rfl <;> decide
    have h0 : ¬ a < 0 ∧ a ≤ 1 := by rcases h with rfl | rfl <;> decide
    rw [if_neg h0.1, if_pos h0.2, wi_in hin.1 hin.2, if_neg t10]
    exact helps_loop p5 np 0 FU FU (-1) (-1) X M (by omega) (by rw [FU_eq]; omega) (by rw [FU_eq]; omega) hR x3 m0
  · rw [wi_out (a := a) (by simp only [Int32.reduceToInt]; omega), if_pos t00]
    rcases h1 with w | w
    · rw [if_pos w]
      exact ⟨_, _, rfl, rfl, rfl, hR⟩
    · rw [if_neg w.1, if_neg w.2]
      exact ⟨_, _, rfl, rfl, rfl, hR⟩
theorem whose_loop {mo old : Int32} {np p : Nat} (hnp : np ≤ 5) (hp : p < np) : ∀ (r k f1 f2 : Nat) (X M : Mem), k + r = 13 → r + 1 < f1 → r + 1 < f2 → Rel X (upd2 M 3 p old) → M 0 0 = nI np → ∃ rX rM, f_X10_whose_27 (nI p) mo f1 (nI k) X = some rX ∧ f_X11_whose_35 (nI p) mo old f2 (-1) (nI k) M = some rM ∧ rX.1 = rM.1 ∧ Rel rX.2 rM.2 := by
  intro r
  induction r with
  | zero =>
    intro k f1 f2 X M hk hf1 hf2 hR hm
    obtain ⟨g1, rfl⟩ : ∃ g, f1 = g + 1 := ⟨f1 - 1, by omega⟩
    obtain ⟨g2, rfl⟩ : ∃ g, f2 = g + 1 := ⟨f2 - 1, by omega⟩
    rw [f_X10_whose_27, f_X11_whose_35, if_pos (show 12 < nI k from (by simp (disch := omega) only [fa_lt, fa_le, fa_eq, nI_toInt, Int32.reduceToInt, im1] <;> omega)), if_pos (show 12 < nI k from (by simp (disch := omega) only [fa_lt, fa_le, fa_eq, nI_toInt, Int32.reduceToInt, im1] <;> omega)), if_pos (iblt (show p < 5 by omega) (by decide)), nI_clamp (by omega)]
    exact ⟨_, _, rfl, rfl, rfl, hR⟩
  | succ r ih =>
    intro k f1 f2 X M hk hf1 hf2 hR hm
    obtain ⟨g1, rfl⟩ : ∃ g, f1 = g + 1 := ⟨f1 - 1, by omega⟩
    obtain ⟨g2, rfl⟩ : ∃ g, f2 = g + 1 := ⟨f2 - 1, by omega⟩
    obtain ⟨g3, rfl⟩ : ∃ g, g2 = g + 1 := ⟨g2 - 1, by omega⟩
    obtain ⟨v, X', M', e1, e2, e3, e4, e5, e6⟩ := hir_ok (i := p) (w := k) hR (by rw [u2n (by decide)]; exact hm) hnp hp (by omega)
    rw [u22] at e2
    rw [u2s] at e3
    have m' : M' 0 0 = nI np := by rw [e5, u2n (by decide)]; exact hm
    rw [f_X10_whose_27, f_X11_whose_35, if_neg (show ¬ 12 < nI k from (by simp (disch := omega) only [fa_lt, fa_le, fa_eq, nI_toInt, Int32.reduceToInt, im1] <;> omega)), if_neg (show ¬ 12 < nI k from (by simp (disch := omega) only [fa_lt, fa_le, fa_eq, nI_toInt, Int32.reduceToInt, im1] <;> omega)), if_pos rfl, if_pos (iblt (show p < 5 by omega) (by decide)), nI_clamp (show p < 2 ^ 31 by omega), e1, e2, Option.bind_some, Option.bind_some, nI_1]
    by_cases c : mo < v
    · rw [if_pos c, if_pos c]
      exact ih (k + 1) g1 (g3 + 1) X' M' (by omega) (by omega) (by omega) e3 m'
    · rw [if_neg c, if_neg c]
      refine ⟨_, (nI k, upd2 M' 3 p old), rfl, ?_, rfl, e3⟩
      rw [f_X11_whose_35, if_neg (show ¬ nI k = -1 from (by simp (disch := omega) only [fa_lt, fa_le, fa_eq, nI_toInt, Int32.reduceToInt, im1] <;> omega)), if_pos (iblt (show p < 5 by omega) (by decide)), nI_clamp (show p < 2 ^ 31 by omega)]
      split <;> rfl
/-- whose: promise 19 -/
theorem s_whose : S_17 Rel := by
  intro X M a b hR
  obtain ⟨np, nn, p5, n10, x3, m0, x4, m5, -⟩ := hR.bounds
  unfold f_X10_whose f_X11_whose
  rcases cl a np (by omega) with ⟨p, hp, rfl⟩ | hc
  · rw [hg_in x3 hp p5, if_neg t10, ip_in m0 hp p5, if_neg t10, if_pos (iblt (show p < 5 by omega) (by decide)), nI_clamp (by omega)]
    rcases cl b 10000 (by decide) with ⟨w, hw, rfl⟩ | hc
    · rw [if_neg (show ¬ nI w < 0 from (by simp (disch := omega) only [fa_lt, fa_le, fa_eq, nI_toInt, Int32.reduceToInt, im1] <;> omega)), if_pos (show nI w ≤ 9999 from (by simp (disch := omega) only [fa_lt, fa_le, fa_eq, nI_toInt, Int32.reduceToInt, im1] <;> omega)), wi_in (by simp (disch := omega) only [fa_lt, fa_le, fa_eq, nI_toInt, Int32.reduceToInt, im1] <;> omega) (by simp (disch := omega) only [fa_lt, fa_le, fa_eq, nI_toInt, Int32.reduceToInt, im1] <;> omega), if_neg t10]
      exact whose_loop p5 hp 13 0 FU FU X M (by omega) (by rw [FU_eq]; omega) (by rw [FU_eq]; omega) (by rw [u2id]; exact hR) m0
    · rw [wi_out (a := b) (by simp only [Int32.reduceToInt]; omega), if_pos t00]
      by_cases c : b < 0
      · rw [if_pos c]
        exact ⟨_, _, rfl, rfl, rfl, hR⟩
      · rw [if_neg c, if_neg (show ¬ b ≤ 9999 by rw [fa_lt] at c; rw [fa_le]; simp only [Int32.reduceToInt] at c ⊢; omega)]
        exact ⟨_, _, rfl, rfl, rfl, hR⟩
  · rw [hg_out x3 p5 hc, if_pos t00, ip_out m0 p5 hc, if_pos t00]
    exact ⟨_, _, rfl, rfl, rfl, hR⟩
theorem once_loop {old nn i : Nat} (n10 : nn ≤ 10) (hi : i < nn) (ho : old < 48) : ∀ (r f1 f2 : Nat) (X M : Mem), r ≤ 48 → r + 1 < f1 → r + 1 < f2 → Rel X M → M 0 5 = nI nn → ∃ rX rM, f_X10_once_36 i (nI old) f1 (-1) (nI r - 1) X = some rX ∧ f_X11_once_24 (nI i) (nI old) f2 (-1) (nI r - 1) M = some rM ∧ rX.1 = rM.1 ∧ Rel rX.2 rM.2 := by
  intro r
  induction r with
  | zero =>
    intro f1 f2 X M hr hf1 hf2 hR hm
    obtain ⟨g1, rfl⟩ : ∃ g, f1 = g + 1 := ⟨f1 - 1, by omega⟩
    obtain ⟨g2, rfl⟩ : ∃ g, f2 = g + 1 := ⟨f2 - 1, by omega⟩
    rw [f_X10_once_36, f_X11_once_24, if_pos (show nI 0 - 1 < 0 by decide), if_pos (show nI 0 - 1 < 0 by decide), if_pos (iblt (show i < 10 by omega) (by decide)), nI_clamp (by omega)]
    exact ⟨_, _, rfl, rfl, rfl, put_n hR hm (by omega) hi ho⟩
  | succ r ih =>
    intro f1 f2 X M hr hf1 hf2 hR hm
    obtain ⟨g1, rfl⟩ : ∃ g, f1 = g + 1 := ⟨f1 - 1, by omega⟩
    obtain ⟨g2, rfl⟩ : ∃ g, f2 = g + 1 := ⟨f2 - 1, by omega⟩
    obtain ⟨g3, rfl⟩ : ∃ g, g1 = g + 1 := ⟨g1 - 1, by omega⟩
    obtain ⟨g4, rfl⟩ : ∃ g, g2 = g + 1 := ⟨g2 - 1, by omega⟩
    have hP := put_n (v := r) hR hm (by omega) hi (by omega)
    obtain ⟨Y, Z, E, ru, s, r1, r2, T, r4, r5, r6⟩ := run_both (C := upd2 X (30 + i) 1 (nI r)) hP (fun c hc => (u2n hc).symm)
    have hin : i < E.2.1 := by
      have e1 : M 0 5 = nI E.2.1 := by
        have := T.2.2.1.2.1
        rw [r6 0 (by omega), u2n (by decide)] at this
        exact this
      have := T.1.2.1
      rw [hm] at e1
      rw [← (nI_eq (by omega) (by omega)).mp e1]
      exact hi
    have o := T.1.2.2.2 i hin
    have mz : Z 0 5 = nI nn := by rw [r6 0 (by omega), u2n (by decide)]; exact hm
    have hcnt := T.2.2.2.2.2.1.2.2 (E.2.2.1 7 i)
    rw [f_X10_once_36, f_X11_once_24, nI_pred, if_neg (show ¬ nI r < 0 from (by simp (disch := omega) only [fa_lt, fa_le, fa_eq, nI_toInt, Int32.reduceToInt, im1] <;> omega)), if_neg (show ¬ nI r < 0 from (by simp (disch := omega) only [fa_lt, fa_le, fa_eq, nI_toInt, Int32.reduceToInt, im1] <;> omega)), if_pos rfl, if_pos rfl]
    simp only [if_pos (iblt (show i < 10 by omega) (by decide)), nI_clamp (show i < 2 ^ 31 by omega)]
    rw [r1, r2, Option.bind_some, Option.bind_some, (T.2.1.2.2.2.1 i hin).2.2.1, (T.2.2.1.2.2.2.1 i hin).2.2.1]
    simp only [if_pos (iblt (show E.2.2.1 7 i < 4 by omega) (by decide)), nI_clamp (show E.2.2.1 7 i < 2 ^ 31 by omega)]
    rw [(T.2.2.2.1.2.2.2.2 _ o.2.2.1).1, (T.2.2.2.2.1.2.2.2 _ o.2.2.1).1, ← Int32.sub_eq_add_neg]
    by_cases c : nI (s.2.2.2.1 (E.2.2.1 7 i)) = 1
    · rw [if_pos c, if_pos c]
      rw [f_X10_once_36, f_X11_once_24, if_neg (show ¬ nI r = -1 from (by simp (disch := omega) only [fa_lt, fa_le, fa_eq, nI_toInt, Int32.reduceToInt, im1] <;> omega)), if_neg (show ¬ nI r = -1 from (by simp (disch := omega) only [fa_lt, fa_le, fa_eq, nI_toInt, Int32.reduceToInt, im1] <;> omega)), if_pos (iblt (show i < 10 by omega) (by decide)), nI_clamp (by omega)]
      refine ⟨(nI r, upd2 (upd2 Y (30 + i) 1 (nI old)) 5 0 1), (nI r, upd2 Z 6 i (nI old)), ?_, ?_, rfl, put_n r4 mz (by omega) hi ho⟩
      · split <;> rfl
      · split <;> rfl
    · rw [if_neg c, if_neg c]
      exact ih (g3 + 1) (g4 + 1) Y Z (by omega) (by omega) (by omega) r4 mz
/-- once: promise 18 -/
theorem s_once : S_16 Rel := by
  intro X M a hR
  have hR0 := hR
  obtain ⟨np, nn, p5, n10, x3, m0, x4, m5, -⟩ := hR.bounds
  unfold f_X10_once f_X11_once
  rcases cl a nn (by omega) with ⟨i, hi, rfl⟩ | hc
  · rw [hs_in x4 hi n10, if_neg t10, in_in m5 hi n10, if_neg t10, if_pos (iblt (show i < 10 by omega) (by decide)), if_pos (iblt (show i < 10 by omega) (by decide)), nI_clamp (by omega)]
    obtain ⟨e, d, nm, tp, ok, hX, hM, -⟩ := hR
    have he : nn = e.2.1 := by
      have := m5.symm.trans hM.1.2.1
      have o10 := ok.2.1
      exact (nI_eq (by omega) (by show e.2.1 < _; omega)).mp this
    have o := ok.2.2.2 i (by omega)
    rw [show X (30 + i) 1 = nI (e.2.2.1 6 i) from (hX.1.2.2.2.1 i (by show i < e.2.1; omega)).2.1, show M 6 i = nI (e.2.2.1 6 i) from (hM.1.2.2.2.1 i (by show i < e.2.1; omega)).2.1]
    exact once_loop n10 hi o.2.1 48 FU FU X M (by omega) (by rw [FU_eq]; omega) (by rw [FU_eq]; omega) hR0 m5
  · rw [hs_out x4 n10 hc, if_pos t00, in_out m5 n10 hc, if_pos t00]
    exact ⟨_, _, rfl, rfl, rfl, hR⟩
