theorem sum_put {e : ET} {f : Nat → Nat} {r : Nat → Nat} {k v t : Nat} (hk : k < e.2.1) (hr : r k = 99) (hv : v ≠ 99) : sumS e f (fun n => if n = k then v else r n) t = sumS e f r t + (if e.2.2.1 7 k = t then f (e.2.2.1 5 k) else 0) := by
  unfold sumS
  have h := fb_sm_upd (fun n => if e.2.2.1 7 n = t ∧ r n ≠ 99 then f (e.2.2.1 5 n) else 0) (if e.2.2.1 7 k = t then f (e.2.2.1 5 k) else 0) hk
  have h0 : (if e.2.2.1 7 k = t ∧ r k ≠ 99 then f (e.2.2.1 5 k) else 0) = 0 := if_neg (fun q => q.2 hr)
  simp only [h0, Nat.add_zero] at h
  rw [← h]
  apply fb_sm_cong
  intro n _
  by_cases c : n = k
  · subst c
    simp only [if_true]
    by_cases c2 : e.2.2.1 7 n = t
    · rw [if_pos ⟨c2, hv⟩, if_pos c2]
    · rw [if_neg (fun q => c2 q.1), if_neg c2]
  · simp only [if_neg c]
theorem sum_cg {e : ET} {f : Nat → Nat} {r r2 : Nat → Nat} {t : Nat} (h : ∀ n, n < e.2.1 → r n = r2 n) : sumS e f r t = sumS e f r2 t := by
  unfold sumS
  apply fb_sm_cong
  intro n hn
  rw [h n hn]
theorem lrn_step {M : Mem} {p h k t a b : Nat} {rd fr : Int32} {fu N : Nat} (hp : p < 5) (hk : k < N) (hN : N ≤ 10) (ht : t < 4) (h4 : M 1 4 = nI N) (h2 : M (30 + k) 2 = nI t) (h6 : M (30 + k) 6 = nI a) (h7 : M (30 + k) 7 = nI b) (hb : bt fr k = true) : f_X0_learn_15 (nI p) (nI h) rd fr (fu + 1) (nI k) M = f_X0_learn_15 (nI p) (nI h) rd fr fu (nI (k + 1)) (upd2 (upd2 (upd2 M (65 + p) k (nI h)) (75 + p) t (M (75 + p) t + nI a)) (80 + p) t (M (80 + p) t + nI b)) := by
  rw [f_X0_learn_15, h4, if_neg (show ¬ nI N ≤ nI k from (by simp (disch := omega) only [fa_lt, fa_le, fa_eq, nI_toInt, Int32.reduceToInt, im1] <;> omega)), if_neg (show ¬ (fr >>> (nI k &&& 31)) &&& 1 = 0 by rw [tst0 (by omega), hb]; decide)]
  simp (disch := omega) only [nI_clamp, u2n, h2, h6, h7, if_pos (iblt hp (by decide)), if_pos (iblt (show k < 10 by omega) (by decide)), if_pos (iblt ht (by decide)), nI_1]
theorem lrn_skip {M : Mem} {k : Nat} {p h rd fr : Int32} {fu N : Nat} (hk : k < N) (hN : N ≤ 10) (h4 : M 1 4 = nI N) (hb : bt fr k = false) : f_X0_learn_15 p h rd fr (fu + 1) (nI k) M = f_X0_learn_15 p h rd fr fu (nI (k + 1)) M := by
  rw [f_X0_learn_15, h4, if_neg (show ¬ nI N ≤ nI k from (by simp (disch := omega) only [fa_lt, fa_le, fa_eq, nI_toInt, Int32.reduceToInt, im1] <;> omega)), if_pos (show (fr >>> (nI k &&& 31)) &&& 1 = 0 by rw [tst0 (by omega), hb]), nI_1]
theorem learn_ok {X : Mem} {e : ET} {ru p h : Nat} {rd : Int32} {r0 : Nat → Nat} {J : Nat → Bool} (ok : Eok e) (hX : XE X e ru) (hp : p < e.1) (hh : h < 48) (h65 : ∀ n, n < e.2.1 → X (65 + p) n = hv (r0 n)) (h75 : ∀ t, t < 4 → X (75 + p) t = nI (sumS e asS r0 t) ∧ X (80 + p) t = nI (sumS e teS r0 t)) (h14 : ∀ i, i < 32 → bt (X 14 p) i = (decide (i < e.2.1) && decide (r0 i ≠ 99))) (hrd : ∀ i, i < 32 → bt rd i = (decide (i < e.2.1) && J i)) : ∃ Y, f_X0_learn X (nI p) (nI h) rd = some Y ∧ (∀ c, c ≠ 65 + p → c ≠ 75 + p → c ≠ 80 + p → c ≠ 14 → Y c = X c) ∧ (∀ q, q ≠ p → Y 14 q = X 14 q) ∧ (∀ n, n < e.2.1 → Y (65 + p) n = hv (if J n = true ∧ r0 n = 99 then h else r0 n)) ∧ (∀ t, t < 4 → Y (75 + p) t = nI (sumS e asS (fun n => if J n = true ∧ r0 n = 99 then h else r0 n) t) ∧ Y (80 + p) t = nI (sumS e teS (fun n => if J n = true ∧ r0 n = 99 then h else r0 n) t)) ∧ ∀ i, i < 32 → bt (Y 14 p) i = (decide (i < e.2.1) && decide ((if J i = true ∧ r0 i = 99 then h else r0 i) ≠ 99)) := by
  have p5 := ok.1
  have n10 := ok.2.1
  have hfr : ∀ n, n < e.2.1 → bt (rd &&& (X 14 p ^^^ (-1))) n = (J n && decide (r0 n = 99)) := by
    intro n hn
    rw [b_and, bt_not (by omega), hrd n (by omega), h14 n (by omega), decide_eq_true hn, Bool.true_and, Bool.true_and]
    by_cases c : r0 n = 99
    · simp [c]
    · simp [c]
  obtain ⟨A, e1, a1, a2, a3⟩ := lp0 (F := fun fu x A => f_X0_learn_15 (nI p) (nI h) rd (rd &&& (X 14 p ^^^ (-1))) fu x A) (a := X) (fun M => some (upd2 M 14 p (M 14 p ||| rd))) e.2.1 (fun k A => (∀ c, c ≠ 65 + p → c ≠ 75 + p → c ≠ 80 + p → A c = X c) ∧ (∀ n, n < e.2.1 → A (65 + p) n = hv (if n < k ∧ J n = true ∧ r0 n = 99 then h else r0 n)) ∧ ∀ t, t < 4 → A (75 + p) t = nI (sumS e asS (fun n => if n < k ∧ J n = true ∧ r0 n = 99 then h else r0 n) t) ∧ A (80 + p) t = nI (sumS e teS (fun n => if n < k ∧ J n = true ∧ r0 n = 99 then h else r0 n) t)) ⟨fun _ _ _ _ => rfl, fun n hn => by simpa using h65 n hn, fun t ht => by simpa using h75 t ht⟩ (fun fu k A hk hI => by
    obtain ⟨f0, f1, f2⟩ := hI
    have hs := hX.2.2.2.1 k hk
    have o := ok.2.2.2 k hk
    have A4 : A 1 4 = nI e.2.1 := by rw [f0 1 (by omega) (by omega) (by omega)]; exact hX.2.1
    by_cases c : J k = true ∧ r0 k = 99
    · refine ⟨_, lrn_step (t := e.2.2.1 7 k) (a := asS (e.2.2.1 5 k)) (b := teS (e.2.2.1 5 k)) (by omega) hk n10 o.2.2.1 A4 (by rw [f0 (30 + k) (by omega) (by omega) (by omega)]; exact hs.2.2.1) (by rw [f0 (30 + k) (by omega) (by omega) (by omega)]; exact hs.2.2.2.2.2.2.1) (by rw [f0 (30 + k) (by omega) (by omega) (by omega)]; exact hs.2.2.2.2.2.2.2) (by rw [hfr k hk, c.1, c.2]; rfl), fun c h1 h2 h3 => ?_, fun n hn => ?_, fun t ht => ?_⟩
      · rw [u2n h3, u2n h2, u2n h1]
        exact f0 c h1 h2 h3
      · rw [u2n (by omega), u2n (by omega)]
        by_cases cn : n = k
        · subst cn
          rw [u2s, if_pos ⟨Nat.lt_succ_self _, c⟩]
          unfold hv
          rw [if_neg (by omega)]
        · rw [u2t cn, f1 n hn]
          congr 1
          by_cases c2 : n < k ∧ J n = true ∧ r0 n = 99
          · rw [if_pos c2, if_pos ⟨by omega, c2.2⟩]
          · rw [if_neg c2, if_neg (fun q => c2 ⟨by omega, q.2⟩)]
      · have hfun : (fun n => if n < k + 1 ∧ J n = true ∧ r0 n = 99 then h else r0 n) = fun n => if n = k then h else (fun n => if n < k ∧ J n = true ∧ r0 n = 99 then h else r0 n) n := by
          funext n
          by_cases cn : n = k
          · subst cn
            rw [if_pos rfl, if_pos ⟨Nat.lt_succ_self _, c⟩]
          · rw [if_neg cn]
            show _ = (if n < k ∧ J n = true ∧ r0 n = 99 then h else r0 n)
            by_cases c2 : n < k ∧ J n = true ∧ r0 n = 99
            · rw [if_pos c2, if_pos ⟨by omega, c2.2⟩]
            · rw [if_neg c2, if_neg (fun q => c2 ⟨by omega, q.2⟩)]
        have hk99 : (fun n => if n < k ∧ J n = true ∧ r0 n = 99 then h else r0 n) k = 99 := by
          show (if k < k ∧ J k = true ∧ r0 k = 99 then h else r0 k) = 99
          rw [if_neg (fun q => Nat.lt_irrefl _ q.1)]
          exact c.2
        rw [hfun, sum_put hk hk99 (by omega), sum_put hk hk99 (by omega)]
        obtain ⟨g1, g2⟩ := f2 t ht
        by_cases ct : t = e.2.2.1 7 k
        · have ct2 : e.2.2.1 7 k = t := ct.symm
          rw [if_pos ct2, if_pos ct2, ct, u2n (show 75 + p ≠ 80 + p by omega), u2s, u2s, ← ct, g1, g2, nI_add, nI_add]
          exact ⟨rfl, rfl⟩
        · have ct2 : ¬ e.2.2.1 7 k = t := fun q => ct q.symm
          rw [if_neg ct2, if_neg ct2, u2n (show 75 + p ≠ 80 + p by omega), u2t ct, u2t ct, u2n (show 75 + p ≠ 65 + p by omega), u2n (show 80 + p ≠ 75 + p by omega), u2n (show 80 + p ≠ 65 + p by omega)]
          exact ⟨g1, g2⟩
    · have hsame : ∀ n, (if n < k + 1 ∧ J n = true ∧ r0 n = 99 then h else r0 n) = if n < k ∧ J n = true ∧ r0 n = 99 then h else r0 n := by
        intro n
        by_cases c2 : n < k ∧ J n = true ∧ r0 n = 99
        · rw [if_pos c2, if_pos ⟨by omega, c2.2⟩]
        · rw [if_neg c2, if_neg (fun q => by
            by_cases cn : n = k
            · subst cn
              exact c q.2
            · exact c2 ⟨by omega, q.2⟩)]
      refine ⟨A, lrn_skip hk n10 A4 ?_, f0, fun n hn => ?_, fun t ht => ?_⟩
      · rw [hfr k hk]
        by_cases c1 : J k = true
        · have : ¬ r0 k = 99 := fun q => c ⟨c1, q⟩
          rw [decide_eq_false this, Bool.and_false]
        · rw [Bool.not_eq_true] at c1
          rw [c1, Bool.false_and]
      · rw [hsame n]
        exact f1 n hn
      · simp only [hsame]
        exact f2 t ht) (fun fu A hI => by
    have A4 : A 1 4 = nI e.2.1 := by rw [hI.1 1 (by omega) (by omega) (by omega)]; exact hX.2.1
    show f_X0_learn_15 (nI p) (nI h) rd (rd &&& (X 14 p ^^^ (-1))) (fu + 1) (nI e.2.1) A = _
    rw [f_X0_learn_15, A4, if_pos (show nI e.2.1 ≤ nI e.2.1 from (by simp (disch := omega) only [fa_lt, fa_le, fa_eq, nI_toInt, Int32.reduceToInt, im1] <;> omega)), if_pos (iblt (show p < 5 by omega) (by decide)), if_pos (iblt (show p < 5 by omega) (by decide)), nI_clamp (by omega)]) (by omega)
  have hfin : ∀ n, n < e.2.1 → (if n < e.2.1 ∧ J n = true ∧ r0 n = 99 then h else r0 n) = if J n = true ∧ r0 n = 99 then h else r0 n := by
    intro n hn
    by_cases c : J n = true ∧ r0 n = 99
    · rw [if_pos c, if_pos ⟨hn, c⟩]
    · rw [if_neg c, if_neg (fun q => c q.2)]
  refine ⟨upd2 A 14 p (A 14 p ||| rd), ?_, fun c h1 h2 h3 h4 => ?_, fun q hq => ?_, fun n hn => ?_, fun t ht => ?_, fun i hi => ?_⟩
  · unfold f_X0_learn
    rw [if_pos (iblt (show p < 5 by omega) (by decide)), nI_clamp (by omega)]
    exact e1
  · rw [u2n h4]
    exact a1 c h1 h2 h3
  · rw [u2t hq, a1 14 (by omega) (by omega) (by omega)]
  · rw [u2n (by omega), a2 n hn, hfin n hn]
  · rw [u2n (by omega), u2n (by omega), (a3 t ht).1, (a3 t ht).2]
    exact ⟨congrArg nI (sum_cg hfin), congrArg nI (sum_cg hfin)⟩
  · rw [u2s, b_or, a1 14 (by omega) (by omega) (by omega), h14 i hi, hrd i hi]
    by_cases c : i < e.2.1
    · rw [decide_eq_true c, Bool.true_and, Bool.true_and, Bool.true_and]
      by_cases c1 : r0 i = 99
      · by_cases c2 : J i = true
        · rw [if_pos ⟨c2, c1⟩, c2, Bool.or_true, decide_eq_true (show h ≠ 99 by omega)]
        · rw [if_neg (fun q => c2 q.1), c1]
          rw [Bool.not_eq_true] at c2
          rw [c2]
          simp
      · rw [if_neg (fun q => c1 q.2), decide_eq_true (show r0 i ≠ 99 from c1), Bool.true_or]
    · rw [decide_eq_false c]
      rfl
