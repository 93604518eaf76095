theorem fill_ok (M : Mem) (ai n : Nat) (v : Int32) (hn : n < 4000) : ∃ M', f_J7_fill_53178 M ai n v = some M' ∧ (∀ c, c ≠ ai → M' c = M c) ∧ (∀ k, k < n → M' ai k = v) ∧ ∀ k, n ≤ k → M' ai k = M ai k := by
  unfold f_J7_fill_53178
  have h := lp0 (F := fun fu x A => f_J7_fill_53178_5 ai n v (nI n) fu x A) (a := M) (fun A => some A) n (fun k A => (∀ c, c ≠ ai → A c = M c) ∧ (∀ j, j < k → A ai j = v) ∧ ∀ j, k ≤ j → A ai j = M ai j) ⟨fun _ _ => rfl, fun _ h => absurd h (Nat.not_lt_zero _), fun _ _ => rfl⟩ (fun fu k A hk hI => ⟨upd2 A ai k v, by
    show f_J7_fill_53178_5 ai n v (nI n) (fu + 1) (nI k) A = _
    rw [f_J7_fill_53178_5, if_neg (show ¬ nI n ≤ nI k from (by simp (disch := omega) only [fa_lt, fa_le, fa_eq, nI_toInt, Int32.reduceToInt, im1] <;> omega)), if_pos (iblt hk (by omega)), nI_clamp (by omega), nI_1], fun c hc => by rw [u2n hc]; exact hI.1 c hc, fun j hj => by
      by_cases c : j = k
      · rw [c, u2s]
      · rw [u2t c]; exact hI.2.1 j (by omega), fun j hj => by rw [u2t (by omega)]; exact hI.2.2 j (by omega)⟩) (fun fu A hI => by
    show f_J7_fill_53178_5 ai n v (nI n) (fu + 1) (nI n) A = _
    rw [f_J7_fill_53178_5, if_pos (show nI n ≤ nI n from (by simp (disch := omega) only [fa_lt, fa_le, fa_eq, nI_toInt, Int32.reduceToInt, im1] <;> omega))]) hn
  exact h
theorem is_in {j : Nat} (h : j < 4) : f_X10_isSheet (nI j) = 1 := by
  unfold f_X10_isSheet
  rw [if_neg (by simp (disch := omega) only [fa_lt, fa_le, fa_eq, nI_toInt, Int32.reduceToInt, im1] <;> omega), if_neg (by simp (disch := omega) only [fa_lt, fa_le, fa_eq, nI_toInt, Int32.reduceToInt, im1] <;> omega)]
theorem is_out {a : Int32} (h : a.toInt < 0 ∨ 4 ≤ a.toInt) : f_X10_isSheet a = 0 := by
  unfold f_X10_isSheet
  by_cases c : a < 0
  · rw [if_pos c]
  · have c2 : ¬ a.toInt < 0 := fun q => c (by rw [fa_lt]; exact q)
    rw [if_neg c, if_pos (by simp (disch := omega) only [fa_lt, fa_le, fa_eq, nI_toInt, Int32.reduceToInt, im1] <;> omega)]
theorem msheet {M : Mem} {i : Nat} (hi : i < 4) : ∃ M', f_X11_sheet_68 (nI i) FU 0 M = some (1, M') ∧ (∀ c, c ≠ 30 → M' c = M c) ∧ (∀ k, k < 40 → M' 30 (40 * i + k) = 0) ∧ ∀ q, (q < 40 * i ∨ 40 * i + 40 ≤ q) → M' 30 q = M 30 q := by
  have h := lp0 (F := fun fu x A => f_X11_sheet_68 (nI i) fu x A) (a := M) (fun A => some (1, A)) 40 (fun k A => (∀ c, c ≠ 30 → A c = M c) ∧ (∀ j, j < k → A 30 (40 * i + j) = 0) ∧ ∀ q, (q < 40 * i ∨ 40 * i + 40 ≤ q) → A 30 q = M 30 q) ⟨fun _ _ => rfl, fun _ h => absurd h (Nat.not_lt_zero _), fun _ _ => rfl⟩ (fun fu k A hk hI => ⟨upd2 A 30 (40 * i + k) 0, by
    show f_X11_sheet_68 (nI i) (fu + 1) (nI k) A = _
    rw [f_X11_sheet_68, if_neg (show ¬ 40 ≤ nI k from (by simp (disch := omega) only [fa_lt, fa_le, fa_eq, nI_toInt, Int32.reduceToInt, im1] <;> omega)), show (40 : Int32) * nI i = nI (40 * i) from pk_mul 40 i, nI_add, if_pos (iblt (show 40 * i + k < 160 by omega) (by decide)), nI_clamp (by omega), nI_1], fun c hc => by rw [u2n hc]; exact hI.1 c hc, fun j hj => by
      by_cases c : j = k
      · rw [c, u2s]
      · rw [u2t (by omega)]; exact hI.2.1 j (by omega), fun q hq => by rw [u2t (by omega)]; exact hI.2.2 q hq⟩) (fun fu A hI => by
    show f_X11_sheet_68 (nI i) (fu + 1) (nI 40) A = _
    rw [f_X11_sheet_68, if_pos (show 40 ≤ nI 40 by decide)]) (by decide)
  exact h
/-- a memory in which nothing but sheets' rows may have changed -/
theorem Rel.sheets {X M Y N : Mem} (hR : Rel X M) (h1 : ∀ c, c < 90 ∨ 98 ≤ c → Y c = X c) (h2 : ∀ c, c < 28 ∨ 32 ≤ c → N c = M c) (h3 : Rsh Y N) : Rel Y N := by
  obtain ⟨e, d, nm, tp, ok, hX, hM, hma, hta, him, hsh, hst⟩ := hR
  refine ⟨e, d, nm, tp, ok, hX.cg ok ?_ ?_ ?_ ?_ (fun c hc => h1 c (by omega)), hM.cg ?_ ?_ ?_ ?_ (fun c hc => h2 c (by omega)), hma.cg ?_ (h1 _ (by omega)) (h1 _ (by omega)) ?_ (h2 _ (by omega)) (h2 _ (by omega)), hta.cg ?_ (h1 _ (by omega)) ?_ (h2 _ (by omega)), him.cg ok.1 (h1 _ (by omega)) (h1 _ (by omega)) (fun c hc => h1 c (by omega)) (fun k hk => by rw [h2 0 (by omega)]) (fun c hc => h2 c (by omega)), h3, hst.cg ok.eW ?_ (h1 _ (by omega)) (fun c hc => h1 c (by omega)) (fun c hc => h1 c (by omega))⟩
  all_goals first | (rw [h1 1 (by omega)]) | (rw [h2 0 (by omega)]) | skip
  · rw [h1 85 (by omega)]
  · rw [h1 19 (by omega)]
  · rw [h1 5 (by omega)]
/-- sheet: promise 28 -/
theorem s_sheet : S_26 Rel := by
  intro X M a b n hR
  unfold f_X10_sheet f_X11_sheet
  rcases cl a 4 (by decide) with ⟨i, hi, rfl⟩ | h1
  · rw [is_in hi, if_neg t10, wi_in (by simp (disch := omega) only [fa_lt, fa_le, fa_eq, nI_toInt, Int32.reduceToInt, im1] <;> omega) (by simp (disch := omega) only [fa_lt, fa_le, fa_eq, nI_toInt, Int32.reduceToInt, im1] <;> omega), if_neg t10]
    have hsh : Rsh X M := by
      obtain ⟨e, d, nm, tp, ok, hX, hM, hma, hta, him, hsh, hst⟩ := hR
      exact hsh
    simp only [if_pos (iblt hi (by decide)), nI_clamp (show i < 2 ^ 31 by omega)]
    by_cases cm : b = -1
    · subst cm
      rw [if_neg (show ¬ (-1 : Int32) < -1 by decide), if_pos (show (-1 : Int32) ≤ 2 by decide), if_pos rfl, wi_in (a := -1) (by decide) (by decide), if_neg t10, if_pos rfl]
      unfold f_X6_become
      obtain ⟨X', e1, f1, f2, f3⟩ := fill_ok (upd2 (upd2 X (90 + i) 1 (-1)) (90 + i) 2 0) (94 + i) 40 0 (by decide)
      rw [e1]
      refine ans rfl rfl (hR.sheets (fun c hc => ?_) (fun c hc => ?_) (fun j hj => ?_))
      · show X' c = X c
        rw [f1 c (by omega), u2n (by omega), u2n (by omega)]
      · exact u2n (by omega)
      · show (X' (90 + j) 1 = -1 ∧ _) ∨ _
        rw [f1 (90 + j) (by omega)]
        by_cases c : j = i
        · subst c
          exact Or.inl ⟨by rw [u2t (by decide), u2s], u2s⟩
        · rw [u2n (show 90 + j ≠ 90 + i by omega), u2n (show 90 + j ≠ 90 + i by omega), u2t c]
          show _ ∨ ∃ so sz, _ ∧ _ ∧ _ ∧ _ ∧ _ ∧ _ ∧ ∀ k, k < 40 → X' (94 + j) k = _
          rw [f1 (94 + j) (by omega), u2n (show 94 + j ≠ 90 + i by omega), u2n (show 94 + j ≠ 90 + i by omega)]
          exact hsh j hj
    · by_cases cb : 0 ≤ b.toInt ∧ b.toInt ≤ 2
      · obtain ⟨so, hso, rfl⟩ := ge_nI cb.1
        rw [nI_toInt (by omega)] at cb
        rw [if_neg (show ¬ nI so < -1 from (by simp (disch := omega) only [fa_lt, fa_le, fa_eq, nI_toInt, Int32.reduceToInt, im1] <;> omega)), if_pos (show nI so ≤ 2 from (by simp (disch := omega) only [fa_lt, fa_le, fa_eq, nI_toInt, Int32.reduceToInt, im1] <;> omega)), if_neg cm, wi_in (by simp (disch := omega) only [fa_lt, fa_le, fa_eq, nI_toInt, Int32.reduceToInt, im1] <;> omega) (by simp (disch := omega) only [fa_lt, fa_le, fa_eq, nI_toInt, Int32.reduceToInt, im1] <;> omega), if_neg t10, if_neg cm]
        by_cases cn : n ≤ 40
        · rw [if_pos cn, if_pos cn]
          by_cases c0 : 0 ≤ n
          · have cn2 : n.toInt ≤ 40 := by
              have := cn
              simp only [fa_le, Int32.reduceToInt] at this
              exact this
            have c02 : 0 ≤ n.toInt := by
              have := c0
              simp only [fa_le, Int32.reduceToInt] at this
              exact this
            obtain ⟨sz, hsz, rfl⟩ := ge_nI c02
            rw [nI_toInt (by omega)] at cn2
            rw [if_pos c0, if_pos c0]
            unfold f_X6_become
            obtain ⟨X', e1, f1, f2, f3⟩ := fill_ok (upd2 (upd2 X (90 + i) 1 (nI so)) (90 + i) 2 (nI sz)) (94 + i) 40 0 (by decide)
            obtain ⟨M', e2, g1, g2, g3⟩ := msheet (M := upd2 (upd2 M 28 i (nI so)) 29 i (nI sz)) hi
            rw [e1, e2]
            refine ans rfl rfl (hR.sheets (fun c hc => ?_) (fun c hc => ?_) (fun j hj => ?_))
            · show X' c = X c
              rw [f1 c (by omega), u2n (by omega), u2n (by omega)]
            · rw [g1 c (by omega), u2n (by omega), u2n (by omega)]
            · show (X' (90 + j) 1 = -1 ∧ _) ∨ _
              by_cases c : j = i
              · subst c
                refine Or.inr ⟨so, sz, by omega, by omega, ?_, ?_, ?_, ?_, fun k hk => ?_⟩
                · show X' (90 + j) 1 = _
                  rw [f1 (90 + j) (by omega), u2t (by decide), u2s]
                · rw [g1 28 (by decide), u2n (by decide), u2s]
                · show X' (90 + j) 2 = _
                  rw [f1 (90 + j) (by omega), u2s]
                · rw [g1 29 (by decide), u2s]
                · show X' (94 + j) k = _
                  rw [f2 k hk, g2 k hk]
              · rw [f1 (90 + j) (by omega), u2n (show 90 + j ≠ 90 + i by omega), u2n (show 90 + j ≠ 90 + i by omega), g1 28 (by decide), g1 29 (by decide), u2n (show (28 : Nat) ≠ 29 by decide), u2t c, u2t c, u2n (show (29 : Nat) ≠ 28 by decide)]
                rcases hsh j hj with h | ⟨so2, sz2, q1, q2, q3, q4, q5, q6, q7⟩
                · exact Or.inl h
                · refine Or.inr ⟨so2, sz2, q1, q2, q3, q4, q5, q6, fun k hk => ?_⟩
                  · show X' (94 + j) k = _
                    rw [f1 (94 + j) (by omega), u2n (show 94 + j ≠ 90 + i by omega), u2n (show 94 + j ≠ 90 + i by omega), g3 _ (by omega), u2n (show (30 : Nat) ≠ 29 by decide), u2n (show (30 : Nat) ≠ 28 by decide)]
                    exact q7 k hk
          · rw [if_neg c0, if_neg c0]
            exact ans rfl rfl hR
        · rw [if_neg cn, if_neg cn]
          exact ans rfl rfl hR
      · have cb2 : b.toInt < -1 ∨ 2 < b.toInt := by
          have : b.toInt ≠ -1 := fun q => cm (by rw [fa_eq, q, im1])
          omega
        rw [wi_out (a := b) (by simp (disch := omega) only [fa_lt, fa_le, fa_eq, nI_toInt, Int32.reduceToInt, im1] <;> omega), if_pos t00]
        by_cases c : b < -1
        · rw [if_pos c]
          exact ans rfl rfl hR
        · have c2 : ¬ b.toInt < -1 := fun q => c (by rw [fa_lt, im1]; exact q)
          rw [if_neg c, if_neg (show ¬ b ≤ 2 from (by simp (disch := omega) only [fa_lt, fa_le, fa_eq, nI_toInt, Int32.reduceToInt, im1] <;> omega))]
          exact ans rfl rfl hR
  · rw [is_out h1, wi_out (a := a) (by simp (disch := omega) only [fa_lt, fa_le, fa_eq, nI_toInt, Int32.reduceToInt, im1] <;> omega), if_pos t00, if_pos t00]
    exact ans rfl rfl hR
