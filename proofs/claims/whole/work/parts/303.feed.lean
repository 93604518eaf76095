/-- feed: promise 6 -/
theorem s_feed : S_4 Rel := by
  intro X M a hR
  have hR0 := hR
  obtain ⟨e, d, nm, tp, ok, hX, hM, hma, ⟨t1, t2, t3, t4⟩, him, hsh, hst⟩ := hR
  rcases cl a 256 (by decide) with ⟨j, hj, rfl⟩ | h
  · unfold f_X10_feed f_X11_feed
    rw [if_neg (by simp (disch := omega) only [fa_lt, fa_le, fa_eq, nI_toInt, Int32.reduceToInt, im1] <;> omega), if_pos (by simp (disch := omega) only [fa_lt, fa_le, fa_eq, nI_toInt, Int32.reduceToInt, im1] <;> omega), wi_in (by simp (disch := omega) only [fa_lt, fa_le, fa_eq, nI_toInt, Int32.reduceToInt, im1] <;> omega) (by simp (disch := omega) only [fa_lt, fa_le, fa_eq, nI_toInt, Int32.reduceToInt, im1] <;> omega), if_neg (by decide)]
    unfold f_X9_append
    rw [t2, t3]
    by_cases ht : tp = 160
    · subst ht
      rw [if_neg (by decide), if_pos (by decide)]
      exact ⟨_, _, rfl, rfl, rfl, hR0⟩
    · have htl : tp < 160 := by omega
      rw [if_pos (by simp (disch := omega) only [fa_lt, fa_le, fa_eq, nI_toInt, Int32.reduceToInt, im1] <;> omega), if_pos (iblt htl (by decide)), if_neg (by simp (disch := omega) only [fa_lt, fa_le, fa_eq, nI_toInt, Int32.reduceToInt, im1] <;> omega), if_pos (iblt htl (by decide)), nI_clamp (by omega)]
      refine ⟨_, _, rfl, rfl, ?_, ?_⟩
      · simp only [u2n (show (0:Nat) ≠ 11 by decide), u2n (show (19:Nat) ≠ 58 by decide), u2s]
        rw [t2]
      · simp only [u2n (show (19:Nat) ≠ 58 by decide)]
        rw [t2, nI_1]
        refine ⟨e, d, nm, tp + 1, ok, hX.cg ok rfl rfl rfl rfl (by intros; simp (disch := omega) only [u2n]), hM.cg rfl rfl rfl rfl (by intros; simp (disch := omega) only [u2n]), hma.cg rfl rfl rfl rfl rfl rfl, ⟨by omega, u2s, rfl, fun i hi => ?_⟩, him.cg ok.1 rfl rfl (by intros; simp (disch := omega) only [u2n]) (fun k hk => ?_) (by intros; simp (disch := omega) only [u2n]), hsh.cg (by intros; simp (disch := omega) only [u2n]) (by intros; simp (disch := omega) only [u2n]), hst.cg ok.eW rfl rfl (by intros; simp (disch := omega) only [u2n]) (by intros; simp (disch := omega) only [u2n])⟩
        · by_cases hit : i = tp
          · subst hit
            exact ⟨j, hj, by rw [u2n (by decide), u2s], by rw [u2s]⟩
          · obtain ⟨c, hc, q1, q2⟩ := t4 i (by omega)
            exact ⟨c, hc, by rw [u2n (by decide), u2t hit]; exact q1, by rw [u2t hit, u2n (by decide)]; exact q2⟩
        · rw [u2n (by decide), u2t (by omega)]
  · have hc : a < 0 ∨ ¬ a ≤ 255 := (by simp (disch := omega) only [fa_lt, fa_le, fa_eq, nI_toInt, Int32.reduceToInt, im1] <;> omega)
    refine same_ans (v := -2) ?_ ?_ hR0
    · unfold f_X10_feed
      by_cases c : a < 0
      · rw [if_pos c]
      · rw [if_neg c, if_neg (by rcases hc with h | h <;> first | exact absurd h c | exact h)]
    · unfold f_X11_feed
      rw [wi_out (by simp (disch := omega) only [fa_lt, fa_le, fa_eq, nI_toInt, Int32.reduceToInt, im1] <;> omega), if_pos rfl]
