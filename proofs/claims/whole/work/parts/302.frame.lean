/-! what each half of the relation looks at -/
theorem RuX.cg {X Y : Mem} {k : Nat} {W : Nat → (Nat → Int32) → Int32} (h : RuX X k W) (h1 : Y (46 + k) = X (46 + k)) (h2 : Y (52 + k) = X (52 + k)) : RuX Y k W := by
  unfold RuX at *
  rw [h1, h2]
  exact h
theorem RuM.cg {X Y : Mem} {k : Nat} {W : Nat → (Nat → Int32) → Int32} (h : RuM X k W) (h1 : Y 12 = X 12) (h2 : Y 13 = X 13) : RuM Y k W := by
  unfold RuM at *
  rw [h1, h2]
  exact h
theorem XE.cg {X Y : Mem} {e : ET} {ru : Nat} (h : XE X e ru) (ok : Eok e) (h3 : Y 1 3 = X 1 3) (h4 : Y 1 4 = X 1 4) (h6 : Y 1 6 = X 1 6) (hc : ∀ c, (25 ≤ c ∧ c < 40) ∨ (46 ≤ c ∧ c < 58) → Y c = X c) : XE Y e ru := by
  obtain ⟨a1, a2, a3, a4, a5, a6, a7⟩ := h
  refine ⟨h3.trans a1, h4.trans a2, fun p hp => ?_, fun n hn => ?_, h6.trans a5, a6, a7.cg (hc _ (by omega)) (hc _ (by omega))⟩
  · rw [hc (25 + p) (by have := ok.1; omega)]
    exact a3 p hp
  · rw [hc (30 + n) (by have := ok.2.1; omega)]
    exact a4 n hn
theorem ME.cg {X Y : Mem} {e : ET} {ru : Nat} (h : ME X e ru) (h0 : Y 0 0 = X 0 0) (h5 : Y 0 5 = X 0 5) (h6 : Y 0 16 = X 0 16) (hc : ∀ c, (1 ≤ c ∧ c < 9) ∨ (12 ≤ c ∧ c < 14) → Y c = X c) : ME Y e ru := by
  obtain ⟨a1, a2, a3, a4, a5, a6, a7⟩ := h
  refine ⟨h0.trans a1, h5.trans a2, fun p hp => ?_, fun n hn => ?_, h6.trans a5, a6, a7.cg (hc _ (by omega)) (hc _ (by omega))⟩
  · rw [hc 1 (by omega), hc 2 (by omega), hc 3 (by omega), hc 4 (by omega)]
    exact a3 p hp
  · rw [hc 5 (by omega), hc 6 (by omega), hc 7 (by omega), hc 8 (by omega)]
    exact a4 n hn
theorem Eok.eW {e : ET} {W : Nat → (Nat → Int32) → Int32} (h : Eok e) : Eok (eW e W) := h
theorem XD.cg {X Y : Mem} {e : ET} {d : DT} (h : XD X e d) (ok : Eok e) (h3 : Y 1 3 = X 1 3) (h4 : Y 1 4 = X 1 4) (h5 : Y 1 5 = X 1 5) (h6 : Y 1 6 = X 1 6) (hc : ∀ c, (25 ≤ c ∧ c < 40) ∨ (46 ≤ c ∧ c < 58) → Y c = X c) : XD Y e d := by
  obtain ⟨a1, a2, a3, a4, a5⟩ := h
  exact ⟨a1.cg ok.eW h3 h4 h6 hc, a2, a3, h5.trans a4, fun k hk => (a5 k hk).cg (hc _ (by omega)) (hc _ (by omega))⟩
theorem MD.cg {X Y : Mem} {e : ET} {d : DT} (h : MD X e d) (h0 : Y 0 0 = X 0 0) (h5 : Y 0 5 = X 0 5) (h15 : Y 0 15 = X 0 15) (h16 : Y 0 16 = X 0 16) (hc : ∀ c, (1 ≤ c ∧ c < 9) ∨ (12 ≤ c ∧ c < 14) → Y c = X c) : MD Y e d := by
  obtain ⟨a1, a2, a3⟩ := h
  exact ⟨a1.cg h0 h5 h16 hc, h15.trans a2, fun k hk => (a3 k hk).cg (hc _ (by omega)) (hc _ (by omega))⟩
theorem Rma.cg {X M Y N : Mem} {nn nm : Nat} (h : Rma X M nn nm) (h1 : Y 85 2 = X 85 2) (h2 : Y 86 = X 86) (h3 : Y 87 = X 87) (h4 : N 0 10 = M 0 10) (h5 : N 9 = M 9) (h6 : N 10 = M 10) : Rma Y N nn nm := by
  unfold Rma at *
  rw [h1, h2, h3, h4, h5, h6]
  exact h
theorem Rma.more {X M : Mem} {nn n2 nm : Nat} (hn : nn ≤ n2) (h : Rma X M nn nm) : Rma X M n2 nm := by
  obtain ⟨a1, a2, a3, a4⟩ := h
  refine ⟨a1, a2, a3, fun i hi => ?_⟩
  obtain ⟨a, b, q1, q2, q3⟩ := a4 i hi
  exact ⟨a, b, by omega, by omega, q3⟩
theorem Rta.cg {X M Y N : Mem} {tp : Nat} (h : Rta X M tp) (h1 : Y 19 0 = X 19 0) (h2 : Y 58 = X 58) (h3 : N 0 13 = M 0 13) (h4 : N 11 = M 11) : Rta Y N tp := by
  unfold Rta at *
  rw [h1, h2, h3, h4]
  exact h
theorem Rim.cg {X M Y N : Mem} {np nn nm nt : Nat} (h : Rim X M np nn nm nt) (hp5 : np ≤ 5) (h1 : Y 98 = X 98) (h2 : Y 100 = X 100) (h3 : ∀ c, 101 ≤ c ∧ c < 106 → Y c = X c) (h4 : ∀ k, 34 ≤ k ∧ k < 39 → N 0 k = M 0 k) (h5 : ∀ c, 23 ≤ c ∧ c < 28 → N c = M c) : Rim Y N np nn nm nt := by
  unfold Rim at *
  rw [h1, h2, h4 34 (by omega), h4 35 (by omega), h4 36 (by omega), h4 37 (by omega), h4 38 (by omega), h5 23 (by omega), h5 24 (by omega), h5 25 (by omega), h5 26 (by omega), h5 27 (by omega)]
  rcases h with h | ⟨a1, a2, op, on, om, ol, b1, b2, b3, b4, c1, c2, c3, c4, c5, c6, c7, c8, hh, gg⟩
  · exact Or.inl h
  · exact Or.inr ⟨a1, a2, op, on, om, ol, b1, b2, b3, b4, c1, c2, c3, c4, c5, c6, c7, c8, fun p hp => by rw [h3 (101 + p) (by omega)]; exact hh p hp, gg⟩
theorem Rim.more {X M : Mem} {np nn nm nt np2 nn2 nm2 nt2 : Nat} (e1 : np ≤ np2) (e2 : nn ≤ nn2) (e3 : nm ≤ nm2) (e4 : nt ≤ nt2) (h : Rim X M np nn nm nt) : Rim X M np2 nn2 nm2 nt2 := by
  rcases h with h | ⟨a1, a2, op, on, om, ol, b1, b2, b3, b4, r⟩
  · exact Or.inl h
  · exact Or.inr ⟨a1, a2, op, on, om, ol, by omega, by omega, by omega, by omega, r⟩
theorem Rsh.cg {X M Y N : Mem} (h : Rsh X M) (h1 : ∀ c, 90 ≤ c ∧ c < 98 → Y c = X c) (h2 : ∀ c, 28 ≤ c ∧ c < 31 → N c = M c) : Rsh Y N := by
  intro i hi
  rw [h1 (90 + i) (by omega), h1 (94 + i) (by omega), h2 28 (by omega), h2 29 (by omega), h2 30 (by omega)]
  exact h i hi
theorem CK.cg {X Y : Mem} {e : ET} {s : CS} (h : CK X e s) (ok : Eok e) (h1 : Y 6 = X 6) (h2 : ∀ c, 10 ≤ c ∧ c < 13 → Y c = X c) (h3 : ∀ c, 60 ≤ c ∧ c < 74 → Y c = X c) : CK Y e s := by
  obtain ⟨a1, a2, a3, a4, a5⟩ := h
  have := ok.1
  refine ⟨by rw [h1]; exact a1, fun p h hp hh => ?_, fun p n hp hn => ?_, fun t p ht hp => ?_, ?_⟩
  · rw [h3 (60 + p) (by omega)]
    exact a2 p h hp hh
  · rw [h3 (65 + p) (by omega)]
    exact a3 p n hp hn
  · rw [h3 (70 + t) (by omega)]
    exact a4 t p ht hp
  · rw [h2 10 (by omega), h2 11 (by omega), h2 12 (by omega)]
    exact a5
theorem Rst.cg {X Y : Mem} {e : ET} (h : Rst X e) (ok : Eok e) (h0 : Y 5 0 = X 5 0) (h1 : Y 6 = X 6) (h2 : ∀ c, 10 ≤ c ∧ c < 13 → Y c = X c) (h3 : ∀ c, 60 ≤ c ∧ c < 74 → Y c = X c) : Rst Y e := by
  rcases h with h | ⟨h, u, hs, hk⟩
  · exact Or.inl (h0.trans h)
  · exact Or.inr ⟨h0.trans h, u, hs, hk.cg ok h1 h2 h3⟩
/-- an answer that changes nothing -/
theorem same_ans {R : Mem → Mem → Prop} {X M : Mem} {fX fM : Option (Int32 × Mem)} {v : Int32} (h1 : fX = some (v, X)) (h2 : fM = some (v, M)) (h : R X M) : ∃ rX rM, fX = some rX ∧ fM = some rM ∧ rX.1 = rM.1 ∧ R rX.2 rM.2 := ⟨_, _, h1, h2, rfl, h⟩
theorem wi_in {a lo hi : Int32} (h1 : lo.toInt ≤ a.toInt) (h2 : a.toInt ≤ hi.toInt) : f_X11_within a lo hi = 1 := by
  unfold f_X11_within
  rw [if_neg (by rw [fa_lt]; omega), if_neg (by rw [fa_lt]; omega)]
theorem wi_out {a lo hi : Int32} (h : a.toInt < lo.toInt ∨ hi.toInt < a.toInt) : f_X11_within a lo hi = 0 := by
  unfold f_X11_within
  by_cases c : a < lo
  · rw [if_pos c]
  · rw [if_neg c, if_pos (by rw [fa_lt] at c ⊢; omega)]
theorem ans {R : Mem → Mem → Prop} {X M : Mem} {fX fM : Option (Int32 × Mem)} {v : Int32} (h1 : fX = some (v, X)) (h2 : fM = some (v, M)) (h : R X M) : ∃ rX rM, fX = some rX ∧ fM = some rM ∧ rX.1 = rM.1 ∧ R rX.2 rM.2 := ⟨_, _, h1, h2, rfl, h⟩
theorem Rel.stale {X M : Mem} (h : Rel X M) : Rel (upd2 X 5 0 1) M := by
  obtain ⟨e, d, nm, tp, ok, hX, hM, hma, hta, him, hsh, hst⟩ := h
  exact ⟨e, d, nm, tp, ok, (hX.cg ok rfl rfl rfl rfl (by intros; simp (disch := omega) only [u2n])), hM, (hma.cg rfl rfl rfl rfl rfl rfl), (hta.cg rfl rfl rfl rfl), him.cg ok.1 rfl rfl (by intros; simp (disch := omega) only [u2n]) (fun _ _ => rfl) (fun _ _ => rfl), hsh.cg (by intros; simp (disch := omega) only [u2n]) (fun _ _ => rfl), Or.inl rfl⟩
