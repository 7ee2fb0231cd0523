/-! a land is copied over another -/
theorem okA.cpx {S : Mm} {Z : Zt} {a b n : Nat} (h : okA Z a n) (h' : okA Z b n) (hn : n < 2 ^ 30) (hZ : S.2 = Z) : ∃ S', aC S a 0 b 0 (nI n) = some S' ∧ Ag [b] S S' ∧ ∀ k, k < n → mI S' b k = mI S a k := by
  refine ⟨_, h.cp h' hn S hZ, Ag.sW (by simp), fun k hk => ?_⟩
  rw [mI_w, if_pos rfl, cpy_at hk]
theorem Ag.at {cs : List Nat} {S S' : Mm} (h : Ag cs S S') {a j : Nat} (ha : a ∉ cs) : mI S' a j = mI S a j := by rw [h.2 a ha]
theorem lslot4 {k : Nat} (h : k < 4) : lslot k = 1 ∨ lslot k = 6 ∨ lslot k = 7 ∨ lslot k = 8 := by
  have : k = 0 ∨ k = 1 ∨ k = 2 ∨ k = 3 := by omega
  rcases this with rfl | rfl | rfl | rfl
  · exact Or.inl rfl
  · exact Or.inr (Or.inl rfl)
  · exact Or.inr (Or.inr (Or.inl rfl))
  · exact Or.inr (Or.inr (Or.inr rfl))
theorem X6_copyFrom {D L : Nat} {S : Mm} (hd' : D = 1 ∨ D = 9 ∨ D = 17) (hl' : L = 1 ∨ L = 9 ∨ L = 17) (hDL : D ≠ L) (hN : NoF S.2) (hD : LandZ S.2 D) (hL : LandZ S.2 L) (hH : HsZ S.2 L) : ∃ S', f_X6_copyFrom S D L = some S' ∧ Gx [D, D + 2, D + 3, D + 4, D + 6] [D + 1] S S' ∧ HsZ S'.2 D ∧ lV S' D = lV S L ∧ S'.2.2 = S.2.2 := by
  have h5 : D + 6 < 33 := by omega
  have h5' : L + 6 < 33 := by omega
  have hd : D + 6 < L ∨ L + 6 < D := by omega
  obtain ⟨S1, m, e1, e2, e3, e4, e5⟩ := X6_copy2 hDL (by omega) (by omega) hd 6 FU 0 S hD hL hH rfl (by show 6 < 3000; omega)
  have hD1 := hD.x e3 (by omega) (by simp) (by simp)
  have hL1 := hL.x e3 (by omega) (by simp; omega) (by simp; omega)
  have i1 : mI S1 = mI S := e2
  obtain ⟨T1, a1, a2, a3⟩ := hL1.A2.cpx (S := sI S1 D 1 (mI S1 L 1)) hD1.A2 (by omega) rfl
  have z1 : T1.2 = S1.2 := a2.1
  obtain ⟨T2, b1, b2, b3⟩ := hL1.A3.cpx hD1.A3 (by omega) z1
  have z2 : T2.2 = S1.2 := b2.1.trans z1
  obtain ⟨T3, c1, c2, c3⟩ := hL1.A4.cpx hD1.A4 (by omega) z2
  have z3 : T3.2 = S1.2 := c2.1.trans z2
  obtain ⟨T4, d1, d2, d3⟩ := hL1.A6.cpx hD1.A6 (by omega) z3
  have z4 : T4.2 = S1.2 := d2.1.trans z3
  have hA : Ag [D, D + 2, D + 3, D + 4, D + 6] S1 T4 := ((((Ag.sI (by simp)).tr (a2.mono (by simp))).tr (b2.mono (by simp))).tr (c2.mono (by simp))).tr (d2.mono (by simp))
  have hA7 : Ag [D, D + 2, D + 3, D + 4, D + 6] S1 (sI (sI (sI T4 D 6 (mI T4 L 6)) D 7 (mI T4 L 7)) D 8 (mI T4 L 8)) := ((hA.sIt (by simp)).sIt (by simp)).sIt (by simp)
  have hLc : ∀ j, mI T4 L j = mI S L j := fun j => by rw [hA.at (by simp; omega), i1]
  have hhr : ∀ k, k < 6 → hrf S1.2 D k = hrf S.2 L k := fun k hk => by rw [hrf, hrf, e5 k hk, if_neg (by omega)]
  have hH7 : HsZ S1.2 D := fun k hk => by
    obtain ⟨r, r1, r2, r3⟩ := hH k hk
    exact ⟨r, by rw [e5 k hk, if_neg (by omega)]; exact r1, by rw [e4]; exact r2, by rw [e4]; exact r3⟩
  refine ⟨sI (sI (sI T4 D 6 (mI T4 L 6)) D 7 (mI T4 L 7)) D 8 (mI T4 L 8), ?_, ⟨by rw [hA7.1]; exact e3, fun a ha hc => by rw [hA7.2 a hc, i1]⟩, by rw [hA7.1]; exact hH7, ?_, by rw [hA7.1]; exact e4⟩
  · rw [f_X6_copyFrom, if_pos (hD.o S rfl), show (0 : Int32) = nI 0 from rfl, e1, f_X6_copyFrom_2]
    simp only [hD1.g0 S1 rfl, hD1.l0 S1 rfl, Option.bind_some]
    rw [if_pos (by rw [nI_lei (by omega) (by omega)]; omega)]
    have hl7 : mI (sI T4 D 6 (mI T4 L 6)) L 7 = mI T4 L 7 := by rw [mI_s, if_neg (by omega)]
    have hl8 : mI (sI (sI T4 D 6 (mI T4 L 6)) D 7 (mI T4 L 7)) L 8 = mI T4 L 8 := by rw [mI_s, if_neg (by omega), mI_s, if_neg (by omega)]
    simp only [hL1.i S1 1 rfl, hD1.p S1 1 _ rfl, Option.bind_some, hD1.g2 _ (sI_2 S1 D 1 (mI S1 L 1)), hL1.g2 _ (sI_2 S1 D 1 (mI S1 L 1)), hD1.A2.ln _ (sI_2 S1 D 1 (mI S1 L 1)), a1, hD1.g3 T1 z1, hL1.g3 T1 z1, hD1.A3.ln T1 z1, b1, hD1.g4 T2 z2, hL1.g4 T2 z2, hD1.A4.ln T2 z2, c1, hD1.g5 T3 z3, hL1.g5 T3 z3, f_X1_copyFrom, hD1.O5.ok T3 z3, if_true, hD1.g50 T3 z3, hL1.g50 T3 z3, hD1.A6.ln T3 z3, d1]
    simp only [hL1.i, hD1.p, sI_2, z4, Option.bind_some, hl7, hl8]
  · funext r k
    simp only [lV]
    split
    · next hk =>
      by_cases r0 : r = 0
      · subst r0
        show mI _ D (lslot k) = mI S L (lslot k)
        have f1 : mI T4 D 1 = mI S L 1 := by rw [d2.at (by simp), c2.at (by simp), b2.at (by simp), a2.at (by simp), mI_s, if_pos ⟨rfl, rfl⟩, i1]
        rcases lslot4 hk with h | h | h | h <;> rw [h] <;> simp [mI_s, hLc, f1]
      by_cases r1 : r = 1
      · subst r1
        show kOf (T4.2.2.1 (hrf T4.2 D k)) = kOf (S.2.2.1 (hrf S.2 L k))
        rw [z4, hhr k hk, e4]
      by_cases r8 : r = 8
      · subst r8
        show mI _ (D + 2) k = mI S (L + 2) k
        simp only [mI_s]
        rw [if_neg (by omega), if_neg (by omega), if_neg (by omega), d2.at (by simp), c2.at (by simp), b2.at (by simp), a3 k hk, mI_s, if_neg (by omega), i1]
      by_cases r9 : r = 9
      · subst r9
        show mI _ (D + 3) k = mI S (L + 3) k
        simp only [mI_s]
        rw [if_neg (by omega), if_neg (by omega), if_neg (by omega), d2.at (by simp), c2.at (by simp), b3 k hk, a2.at (by simp; omega), mI_s, if_neg (by omega), i1]
      by_cases r10 : r = 10
      · subst r10
        show mI _ (D + 6) k = mI S (L + 6) k
        simp only [mI_s]
        rw [if_neg (by omega), if_neg (by omega), if_neg (by omega), d3 k hk, c2.at (by simp; omega), b2.at (by simp; omega), a2.at (by simp; omega), mI_s, if_neg (by omega), i1]
      by_cases r11 : r = 11
      · subst r11
        show mI _ (D + 4) k = mI S (L + 4) k
        simp only [mI_s]
        rw [if_neg (by omega), if_neg (by omega), if_neg (by omega), d2.at (by simp), c3 k hk, b2.at (by simp; omega), a2.at (by simp; omega), mI_s, if_neg (by omega), i1]
      have hk6 := (ml6 hk r0 r9 r10 r11).1
      obtain ⟨_, y2, y3⟩ := hH.h hk6
      rw [lrow_h r0 r1 r8 r9 r10 r11, lrow_h r0 r1 r8 r9 r10 r11, hA7.1, hhr k hk6, hA7.2 _ ?_, i1]
      intro hc
      have hno : isF (S.2.2.1 (hrf S.2 L k)) = false := by
        simp only [List.mem_cons, List.not_mem_nil, or_false] at hc
        apply hN.2 <;> omega
      rw [hno] at y3
      cases y3
    · rfl
/-! the tallies are cleared -/
theorem X9_clear11 {Q : Nat} : ∀ (c fuel k : Nat) (S : Mm), TalZ S.2 Q → k + c = 6 → c < fuel → (∀ j, j < k → mI S (Q + 1) j = 0) → ∃ S', f_X9_clear_11 fuel S Q (nI k) = some S' ∧ Ag [Q + 1] S S' ∧ ∀ j, j < 6 → mI S' (Q + 1) j = 0 := by
  intro c
  induction c with
  | zero =>
    intro fuel k S hT hk hf h0
    obtain ⟨m, rfl⟩ : ∃ m, fuel = m + 1 := ⟨fuel - 1, by omega⟩
    refine ⟨S, ?_, Ag.rf, fun j hj => h0 j (by omega)⟩
    rw [f_X9_clear_11]
    simp only [hT.1.gR hT.2.1 S rfl, Option.bind_some, hT.2.2.ln S rfl]
    rw [if_pos (by rw [nI_lei (by omega) (by omega)]; omega)]
  | succ c ih =>
    intro fuel k S hT hk hf h0
    obtain ⟨m, rfl⟩ : ∃ m, fuel = m + 1 := ⟨fuel - 1, by omega⟩
    obtain ⟨S', e1, e2, e3⟩ := ih m (k + 1) (sI S (Q + 1) k 0) hT (by omega) (by omega) (fun j hj => by
      rw [mI_s]
      split
      · rfl
      · exact h0 j (by omega))
    refine ⟨S', ?_, (Ag.sI (by simp)).tr e2, e3⟩
    rw [f_X9_clear_11]
    simp only [hT.1.gR hT.2.1 S rfl, Option.bind_some, hT.2.2.ln S rfl]
    rw [if_neg (by rw [nI_lei (by omega) (by omega)]; omega), hT.2.2.st S k 0 rfl (by omega)]
    simp only [Option.bind_some, nI_1]
    exact e1
theorem X9_clear {Q : Nat} {S : Mm} (hT : TalZ S.2 Q) : ∃ S', f_X9_clear S Q = some S' ∧ Ag [Q, Q + 1] S S' ∧ (∀ j, j < 6 → mI S' (Q + 1) j = 0) ∧ mI S' Q 0 = 0 ∧ mI S' Q 1 = 0 ∧ mI S' Q 2 = 0 := by
  obtain ⟨S', e1, e2, e3⟩ := X9_clear11 (Q := Q) 6 FU 0 (sI (sI (sI S Q 0 0) Q 1 0) Q 2 0) hT rfl (by show 6 < 3000; omega) (fun j hj => absurd hj (Nat.not_lt_zero _))
  refine ⟨S', ?_, ((((Ag.sI (by simp)).sIt (by simp)).sIt (by simp)).tr (e2.mono (by simp))), e3, ?_, ?_, ?_⟩
  · rw [f_X9_clear, if_pos (hT.1.ok S rfl)]
    simp only [hT.1.pI, sI_2, Option.bind_some, f_X9_beginWeek, hT.1.ok, if_true]
    exact e1
  · rw [e2.at (by simp)]; simp [mI_s]
  · rw [e2.at (by simp)]; simp [mI_s]
  · rw [e2.at (by simp)]; simp [mI_s]
