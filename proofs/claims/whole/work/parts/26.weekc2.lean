section
variable {S : Mm} {L : Nat}
theorem buyA_add {n : Nat} : ∀ (c b : Nat) (V : Vw) (k : Nat), (buyA n c b (V, k)).1 = (buyA n c b (V, 0)).1 ∧ (buyA n c b (V, k)).2 = k + (buyA n c b (V, 0)).2
  | 0, b, V, k => ⟨rfl, rfl⟩
  | c + 1, b, V, k => by
    rw [buyA, buyA]
    obtain ⟨h1, h2⟩ := buyA_add c (b + 1) (buyS n 10 V b (gd V 6 b)).1 (k + (buyS n 10 V b (gd V 6 b)).2)
    obtain ⟨g1, g2⟩ := buyA_add c (b + 1) (buyS n 10 V b (gd V 6 b)).1 (0 + (buyS n 10 V b (gd V 6 b)).2)
    refine ⟨h1.trans g1.symm, ?_⟩
    rw [h2, g2]
    omega
def apartQ (L Q : Nat) : Prop := Q ≠ L ∧ Q ≠ L + 2 ∧ Q ≠ L + 3 ∧ Q ≠ L + 4 ∧ Q ≠ L + 6 ∧ Q + 1 ≠ L ∧ Q + 1 ≠ L + 2 ∧ Q + 1 ≠ L + 3 ∧ Q + 1 ≠ L + 4 ∧ Q + 1 ≠ L + 6
theorem X6_pass27 {n Q : Nat} (hQ : apartQ L Q) : ∀ (c fuel b : Nat) (S : Mm), LandZ S.2 L → HsZ S.2 L → TalZ S.2 Q → Bd (lV S L) n → b + c = n → c < fuel → ∃ S1, f_X6_passWeek_27 fuel S L Q (nI b) = f_X6_passWeek_57 FU S1 L Q 0 ∧ Ag [L + 2, L + 3, Q] S S1 ∧ lV S1 L = (buyA n c b (lV S L, 0)).1 ∧ mI S1 Q 0 = mI S Q 0 ∧ mI S1 Q 1 = mI S Q 1 + nI (buyA n c b (lV S L, 0)).2 ∧ mI S1 Q 2 = mI S Q 2 := by
  obtain ⟨q1, q2, q3, q4, q5, q6, q7, q8, q9, q10⟩ := hQ
  intro c
  induction c with
  | zero =>
    intro fuel b S hL hH hT hB hc hf
    have h6 := hB.le
    obtain ⟨m, rfl⟩ : ∃ m, fuel = m + 1 := ⟨fuel - 1, by omega⟩
    refine ⟨S, ?_, Ag.rf, rfl, rfl, ?_, rfl⟩
    · rw [f_X6_passWeek_27]
      simp only [hL.i S _ rfl, Option.bind_some, lv0, hB.sz]
      rw [if_pos (by rw [nI_lei (by omega) (by omega)]; omega)]
    · show _ = _ + nI 0
      rw [nI_0, Int32.add_zero]
  | succ c ih =>
    intro fuel b S hL hH hT hB hc hf
    have h6 := hB.le
    obtain ⟨m, rfl⟩ : ∃ m, fuel = m + 1 := ⟨fuel - 1, by omega⟩
    obtain ⟨S1, g1, g2, g3⟩ := X6_buyWanted hL hH hB (b := b) (by omega)
    have z : S1.2 = S.2 := g2.1
    have hL1 : LandZ S1.2 L := by rw [z]; exact hL
    have hH1 : HsZ S1.2 L := by rw [z]; exact hH
    have hT1 : TalZ S1.2 Q := by rw [z]; exact hT
    have e6 := hB.r6.gd (k := b) (by omega) (by omega)
    have hB1 := (buyS_ok 10 (lV S L) b (gd (lV S L) 6 b) hB (by omega) (by omega)).1
    rw [← g3] at hB1
    have eQ : mI S1 Q = mI S Q := g2.2 Q (by simp; omega)
    have hfQ : isF (S1.2.2.1 Q) = false := by rw [hT1.1.2]; rfl
    have hvw : lV (sI S1 Q 1 (mI S Q 1 + nI (buyS n 10 (lV S L) b (gd (lV S L) 6 b)).2)) L = (buyS n 10 (lV S L) b (gd (lV S L) 6 b)).1 := by
      rw [lV_o hH1 (by simp [lcell]; omega) hfQ, g3]
    obtain ⟨S2, k1, k2, k3, k4, k5, k6⟩ := ih m (b + 1) (sI S1 Q 1 (mI S Q 1 + nI (buyS n 10 (lV S L) b (gd (lV S L) 6 b)).2)) hL1 hH1 hT1 (by rw [hvw, ← g3]; exact hB1) (by omega) (by omega)
    rw [hvw] at k3 k5
    obtain ⟨a1, a2⟩ := buyA_add (n := n) c (b + 1) (buyS n 10 (lV S L) b (gd (lV S L) 6 b)).1 (0 + (buyS n 10 (lV S L) b (gd (lV S L) 6 b)).2)
    refine ⟨S2, ?_, ?_, ?_, ?_, ?_, ?_⟩
    · rw [f_X6_passWeek_27]
      simp only [hL.i S _ rfl, hT.1.gI S _ rfl, Option.bind_some, lv0, hB.sz]
      rw [if_neg (by rw [nI_lei (by omega) (by omega)]; omega), g1]
      simp only [Option.bind_some, hT1.1.pI S1 _ _ rfl, nI_1]
      exact k1
    · exact ((g2.mono (ds := [L + 2, L + 3, Q]) (by simp)).sIt (by simp)).tr k2
    · rw [k3, buyA]
      exact a1.symm
    · rw [k4]; simp [mI_s, eQ]
    · rw [k5, buyA, a2]
      simp only [mI_s, and_self, if_true]
      rw [Int32.add_assoc, nI_add, Nat.zero_add]
    · rw [k6]; simp [mI_s, eQ]
theorem X6_pass6 {n Q : Nat} : ∀ (c fuel h : Nat) (S : Mm), LandZ S.2 L → HsZ S.2 L → Bd (lV S L) n → h + c = n → c < fuel → ∃ S1, f_X6_passWeek_6 fuel S L Q (nI h) = f_X6_passWeek_27 FU S1 L Q 0 ∧ Ag [L + 3] S S1 ∧ lV S1 L = makeV c h (lV S L) := by
  intro c
  induction c with
  | zero =>
    intro fuel h S hL hH hB hc hf
    have h6 := hB.le
    obtain ⟨m, rfl⟩ : ∃ m, fuel = m + 1 := ⟨fuel - 1, by omega⟩
    refine ⟨S, ?_, Ag.rf, rfl⟩
    rw [f_X6_passWeek_6]
    simp only [hL.i S _ rfl, Option.bind_some, lv0, hB.sz]
    rw [if_pos (by rw [nI_lei (by omega) (by omega)]; omega)]
  | succ c ih =>
    intro fuel h S hL hH hB hc hf
    have h6 := hB.le
    obtain ⟨m, rfl⟩ : ∃ m, fuel = m + 1 := ⟨fuel - 1, by omega⟩
    obtain ⟨S1, g1, g2, g3⟩ := X6_makeGoods hL hH hB (h := h) (by omega)
    have z : S1.2 = S.2 := g2.1
    have hB1 := hB.mk (h := h) (by omega)
    rw [← g3] at hB1
    obtain ⟨S2, k1, k2, k3⟩ := ih m (h + 1) S1 (by rw [z]; exact hL) (by rw [z]; exact hH) hB1 (by omega) (by omega)
    refine ⟨S2, ?_, g2.tr k2, by rw [k3, g3]; rfl⟩
    rw [f_X6_passWeek_6]
    simp only [hL.i S _ rfl, Option.bind_some, lv0, hB.sz]
    rw [if_neg (by rw [nI_lei (by omega) (by omega)]; omega), g1]
    simp only [Option.bind_some, nI_1]
    exact k1
set_option maxRecDepth 100000 in
/-- a week of a land, told to a tally -/
theorem X6_passWeek {n Q : Nat} (hQ : apartQ L Q) (hL : LandZ S.2 L) (hH : HsZ S.2 L) (hT : TalZ S.2 Q) (hB : Bd (lV S L) n) : ∃ S', f_X6_passWeek S L Q = some S' ∧ Ag [L, L + 2, L + 3, Q, Q + 1] S S' ∧ lV S' L = weekV n (lV S L) ∧ mI S' (Q + 1) = (weekU n (lV S L) (mI S (Q + 1)) (mI S Q 0)).2.1 ∧ mI S' Q 0 = (weekU n (lV S L) (mI S (Q + 1)) (mI S Q 0)).2.2.1 ∧ mI S' Q 1 = nI (midV n (lV S L)).2 ∧ mI S' Q 2 = (weekU n (lV S L) (mI S (Q + 1)) (mI S Q 0)).2.2.2 := by
  have hQ0 := hQ
  obtain ⟨q1, q2, q3, q4, q5, q6, q7, q8, q9, q10⟩ := hQ
  have h6 := hB.le
  have hfQ : isF (S.2.2.1 Q) = false := by rw [hT.1.2]; rfl
  have hv0 : lV (sI (sI S Q 1 0) Q 2 0) L = lV S L := by
    rw [lV_o (S := sI S Q 1 0) hH (by simp [lcell]; omega) hfQ, lV_o hH (by simp [lcell]; omega) hfQ]
  obtain ⟨S1, g1, g2, g3⟩ := X6_pass6 (L := L) (Q := Q) (n := n) n FU 0 (sI (sI S Q 1 0) Q 2 0) hL hH (by rw [hv0]; exact hB) (by omega) (by show n < 3000; omega)
  rw [hv0] at g3
  have z1 : S1.2 = S.2 := g2.1
  have hB1 := (makeV_ok n 0 (lV S L) hB (by omega)).1
  rw [← g3] at hB1
  obtain ⟨S2, k1, k2, k3, k4, k5, k6⟩ := X6_pass27 (n := n) hQ0 n FU 0 S1 (by rw [z1]; exact hL) (by rw [z1]; exact hH) (by rw [z1]; exact hT) hB1 (by omega) (by show n < 3000; omega)
  have hm : buyA n n 0 (lV S1 L, 0) = midV n (lV S L) := by rw [g3]; rfl
  rw [hm] at k3 k5
  have z2 : S2.2 = S.2 := k2.1.trans z1
  have hB2 := (midV_ok hB).1
  rw [← k3] at hB2
  obtain ⟨S3, m1, m2, m3, m4, m5, m6, m7⟩ := X6_pass57 (n := n) hQ0 n FU 0 S2 (by rw [z2]; exact hL) (by rw [z2]; exact hH) (by rw [z2]; exact hT) hB2 (by omega) (by show n < 3000; omega)
  have eQ : mI S1 Q = mI (sI (sI S Q 1 0) Q 2 0) Q := g2.2 Q (by simp; omega)
  have eQ1 : mI S2 (Q + 1) = mI S (Q + 1) := by
    rw [k2.2 (Q + 1) (by simp; omega), g2.2 (Q + 1) (by simp; omega)]
    funext k
    rw [mI_s, if_neg (by omega), mI_s, if_neg (by omega)]
  have e0 : mI S2 Q 0 = mI S Q 0 := by rw [k4, eQ]; simp [mI_s]
  have e1 : mI S2 Q 1 = nI (midV n (lV S L)).2 := by
    rw [k5, eQ]
    simp [mI_s]
  have e2 : mI S2 Q 2 = 0 := by rw [k6, eQ]; simp [mI_s]
  have hu : useS n 0 (lV S2 L, mI S2 (Q + 1), mI S2 Q 0, mI S2 Q 2) = weekU n (lV S L) (mI S (Q + 1)) (mI S Q 0) := by
    rw [k3, eQ1, e0, e2]; rfl
  rw [hu] at m3 m4 m5 m7
  refine ⟨S3, ?_, ?_, ?_, m4, m5, by rw [m6, e1], m7⟩
  · simp only [f_X6_passWeek, f_X9_beginWeek, hL.o S rfl, hT.1.ok S rfl, hT.1.pI, sI_2, if_true, Option.bind_some]
    rw [nI_0] at g1 k1 m1
    rw [g1, k1, m1]
  · have a0 : Ag [L, L + 2, L + 3, Q, Q + 1] S (sI (sI S Q 1 0) Q 2 0) := (Ag.sI (by simp)).sIt (by simp)
    exact ((a0.tr (g2.mono (by simp))).tr (k2.mono (by simp))).tr (m2.mono (by simp))
  · rw [m3, weekV, weekU_V]
end
