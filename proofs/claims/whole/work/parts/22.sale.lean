/-! lawful, sale: the spec over a value -/
def sellV (V : Vw) (h : Nat) : Int32 := if V 1 h = 2 ∨ 3 < V 1 h then V 3 h + V 2 h else V 3 h
def buyV (V : Vw) (h : Nat) : Int32 := if V 1 h = 3 then 999 else if V 1 h = 1 ∨ V 1 h = 4 then V 3 h - V 2 h else if V 1 h = 5 then V 3 h - 2 * V 2 h else V 3 h
def lawV (V : Vw) (a b : Nat) : Bool := decide (a ≠ b) && (if V 0 1 = 0 then decide (buyV V b < sellV V a) else if V 0 1 = 1 then decide (sellV V a < buyV V b) else true)
def meanV (V : Vw) (a b g : Nat) : Bool := decide (0 < V 9 (3 * a + g)) && decide (V 11 g ≤ V 8 b) && decide (V 9 (3 * b + g) < 99) && decide (V 8 a + V 11 g ≤ 9999)
def canV (V : Vw) (a b g : Nat) : Bool := lawV V a b && meanV V a b g
def mvV (V : Vw) (a b g : Nat) : Vw := u2 (u2 (u2 (u2 V 9 (3 * a + g) (V 9 (3 * a + g) - 1)) 9 (3 * b + g) (V 9 (3 * b + g) + 1)) 8 a (V 8 a + V 11 g)) 8 b (V 8 b - V 11 g)
def wantV (V : Vw) (h g : Nat) : Bool := decide (V 6 h = nI g) && decide (0 < V 7 h)
def hasV (V : Vw) (x : Int32) : Bool := decide (0 ≤ x) && decide (x < V 0 0)
def twoV (V : Vw) (x y : Int32) : Bool := hasV V x && hasV V y && decide (x ≠ y)
def goodI (x : Int32) : Bool := decide (0 ≤ x) && decide (x < 3)
theorem ite_b2i {c : Prop} [Decidable c] {S : Mm} : (if c then some ((0 : Int32), S) else some ((1 : Int32), S)) = some (b2i (decide (¬ c)), S) := by
  by_cases h : c <;> simp [h, b2i]
theorem ite_b2i' {c : Prop} [Decidable c] {S : Mm} : (if c then some ((1 : Int32), S) else some ((0 : Int32), S)) = some (b2i (decide c), S) := by
  by_cases h : c <;> simp [h, b2i]
/-! rows of the views, cell by cell -/
section
variable {S : Mm} {L k : Nat}
theorem mv0 : mI S 33 0 = mV S 0 0 := rfl
theorem mv01 : mI S 33 1 = mV S 0 1 := rfl
theorem mv02 : mI S 33 2 = mV S 0 2 := rfl
theorem mv03 : mI S 33 3 = mV S 0 3 := rfl
theorem mv1 (h : k < 6) : mI S 34 k = mV S 1 k := mV_at (r := 1) h
theorem mv2 (h : k < 6) : mI S 35 k = mV S 2 k := mV_at (r := 2) h
theorem mv3 (h : k < 6) : mI S 36 k = mV S 3 k := mV_at (r := 3) h
theorem mv4 (h : k < 6) : mI S 37 k = mV S 4 k := mV_at (r := 4) h
theorem mv5 (h : k < 6) : mI S 38 k = mV S 5 k := mV_at (r := 5) h
theorem mv6 (h : k < 6) : mI S 39 k = mV S 6 k := mV_at (r := 6) h
theorem mv7 (h : k < 6) : mI S 40 k = mV S 7 k := mV_at (r := 7) h
theorem mv8 (h : k < 6) : mI S 41 k = mV S 8 k := mV_at (r := 8) h
theorem mv9 (h : k < 18) : mI S 42 k = mV S 9 k := mV_at (r := 9) h
theorem mv10 (h : k < 36) : mI S 43 k = mV S 10 k := mV_at (r := 10) h
theorem mv11 (h : k < 3) : mI S 44 k = mV S 11 k := mV_at (r := 11) h
theorem lv0 : mI S L 1 = lV S L 0 0 := rfl
theorem lv01 : mI S L 6 = lV S L 0 1 := rfl
theorem lv02 : mI S L 7 = lV S L 0 2 := rfl
theorem lv03 : mI S L 8 = lV S L 0 3 := rfl
theorem lv1 (h : k < 6) : kOf (mC S (hrf S.2 L k)) = lV S L 1 k := (lV_at (r := 1) h).symm
theorem lv2 (h : k < 6) : mI S (hrf S.2 L k) 0 = lV S L 2 k := (lV_at (r := 2) h).symm
theorem lv3 (h : k < 6) : mI S (hrf S.2 L k) 1 = lV S L 3 k := (lV_at (r := 3) h).symm
theorem lv4 (h : k < 6) : mI S (hrf S.2 L k) 2 = lV S L 4 k := (lV_at (r := 4) h).symm
theorem lv5 (h : k < 6) : mI S (hrf S.2 L k) 3 = lV S L 5 k := (lV_at (r := 5) h).symm
theorem lv6 (h : k < 6) : mI S (hrf S.2 L k) 4 = lV S L 6 k := (lV_at (r := 6) h).symm
theorem lv7 (h : k < 6) : mI S (hrf S.2 L k) 5 = lV S L 7 k := (lV_at (r := 7) h).symm
theorem lv8 (h : k < 6) : mI S (L + 2) k = lV S L 8 k := (lV_at (r := 8) h).symm
theorem lv9 (h : k < 18) : mI S (L + 3) k = lV S L 9 k := (lV_at (r := 9) h).symm
theorem lv10 (h : k < 36) : mI S (L + 6) k = lV S L 10 k := (lV_at (r := 10) h).symm
theorem lv11 (h : k < 3) : mI S (L + 4) k = lV S L 11 k := (lV_at (r := 11) h).symm
/-! stores into a land -/
theorem ls0 {v : Int32} {j k0 : Nat} (hL : LandZ S.2 L) (hH : HsZ S.2 L) (hk : k0 < 4) (hj : j = lslot k0) : lV (sI S L j v) L = u2 (lV S L) 0 k0 v := lV_s hH (by rw [hL.1.2]; rfl) hk (Or.inl ⟨rfl, rfl, hj⟩)
theorem ls8 {v : Int32} (hL : LandZ S.2 L) (hH : HsZ S.2 L) (hk : k < 6) : lV (sI S (L + 2) k v) L = u2 (lV S L) 8 k v := lV_s hH (by rw [hL.A2.2.1]; rfl) hk (Or.inr (Or.inl ⟨rfl, rfl, rfl⟩))
theorem ls9 {v : Int32} (hL : LandZ S.2 L) (hH : HsZ S.2 L) (hk : k < 18) : lV (sI S (L + 3) k v) L = u2 (lV S L) 9 k v := lV_s hH (by rw [hL.A3.2.1]; rfl) hk (Or.inr (Or.inr (Or.inl ⟨rfl, rfl, rfl⟩)))
theorem ls10 {v : Int32} (hL : LandZ S.2 L) (hH : HsZ S.2 L) (hk : k < 36) : lV (sI S (L + 6) k v) L = u2 (lV S L) 10 k v := lV_s hH (by rw [hL.A6.2.1]; rfl) hk (Or.inr (Or.inr (Or.inr (Or.inl ⟨rfl, rfl, rfl⟩))))
theorem ls11 {v : Int32} (hL : LandZ S.2 L) (hH : HsZ S.2 L) (hk : k < 3) : lV (sI S (L + 4) k v) L = u2 (lV S L) 11 k v := lV_s hH (by rw [hL.A4.2.1]; rfl) hk (Or.inr (Or.inr (Or.inr (Or.inr ⟨rfl, rfl, rfl⟩))))
theorem LandZ.hr (hL : LandZ S.2 L) (hH : HsZ S.2 L) (hk : k < 6) : aR S (L + 1) (nI k) = some (hrf S.2 L k) := by
  rw [aR, if_pos, nI_clamp (by omega)]
  · exact (hH.h hk).1
  · have h := hL.2.2.2.2.2.2.1
    simp only [okc, Bool.and_eq_true, decide_eq_true_eq]
    exact ⟨⟨h.1, h.2.1⟩, by rw [show mN S (L + 1) = 6 from h.2.2]; exact inb_nI hk (by omega)⟩
theorem okF_h (hH : HsZ S.2 L) (hk : k < 6) : okF S (hrf S.2 L k) = true := by
  simp only [okF, Bool.and_eq_true, decide_eq_true_eq]
  exact (hH.h hk).2
/-! the houses' own methods -/
def bK (k f t : Int32) : Int32 := if k = 3 then 999 else if k = 1 ∨ k = 4 then t - f else if k = 5 then t - 2 * f else t
def sK (k f t : Int32) : Int32 := if k = 2 ∨ 3 < k then t + f else t
theorem dyB {r : Nat} (h : okF S r = true) : dy_buysAt S r = some (bK (kOf (mC S r)) (mI S r 0) (mI S r 1), S) := by
  obtain ⟨h1, h2⟩ := okF_s h
  have hc : ∀ ci, okc S r ci = decide (mC S r = ci) := fun ci => by simp [okc, h1]
  rcases isF_c h2 with e | e | e | e | e | e <;> simp only [dy_buysAt, hc, e, gF, h, f_X0_buysAt, f_X2_buysAt, f_X3_buysAt, f_X4_buysAt] <;> rfl
theorem dyS {r : Nat} (h : okF S r = true) : dy_sellsAt S r = some (sK (kOf (mC S r)) (mI S r 0) (mI S r 1), S) := by
  obtain ⟨h1, h2⟩ := okF_s h
  have hc : ∀ ci, okc S r ci = decide (mC S r = ci) := fun ci => by simp [okc, h1]
  rcases isF_c h2 with e | e | e | e | e | e <;> simp only [dy_sellsAt, hc, e, gF, h, f_X4_sellsAt, f_X5_sellsAt, f_X8_sellsAt] <;> rfl
theorem dyK {r : Nat} (h : okF S r = true) : dy_kind S r = some (kOf (mC S r), S) := by
  obtain ⟨h1, h2⟩ := okF_s h
  have hc : ∀ ci, okc S r ci = decide (mC S r = ci) := fun ci => by simp [okc, h1]
  rcases isF_c h2 with e | e | e | e | e | e <;> simp only [dy_kind, hc, e, h, f_X0_kind, f_X2_kind, f_X3_kind, f_X4_kind, f_X5_kind, f_X8_kind] <;> rfl
theorem X4_wantsSome {r : Nat} {g : Int32} (h : okF S r = true) : f_X4_wantsSome S r g = some (b2i (decide (mI S r 4 = g) && decide (0 < mI S r 5)), S) := by
  simp only [f_X4_wantsSome, f_X4_wantsSome_19, f_X4_wantsSome_20, gF, h, if_true, Option.bind_some, rB_0, rB_1]
  by_cases c1 : mI S r 5 ≤ 0
  · rw [if_pos c1, show decide (0 < mI S r 5) = false by simpa using c1, Bool.and_false]; rfl
  · rw [if_neg c1, show decide (0 < mI S r 5) = true by simpa using c1, Bool.and_true]
    exact ite_b2i'
theorem dyW {r : Nat} {g : Int32} (h : okF S r = true) : dy_wantsSome S r g = some (b2i (decide (mI S r 4 = g) && decide (0 < mI S r 5)), S) := by
  obtain ⟨h1, h2⟩ := okF_s h
  have hc : ∀ ci, okc S r ci = decide (mC S r = ci) := fun ci => by simp [okc, h1]
  rw [← X4_wantsSome h]
  rcases isF_c h2 with e | e | e | e | e | e <;> simp only [dy_wantsSome, hc, e] <;> rfl
/-! the class's land -/
theorem X6_hasHouse' (hL : LandZ S.2 L) (x : Int32) : f_X6_hasHouse S L x = some (b2i (hasV (lV S L) x), S) := X6_hasHouse hL x
theorem X6_areTwo (hL : LandZ S.2 L) (x y : Int32) : f_X6_areTwo S L x y = some (b2i (twoV (lV S L) x y), S) := by
  simp only [f_X6_areTwo, f_X6_areTwo_25, f_X6_areTwo_26, hL.o S rfl, if_true, Option.bind_some, rB_0, rB_1, X6_hasHouse' hL, b2i_0]
  unfold twoV
  cases hasV (lV S L) x
  · simp [b2i]
  · cases hasV (lV S L) y
    · simp [b2i]
    · simp only [Bool.true_eq_false, if_false, Bool.true_and]
      rw [ite_b2i]
theorem X6_isLawful (hL : LandZ S.2 L) (hH : HsZ S.2 L) {a b : Nat} (ha : a < 6) (hb : b < 6) : f_X6_isLawful S L (nI a) (nI b) = some (b2i (lawV (lV S L) a b), S) := by
  simp only [f_X6_isLawful, f_X6_isLawful_71, f_X6_isLawful_83, hL.o S rfl, if_true, Option.bind_some, rB_0, rB_1, hL.g0 S rfl, hL.hr hH ha, hL.hr hH hb, dyB (okF_h hH hb), dyS (okF_h hH ha), hL.i S _ rfl, lv1 ha, lv1 hb, lv2 ha, lv2 hb, lv3 ha, lv3 hb, lv01]
  unfold lawV
  by_cases hab : a = b
  · subst hab
    simp [b2i]
  · rw [if_neg (fun q => hab ((nI_eq (by omega) (by omega)).mp q))]
    simp only [hab, ne_eq, not_false_eq_true, decide_true, Bool.true_and]
    split
    · rw [ite_b2i]
      congr 3
      exact decide_eq_decide.mpr Int32.not_le
    · split
      · rw [ite_b2i]
        congr 3
        exact decide_eq_decide.mpr Int32.not_le
      · rfl
theorem X6_hasMeans (hL : LandZ S.2 L) {a b g : Nat} (ha : a < 6) (hb : b < 6) (hg : g < 3) : f_X6_hasMeans S L (nI a) (nI b) (nI g) = some (b2i (meanV (lV S L) a b g), S) := by
  have h1 : 3 * a + g < 18 := by omega
  have h2 : 3 * b + g < 18 := by omega
  simp only [f_X6_hasMeans, f_X6_hasMeans_58, f_X6_hasMeans_59, hL.o S rfl, if_true, Option.bind_some, rB_0, rB_1, X6_piecesOf hL h1, X6_piecesOf hL h2, hL.g2 S rfl, hL.g4 S rfl, hL.A2.ld S _ rfl ha, hL.A2.ld S _ rfl hb, hL.A4.ld S _ rfl hg, lv8 ha, lv8 hb, lv9 h1, lv9 h2, lv11 hg]
  unfold meanV
  split
  · next c => simp [b2i, Int32.not_lt.mpr c]
  · next c1 =>
    rw [show decide (0 < lV S L 9 (3 * a + g)) = true by simpa using c1]
    split
    · next c => simp [b2i, Int32.not_le.mpr c]
    · next c2 =>
      rw [show decide (lV S L 11 g ≤ lV S L 8 b) = true by simpa using c2]
      split
      · next c => simp [b2i, Int32.not_lt.mpr c]
      · next c3 =>
        rw [show decide (lV S L 9 (3 * b + g) < 99) = true by simpa using c3]
        rw [ite_b2i]
        congr 3
        simp
theorem mv_ne {a b g : Nat} (hab : a ≠ b) : 3 * b + g ≠ 3 * a + g := by omega
theorem X6_moveOnePiece (hL : LandZ S.2 L) (hH : HsZ S.2 L) {a b g : Nat} (ha : a < 6) (hb : b < 6) (hg : g < 3) (hab : a ≠ b) : ∃ S', f_X6_moveOnePiece S L (nI a) (nI b) (nI g) = some S' ∧ Ag [L + 2, L + 3] S S' ∧ lV S' L = mvV (lV S L) a b g := by
  have h1 : 3 * a + g < 18 := by omega
  have h2 : 3 * b + g < 18 := by omega
  have hne := mv_ne (g := g) hab
  refine ⟨sI (sI (sI (sI S (L + 3) (3 * a + g) (mI S (L + 3) (3 * a + g) + -1)) (L + 3) (3 * b + g) (mI S (L + 3) (3 * b + g) + 1)) (L + 2) b (mI S (L + 2) b - mI S (L + 4) g)) (L + 2) a (mI S (L + 2) a + mI S (L + 4) g), ?_, ?_, ?_⟩
  · simp only [f_X6_moveOnePiece, hL.o S rfl, if_true, Option.bind_some, X6_addPieces hL h1]
    rw [X6_addPieces (S := sI S (L + 3) (3 * a + g) (mI S (L + 3) (3 * a + g) + -1)) hL h2]
    simp only [Option.bind_some, hL.g2, hL.g4, hL.A2.ld, hL.A4.ld, hL.A2.st, sI_2, ha, hb, hg, mI_s]
    simp [hne, hab, Ne.symm hab, show ¬ 3 * b = 3 * a by omega]
  · exact (((Ag.sI (by simp)).sIt (by simp)).sIt (by simp)).sIt (by simp)
  · rw [ls8 (S := sI (sI (sI S (L + 3) (3 * a + g) (mI S (L + 3) (3 * a + g) + -1)) (L + 3) (3 * b + g) (mI S (L + 3) (3 * b + g) + 1)) (L + 2) b (mI S (L + 2) b - mI S (L + 4) g)) hL hH ha, ls8 (S := sI (sI S (L + 3) (3 * a + g) (mI S (L + 3) (3 * a + g) + -1)) (L + 3) (3 * b + g) (mI S (L + 3) (3 * b + g) + 1)) hL hH hb, ls9 (S := sI S (L + 3) (3 * a + g) (mI S (L + 3) (3 * a + g) + -1)) hL hH h2, ls9 hL hH h1, lv8 ha, lv8 hb, lv9 h1, lv9 h2, lv11 hg]
    unfold mvV
    rw [← Int32.sub_eq_add_neg]
    funext r k
    simp only [u2]
    by_cases e1 : r = 8 ∧ k = a
    · obtain ⟨rfl, rfl⟩ := e1
      simp [hab]
    · by_cases e2 : r = 8 ∧ k = b
      · obtain ⟨rfl, rfl⟩ := e2
        simp [Ne.symm hab]
      · simp [e1, e2]
end
