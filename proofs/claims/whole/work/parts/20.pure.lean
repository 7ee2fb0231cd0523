/-! pure rows: what the functions are, in words of a land's value -/
def b2i (b : Bool) : Int32 := if b = true then 1 else 0
theorem rB_b2i (b : Bool) : rB (b2i b) = some (b2i b) := by cases b <;> rfl
theorem rB_0 : rB 0 = some 0 := rfl
theorem rB_1 : rB 1 = some 1 := rfl
theorem b2i_0 {b : Bool} : (b2i b = 0) = (b = false) := by cases b <;> simp [b2i]
theorem b2i_t : b2i true = 1 := rfl
theorem b2i_f : b2i false = 0 := rfl
-- not by rfl: the discharger of simp doesn't take rfl rows
theorem sI_2 (S : Mm) (a j : Nat) (v : Int32) : (sI S a j v).2 = S.2 := by simp [sI]
theorem sW_2 (S : Mm) (a : Nat) (f : Nat → Int32) : (sW S a f).2 = S.2 := by simp [sW]
theorem mI_s (S : Mm) (a j : Nat) (v : Int32) (b k : Nat) : mI (sI S a j v) b k = if b = a ∧ k = j then v else mI S b k := rfl
theorem mI_w (S : Mm) (a : Nat) (f : Nat → Int32) (b k : Nat) : mI (sW S a f) b k = if b = a then f k else mI S b k := by
  show va_up S.1 a f b k = _
  unfold va_up
  split <;> rfl
theorem mR_s (S : Mm) (a j : Nat) (v : Int32) : mR (sI S a j v) = mR S := rfl
theorem inb_nI {k n : Nat} (h : k < n) (hn : n < 2 ^ 31) : inb (nI k) n = true := by
  simp only [inb, Bool.and_eq_true, decide_eq_true_eq]
  exact ⟨nI_pos' (by omega), by rw [nI_clamp (by omega)]; exact h⟩
/-- an int array of n places -/
def okA (Z : (Nat → Nat → Option Nat) × (Nat → Nat) × (Nat → Nat) × Nat) (a n : Nat) : Prop := a < Z.2.2.2 ∧ Z.2.1 a = 100 ∧ Z.2.2.1 a = n ∧ n < 2 ^ 31
theorem okA.ok {a n : Nat} {S : Mm} (h : okA S.2 a n) : okc S a 100 = true := by
  simp only [okc, Bool.and_eq_true, decide_eq_true_eq]
  exact ⟨h.1, h.2.1⟩
theorem okA.ld {a n : Nat} {Z : (Nat → Nat → Option Nat) × (Nat → Nat) × (Nat → Nat) × Nat} (h : okA Z a n) : ∀ (S : Mm) (k : Nat), S.2 = Z → k < n → aI S a (nI k) = some (mI S a k) := by
  intro S k hZ hk
  subst hZ
  rw [aI, if_pos, nI_clamp (by have := h.2.2.2; omega)]
  rw [h.ok, show mN S a = n from h.2.2.1, inb_nI hk h.2.2.2]
  rfl
theorem okA.st {a n : Nat} {Z : (Nat → Nat → Option Nat) × (Nat → Nat) × (Nat → Nat) × Nat} (h : okA Z a n) : ∀ (S : Mm) (k : Nat) (v : Int32), S.2 = Z → k < n → aS S a (nI k) v = some (sI S a k v) := by
  intro S k v hZ hk
  subst hZ
  rw [aS, if_pos, nI_clamp (by have := h.2.2.2; omega)]
  rw [h.ok, show mN S a = n from h.2.2.1, inb_nI hk h.2.2.2]
  rfl
theorem okA.ln {a n : Nat} {Z : (Nat → Nat → Option Nat) × (Nat → Nat) × (Nat → Nat) × Nat} (h : okA Z a n) : ∀ S : Mm, S.2 = Z → aL S 100 a = some (nI n) := by
  intro S hZ
  subst hZ
  rw [aL, if_pos h.ok, show mN S a = n from h.2.2.1]
  rfl
/-- an object of a kind -/
def okO (Z : (Nat → Nat → Option Nat) × (Nat → Nat) × (Nat → Nat) × Nat) (a ci : Nat) : Prop := a < Z.2.2.2 ∧ Z.2.1 a = ci
theorem okO.ok {a ci : Nat} {Z : (Nat → Nat → Option Nat) × (Nat → Nat) × (Nat → Nat) × Nat} (h : okO Z a ci) : ∀ S : Mm, S.2 = Z → okc S a ci = true := by
  intro S hZ
  subst hZ
  simp only [okc, Bool.and_eq_true, decide_eq_true_eq]
  exact h
theorem okO.gI {a ci : Nat} {Z : (Nat → Nat → Option Nat) × (Nat → Nat) × (Nat → Nat) × Nat} (h : okO Z a ci) : ∀ (S : Mm) (j : Nat), S.2 = Z → gI S ci a j = some (mI S a j) := fun S j hZ => by rw [_root_.Jvm.Pilot.@@N@@.gI, if_pos (h.ok S hZ)]
theorem okO.pI {a ci : Nat} {Z : (Nat → Nat → Option Nat) × (Nat → Nat) × (Nat → Nat) × Nat} (h : okO Z a ci) : ∀ (S : Mm) (j : Nat) (v : Int32), S.2 = Z → pI S ci a j v = some (sI S a j v) := fun S j v hZ => by rw [_root_.Jvm.Pilot.@@N@@.pI, if_pos (h.ok S hZ)]
theorem okO.gR {a ci j r : Nat} {Z : (Nat → Nat → Option Nat) × (Nat → Nat) × (Nat → Nat) × Nat} (h : okO Z a ci) (hr : Z.1 a j = some r) : ∀ S : Mm, S.2 = Z → gR S ci a j = some r := fun S hZ => by
  rw [_root_.Jvm.Pilot.@@N@@.gR, if_pos (h.ok S hZ)]
  subst hZ
  exact hr
/-- a land's cells -/
def LandZ (Z : (Nat → Nat → Option Nat) × (Nat → Nat) × (Nat → Nat) × Nat) (L : Nat) : Prop := okO Z L 6 ∧ Z.1 L 0 = some (L + 1) ∧ Z.1 L 2 = some (L + 2) ∧ Z.1 L 3 = some (L + 3) ∧ Z.1 L 4 = some (L + 4) ∧ Z.1 L 5 = some (L + 5) ∧ (L + 1 < Z.2.2.2 ∧ Z.2.1 (L + 1) = 101 ∧ Z.2.2.1 (L + 1) = 6) ∧ okA Z (L + 2) 6 ∧ okA Z (L + 3) 18 ∧ okA Z (L + 4) 3 ∧ okO Z (L + 5) 1 ∧ Z.1 (L + 5) 0 = some (L + 6) ∧ okA Z (L + 6) 36
section
variable {Z : (Nat → Nat → Option Nat) × (Nat → Nat) × (Nat → Nat) × Nat} {L : Nat}
theorem LandZ.o (h : LandZ Z L) : ∀ S : Mm, S.2 = Z → okc S L 6 = true := h.1.ok
theorem LandZ.i (h : LandZ Z L) : ∀ (S : Mm) (j : Nat), S.2 = Z → gI S 6 L j = some (mI S L j) := h.1.gI
theorem LandZ.p (h : LandZ Z L) : ∀ (S : Mm) (j : Nat) (v : Int32), S.2 = Z → pI S 6 L j v = some (sI S L j v) := h.1.pI
theorem LandZ.g0 (h : LandZ Z L) : ∀ S : Mm, S.2 = Z → gR S 6 L 0 = some (L + 1) := h.1.gR h.2.1
theorem LandZ.g2 (h : LandZ Z L) : ∀ S : Mm, S.2 = Z → gR S 6 L 2 = some (L + 2) := h.1.gR h.2.2.1
theorem LandZ.g3 (h : LandZ Z L) : ∀ S : Mm, S.2 = Z → gR S 6 L 3 = some (L + 3) := h.1.gR h.2.2.2.1
theorem LandZ.g4 (h : LandZ Z L) : ∀ S : Mm, S.2 = Z → gR S 6 L 4 = some (L + 4) := h.1.gR h.2.2.2.2.1
theorem LandZ.g5 (h : LandZ Z L) : ∀ S : Mm, S.2 = Z → gR S 6 L 5 = some (L + 5) := h.1.gR h.2.2.2.2.2.1
theorem LandZ.A2 (h : LandZ Z L) : okA Z (L + 2) 6 := h.2.2.2.2.2.2.2.1
theorem LandZ.A3 (h : LandZ Z L) : okA Z (L + 3) 18 := h.2.2.2.2.2.2.2.2.1
theorem LandZ.A4 (h : LandZ Z L) : okA Z (L + 4) 3 := h.2.2.2.2.2.2.2.2.2.1
theorem LandZ.O5 (h : LandZ Z L) : okO Z (L + 5) 1 := h.2.2.2.2.2.2.2.2.2.2.1
theorem LandZ.g50 (h : LandZ Z L) : ∀ S : Mm, S.2 = Z → gR S 1 (L + 5) 0 = some (L + 6) := h.O5.gR h.2.2.2.2.2.2.2.2.2.2.2.1
theorem LandZ.A6 (h : LandZ Z L) : okA Z (L + 6) 36 := h.2.2.2.2.2.2.2.2.2.2.2.2
end
theorem ix3 (a g : Nat) : nI a * 3 + nI g = nI (3 * a + g) := by
  rw [show (3 : Int32) = nI 3 from rfl, pk_mul, nI_add, Nat.mul_comm]
theorem ix3' (a g : Nat) : 3 * nI a + nI g = nI (3 * a + g) := by
  rw [show (3 : Int32) = nI 3 from rfl, pk_mul, nI_add]
theorem ix6 (a g : Nat) : nI a * 6 + nI g = nI (6 * a + g) := by
  rw [show (6 : Int32) = nI 6 from rfl, pk_mul, nI_add, Nat.mul_comm]
theorem ix6' (a g : Nat) : 6 * nI a + nI g = nI (6 * a + g) := by
  rw [show (6 : Int32) = nI 6 from rfl, pk_mul, nI_add]
/-! Land's small methods -/
section
variable {S : Mm} {L : Nat}
theorem X6_hasHouse (h : LandZ S.2 L) (x : Int32) : f_X6_hasHouse S L x = some (b2i (decide (0 ≤ x) && decide (x < mI S L 1)), S) := by
  simp only [f_X6_hasHouse, f_X6_hasHouse_16, f_X6_hasHouse_17, h.o S rfl, h.i S _ rfl, if_true, Option.bind_some, rB_0, rB_1]
  by_cases h1 : x < 0
  · rw [if_pos h1, show decide (0 ≤ x) = false by simpa using h1]
    rfl
  · rw [if_neg h1, show decide (0 ≤ x) = true by simpa using h1]
    by_cases h2 : mI S L 1 ≤ x
    · rw [if_pos h2, show decide (x < mI S L 1) = false by simpa using h2]
      rfl
    · rw [if_neg h2, show decide (x < mI S L 1) = true by simpa using h2]
      rfl
theorem X6_piecesOf (h : LandZ S.2 L) {a g : Nat} (hk : 3 * a + g < 18) : f_X6_piecesOf S L (nI a) (nI g) = some (mI S (L + 3) (3 * a + g), S) := by
  simp only [f_X6_piecesOf, h.o S rfl, h.g3 S rfl, if_true, Option.bind_some, ix3, h.A3.ld S _ rfl hk]
theorem X6_addPieces (h : LandZ S.2 L) {a g : Nat} (hk : 3 * a + g < 18) (v : Int32) : f_X6_addPieces S L (nI a) (nI g) v = some (sI S (L + 3) (3 * a + g) (mI S (L + 3) (3 * a + g) + v)) := by
  simp only [f_X6_addPieces, h.o S rfl, h.g3 S rfl, if_true, Option.bind_some, ix3, h.A3.ld S _ rfl hk, h.A3.st S _ _ rfl hk]
end
