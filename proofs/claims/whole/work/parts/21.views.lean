abbrev Zt : Type := (Nat → Nat → Option Nat) × (Nat → Nat) × (Nat → Nat) × Nat
abbrev Vw : Type := Nat → Nat → Int32
/-- a value's rows: 0 size, law, week, mule; 1 kinds; 2 figures; 3 heights; 4, 5 made; 6, 7 wanted; 8 coin; 9 stores; 10 debts; 11 prices -/
def ml : Nat → Nat
  | 0 => 4
  | 9 => 18
  | 10 => 36
  | 11 => 3
  | r => if r ≤ 8 then 6 else 0
def gd (V : Vw) (r h : Nat) : Nat := (V r h).toNatClampNeg
def bdr (V : Vw) (r m b : Nat) : Prop := ∀ k, k < m → ∃ q, q ≤ b ∧ V r k = nI q
theorem bdr.gd {V : Vw} {r m b k : Nat} (h : bdr V r m b) (hk : k < m) (hb : b < 2 ^ 31) : V r k = nI (gd V r k) ∧ gd V r k ≤ b := by
  obtain ⟨q, h1, h2⟩ := h k hk
  have h3 : _root_.Jvm.Pilot.@@N@@.gd V r k = q := by rw [_root_.Jvm.Pilot.@@N@@.gd, h2, nI_clamp (by omega)]
  rw [h3]
  exact ⟨h2, h1⟩
theorem bdr.set {V : Vw} {r m b r' k' q : Nat} (h : bdr V r m b) (hq : r' = r → q ≤ b) : bdr (u2 V r' k' (nI q)) r m b := by
  intro k hk
  by_cases hc : r = r' ∧ k = k'
  · exact ⟨q, hq hc.1.symm, by rw [u2, if_pos hc]⟩
  · obtain ⟨p, h1, h2⟩ := h k hk
    exact ⟨p, h1, by rw [u2, if_neg hc]; exact h2⟩
theorem u2_ne {α : Type} {f : Nat → Nat → α} {a j : Nat} {v : α} {b k : Nat} (h : ¬ (b = a ∧ k = j)) : u2 f a j v b k = f b k := if_neg h
theorem u2_eq {α : Type} {f : Nat → Nat → α} {a j : Nat} {v : α} : u2 f a j v a j = v := if_pos ⟨rfl, rfl⟩
/-- nothing but ints of these cells has changed -/
def Ag (cs : List Nat) (S S' : Mm) : Prop := S'.2 = S.2 ∧ ∀ a, a ∉ cs → mI S' a = mI S a
theorem Ag.rf {cs : List Nat} {S : Mm} : Ag cs S S := ⟨rfl, fun _ _ => rfl⟩
theorem Ag.tr {cs : List Nat} {S S1 S2 : Mm} (h1 : Ag cs S S1) (h2 : Ag cs S1 S2) : Ag cs S S2 := ⟨h2.1.trans h1.1, fun a ha => (h2.2 a ha).trans (h1.2 a ha)⟩
theorem Ag.mono {cs ds : List Nat} {S S' : Mm} (h : Ag cs S S') (hs : ∀ a ∈ cs, a ∈ ds) : Ag ds S S' := ⟨h.1, fun a ha => h.2 a (fun q => ha (hs a q))⟩
theorem Ag.sI {cs : List Nat} {S : Mm} {a j : Nat} {v : Int32} (h : a ∈ cs) : Ag cs S (sI S a j v) := ⟨rfl, fun b hb => by
  funext k
  rw [mI_s, if_neg]
  rintro ⟨rfl, -⟩
  exact hb h⟩
theorem Ag.sIt {cs : List Nat} {S S1 : Mm} {a j : Nat} {v : Int32} (h1 : Ag cs S S1) (h : a ∈ cs) : Ag cs S (_root_.Jvm.Pilot.@@N@@.sI S1 a j v) := h1.tr (Ag.sI h)
theorem Ag.sW {cs : List Nat} {S : Mm} {a : Nat} {f : Nat → Int32} (h : a ∈ cs) : Ag cs S (sW S a f) := ⟨rfl, fun b hb => by
  funext k
  rw [mI_w, if_neg]
  rintro rfl
  exact hb h⟩
/-! the reference -/
def mV (S : Mm) : Vw := fun r k => if k < ml r then mI S (33 + r) k else 0
theorem mV_at {S : Mm} {r k : Nat} (h : k < ml r) : mI S (33 + r) k = mV S r k := (if_pos h).symm
theorem ml_big {r : Nat} (h : 12 ≤ r) : ml r = 0 := by
  unfold ml
  split <;> first | omega | (split <;> omega)
theorem mV_s {S : Mm} {r k : Nat} {v : Int32} (h : k < ml r) : mV (sI S (33 + r) k v) = u2 (mV S) r k v := by
  funext r' k'
  by_cases hc : r' = r ∧ k' = k
  · obtain ⟨rfl, rfl⟩ := hc
    rw [u2_eq]
    simp [mV, mI_s, h]
  · rw [u2_ne hc, mV, mV, mI_s, if_neg (c := 33 + r' = 33 + r ∧ k' = k) (fun q => hc ⟨by omega, q.2⟩)]
theorem mV_o {S : Mm} {c k : Nat} {v : Int32} (h : c < 33 ∨ 45 ≤ c ∨ (c = 33 ∧ 4 ≤ k)) : mV (sI S c k v) = mV S := by
  funext r' k'
  simp only [mV, mI_s]
  split
  · next hk =>
    rw [if_neg]
    rintro ⟨h1, h2⟩
    rcases h with h | h | h
    · omega
    · rw [ml_big (by omega)] at hk; omega
    · have h3 : r' = 0 := by omega
      subst h3
      have : ml 0 = 4 := rfl
      omega
  · rfl
theorem mV_ag {S S' : Mm} {cs : List Nat} (h : Ag cs S S') (hc : ∀ c ∈ cs, c < 33 ∨ 45 ≤ c) : mV S' = mV S := by
  funext r k
  simp only [mV]
  split
  · next hk =>
    rw [h.2 (33 + r)]
    intro q
    rcases hc _ q with h1 | h1
    · omega
    · rw [ml_big (by omega)] at hk; omega
  · rfl
def ModZ (Z : Zt) : Prop := okO Z 33 11 ∧ Z.1 33 4 = some 34 ∧ Z.1 33 5 = some 35 ∧ Z.1 33 6 = some 36 ∧ Z.1 33 7 = some 37 ∧ Z.1 33 8 = some 38 ∧ Z.1 33 9 = some 39 ∧ Z.1 33 10 = some 40 ∧ Z.1 33 11 = some 41 ∧ Z.1 33 12 = some 42 ∧ Z.1 33 13 = some 43 ∧ Z.1 33 14 = some 44 ∧ Z.1 33 16 = some 45 ∧ Z.1 33 18 = some 46 ∧ Z.1 33 20 = some 47 ∧ Z.1 33 21 = some 48 ∧ Z.1 33 26 = some 49 ∧ Z.1 33 31 = some 50 ∧ Z.1 33 32 = some 51 ∧ Z.1 33 33 = some 52 ∧ Z.1 33 34 = some 53 ∧ Z.1 33 35 = some 54 ∧ okA Z 34 6 ∧ okA Z 35 6 ∧ okA Z 36 6 ∧ okA Z 37 6 ∧ okA Z 38 6 ∧ okA Z 39 6 ∧ okA Z 40 6 ∧ okA Z 41 6 ∧ okA Z 42 18 ∧ okA Z 43 36 ∧ okA Z 44 3 ∧ okA Z 45 7 ∧ okA Z 46 6 ∧ okA Z 47 109 ∧ okA Z 48 109 ∧ okA Z 49 96 ∧ okA Z 50 49 ∧ okA Z 51 49 ∧ okA Z 52 441 ∧ okA Z 53 6 ∧ okA Z 54 8
section
variable {Z : Zt}
theorem ModZ.o (h : ModZ Z) : ∀ S : Mm, S.2 = Z → okc S 33 11 = true := h.1.ok
theorem ModZ.i (h : ModZ Z) : ∀ (S : Mm) (j : Nat), S.2 = Z → gI S 11 33 j = some (mI S 33 j) := h.1.gI
theorem ModZ.p (h : ModZ Z) : ∀ (S : Mm) (j : Nat) (v : Int32), S.2 = Z → pI S 11 33 j v = some (sI S 33 j v) := h.1.pI
theorem ModZ.g4 (h : ModZ Z) : ∀ S : Mm, S.2 = Z → gR S 11 33 4 = some 34 := h.1.gR h.2.1
theorem ModZ.g5 (h : ModZ Z) : ∀ S : Mm, S.2 = Z → gR S 11 33 5 = some 35 := h.1.gR h.2.2.1
theorem ModZ.g6 (h : ModZ Z) : ∀ S : Mm, S.2 = Z → gR S 11 33 6 = some 36 := h.1.gR h.2.2.2.1
theorem ModZ.g7 (h : ModZ Z) : ∀ S : Mm, S.2 = Z → gR S 11 33 7 = some 37 := h.1.gR h.2.2.2.2.1
theorem ModZ.g8 (h : ModZ Z) : ∀ S : Mm, S.2 = Z → gR S 11 33 8 = some 38 := h.1.gR h.2.2.2.2.2.1
theorem ModZ.g9 (h : ModZ Z) : ∀ S : Mm, S.2 = Z → gR S 11 33 9 = some 39 := h.1.gR h.2.2.2.2.2.2.1
theorem ModZ.g10 (h : ModZ Z) : ∀ S : Mm, S.2 = Z → gR S 11 33 10 = some 40 := h.1.gR h.2.2.2.2.2.2.2.1
theorem ModZ.g11 (h : ModZ Z) : ∀ S : Mm, S.2 = Z → gR S 11 33 11 = some 41 := h.1.gR h.2.2.2.2.2.2.2.2.1
theorem ModZ.g12 (h : ModZ Z) : ∀ S : Mm, S.2 = Z → gR S 11 33 12 = some 42 := h.1.gR h.2.2.2.2.2.2.2.2.2.1
theorem ModZ.g13 (h : ModZ Z) : ∀ S : Mm, S.2 = Z → gR S 11 33 13 = some 43 := h.1.gR h.2.2.2.2.2.2.2.2.2.2.1
theorem ModZ.g14 (h : ModZ Z) : ∀ S : Mm, S.2 = Z → gR S 11 33 14 = some 44 := h.1.gR h.2.2.2.2.2.2.2.2.2.2.2.1
theorem ModZ.g16 (h : ModZ Z) : ∀ S : Mm, S.2 = Z → gR S 11 33 16 = some 45 := h.1.gR h.2.2.2.2.2.2.2.2.2.2.2.2.1
theorem ModZ.g18 (h : ModZ Z) : ∀ S : Mm, S.2 = Z → gR S 11 33 18 = some 46 := h.1.gR h.2.2.2.2.2.2.2.2.2.2.2.2.2.1
theorem ModZ.g20 (h : ModZ Z) : ∀ S : Mm, S.2 = Z → gR S 11 33 20 = some 47 := h.1.gR h.2.2.2.2.2.2.2.2.2.2.2.2.2.2.1
theorem ModZ.g21 (h : ModZ Z) : ∀ S : Mm, S.2 = Z → gR S 11 33 21 = some 48 := h.1.gR h.2.2.2.2.2.2.2.2.2.2.2.2.2.2.2.1
theorem ModZ.g26 (h : ModZ Z) : ∀ S : Mm, S.2 = Z → gR S 11 33 26 = some 49 := h.1.gR h.2.2.2.2.2.2.2.2.2.2.2.2.2.2.2.2.1
theorem ModZ.g31 (h : ModZ Z) : ∀ S : Mm, S.2 = Z → gR S 11 33 31 = some 50 := h.1.gR h.2.2.2.2.2.2.2.2.2.2.2.2.2.2.2.2.2.1
theorem ModZ.g32 (h : ModZ Z) : ∀ S : Mm, S.2 = Z → gR S 11 33 32 = some 51 := h.1.gR h.2.2.2.2.2.2.2.2.2.2.2.2.2.2.2.2.2.2.1
theorem ModZ.g33 (h : ModZ Z) : ∀ S : Mm, S.2 = Z → gR S 11 33 33 = some 52 := h.1.gR h.2.2.2.2.2.2.2.2.2.2.2.2.2.2.2.2.2.2.2.1
theorem ModZ.g34 (h : ModZ Z) : ∀ S : Mm, S.2 = Z → gR S 11 33 34 = some 53 := h.1.gR h.2.2.2.2.2.2.2.2.2.2.2.2.2.2.2.2.2.2.2.2.1
theorem ModZ.g35 (h : ModZ Z) : ∀ S : Mm, S.2 = Z → gR S 11 33 35 = some 54 := h.1.gR h.2.2.2.2.2.2.2.2.2.2.2.2.2.2.2.2.2.2.2.2.2.1
theorem ModZ.a34 (h : ModZ Z) : okA Z 34 6 := h.2.2.2.2.2.2.2.2.2.2.2.2.2.2.2.2.2.2.2.2.2.2.1
theorem ModZ.a35 (h : ModZ Z) : okA Z 35 6 := h.2.2.2.2.2.2.2.2.2.2.2.2.2.2.2.2.2.2.2.2.2.2.2.1
theorem ModZ.a36 (h : ModZ Z) : okA Z 36 6 := h.2.2.2.2.2.2.2.2.2.2.2.2.2.2.2.2.2.2.2.2.2.2.2.2.1
theorem ModZ.a37 (h : ModZ Z) : okA Z 37 6 := h.2.2.2.2.2.2.2.2.2.2.2.2.2.2.2.2.2.2.2.2.2.2.2.2.2.1
theorem ModZ.a38 (h : ModZ Z) : okA Z 38 6 := h.2.2.2.2.2.2.2.2.2.2.2.2.2.2.2.2.2.2.2.2.2.2.2.2.2.2.1
theorem ModZ.a39 (h : ModZ Z) : okA Z 39 6 := h.2.2.2.2.2.2.2.2.2.2.2.2.2.2.2.2.2.2.2.2.2.2.2.2.2.2.2.1
theorem ModZ.a40 (h : ModZ Z) : okA Z 40 6 := h.2.2.2.2.2.2.2.2.2.2.2.2.2.2.2.2.2.2.2.2.2.2.2.2.2.2.2.2.1
theorem ModZ.a41 (h : ModZ Z) : okA Z 41 6 := h.2.2.2.2.2.2.2.2.2.2.2.2.2.2.2.2.2.2.2.2.2.2.2.2.2.2.2.2.2.1
theorem ModZ.a42 (h : ModZ Z) : okA Z 42 18 := h.2.2.2.2.2.2.2.2.2.2.2.2.2.2.2.2.2.2.2.2.2.2.2.2.2.2.2.2.2.2.1
theorem ModZ.a43 (h : ModZ Z) : okA Z 43 36 := h.2.2.2.2.2.2.2.2.2.2.2.2.2.2.2.2.2.2.2.2.2.2.2.2.2.2.2.2.2.2.2.1
theorem ModZ.a44 (h : ModZ Z) : okA Z 44 3 := h.2.2.2.2.2.2.2.2.2.2.2.2.2.2.2.2.2.2.2.2.2.2.2.2.2.2.2.2.2.2.2.2.1
theorem ModZ.a45 (h : ModZ Z) : okA Z 45 7 := h.2.2.2.2.2.2.2.2.2.2.2.2.2.2.2.2.2.2.2.2.2.2.2.2.2.2.2.2.2.2.2.2.2.1
theorem ModZ.a46 (h : ModZ Z) : okA Z 46 6 := h.2.2.2.2.2.2.2.2.2.2.2.2.2.2.2.2.2.2.2.2.2.2.2.2.2.2.2.2.2.2.2.2.2.2.1
theorem ModZ.a47 (h : ModZ Z) : okA Z 47 109 := h.2.2.2.2.2.2.2.2.2.2.2.2.2.2.2.2.2.2.2.2.2.2.2.2.2.2.2.2.2.2.2.2.2.2.2.1
theorem ModZ.a48 (h : ModZ Z) : okA Z 48 109 := h.2.2.2.2.2.2.2.2.2.2.2.2.2.2.2.2.2.2.2.2.2.2.2.2.2.2.2.2.2.2.2.2.2.2.2.2.1
theorem ModZ.a49 (h : ModZ Z) : okA Z 49 96 := h.2.2.2.2.2.2.2.2.2.2.2.2.2.2.2.2.2.2.2.2.2.2.2.2.2.2.2.2.2.2.2.2.2.2.2.2.2.1
theorem ModZ.a50 (h : ModZ Z) : okA Z 50 49 := h.2.2.2.2.2.2.2.2.2.2.2.2.2.2.2.2.2.2.2.2.2.2.2.2.2.2.2.2.2.2.2.2.2.2.2.2.2.2.1
theorem ModZ.a51 (h : ModZ Z) : okA Z 51 49 := h.2.2.2.2.2.2.2.2.2.2.2.2.2.2.2.2.2.2.2.2.2.2.2.2.2.2.2.2.2.2.2.2.2.2.2.2.2.2.2.1
theorem ModZ.a52 (h : ModZ Z) : okA Z 52 441 := h.2.2.2.2.2.2.2.2.2.2.2.2.2.2.2.2.2.2.2.2.2.2.2.2.2.2.2.2.2.2.2.2.2.2.2.2.2.2.2.2.1
theorem ModZ.a53 (h : ModZ Z) : okA Z 53 6 := h.2.2.2.2.2.2.2.2.2.2.2.2.2.2.2.2.2.2.2.2.2.2.2.2.2.2.2.2.2.2.2.2.2.2.2.2.2.2.2.2.2.1
theorem ModZ.a54 (h : ModZ Z) : okA Z 54 8 := h.2.2.2.2.2.2.2.2.2.2.2.2.2.2.2.2.2.2.2.2.2.2.2.2.2.2.2.2.2.2.2.2.2.2.2.2.2.2.2.2.2.2
end
/-! the class: a land's value -/
def kOf (c : Nat) : Int32 := if c = 0 then 1 else if c = 5 then 2 else if c = 3 then 3 else if c = 8 then 4 else if c = 2 then 5 else 0
def hrf (Z : Zt) (L k : Nat) : Nat := (Z.1 (L + 1) k).getD 0
def lslot : Nat → Nat
  | 0 => 1
  | k => k + 5
def lrow (S : Mm) (L : Nat) : Nat → Nat → Int32
  | 0, k => mI S L (lslot k)
  | 1, k => kOf (S.2.2.1 (hrf S.2 L k))
  | 8, k => mI S (L + 2) k
  | 9, k => mI S (L + 3) k
  | 10, k => mI S (L + 6) k
  | 11, k => mI S (L + 4) k
  | r, k => mI S (hrf S.2 L k) (r - 2)
def lV (S : Mm) (L : Nat) : Vw := fun r k => if k < ml r then lrow S L r k else 0
theorem lV_at {S : Mm} {L r k : Nat} (h : k < ml r) : lV S L r k = lrow S L r k := if_pos h
/-- a land's houses -/
def HsZ (Z : Zt) (L : Nat) : Prop := ∀ k, k < 6 → ∃ r, Z.1 (L + 1) k = some r ∧ r < Z.2.2.2 ∧ isF (Z.2.1 r) = true
theorem HsZ.h {Z : Zt} {L k : Nat} (h : HsZ Z L) (hk : k < 6) : Z.1 (L + 1) k = some (hrf Z L k) ∧ hrf Z L k < Z.2.2.2 ∧ isF (Z.2.1 (hrf Z L k)) = true := by
  obtain ⟨r, h1, h2⟩ := h k hk
  have h3 : hrf Z L k = r := by rw [hrf, h1]; rfl
  rw [h3]
  exact ⟨h1, h2⟩
theorem ml6 {r k : Nat} (h : k < ml r) (h1 : r ≠ 0) (h2 : r ≠ 9) (h3 : r ≠ 10) (h4 : r ≠ 11) : k < 6 ∧ r ≤ 8 := by
  unfold ml at h
  split at h <;> first | omega | (split at h <;> omega)
theorem lrow_h {S : Mm} {L r k : Nat} (h0 : r ≠ 0) (h1 : r ≠ 1) (h8 : r ≠ 8) (h9 : r ≠ 9) (h10 : r ≠ 10) (h11 : r ≠ 11) : lrow S L r k = mI S (hrf S.2 L k) (r - 2) := by
  unfold lrow
  split <;> first | contradiction | rfl
/-- what cells a land's value rests on, its houses apart -/
def lcell (L : Nat) : List Nat := [L, L + 2, L + 3, L + 4, L + 6]
theorem lV_ag {S S' : Mm} {L : Nat} {cs : List Nat} (h : Ag cs S S') (hH : HsZ S.2 L) (hc : ∀ c ∈ cs, c ∉ lcell L ∧ isF (S.2.2.1 c) = false) : lV S' L = lV S L := by
  have key : ∀ a, (a ∈ lcell L ∨ isF (S.2.2.1 a) = true) → mI S' a = mI S a := fun a ha => h.2 a (fun q => by
    rcases ha with ha | ha
    · exact (hc a q).1 ha
    · rw [(hc a q).2] at ha; cases ha)
  funext r k
  simp only [lV]
  split
  · next hk =>
    have hz : S'.2 = S.2 := h.1
    by_cases r0 : r = 0
    · subst r0
      show mI S' L _ = mI S L _
      rw [key L (Or.inl (by simp [lcell]))]
    by_cases r1 : r = 1
    · subst r1
      show kOf (S'.2.2.1 (hrf S'.2 L k)) = kOf (S.2.2.1 (hrf S.2 L k))
      rw [hz]
    by_cases r8 : r = 8
    · subst r8
      show mI S' (L + 2) k = mI S (L + 2) k
      rw [key _ (Or.inl (by simp [lcell]))]
    by_cases r9 : r = 9
    · subst r9
      show mI S' (L + 3) k = mI S (L + 3) k
      rw [key _ (Or.inl (by simp [lcell]))]
    by_cases r10 : r = 10
    · subst r10
      show mI S' (L + 6) k = mI S (L + 6) k
      rw [key _ (Or.inl (by simp [lcell]))]
    by_cases r11 : r = 11
    · subst r11
      show mI S' (L + 4) k = mI S (L + 4) k
      rw [key _ (Or.inl (by simp [lcell]))]
    rw [lrow_h r0 r1 r8 r9 r10 r11, lrow_h r0 r1 r8 r9 r10 r11, hz]
    rw [key _ (Or.inr (hH.h (ml6 hk r0 r9 r10 r11).1).2.2)]
  · rfl
theorem lV_o {S : Mm} {L c j : Nat} {v : Int32} (hH : HsZ S.2 L) (hc : c ∉ lcell L) (hf : isF (S.2.2.1 c) = false) : lV (sI S c j v) L = lV S L :=
  lV_ag (cs := [c]) (Ag.sI (by simp)) hH (fun a ha => by
    rw [List.mem_singleton] at ha
    subst ha
    exact ⟨hc, hf⟩)
/-- a store into one of its cells -/
theorem lV_s {S : Mm} {L c j r0 k0 : Nat} {v : Int32} (hH : HsZ S.2 L) (hf : isF (S.2.2.1 c) = false) (hk0 : k0 < ml r0) (hr : (r0 = 0 ∧ c = L ∧ j = lslot k0) ∨ (r0 = 8 ∧ c = L + 2 ∧ j = k0) ∨ (r0 = 9 ∧ c = L + 3 ∧ j = k0) ∨ (r0 = 10 ∧ c = L + 6 ∧ j = k0) ∨ (r0 = 11 ∧ c = L + 4 ∧ j = k0)) : lV (sI S c j v) L = u2 (lV S L) r0 k0 v := by
  funext r k
  by_cases hk : k < ml r
  · rw [lV_at hk]
    have hz : (sI S c j v).2 = S.2 := rfl
    have hls : ∀ x y : Nat, x < 4 → y < 4 → lslot x = lslot y → x = y := by
      intro x y hx hy h
      rcases (show x = 0 ∨ x = 1 ∨ x = 2 ∨ x = 3 by omega) with rfl | rfl | rfl | rfl <;> rcases (show y = 0 ∨ y = 1 ∨ y = 2 ∨ y = 3 by omega) with rfl | rfl | rfl | rfl <;> simp [lslot] at h ⊢
    by_cases r0' : r = 0
    · subst r0'
      have hk4 : k < 4 := hk
      show mI (sI S c j v) L (lslot k) = _
      rw [mI_s, u2]
      rcases hr with ⟨e1, e2, e3⟩ | ⟨e1, e2, e3⟩ | ⟨e1, e2, e3⟩ | ⟨e1, e2, e3⟩ | ⟨e1, e2, e3⟩ <;> subst e1 <;> subst e2 <;> subst e3
      · have hk04 : k0 < 4 := hk0
        by_cases hkk : k = k0
        · subst hkk; simp
        · rw [if_neg (fun q => hkk (hls _ _ hk4 hk04 q.2)), if_neg (fun q => hkk q.2), lV_at hk]; rfl
      all_goals (rw [if_neg (fun q => by omega), if_neg (fun q => by omega), lV_at hk]; rfl)
    by_cases r1 : r = 1
    · subst r1
      show kOf (S.2.2.1 (hrf S.2 L k)) = _
      rw [u2, if_neg (fun q => by omega), lV_at hk]; rfl
    by_cases r8 : r = 8
    · subst r8
      show mI (sI S c j v) (L + 2) k = _
      rw [mI_s, u2]
      rcases hr with ⟨e1, e2, e3⟩ | ⟨e1, e2, e3⟩ | ⟨e1, e2, e3⟩ | ⟨e1, e2, e3⟩ | ⟨e1, e2, e3⟩ <;> subst e1 <;> subst e2 <;> subst e3
      · rw [if_neg (fun q => by omega), if_neg (fun q => by omega), lV_at hk]; rfl
      · by_cases hkk : k = j
        · subst hkk; simp
        · rw [if_neg (fun q => hkk q.2), if_neg (fun q => hkk q.2), lV_at hk]; rfl
      all_goals (rw [if_neg (fun q => by omega), if_neg (fun q => by omega), lV_at hk]; rfl)
    by_cases r9 : r = 9
    · subst r9
      show mI (sI S c j v) (L + 3) k = _
      rw [mI_s, u2]
      rcases hr with ⟨e1, e2, e3⟩ | ⟨e1, e2, e3⟩ | ⟨e1, e2, e3⟩ | ⟨e1, e2, e3⟩ | ⟨e1, e2, e3⟩ <;> subst e1 <;> subst e2 <;> subst e3
      · rw [if_neg (fun q => by omega), if_neg (fun q => by omega), lV_at hk]; rfl
      · rw [if_neg (fun q => by omega), if_neg (fun q => by omega), lV_at hk]; rfl
      · by_cases hkk : k = j
        · subst hkk; simp
        · rw [if_neg (fun q => hkk q.2), if_neg (fun q => hkk q.2), lV_at hk]; rfl
      all_goals (rw [if_neg (fun q => by omega), if_neg (fun q => by omega), lV_at hk]; rfl)
    by_cases r10 : r = 10
    · subst r10
      show mI (sI S c j v) (L + 6) k = _
      rw [mI_s, u2]
      rcases hr with ⟨e1, e2, e3⟩ | ⟨e1, e2, e3⟩ | ⟨e1, e2, e3⟩ | ⟨e1, e2, e3⟩ | ⟨e1, e2, e3⟩ <;> subst e1 <;> subst e2 <;> subst e3
      · rw [if_neg (fun q => by omega), if_neg (fun q => by omega), lV_at hk]; rfl
      · rw [if_neg (fun q => by omega), if_neg (fun q => by omega), lV_at hk]; rfl
      · rw [if_neg (fun q => by omega), if_neg (fun q => by omega), lV_at hk]; rfl
      · by_cases hkk : k = j
        · subst hkk; simp
        · rw [if_neg (fun q => hkk q.2), if_neg (fun q => hkk q.2), lV_at hk]; rfl
      all_goals (rw [if_neg (fun q => by omega), if_neg (fun q => by omega), lV_at hk]; rfl)
    by_cases r11 : r = 11
    · subst r11
      show mI (sI S c j v) (L + 4) k = _
      rw [mI_s, u2]
      rcases hr with ⟨e1, e2, e3⟩ | ⟨e1, e2, e3⟩ | ⟨e1, e2, e3⟩ | ⟨e1, e2, e3⟩ | ⟨e1, e2, e3⟩ <;> subst e1 <;> subst e2 <;> subst e3
      · rw [if_neg (fun q => by omega), if_neg (fun q => by omega), lV_at hk]; rfl
      · rw [if_neg (fun q => by omega), if_neg (fun q => by omega), lV_at hk]; rfl
      · rw [if_neg (fun q => by omega), if_neg (fun q => by omega), lV_at hk]; rfl
      · rw [if_neg (fun q => by omega), if_neg (fun q => by omega), lV_at hk]; rfl
      · by_cases hkk : k = j
        · subst hkk; simp
        · rw [if_neg (fun q => hkk q.2), if_neg (fun q => hkk q.2), lV_at hk]; rfl
    have hr0 : r ≠ r0 := by rcases hr with h | h | h | h | h <;> omega
    have hne : hrf S.2 L k ≠ c := fun q => by
      have := (hH.h (ml6 hk r0' r9 r10 r11).1).2.2
      rw [q, hf] at this
      cases this
    rw [lrow_h r0' r1 r8 r9 r10 r11, hz, mI_s, if_neg (fun q => hne q.1), u2, if_neg (fun q => hr0 q.1), lV_at hk, lrow_h r0' r1 r8 r9 r10 r11]
  · rw [u2_ne (fun q => hk (by rw [q.1, q.2]; exact hk0)), lV, lV, if_neg hk, if_neg hk]
