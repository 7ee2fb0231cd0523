/-! rings of debts: pairs (a, b, 9) and threes (a, b, c) -/
abbrev Rg : Type := Nat × Nat × Nat
def rgM (D : Nat → Nat) (r : Rg) : Nat := if r.2.2 = 9 then min (D (6 * r.1 + r.2.1)) (D (6 * r.2.1 + r.1)) else min (D (6 * r.1 + r.2.1)) (min (D (6 * r.2.1 + r.2.2)) (D (6 * r.2.2 + r.1)))
def inR (r : Rg) (k : Nat) : Bool := if r.2.2 = 9 then decide (k = 6 * r.1 + r.2.1 ∨ k = 6 * r.2.1 + r.1) else decide (k = 6 * r.1 + r.2.1 ∨ k = 6 * r.2.1 + r.2.2 ∨ k = 6 * r.2.2 + r.1)
theorem inR_2 {a b k : Nat} : inR (a, b, 9) k = true ↔ (k = 6 * a + b ∨ k = 6 * b + a) := by unfold inR; simp
theorem inR_3 {a b c k : Nat} (h : c ≠ 9) : inR (a, b, c) k = true ↔ (k = 6 * a + b ∨ k = 6 * b + c ∨ k = 6 * c + a) := by unfold inR; simp [h]
theorem rgM_2 {D : Nat → Nat} {a b : Nat} : rgM D (a, b, 9) = min (D (6 * a + b)) (D (6 * b + a)) := by unfold rgM; simp
theorem rgM_3 {D : Nat → Nat} {a b c : Nat} (h : c ≠ 9) : rgM D (a, b, c) = min (D (6 * a + b)) (min (D (6 * b + c)) (D (6 * c + a))) := by unfold rgM; simp [h]
def rgS (D : Nat → Nat) (r : Rg) : Nat → Nat := fun k => if inR r k = true then D k - rgM D r else D k
def setD (V : Vw) (D : Nat → Nat) : Vw := fun r k => if r = 10 ∧ k < 36 then nI (D k) else V r k
theorem setD_10 {V : Vw} {D : Nat → Nat} {k : Nat} (hk : k < 36) : setD V D 10 k = nI (D k) := if_pos ⟨rfl, hk⟩
theorem setD_o {V : Vw} {D : Nat → Nat} {r k : Nat} (hr : r ≠ 10) : setD V D r k = V r k := if_neg (fun q => hr q.1)
theorem setD_u {V : Vw} {D D' : Nat → Nat} {k q : Nat} (hk : k < 36) (h : ∀ i, i < 36 → D' i = if i = k then q else D i) : u2 (setD V D) 10 k (nI q) = setD V D' := by
  funext r i
  by_cases hri : r = 10 ∧ i < 36
  · obtain ⟨rfl, hi⟩ := hri
    rw [setD_10 hi, h i hi]
    by_cases hik : i = k
    · rw [hik, u2_eq, if_pos rfl]
    · rw [u2_ne (fun p => hik p.2), if_neg hik, setD_10 hi]
  · rw [setD, if_neg hri, u2_ne (fun p => hri ⟨p.1, by omega⟩), setD, if_neg hri]
theorem setD_c {V : Vw} {D D' : Nat → Nat} (h : ∀ i, i < 36 → D' i = D i) : setD V D' = setD V D := by
  funext r i
  unfold setD
  split
  · next q => rw [h i q.2]
  · rfl
/-- a value is its own with its debts set -/
theorem setD_self {V : Vw} (h : bdr V 10 36 99) : setD V (fun k => gd V 10 k) = V := by
  funext r k
  unfold setD
  split
  · next q =>
    obtain ⟨rfl, hk⟩ := q
    exact (h.gd hk (by omega)).1.symm
  · rfl
def okD (D : Nat → Nat) : Prop := ∀ k, k < 36 → D k ≤ 99
theorem rgS_le {D : Nat → Nat} {r : Rg} {k : Nat} : rgS D r k ≤ D k := by
  unfold rgS
  split <;> omega
theorem okD.s {D : Nat → Nat} {r : Rg} (h : okD D) : okD (rgS D r) := fun k hk => Nat.le_trans rgS_le (h k hk)
theorem rgM_mono {D D' : Nat → Nat} {r : Rg} (h : ∀ k, D' k ≤ D k) : rgM D' r ≤ rgM D r := by
  unfold rgM
  have h1 := h (6 * r.1 + r.2.1)
  have h2 := h (6 * r.2.1 + r.1)
  have h3 := h (6 * r.2.1 + r.2.2)
  have h4 := h (6 * r.2.2 + r.1)
  split <;> omega
theorem rgS_0 {D : Nat → Nat} {r : Rg} (h : rgM D r = 0) : rgS D r = D := by
  funext k
  unfold rgS
  rw [h]
  split <;> omega
/-- a ring that was struck is none any more -/
theorem rgM_s {D : Nat → Nat} {r : Rg} : rgM (rgS D r) r = 0 := by
  obtain ⟨a, b, c⟩ := r
  by_cases hc : c = 9
  · subst hc
    rw [rgM_2]
    unfold rgS
    rw [if_pos (inR_2.mpr (Or.inl rfl)), if_pos (inR_2.mpr (Or.inr rfl)), rgM_2]
    omega
  · rw [rgM_3 hc]
    unfold rgS
    rw [if_pos ((inR_3 hc).mpr (Or.inl rfl)), if_pos ((inR_3 hc).mpr (Or.inr (Or.inl rfl))), if_pos ((inR_3 hc).mpr (Or.inr (Or.inr rfl))), rgM_3 hc]
    omega
theorem nI_mn {a b : Nat} (ha : a < 2 ^ 30) (hb : b < 2 ^ 30) : mnI (nI a) (nI b) = nI (min a b) := by
  unfold mnI
  by_cases h : b < a
  · rw [if_pos ((nI_lti hb ha).mpr h), Nat.min_eq_right (by omega)]
  · rw [if_neg (fun q => h ((nI_lti hb ha).mp q)), Nat.min_eq_left (by omega)]
theorem nI_mg {a b : Nat} (ha : a < 2 ^ 30) (hb : b < 2 ^ 30) : (if nI b ≤ nI a then nI b else nI a) = nI (min a b) := by
  by_cases h : b ≤ a
  · rw [if_pos ((nI_lei hb ha).mpr h), Nat.min_eq_right h]
  · rw [if_neg (fun q => h ((nI_lei hb ha).mp q)), Nat.min_eq_left (by omega)]
theorem nI_le0 {m : Nat} (hm : m < 2 ^ 30) : (nI m ≤ 0) = (m = 0) := by
  rw [show (0 : Int32) = nI 0 from rfl]
  exact propext ((nI_lei hm (by omega)).trans Nat.le_zero)
/-! the class strikes one ring -/
theorem X1_put {S : Mm} {L a b : Nat} (hL : LandZ S.2 L) (hk : 6 * a + b < 36) (v : Int32) : f_X1_put S (L + 5) (nI a) (nI b) v = some (sI S (L + 6) (6 * a + b) v) := by
  simp only [f_X1_put, hL.O5.ok S rfl, if_true, hL.g50 S rfl, Option.bind_some, ix6, hL.A6.st S _ _ rfl hk]
theorem X1_two {S : Mm} {L a b : Nat} {V : Vw} {D : Nat → Nat} (hL : LandZ S.2 L) (hH : HsZ S.2 L) (hV : lV S L = setD V D) (hD : okD D) (ha : a < 6) (hb : b < 6) (hab : a ≠ b) : ∃ S', f_X1_strikeTwo S (L + 5) (nI a) (nI b) = some (if rgM D (a, b, 9) = 0 then 0 else 1, S') ∧ Ag [L + 6] S S' ∧ lV S' L = setD V (rgS D (a, b, 9)) := by
  have k1 : 6 * a + b < 36 := by omega
  have k2 : 6 * b + a < 36 := by omega
  have d1 := hD _ k1
  have d2 := hD _ k2
  obtain ⟨m, hm⟩ : ∃ m, m = min (D (6 * a + b)) (D (6 * b + a)) := ⟨_, rfl⟩
  have hmN : rgM D (a, b, 9) = m := by rw [rgM_2, hm]
  obtain ⟨S1, hS1⟩ : ∃ S1, S1 = sI S (L + 6) (6 * a + b) (nI (D (6 * a + b) - m)) := ⟨_, rfl⟩
  have z1 : S1.2 = S.2 := by rw [hS1]; rfl
  have hL1 : LandZ S1.2 L := by rw [z1]; exact hL
  have v1 : lV S1 L = setD V (fun k => if k = 6 * a + b then D (6 * a + b) - m else D k) := by
    rw [hS1, ls10 hL hH k1, hV]
    exact setD_u k1 (fun i _ => rfl)
  have x1 := X1_from (a := a) (b := b) hL k1
  have x2 := X1_from (a := b) (b := a) hL k2
  have x3 := X1_from (a := b) (b := a) hL1 k2
  rw [hV, setD_10 k1] at x1
  rw [hV, setD_10 k2] at x2
  rw [v1, setD_10 k2, if_neg (by omega)] at x3
  refine ⟨sI S1 (L + 6) (6 * b + a) (nI (D (6 * b + a) - m)), ?_, ?_, ?_⟩
  · rw [f_X1_strikeTwo, if_pos (hL.O5.ok S rfl), x1]
    simp only [Option.bind_some, x2, x1]
    rw [nI_mn (by omega) (by omega), ← hm, pk_sub (by omega), X1_put hL k1, ← hS1]
    simp only [Option.bind_some, x3]
    rw [pk_sub (by omega), X1_put hL1 k2]
    simp only [Option.bind_some, f_X1_strikeTwo_53, nI_le0 (show m < 2 ^ 30 by omega), hmN]
    split <;> rfl
  · rw [hS1]
    exact (Ag.sI (by simp)).sIt (by simp)
  · rw [ls10 hL1 (by rw [z1]; exact hH) k2, v1]
    refine setD_u k2 (fun i hi => ?_)
    unfold rgS
    rw [hmN]
    by_cases h1 : i = 6 * b + a
    · rw [if_pos (inR_2.mpr (Or.inr h1)), if_pos h1, h1]
    · rw [if_neg h1]
      by_cases h2 : i = 6 * a + b
      · rw [if_pos (inR_2.mpr (Or.inl h2)), if_pos h2, h2]
      · rw [if_neg (fun q => (inR_2.mp q).elim h2 h1), if_neg h2]
theorem X1_three {S : Mm} {L a b c : Nat} {V : Vw} {D : Nat → Nat} (hL : LandZ S.2 L) (hH : HsZ S.2 L) (hV : lV S L = setD V D) (hD : okD D) (ha : a < 6) (hb : b < 6) (hc : c < 6) (hab : a ≠ b) (hbc : b ≠ c) (hac : a ≠ c) : ∃ S', f_X1_strikeThree S (L + 5) (nI a) (nI b) (nI c) = some (if rgM D (a, b, c) = 0 then 0 else 1, S') ∧ Ag [L + 6] S S' ∧ lV S' L = setD V (rgS D (a, b, c)) := by
  have c9 : c ≠ 9 := by omega
  have k1 : 6 * a + b < 36 := by omega
  have k2 : 6 * b + c < 36 := by omega
  have k3 : 6 * c + a < 36 := by omega
  have d1 := hD _ k1
  have d2 := hD _ k2
  have d3 := hD _ k3
  obtain ⟨m, hm⟩ : ∃ m, m = min (D (6 * a + b)) (min (D (6 * b + c)) (D (6 * c + a))) := ⟨_, rfl⟩
  have hmN : rgM D (a, b, c) = m := by rw [rgM_3 c9, hm]
  obtain ⟨S1, hS1⟩ : ∃ S1, S1 = sI S (L + 6) (6 * a + b) (nI (D (6 * a + b) - m)) := ⟨_, rfl⟩
  have z1 : S1.2 = S.2 := by rw [hS1]; rfl
  have hL1 : LandZ S1.2 L := by rw [z1]; exact hL
  have hH1 : HsZ S1.2 L := by rw [z1]; exact hH
  have v1 : lV S1 L = setD V (fun k => if k = 6 * a + b then D (6 * a + b) - m else D k) := by
    rw [hS1, ls10 hL hH k1, hV]
    exact setD_u k1 (fun i _ => rfl)
  obtain ⟨S2, hS2⟩ : ∃ S2, S2 = sI S1 (L + 6) (6 * b + c) (nI (D (6 * b + c) - m)) := ⟨_, rfl⟩
  have z2 : S2.2 = S1.2 := by rw [hS2]; rfl
  have hL2 : LandZ S2.2 L := by rw [z2]; exact hL1
  have hH2 : HsZ S2.2 L := by rw [z2]; exact hH1
  have v2 : lV S2 L = setD V (fun k => if k = 6 * b + c then D (6 * b + c) - m else if k = 6 * a + b then D (6 * a + b) - m else D k) := by
    rw [hS2, ls10 hL1 hH1 k2, v1]
    exact setD_u k2 (fun i _ => rfl)
  have x1 := X1_from (a := a) (b := b) hL k1
  have x2 := X1_from (a := b) (b := c) hL k2
  have x3 := X1_from (a := c) (b := a) hL k3
  have y2 := X1_from (a := b) (b := c) hL1 k2
  have y3 := X1_from (a := c) (b := a) hL2 k3
  rw [hV, setD_10 k1] at x1
  rw [hV, setD_10 k2] at x2
  rw [hV, setD_10 k3] at x3
  rw [v1, setD_10 k2, if_neg (by omega)] at y2
  rw [v2, setD_10 k3, if_neg (by omega), if_neg (by omega)] at y3
  refine ⟨sI S2 (L + 6) (6 * c + a) (nI (D (6 * c + a) - m)), ?_, ?_, ?_⟩
  · rw [f_X1_strikeThree, if_pos (hL.O5.ok S rfl), x1]
    simp only [Option.bind_some, x2, x3, x1]
    rw [nI_mn (a := D (6 * b + c)) (by omega) (by omega), nI_mn (by omega) (by omega), ← hm, pk_sub (by omega), X1_put hL k1, ← hS1]
    simp only [Option.bind_some, y2]
    rw [pk_sub (by omega), X1_put hL1 k2, ← hS2]
    simp only [Option.bind_some, y3]
    rw [pk_sub (by omega), X1_put hL2 k3]
    simp only [Option.bind_some, f_X1_strikeThree_81, nI_le0 (show m < 2 ^ 30 by omega), hmN]
    split <;> rfl
  · rw [hS2, hS1]
    exact ((Ag.sI (by simp)).sIt (by simp)).sIt (by simp)
  · rw [ls10 hL2 hH2 k3, v2]
    refine setD_u k3 (fun i hi => ?_)
    unfold rgS
    rw [hmN]
    by_cases h1 : i = 6 * c + a
    · rw [if_pos ((inR_3 c9).mpr (Or.inr (Or.inr h1))), if_pos h1, h1]
    · rw [if_neg h1]
      by_cases h2 : i = 6 * b + c
      · rw [if_pos ((inR_3 c9).mpr (Or.inr (Or.inl h2))), if_pos h2, h2]
      · rw [if_neg h2]
        by_cases h3 : i = 6 * a + b
        · rw [if_pos ((inR_3 c9).mpr (Or.inl h3)), if_pos h3, h3]
        · rw [if_neg (fun q => by rcases (inR_3 c9).mp q with q | q | q <;> omega), if_neg h3]
