/-! letters: what both readers go by -/
section
variable (x : Nat → Nat) (s : Nat)
def dgL (p : Nat) : Bool := decide (p < s) && (decide (48 ≤ x p) && decide (x p ≤ 57))
theorem dgL_t {p : Nat} (h : dgL x s p = true) : p < s ∧ 48 ≤ x p ∧ x p ≤ 57 := by
  simp only [dgL, Bool.and_eq_true, decide_eq_true_eq] at h
  exact h
/-- the end of at most so many digits -/
def rnL : Nat → Nat → Nat
  | 0, p => p
  | m + 1, p => if dgL x s p = true then rnL m (p + 1) else p
theorem rn_ge : ∀ m p, p ≤ rnL x s m p
  | 0, p => Nat.le_refl p
  | m + 1, p => by
    rw [rnL]
    split
    · have := rn_ge m (p + 1)
      omega
    · exact Nat.le_refl p
theorem rn_le : ∀ m p, rnL x s m p ≤ p + m
  | 0, p => Nat.le_refl p
  | m + 1, p => by
    rw [rnL]
    split
    · have := rn_le m (p + 1)
      omega
    · omega
theorem rn_s : ∀ m p, p ≤ s → rnL x s m p ≤ s
  | 0, p, h => h
  | m + 1, p, h => by
    rw [rnL]
    split
    · next hd => exact rn_s m (p + 1) (dgL_t x s hd).1
    · exact h
theorem rn_dg : ∀ m p q, p ≤ q → q < rnL x s m p → dgL x s q = true
  | 0, p, q, h1, h2 => by
    rw [rnL] at h2
    omega
  | m + 1, p, q, h1, h2 => by
    rw [rnL] at h2
    by_cases hd : dgL x s p = true
    · rw [if_pos hd] at h2
      by_cases e : p = q
      · subst e
        exact hd
      · exact rn_dg m (p + 1) q (by omega) h2
    · rw [if_neg hd] at h2
      omega
theorem rn_add : ∀ c m p, rnL x s (c + m) p = if rnL x s c p = p + c then rnL x s m (p + c) else rnL x s c p
  | 0, m, p => by rw [Nat.zero_add, rnL, Nat.add_zero, if_pos rfl]
  | c + 1, m, p => by
    rw [show c + 1 + m = (c + m) + 1 by omega, rnL, rnL]
    by_cases hd : dgL x s p = true
    · rw [if_pos hd, if_pos hd, rn_add c m (p + 1), show p + 1 + c = p + (c + 1) by omega]
    · rw [if_neg hd, if_neg hd, if_neg (by omega)]
theorem rn_1 {m p : Nat} (h : dgL x s p = true) : rnL x s (m + 1) p = rnL x s m (p + 1) := by rw [rnL, if_pos h]
theorem rn_0 {m p : Nat} (h : dgL x s p = false) : rnL x s (m + 1) p = p := by rw [rnL, if_neg (by rw [h]; simp)]
/-- how many digits a statement has after its letter: so many, and then a number of at most so many -/
def fxL (l : Nat) : Nat := if l = 104 then 8 else if l = 108 then 1 else 2
def nuL (l : Nat) : Nat := if l = 104 then 3 else if l = 100 then 2 else 0
def mnL (l : Nat) : Nat := fxL l + (if nuL l = 0 then 0 else 1)
def hdL (p : Nat) : Bool := decide (x p = 104) || decide (x p = 112) || decide (x p = 108) || decide (x p = 100)
theorem hdL_t {p : Nat} (h : hdL x p = true) : x p = 104 ∨ x p = 112 ∨ x p = 108 ∨ x p = 100 := by
  simp only [hdL, Bool.or_eq_true, decide_eq_true_eq] at h
  omega
theorem hdL_f {p : Nat} (h : hdL x p = false) : x p ≠ 104 ∧ x p ≠ 112 ∧ x p ≠ 108 ∧ x p ≠ 100 := by
  simp only [hdL, Bool.or_eq_false_iff, decide_eq_false_iff_not] at h
  omega
def enL (p : Nat) : Nat := rnL x s (fxL (x p) + nuL (x p)) (p + 1)
def okL (p : Nat) : Bool := hdL x p && (decide (mnL (x p) ≤ enL x s p - p - 1) && (decide (enL x s p < s) && decide (x (enL x s p) = 59)))
theorem okL_t {p : Nat} (h : okL x s p = true) : hdL x p = true ∧ p + 1 + mnL (x p) ≤ enL x s p ∧ enL x s p < s ∧ x (enL x s p) = 59 := by
  simp only [okL, Bool.and_eq_true, decide_eq_true_eq] at h
  have : p + 1 ≤ enL x s p := rn_ge x s _ _
  have : 0 < mnL (x p) := by
    unfold mnL fxL
    repeat' split
    all_goals omega
  exact ⟨h.1, by omega, h.2.2.1, h.2.2.2⟩
theorem ok_fx {p : Nat} (h : okL x s p = true) : rnL x s (fxL (x p)) (p + 1) = p + 1 + fxL (x p) ∧ enL x s p = rnL x s (nuL (x p)) (p + 1 + fxL (x p)) := by
  have h1 := (okL_t x s h).2.1
  have h2 := rn_add x s (fxL (x p)) (nuL (x p)) (p + 1)
  have h3 : fxL (x p) ≤ mnL (x p) := Nat.le_add_right _ _
  have h4 := rn_le x s (fxL (x p)) (p + 1)
  unfold enL at h1 ⊢
  by_cases e : rnL x s (fxL (x p)) (p + 1) = p + 1 + fxL (x p)
  · rw [if_pos e] at h2
    exact ⟨e, h2⟩
  · rw [if_neg e] at h2
    omega
theorem ok_dg {p q : Nat} (h : okL x s p = true) (h1 : p < q) (h2 : q < enL x s p) : dgL x s q = true := rn_dg x s _ (p + 1) q h1 h2
/-- the first wrong place -/
def fwL : Nat → Nat → Option Nat
  | 0, _ => none
  | f + 1, p => if s ≤ p then none else if okL x s p = true then fwL f (enL x s p + 1) else some (if hdL x p = true then enL x s p else p)
theorem fw_le : ∀ f p e, p ≤ s → fwL x s f p = some e → e ≤ s
  | 0, _, _, _, h => by cases h
  | f + 1, p, e, hp, h => by
    rw [fwL] at h
    by_cases h1 : s ≤ p
    · rw [if_pos h1] at h
      cases h
    · rw [if_neg h1] at h
      by_cases h2 : okL x s p = true
      · rw [if_pos h2] at h
        exact fw_le f _ e (by have := (okL_t x s h2).2.2.1; omega) h
      · rw [if_neg h2] at h
        injection h with h
        subst h
        split
        · exact rn_s x s _ _ (by omega)
        · exact hp
/-- a number that is told -/
def nmL : Nat → Nat → Nat → Nat
  | 0, _, a => a
  | c + 1, p, a => nmL c (p + 1) (10 * a + (x p - 48))
theorem nm_le : ∀ c p a k, a < 10 ^ k → (∀ q, p ≤ q → q < p + c → x q ≤ 57) → nmL x c p a < 10 ^ (k + c)
  | 0, p, a, k, h, _ => h
  | c + 1, p, a, k, h, hq => by
    have h1 := hq p (by omega) (by omega)
    rw [nmL, show k + (c + 1) = (k + 1) + c by omega]
    refine nm_le c (p + 1) _ (k + 1) ?_ (fun q a b => hq q (by omega) (by omega))
    rw [Nat.pow_succ]
    omega
/-- the places of the statements -/
def qL : Nat → Nat
  | 0 => 0
  | k + 1 => enL x s (qL k) + 1
theorem qL_ge : ∀ k, (∀ i, i < k → okL x s (qL x s i) = true) → 3 * k ≤ qL x s k
  | 0, _ => Nat.zero_le _
  | k + 1, h => by
    have h1 := qL_ge k (fun i hi => h i (by omega))
    have h2 := (okL_t x s (h k (by omega))).2.1
    have : 0 < mnL (x (qL x s k)) := by
      unfold mnL fxL
      repeat' split
      all_goals omega
    rw [qL]
    omega
theorem qL_le : ∀ k, (∀ i, i < k → okL x s (qL x s i) = true) → qL x s k ≤ s
  | 0, _ => Nat.zero_le _
  | k + 1, h => by
    have h2 := (okL_t x s (h k (by omega))).2.2.1
    rw [qL]
    omega
end
