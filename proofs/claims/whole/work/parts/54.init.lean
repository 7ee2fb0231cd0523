/-! what stands behind the two constructors -/
def i1 : Option Mm := f_X11_init (nC S0 10 0) 0
theorem i1_some : i1.isSome = true := by decide +kernel
def I1 : Mm := i1.get i1_some
theorem i1_eq : f_X11_init (nC S0 10 0) 0 = some I1 := (Option.some_get i1_some).symm
theorem I1_x : mX I1 = 33 := by decide +kernel
def i2 : Option Mm := f_X12_init (nC I1 11 0) 33
theorem i2_some : i2.isSome = true := by decide +kernel
def I2 : Mm := i2.get i2_some
theorem i2_eq : f_X12_init (nC I1 11 0) 33 = some I2 := (Option.some_get i2_some).symm
theorem I2_x : mX I2 = 55 := by decide +kernel
theorem I2_sh : Sh I2.2 := by
  unfold Sh NoF LandZ TalZ ModZ okA okO
  repeat' apply And.intro
  all_goals decide +kernel
theorem I2_h (L : Nat) (hL : L = 1 ∨ L = 9 ∨ L = 17) : HsZ I2.2 L := by
  have h1 : ∀ k, k < 6 → I2.2.1 2 k = some 8 ∧ I2.2.1 10 k = some 16 ∧ I2.2.1 18 k = some 24 := by decide +kernel
  have h2 : 55 = I2.2.2.2.2 := by decide +kernel
  have h3 : isF (I2.2.2.1 8) = true ∧ isF (I2.2.2.1 16) = true ∧ isF (I2.2.2.1 24) = true := by decide +kernel
  intro k hk
  rcases hL with rfl | rfl | rfl
  · exact ⟨8, (h1 k hk).1, by omega, h3.1⟩
  · exact ⟨16, (h1 k hk).2.1, by omega, h3.2.1⟩
  · exact ⟨24, (h1 k hk).2.2, by omega, h3.2.2⟩
theorem I2_v : lV I2 1 = mV I2 := by
  have h : ∀ r, r < 12 → ∀ k, k < 36 → lV I2 1 r k = mV I2 r k := by decide +kernel
  funext r k
  by_cases hk : k < ml r
  · have := ml_cases hk
    exact h r (by omega) k (by omega)
  · rw [lV, mV, if_neg hk, if_neg hk]
theorem I2_b : ValB 0 (mV I2) := by
  have h0 : ∀ r, r < 11 → ∀ k, k < 36 → mV I2 r k = nI 0 := by decide +kernel
  have h1 : ∀ k, k < 3 → mV I2 11 k = nI 1 := by decide +kernel
  refine ⟨⟨0, by omega, h0 0 (by omega) 0 (by omega), ⟨0, by omega, h0 0 (by omega) 1 (by omega)⟩, fun k hk => ⟨0, by omega, h0 1 (by omega) k (by omega)⟩, fun k hk => ⟨0, by omega, h0 2 (by omega) k (by omega)⟩, fun k hk => ⟨0, by omega, h0 3 (by omega) k (by omega)⟩, fun k hk => ⟨0, by omega, h0 4 (by omega) k (by omega)⟩, fun k hk => ⟨0, by omega, h0 5 (by omega) k (by omega)⟩, fun k hk => ⟨0, by omega, h0 6 (by omega) k (by omega)⟩, fun k hk => ⟨0, by omega, h0 7 (by omega) k (by omega)⟩, fun k hk => ⟨0, by omega, h0 8 (by omega) k (by omega)⟩, fun k hk => ⟨0, by omega, h0 9 (by omega) k (by omega)⟩, fun k hk => ⟨0, by omega, h0 10 (by omega) k (by omega)⟩, fun k hk => ⟨1, by omega, by omega, h1 k hk⟩, fun h _ h6 => ⟨h0 8 (by omega) h (by omega), fun g hg => h0 9 (by omega) _ (by omega)⟩, fun a b ha hb _ => h0 10 (by omega) _ (by omega)⟩, ⟨0, by omega, h0 0 (by omega) 2 (by omega)⟩, 0, by omega, h0 0 (by omega) 3 (by omega)⟩
theorem I2_inv : Inv 0 I2 := by
  refine ⟨I2_sh, ⟨I2_h 1 (by omega), I2_h 9 (by omega), I2_h 17 (by omega)⟩, I2_v, I2_b, Or.inl ?_, ⟨0, by omega, ?_, ?_, fun k hk => absurd hk (Nat.not_lt_zero _)⟩, ⟨0, by omega, ?_, ?_, fun k hk => absurd hk (Nat.not_lt_zero _)⟩, ?_⟩
  · decide +kernel
  · decide +kernel
  · decide +kernel
  · decide +kernel
  · decide +kernel
  · unfold Ref
    decide +kernel
