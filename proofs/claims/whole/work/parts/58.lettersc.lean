/-! letters: the class's reader -/
def LtC (x : Nat → Nat) (s : Nat) (S : Mm) : Prop := s ≤ 96 ∧ mI S 29 1 = nI s ∧ ∀ k, k < s → mI S 30 k = nI (x k) ∧ x k ≤ 255
section
variable {x : Nat → Nat} {s : Nat} {S : Mm}
theorem LtC.g (hl : LtC x s S) (hS : Sh S.2) : gI S 7 29 1 = some (nI s) := by rw [hS.o29.gI S 1 rfl, hl.2.1]
theorem LtC.a (hl : LtC x s S) (hS : Sh S.2) {p : Nat} (hp : p < s) : aI S 30 (nI p) = some (nI (x p)) := by
  have := hl.1
  rw [hS.a30.ld S p rfl (by omega), (hl.2.2 p hp).1]
theorem LtC.e (hl : LtC x s S) {p k : Nat} (hp : p < s) (hk : k ≤ 255) : (nI (x p) = nI k) = (x p = k) := by
  have := (hl.2.2 p hp).2
  exact propext (nI_eq (by omega) (by omega))
theorem X7_eod (hS : Sh S.2) (hl : LtC x s S) {f m : Nat} (hm : f + m < 1000) : ∀ (c fuel e : Nat), e + c = f + m → c < fuel → f ≤ e → f_X7_endOfDigits_2 fuel S 29 (nI f) (nI m) (nI e) = some (nI (rnL x s c e), S) := by
  have h96 := hl.1
  intro c
  induction c with
  | zero =>
    intro fuel e he hf hfe
    obtain ⟨g, rfl⟩ : ∃ g, fuel = g + 1 := ⟨fuel - 1, by omega⟩
    rw [f_X7_endOfDigits_2, hl.g hS]
    simp only [Option.bind_some, f_X7_endOfDigits_45]
    by_cases h : s ≤ e
    · rw [if_pos (by rw [nI_lei (by omega) (by omega)]; omega)]
      rfl
    · rw [if_neg (by rw [nI_lei (by omega) (by omega)]; omega), pk_sub hfe, if_pos (by rw [nI_lei (by omega) (by omega)]; omega)]
      rfl
  | succ c ih =>
    intro fuel e he hf hfe
    obtain ⟨g, rfl⟩ : ∃ g, fuel = g + 1 := ⟨fuel - 1, by omega⟩
    rw [f_X7_endOfDigits_2, hl.g hS, rnL]
    simp only [Option.bind_some, f_X7_endOfDigits_45]
    by_cases h : s ≤ e
    · rw [if_pos (by rw [nI_lei (by omega) (by omega)]; omega), if_neg]
      intro hd
      have := (dgL_t x s hd).1
      omega
    · have h255 := (hl.2.2 e (by omega)).2
      rw [if_neg (by rw [nI_lei (by omega) (by omega)]; omega), pk_sub hfe, if_neg (by rw [nI_lei (by omega) (by omega)]; omega), hS.gl S rfl]
      simp only [Option.bind_some]
      rw [hl.a hS (show e < s by omega)]
      simp only [Option.bind_some]
      by_cases h1 : x e < 48
      · rw [if_pos (by rw [show (48 : Int32) = nI 48 from rfl, nI_lti (by omega) (by omega)]; omega), if_neg]
        intro hd
        have := dgL_t x s hd
        omega
      · rw [if_neg (by rw [show (48 : Int32) = nI 48 from rfl, nI_lti (by omega) (by omega)]; omega)]
        by_cases h2 : 57 < x e
        · rw [if_pos (by rw [show (57 : Int32) = nI 57 from rfl, nI_lti (by omega) (by omega)]; omega), if_neg]
          intro hd
          have := dgL_t x s hd
          omega
        · rw [if_neg (by rw [show (57 : Int32) = nI 57 from rfl, nI_lti (by omega) (by omega)]; omega), nI_1, if_pos]
          · exact ih g (e + 1) (by omega) (by omega) (by omega)
          · simp only [dgL, Bool.and_eq_true, decide_eq_true_eq]
            omega
theorem fx_b (l : Nat) : fxL l + nuL l ≤ 11 ∧ mnL l ≤ 9 ∧ 0 < mnL l ∧ 0 < fxL l := by
  unfold mnL fxL nuL
  repeat' split
  all_goals omega
theorem X7_most (hl : LtC x s S) {p : Nat} (hp : p < s) : f_X7_mostDigits S (nI (x p)) = some (if hdL x p = true then nI (fxL (x p) + nuL (x p)) else 0, S) := by
  cases h : hdL x p
  · obtain ⟨h1, h2, h3, h4⟩ := hdL_f x h
    rw [f_X7_mostDigits, show (100 : Int32) = nI 100 from rfl, show (104 : Int32) = nI 104 from rfl, show (108 : Int32) = nI 108 from rfl, show (112 : Int32) = nI 112 from rfl]
    simp only [hl.e hp (show 100 ≤ 255 by omega), hl.e hp (show 104 ≤ 255 by omega), hl.e hp (show 108 ≤ 255 by omega), hl.e hp (show 112 ≤ 255 by omega), h1, h2, h3, h4, if_false]
    rfl
  · rcases hdL_t x h with h | h | h | h <;> rw [h] <;> rfl
theorem X7_least {p : Nat} (h : hdL x p = true) : f_X7_leastDigits S (nI (x p)) = some (nI (mnL (x p)), S) := by
  rcases hdL_t x h with h | h | h | h <;> rw [h] <;> rfl
theorem X7_fw (hS : Sh S.2) (hl : LtC x s S) : ∀ (f fuel p : Nat), s ≤ p + f → f < fuel → p ≤ s → f_X7_firstWrongPlace_11 fuel S 29 (nI p) = some (match fwL x s f p with | none => -1 | some e => nI e, S) := by
  have h96 := hl.1
  intro f
  induction f with
  | zero =>
    intro fuel p hf hfu hp
    obtain ⟨g, rfl⟩ : ∃ g, fuel = g + 1 := ⟨fuel - 1, by omega⟩
    rw [f_X7_firstWrongPlace_11, hl.g hS]
    simp only [Option.bind_some]
    rw [if_pos (by rw [nI_lei (by omega) (by omega)]; omega)]
    rfl
  | succ f ih =>
    intro fuel p hf hfu hp
    obtain ⟨g, rfl⟩ : ∃ g, fuel = g + 1 := ⟨fuel - 1, by omega⟩
    rw [f_X7_firstWrongPlace_11, hl.g hS, fwL]
    simp only [Option.bind_some]
    by_cases h : s ≤ p
    · rw [if_pos (by rw [nI_lei (by omega) (by omega)]; omega), if_pos h]
    · have hps : p < s := by omega
      rw [if_neg (by rw [nI_lei (by omega) (by omega)]; omega), if_neg h, hS.gl S rfl]
      simp only [Option.bind_some]
      rw [hl.a hS hps]
      simp only [Option.bind_some, X7_most hl hps]
      obtain ⟨b1, b2, b3, b4⟩ := fx_b (x p)
      cases hh : hdL x p
      · simp only [Bool.false_eq_true, if_false, if_true]
        rw [if_neg (by simp [okL, hh])]
      · have hz : ¬ nI (fxL (x p) + nuL (x p)) = 0 := fun e => by have := (nI_eq (b := 0) (by omega) (by omega)).mp e; omega
        have h1 : p + 1 ≤ enL x s p := rn_ge x s _ _
        have h2 : enL x s p ≤ s := rn_s x s _ _ (by omega)
        have k1 : f_X7_endOfDigits S 29 (nI p + 1) (nI (fxL (x p) + nuL (x p))) = some (nI (enL x s p), S) := by
          rw [f_X7_endOfDigits, if_pos (hS.o29.ok S rfl), nI_1]
          exact X7_eod hS hl (by omega) _ FU (p + 1) rfl (by show _ < 3000; omega) (Nat.le_refl _)
        rw [if_pos rfl, if_neg hz, k1]
        simp only [Option.bind_some, hS.gl S rfl, hl.a hS hps, X7_least hh]
        rw [pk_sub (show p ≤ enL x s p by omega), show (1 : Int32) = nI 1 from rfl, pk_sub (show 1 ≤ enL x s p - p by omega)]
        by_cases h3 : enL x s p - p - 1 < mnL (x p)
        · rw [if_pos (by rw [nI_lti (by omega) (by omega)]; omega), if_neg (by simp [okL]; omega)]
          simp only [f_X7_firstWrongPlace_66, f_X7_firstWrongPlace_92, if_true]
        · rw [if_neg (by rw [nI_lti (by omega) (by omega)]; omega)]
          simp only [f_X7_firstWrongPlace_66, f_X7_firstWrongPlace_92, hl.g hS, Option.bind_some]
          rw [if_neg (by decide)]
          by_cases h4 : s ≤ enL x s p
          · rw [if_pos (by rw [nI_lei (by omega) (by omega)]; omega), if_neg (by simp [okL]; omega)]
            rfl
          · rw [if_neg (by rw [nI_lei (by omega) (by omega)]; omega), hS.gl S rfl]
            simp only [Option.bind_some]
            rw [hl.a hS (show enL x s p < s by omega), show (59 : Int32) = nI 59 from rfl]
            simp only [Option.bind_some, hl.e (show enL x s p < s by omega) (show 59 ≤ 255 by omega)]
            by_cases h5 : x (enL x s p) = 59
            · rw [if_pos h5, if_pos (by simp [okL, hh, h5]; omega), nI_1]
              exact ih g _ (by omega) (by omega) (by omega)
            · rw [if_neg h5, if_neg (by simp [okL, h5])]
              rfl
theorem X7_wrong (hS : Sh S.2) (hl : LtC x s S) : f_X7_firstWrongPlace S 29 = some (if s = 0 then 0 else match fwL x s s 0 with | none => -1 | some e => nI e, S) := by
  have h96 := hl.1
  rw [f_X7_firstWrongPlace, if_pos (hS.o29.ok S rfl), hl.g hS]
  simp only [Option.bind_some]
  by_cases h : s = 0
  · rw [if_pos (by rw [h]; rfl), if_pos h]
  · rw [if_neg (fun e => by have := (nI_eq (b := 0) (by omega) (by omega)).mp e; omega), if_neg h]
    exact X7_fw hS hl s FU 0 (by omega) (by show s < 3000; omega) (by omega)
theorem X7_eos (hS : Sh S.2) (hl : LtC x s S) {p : Nat} (hk : okL x s p = true) : ∀ (c fuel q : Nat), q + c = enL x s p → c < fuel → p ≤ q → f_X7_endOfStatement_2 fuel S 29 (nI q) = some (nI (enL x s p), S) := by
  have h96 := hl.1
  obtain ⟨k1, k2, k3, k4⟩ := okL_t x s hk
  have k5 := fx_b (x p)
  intro c
  induction c with
  | zero =>
    intro fuel q hq hf hp
    obtain ⟨g, rfl⟩ : ∃ g, fuel = g + 1 := ⟨fuel - 1, by omega⟩
    obtain rfl : q = enL x s p := by omega
    rw [f_X7_endOfStatement_2, hl.g hS]
    simp only [Option.bind_some]
    rw [if_neg (by rw [nI_lei (by omega) (by omega)]; omega), hS.gl S rfl]
    simp only [Option.bind_some]
    rw [hl.a hS k3, k4]
    rfl
  | succ c ih =>
    intro fuel q hq hf hp
    obtain ⟨g, rfl⟩ : ∃ g, fuel = g + 1 := ⟨fuel - 1, by omega⟩
    rw [f_X7_endOfStatement_2, hl.g hS]
    simp only [Option.bind_some]
    rw [if_neg (by rw [nI_lei (by omega) (by omega)]; omega), hS.gl S rfl]
    simp only [Option.bind_some]
    rw [hl.a hS (show q < s by omega), show (59 : Int32) = nI 59 from rfl]
    simp only [Option.bind_some, hl.e (show q < s by omega) (show 59 ≤ 255 by omega)]
    have hn : ¬ x q = 59 := by
      by_cases e : q = p
      · subst e
        have := hdL_t x k1
        omega
      · have := dgL_t x s (ok_dg x s hk (q := q) (by omega) (by omega))
        omega
    rw [if_neg hn, nI_1]
    exact ih g (q + 1) (by omega) (by omega) (by omega)
theorem X7_num5 (hS : Sh S.2) (hl : LtC x s S) {e : Nat} (he : e ≤ s) : ∀ (c fuel p a : Nat), p + c = e → c < fuel → (∀ q, p ≤ q → q < e → dgL x s q = true) → f_X7_number_5 fuel S 29 (nI e) (nI a) (nI p) = some (nI (nmL x c p a), S) := by
  have h96 := hl.1
  intro c
  induction c with
  | zero =>
    intro fuel p a hp hf hd
    obtain ⟨g, rfl⟩ : ∃ g, fuel = g + 1 := ⟨fuel - 1, by omega⟩
    rw [f_X7_number_5, if_pos (by rw [nI_lei (by omega) (by omega)]; omega)]
    rfl
  | succ c ih =>
    intro fuel p a hp hf hd
    obtain ⟨g, rfl⟩ : ∃ g, fuel = g + 1 := ⟨fuel - 1, by omega⟩
    have hx := dgL_t x s (hd p (by omega) (by omega))
    rw [f_X7_number_5, if_neg (by rw [nI_lei (by omega) (by omega)]; omega), hl.g hS]
    simp only [Option.bind_some]
    rw [if_neg (by rw [nI_lei (by omega) (by omega)]; omega), hS.gl S rfl]
    simp only [Option.bind_some]
    rw [hl.a hS hx.1]
    simp only [Option.bind_some]
    rw [show (10 : Int32) = nI 10 from rfl, show (48 : Int32) = nI 48 from rfl, pk_mul, nI_add, pk_sub (by omega), nI_1, show a * 10 + x p - 48 = 10 * a + (x p - 48) by omega]
    exact ih g (p + 1) _ (by omega) (by omega) (fun q h1 h2 => hd q (by omega) h2)
theorem X7_num (hS : Sh S.2) (hl : LtC x s S) {p c : Nat} (he : p + c ≤ s) (hd : ∀ q, p ≤ q → q < p + c → dgL x s q = true) : f_X7_number S 29 (nI p) (nI (p + c)) = some (nI (nmL x c p 0), S) := by
  have h96 := hl.1
  rw [f_X7_number, if_pos (hS.o29.ok S rfl)]
  exact X7_num5 hS hl he c FU p 0 rfl (by show c < 3000; omega) hd
theorem X7_dig (hS : Sh S.2) (hl : LtC x s S) {p : Nat} (hd : dgL x s p = true) : f_X7_digit S 29 (nI p) = some (nI (x p - 48), S) := by
  have hx := dgL_t x s hd
  rw [f_X7_digit, if_pos (hS.o29.ok S rfl), nI_1, X7_num (p := p) (c := 1) hS hl (by omega) (fun q h1 h2 => (show q = p by omega) ▸ hd)]
  simp only [Option.bind_some, nmL, Nat.mul_zero, Nat.zero_add]
end
