/-! the reference's small methods -/
theorem i64_le {x y : Int32} : (x.toInt64 ≤ y.toInt64) ↔ x ≤ y := by
  rw [Int64.le_iff_toInt_le, Int32.toInt_toInt64, Int32.toInt_toInt64, Int32.le_iff_toInt_le]
theorem lg_lt {x y : Int64} : (lg_cmp x y < 0) ↔ ¬ (y ≤ x) := by
  unfold lg_cmp
  split
  · next h => exact ⟨fun q => absurd q (by decide), fun q => absurd (Int64.le_of_lt h) q⟩
  · next h =>
    split
    · next e => subst e; exact ⟨fun q => absurd q (by decide), fun q => absurd (Int64.le_refl x) q⟩
    · next e => exact ⟨fun _ q => h (Int64.lt_of_le_of_ne q (Ne.symm e)), fun _ => by decide⟩
theorem lg_gt {x y : Int64} : (0 < lg_cmp x y) ↔ ¬ (x ≤ y) := by
  unfold lg_cmp
  split
  · next h => exact ⟨fun _ => Int64.not_le.mpr h, fun _ => by decide⟩
  · next h =>
    have h2 : x ≤ y := Int64.not_lt.mp h
    split
    · exact ⟨fun q => absurd q (by decide), fun q => absurd h2 q⟩
    · exact ⟨fun q => absurd q (by decide), fun q => absurd h2 q⟩
theorem X12_in {S : Mm} (a lo hi : Int64) : f_X12_in S a lo hi = some (b2i (decide (lo ≤ a) && decide (a ≤ hi)), S) := by
  simp only [f_X12_in, f_X12_in_17, f_X12_in_18, rB_0, rB_1, Option.bind_some, lg_lt, lg_gt]
  by_cases h1 : lo ≤ a
  · by_cases h2 : a ≤ hi <;> simp [h1, h2, b2i]
  · simp [h1, b2i]
section
variable {S : Mm}
theorem lt_pred {x : Int32} {n : Nat} (hn : n < 2 ^ 30) : (x ≤ nI n - 1) ↔ x < nI n := by
  have h1 : (nI n - nI 1).toInt = (n : Int) - (1 : Nat) := pk_sub_toInt hn (by omega)
  rw [show (1 : Int32) = nI 1 from rfl, Int32.le_iff_toInt_le, Int32.lt_iff_toInt_lt, h1, nI_toInt (by omega)]
  omega
theorem X12_isHouse (hM : ModZ S.2) {n : Nat} (hn : mV S 0 0 = nI n) (h6 : n ≤ 6) (x : Int32) : f_X12_isHouse S 33 x = some (b2i (hasV (mV S) x), S) := by
  simp only [f_X12_isHouse, hM.o S rfl, hM.i S _ rfl, if_true, Option.bind_some, X12_in, rB_b2i, mv0]
  congr 3
  unfold hasV
  rw [show (0 : Int64) = (0 : Int32).toInt64 from rfl, hn]
  congr 1
  · exact decide_eq_decide.mpr i64_le
  · exact decide_eq_decide.mpr (i64_le.trans (lt_pred (by omega)))
theorem X12_areTwo (hM : ModZ S.2) {n : Nat} (hn : mV S 0 0 = nI n) (h6 : n ≤ 6) (x y : Int32) : f_X12_areTwo S 33 x y = some (b2i (twoV (mV S) x y), S) := by
  simp only [f_X12_areTwo, f_X12_areTwo_25, f_X12_areTwo_26, hM.o S rfl, if_true, Option.bind_some, rB_0, rB_1, X12_isHouse hM hn h6, b2i_0]
  unfold twoV
  cases hasV (mV S) x
  · simp [b2i]
  · cases hasV (mV S) y
    · simp [b2i]
    · simp only [Bool.true_eq_false, if_false, Bool.true_and]
      rw [ite_b2i]
theorem X12_isGood (x : Int32) : f_X12_isGood S x = some (b2i (goodI x), S) := by
  simp only [f_X12_isGood, Option.bind_some, X12_in, rB_b2i]
  congr 3
  unfold goodI
  rw [show (0 : Int64) = (0 : Int32).toInt64 from rfl, show (2 : Int64) = (nI 3 - 1).toInt64 from rfl]
  congr 1
  · exact decide_eq_decide.mpr i64_le
  · exact decide_eq_decide.mpr (i64_le.trans (lt_pred (by omega)))
theorem X11_isGood (x : Int32) : f_X11_isGood S x = some (b2i (goodI x), S) := by
  simp only [f_X11_isGood, f_X11_isGood_13, f_X11_isGood_14, Option.bind_some, rB_0, rB_1]
  unfold goodI
  by_cases h1 : x < 0
  · rw [if_pos h1, show decide (0 ≤ x) = false by simpa using h1]; rfl
  · rw [if_neg h1, show decide (0 ≤ x) = true by simpa using h1, ite_b2i]
    congr 3
    simp
def lawI (x : Int32) : Bool := decide (x = 0) || decide (x = 1) || decide (x = 2)
theorem X11_isLaw (x : Int32) : f_X11_isLaw S x = some (b2i (lawI x), S) := by
  simp only [f_X11_isLaw, f_X11_isLaw_14, f_X11_isLaw_19, Option.bind_some, rB_0, rB_1]
  unfold lawI
  by_cases h0 : x = 0
  · simp [h0, b2i]
  · by_cases h1 : x = 1
    · simp [h1, b2i]
    · by_cases h2 : x = 2 <;> simp [h0, h1, h2, b2i]
theorem X12_sellsAt (hM : ModZ S.2) {h : Nat} (hh : h < 6) : f_X12_sellsAt S 33 (nI h) = some (sellV (mV S) h, S) := by
  simp only [f_X12_sellsAt, f_X12_sellsAt_20, f_X12_sellsAt_25, f_X12_sellsAt_52, hM.o S rfl, if_true, Option.bind_some, hM.g4 S rfl, hM.g5 S rfl, hM.g6 S rfl, hM.a34.ld S _ rfl hh, hM.a35.ld S _ rfl hh, hM.a36.ld S _ rfl hh, mv1 hh, mv2 hh, mv3 hh]
  unfold sellV
  by_cases h1 : mV S 1 h = 2
  · simp [h1]
  · by_cases h2 : mV S 1 h ≤ 3
    · simp [h1, h2, Int32.not_lt.mpr h2]
    · simp [h1, h2, Int32.not_le.mp h2]
theorem X12_buysAt (hM : ModZ S.2) {h : Nat} (hh : h < 6) : f_X12_buysAt S 33 (nI h) = some (buyV (mV S) h, S) := by
  simp only [f_X12_buysAt, f_X12_buysAt_17, f_X12_buysAt_43, f_X12_buysAt_63, hM.o S rfl, if_true, Option.bind_some, hM.g4 S rfl, hM.g5 S rfl, hM.g6 S rfl, hM.a34.ld S _ rfl hh, hM.a35.ld S _ rfl hh, hM.a36.ld S _ rfl hh, mv1 hh, mv2 hh, mv3 hh]
  unfold buyV
  by_cases h1 : mV S 1 h = 1
  · simp [h1]
  · by_cases h4 : mV S 1 h = 4
    · simp [h4]
    · by_cases h5 : mV S 1 h = 5
      · simp [h5]
      · by_cases h3 : mV S 1 h = 3 <;> simp [h1, h3, h4, h5]
theorem X12_isLawful (hM : ModZ S.2) {q : Nat} (hq : mV S 0 1 = nI q) (hq3 : q < 3) {a b : Nat} (ha : a < 6) (hb : b < 6) : f_X12_isLawful S 33 (nI a) (nI b) = some (b2i (lawV (mV S) a b), S) := by
  simp only [f_X12_isLawful, f_X12_isLawful_48, f_X12_isLawful_52, f_X12_isLawful_53, hM.o S rfl, if_true, Option.bind_some, rB_0, rB_1, X12_sellsAt hM ha, X12_buysAt hM hb, hM.i S _ rfl, mv01]
  unfold lawV
  by_cases hab : a = b
  · subst hab
    simp [b2i]
  · rw [if_neg (fun q => hab ((nI_eq (by omega) (by omega)).mp q))]
    simp only [hab, ne_eq, not_false_eq_true, decide_true, Bool.true_and]
    by_cases h0 : mV S 0 1 = 0
    · rw [if_pos h0, if_pos h0, ite_b2i]
      congr 3
      exact decide_eq_decide.mpr Int32.not_le
    · rw [if_neg h0, if_neg h0]
      have h12 : mV S 0 1 = 1 ∨ mV S 0 1 = 2 := by
        rw [hq] at h0 ⊢
        rcases (show q = 0 ∨ q = 1 ∨ q = 2 by omega) with rfl | rfl | rfl
        · exact absurd rfl h0
        · exact Or.inl rfl
        · exact Or.inr rfl
      rcases h12 with h | h
      · rw [if_neg (by rw [h]; decide), if_pos h, ite_b2i]
        congr 3
        exact decide_eq_decide.mpr Int32.not_le
      · rw [if_pos h, if_neg (by rw [h]; decide)]
        rfl
theorem X12_canSell (hM : ModZ S.2) {q : Nat} (hq : mV S 0 1 = nI q) (hq3 : q < 3) {a b g : Nat} (ha : a < 6) (hb : b < 6) (hg : g < 3) : f_X12_canSell S 33 (nI a) (nI b) (nI g) = some (b2i (canV (mV S) a b g), S) := by
  have h1 : 3 * a + g < 18 := by omega
  have h2 : 3 * b + g < 18 := by omega
  simp only [f_X12_canSell, f_X12_canSell_75, f_X12_canSell_76, hM.o S rfl, if_true, Option.bind_some, rB_0, rB_1, X12_isLawful hM hq hq3 ha hb, b2i_0, hM.g11 S rfl, hM.g12 S rfl, hM.g14 S rfl, ix3', hM.a42.ld S _ rfl h1, hM.a42.ld S _ rfl h2, hM.a41.ld S _ rfl ha, hM.a41.ld S _ rfl hb, hM.a44.ld S _ rfl hg, mv8 ha, mv8 hb, mv9 h1, mv9 h2, mv11 hg]
  unfold canV meanV
  cases lawV (mV S) a b
  · simp [b2i]
  · simp only [Bool.true_eq_false, if_false, Bool.true_and]
    split
    · next c => simp [b2i, Int32.not_lt.mpr c]
    · next c1 =>
      rw [show decide (0 < mV S 9 (3 * a + g)) = true by simpa using c1]
      split
      · next c => simp [b2i, Int32.not_le.mpr c]
      · next c2 =>
        rw [show decide (mV S 11 g ≤ mV S 8 b) = true by simpa using c2]
        split
        · next c => simp [b2i, Int32.not_lt.mpr c]
        · next c3 =>
          rw [show decide (mV S 9 (3 * b + g) < 99) = true by simpa using c3]
          rw [ite_b2i]
          congr 3
          simp
theorem ms8 {k : Nat} {v : Int32} (h : k < 6) : mV (sI S 41 k v) = u2 (mV S) 8 k v := mV_s (r := 8) h
theorem ms9 {k : Nat} {v : Int32} (h : k < 18) : mV (sI S 42 k v) = u2 (mV S) 9 k v := mV_s (r := 9) h
theorem ms10 {k : Nat} {v : Int32} (h : k < 36) : mV (sI S 43 k v) = u2 (mV S) 10 k v := mV_s (r := 10) h
theorem ms11 {k : Nat} {v : Int32} (h : k < 3) : mV (sI S 44 k v) = u2 (mV S) 11 k v := mV_s (r := 11) h
theorem ms0 {k : Nat} {v : Int32} (h : k < 4) : mV (sI S 33 k v) = u2 (mV S) 0 k v := mV_s (r := 0) h
theorem X12_sell (hM : ModZ S.2) {a b g : Nat} (ha : a < 6) (hb : b < 6) (hg : g < 3) (hab : a ≠ b) : ∃ S', f_X12_sell S 33 (nI a) (nI b) (nI g) = some S' ∧ Ag [41, 42] S S' ∧ mV S' = mvV (mV S) a b g := by
  have h1 : 3 * a + g < 18 := by omega
  have h2 : 3 * b + g < 18 := by omega
  have hne := mv_ne (g := g) hab
  refine ⟨sI (sI (sI (sI S 42 (3 * a + g) (mI S 42 (3 * a + g) - 1)) 42 (3 * b + g) (mI S 42 (3 * b + g) + 1)) 41 a (mI S 41 a + mI S 44 g)) 41 b (mI S 41 b - mI S 44 g), ?_, ?_, ?_⟩
  · simp only [f_X12_sell, hM.o S rfl, if_true, Option.bind_some, hM.g11, hM.g12, hM.g14, ix3', hM.a42.ld, hM.a42.st, hM.a41.ld, hM.a41.st, hM.a44.ld, sI_2, ha, hb, hg, h1, h2, mI_s]
    simp [hne, hab, Ne.symm hab, show ¬ 3 * b = 3 * a by omega]
  · exact (((Ag.sI (by simp)).sIt (by simp)).sIt (by simp)).sIt (by simp)
  · rw [ms8 hb, ms8 ha, ms9 h2, ms9 h1, mv8 ha, mv8 hb, mv9 h1, mv9 h2, mv11 hg]
    rfl
theorem X12_wants (hM : ModZ S.2) {h : Nat} (hh : h < 6) (g : Nat) : f_X12_wants S 33 (nI h) (nI g) = some (b2i (wantV (mV S) h g), S) := by
  simp only [f_X12_wants, f_X12_wants_23, f_X12_wants_24, hM.o S rfl, if_true, Option.bind_some, rB_0, rB_1, hM.g9 S rfl, hM.g10 S rfl, hM.a39.ld S _ rfl hh, hM.a40.ld S _ rfl hh, mv6 hh, mv7 hh]
  unfold wantV
  by_cases h1 : mV S 6 h = nI g
  · rw [if_pos h1, ite_b2i]
    simp [h1]
  · rw [if_neg h1]
    simp [h1, b2i]
/-! a number that names a house -/
theorem hasV_n {V : Vw} {n : Nat} {x : Int32} (hn : V 0 0 = nI n) (h6 : n ≤ 6) (h : hasV V x = true) : ∃ a, a < n ∧ x = nI a := by
  simp only [hasV, Bool.and_eq_true, decide_eq_true_eq, hn] at h
  obtain ⟨j, hj, rfl⟩ := nI_of (Int32.not_lt.mpr h.1)
  exact ⟨j, (nI_ltI hj (by omega)).mp h.2, rfl⟩
theorem twoV_n {V : Vw} {n : Nat} {x y : Int32} (hn : V 0 0 = nI n) (h6 : n ≤ 6) (h : twoV V x y = true) : ∃ a b, a < n ∧ b < n ∧ a ≠ b ∧ x = nI a ∧ y = nI b := by
  simp only [twoV, Bool.and_eq_true, decide_eq_true_eq] at h
  obtain ⟨a, ha, rfl⟩ := hasV_n hn h6 h.1.1
  obtain ⟨b, hb, rfl⟩ := hasV_n hn h6 h.1.2
  exact ⟨a, b, ha, hb, fun q => h.2 (by rw [q]), rfl, rfl⟩
theorem goodI_n {x : Int32} (h : goodI x = true) : ∃ g, g < 3 ∧ x = nI g := by
  simp only [goodI, Bool.and_eq_true, decide_eq_true_eq] at h
  obtain ⟨j, hj, rfl⟩ := nI_of (Int32.not_lt.mpr h.1)
  exact ⟨j, (nI_ltI (b := 3) hj (by omega)).mp h.2, rfl⟩
end
