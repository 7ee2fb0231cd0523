/-! paths: the class's loops -/
theorem X10_ways22 {S : Mm} {L n b cur ms : Nat} (hL : LandZ S.2 L) (hH : HsZ S.2 L) (hB : Bd (lV S L) n) (hc : cur < 6) (hm : ms < 64) {l4 : Int32} {rec : Mm → Nat → Int32 → Int32 → Int32 → Int32 → Option (Int32 × Mm)} {W : Nat → Nat → Int32} (hr : ∀ h q, h < n → q < 64 → rec S L (nI h) (nI b) (nI q) (l4 + 1) = some (W h q, S)) : ∀ (c fuel i : Nat) (t : Int32), i + c = n → c < fuel → f_X10_waysOn_22 rec fuel S L (nI cur) (nI b) (nI ms) l4 t (nI i) = some (sm (fun h => if (!ms.testBit h && lawV (lV S L) cur h) = true then W h (ms ||| 2 ^ h) else 0) c i t, S) := by
  have h6 := hB.le
  intro c
  induction c with
  | zero =>
    intro fuel i t hi hf
    obtain ⟨m, rfl⟩ : ∃ m, fuel = m + 1 := ⟨fuel - 1, by omega⟩
    rw [f_X10_waysOn_22, hL.i S _ rfl, lv0, hB.sz]
    simp only [Option.bind_some]
    rw [if_pos (by rw [nI_lei (by omega) (by omega)]; omega)]
    rfl
  | succ c ih =>
    intro fuel i t hi hf
    obtain ⟨m, rfl⟩ : ∃ m, fuel = m + 1 := ⟨fuel - 1, by omega⟩
    have hi6 : i < 6 := by omega
    rw [f_X10_waysOn_22, hL.i S _ rfl, lv0, hB.sz]
    simp only [Option.bind_some]
    rw [if_neg (by rw [nI_lei (by omega) (by omega)]; omega)]
    simp only [bt_0 hm hi6, X6_isLawful hL hH hc hi6, Option.bind_some, b2i_0, bor ms hm i hi6, hr i _ (by omega) (blt ms hm i hi6), f_X10_waysOn_72, nI_1]
    show _ = some (sm (fun h => if (!ms.testBit h && lawV (lV S L) cur h) = true then W h (ms ||| 2 ^ h) else 0) c (i + 1) (t + if (!ms.testBit i && lawV (lV S L) cur i) = true then W i (ms ||| 2 ^ i) else 0), S)
    cases ms.testBit i
    · cases lawV (lV S L) cur i
      · simp only [if_true, Bool.not_false, Bool.and_false, Bool.false_eq_true, if_false, Int32.add_zero]
        exact ih m (i + 1) _ (by omega) (by omega)
      · simp only [if_true, Bool.not_false, Bool.and_true, Bool.true_eq_false, if_false]
        exact ih m (i + 1) _ (by omega) (by omega)
    · simp only [Bool.not_true, Bool.false_and, Bool.true_eq_false, Bool.false_eq_true, if_false, Int32.add_zero]
      exact ih m (i + 1) _ (by omega) (by omega)
theorem X10_waysOn {S : Mm} {L n b : Nat} (hL : LandZ S.2 L) (hH : HsZ S.2 L) (hB : Bd (lV S L) n) (hb : b < n) : ∀ (s d cur ms : Nat), s ≤ 6 → s < d → cur < n → ms < 64 → f_X10_waysOn d S L (nI cur) (nI b) (nI ms) (nI (6 - s)) = some (wyS (lawV (lV S L)) n b s cur ms, S) := by
  have h6 := hB.le
  intro s
  induction s with
  | zero =>
    intro d cur ms _ hd hc hm
    obtain ⟨e, rfl⟩ : ∃ e, d = e + 1 := ⟨d - 1, by omega⟩
    rw [f_X10_waysOn, wyS]
    show (if nI cur = nI b then some (1, S) else (if nI (6 - 0) < 6 then f_X10_waysOn_22 (f_X10_waysOn e) FU S L (nI cur) (nI b) (nI ms) (nI (6 - 0)) 0 0 else some (0, S))) = _
    by_cases h : cur = b
    · rw [if_pos (show nI cur = nI b by rw [h]), if_pos h]
    · rw [if_neg (fun e => h ((nI_eq (by omega) (by omega)).mp e)), if_neg h, if_neg (by decide)]
  | succ s ih =>
    intro d cur ms hs hd hc hm
    obtain ⟨e, rfl⟩ : ∃ e, d = e + 1 := ⟨d - 1, by omega⟩
    rw [f_X10_waysOn, wyS]
    show (if nI cur = nI b then some (1, S) else (if nI (6 - (s + 1)) < 6 then f_X10_waysOn_22 (f_X10_waysOn e) FU S L (nI cur) (nI b) (nI ms) (nI (6 - (s + 1))) 0 0 else some (0, S))) = _
    by_cases h : cur = b
    · rw [if_pos (show nI cur = nI b by rw [h]), if_pos h]
    · rw [if_neg (fun e => h ((nI_eq (by omega) (by omega)).mp e)), if_neg h, if_pos (by rw [show (6 : Int32) = nI 6 from rfl, nI_lti (by omega) (by omega)]; omega)]
      exact X10_ways22 hL hH hB (by omega) hm (W := wyS (lawV (lV S L)) n b s) (fun h q hh hq => by
        rw [nI_1, show 6 - (s + 1) + 1 = 6 - s by omega]
        exact ih e h q (by omega) (by omega) hh hq) n FU 0 0 (by omega) (by show n < 3000; omega)
theorem X10_ways {S : Mm} {L n a b : Nat} (hL : LandZ S.2 L) (hH : HsZ S.2 L) (hB : Bd (lV S L) n) (ha : a < n) (hb : b < n) : f_X10_ways S L (nI a) (nI b) = some (wyS (lawV (lV S L)) n b 6 a (2 ^ a), S) := by
  have h6 := hB.le
  obtain ⟨h1, h2⟩ := bsh a (by omega)
  rw [f_X10_ways, h1, show (0 : Int32) = nI (6 - 6) from rfl, X10_waysOn hL hH hB hb 6 8 a _ (by omega) (by omega) ha h2]
  rfl
theorem X10_one15 {S : Mm} {L n m g : Nat} (hL : LandZ S.2 L) (hH : HsZ S.2 L) (hB : Bd (lV S L) n) (hg : g < 6) (hm : m < 64) (k4 : Mm → Nat → Int32 → Int32 → Int32 → Option (Int32 × Mm)) : ∀ (c fuel i q : Nat), i + c = n → c < fuel → q < 64 → f_X10_oneSaleBehind_15 k4 fuel S L (nI m) (nI q) (nI g) (nI i) = k4 S L (nI m) (nI (obI (lawV (lV S L)) m g c i q)) (nI g + 1) := by
  have h6 := hB.le
  intro c
  induction c with
  | zero =>
    intro fuel i q hi hf hq
    obtain ⟨f, rfl⟩ : ∃ f, fuel = f + 1 := ⟨fuel - 1, by omega⟩
    rw [f_X10_oneSaleBehind_15, hL.i S _ rfl, lv0, hB.sz]
    simp only [Option.bind_some]
    rw [if_pos (by rw [nI_lei (by omega) (by omega)]; omega)]
    rfl
  | succ c ih =>
    intro fuel i q hi hf hq
    obtain ⟨f, rfl⟩ : ∃ f, fuel = f + 1 := ⟨fuel - 1, by omega⟩
    have hi6 : i < 6 := by omega
    have i0 := ih f (i + 1) q (by omega) (by omega) hq
    have i1 := ih f (i + 1) _ (by omega) (by omega) (blt q hq i hi6)
    rw [f_X10_oneSaleBehind_15, hL.i S _ rfl, lv0, hB.sz]
    simp only [Option.bind_some]
    rw [if_neg (by rw [nI_lei (by omega) (by omega)]; omega), obI]
    simp only [bt_1 hm hg, X6_isLawful hL hH hg hi6, Option.bind_some, b2i_0, bor q hq i hi6, f_X10_oneSaleBehind_50, nI_1, i0, i1]
    cases m.testBit g
    · simp only [Bool.false_and, Bool.false_eq_true, if_false]
    · cases lawV (lV S L) g i
      · simp only [if_true, Bool.and_false, Bool.false_eq_true, if_false]
      · simp only [if_true, Bool.and_true, Bool.true_eq_false, if_false]
theorem X10_one4 {S : Mm} {L n m : Nat} (hL : LandZ S.2 L) (hH : HsZ S.2 L) (hB : Bd (lV S L) n) (hm : m < 64) : ∀ (c fuel g q : Nat), g + c = n → c < fuel → q < 64 → f_X10_oneSaleBehind_4 fuel S L (nI m) (nI q) (nI g) = some (nI (obO (lawV (lV S L)) n m c g q), S) := by
  have h6 := hB.le
  intro c
  induction c with
  | zero =>
    intro fuel g q hi hf hq
    obtain ⟨f, rfl⟩ : ∃ f, fuel = f + 1 := ⟨fuel - 1, by omega⟩
    rw [f_X10_oneSaleBehind_4, hL.i S _ rfl, lv0, hB.sz]
    simp only [Option.bind_some]
    rw [if_pos (by rw [nI_lei (by omega) (by omega)]; omega)]
    rfl
  | succ c ih =>
    intro fuel g q hi hf hq
    obtain ⟨f, rfl⟩ : ∃ f, fuel = f + 1 := ⟨fuel - 1, by omega⟩
    rw [f_X10_oneSaleBehind_4, hL.i S _ rfl, lv0, hB.sz]
    simp only [Option.bind_some]
    have k := X10_one15 hL hH hB (g := g) (by omega) hm (f_X10_oneSaleBehind_4 f) n FU 0 q (by omega) (by show n < 3000; omega) hq
    rw [show nI 0 = (0 : Int32) from rfl] at k
    rw [if_neg (by rw [nI_lei (by omega) (by omega)]; omega), k, obO, nI_1]
    exact ih f (g + 1) _ (by omega) (by omega) (obI_ok _ n 0 q (by omega) hq).1
theorem X10_few {S : Mm} {L n a b : Nat} (hL : LandZ S.2 L) (hH : HsZ S.2 L) (hB : Bd (lV S L) n) (hb : b < n) : ∀ (c fuel t m : Nat), t + c = 5 → c < fuel → m < 64 → (∀ x, x < n → (m.testBit x = true ↔ rcS (lawV (lV S L)) n a t x)) → (∀ u, u ≤ t → ¬ rcS (lawV (lV S L)) n a u b) → ∃ v, f_X10_fewestSales_7 fuel S L (nI b) (nI m) (nI (t + 1)) = some (v, S) ∧ ((v = -9 ∧ ∀ u, u ≤ 5 → ¬ rcS (lawV (lV S L)) n a u b) ∨ ∃ s, s < 5 ∧ v = nI (s + 1) ∧ rcS (lawV (lV S L)) n a (s + 1) b ∧ ∀ u, u ≤ s → ¬ rcS (lawV (lV S L)) n a u b) := by
  have h6 := hB.le
  intro c
  induction c with
  | zero =>
    intro fuel t m ht hf hm hr hn
    obtain ⟨f, rfl⟩ : ∃ f, fuel = f + 1 := ⟨fuel - 1, by omega⟩
    obtain rfl : t = 5 := by omega
    refine ⟨-9, ?_, Or.inl ⟨rfl, hn⟩⟩
    rw [f_X10_fewestSales_7, if_pos (by decide)]
  | succ c ih =>
    intro fuel t m ht hf hm hr hn
    obtain ⟨f, rfl⟩ : ∃ f, fuel = f + 1 := ⟨fuel - 1, by omega⟩
    obtain ⟨m1, m2⟩ := ob_rc (lawV (lV S L)) n h6 hm hr
    have k := X10_one4 hL hH hB hm n FU 0 0 (by omega) (by show n < 3000; omega) (by omega)
    have ko := (obO_ok (lawV (lV S L)) n h6 (m := m) n 0 0 (by omega)).1
    rw [f_X10_fewestSales_7, if_neg (by rw [show (6 : Int32) = nI 6 from rfl, nI_lei (by omega) (by omega)]; omega), f_X10_oneSaleBehind, show (0 : Int32) = nI 0 from rfl, k]
    simp only [Option.bind_some]
    rw [bor2 m hm _ ko]
    simp only [bt_1 m1 (show b < 6 by omega)]
    by_cases hx : (m ||| obO (lawV (lV S L)) n m n 0 0).testBit b = true
    · rw [if_pos hx]
      exact ⟨_, rfl, Or.inr ⟨t, by omega, rfl, (m2 b hb).mp hx, hn⟩⟩
    · rw [if_neg hx, nI_1]
      refine ih f (t + 1) _ (by omega) (by omega) m1 m2 (fun u hu => ?_)
      by_cases e : u = t + 1
      · subst e
        exact fun h => hx ((m2 b hb).mpr h)
      · exact hn u (by omega)
theorem X10_fewest {S : Mm} {L n a b : Nat} (hL : LandZ S.2 L) (hH : HsZ S.2 L) (hB : Bd (lV S L) n) (ha : a < n) (hb : b < n) (hab : a ≠ b) : f_X10_fewestSales S L (nI a) (nI b) = some (oS (lawV (lV S L)) n b a (2 ^ a ||| 2 ^ b) (n - 1) 0 (-9), S) := by
  have h6 := hB.le
  obtain ⟨h1, h2⟩ := bsh a (by omega)
  obtain ⟨v, k1, k2⟩ := X10_few (a := a) hL hH hB hb 5 FU 0 (2 ^ a) (by omega) (by show 5 < 3000; omega) h2 (fun x _ => by
    show _ ↔ x = a
    by_cases e : a = x
    · subst e
      simp [Nat.testBit_two_pow_self]
    · rw [Nat.testBit_two_pow_of_ne e]
      exact ⟨fun h => (by cases h), fun h => absurd h.symm e⟩) (fun u hu => by
    obtain rfl : u = 0 := by omega
    exact fun h => hab (Eq.symm h))
  rw [f_X10_fewestSales, h1, show (1 : Int32) = nI (0 + 1) from rfl, k1, few_o (lawV (lV S L)) n b h6 ha hb hab k2]
/-! paths: the reference's loops -/
theorem X12_isPath98 {S : Mm} {n b cur : Nat} (hM : ModZ S.2) (hB : Bd (mV S) n) (hb : b < 6) (hc : cur < 6) : f_X12_isPath_98 S 33 (nI b) (nI cur) 1 = some (b2i (lawV (mV S) cur b), S) := by
  obtain ⟨q, q3, hq⟩ := hB.lw
  rw [f_X12_isPath_98, if_neg (by decide), X12_isLawful hM hq q3 hc hb]
  simp only [Option.bind_some, b2i_0, f_X12_isPath_117, f_X12_isPath_118, rB_0, rB_1]
  cases lawV (mV S) cur b
  · simp only [if_true, b2i_f]
  · simp only [Bool.true_eq_false, if_false, b2i_t]
theorem X12_isPath0 {S : Mm} {l2 l3 l5 l6 l7 l9 : Int32} (f : Nat) : f_X12_isPath_22 (f + 1) S 33 l2 l3 l5 l6 l7 0 l9 = some (0, S) := by
  rw [f_X12_isPath_22]
  simp only [if_true, f_X12_isPath_98, f_X12_isPath_117, f_X12_isPath_118, rB_0, Option.bind_some, ite_self]
theorem rM_n {c n : Nat} (hn : n < 7) (h0 : 0 < n) (hc : c < 1300) : rM (nI c) (nI n) = some (nI (c % n)) ∧ dV (nI c) (nI n) = some (nI (c / n)) := by
  obtain ⟨h1, h2⟩ := dmq n hn h0 c hc
  have hz : ¬ nI n = 0 := fun e => by have := (nI_eq (b := 0) (by omega) (by omega)).mp e; omega
  rw [rM, dV, if_neg hz, if_neg hz, h1, h2]
  exact ⟨rfl, rfl⟩
theorem X12_isPath22 {S : Mm} {n b : Nat} (hM : ModZ S.2) (hB : Bd (mV S) n) (h0 : 0 < n) (hb : b < 6) {K : Nat} (hK : K < 6) : ∀ (k fuel i code cur ms : Nat), i + k = K → k + 1 < fuel → code < 1300 → cur < 6 → ms < 64 → f_X12_isPath_22 fuel S 33 (nI b) (nI K) (nI ms) (nI cur) (nI code) 1 (nI i) = some (b2i (ipS (lawV (mV S)) n b k code cur ms), S) := by
  have h6 := hB.le
  obtain ⟨q, q3, hq⟩ := hB.lw
  intro k
  induction k with
  | zero =>
    intro fuel i code cur ms hi hf hco hcu hms
    obtain ⟨f, rfl⟩ : ∃ f, fuel = f + 1 := ⟨fuel - 1, by omega⟩
    rw [f_X12_isPath_22, if_pos (by rw [nI_lei (by omega) (by omega)]; omega), X12_isPath98 hM hB hb hcu]
    rfl
  | succ k ih =>
    intro fuel i code cur ms hi hf hco hcu hms
    obtain ⟨f, rfl⟩ : ∃ f, fuel = f + 1 := ⟨fuel - 1, by omega⟩
    obtain ⟨f', rfl⟩ : ∃ f', f = f' + 1 := ⟨f - 1, by omega⟩
    obtain ⟨r1, r2⟩ := rM_n (c := code) (show n < 7 by omega) h0 hco
    have hl := Nat.mod_lt code h0
    have hd := Nat.div_le_self code n
    have hm6 : code % n < 6 := by omega
    have i1 := ih (f' + 1) (i + 1) (code / n) (code % n) (ms ||| 2 ^ (code % n)) (by omega) (by omega) (by omega) hm6 (blt ms hms _ hm6)
    rw [f_X12_isPath_22, if_neg (by rw [nI_lei (by omega) (by omega)]; omega), if_neg (by decide), hM.i S _ rfl, mv0, hB.sz]
    simp only [Option.bind_some, r1, r2, bt_0 hms hm6, X12_isLawful hM hq q3 hcu hm6, b2i_0, f_X12_isPath_76, f_X12_isPath_77, bor ms hms _ hm6, nI_1, i1, X12_isPath0]
    rw [ipS]
    cases ms.testBit (code % n)
    · cases lawV (mV S) cur (code % n)
      · simp only [if_true, Bool.not_false, Bool.and_false, Bool.false_and, b2i_f]
      · simp only [if_true, Bool.not_false, Bool.true_and, Bool.true_eq_false, if_false]
    · simp only [Bool.not_true, Bool.false_and, Bool.true_eq_false, if_false, b2i_f]
theorem X12_isPath {S : Mm} {n a b k code : Nat} (hM : ModZ S.2) (hB : Bd (mV S) n) (ha : a < n) (hb : b < n) (hk : k < 6) (hc : code < 1300) : f_X12_isPath S 33 (nI a) (nI b) (nI k) (nI code) = some (b2i (ipS (lawV (mV S)) n b k code a (2 ^ a ||| 2 ^ b)), S) := by
  have h6 := hB.le
  obtain ⟨h1, h2⟩ := bsh a (by omega)
  obtain ⟨h3, h4⟩ := bsh b (by omega)
  rw [f_X12_isPath, if_pos (hM.o S rfl), h1, h3, bor2 _ h2 _ h4]
  exact X12_isPath22 hM hB (by omega) (by omega) hk k FU 0 code a _ (by omega) (by show k + 1 < 3000; omega) hc (by omega) (Nat.or_lt_two_pow (n := 6) h2 h4)
theorem nI_p5 : ∀ s, s < 6 → (0 : Int32) ≤ nI s := by decide
theorem X12_paths71 {S : Mm} {n a b k : Nat} (hM : ModZ S.2) (hB : Bd (mV S) n) (ha : a < n) (hb : b < n) (hk : k < 5) {N : Nat} (hN : N ≤ 1296) (k57 : Mm → Nat → Int32 → Int32 → Int32 → Int32 → Int32 → Int32 → Int32 → Option (Int32 × Mm)) (l3 : Int32) : ∀ (c fuel i : Nat) (l4 l5 : Int32), i + c = N → c < fuel → f_X12_paths_71 k57 fuel S 33 (nI a) (nI b) l3 l4 l5 (nI N) (nI k) (nI i) = k57 S 33 (nI a) (nI b) l3 (sm (fun i => if ipS (lawV (mV S)) n b k i a (2 ^ a ||| 2 ^ b) = true then 1 else 0) c i l4) (l5S (fun i => ipS (lawV (mV S)) n b k i a (2 ^ a ||| 2 ^ b)) k c i l5) (nI N * nI n) (nI (k + 1)) := by
  have h6 := hB.le
  intro c
  induction c with
  | zero =>
    intro fuel i l4 l5 hi hf
    obtain ⟨f, rfl⟩ : ∃ f, fuel = f + 1 := ⟨fuel - 1, by omega⟩
    rw [f_X12_paths_71, if_pos (by rw [nI_lei (by omega) (by omega)]; omega), hM.i S _ rfl, mv0, hB.sz]
    simp only [Option.bind_some, nI_1]
    rfl
  | succ c ih =>
    intro fuel i l4 l5 hi hf
    obtain ⟨f, rfl⟩ : ∃ f, fuel = f + 1 := ⟨fuel - 1, by omega⟩
    rw [f_X12_paths_71, if_neg (by rw [nI_lei (by omega) (by omega)]; omega), X12_isPath hM hB ha hb (by omega) (by omega), l5S]
    simp only [Option.bind_some, b2i_0, f_X12_paths_110, f_X12_paths_108, nI_1]
    show _ = k57 S 33 (nI a) (nI b) l3 (sm (fun i => if ipS (lawV (mV S)) n b k i a (2 ^ a ||| 2 ^ b) = true then 1 else 0) c (i + 1) (l4 + if ipS (lawV (mV S)) n b k i a (2 ^ a ||| 2 ^ b) = true then 1 else 0)) _ _ _
    cases ipS (lawV (mV S)) n b k i a (2 ^ a ||| 2 ^ b)
    · simp only [if_true, Bool.false_eq_true, if_false, Int32.add_zero]
      exact ih f (i + 1) l4 l5 (by omega) (by omega)
    · simp only [if_true, Bool.true_eq_false, if_false]
      by_cases h : 0 ≤ l5
      · rw [if_pos h, if_pos h]
        exact ih f (i + 1) (l4 + 1) l5 (by omega) (by omega)
      · rw [if_neg h, if_neg h]
        exact ih f (i + 1) (l4 + 1) _ (by omega) (by omega)
theorem pw_b : ∀ n, n ≤ 6 → ∀ k, k < 5 → n ^ k ≤ 1296 := by decide
theorem X12_paths57 {S : Mm} {n a b : Nat} (hM : ModZ S.2) (hB : Bd (mV S) n) (ha : a < n) (hb : b < n) (l3 : Int32) : ∀ (c fuel k : Nat) (l4 l5 : Int32), k + c = n - 1 → c < fuel → f_X12_paths_57 fuel S 33 (nI a) (nI b) l3 l4 l5 (nI (n ^ k)) (nI k) = some (if l3 = 0 then sm (fun k => ptS (lawV (mV S)) n b k a (2 ^ a ||| 2 ^ b)) c k l4 else oS (lawV (mV S)) n b a (2 ^ a ||| 2 ^ b) c k l5, S) := by
  have h6 := hB.le
  have e1 : nI n - 1 = nI (n - 1) := by
    obtain ⟨p, rfl⟩ : ∃ p, n = p + 1 := ⟨n - 1, by omega⟩
    exact nI_pred p
  intro c
  induction c with
  | zero =>
    intro fuel k l4 l5 hi hf
    obtain ⟨f, rfl⟩ : ∃ f, fuel = f + 1 := ⟨fuel - 1, by omega⟩
    rw [f_X12_paths_57, hM.i S _ rfl, mv0, hB.sz]
    simp only [Option.bind_some, e1]
    rw [if_pos (by rw [nI_lei (by omega) (by omega)]; omega)]
    simp only [f_X12_paths_142]
    by_cases h : l3 = 0
    · rw [if_pos h, if_pos h]
      rfl
    · rw [if_neg h, if_neg h]
      rfl
  | succ c ih =>
    intro fuel k l4 l5 hi hf
    obtain ⟨f, rfl⟩ : ∃ f, fuel = f + 1 := ⟨fuel - 1, by omega⟩
    have hp := pw_b n h6 k (by omega)
    rw [f_X12_paths_57, hM.i S _ rfl, mv0, hB.sz]
    simp only [Option.bind_some, e1]
    have k1 := X12_paths71 hM hB ha hb (k := k) (by omega) hp (f_X12_paths_57 f) l3 (n ^ k) FU 0 l4 l5 (by omega) (by show n ^ k < 3000; omega)
    rw [show nI 0 = (0 : Int32) from rfl] at k1
    rw [if_neg (by rw [nI_lei (by omega) (by omega)]; omega), k1, nI_mul, ← Nat.pow_succ, ih f (k + 1) _ _ (by omega) (by omega), oS]
    have e2 : sm (fun i => if ipS (lawV (mV S)) n b k i a (2 ^ a ||| 2 ^ b) = true then 1 else 0) (n ^ k) 0 l4 = l4 + ptS (lawV (mV S)) n b k a (2 ^ a ||| 2 ^ b) := by
      unfold ptS
      exact sm_t _ _ _
    rw [e2]
    rfl
set_option maxRecDepth 100000 in
theorem st_18 {j : Nat} {S : Mm} (hI : Inv j S) (x y z : Int32) : ∃ S', ls_18 0 33 S x y z = some S' ∧ Inv (j + 1) S' := by
  unfold ls_18
  have hS := hI.1
  have hv := hI.2.2.1
  have hH := hI.2.1.1
  obtain ⟨⟨n, hB⟩, ⟨w, w1, w2⟩, ⟨m, m1, m2⟩⟩ := hI.2.2.2.1
  have hM := hS.m
  have h6 := hB.le
  have eM := m15_mV S
  have hMk : ∀ k, ModZ (rfC S k).2 := fun k => hS.m
  have eMk : ∀ k, mV (m15 (rfC S k)) = mV S := fun k => by rw [m15_mV, rfC_mV]
  have hz : mV (m15 S) 0 0 = nI n := by rw [eM]; exact hB.sz
  have hzk : ∀ k, mV (m15 (rfC S k)) 0 0 = nI n := fun k => by rw [eMk]; exact hB.sz
  have qt : Inv (j + 1) (m15 S) := hI.qt (cs := [33]) (ws := []) (Gx.ag (Ag.m15 (by simp))) (by simp) (by unfold Fre; decide) (by decide) rfl rfl rfl hI.2.1.2.1 eM
  have ref : ∀ (k : Nat) (c : Int32), k < 7 → f_X11_paths S 0 x y z = some (c, rfC S k) → f_X12_paths (rfC S k) 33 x y z = some (c, rfM (m15 (rfC S k)) k) → ∃ S', ((f_X11_paths S 0 x y z).bind fun q => (f_X12_paths q.2 33 x y z).bind fun r => if q.1 = r.1 then some r.2 else none) = some S' ∧ Inv (j + 1) S' := fun k c hk h1 h2 => ⟨_, two (g := fun T => f_X12_paths T 33 x y z) h1 h2, hI.rf hk⟩
  have e11 : lV S 1 = mV S := hv
  cases ht : twoV (mV S) x y
  · refine ref 1 (-1) (by omega) ?_ ?_
    · simp only [f_X11_paths, hS.o S rfl, if_true, hS.g0 S rfl, Option.bind_some, X6_areTwo hS.l1, hv, ht, b2i_f, (cR hS).1]
    · simp only [f_X12_paths, f_X12_paths_24, f_X12_paths_40, (hMk 1).o _ rfl, if_true, (hMk 1).q, Option.bind_some, X12_areTwo (hMk 1).u (hzk 1) h6, eMk, ht, b2i_f, (mR' (hMk 1).u).1]
  · have n2 : ¬ b2i true = 0 := by decide
    obtain ⟨a, b, ha, hb, hab, rfl, rfl⟩ := twoV_n hB.sz h6 ht
    have bad : (decide (0 ≤ z) && decide (z ≤ 1)) = false → f_X12_paths (rfC S 2) 33 (nI a) (nI b) z = some (-2, rfM (m15 (rfC S 2)) 2) := fun hk => by
      simp only [f_X12_paths, f_X12_paths_24, f_X12_paths_40, (hMk 2).o _ rfl, if_true, (hMk 2).q, Option.bind_some, X12_areTwo (hMk 2).u (hzk 2) h6, eMk, ht, n2, if_false, X12_in, in1, hk, b2i_f, (mR' (hMk 2).u).2.1]
    have good : (decide (0 ≤ z) && decide (z ≤ 1)) = true → f_X12_paths S 33 (nI a) (nI b) z = some (if z = 0 then sm (fun k => ptS (lawV (mV S)) n b k a (2 ^ a ||| 2 ^ b)) (n - 1) 0 0 else oS (lawV (mV S)) n b a (2 ^ a ||| 2 ^ b) (n - 1) 0 (-9), m15 S) := fun hk => by
      have := X12_paths57 hM.u (by rw [eM]; exact hB) ha hb z (n - 1) FU 0 0 (-9) (by omega) (by show n - 1 < 3000; omega)
      rw [eM, Nat.pow_zero, show nI 1 = (1 : Int32) from rfl, show nI 0 = (0 : Int32) from rfl] at this
      simp only [f_X12_paths, hM.o _ rfl, if_true, hM.q, Option.bind_some, X12_areTwo hM.u hz h6, eM, ht, n2, if_false, X12_in, in1, hk, b2i_t]
      rw [if_neg (by decide)]
      exact this
    by_cases y0 : 0 ≤ z
    · have y0' : ¬ z < 0 := Int32.not_lt.mpr y0
      by_cases y1 : z ≤ 1
      · have hk : (decide (0 ≤ z) && decide (z ≤ 1)) = true := by rw [decide_eq_true y0, decide_eq_true y1]; rfl
        have hB1 : Bd (lV S 1) n := by rw [hv]; exact hB
        refine ⟨_, two (g := fun T => f_X12_paths T 33 (nI a) (nI b) z) (S1 := S) ?_ (good hk), qt⟩
        have k0 := X10_ways hS.l1 hH hB1 ha hb
        have k1 := X10_fewest hS.l1 hH hB1 ha hb hab
        rw [hv] at k0 k1
        rw [wy_all _ n b h6 ha hb hab] at k0
        simp only [f_X11_paths, f_X11_paths_59, hS.o S rfl, if_true, hS.g0 S rfl, Option.bind_some, X6_areTwo hS.l1, hv, ht, n2, if_false, y0', y1, k0, k1]
        by_cases hz0 : z = 0
        · rw [if_pos hz0, if_pos hz0]
        · rw [if_neg hz0, if_neg hz0]
      · refine ref 2 (-2) (by omega) ?_ (bad (by rw [decide_eq_false y1, Bool.and_false]))
        simp only [f_X11_paths, f_X11_paths_27, hS.o S rfl, if_true, hS.g0 S rfl, Option.bind_some, X6_areTwo hS.l1, hv, ht, n2, if_false, y0', y1, (cR hS).2.1]
    · have y0' : z < 0 := Int32.not_le.mp y0
      refine ref 2 (-2) (by omega) ?_ (bad (by rw [decide_eq_false y0, Bool.false_and]))
      simp only [f_X11_paths, f_X11_paths_27, hS.o S rfl, if_true, hS.g0 S rfl, Option.bind_some, X6_areTwo hS.l1, hv, ht, n2, if_false, y0', (cR hS).2.1]
