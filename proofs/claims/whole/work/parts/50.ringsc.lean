/-! the rings in their order, and the class's pass over them -/
def prs (a : Nat) : Nat → Nat → List Rg
  | 0, _ => []
  | c + 1, b => (a, b, 9) :: prs a c (b + 1)
def prL (N : Nat) : Nat → Nat → List Rg
  | 0, _ => []
  | c + 1, a => prs a (N - (a + 1)) (a + 1) ++ prL N c (a + 1)
def t3 (a b : Nat) : Nat → Nat → List Rg
  | 0, _ => []
  | c + 1, k => if b = k then t3 a b c (k + 1) else (a, b, k) :: t3 a b c (k + 1)
def t2 (N a : Nat) : Nat → Nat → List Rg
  | 0, _ => []
  | c + 1, b => t3 a b (N - (a + 1)) (a + 1) ++ t2 N a c (b + 1)
def t1 (N : Nat) : Nat → Nat → List Rg
  | 0, _ => []
  | c + 1, a => t2 N a (N - (a + 1)) (a + 1) ++ t1 N c (a + 1)
def runD : List Rg → (Nat → Nat) → Int32 → (Nat → Nat) × Int32
  | [], D, t => (D, t)
  | r :: rs, D, t => runD rs (rgS D r) (t + if rgM D r = 0 then 0 else 1)
theorem runD_app : ∀ (l l' : List Rg) (D : Nat → Nat) (t : Int32), runD (l ++ l') D t = runD l' (runD l D t).1 (runD l D t).2
  | [], _, _, _ => rfl
  | r :: l, l', D, t => runD_app l l' _ _
theorem runD_ok : ∀ (l : List Rg) (D : Nat → Nat) (t : Int32), okD D → okD (runD l D t).1
  | [], _, _, h => h
  | r :: l, D, t, h => runD_ok l _ _ h.s
section
variable {L : Nat} {V : Vw}
theorem X1_r14 {a : Nat} (ha : a < 6) (k4 : Mm → Nat → Int32 → Int32 → Option (Int32 × Mm)) : ∀ (c fuel b : Nat) (S : Mm) (D : Nat → Nat) (t : Int32), LandZ S.2 L → HsZ S.2 L → lV S L = setD V D → okD D → a < b → b + c = 6 → c < fuel → ∃ S', f_X1_strikeRings_14 k4 fuel S (L + 5) t (nI a) (nI b) = k4 S' (L + 5) (runD (prs a c b) D t).2 (nI (a + 1)) ∧ Ag [L + 6] S S' ∧ lV S' L = setD V (runD (prs a c b) D t).1 := by
  intro c
  induction c with
  | zero =>
    intro fuel b S D t hL hH hV hD hab hb hf
    obtain ⟨m, rfl⟩ : ∃ m, fuel = m + 1 := ⟨fuel - 1, by omega⟩
    refine ⟨S, ?_, Ag.rf, hV⟩
    rw [f_X1_strikeRings_14, if_pos (by rw [show (6 : Int32) = nI 6 from rfl, nI_lei (by omega) (by omega)]; omega), nI_1]
    rfl
  | succ c ih =>
    intro fuel b S D t hL hH hV hD hab hb hf
    obtain ⟨m, rfl⟩ : ∃ m, fuel = m + 1 := ⟨fuel - 1, by omega⟩
    obtain ⟨S1, e1, e2, e3⟩ := X1_two hL hH hV hD ha (show b < 6 by omega) (by omega)
    obtain ⟨S2, g1, g2, g3⟩ := ih m (b + 1) S1 (rgS D (a, b, 9)) (t + if rgM D (a, b, 9) = 0 then 0 else 1) (by rw [e2.1]; exact hL) (by rw [e2.1]; exact hH) e3 hD.s (by omega) (by omega) (by omega)
    refine ⟨S2, ?_, e2.tr g2, g3⟩
    rw [f_X1_strikeRings_14, if_neg (by rw [show (6 : Int32) = nI 6 from rfl, nI_lei (by omega) (by omega)]; omega), e1]
    simp only [Option.bind_some, nI_1]
    exact g1
set_option maxRecDepth 100000 in
theorem X1_r4 : ∀ (c fuel a : Nat) (S : Mm) (D : Nat → Nat) (t : Int32), LandZ S.2 L → HsZ S.2 L → lV S L = setD V D → okD D → a + c = 6 → c < fuel → ∃ S', f_X1_strikeRings_4 fuel S (L + 5) t (nI a) = f_X1_strikeRings_43 FU S' (L + 5) (runD (prL 6 c a) D t).2 0 ∧ Ag [L + 6] S S' ∧ lV S' L = setD V (runD (prL 6 c a) D t).1 := by
  intro c
  induction c with
  | zero =>
    intro fuel a S D t hL hH hV hD hb hf
    obtain ⟨m, rfl⟩ : ∃ m, fuel = m + 1 := ⟨fuel - 1, by omega⟩
    refine ⟨S, ?_, Ag.rf, hV⟩
    rw [f_X1_strikeRings_4, if_pos (by rw [show (6 : Int32) = nI 6 from rfl, nI_lei (by omega) (by omega)]; omega)]
    rfl
  | succ c ih =>
    intro fuel a S D t hL hH hV hD hb hf
    obtain ⟨m, rfl⟩ : ∃ m, fuel = m + 1 := ⟨fuel - 1, by omega⟩
    obtain ⟨S1, e1, e2, e3⟩ := X1_r14 (V := V) (show a < 6 by omega) (f_X1_strikeRings_4 m) (6 - (a + 1)) FU (a + 1) S D t hL hH hV hD (by omega) (by omega) (by show 6 - (a + 1) < 3000; omega)
    obtain ⟨S2, g1, g2, g3⟩ := ih m (a + 1) S1 _ (runD (prs a (6 - (a + 1)) (a + 1)) D t).2 (by rw [e2.1]; exact hL) (by rw [e2.1]; exact hH) e3 (runD_ok _ _ _ hD) (by omega) (by omega)
    refine ⟨S2, ?_, e2.tr g2, by rw [prL, runD_app]; exact g3⟩
    rw [f_X1_strikeRings_4, if_neg (by rw [show (6 : Int32) = nI 6 from rfl, nI_lei (by omega) (by omega)]; omega), nI_1, e1, g1, prL, runD_app]
theorem X1_r64 {a b : Nat} (hab : a < b) (hb6 : b < 6) (k43 : Mm → Nat → Int32 → Int32 → Option (Int32 × Mm)) (k53 : Mm → Nat → Int32 → Int32 → Int32 → Option (Int32 × Mm)) : ∀ (c fuel k : Nat) (S : Mm) (D : Nat → Nat) (t : Int32), LandZ S.2 L → HsZ S.2 L → lV S L = setD V D → okD D → a < k → k + c = 6 → c < fuel → ∃ S', f_X1_strikeRings_64 k43 k53 fuel S (L + 5) t (nI a) (nI b) (nI k) = k53 S' (L + 5) (runD (t3 a b c k) D t).2 (nI a) (nI (b + 1)) ∧ Ag [L + 6] S S' ∧ lV S' L = setD V (runD (t3 a b c k) D t).1 := by
  intro c
  induction c with
  | zero =>
    intro fuel k S D t hL hH hV hD hak hk hf
    obtain ⟨m, rfl⟩ : ∃ m, fuel = m + 1 := ⟨fuel - 1, by omega⟩
    refine ⟨S, ?_, Ag.rf, hV⟩
    rw [f_X1_strikeRings_64, if_pos (by rw [show (6 : Int32) = nI 6 from rfl, nI_lei (by omega) (by omega)]; omega), nI_1]
    rfl
  | succ c ih =>
    intro fuel k S D t hL hH hV hD hak hk hf
    obtain ⟨m, rfl⟩ : ∃ m, fuel = m + 1 := ⟨fuel - 1, by omega⟩
    rw [f_X1_strikeRings_64, if_neg (by rw [show (6 : Int32) = nI 6 from rfl, nI_lei (by omega) (by omega)]; omega)]
    by_cases hbk : b = k
    · subst hbk
      obtain ⟨S2, g1, g2, g3⟩ := ih m (b + 1) S D t hL hH hV hD (by omega) (by omega) (by omega)
      refine ⟨S2, ?_, g2, by rw [t3, if_pos rfl]; exact g3⟩
      rw [if_pos rfl, f_X1_strikeRings_90, Int32.add_zero, nI_1, g1, t3, if_pos rfl]
    · obtain ⟨S1, e1, e2, e3⟩ := X1_three hL hH hV hD (show a < 6 by omega) hb6 (show k < 6 by omega) (by omega) hbk (by omega)
      obtain ⟨S2, g1, g2, g3⟩ := ih m (k + 1) S1 (rgS D (a, b, k)) (t + if rgM D (a, b, k) = 0 then 0 else 1) (by rw [e2.1]; exact hL) (by rw [e2.1]; exact hH) e3 hD.s (by omega) (by omega) (by omega)
      refine ⟨S2, ?_, e2.tr g2, by rw [t3, if_neg hbk]; exact g3⟩
      rw [if_neg (fun q => hbk ((nI_eq (by omega) (by omega)).mp q)), e1]
      simp only [Option.bind_some, f_X1_strikeRings_90, nI_1]
      rw [g1, t3, if_neg hbk]
      rfl
set_option maxRecDepth 100000 in
theorem X1_r53 {a : Nat} (ha : a < 6) (k43 : Mm → Nat → Int32 → Int32 → Option (Int32 × Mm)) : ∀ (c fuel b : Nat) (S : Mm) (D : Nat → Nat) (t : Int32), LandZ S.2 L → HsZ S.2 L → lV S L = setD V D → okD D → a < b → b + c = 6 → c < fuel → ∃ S', f_X1_strikeRings_53 k43 fuel S (L + 5) t (nI a) (nI b) = k43 S' (L + 5) (runD (t2 6 a c b) D t).2 (nI (a + 1)) ∧ Ag [L + 6] S S' ∧ lV S' L = setD V (runD (t2 6 a c b) D t).1 := by
  intro c
  induction c with
  | zero =>
    intro fuel b S D t hL hH hV hD hab hb hf
    obtain ⟨m, rfl⟩ : ∃ m, fuel = m + 1 := ⟨fuel - 1, by omega⟩
    refine ⟨S, ?_, Ag.rf, hV⟩
    rw [f_X1_strikeRings_53, if_pos (by rw [show (6 : Int32) = nI 6 from rfl, nI_lei (by omega) (by omega)]; omega), nI_1]
    rfl
  | succ c ih =>
    intro fuel b S D t hL hH hV hD hab hb hf
    obtain ⟨m, rfl⟩ : ∃ m, fuel = m + 1 := ⟨fuel - 1, by omega⟩
    obtain ⟨S1, e1, e2, e3⟩ := X1_r64 (V := V) hab (show b < 6 by omega) k43 (f_X1_strikeRings_53 k43 m) (6 - (a + 1)) FU (a + 1) S D t hL hH hV hD (by omega) (by omega) (by show 6 - (a + 1) < 3000; omega)
    obtain ⟨S2, g1, g2, g3⟩ := ih m (b + 1) S1 _ (runD (t3 a b (6 - (a + 1)) (a + 1)) D t).2 (by rw [e2.1]; exact hL) (by rw [e2.1]; exact hH) e3 (runD_ok _ _ _ hD) (by omega) (by omega) (by omega)
    refine ⟨S2, ?_, e2.tr g2, by rw [t2, runD_app]; exact g3⟩
    rw [f_X1_strikeRings_53, if_neg (by rw [show (6 : Int32) = nI 6 from rfl, nI_lei (by omega) (by omega)]; omega), nI_1, e1, g1, t2, runD_app]
set_option maxRecDepth 100000 in
theorem X1_r43 : ∀ (c fuel a : Nat) (S : Mm) (D : Nat → Nat) (t : Int32), LandZ S.2 L → HsZ S.2 L → lV S L = setD V D → okD D → a + c = 6 → c < fuel → ∃ S', f_X1_strikeRings_43 fuel S (L + 5) t (nI a) = some ((runD (t1 6 c a) D t).2, S') ∧ Ag [L + 6] S S' ∧ lV S' L = setD V (runD (t1 6 c a) D t).1 := by
  intro c
  induction c with
  | zero =>
    intro fuel a S D t hL hH hV hD hb hf
    obtain ⟨m, rfl⟩ : ∃ m, fuel = m + 1 := ⟨fuel - 1, by omega⟩
    refine ⟨S, ?_, Ag.rf, hV⟩
    rw [f_X1_strikeRings_43, if_pos (by rw [show (6 : Int32) = nI 6 from rfl, nI_lei (by omega) (by omega)]; omega)]
    rfl
  | succ c ih =>
    intro fuel a S D t hL hH hV hD hb hf
    obtain ⟨m, rfl⟩ : ∃ m, fuel = m + 1 := ⟨fuel - 1, by omega⟩
    obtain ⟨S1, e1, e2, e3⟩ := X1_r53 (V := V) (show a < 6 by omega) (f_X1_strikeRings_43 m) (6 - (a + 1)) FU (a + 1) S D t hL hH hV hD (by omega) (by omega) (by show 6 - (a + 1) < 3000; omega)
    obtain ⟨S2, g1, g2, g3⟩ := ih m (a + 1) S1 _ (runD (t2 6 a (6 - (a + 1)) (a + 1)) D t).2 (by rw [e2.1]; exact hL) (by rw [e2.1]; exact hH) e3 (runD_ok _ _ _ hD) (by omega) (by omega)
    refine ⟨S2, ?_, e2.tr g2, by rw [t1, runD_app]; exact g3⟩
    rw [f_X1_strikeRings_43, if_neg (by rw [show (6 : Int32) = nI 6 from rfl, nI_lei (by omega) (by omega)]; omega), nI_1, e1, g1, t1, runD_app]
def R6 : List Rg := prL 6 6 0 ++ t1 6 6 0
set_option maxRecDepth 100000 in
theorem X1_strikeRings {S : Mm} {D : Nat → Nat} (hL : LandZ S.2 L) (hH : HsZ S.2 L) (hV : lV S L = setD V D) (hD : okD D) : ∃ S', f_X1_strikeRings S (L + 5) = some ((runD R6 D 0).2, S') ∧ Ag [L + 6] S S' ∧ lV S' L = setD V (runD R6 D 0).1 := by
  obtain ⟨S1, e1, e2, e3⟩ := X1_r4 (V := V) 6 FU 0 S D 0 hL hH hV hD rfl (by show 6 < 3000; omega)
  obtain ⟨S2, g1, g2, g3⟩ := X1_r43 (V := V) 6 FU 0 S1 _ (runD (prL 6 6 0) D 0).2 (by rw [e2.1]; exact hL) (by rw [e2.1]; exact hH) e3 (runD_ok _ _ _ hD) rfl (by show 6 < 3000; omega)
  refine ⟨S2, ?_, e2.tr g2, by rw [R6, runD_app]; exact g3⟩
  rw [f_X1_strikeRings, if_pos (hL.O5.ok S rfl), R6, runD_app]
  exact e1.trans g1
end
/-! the reference lessens a ring -/
theorem X12_less2 {S : Mm} {a b : Nat} {V : Vw} {D : Nat → Nat} (hM : ModZ S.2) (hV : mV S = setD V D) (hD : okD D) (ha : a < 6) (hb : b < 6) (hab : a ≠ b) : ∃ S', f_X12_lessen S 33 (nI a) (nI b) (-1) = some (nI (rgM D (a, b, 9)), S') ∧ Ag [43] S S' ∧ mV S' = setD V (rgS D (a, b, 9)) := by
  have k1 : 6 * a + b < 36 := by omega
  have k2 : 6 * b + a < 36 := by omega
  have d1 := hD _ k1
  have d2 := hD _ k2
  obtain ⟨m, hm⟩ : ∃ m, m = min (D (6 * a + b)) (D (6 * b + a)) := ⟨_, rfl⟩
  have hmN : rgM D (a, b, 9) = m := by rw [rgM_2, hm]
  obtain ⟨S1, hS1⟩ : ∃ S1, S1 = sI S 43 (6 * a + b) (nI (D (6 * a + b) - m)) := ⟨_, rfl⟩
  have z1 : S1.2 = S.2 := by rw [hS1]; rfl
  have hM1 : ModZ S1.2 := by rw [z1]; exact hM
  have v1 : mV S1 = setD V (fun k => if k = 6 * a + b then D (6 * a + b) - m else D k) := by
    rw [hS1, ms10 k1, hV]
    exact setD_u k1 (fun i _ => rfl)
  have x1 := X12_debt (a := a) (b := b) hM k1
  have x2 := X12_debt (a := b) (b := a) hM k2
  rw [hV, setD_10 k1] at x1
  rw [hV, setD_10 k2] at x2
  have y1 : mI S 43 (6 * a + b) = nI (D (6 * a + b)) := by rw [mv10 k1, hV, setD_10 k1]
  have y2 : mI S1 43 (6 * b + a) = nI (D (6 * b + a)) := by rw [mv10 k2, v1, setD_10 k2, if_neg (by omega)]
  have p98 : f_X12_lessen_98 S 33 (nI a) (nI b) (-1) 0 (nI m) = some (nI m, sI S1 43 (6 * b + a) (nI (D (6 * b + a) - m))) := by
    rw [f_X12_lessen_98, hM.g13 S rfl]
    simp only [Option.bind_some, ix6', hM.a43.ld S _ rfl k1, y1]
    rw [pk_sub (by omega), hM.a43.st S _ _ rfl k1, ← hS1]
    simp only [Option.bind_some, if_true, hM1.g13 S1 rfl, hM1.a43.ld S1 _ rfl k2, y2, f_X12_lessen_172]
    rw [pk_sub (by omega), hM1.a43.st S1 _ _ rfl k2]
    rfl
  refine ⟨sI S1 43 (6 * b + a) (nI (D (6 * b + a) - m)), ?_, ?_, ?_⟩
  · rw [f_X12_lessen, if_pos (hM.o S rfl), if_pos (by decide), f_X12_lessen_9, x1]
    simp only [Option.bind_some, if_true, x2, f_X12_lessen_37, x1, f_X12_lessen_69, f_X12_lessen_96]
    rw [hmN]
    by_cases h : nI (D (6 * b + a)) ≤ nI (D (6 * a + b))
    · have e : D (6 * b + a) = m := by have := (nI_lei (by omega) (by omega)).mp h; omega
      rw [if_pos h, e, p98, e]
    · have e : D (6 * a + b) = m := by
        have : ¬ D (6 * b + a) ≤ D (6 * a + b) := fun q => h ((nI_lei (by omega) (by omega)).mpr q)
        omega
      rw [if_neg h, e, p98]
  · rw [hS1]
    exact (Ag.sI (by simp)).sIt (by simp)
  · rw [ms10 k2, v1]
    refine setD_u k2 (fun i hi => ?_)
    unfold rgS
    rw [hmN]
    by_cases h1 : i = 6 * b + a
    · rw [if_pos (inR_2.mpr (Or.inr h1)), if_pos h1, h1]
    · rw [if_neg h1]
      by_cases h2 : i = 6 * a + b
      · rw [if_pos (inR_2.mpr (Or.inl h2)), if_pos h2, h2]
      · rw [if_neg (fun q => (inR_2.mp q).elim h2 h1), if_neg h2]
