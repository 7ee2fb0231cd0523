/-! the reference looks for the first ring -/
theorem X12_less3 {S : Mm} {a b c : Nat} {V : Vw} {D : Nat → Nat} (hM : ModZ S.2) (hV : mV S = setD V D) (hD : okD D) (ha : a < 6) (hb : b < 6) (hc : c < 6) (hab : a ≠ b) (hbc : b ≠ c) (hac : a ≠ c) : ∃ S', f_X12_lessen S 33 (nI a) (nI b) (nI c) = some (nI (rgM D (a, b, c)), S') ∧ Ag [43] S S' ∧ mV S' = setD V (rgS D (a, b, c)) := by
  have c9 : c ≠ 9 := by omega
  have k1 : 6 * a + b < 36 := by omega
  have k2 : 6 * b + c < 36 := by omega
  have k3 : 6 * c + a < 36 := by omega
  have d1 := hD _ k1
  have d2 := hD _ k2
  have d3 := hD _ k3
  obtain ⟨m, hm⟩ : ∃ m, m = min (D (6 * a + b)) (min (D (6 * b + c)) (D (6 * c + a))) := ⟨_, rfl⟩
  have hmN : rgM D (a, b, c) = m := by rw [rgM_3 c9, hm]
  obtain ⟨S1, hS1⟩ : ∃ S1, S1 = sI S 43 (6 * a + b) (nI (D (6 * a + b) - m)) := ⟨_, rfl⟩
  have z1 : S1.2 = S.2 := by rw [hS1]; rfl
  have hM1 : ModZ S1.2 := by rw [z1]; exact hM
  have v1 : mV S1 = setD V (fun k => if k = 6 * a + b then D (6 * a + b) - m else D k) := by
    rw [hS1, ms10 k1, hV]
    exact setD_u k1 (fun i _ => rfl)
  obtain ⟨S2, hS2⟩ : ∃ S2, S2 = sI S1 43 (6 * b + c) (nI (D (6 * b + c) - m)) := ⟨_, rfl⟩
  have z2 : S2.2 = S1.2 := by rw [hS2]; rfl
  have hM2 : ModZ S2.2 := by rw [z2]; exact hM1
  have v2 : mV S2 = setD V (fun k => if k = 6 * b + c then D (6 * b + c) - m else if k = 6 * a + b then D (6 * a + b) - m else D k) := by
    rw [hS2, ms10 k2, v1]
    exact setD_u k2 (fun i _ => rfl)
  have x1 := X12_debt (a := a) (b := b) hM k1
  have x2 := X12_debt (a := b) (b := c) hM k2
  have x3 := X12_debt (a := c) (b := a) hM k3
  rw [hV, setD_10 k1] at x1
  rw [hV, setD_10 k2] at x2
  rw [hV, setD_10 k3] at x3
  have y1 : mI S 43 (6 * a + b) = nI (D (6 * a + b)) := by rw [mv10 k1, hV, setD_10 k1]
  have y2 : mI S1 43 (6 * b + c) = nI (D (6 * b + c)) := by rw [mv10 k2, v1, setD_10 k2, if_neg (by omega)]
  have y3 : mI S2 43 (6 * c + a) = nI (D (6 * c + a)) := by rw [mv10 k3, v2, setD_10 k3, if_neg (by omega), if_neg (by omega)]
  have p98 : ∀ q, q = m → f_X12_lessen_98 S 33 (nI a) (nI b) (nI c) 1 (nI q) = some (nI m, sI S2 43 (6 * c + a) (nI (D (6 * c + a) - m))) := fun q hq => by
    subst hq
    rw [f_X12_lessen_98, hM.g13 S rfl]
    simp only [Option.bind_some, ix6', hM.a43.ld S _ rfl k1, y1]
    rw [pk_sub (by omega), hM.a43.st S _ _ rfl k1, ← hS1]
    simp only [Option.bind_some]
    rw [if_neg (by decide)]
    simp only [hM1.g13 S1 rfl, Option.bind_some, hM1.a43.ld S1 _ rfl k2, y2]
    rw [pk_sub (by omega), hM1.a43.st S1 _ _ rfl k2, ← hS2]
    simp only [hM2.g13 S2 rfl, Option.bind_some, hM2.a43.ld S2 _ rfl k3, y3, f_X12_lessen_172]
    rw [pk_sub (by omega), hM2.a43.st S2 _ _ rfl k3]
    rfl
  have p69 : ∀ q, q ≤ 99 → min q (D (6 * c + a)) = m → f_X12_lessen_69 S 33 (nI a) (nI b) (nI c) 1 (nI q) = some (nI m, sI S2 43 (6 * c + a) (nI (D (6 * c + a) - m))) := fun q hq hm' => by
    rw [f_X12_lessen_69, if_neg (by decide), x3]
    simp only [Option.bind_some, f_X12_lessen_96, x3]
    by_cases h : nI q ≤ nI (D (6 * c + a))
    · rw [if_pos h]
      exact p98 q (by have := (nI_lei (by omega) (by omega)).mp h; omega)
    · rw [if_neg h]
      refine p98 _ ?_
      have : ¬ q ≤ D (6 * c + a) := fun p => h ((nI_lei (by omega) (by omega)).mpr p)
      omega
  refine ⟨sI S2 43 (6 * c + a) (nI (D (6 * c + a) - m)), ?_, ?_, ?_⟩
  · rw [f_X12_lessen, if_pos (hM.o S rfl), if_neg (by rw [show (0 : Int32) = nI 0 from rfl, nI_lti (by omega) (by omega)]; omega), f_X12_lessen_9, x1]
    simp only [Option.bind_some]
    rw [if_neg (by decide), x2]
    simp only [Option.bind_some, f_X12_lessen_37]
    rw [if_neg (show ¬ (1 : Int32) = 0 by decide), x2, x1]
    simp only [Option.bind_some]
    rw [hmN]
    by_cases h : nI (D (6 * b + c)) ≤ nI (D (6 * a + b))
    · rw [if_pos h]
      exact p69 _ d2 (by have := (nI_lei (by omega) (by omega)).mp h; omega)
    · rw [if_neg h]
      refine p69 _ d1 ?_
      have : ¬ D (6 * b + c) ≤ D (6 * a + b) := fun p => h ((nI_lei (by omega) (by omega)).mpr p)
      omega
  · rw [hS2, hS1]
    exact ((Ag.sI (by simp)).sIt (by simp)).sIt (by simp)
  · rw [ms10 k3, v2]
    refine setD_u k3 (fun i hi => ?_)
    unfold rgS
    rw [hmN]
    by_cases h1 : i = 6 * c + a
    · rw [if_pos ((inR_3 c9).mpr (Or.inr (Or.inr h1))), if_pos h1, h1]
    · rw [if_neg h1]
      by_cases h2 : i = 6 * b + c
      · rw [if_pos ((inR_3 c9).mpr (Or.inr (Or.inl h2))), if_pos h2, h2]
      · rw [if_neg h2]
        by_cases h3 : i = 6 * a + b
        · rw [if_pos ((inR_3 c9).mpr (Or.inl h3)), if_pos h3, h3]
        · rw [if_neg (fun q => by rcases (inR_3 c9).mp q with q | q | q <;> omega), if_neg h3]
def fz (D : Nat → Nat) (l : List Rg) : Option Rg := l.find? (fun p => decide (rgM D p ≠ 0))
def cf (r : Rg) : Int32 := if r.2.2 = 9 then 2 else 3
def Sc (l : List Rg) (D : Nat → Nat) (V : Vw) (S : Mm) (res : Option (Int32 × Mm)) (K : Mm → Option (Int32 × Mm)) : Prop := match fz D l with
  | none => ∃ S', res = K S' ∧ Ag [43] S S' ∧ mV S' = setD V D
  | some r => ∃ S', res = some (1, S') ∧ Ag [33, 43] S S' ∧ O33 [19] S S' ∧ mV S' = setD V (rgS D r) ∧ mI S' 33 19 = mI S 33 19 + cf r * nI (rgM D r)
theorem Sc.nil {D : Nat → Nat} {V : Vw} {S : Mm} {K : Mm → Option (Int32 × Mm)} (h : mV S = setD V D) : Sc [] D V S (K S) K := ⟨S, rfl, Ag.rf, h⟩
theorem Sc.pre {l : List Rg} {D : Nat → Nat} {V : Vw} {S S1 : Mm} {res : Option (Int32 × Mm)} {K : Mm → Option (Int32 × Mm)} (hA : Ag [43] S S1) (h : Sc l D V S1 res K) : Sc l D V S res K := by
  unfold Sc at h ⊢
  cases hf : fz D l with
  | none =>
    rw [hf] at h
    obtain ⟨S', h1, h2, h3⟩ := h
    exact ⟨S', h1, hA.tr h2, h3⟩
  | some r =>
    rw [hf] at h
    obtain ⟨S', h1, h2, h3, h4, h5⟩ := h
    exact ⟨S', h1, (hA.mono (by simp)).tr h2, (O33.ag hA (by simp)).tr h3, h4, by rw [h5, hA.2 33 (by simp)]⟩
theorem Sc.miss {l : List Rg} {r : Rg} {D : Nat → Nat} {V : Vw} {S : Mm} {res : Option (Int32 × Mm)} {K : Mm → Option (Int32 × Mm)} (hr : rgM D r = 0) (h : Sc l D V S res K) : Sc (r :: l) D V S res K := by
  have : fz D (r :: l) = fz D l := by
    unfold fz
    rw [List.find?_cons_of_neg]
    simp [hr]
  unfold Sc
  rw [this]
  exact h
theorem Sc.hit {l : List Rg} {r : Rg} {D : Nat → Nat} {V : Vw} {S S' : Mm} {K : Mm → Option (Int32 × Mm)} (hr : rgM D r ≠ 0) (h2 : Ag [33, 43] S S') (h3 : O33 [19] S S') (h4 : mV S' = setD V (rgS D r)) (h5 : mI S' 33 19 = mI S 33 19 + cf r * nI (rgM D r)) : Sc (r :: l) D V S (some (1, S')) K := by
  have : fz D (r :: l) = some r := by
    unfold fz
    rw [List.find?_cons_of_pos]
    simp [hr]
  unfold Sc
  rw [this]
  exact ⟨S', rfl, h2, h3, h4, h5⟩
theorem Sc.app {l l' : List Rg} {D : Nat → Nat} {V : Vw} {S : Mm} {res : Option (Int32 × Mm)} {K K' : Mm → Option (Int32 × Mm)} (h : Sc l D V S res K') (hk : ∀ S', Ag [43] S S' → mV S' = setD V D → Sc l' D V S' (K' S') K) : Sc (l ++ l') D V S res K := by
  have hfa : fz D (l ++ l') = (fz D l).or (fz D l') := by
    unfold fz
    exact List.find?_append
  unfold Sc at h
  cases hf : fz D l with
  | none =>
    rw [hf] at h
    obtain ⟨S', h1, h2, h3⟩ := h
    have := Sc.pre h2 (hk S' h2 h3)
    unfold Sc at this ⊢
    rw [hfa, hf, Option.none_or, h1]
    exact this
  | some r =>
    rw [hf] at h
    unfold Sc
    rw [hfa, hf, Option.some_or]
    exact h
def mt (n a : Nat) : Nat → Nat → List Rg
  | 0, _ => []
  | c + 1, i => if i / n ≤ a ∨ i % n ≤ a ∨ i / n = i % n then mt n a c (i + 1) else (a, i / n, i % n) :: mt n a c (i + 1)
def m1 (n : Nat) : Nat → Nat → List Rg
  | 0, _ => []
  | c + 1, a => mt n a (n * n) 0 ++ m1 n c (a + 1)
def Rn (n : Nat) : List Rg := prL n n 0 ++ m1 n n 0
section
variable {V : Vw} {D : Nat → Nat} {n : Nat}
theorem setD_n (hB : V 0 0 = nI n) : setD V D 0 0 = nI n := by rw [setD_o (by omega)]; exact hB
theorem X12_o14 (hn : V 0 0 = nI n) (h6 : n ≤ 6) (hD : okD D) {a : Nat} (k2 : Mm → Nat → Int32 → Option (Int32 × Mm)) : ∀ (c fuel b : Nat) (S : Mm), ModZ S.2 → mV S = setD V D → a < b → b + c = n → c < fuel → Sc (prs a c b) D V S (f_X12_strikeOne_14 k2 fuel S 33 (nI a) (nI b)) (fun S' => k2 S' 33 (nI (a + 1))) := by
  intro c
  induction c with
  | zero =>
    intro fuel b S hM hV hab hb hf
    obtain ⟨m, rfl⟩ : ∃ m, fuel = m + 1 := ⟨fuel - 1, by omega⟩
    rw [f_X12_strikeOne_14, hM.i S _ rfl, mv0, hV, setD_n hn]
    simp only [Option.bind_some]
    rw [if_pos (by rw [nI_lei (by omega) (by omega)]; omega), nI_1]
    exact Sc.nil (K := fun S' => k2 S' 33 (nI (a + 1))) hV
  | succ c ih =>
    intro fuel b S hM hV hab hb hf
    obtain ⟨m, rfl⟩ : ∃ m, fuel = m + 1 := ⟨fuel - 1, by omega⟩
    obtain ⟨S1, e1, e2, e3⟩ := X12_less2 hM hV hD (show a < 6 by omega) (show b < 6 by omega) (by omega)
    have hM1 : ModZ S1.2 := by rw [e2.1]; exact hM
    have hm : rgM D (a, b, 9) < 2 ^ 30 := by
      rw [rgM_2]
      have := hD (6 * a + b) (by omega)
      omega
    rw [f_X12_strikeOne_14, hM.i S _ rfl, mv0, hV, setD_n hn]
    simp only [Option.bind_some]
    rw [if_neg (by rw [nI_lei (by omega) (by omega)]; omega), e1]
    simp only [Option.bind_some, nI_le0 hm, nI_1]
    by_cases h0 : rgM D (a, b, 9) = 0
    · rw [if_pos h0]
      rw [rgS_0 h0] at e3
      exact Sc.miss h0 (Sc.pre e2 (ih m (b + 1) S1 hM1 e3 (by omega) (by omega) (by omega)))
    · rw [if_neg h0, hM1.i S1 _ rfl]
      simp only [Option.bind_some]
      rw [hM1.p S1 _ _ rfl]
      refine Sc.hit h0 ((e2.mono (by simp)).sIt (by simp)) ((O33.ag e2 (by simp)).tr (O33.sI (by simp))) (by rw [mV_o (by omega)]; exact e3) ?_
      rw [mI_s, if_pos ⟨rfl, rfl⟩, e2.2 33 (by simp)]
      rfl
set_option maxRecDepth 100000 in
theorem X12_o2 (hn : V 0 0 = nI n) (h6 : n ≤ 6) (hD : okD D) : ∀ (c fuel a : Nat) (S : Mm), ModZ S.2 → mV S = setD V D → a + c = n → c < fuel → Sc (prL n c a) D V S (f_X12_strikeOne_2 fuel S 33 (nI a)) (fun S' => f_X12_strikeOne_62 FU S' 33 0) := by
  intro c
  induction c with
  | zero =>
    intro fuel a S hM hV hb hf
    obtain ⟨m, rfl⟩ : ∃ m, fuel = m + 1 := ⟨fuel - 1, by omega⟩
    rw [f_X12_strikeOne_2, hM.i S _ rfl, mv0, hV, setD_n hn]
    simp only [Option.bind_some]
    rw [if_pos (by rw [nI_lei (by omega) (by omega)]; omega)]
    exact Sc.nil (K := fun S' => f_X12_strikeOne_62 FU S' 33 0) hV
  | succ c ih =>
    intro fuel a S hM hV hb hf
    obtain ⟨m, rfl⟩ : ∃ m, fuel = m + 1 := ⟨fuel - 1, by omega⟩
    rw [f_X12_strikeOne_2, hM.i S _ rfl, mv0, hV, setD_n hn]
    simp only [Option.bind_some]
    rw [if_neg (by rw [nI_lei (by omega) (by omega)]; omega), nI_1]
    exact Sc.app (X12_o14 hn h6 hD (f_X12_strikeOne_2 m) (n - (a + 1)) FU (a + 1) S hM hV (by omega) (by omega) (by show n - (a + 1) < 3000; omega)) (fun S' hA hV' => ih m (a + 1) S' (by rw [hA.1]; exact hM) hV' (by omega) (by omega))
theorem dmn : ∀ n, n < 7 → ∀ i, i < 36 → n ≠ 0 → nI i / nI n = nI (i / n) ∧ nI i - nI i / nI n * nI n = nI (i % n) := by decide
theorem mnn : ∀ n, n < 7 → nI n * nI n = nI (n * n) := by decide
theorem X12_o72 (hn : V 0 0 = nI n) (h6 : n ≤ 6) (h0 : n ≠ 0) (hD : okD D) {a : Nat} (ha : a < n) (k62 : Mm → Nat → Int32 → Option (Int32 × Mm)) : ∀ (c fuel i : Nat) (S : Mm), ModZ S.2 → mV S = setD V D → i + c = n * n → c < fuel → Sc (mt n a c i) D V S (f_X12_strikeOne_72 k62 fuel S 33 (nI a) (nI i)) (fun S' => k62 S' 33 (nI (a + 1))) := by
  have hnn : n * n ≤ 36 := Nat.mul_le_mul h6 h6
  have cn : ¬ nI n = 0 := fun e => by have := (nI_eq (b := 0) (by omega) (by omega)).mp e; omega
  intro c
  induction c with
  | zero =>
    intro fuel i S hM hV hi hf
    obtain ⟨m, rfl⟩ : ∃ m, fuel = m + 1 := ⟨fuel - 1, by omega⟩
    rw [f_X12_strikeOne_72, hM.i S _ rfl, mv0, hV, setD_n hn]
    simp only [Option.bind_some, mnn n (by omega)]
    rw [if_pos (by rw [nI_lei (by omega) (by omega)]; omega), nI_1]
    exact Sc.nil (K := fun S' => k62 S' 33 (nI (a + 1))) hV
  | succ c ih =>
    intro fuel i S hM hV hi hf
    obtain ⟨m, rfl⟩ : ∃ m, fuel = m + 1 := ⟨fuel - 1, by omega⟩
    obtain ⟨q1, q2⟩ := dmn n (by omega) i (by omega) h0
    have hdi : i / n < n := Nat.div_lt_of_lt_mul (by omega)
    have hmi : i % n < n := Nat.mod_lt _ (by omega)
    obtain ⟨b, hb⟩ : ∃ b, b = i / n := ⟨_, rfl⟩
    obtain ⟨d, hd⟩ : ∃ d, d = i % n := ⟨_, rfl⟩
    rw [← hb] at q1 hdi
    rw [← hd] at q2 hmi
    have hdv : dV (nI i) (nI n) = some (nI b) := by rw [dV, if_neg cn, q1]
    have hrm : rM (nI i) (nI n) = some (nI d) := by rw [rM, if_neg cn, q2]
    rw [f_X12_strikeOne_72, hM.i S _ rfl, mv0, hV, setD_n hn]
    simp only [Option.bind_some, mnn n (by omega)]
    rw [if_neg (by rw [nI_lei (by omega) (by omega)]; omega), hdv, hrm]
    simp only [Option.bind_some, f_X12_strikeOne_128, nI_lei (show b < 2 ^ 30 by omega) (show a < 2 ^ 30 by omega), nI_lei (show d < 2 ^ 30 by omega) (show a < 2 ^ 30 by omega), nI_eq (show b < 2 ^ 31 by omega) (show d < 2 ^ 31 by omega)]
    have skip : ∀ S1 : Mm, f_X12_strikeOne_129 k62 (f_X12_strikeOne_72 k62 m) S1 33 (nI a) (nI i) 0 = f_X12_strikeOne_72 k62 m S1 33 (nI a) (nI (i + 1)) := fun S1 => by rw [f_X12_strikeOne_129, if_pos (by decide), nI_1]
    have hmt : mt n a (c + 1) i = if b ≤ a ∨ d ≤ a ∨ b = d then mt n a c (i + 1) else (a, b, d) :: mt n a c (i + 1) := by rw [mt, ← hb, ← hd]
    rw [hmt]
    have hsk := ih m (i + 1) S hM hV (by omega) (by omega)
    by_cases c1 : b ≤ a
    · rw [if_pos c1, if_pos (Or.inl c1), skip]
      exact hsk
    by_cases c2 : d ≤ a
    · rw [if_neg c1, if_pos c2, if_pos (Or.inr (Or.inl c2)), skip]
      exact hsk
    by_cases c3 : b = d
    · rw [if_neg c1, if_neg c2, if_pos c3, if_pos (Or.inr (Or.inr c3)), skip]
      exact hsk
    rw [if_neg c1, if_neg c2, if_neg c3, if_neg (fun q => by omega)]
    obtain ⟨S1, e1, e2, e3⟩ := X12_less3 hM hV hD (show a < 6 by omega) (show b < 6 by omega) (show d < 6 by omega) (by omega) c3 (by omega)
    have hM1 : ModZ S1.2 := by rw [e2.1]; exact hM
    have hm : rgM D (a, b, d) < 2 ^ 30 := by
      rw [rgM_3 (by omega)]
      have := hD (6 * a + b) (by omega)
      omega
    rw [e1]
    simp only [Option.bind_some, f_X12_strikeOne_129, nI_le0 hm, nI_1]
    by_cases h0 : rgM D (a, b, d) = 0
    · rw [if_pos h0]
      rw [rgS_0 h0] at e3
      exact Sc.miss h0 (Sc.pre e2 (ih m (i + 1) S1 hM1 e3 (by omega) (by omega)))
    · rw [if_neg h0, hM1.i S1 _ rfl]
      simp only [Option.bind_some]
      rw [hM1.p S1 _ _ rfl]
      refine Sc.hit h0 ((e2.mono (by simp)).sIt (by simp)) ((O33.ag e2 (by simp)).tr (O33.sI (by simp))) (by rw [mV_o (by omega)]; exact e3) ?_
      rw [mI_s, if_pos ⟨rfl, rfl⟩, e2.2 33 (by simp), cf, if_neg (by show d ≠ 9; omega)]
set_option maxRecDepth 100000 in
theorem X12_o62 (hn : V 0 0 = nI n) (h6 : n ≤ 6) (hD : okD D) : ∀ (c fuel a : Nat) (S : Mm), ModZ S.2 → mV S = setD V D → a + c = n → c < fuel → Sc (m1 n c a) D V S (f_X12_strikeOne_62 fuel S 33 (nI a)) (fun S' => some (0, S')) := by
  intro c
  induction c with
  | zero =>
    intro fuel a S hM hV hb hf
    obtain ⟨m, rfl⟩ : ∃ m, fuel = m + 1 := ⟨fuel - 1, by omega⟩
    rw [f_X12_strikeOne_62, hM.i S _ rfl, mv0, hV, setD_n hn]
    simp only [Option.bind_some]
    rw [if_pos (by rw [nI_lei (by omega) (by omega)]; omega)]
    exact Sc.nil (K := fun S' => some (0, S')) hV
  | succ c ih =>
    intro fuel a S hM hV hb hf
    obtain ⟨m, rfl⟩ : ∃ m, fuel = m + 1 := ⟨fuel - 1, by omega⟩
    have hnn : n * n ≤ 36 := Nat.mul_le_mul h6 h6
    rw [f_X12_strikeOne_62, hM.i S _ rfl, mv0, hV, setD_n hn]
    simp only [Option.bind_some]
    rw [if_neg (by rw [nI_lei (by omega) (by omega)]; omega)]
    exact Sc.app (X12_o72 hn h6 (by omega) hD (show a < n by omega) (f_X12_strikeOne_62 m) (n * n) FU 0 S hM hV (by omega) (by show n * n < 3000; omega)) (fun S' hA hV' => ih m (a + 1) S' (by rw [hA.1]; exact hM) hV' (by omega) (by omega))
set_option maxRecDepth 100000 in
theorem X12_strikeOne (hn : V 0 0 = nI n) (h6 : n ≤ 6) (hD : okD D) {S : Mm} (hM : ModZ S.2) (hV : mV S = setD V D) : Sc (Rn n) D V S (f_X12_strikeOne S 33) (fun S' => some (0, S')) := by
  rw [f_X12_strikeOne, if_pos (hM.o S rfl)]
  exact Sc.app (X12_o2 hn h6 hD n FU 0 S hM hV (by omega) (by show n < 3000; omega)) (fun S' hA hV' => X12_o62 hn h6 hD n FU 0 S' (by rw [hA.1]; exact hM) hV' (by omega) (by show n < 3000; omega))
end
