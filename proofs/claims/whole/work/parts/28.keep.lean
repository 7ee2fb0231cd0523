/-! the reference keeps and puts back what there is -/
/-- the same shape, but for the one reference that the model turns -/
def Zeq (Z Z' : Zt) : Prop := Z'.2 = Z.2 ∧ ∀ a j, ¬ (a = 33 ∧ j = 25) → Z'.1 a j = Z.1 a j
theorem Zeq.rf {Z : Zt} : Zeq Z Z := ⟨rfl, fun _ _ _ => rfl⟩
theorem Zeq.tr {Z Z1 Z2 : Zt} (h1 : Zeq Z Z1) (h2 : Zeq Z1 Z2) : Zeq Z Z2 := ⟨h2.1.trans h1.1, fun a j h => (h2.2 a j h).trans (h1.2 a j h)⟩
theorem Zeq.of {Z Z' : Zt} (h : Z' = Z) : Zeq Z Z' := by subst h; exact Zeq.rf
theorem okA.z {Z Z' : Zt} {a n : Nat} (h : okA Z a n) (hz : Zeq Z Z') : okA Z' a n := by
  unfold okA at h ⊢
  rw [hz.1]; exact h
theorem okO.z {Z Z' : Zt} {a n : Nat} (h : okO Z a n) (hz : Zeq Z Z') : okO Z' a n := by
  unfold okO at h ⊢
  rw [hz.1]; exact h
theorem ModZ.z {Z Z' : Zt} (h : ModZ Z) (hz : Zeq Z Z') : ModZ Z' := by
  obtain ⟨h0, h1, h2, h3, h4, h5, h6, h7, h8, h9, h10, h11, h12, h13, h14, h15, h16, h17, h18, h19, h20, h21, h22, h23, h24, h25, h26, h27, h28, h29, h30, h31, h32, h33, h34, h35, h36, h37, h38, h39, h40, h41, h42⟩ := h
  exact ⟨h0.z hz, (hz.2 _ _ (by omega)).trans h1, (hz.2 _ _ (by omega)).trans h2, (hz.2 _ _ (by omega)).trans h3, (hz.2 _ _ (by omega)).trans h4, (hz.2 _ _ (by omega)).trans h5, (hz.2 _ _ (by omega)).trans h6, (hz.2 _ _ (by omega)).trans h7, (hz.2 _ _ (by omega)).trans h8, (hz.2 _ _ (by omega)).trans h9, (hz.2 _ _ (by omega)).trans h10, (hz.2 _ _ (by omega)).trans h11, (hz.2 _ _ (by omega)).trans h12, (hz.2 _ _ (by omega)).trans h13, (hz.2 _ _ (by omega)).trans h14, (hz.2 _ _ (by omega)).trans h15, (hz.2 _ _ (by omega)).trans h16, (hz.2 _ _ (by omega)).trans h17, (hz.2 _ _ (by omega)).trans h18, (hz.2 _ _ (by omega)).trans h19, (hz.2 _ _ (by omega)).trans h20, (hz.2 _ _ (by omega)).trans h21, h22.z hz, h23.z hz, h24.z hz, h25.z hz, h26.z hz, h27.z hz, h28.z hz, h29.z hz, h30.z hz, h31.z hz, h32.z hz, h33.z hz, h34.z hz, h35.z hz, h36.z hz, h37.z hz, h38.z hz, h39.z hz, h40.z hz, h41.z hz, h42.z hz⟩
theorem LandZ.z {Z Z' : Zt} {L : Nat} (h : LandZ Z L) (hz : Zeq Z Z') (hL : L + 5 < 33) : LandZ Z' L := by
  obtain ⟨h0, h1, h2, h3, h4, h5, h6, h7, h8, h9, h10, h11, h12⟩ := h
  exact ⟨h0.z hz, (hz.2 _ _ (by omega)).trans h1, (hz.2 _ _ (by omega)).trans h2, (hz.2 _ _ (by omega)).trans h3, (hz.2 _ _ (by omega)).trans h4, (hz.2 _ _ (by omega)).trans h5, by rw [hz.1]; exact h6, h7.z hz, h8.z hz, h9.z hz, h10.z hz, (hz.2 _ _ (by omega)).trans h11, h12.z hz⟩
theorem HsZ.z {Z Z' : Zt} {L : Nat} (h : HsZ Z L) (hz : Zeq Z Z') (hL : L + 5 < 33) : HsZ Z' L := by
  intro k hk
  obtain ⟨r, h1, h2⟩ := h k hk
  exact ⟨r, (hz.2 _ _ (by omega)).trans h1, by rw [hz.1]; exact h2⟩
theorem TalZ.z {Z Z' : Zt} {Q : Nat} (h : TalZ Z Q) (hz : Zeq Z Z') (hQ : Q < 33) : TalZ Z' Q := ⟨h.1.z hz, (hz.2 _ _ (by omega)).trans h.2.1, h.2.2.z hz⟩
theorem hrf_z {Z Z' : Zt} {L k : Nat} (hz : Zeq Z Z') (hL : L + 5 < 33) : hrf Z' L k = hrf Z L k := by rw [hrf, hrf, hz.2 _ _ (by omega)]
/-- a land's value where its cells and its houses are as they were -/
theorem lV_z {S S' : Mm} {L : Nat} (hz : Zeq S.2 S'.2) (hL : L + 6 < 33) (hH : HsZ S.2 L) (h : ∀ a, (a < 33 ∨ isF (S.2.2.1 a) = true) → mI S' a = mI S a) : lV S' L = lV S L := by
  funext r k
  simp only [lV]
  split
  · next hk =>
    by_cases r0 : r = 0
    · subst r0
      show mI S' L _ = mI S L _
      rw [h L (Or.inl (by omega))]
    by_cases r1 : r = 1
    · subst r1
      show kOf (S'.2.2.1 (hrf S'.2 L k)) = kOf (S.2.2.1 (hrf S.2 L k))
      rw [hrf_z hz (by omega), hz.1]
    by_cases r8 : r = 8
    · subst r8
      show mI S' (L + 2) k = mI S (L + 2) k
      rw [h _ (Or.inl (by omega))]
    by_cases r9 : r = 9
    · subst r9
      show mI S' (L + 3) k = mI S (L + 3) k
      rw [h _ (Or.inl (by omega))]
    by_cases r10 : r = 10
    · subst r10
      show mI S' (L + 6) k = mI S (L + 6) k
      rw [h _ (Or.inl (by omega))]
    by_cases r11 : r = 11
    · subst r11
      show mI S' (L + 4) k = mI S (L + 4) k
      rw [h _ (Or.inl (by omega))]
    rw [lrow_h r0 r1 r8 r9 r10 r11, lrow_h r0 r1 r8 r9 r10 r11, hrf_z hz (by omega)]
    rw [h _ (Or.inr (hH.h (ml6 hk r0 r9 r10 r11).1).2.2)]
  · rfl
/-- the place of a value's entry in a kept row -/
def pos (r k : Nat) : Nat := if r = 0 then k else if r ≤ 8 then 4 + 8 * k + (r - 1) else if r = 10 then 52 + k else if r = 9 then 88 + k else 106 + k
def kV (f : Nat → Int32) : Vw := fun r k => if k < ml r then f (pos r k) else 0
theorem ml_cases {r k : Nat} (h : k < ml r) : (r = 0 ∧ k < 4) ∨ (1 ≤ r ∧ r ≤ 8 ∧ k < 6) ∨ (r = 9 ∧ k < 18) ∨ (r = 10 ∧ k < 36) ∨ (r = 11 ∧ k < 3) := by
  by_cases r0 : r = 0
  · subst r0; exact Or.inl ⟨rfl, h⟩
  by_cases r9 : r = 9
  · subst r9; exact Or.inr (Or.inr (Or.inl ⟨rfl, h⟩))
  by_cases r10 : r = 10
  · subst r10; exact Or.inr (Or.inr (Or.inr (Or.inl ⟨rfl, h⟩)))
  by_cases r11 : r = 11
  · subst r11; exact Or.inr (Or.inr (Or.inr (Or.inr ⟨rfl, h⟩)))
  have := ml6 h r0 r9 r10 r11
  exact Or.inr (Or.inl ⟨by omega, this.2, this.1⟩)
theorem pos_lt {r k : Nat} (h : k < ml r) : pos r k < 109 := by
  rcases ml_cases h with h | h | h | h | h <;> unfold pos <;> (repeat' split) <;> omega
theorem pos_inj {r k r' k' : Nat} (h : k < ml r) (h' : k' < ml r') (e : pos r k = pos r' k') : r = r' ∧ k = k' := by
  unfold pos at e
  rcases ml_cases h with h | h | h | h | h <;> rcases ml_cases h' with h' | h' | h' | h' | h' <;> (repeat' split at e) <;> omega
/-- the carrying stands behind p places: kept in the row K (tk), or put back from it -/
def Car (tk : Bool) (K : Nat) (V : Vw) (f : Nat → Int32) (S0 : Mm) (p : Nat) (S : Mm) : Prop := ModZ S.2 ∧ Zeq S0.2 S.2 ∧ S.2.1 33 25 = some K ∧ okA S.2 K 109 ∧ (K = 47 ∨ K = 48) ∧ mI S 33 24 = b2i tk ∧ mI S 33 23 = nI p ∧ (∀ a, a < 33 ∨ (45 ≤ a ∧ a ≠ K) → mI S a = mI S0 a) ∧ (∀ j, 4 ≤ j → j ≠ 23 → j ≠ 24 → mI S 33 j = mI S0 33 j) ∧ (tk = true → mV S = V ∧ ∀ r k, k < ml r → pos r k < p → mI S K (pos r k) = V r k) ∧ (tk = false → mI S K = f ∧ ∀ r k, k < ml r → mV S r k = if pos r k < p then f (pos r k) else V r k)
theorem X12_carry {tk : Bool} {K p : Nat} {V : Vw} {f : Nat → Int32} {S0 S : Mm} (h : Car tk K V f S0 p S) (hp : p < 109) (v : Int32) : f_X12_carry S 33 v = some (if tk = true then (v, sI (sI S K p v) 33 23 (nI (p + 1))) else (mI S K p, sI S 33 23 (nI (p + 1)))) := by
  obtain ⟨hM, hZ, hr, hA, hK, e24, e23, hF1, hF2, h1, h2⟩ := h
  have g25 : ∀ S' : Mm, S'.2 = S.2 → gR S' 11 33 25 = some K := hM.1.gR hr
  have hK33 : ¬ 33 = K := by omega
  have hK33' : ¬ K = 33 := by omega
  have hpm : nI (p + 1) - 1 = nI p := nI_pred p
  cases tk
  · simp only [f_X12_carry, f_X12_carry_17, hM.o S rfl, if_true, hM.i, hM.p, g25, sI_2, Option.bind_some, e24, b2i_0, e23, mI_s, nI_1]
    simp only [Bool.false_eq_true, if_true, if_false, and_self, hpm, hA.ld _ _ (sI_2 S 33 23 (nI (p + 1))) hp, Option.bind_some, mI_s, hK33', false_and]
  · simp only [f_X12_carry, f_X12_carry_17, hM.o S rfl, if_true, hM.i, hM.p, g25, sI_2, Option.bind_some, e24, b2i_0, e23, hA.st S _ _ rfl hp]
    simp only [Bool.true_eq_false, if_false, mI_s, hK33, false_and, e23, nI_1, hM.i, hM.p, g25, sI_2, Option.bind_some, and_self, if_true, hpm]
    rw [hA.ld (sI (sI S K p v) 33 23 (nI (p + 1))) p (by rw [sI_2, sI_2]) hp]
    simp only [Option.bind_some, mI_s, hK33', false_and, if_false, and_self, if_true]
theorem ml_r {r k : Nat} (h : k < ml r) : r ≤ 11 := by rcases ml_cases h with h | h | h | h | h <;> omega
/-- the memory behind one carried entry -/
theorem Car.step {tk : Bool} {K p r k : Nat} {V : Vw} {f : Nat → Int32} {S0 S : Mm} (h : Car tk K V f S0 p S) (hk : k < ml r) (hp : pos r k = p) : ∃ S', f_X12_carry S 33 (mI S (33 + r) k) = some (if tk = true then (mI S (33 + r) k, sI (sI S K p (mI S (33 + r) k)) 33 23 (nI (p + 1))) else (mI S K p, sI S 33 23 (nI (p + 1)))) ∧ S' = sI (if tk = true then (mI S (33 + r) k, sI (sI S K p (mI S (33 + r) k)) 33 23 (nI (p + 1))) else (mI S K p, sI S 33 23 (nI (p + 1)))).2 (33 + r) k (if tk = true then (mI S (33 + r) k, sI (sI S K p (mI S (33 + r) k)) 33 23 (nI (p + 1))) else (mI S K p, sI S 33 23 (nI (p + 1)))).1 ∧ Car tk K V f S0 (p + 1) S' := by
  have hr := ml_r hk
  refine ⟨_, X12_carry h (by rw [← hp]; exact pos_lt hk) _, rfl, ?_⟩
  obtain ⟨hM, hZ, hr25, hA, hK, e24, e23, hF1, hF2, h1, h2⟩ := h
  have hk0 : r = 0 → k < 4 := fun e => by subst e; exact hk
  cases tk
  · refine ⟨hM, hZ, hr25, hA, hK, ?_, ?_, ?_, ?_, fun q => (by cases q), fun _ => ⟨?_, ?_⟩⟩
    · simp only [Bool.false_eq_true, if_false, mI_s]
      rw [if_neg (by omega), if_neg (by omega)]; exact e24
    · simp only [Bool.false_eq_true, if_false, mI_s]
      rw [if_neg (by omega), if_pos ⟨trivial, trivial⟩]
    · intro a ha
      funext j
      simp only [Bool.false_eq_true, if_false, mI_s]
      rw [if_neg (by omega), if_neg (by omega)]
      exact congrFun (hF1 a ha) j
    · intro j j4 j23 j24
      simp only [Bool.false_eq_true, if_false, mI_s]
      rw [if_neg (by omega), if_neg (by omega)]
      exact hF2 j j4 j23 j24
    · obtain ⟨e1, e2⟩ := h2 rfl
      rw [← e1]
      funext j
      simp only [Bool.false_eq_true, if_false, mI_s]
      rw [if_neg (by omega), if_neg (by omega)]
    · obtain ⟨e1, e2⟩ := h2 rfl
      intro r' k' hk'
      simp only [Bool.false_eq_true, if_false]
      rw [mV_s (S := sI S 33 23 (nI (p + 1))) hk, mV_o (Or.inr (Or.inr ⟨rfl, by omega⟩))]
      by_cases hc : r' = r ∧ k' = k
      · obtain ⟨rfl, rfl⟩ := hc
        rw [u2_eq, hp, if_pos (by omega), e1]
      · rw [u2_ne hc, e2 r' k' hk']
        have hne : pos r' k' ≠ p := fun q => hc (pos_inj hk' hk (q.trans hp.symm))
        by_cases hlt : pos r' k' < p
        · rw [if_pos hlt, if_pos (by omega)]
        · rw [if_neg hlt, if_neg (by omega)]
  · obtain ⟨e1, e2⟩ := h1 rfl
    have hKr : ¬ K = 33 + r := by omega
    refine ⟨hM, hZ, hr25, hA, hK, ?_, ?_, ?_, ?_, fun _ => ⟨?_, ?_⟩, fun q => by cases q⟩
    · simp only [if_true, mI_s]
      rw [if_neg (by omega), if_neg (by omega), if_neg (by omega)]; exact e24
    · simp only [if_true, mI_s]
      rw [if_neg (by omega), if_pos ⟨trivial, trivial⟩]
    · intro a ha
      funext j
      simp only [if_true, mI_s]
      rw [if_neg (by omega), if_neg (by omega), if_neg (by omega)]
      exact congrFun (hF1 a ha) j
    · intro j j4 j23 j24
      simp only [if_true, mI_s]
      rw [if_neg (by omega), if_neg (by omega), if_neg (by omega)]
      exact hF2 j j4 j23 j24
    · simp only [if_true]
      rw [mV_s (S := sI (sI S K p (mI S (33 + r) k)) 33 23 (nI (p + 1))) hk, mV_o (Or.inr (Or.inr ⟨rfl, by omega⟩)), mV_o (by omega), e1]
      funext r' k'
      by_cases hc : r' = r ∧ k' = k
      · obtain ⟨rfl, rfl⟩ := hc
        rw [u2_eq, mV_at hk, e1]
      · rw [u2_ne hc]
    · intro r' k' hk' hlt
      simp only [if_true, mI_s]
      rw [if_neg (by omega), if_neg (by omega)]
      by_cases he : pos r' k' = p
      · rw [if_pos ⟨trivial, he⟩]
        obtain ⟨rfl, rfl⟩ := pos_inj hk' hk (he.trans hp.symm)
        rw [mV_at hk, e1]
      · rw [if_neg (fun q => he q.2)]
        exact e2 r' k' hk' (by omega)
/-- one entry of an array, with what follows -/
theorem Car.arr {α : Type} {tk : Bool} {K p r k m : Nat} {V : Vw} {f : Nat → Int32} {S0 S : Mm} (h : Car tk K V f S0 p S) (hk : k < ml r) (hp : pos r k = p) (hA : okA S.2 (33 + r) m) (hm : k < m) (hr : r ≠ 0) : ∃ S', Car tk K V f S0 (p + 1) S' ∧ ∀ F : Mm → Option α, ((aI S (33 + r) (nI k)).bind fun x6 => (f_X12_carry S 33 x6).bind fun q8 => (aS q8.2 (33 + r) (nI k) q8.1).bind F) = F S' := by
  obtain ⟨S', e1, e2, e3⟩ := h.step hk hp
  refine ⟨S', e3, fun F => ?_⟩
  rw [hA.ld S _ rfl hm]
  simp only [Option.bind_some]
  rw [e1]
  simp only [Option.bind_some]
  rw [hA.st _ _ _ (by cases tk <;> rfl) hm, e2]
  rfl
theorem Car.fld {α : Type} {tk : Bool} {K k : Nat} {V : Vw} {f : Nat → Int32} {S0 S : Mm} (h : Car tk K V f S0 k S) (hk : k < 4) : ∃ S', Car tk K V f S0 (k + 1) S' ∧ ∀ F : Mm → Option α, ((gI S 11 33 k).bind fun x6 => (f_X12_carry S 33 x6).bind fun q8 => (pI q8.2 11 33 k q8.1).bind F) = F S' := by
  obtain ⟨S', e1, e2, e3⟩ := h.step (r := 0) (k := k) hk rfl
  refine ⟨S', e3, fun F => ?_⟩
  rw [h.1.i S _ rfl]
  simp only [Option.bind_some]
  rw [show mI S 33 k = mI S (33 + 0) k from rfl, e1]
  simp only [Option.bind_some]
  rw [h.1.p _ _ _ (by cases tk <;> rfl), e2]
  rfl
theorem X12_call267 {tk : Bool} {K : Nat} {V : Vw} {f : Nat → Int32} {S0 : Mm} : ∀ (c fuel h : Nat) (S : Mm), Car tk K V f S0 (106 + h) S → h + c = 3 → c < fuel → ∃ S', f_X12_carryAll_267 fuel S 33 (nI h) = some S' ∧ Car tk K V f S0 109 S' := by
  intro c
  induction c with
  | zero =>
    intro fuel h S hC hc hf
    obtain ⟨m, rfl⟩ : ∃ m, fuel = m + 1 := ⟨fuel - 1, by omega⟩
    refine ⟨S, ?_, by rw [show 109 = 106 + h by omega]; exact hC⟩
    rw [f_X12_carryAll_267, if_pos (by rw [show (3 : Int32) = nI 3 from rfl, nI_lei (by omega) (by omega)]; omega)]
  | succ c ih =>
    intro fuel h S hC hc hf
    obtain ⟨m, rfl⟩ : ∃ m, fuel = m + 1 := ⟨fuel - 1, by omega⟩
    obtain ⟨S1, c1, e1⟩ := hC.arr (α := Mm) (r := 11) (k := h) (m := 3) (show h < 3 by omega) (by simp [pos]) hC.1.a44 (by omega) (by omega)
    obtain ⟨S2, k1, k2⟩ := ih m (h + 1) S1 (by rw [show 106 + (h + 1) = 106 + h + 1 by omega]; exact c1) (by omega) (by omega)
    refine ⟨S2, ?_, k2⟩
    rw [f_X12_carryAll_267, if_neg (by rw [show (3 : Int32) = nI 3 from rfl, nI_lei (by omega) (by omega)]; omega)]
    simp only [hC.1.g14 S rfl, Option.bind_some, nI_1]
    rw [← k1]
    exact e1 _
theorem X12_call237 {tk : Bool} {K : Nat} {V : Vw} {f : Nat → Int32} {S0 : Mm} : ∀ (c fuel h : Nat) (S : Mm), Car tk K V f S0 (88 + h) S → h + c = 18 → c < fuel → ∃ S', f_X12_carryAll_237 fuel S 33 (nI h) = f_X12_carryAll_267 FU S' 33 0 ∧ Car tk K V f S0 106 S' := by
  intro c
  induction c with
  | zero =>
    intro fuel h S hC hc hf
    obtain ⟨m, rfl⟩ : ∃ m, fuel = m + 1 := ⟨fuel - 1, by omega⟩
    refine ⟨S, ?_, by rw [show 106 = 88 + h by omega]; exact hC⟩
    rw [f_X12_carryAll_237, if_pos (by rw [show (18 : Int32) = nI 18 from rfl, nI_lei (by omega) (by omega)]; omega)]
  | succ c ih =>
    intro fuel h S hC hc hf
    obtain ⟨m, rfl⟩ : ∃ m, fuel = m + 1 := ⟨fuel - 1, by omega⟩
    obtain ⟨S1, c1, e1⟩ := hC.arr (α := Mm) (r := 9) (k := h) (m := 18) (show h < 18 by omega) (by simp [pos]) hC.1.a42 (by omega) (by omega)
    obtain ⟨S2, k1, k2⟩ := ih m (h + 1) S1 (by rw [show 88 + (h + 1) = 88 + h + 1 by omega]; exact c1) (by omega) (by omega)
    refine ⟨S2, ?_, k2⟩
    rw [f_X12_carryAll_237, if_neg (by rw [show (18 : Int32) = nI 18 from rfl, nI_lei (by omega) (by omega)]; omega)]
    simp only [hC.1.g12 S rfl, Option.bind_some, nI_1]
    rw [← k1]
    exact e1 _
theorem X12_call207 {tk : Bool} {K : Nat} {V : Vw} {f : Nat → Int32} {S0 : Mm} : ∀ (c fuel h : Nat) (S : Mm), Car tk K V f S0 (52 + h) S → h + c = 36 → c < fuel → ∃ S', f_X12_carryAll_207 fuel S 33 (nI h) = f_X12_carryAll_237 FU S' 33 0 ∧ Car tk K V f S0 88 S' := by
  intro c
  induction c with
  | zero =>
    intro fuel h S hC hc hf
    obtain ⟨m, rfl⟩ : ∃ m, fuel = m + 1 := ⟨fuel - 1, by omega⟩
    refine ⟨S, ?_, by rw [show 88 = 52 + h by omega]; exact hC⟩
    rw [f_X12_carryAll_207, if_pos (by rw [show (36 : Int32) = nI 36 from rfl, nI_lei (by omega) (by omega)]; omega)]
  | succ c ih =>
    intro fuel h S hC hc hf
    obtain ⟨m, rfl⟩ : ∃ m, fuel = m + 1 := ⟨fuel - 1, by omega⟩
    obtain ⟨S1, c1, e1⟩ := hC.arr (α := Mm) (r := 10) (k := h) (m := 36) (show h < 36 by omega) (by simp [pos]) hC.1.a43 (by omega) (by omega)
    obtain ⟨S2, k1, k2⟩ := ih m (h + 1) S1 (by rw [show 52 + (h + 1) = 52 + h + 1 by omega]; exact c1) (by omega) (by omega)
    refine ⟨S2, ?_, k2⟩
    rw [f_X12_carryAll_207, if_neg (by rw [show (36 : Int32) = nI 36 from rfl, nI_lei (by omega) (by omega)]; omega)]
    simp only [hC.1.g13 S rfl, Option.bind_some, nI_1]
    rw [← k1]
    exact e1 _
theorem X12_call65 {tk : Bool} {K : Nat} {V : Vw} {f : Nat → Int32} {S0 : Mm} : ∀ (c fuel h : Nat) (S : Mm), Car tk K V f S0 (4 + 8 * h) S → h + c = 6 → c < fuel → ∃ S', f_X12_carryAll_65 fuel S 33 (nI h) = f_X12_carryAll_207 FU S' 33 0 ∧ Car tk K V f S0 52 S' := by
  intro c
  induction c with
  | zero =>
    intro fuel h S hC hc hf
    obtain ⟨m, rfl⟩ : ∃ m, fuel = m + 1 := ⟨fuel - 1, by omega⟩
    refine ⟨S, ?_, by rw [show 52 = 4 + 8 * h by omega]; exact hC⟩
    rw [f_X12_carryAll_65, if_pos (by rw [show (6 : Int32) = nI 6 from rfl, nI_lei (by omega) (by omega)]; omega)]
  | succ c ih =>
    intro fuel h S c0 hc hf
    obtain ⟨m, rfl⟩ : ∃ m, fuel = m + 1 := ⟨fuel - 1, by omega⟩
    obtain ⟨S1, c1, e1⟩ := c0.arr (α := Mm) (r := 1) (k := h) (m := 6) (show h < 6 by omega) (by simp [pos]) c0.1.a34 (by omega) (by omega)
    obtain ⟨S2, c2, e2⟩ := c1.arr (α := Mm) (r := 2) (k := h) (m := 6) (show h < 6 by omega) (by simp [pos]) c1.1.a35 (by omega) (by omega)
    obtain ⟨S3, c3, e3⟩ := c2.arr (α := Mm) (r := 3) (k := h) (m := 6) (show h < 6 by omega) (by simp [pos]) c2.1.a36 (by omega) (by omega)
    obtain ⟨S4, c4, e4⟩ := c3.arr (α := Mm) (r := 4) (k := h) (m := 6) (show h < 6 by omega) (by simp [pos]) c3.1.a37 (by omega) (by omega)
    obtain ⟨S5, c5, e5⟩ := c4.arr (α := Mm) (r := 5) (k := h) (m := 6) (show h < 6 by omega) (by simp [pos]) c4.1.a38 (by omega) (by omega)
    obtain ⟨S6, c6, e6⟩ := c5.arr (α := Mm) (r := 6) (k := h) (m := 6) (show h < 6 by omega) (by simp [pos]) c5.1.a39 (by omega) (by omega)
    obtain ⟨S7, c7, e7⟩ := c6.arr (α := Mm) (r := 7) (k := h) (m := 6) (show h < 6 by omega) (by simp [pos]) c6.1.a40 (by omega) (by omega)
    obtain ⟨S8, c8, e8⟩ := c7.arr (α := Mm) (r := 8) (k := h) (m := 6) (show h < 6 by omega) (by simp [pos]) c7.1.a41 (by omega) (by omega)
    obtain ⟨S9, k1, k2⟩ := ih m (h + 1) S8 (by rw [show 4 + 8 * (h + 1) = 4 + 8 * h + 1 + 1 + 1 + 1 + 1 + 1 + 1 + 1 by omega]; exact c8) (by omega) (by omega)
    refine ⟨S9, ?_, k2⟩
    rw [f_X12_carryAll_65, if_neg (by rw [show (6 : Int32) = nI 6 from rfl, nI_lei (by omega) (by omega)]; omega)]
    simp only [c0.1.g4 S rfl, Option.bind_some]
    refine (e1 _).trans ?_
    simp only [c1.1.g5 S1 rfl, Option.bind_some]
    refine (e2 _).trans ?_
    simp only [c2.1.g6 S2 rfl, Option.bind_some]
    refine (e3 _).trans ?_
    simp only [c3.1.g7 S3 rfl, Option.bind_some]
    refine (e4 _).trans ?_
    simp only [c4.1.g8 S4 rfl, Option.bind_some]
    refine (e5 _).trans ?_
    simp only [c5.1.g9 S5 rfl, Option.bind_some]
    refine (e6 _).trans ?_
    simp only [c6.1.g10 S6 rfl, Option.bind_some]
    refine (e7 _).trans ?_
    simp only [c7.1.g11 S7 rfl, Option.bind_some]
    refine (e8 _).trans ?_
    rw [nI_1]
    exact k1
theorem mI_sR {S : Mm} {a j : Nat} {r : Option Nat} : mI (sR S a j r) = mI S := rfl
theorem mV_sR {S : Mm} {a j : Nat} {r : Option Nat} : mV (sR S a j r) = mV S := rfl
set_option maxRecDepth 100000 in
theorem X12_carryAll {S : Mm} (hM : ModZ S.2) (tk : Bool) {K : Nat} (hK : K = 47 ∨ K = 48) : ∃ S', f_X12_carryAll S 33 K (b2i tk) = some S' ∧ Car tk K (mV S) (mI S K) S 109 S' := by
  have hz : Zeq S.2 (sR S 33 25 (some K)).2 := ⟨rfl, fun a j h => u2_ne h⟩
  have hM1 := hM.z hz
  have hA : okA S.2 K 109 := by
    rcases hK with rfl | rfl
    · exact hM.a47
    · exact hM.a48
  have c0 : Car tk K (mV S) (mI S K) S 0 (sI (sI (sR S 33 25 (some K)) 33 24 (b2i tk)) 33 23 0) := by
    refine ⟨hM1, hz, (show u2 S.2.1 33 25 (some K) 33 25 = some K from u2_eq), hA.z hz, hK, ?_, ?_, ?_, ?_, fun _ => ⟨?_, fun r k _ h => absurd h (Nat.not_lt_zero _)⟩, fun _ => ⟨?_, ?_⟩⟩
    · simp [mI_s]
    · simp [mI_s, nI_0]
    · intro a ha
      funext j
      simp only [mI_s, mI_sR]
      rw [if_neg (by omega), if_neg (by omega)]
    · intro j j4 j23 j24
      simp only [mI_s, mI_sR]
      rw [if_neg (by omega), if_neg (by omega)]
    · rw [mV_o (Or.inr (Or.inr ⟨rfl, by omega⟩)), mV_o (Or.inr (Or.inr ⟨rfl, by omega⟩)), mV_sR]
    · funext j
      simp only [mI_s, mI_sR]
      rw [if_neg (by omega), if_neg (by omega)]
    · intro r k _
      rw [if_neg (Nat.not_lt_zero _), mV_o (Or.inr (Or.inr ⟨rfl, by omega⟩)), mV_o (Or.inr (Or.inr ⟨rfl, by omega⟩)), mV_sR]
  obtain ⟨S1, c1, e1⟩ := c0.fld (α := Mm) (by omega)
  obtain ⟨S2, c2, e2⟩ := c1.fld (α := Mm) (by omega)
  obtain ⟨S3, c3, e3⟩ := c2.fld (α := Mm) (by omega)
  obtain ⟨S4, c4, e4⟩ := c3.fld (α := Mm) (by omega)
  obtain ⟨S5, a5, c5⟩ := X12_call65 6 FU 0 S4 c4 rfl (by show 6 < 3000; omega)
  obtain ⟨S6, a6, c6⟩ := X12_call207 36 FU 0 S5 c5 rfl (by show 36 < 3000; omega)
  obtain ⟨S7, a7, c7⟩ := X12_call237 18 FU 0 S6 c6 rfl (by show 18 < 3000; omega)
  obtain ⟨S8, a8, c8⟩ := X12_call267 3 FU 0 S7 c7 rfl (by show 3 < 3000; omega)
  refine ⟨S8, ?_, c8⟩
  rw [nI_0] at a5 a6 a7 a8
  have hpR : pR S 11 33 25 K = some (sR S 33 25 (some K)) := by rw [pR, if_pos (hM.o S rfl)]
  have hpB : pB (sR S 33 25 (some K)) 11 33 24 (b2i tk) = some (sI (sR S 33 25 (some K)) 33 24 (b2i tk)) := by
    rw [pB, if_pos]
    rw [hM1.o _ rfl]
    cases tk <;> rfl
  rw [f_X12_carryAll, if_pos (hM.o S rfl), hpR]
  simp only [Option.bind_some]
  rw [hpB]
  simp only [Option.bind_some]
  rw [hM1.p (sI (sR S 33 25 (some K)) 33 24 (b2i tk)) 23 0 rfl]
  simp only [Option.bind_some]
  refine (e1 _).trans ((e2 _).trans ((e3 _).trans ((e4 _).trans ?_)))
  rw [a5, a6, a7, a8]
/-- what is kept is what there is; what is put back is what was kept -/
theorem Car.kept {K : Nat} {V : Vw} {f : Nat → Int32} {S0 S : Mm} (h : Car true K V f S0 109 S) : mV S = V ∧ kV (mI S K) = V := by
  obtain ⟨h1, h2⟩ := h.2.2.2.2.2.2.2.2.2.1 rfl
  refine ⟨h1, ?_⟩
  funext r k
  unfold kV
  by_cases hk : k < ml r
  · rw [if_pos hk, h2 r k hk (pos_lt hk)]
  · rw [if_neg hk, ← h1, mV, if_neg hk]
theorem Car.back {K : Nat} {V : Vw} {f : Nat → Int32} {S0 S : Mm} (h : Car false K V f S0 109 S) : mV S = kV f ∧ mI S K = f := by
  obtain ⟨h1, h2⟩ := h.2.2.2.2.2.2.2.2.2.2 rfl
  refine ⟨?_, h1⟩
  funext r k
  unfold kV
  by_cases hk : k < ml r
  · rw [if_pos hk, h2 r k hk, if_pos (pos_lt hk)]
  · rw [if_neg hk, mV, if_neg hk]
