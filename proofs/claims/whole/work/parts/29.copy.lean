/-! frames that let the memory grow, and the class's copies -/
/-- the same shape so far, but for the rows ws of references, and the one reference that the model turns -/
def Zx (ws : List Nat) (Z Z' : Zt) : Prop := Z.2.2.2 ≤ Z'.2.2.2 ∧ (∀ a, a < Z.2.2.2 → Z'.2.1 a = Z.2.1 a ∧ Z'.2.2.1 a = Z.2.2.1 a) ∧ ∀ a j, a < Z.2.2.2 → a ∉ ws → ¬ (a = 33 ∧ j = 25) → Z'.1 a j = Z.1 a j
theorem Zx.rf {ws : List Nat} {Z : Zt} : Zx ws Z Z := ⟨Nat.le_refl _, fun _ _ => ⟨rfl, rfl⟩, fun _ _ _ _ _ => rfl⟩
theorem Zx.tr {ws : List Nat} {Z Z1 Z2 : Zt} (h1 : Zx ws Z Z1) (h2 : Zx ws Z1 Z2) : Zx ws Z Z2 := ⟨Nat.le_trans h1.1 h2.1, fun a ha => ⟨(h2.2.1 a (Nat.lt_of_lt_of_le ha h1.1)).1.trans (h1.2.1 a ha).1, (h2.2.1 a (Nat.lt_of_lt_of_le ha h1.1)).2.trans (h1.2.1 a ha).2⟩, fun a j ha hw h => (h2.2.2 a j (Nat.lt_of_lt_of_le ha h1.1) hw h).trans (h1.2.2 a j ha hw h)⟩
theorem Zx.mono {ws vs : List Nat} {Z Z' : Zt} (h : Zx ws Z Z') (hs : ∀ a ∈ ws, a ∈ vs) : Zx vs Z Z' := ⟨h.1, h.2.1, fun a j ha hv hn => h.2.2 a j ha (fun q => hv (hs a q)) hn⟩
theorem Zx.of {ws : List Nat} {Z Z' : Zt} (h : Z' = Z) : Zx ws Z Z' := by subst h; exact Zx.rf
theorem Zx.zeq {ws : List Nat} {Z Z' : Zt} (h : Zeq Z Z') : Zx ws Z Z' := ⟨by rw [h.1]; exact Nat.le_refl _, fun a _ => by rw [h.1]; exact ⟨rfl, rfl⟩, fun a j _ _ hn => h.2 a j hn⟩
theorem okA.x {ws : List Nat} {Z Z' : Zt} {a n : Nat} (h : okA Z a n) (hz : Zx ws Z Z') : okA Z' a n := ⟨Nat.lt_of_lt_of_le h.1 hz.1, (hz.2.1 a h.1).1.trans h.2.1, (hz.2.1 a h.1).2.trans h.2.2.1, h.2.2.2⟩
theorem okO.x {ws : List Nat} {Z Z' : Zt} {a n : Nat} (h : okO Z a n) (hz : Zx ws Z Z') : okO Z' a n := ⟨Nat.lt_of_lt_of_le h.1 hz.1, (hz.2.1 a h.1).1.trans h.2⟩
theorem LandZ.x {ws : List Nat} {Z Z' : Zt} {L : Nat} (h : LandZ Z L) (hz : Zx ws Z Z') (h5 : L + 5 < 33) (w0 : L ∉ ws) (w5 : L + 5 ∉ ws) : LandZ Z' L := by
  obtain ⟨h0, h1, h2, h3, h4, h5', h6, h7, h8, h9, h10, h11, h12⟩ := h
  exact ⟨h0.x hz, (hz.2.2 _ _ h0.1 w0 (by omega)).trans h1, (hz.2.2 _ _ h0.1 w0 (by omega)).trans h2, (hz.2.2 _ _ h0.1 w0 (by omega)).trans h3, (hz.2.2 _ _ h0.1 w0 (by omega)).trans h4, (hz.2.2 _ _ h0.1 w0 (by omega)).trans h5', ⟨Nat.lt_of_lt_of_le h6.1 hz.1, (hz.2.1 _ h6.1).1.trans h6.2.1, (hz.2.1 _ h6.1).2.trans h6.2.2⟩, h7.x hz, h8.x hz, h9.x hz, h10.x hz, (hz.2.2 _ _ h10.1 w5 (by omega)).trans h11, h12.x hz⟩
theorem HsZ.x {ws : List Nat} {Z Z' : Zt} {L : Nat} (hL : LandZ Z L) (h : HsZ Z L) (hz : Zx ws Z Z') (h5 : L + 5 < 33) (w1 : L + 1 ∉ ws) : HsZ Z' L := by
  intro k hk
  obtain ⟨r, h1, h2, h3⟩ := h k hk
  exact ⟨r, (hz.2.2 _ _ hL.2.2.2.2.2.2.1.1 w1 (by omega)).trans h1, Nat.lt_of_lt_of_le h2 hz.1, by rw [(hz.2.1 r h2).1]; exact h3⟩
theorem TalZ.x {ws : List Nat} {Z Z' : Zt} {Q : Nat} (h : TalZ Z Q) (hz : Zx ws Z Z') (hQ : Q < 33) (w : Q ∉ ws) : TalZ Z' Q := ⟨h.1.x hz, (hz.2.2 _ _ h.1.1 w (by omega)).trans h.2.1, h.2.2.x hz⟩
theorem hrf_x {ws : List Nat} {Z Z' : Zt} {L k : Nat} (hL : LandZ Z L) (hz : Zx ws Z Z') (h5 : L + 5 < 33) (w1 : L + 1 ∉ ws) : hrf Z' L k = hrf Z L k := by rw [hrf, hrf, hz.2.2 _ _ hL.2.2.2.2.2.2.1.1 w1 (by omega)]
/-- all is as it was but for the cells cs, and the rows ws of references -/
def Gx (cs ws : List Nat) (S S' : Mm) : Prop := Zx ws S.2 S'.2 ∧ ∀ a, a < mX S → a ∉ cs → mI S' a = mI S a
theorem Gx.rf {cs ws : List Nat} {S : Mm} : Gx cs ws S S := ⟨Zx.rf, fun _ _ _ => rfl⟩
theorem Gx.tr {cs ws : List Nat} {S S1 S2 : Mm} (h1 : Gx cs ws S S1) (h2 : Gx cs ws S1 S2) : Gx cs ws S S2 := ⟨h1.1.tr h2.1, fun a ha hc => (h2.2 a (Nat.lt_of_lt_of_le ha h1.1.1) hc).trans (h1.2 a ha hc)⟩
theorem Gx.mono {cs ds ws vs : List Nat} {S S' : Mm} (h : Gx cs ws S S') (hs : ∀ a ∈ cs, a ∈ ds) (hv : ∀ a ∈ ws, a ∈ vs) : Gx ds vs S S' := ⟨h.1.mono hv, fun a ha hc => h.2 a ha (fun q => hc (hs a q))⟩
theorem Gx.ag {cs ws : List Nat} {S S' : Mm} (h : Ag cs S S') : Gx cs ws S S' := ⟨Zx.of h.1, fun a _ hc => h.2 a hc⟩
/-- no cell of the first ones is a house, but the three that stand for nobody -/
def NoF (Z : Zt) : Prop := 55 ≤ Z.2.2.2 ∧ ∀ a, a < 55 → a ≠ 8 → a ≠ 16 → a ≠ 24 → isF (Z.2.1 a) = false
theorem NoF.x {ws : List Nat} {Z Z' : Zt} (h : NoF Z) (hz : Zx ws Z Z') : NoF Z' := ⟨Nat.le_trans h.1 hz.1, fun a a1 a2 a3 a4 => by rw [(hz.2.1 a (Nat.lt_of_lt_of_le a1 h.1)).1]; exact h.2 a a1 a2 a3 a4⟩
def plain (cs : List Nat) : Prop := ∀ c ∈ cs, c < 55 ∧ c ≠ 8 ∧ c ≠ 16 ∧ c ≠ 24
theorem lV_x {cs ws : List Nat} {S S' : Mm} {L : Nat} (hG : Gx cs ws S S') (hN : NoF S.2) (hL : LandZ S.2 L) (hH : HsZ S.2 L) (h5 : L + 5 < 33) (w1 : L + 1 ∉ ws) (hc : plain cs) (hl : ∀ c ∈ cs, c ∉ lcell L) : lV S' L = lV S L := by
  have hcell : ∀ a, a ∈ lcell L → a < mX S → mI S' a = mI S a := fun a ha hx => hG.2 a hx (fun q => hl a q ha)
  have x0 : L < mX S := hL.1.1
  have x2 : L + 2 < mX S := hL.A2.1
  have x3 : L + 3 < mX S := hL.A3.1
  have x4 : L + 4 < mX S := hL.A4.1
  have x6 : L + 6 < mX S := hL.A6.1
  funext r k
  simp only [lV]
  split
  · next hk =>
    by_cases r0 : r = 0
    · subst r0
      show mI S' L _ = mI S L _
      rw [hcell L (by simp [lcell]) x0]
    by_cases r1 : r = 1
    · subst r1
      show kOf (S'.2.2.1 (hrf S'.2 L k)) = kOf (S.2.2.1 (hrf S.2 L k))
      rw [hrf_x hL hG.1 h5 w1, (hG.1.2.1 _ (hH.h (ml6 hk (by omega) (by omega) (by omega) (by omega)).1).2.1).1]
    by_cases r8 : r = 8
    · subst r8
      show mI S' (L + 2) k = mI S (L + 2) k
      rw [hcell _ (by simp [lcell]) x2]
    by_cases r9 : r = 9
    · subst r9
      show mI S' (L + 3) k = mI S (L + 3) k
      rw [hcell _ (by simp [lcell]) x3]
    by_cases r10 : r = 10
    · subst r10
      show mI S' (L + 6) k = mI S (L + 6) k
      rw [hcell _ (by simp [lcell]) x6]
    by_cases r11 : r = 11
    · subst r11
      show mI S' (L + 4) k = mI S (L + 4) k
      rw [hcell _ (by simp [lcell]) x4]
    rw [lrow_h r0 r1 r8 r9 r10 r11, lrow_h r0 r1 r8 r9 r10 r11, hrf_x hL hG.1 h5 w1]
    obtain ⟨_, b2, b3⟩ := hH.h (ml6 hk r0 r9 r10 r11).1
    rw [hG.2 _ b2 (fun q => ?_)]
    have := hc _ q
    rw [hN.2 _ this.1 this.2.1 this.2.2.1 this.2.2.2] at b3
    cases b3
  · rfl
theorem mV_x {cs ws : List Nat} {S S' : Mm} (hG : Gx cs ws S S') (hN : NoF S.2) (hc : ∀ c ∈ cs, c < 33 ∨ 45 ≤ c) : mV S' = mV S := by
  funext r k
  unfold mV
  split
  · next hk =>
    have hr := ml_r hk
    have h55 : 55 ≤ mX S := hN.1
    rw [hG.2 (33 + r) (by omega) (fun q => by have := hc _ q; omega)]
  · rfl
theorem okA.cp {Z : Zt} {a b n : Nat} (h : okA Z a n) (h' : okA Z b n) (hn : n < 2 ^ 30) : ∀ S : Mm, S.2 = Z → aC S a 0 b 0 (nI n) = some (sW S b (va_cpy (mI S a) (mI S b) 0 0 n)) := by
  intro S hZ
  subst hZ
  have e : (nI n).toNatClampNeg = n := nI_clamp h.2.2.2
  have e0 : (0 : Int32).toNatClampNeg = 0 := rfl
  have g1 : mN S a = n := h.2.2.1
  have g2 : mN S b = n := h'.2.2.1
  have g3 : decide ((0 : Int32) ≤ nI n) = true := decide_eq_true (by rw [show (0 : Int32) = nI 0 from rfl, nI_lei (by omega) hn]; omega)
  have g4 : decide ((0 : Int32) ≤ 0) = true := rfl
  rw [aC, e, e0, g1, g2, g3, g4, h.ok, h'.ok]
  simp
theorem cpy_at {f g : Nat → Int32} {n k : Nat} (h : k < n) : va_cpy f g 0 0 n k = f k := by
  unfold va_cpy
  rw [if_pos (by omega)]
  congr 1
  omega
theorem LandZ.l0 {Z : Zt} {L : Nat} (h : LandZ Z L) : ∀ S : Mm, S.2 = Z → aL S 101 (L + 1) = some (nI 6) := by
  intro S hZ
  subst hZ
  obtain ⟨h1, h2, h3⟩ := h.2.2.2.2.2.2.1
  rw [aL, if_pos (by rw [okc, decide_eq_true (show L + 1 < mX S from h1), decide_eq_true (show mC S (L + 1) = 101 from h2)]; rfl), show mN S (L + 1) = 6 from h3]
  rfl
theorem LandZ.q {L k r : Nat} {S : Mm} (h : LandZ S.2 L) (hk : k < 6) (hr : okF S r = true) : aQ S (L + 1) (nI k) r = some (sR S (L + 1) k (some r)) := by
  obtain ⟨h1, h2, h3⟩ := h.2.2.2.2.2.2.1
  rw [aQ, if_pos, nI_clamp (by omega)]
  rw [okc, decide_eq_true (show L + 1 < mX S from h1), decide_eq_true (show mC S (L + 1) = 101 from h2), show mN S (L + 1) = 6 from h3, inb_nI hk (by omega), hr]
  rfl
theorem sR_zx {ws : List Nat} {S : Mm} {a j : Nat} {r : Option Nat} (h : a ∈ ws) : Zx ws S.2 (sR S a j r).2 := ⟨Nat.le_refl _, fun _ _ => ⟨rfl, rfl⟩, fun b k _ hw _ => u2_ne (fun q => hw (by rw [q.1]; exact h))⟩
/-- the houses' names go over, one after another -/
theorem X6_copy2 {D L : Nat} (hDL : D ≠ L) (h5 : D + 5 < 33) (h5' : L + 5 < 33) (hd : D + 6 < L ∨ L + 6 < D) : ∀ (c fuel k : Nat) (S : Mm), LandZ S.2 D → LandZ S.2 L → HsZ S.2 L → k + c = 6 → c < fuel → ∃ S1 m, f_X6_copyFrom_2 fuel S D L (nI k) = f_X6_copyFrom_2 (m + 1) S1 D L (nI 6) ∧ S1.1 = S.1 ∧ Zx [D + 1] S.2 S1.2 ∧ S1.2.2 = S.2.2 ∧ (∀ j, j < 6 → S1.2.1 (D + 1) j = if j < k then S.2.1 (D + 1) j else S.2.1 (L + 1) j) := by
  intro c
  induction c with
  | zero =>
    intro fuel k S hD hL hH hk hf
    obtain ⟨m, rfl⟩ : ∃ m, fuel = m + 1 := ⟨fuel - 1, by omega⟩
    exact ⟨S, m, by rw [show k = 6 by omega], rfl, Zx.rf, rfl, fun j hj => by rw [if_pos (by omega)]⟩
  | succ c ih =>
    intro fuel k S hD hL hH hk hf
    obtain ⟨m, rfl⟩ : ∃ m, fuel = m + 1 := ⟨fuel - 1, by omega⟩
    have hz : Zx [D + 1] S.2 (sR S (D + 1) k (some (hrf S.2 L k))).2 := sR_zx (by simp)
    have hD1 := hD.x hz h5 (by simp) (by simp)
    have hL1 := hL.x hz h5' (by simp; omega) (by simp; omega)
    have hH1 := hH.x hL hz h5' (by simp; omega)
    obtain ⟨S1, m1, e1, e2, e3, e4, e5⟩ := ih m (k + 1) _ hD1 hL1 hH1 (by omega) (by omega)
    refine ⟨S1, m1, ?_, e2, hz.tr e3, e4, fun j hj => ?_⟩
    · rw [← e1, f_X6_copyFrom_2]
      simp only [hD.g0 S rfl, hL.g0 S rfl, Option.bind_some, hD.l0 S rfl]
      rw [if_neg (by rw [nI_lei (by omega) (by omega)]; omega), hL.hr hH (show k < 6 by omega)]
      simp only [Option.bind_some]
      rw [hD.q (show k < 6 by omega) (okF_h hH (by omega))]
      simp only [Option.bind_some, nI_1]
    · rw [e5 j hj]
      by_cases hjk : j = k
      · subst hjk
        rw [if_pos (by omega), if_neg (by omega)]
        show u2 S.2.1 (D + 1) j (some (hrf S.2 L j)) (D + 1) j = _
        rw [u2_eq, (hH.h (show j < 6 by omega)).1]
      · have q1 : (sR S (D + 1) k (some (hrf S.2 L k))).2.1 (D + 1) j = S.2.1 (D + 1) j := u2_ne (by omega)
        have q2 : (sR S (D + 1) k (some (hrf S.2 L k))).2.1 (L + 1) j = S.2.1 (L + 1) j := u2_ne (by omega)
        rw [q1, q2]
        by_cases hlt : j < k
        · rw [if_pos (by omega), if_pos hlt]
        · rw [if_neg (by omega), if_neg hlt]
