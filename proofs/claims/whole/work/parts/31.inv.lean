/-! the shape of the memory, and what stands between two calls -/
theorem ModZ.x {ws : List Nat} {Z Z' : Zt} (h : ModZ Z) (hz : Zx ws Z Z') (hw : 33 ∉ ws) : ModZ Z' := by
  obtain ⟨h0, h1, h2, h3, h4, h5, h6, h7, h8, h9, h10, h11, h12, h13, h14, h15, h16, h17, h18, h19, h20, h21, h22, h23, h24, h25, h26, h27, h28, h29, h30, h31, h32, h33, h34, h35, h36, h37, h38, h39, h40, h41, h42⟩ := h
  exact ⟨h0.x hz, (hz.2.2 _ _ h0.1 hw (by omega)).trans h1, (hz.2.2 _ _ h0.1 hw (by omega)).trans h2, (hz.2.2 _ _ h0.1 hw (by omega)).trans h3, (hz.2.2 _ _ h0.1 hw (by omega)).trans h4, (hz.2.2 _ _ h0.1 hw (by omega)).trans h5, (hz.2.2 _ _ h0.1 hw (by omega)).trans h6, (hz.2.2 _ _ h0.1 hw (by omega)).trans h7, (hz.2.2 _ _ h0.1 hw (by omega)).trans h8, (hz.2.2 _ _ h0.1 hw (by omega)).trans h9, (hz.2.2 _ _ h0.1 hw (by omega)).trans h10, (hz.2.2 _ _ h0.1 hw (by omega)).trans h11, (hz.2.2 _ _ h0.1 hw (by omega)).trans h12, (hz.2.2 _ _ h0.1 hw (by omega)).trans h13, (hz.2.2 _ _ h0.1 hw (by omega)).trans h14, (hz.2.2 _ _ h0.1 hw (by omega)).trans h15, (hz.2.2 _ _ h0.1 hw (by omega)).trans h16, (hz.2.2 _ _ h0.1 hw (by omega)).trans h17, (hz.2.2 _ _ h0.1 hw (by omega)).trans h18, (hz.2.2 _ _ h0.1 hw (by omega)).trans h19, (hz.2.2 _ _ h0.1 hw (by omega)).trans h20, (hz.2.2 _ _ h0.1 hw (by omega)).trans h21, h22.x hz, h23.x hz, h24.x hz, h25.x hz, h26.x hz, h27.x hz, h28.x hz, h29.x hz, h30.x hz, h31.x hz, h32.x hz, h33.x hz, h34.x hz, h35.x hz, h36.x hz, h37.x hz, h38.x hz, h39.x hz, h40.x hz, h41.x hz, h42.x hz⟩
def Sh (Z : Zt) : Prop := NoF Z ∧ LandZ Z 1 ∧ LandZ Z 9 ∧ LandZ Z 17 ∧ TalZ Z 25 ∧ TalZ Z 27 ∧ okO Z 29 7 ∧ Z.1 29 0 = some 30 ∧ okA Z 30 96 ∧ okO Z 0 10 ∧ Z.1 0 0 = some 1 ∧ Z.1 0 1 = some 9 ∧ Z.1 0 2 = some 17 ∧ Z.1 0 4 = some 25 ∧ Z.1 0 5 = some 27 ∧ Z.1 0 6 = some 29 ∧ Z.1 0 7 = some 31 ∧ Z.1 0 9 = some 32 ∧ okA Z 31 8 ∧ okA Z 32 7 ∧ ModZ Z
theorem Sh.nf {Z : Zt} (h : Sh Z) : NoF Z := h.1
theorem Sh.l1 {Z : Zt} (h : Sh Z) : LandZ Z 1 := h.2.1
theorem Sh.l9 {Z : Zt} (h : Sh Z) : LandZ Z 9 := h.2.2.1
theorem Sh.l17 {Z : Zt} (h : Sh Z) : LandZ Z 17 := h.2.2.2.1
theorem Sh.t25 {Z : Zt} (h : Sh Z) : TalZ Z 25 := h.2.2.2.2.1
theorem Sh.t27 {Z : Zt} (h : Sh Z) : TalZ Z 27 := h.2.2.2.2.2.1
theorem Sh.o29 {Z : Zt} (h : Sh Z) : okO Z 29 7 := h.2.2.2.2.2.2.1
theorem Sh.r29 {Z : Zt} (h : Sh Z) : Z.1 29 0 = some 30 := h.2.2.2.2.2.2.2.1
theorem Sh.a30 {Z : Zt} (h : Sh Z) : okA Z 30 96 := h.2.2.2.2.2.2.2.2.1
theorem Sh.o0 {Z : Zt} (h : Sh Z) : okO Z 0 10 := h.2.2.2.2.2.2.2.2.2.1
theorem Sh.r00 {Z : Zt} (h : Sh Z) : Z.1 0 0 = some 1 := h.2.2.2.2.2.2.2.2.2.2.1
theorem Sh.r01 {Z : Zt} (h : Sh Z) : Z.1 0 1 = some 9 := h.2.2.2.2.2.2.2.2.2.2.2.1
theorem Sh.r02 {Z : Zt} (h : Sh Z) : Z.1 0 2 = some 17 := h.2.2.2.2.2.2.2.2.2.2.2.2.1
theorem Sh.r04 {Z : Zt} (h : Sh Z) : Z.1 0 4 = some 25 := h.2.2.2.2.2.2.2.2.2.2.2.2.2.1
theorem Sh.r05 {Z : Zt} (h : Sh Z) : Z.1 0 5 = some 27 := h.2.2.2.2.2.2.2.2.2.2.2.2.2.2.1
theorem Sh.r06 {Z : Zt} (h : Sh Z) : Z.1 0 6 = some 29 := h.2.2.2.2.2.2.2.2.2.2.2.2.2.2.2.1
theorem Sh.r07 {Z : Zt} (h : Sh Z) : Z.1 0 7 = some 31 := h.2.2.2.2.2.2.2.2.2.2.2.2.2.2.2.2.1
theorem Sh.r09 {Z : Zt} (h : Sh Z) : Z.1 0 9 = some 32 := h.2.2.2.2.2.2.2.2.2.2.2.2.2.2.2.2.2.1
theorem Sh.a31 {Z : Zt} (h : Sh Z) : okA Z 31 8 := h.2.2.2.2.2.2.2.2.2.2.2.2.2.2.2.2.2.2.1
theorem Sh.a32 {Z : Zt} (h : Sh Z) : okA Z 32 7 := h.2.2.2.2.2.2.2.2.2.2.2.2.2.2.2.2.2.2.2.1
theorem Sh.m {Z : Zt} (h : Sh Z) : ModZ Z := h.2.2.2.2.2.2.2.2.2.2.2.2.2.2.2.2.2.2.2.2
theorem Sh.x {ws : List Nat} {Z Z' : Zt} (h : Sh Z) (hz : Zx ws Z Z') (hw : ∀ w ∈ ws, w = 2 ∨ w = 10 ∨ w = 18) : Sh Z' := by
  have W : ∀ {w : Nat}, ¬ (w = 2 ∨ w = 10 ∨ w = 18) → w ∉ ws := fun h q => h (hw _ q)
  exact ⟨h.nf.x hz, h.l1.x hz (by omega) (W (by omega)) (W (by omega)), h.l9.x hz (by omega) (W (by omega)) (W (by omega)), h.l17.x hz (by omega) (W (by omega)) (W (by omega)), h.t25.x hz (by omega) (W (by omega)), h.t27.x hz (by omega) (W (by omega)), h.o29.x hz, (hz.2.2 _ _ h.o29.1 (W (by omega)) (by omega)).trans h.r29, h.a30.x hz, h.o0.x hz, (hz.2.2 _ _ h.o0.1 (W (by omega)) (by omega)).trans h.r00, (hz.2.2 _ _ h.o0.1 (W (by omega)) (by omega)).trans h.r01, (hz.2.2 _ _ h.o0.1 (W (by omega)) (by omega)).trans h.r02, (hz.2.2 _ _ h.o0.1 (W (by omega)) (by omega)).trans h.r04, (hz.2.2 _ _ h.o0.1 (W (by omega)) (by omega)).trans h.r05, (hz.2.2 _ _ h.o0.1 (W (by omega)) (by omega)).trans h.r06, (hz.2.2 _ _ h.o0.1 (W (by omega)) (by omega)).trans h.r07, (hz.2.2 _ _ h.o0.1 (W (by omega)) (by omega)).trans h.r09, h.a31.x hz, h.a32.x hz, h.m.x hz (W (by omega))⟩
theorem Sh.g0 {Z : Zt} (h : Sh Z) : ∀ S : Mm, S.2 = Z → gR S 10 0 0 = some 1 := h.o0.gR h.r00
theorem Sh.g1 {Z : Zt} (h : Sh Z) : ∀ S : Mm, S.2 = Z → gR S 10 0 1 = some 9 := h.o0.gR h.r01
theorem Sh.g2 {Z : Zt} (h : Sh Z) : ∀ S : Mm, S.2 = Z → gR S 10 0 2 = some 17 := h.o0.gR h.r02
theorem Sh.g4 {Z : Zt} (h : Sh Z) : ∀ S : Mm, S.2 = Z → gR S 10 0 4 = some 25 := h.o0.gR h.r04
theorem Sh.g5 {Z : Zt} (h : Sh Z) : ∀ S : Mm, S.2 = Z → gR S 10 0 5 = some 27 := h.o0.gR h.r05
theorem Sh.g6 {Z : Zt} (h : Sh Z) : ∀ S : Mm, S.2 = Z → gR S 10 0 6 = some 29 := h.o0.gR h.r06
theorem Sh.g7 {Z : Zt} (h : Sh Z) : ∀ S : Mm, S.2 = Z → gR S 10 0 7 = some 31 := h.o0.gR h.r07
theorem Sh.g9 {Z : Zt} (h : Sh Z) : ∀ S : Mm, S.2 = Z → gR S 10 0 9 = some 32 := h.o0.gR h.r09
theorem Sh.o {Z : Zt} (h : Sh Z) : ∀ S : Mm, S.2 = Z → okc S 0 10 = true := h.o0.ok
theorem Sh.i {Z : Zt} (h : Sh Z) : ∀ (S : Mm) (j : Nat), S.2 = Z → gI S 10 0 j = some (mI S 0 j) := h.o0.gI
theorem Sh.p {Z : Zt} (h : Sh Z) : ∀ (S : Mm) (j : Nat) (v : Int32), S.2 = Z → pI S 10 0 j v = some (sI S 0 j v) := h.o0.pI
theorem Sh.gl {Z : Zt} (h : Sh Z) : ∀ S : Mm, S.2 = Z → gR S 7 29 0 = some 30 := h.o29.gR h.r29
def ValB (j : Nat) (V : Vw) : Prop := (∃ n, Bd V n) ∧ (∃ w, w ≤ j ∧ V 0 2 = nI w) ∧ ∃ w, w ≤ j + 52 ∧ V 0 3 = nI w
theorem ValB.up {j : Nat} {V : Vw} (h : ValB j V) : ValB (j + 1) V := by
  obtain ⟨h1, ⟨w, h2, h3⟩, v, h4, h5⟩ := h
  exact ⟨h1, ⟨w, by omega, h3⟩, v, by omega, h5⟩
def Img (j : Nat) (S : Mm) : Prop := (mI S 0 3 = 0 ∧ mI S 33 22 = 0) ∨ (mI S 0 3 = 1 ∧ mI S 33 22 = 1 ∧ lV S 17 = kV (mI S 48) ∧ ValB j (lV S 17))
def Let (S : Mm) : Prop := ∃ s, s ≤ 96 ∧ mI S 29 1 = nI s ∧ mI S 33 27 = nI s ∧ ∀ k, k < s → mI S 30 k = mI S 49 k ∧ ∃ q, q ≤ 255 ∧ mI S 30 k = nI q
def Row (S : Mm) : Prop := ∃ s, s ≤ 8 ∧ mI S 0 8 = nI s ∧ mI S 33 36 = nI s ∧ ∀ k, k < s → mI S 31 k = mI S 54 k ∧ ∃ q, q ≤ 999 ∧ mI S 31 k = nI q
def Ref (S : Mm) : Prop := ∀ k, k < 7 → mI S 32 k = mI S 45 k
def Hss (Z : Zt) : Prop := HsZ Z 1 ∧ HsZ Z 9 ∧ HsZ Z 17
def Inv (j : Nat) (S : Mm) : Prop := Sh S.2 ∧ Hss S.2 ∧ lV S 1 = mV S ∧ ValB j (mV S) ∧ Img j S ∧ Let S ∧ Row S ∧ Ref S
/-- cells that only the two values rest on, or nothing -/
def Fre (cs : List Nat) : Prop := ∀ c ∈ cs, c < 55 ∧ c ≠ 0 ∧ c ≠ 8 ∧ c ≠ 16 ∧ c ≠ 24 ∧ ¬ (17 ≤ c ∧ c ≤ 23) ∧ ¬ (29 ≤ c ∧ c ≤ 32) ∧ c ≠ 45 ∧ c ≠ 48 ∧ c ≠ 49 ∧ c ≠ 54
theorem Fre.plain {cs : List Nat} (h : Fre cs) : plain cs := fun c hc => ⟨(h c hc).1, (h c hc).2.2.1, (h c hc).2.2.2.1, (h c hc).2.2.2.2.1⟩
theorem Img.up {j : Nat} {S : Mm} (h : Img j S) : Img (j + 1) S := h.imp id (fun h => ⟨h.1, h.2.1, h.2.2.1, h.2.2.2.up⟩)
theorem Inv.gx {cs ws : List Nat} {j : Nat} {S S' : Mm} (hI : Inv j S) (hG : Gx cs ws S S') (hw : ∀ w ∈ ws, w = 2 ∨ w = 10) (hc : Fre cs) (h22 : mI S' 33 22 = mI S 33 22) (h27 : mI S' 33 27 = mI S 33 27) (h36 : mI S' 33 36 = mI S 33 36) (hH1 : HsZ S'.2 1) (hH9 : HsZ S'.2 9) (e : lV S' 1 = mV S') (hV : ValB (j + 1) (mV S')) : Inv (j + 1) S' := by
  obtain ⟨hS, hHs, hv, hb, hi, hl, hr, hf⟩ := hI
  have N : ∀ {c : Nat}, c ∈ cs → _ := fun h => hc _ h
  have x55 : 55 ≤ mX S := hS.nf.1
  have eq : ∀ a, a < 55 → (a = 0 ∨ (17 ≤ a ∧ a ≤ 23) ∨ (29 ≤ a ∧ a ≤ 32) ∨ a = 45 ∨ a = 48 ∨ a = 49 ∨ a = 54) → mI S' a = mI S a := fun a h1 h2 => hG.2 a (by omega) (fun q => by
    have := hc _ q
    omega)
  have h17 : lV S' 17 = lV S 17 := lV_x hG hS.nf hS.l17 hHs.2.2 (by omega) (fun q => by have := hw _ q; omega) hc.plain (fun c q p => by
    have := hc c q
    simp only [lcell, List.mem_cons, List.not_mem_nil, or_false] at p
    omega)
  refine ⟨hS.x hG.1 (fun w q => by have := hw w q; omega), ⟨hH1, hH9, hHs.2.2.x hS.l17 hG.1 (by omega) (fun q => by have := hw _ q; omega)⟩, e, hV, ?_, ?_, ?_, ?_⟩
  · unfold Img
    rw [eq 0 (by omega) (by omega), h22, h17, eq 48 (by omega) (by omega)]
    exact hi.up
  · unfold Let
    rw [eq 29 (by omega) (by omega), h27, eq 30 (by omega) (by omega), eq 49 (by omega) (by omega)]
    exact hl
  · unfold Row
    rw [eq 0 (by omega) (by omega), h36, eq 31 (by omega) (by omega), eq 54 (by omega) (by omega)]
    exact hr
  · unfold Ref
    rw [eq 32 (by omega) (by omega), eq 45 (by omega) (by omega)]
    exact hf
/-- nothing that counts has changed -/
theorem Inv.qt {cs ws : List Nat} {j : Nat} {S S' : Mm} (hI : Inv j S) (hG : Gx cs ws S S') (hw : ∀ w ∈ ws, w = 10) (hc : Fre cs) (hl : ∀ c ∈ cs, c ∉ lcell 1) (h22 : mI S' 33 22 = mI S 33 22) (h27 : mI S' 33 27 = mI S 33 27) (h36 : mI S' 33 36 = mI S 33 36) (hH9 : HsZ S'.2 9) (e : mV S' = mV S) : Inv (j + 1) S' := by
  have h2 : 1 + 1 ∉ ws := fun q => by have := hw _ q; omega
  refine hI.gx hG (fun w q => Or.inr (hw w q)) hc h22 h27 h36 (hI.2.1.1.x hI.1.l1 hG.1 (by omega) h2) hH9 ?_ (by rw [e]; exact hI.2.2.2.1.up)
  rw [lV_x hG hI.1.nf hI.1.l1 hI.2.1.1 (by omega) h2 hc.plain hl, e]
  exact hI.2.2.1
theorem X11_refuse {S : Mm} (hS : Sh S.2) {k : Nat} (hk : k < 7) {c : Int32} (hc : -c = nI k) : f_X11_refuse S 0 c = some (c, sI S 32 k (mI S 32 k + 1)) := by
  have h1 : ¬ nI k < 0 := by rw [show (0 : Int32) = nI 0 from rfl, nI_lti (by omega) (by omega)]; omega
  have h2 : ¬ nI 7 ≤ nI k := by rw [nI_lei (by omega) (by omega)]; omega
  simp only [f_X11_refuse, f_X11_refuse_26, hS.o S rfl, if_true, hc, h1, if_false, hS.g9 S rfl, Option.bind_some, hS.a32.ln S rfl, h2, hS.a32.ld S k rfl hk, hS.a32.st S k _ rfl hk]
theorem X12_refuse {S : Mm} (hM : ModZ S.2) {k : Nat} (hk : k < 7) {c : Int32} (hc : -c = nI k) : f_X12_refuse S 33 c = some (c, sI S 45 k (mI S 45 k + 1)) := by
  simp only [f_X12_refuse, hM.o S rfl, if_true, hM.g16 S rfl, Option.bind_some, hc, hM.a45.ld S k rfl hk, hM.a45.st S k _ rfl hk]
theorem Inv.refuse {j k : Nat} {S : Mm} (hI : Inv j S) (hk : k < 7) : Inv (j + 1) (sI (sI (sI S 32 k (mI S 32 k + 1)) 33 15 0) 45 k (mI (sI (sI S 32 k (mI S 32 k + 1)) 33 15 0) 45 k + 1)) := by
  obtain ⟨hS, hHs, hv, hb, hi, hl, hr, hf⟩ := hI
  have hA : Ag [32, 33, 45] S (sI (sI (sI S 32 k (mI S 32 k + 1)) 33 15 0) 45 k (mI (sI (sI S 32 k (mI S 32 k + 1)) 33 15 0) 45 k + 1)) := ((Ag.sI (by simp)).sIt (by simp)).sIt (by simp)
  have hG := Gx.ag (ws := []) hA
  have hpl : plain [32, 33, 45] := by unfold plain; decide
  have m33 : ∀ i, i ≠ 15 → mI (sI (sI (sI S 32 k (mI S 32 k + 1)) 33 15 0) 45 k (mI (sI (sI S 32 k (mI S 32 k + 1)) 33 15 0) 45 k + 1)) 33 i = mI S 33 i := fun i h => by simp [mI_s, h]
  have e1 : ∀ L, LandZ S.2 L → HsZ S.2 L → (L = 1 ∨ L = 17) → lV (sI (sI (sI S 32 k (mI S 32 k + 1)) 33 15 0) 45 k (mI (sI (sI S 32 k (mI S 32 k + 1)) 33 15 0) 45 k + 1)) L = lV S L := fun L hL hH h => lV_x hG hS.nf hL hH (by omega) (by simp) hpl (fun c hc q => by
    simp only [lcell, List.mem_cons, List.not_mem_nil, or_false] at q hc
    omega)
  refine ⟨hS, hHs, ?_, ?_, ?_, ?_, ?_, ?_⟩
  · rw [e1 1 hS.l1 hHs.1 (by omega), mV_o (by omega), mV_o (by omega), mV_o (by omega)]; exact hv
  · rw [mV_o (by omega), mV_o (by omega), mV_o (by omega)]; exact hb.up
  · unfold Img
    rw [e1 17 hS.l17 hHs.2.2 (by omega), m33 22 (by omega), hA.2 0 (by simp), hA.2 48 (by simp)]
    exact hi.up
  · unfold Let
    rw [m33 27 (by omega), hA.2 29 (by simp), hA.2 30 (by simp), hA.2 49 (by simp)]
    exact hl
  · unfold Row
    rw [m33 36 (by omega), hA.2 0 (by simp), hA.2 31 (by simp), hA.2 54 (by simp)]
    exact hr
  · intro i hi'
    have := hf i hi'
    have := hf k hk
    by_cases hik : i = k
    · subst hik; simp [mI_s, *]
    · simp [mI_s, hik, *]
