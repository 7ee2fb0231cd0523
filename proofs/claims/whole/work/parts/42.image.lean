/-! image, restore -/
theorem Car.gx {tk : Bool} {V : Vw} {f : Nat → Int32} {S S' : Mm} (h : Car tk 48 V f S 109 S') : Gx (MC ++ [48]) [] S S' := by
  obtain ⟨hM, hZ, hr25, hA, hK, e24, e23, hF1, hF2, -, -⟩ := h
  refine ⟨Zx.zeq hZ, fun a _ hc => hF1 a ?_⟩
  simp only [MC, List.mem_append, List.mem_cons, List.not_mem_nil, or_false] at hc
  omega
theorem Car.o {tk : Bool} {V : Vw} {f : Nat → Int32} {S S' : Mm} (h : Car tk 48 V f S 109 S') : ∀ j, 4 ≤ j → j ≠ 23 → j ≠ 24 → mI S' 33 j = mI S 33 j := h.2.2.2.2.2.2.2.2.1
theorem st_25 {j : Nat} {S : Mm} (hI : Inv j S) : ∃ S', ls_25 0 33 S = some S' ∧ Inv (j + 1) S' := by
  unfold ls_25
  obtain ⟨hS, hHs, hv, hb, hi, hl, hr, hf⟩ := id hI
  obtain ⟨S1, a1, a2, a3, a4, a5⟩ := X6_copyFrom (D := 17) (L := 1) (S := S) (by omega) (by omega) (by omega) hS.nf hS.l17 hS.l1 hHs.1
  have hS1 : Sh S1.2 := hS.x a2.1 (by simp)
  have x55 : 55 ≤ mX S := hS.nf.1
  obtain ⟨T2, hT2⟩ : ∃ T2, T2 = sI (m15 (sI S1 0 3 1)) 33 22 1 := ⟨_, rfl⟩
  have z2 : T2.2 = S1.2 := by rw [hT2]; rfl
  have hM1 : ModZ (sI S1 0 3 1).2 := hS1.m
  have hM2 : ModZ T2.2 := by rw [z2]; exact hS1.m
  have v2 : mV T2 = mV S := by rw [hT2, mV_o (by omega), m15_mV, mV_o (by omega)]; exact mV_x a2 hS.nf (by simp)
  obtain ⟨O, b1, b2⟩ := X12_carryAll hM2 true (K := 48) (Or.inr rfl)
  obtain ⟨k1, k2⟩ := b2.kept
  rw [v2] at k1 k2
  have A2 : Ag [0, 33] S1 T2 := by rw [hT2]; exact ((Ag.sI (by simp)).tr (Ag.m15 (by simp))).sIt (by simp)
  have hG1 : Gx (0 :: (MC ++ [48])) [] S1 O := (Gx.ag (A2.mono (by simp +contextual [MC]))).tr (b2.gx.mono (by simp +contextual [MC]) (by simp))
  have hG : Gx ([17, 19, 20, 21, 23] ++ (0 :: (MC ++ [48]))) [18] S O := (a2.mono (by simp +contextual) (by simp)).tr (hG1.mono (by simp +contextual) (by simp))
  have pl : plain ([17, 19, 20, 21, 23] ++ (0 :: (MC ++ [48]))) := by unfold plain MC; decide
  have hO : Sh O.2 := hS.x hG.1 (by simp)
  have e1 : lV O 1 = mV S := by rw [lV_x hG hS.nf hS.l1 hHs.1 (by omega) (by simp) pl (by unfold MC; decide), hv]
  have e17 : lV O 17 = mV S := by rw [lV_x hG1 hS1.nf hS1.l17 a3 (by omega) (by simp) (by unfold plain MC; decide) (by unfold MC; decide), a4, hv]
  have m33 : ∀ i, 4 ≤ i → i ≠ 22 → i ≠ 23 → i ≠ 24 → i ≠ 15 → mI O 33 i = mI S 33 i := fun i h1 h2 h3 h4 h5 => by
    rw [b2.o i h1 h3 h4, hT2]
    simp only [mI_s, m15]
    rw [if_neg (by omega), if_neg (by omega), if_neg (by omega), a2.2 33 (by omega) (by simp)]
  have c0 : ∀ i, mI O 0 i = if i = 3 then 1 else mI S 0 i := fun i => by
    rw [b2.gx.2 0 (by have : 55 ≤ mX T2 := by rw [show mX T2 = mX S1 by rw [mX, mX, z2]]; exact hS1.nf.1
                      omega) (by simp [MC]), hT2]
    simp only [mI_s, m15]
    rw [if_neg (by omega), if_neg (by omega), a2.2 0 (by omega) (by simp)]
    simp
  have gg : ∀ a, a < 55 → a ∉ ([17, 19, 20, 21, 23] ++ (0 :: (MC ++ [48]))) → mI O a = mI S a := fun a h1 h2 => hG.2 a (by omega) h2
  have o22 : mI O 33 22 = 1 := by rw [b2.o 22 (by omega) (by omega) (by omega), hT2, mI_s, if_pos ⟨rfl, rfl⟩]
  refine ⟨O, two (g := fun T => f_X12_image T 33) (v := mV S 0 2) (S1 := sI S1 0 3 1) (S2 := O) ?_ ?_, hO, ⟨hHs.1.x hS.l1 hG.1 (by omega) (by simp), hHs.2.1.x hS.l9 hG.1 (by omega) (by simp), (a3.x hS1.l17 hG1.1 (by omega) (by simp))⟩, by rw [e1, k1], by rw [k1]; exact hb.up, Or.inr ⟨by rw [c0]; rfl, o22, by rw [e17, k2], by rw [e17]; exact hb.up⟩, ?_, ?_, ?_⟩
  · have e1' : lV S1 1 = mV S := by rw [lV_x a2 hS.nf hS.l1 hHs.1 (by omega) (by simp) (by unfold plain; decide) (by decide), hv]
    have hp : pB S1 10 0 3 1 = some (sI S1 0 3 1) := by rw [pB, if_pos (by rw [hS1.o S1 rfl]; rfl)]
    have r7 : mI (sI S1 0 3 1) 1 7 = mV S 0 2 := by rw [mI_s, if_neg (by omega), lv02 (L := 1), e1']
    simp only [f_X11_image, hS.o S rfl, if_true, hS.g2 S rfl, hS.g0 S rfl, Option.bind_some, a1, hp, hS1.g0 _ (sI_2 S1 0 3 1), hS1.l1.i _ _ (sI_2 S1 0 3 1), r7]
  · have hp : pB (m15 (sI S1 0 3 1)) 11 33 22 1 = some T2 := by rw [pB, if_pos (by rw [hM1.u.o _ rfl]; rfl), hT2]
    simp only [f_X12_image, hM1.o _ rfl, if_true, hM1.q, Option.bind_some, hp, hM2.g21 T2 rfl]
    rw [show (1 : Int32) = b2i true from rfl, b1]
    simp only [Option.bind_some]
    rw [b2.1.i O _ rfl, mv02, k1]
    rfl
  · unfold Let
    rw [m33 27 (by omega) (by omega) (by omega) (by omega) (by omega), gg 29 (by omega) (by simp [MC]), gg 30 (by omega) (by simp [MC]), gg 49 (by omega) (by simp [MC])]
    exact hl
  · unfold Row
    rw [m33 36 (by omega) (by omega) (by omega) (by omega) (by omega), gg 31 (by omega) (by simp [MC]), gg 54 (by omega) (by simp [MC]), c0]
    exact hr
  · unfold Ref
    rw [gg 32 (by omega) (by simp [MC]), gg 45 (by omega) (by simp [MC])]
    exact hf
theorem st_26 {j : Nat} {S : Mm} (hI : Inv j S) : ∃ S', ls_26 0 33 S = some S' ∧ Inv (j + 1) S' := by
  unfold ls_26
  have hS := hI.1
  have hv := hI.2.2.1
  have hH := hI.2.1.1
  obtain ⟨⟨n, hB⟩, ⟨w, w1, w2⟩, ⟨m, m1, m2⟩⟩ := hI.2.2.2.1
  have hM := hS.m
  have h6 := hB.le
  have eM := m15_mV S
  have hMk : ∀ k, ModZ (rfC S k).2 := fun k => hS.m
  have eMk : ∀ k, mV (m15 (rfC S k)) = mV S := fun k => by rw [m15_mV, rfC_mV]
  have hz : mV (m15 S) 0 0 = nI n := by rw [eM]; exact hB.sz
  have hzk : ∀ k, mV (m15 (rfC S k)) 0 0 = nI n := fun k => by rw [eMk]; exact hB.sz
  have qt : Inv (j + 1) (m15 S) := hI.qt (cs := [33]) (ws := []) (Gx.ag (Ag.m15 (by simp))) (by simp) (by unfold Fre; decide) (by decide) rfl rfl rfl hI.2.1.2.1 eM
  have ref : ∀ (k : Nat) (c : Int32), k < 7 → f_X11_restore S 0 = some (c, rfC S k) → f_X12_restore (rfC S k) 33 = some (c, rfM (m15 (rfC S k)) k) → ∃ S', ((f_X11_restore S 0).bind fun q => (f_X12_restore q.2 33).bind fun r => if q.1 = r.1 then some r.2 else none) = some S' ∧ Inv (j + 1) S' := fun k c hk h1 h2 => ⟨_, two (g := fun T => f_X12_restore T 33) h1 h2, hI.rf hk⟩
  have x55 : 55 ≤ mX S := hS.nf.1
  rcases hI.2.2.2.2.1 with ⟨i1, i2⟩ | ⟨i1, i2, i3, i4⟩
  · refine ref 3 (-3) (by omega) ?_ ?_
    · simp only [f_X11_restore, hS.o S rfl, if_true, hS.i S _ rfl, Option.bind_some, i1, (cR hS).2.2.1]
    · have k22 : mI (m15 (rfC S 3)) 33 22 = 0 := i2
      simp only [f_X12_restore, (hMk 3).o _ rfl, if_true, (hMk 3).q, Option.bind_some, (hMk 3).u.i _ _ rfl, k22, (mR' (hMk 3).u).2.2.1]
  · obtain ⟨S1, a1, a2, a3, a4, a5⟩ := X6_copyFrom (D := 1) (L := 17) (S := S) (by omega) (by omega) (by omega) hS.nf hS.l1 hS.l17 hI.2.1.2.2
    have hS1 : Sh S1.2 := hS.x a2.1 (by simp)
    have hM1 : ModZ S1.2 := hS1.m
    obtain ⟨O, b1, b2⟩ := X12_carryAll hM1.u false (K := 48) (Or.inr rfl)
    obtain ⟨k1, k2⟩ := b2.back
    have e48 : mI (m15 S1) 48 = mI S 48 := by
      rw [show mI (m15 S1) 48 = mI S1 48 from (Ag.m15 (cs := [33]) (by simp)).2 48 (by simp), a2.2 48 (by omega) (by simp)]
    rw [e48] at k1 k2
    have vO : mV O = lV S 17 := by rw [k1, i3]
    have hG1 : Gx MC [] S1 O := by
      have := ((Gx.ag (ws := []) (Ag.m15 (S := S1) (cs := [33]) (by simp))).mono (by simp +contextual [MC]) (by simp)).tr (b2.gx)
      refine ⟨this.1, fun a ha hc => ?_⟩
      by_cases h48 : a = 48
      · subst h48
        rw [k2, a2.2 48 (by omega) (by simp)]
      · exact this.2 a ha (by simp [h48]; exact hc)
    have hG : Gx ([1, 3, 4, 5, 7] ++ MC) [2] S O := (a2.mono (by simp +contextual) (by simp)).tr (hG1.mono (by simp +contextual) (by simp))
    have m33 : ∀ i, 4 ≤ i → i ≠ 23 → i ≠ 24 → i ≠ 15 → mI O 33 i = mI S 33 i := fun i h1 h3 h4 h5 => by
      rw [b2.o i h1 h3 h4, m15, mI_s, if_neg (by omega), a2.2 33 (by omega) (by simp)]
    refine ⟨O, two (g := fun T => f_X12_restore T 33) (v := lV S 17 0 2) (S1 := S1) (S2 := O) ?_ ?_, hI.gx hG (by simp) (by unfold Fre MC; decide) (m33 _ (by omega) (by omega) (by omega) (by omega)) (m33 _ (by omega) (by omega) (by omega) (by omega)) (m33 _ (by omega) (by omega) (by omega) (by omega)) (a3.x hS1.l1 hG1.1 (by omega) (by simp)) (hI.2.1.2.1.x hS.l9 hG.1 (by omega) (by simp)) ?_ (by rw [vO]; exact i4.up)⟩
    · have r7 : mI S1 1 7 = lV S 17 0 2 := by rw [lv02 (L := 1), a4]
      simp only [f_X11_restore, hS.o S rfl, if_true, hS.i S _ rfl, Option.bind_some, i1, hS.g0 S rfl, hS.g2 S rfl, a1, hS1.g0 S1 rfl, hS1.l1.i S1 _ rfl, r7]
      rfl
    · have k22 : mI (m15 S1) 33 22 = 1 := by rw [m15, mI_s, if_neg (by omega), a2.2 33 (by omega) (by simp)]; exact i2
      simp only [f_X12_restore, hM1.o _ rfl, if_true, hM1.q, Option.bind_some, hM1.u.i _ _ rfl, k22, hM1.u.g21 _ rfl]
      rw [if_neg (by decide), show (0 : Int32) = b2i false from rfl, b1]
      simp only [Option.bind_some]
      rw [b2.1.i O _ rfl, mv02, vO]
      rfl
    · rw [lV_x hG1 hS1.nf hS1.l1 a3 (by omega) (by simp) (by unfold plain MC; decide) (by unfold MC; decide), a4, vO]
