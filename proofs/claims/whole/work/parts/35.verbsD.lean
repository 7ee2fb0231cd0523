/-! a new entry in the row, a new letter -/
theorem lV_L {cs : List Nat} {S S' : Mm} {L : Nat} (hA : Ag cs S S') (hS : Sh S.2) (hHs : Hss S.2) (hL : L = 1 ∨ L = 17) (hc : ∀ c ∈ cs, c = 0 ∨ (29 ≤ c ∧ c < 55)) : lV S' L = lV S L := by
  have hH : HsZ S.2 L := by
    rcases hL with rfl | rfl
    · exact hHs.1
    · exact hHs.2.2
  refine lV_ag hA hH (fun c q => ?_)
  have := hc c q
  refine ⟨fun p => ?_, hS.nf.2 c (by omega) (by omega) (by omega) (by omega)⟩
  simp only [lcell, List.mem_cons, List.not_mem_nil, or_false] at p
  omega
theorem Inv.rowIn {j s q : Nat} {S S' : Mm} (hI : Inv j S) (hs : s < 8) (h1 : mI S 0 8 = nI s) (h2 : mI S 33 36 = nI s) (hq : q ≤ 999) (hS' : S' = sI (sI (m15 (sI (sI S 31 s (nI q)) 0 8 (nI (s + 1)))) 54 s (nI q)) 33 36 (nI (s + 1))) : Inv (j + 1) S' := by
  obtain ⟨hS, hHs, hv, hb, hi, hl, hr, hf⟩ := hI
  have hA : Ag [0, 31, 33, 54] S S' := by
    rw [hS']
    exact ((((Ag.sI (by simp)).sIt (by simp)).tr (Ag.m15 (by simp))).sIt (by simp)).sIt (by simp)
  have m33 : ∀ i, i ≠ 15 → i ≠ 36 → mI S' 33 i = mI S 33 i := fun i h h' => by rw [hS']; simp [mI_s, m15, h, h']
  have m0 : ∀ i, i ≠ 8 → mI S' 0 i = mI S 0 i := fun i h => by rw [hS']; simp [mI_s, m15, h]
  have eM : mV S' = mV S := by rw [hS', mV_o (by omega), mV_o (by omega), m15_mV, mV_o (by omega), mV_o (by omega)]
  have z : S'.2 = S.2 := hA.1
  obtain ⟨s', r1, r2, r3, r4⟩ := hr
  have es : s' = s := (nI_eq (by omega) (by omega)).mp (r2.symm.trans h1)
  subst es
  refine ⟨by rw [z]; exact hS, by rw [z]; exact hHs, ?_, by rw [eM]; exact hb.up, ?_, ?_, ?_, ?_⟩
  · rw [lV_L hA hS hHs (Or.inl rfl) (by simp), eM]; exact hv
  · unfold Img
    rw [lV_L hA hS hHs (Or.inr rfl) (by simp), m33 22 (by omega) (by omega), m0 3 (by omega), hA.2 48 (by simp)]
    exact hi.up
  · unfold Let
    rw [m33 27 (by omega) (by omega), hA.2 29 (by simp), hA.2 30 (by simp), hA.2 49 (by simp)]
    exact hl
  · refine ⟨s' + 1, by omega, by rw [hS']; simp [mI_s, m15], by rw [hS']; simp [mI_s], fun k hk => ?_⟩
    by_cases hks : k = s'
    · subst hks
      have a1 : mI S' 31 k = nI q := by rw [hS']; simp [mI_s, m15]
      have a2 : mI S' 54 k = nI q := by rw [hS']; simp [mI_s]
      exact ⟨by rw [a1, a2], q, hq, a1⟩
    · have a1 : mI S' 31 k = mI S 31 k := by rw [hS']; simp [mI_s, m15, hks]
      have a2 : mI S' 54 k = mI S 54 k := by rw [hS']; simp [mI_s, m15, hks]
      rw [a1, a2]
      exact r4 k (by omega)
  · unfold Ref
    rw [hA.2 32 (by simp), hA.2 45 (by simp)]
    exact hf
theorem Inv.letIn {j s q : Nat} {S S' : Mm} (hI : Inv j S) (hs : s < 96) (h1 : mI S 29 1 = nI s) (h2 : mI S 33 27 = nI s) (hq : q ≤ 255) (hS' : S' = sI (sI (m15 (sI (sI S 30 s (nI q)) 29 1 (nI (s + 1)))) 49 s (nI q)) 33 27 (nI (s + 1))) : Inv (j + 1) S' := by
  obtain ⟨hS, hHs, hv, hb, hi, hl, hr, hf⟩ := hI
  have hA : Ag [29, 30, 33, 49] S S' := by
    rw [hS']
    exact ((((Ag.sI (by simp)).sIt (by simp)).tr (Ag.m15 (by simp))).sIt (by simp)).sIt (by simp)
  have m33 : ∀ i, i ≠ 15 → i ≠ 27 → mI S' 33 i = mI S 33 i := fun i h h' => by rw [hS']; simp [mI_s, m15, h, h']
  have eM : mV S' = mV S := by rw [hS', mV_o (by omega), mV_o (by omega), m15_mV, mV_o (by omega), mV_o (by omega)]
  have z : S'.2 = S.2 := hA.1
  obtain ⟨s', r1, r2, r3, r4⟩ := hl
  have es : s' = s := (nI_eq (by omega) (by omega)).mp (r2.symm.trans h1)
  subst es
  refine ⟨by rw [z]; exact hS, by rw [z]; exact hHs, ?_, by rw [eM]; exact hb.up, ?_, ?_, ?_, ?_⟩
  · rw [lV_L hA hS hHs (Or.inl rfl) (by simp), eM]; exact hv
  · unfold Img
    rw [lV_L hA hS hHs (Or.inr rfl) (by simp), m33 22 (by omega) (by omega), hA.2 0 (by simp), hA.2 48 (by simp)]
    exact hi.up
  · refine ⟨s' + 1, by omega, by rw [hS']; simp [mI_s, m15], by rw [hS']; simp [mI_s], fun k hk => ?_⟩
    by_cases hks : k = s'
    · subst hks
      have a1 : mI S' 30 k = nI q := by rw [hS']; simp [mI_s, m15]
      have a2 : mI S' 49 k = nI q := by rw [hS']; simp [mI_s]
      exact ⟨by rw [a1, a2], q, hq, a1⟩
    · have a1 : mI S' 30 k = mI S 30 k := by rw [hS']; simp [mI_s, m15, hks]
      have a2 : mI S' 49 k = mI S 49 k := by rw [hS']; simp [mI_s, m15, hks]
      rw [a1, a2]
      exact r4 k (by omega)
  · unfold Row
    rw [m33 36 (by omega) (by omega), hA.2 0 (by simp), hA.2 31 (by simp), hA.2 54 (by simp)]
    exact hr
  · unfold Ref
    rw [hA.2 32 (by simp), hA.2 45 (by simp)]
    exact hf
/-! row -/
theorem st_22 {j : Nat} {S : Mm} (hI : Inv j S) (x : Int32) : ∃ S', ls_22 0 33 S x = some S' ∧ Inv (j + 1) S' := by
  unfold ls_22
  have hS := hI.1
  have hv := hI.2.2.1
  have hH := hI.2.1.1
  obtain ⟨⟨n, hB⟩, ⟨w, w1, w2⟩, ⟨m, m1, m2⟩⟩ := hI.2.2.2.1
  have hM := hS.m
  have h6 := hB.le
  have eM := m15_mV S
  have hMk : ∀ k, ModZ (rfC S k).2 := fun k => hS.m
  have eMk : ∀ k, mV (m15 (rfC S k)) = mV S := fun k => by rw [m15_mV, rfC_mV]
  have hz : mV (m15 S) 0 0 = nI n := by rw [eM]; exact hB.sz
  have hzk : ∀ k, mV (m15 (rfC S k)) 0 0 = nI n := fun k => by rw [eMk]; exact hB.sz
  have qt : Inv (j + 1) (m15 S) := hI.qt (cs := [33]) (ws := []) (Gx.ag (Ag.m15 (by simp))) (by simp) (by unfold Fre; decide) (by decide) rfl rfl rfl hI.2.1.2.1 eM
  have ref : ∀ (k : Nat) (c : Int32), k < 7 → f_X11_row S 0 x = some (c, rfC S k) → f_X12_row (rfC S k) 33 x = some (c, rfM (m15 (rfC S k)) k) → ∃ S', ((f_X11_row S 0 x).bind fun q => (f_X12_row q.2 33 x).bind fun r => if q.1 = r.1 then some r.2 else none) = some S' ∧ Inv (j + 1) S' := fun k c hk h1 h2 => ⟨_, two (g := fun T => f_X12_row T 33 x) h1 h2, hI.rf hk⟩
  obtain ⟨s, r1, r2, r3, r4⟩ := id hI.2.2.2.2.2.2.1
  have k36 : ∀ k, mI (m15 (rfC S k)) 33 36 = nI s := fun k => r3
  by_cases h0 : 0 ≤ x
  · by_cases h9 : 999 < x
    · refine ref 6 (-6) (by omega) ?_ ?_
      · simp only [f_X11_row, f_X11_row_27, hS.o S rfl, if_true, h0, h9, Option.bind_some, (cR hS).2.2.2.2]
      · simp only [f_X12_row, f_X12_row_32, (hMk 6).o _ rfl, if_true, (hMk 6).q, Option.bind_some, h0, h9, (mR' (hMk 6).u).2.2.2.2]
    · obtain ⟨q, rfl, -, q9⟩ := rngI (lo := 0) (hi := 999) h0 (Int32.not_lt.mp h9) (by omega) (by omega)
      by_cases hs : s < 8
      · have c1 : nI s < 8 := (nI_lti (b := 8) (by omega) (by omega)).mpr hs
        have c2 : ¬ nI s = 8 := fun e => by have := (nI_eq (b := 8) (by omega) (by omega)).mp e; omega
        obtain ⟨S1, hS1⟩ : ∃ S1, S1 = sI (sI S 31 s (nI q)) 0 8 (nI (s + 1)) := ⟨_, rfl⟩
        have hM1 : ModZ S1.2 := by rw [hS1]; exact hM
        have t36 : mI (m15 S1) 33 36 = nI s := by rw [hS1]; exact r3
        refine ⟨_, two (g := fun T => f_X12_row T 33 (nI q)) (v := nI (s + 1)) (S1 := S1) (S2 := sI (sI (m15 S1) 54 s (nI q)) 33 36 (nI (s + 1))) ?_ ?_, hI.rowIn hs r2 r3 q9 (by rw [hS1])⟩
        · simp only [f_X11_row, hS.o S rfl, if_true, h0, h9, if_false, Option.bind_some, hS.i, hS.p, hS.g7, sI_2, hS.a31.st, hs, r2, c1, mI_s, show ¬ ((0 : Nat) = 31 ∧ 8 = s) by omega, nI_1, and_self]
          rw [hS1]
        · simp only [f_X12_row, hM1.o _ rfl, if_true, hM1.q, Option.bind_some, h0, h9, if_false, hM1.u.i, hM1.u.p, hM1.u.g35, sI_2, hM1.u.a54.st, hs, t36, c2, mI_s, show ¬ ((33 : Nat) = 54 ∧ 36 = s) by omega, nI_1, and_self]
      · have es : s = 8 := by omega
        subst es
        refine ref 6 (-6) (by omega) ?_ ?_
        · simp only [f_X11_row, f_X11_row_27, hS.o S rfl, if_true, h0, h9, if_false, Option.bind_some, hS.i S _ rfl, r2, (cR hS).2.2.2.2]
          rfl
        · simp only [f_X12_row, f_X12_row_32, (hMk 6).o _ rfl, if_true, (hMk 6).q, Option.bind_some, h0, h9, if_false, (hMk 6).u.i _ _ rfl, k36, (mR' (hMk 6).u).2.2.2.2]
          rfl
  · refine ref 4 (-4) (by omega) ?_ ?_
    · simp only [f_X11_row, hS.o S rfl, if_true, h0, if_false, Option.bind_some, (cR hS).2.2.2.1]
    · simp only [f_X12_row, (hMk 4).o _ rfl, if_true, (hMk 4).q, Option.bind_some, h0, if_false, (mR' (hMk 4).u).2.2.2.1]
/-! feed -/
theorem st_0 {j : Nat} {S : Mm} (hI : Inv j S) (x : Int32) : ∃ S', ls_0 0 33 S x = some S' ∧ Inv (j + 1) S' := by
  unfold ls_0
  have hS := hI.1
  have hv := hI.2.2.1
  have hH := hI.2.1.1
  obtain ⟨⟨n, hB⟩, ⟨w, w1, w2⟩, ⟨m, m1, m2⟩⟩ := hI.2.2.2.1
  have hM := hS.m
  have h6 := hB.le
  have eM := m15_mV S
  have hMk : ∀ k, ModZ (rfC S k).2 := fun k => hS.m
  have eMk : ∀ k, mV (m15 (rfC S k)) = mV S := fun k => by rw [m15_mV, rfC_mV]
  have hz : mV (m15 S) 0 0 = nI n := by rw [eM]; exact hB.sz
  have hzk : ∀ k, mV (m15 (rfC S k)) 0 0 = nI n := fun k => by rw [eMk]; exact hB.sz
  have qt : Inv (j + 1) (m15 S) := hI.qt (cs := [33]) (ws := []) (Gx.ag (Ag.m15 (by simp))) (by simp) (by unfold Fre; decide) (by decide) rfl rfl rfl hI.2.1.2.1 eM
  have ref : ∀ (k : Nat) (c : Int32), k < 7 → f_X11_feed S 0 x = some (c, rfC S k) → f_X12_feed (rfC S k) 33 x = some (c, rfM (m15 (rfC S k)) k) → ∃ S', ((f_X11_feed S 0 x).bind fun q => (f_X12_feed q.2 33 x).bind fun r => if q.1 = r.1 then some r.2 else none) = some S' ∧ Inv (j + 1) S' := fun k c hk h1 h2 => ⟨_, two (g := fun T => f_X12_feed T 33 x) h1 h2, hI.rf hk⟩
  obtain ⟨s, r1, r2, r3, r4⟩ := id hI.2.2.2.2.2.1
  have k27 : ∀ k, mI (m15 (rfC S k)) 33 27 = nI s := fun k => r3
  by_cases h0 : 0 ≤ x
  · by_cases h9 : 255 < x
    · refine ref 6 (-6) (by omega) ?_ ?_
      · simp only [f_X11_feed, f_X11_feed_28, hS.o S rfl, if_true, h0, h9, Option.bind_some, (cR hS).2.2.2.2]
      · simp only [f_X12_feed, f_X12_feed_32, (hMk 6).o _ rfl, if_true, (hMk 6).q, Option.bind_some, h0, h9, (mR' (hMk 6).u).2.2.2.2]
    · obtain ⟨q, rfl, -, q9⟩ := rngI (lo := 0) (hi := 255) h0 (Int32.not_lt.mp h9) (by omega) (by omega)
      by_cases hs : s < 96
      · have c1 : nI s < 96 := (nI_lti (b := 96) (by omega) (by omega)).mpr hs
        have c2 : ¬ nI s = 96 := fun e => by have := (nI_eq (b := 96) (by omega) (by omega)).mp e; omega
        obtain ⟨S1, hS1⟩ : ∃ S1, S1 = sI (sI S 30 s (nI q)) 29 1 (nI (s + 1)) := ⟨_, rfl⟩
        have hM1 : ModZ S1.2 := by rw [hS1]; exact hM
        have t27 : mI (m15 S1) 33 27 = nI s := by rw [hS1]; exact r3
        refine ⟨_, two (g := fun T => f_X12_feed T 33 (nI q)) (v := nI (s + 1)) (S1 := S1) (S2 := sI (sI (m15 S1) 49 s (nI q)) 33 27 (nI (s + 1))) ?_ ?_, hI.letIn hs r2 r3 q9 (by rw [hS1])⟩
        · simp only [f_X11_feed, f_X7_isFull, f_X7_isFull_14, f_X7_add, f_X7_add_27, hS.o S rfl, if_true, h0, h9, if_false, Option.bind_some, hS.o29.ok, hS.o29.gI, hS.o29.pI, hS.g6, hS.gl, sI_2, hS.a30.st, hs, r2, c1, rB_0, mI_s, show ¬ ((29 : Nat) = 30 ∧ 1 = s) by omega, nI_1, and_self]
          rw [hS1]
        · simp only [f_X12_feed, hM1.o _ rfl, if_true, hM1.q, Option.bind_some, h0, h9, if_false, hM1.u.i, hM1.u.p, hM1.u.g26, sI_2, hM1.u.a49.st, hs, t27, c2, mI_s, show ¬ ((33 : Nat) = 49 ∧ 27 = s) by omega, nI_1, and_self]
      · have es : s = 96 := by omega
        subst es
        refine ref 6 (-6) (by omega) ?_ ?_
        · simp only [f_X11_feed, f_X11_feed_28, f_X7_isFull, f_X7_isFull_14, hS.o S rfl, if_true, h0, h9, if_false, Option.bind_some, hS.o29.ok S rfl, hS.o29.gI S _ rfl, hS.g6 S rfl, r2, rB_0, rB_1]
          rw [if_neg (by decide)]
          simp only [Option.bind_some]
          rw [if_neg (by decide), (cR hS).2.2.2.2]
          rfl
        · simp only [f_X12_feed, f_X12_feed_32, (hMk 6).o _ rfl, if_true, (hMk 6).q, Option.bind_some, h0, h9, if_false, (hMk 6).u.i _ _ rfl, k27, (mR' (hMk 6).u).2.2.2.2]
          rfl
  · refine ref 4 (-4) (by omega) ?_ ?_
    · simp only [f_X11_feed, hS.o S rfl, if_true, h0, if_false, Option.bind_some, (cR hS).2.2.2.1]
    · simp only [f_X12_feed, (hMk 4).o _ rfl, if_true, (hMk 4).q, Option.bind_some, h0, if_false, (mR' (hMk 4).u).2.2.2.1]
