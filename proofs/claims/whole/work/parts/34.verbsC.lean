/-! owe -/
theorem st_10 {j : Nat} {S : Mm} (hI : Inv j S) (x y z : Int32) : ∃ S', ls_10 0 33 S x y z = some S' ∧ Inv (j + 1) S' := by
  unfold ls_10
  have hS := hI.1
  have hv := hI.2.2.1
  have hH := hI.2.1.1
  obtain ⟨⟨n, hB⟩, ⟨w, w1, w2⟩, ⟨m, m1, m2⟩⟩ := hI.2.2.2.1
  have hM := hS.m
  have h6 := hB.le
  have eM := m15_mV S
  have hMk : ∀ k, ModZ (rfC S k).2 := fun k => hS.m
  have eMk : ∀ k, mV (m15 (rfC S k)) = mV S := fun k => by rw [m15_mV, rfC_mV]
  have hz : mV (m15 S) 0 0 = nI n := by rw [eM]; exact hB.sz
  have hzk : ∀ k, mV (m15 (rfC S k)) 0 0 = nI n := fun k => by rw [eMk]; exact hB.sz
  have qt : Inv (j + 1) (m15 S) := hI.qt (cs := [33]) (ws := []) (Gx.ag (Ag.m15 (by simp))) (by simp) (by unfold Fre; decide) (by decide) rfl rfl rfl hI.2.1.2.1 eM
  have ref : ∀ (k : Nat) (c : Int32), k < 7 → f_X11_owe S 0 x y z = some (c, rfC S k) → f_X12_owe (rfC S k) 33 x y z = some (c, rfM (m15 (rfC S k)) k) → ∃ S', ((f_X11_owe S 0 x y z).bind fun q => (f_X12_owe q.2 33 x y z).bind fun r => if q.1 = r.1 then some r.2 else none) = some S' ∧ Inv (j + 1) S' := fun k c hk h1 h2 => ⟨_, two (g := fun T => f_X12_owe T 33 x y z) h1 h2, hI.rf hk⟩
  by_cases hh : twoV (mV S) x y = true
  · obtain ⟨a, b, a1, b1, hab, rfl, rfl⟩ := twoV_n hB.sz hB.le hh
    have hk : 6 * a + b < 36 := by omega
    by_cases h0 : 0 ≤ z
    · by_cases h9 : z ≤ 99
      · obtain ⟨q, rfl, -, q9⟩ := rngI (lo := 0) (hi := 99) h0 h9 (by omega) (by omega)
        have hM1 : ModZ (sI S 7 (6 * a + b) (nI q)).2 := hS.m
        have eM1 : mV (m15 (sI S 7 (6 * a + b) (nI q))) = mV S := by rw [m15_mV, mV_o (by omega)]
        have hz1 : mV (m15 (sI S 7 (6 * a + b) (nI q))) 0 0 = nI n := by rw [eM1]; exact hB.sz
        refine ⟨_, two (g := fun T => f_X12_owe T 33 (nI a) (nI b) (nI q)) (v := mV S 10 (6 * a + b)) (S1 := sI S 7 (6 * a + b) (nI q)) (S2 := sI (m15 (sI S 7 (6 * a + b) (nI q))) 43 (6 * a + b) (nI q)) ?_ ?_, hI.ed (cs := [7]) (ds := [33, 43]) (js := [15]) (Ag.sI (by simp)) ((Ag.m15 (by simp)).sIt (by simp)) ((O33.m15 (by simp)).tr (O33.sI (by simp))) (by unfold Fre; decide) (by simp) (by simp) (by simp) (ls10 (L := 1) hS.l1 hH hk) (V := u2 (lV S 1) 10 (6 * a + b) (nI q)) (by rw [ms10 hk, eM1, hv]) ?_⟩
        · simp only [f_X11_owe, f_X1_from, f_X1_put, hS.o S rfl, if_true, hS.g0 S rfl, X6_areTwo hS.l1, hv, hh, b2i_t, Option.bind_some, h0, h9, hS.l1.g5 S rfl, hS.l1.O5.ok S rfl, hS.l1.g50 S rfl, ix6, hS.l1.A6.ld S _ rfl hk, hS.l1.A6.st S _ _ rfl hk, lv10 (L := 1) hk]
          rfl
        · simp only [f_X12_owe, f_X12_owe_39, f_X12_debt, hM1.o _ rfl, if_true, hM1.q, Option.bind_some, X12_areTwo hM1.u hz1 h6, eM1, hh, b2i_t, h0, h9, hM1.u.o _ rfl, hM1.u.g13 _ rfl, ix6', hM1.u.a43.ld _ _ rfl hk, hM1.u.a43.st _ _ _ rfl hk, mv10 hk]
          rfl
        · rw [hv]
          exact ⟨⟨n, hB.u10 a1 b1 q9⟩, ⟨w, by omega, w2⟩, m, by omega, m2⟩
      · refine ref 6 (-6) (by omega) ?_ ?_
        · simp only [f_X11_owe, hS.o S rfl, if_true, hS.g0 S rfl, X6_areTwo hS.l1, hv, hh, b2i_t, Option.bind_some, h0, h9, (cR hS).2.2.2.2]
          rfl
        · simp only [f_X12_owe, f_X12_owe_39, (hMk 6).o _ rfl, if_true, (hMk 6).q, Option.bind_some, X12_areTwo (hMk 6).u (hzk 6) h6, eMk, hh, b2i_t, h0, h9, (mR' (hMk 6).u).2.2.2.2]
          rfl
    · refine ref 4 (-4) (by omega) ?_ ?_
      · simp only [f_X11_owe, hS.o S rfl, if_true, hS.g0 S rfl, X6_areTwo hS.l1, hv, hh, b2i_t, Option.bind_some, h0, (cR hS).2.2.2.1]
        rfl
      · simp only [f_X12_owe, f_X12_owe_39, (hMk 4).o _ rfl, if_true, (hMk 4).q, Option.bind_some, X12_areTwo (hMk 4).u (hzk 4) h6, eMk, hh, b2i_t, h0, (mR' (hMk 4).u).2.2.2.1]
        rfl
  · rw [Bool.not_eq_true] at hh
    refine ref 1 (-1) (by omega) ?_ ?_
    · simp only [f_X11_owe, hS.o S rfl, if_true, hS.g0 S rfl, X6_areTwo hS.l1, hv, hh, b2i_f, Option.bind_some, (cR hS).1]
    · simp only [f_X12_owe, f_X12_owe_39, (hMk 1).o _ rfl, if_true, (hMk 1).q, Option.bind_some, X12_areTwo (hMk 1).u (hzk 1) h6, eMk, hh, b2i_f, (mR' (hMk 1).u).1]
      rfl
/-! mule -/
theorem st_9 {j : Nat} {S : Mm} (hI : Inv j S) (x y z : Int32) : ∃ S', ls_9 0 33 S x y z = some S' ∧ Inv (j + 1) S' := by
  unfold ls_9
  have hS := hI.1
  have hv := hI.2.2.1
  have hH := hI.2.1.1
  obtain ⟨⟨n, hB⟩, ⟨w, w1, w2⟩, ⟨m, m1, m2⟩⟩ := hI.2.2.2.1
  have hM := hS.m
  have h6 := hB.le
  have eM := m15_mV S
  have hMk : ∀ k, ModZ (rfC S k).2 := fun k => hS.m
  have eMk : ∀ k, mV (m15 (rfC S k)) = mV S := fun k => by rw [m15_mV, rfC_mV]
  have hz : mV (m15 S) 0 0 = nI n := by rw [eM]; exact hB.sz
  have hzk : ∀ k, mV (m15 (rfC S k)) 0 0 = nI n := fun k => by rw [eMk]; exact hB.sz
  have qt : Inv (j + 1) (m15 S) := hI.qt (cs := [33]) (ws := []) (Gx.ag (Ag.m15 (by simp))) (by simp) (by unfold Fre; decide) (by decide) rfl rfl rfl hI.2.1.2.1 eM
  have ref : ∀ (k : Nat) (c : Int32), k < 7 → f_X11_mule S 0 x y z = some (c, rfC S k) → f_X12_mule (rfC S k) 33 x y z = some (c, rfM (m15 (rfC S k)) k) → ∃ S', ((f_X11_mule S 0 x y z).bind fun q => (f_X12_mule q.2 33 x y z).bind fun r => if q.1 = r.1 then some r.2 else none) = some S' ∧ Inv (j + 1) S' := fun k c hk h1 h2 => ⟨_, two (g := fun T => f_X12_mule T 33 x y z) h1 h2, hI.rf hk⟩
  by_cases hh : twoV (mV S) x y = true
  · obtain ⟨a, b, a1, b1, hab, rfl, rfl⟩ := twoV_n hB.sz hB.le hh
    have ha : a < 6 := by omega
    have hb : b < 6 := by omega
    obtain ⟨ca, l3, e3⟩ := hB.r8 a ha
    obtain ⟨cb, l4, e4⟩ := hB.r8 b hb
    have ra : mI S (1 + 2) a = nI ca := by rw [lv8 (L := 1) ha, hv]; exact e3
    have rb : mI S (1 + 2) b = nI cb := by rw [lv8 (L := 1) hb, hv]; exact e4
    have rw7 : mI S 1 7 = nI w := by rw [lv02 (L := 1), hv]; exact w2
    have rm : mI S 1 8 = nI m := by rw [lv03 (L := 1), hv]; exact m2
    have k2 : ∀ k, mI (m15 (rfC S k)) 33 2 = nI w := fun k => by rw [mv02, eMk]; exact w2
    have k3 : ∀ k, mI (m15 (rfC S k)) 33 3 = nI m := fun k => by rw [mv03, eMk]; exact m2
    have ka : ∀ k, mI (m15 (rfC S k)) 41 a = nI ca := fun k => by rw [mv8 ha, eMk]; exact e3
    have kb : ∀ k, mI (m15 (rfC S k)) 41 b = nI cb := fun k => by rw [mv8 hb, eMk]; exact e4
    by_cases h1 : 1 ≤ z
    · by_cases hw : nI m ≤ nI w
      · by_cases hca : nI ca < z
        · refine ref 6 (-6) (by omega) ?_ ?_
          · simp only [f_X11_mule, f_X11_mule_84, hS.o S rfl, if_true, hS.g0 S rfl, X6_areTwo hS.l1, hv, hh, b2i_t, Option.bind_some, h1, hS.l1.i S _ rfl, rw7, rm, hw, hS.l1.g2 S rfl, hS.l1.A2.ld S _ rfl ha, hS.l1.A2.ld S _ rfl hb, ra, rb, hca, (cR hS).2.2.2.2]
            rfl
          · simp only [f_X12_mule, f_X12_mule_45, f_X12_mule_76, f_X12_mule_80, (hMk 6).o _ rfl, if_true, (hMk 6).q, Option.bind_some, X12_areTwo (hMk 6).u (hzk 6) h6, eMk, hh, b2i_t, h1, (hMk 6).u.i _ _ rfl, k2, k3, hw, (hMk 6).u.g11 _ rfl, (hMk 6).u.a41.ld _ _ rfl ha, (hMk 6).u.a41.ld _ _ rfl hb, ka, kb, hca, (mR' (hMk 6).u).2.2.2.2]
            rfl
        · by_cases hcb : nI cb + z ≤ 9999
          · have hle : z ≤ nI ca := Int32.not_lt.mp hca
            obtain ⟨q, rfl, q1, q9⟩ := rngI (lo := 1) (hi := ca) h1 hle (by omega) (by omega)
            have hcb' : cb + q ≤ 9999 := by
              rw [nI_add] at hcb
              exact (nI_lei (b := 9999) (by omega) (by omega)).mp hcb
            have es : nI ca - nI q = nI (ca - q) := pk_sub q9
            have r1 : mI (sI S (1 + 2) a (nI ca - nI q)) (1 + 2) b = nI cb := by rw [mI_s, if_neg (by omega)]; exact rb
            have r2 : mI (sI (sI S (1 + 2) a (nI ca - nI q)) (1 + 2) b (nI cb + nI q)) 1 7 = nI w := by rw [mI_s, if_neg (by omega), mI_s, if_neg (by omega)]; exact rw7
            have hA1 : Ag [1, 3] S (sI (sI (sI S (1 + 2) a (nI ca - nI q)) (1 + 2) b (nI cb + nI q)) 1 8 (nI w + 52)) := ((Ag.sI (by simp)).sIt (by simp)).sIt (by simp)
            obtain ⟨S1, hS1⟩ : ∃ S1, S1 = sI (sI (sI S (1 + 2) a (nI ca - nI q)) (1 + 2) b (nI cb + nI q)) 1 8 (nI w + 52) := ⟨_, rfl⟩
            rw [← hS1] at hA1
            have z1 : S1.2 = S.2 := hA1.1
            have hM1 : ModZ S1.2 := by rw [z1]; exact hM
            have eM1 : mV (m15 S1) = mV S := by rw [m15_mV]; exact mV_ag hA1 (by simp)
            have hz1 : mV (m15 S1) 0 0 = nI n := by rw [eM1]; exact hB.sz
            have j2 : mI (m15 S1) 33 2 = nI w := by rw [mv02, eM1]; exact w2
            have j3 : mI (m15 S1) 33 3 = nI m := by rw [mv03, eM1]; exact m2
            have ja : mI (m15 S1) 41 a = nI ca := by rw [mv8 ha, eM1]; exact e3
            have jb : mI (m15 S1) 41 b = nI cb := by rw [mv8 hb, eM1]; exact e4
            have jc : mI (sI (m15 S1) 41 a (nI ca - nI q)) 41 b = nI cb := by rw [mI_s, if_neg (by omega)]; exact jb
            have jd : mI (sI (sI (m15 S1) 41 a (nI ca - nI q)) 41 b (nI cb + nI q)) 33 2 = nI w := by rw [mI_s, if_neg (by omega), mI_s, if_neg (by omega)]; exact j2
            refine ⟨_, two (g := fun T => f_X12_mule T 33 (nI a) (nI b) (nI q)) (v := nI w + 52) (S1 := S1) (S2 := sI (sI (sI (m15 S1) 41 a (nI ca - nI q)) 41 b (nI cb + nI q)) 33 3 (nI w + 52)) ?_ ?_, hI.ed (cs := [1, 3]) (ds := [33, 41]) (js := [15, 3]) hA1 ((((Ag.m15 (by simp)).sIt (by simp)).sIt (by simp)).sIt (by simp)) ((((O33.m15 (by simp)).tr (O33.sI (by simp))).tr (O33.sI (by simp))).tr (O33.sI (by simp))) (by unfold Fre; decide) (by simp) (by simp) (by simp) (V := u2 (u2 (u2 (mV S) 8 a (nI ca - nI q)) 8 b (nI cb + nI q)) 0 3 (nI w + 52)) ?_ ?_ ?_⟩
            · simp only [f_X11_mule, hS.o S rfl, if_true, hS.g0, sI_2, X6_areTwo hS.l1, hv, hh, b2i_t, Option.bind_some, h1, hS.l1.i, hS.l1.p, hS.l1.g2, hS.l1.A2.ld, hS.l1.A2.st, ha, hb, ra, rb, rw7, rm, hw, hca, hcb, r1, r2, if_false]
              rw [if_neg (by decide), hS1, mI_s, if_pos ⟨rfl, rfl⟩]
            · simp only [f_X12_mule, f_X12_mule_45, f_X12_mule_76, f_X12_mule_80, hM1.o _ rfl, if_true, hM1.q, Option.bind_some, X12_areTwo hM1.u hz1 h6, eM1, hh, b2i_t, h1, hM1.u.i, hM1.u.p, hM1.u.g11, hM1.u.a41.ld, hM1.u.a41.st, sI_2, ha, hb, j2, j3, ja, jb, jc, jd, hw, hca, hcb, if_false]
              rw [if_neg (by decide), if_pos (by decide), mI_s, if_pos ⟨rfl, rfl⟩]
            · rw [hS1, ls0 (S := sI (sI S (1 + 2) a (nI ca - nI q)) (1 + 2) b (nI cb + nI q)) (j := 8) (k0 := 3) hS.l1 hH (by omega) rfl, ls8 (S := sI S (1 + 2) a (nI ca - nI q)) (L := 1) hS.l1 hH hb, ls8 (L := 1) hS.l1 hH ha, hv]
            · rw [ms0 (by omega), ms8 hb, ms8 ha, eM1]
            · rw [es, nI_add, show nI w + 52 = nI (w + 52) from nI_add w 52]
              exact ⟨⟨n, ((hB.u8 a1 (by omega)).u8 b1 (by omega)).u0 (by omega)⟩, ⟨w, by omega, w2⟩, w + 52, by omega, rfl⟩
          · refine ref 6 (-6) (by omega) ?_ ?_
            · simp only [f_X11_mule, f_X11_mule_84, hS.o S rfl, if_true, hS.g0 S rfl, X6_areTwo hS.l1, hv, hh, b2i_t, Option.bind_some, h1, hS.l1.i S _ rfl, rw7, rm, hw, hS.l1.g2 S rfl, hS.l1.A2.ld S _ rfl ha, hS.l1.A2.ld S _ rfl hb, ra, rb, hca, hcb, if_false, (cR hS).2.2.2.2]
              rfl
            · simp only [f_X12_mule, f_X12_mule_45, f_X12_mule_76, f_X12_mule_80, (hMk 6).o _ rfl, if_true, (hMk 6).q, Option.bind_some, X12_areTwo (hMk 6).u (hzk 6) h6, eMk, hh, b2i_t, h1, (hMk 6).u.i _ _ rfl, k2, k3, hw, (hMk 6).u.g11 _ rfl, (hMk 6).u.a41.ld _ _ rfl ha, (hMk 6).u.a41.ld _ _ rfl hb, ka, kb, hca, hcb, if_false, (mR' (hMk 6).u).2.2.2.2]
              rfl
      · refine ref 3 (-3) (by omega) ?_ ?_
        · simp only [f_X11_mule, f_X11_mule_84, hS.o S rfl, if_true, hS.g0 S rfl, X6_areTwo hS.l1, hv, hh, b2i_t, Option.bind_some, h1, hS.l1.i S _ rfl, rw7, rm, hw, (cR hS).2.2.1]
          rfl
        · simp only [f_X12_mule, f_X12_mule_45, f_X12_mule_76, f_X12_mule_80, (hMk 3).o _ rfl, if_true, (hMk 3).q, Option.bind_some, X12_areTwo (hMk 3).u (hzk 3) h6, eMk, hh, b2i_t, h1, (hMk 3).u.i _ _ rfl, k2, k3, hw, (mR' (hMk 3).u).2.2.1]
          rfl
    · refine ref 4 (-4) (by omega) ?_ ?_
      · simp only [f_X11_mule, f_X11_mule_84, hS.o S rfl, if_true, hS.g0 S rfl, X6_areTwo hS.l1, hv, hh, b2i_t, Option.bind_some, h1, (cR hS).2.2.2.1]
        rfl
      · simp only [f_X12_mule, f_X12_mule_45, f_X12_mule_76, f_X12_mule_80, (hMk 4).o _ rfl, if_true, (hMk 4).q, Option.bind_some, X12_areTwo (hMk 4).u (hzk 4) h6, eMk, hh, b2i_t, h1, (mR' (hMk 4).u).2.2.2.1]
        rfl
  · rw [Bool.not_eq_true] at hh
    refine ref 1 (-1) (by omega) ?_ ?_
    · simp only [f_X11_mule, hS.o S rfl, if_true, hS.g0 S rfl, X6_areTwo hS.l1, hv, hh, b2i_f, Option.bind_some, (cR hS).1]
    · simp only [f_X12_mule, f_X12_mule_45, f_X12_mule_76, f_X12_mule_80, (hMk 1).o _ rfl, if_true, (hMk 1).q, Option.bind_some, X12_areTwo (hMk 1).u (hzk 1) h6, eMk, hh, b2i_f, (mR' (hMk 1).u).1]
      rfl
