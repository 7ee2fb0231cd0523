/-! what the use counts -/
theorem useS_t : ∀ (c h : Nat) (V : Vw) (s s' : Nat → Int32) (t k k' : Int32), (useS c h (V, s, t, k)).2.2.1 = t + (useS c h (V, s', 0, k')).2.2.1
  | 0, _, _, _, _, t, _, _ => (Int32.add_zero t).symm
  | c + 1, h, V, s, s', t, k, k' => by
    show (useS c (h + 1) (use1 V h, upd s h (s h + usd V h), t + usd V h, k + (V 7 h - usd V h))).2.2.1 = t + (useS c (h + 1) (use1 V h, upd s' h (s' h + usd V h), 0 + usd V h, k' + (V 7 h - usd V h))).2.2.1
    rw [useS_t c (h + 1) (use1 V h) _ s' (t + usd V h) _ k', useS_t c (h + 1) (use1 V h) (upd s' h (s' h + usd V h)) s' (0 + usd V h) (k' + (V 7 h - usd V h)) k', Int32.zero_add, Int32.add_assoc]
theorem useS_s : ∀ (c h : Nat) (V : Vw) (s s' : Nat → Int32) (t t' k k' : Int32), (∀ i, i < 6 → s i = s' i) → ∀ i, i < 6 → (useS c h (V, s, t, k)).2.1 i = (useS c h (V, s', t', k')).2.1 i
  | 0, _, _, _, _, _, _, _, _, hs, i, hi => hs i hi
  | c + 1, h, V, s, s', t, t', k, k', hs, i, hi => by
    refine useS_s c (h + 1) (use1 V h) _ _ _ _ _ _ (fun i hi => ?_) i hi
    show upd s h (s h + usd V h) i = upd s' h (s' h + usd V h) i
    unfold upd
    split
    · next e => rw [hs h (by omega)]
    · exact hs i hi
theorem useS_k : ∀ (c h : Nat) (V : Vw) (s s' : Nat → Int32) (t t' k : Int32), (useS c h (V, s, t, k)).2.2.2 = (useS c h (V, s', t', k)).2.2.2
  | 0, _, _, _, _, _, _, _ => rfl
  | c + 1, h, V, s, s', t, t', k => useS_k c (h + 1) (use1 V h) _ _ _ _ _
theorem weekU_t {n : Nat} {V : Vw} {s s' : Nat → Int32} {t : Int32} : (weekU n V s t).2.2.1 = t + (weekU n V s' 0).2.2.1 := useS_t _ _ _ _ _ _ _ _
theorem weekU_t0 {n : Nat} {V : Vw} {s s' : Nat → Int32} : (weekU n V s 0).2.2.1 = (weekU n V s' 0).2.2.1 := by rw [weekU_t (s' := s'), Int32.zero_add]
theorem weekU_s {n : Nat} {V : Vw} {s s' : Nat → Int32} {t t' : Int32} (hs : ∀ i, i < 6 → s i = s' i) : ∀ i, i < 6 → (weekU n V s t).2.1 i = (weekU n V s' t').2.1 i := useS_s _ _ _ _ _ _ _ _ _ hs
theorem weekU_k {n : Nat} {V : Vw} {s s' : Nat → Int32} {t t' : Int32} : (weekU n V s t).2.2.2 = (weekU n V s' t').2.2.2 := useS_k _ _ _ _ _ _ _ _
theorem weekV_o {n k : Nat} {V : Vw} (hB : Bd V n) (hk : k ≠ 2) : weekV n V 0 k = V 0 k := by
  rw [weekV, u2_ne (by omega)]
  exact (weekU_ok hB).2 0 k (by omega) (by omega)
theorem weekV_2 {n : Nat} {V : Vw} (hB : Bd V n) : weekV n V 0 2 = V 0 2 + 1 := by
  rw [weekV, u2_eq, (weekU_ok hB).2 0 2 (by omega) (by omega)]
theorem weekV_r {n r k : Nat} {V : Vw} (hB : Bd V n) (h0 : r ≠ 0) (h8 : r ≠ 8) (h9 : r ≠ 9) : weekV n V r k = V r k := by
  rw [weekV, u2_ne (by omega)]
  exact (weekU_ok hB).2 r k h8 h9
/-! week -/
theorem st_8 {j : Nat} {S : Mm} (hI : Inv j S) (hj : j < 512) : ∃ S', ls_8 0 33 S = some S' ∧ Inv (j + 1) S' := by
  unfold ls_8
  have hS := hI.1
  have hv := hI.2.2.1
  have hH := hI.2.1.1
  obtain ⟨⟨n, hB⟩, ⟨w, w1, w2⟩, ⟨m, m1, m2⟩⟩ := hI.2.2.2.1
  have hM := hS.m
  have h6 := hB.le
  have eM := m15_mV S
  have hMk : ∀ k, ModZ (rfC S k).2 := fun k => hS.m
  have eMk : ∀ k, mV (m15 (rfC S k)) = mV S := fun k => by rw [m15_mV, rfC_mV]
  have hz : mV (m15 S) 0 0 = nI n := by rw [eM]; exact hB.sz
  have hzk : ∀ k, mV (m15 (rfC S k)) 0 0 = nI n := fun k => by rw [eMk]; exact hB.sz
  have qt : Inv (j + 1) (m15 S) := hI.qt (cs := [33]) (ws := []) (Gx.ag (Ag.m15 (by simp))) (by simp) (by unfold Fre; decide) (by decide) rfl rfl rfl hI.2.1.2.1 eM
  have ref : ∀ (k : Nat) (c : Int32), k < 7 → f_X11_week S 0 = some (c, rfC S k) → f_X12_week (rfC S k) 33 = some (c, rfM (m15 (rfC S k)) k) → ∃ S', ((f_X11_week S 0).bind fun q => (f_X12_week q.2 33).bind fun r => if q.1 = r.1 then some r.2 else none) = some S' ∧ Inv (j + 1) S' := fun k c hk h1 h2 => ⟨_, two (g := fun T => f_X12_week T 33) h1 h2, hI.rf hk⟩
  have c1 : nI w < 9999 := (nI_lti (b := 9999) (by omega) (by omega)).mpr (by omega)
  have c2 : ¬ nI w = 9999 := fun e => by have := (nI_eq (b := 9999) (by omega) (by omega)).mp e; omega
  obtain ⟨S1, a1, a2, a3, a4, -⟩ := X9_clear hS.t25
  have z1 : S1.2 = S.2 := a2.1
  have hS1 : Sh S1.2 := by rw [z1]; exact hS
  have hv1 : lV S1 1 = mV S := by
    rw [lV_ag a2 hH (fun c hc => ?_), hv]
    simp only [List.mem_cons, List.not_mem_nil, or_false] at hc
    rcases hc with rfl | rfl
    · exact ⟨by simp [lcell], hS.nf.2 25 (by omega) (by omega) (by omega) (by omega)⟩
    · exact ⟨by simp [lcell], hS.nf.2 26 (by omega) (by omega) (by omega) (by omega)⟩
  obtain ⟨S2, b1, b2, b3, b4, b5, -⟩ := X6_passWeek (L := 1) (Q := 25) (n := n) (by unfold apartQ; omega) hS1.l1 (by rw [z1]; exact hH) hS1.t25 (by rw [hv1]; exact hB)
  rw [hv1] at b3 b4 b5
  rw [a4] at b5
  have z2 : S2.2 = S.2 := b2.1.trans z1
  have hS2 : Sh S2.2 := by rw [z2]; exact hS
  have hAc : Ag [1, 3, 4, 25, 26] S S2 := (a2.mono (by simp +contextual)).tr (b2.mono (by simp +contextual))
  have hM2 : ModZ S2.2 := hS2.m
  have eM2 : mV (m15 S2) = mV S := by rw [m15_mV]; exact mV_ag hAc (by simp)
  obtain ⟨S3, d1, d2, d3, d4, d5, d6⟩ := X12_weekOn hM2.u (n := n) (by rw [eM2]; exact hB)
  rw [eM2] at d1 d4
  refine ⟨_, two (g := fun T => f_X12_week T 33) (v := (weekU n (mV S) (mI (m15 S2) 46) 0).2.2.1) (S1 := S2) (S2 := S3) ?_ ?_, hI.ed (cs := [1, 3, 4, 25, 26]) (ds := [33, 41, 42, 46]) (js := [15, 2, 17]) hAc ((Ag.m15 (by simp)).tr d2) ((O33.m15 (by simp)).tr (d3.mono (by simp))) (by unfold Fre; decide) (by simp) (by simp) (by simp) b3 d4 ⟨⟨n, weekV_ok hB⟩, ⟨w + 1, by omega, by rw [weekV_2 hB, w2]; exact nI_1 w⟩, m, by omega, by rw [weekV_o hB (by omega)]; exact m2⟩⟩
  · have r7 : mI S 1 7 = nI w := by rw [lv02 (L := 1), hv]; exact w2
    simp only [f_X11_week, hS.o S rfl, if_true, hS.g0 S rfl, hS.l1.i S _ rfl, r7, c1, Option.bind_some, hS.g4 S rfl, a1, hS1.g0 S1 rfl, hS1.g4 S1 rfl, b1, hS2.g4 S2 rfl, hS2.t25.1.gI S2 _ rfl, b5]
    rw [weekU_t0 (s' := mI (m15 S2) 46)]
  · have r2 : mI (m15 S2) 33 2 = nI w := by rw [mv02, eM2]; exact w2
    simp only [f_X12_week, f_X12_week_28, hM2.o _ rfl, if_true, hM2.q, Option.bind_some, hM2.u.i _ _ rfl, r2, c2, if_false, d1]
