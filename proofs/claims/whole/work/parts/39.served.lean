/-! served -/
theorem X12_mind2 {n l l' : Nat} {T : Mm} (hl : l < 2000) (hl' : l' < 2000) (hM : ModZ T.2) (hB : Bd (mV T) n) : ∃ O1 O2 O3 O4, f_X12_open T 33 = some O1 ∧ f_X12_servedIn O1 33 (nI l) = some (runT n l (mV T) 0, O2) ∧ f_X12_servedIn O2 33 (nI l') = some (runT n l' (runV n l (mV T)) 0, O3) ∧ f_X12_close O3 33 = some O4 ∧ Mf T O4 ∧ mV O4 = mV T ∧ ModZ O4.2 := by
  obtain ⟨O1, a1, a2, a3, a4, a5, a6⟩ := X12_open hM
  obtain ⟨O2, b1, b2, b3, b4, b5⟩ := X12_servedIn (l := l) hl a2 (by rw [a4]; exact hB)
  have hM2 : ModZ O2.2 := by rw [b2.1]; exact a2
  rw [a4] at b1 b4 b5
  obtain ⟨O3, d1, d2, d3, d4, d5⟩ := X12_servedIn (l := l') hl' hM2 (by rw [b4]; exact runV_ok l _ hB)
  have hM3 : ModZ O3.2 := by rw [d2.1]; exact hM2
  rw [b4] at d1
  obtain ⟨O4, c1, c2, c3, c4, -⟩ := X12_close hM3
  exact ⟨O1, O2, O3, O4, a1, b1, d1, c1, ((a3.tr (Mf.sv b2 b3)).tr (Mf.sv d2 d3)).tr c3, by rw [c4, d2.2 47 (by simp), b2.2 47 (by simp), a5], c2⟩
set_option maxRecDepth 100000 in
theorem st_13 {j : Nat} {S : Mm} (hI : Inv j S) (x y : Int32) : ∃ S', ls_13 0 33 S x y = some S' ∧ Inv (j + 1) S' := by
  unfold ls_13
  have hS := hI.1
  have hv := hI.2.2.1
  have hH := hI.2.1.1
  obtain ⟨⟨n, hB⟩, ⟨w, w1, w2⟩, ⟨m, m1, m2⟩⟩ := hI.2.2.2.1
  have hM := hS.m
  have h6 := hB.le
  have eM := m15_mV S
  have hMk : ∀ k, ModZ (rfC S k).2 := fun k => hS.m
  have eMk : ∀ k, mV (m15 (rfC S k)) = mV S := fun k => by rw [m15_mV, rfC_mV]
  have hz : mV (m15 S) 0 0 = nI n := by rw [eM]; exact hB.sz
  have hzk : ∀ k, mV (m15 (rfC S k)) 0 0 = nI n := fun k => by rw [eMk]; exact hB.sz
  have qt : Inv (j + 1) (m15 S) := hI.qt (cs := [33]) (ws := []) (Gx.ag (Ag.m15 (by simp))) (by simp) (by unfold Fre; decide) (by decide) rfl rfl rfl hI.2.1.2.1 eM
  have ref : ∀ (k : Nat) (c : Int32), k < 7 → f_X11_served S 0 x y = some (c, rfC S k) → f_X12_served (rfC S k) 33 x y = some (c, rfM (m15 (rfC S k)) k) → ∃ S', ((f_X11_served S 0 x y).bind fun q => (f_X12_served q.2 33 x y).bind fun r => if q.1 = r.1 then some r.2 else none) = some S' ∧ Inv (j + 1) S' := fun k c hk h1 h2 => ⟨_, two (g := fun T => f_X12_served T 33 x y) h1 h2, hI.rf hk⟩
  by_cases y0 : 0 ≤ y
  · have y0' : ¬ y < 0 := Int32.not_lt.mpr y0
    by_cases y1 : y ≤ 1
    · have hk : (decide (0 ≤ y) && decide (y ≤ 1)) = true := by rw [decide_eq_true y0, decide_eq_true y1]; rfl
      by_cases h0 : 0 ≤ x
      · by_cases h9 : x ≤ 60
        · obtain ⟨l, rfl, -, l9⟩ := rngI (lo := 0) (hi := 60) h0 h9 (by omega) (by omega)
          obtain ⟨q, q3, hq⟩ := hB.lw
          obtain ⟨S1, d1, d2, d3, d4, d5, d6, -, d7⟩ := X11_passInMind (n := n) (l := l) (Q := 25) (q := q) (by omega) (Or.inl rfl) hS hI.2.1 (by rw [hv]; exact hB) q3
          rw [hv, ← hq, u2_self] at d6 d7
          have hS1 : Sh S1.2 := hS.x d2.1 (by simp)
          have hM1 : ModZ S1.2 := hS1.m
          have eM1 : mV (m15 S1) = mV S := by rw [m15_mV]; exact mV_x d2 hS.nf (by simp)
          have rl : mI S 1 6 = nI q := by rw [lv01 (L := 1), hv]; exact hq
          obtain ⟨k, hky, hk2⟩ : ∃ k, y = nI k ∧ (k = 0 ∨ k = 1) := by
            obtain ⟨k, e, -, e1⟩ := rngI (lo := 0) (hi := 1) y0 y1 (by omega) (by omega)
            exact ⟨k, e, by omega⟩
          by_cases l0 : l = 0
          · subst l0
            obtain ⟨O1, O2, O3, O4, f1, f2, f3, f4, f5, f6, f7⟩ := X12_mind2 (l := 0) (l' := 0) (by omega) (by omega) hM1.u (by rw [eM1]; exact hB)
            rw [eM1] at f2 f3 f6
            rcases hk2 with rfl | rfl
            · subst hky
              refine ⟨_, two (g := fun T => f_X12_served T 33 (nI 0) (nI 0)) (v := 0) (S1 := S1) (S2 := O4) ?_ ?_, hI.md d2 (by simp) d3 (Mf.m15.tr f5) f6⟩
              · simp only [f_X11_served, f_X11_served_77, hS.o S rfl, if_true, y0', if_false, y1, h0, h9, hS.g0 S rfl, hS.l1.i S _ rfl, rl, Option.bind_some, hS.g4 S rfl, d1, hS1.g4 S1 rfl, hS1.t25.1.gI S1 _ rfl, d6, d7]
                rfl
              · simp only [f_X12_served, f_X12_served_41, f_X12_served_68, f_X12_served_83, f_X12_served_119, hM1.o _ rfl, if_true, hM1.q, Option.bind_some, X12_in, in1, hk, b2i_t, h0, h9, f1]
                rw [if_neg (by decide), if_pos (by decide), if_pos (by decide), show (0 : Int32) = nI 0 from rfl, f2]
                simp only [Option.bind_some]
                rw [if_pos (by decide), f3]
                simp only [Option.bind_some, f4]
                rfl
            · subst hky
              refine ⟨_, two (g := fun T => f_X12_served T 33 (nI 0) (nI 1)) (v := 0) (S1 := S1) (S2 := O4) ?_ ?_, hI.md d2 (by simp) d3 (Mf.m15.tr f5) f6⟩
              · simp only [f_X11_served, f_X11_served_77, hS.o S rfl, if_true, y0', if_false, y1, h0, h9, hS.g0 S rfl, hS.l1.i S _ rfl, rl, Option.bind_some, hS.g4 S rfl, d1, hS1.g4 S1 rfl, hS1.t25.1.gI S1 _ rfl, d6, d7]
                rfl
              · simp only [f_X12_served, f_X12_served_41, f_X12_served_68, f_X12_served_83, f_X12_served_119, hM1.o _ rfl, if_true, hM1.q, Option.bind_some, X12_in, in1, hk, b2i_t, h0, h9, f1]
                rw [if_neg (by decide), if_pos (by decide), if_pos (by decide), show (0 : Int32) = nI 0 from rfl, f2]
                simp only [Option.bind_some]
                rw [if_pos (by decide), f3]
                simp only [Option.bind_some, f4]
                rfl
          · obtain ⟨l', rfl⟩ : ∃ l', l = l' + 1 := ⟨l - 1, by omega⟩
            obtain ⟨O1, O2, O3, O4, f1, f2, f3, f4, f5, f6, f7⟩ := X12_mind2 (l := l') (l' := 1) (by omega) (by omega) hM1.u (by rw [eM1]; exact hB)
            rw [eM1] at f2 f3 f6
            have c1 : ¬ nI (l' + 1) ≤ 0 := by rw [show (0 : Int32) = nI 0 from rfl, nI_lei (by omega) (by omega)]; omega
            have c2 : ¬ nI (l' + 1) = 0 := fun e => by have := (nI_eq (b := 0) (by omega) (by omega)).mp e; omega
            have hW := runV_ok l' (mV S) hB
            rcases hk2 with rfl | rfl
            · subst hky
              refine ⟨_, two (g := fun T => f_X12_served T 33 (nI (l' + 1)) (nI 0)) (v := runT n (l' + 1) (mV S) 0) (S1 := S1) (S2 := O4) ?_ ?_, hI.md d2 (by simp) d3 (Mf.m15.tr f5) f6⟩
              · simp only [f_X11_served, f_X11_served_77, hS.o S rfl, if_true, y0', if_false, y1, h0, h9, hS.g0 S rfl, hS.l1.i S _ rfl, rl, Option.bind_some, hS.g4 S rfl, d1, hS1.g4 S1 rfl, hS1.t25.1.gI S1 _ rfl, d6, d7]
                rfl
              · simp only [f_X12_served, f_X12_served_41, f_X12_served_68, f_X12_served_83, f_X12_served_119, hM1.o _ rfl, if_true, hM1.q, Option.bind_some, X12_in, in1, hk, b2i_t, h0, h9, f1, c1, c2, if_false, nI_pred]
                rw [if_neg (by decide), if_pos (by decide), f2]
                simp only [Option.bind_some]
                rw [show (1 : Int32) = nI 1 from rfl, f3]
                simp only [Option.bind_some, f4]
                rw [if_pos (by decide), runT_add l' 1, runT_t 1 _ (runT n l' (mV S) 0)]
            · subst hky
              refine ⟨_, two (g := fun T => f_X12_served T 33 (nI (l' + 1)) (nI 1)) (v := runK n (l' + 1) (mV S) 0) (S1 := S1) (S2 := O4) ?_ ?_, hI.md d2 (by simp) d3 (Mf.m15.tr f5) f6⟩
              · simp only [f_X11_served, f_X11_served_77, hS.o S rfl, if_true, y0', if_false, y1, h0, h9, hS.g0 S rfl, hS.l1.i S _ rfl, rl, Option.bind_some, hS.g4 S rfl, d1, hS1.g4 S1 rfl, hS1.t25.1.gI S1 _ rfl, d6, d7]
                rfl
              · simp only [f_X12_served, f_X12_served_41, f_X12_served_68, f_X12_served_83, f_X12_served_119, hM1.o _ rfl, if_true, hM1.q, Option.bind_some, X12_in, in1, hk, b2i_t, h0, h9, f1, c1, c2, if_false, nI_pred]
                rw [if_neg (by decide), if_pos (by decide), f2]
                simp only [Option.bind_some]
                rw [show (1 : Int32) = nI 1 from rfl, f3]
                simp only [Option.bind_some, f4]
                rw [if_neg (by decide), X12_wantsOfAll f7 (by rw [f6]; exact hB), f6]
                simp only [Option.bind_some]
                rw [runK_add l' 1]
                show some (wantS n 0 (mV S) 0 - (0 + (weekU n (runV n l' (mV S)) (fun _ => 0) 0).2.2.1), O4) = some ((weekU n (runV n l' (mV S)) (fun _ => 0) 0).2.2.2, O4)
                rw [weekU_w hW, Int32.zero_add, wantS_V n 0 (mV S) (runV n l' (mV S)) 0 (fun i => runV_7 l' _ hB i)]
        · refine ref 6 (-6) (by omega) ?_ ?_
          · simp only [f_X11_served, f_X11_served_9, hS.o S rfl, if_true, Option.bind_some, y0', if_false, y1, h0, h9, (cR hS).2.2.2.2]
          · simp only [f_X12_served, f_X12_served_41, (hMk 6).o _ rfl, if_true, (hMk 6).q, Option.bind_some, X12_in, in1, hk, b2i_t, h0, h9, if_false, (mR' (hMk 6).u).2.2.2.2]
            rfl
      · refine ref 4 (-4) (by omega) ?_ ?_
        · simp only [f_X11_served, f_X11_served_9, hS.o S rfl, if_true, Option.bind_some, y0', if_false, y1, h0, (cR hS).2.2.2.1]
        · simp only [f_X12_served, f_X12_served_41, (hMk 4).o _ rfl, if_true, (hMk 4).q, Option.bind_some, X12_in, in1, hk, b2i_t, h0, if_false, (mR' (hMk 4).u).2.2.2.1]
          rfl
    · have hk : (decide (0 ≤ y) && decide (y ≤ 1)) = false := by rw [decide_eq_false y1, Bool.and_false]
      refine ref 2 (-2) (by omega) ?_ ?_
      · simp only [f_X11_served, f_X11_served_9, hS.o S rfl, if_true, Option.bind_some, y0', if_false, y1, (cR hS).2.1]
      · simp only [f_X12_served, f_X12_served_41, (hMk 2).o _ rfl, if_true, (hMk 2).q, Option.bind_some, X12_in, in1, hk, b2i_f, (mR' (hMk 2).u).2.1]
        rfl
  · have y0' : y < 0 := Int32.not_le.mp y0
    have hk : (decide (0 ≤ y) && decide (y ≤ 1)) = false := by rw [decide_eq_false y0, Bool.false_and]
    refine ref 2 (-2) (by omega) ?_ ?_
    · simp only [f_X11_served, f_X11_served_9, hS.o S rfl, if_true, Option.bind_some, y0', (cR hS).2.1]
    · simp only [f_X12_served, f_X12_served_41, (hMk 2).o _ rfl, if_true, (hMk 2).q, Option.bind_some, X12_in, in1, hk, b2i_f, (mR' (hMk 2).u).2.1]
      rfl
