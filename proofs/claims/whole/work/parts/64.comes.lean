/-! letters: what was told comes to the reference -/
theorem u2_is {V : Vw} {r k : Nat} {v : Int32} (h : V r k = v) : u2 V r k v = V := by
  funext a b
  by_cases hc : a = r ∧ b = k
  · rw [u2, if_pos hc, hc.1, hc.2, h]
  · rw [u2_ne hc]
theorem ix9' (a : Nat) : 9 * nI a = nI (9 * a) := by rw [show (9 : Int32) = nI 9 from rfl, pk_mul]
theorem ixM (a g : Nat) : 6 * nI a + nI g = nI (6 * a + g) := by rw [show (6 : Int32) = nI 6 from rfl, pk_mul, nI_add]
theorem X12_hc184 {n : Nat} (hn : n < 6) : ∀ (c fuel g : Nat) (T : Mm), g + c = 3 → c < fuel → ModZ T.2 → (∀ g, g < 3 → mV T 9 (3 * n + g) = 0) → ∃ T', f_X12_houseComes_184 fuel T 33 (nI n) (nI g) = f_X12_houseComes_211 FU T' 33 (nI n) (nI 0) ∧ Ag [42] T T' ∧ mV T' = mV T := by
  intro c
  induction c with
  | zero =>
    intro fuel g T hg hf hM hz
    obtain ⟨m, rfl⟩ : ∃ m, fuel = m + 1 := ⟨fuel - 1, by omega⟩
    refine ⟨T, ?_, Ag.rf, rfl⟩
    rw [f_X12_houseComes_184, if_pos (by rw [show (3 : Int32) = nI 3 from rfl, nI_lei (by omega) (by omega)]; omega)]
    rfl
  | succ c ih =>
    intro fuel g T hg hf hM hz
    obtain ⟨m, rfl⟩ : ∃ m, fuel = m + 1 := ⟨fuel - 1, by omega⟩
    have e : mV (sI T 42 (3 * n + g) 0) = mV T := by
      have := mV_s (S := T) (r := 9) (k := 3 * n + g) (v := 0) (show 3 * n + g < 18 by omega)
      rw [show (33 : Nat) + 9 = 42 from rfl, u2_is (hz g (by omega))] at this
      exact this
    obtain ⟨T', a1, a2, a3⟩ := ih m (g + 1) (sI T 42 (3 * n + g) 0) (by omega) (by omega) hM (by rw [e]; exact hz)
    refine ⟨T', ?_, (Ag.sI (by simp)).tr a2, a3.trans e⟩
    rw [f_X12_houseComes_184, if_neg (by rw [show (3 : Int32) = nI 3 from rfl, nI_lei (by omega) (by omega)]; omega), hM.g12 T rfl]
    simp only [Option.bind_some]
    rw [ix3', hM.a42.st T _ 0 rfl (by omega)]
    simp only [Option.bind_some, nI_1]
    exact a1
theorem X12_hc211 {n : Nat} (hn : n < 6) : ∀ (c fuel g : Nat) (T : Mm), g + c = 6 → c < fuel → ModZ T.2 → (∀ a, a < 6 → mV T 10 (6 * n + a) = 0 ∧ mV T 10 (6 * a + n) = 0) → mV T 0 0 = nI n → ∃ T', f_X12_houseComes_211 fuel T 33 (nI n) (nI g) = some (1, T') ∧ Ag [33, 43] T T' ∧ O33 [0] T T' ∧ mV T' = u2 (mV T) 0 0 (nI (n + 1)) := by
  intro c
  induction c with
  | zero =>
    intro fuel g T hg hf hM hz h0
    obtain ⟨m, rfl⟩ : ∃ m, fuel = m + 1 := ⟨fuel - 1, by omega⟩
    refine ⟨sI T 33 0 (nI (n + 1)), ?_, Ag.sI (by simp), O33.sI (by simp), mV_s (r := 0) (show 0 < ml 0 by decide)⟩
    rw [f_X12_houseComes_211, if_pos (by rw [show (6 : Int32) = nI 6 from rfl, nI_lei (by omega) (by omega)]; omega), hM.i T _ rfl, mv0, h0]
    simp only [Option.bind_some, nI_1]
    rw [hM.p T _ _ rfl]
    rfl
  | succ c ih =>
    intro fuel g T hg hf hM hz h0
    obtain ⟨m, rfl⟩ : ∃ m, fuel = m + 1 := ⟨fuel - 1, by omega⟩
    have e1 : mV (sI T 43 (6 * n + g) 0) = mV T := by
      have := mV_s (S := T) (r := 10) (k := 6 * n + g) (v := 0) (show 6 * n + g < 36 by omega)
      rw [show (33 : Nat) + 10 = 43 from rfl, u2_is (hz g (by omega)).1] at this
      exact this
    have e2 : mV (sI (sI T 43 (6 * n + g) 0) 43 (6 * g + n) 0) = mV T := by
      have := mV_s (S := sI T 43 (6 * n + g) 0) (r := 10) (k := 6 * g + n) (v := 0) (show 6 * g + n < 36 by omega)
      rw [show (33 : Nat) + 10 = 43 from rfl, e1, u2_is (hz g (by omega)).2] at this
      exact this
    obtain ⟨T', a1, a2, a3, a4⟩ := ih m (g + 1) (sI (sI T 43 (6 * n + g) 0) 43 (6 * g + n) 0) (by omega) (by omega) hM (by rw [e2]; exact hz) (by rw [e2]; exact h0)
    refine ⟨T', ?_, ((Ag.sI (by simp)).sIt (by simp)).tr a2, ((O33.sI (by simp)).tr (O33.sI (by simp))).tr a3, by rw [a4, e2]⟩
    rw [f_X12_houseComes_211, if_neg (by rw [show (6 : Int32) = nI 6 from rfl, nI_lei (by omega) (by omega)]; omega), hM.g13 T rfl]
    simp only [Option.bind_some]
    rw [ixM, hM.a43.st T _ 0 rfl (by omega)]
    simp only [Option.bind_some]
    rw [hM.g13 (sI T 43 (6 * n + g) 0) rfl]
    simp only [Option.bind_some]
    rw [ixM, hM.a43.st (sI T 43 (6 * n + g) 0) _ 0 rfl (by omega)]
    simp only [Option.bind_some, nI_1]
    exact a1
theorem hsW_8 {V : Vw} {n : Nat} {F : Nat → Int32} : u2 (u2 (u2 (u2 (u2 (u2 (u2 V 1 n (F 1)) 2 n (F 2)) 3 n (F 3)) 4 n (F 4)) 5 n (F 5)) 6 n (F 6)) 7 n (F 7) = hsW V n F := by
  funext r k
  by_cases hk : k = n
  · subst hk
    by_cases hr : 1 ≤ r ∧ r ≤ 7
    · rw [hsW, if_pos ⟨rfl, hr⟩]
      have : r = 1 ∨ r = 2 ∨ r = 3 ∨ r = 4 ∨ r = 5 ∨ r = 6 ∨ r = 7 := by omega
      rcases this with rfl | rfl | rfl | rfl | rfl | rfl | rfl <;> simp [u2]
    · rw [hsW_ne (fun q => hr q.2), u2_ne (by omega), u2_ne (by omega), u2_ne (by omega), u2_ne (by omega), u2_ne (by omega), u2_ne (by omega), u2_ne (by omega)]
  · rw [hsW_ne (fun q => hk q.1), u2_ne (by omega), u2_ne (by omega), u2_ne (by omega), u2_ne (by omega), u2_ne (by omega), u2_ne (by omega), u2_ne (by omega)]
section
variable {x : Nat → Nat} {s : Nat} {T : Mm} {n p k : Nat}
/-- what one statement's coming gives -/
def TlM (x : Nat → Nat) (s : Nat) (T : Mm) (n p : Nat) (r : Option (Int32 × Mm)) : Prop := ∃ T', r = some (b2i (apL x s (mV T) n p).isSome, T') ∧ Ag [33, 34, 35, 36, 37, 38, 39, 40, 41, 42, 43, 44] T T' ∧ O33 [0, 1] T T' ∧ ∀ W' n', apL x s (mV T) n p = some (W', n') → mV T' = W'
theorem X12_houseComes (hM : ModZ T.2) (hB : Bd (mV T) n) (hk : okL x s p = true) (hx : x p = 104) (hk9 : k ≤ 48) (hr : rwL x s T k p) : TlM x s T n p (f_X12_houseComes T 33 (nI k)) := by
  have h6 := hB.le
  have D : ∀ j, 0 < j → j ≤ 8 → 48 ≤ x (p + j) ∧ x (p + j) ≤ 57 := fun j h1 h2 => (dgL_t x s (ok_d hk h1 (by rw [hx]; exact h2))).2
  obtain ⟨r1, r2, r3, r4⟩ := hr
  rw [hx] at r3 r4
  have R : ∀ j, j < 8 → mI T 52 (9 * k + j) = nI (x (p + 1 + j) - 48) := r3
  have R8 : mI T 52 (9 * k + 8) = nI (nmL x (enL x s p - (p + 9)) (p + 9) 0) := r4 (by decide)
  have A : ∀ (S : Mm) (j : Nat), S.2 = T.2 → mI S 52 = mI T 52 → j < 9 → aI S 52 (nI (9 * k + j)) = some (mI T 52 (9 * k + j)) := fun S j e1 e2 hj => by
    rw [hM.a52.ld S _ e1 (by omega), e2]
  have q0 := R 0 (by omega)
  have q4 := R 4 (by omega)
  have q6 := R 6 (by omega)
  have d1 := D 1 (by omega) (by omega)
  have d5 := D 5 (by omega) (by omega)
  have d7 := D 7 (by omega) (by omega)
  have i4 : nI (9 * k) + 4 = nI (9 * k + 4) := nI_c _ 4 rfl
  have i1 : nI (9 * k) + 1 = nI (9 * k + 1) := nI_c _ 1 rfl
  have i2 : nI (9 * k) + 2 = nI (9 * k + 2) := nI_c _ 2 rfl
  have i3 : nI (9 * k) + 3 = nI (9 * k + 3) := nI_c _ 3 rfl
  have i5 : nI (9 * k) + 5 = nI (9 * k + 5) := nI_c _ 5 rfl
  have i6 : nI (9 * k) + 6 = nI (9 * k + 6) := nI_c _ 6 rfl
  have i7 : nI (9 * k) + 7 = nI (9 * k + 7) := nI_c _ 7 rfl
  have i8 : nI (9 * k) + 8 = nI (9 * k + 8) := nI_c _ 8 rfl
  have no : ∀ q, apL x s (mV T) n p = none → q = some ((0 : Int32), T) → TlM x s T n p q := fun q h e => by
    unfold TlM
    rw [h, e]
    exact ⟨T, rfl, Ag.rf, O33.rf, fun W' n' e => by cases e⟩
  have ap0 : ∀ c, ¬ c → (x (p + 1) - 48 ≤ 5 ∧ x (p + 5) - 48 < 3 ∧ x (p + 7) - 48 < 3 ∧ n < 6 → c) → apL x s (mV T) n p = none := fun c h1 h2 => by rw [apL, if_pos hx, if_neg (fun q => h1 (h2 q))]
  have z0 : aI T 52 (nI (9 * k)) = some (nI (x (p + 1) - 48)) := by
    have := A T 0 rfl rfl (by omega)
    rw [q0] at this
    exact this
  have z4 : aI T 52 (nI (9 * k + 4)) = some (nI (x (p + 5) - 48)) := by rw [A T 4 rfl rfl (by omega), q4]
  have z6 : aI T 52 (nI (9 * k + 6)) = some (nI (x (p + 7) - 48)) := by rw [A T 6 rfl rfl (by omega), q6]
  rw [f_X12_houseComes, if_pos (hM.o T rfl), hM.g33 T rfl, ix9', i4, i6]
  simp only [Option.bind_some]
  rw [z0]
  simp only [Option.bind_some, f_X12_houseComes_49]
  by_cases c1 : x (p + 1) - 48 ≤ 5
  · rw [if_neg (by rw [show (5 : Int32) = nI 5 from rfl, nI_lti (by omega) (by omega)]; omega), z4]
    simp only [Option.bind_some]
    by_cases c2 : x (p + 5) - 48 < 3
    · rw [if_neg (by rw [show (2 : Int32) = nI 2 from rfl, nI_lti (by omega) (by omega)]; omega), z6]
      simp only [Option.bind_some]
      by_cases c3 : x (p + 7) - 48 < 3
      · rw [if_neg (by rw [show (2 : Int32) = nI 2 from rfl, nI_lti (by omega) (by omega)]; omega), hM.i T _ rfl, mv0, hB.sz]
        simp only [Option.bind_some]
        by_cases c4 : n < 6
        · rw [if_neg (show ¬ nI n = 6 from fun e => by have := (nI_eq (b := 6) (by omega) (by omega)).mp e; omega)]
          have y0 := D 2 (by omega) (by omega)
          -- the eight rows
          have L : ∀ (S : Mm) (j : Nat), S.2 = T.2 → mI S 52 = mI T 52 → j < 9 → aI S 52 (nI (9 * k + j)) = some (mI T 52 (9 * k + j)) := A
          have L0 : ∀ (S : Mm), S.2 = T.2 → mI S 52 = mI T 52 → aI S 52 (nI (9 * k)) = some (mI T 52 (9 * k)) := fun S e1 e2 => by
            have := A S 0 e1 e2 (by omega)
            exact this
          have m52 : ∀ (S : Mm) (c j : Nat) (v : Int32), c ≠ 52 → mI S 52 = mI T 52 → mI (sI S c j v) 52 = mI T 52 := fun S c j v hc e => by
            funext q
            rw [mI_s, if_neg (fun h => hc h.1.symm), e]
          obtain ⟨U, hU⟩ : ∃ U, U = sI (sI (sI (sI (sI (sI (sI (sI T 34 n (nI (x (p + 1) - 48))) 35 n (mI T 52 (9 * k + 1))) 36 n (10 * mI T 52 (9 * k + 2) + mI T 52 (9 * k + 3))) 37 n (mI T 52 (9 * k + 4))) 38 n (mI T 52 (9 * k + 5))) 39 n (mI T 52 (9 * k + 6))) 40 n (mI T 52 (9 * k + 7))) 41 n (mI T 52 (9 * k + 8)) := ⟨_, rfl⟩
          have eU : mV U = u2 (hsW (mV T) n (fun r => nI (hfL x p r))) 8 n (nI (nmL x (enL x s p - (p + 9)) (p + 9) 0)) := by
            have w1 : nI (x (p + 1) - 48) = nI (hfL x p 1) := rfl
            have w2 : mI T 52 (9 * k + 1) = nI (hfL x p 2) := R 1 (by omega)
            have w3 : 10 * mI T 52 (9 * k + 2) + mI T 52 (9 * k + 3) = nI (hfL x p 3) := by
              rw [R 2 (by omega), R 3 (by omega), show (10 : Int32) = nI 10 from rfl, pk_mul, nI_add]
              rfl
            have w4 : mI T 52 (9 * k + 4) = nI (hfL x p 4) := q4
            have w5 : mI T 52 (9 * k + 5) = nI (hfL x p 5) := R 5 (by omega)
            have w6 : mI T 52 (9 * k + 6) = nI (hfL x p 6) := q6
            have w7 : mI T 52 (9 * k + 7) = nI (hfL x p 7) := R 7 (by omega)
            rw [hU, w1, w2, w3, w4, w5, w6, w7, R8, ← hsW_8]
            rw [mV_s (r := 8) (show n < ml 8 from c4), mV_s (r := 7) (show n < ml 7 from c4), mV_s (r := 6) (show n < ml 6 from c4), mV_s (r := 5) (show n < ml 5 from c4), mV_s (r := 4) (show n < ml 4 from c4), mV_s (r := 3) (show n < ml 3 from c4), mV_s (r := 2) (show n < ml 2 from c4), mV_s (r := 1) (show n < ml 1 from c4)]
          have hMU : ModZ U.2 := by rw [hU]; exact hM
          have aU : Ag [33, 34, 35, 36, 37, 38, 39, 40, 41, 42, 43, 44] T U := by
            rw [hU]
            exact (((((((Ag.sI (by simp)).sIt (by simp)).sIt (by simp)).sIt (by simp)).sIt (by simp)).sIt (by simp)).sIt (by simp)).sIt (by simp)
          have oU : O33 [0, 1] T U := by
            rw [hU]
            exact (((((((O33.sI (by simp)).tr (O33.sI (by simp))).tr (O33.sI (by simp))).tr (O33.sI (by simp))).tr (O33.sI (by simp))).tr (O33.sI (by simp))).tr (O33.sI (by simp))).tr (O33.sI (by simp))
          obtain ⟨T1, a1, a2, a3⟩ := X12_hc184 c4 3 FU 0 U (by omega) (by show 3 < 3000; omega) hMU (fun g hg => by
            rw [eU, u2_ne (by omega), hsW_ne (by omega)]
            exact (hB.z9 n (by omega) c4).2 g hg)
          have hM1 : ModZ T1.2 := by rw [a2.1]; exact hMU
          obtain ⟨T2, b1, b2, b3, b4⟩ := X12_hc211 c4 6 FU 0 T1 (by omega) (by show 6 < 3000; omega) hM1 (fun a ha => by
            rw [a3, eU, u2_ne (by omega), hsW_ne (by omega), u2_ne (by omega), hsW_ne (by omega)]
            exact ⟨hB.z10 n a c4 ha (by omega), hB.z10 a n ha c4 (by omega)⟩) (by
            rw [a3, eU, u2_ne (by omega), hsW_ne (by omega)]
            exact hB.sz)
          unfold TlM
          have ea : apL x s (mV T) n p = some (nhV (mV T) n (fun r => nI (hfL x p r)) (nI (nmL x (enL x s p - (p + 9)) (p + 9) 0)), n + 1) := by rw [apL, if_pos hx, if_pos ⟨c1, c2, c3, c4⟩]
          rw [ea]
          refine ⟨T2, ?_, (aU.tr (a2.mono (by simp))).tr (b2.mono (by simp)), (oU.tr (O33.ag a2 (by simp))).tr (b3.mono (by simp)), fun W' n' e => ?_⟩
          · simp (config := { maxDischargeDepth := 12 }) only [hM.i, hM.g4, hM.g5, hM.g6, hM.g7, hM.g8, hM.g9, hM.g10, hM.g11, hM.g33, sI_2, Option.bind_some, mI_s, i1, i2, i3, i5, i7, i8, L, L0, m52, hM.a34.st, hM.a35.st, hM.a36.st, hM.a37.st, hM.a38.st, hM.a39.st, hM.a40.st, hM.a41.st, c4, ne_eq, show ¬ ((34 : Nat) = 52) by omega, show ¬ ((35 : Nat) = 52) by omega, show ¬ ((36 : Nat) = 52) by omega, show ¬ ((37 : Nat) = 52) by omega, show ¬ ((38 : Nat) = 52) by omega, show ¬ ((39 : Nat) = 52) by omega, show ¬ ((40 : Nat) = 52) by omega, not_false_eq_true, show (1 : Nat) < 9 by omega, show (2 : Nat) < 9 by omega, show (3 : Nat) < 9 by omega, show (4 : Nat) < 9 by omega, show (5 : Nat) < 9 by omega, show (6 : Nat) < 9 by omega, show (7 : Nat) < 9 by omega, show (8 : Nat) < 9 by omega]
            rw [← hU]
            exact a1.trans b1
          · injection e with e
            injection e with e1 e2
            rw [← e1, b4, a3, eU]
            rfl
        · refine no _ (ap0 _ c4 (fun q => q.2.2.2)) ?_
          rw [if_pos (show nI n = 6 by rw [show n = 6 by omega]; rfl)]
      · exact no _ (ap0 _ c3 (fun q => q.2.2.1)) (by rw [if_pos (by rw [show (2 : Int32) = nI 2 from rfl, nI_lti (by omega) (by omega)]; omega)])
    · exact no _ (ap0 _ c2 (fun q => q.2.1)) (by rw [if_pos (by rw [show (2 : Int32) = nI 2 from rfl, nI_lti (by omega) (by omega)]; omega)])
  · exact no _ (ap0 _ c1 (fun q => q.1)) (by rw [if_pos (by rw [show (5 : Int32) = nI 5 from rfl, nI_lti (by omega) (by omega)]; omega)])
end
