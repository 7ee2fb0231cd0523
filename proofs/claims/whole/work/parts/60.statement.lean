/-! letters: a statement is read by the reference -/
def rwL (x : Nat → Nat) (s : Nat) (T : Mm) (k p : Nat) : Prop := mI T 50 k = nI p ∧ mI T 51 k = nI (x p) ∧ (∀ j, j < fxL (x p) → mI T 52 (9 * k + j) = nI (x (p + 1 + j) - 48)) ∧ (nuL (x p) ≠ 0 → mI T 52 (9 * k + fxL (x p)) = nI (nmL x (enL x s p - (p + 1 + fxL (x p))) (p + 1 + fxL (x p)) 0))
section
variable {x : Nat → Nat} {s : Nat}
theorem eqn {y k : Nat} (hy : y ≤ 255) (hk : k ≤ 255) : (nI y = nI k) = (y = k) := propext (nI_eq (by omega) (by omega))
theorem X12_rd84 {T : Mm} (hM : ModZ T.2) {i y : Nat} (hy : y ≤ 255) (a b : Int32) : f_X12_readStatement_84 T 33 (nI i) (nI y) 33 a b = f_X12_readStatement_114 FU (sI T 33 28 (a + b)) 33 (nI i) (nI y) (nI (fxL y)) (nI 0) := by
  rw [f_X12_readStatement_84, hM.p T _ _ rfl, show (104 : Int32) = nI 104 from rfl, show (108 : Int32) = nI 108 from rfl]
  simp only [Option.bind_some, eqn hy (show 104 ≤ 255 by omega), eqn hy (show 108 ≤ 255 by omega), f_X12_readStatement_110, fxL]
  by_cases h1 : y = 104
  · rw [if_pos h1, if_pos h1]
    rfl
  · rw [if_neg h1, if_neg h1]
    by_cases h2 : y = 108
    · rw [if_pos h2, if_pos h2]
      rfl
    · rw [if_neg h2, if_neg h2]
      rfl
theorem X12_rd84' {T : Mm} (hM : ModZ T.2) {i : Nat} (a b : Int32) : f_X12_readStatement_84 T 33 (nI i) (-1) 33 a b = f_X12_readStatement_114 FU (sI T 33 28 (a + b)) 33 (nI i) (-1) (nI 2) (nI 0) := by
  rw [f_X12_readStatement_84, hM.p T _ _ rfl]
  simp only [Option.bind_some, f_X12_readStatement_110]
  rw [if_neg (by decide), if_neg (by decide)]
  rfl
theorem rdK_0 {T : Mm} {i y : Nat} {c : Int32} (hy : y ≤ 255) (h : nuL y = 0) : rdK T (nI i) (nI y) c = f_X12_readStatement_180 T 33 := by
  have h1 : y ≠ 104 := fun e => by rw [e] at h; cases h
  have h2 : y ≠ 100 := fun e => by rw [e] at h; cases h
  rw [rdK, show (104 : Int32) = nI 104 from rfl, show (100 : Int32) = nI 100 from rfl]
  simp only [eqn hy (show 104 ≤ 255 by omega), eqn hy (show 100 ≤ 255 by omega), h1, h2, if_false]
theorem rdK_1 {T : Mm} (hM : ModZ T.2) {i y : Nat} (hy : y ≤ 255) (h : nuL y ≠ 0) : rdK T (nI i) (nI y) (nI (fxL y)) = f_X12_readStatement_176 T 33 52 (nI (9 * i + fxL y)) 33 (nI (nuL y)) := by
  by_cases h1 : y = 104
  · subst h1
    rw [rdK, if_pos (by decide), f_X12_readStatement_154, hM.g33 T rfl]
    simp only [Option.bind_some, ix9]
    rw [if_pos (by decide)]
    rfl
  · by_cases h2 : y = 100
    · subst h2
      rw [rdK, if_neg (by decide), if_pos (by decide), f_X12_readStatement_154, hM.g33 T rfl]
      simp only [Option.bind_some, ix9]
      rw [if_neg (by decide)]
      rfl
    · exfalso
      apply h
      rw [nuL, if_neg h1, if_neg h2]
theorem mn_0 {l : Nat} (h : nuL l = 0) : mnL l = fxL l := by rw [mnL, if_pos h]; rfl
theorem mn_1 {l : Nat} (h : nuL l ≠ 0) : mnL l = fxL l + 1 := by rw [mnL, if_neg h]
theorem nu_b (l : Nat) : nuL l ≤ 3 ∧ fxL l ≤ 8 := by
  unfold nuL fxL
  repeat' split
  all_goals omega
/-- behind a letter: the digits, the number, the sign -/
theorem X12_rdB {T : Mm} {i p : Nat} (hi : i ≤ 48) (hM : ModZ T.2) (hl : LtM x s T) (hps : p < s) (hh : hdL x p = true) (h28 : mI T 33 28 = nI (p + 1)) (h29 : mI T 33 29 = 0) (h30 : mI T 33 30 = nI i) : ∃ T', f_X12_readStatement_114 FU T 33 (nI i) (nI (x p)) (nI (fxL (x p))) (nI 0) = some T' ∧ Ag [33, 52] T T' ∧ O33 [28, 29, 30] T T' ∧ mI T' 33 30 = nI (i + 1) ∧ (∀ k, k < 9 * i ∨ 9 * i + 9 ≤ k → mI T' 52 k = mI T 52 k) ∧ mI T' 33 28 = nI (if okL x s p = true then enL x s p + 1 else enL x s p) ∧ mI T' 33 29 = b2i (!okL x s p) ∧ (okL x s p = true → (∀ j, j < fxL (x p) → mI T' 52 (9 * i + j) = nI (x (p + 1 + j) - 48)) ∧ (nuL (x p) ≠ 0 → mI T' 52 (9 * i + fxL (x p)) = nI (nmL x (enL x s p - (p + 1 + fxL (x p))) (p + 1 + fxL (x p)) 0))) := by
  have h255 := (hl.2.2 p hps).2
  obtain ⟨nu3, fx8⟩ := nu_b (x p)
  obtain ⟨T1, a1, a2, a3, a4, -, a5⟩ := X12_rd114 hi fx8 (nI (x p)) (fxL (x p)) FU 0 (p + 1) false T (by omega) (by show _ < 3000; omega) hM hl h28 (by omega) h29
  obtain ⟨a6, a7, a8⟩ := a5 rfl
  have hM1 : ModZ T1.2 := by rw [a2.1]; exact hM
  have hl1 := hl.ag a2 a3 (by simp) (by simp)
  have hs1 : rnL x s (fxL (x p)) (p + 1) ≤ s := rn_s x s _ _ (by omega)
  have r1 := rn_le x s (fxL (x p)) (p + 1)
  have r2 := rn_add x s (fxL (x p)) (nuL (x p)) (p + 1)
  have i1 : mI T1 33 30 = nI i := (a3 30 (by simp)).trans h30
  have g1 : p + 1 ≤ enL x s p := rn_ge x s _ _
  -- the end
  have fin : ∀ (T6 : Mm) (w : Bool), ModZ T6.2 → LtM x s T6 → mI T6 33 28 = nI (enL x s p) → mI T6 33 29 = b2i w → mI T6 33 30 = nI i → (!w) = decide (mnL (x p) ≤ enL x s p - p - 1) → ∃ T', f_X12_readStatement_180 T6 33 = some T' ∧ Ag [33] T6 T' ∧ O33 [28, 29, 30] T6 T' ∧ mI T' 33 30 = nI (i + 1) ∧ mI T' 33 28 = nI (if okL x s p = true then enL x s p + 1 else enL x s p) ∧ mI T' 33 29 = b2i (!okL x s p) := fun T6 w hM6 hl6 e28 e29 e30 hw => by
    have hs2 : enL x s p ≤ s := rn_s x s _ _ (by omega)
    obtain ⟨T7, b1, b2, b3, b4, b5, b6⟩ := X12_rd180 hM6 hl6 e28 hs2 e29 e30
    have e : sgL x s (enL x s p) w = okL x s p := by rw [sgL, okL, hh, hw, Bool.true_and]
    rw [e] at b5 b6
    exact ⟨T7, b1, b2, b3, b4, b5, b6⟩
  by_cases hn : nuL (x p) = 0
  · have een : enL x s p = rnL x s (fxL (x p)) (p + 1) := by rw [enL, hn, Nat.add_zero]
    have hmn := mn_0 hn
    obtain ⟨T7, b1, b2, b3, b4, b5, b6⟩ := fin T1 _ hM1 hl1 (by rw [een]; exact a6) a7 i1 (by
      rw [hmn, een, ← decide_not]
      exact decide_eq_decide.mpr (by omega))
    refine ⟨T7, ?_, a2.tr (b2.mono (by simp)), (a3.mono (by simp)).tr b3, b4, fun k hk => ?_, b5, b6, fun hk => ⟨fun j hj => ?_, fun h => absurd hn h⟩⟩
    · rw [a1, rdK_0 h255 hn, b1]
    · rw [b2.2 52 (by simp)]
      exact a4 k (by omega)
    · rw [b2.2 52 (by simp)]
      have := a8 (ok_fx x s hk).1 j hj
      rw [Nat.add_zero] at this
      exact this
  · have hmn := mn_1 hn
    obtain ⟨T2, v, c1, c2, c3, c4, c5⟩ := X12_rdN (m := nuL (x p)) (by omega) (by omega) hM1 hl1 a6 hs1 a7
    have hM2 : ModZ T2.2 := by rw [c2.1]; exact hM1
    have hl2 := hl1.ag c2 c3 (by simp) (by simp)
    have hM3 : ModZ (sI T2 52 (9 * i + fxL (x p)) v).2 := hM2
    have f2 : Ag [33, 52] T2 (sI T2 52 (9 * i + fxL (x p)) v) := Ag.sI (by simp)
    have f3 : O33 [28, 29] T2 (sI T2 52 (9 * i + fxL (x p)) v) := O33.sI (by simp)
    have hl3 := hl2.ag f2 f3 (by simp) (by simp)
    have e33 : ∀ q, mI (sI T2 52 (9 * i + fxL (x p)) v) 33 q = mI T2 33 q := fun q => by rw [mI_s, if_neg (by omega)]
    have i2 : mI T2 33 30 = nI i := (c3 30 (by simp)).trans i1
    have key : ∃ w, mI T2 33 28 = nI (enL x s p) ∧ mI T2 33 29 = b2i w ∧ (!w) = decide (mnL (x p) ≤ enL x s p - p - 1) ∧ (okL x s p = true → v = nI (nmL x (enL x s p - (p + 1 + fxL (x p))) (p + 1 + fxL (x p)) 0)) := by
      by_cases hr : rnL x s (fxL (x p)) (p + 1) = p + 1 + fxL (x p)
      · rw [if_pos hr] at r2
        have een : enL x s p = rnL x s (nuL (x p)) (p + 1 + fxL (x p)) := r2
        have g2 := rn_ge x s (nuL (x p)) (p + 1 + fxL (x p))
        obtain ⟨c6, c7, c8⟩ := c5 (decide_eq_false (by omega))
        rw [hr, ← een] at c6 c7 c8
        refine ⟨_, c6, c7, ?_, fun hk => c8 ?_⟩
        · rw [← decide_not]
          exact decide_eq_decide.mpr (by omega)
        · have := (okL_t x s hk).2.1
          omega
      · rw [if_neg hr] at r2
        have een : enL x s p = rnL x s (fxL (x p)) (p + 1) := r2
        obtain ⟨c6, c7⟩ := c4 (decide_eq_true (by omega))
        refine ⟨true, by rw [een]; exact c6, c7, ?_, fun hk => absurd (ok_fx x s hk).1 hr⟩
        exact (decide_eq_false (by omega)).symm
    obtain ⟨w, k1, k2, k3, k4⟩ := key
    obtain ⟨T7, b1, b2, b3, b4, b5, b6⟩ := fin _ w hM3 hl3 (by rw [e33]; exact k1) (by rw [e33]; exact k2) (by rw [e33]; exact i2) k3
    refine ⟨T7, ?_, ((a2.tr (c2.mono (by simp))).tr f2).tr (b2.mono (by simp)), (((a3.tr c3).tr f3).mono (by simp)).tr b3, b4, fun k hk => ?_, b5, b6, fun hk => ⟨fun j hj => ?_, fun _ => ?_⟩⟩
    · rw [a1, rdK_1 hM1 h255 hn, f_X12_readStatement_176, c1]
      simp only [Option.bind_some]
      rw [hM2.a52.st T2 _ v rfl (by omega)]
      exact b1
    · rw [b2.2 52 (by simp), mI_s, if_neg (by omega), c2.2 52 (by simp)]
      exact a4 k (by omega)
    · rw [b2.2 52 (by simp), mI_s, if_neg (by omega), c2.2 52 (by simp)]
      have := a8 (ok_fx x s hk).1 j hj
      rw [Nat.add_zero] at this
      exact this
    · rw [b2.2 52 (by simp), mI_s, if_pos ⟨rfl, rfl⟩]
      exact k4 hk
theorem X12_rdS {T : Mm} {i p : Nat} (hi : i ≤ 48) (hM : ModZ T.2) (hl : LtM x s T) (hp : p ≤ s) (h28 : mI T 33 28 = nI p) (h29 : mI T 33 29 = 0) (h30 : mI T 33 30 = nI i) : ∃ T', f_X12_readStatement T 33 = some T' ∧ Ag [33, 50, 51, 52] T T' ∧ O33 [28, 29, 30] T T' ∧ mI T' 33 30 = nI (i + 1) ∧ (∀ k, k ≠ i → mI T' 50 k = mI T 50 k ∧ mI T' 51 k = mI T 51 k ∧ ∀ j, j < 9 → mI T' 52 (9 * k + j) = mI T 52 (9 * k + j)) ∧ ((p < s ∧ okL x s p = true ∧ mI T' 33 28 = nI (enL x s p + 1) ∧ mI T' 33 29 = 0 ∧ rwL x s T' i p) ∨ ((p < s → okL x s p = false) ∧ mI T' 33 28 = nI (if p < s ∧ hdL x p = true then enL x s p else p) ∧ mI T' 33 29 = 1)) := by
  have h96 := hl.1
  have hi49 : i < 49 := by omega
  have st : ∀ (l : Int32) (b : Int32), (if p < s then nI (x p) else -1) = l → (if l = 104 then f_X12_readStatement_63 (sI (sI T 50 i (nI p)) 51 i l) 33 (nI i) l 33 else (if l = 112 then f_X12_readStatement_63 (sI (sI T 50 i (nI p)) 51 i l) 33 (nI i) l 33 else (if l = 108 then f_X12_readStatement_63 (sI (sI T 50 i (nI p)) 51 i l) 33 (nI i) l 33 else (if l = 100 then f_X12_readStatement_63 (sI (sI T 50 i (nI p)) 51 i l) 33 (nI i) l 33 else f_X12_readStatement_59 (sI (sI T 50 i (nI p)) 51 i l) 33 (nI i) l 33)))) = f_X12_readStatement_64 (sI (sI T 50 i (nI p)) 51 i l) 33 (nI i) l 33 b → f_X12_readStatement T 33 = f_X12_readStatement_64 (sI (sI T 50 i (nI p)) 51 i l) 33 (nI i) l 33 b := fun l b e hb => by
    simp only [f_X12_readStatement, hM.o T rfl, if_true, hM.i, hM.g31, hM.g32, sI_2, hM.a50.st, hM.a51.st, hi49, Option.bind_some, X12_here hM hl h28 hp, h28, h29, h30, mI_s, show ¬ ((33 : Nat) = 50) by omega, show ¬ ((33 : Nat) = 51) by omega, false_and, if_false, e]
    exact hb
  by_cases hb : p < s ∧ hdL x p = true
  · obtain ⟨hps, hh⟩ := hb
    have h255 := (hl.2.2 p hps).2
    have s1 := st (nI (x p)) 0 (if_pos hps) (by
      rw [show (104 : Int32) = nI 104 from rfl, show (112 : Int32) = nI 112 from rfl, show (108 : Int32) = nI 108 from rfl, show (100 : Int32) = nI 100 from rfl]
      simp only [eqn h255 (show 104 ≤ 255 by omega), eqn h255 (show 108 ≤ 255 by omega), eqn h255 (show 112 ≤ 255 by omega), eqn h255 (show 100 ≤ 255 by omega), f_X12_readStatement_63]
      rcases hdL_t x hh with e | e | e | e <;> rw [e] <;> rfl)
    obtain ⟨U, hU⟩ : ∃ U, U = sI (sI (sI (sI T 50 i (nI p)) 51 i (nI (x p))) 33 29 0) 33 28 (nI (p + 1)) := ⟨_, rfl⟩
    have u2' : Ag [33, 50, 51, 52] T U := by rw [hU]; exact (((Ag.sI (by simp)).sIt (by simp)).sIt (by simp)).sIt (by simp)
    have u3 : O33 [28, 29, 30] T U := by rw [hU]; exact (((O33.sI (by simp)).tr (O33.sI (by simp))).tr (O33.sI (by simp))).tr (O33.sI (by simp))
    have hMU : ModZ U.2 := by rw [u2'.1]; exact hM
    have hlU := hl.ag u2' u3 (by simp) (by simp)
    have e28 : mI U 33 28 = nI (p + 1) := by rw [hU]; simp [mI_s]
    have e29 : mI U 33 29 = 0 := by rw [hU]; simp [mI_s]
    have e30 : mI U 33 30 = nI i := by rw [hU]; simp [mI_s, h30]
    have e50 : ∀ k, mI U 50 k = if k = i then nI p else mI T 50 k := fun k => by rw [hU]; simp [mI_s]
    have e51 : ∀ k, mI U 51 k = if k = i then nI (x p) else mI T 51 k := fun k => by rw [hU]; simp [mI_s]
    have e52 : mI U 52 = mI T 52 := by funext k; rw [hU]; simp [mI_s]
    have s2 : f_X12_readStatement_64 (sI (sI T 50 i (nI p)) 51 i (nI (x p))) 33 (nI i) (nI (x p)) 33 0 = f_X12_readStatement_114 FU U 33 (nI i) (nI (x p)) (nI (fxL (x p))) (nI 0) := by
      simp only [f_X12_readStatement_64, hM.b0, sI_2, Option.bind_some, hM.i, mI_s, and_self, if_true, true_and, show ¬ ((28 : Nat) = 29) by omega, show ¬ ((33 : Nat) = 50) by omega, show ¬ ((33 : Nat) = 51) by omega, false_and, if_false, h28]
      rw [X12_rd84 (T := sI (sI (sI T 50 i (nI p)) 51 i (nI (x p))) 33 29 0) hM h255, nI_1, hU]
    obtain ⟨T', b1, b2, b3, b4, b5, b6, b7, b8⟩ := X12_rdB hi hMU hlU hps hh e28 e29 e30
    refine ⟨T', (s1.trans s2).trans b1, u2'.tr (b2.mono (by simp)), u3.tr b3, b4, fun k hk => ⟨?_, ?_, fun j hj => ?_⟩, ?_⟩
    · rw [b2.2 50 (by simp), e50, if_neg hk]
    · rw [b2.2 51 (by simp), e51, if_neg hk]
    · rw [b5 _ (by omega), e52]
    · cases hk : okL x s p
      · rw [hk] at b6 b7
        exact Or.inr ⟨fun _ => rfl, by rw [if_pos ⟨hps, hh⟩, b6]; rfl, b7⟩
      · rw [hk] at b6 b7
        exact Or.inl ⟨hps, rfl, by rw [b6]; rfl, b7, by rw [b2.2 50 (by simp), e50, if_pos rfl], by rw [b2.2 51 (by simp), e51, if_pos rfl], (b8 hk).1, (b8 hk).2⟩
  · obtain ⟨l, hl1⟩ : ∃ l, (if p < s then nI (x p) else -1) = l := ⟨_, rfl⟩
    have hln : ¬ l = 104 ∧ ¬ l = 112 ∧ ¬ l = 108 ∧ ¬ l = 100 ∧ ∃ y : Int32, True := by
      rw [← hl1]
      by_cases h : p < s
      · have hh : hdL x p = false := by
          cases hq : hdL x p
          · rfl
          · exact absurd ⟨h, hq⟩ hb
        have h255 := (hl.2.2 p h).2
        obtain ⟨q1, q2, q3, q4⟩ := hdL_f x hh
        rw [if_pos h, show (104 : Int32) = nI 104 from rfl, show (112 : Int32) = nI 112 from rfl, show (108 : Int32) = nI 108 from rfl, show (100 : Int32) = nI 100 from rfl]
        simp only [eqn h255 (show 104 ≤ 255 by omega), eqn h255 (show 108 ≤ 255 by omega), eqn h255 (show 112 ≤ 255 by omega), eqn h255 (show 100 ≤ 255 by omega)]
        exact ⟨q1, q2, q3, q4, 0, trivial⟩
      · rw [if_neg h]
        exact ⟨by decide, by decide, by decide, by decide, 0, trivial⟩
    obtain ⟨n1, n2, n3, n4, -⟩ := hln
    have s1 := st l 1 hl1 (by rw [if_neg n1, if_neg n2, if_neg n3, if_neg n4]; rfl)
    obtain ⟨U, hU⟩ : ∃ U, U = sI (sI (sI (sI T 50 i (nI p)) 51 i l) 33 29 1) 33 28 (nI p) := ⟨_, rfl⟩
    have u2' : Ag [33, 50, 51, 52] T U := by rw [hU]; exact (((Ag.sI (by simp)).sIt (by simp)).sIt (by simp)).sIt (by simp)
    have u3 : O33 [28, 29, 30] T U := by rw [hU]; exact (((O33.sI (by simp)).tr (O33.sI (by simp))).tr (O33.sI (by simp))).tr (O33.sI (by simp))
    have hMU : ModZ U.2 := by rw [u2'.1]; exact hM
    have hlU := hl.ag u2' u3 (by simp) (by simp)
    have e28 : mI U 33 28 = nI p := by rw [hU]; simp [mI_s]
    have e29 : mI U 33 29 = b2i true := by rw [hU]; simp [mI_s, b2i]
    have e30 : mI U 33 30 = nI i := by rw [hU]; simp [mI_s, h30]
    have e50 : ∀ k, mI U 50 k = if k = i then nI p else mI T 50 k := fun k => by rw [hU]; simp [mI_s]
    have e51 : ∀ k, mI U 51 k = if k = i then l else mI T 51 k := fun k => by rw [hU]; simp [mI_s]
    have e52 : mI U 52 = mI T 52 := by funext k; rw [hU]; simp [mI_s]
    have s2 : f_X12_readStatement_64 (sI (sI T 50 i (nI p)) 51 i l) 33 (nI i) l 33 1 = f_X12_readStatement_114 FU U 33 (nI i) l (nI 2) (nI 0) := by
      simp only [f_X12_readStatement_64, f_X12_readStatement_84, f_X12_readStatement_110, hM.b1, hM.p, sI_2, Option.bind_some, hM.i, mI_s, and_self, if_true, true_and, show ¬ ((28 : Nat) = 29) by omega, show ¬ ((33 : Nat) = 50) by omega, show ¬ ((33 : Nat) = 51) by omega, false_and, if_false, h28, show ¬ ((1 : Int32) = 0) by decide, Int32.add_zero, n1, n3]
      rw [hU]
      rfl
    obtain ⟨T1, a1, a2, a3, a4, a5, -⟩ := X12_rd114 hi (show 2 ≤ 8 by omega) l 2 FU 0 p true U (by omega) (by show 2 < 3000; omega) hMU hlU e28 hp e29
    obtain ⟨a6, a7⟩ := a5 rfl
    have hM1 : ModZ T1.2 := by rw [a2.1]; exact hMU
    have hlT := hlU.ag a2 a3 (by simp) (by simp)
    obtain ⟨T2, b1, b2, b3, b4, b5, b6⟩ := X12_rd180 (w := true) hM1 hlT a6 hp a7 ((a3 30 (by simp)).trans e30)
    have s3 : rdK T1 (nI i) l (nI 2) = f_X12_readStatement_180 T1 33 := by rw [rdK, if_neg n1, if_neg n4]
    refine ⟨T2, (((s1.trans s2).trans a1).trans s3).trans b1, (u2'.tr (a2.mono (by simp))).tr (b2.mono (by simp)), (u3.tr (a3.mono (by simp))).tr b3, b4, fun k hk => ⟨?_, ?_, fun j hj => ?_⟩, Or.inr ⟨fun h => ?_, ?_, b6⟩⟩
    · rw [b2.2 50 (by simp), a2.2 50 (by simp), e50, if_neg hk]
    · rw [b2.2 51 (by simp), a2.2 51 (by simp), e51, if_neg hk]
    · rw [b2.2 52 (by simp), a4 _ (by omega), e52]
    · cases hq : hdL x p
      · rw [okL, hq, Bool.false_and]
      · exact absurd ⟨h, hq⟩ hb
    · rw [if_neg hb]
      exact b5
end
