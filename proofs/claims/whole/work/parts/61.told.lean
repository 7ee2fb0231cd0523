/-! letters: all statements are read by the reference -/
section
variable {x : Nat → Nat} {s : Nat}
theorem X12_mt20 : ∀ (f fuel k : Nat) (T : Mm), s ≤ qL x s k + f → f + 2 < fuel → ModZ T.2 → LtM x s T → (∀ i, i < k → okL x s (qL x s i) = true) → mI T 33 28 = nI (qL x s k) → mI T 33 29 = 0 → mI T 33 30 = nI k → (∀ i, i < k → rwL x s T i (qL x s i)) → ∃ T', f_X12_mountain_20 fuel T 33 = f_X12_mountain_52 T' 33 ∧ Ag [33, 50, 51, 52] T T' ∧ O33 [28, 29, 30] T T' ∧ (((if k = 0 ∧ s = 0 then some 0 else fwL x s f (qL x s k)) = none ∧ mI T' 33 29 = 0 ∧ ∃ N, 0 < N ∧ (∀ i, i < N → okL x s (qL x s i) = true) ∧ s ≤ qL x s N ∧ mI T' 33 30 = nI N ∧ ∀ i, i < N → rwL x s T' i (qL x s i)) ∨ ∃ e, (if k = 0 ∧ s = 0 then some 0 else fwL x s f (qL x s k)) = some e ∧ mI T' 33 28 = nI e ∧ mI T' 33 29 = 1) := by
  intro f
  induction f with
  | zero =>
    intro fuel k T hf hfu hM hl hok h28 h29 h30 hr
    have h96 := hl.1
    have q1 := qL_ge x s k hok
    have q2 := qL_le x s k hok
    obtain ⟨g, rfl⟩ : ∃ g, fuel = g + 1 := ⟨fuel - 1, by omega⟩
    obtain ⟨g', rfl⟩ : ∃ g', g = g' + 1 := ⟨g - 1, by omega⟩
    rw [f_X12_mountain_20, hM.i T _ rfl, h29]
    simp only [Option.bind_some, if_true, hM.i T _ rfl, h30, h28, hl.2.1]
    by_cases hk : k = 0
    · subst hk
      have hq0 : qL x s 0 = 0 := rfl
      have hs0 : s = 0 := by omega
      obtain ⟨T1, a1, a2, a3, a4, a5, a6⟩ := X12_rdS (i := 0) (by omega) hM hl q2 h28 h29 h30
      have hM1 : ModZ T1.2 := by rw [a2.1]; exact hM
      rcases a6 with ⟨h, -⟩ | ⟨-, b1, b2⟩
      · omega
      · refine ⟨T1, ?_, a2, a3, Or.inr ⟨0, by rw [if_pos ⟨rfl, hs0⟩], ?_, b2⟩⟩
        · rw [if_pos (show nI 0 = 0 from rfl), f_X12_mountain_45, a1]
          simp only [Option.bind_some]
          rw [f_X12_mountain_20, hM1.i T1 _ rfl, b2]
          simp only [Option.bind_some]
          rw [if_neg (by decide)]
        · rw [b1, if_neg (by omega), hq0]
    · refine ⟨T, ?_, Ag.rf, O33.rf, Or.inl ⟨by rw [if_neg (fun h => hk h.1)]; rfl, h29, k, by omega, hok, by omega, h30, hr⟩⟩
      rw [if_neg (show ¬ nI k = 0 from fun e => hk ((nI_eq (b := 0) (by omega) (by omega)).mp e)), if_pos (by rw [nI_lei (by omega) (by omega)]; omega)]
  | succ f ih =>
    intro fuel k T hf hfu hM hl hok h28 h29 h30 hr
    have h96 := hl.1
    have q1 := qL_ge x s k hok
    have q2 := qL_le x s k hok
    obtain ⟨g, rfl⟩ : ∃ g, fuel = g + 1 := ⟨fuel - 1, by omega⟩
    obtain ⟨g', rfl⟩ : ∃ g', g = g' + 1 := ⟨g - 1, by omega⟩
    rw [f_X12_mountain_20, hM.i T _ rfl, h29]
    simp only [Option.bind_some, if_true, hM.i T _ rfl, h30, h28, hl.2.1]
    by_cases hks : k ≠ 0 ∧ s ≤ qL x s k
    · refine ⟨T, ?_, Ag.rf, O33.rf, Or.inl ⟨by rw [if_neg (fun h => hks.1 h.1), fwL, if_pos hks.2], h29, k, by omega, hok, hks.2, h30, hr⟩⟩
      rw [if_neg (show ¬ nI k = 0 from fun e => hks.1 ((nI_eq (b := 0) (by omega) (by omega)).mp e)), if_pos (by rw [nI_lei (by omega) (by omega)]; omega)]
    · have go : (if nI k = 0 then f_X12_mountain_45 (f_X12_mountain_20 (g' + 1)) T 33 else if nI s ≤ nI (qL x s k) then f_X12_mountain_52 T 33 else f_X12_mountain_45 (f_X12_mountain_20 (g' + 1)) T 33) = f_X12_mountain_45 (f_X12_mountain_20 (g' + 1)) T 33 := by
        by_cases hk : k = 0
        · rw [if_pos (by rw [hk]; rfl)]
        · rw [if_neg (show ¬ nI k = 0 from fun e => hk ((nI_eq (b := 0) (by omega) (by omega)).mp e)), if_neg (by rw [nI_lei (by omega) (by omega)]; exact fun h => hks ⟨hk, h⟩)]
      rw [go]
      obtain ⟨T1, a1, a2, a3, a4, a5, a6⟩ := X12_rdS (i := k) (by omega) hM hl q2 h28 h29 h30
      have hM1 : ModZ T1.2 := by rw [a2.1]; exact hM
      have hl1 := hl.ag a2 a3 (by simp) (by simp)
      rw [f_X12_mountain_45, a1]
      simp only [Option.bind_some]
      rcases a6 with ⟨h, hkk, b1, b2, b3⟩ | ⟨hno, b1, b2⟩
      · have hen := (okL_t x s hkk).2.1
        have hok1 : ∀ i, i < k + 1 → okL x s (qL x s i) = true := fun i hi => by
          by_cases e : i = k
          · rw [e]
            exact hkk
          · exact hok i (by omega)
        obtain ⟨T', c1, c2, c3, c4⟩ := ih (g' + 1) (k + 1) T1 (by rw [qL]; omega) (by omega) hM1 hl1 hok1 b1 b2 a4 (fun i hi => by
          by_cases e : i = k
          · rw [e]
            exact b3
          · obtain ⟨r1, r2, r3, r4⟩ := hr i (by omega)
            obtain ⟨t1, t2, t3⟩ := a5 i e
            obtain ⟨nu3, fx8⟩ := nu_b (x (qL x s i))
            exact ⟨t1.trans r1, t2.trans r2, fun j hj => (t3 j (by omega)).trans (r3 j hj), fun hn => (t3 _ (by omega)).trans (r4 hn)⟩)
        have hs0 : ¬ (k = 0 ∧ s = 0) := by omega
        refine ⟨T', c1, a2.tr c2, a3.tr c3, ?_⟩
        rw [if_neg (by omega)] at c4
        rw [if_neg hs0, fwL, if_neg (by omega), if_pos hkk]
        exact c4
      · have stop : f_X12_mountain_20 (g' + 1) T1 33 = f_X12_mountain_52 T1 33 := by
          rw [f_X12_mountain_20, hM1.i T1 _ rfl, b2]
          simp only [Option.bind_some]
          rw [if_neg (by decide)]
        refine ⟨T1, stop, a2, a3, Or.inr ?_⟩
        by_cases hs0 : k = 0 ∧ s = 0
        · obtain ⟨rfl, h0⟩ := hs0
          refine ⟨0, by rw [if_pos ⟨rfl, h0⟩], ?_, b2⟩
          rw [b1, if_neg (by omega)]
          rfl
        · have hlt : qL x s k < s := by
            by_cases hk : k = 0
            · subst hk
              show 0 < s
              omega
            · exact Nat.lt_of_not_le (fun h => hks ⟨hk, h⟩)
          refine ⟨if hdL x (qL x s k) = true then enL x s (qL x s k) else qL x s k, ?_, ?_, b2⟩
          · rw [if_neg hs0, fwL, if_neg (by omega), if_neg (by rw [hno hlt]; simp)]
          · rw [b1]
            by_cases hh : hdL x (qL x s k) = true
            · rw [if_pos ⟨hlt, hh⟩, if_pos hh]
            · rw [if_neg (fun h => hh h.2), if_neg hh]
end
/-! what a statement does to a value -/
def hsW (W : Vw) (a : Nat) (F : Nat → Int32) : Vw := fun r k => if k = a ∧ 1 ≤ r ∧ r ≤ 7 then F r else W r k
def nhV (W : Vw) (n : Nat) (F : Nat → Int32) (c : Int32) : Vw := u2 (u2 (hsW W n F) 8 n c) 0 0 (nI (n + 1))
def hfL (x : Nat → Nat) (p : Nat) : Nat → Nat
  | 1 => x (p + 1) - 48
  | 2 => x (p + 2) - 48
  | 3 => 10 * (x (p + 3) - 48) + (x (p + 4) - 48)
  | 4 => x (p + 5) - 48
  | 5 => x (p + 6) - 48
  | 6 => x (p + 7) - 48
  | _ => x (p + 8) - 48
def apL (x : Nat → Nat) (s : Nat) (W : Vw) (n p : Nat) : Option (Vw × Nat) :=
  if x p = 104 then (if x (p + 1) - 48 ≤ 5 ∧ x (p + 5) - 48 < 3 ∧ x (p + 7) - 48 < 3 ∧ n < 6 then some (nhV W n (fun r => nI (hfL x p r)) (nI (nmL x (enL x s p - (p + 9)) (p + 9) 0)), n + 1) else none)
  else if x p = 112 then (if x (p + 1) - 48 < 3 ∧ 0 < x (p + 2) - 48 then some (u2 W 11 (x (p + 1) - 48) (nI (x (p + 2) - 48)), n) else none)
  else if x p = 108 then (if x (p + 1) - 48 < 3 then some (u2 W 0 1 (nI (x (p + 1) - 48)), n) else none)
  else (if x (p + 1) - 48 < n ∧ x (p + 2) - 48 < n ∧ x (p + 1) - 48 ≠ x (p + 2) - 48 then some (u2 W 10 (6 * (x (p + 1) - 48) + (x (p + 2) - 48)) (nI (nmL x (enL x s p - (p + 3)) (p + 3) 0)), n) else none)
theorem hsW_ne {W : Vw} {a r k : Nat} {F : Nat → Int32} (h : ¬ (k = a ∧ 1 ≤ r ∧ r ≤ 7)) : hsW W a F r k = W r k := if_neg h
theorem bdr.hs {W : Vw} {a r m b : Nat} {F : Nat → Int32} (h : bdr W r m b) (hF : 1 ≤ r → r ≤ 7 → ∃ q, q ≤ b ∧ F r = nI q) : bdr (hsW W a F) r m b := by
  intro k hk
  by_cases hc : k = a ∧ 1 ≤ r ∧ r ≤ 7
  · rw [hsW, if_pos hc]
    exact hF hc.2.1 hc.2.2
  · rw [hsW_ne hc]
    exact h k hk
theorem nhV_ok {W : Vw} {n c : Nat} {f : Nat → Nat} (hB : Bd W n) (hn : n < 6) (h1 : f 1 ≤ 5) (h2 : f 2 ≤ 9) (h3 : f 3 ≤ 99) (h4 : f 4 ≤ 2) (h5 : f 5 ≤ 9) (h6 : f 6 ≤ 2) (h7 : f 7 ≤ 9) (hc : c ≤ 9999) : Bd (nhV W n (fun r => nI (f r)) (nI c)) (n + 1) := by
  have R : ∀ {r m b : Nat}, bdr W r m b → r ≠ 0 → (1 ≤ r → r ≤ 7 → f r ≤ b) → (r = 8 → c ≤ b) → bdr (nhV W n (fun r => nI (f r)) (nI c)) r m b := fun h h0 hF h8 => ((h.hs (fun a1 a2 => ⟨_, hF a1 a2, rfl⟩)).set (fun e => h8 e.symm)).set (fun e => absurd e.symm h0)
  refine ⟨hn, u2_eq, ?_, R hB.r1 (by omega) (fun _ _ => h1) (by omega), R hB.r2 (by omega) (fun _ _ => h2) (by omega), R hB.r3 (by omega) (fun _ _ => h3) (by omega), R hB.r4 (by omega) (fun _ _ => h4) (by omega), R hB.r5 (by omega) (fun _ _ => h5) (by omega), R hB.r6 (by omega) (fun _ _ => h6) (by omega), R hB.r7 (by omega) (fun _ _ => h7) (by omega), R hB.r8 (by omega) (by omega) (fun _ => hc), R hB.r9 (by omega) (by omega) (by omega), R hB.r10 (by omega) (by omega) (by omega), fun k hk => ?_, fun a a1 a2 => ⟨?_, fun g hg => ?_⟩, fun a b a1 a2 a3 => ?_⟩
  · rw [nhV, u2_ne (by omega), u2_ne (by omega), hsW_ne (by omega)]
    exact hB.lw
  · rw [nhV, u2_ne (by omega), u2_ne (by omega), hsW_ne (by omega)]
    exact hB.r11 k hk
  · rw [nhV, u2_ne (by omega), u2_ne (by omega), hsW_ne (by omega)]
    exact (hB.z9 a (by omega) a2).1
  · rw [nhV, u2_ne (by omega), u2_ne (by omega), hsW_ne (by omega)]
    exact (hB.z9 a (by omega) a2).2 g hg
  · rw [nhV, u2_ne (by omega), u2_ne (by omega), hsW_ne (by omega)]
    exact hB.z10 a b a1 a2 (by omega)
section
variable {x : Nat → Nat} {s : Nat}
theorem fx_h : fxL 104 = 8 ∧ nuL 104 = 3 ∧ fxL 112 = 2 ∧ nuL 112 = 0 ∧ fxL 108 = 1 ∧ nuL 108 = 0 ∧ fxL 100 = 2 ∧ nuL 100 = 2 := ⟨rfl, rfl, rfl, rfl, rfl, rfl, rfl, rfl⟩
theorem ok_d {p j : Nat} (hk : okL x s p = true) (h1 : 0 < j) (h2 : j ≤ fxL (x p)) : dgL x s (p + j) = true := by
  have h3 := (okL_t x s hk).2.1
  have h4 : fxL (x p) ≤ mnL (x p) := Nat.le_add_right _ _
  exact ok_dg x s hk (by omega) (by omega)
theorem ap_ok {W W' : Vw} {n n' p : Nat} (hB : Bd W n) (hk : okL x s p = true) (h : apL x s W n p = some (W', n')) : Bd W' n' ∧ W' 0 2 = W 0 2 ∧ W' 0 3 = W 0 3 := by
  have D : ∀ {j : Nat}, 0 < j → j ≤ fxL (x p) → 48 ≤ x (p + j) ∧ x (p + j) ≤ 57 := fun h1 h2 => (dgL_t x s (ok_d hk h1 h2)).2
  obtain ⟨hh, e1, e2, e3⟩ := okL_t x s hk
  have hen := rn_le x s (fxL (x p) + nuL (x p)) (p + 1)
  have N : ∀ (a c : Nat), p < a → a + c ≤ enL x s p → nmL x c a 0 < 10 ^ c := fun a c ha hc => by
    have := nm_le x c a 0 0 (by omega) (fun q q1 q2 => (dgL_t x s (ok_dg x s hk (q := q) (by omega) (by omega))).2.2)
    rwa [Nat.zero_add] at this
  unfold apL at h
  rcases hdL_t x hh with hx | hx | hx | hx
  · rw [if_pos hx] at h
    rw [hx] at D e1 hen
    split at h
    · next hc =>
      injection h with h
      injection h with h1 h2
      subst h1
      subst h2
      have d1 := D (j := 1) (by omega) (by show 1 ≤ 8; omega)
      have d2 := D (j := 2) (by omega) (by show 2 ≤ 8; omega)
      have d3 := D (j := 3) (by omega) (by show 3 ≤ 8; omega)
      have d4 := D (j := 4) (by omega) (by show 4 ≤ 8; omega)
      have d6 := D (j := 6) (by omega) (by show 6 ≤ 8; omega)
      have d8 := D (j := 8) (by omega) (by show 8 ≤ 8; omega)
      have e1' : p + 1 + 9 ≤ enL x s p := e1
      have hen' : enL x s p ≤ p + 1 + 11 := by
        have : enL x s p = rnL x s (fxL 104 + nuL 104) (p + 1) := by rw [enL, hx]
        rw [this]
        exact hen
      have n1 := N (p + 9) (enL x s p - (p + 9)) (by omega) (by omega)
      have n2 : (10 : Nat) ^ (enL x s p - (p + 9)) ≤ 10 ^ 3 := Nat.pow_le_pow_right (by omega) (by omega)
      refine ⟨nhV_ok hB hc.2.2.2 hc.1 (by show x (p + 2) - 48 ≤ 9; omega) (by show 10 * (x (p + 3) - 48) + (x (p + 4) - 48) ≤ 99; omega) (by show x (p + 5) - 48 ≤ 2; omega) (by show x (p + 6) - 48 ≤ 9; omega) (by show x (p + 7) - 48 ≤ 2; omega) (by show x (p + 8) - 48 ≤ 9; omega) (by omega), ?_, ?_⟩
      · rw [nhV, u2_ne (by omega), u2_ne (by omega), hsW_ne (by omega)]
      · rw [nhV, u2_ne (by omega), u2_ne (by omega), hsW_ne (by omega)]
    · cases h
  · rw [if_neg (by omega), if_pos hx] at h
    rw [hx] at D
    split at h
    · next hc =>
      injection h with h
      injection h with h1 h2
      subst h1
      subst h2
      have d2 := D (j := 2) (by omega) (by show 2 ≤ 2; omega)
      exact ⟨hB.u11 hc.2 (by omega), u2_ne (by omega), u2_ne (by omega)⟩
    · cases h
  · rw [if_neg (by omega), if_neg (by omega), if_pos hx] at h
    split at h
    · next hc =>
      injection h with h
      injection h with h1 h2
      subst h1
      subst h2
      exact ⟨hB.u01 hc, u2_ne (by omega), u2_ne (by omega)⟩
    · cases h
  · rw [if_neg (by omega), if_neg (by omega), if_neg (by omega)] at h
    rw [hx] at D e1 hen
    split at h
    · next hc =>
      injection h with h
      injection h with h1 h2
      subst h1
      subst h2
      have e1' : p + 1 + 3 ≤ enL x s p := e1
      have hen' : enL x s p ≤ p + 1 + 4 := by
        have : enL x s p = rnL x s (fxL 100 + nuL 100) (p + 1) := by rw [enL, hx]
        rw [this]
        exact hen
      have n1 := N (p + 3) (enL x s p - (p + 3)) (by omega) (by omega)
      have n2 : (10 : Nat) ^ (enL x s p - (p + 3)) ≤ 10 ^ 2 := Nat.pow_le_pow_right (by omega) (by omega)
      exact ⟨hB.u10 hc.1 hc.2.1 (by omega), u2_ne (by omega), u2_ne (by omega)⟩
    · cases h
end
