/-! letters: the reference's reader -/
theorem ModZ.b0 {Z : Zt} (h : ModZ Z) : ∀ (S : Mm) (j : Nat), S.2 = Z → pB S 11 33 j 0 = some (sI S 33 j 0) := fun S j e => by
  rw [pB, if_pos (by rw [h.o S e]; rfl)]
theorem ModZ.b1 {Z : Zt} (h : ModZ Z) : ∀ (S : Mm) (j : Nat), S.2 = Z → pB S 11 33 j 1 = some (sI S 33 j 1) := fun S j e => by
  rw [pB, if_pos (by rw [h.o S e]; rfl)]
def LtM (x : Nat → Nat) (s : Nat) (T : Mm) : Prop := s ≤ 96 ∧ mI T 33 27 = nI s ∧ ∀ k, k < s → mI T 49 k = nI (x k) ∧ x k ≤ 255
section
variable {x : Nat → Nat} {s : Nat}
theorem LtM.ag {cs js : List Nat} {T T' : Mm} (h : LtM x s T) (hA : Ag cs T T') (hO : O33 js T T') (hc : 49 ∉ cs) (hj : 27 ∉ js) : LtM x s T' := ⟨h.1, (hO 27 hj).trans h.2.1, fun k hk => by rw [hA.2 49 hc]; exact h.2.2 k hk⟩
theorem X12_here {T : Mm} (hM : ModZ T.2) (hl : LtM x s T) {p : Nat} (h28 : mI T 33 28 = nI p) (hp : p ≤ s) : f_X12_here T 33 = some (if p < s then nI (x p) else -1, T) := by
  have h96 := hl.1
  simp only [f_X12_here, f_X12_here_24, hM.o T rfl, if_true, hM.i T _ rfl, Option.bind_some, h28, hl.2.1]
  by_cases h : p < s
  · rw [if_neg (by rw [nI_lei (by omega) (by omega)]; omega), if_pos h, hM.g26 T rfl]
    simp only [Option.bind_some, hM.a49.ld T p rfl (show p < 96 by omega), (hl.2.2 p h).1]
  · rw [if_pos (by rw [nI_lei (by omega) (by omega)]; omega), if_neg h]
theorem isD_n : ∀ y, y < 256 → (decide ((48 : Int64) ≤ (nI y).toInt64) && decide ((nI y).toInt64 ≤ 57)) = (decide (48 ≤ y) && decide (y ≤ 57)) := by decide +kernel
theorem X12_isD {T T' : Mm} (hl : LtM x s T) (p : Nat) : f_X12_in T' (if p < s then nI (x p) else -1).toInt64 48 57 = some (b2i (dgL x s p), T') := by
  rw [X12_in, dgL]
  by_cases h : p < s
  · have := (hl.2.2 p h).2
    rw [if_pos h, isD_n _ (by omega), decide_eq_true h, Bool.true_and]
  · rw [if_neg h, decide_eq_false h, Bool.false_and]
    rfl
theorem X12_rdw {T : Mm} (hM : ModZ T.2) (h29 : mI T 33 29 = 1) : f_X12_readDigit T 33 = some (0, sI T 33 29 1) := by
  simp only [f_X12_readDigit, f_X12_readDigit_25, f_X12_readDigit_30, hM.o T rfl, if_true, hM.i _ _ rfl, Option.bind_some, h29]
  rw [if_neg (by decide), hM.b1 T 29 rfl]
  simp only [Option.bind_some, hM.i (sI T 33 29 1) 29 rfl, mI_s, and_self, if_true]
  rw [if_neg (by decide)]
theorem X12_rdn {T : Mm} (hM : ModZ T.2) (hl : LtM x s T) {p : Nat} (h28 : mI T 33 28 = nI p) (hp : p ≤ s) (h29 : mI T 33 29 = 0) (hd : dgL x s p = false) : f_X12_readDigit T 33 = some (0, sI T 33 29 1) := by
  simp only [f_X12_readDigit, f_X12_readDigit_25, f_X12_readDigit_30, hM.o T rfl, if_true, hM.i T _ rfl, Option.bind_some, h29, X12_here hM hl h28 hp, X12_isD hl, hd, b2i_f]
  rw [hM.b1 T 29 rfl]
  simp only [Option.bind_some, hM.i (sI T 33 29 1) 29 rfl, mI_s, and_self, if_true]
  rw [if_neg (by decide)]
theorem X12_rdd {T : Mm} (hM : ModZ T.2) (hl : LtM x s T) {p : Nat} (h28 : mI T 33 28 = nI p) (hp : p ≤ s) (h29 : mI T 33 29 = 0) (hd : dgL x s p = true) : f_X12_readDigit T 33 = some (nI (x p - 48), sI (sI T 33 29 0) 33 28 (nI (p + 1))) := by
  have hx := dgL_t x s hd
  have h96 := hl.1
  simp only [f_X12_readDigit, f_X12_readDigit_25, f_X12_readDigit_30, hM.o T rfl, if_true, hM.i T _ rfl, Option.bind_some, h29, X12_here hM hl h28 hp, X12_isD hl, hd, b2i_t]
  rw [if_neg (by decide), hM.b0 T 29 rfl]
  have hp9 : p < 96 := by omega
  simp only [Option.bind_some, hM.i, hM.p, hM.g26, hM.a49.ld, sI_2, mI_s, and_self, if_true, true_and, show ¬ ((28 : Nat) = 29) by omega, if_false, h28, nI_1, nI_pred, hp9, show ¬ ((49 : Nat) = 33) by omega, false_and, (hl.2.2 p hx.1).1]
  rw [show (48 : Int32) = nI 48 from rfl, pk_sub hx.2.1]
/-- one digit -/
theorem X12_rd {T : Mm} (hM : ModZ T.2) (hl : LtM x s T) {p : Nat} {w : Bool} (h28 : mI T 33 28 = nI p) (hp : p ≤ s) (h29 : mI T 33 29 = b2i w) : ∃ T' v, f_X12_readDigit T 33 = some (v, T') ∧ Ag [33] T T' ∧ O33 [28, 29] T T' ∧ ((w = false ∧ dgL x s p = true ∧ v = nI (x p - 48) ∧ mI T' 33 28 = nI (p + 1) ∧ mI T' 33 29 = 0) ∨ ((w = true ∨ dgL x s p = false) ∧ v = 0 ∧ mI T' 33 28 = nI p ∧ mI T' 33 29 = 1)) := by
  have q1 : Ag [33] T (sI T 33 29 1) := Ag.sI (by simp)
  have q2 : O33 [28, 29] T (sI T 33 29 1) := O33.sI (by simp)
  have q3 : mI (sI T 33 29 1) 33 28 = nI p := by rw [mI_s, if_neg (by omega)]; exact h28
  have q4 : mI (sI T 33 29 1) 33 29 = 1 := by rw [mI_s, if_pos ⟨rfl, rfl⟩]
  cases w
  · cases hd : dgL x s p
    · exact ⟨_, _, X12_rdn hM hl h28 hp h29 hd, q1, q2, Or.inr ⟨Or.inr rfl, rfl, q3, q4⟩⟩
    · refine ⟨_, _, X12_rdd hM hl h28 hp h29 hd, (Ag.sI (by simp)).sIt (by simp), (O33.sI (by simp)).tr (O33.sI (by simp)), Or.inl ⟨rfl, rfl, rfl, ?_, ?_⟩⟩
      · rw [mI_s, if_pos ⟨rfl, rfl⟩]
      · rw [mI_s, if_neg (by omega), mI_s, if_pos ⟨rfl, rfl⟩]
  · exact ⟨_, _, X12_rdw hM h29, q1, q2, Or.inr ⟨Or.inl rfl, rfl, q3, q4⟩⟩
/-- what comes when the digits are read -/
def rdK (T : Mm) (i l2 c : Int32) : Option Mm := if l2 = 104 then f_X12_readStatement_154 T 33 i l2 c else (if l2 = 100 then f_X12_readStatement_154 T 33 i l2 c else f_X12_readStatement_180 T 33)
theorem ix9 (a g : Nat) : 9 * nI a + nI g = nI (9 * a + g) := by
  rw [show (9 : Int32) = nI 9 from rfl, pk_mul, nI_add]
theorem X12_rd114 {i c : Nat} (hi : i ≤ 48) (hc : c ≤ 8) (l2 : Int32) : ∀ (d fuel j p : Nat) (w : Bool) (T : Mm), j + d = c → d < fuel → ModZ T.2 → LtM x s T → mI T 33 28 = nI p → p ≤ s → mI T 33 29 = b2i w → ∃ T', f_X12_readStatement_114 fuel T 33 (nI i) l2 (nI c) (nI j) = rdK T' (nI i) l2 (nI c) ∧ Ag [33, 52] T T' ∧ O33 [28, 29] T T' ∧ (∀ k, k < 9 * i + j ∨ 9 * i + c ≤ k → mI T' 52 k = mI T 52 k) ∧ (w = true → mI T' 33 28 = nI p ∧ mI T' 33 29 = 1) ∧ (w = false → mI T' 33 28 = nI (rnL x s d p) ∧ mI T' 33 29 = b2i (decide (rnL x s d p < p + d)) ∧ (rnL x s d p = p + d → ∀ k, k < d → mI T' 52 (9 * i + j + k) = nI (x (p + k) - 48))) := by
  intro d
  induction d with
  | zero =>
    intro fuel j p w T hj hf hM hl h28 hp h29
    obtain ⟨m, rfl⟩ : ∃ m, fuel = m + 1 := ⟨fuel - 1, by omega⟩
    refine ⟨T, ?_, Ag.rf, O33.rf, fun _ _ => rfl, fun hw => ⟨h28, by rw [h29, hw]; rfl⟩, fun hw => ⟨h28, ?_, fun _ k hk => by omega⟩⟩
    · rw [f_X12_readStatement_114, if_pos (by rw [nI_lei (by omega) (by omega)]; omega)]
      rfl
    · rw [h29, hw, rnL, Nat.add_zero, decide_eq_false (by omega)]
  | succ d ih =>
    intro fuel j p w T hj hf hM hl h28 hp h29
    obtain ⟨m, rfl⟩ : ∃ m, fuel = m + 1 := ⟨fuel - 1, by omega⟩
    obtain ⟨T1, v, a1, a2, a3, a4⟩ := X12_rd hM hl h28 hp h29
    have hM1 : ModZ T1.2 := by rw [a2.1]; exact hM
    have hl1 := hl.ag a2 a3 (by simp) (by simp)
    have hM2 : ModZ (sI T1 52 (9 * i + j) v).2 := hM1
    have b2 : Ag [33, 52] T1 (sI T1 52 (9 * i + j) v) := Ag.sI (by simp)
    have b3 : O33 [28, 29] T1 (sI T1 52 (9 * i + j) v) := O33.sI (by simp)
    have hl2 := hl1.ag b2 b3 (by simp) (by simp)
    have e33 : ∀ q, mI (sI T1 52 (9 * i + j) v) 33 q = mI T1 33 q := fun q => by rw [mI_s, if_neg (by omega)]
    have st : f_X12_readStatement_114 (m + 1) T 33 (nI i) l2 (nI c) (nI j) = f_X12_readStatement_114 m (sI T1 52 (9 * i + j) v) 33 (nI i) l2 (nI c) (nI (j + 1)) := by
      rw [f_X12_readStatement_114, if_neg (by rw [nI_lei (by omega) (by omega)]; omega), hM.g33 T rfl]
      simp only [Option.bind_some]
      rw [a1]
      simp only [Option.bind_some, ix9]
      rw [hM1.a52.st T1 _ v rfl (by omega)]
      simp only [Option.bind_some, nI_1]
    rcases a4 with ⟨rfl, hd, rfl, c28, c29⟩ | ⟨hw, rfl, c28, c29⟩
    · have hx := dgL_t x s hd
      obtain ⟨T2, d1, d2, d3, d4, d5, d6⟩ := ih m (j + 1) (p + 1) false _ (by omega) (by omega) hM2 hl2 (by rw [e33]; exact c28) (by omega) (by rw [e33]; exact c29)
      obtain ⟨d7, d8, d9⟩ := d6 rfl
      refine ⟨T2, st.trans d1, ((a2.mono (by simp)).tr b2).tr d2, (a3.tr b3).tr d3, fun k hk => ?_, fun h => (by cases h), fun _ => ?_⟩
      · rw [d4 k (by omega), mI_s, if_neg (by omega), a2.2 52 (by simp)]
      · rw [rn_1 x s hd]
        refine ⟨d7, by rw [d8, show p + 1 + d = p + (d + 1) by omega], fun hr k hk => ?_⟩
        cases k with
        | zero =>
          rw [d4 _ (by omega), mI_s, if_pos ⟨rfl, rfl⟩]
          rfl
        | succ k =>
          have := d9 (by omega) k (by omega)
          rw [show 9 * i + j + (k + 1) = 9 * i + (j + 1) + k by omega, this, show p + 1 + k = p + (k + 1) by omega]
    · obtain ⟨T2, d1, d2, d3, d4, d5, d6⟩ := ih m (j + 1) p true _ (by omega) (by omega) hM2 hl2 (by rw [e33]; exact c28) hp (by rw [e33]; exact c29)
      obtain ⟨d7, d8⟩ := d5 rfl
      refine ⟨T2, st.trans d1, ((a2.mono (by simp)).tr b2).tr d2, (a3.tr b3).tr d3, fun k hk => ?_, fun _ => ⟨d7, d8⟩, fun h => ?_⟩
      · rw [d4 k (by omega), mI_s, if_neg (by omega), a2.2 52 (by simp)]
      · rcases hw with hw | hw
        · rw [hw] at h
          cases h
        · rw [rn_0 x s hw]
          exact ⟨d7, by rw [d8, decide_eq_true (by omega)]; rfl, fun h => by omega⟩
/-- a number -/
theorem X12_rdN7 {m : Nat} (hm : m < 100) : ∀ (d fuel k p a : Nat) (T : Mm), k + d = m → d < fuel → ModZ T.2 → LtM x s T → mI T 33 28 = nI p → p ≤ s → mI T 33 29 = 0 → ∃ T', f_X12_readNumber_7 fuel T 33 (nI m) (nI a) (nI k) = some (nI (nmL x (rnL x s d p - p) p a), T') ∧ Ag [33] T T' ∧ O33 [28, 29] T T' ∧ mI T' 33 28 = nI (rnL x s d p) ∧ mI T' 33 29 = 0 := by
  intro d
  induction d with
  | zero =>
    intro fuel k p a T hk hf hM hl h28 hp h29
    obtain ⟨g, rfl⟩ : ∃ g, fuel = g + 1 := ⟨fuel - 1, by omega⟩
    refine ⟨T, ?_, Ag.rf, O33.rf, h28, h29⟩
    rw [f_X12_readNumber_7, if_pos (by rw [nI_lei (by omega) (by omega)]; omega), rnL, Nat.sub_self]
    rfl
  | succ d ih =>
    intro fuel k p a T hk hf hM hl h28 hp h29
    obtain ⟨g, rfl⟩ : ∃ g, fuel = g + 1 := ⟨fuel - 1, by omega⟩
    rw [f_X12_readNumber_7, if_neg (by rw [nI_lei (by omega) (by omega)]; omega)]
    simp only [hM.i T _ rfl, h29, Option.bind_some, if_true, X12_here hM hl h28 hp, X12_isD hl, b2i_0]
    cases hd : dgL x s p
    · refine ⟨T, ?_, Ag.rf, O33.rf, by rw [rn_0 x s hd]; exact h28, h29⟩
      rw [rn_0 x s hd, Nat.sub_self]
      rfl
    · have hx := dgL_t x s hd
      obtain ⟨T1, v, a1, a2, a3, a4⟩ := X12_rd (w := false) hM hl h28 hp h29
      rcases a4 with ⟨-, -, rfl, c28, c29⟩ | ⟨hw, -⟩
      · have hM1 : ModZ T1.2 := by rw [a2.1]; exact hM
        have hl1 := hl.ag a2 a3 (by simp) (by simp)
        obtain ⟨T2, d1, d2, d3, d4, d5⟩ := ih g (k + 1) (p + 1) (10 * a + (x p - 48)) T1 (by omega) (by omega) hM1 hl1 c28 (by omega) c29
        refine ⟨T2, ?_, a2.tr d2, a3.tr d3, by rw [rn_1 x s hd]; exact d4, d5⟩
        have hg := rn_ge x s d (p + 1)
        rw [if_neg (by simp), a1, rn_1 x s hd, show rnL x s d (p + 1) - p = rnL x s d (p + 1) - (p + 1) + 1 by omega, nmL]
        simp only [Option.bind_some, nI_1]
        rw [show (10 : Int32) = nI 10 from rfl, pk_mul, nI_add]
        exact d1
      · rcases hw with hw | hw
        · cases hw
        · rw [hd] at hw
          cases hw
set_option maxRecDepth 100000 in
theorem X12_rdN {m p : Nat} {w : Bool} {T : Mm} (hm0 : 0 < m) (hm : m < 100) (hM : ModZ T.2) (hl : LtM x s T) (h28 : mI T 33 28 = nI p) (hp : p ≤ s) (h29 : mI T 33 29 = b2i w) : ∃ T' v, f_X12_readNumber T 33 (nI m) = some (v, T') ∧ Ag [33] T T' ∧ O33 [28, 29] T T' ∧ (w = true → mI T' 33 28 = nI p ∧ mI T' 33 29 = 1) ∧ (w = false → mI T' 33 28 = nI (rnL x s m p) ∧ mI T' 33 29 = b2i (decide (rnL x s m p = p)) ∧ (rnL x s m p ≠ p → v = nI (nmL x (rnL x s m p - p) p 0))) := by
  obtain ⟨d, rfl⟩ : ∃ d, m = d + 1 := ⟨m - 1, by omega⟩
  obtain ⟨T1, v, a1, a2, a3, a4⟩ := X12_rd hM hl h28 hp h29
  have hM1 : ModZ T1.2 := by rw [a2.1]; exact hM
  have hl1 := hl.ag a2 a3 (by simp) (by simp)
  rcases a4 with ⟨rfl, hd, rfl, c28, c29⟩ | ⟨hw, rfl, c28, c29⟩
  · have hx := dgL_t x s hd
    obtain ⟨T2, d1, d2, d3, d4, d5⟩ := X12_rdN7 hm d FU 1 (p + 1) (x p - 48) T1 (by omega) (by show d < 3000; omega) hM1 hl1 c28 (by omega) c29
    have hg := rn_ge x s d (p + 1)
    refine ⟨T2, nI (nmL x (rnL x s d (p + 1) - (p + 1)) (p + 1) (x p - 48)), ?_, a2.tr d2, a3.tr d3, fun h => (by cases h), fun _ => ?_⟩
    · rw [f_X12_readNumber, if_pos (hM.o T rfl), a1]
      exact d1
    · rw [rn_1 x s hd]
      refine ⟨d4, by rw [d5, decide_eq_false (by omega)]; rfl, fun _ => ?_⟩
      rw [show rnL x s d (p + 1) - p = rnL x s d (p + 1) - (p + 1) + 1 by omega, nmL, Nat.mul_zero, Nat.zero_add]
  · refine ⟨T1, 0, ?_, a2, a3, fun _ => ⟨c28, c29⟩, fun h => ?_⟩
    · rw [f_X12_readNumber, if_pos (hM.o T rfl), a1]
      simp only [Option.bind_some]
      rw [show FU = 2999 + 1 from rfl, f_X12_readNumber_7]
      simp only [hM1.i T1 _ rfl, c29, Option.bind_some, f_X12_readNumber_52, show ¬ ((1 : Int32) = 0) by decide, if_false, ite_self]
    · rcases hw with hw | hw
      · rw [hw] at h
        cases h
      · rw [rn_0 x s hw]
        exact ⟨c28, by rw [c29, decide_eq_true rfl]; rfl, fun h => absurd rfl h⟩
/-- the sign behind a statement -/
def sgL (x : Nat → Nat) (s p : Nat) (w : Bool) : Bool := !w && (decide (p < s) && decide (x p = 59))
theorem X12_rd180 {T : Mm} {p i : Nat} {w : Bool} (hM : ModZ T.2) (hl : LtM x s T) (h28 : mI T 33 28 = nI p) (hp : p ≤ s) (h29 : mI T 33 29 = b2i w) (h30 : mI T 33 30 = nI i) : ∃ T', f_X12_readStatement_180 T 33 = some T' ∧ Ag [33] T T' ∧ O33 [28, 29, 30] T T' ∧ mI T' 33 30 = nI (i + 1) ∧ mI T' 33 28 = nI (if sgL x s p w = true then p + 1 else p) ∧ mI T' 33 29 = b2i (!sgL x s p w) := by
  have good : f_X12_readStatement_202 T 33 33 0 = some (sI (sI (sI T 33 29 0) 33 28 (nI (p + 1))) 33 30 (nI (i + 1))) := by
    simp only [f_X12_readStatement_202, f_X12_readStatement_222, hM.b0 T 29 rfl, Option.bind_some, hM.i, hM.p, sI_2, mI_s, and_self, if_true, true_and, show ¬ ((28 : Nat) = 29) by omega, show ¬ ((30 : Nat) = 29) by omega, show ¬ ((30 : Nat) = 28) by omega, if_false, h28, h30, nI_1]
  have bad : f_X12_readStatement_202 T 33 33 1 = some (sI (sI (sI T 33 29 1) 33 28 (nI p)) 33 30 (nI (i + 1))) := by
    simp only [f_X12_readStatement_202, f_X12_readStatement_222, hM.b1 T 29 rfl, Option.bind_some, hM.i, hM.p, sI_2, mI_s, and_self, if_true, true_and, show ¬ ((28 : Nat) = 29) by omega, show ¬ ((30 : Nat) = 29) by omega, show ¬ ((30 : Nat) = 28) by omega, if_false, h28, h30, nI_1, show ¬ ((1 : Int32) = 0) by decide, Int32.add_zero]
  have hA : ∀ u v y, Ag [33] T (sI (sI (sI T 33 29 u) 33 28 v) 33 30 y) := fun u v y => ((Ag.sI (by simp)).sIt (by simp)).sIt (by simp)
  have hO : ∀ u v y, O33 [28, 29, 30] T (sI (sI (sI T 33 29 u) 33 28 v) 33 30 y) := fun u v y => ((O33.sI (by simp)).tr (O33.sI (by simp))).tr (O33.sI (by simp))
  have e30 : ∀ u v y, mI (sI (sI (sI T 33 29 u) 33 28 v) 33 30 y) 33 30 = y := fun u v y => by simp [mI_s]
  have e28 : ∀ u v y, mI (sI (sI (sI T 33 29 u) 33 28 v) 33 30 y) 33 28 = v := fun u v y => by simp [mI_s]
  have e29 : ∀ u v y, mI (sI (sI (sI T 33 29 u) 33 28 v) 33 30 y) 33 29 = u := fun u v y => by simp [mI_s]
  cases w
  · have hs : sgL x s p false = true ∨ sgL x s p false = false := by cases sgL x s p false <;> simp
    simp only [f_X12_readStatement_180, f_X12_readStatement_197, hM.i T _ rfl, h29, b2i_f, Option.bind_some, if_true, X12_here hM hl h28 hp]
    rcases hs with hs | hs
    · have hs' := hs
      simp only [sgL, Bool.not_false, Bool.true_and, Bool.and_eq_true, decide_eq_true_eq] at hs'
      rw [if_pos hs'.1, if_pos (by rw [hs'.2]; rfl), good, hs]
      exact ⟨_, rfl, hA _ _ _, hO _ _ _, e30 _ _ _, e28 _ _ _, e29 _ _ _⟩
    · have hq : ¬ (if p < s then nI (x p) else -1) = 59 := by
        by_cases h : p < s
        · have := (hl.2.2 p h).2
          rw [if_pos h, show (59 : Int32) = nI 59 from rfl, nI_eq (by omega) (by omega)]
          intro e
          simp [sgL, h, e] at hs
        · rw [if_neg h]
          decide
      rw [if_neg hq, bad, hs]
      exact ⟨_, rfl, hA _ _ _, hO _ _ _, e30 _ _ _, e28 _ _ _, e29 _ _ _⟩
  · simp only [f_X12_readStatement_180, f_X12_readStatement_197, hM.i T _ rfl, h29, b2i_t, Option.bind_some]
    rw [if_neg (by decide), bad]
    exact ⟨_, rfl, hA _ _ _, hO _ _ _, e30 _ _ _, e28 _ _ _, e29 _ _ _⟩
end
