/-! most -/
def selV (V : Vw) (g : Nat) (mk : Int32) (h : Nat) : Nat → Nat → Bool
  | 0, _ => false
  | c + 1, i => (decide (((mk >>> (nI i &&& 31)) &&& 1) = 1) && (!wantV V i g && lawV V i h)) || selV V g mk h c (i + 1)
def cT (V : Vw) (n g : Nat) (mk : Int32) (h : Nat) : Int32 := if wantV V h g = true then (if selV V g mk h n 0 = true then V 7 h else 0) else (if ((mk >>> (nI h &&& 31)) &&& 1) = 0 then V 9 (3 * h + g) else 0)
def cutV (V : Vw) (n g : Nat) (mk : Int32) : Int32 := sm (cT V n g mk) n 0 0
def mnS (V : Vw) (n g : Nat) : Nat → Nat → Int32 → Int32
  | 0, _, a => a
  | c + 1, k, a => mnS V n g c (k + 1) (mnI a (cutV V n g (nI k)))
def mostV (V : Vw) (n g : Nat) : Int32 := mnS V n g (2 ^ n - 1) 1 (cutV V n g 0)
theorem sm_b {f : Nat → Int32} {B : Nat} : ∀ (c i a : Nat), (∀ k, i ≤ k → k < i + c → ∃ q, q ≤ B ∧ f k = nI q) → ∃ q, q ≤ a + B * c ∧ sm f c i (nI a) = nI q
  | 0, _, a, _ => ⟨a, by omega, rfl⟩
  | c + 1, i, a, h => by
    obtain ⟨q, q1, q2⟩ := h i (by omega) (by omega)
    obtain ⟨r, r1, r2⟩ := sm_b c (i + 1) (a + q) (fun k h1 h2 => h k (by omega) (by omega))
    refine ⟨r, ?_, ?_⟩
    · rw [Nat.mul_succ]
      omega
    · show sm f c (i + 1) (nI a + f i) = nI r
      rw [q2, nI_add]
      exact r2
theorem cT_b {V : Vw} {n g h : Nat} {mk : Int32} (hB : Bd V n) (hg : g < 3) (hh : h < 6) : ∃ q, q ≤ 99 ∧ cT V n g mk h = nI q := by
  unfold cT
  obtain ⟨a, a1, a2⟩ := hB.r7 h hh
  obtain ⟨b, b1, b2⟩ := hB.r9 (3 * h + g) (by omega)
  split
  · split
    · exact ⟨a, by omega, a2⟩
    · exact ⟨0, by omega, rfl⟩
  · split
    · exact ⟨b, by omega, b2⟩
    · exact ⟨0, by omega, rfl⟩
theorem cutV_nn {V : Vw} {n g : Nat} {mk : Int32} (hB : Bd V n) (hg : g < 3) : ¬ cutV V n g mk < 0 := by
  have h6 := hB.le
  obtain ⟨q, q1, q2⟩ := sm_b (f := cT V n g mk) (B := 99) n 0 0 (fun k _ h => cT_b hB hg (by omega))
  rw [cutV, show (0 : Int32) = nI 0 from rfl, q2, nI_lti (by omega) (by omega)]
  omega
theorem mnI_le {a b : Int32} : (if a ≤ b then a else b) = mnI a b := by
  unfold mnI
  by_cases h : a ≤ b
  · rw [if_pos h, if_neg (Int32.not_lt.mpr h)]
  · rw [if_neg h, if_pos (Int32.not_le.mp h)]
theorem mnI_nn {a b : Int32} (ha : ¬ a < 0) (hb : ¬ b < 0) : ¬ mnI a b < 0 := by
  unfold mnI
  split
  · exact hb
  · exact ha
theorem X10_seller3 {S : Mm} {L n h g : Nat} {mk : Int32} (hL : LandZ S.2 L) (hH : HsZ S.2 L) (hB : Bd (lV S L) n) (hh : h < 6) : ∀ (c fuel i : Nat), i + c = n → c < fuel → f_X10_hasSellerAmong_3 fuel S L (nI h) (nI g) mk (nI i) = some (b2i (selV (lV S L) g mk h c i), S) := by
  have h6 := hB.le
  intro c
  induction c with
  | zero =>
    intro fuel i hi hf
    obtain ⟨m, rfl⟩ : ∃ m, fuel = m + 1 := ⟨fuel - 1, by omega⟩
    rw [f_X10_hasSellerAmong_3, hL.i S _ rfl, lv0, hB.sz]
    simp only [Option.bind_some]
    rw [if_pos (by rw [nI_lei (by omega) (by omega)]; omega)]
    rfl
  | succ c ih =>
    intro fuel i hi hf
    obtain ⟨m, rfl⟩ : ∃ m, fuel = m + 1 := ⟨fuel - 1, by omega⟩
    have hi6 : i < 6 := by omega
    rw [f_X10_hasSellerAmong_3, hL.i S _ rfl, lv0, hB.sz]
    simp only [Option.bind_some]
    rw [if_neg (by rw [nI_lei (by omega) (by omega)]; omega)]
    simp only [hL.g0 S rfl, Option.bind_some, hL.hr hH hi6, dyW' hH hi6, X6_isLawful hL hH hi6 hh, f_X10_hasSellerAmong_48, nI_1, b2i_0, selV, ih m (i + 1) (by omega) (by omega)]
    by_cases hb : ((mk >>> (nI i &&& 31)) &&& 1) = 1
    · simp only [hb, if_true, decide_true, Bool.true_and]
      cases wantV (lV S L) i g
      · cases lawV (lV S L) i h <;> simp [b2i]
      · simp
    · simp only [hb, if_false, decide_false, Bool.false_and, Bool.false_or]
theorem X10_cut5 {S : Mm} {L n g : Nat} {mk : Int32} (hL : LandZ S.2 L) (hH : HsZ S.2 L) (hB : Bd (lV S L) n) (hg : g < 3) : ∀ (c fuel h : Nat) (t : Int32), h + c = n → c < fuel → f_X10_cutBeside_5 fuel S L (nI g) mk t (nI h) = some (sm (cT (lV S L) n g mk) c h t, S) := by
  have h6 := hB.le
  intro c
  induction c with
  | zero =>
    intro fuel h t hi hf
    obtain ⟨m, rfl⟩ : ∃ m, fuel = m + 1 := ⟨fuel - 1, by omega⟩
    rw [f_X10_cutBeside_5, hL.i S _ rfl, lv0, hB.sz]
    simp only [Option.bind_some]
    rw [if_pos (by rw [nI_lei (by omega) (by omega)]; omega)]
    rfl
  | succ c ih =>
    intro fuel h t hi hf
    obtain ⟨m, rfl⟩ : ∃ m, fuel = m + 1 := ⟨fuel - 1, by omega⟩
    have hh : h < 6 := by omega
    have hk : 3 * h + g < 18 := by omega
    have hb : f_X10_hasSellerAmong S L (nI h) (nI g) mk = some (b2i (selV (lV S L) g mk h n 0), S) := X10_seller3 hL hH hB hh n FU 0 (by omega) (by show n < 3000; omega)
    rw [f_X10_cutBeside_5, hL.i S _ rfl, lv0, hB.sz]
    simp only [Option.bind_some]
    rw [if_neg (by rw [nI_lei (by omega) (by omega)]; omega)]
    simp only [hL.g0 S rfl, Option.bind_some, hL.hr hH hh, dyW' hH hh, hb, X6_piecesOf hL hk, lv9 hk, gF_h hH hh, lv7 hh, f_X10_cutBeside_78, f_X10_cutBeside_54, nI_1, b2i_0]
    show _ = some (sm (cT (lV S L) n g mk) c (h + 1) (t + cT (lV S L) n g mk h), S)
    rw [← ih m (h + 1) _ (by omega) (by omega)]
    unfold cT
    cases wantV (lV S L) h g
    · simp only [if_true, Bool.false_eq_true, if_false]
      by_cases hz : ((mk >>> (nI h &&& 31)) &&& 1) = 0
      · rw [if_pos hz, if_pos hz]
      · rw [if_neg hz, if_neg hz, Int32.add_zero]
    · simp only [Bool.true_eq_false, if_false, if_true]
      cases selV (lV S L) g mk h n 0 <;> simp
theorem X10_cutBeside {S : Mm} {L n g : Nat} {mk : Int32} (hL : LandZ S.2 L) (hH : HsZ S.2 L) (hB : Bd (lV S L) n) (hg : g < 3) : f_X10_cutBeside S L (nI g) mk = some (cutV (lV S L) n g mk, S) := X10_cut5 hL hH hB hg n FU 0 0 (by omega) (by have := hB.le; show n < 3000; omega)
theorem shl2 : ∀ n, n ≤ 6 → (1 : Int32) <<< (nI n &&& 31) = nI (2 ^ n) := by decide
theorem p2 : ∀ n, n ≤ 6 → 1 ≤ 2 ^ n ∧ 2 ^ n ≤ 64 := by decide
theorem X10_most9 {S : Mm} {L n g : Nat} (hL : LandZ S.2 L) (hH : HsZ S.2 L) (hB : Bd (lV S L) n) (hg : g < 3) : ∀ (c fuel k : Nat) (a : Int32), k + c = 2 ^ n → c < fuel → f_X10_mostOf_9 fuel S L (nI g) a (nI k) = some (mnS (lV S L) n g c k a, S) := by
  have h6 := hB.le
  have hp := p2 n h6
  intro c
  induction c with
  | zero =>
    intro fuel k a hi hf
    obtain ⟨m, rfl⟩ : ∃ m, fuel = m + 1 := ⟨fuel - 1, by omega⟩
    rw [f_X10_mostOf_9, hL.i S _ rfl, lv0, hB.sz]
    simp only [Option.bind_some, shl2 n h6]
    rw [if_pos (by rw [nI_lei (by omega) (by omega)]; omega)]
    rfl
  | succ c ih =>
    intro fuel k a hi hf
    obtain ⟨m, rfl⟩ : ∃ m, fuel = m + 1 := ⟨fuel - 1, by omega⟩
    rw [f_X10_mostOf_9, hL.i S _ rfl, lv0, hB.sz]
    simp only [Option.bind_some, shl2 n h6]
    rw [if_neg (by rw [nI_lei (by omega) (by omega)]; omega), X10_cutBeside hL hH hB hg]
    simp only [Option.bind_some, nI_1]
    rw [ih m (k + 1) _ (by omega) (by omega)]
    rfl
set_option maxRecDepth 100000 in
theorem X10_mostOf {S : Mm} {L n g : Nat} (hL : LandZ S.2 L) (hH : HsZ S.2 L) (hB : Bd (lV S L) n) (hg : g < 3) : f_X10_mostOf S L (nI g) = some (mostV (lV S L) n g, S) := by
  have hp := p2 n hB.le
  rw [f_X10_mostOf, X10_cutBeside hL hH hB hg]
  exact X10_most9 hL hH hB hg (2 ^ n - 1) FU 1 _ (by omega) (by show 2 ^ n - 1 < 3000; omega)
theorem X12_m86 {S : Mm} {n g h : Nat} {mk : Int32} (hM : ModZ S.2) (hB : Bd (mV S) n) (hh : h < 6) (k4 : Mm → Nat → Int32 → Int32 → Int32 → Option (Int32 × Mm)) (k20 : Mm → Nat → Int32 → Int32 → Int32 → Int32 → Int32 → Option (Int32 × Mm)) (l2 l4 : Int32) : ∀ (c fuel i : Nat) (b : Bool), i + c = n → c < fuel → f_X12_mostOf_86 k4 k20 fuel S 33 (nI g) l2 mk l4 (nI h) 0 (b2i b) (nI i) = f_X12_mostOf_149 k4 k20 S 33 (nI g) l2 mk l4 (nI h) (b2i (b || selV (mV S) g mk h c i)) := by
  have h6 := hB.le
  obtain ⟨q, q3, hq⟩ := hB.lw
  intro c
  induction c with
  | zero =>
    intro fuel i b hi hf
    obtain ⟨m, rfl⟩ : ∃ m, fuel = m + 1 := ⟨fuel - 1, by omega⟩
    rw [f_X12_mostOf_86, hM.i S _ rfl, mv0, hB.sz]
    simp only [Option.bind_some]
    rw [if_pos (by rw [nI_lei (by omega) (by omega)]; omega), selV, Bool.or_false]
  | succ c ih =>
    intro fuel i b hi hf
    obtain ⟨m, rfl⟩ : ∃ m, fuel = m + 1 := ⟨fuel - 1, by omega⟩
    have hi6 : i < 6 := by omega
    rw [f_X12_mostOf_86, hM.i S _ rfl, mv0, hB.sz]
    simp only [Option.bind_some]
    rw [if_neg (by rw [nI_lei (by omega) (by omega)]; omega), if_pos trivial]
    have i1 := ih m (i + 1) true (by omega) (by omega)
    have i0 := ih m (i + 1) false (by omega) (by omega)
    rw [b2i_t] at i1
    rw [b2i_f] at i0
    simp only [b2i_0, X12_wants hM hi6, Option.bind_some, X12_isLawful hM hq q3 hi6 hh, f_X12_mostOf_140, f_X12_mostOf_136, f_X12_mostOf_141, nI_1, selV, i1, i0]
    cases b
    · simp only [if_true, Bool.false_or]
      by_cases hb : ((mk >>> (nI i &&& 31)) &&& 1) = 1
      · simp only [hb, if_true, decide_true, Bool.true_and]
        cases wantV (mV S) i g
        · cases lawV (mV S) i h <;> simp
        · simp
      · simp only [hb, if_false, decide_false, Bool.false_and, Bool.false_or]
    · simp
theorem X12_m20 {S : Mm} {n g : Nat} {mk : Int32} (hM : ModZ S.2) (hB : Bd (mV S) n) (hg : g < 3) (k4 : Mm → Nat → Int32 → Int32 → Int32 → Option (Int32 × Mm)) (l2 : Int32) : ∀ (c fuel h : Nat) (t : Int32), h + c = n → c < fuel → f_X12_mostOf_20 k4 fuel S 33 (nI g) l2 mk t (nI h) = k4 S 33 (nI g) (if l2 < 0 then sm (cT (mV S) n g mk) c h t else mnI l2 (sm (cT (mV S) n g mk) c h t)) (mk + 1) := by
  have h6 := hB.le
  intro c
  induction c with
  | zero =>
    intro fuel h t hi hf
    obtain ⟨m, rfl⟩ : ∃ m, fuel = m + 1 := ⟨fuel - 1, by omega⟩
    rw [f_X12_mostOf_20, hM.i S _ rfl, mv0, hB.sz]
    simp only [Option.bind_some]
    rw [if_pos (by rw [nI_lei (by omega) (by omega)]; omega)]
    simp only [f_X12_mostOf_186, f_X12_mostOf_192, ← mnI_le, sm]
    split
    · rfl
    · split <;> rfl
  | succ c ih =>
    intro fuel h t hi hf
    obtain ⟨m, rfl⟩ : ∃ m, fuel = m + 1 := ⟨fuel - 1, by omega⟩
    have hh : h < 6 := by omega
    have hk : 3 * h + g < 18 := by omega
    have j0 : ∀ l4 : Int32, f_X12_mostOf_86 k4 (f_X12_mostOf_20 k4 m) FU S 33 (nI g) l2 mk l4 (nI h) 0 0 0 = f_X12_mostOf_149 k4 (f_X12_mostOf_20 k4 m) S 33 (nI g) l2 mk l4 (nI h) (b2i (false || selV (mV S) g mk h n 0)) := fun l4 => X12_m86 hM hB hh k4 (f_X12_mostOf_20 k4 m) l2 l4 n FU 0 false (by omega) (by show n < 3000; omega)
    have j1 : ∀ l4 : Int32, f_X12_mostOf_86 k4 (f_X12_mostOf_20 k4 m) FU S 33 (nI g) l2 mk l4 (nI h) 1 0 0 = f_X12_mostOf_149 k4 (f_X12_mostOf_20 k4 m) S 33 (nI g) l2 mk l4 (nI h) 0 := fun l4 => by
      rw [show FU = 2999 + 1 from rfl, f_X12_mostOf_86, hM.i S _ rfl]
      simp only [Option.bind_some]
      rw [if_neg (show ¬ (1 : Int32) = 0 by decide), ite_self]
    rw [f_X12_mostOf_20, hM.i S _ rfl, mv0, hB.sz]
    simp only [Option.bind_some]
    rw [if_neg (by rw [nI_lei (by omega) (by omega)]; omega), X12_wants hM hh]
    simp only [Option.bind_some, f_X12_mostOf_44, f_X12_mostOf_76, f_X12_mostOf_77, hM.g12 S rfl, ix3', hM.a42.ld S _ rfl hk, mv9 hk, j0, j1, b2i_0]
    show _ = k4 S 33 (nI g) (if l2 < 0 then sm (cT (mV S) n g mk) c (h + 1) (t + cT (mV S) n g mk h) else mnI l2 (sm (cT (mV S) n g mk) c (h + 1) (t + cT (mV S) n g mk h))) (mk + 1)
    rw [← ih m (h + 1) _ (by omega) (by omega)]
    simp only [f_X12_mostOf_149, f_X12_mostOf_167, hM.g10 S rfl, Option.bind_some, hM.a40.ld S h rfl hh, mv7 hh, nI_1, b2i_0]
    unfold cT
    cases wantV (mV S) h g
    · simp only [if_true, show ¬ (1 : Int32) = 0 by decide, if_false, Int32.add_zero, Bool.false_eq_true]
      by_cases hz : ((mk >>> (nI h &&& 31)) &&& 1) = 0
      · rw [if_pos hz, if_pos hz]
      · rw [if_neg hz, if_neg hz, Int32.add_zero]
    · simp only [if_true, Bool.true_eq_false, if_false, Int32.add_zero, Bool.false_or]
      cases selV (mV S) g mk h n 0 <;> simp
theorem X12_m4 {S : Mm} {n g : Nat} (hM : ModZ S.2) (hB : Bd (mV S) n) (hg : g < 3) : ∀ (c fuel k : Nat) (a : Int32), ¬ a < 0 → k + c = 2 ^ n → c < fuel → f_X12_mostOf_4 fuel S 33 (nI g) a (nI k) = some (mnS (mV S) n g c k a, S) := by
  have h6 := hB.le
  have hp := p2 n h6
  intro c
  induction c with
  | zero =>
    intro fuel k a ha hi hf
    obtain ⟨m, rfl⟩ : ∃ m, fuel = m + 1 := ⟨fuel - 1, by omega⟩
    rw [f_X12_mostOf_4, hM.i S _ rfl, mv0, hB.sz]
    simp only [Option.bind_some, shl2 n h6]
    rw [if_pos (by rw [nI_lei (by omega) (by omega)]; omega)]
    rfl
  | succ c ih =>
    intro fuel k a ha hi hf
    obtain ⟨m, rfl⟩ : ∃ m, fuel = m + 1 := ⟨fuel - 1, by omega⟩
    rw [f_X12_mostOf_4, hM.i S _ rfl, mv0, hB.sz]
    simp only [Option.bind_some, shl2 n h6]
    rw [if_neg (by rw [nI_lei (by omega) (by omega)]; omega), show (0 : Int32) = nI 0 from rfl, X12_m20 hM hB hg _ a n FU 0 (nI 0) (by omega) (by show n < 3000; omega), if_neg ha, nI_1]
    exact ih m (k + 1) _ (mnI_nn ha (cutV_nn hB hg)) (by omega) (by omega)
theorem X12_mostOf {S : Mm} {n g : Nat} (hM : ModZ S.2) (hB : Bd (mV S) n) (hg : g < 3) : f_X12_mostOf S 33 (nI g) = some (mostV (mV S) n g, S) := by
  have h6 := hB.le
  have hp := p2 n h6
  rw [f_X12_mostOf, if_pos (hM.o S rfl), show FU = 2999 + 1 from rfl, f_X12_mostOf_4, hM.i S _ rfl, mv0, hB.sz]
  simp only [Option.bind_some, shl2 n h6]
  rw [if_neg (by rw [show (0 : Int32) = nI 0 from rfl, nI_lei (by omega) (by omega)]; omega), show FU = 2999 + 1 from rfl]
  have := X12_m20 (mk := 0) hM hB hg (f_X12_mostOf_4 2999) (-1) n (2999 + 1) 0 0 (by omega) (by omega)
  refine this.trans ?_
  rw [if_pos (by decide)]
  exact X12_m4 hM hB hg (2 ^ n - 1) 2999 1 _ (cutV_nn hB hg) (by omega) (by omega)
set_option maxRecDepth 100000 in
theorem st_16 {j : Nat} {S : Mm} (hI : Inv j S) (x : Int32) : ∃ S', ls_16 0 33 S x = some S' ∧ Inv (j + 1) S' := by
  unfold ls_16
  have hS := hI.1
  have hv := hI.2.2.1
  have hH := hI.2.1.1
  obtain ⟨⟨n, hB⟩, ⟨w, w1, w2⟩, ⟨m, m1, m2⟩⟩ := hI.2.2.2.1
  have hM := hS.m
  have h6 := hB.le
  have eM := m15_mV S
  have hMk : ∀ k, ModZ (rfC S k).2 := fun k => hS.m
  have eMk : ∀ k, mV (m15 (rfC S k)) = mV S := fun k => by rw [m15_mV, rfC_mV]
  have hz : mV (m15 S) 0 0 = nI n := by rw [eM]; exact hB.sz
  have hzk : ∀ k, mV (m15 (rfC S k)) 0 0 = nI n := fun k => by rw [eMk]; exact hB.sz
  have qt : Inv (j + 1) (m15 S) := hI.qt (cs := [33]) (ws := []) (Gx.ag (Ag.m15 (by simp))) (by simp) (by unfold Fre; decide) (by decide) rfl rfl rfl hI.2.1.2.1 eM
  have ref : ∀ (k : Nat) (c : Int32), k < 7 → f_X11_most S 0 x = some (c, rfC S k) → f_X12_most (rfC S k) 33 x = some (c, rfM (m15 (rfC S k)) k) → ∃ S', ((f_X11_most S 0 x).bind fun q => (f_X12_most q.2 33 x).bind fun r => if q.1 = r.1 then some r.2 else none) = some S' ∧ Inv (j + 1) S' := fun k c hk h1 h2 => ⟨_, two (g := fun T => f_X12_most T 33 x) h1 h2, hI.rf hk⟩
  by_cases hg : goodI x = true
  · obtain ⟨g, g1, rfl⟩ := goodI_n hg
    refine ⟨_, two (g := fun T => f_X12_most T 33 (nI g)) (v := mostV (mV S) n g) (S1 := S) (S2 := m15 S) ?_ ?_, qt⟩
    · simp only [f_X11_most, hS.o S rfl, if_true, X11_isGood, hg, b2i_t, Option.bind_some, hS.g0 S rfl, X10_mostOf hS.l1 hH (show Bd (lV S 1) n by rw [hv]; exact hB) g1, hv]
      rfl
    · simp only [f_X12_most, f_X12_most_25, hM.o _ rfl, if_true, hM.q, Option.bind_some, X12_isGood, hg, b2i_t, X12_mostOf hM.u (show Bd (mV (m15 S)) n by rw [eM]; exact hB) g1, eM]
      rfl
  · rw [Bool.not_eq_true] at hg
    refine ref 1 (-1) (by omega) ?_ ?_
    · simp only [f_X11_most, hS.o S rfl, if_true, X11_isGood, hg, b2i_f, Option.bind_some, (cR hS).1]
    · simp only [f_X12_most, f_X12_most_25, (hMk 1).o _ rfl, if_true, (hMk 1).q, Option.bind_some, X12_isGood, hg, b2i_f, (mR' (hMk 1).u).1]
