/-! what the spec keeps -/
def Sm (V V' : Vw) : Prop := ∀ r k, r ≠ 8 → r ≠ 9 → V' r k = V r k
theorem Sm.rf {V : Vw} : Sm V V := fun _ _ _ _ => rfl
theorem Sm.tr {V V1 V2 : Vw} (h1 : Sm V V1) (h2 : Sm V1 V2) : Sm V V2 := fun r k a b => (h2 r k a b).trans (h1 r k a b)
theorem Sm.u8 {V V' : Vw} {k : Nat} {v : Int32} (h : Sm V V') : Sm V (u2 V' 8 k v) := fun r j a b => by rw [u2_ne (by omega)]; exact h r j a b
theorem Sm.u9 {V V' : Vw} {k : Nat} {v : Int32} (h : Sm V V') : Sm V (u2 V' 9 k v) := fun r j a b => by rw [u2_ne (by omega)]; exact h r j a b
theorem Sm.mv {V : Vw} {a b g : Nat} : Sm V (mvV V a b g) := (((Sm.rf.u9).u9).u8).u8
theorem Sm.gd {V V' : Vw} {r k : Nat} (h : Sm V V') (h8 : r ≠ 8) (h9 : r ≠ 9) : gd V' r k = gd V r k := by
  unfold _root_.Jvm.Pilot.@@N@@.gd
  rw [h r k h8 h9]
theorem Bd.mk {V : Vw} {n h : Nat} (hB : Bd V n) (hh : h < n) : Bd (mk1 V h) n := by
  have h6 := hB.le
  have e4 := hB.r4.gd (k := h) (by omega) (by omega)
  obtain ⟨s, l1, e1⟩ := hB.r9 (3 * h + gd V 4 h) (by omega)
  obtain ⟨m, l2, e2⟩ := hB.r5 h (by omega)
  unfold mk1
  rw [e1, e2, nI_add, show (99 : Int32) = nI 99 from rfl]
  split
  · next c => exact hB.u9 hh (by omega) ((nI_lei (by omega) (by omega)).mp c)
  · exact hB.u9 hh (by omega) (by omega)
theorem makeV_ok {n : Nat} : ∀ (c h : Nat) (V : Vw), Bd V n → h + c = n → Bd (makeV c h V) n ∧ Sm V (makeV c h V)
  | 0, h, V, hB, _ => ⟨hB, Sm.rf⟩
  | c + 1, h, V, hB, hc => by
    obtain ⟨h1, h2⟩ := makeV_ok c (h + 1) (mk1 V h) (hB.mk (by omega)) (by omega)
    exact ⟨h1, Sm.tr (Sm.u9 Sm.rf) h2⟩
/-- a seller: none, or a house from which the sale can be -/
def okS (V : Vw) (n b g : Nat) (f : Int32) : Prop := f = -1 ∨ ∃ s, s < n ∧ f = nI s ∧ canV V s b g = true
theorem best1_ok {V : Vw} {n b g a : Nat} {f : Int32} (h : okS V n b g f) (ha : a < n) : okS V n b g (best1 V b g a f) := by
  unfold best1
  split
  · next c =>
    simp only [Bool.and_eq_true] at c
    exact Or.inr ⟨a, ha, rfl, c.1.2⟩
  · exact h
theorem bestV_ok {V : Vw} {n b g : Nat} : ∀ (c a : Nat) (f : Int32), okS V n b g f → a + c = n → okS V n b g (bestV V b g c a f)
  | 0, a, f, h, _ => h
  | c + 1, a, f, h, hc => bestV_ok c (a + 1) _ (best1_ok h (by omega)) (by omega)
theorem okS.cases {V : Vw} {n b g : Nat} {f : Int32} (h : okS V n b g f) (h6 : n ≤ 6) : (f = -1 ∧ f < 0) ∨ ∃ s, s < n ∧ f = nI s ∧ ¬ f < 0 ∧ f.toNatClampNeg = s ∧ canV V s b g = true := by
  rcases h with rfl | ⟨s, h1, rfl, h2⟩
  · exact Or.inl ⟨rfl, by decide⟩
  · exact Or.inr ⟨s, h1, rfl, nI_pos (by omega), nI_clamp (by omega), h2⟩
theorem buyS_ok {n : Nat} : ∀ (F : Nat) (V : Vw) (b g : Nat), Bd V n → b < n → g < 3 → Bd (buyS n F V b g).1 n ∧ Sm V (buyS n F V b g).1 ∧ (buyS n F V b g).2 ≤ F
  | 0, V, b, g, hB, _, _ => ⟨hB, Sm.rf, Nat.le_refl 0⟩
  | F + 1, V, b, g, hB, hb, hg => by
    rw [buyS]
    split
    · rcases (bestV_ok (V := V) (n := n) (b := b) (g := g) n 0 (-1) (Or.inl rfl) (by omega)).cases hB.le with ⟨-, h⟩ | ⟨s, h1, h2, h3, h4, h5⟩
      · rw [if_pos h]; exact ⟨hB, Sm.rf, by omega⟩
      · rw [if_neg h3, h4]
        obtain ⟨g1, g2, g3⟩ := buyS_ok F (mvV V s b g) b g (hB.mv h1 hb hg h5).1 hb hg
        exact ⟨g1, Sm.mv.tr g2, by show _ + 1 ≤ _; omega⟩
    · exact ⟨hB, Sm.rf, by omega⟩
theorem buyA_ok {n : Nat} : ∀ (c b : Nat) (q : Vw × Nat), Bd q.1 n → b + c = n → Bd (buyA n c b q).1 n ∧ Sm q.1 (buyA n c b q).1 ∧ (buyA n c b q).2 ≤ q.2 + 10 * c
  | 0, b, q, hB, _ => ⟨hB, Sm.rf, by show q.2 ≤ _; omega⟩
  | c + 1, b, q, hB, hc => by
    have e6 := hB.r6.gd (k := b) (by have := hB.le; omega) (by omega)
    obtain ⟨g1, g2, g3⟩ := buyS_ok 10 q.1 b (gd q.1 6 b) hB (by omega) (by omega)
    obtain ⟨k1, k2, k3⟩ := buyA_ok c (b + 1) ((buyS n 10 q.1 b (gd q.1 6 b)).1, q.2 + (buyS n 10 q.1 b (gd q.1 6 b)).2) g1 (by omega)
    exact ⟨k1, g2.tr k2, by
      refine Nat.le_trans k3 ?_
      show q.2 + _ + _ ≤ _
      omega⟩
theorem Bd.us {V : Vw} {n h : Nat} (hB : Bd V n) (hh : h < n) : Bd (use1 V h) n ∧ ∃ u, usd V h = nI u ∧ u ≤ 9 := by
  have h6 := hB.le
  have e6 := hB.r6.gd (k := h) (by omega) (by omega)
  obtain ⟨s, l1, e1⟩ := hB.r9 (3 * h + gd V 6 h) (by omega)
  obtain ⟨w, l2, e2⟩ := hB.r7 h (by omega)
  unfold use1 usd
  rw [e1, e2]
  by_cases c : nI w ≤ nI s
  · rw [if_pos c]
    have c2 := (nI_lei (by omega) (by omega)).mp c
    rw [pk_sub c2]
    exact ⟨hB.u9 hh (by omega) (by omega), w, rfl, l2⟩
  · rw [if_neg c]
    have c2 : ¬ w ≤ s := fun q => c ((nI_lei (by omega) (by omega)).mpr q)
    rw [pk_sub (Nat.le_refl s)]
    exact ⟨hB.u9 hh (by omega) (by omega), s, rfl, by omega⟩
theorem useS_ok {n : Nat} : ∀ (c h : Nat) (q : Us), Bd q.1 n → h + c = n → Bd (useS c h q).1 n ∧ Sm q.1 (useS c h q).1
  | 0, h, q, hB, _ => ⟨hB, Sm.rf⟩
  | c + 1, h, q, hB, hc => by
    obtain ⟨k1, k2⟩ := useS_ok c (h + 1) (use1 q.1 h, upd q.2.1 h (q.2.1 h + usd q.1 h), q.2.2.1 + usd q.1 h, q.2.2.2 + (q.1 7 h - usd q.1 h)) (hB.us (by omega)).1 (by omega)
    exact ⟨k1, Sm.tr (Sm.u9 Sm.rf) k2⟩
theorem midV_ok {n : Nat} {V : Vw} (hB : Bd V n) : Bd (midV n V).1 n ∧ Sm V (midV n V).1 ∧ (midV n V).2 ≤ 60 := by
  obtain ⟨h1, h2⟩ := makeV_ok n 0 V hB (by omega)
  obtain ⟨k1, k2, k3⟩ := buyA_ok n 0 (makeV n 0 V, 0) h1 (by omega)
  exact ⟨k1, h2.tr k2, Nat.le_trans k3 (by have := hB.le; show 0 + _ ≤ _; omega)⟩
/-- the value behind the use doesn't rest on what was counted before -/
theorem useS_V : ∀ (c h : Nat) (V : Vw) (s s' : Nat → Int32) (t t' k k' : Int32), (useS c h (V, s, t, k)).1 = (useS c h (V, s', t', k')).1
  | 0, _, _, _, _, _, _, _, _ => rfl
  | c + 1, h, V, s, s', t, t', k, k' => useS_V c (h + 1) (use1 V h) _ _ _ _ _ _
theorem weekU_V {n : Nat} {V : Vw} {s : Nat → Int32} {t : Int32} : (weekU n V s t).1 = (weekU n V (fun _ => 0) 0).1 := useS_V _ _ _ _ _ _ _ _ _
theorem weekU_ok {n : Nat} {V : Vw} {s : Nat → Int32} {t : Int32} (hB : Bd V n) : Bd (weekU n V s t).1 n ∧ Sm V (weekU n V s t).1 := by
  obtain ⟨h1, h2, -⟩ := midV_ok hB
  obtain ⟨k1, k2⟩ := useS_ok n 0 ((midV n V).1, s, t, 0) h1 (by omega)
  exact ⟨k1, h2.tr k2⟩
theorem weekV_ok {n : Nat} {V : Vw} (hB : Bd V n) : Bd (weekV n V) n := (weekU_ok hB).1.u0 (by omega)
/-! the class's week -/
section
variable {S : Mm} {L : Nat}
theorem gF_h {k j : Nat} (hH : HsZ S.2 L) (hk : k < 6) : gF S (hrf S.2 L k) j = some (mI S (hrf S.2 L k) j) := by rw [gF, if_pos (okF_h hH hk)]
theorem X6_makeGoods (hL : LandZ S.2 L) (hH : HsZ S.2 L) {n h : Nat} (hB : Bd (lV S L) n) (hh : h < n) : ∃ S', f_X6_makeGoods S L (nI h) = some S' ∧ Ag [L + 3] S S' ∧ lV S' L = mk1 (lV S L) h := by
  have h6 := hB.le
  have e4 := hB.r4.gd (k := h) (by omega) (by omega)
  have hk : 3 * h + gd (lV S L) 4 h < 18 := by omega
  obtain ⟨s, l1, e1⟩ := hB.r9 (3 * h + gd (lV S L) 4 h) hk
  obtain ⟨m, l2, e2⟩ := hB.r5 h (by omega)
  refine ⟨sI S (L + 3) (3 * h + gd (lV S L) 4 h) (mI S (L + 3) (3 * h + gd (lV S L) 4 h) + mnI (lV S L 5 h) (99 - lV S L 9 (3 * h + gd (lV S L) 4 h))), ?_, Ag.sI (by simp), ?_⟩
  · simp only [f_X6_makeGoods, hL.o S rfl, if_true, Option.bind_some, hL.g0 S rfl, hL.hr hH (show h < 6 by omega), gF_h hH (show h < 6 by omega), lv4 (show h < 6 by omega), lv5 (show h < 6 by omega)]
    rw [e4.1, X6_piecesOf hL hk]
    simp only [Option.bind_some, lv9 hk, gF_h hH (show h < 6 by omega), lv4 (show h < 6 by omega), lv5 (show h < 6 by omega)]
    rw [e4.1, X6_addPieces hL hk]
    simp only [Option.bind_some, lv9 hk]
  · rw [ls9 hL hH hk, lv9 hk]
    unfold mk1
    congr 1
    rw [e1, e2, nI_add, show (99 : Int32) = nI 99 from rfl, pk_sub l1, mnI]
    by_cases c : s + m ≤ 99
    · rw [if_neg (by rw [nI_lti (by omega) (by omega)]; omega), if_pos ((nI_lei (by omega) (by omega)).mpr c), nI_add]
    · rw [if_pos (by rw [nI_lti (by omega) (by omega)]; omega), if_neg (fun q => c ((nI_lei (by omega) (by omega)).mp q)), nI_add]
      congr 1
      omega
theorem X6_useWanted (hL : LandZ S.2 L) (hH : HsZ S.2 L) {n h : Nat} (hB : Bd (lV S L) n) (hh : h < n) : ∃ S', f_X6_useWanted S L (nI h) = some (usd (lV S L) h, S') ∧ Ag [L + 3] S S' ∧ lV S' L = use1 (lV S L) h := by
  have h6 := hB.le
  have e6 := hB.r6.gd (k := h) (by omega) (by omega)
  have hk : 3 * h + gd (lV S L) 6 h < 18 := by omega
  have hu : mnI (lV S L 7 h) (lV S L 9 (3 * h + gd (lV S L) 6 h)) = usd (lV S L) h := by
    unfold mnI usd
    by_cases c : lV S L 7 h ≤ lV S L 9 (3 * h + gd (lV S L) 6 h)
    · rw [if_pos c, if_neg (Int32.not_lt.mpr c)]
    · rw [if_neg c, if_pos (Int32.not_le.mp c)]
  refine ⟨sI S (L + 3) (3 * h + gd (lV S L) 6 h) (mI S (L + 3) (3 * h + gd (lV S L) 6 h) + -(usd (lV S L) h)), ?_, Ag.sI (by simp), ?_⟩
  · simp only [f_X6_useWanted, hL.o S rfl, if_true, Option.bind_some, hL.g0 S rfl, hL.hr hH (show h < 6 by omega), gF_h hH (show h < 6 by omega), lv6 (show h < 6 by omega), lv7 (show h < 6 by omega)]
    rw [e6.1, X6_piecesOf hL hk]
    simp only [Option.bind_some, lv9 hk, hu]
    rw [X6_addPieces hL hk]
    simp only [Option.bind_some, lv9 hk]
  · rw [ls9 hL hH hk, lv9 hk]
    unfold use1
    rw [Int32.sub_eq_add_neg]
theorem X6_full5 (hL : LandZ S.2 L) (hH : HsZ S.2 L) {n b g : Nat} (hB : Bd (lV S L) n) (hb : b < n) (hg : g < 3) : ∀ (c fuel a : Nat) (f : Int32), okS (lV S L) n b g f → a + c = n → c < fuel → f_X6_fullestSellerTo_5 fuel S L (nI b) (nI g) f (nI a) = some (bestV (lV S L) b g c a f, S) := by
  have h6 := hB.le
  intro c
  induction c with
  | zero =>
    intro fuel a f hf ha hc
    obtain ⟨m, rfl⟩ : ∃ m, fuel = m + 1 := ⟨fuel - 1, by omega⟩
    rw [f_X6_fullestSellerTo_5]
    simp only [hL.i S _ rfl, Option.bind_some, lv0, hB.sz]
    rw [if_pos (by rw [nI_lei (by omega) (by omega)]; omega)]
    rfl
  | succ c ih =>
    intro fuel a f hf ha hc
    obtain ⟨m, rfl⟩ : ∃ m, fuel = m + 1 := ⟨fuel - 1, by omega⟩
    have ha6 : a < 6 := by omega
    have hb6 : b < 6 := by omega
    have h1 : 3 * a + g < 18 := by omega
    rw [f_X6_fullestSellerTo_5]
    simp only [hL.i S _ rfl, Option.bind_some, lv0, hB.sz, hL.g0 S rfl, hL.hr hH ha6, dyW (okF_h hH ha6), lv6 ha6, lv7 ha6, X6_isLawful hL hH ha6 hb6, X6_hasMeans hL ha6 hb6 hg, X6_piecesOf hL h1, lv9 h1, b2i_0, f_X6_fullestSellerTo_69, f_X6_fullestSellerTo_72, nI_1]
    rw [if_neg (by rw [nI_lei (by omega) (by omega)]; omega)]
    have hst : ∀ f', best1 (lV S L) b g a f = f' → f_X6_fullestSellerTo_5 m S L (nI b) (nI g) f' (nI (a + 1)) = some (bestV (lV S L) b g (c + 1) a f, S) := fun f' e => by
      rw [ih m (a + 1) f' (by rw [← e]; exact best1_ok hf (by omega)) (by omega) (by omega), bestV, e]
    have hw : (decide (lV S L 6 a = nI g) && decide (0 < lV S L 7 a)) = wantV (lV S L) a g := rfl
    rw [hw]
    cases e1 : wantV (lV S L) a g
    · rw [if_pos rfl]
      cases e2 : lawV (lV S L) a b
      · rw [if_pos rfl]
        exact hst f (by simp [best1, e1, canV, e2])
      · rw [if_neg (by simp)]
        cases e3 : meanV (lV S L) a b g
        · rw [if_pos rfl]
          exact hst f (by simp [best1, e1, canV, e2, e3])
        · rw [if_neg (by simp)]
          rcases hf.cases h6 with ⟨-, hneg⟩ | ⟨s, hs1, hs2, hs3, hs4, hs5⟩
          · rw [if_pos hneg]
            exact hst (nI a) (by simp [best1, e1, canV, e2, e3, hneg])
          · rw [if_neg hs3]
            have h2 : 3 * s + g < 18 := by omega
            rw [hs2, X6_piecesOf hL h2]
            simp only [Option.bind_some, lv9 h2]
            rw [← hs2]
            by_cases e4 : lV S L 9 (3 * a + g) ≤ lV S L 9 (3 * s + g)
            · rw [if_pos e4]
              exact hst f (by simp [best1, e1, canV, e2, e3, hs3, hs4, Int32.not_lt.mpr e4])
            · rw [if_neg e4]
              exact hst (nI a) (by simp [best1, e1, canV, e2, e3, hs3, hs4, Int32.not_le.mp e4])
    · rw [if_neg (by simp)]
      exact hst f (by simp [best1, e1])
theorem X6_full (hL : LandZ S.2 L) (hH : HsZ S.2 L) {n b g : Nat} (hB : Bd (lV S L) n) (hb : b < n) (hg : g < 3) : f_X6_fullestSellerTo S L (nI b) (nI g) = some (bestV (lV S L) b g n 0 (-1), S) := by
  rw [f_X6_fullestSellerTo, if_pos (hL.o S rfl)]
  exact X6_full5 hL hH hB hb hg n FU 0 (-1) (Or.inl rfl) (by omega) (by have := hB.le; show n < 3000; omega)
theorem sub_le {w p t : Nat} (hw : w < 2 ^ 30) (hp : p < 2 ^ 30) (ht : t < 2 ^ 30) : (nI w - nI p ≤ nI t) ↔ w ≤ p + t := by
  rw [Int32.le_iff_toInt_le, pk_sub_toInt hw hp, nI_toInt (by omega)]
  omega
theorem mx_sub {w p t : Nat} (hw : w < 2 ^ 30) (hp : p < 2 ^ 30) (h1 : w ≤ p + t) (h2 : t = 0 ∨ p + t ≤ w) : mxI 0 (nI w - nI p) = nI t := by
  unfold mxI
  by_cases c : p < w
  · have e : t = w - p := by omega
    rw [pk_sub (by omega), show (0 : Int32) = nI 0 from rfl, if_pos ((nI_lti (by omega) (by omega)).mpr (by omega)), e]
  · have e : t = 0 := by omega
    rw [if_neg, e]
    · rfl
    · rw [Int32.lt_iff_toInt_lt, pk_sub_toInt hw hp]
      show ¬ (0 : Int) < _
      omega
theorem mvV_b {V : Vw} {a b g : Nat} (hab : a ≠ b) : mvV V a b g 9 (3 * b + g) = V 9 (3 * b + g) + 1 := by
  unfold mvV
  rw [u2_ne (by omega), u2_ne (by omega), u2_eq]
theorem X6_buy30 {n b g p w : Nat} (hb : b < n) (hg : g < 3) (hp : p < 2 ^ 20) (hw : w ≤ 9) : ∀ (F fuel : Nat) (S : Mm) (t : Nat), LandZ S.2 L → HsZ S.2 L → Bd (lV S L) n → F + 1 < fuel → w ≤ p + t + F → (t = 0 ∨ p + t ≤ w) → lV S L 7 b = nI w → lV S L 9 (3 * b + g) = nI (p + t) → ∃ S', f_X6_buyWanted_30 fuel S L (nI b) (nI g) (nI w - nI p) (nI t) = some (nI (t + (buyS n F (lV S L) b g).2), S') ∧ Ag [L + 2, L + 3] S S' ∧ lV S' L = (buyS n F (lV S L) b g).1 := by
  intro F
  induction F with
  | zero =>
    intro fuel S t hL hH hB hf hle ht e7 e9
    obtain ⟨m, rfl⟩ : ∃ m, fuel = m + 1 := ⟨fuel - 1, by omega⟩
    refine ⟨S, ?_, Ag.rf, rfl⟩
    rw [f_X6_buyWanted_30, if_pos ((sub_le (by omega) (by omega) (by omega)).mpr (by omega)), mx_sub (by omega) (by omega) (by omega) ht]
    rfl
  | succ F ih =>
    intro fuel S t hL hH hB hf hle ht e7 e9
    have h6 := hB.le
    obtain ⟨m, rfl⟩ : ∃ m, fuel = m + 1 := ⟨fuel - 1, by omega⟩
    rw [f_X6_buyWanted_30, buyS, e7, e9]
    by_cases c : w ≤ p + t
    · rw [if_pos ((sub_le (by omega) (by omega) (by omega)).mpr c), mx_sub (by omega) (by omega) c ht, if_neg (by rw [nI_lti (by omega) (by omega)]; omega)]
      exact ⟨S, rfl, Ag.rf, rfl⟩
    · rw [if_neg (fun q => c ((sub_le (by omega) (by omega) (by omega)).mp q)), if_pos ((nI_lti (by omega) (by omega)).mpr (by omega)), X6_full hL hH hB hb hg]
      simp only [Option.bind_some]
      rcases (bestV_ok (V := lV S L) (n := n) (b := b) (g := g) n 0 (-1) (Or.inl rfl) (by omega)).cases h6 with ⟨-, h⟩ | ⟨s, h1, h2, h3, h4, h5⟩
      · rw [if_neg (Int32.not_le.mpr h), if_pos h]
        exact ⟨S, rfl, Ag.rf, rfl⟩
      · rw [if_pos (Int32.not_lt.mp h3), if_neg h3, h4, h2]
        obtain ⟨hB1, hne⟩ := hB.mv h1 hb hg h5
        obtain ⟨S1, g1, g2, g3⟩ := X6_moveOnePiece hL hH (a := s) (b := b) (g := g) (by omega) (by omega) hg hne
        rw [g1]
        simp only [Option.bind_some, nI_1]
        have z : S1.2 = S.2 := g2.1
        rw [← g3] at hB1
        obtain ⟨S2, k1, k2, k3⟩ := ih m S1 (t + 1) (by rw [z]; exact hL) (by rw [z]; exact hH) hB1 (by omega) (by omega) (by omega) (by rw [g3, Sm.mv 7 b (by omega) (by omega), e7]) (by rw [g3, mvV_b hne, e9, nI_1]; rfl)
        refine ⟨S2, ?_, g2.tr k2, ?_⟩
        · rw [k1, g3]
          congr 3
          omega
        · rw [k3, g3]
set_option maxRecDepth 100000 in
theorem X6_buyWanted (hL : LandZ S.2 L) (hH : HsZ S.2 L) {n b : Nat} (hB : Bd (lV S L) n) (hb : b < n) : ∃ S', f_X6_buyWanted S L (nI b) = some (nI (buyS n 10 (lV S L) b (gd (lV S L) 6 b)).2, S') ∧ Ag [L + 2, L + 3] S S' ∧ lV S' L = (buyS n 10 (lV S L) b (gd (lV S L) 6 b)).1 := by
  have h6 := hB.le
  have e6 := hB.r6.gd (k := b) (by omega) (by omega)
  have hk : 3 * b + gd (lV S L) 6 b < 18 := by omega
  obtain ⟨s, l1, e1⟩ := hB.r9 (3 * b + gd (lV S L) 6 b) hk
  obtain ⟨w, l2, e2⟩ := hB.r7 b (by omega)
  obtain ⟨S', k1, k2, k3⟩ := X6_buy30 (L := L) (n := n) (b := b) (g := gd (lV S L) 6 b) (p := s) (w := w) hb (by omega) (by omega) l2 10 FU S 0 hL hH hB (by show 11 < 3000; omega) (by omega) (Or.inl rfl) e2 e1
  refine ⟨S', ?_, k2, k3⟩
  simp only [f_X6_buyWanted, hL.o S rfl, if_true, Option.bind_some, hL.g0 S rfl, hL.hr hH (show b < 6 by omega), gF_h hH (show b < 6 by omega), lv6 (show b < 6 by omega), lv7 (show b < 6 by omega)]
  rw [e6.1, X6_piecesOf hL hk]
  simp only [Option.bind_some, lv9 hk]
  rw [e1, e2]
  rw [Nat.zero_add, nI_0] at k1
  exact k1
/-- a tally's cells -/
def TalZ (Z : Zt) (Q : Nat) : Prop := okO Z Q 9 ∧ Z.1 Q 3 = some (Q + 1) ∧ okA Z (Q + 1) 6
theorem X9_addUse {Q h : Nat} (hT : TalZ S.2 Q) (hh : h < 6) (u w : Int32) : f_X9_addUse S Q (nI h) u w = some (sI (sI (sI S Q 0 (mI S Q 0 + u)) (Q + 1) h (mI S (Q + 1) h + u)) Q 2 (mI S Q 2 + (w - u))) := by
  simp only [f_X9_addUse, hT.1.ok S rfl, if_true, hT.1.gI, hT.1.pI, hT.1.gR hT.2.1, hT.2.2.ld, hT.2.2.st, sI_2, hh, Option.bind_some, mI_s]
  simp
/-- a tally, as it stands: all served, sales, lacks, served of each -/
theorem X6_pass57 {n Q : Nat} (hQ : Q ≠ L ∧ Q ≠ L + 2 ∧ Q ≠ L + 3 ∧ Q ≠ L + 4 ∧ Q ≠ L + 6 ∧ Q + 1 ≠ L ∧ Q + 1 ≠ L + 2 ∧ Q + 1 ≠ L + 3 ∧ Q + 1 ≠ L + 4 ∧ Q + 1 ≠ L + 6) : ∀ (c fuel h : Nat) (S : Mm), LandZ S.2 L → HsZ S.2 L → TalZ S.2 Q → Bd (lV S L) n → h + c = n → c < fuel → ∃ S', f_X6_passWeek_57 fuel S L Q (nI h) = some S' ∧ Ag [L, L + 3, Q, Q + 1] S S' ∧ lV S' L = u2 (useS c h (lV S L, mI S (Q + 1), mI S Q 0, mI S Q 2)).1 0 2 ((useS c h (lV S L, mI S (Q + 1), mI S Q 0, mI S Q 2)).1 0 2 + 1) ∧ mI S' (Q + 1) = (useS c h (lV S L, mI S (Q + 1), mI S Q 0, mI S Q 2)).2.1 ∧ mI S' Q 0 = (useS c h (lV S L, mI S (Q + 1), mI S Q 0, mI S Q 2)).2.2.1 ∧ mI S' Q 1 = mI S Q 1 ∧ mI S' Q 2 = (useS c h (lV S L, mI S (Q + 1), mI S Q 0, mI S Q 2)).2.2.2 := by
  obtain ⟨q1, q2, q3, q4, q5, q6, q7, q8, q9, q10⟩ := hQ
  intro c
  induction c with
  | zero =>
    intro fuel h S hL hH hT hB hc hf
    have h6 := hB.le
    obtain ⟨m, rfl⟩ : ∃ m, fuel = m + 1 := ⟨fuel - 1, by omega⟩
    refine ⟨sI S L 7 (mI S L 7 + 1), ?_, Ag.sI (by simp), ?_, ?_, ?_, ?_, ?_⟩
    · rw [f_X6_passWeek_57]
      simp only [hL.i S _ rfl, hL.p S _ _ rfl, Option.bind_some, lv0, hB.sz]
      rw [if_pos (by rw [nI_lei (by omega) (by omega)]; omega)]
    · rw [ls0 (j := 7) (k0 := 2) hL hH (by omega) rfl, lv02]; rfl
    · funext k
      rw [mI_s, if_neg (by omega)]; rfl
    · rw [mI_s, if_neg (by omega)]; rfl
    · rw [mI_s, if_neg (by omega)]
    · rw [mI_s, if_neg (by omega)]; rfl
  | succ c ih =>
    intro fuel h S hL hH hT hB hc hf
    have h6 := hB.le
    obtain ⟨m, rfl⟩ : ∃ m, fuel = m + 1 := ⟨fuel - 1, by omega⟩
    obtain ⟨S1, g1, g2, g3⟩ := X6_useWanted hL hH hB (h := h) (by omega)
    have z : S1.2 = S.2 := g2.1
    have hL1 : LandZ S1.2 L := by rw [z]; exact hL
    have hH1 : HsZ S1.2 L := by rw [z]; exact hH
    have hT1 : TalZ S1.2 Q := by rw [z]; exact hT
    have hB1 := (hB.us (h := h) (by omega)).1
    rw [← g3] at hB1
    have e7 : lV S1 L 7 h = lV S L 7 h := by rw [g3]; exact Sm.u9 Sm.rf 7 h (by omega) (by omega)
    have eQ : mI S1 Q = mI S Q := g2.2 Q (by simp; omega)
    have eQ1 : mI S1 (Q + 1) = mI S (Q + 1) := g2.2 (Q + 1) (by simp; omega)
    have hfQ : isF (S1.2.2.1 Q) = false := by rw [hT1.1.2]; rfl
    have hfQ1 : isF (S1.2.2.1 (Q + 1)) = false := by rw [hT1.2.2.2.1]; rfl
    have hvw : lV (sI (sI (sI S1 Q 0 (mI S1 Q 0 + usd (lV S L) h)) (Q + 1) h (mI S1 (Q + 1) h + usd (lV S L) h)) Q 2 (mI S1 Q 2 + (lV S1 L 7 h - usd (lV S L) h))) L = use1 (lV S L) h := by
      rw [lV_o (S := sI (sI S1 Q 0 (mI S1 Q 0 + usd (lV S L) h)) (Q + 1) h (mI S1 (Q + 1) h + usd (lV S L) h)) hH1 (by simp [lcell]; omega) hfQ, lV_o (S := sI S1 Q 0 (mI S1 Q 0 + usd (lV S L) h)) hH1 (by simp [lcell]; omega) hfQ1, lV_o hH1 (by simp [lcell]; omega) hfQ, g3]
    obtain ⟨S2, k1, k2, k3, k4, k5, k6, k7⟩ := ih m (h + 1) (sI (sI (sI S1 Q 0 (mI S1 Q 0 + usd (lV S L) h)) (Q + 1) h (mI S1 (Q + 1) h + usd (lV S L) h)) Q 2 (mI S1 Q 2 + (lV S1 L 7 h - usd (lV S L) h))) hL1 hH1 hT1 (by rw [hvw, ← g3]; exact hB1) (by omega) (by omega)
    have hstep : (lV (sI (sI (sI S1 Q 0 (mI S1 Q 0 + usd (lV S L) h)) (Q + 1) h (mI S1 (Q + 1) h + usd (lV S L) h)) Q 2 (mI S1 Q 2 + (lV S1 L 7 h - usd (lV S L) h))) L, mI (sI (sI (sI S1 Q 0 (mI S1 Q 0 + usd (lV S L) h)) (Q + 1) h (mI S1 (Q + 1) h + usd (lV S L) h)) Q 2 (mI S1 Q 2 + (lV S1 L 7 h - usd (lV S L) h))) (Q + 1), mI (sI (sI (sI S1 Q 0 (mI S1 Q 0 + usd (lV S L) h)) (Q + 1) h (mI S1 (Q + 1) h + usd (lV S L) h)) Q 2 (mI S1 Q 2 + (lV S1 L 7 h - usd (lV S L) h))) Q 0, mI (sI (sI (sI S1 Q 0 (mI S1 Q 0 + usd (lV S L) h)) (Q + 1) h (mI S1 (Q + 1) h + usd (lV S L) h)) Q 2 (mI S1 Q 2 + (lV S1 L 7 h - usd (lV S L) h))) Q 2) = ((use1 (lV S L) h, upd (mI S (Q + 1)) h (mI S (Q + 1) h + usd (lV S L) h), mI S Q 0 + usd (lV S L) h, mI S Q 2 + (lV S L 7 h - usd (lV S L) h)) : Us) := by
      rw [hvw]
      refine Prod.ext rfl (Prod.ext ?_ (Prod.ext ?_ ?_))
      · funext k
        simp only [mI_s, upd]
        rw [if_neg (by omega), eQ1]
        by_cases hk : k = h <;> simp [hk]
      · simp [mI_s, eQ]
      · simp [mI_s, eQ, e7]
    rw [hstep] at k3 k4 k5 k7
    refine ⟨S2, ?_, ?_, k3, k4, k5, ?_, k7⟩
    · rw [f_X6_passWeek_57]
      simp only [hL.i S _ rfl, Option.bind_some, lv0, hB.sz]
      rw [if_neg (by rw [nI_lei (by omega) (by omega)]; omega), g1]
      have hhr : hrf S.2 L h = hrf S1.2 L h := by rw [z]
      simp only [Option.bind_some, hL1.g0 S1 rfl, hL1.hr hH1 (show h < 6 by omega), gF_h hH1 (show h < 6 by omega), lv7 (show h < 6 by omega), X9_addUse hT1 (show h < 6 by omega), nI_1]
      exact k1
    · refine ((g2.mono (ds := [L, L + 3, Q, Q + 1]) (by simp)).tr ?_).tr k2
      exact ((Ag.sI (by simp)).sIt (by simp)).sIt (by simp)
    · rw [k6]
      simp [mI_s, eQ]
end
