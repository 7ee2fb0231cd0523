/-! sums -/
def sm (f : Nat → Int32) : Nat → Nat → Int32 → Int32
  | 0, _, a => a
  | c + 1, i, a => sm f c (i + 1) (a + f i)
theorem sm_c {f g : Nat → Int32} : ∀ (c i : Nat) (a : Int32), (∀ k, i ≤ k → k < i + c → f k = g k) → sm f c i a = sm g c i a
  | 0, _, _, _ => rfl
  | c + 1, i, a, h => by
    show sm f c (i + 1) (a + f i) = sm g c (i + 1) (a + g i)
    rw [h i (by omega) (by omega)]
    exact sm_c c (i + 1) _ (fun k h1 h2 => h k (by omega) (by omega))
theorem sm_z {f : Nat → Int32} : ∀ (c i : Nat) (a : Int32), (∀ k, i ≤ k → k < i + c → f k = 0) → sm f c i a = a
  | 0, _, _, _ => rfl
  | c + 1, i, a, h => by
    show sm f c (i + 1) (a + f i) = a
    rw [h i (by omega) (by omega), Int32.add_zero]
    exact sm_z c (i + 1) _ (fun k h1 h2 => h k (by omega) (by omega))
theorem sm_add {f : Nat → Int32} : ∀ (c d i : Nat) (a : Int32), sm f (c + d) i a = sm f d (i + c) (sm f c i a)
  | 0, d, i, a => by rw [Nat.zero_add]; rfl
  | c + 1, d, i, a => by
    rw [show c + 1 + d = (c + d) + 1 by omega, show i + (c + 1) = i + 1 + c by omega]
    exact sm_add c d (i + 1) _
theorem sm_cut {f : Nat → Int32} {N l : Nat} (hl : l ≤ N) (h : ∀ k, l ≤ k → k < N → f k = 0) : sm f N 0 0 = sm f l 0 0 := by
  rw [show N = l + (N - l) by omega, sm_add, sm_z (N - l) (0 + l) _ (fun k h1 h2 => h k (by omega) (by omega))]
theorem X11_sum10 {S : Mm} {r N : Nat} (hA : okA S.2 r N) (hN : N < 2 ^ 30) : ∀ (c fuel i : Nat) (a : Int32), i + c = N → c < fuel → f_X11_sumOf_10 fuel S a r (nI N) (nI i) = some (sm (mI S r) c i a, S) := by
  intro c
  induction c with
  | zero =>
    intro fuel i a hi hf
    obtain ⟨m, rfl⟩ : ∃ m, fuel = m + 1 := ⟨fuel - 1, by omega⟩
    rw [f_X11_sumOf_10, if_pos (by rw [nI_lei (by omega) (by omega)]; omega)]
    rfl
  | succ c ih =>
    intro fuel i a hi hf
    obtain ⟨m, rfl⟩ : ∃ m, fuel = m + 1 := ⟨fuel - 1, by omega⟩
    rw [f_X11_sumOf_10, if_neg (by rw [nI_lei (by omega) (by omega)]; omega), hA.ld S i rfl (by omega)]
    simp only [Option.bind_some, nI_1]
    rw [ih m (i + 1) _ (by omega) (by omega)]
    rfl
set_option maxRecDepth 100000 in
theorem X11_sumOf {S : Mm} {r N : Nat} (hA : okA S.2 r N) (hN : N < 2000) : f_X11_sumOf S r = some (sm (mI S r) N 0 0, S) := by
  rw [f_X11_sumOf, hA.ln S rfl]
  exact X11_sum10 hA (by omega) N FU 0 0 (by omega) (by show N < 3000; omega)
theorem X12_sum5 {S : Mm} {r N l : Nat} (hA : okA S.2 r N) (hl : l ≤ N) (hN : N < 2 ^ 30) : ∀ (c fuel i : Nat) (a : Int32), i + c = l → c < fuel → f_X12_sumOf_5 fuel S r (nI l) a (nI i) = some (sm (mI S r) c i a, S) := by
  intro c
  induction c with
  | zero =>
    intro fuel i a hi hf
    obtain ⟨m, rfl⟩ : ∃ m, fuel = m + 1 := ⟨fuel - 1, by omega⟩
    rw [f_X12_sumOf_5, if_pos (by rw [nI_lei (by omega) (by omega)]; omega)]
    rfl
  | succ c ih =>
    intro fuel i a hi hf
    obtain ⟨m, rfl⟩ : ∃ m, fuel = m + 1 := ⟨fuel - 1, by omega⟩
    rw [f_X12_sumOf_5, if_neg (by rw [nI_lei (by omega) (by omega)]; omega), hA.ld S i rfl (by omega)]
    simp only [Option.bind_some, nI_1]
    rw [ih m (i + 1) _ (by omega) (by omega)]
    rfl
set_option maxRecDepth 100000 in
theorem X12_sumOf {S : Mm} {r N l : Nat} (hM : ModZ S.2) (hA : okA S.2 r N) (hl : l ≤ N) (hN : N < 2000) : f_X12_sumOf S 33 r (nI l) = some (sm (mI S r) l 0 0, S) := by
  rw [f_X12_sumOf, if_pos (hM.o S rfl)]
  exact X12_sum5 hA hl (by omega) l FU 0 0 (by omega) (by show l < 3000; omega)
theorem nI3 (n : Nat) : 3 * nI n = nI (3 * n) := by
  have := ix3' n 0
  rwa [show nI 0 = (0 : Int32) from rfl, Int32.add_zero, Nat.add_zero] at this
theorem nI6 (n : Nat) : 6 * nI n = nI (6 * n) := by
  have := ix6' n 0
  rwa [show nI 0 = (0 : Int32) from rfl, Int32.add_zero, Nat.add_zero] at this
theorem X1_total {S : Mm} {L : Nat} (hL : LandZ S.2 L) : f_X1_total S (L + 5) = some (sm (mI S (L + 6)) 36 0 0, S) := by
  rw [f_X1_total, if_pos (hL.O5.ok S rfl), hL.g50 S rfl]
  simp only [Option.bind_some]
  rw [X11_sumOf hL.A6 (by omega)]
  rfl
/-! what the sums come to -/
theorem sum8 {V : Vw} {n : Nat} (hB : Bd V n) : sm (V 8) 6 0 0 = sm (V 8) n 0 0 := sm_cut hB.le (fun k h1 h2 => (hB.z9 k h1 h2).1)
theorem sum9 {V : Vw} {n : Nat} (hB : Bd V n) : sm (V 9) 18 0 0 = sm (V 9) (3 * n) 0 0 := sm_cut (by have := hB.le; omega) (fun k h1 h2 => by
  have := (hB.z9 (k / 3) (by omega) (by omega)).2 (k % 3) (by omega)
  rwa [show 3 * (k / 3) + k % 3 = k by omega] at this)
theorem sum10 {V : Vw} {n : Nat} (hB : Bd V n) : sm (V 10) 36 0 0 = sm (V 10) (6 * n) 0 0 := sm_cut (by have := hB.le; omega) (fun k h1 h2 => by
  have := hB.z10 (k / 6) (k % 6) (by omega) (by omega) (Or.inl (by omega))
  rwa [show 6 * (k / 6) + k % 6 = k by omega] at this)
theorem smL8 {S : Mm} {L c : Nat} (hc : c ≤ 6) : sm (mI S (L + 2)) c 0 0 = sm (lV S L 8) c 0 0 := sm_c c 0 0 (fun k _ h => lv8 (by omega))
theorem smL9 {S : Mm} {L c : Nat} (hc : c ≤ 18) : sm (mI S (L + 3)) c 0 0 = sm (lV S L 9) c 0 0 := sm_c c 0 0 (fun k _ h => lv9 (by omega))
theorem smL10 {S : Mm} {L c : Nat} (hc : c ≤ 36) : sm (mI S (L + 6)) c 0 0 = sm (lV S L 10) c 0 0 := sm_c c 0 0 (fun k _ h => lv10 (by omega))
theorem smM8 {S : Mm} {c : Nat} (hc : c ≤ 6) : sm (mI S 41) c 0 0 = sm (mV S 8) c 0 0 := sm_c c 0 0 (fun k _ h => mv8 (by omega))
theorem smM9 {S : Mm} {c : Nat} (hc : c ≤ 18) : sm (mI S 42) c 0 0 = sm (mV S 9) c 0 0 := sm_c c 0 0 (fun k _ h => mv9 (by omega))
theorem smM10 {S : Mm} {c : Nat} (hc : c ≤ 36) : sm (mI S 43) c 0 0 = sm (mV S 10) c 0 0 := sm_c c 0 0 (fun k _ h => mv10 (by omega))
/-! owed -/
def owF (V : Vw) (a i : Nat) : Int32 := V 10 (6 * i + a) - V 10 (6 * a + i)
theorem X1_from {S : Mm} {L a b : Nat} (hL : LandZ S.2 L) (hk : 6 * a + b < 36) : f_X1_from S (L + 5) (nI a) (nI b) = some (lV S L 10 (6 * a + b), S) := by
  simp only [f_X1_from, hL.O5.ok S rfl, if_true, hL.g50 S rfl, Option.bind_some, ix6, hL.A6.ld S _ rfl hk, lv10 hk]
theorem X12_debt {S : Mm} {a b : Nat} (hM : ModZ S.2) (hk : 6 * a + b < 36) : f_X12_debt S 33 (nI a) (nI b) = some (mV S 10 (6 * a + b), S) := by
  simp only [f_X12_debt, hM.o S rfl, if_true, hM.g13 S rfl, Option.bind_some, ix6', hM.a43.ld S _ rfl hk, mv10 hk]
theorem X1_owed4 {S : Mm} {L a : Nat} (hL : LandZ S.2 L) (ha : a < 6) : ∀ (c fuel i : Nat) (t : Int32), i + c = 6 → c < fuel → f_X1_owedTo_4 fuel S (L + 5) (nI a) t (nI i) = some (sm (owF (lV S L) a) c i t, S) := by
  intro c
  induction c with
  | zero =>
    intro fuel i t hi hf
    obtain ⟨m, rfl⟩ : ∃ m, fuel = m + 1 := ⟨fuel - 1, by omega⟩
    rw [f_X1_owedTo_4, if_pos (by rw [show (6 : Int32) = nI 6 from rfl, nI_lei (by omega) (by omega)]; omega)]
    rfl
  | succ c ih =>
    intro fuel i t hi hf
    obtain ⟨m, rfl⟩ : ∃ m, fuel = m + 1 := ⟨fuel - 1, by omega⟩
    rw [f_X1_owedTo_4, if_neg (by rw [show (6 : Int32) = nI 6 from rfl, nI_lei (by omega) (by omega)]; omega), X1_from hL (by omega)]
    simp only [Option.bind_some]
    rw [X1_from hL (by omega)]
    simp only [Option.bind_some, nI_1]
    rw [ih m (i + 1) _ (by omega) (by omega)]
    rfl
theorem X12_owed26 {S : Mm} {n a : Nat} (hM : ModZ S.2) (hB : Bd (mV S) n) (ha : a < 6) : ∀ (c fuel i : Nat) (t : Int32), i + c = n → c < fuel → f_X12_owed_26 fuel S 33 (nI a) t (nI i) = some (sm (owF (mV S) a) c i t, S) := by
  have h6 := hB.le
  intro c
  induction c with
  | zero =>
    intro fuel i t hi hf
    obtain ⟨m, rfl⟩ : ∃ m, fuel = m + 1 := ⟨fuel - 1, by omega⟩
    rw [f_X12_owed_26, hM.i S _ rfl, mv0, hB.sz]
    simp only [Option.bind_some]
    rw [if_pos (by rw [nI_lei (by omega) (by omega)]; omega)]
    rfl
  | succ c ih =>
    intro fuel i t hi hf
    obtain ⟨m, rfl⟩ : ∃ m, fuel = m + 1 := ⟨fuel - 1, by omega⟩
    rw [f_X12_owed_26, hM.i S _ rfl, mv0, hB.sz]
    simp only [Option.bind_some]
    rw [if_neg (by rw [nI_lei (by omega) (by omega)]; omega), X12_debt hM (by omega)]
    simp only [Option.bind_some]
    rw [X12_debt hM (by omega)]
    simp only [Option.bind_some, nI_1]
    rw [ih m (i + 1) _ (by omega) (by omega)]
    rfl
set_option maxRecDepth 100000 in
theorem st_19 {j : Nat} {S : Mm} (hI : Inv j S) (x : Int32) : ∃ S', ls_19 0 33 S x = some S' ∧ Inv (j + 1) S' := by
  unfold ls_19
  have hS := hI.1
  have hv := hI.2.2.1
  have hH := hI.2.1.1
  obtain ⟨⟨n, hB⟩, ⟨w, w1, w2⟩, ⟨m, m1, m2⟩⟩ := hI.2.2.2.1
  have hM := hS.m
  have h6 := hB.le
  have eM := m15_mV S
  have hMk : ∀ k, ModZ (rfC S k).2 := fun k => hS.m
  have eMk : ∀ k, mV (m15 (rfC S k)) = mV S := fun k => by rw [m15_mV, rfC_mV]
  have hz : mV (m15 S) 0 0 = nI n := by rw [eM]; exact hB.sz
  have hzk : ∀ k, mV (m15 (rfC S k)) 0 0 = nI n := fun k => by rw [eMk]; exact hB.sz
  have qt : Inv (j + 1) (m15 S) := hI.qt (cs := [33]) (ws := []) (Gx.ag (Ag.m15 (by simp))) (by simp) (by unfold Fre; decide) (by decide) rfl rfl rfl hI.2.1.2.1 eM
  have ref : ∀ (k : Nat) (c : Int32), k < 7 → f_X11_owed S 0 x = some (1000000000 - c, rfC S k) → f_X12_owed (rfC S k) 33 x = some (1000000000 - c, rfM (m15 (rfC S k)) k) → ∃ S', ((f_X11_owed S 0 x).bind fun q => (f_X12_owed q.2 33 x).bind fun r => if q.1 = r.1 then some r.2 else none) = some S' ∧ Inv (j + 1) S' := fun k c hk h1 h2 => ⟨_, two (g := fun T => f_X12_owed T 33 x) h1 h2, hI.rf hk⟩
  by_cases hh : hasV (mV S) x = true
  · obtain ⟨a, a1, rfl⟩ := hasV_n hB.sz hB.le hh
    have ha : a < 6 := by omega
    refine ⟨_, two (g := fun T => f_X12_owed T 33 (nI a)) (v := sm (owF (mV S) a) n 0 0) (S1 := S) (S2 := m15 S) ?_ ?_, qt⟩
    · simp only [f_X11_owed, hS.o S rfl, if_true, hS.g0 S rfl, X6_hasHouse' hS.l1, hv, hh, b2i_t, Option.bind_some, hS.l1.g5 S rfl, f_X1_owedTo, hS.l1.O5.ok S rfl]
      rw [if_neg (by decide), show (0 : Int32) = nI 0 from rfl, X1_owed4 hS.l1 ha 6 FU 0 (nI 0) rfl (by show 6 < 3000; omega), hv]
      simp only [Option.bind_some]
      rw [show nI 0 = (0 : Int32) from rfl, sm_cut (l := n) h6 (fun k h1 h2 => ?_)]
      rw [owF, hB.z10 k a h2 ha (Or.inl h1), hB.z10 a k ha h2 (Or.inr h1)]
      rfl
    · simp only [f_X12_owed, hM.o _ rfl, if_true, hM.q, Option.bind_some, X12_isHouse hM.u hz h6, eM, hh, b2i_t]
      rw [if_neg (by decide), show (0 : Int32) = nI 0 from rfl, X12_owed26 hM.u (by rw [eM]; exact hB) ha n FU 0 (nI 0) (by omega) (by show n < 3000; omega), eM]
  · rw [Bool.not_eq_true] at hh
    refine ref 1 (-1) (by omega) ?_ ?_
    · simp only [f_X11_owed, hS.o S rfl, if_true, hS.g0 S rfl, X6_hasHouse' hS.l1, hv, hh, b2i_f, Option.bind_some, (cR hS).1]
    · simp only [f_X12_owed, (hMk 1).o _ rfl, if_true, (hMk 1).q, Option.bind_some, X12_isHouse (hMk 1).u (hzk 1) h6, eMk, hh, b2i_f, (mR' (hMk 1).u).1]
/-! count -/
theorem st_27 {j : Nat} {S : Mm} (hI : Inv j S) (hj : j < 512) (x : Int32) : ∃ S', ls_27 0 33 S x = some S' ∧ Inv (j + 1) S' := by
  unfold ls_27
  have hS := hI.1
  have hv := hI.2.2.1
  have hH := hI.2.1.1
  obtain ⟨⟨n, hB⟩, ⟨w, w1, w2⟩, ⟨m, m1, m2⟩⟩ := hI.2.2.2.1
  have hM := hS.m
  have h6 := hB.le
  have eM := m15_mV S
  have hMk : ∀ k, ModZ (rfC S k).2 := fun k => hS.m
  have eMk : ∀ k, mV (m15 (rfC S k)) = mV S := fun k => by rw [m15_mV, rfC_mV]
  have hz : mV (m15 S) 0 0 = nI n := by rw [eM]; exact hB.sz
  have hzk : ∀ k, mV (m15 (rfC S k)) 0 0 = nI n := fun k => by rw [eMk]; exact hB.sz
  have qt : Inv (j + 1) (m15 S) := hI.qt (cs := [33]) (ws := []) (Gx.ag (Ag.m15 (by simp))) (by simp) (by unfold Fre; decide) (by decide) rfl rfl rfl hI.2.1.2.1 eM
  obtain ⟨sl, q1, q2, q3, -⟩ := id hI.2.2.2.2.2.1
  obtain ⟨sr, p1, p2, p3, -⟩ := id hI.2.2.2.2.2.2.1
  have hf := hI.2.2.2.2.2.2.2
  have x0 : mI (m15 S) 33 0 = nI n := by rw [mv0, eM]; exact hB.sz
  have x1 : mI (m15 S) 33 1 = mV S 0 1 := by rw [mv01, eM]
  have x2 : mI (m15 S) 33 2 = nI w := by rw [mv02, eM]; exact w2
  have x3 : mI (m15 S) 33 3 = nI m := by rw [mv03, eM]; exact m2
  have x27 : mI (m15 S) 33 27 = nI sl := q3
  have x36 : mI (m15 S) 33 36 = nI sr := p3
  have y0 : mI S 1 1 = nI n := by rw [lv0 (L := 1), hv]; exact hB.sz
  have y1 : mI S 1 6 = mV S 0 1 := by rw [lv01 (L := 1), hv]
  have y2 : mI S 1 7 = nI w := by rw [lv02 (L := 1), hv]; exact w2
  have y3 : mI S 1 8 = nI m := by rw [lv03 (L := 1), hv]; exact m2
  have go : ∀ v, f_X11_count S 0 x = some (v, S) → f_X12_count S 33 x = some (v, m15 S) → ∃ S', ((f_X11_count S 0 x).bind fun q => (f_X12_count q.2 33 x).bind fun r => if q.1 = r.1 then some r.2 else none) = some S' ∧ Inv (j + 1) S' := fun v h1 h2 => ⟨_, two (g := fun T => f_X12_count T 33 x) h1 h2, qt⟩
  by_cases h0 : x = 0
  · subst h0
    refine go (nI n) ?_ ?_
    · simp only [f_X11_count, hS.o S rfl, if_true, Option.bind_some, hS.g0 S rfl, hS.l1.i S _ rfl, y0]
    · simp only [f_X12_count, f_X12_count_149, f_X12_count_178, hM.o _ rfl, if_true, hM.q, Option.bind_some, hM.u.i _ _ rfl, x0]
  by_cases h1 : x = 1
  · subst h1
    refine go (nI w) ?_ ?_
    · simp only [f_X11_count, hS.o S rfl, if_true, Option.bind_some, show ¬ (1 : Int32) = 0 by decide, if_false, hS.g0 S rfl, hS.l1.i S _ rfl, y2]
    · simp only [f_X12_count, f_X12_count_149, f_X12_count_178, hM.o _ rfl, if_true, hM.q, Option.bind_some, show ¬ (1 : Int32) = 0 by decide, if_false, hM.u.i _ _ rfl, x2]
  by_cases h2 : x = 2
  · subst h2
    refine go (mV S 0 1) ?_ ?_
    · simp only [f_X11_count, hS.o S rfl, if_true, Option.bind_some, show ¬ (2 : Int32) = 0 by decide, show ¬ (2 : Int32) = 1 by decide, if_false, hS.g0 S rfl, hS.l1.i S _ rfl, y1]
    · simp only [f_X12_count, f_X12_count_149, f_X12_count_178, hM.o _ rfl, if_true, hM.q, Option.bind_some, show ¬ (2 : Int32) = 0 by decide, show ¬ (2 : Int32) = 1 by decide, if_false, hM.u.i _ _ rfl, x1]
  by_cases h3 : x = 3
  · subst h3
    refine go (sm (mV S 8) n 0 0) ?_ ?_
    · simp only [f_X11_count, hS.o S rfl, if_true, Option.bind_some, show ¬ (3 : Int32) = 0 by decide, show ¬ (3 : Int32) = 1 by decide, show ¬ (3 : Int32) = 2 by decide, if_false, hS.g0 S rfl, hS.l1.g2 S rfl, X11_sumOf hS.l1.A2 (by omega), smL8 (L := 1) (Nat.le_refl 6), hv, sum8 hB]
    · simp only [f_X12_count, f_X12_count_149, f_X12_count_178, hM.o _ rfl, if_true, hM.q, Option.bind_some, show ¬ (3 : Int32) = 0 by decide, show ¬ (3 : Int32) = 1 by decide, show ¬ (3 : Int32) = 2 by decide, if_false, hM.u.g11 _ rfl, hM.u.i _ _ rfl, x0, X12_sumOf hM.u hM.u.a41 h6 (by omega), smM8 h6, eM]
  by_cases h4 : x = 4
  · subst h4
    refine go (sm (mV S 9) (3 * n) 0 0) ?_ ?_
    · simp only [f_X11_count, hS.o S rfl, if_true, Option.bind_some, show ¬ (4 : Int32) = 0 by decide, show ¬ (4 : Int32) = 1 by decide, show ¬ (4 : Int32) = 2 by decide, show ¬ (4 : Int32) = 3 by decide, if_false, hS.g0 S rfl, hS.l1.g3 S rfl, X11_sumOf hS.l1.A3 (by omega), smL9 (L := 1) (Nat.le_refl 18), hv, sum9 hB]
    · simp only [f_X12_count, f_X12_count_149, f_X12_count_178, hM.o _ rfl, if_true, hM.q, Option.bind_some, show ¬ (4 : Int32) = 0 by decide, show ¬ (4 : Int32) = 1 by decide, show ¬ (4 : Int32) = 2 by decide, show ¬ (4 : Int32) = 3 by decide, if_false, hM.u.g12 _ rfl, hM.u.i _ _ rfl, x0, nI3, X12_sumOf hM.u hM.u.a42 (show 3 * n ≤ 18 by omega) (by omega), smM9 (show 3 * n ≤ 18 by omega), eM]
  by_cases h5 : x = 5
  · subst h5
    refine go (sm (mV S 10) (6 * n) 0 0) ?_ ?_
    · simp only [f_X11_count, hS.o S rfl, if_true, Option.bind_some, show ¬ (5 : Int32) = 0 by decide, show ¬ (5 : Int32) = 1 by decide, show ¬ (5 : Int32) = 2 by decide, show ¬ (5 : Int32) = 3 by decide, show ¬ (5 : Int32) = 4 by decide, if_false, hS.g0 S rfl, hS.l1.g5 S rfl, X1_total hS.l1, smL10 (L := 1) (Nat.le_refl 36), hv, sum10 hB]
    · simp only [f_X12_count, f_X12_count_149, f_X12_count_178, hM.o _ rfl, if_true, hM.q, Option.bind_some, show ¬ (5 : Int32) = 0 by decide, show ¬ (5 : Int32) = 1 by decide, show ¬ (5 : Int32) = 2 by decide, show ¬ (5 : Int32) = 3 by decide, show ¬ (5 : Int32) = 4 by decide, if_false, hM.u.g13 _ rfl, hM.u.i _ _ rfl, x0, nI6, X12_sumOf hM.u hM.u.a43 (show 6 * n ≤ 36 by omega) (by omega), smM10 (show 6 * n ≤ 36 by omega), eM]
  by_cases h6 : x = 6
  · subst h6
    refine go (nI sl) ?_ ?_
    · simp only [f_X11_count, hS.o S rfl, if_true, Option.bind_some, show ¬ (6 : Int32) = 0 by decide, show ¬ (6 : Int32) = 1 by decide, show ¬ (6 : Int32) = 2 by decide, show ¬ (6 : Int32) = 3 by decide, show ¬ (6 : Int32) = 4 by decide, show ¬ (6 : Int32) = 5 by decide, if_false, hS.g6 S rfl, hS.o29.gI S _ rfl, q2]
    · simp only [f_X12_count, f_X12_count_149, f_X12_count_178, hM.o _ rfl, if_true, hM.q, Option.bind_some, show ¬ (6 : Int32) = 0 by decide, show ¬ (6 : Int32) = 1 by decide, show ¬ (6 : Int32) = 2 by decide, show ¬ (6 : Int32) = 3 by decide, show ¬ (6 : Int32) = 4 by decide, show ¬ (6 : Int32) = 5 by decide, if_false, hM.u.i _ _ rfl, x27]
  by_cases h7 : x = 7
  · subst h7
    refine go (nI sr) ?_ ?_
    · simp only [f_X11_count, hS.o S rfl, if_true, Option.bind_some, show ¬ (7 : Int32) = 0 by decide, show ¬ (7 : Int32) = 1 by decide, show ¬ (7 : Int32) = 2 by decide, show ¬ (7 : Int32) = 3 by decide, show ¬ (7 : Int32) = 4 by decide, show ¬ (7 : Int32) = 5 by decide, show ¬ (7 : Int32) = 6 by decide, if_false, hS.i S _ rfl, p2]
    · simp only [f_X12_count, f_X12_count_149, f_X12_count_178, hM.o _ rfl, if_true, hM.q, Option.bind_some, show ¬ (7 : Int32) = 0 by decide, show ¬ (7 : Int32) = 1 by decide, show ¬ (7 : Int32) = 2 by decide, show ¬ (7 : Int32) = 3 by decide, show ¬ (7 : Int32) = 4 by decide, show ¬ (7 : Int32) = 5 by decide, show ¬ (7 : Int32) = 6 by decide, if_false, hM.u.i _ _ rfl, x36]
  by_cases h8 : x = 8
  · subst h8
    refine go (nI (m - w)) ?_ ?_
    · simp only [f_X11_count, hS.o S rfl, if_true, Option.bind_some, show ¬ (8 : Int32) = 0 by decide, show ¬ (8 : Int32) = 1 by decide, show ¬ (8 : Int32) = 2 by decide, show ¬ (8 : Int32) = 3 by decide, show ¬ (8 : Int32) = 4 by decide, show ¬ (8 : Int32) = 5 by decide, show ¬ (8 : Int32) = 6 by decide, show ¬ (8 : Int32) = 7 by decide, if_false, hS.g0 S rfl, hS.l1.i S _ rfl, y2, y3]
      by_cases hmw : m ≤ w
      · rw [mx_sub (t := m - w) (by omega) (by omega) (by omega) (Or.inl (by omega))]
      · rw [mx_sub (t := m - w) (by omega) (by omega) (by omega) (Or.inr (by omega))]
    · simp only [f_X12_count, f_X12_count_149, f_X12_count_178, hM.o _ rfl, if_true, hM.q, Option.bind_some, show ¬ (8 : Int32) = 0 by decide, show ¬ (8 : Int32) = 1 by decide, show ¬ (8 : Int32) = 2 by decide, show ¬ (8 : Int32) = 3 by decide, show ¬ (8 : Int32) = 4 by decide, show ¬ (8 : Int32) = 5 by decide, show ¬ (8 : Int32) = 6 by decide, show ¬ (8 : Int32) = 7 by decide, if_false, hM.u.i _ _ rfl, x2, x3]
      by_cases hmw : m ≤ w
      · rw [if_pos ((nI_lei (by omega) (by omega)).mpr hmw), show m - w = 0 by omega]
        rfl
      · rw [if_neg (fun q => hmw ((nI_lei (by omega) (by omega)).mp q)), pk_sub (by omega)]
  by_cases h9 : x = 9
  · subst h9
    refine go (-9) ?_ ?_
    · simp only [f_X11_count, hS.o S rfl, if_true, Option.bind_some, show ¬ (9 : Int32) = 0 by decide, show ¬ (9 : Int32) = 1 by decide, show ¬ (9 : Int32) = 2 by decide, show ¬ (9 : Int32) = 3 by decide, show ¬ (9 : Int32) = 4 by decide, show ¬ (9 : Int32) = 5 by decide, show ¬ (9 : Int32) = 6 by decide, show ¬ (9 : Int32) = 7 by decide, show ¬ (9 : Int32) = 8 by decide, if_false]
    · simp only [f_X12_count, f_X12_count_149, f_X12_count_178, hM.o _ rfl, if_true, hM.q, Option.bind_some, show ¬ (9 : Int32) = 0 by decide, show ¬ (9 : Int32) = 1 by decide, show ¬ (9 : Int32) = 2 by decide, show ¬ (9 : Int32) = 3 by decide, show ¬ (9 : Int32) = 4 by decide, show ¬ (9 : Int32) = 5 by decide, show ¬ (9 : Int32) = 6 by decide, show ¬ (9 : Int32) = 7 by decide, show ¬ (9 : Int32) = 8 by decide, if_false, X12_in]
      rfl
  by_cases h10 : x = 10
  · subst h10
    refine go (-9) ?_ ?_
    · simp only [f_X11_count, hS.o S rfl, if_true, Option.bind_some, show ¬ (10 : Int32) = 0 by decide, show ¬ (10 : Int32) = 1 by decide, show ¬ (10 : Int32) = 2 by decide, show ¬ (10 : Int32) = 3 by decide, show ¬ (10 : Int32) = 4 by decide, show ¬ (10 : Int32) = 5 by decide, show ¬ (10 : Int32) = 6 by decide, show ¬ (10 : Int32) = 7 by decide, show ¬ (10 : Int32) = 8 by decide, show ¬ (10 : Int32) = 9 by decide, if_false]
    · simp only [f_X12_count, f_X12_count_149, f_X12_count_178, hM.o _ rfl, if_true, hM.q, Option.bind_some, show ¬ (10 : Int32) = 0 by decide, show ¬ (10 : Int32) = 1 by decide, show ¬ (10 : Int32) = 2 by decide, show ¬ (10 : Int32) = 3 by decide, show ¬ (10 : Int32) = 4 by decide, show ¬ (10 : Int32) = 5 by decide, show ¬ (10 : Int32) = 6 by decide, show ¬ (10 : Int32) = 7 by decide, show ¬ (10 : Int32) = 8 by decide, if_false, X12_in]
      rfl
  by_cases h11 : x = 11
  · subst h11
    refine go (mI S 32 1) ?_ ?_
    · simp only [f_X11_count, hS.o S rfl, if_true, Option.bind_some, show ¬ (11 : Int32) = 0 by decide, show ¬ (11 : Int32) = 1 by decide, show ¬ (11 : Int32) = 2 by decide, show ¬ (11 : Int32) = 3 by decide, show ¬ (11 : Int32) = 4 by decide, show ¬ (11 : Int32) = 5 by decide, show ¬ (11 : Int32) = 6 by decide, show ¬ (11 : Int32) = 7 by decide, show ¬ (11 : Int32) = 8 by decide, show ¬ (11 : Int32) = 9 by decide, show ¬ (11 : Int32) = 10 by decide, if_false, hS.g9 S rfl, show (11 : Int32) - 10 = nI 1 from rfl, hS.a32.ld S 1 rfl (show 1 < 7 by omega)]
    · simp only [f_X12_count, f_X12_count_149, f_X12_count_178, hM.o _ rfl, if_true, hM.q, Option.bind_some, show ¬ (11 : Int32) = 0 by decide, show ¬ (11 : Int32) = 1 by decide, show ¬ (11 : Int32) = 2 by decide, show ¬ (11 : Int32) = 3 by decide, show ¬ (11 : Int32) = 4 by decide, show ¬ (11 : Int32) = 5 by decide, show ¬ (11 : Int32) = 6 by decide, show ¬ (11 : Int32) = 7 by decide, show ¬ (11 : Int32) = 8 by decide, if_false, X12_in, hM.u.g16 _ rfl, show (11 : Int32) - 10 = nI 1 from rfl, hM.u.a45.ld _ 1 rfl (show 1 < 7 by omega)]
      rw [if_neg (by decide), hf 1 (by omega)]
      rfl
  by_cases h12 : x = 12
  · subst h12
    refine go (mI S 32 2) ?_ ?_
    · simp only [f_X11_count, hS.o S rfl, if_true, Option.bind_some, show ¬ (12 : Int32) = 0 by decide, show ¬ (12 : Int32) = 1 by decide, show ¬ (12 : Int32) = 2 by decide, show ¬ (12 : Int32) = 3 by decide, show ¬ (12 : Int32) = 4 by decide, show ¬ (12 : Int32) = 5 by decide, show ¬ (12 : Int32) = 6 by decide, show ¬ (12 : Int32) = 7 by decide, show ¬ (12 : Int32) = 8 by decide, show ¬ (12 : Int32) = 9 by decide, show ¬ (12 : Int32) = 10 by decide, show ¬ (12 : Int32) = 11 by decide, if_false, hS.g9 S rfl, show (12 : Int32) - 10 = nI 2 from rfl, hS.a32.ld S 2 rfl (show 2 < 7 by omega)]
    · simp only [f_X12_count, f_X12_count_149, f_X12_count_178, hM.o _ rfl, if_true, hM.q, Option.bind_some, show ¬ (12 : Int32) = 0 by decide, show ¬ (12 : Int32) = 1 by decide, show ¬ (12 : Int32) = 2 by decide, show ¬ (12 : Int32) = 3 by decide, show ¬ (12 : Int32) = 4 by decide, show ¬ (12 : Int32) = 5 by decide, show ¬ (12 : Int32) = 6 by decide, show ¬ (12 : Int32) = 7 by decide, show ¬ (12 : Int32) = 8 by decide, if_false, X12_in, hM.u.g16 _ rfl, show (12 : Int32) - 10 = nI 2 from rfl, hM.u.a45.ld _ 2 rfl (show 2 < 7 by omega)]
      rw [if_neg (by decide), hf 2 (by omega)]
      rfl
  by_cases h13 : x = 13
  · subst h13
    refine go (mI S 32 3) ?_ ?_
    · simp only [f_X11_count, hS.o S rfl, if_true, Option.bind_some, show ¬ (13 : Int32) = 0 by decide, show ¬ (13 : Int32) = 1 by decide, show ¬ (13 : Int32) = 2 by decide, show ¬ (13 : Int32) = 3 by decide, show ¬ (13 : Int32) = 4 by decide, show ¬ (13 : Int32) = 5 by decide, show ¬ (13 : Int32) = 6 by decide, show ¬ (13 : Int32) = 7 by decide, show ¬ (13 : Int32) = 8 by decide, show ¬ (13 : Int32) = 9 by decide, show ¬ (13 : Int32) = 10 by decide, show ¬ (13 : Int32) = 11 by decide, show ¬ (13 : Int32) = 12 by decide, if_false, hS.g9 S rfl, show (13 : Int32) - 10 = nI 3 from rfl, hS.a32.ld S 3 rfl (show 3 < 7 by omega)]
    · simp only [f_X12_count, f_X12_count_149, f_X12_count_178, hM.o _ rfl, if_true, hM.q, Option.bind_some, show ¬ (13 : Int32) = 0 by decide, show ¬ (13 : Int32) = 1 by decide, show ¬ (13 : Int32) = 2 by decide, show ¬ (13 : Int32) = 3 by decide, show ¬ (13 : Int32) = 4 by decide, show ¬ (13 : Int32) = 5 by decide, show ¬ (13 : Int32) = 6 by decide, show ¬ (13 : Int32) = 7 by decide, show ¬ (13 : Int32) = 8 by decide, if_false, X12_in, hM.u.g16 _ rfl, show (13 : Int32) - 10 = nI 3 from rfl, hM.u.a45.ld _ 3 rfl (show 3 < 7 by omega)]
      rw [if_neg (by decide), hf 3 (by omega)]
      rfl
  by_cases h14 : x = 14
  · subst h14
    refine go (mI S 32 4) ?_ ?_
    · simp only [f_X11_count, hS.o S rfl, if_true, Option.bind_some, show ¬ (14 : Int32) = 0 by decide, show ¬ (14 : Int32) = 1 by decide, show ¬ (14 : Int32) = 2 by decide, show ¬ (14 : Int32) = 3 by decide, show ¬ (14 : Int32) = 4 by decide, show ¬ (14 : Int32) = 5 by decide, show ¬ (14 : Int32) = 6 by decide, show ¬ (14 : Int32) = 7 by decide, show ¬ (14 : Int32) = 8 by decide, show ¬ (14 : Int32) = 9 by decide, show ¬ (14 : Int32) = 10 by decide, show ¬ (14 : Int32) = 11 by decide, show ¬ (14 : Int32) = 12 by decide, show ¬ (14 : Int32) = 13 by decide, if_false, hS.g9 S rfl, show (14 : Int32) - 10 = nI 4 from rfl, hS.a32.ld S 4 rfl (show 4 < 7 by omega)]
    · simp only [f_X12_count, f_X12_count_149, f_X12_count_178, hM.o _ rfl, if_true, hM.q, Option.bind_some, show ¬ (14 : Int32) = 0 by decide, show ¬ (14 : Int32) = 1 by decide, show ¬ (14 : Int32) = 2 by decide, show ¬ (14 : Int32) = 3 by decide, show ¬ (14 : Int32) = 4 by decide, show ¬ (14 : Int32) = 5 by decide, show ¬ (14 : Int32) = 6 by decide, show ¬ (14 : Int32) = 7 by decide, show ¬ (14 : Int32) = 8 by decide, if_false, X12_in, hM.u.g16 _ rfl, show (14 : Int32) - 10 = nI 4 from rfl, hM.u.a45.ld _ 4 rfl (show 4 < 7 by omega)]
      rw [if_neg (by decide), hf 4 (by omega)]
      rfl
  by_cases h15 : x = 15
  · subst h15
    refine go (mI S 32 5) ?_ ?_
    · simp only [f_X11_count, hS.o S rfl, if_true, Option.bind_some, show ¬ (15 : Int32) = 0 by decide, show ¬ (15 : Int32) = 1 by decide, show ¬ (15 : Int32) = 2 by decide, show ¬ (15 : Int32) = 3 by decide, show ¬ (15 : Int32) = 4 by decide, show ¬ (15 : Int32) = 5 by decide, show ¬ (15 : Int32) = 6 by decide, show ¬ (15 : Int32) = 7 by decide, show ¬ (15 : Int32) = 8 by decide, show ¬ (15 : Int32) = 9 by decide, show ¬ (15 : Int32) = 10 by decide, show ¬ (15 : Int32) = 11 by decide, show ¬ (15 : Int32) = 12 by decide, show ¬ (15 : Int32) = 13 by decide, show ¬ (15 : Int32) = 14 by decide, if_false, hS.g9 S rfl, show (15 : Int32) - 10 = nI 5 from rfl, hS.a32.ld S 5 rfl (show 5 < 7 by omega)]
    · simp only [f_X12_count, f_X12_count_149, f_X12_count_178, hM.o _ rfl, if_true, hM.q, Option.bind_some, show ¬ (15 : Int32) = 0 by decide, show ¬ (15 : Int32) = 1 by decide, show ¬ (15 : Int32) = 2 by decide, show ¬ (15 : Int32) = 3 by decide, show ¬ (15 : Int32) = 4 by decide, show ¬ (15 : Int32) = 5 by decide, show ¬ (15 : Int32) = 6 by decide, show ¬ (15 : Int32) = 7 by decide, show ¬ (15 : Int32) = 8 by decide, if_false, X12_in, hM.u.g16 _ rfl, show (15 : Int32) - 10 = nI 5 from rfl, hM.u.a45.ld _ 5 rfl (show 5 < 7 by omega)]
      rw [if_neg (by decide), hf 5 (by omega)]
      rfl
  by_cases h16 : x = 16
  · subst h16
    refine go (mI S 32 6) ?_ ?_
    · simp only [f_X11_count, hS.o S rfl, if_true, Option.bind_some, show ¬ (16 : Int32) = 0 by decide, show ¬ (16 : Int32) = 1 by decide, show ¬ (16 : Int32) = 2 by decide, show ¬ (16 : Int32) = 3 by decide, show ¬ (16 : Int32) = 4 by decide, show ¬ (16 : Int32) = 5 by decide, show ¬ (16 : Int32) = 6 by decide, show ¬ (16 : Int32) = 7 by decide, show ¬ (16 : Int32) = 8 by decide, show ¬ (16 : Int32) = 9 by decide, show ¬ (16 : Int32) = 10 by decide, show ¬ (16 : Int32) = 11 by decide, show ¬ (16 : Int32) = 12 by decide, show ¬ (16 : Int32) = 13 by decide, show ¬ (16 : Int32) = 14 by decide, show ¬ (16 : Int32) = 15 by decide, if_false, hS.g9 S rfl, show (16 : Int32) - 10 = nI 6 from rfl, hS.a32.ld S 6 rfl (show 6 < 7 by omega)]
    · simp only [f_X12_count, f_X12_count_149, f_X12_count_178, hM.o _ rfl, if_true, hM.q, Option.bind_some, show ¬ (16 : Int32) = 0 by decide, show ¬ (16 : Int32) = 1 by decide, show ¬ (16 : Int32) = 2 by decide, show ¬ (16 : Int32) = 3 by decide, show ¬ (16 : Int32) = 4 by decide, show ¬ (16 : Int32) = 5 by decide, show ¬ (16 : Int32) = 6 by decide, show ¬ (16 : Int32) = 7 by decide, show ¬ (16 : Int32) = 8 by decide, if_false, X12_in, hM.u.g16 _ rfl, show (16 : Int32) - 10 = nI 6 from rfl, hM.u.a45.ld _ 6 rfl (show 6 < 7 by omega)]
      rw [if_neg (by decide), hf 6 (by omega)]
      rfl
  have hin : (decide ((11 : Int64) ≤ x.toInt64) && decide (x.toInt64 ≤ 16)) = false := by
    rw [show (11 : Int64) = (11 : Int32).toInt64 from rfl, show (16 : Int64) = (16 : Int32).toInt64 from rfl]
    simp only [i64_le]
    rw [Bool.and_eq_false_iff]
    by_cases c1 : (11 : Int32) ≤ x
    · refine Or.inr (decide_eq_false (fun c2 => ?_))
      obtain ⟨p, rfl, e1, e2⟩ := rngI (lo := 11) (hi := 16) c1 c2 (by omega) (by omega)
      have : p = 11 ∨ p = 12 ∨ p = 13 ∨ p = 14 ∨ p = 15 ∨ p = 16 := by omega
      rcases this with rfl | rfl | rfl | rfl | rfl | rfl
      · exact h11 rfl
      · exact h12 rfl
      · exact h13 rfl
      · exact h14 rfl
      · exact h15 rfl
      · exact h16 rfl
    · exact Or.inl (decide_eq_false c1)
  refine go (-9) ?_ ?_
  · simp only [f_X11_count, hS.o S rfl, if_true, h0, h1, h2, h3, h4, h5, h6, h7, h8, h9, h10, h11, h12, h13, h14, h15, h16, if_false]
  · simp only [f_X12_count, f_X12_count_149, f_X12_count_178, hM.o _ rfl, if_true, hM.q, Option.bind_some, h0, h1, h2, h3, h4, h5, h6, h7, h8, if_false, X12_in, hin, b2i_f]
