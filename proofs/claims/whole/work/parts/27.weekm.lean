/-! the reference's week -/
section
variable {S : Mm}
theorem X12_buy38 (hM : ModZ S.2) {n b g : Nat} (hB : Bd (mV S) n) (hb : b < n) (hg : g < 3) (k9 : Mm → Nat → Int32 → Int32 → Int32 → Option Mm) : ∀ (c fuel a : Nat) (f : Int32), okS (mV S) n b g f → a + c = n → c < fuel → f_X12_buyFor_38 k9 fuel S 33 (nI b) (nI g) f (nI a) = if bestV (mV S) b g c a f < 0 then f_X12_buyFor_135 k9 S 33 (nI b) (nI g) (bestV (mV S) b g c a f) 0 else f_X12_buyFor_135 k9 S 33 (nI b) (nI g) (bestV (mV S) b g c a f) 1 := by
  have h6 := hB.le
  obtain ⟨q, hq3, hq⟩ := hB.lw
  intro c
  induction c with
  | zero =>
    intro fuel a f hf ha hc
    obtain ⟨m, rfl⟩ : ∃ m, fuel = m + 1 := ⟨fuel - 1, by omega⟩
    rw [f_X12_buyFor_38]
    simp only [hM.i S _ rfl, Option.bind_some, mv0, hB.sz]
    rw [if_pos (by rw [nI_lei (by omega) (by omega)]; omega)]
    rfl
  | succ c ih =>
    intro fuel a f hf ha hc
    obtain ⟨m, rfl⟩ : ∃ m, fuel = m + 1 := ⟨fuel - 1, by omega⟩
    have ha6 : a < 6 := by omega
    have hb6 : b < 6 := by omega
    have h1 : 3 * a + g < 18 := by omega
    rw [f_X12_buyFor_38]
    simp only [hM.i S _ rfl, Option.bind_some, mv0, hB.sz, X12_wants hM ha6, X12_canSell hM hq hq3 ha6 hb6 hg, b2i_0, f_X12_buyFor_72, f_X12_buyFor_73, f_X12_buyFor_110, f_X12_buyFor_115, f_X12_buyFor_117, hM.g12 S rfl, ix3', hM.a42.ld S _ rfl h1, mv9 h1, nI_1]
    rw [if_neg (by rw [nI_lei (by omega) (by omega)]; omega)]
    have hst : ∀ f', best1 (mV S) b g a f = f' → f_X12_buyFor_38 k9 m S 33 (nI b) (nI g) f' (nI (a + 1)) = if bestV (mV S) b g (c + 1) a f < 0 then f_X12_buyFor_135 k9 S 33 (nI b) (nI g) (bestV (mV S) b g (c + 1) a f) 0 else f_X12_buyFor_135 k9 S 33 (nI b) (nI g) (bestV (mV S) b g (c + 1) a f) 1 := fun f' e => by
      rw [ih m (a + 1) f' (by rw [← e]; exact best1_ok hf (by omega)) (by omega) (by omega), bestV, e]
    cases e1 : wantV (mV S) a g
    · rw [if_pos rfl]
      cases e2 : canV (mV S) a b g
      · rw [if_pos rfl, if_pos trivial]
        exact hst f (by simp [best1, e1, e2])
      · rw [if_neg (by simp), if_neg (by decide)]
        rcases hf.cases h6 with ⟨-, hneg⟩ | ⟨s, hs1, hs2, hs3, hs4, hs5⟩
        · rw [if_pos hneg]
          exact hst (nI a) (by simp [best1, e1, e2, hneg])
        · rw [if_neg hs3]
          have h2 : 3 * s + g < 18 := by omega
          have hld : aI S 42 (3 * f + nI g) = some (mV S 9 (3 * s + g)) := by
            rw [hs2, ix3', hM.a42.ld S _ rfl h2, mv9 h2]
          rw [hld]
          simp only [Option.bind_some]
          by_cases e4 : mV S 9 (3 * a + g) ≤ mV S 9 (3 * s + g)
          · rw [if_pos e4]
            exact hst f (by simp [best1, e1, e2, hs3, hs4, Int32.not_lt.mpr e4])
          · rw [if_neg e4]
            exact hst (nI a) (by simp [best1, e1, e2, hs3, hs4, Int32.not_le.mp e4])
    · rw [if_neg (by simp), if_pos trivial]
      exact hst f (by simp [best1, e1])
/-- of the model's own cell only this place has changed -/
def O33 (js : List Nat) (S S' : Mm) : Prop := ∀ j, j ∉ js → mI S' 33 j = mI S 33 j
theorem O33.rf {js : List Nat} {S : Mm} : O33 js S S := fun _ _ => rfl
theorem O33.tr {js : List Nat} {S S1 S2 : Mm} (h1 : O33 js S S1) (h2 : O33 js S1 S2) : O33 js S S2 := fun j hj => (h2 j hj).trans (h1 j hj)
theorem O33.mono {js ks : List Nat} {S S' : Mm} (h : O33 js S S') (hs : ∀ a ∈ js, a ∈ ks) : O33 ks S S' := fun j hj => h j (fun q => hj (hs j q))
theorem O33.ag {js cs : List Nat} {S S' : Mm} (h : Ag cs S S') (hc : 33 ∉ cs) : O33 js S S' := fun j _ => by rw [h.2 33 hc]
theorem O33.sI {js : List Nat} {S : Mm} {a j : Nat} {v : Int32} (h : a = 33 → j ∈ js) : O33 js S (sI S a j v) := fun k hk => by
  rw [mI_s, if_neg]
  rintro ⟨h1, rfl⟩
  exact hk (h h1.symm)
set_option maxRecDepth 100000 in
theorem X12_buy9 {n b g w : Nat} (hb : b < n) (hg : g < 3) (hw : w ≤ 9) : ∀ (F fuel : Nat) (S : Mm) (p : Nat), p < 2 ^ 20 → ModZ S.2 → Bd (mV S) n → F + 1 < fuel → w ≤ p + F → mV S 7 b = nI w → mV S 9 (3 * b + g) = nI p → ∃ S', f_X12_buyFor_9 fuel S 33 (nI b) (nI g) 1 = some S' ∧ Ag [33, 41, 42] S S' ∧ O33 [17] S S' ∧ mV S' = (buyS n F (mV S) b g).1 ∧ mI S' 33 17 = mI S 33 17 + nI (buyS n F (mV S) b g).2 := by
  intro F
  induction F with
  | zero =>
    intro fuel S p hp hM hB hf hle e7 e9
    have h6 := hB.le
    have h1 : 3 * b + g < 18 := by omega
    have hb6 : b < 6 := by omega
    obtain ⟨m, rfl⟩ : ∃ m, fuel = m + 1 := ⟨fuel - 1, by omega⟩
    refine ⟨S, ?_, Ag.rf, O33.rf, rfl, ?_⟩
    · rw [f_X12_buyFor_9]
      simp only [f_X12_buyFor_161, hM.g12 S rfl, hM.g10 S rfl, Option.bind_some, ix3', hM.a42.ld S _ rfl h1, hM.a40.ld S _ rfl hb6, mv9 h1, mv7 hb6]
      rw [if_neg (by decide), e7, e9, if_pos ((nI_lei (by omega) (by omega)).mpr (by omega))]
    · show _ = _ + nI 0
      rw [nI_0, Int32.add_zero]
  | succ F ih =>
    intro fuel S p hp hM hB hf hle e7 e9
    have h6 := hB.le
    have h1 : 3 * b + g < 18 := by omega
    have hb6 : b < 6 := by omega
    obtain ⟨m, rfl⟩ : ∃ m, fuel = m + 1 := ⟨fuel - 1, by omega⟩
    obtain ⟨m2, rfl⟩ : ∃ m2, m = m2 + 1 := ⟨m - 1, by omega⟩
    rw [f_X12_buyFor_9, buyS]
    simp only [f_X12_buyFor_161, hM.g12 S rfl, hM.g10 S rfl, Option.bind_some, ix3', hM.a42.ld S _ rfl h1, hM.a40.ld S _ rfl hb6, mv9 h1, mv7 hb6]
    rw [if_neg (by decide), e7, e9]
    by_cases c : w ≤ p
    · rw [if_pos ((nI_lei (by omega) (by omega)).mpr c), if_neg (by rw [nI_lti (by omega) (by omega)]; omega)]
      exact ⟨S, rfl, Ag.rf, O33.rf, rfl, by show _ = _ + nI 0; rw [nI_0, Int32.add_zero]⟩
    · rw [if_neg (fun q => c ((nI_lei (by omega) (by omega)).mp q)), if_pos ((nI_lti (by omega) (by omega)).mpr (by omega))]
      have h38 := X12_buy38 hM hB hb hg (f_X12_buyFor_9 (m2 + 1)) n FU 0 (-1) (Or.inl rfl) (by omega) (by show n < 3000; omega)
      rw [nI_0] at h38
      rw [h38]
      rcases (bestV_ok (V := mV S) (n := n) (b := b) (g := g) n 0 (-1) (Or.inl rfl) (by omega)).cases h6 with ⟨-, h⟩ | ⟨s, k1, k2, k3, k4, k5⟩
      · rw [if_pos h, if_pos h, f_X12_buyFor_135, if_pos rfl, f_X12_buyFor_158, f_X12_buyFor_9, if_pos rfl, f_X12_buyFor_161]
        exact ⟨S, rfl, Ag.rf, O33.rf, rfl, by show _ = _ + nI 0; rw [nI_0, Int32.add_zero]⟩
      · rw [if_neg k3, if_neg k3, f_X12_buyFor_135, if_neg (by decide), k4, k2]
        obtain ⟨hB1, hne⟩ := hB.mv k1 hb hg k5
        obtain ⟨S1, g1, g2, g3⟩ := X12_sell hM (a := s) (b := b) (g := g) (by omega) hb6 hg hne
        have z : S1.2 = S.2 := g2.1
        have hM1 : ModZ S1.2 := by rw [z]; exact hM
        rw [g1]
        simp only [Option.bind_some, hM1.i S1 _ rfl, hM1.p S1 _ _ rfl, f_X12_buyFor_158]
        have hv : mV (sI S1 33 17 (mI S1 33 17 + 1)) = mvV (mV S) s b g := by
          rw [mV_o (Or.inr (Or.inr ⟨rfl, by omega⟩)), g3]
        obtain ⟨S2, j1, j2, j3, j4, j5⟩ := ih (m2 + 1) (sI S1 33 17 (mI S1 33 17 + 1)) (p + 1) (by omega) hM1 (by rw [hv]; exact hB1) (by omega) (by omega) (by rw [hv, Sm.mv 7 b (by omega) (by omega), e7]) (by rw [hv, mvV_b hne, e9, nI_1])
        rw [hv] at j4 j5
        refine ⟨S2, j1, ?_, ?_, j4, ?_⟩
        · exact ((g2.mono (ds := [33, 41, 42]) (by simp)).sIt (by simp)).tr j2
        · exact ((O33.ag g2 (by simp)).tr (O33.sI (by simp))).tr j3
        · rw [j5]
          simp only [mI_s, and_self, if_true]
          rw [g2.2 33 (by simp), Int32.add_assoc, show (1 : Int32) = nI 1 from rfl, nI_add]
          congr 2
          omega
set_option maxRecDepth 100000 in
theorem X12_buyFor (hM : ModZ S.2) {n b : Nat} (hB : Bd (mV S) n) (hb : b < n) : ∃ S', f_X12_buyFor S 33 (nI b) = some S' ∧ Ag [33, 41, 42] S S' ∧ O33 [17] S S' ∧ mV S' = (buyS n 10 (mV S) b (gd (mV S) 6 b)).1 ∧ mI S' 33 17 = mI S 33 17 + nI (buyS n 10 (mV S) b (gd (mV S) 6 b)).2 := by
  have h6 := hB.le
  have e6 := hB.r6.gd (k := b) (by omega) (by omega)
  have hb6 : b < 6 := by omega
  have hk : 3 * b + gd (mV S) 6 b < 18 := by omega
  obtain ⟨s, l1, e1⟩ := hB.r9 (3 * b + gd (mV S) 6 b) hk
  obtain ⟨w, l2, e2⟩ := hB.r7 b (by omega)
  obtain ⟨S', k1, k2⟩ := X12_buy9 (n := n) (b := b) (g := gd (mV S) 6 b) (w := w) hb (by omega) l2 10 FU S s (by omega) hM hB (by show 11 < 3000; omega) (by omega) e2 e1
  refine ⟨S', ?_, k2⟩
  simp only [f_X12_buyFor, hM.o S rfl, if_true, Option.bind_some, hM.g9 S rfl, hM.a39.ld S _ rfl hb6, mv6 hb6]
  rw [e6.1]
  exact k1
theorem X12_week7 {n : Nat} : ∀ (c fuel h : Nat) (S : Mm), ModZ S.2 → Bd (mV S) n → h + c = n → c < fuel → ∃ S1, f_X12_weekOn_7 fuel S 33 (nI h) = f_X12_weekOn_76 FU S1 33 0 ∧ Ag [42] S S1 ∧ mV S1 = makeV c h (mV S) := by
  intro c
  induction c with
  | zero =>
    intro fuel h S hM hB hc hf
    have h6 := hB.le
    obtain ⟨m, rfl⟩ : ∃ m, fuel = m + 1 := ⟨fuel - 1, by omega⟩
    refine ⟨S, ?_, Ag.rf, rfl⟩
    rw [f_X12_weekOn_7]
    simp only [hM.i S _ rfl, Option.bind_some, mv0, hB.sz]
    rw [if_pos (by rw [nI_lei (by omega) (by omega)]; omega)]
  | succ c ih =>
    intro fuel h S hM hB hc hf
    have h6 := hB.le
    have hh6 : h < 6 := by omega
    obtain ⟨m, rfl⟩ : ∃ m, fuel = m + 1 := ⟨fuel - 1, by omega⟩
    have e4 := hB.r4.gd (k := h) hh6 (by omega)
    have hk : 3 * h + gd (mV S) 4 h < 18 := by omega
    have hB1 := hB.mk (h := h) (by omega)
    have hv : mV (sI S 42 (3 * h + gd (mV S) 4 h) (if mV S 9 (3 * h + gd (mV S) 4 h) + mV S 5 h ≤ 99 then mV S 9 (3 * h + gd (mV S) 4 h) + mV S 5 h else 99)) = mk1 (mV S) h := ms9 hk
    obtain ⟨S2, k1, k2, k3⟩ := ih m (h + 1) (sI S 42 (3 * h + gd (mV S) 4 h) (if mV S 9 (3 * h + gd (mV S) 4 h) + mV S 5 h ≤ 99 then mV S 9 (3 * h + gd (mV S) 4 h) + mV S 5 h else 99)) hM (by rw [hv]; exact hB1) (by omega) (by omega)
    rw [hv] at k3
    refine ⟨S2, ?_, (Ag.sI (by simp)).tr k2, k3⟩
    rw [f_X12_weekOn_7]
    simp only [hM.i S _ rfl, Option.bind_some, mv0, hB.sz, hM.g7 S rfl, hM.g8 S rfl, hM.g12 S rfl, hM.a37.ld S _ rfl hh6, hM.a38.ld S _ rfl hh6, mv4 hh6, mv5 hh6, f_X12_weekOn_67]
    rw [if_neg (by rw [nI_lei (by omega) (by omega)]; omega), e4.1, ix3']
    simp only [hM.a42.ld S _ rfl hk, hM.a42.st S _ _ rfl hk, Option.bind_some, mv9 hk, nI_1]
    split
    · next cc =>
      rw [if_pos cc] at k1
      exact k1
    · next cc =>
      rw [if_neg cc] at k1
      exact k1
theorem X12_week76 {n : Nat} : ∀ (c fuel b : Nat) (S : Mm), ModZ S.2 → Bd (mV S) n → b + c = n → c < fuel → ∃ S1, f_X12_weekOn_76 fuel S 33 (nI b) = f_X12_weekOn_99 FU S1 33 0 0 ∧ Ag [33, 41, 42] S S1 ∧ O33 [17] S S1 ∧ mV S1 = (buyA n c b (mV S, 0)).1 ∧ mI S1 33 17 = mI S 33 17 + nI (buyA n c b (mV S, 0)).2 := by
  intro c
  induction c with
  | zero =>
    intro fuel b S hM hB hc hf
    have h6 := hB.le
    obtain ⟨m, rfl⟩ : ∃ m, fuel = m + 1 := ⟨fuel - 1, by omega⟩
    refine ⟨S, ?_, Ag.rf, O33.rf, rfl, by show _ = _ + nI 0; rw [nI_0, Int32.add_zero]⟩
    rw [f_X12_weekOn_76]
    simp only [hM.i S _ rfl, Option.bind_some, mv0, hB.sz]
    rw [if_pos (by rw [nI_lei (by omega) (by omega)]; omega)]
  | succ c ih =>
    intro fuel b S hM hB hc hf
    have h6 := hB.le
    obtain ⟨m, rfl⟩ : ∃ m, fuel = m + 1 := ⟨fuel - 1, by omega⟩
    obtain ⟨S1, g1, g2, g3, g4, g5⟩ := X12_buyFor hM hB (b := b) (by omega)
    have z : S1.2 = S.2 := g2.1
    have e6 := hB.r6.gd (k := b) (by omega) (by omega)
    have hB1 := (buyS_ok 10 (mV S) b (gd (mV S) 6 b) hB (by omega) (by omega)).1
    rw [← g4] at hB1
    obtain ⟨S2, k1, k2, k3, k4, k5⟩ := ih m (b + 1) S1 (by rw [z]; exact hM) hB1 (by omega) (by omega)
    obtain ⟨a1, a2⟩ := buyA_add (n := n) c (b + 1) (buyS n 10 (mV S) b (gd (mV S) 6 b)).1 (0 + (buyS n 10 (mV S) b (gd (mV S) 6 b)).2)
    refine ⟨S2, ?_, g2.tr k2, g3.tr k3, ?_, ?_⟩
    · rw [f_X12_weekOn_76]
      simp only [hM.i S _ rfl, Option.bind_some, mv0, hB.sz]
      rw [if_neg (by rw [nI_lei (by omega) (by omega)]; omega), g1]
      simp only [Option.bind_some, nI_1]
      exact k1
    · rw [k4, g4, buyA]
      exact a1.symm
    · rw [k5, g5, g4, buyA, a2, Int32.add_assoc, nI_add, Nat.zero_add]
theorem X12_week99 {n : Nat} : ∀ (c fuel h : Nat) (S : Mm) (t k : Int32), ModZ S.2 → Bd (mV S) n → h + c = n → c < fuel → ∃ S', f_X12_weekOn_99 fuel S 33 t (nI h) = some ((useS c h (mV S, mI S 46, t, k)).2.2.1, S') ∧ Ag [33, 42, 46] S S' ∧ O33 [2] S S' ∧ mV S' = u2 (useS c h (mV S, mI S 46, t, k)).1 0 2 ((useS c h (mV S, mI S 46, t, k)).1 0 2 + 1) ∧ mI S' 46 = (useS c h (mV S, mI S 46, t, k)).2.1 := by
  intro c
  induction c with
  | zero =>
    intro fuel h S t k hM hB hc hf
    have h6 := hB.le
    obtain ⟨m, rfl⟩ : ∃ m, fuel = m + 1 := ⟨fuel - 1, by omega⟩
    refine ⟨sI S 33 2 (mI S 33 2 + 1), ?_, Ag.sI (by simp), O33.sI (by simp), ?_, ?_⟩
    · rw [f_X12_weekOn_99]
      simp only [hM.i S _ rfl, hM.p S _ _ rfl, Option.bind_some, mv0, hB.sz]
      rw [if_pos (by rw [nI_lei (by omega) (by omega)]; omega)]
      rfl
    · rw [ms0 (by omega), mv02]; rfl
    · funext j
      rw [mI_s, if_neg (by omega)]; rfl
  | succ c ih =>
    intro fuel h S t k hM hB hc hf
    have h6 := hB.le
    have hh6 : h < 6 := by omega
    obtain ⟨m, rfl⟩ : ∃ m, fuel = m + 1 := ⟨fuel - 1, by omega⟩
    have e6 := hB.r6.gd (k := h) hh6 (by omega)
    have hk : 3 * h + gd (mV S) 6 h < 18 := by omega
    have hB1 := (hB.us (h := h) (by omega)).1
    have hv : mV (sI (sI S 42 (3 * h + gd (mV S) 6 h) (mV S 9 (3 * h + gd (mV S) 6 h) - usd (mV S) h)) 46 h (mI S 46 h + usd (mV S) h)) = use1 (mV S) h := by
      rw [mV_o (Or.inr (Or.inl (by omega))), ms9 hk]; rfl
    have e46 : mI (sI (sI S 42 (3 * h + gd (mV S) 6 h) (mV S 9 (3 * h + gd (mV S) 6 h) - usd (mV S) h)) 46 h (mI S 46 h + usd (mV S) h)) 46 = upd (mI S 46) h (mI S 46 h + usd (mV S) h) := by
      funext j
      simp only [mI_s, upd]
      by_cases hj : j = h <;> simp [hj]
    obtain ⟨S2, k1, k2, k3, k4, k5⟩ := ih m (h + 1) (sI (sI S 42 (3 * h + gd (mV S) 6 h) (mV S 9 (3 * h + gd (mV S) 6 h) - usd (mV S) h)) 46 h (mI S 46 h + usd (mV S) h)) (t + usd (mV S) h) (k + (mV S 7 h - usd (mV S) h)) hM (by rw [hv]; exact hB1) (by omega) (by omega)
    rw [hv, e46] at k1 k4 k5
    refine ⟨S2, ?_, ?_, ?_, k4, k5⟩
    · rw [f_X12_weekOn_99]
      simp only [hM.i S _ rfl, Option.bind_some, mv0, hB.sz, hM.g9 S rfl, hM.g10 S rfl, hM.g12 S rfl, hM.a39.ld S _ rfl hh6, hM.a40.ld S _ rfl hh6, mv6 hh6, mv7 hh6]
      rw [if_neg (by rw [nI_lei (by omega) (by omega)]; omega), e6.1, ix3']
      simp only [hM.a42.ld S _ rfl hk, Option.bind_some, mv9 hk]
      have h148 : ∀ u, u = usd (mV S) h → f_X12_weekOn_148 (f_X12_weekOn_99 m) S 33 t (nI h) (nI (3 * h + gd (mV S) 6 h)) u = some ((useS (c + 1) h (mV S, mI S 46, t, k)).2.2.1, S2) := by
        intro u hu
        subst hu
        simp only [f_X12_weekOn_148, hM.g12 S rfl, hM.g18, hM.a42.ld, hM.a42.st, hM.a46.ld, hM.a46.st, sI_2, hk, hh6, Option.bind_some, nI_1, mI_s]
        simp only [mv9 hk, show ¬ (46 = 42) by omega, false_and, if_false]
        exact k1
      by_cases cc : mV S 7 h ≤ mV S 9 (3 * h + gd (mV S) 6 h)
      · rw [if_pos cc]
        exact h148 _ (by rw [usd, if_pos cc])
      · rw [if_neg cc]
        exact h148 _ (by rw [usd, if_neg cc])
    · exact ((Ag.sI (by simp)).sIt (by simp)).tr k2
    · exact ((O33.sI (by simp)).tr (O33.sI (by simp))).tr k3
set_option maxRecDepth 100000 in
/-- a week of the reference -/
theorem X12_weekOn (hM : ModZ S.2) {n : Nat} (hB : Bd (mV S) n) : ∃ S', f_X12_weekOn S 33 = some ((weekU n (mV S) (mI S 46) 0).2.2.1, S') ∧ Ag [33, 41, 42, 46] S S' ∧ O33 [2, 17] S S' ∧ mV S' = weekV n (mV S) ∧ mI S' 46 = (weekU n (mV S) (mI S 46) 0).2.1 ∧ mI S' 33 17 = nI (midV n (mV S)).2 := by
  have h6 := hB.le
  have hv0 : mV (sI S 33 17 0) = mV S := mV_o (Or.inr (Or.inr ⟨rfl, by omega⟩))
  obtain ⟨S1, g1, g2, g3⟩ := X12_week7 (n := n) n FU 0 (sI S 33 17 0) hM (by rw [hv0]; exact hB) (by omega) (by show n < 3000; omega)
  rw [hv0] at g3
  have z1 : S1.2 = S.2 := g2.1
  have hB1 := (makeV_ok n 0 (mV S) hB (by omega)).1
  rw [← g3] at hB1
  obtain ⟨S2, k1, k2, k3, k4, k5⟩ := X12_week76 (n := n) n FU 0 S1 (by rw [z1]; exact hM) hB1 (by omega) (by show n < 3000; omega)
  have hm : buyA n n 0 (mV S1, 0) = midV n (mV S) := by rw [g3]; rfl
  rw [hm] at k4 k5
  have z2 : S2.2 = S.2 := k2.1.trans z1
  have hB2 := (midV_ok hB).1
  rw [← k4] at hB2
  obtain ⟨S3, m1, m2, m3, m4, m5⟩ := X12_week99 (n := n) n FU 0 S2 0 0 (by rw [z2]; exact hM) hB2 (by omega) (by show n < 3000; omega)
  have e46 : mI S2 46 = mI S 46 := by
    rw [k2.2 46 (by simp), g2.2 46 (by simp)]
    funext j
    rw [mI_s, if_neg (by omega)]
  have hu : useS n 0 (mV S2, mI S2 46, 0, 0) = weekU n (mV S) (mI S 46) 0 := by rw [k4, e46]; rfl
  rw [hu] at m1 m4 m5
  refine ⟨S3, ?_, ?_, ?_, ?_, m5, ?_⟩
  · simp only [f_X12_weekOn, hM.o S rfl, hM.p S _ _ rfl, if_true, Option.bind_some]
    rw [nI_0] at g1 k1 m1
    rw [g1, k1, m1]
  · have a0 : Ag [33, 41, 42, 46] S (sI S 33 17 0) := Ag.sI (by simp)
    exact ((a0.tr (g2.mono (by simp))).tr (k2.mono (by simp))).tr (m2.mono (by simp))
  · have o0 : O33 [2, 17] S (sI S 33 17 0) := O33.sI (by simp)
    exact ((o0.tr (O33.ag g2 (by simp))).tr (k3.mono (by simp))).tr (m3.mono (by simp))
  · rw [m4, weekV, weekU_V]
  · rw [m3 17 (by simp), k5, g2.2 33 (by simp)]
    simp [mI_s]
end
