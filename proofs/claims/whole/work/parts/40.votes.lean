/-! votes -/
def votB (A B : Nat → Int32) : Nat → Nat → Int32 → Int32
  | 0, _, acc => acc
  | c + 1, i, acc => votB A B c (i + 1) (if B i ≤ A i then acc else acc ||| (1 <<< (nI i &&& 31)))
theorem votB_c {A B A' B' : Nat → Int32} (hA : ∀ i, i < 6 → A i = A' i) (hB : ∀ i, i < 6 → B i = B' i) : ∀ (c i : Nat) (acc : Int32), i + c ≤ 6 → votB A B c i acc = votB A' B' c i acc
  | 0, _, _, _ => rfl
  | c + 1, i, acc, h => by
    show votB A B c (i + 1) (if B i ≤ A i then acc else acc ||| (1 <<< (nI i &&& 31))) = votB A' B' c (i + 1) (if B' i ≤ A' i then acc else acc ||| (1 <<< (nI i &&& 31)))
    rw [hA i (by omega), hB i (by omega)]
    exact votB_c hA hB c (i + 1) _ (by omega)
theorem X11_votes70 {S : Mm} {n : Nat} (hS : Sh S.2) (hn : mI S 1 1 = nI n) (h6 : n ≤ 6) : ∀ (c fuel i : Nat) (acc : Int32), i + c = n → c < fuel → f_X11_votes_70 fuel S 0 acc (nI i) = some (votB (mI S 26) (mI S 28) c i acc, S) := by
  intro c
  induction c with
  | zero =>
    intro fuel i acc hi hf
    obtain ⟨m, rfl⟩ : ∃ m, fuel = m + 1 := ⟨fuel - 1, by omega⟩
    rw [f_X11_votes_70]
    simp only [hS.g0 S rfl, hS.l1.i S _ rfl, hn, Option.bind_some]
    rw [if_pos (by rw [nI_lei (by omega) (by omega)]; omega)]
    rfl
  | succ c ih =>
    intro fuel i acc hi hf
    obtain ⟨m, rfl⟩ : ∃ m, fuel = m + 1 := ⟨fuel - 1, by omega⟩
    rw [f_X11_votes_70]
    simp only [hS.g0 S rfl, hS.l1.i S _ rfl, hn, Option.bind_some]
    rw [if_neg (by rw [nI_lei (by omega) (by omega)]; omega)]
    simp only [hS.g5 S rfl, hS.g4 S rfl, hS.t27.1.gR hS.t27.2.1 S rfl, hS.t25.1.gR hS.t25.2.1 S rfl, Option.bind_some, hS.t27.2.2.ld S i rfl (show i < 6 by omega), hS.t25.2.2.ld S i rfl (show i < 6 by omega), f_X11_votes_112, nI_1]
    show _ = some (votB (mI S 26) (mI S 28) c (i + 1) (if mI S 28 i ≤ mI S 26 i then acc else acc ||| (1 <<< (nI i &&& 31))), S)
    split
    · exact ih m (i + 1) _ (by omega) (by omega)
    · exact ih m (i + 1) _ (by omega) (by omega)
theorem X12_votes68 {x y : Int32} : ∀ (c fuel i : Nat) (S : Mm), ModZ S.2 → i + c = 6 → c < fuel → (∀ k, k < i → mI S 53 k = mI S 46 k) → ∃ S' m, f_X12_votes_68 fuel S 33 x y (nI i) = f_X12_votes_68 (m + 1) S' 33 x y (nI 6) ∧ Ag [53] S S' ∧ ∀ k, k < 6 → mI S' 53 k = mI S 46 k := by
  intro c
  induction c with
  | zero =>
    intro fuel i S hM hi hf h0
    obtain ⟨m, rfl⟩ : ∃ m, fuel = m + 1 := ⟨fuel - 1, by omega⟩
    exact ⟨S, m, by rw [show i = 6 by omega], Ag.rf, fun k hk => h0 k (by omega)⟩
  | succ c ih =>
    intro fuel i S hM hi hf h0
    obtain ⟨m, rfl⟩ : ∃ m, fuel = m + 1 := ⟨fuel - 1, by omega⟩
    obtain ⟨S', m', e1, e2, e3⟩ := ih m (i + 1) (sI S 53 i (mI S 46 i)) hM (by omega) (by omega) (fun k hk => by
      rw [mI_s, mI_s, if_neg (show ¬ (46 = 53 ∧ k = i) by omega)]
      split
      · next h => rw [h.2]
      · exact h0 k (by omega))
    refine ⟨S', m', ?_, (Ag.sI (by simp)).tr e2, fun k hk => by rw [e3 k hk, mI_s, if_neg (by omega)]⟩
    rw [← e1, f_X12_votes_68, if_neg (by rw [show (6 : Int32) = nI 6 from rfl, nI_lei (by omega) (by omega)]; omega)]
    simp only [hM.g34 S rfl, hM.g18 S rfl, Option.bind_some, hM.a46.ld S i rfl (show i < 6 by omega), hM.a53.st S i _ rfl (show i < 6 by omega), nI_1]
theorem X12_votes120 {S : Mm} {n : Nat} (hM : ModZ S.2) (hB : Bd (mV S) n) : ∀ (c fuel i : Nat) (acc : Int32), i + c = n → c < fuel → f_X12_votes_120 fuel S 33 acc (nI i) = (f_X12_close S 33).bind fun q4 => some (votB (mI S 53) (mI S 46) c i acc, q4) := by
  have h6 := hB.le
  intro c
  induction c with
  | zero =>
    intro fuel i acc hi hf
    obtain ⟨m, rfl⟩ : ∃ m, fuel = m + 1 := ⟨fuel - 1, by omega⟩
    rw [f_X12_votes_120, hM.i S _ rfl, mv0, hB.sz]
    simp only [Option.bind_some]
    rw [if_pos (by rw [nI_lei (by omega) (by omega)]; omega)]
    rfl
  | succ c ih =>
    intro fuel i acc hi hf
    obtain ⟨m, rfl⟩ : ∃ m, fuel = m + 1 := ⟨fuel - 1, by omega⟩
    rw [f_X12_votes_120, hM.i S _ rfl, mv0, hB.sz]
    simp only [Option.bind_some]
    rw [if_neg (by rw [nI_lei (by omega) (by omega)]; omega)]
    simp only [hM.g18 S rfl, hM.g34 S rfl, Option.bind_some, hM.a46.ld S i rfl (show i < 6 by omega), hM.a53.ld S i rfl (show i < 6 by omega), f_X12_votes_156, nI_1, Int32.or_zero]
    show _ = (f_X12_close S 33).bind fun q4 => some (votB (mI S 53) (mI S 46) c (i + 1) (if mI S 46 i ≤ mI S 53 i then acc else acc ||| (1 <<< (nI i &&& 31))), q4)
    split
    · exact ih m (i + 1) _ (by omega) (by omega)
    · exact ih m (i + 1) _ (by omega) (by omega)
set_option maxRecDepth 100000 in
theorem X12_open2 {S : Mm} (hM : ModZ S.2) : ∃ S', f_X12_open S 33 = some S' ∧ ModZ S'.2 ∧ Mf S S' ∧ mV S' = mV S ∧ kV (mI S' 47) = mV S ∧ (∀ i, i < 6 → mI S' 46 i = 0) ∧ mI S' 53 = mI S 53 := by
  obtain ⟨S1, a1, a2⟩ := X12_carryAll hM true (Or.inl rfl)
  obtain ⟨k1, k2⟩ := a2.kept
  have hM1 := a2.1
  have hF := a2.2.2.2.2.2.2.2.1
  obtain ⟨S2, b1, b2, b3⟩ := X12_open11 6 FU 0 S1 hM1 rfl (by show 6 < 3000; omega) (fun i hi => absurd hi (Nat.not_lt_zero _))
  refine ⟨S2, ?_, by rw [b2.1]; exact hM1, (Mf.car a2).tr (Mf.ag (js := []) b2 (O33.ag b2 (by simp)) (by simp) (by simp)), by rw [mV_ag b2 (by simp)]; exact k1, by rw [b2.2 47 (by simp)]; exact k2, b3, by rw [b2.2 53 (by simp)]; exact hF 53 (by omega)⟩
  simp only [f_X12_open, hM.o S rfl, if_true, hM.g20 S rfl, Option.bind_some]
  rw [show (1 : Int32) = b2i true from rfl, a1]
  exact b1
set_option maxRecDepth 100000 in
theorem X12_votes44 {T : Mm} {n l g : Nat} (hM : ModZ T.2) (hB : Bd (mV T) n) (hl : l < 2000) (hg : g < 3) : ∃ O, f_X12_votes_44 T 33 (nI g) (nI l) 0 = some (votB (runS n l (mV T) (fun _ => 0)) (runS n l (u2 (mV T) 0 1 (nI g)) (fun _ => 0)) n 0 0, O) ∧ Mf T O ∧ mV O = mV T := by
  have h6 := hB.le
  obtain ⟨O1, a1, a2, a3, a4, a5, a6⟩ := X12_open hM
  obtain ⟨O2, b1, b2, b3, b4, b5⟩ := X12_servedIn (l := l) hl a2 (by rw [a4]; exact hB)
  have hM2 : ModZ O2.2 := by rw [b2.1]; exact a2
  rw [a4] at b1 b4 b5
  obtain ⟨O3, m, c1, c2, c3⟩ := X12_votes68 (x := nI g) (y := nI l) 6 FU 0 O2 hM2 rfl (by show 6 < 3000; omega) (fun k hk => absurd hk (Nat.not_lt_zero _))
  have hM3 : ModZ O3.2 := by rw [c2.1]; exact hM2
  obtain ⟨O4, d1, d2, d3, d4, -, -, d7, -⟩ := X12_close hM3
  have v4 : mV O4 = mV T := by rw [d4, c2.2 47 (by simp), b2.2 47 (by simp), a5]
  obtain ⟨O5, e1, e2, e3, e4, e5, e6, e7⟩ := X12_open2 d2
  rw [v4] at e4 e5
  obtain ⟨O6, hO6⟩ : ∃ O6, O6 = sI O5 33 1 (nI g) := ⟨_, rfl⟩
  have z6 : O6.2 = O5.2 := by rw [hO6]; rfl
  have v6 : mV O6 = u2 (mV T) 0 1 (nI g) := by rw [hO6, ms0 (by omega), e4]
  have hM6 : ModZ O6.2 := by rw [z6]; exact e2
  have A6 : Ag [33] O5 O6 := by rw [hO6]; exact Ag.sI (by simp)
  have B6 : O33 [1] O5 O6 := by rw [hO6]; exact O33.sI (by simp)
  obtain ⟨O7, g1, g2, g3, g4, g5⟩ := X12_servedIn (l := l) hl hM6 (by rw [v6]; exact hB.u01 hg)
  rw [v6] at g4 g5
  have hM7 : ModZ O7.2 := by rw [g2.1]; exact hM6
  have hB7 : Bd (mV O7) n := by rw [g4]; exact runV_ok l _ (hB.u01 hg)
  obtain ⟨O8, k1, k2, k3, k4, -⟩ := X12_close hM7
  refine ⟨O8, ?_, (((((((a3.tr (Mf.sv b2 b3)).tr (Mf.ag (js := []) c2 (O33.ag c2 (by simp)) (by simp) (by simp))).tr d3).tr e3).tr (Mf.ag A6 B6 (by simp) (by simp))).tr (Mf.sv g2 g3)).tr k3), ?_⟩
  · rw [f_X12_votes_44, if_pos (by decide), a1]
    simp only [Option.bind_some]
    rw [b1]
    simp only [Option.bind_some]
    rw [show (0 : Int32) = nI 0 from rfl, c1, f_X12_votes_68, if_pos (by decide), d1]
    simp only [Option.bind_some, e1]
    rw [e2.p O5 _ _ rfl, ← hO6]
    simp only [Option.bind_some]
    rw [g1]
    simp only [Option.bind_some]
    rw [show (0 : Int32) = nI 0 from rfl, X12_votes120 hM7 hB7 n FU 0 (nI 0) (by omega) (by show n < 3000; omega), k1]
    simp only [Option.bind_some]
    rw [votB_c (A' := runS n l (mV T) (fun _ => 0)) (B' := runS n l (u2 (mV T) 0 1 (nI g)) (fun _ => 0)) (fun i hi => ?_) (fun i hi => ?_) n 0 (nI 0) (by omega)]
    · rfl
    · rw [g2.2 53 (by simp), A6.2 53 (by simp), e7, d7, c3 i hi, b5]
      exact runS_s l _ _ _ a6 i hi
    · rw [g5]
      refine runS_s l _ _ _ (fun i hi => ?_) i hi
      rw [A6.2 46 (by simp)]
      exact e6 i hi
  · rw [k4, g2.2 47 (by simp), A6.2 47 (by simp), e5]
set_option maxRecDepth 100000 in
theorem st_21 {j : Nat} {S : Mm} (hI : Inv j S) (x y : Int32) : ∃ S', ls_21 0 33 S x y = some S' ∧ Inv (j + 1) S' := by
  unfold ls_21
  have hS := hI.1
  have hv := hI.2.2.1
  have hH := hI.2.1.1
  obtain ⟨⟨n, hB⟩, ⟨w, w1, w2⟩, ⟨m, m1, m2⟩⟩ := hI.2.2.2.1
  have hM := hS.m
  have h6 := hB.le
  have eM := m15_mV S
  have hMk : ∀ k, ModZ (rfC S k).2 := fun k => hS.m
  have eMk : ∀ k, mV (m15 (rfC S k)) = mV S := fun k => by rw [m15_mV, rfC_mV]
  have hz : mV (m15 S) 0 0 = nI n := by rw [eM]; exact hB.sz
  have hzk : ∀ k, mV (m15 (rfC S k)) 0 0 = nI n := fun k => by rw [eMk]; exact hB.sz
  have qt : Inv (j + 1) (m15 S) := hI.qt (cs := [33]) (ws := []) (Gx.ag (Ag.m15 (by simp))) (by simp) (by unfold Fre; decide) (by decide) rfl rfl rfl hI.2.1.2.1 eM
  have ref : ∀ (k : Nat) (c : Int32), k < 7 → f_X11_votes S 0 x y = some (c, rfC S k) → f_X12_votes (rfC S k) 33 x y = some (c, rfM (m15 (rfC S k)) k) → ∃ S', ((f_X11_votes S 0 x y).bind fun q => (f_X12_votes q.2 33 x y).bind fun r => if q.1 = r.1 then some r.2 else none) = some S' ∧ Inv (j + 1) S' := fun k c hk h1 h2 => ⟨_, two (g := fun T => f_X12_votes T 33 x y) h1 h2, hI.rf hk⟩
  by_cases hg : goodI x = true
  · obtain ⟨g, g1, rfl⟩ := goodI_n hg
    by_cases h0 : 1 ≤ y
    · by_cases h9 : y ≤ 30
      · obtain ⟨l, rfl, -, l9⟩ := rngI (lo := 1) (hi := 30) h0 h9 (by omega) (by omega)
        obtain ⟨q, q3, hq⟩ := hB.lw
        obtain ⟨S1, d1, d2, d3, d4, -, -, d7, -⟩ := X11_passInMind (n := n) (l := l) (Q := 25) (q := q) (by omega) (Or.inl rfl) hS hI.2.1 (by rw [hv]; exact hB) q3
        rw [hv, ← hq, u2_self] at d7
        have hS1 : Sh S1.2 := hS.x d2.1 (by simp)
        have v1 : lV S1 1 = mV S := by rw [lV_x d2 hS.nf hS.l1 hH (by omega) (by simp) (by unfold plain; decide) (by decide), hv]
        have hHs1 : Hss S1.2 := ⟨hH.x hS.l1 d2.1 (by omega) (by simp), d3, hI.2.1.2.2.x hS.l17 d2.1 (by omega) (by simp)⟩
        obtain ⟨S2, e1, e2, e3, e4, -, -, e7, -⟩ := X11_passInMind (n := n) (l := l) (Q := 27) (q := g) (by omega) (Or.inr rfl) hS1 hHs1 (by rw [v1]; exact hB) g1
        rw [v1] at e7
        have hS2 : Sh S2.2 := hS1.x e2.1 (by simp)
        have v2 : lV S2 1 = mV S := by rw [lV_x e2 hS1.nf hS1.l1 hHs1.1 (by omega) (by simp) (by unfold plain; decide) (by decide), v1]
        have hG : Gx [9, 11, 12, 13, 15, 25, 26, 27, 28] [10] S S2 := (d2.mono (by simp +contextual) (by simp)).tr (e2.mono (by simp +contextual) (by simp))
        have hM1 : ModZ S2.2 := hS2.m
        have eM1 : mV (m15 S2) = mV S := by rw [m15_mV]; exact mV_x hG hS.nf (by simp)
        obtain ⟨O, o1, o2, o3⟩ := X12_votes44 (l := l) hM1.u (by rw [eM1]; exact hB) (by omega) g1
        rw [eM1] at o1 o3
        have rl : mI S 1 6 = nI q := by rw [lv01 (L := 1), hv]; exact hq
        have rn : mI S2 1 1 = nI n := by rw [lv0 (L := 1), v2]; exact hB.sz
        refine ⟨_, two (g := fun T => f_X12_votes T 33 (nI g) (nI l)) (v := votB (runS n l (mV S) (fun _ => 0)) (runS n l (u2 (mV S) 0 1 (nI g)) (fun _ => 0)) n 0 0) (S1 := S2) (S2 := O) ?_ ?_, hI.md hG (by simp) e3 (Mf.m15.tr o2) o3⟩
        · simp only [f_X11_votes, hS.o S rfl, if_true, Option.bind_some, X11_isLaw, lawI_g, hg, b2i_t, h0, h9, hS.g0 S rfl, hS.l1.i S _ rfl, rl, hS.g4 S rfl, d1, hS1.g5 S1 rfl, e1]
          rw [if_neg (by decide), show (0 : Int32) = nI 0 from rfl, X11_votes70 hS2 rn h6 n FU 0 (nI 0) (by omega) (by show n < 3000; omega)]
          rw [votB_c (A' := runS n l (mV S) (fun _ => 0)) (B' := runS n l (u2 (mV S) 0 1 (nI g)) (fun _ => 0)) (fun i hi => ?_) (fun i hi => e7 i hi) n 0 (nI 0) (by omega)]
          · rfl
          · rw [e2.2 26 (by have : 55 ≤ mX S1 := hS1.nf.1; omega) (by simp)]
            exact d7 i hi
        · simp only [f_X12_votes, hM1.o _ rfl, if_true, hM1.q, Option.bind_some, X12_in, in3, hg, b2i_t, h0, h9]
          rw [if_neg (by decide), o1]
      · refine ref 6 (-6) (by omega) ?_ ?_
        · simp only [f_X11_votes, hS.o S rfl, if_true, Option.bind_some, X11_isLaw, lawI_g, hg, b2i_t, h0, h9, (cR hS).2.2.2.2]
          rfl
        · simp only [f_X12_votes, f_X12_votes_44, (hMk 6).o _ rfl, if_true, (hMk 6).q, Option.bind_some, X12_in, in3, hg, b2i_t, h0, h9, if_false, (mR' (hMk 6).u).2.2.2.2]
          rfl
    · refine ref 4 (-4) (by omega) ?_ ?_
      · simp only [f_X11_votes, hS.o S rfl, if_true, Option.bind_some, X11_isLaw, lawI_g, hg, b2i_t, h0, (cR hS).2.2.2.1]
        rfl
      · simp only [f_X12_votes, f_X12_votes_44, (hMk 4).o _ rfl, if_true, (hMk 4).q, Option.bind_some, X12_in, in3, hg, b2i_t, h0, if_false, (mR' (hMk 4).u).2.2.2.1]
        rfl
  · rw [Bool.not_eq_true] at hg
    refine ref 2 (-2) (by omega) ?_ ?_
    · simp only [f_X11_votes, hS.o S rfl, if_true, Option.bind_some, X11_isLaw, lawI_g, hg, b2i_f, (cR hS).2.1]
    · simp only [f_X12_votes, f_X12_votes_44, (hMk 2).o _ rfl, if_true, (hMk 2).q, Option.bind_some, X12_in, in3, hg, b2i_f, (mR' (hMk 2).u).2.1]
      rfl
