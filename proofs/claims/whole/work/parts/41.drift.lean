/-! drift -/
def richV (V : Vw) : Nat → Nat → Nat → Nat
  | 0, _, r => r
  | c + 1, i, r => richV V c (i + 1) (if V 8 i ≤ V 8 r then r else i)
def driV (n : Nat) : Nat → Nat → Vw → Int32 × Int32
  | 0, _, _ => (-9, -9)
  | c + 1, k, V => if (midV n V).2 = 0 then (nI k, nI (richV V (n - 1) 1 0)) else driV n c (k + 1) (weekV n V)
theorem X6_rich4 {S : Mm} {L n : Nat} (hL : LandZ S.2 L) (hB : Bd (lV S L) n) : ∀ (c fuel i r : Nat), i + c = n → r < n → c < fuel → f_X6_richest_4 fuel S L (nI r) (nI i) = some (nI (richV (lV S L) c i r), S) := by
  have h6 := hB.le
  intro c
  induction c with
  | zero =>
    intro fuel i r hi hr hf
    obtain ⟨m, rfl⟩ : ∃ m, fuel = m + 1 := ⟨fuel - 1, by omega⟩
    rw [f_X6_richest_4, hL.i S _ rfl, lv0, hB.sz]
    simp only [Option.bind_some]
    rw [if_pos (by rw [nI_lei (by omega) (by omega)]; omega)]
    rfl
  | succ c ih =>
    intro fuel i r hi hr hf
    obtain ⟨m, rfl⟩ : ∃ m, fuel = m + 1 := ⟨fuel - 1, by omega⟩
    rw [f_X6_richest_4, hL.i S _ rfl, lv0, hB.sz]
    simp only [Option.bind_some]
    rw [if_neg (by rw [nI_lei (by omega) (by omega)]; omega)]
    simp only [hL.g2 S rfl, Option.bind_some, hL.A2.ld S i rfl (show i < 6 by omega), hL.A2.ld S r rfl (show r < 6 by omega), lv8 (show i < 6 by omega), lv8 (show r < 6 by omega), f_X6_richest_29, nI_1]
    show _ = some (nI (richV (lV S L) c (i + 1) (if lV S L 8 i ≤ lV S L 8 r then r else i)), S)
    split
    · exact ih m (i + 1) r (by omega) hr (by omega)
    · exact ih m (i + 1) i (by omega) (by omega) (by omega)
set_option maxRecDepth 100000 in
theorem X6_richest {S : Mm} {L n : Nat} (hL : LandZ S.2 L) (hB : Bd (lV S L) n) (hn : 1 ≤ n) : f_X6_richest S L = some (nI (richV (lV S L) (n - 1) 1 0), S) := by
  have h6 := hB.le
  rw [f_X6_richest, if_pos (hL.o S rfl)]
  exact X6_rich4 hL hB (n - 1) FU 1 0 (by omega) (by omega) (by show n - 1 < 3000; omega)
theorem mid0 {n : Nat} {V : Vw} (hB : Bd V n) : (nI (midV n V).2 = 0) = ((midV n V).2 = 0) := by
  have := (midV_ok hB).2.2
  exact propext (nI_eq (b := 0) (by omega) (by omega))
theorem X11_dri53 {n : Nat} (hn : 1 ≤ n) (x : Int32) : ∀ (c fuel k : Nat) (S : Mm), Sh S.2 → HsZ S.2 9 → Bd (lV S 9) n → k + c = 101 → c < fuel → ∃ S', f_X11_drift_53 fuel S 0 x (nI k) = some (if x = 0 then (driV n c k (lV S 9)).1 else (driV n c k (lV S 9)).2, S') ∧ Ag [9, 11, 12, 25, 26] S S' := by
  intro c
  induction c with
  | zero =>
    intro fuel k S hS hH hB hk hf
    obtain ⟨m, rfl⟩ : ∃ m, fuel = m + 1 := ⟨fuel - 1, by omega⟩
    refine ⟨S, ?_, Ag.rf⟩
    rw [f_X11_drift_53, if_pos (by rw [show (100 : Int32) = nI 100 from rfl, nI_lti (by omega) (by omega)]; omega)]
    simp only [driV, ite_self]
  | succ c ih =>
    intro fuel k S hS hH hB hk hf
    obtain ⟨m, rfl⟩ : ∃ m, fuel = m + 1 := ⟨fuel - 1, by omega⟩
    obtain ⟨S1, a1, a2, a3, -, -, a4, -⟩ := X6_passWeek (L := 9) (Q := 25) (n := n) (by unfold apartQ; omega) hS.l9 hH hS.t25 hB
    have hS1 : Sh S1.2 := by rw [a2.1]; exact hS
    rw [f_X11_drift_53, if_neg (by rw [show (100 : Int32) = nI 100 from rfl, nI_lti (by omega) (by omega)]; omega)]
    simp only [hS.g1 S rfl, Option.bind_some, X6_richest hS.l9 hB hn, hS.g4 S rfl, a1, hS1.g4 S1 rfl, hS1.t25.1.gI S1 _ rfl, a4, mid0 hB, f_X11_drift_97, nI_1]
    by_cases h0 : (midV n (lV S 9)).2 = 0
    · refine ⟨S1, ?_, a2⟩
      rw [if_pos h0, driV, if_pos h0]
      split <;> rfl
    · obtain ⟨S2, b1, b2⟩ := ih m (k + 1) S1 hS1 (by rw [a2.1]; exact hH) (by rw [a3]; exact weekV_ok hB) (by omega) (by omega)
      refine ⟨S2, ?_, a2.tr b2⟩
      rw [if_neg h0, b1, a3, driV, if_neg h0]
theorem X12_dri74 {S : Mm} {n k : Nat} (hM : ModZ S.2) (hB : Bd (mV S) n) (x : Int32) (k57 : Mm → Nat → Int32 → Int32 → Int32 → Int32 → Option (Int32 × Mm)) : ∀ (c fuel i r : Nat), i + c = n → r < n → c < fuel → f_X12_drift_74 k57 fuel S 33 x (nI k) (nI r) (nI i) = (f_X12_weekOn S 33).bind fun q4 => (gI q4.2 11 33 17).bind fun x6 => if x6 = 0 then f_X12_drift_134 k57 q4.2 33 x (nI k) (nI (richV (mV S) c i r)) (nI k) else f_X12_drift_134 k57 q4.2 33 x (nI k) (nI (richV (mV S) c i r)) (-9) := by
  have h6 := hB.le
  intro c
  induction c with
  | zero =>
    intro fuel i r hi hr hf
    obtain ⟨m, rfl⟩ : ∃ m, fuel = m + 1 := ⟨fuel - 1, by omega⟩
    rw [f_X12_drift_74, hM.i S _ rfl, mv0, hB.sz]
    simp only [Option.bind_some]
    rw [if_pos (by rw [nI_lei (by omega) (by omega)]; omega)]
    rfl
  | succ c ih =>
    intro fuel i r hi hr hf
    obtain ⟨m, rfl⟩ : ∃ m, fuel = m + 1 := ⟨fuel - 1, by omega⟩
    rw [f_X12_drift_74, hM.i S _ rfl, mv0, hB.sz]
    simp only [Option.bind_some]
    rw [if_neg (by rw [nI_lei (by omega) (by omega)]; omega)]
    simp only [hM.g11 S rfl, Option.bind_some, hM.a41.ld S i rfl (show i < 6 by omega), hM.a41.ld S r rfl (show r < 6 by omega), mv8 (show i < 6 by omega), mv8 (show r < 6 by omega), f_X12_drift_107, nI_1, richV]
    split
    · exact ih m (i + 1) r (by omega) hr (by omega)
    · exact ih m (i + 1) i (by omega) (by omega) (by omega)
set_option maxRecDepth 100000 in
theorem X12_dri57 {n : Nat} (hn : 1 ≤ n) (x : Int32) : ∀ (c fuel k : Nat) (S : Mm), ModZ S.2 → Bd (mV S) n → k + c = 101 → c + 1 < fuel → ∃ S', f_X12_drift_57 fuel S 33 x (-9) (-9) (nI k) = f_X12_drift_156 S' 33 x (driV n c k (mV S)).1 (driV n c k (mV S)).2 ∧ Ag [33, 41, 42, 46] S S' ∧ O33 [2, 17] S S' := by
  intro c
  induction c with
  | zero =>
    intro fuel k S hM hB hk hf
    obtain ⟨m, rfl⟩ : ∃ m, fuel = m + 1 := ⟨fuel - 1, by omega⟩
    refine ⟨S, ?_, Ag.rf, O33.rf⟩
    rw [f_X12_drift_57, if_pos (by rw [show (100 : Int32) = nI 100 from rfl, nI_lti (by omega) (by omega)]; omega)]
    rfl
  | succ c ih =>
    intro fuel k S hM hB hk hf
    obtain ⟨m, rfl⟩ : ∃ m, fuel = m + 1 := ⟨fuel - 1, by omega⟩
    have h6 := hB.le
    obtain ⟨S1, a1, a2, a3, a4, -, a6⟩ := X12_weekOn hM hB
    have hM1 : ModZ S1.2 := by rw [a2.1]; exact hM
    rw [f_X12_drift_57, if_neg (by rw [show (100 : Int32) = nI 100 from rfl, nI_lti (by omega) (by omega)]; omega), if_neg (by decide), show (0 : Int32) = nI 0 from rfl, show (1 : Int32) = nI 1 from rfl, X12_dri74 hM hB x _ (n - 1) FU 1 0 (by omega) (by omega) (by show n - 1 < 3000; omega), a1]
    simp only [Option.bind_some, hM1.i S1 _ rfl, a6, mid0 hB, f_X12_drift_134, f_X12_drift_149, nI_1]
    by_cases h0 : (midV n (mV S)).2 = 0
    · refine ⟨S1, ?_, a2, a3⟩
      obtain ⟨m', rfl⟩ : ∃ m', m = m' + 1 := ⟨m - 1, by omega⟩
      rw [if_pos h0, if_pos h0, driV, if_pos h0, f_X12_drift_57]
      have h1 : (0 : Int32) ≤ nI k := by rw [show (0 : Int32) = nI 0 from rfl, nI_lei (by omega) (by omega)]; omega
      rw [if_pos h1]
      split <;> rfl
    · obtain ⟨S2, b1, b2, b3⟩ := ih m (k + 1) S1 hM1 (by rw [a4]; exact weekV_ok hB) (by omega) (by omega)
      refine ⟨S2, ?_, a2.tr b2, a3.tr b3⟩
      rw [if_neg h0, if_neg h0, b1, a4, driV, if_neg h0]
set_option maxRecDepth 100000 in
theorem st_14 {j : Nat} {S : Mm} (hI : Inv j S) (y : Int32) : ∃ S', ls_14 0 33 S y = some S' ∧ Inv (j + 1) S' := by
  unfold ls_14
  have hS := hI.1
  have hv := hI.2.2.1
  have hH := hI.2.1.1
  obtain ⟨⟨n, hB⟩, ⟨w, w1, w2⟩, ⟨m, m1, m2⟩⟩ := hI.2.2.2.1
  have hM := hS.m
  have h6 := hB.le
  have eM := m15_mV S
  have hMk : ∀ k, ModZ (rfC S k).2 := fun k => hS.m
  have eMk : ∀ k, mV (m15 (rfC S k)) = mV S := fun k => by rw [m15_mV, rfC_mV]
  have hz : mV (m15 S) 0 0 = nI n := by rw [eM]; exact hB.sz
  have hzk : ∀ k, mV (m15 (rfC S k)) 0 0 = nI n := fun k => by rw [eMk]; exact hB.sz
  have qt : Inv (j + 1) (m15 S) := hI.qt (cs := [33]) (ws := []) (Gx.ag (Ag.m15 (by simp))) (by simp) (by unfold Fre; decide) (by decide) rfl rfl rfl hI.2.1.2.1 eM
  have ref : ∀ (k : Nat) (c : Int32), k < 7 → f_X11_drift S 0 y = some (c, rfC S k) → f_X12_drift (rfC S k) 33 y = some (c, rfM (m15 (rfC S k)) k) → ∃ S', ((f_X11_drift S 0 y).bind fun q => (f_X12_drift q.2 33 y).bind fun r => if q.1 = r.1 then some r.2 else none) = some S' ∧ Inv (j + 1) S' := fun k c hk h1 h2 => ⟨_, two (g := fun T => f_X12_drift T 33 y) h1 h2, hI.rf hk⟩
  have rn : mI S 1 1 = nI n := by rw [lv0 (L := 1), hv]; exact hB.sz
  by_cases y0 : 0 ≤ y
  · have y0' : ¬ y < 0 := Int32.not_lt.mpr y0
    by_cases y1 : y ≤ 1
    · have hk : (decide (0 ≤ y) && decide (y ≤ 1)) = true := by rw [decide_eq_true y0, decide_eq_true y1]; rfl
      by_cases n0 : n = 0
      · have en : nI n = 0 := by rw [n0]; rfl
        have k0 : mI (m15 (rfC S 3)) 33 0 = 0 := by rw [mv0, hzk 3, en]
        refine ref 3 (-3) (by omega) ?_ ?_
        · simp only [f_X11_drift, f_X11_drift_9, hS.o S rfl, if_true, Option.bind_some, y0', if_false, y1, hS.g0 S rfl, hS.l1.i S _ rfl, rn, en, (cR hS).2.2.1]
        · simp only [f_X12_drift, f_X12_drift_22, f_X12_drift_40, (hMk 3).o _ rfl, if_true, (hMk 3).q, Option.bind_some, X12_in, in1, hk, b2i_t, (hMk 3).u.i _ _ rfl, k0, (mR' (hMk 3).u).2.2.1]
          rfl
      · have c0 : ¬ nI n = 0 := fun e => by have := (nI_eq (b := 0) (by omega) (by omega)).mp e; omega
        obtain ⟨S1, a1, a2, a3, a4, a5⟩ := X6_copyFrom (D := 9) (L := 1) (S := S) (by omega) (by omega) (by omega) hS.nf hS.l9 hS.l1 hH
        have hS1 : Sh S1.2 := hS.x a2.1 (by simp)
        obtain ⟨S2, b1, b2, -⟩ := X9_clear hS1.t25
        have z2 : S2.2 = S1.2 := b2.1
        have v2 : lV S2 9 = mV S := by
          rw [lV_ag b2 a3 (fun c hc => ?_), a4, hv]
          simp only [List.mem_cons, List.not_mem_nil, or_false] at hc
          refine ⟨fun p => ?_, hS1.nf.2 c (by omega) (by omega) (by omega) (by omega)⟩
          simp only [lcell, List.mem_cons, List.not_mem_nil, or_false] at p
          omega
        obtain ⟨S3, d1, d2⟩ := X11_dri53 (n := n) (by omega) y 101 FU 0 S2 (by rw [z2]; exact hS1) (by rw [z2]; exact a3) (by rw [v2]; exact hB) rfl (by show 101 < 3000; omega)
        rw [v2] at d1
        have z3 : S3.2 = S1.2 := d2.1.trans z2
        have hG : Gx [9, 11, 12, 13, 15, 25, 26] [10] S S3 := (a2.mono (by simp +contextual) (by simp)).tr ((Gx.ag (b2.mono (by simp +contextual))).tr (Gx.ag (d2.mono (by simp +contextual))))
        have hM3 : ModZ S3.2 := by rw [z3]; exact hS1.m
        have eM3 : mV (m15 S3) = mV S := by rw [m15_mV]; exact mV_x hG hS.nf (by simp)
        obtain ⟨O1, e1, e2, e3, e4, e5, -⟩ := X12_open hM3.u
        rw [eM3] at e4 e5
        obtain ⟨O2, f1, f2, f3⟩ := X12_dri57 (n := n) (by omega) y 101 FU 0 O1 e2 (by rw [e4]; exact hB) rfl (by show 101 + 1 < 3000; omega)
        rw [e4] at f1
        have hO2 : ModZ O2.2 := by rw [f2.1]; exact e2
        obtain ⟨O3, g1, g2, g3, g4, -⟩ := X12_close hO2
        refine ⟨_, two (g := fun T => f_X12_drift T 33 y) (v := if y = 0 then (driV n 101 0 (mV S)).1 else (driV n 101 0 (mV S)).2) (S1 := S3) (S2 := O3) ?_ ?_, hI.md hG (by simp) (by rw [z3]; exact a3) ((Mf.m15.tr e3).tr ((Mf.sv f2 f3).tr g3)) (by rw [g4, f2.2 47 (by simp), e5])⟩
        · simp only [f_X11_drift, hS.o S rfl, if_true, y0', if_false, y1, hS.g0 S rfl, hS.l1.i S _ rfl, rn, c0, Option.bind_some, hS.g1 S rfl, a1, hS1.g4 S1 rfl, b1]
          exact d1
        · have k0 : mI (m15 S3) 33 0 = nI n := by rw [mv0, eM3]; exact hB.sz
          simp only [f_X12_drift, hM3.o _ rfl, if_true, hM3.q, Option.bind_some, X12_in, in1, hk, b2i_t, hM3.u.i _ _ rfl, k0, c0, if_false, e1]
          rw [if_neg (by decide)]
          refine f1.trans ?_
          rw [f_X12_drift_156, g1]
          simp only [Option.bind_some, f_X12_drift_169]
          split <;> rfl
    · have hk : (decide (0 ≤ y) && decide (y ≤ 1)) = false := by rw [decide_eq_false y1, Bool.and_false]
      refine ref 2 (-2) (by omega) ?_ ?_
      · simp only [f_X11_drift, f_X11_drift_9, hS.o S rfl, if_true, Option.bind_some, y0', if_false, y1, (cR hS).2.1]
      · simp only [f_X12_drift, f_X12_drift_22, f_X12_drift_40, (hMk 2).o _ rfl, if_true, (hMk 2).q, Option.bind_some, X12_in, in1, hk, b2i_f, (mR' (hMk 2).u).2.1]
  · have y0' : y < 0 := Int32.not_le.mp y0
    have hk : (decide (0 ≤ y) && decide (y ≤ 1)) = false := by rw [decide_eq_false y0, Bool.false_and]
    refine ref 2 (-2) (by omega) ?_ ?_
    · simp only [f_X11_drift, f_X11_drift_9, hS.o S rfl, if_true, Option.bind_some, y0', (cR hS).2.1]
    · simp only [f_X12_drift, f_X12_drift_22, f_X12_drift_40, (hMk 2).o _ rfl, if_true, (hMk 2).q, Option.bind_some, X12_in, in1, hk, b2i_f, (mR' (hMk 2).u).2.1]
