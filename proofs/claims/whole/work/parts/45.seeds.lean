/-! seeds -/
def nx (x : Int32) : Int32 := x * 1103515245 + 12345
def dr (x m : Int32) : Int32 := (x &&& 2147483647) / 65536 - (x &&& 2147483647) / 65536 / m * m
def sdV (n : Nat) : Nat → Int32 → Vw → Int32 → Int32
  | 0, _, _, a => a
  | c + 1, x, V, a => if okT V (dr (nx x) (nI n)) (dr (nx (nx x)) (nI n)) (dr (nx (nx (nx x))) 3) = true then sdV n c (nx (nx (nx x))) (mvV V (dr (nx x) (nI n)).toNatClampNeg (dr (nx (nx x)) (nI n)).toNatClampNeg (dr (nx (nx (nx x))) 3).toNatClampNeg) (a + 1) else sdV n c (nx (nx (nx x))) V a
theorem X11_next {S : Mm} (x : Int32) : f_X11_nextSeed S x = some (nx x, S) := rfl
theorem X11_draw {S : Mm} {m x : Int32} (hm : ¬ m ≤ 0) (h0 : ¬ m = 0) : f_X11_drawBelow S m x = some (dr x m, S) := by
  rw [f_X11_drawBelow, if_neg hm, rM, if_neg h0]
  rfl
theorem X12_draw {S : Mm} {m x : Int32} (hM : ModZ S.2) (hx : mI S 33 37 = x) (h0 : ¬ m = 0) : f_X12_draw S 33 m = some (dr (nx x) m, sI S 33 37 (nx x)) := by
  simp only [f_X12_draw, hM.o S rfl, if_true, hM.i, hM.p, sI_2, Option.bind_some, hx, mI_s, and_self]
  rw [rM, if_neg h0]
  rfl
theorem X11_seed61 {n l : Nat} (hn : 1 ≤ n) (h6 : n ≤ 6) (hl : l < 2000) : ∀ (c fuel k : Nat) (a x : Int32) (S : Mm), Sh S.2 → HsZ S.2 9 → Bd (lV S 9) n → mI S 1 1 = nI n → k + c = l → c < fuel → ∃ S', f_X11_seeds_61 fuel S 0 (nI l) a x (nI k) = some (sdV n c x (lV S 9) a, S') ∧ Ag [11, 12] S S' := by
  have c0 : ¬ nI n = 0 := fun e => by have := (nI_eq (b := 0) (by omega) (by omega)).mp e; omega
  have c1 : ¬ nI n ≤ 0 := by rw [show (0 : Int32) = nI 0 from rfl, nI_lei (by omega) (by omega)]; omega
  intro c
  induction c with
  | zero =>
    intro fuel k a x S hS hH hB h1 hk hf
    obtain ⟨m, rfl⟩ : ∃ m, fuel = m + 1 := ⟨fuel - 1, by omega⟩
    refine ⟨S, ?_, Ag.rf⟩
    rw [f_X11_seeds_61, if_pos (by rw [nI_lei (by omega) (by omega)]; omega)]
    rfl
  | succ c ih =>
    intro fuel k a x S hS hH hB h1 hk hf
    obtain ⟨m, rfl⟩ : ∃ m, fuel = m + 1 := ⟨fuel - 1, by omega⟩
    obtain ⟨t0, t1⟩ := X6_trySale hS.l9 hH hB (dr (nx x) (nI n)) (dr (nx (nx x)) (nI n)) (dr (nx (nx (nx x))) 3)
    rw [f_X11_seeds_61, if_neg (by rw [nI_lei (by omega) (by omega)]; omega)]
    simp only [X11_next, Option.bind_some, hS.g0 S rfl, hS.l1.i S _ rfl, h1, X11_draw c1 c0, hS.g1 S rfl, X11_draw (show ¬ (3 : Int32) ≤ 0 by decide) (show ¬ (3 : Int32) = 0 by decide), f_X11_seeds_139, nI_1]
    by_cases hc : okT (lV S 9) (dr (nx x) (nI n)) (dr (nx (nx x)) (nI n)) (dr (nx (nx (nx x))) 3) = true
    · obtain ⟨S1, e1, e2, e3⟩ := t1 hc
      obtain ⟨S2, b1, b2⟩ := ih m (k + 1) (a + 1) (nx (nx (nx x))) S1 (by rw [e2.1]; exact hS) (by rw [e2.1]; exact hH) (by rw [e3]; exact hB.ok hc) (by rw [e2.2 1 (by simp)]; exact h1) (by omega) (by omega)
      refine ⟨S2, ?_, e2.tr b2⟩
      rw [e1]
      simp only [Option.bind_some]
      rw [if_neg (by decide), b1, e3, sdV, if_pos hc]
    · obtain ⟨S2, b1, b2⟩ := ih m (k + 1) a (nx (nx (nx x))) S hS hH hB h1 (by omega) (by omega)
      refine ⟨S2, ?_, b2⟩
      rw [t0 (by rwa [Bool.not_eq_true] at hc)]
      simp only [Option.bind_some, if_true]
      rw [b1, sdV, if_neg hc]
theorem X12_seed65 {n l : Nat} (hn : 1 ≤ n) (h6 : n ≤ 6) (hl : l < 2000) : ∀ (c fuel k : Nat) (a x : Int32) (S : Mm), ModZ S.2 → Bd (mV S) n → mI S 33 37 = x → k + c = l → c < fuel → ∃ S', f_X12_seeds_65 fuel S 33 (nI l) a (nI k) = ((f_X12_close S' 33).bind fun q2 => some (sdV n c x (mV S) a, q2)) ∧ Ag [33, 41, 42] S S' ∧ O33 [37] S S' := by
  have c0 : ¬ nI n = 0 := fun e => by have := (nI_eq (b := 0) (by omega) (by omega)).mp e; omega
  intro c
  induction c with
  | zero =>
    intro fuel k a x S hM hB h1 hk hf
    obtain ⟨m, rfl⟩ : ∃ m, fuel = m + 1 := ⟨fuel - 1, by omega⟩
    refine ⟨S, ?_, Ag.rf, O33.rf⟩
    rw [f_X12_seeds_65, if_pos (by rw [nI_lei (by omega) (by omega)]; omega)]
    rfl
  | succ c ih =>
    intro fuel k a x S hM hB h1 hk hf
    obtain ⟨m, rfl⟩ : ∃ m, fuel = m + 1 := ⟨fuel - 1, by omega⟩
    have x0 : mI S 33 0 = nI n := hB.sz
    obtain ⟨T, hT⟩ : ∃ T, T = sI (sI (sI S 33 37 (nx x)) 33 37 (nx (nx x))) 33 37 (nx (nx (nx x))) := ⟨_, rfl⟩
    have zT : T.2 = S.2 := by rw [hT]; rfl
    have vT : mV T = mV S := by rw [hT, mV_o (by omega), mV_o (by omega), mV_o (by omega)]
    have AT : Ag [33, 41, 42] S T := by rw [hT]; exact ((Ag.sI (by simp)).sIt (by simp)).sIt (by simp)
    have OT : O33 [37] S T := by rw [hT]; exact ((O33.sI (by simp)).tr (O33.sI (by simp))).tr (O33.sI (by simp))
    have xT : mI T 33 37 = nx (nx (nx x)) := by rw [hT]; simp [mI_s]
    have hMT : ModZ T.2 := by rw [zT]; exact hM
    obtain ⟨t0, t1⟩ := X12_isSold hMT (by rw [vT]; exact hB) (dr (nx x) (nI n)) (dr (nx (nx x)) (nI n)) (dr (nx (nx (nx x))) 3)
    rw [vT] at t0 t1
    rw [f_X12_seeds_65, if_neg (by rw [nI_lei (by omega) (by omega)]; omega)]
    have w1 := X12_draw (S := S) (m := nI n) hM h1 c0
    have w2 := X12_draw (S := sI S 33 37 (nx x)) (m := nI n) (x := nx x) hM (by simp [mI_s]) c0
    have w3 := X12_draw (S := sI (sI S 33 37 (nx x)) 33 37 (nx (nx x))) (m := 3) (x := nx (nx x)) hM (by simp [mI_s]) (by decide)
    rw [← hT] at w3
    have x0' : mI (sI S 33 37 (nx x)) 33 0 = nI n := by rw [mI_s, if_neg (by omega)]; exact x0
    simp only [hM.i S _ rfl, hM.i _ _ (sI_2 S 33 37 (nx x)), x0, x0', Option.bind_some, w1, w2, w3, f_X12_seeds_118, nI_1]
    by_cases hc : okT (mV S) (dr (nx x) (nI n)) (dr (nx (nx x)) (nI n)) (dr (nx (nx (nx x))) 3) = true
    · obtain ⟨S1, e1, e2, e3⟩ := t1 hc
      obtain ⟨S2, b1, b2, b3⟩ := ih m (k + 1) (a + 1) (nx (nx (nx x))) S1 (by rw [e2.1]; exact hMT) (by rw [e3]; exact hB.ok hc) (by rw [e2.2 33 (by simp)]; exact xT) (by omega) (by omega)
      refine ⟨S2, ?_, AT.tr ((e2.mono (by simp +contextual)).tr b2), OT.tr ((O33.ag e2 (by simp)).tr b3)⟩
      rw [e1]
      simp only [Option.bind_some]
      rw [if_neg (by decide), b1, e3, sdV, if_pos hc]
    · obtain ⟨S2, b1, b2, b3⟩ := ih m (k + 1) a (nx (nx (nx x))) T hMT (by rw [vT]; exact hB) xT (by omega) (by omega)
      refine ⟨S2, ?_, AT.tr b2, OT.tr b3⟩
      rw [t0 (by rwa [Bool.not_eq_true] at hc)]
      simp only [Option.bind_some, if_true, Int32.add_zero]
      rw [b1, vT, sdV, if_neg hc]
set_option maxRecDepth 100000 in
theorem st_24 {j : Nat} {S : Mm} (hI : Inv j S) (x y : Int32) : ∃ S', ls_24 0 33 S x y = some S' ∧ Inv (j + 1) S' := by
  unfold ls_24
  have hS := hI.1
  have hv := hI.2.2.1
  have hH := hI.2.1.1
  obtain ⟨⟨n, hB⟩, ⟨w, w1, w2⟩, ⟨m, m1, m2⟩⟩ := hI.2.2.2.1
  have hM := hS.m
  have h6 := hB.le
  have eM := m15_mV S
  have hMk : ∀ k, ModZ (rfC S k).2 := fun k => hS.m
  have eMk : ∀ k, mV (m15 (rfC S k)) = mV S := fun k => by rw [m15_mV, rfC_mV]
  have hz : mV (m15 S) 0 0 = nI n := by rw [eM]; exact hB.sz
  have hzk : ∀ k, mV (m15 (rfC S k)) 0 0 = nI n := fun k => by rw [eMk]; exact hB.sz
  have qt : Inv (j + 1) (m15 S) := hI.qt (cs := [33]) (ws := []) (Gx.ag (Ag.m15 (by simp))) (by simp) (by unfold Fre; decide) (by decide) rfl rfl rfl hI.2.1.2.1 eM
  have ref : ∀ (k : Nat) (c : Int32), k < 7 → f_X11_seeds S 0 x y = some (c, rfC S k) → f_X12_seeds (rfC S k) 33 x y = some (c, rfM (m15 (rfC S k)) k) → ∃ S', ((f_X11_seeds S 0 x y).bind fun q => (f_X12_seeds q.2 33 x y).bind fun r => if q.1 = r.1 then some r.2 else none) = some S' ∧ Inv (j + 1) S' := fun k c hk h1 h2 => ⟨_, two (g := fun T => f_X12_seeds T 33 x y) h1 h2, hI.rf hk⟩
  have rn : mI S 1 1 = nI n := by rw [lv0 (L := 1), hv]; exact hB.sz
  by_cases h1 : 1 ≤ x
  · by_cases h9 : x ≤ 60
    · obtain ⟨l, rfl, -, l9⟩ := rngI (lo := 1) (hi := 60) h1 h9 (by omega) (by omega)
      by_cases n0 : n = 0
      · have en : nI n = 0 := by rw [n0]; rfl
        have k0 : mI (m15 (rfC S 3)) 33 0 = 0 := by rw [mv0, hzk 3, en]
        refine ref 3 (-3) (by omega) ?_ ?_
        · simp only [f_X11_seeds, hS.o S rfl, if_true, Option.bind_some, h1, h9, hS.g0 S rfl, hS.l1.i S _ rfl, rn, en, (cR hS).2.2.1]
        · simp only [f_X12_seeds, f_X12_seeds_39, (hMk 3).o _ rfl, if_true, (hMk 3).q, Option.bind_some, h1, h9, (hMk 3).u.i _ _ rfl, k0, (mR' (hMk 3).u).2.2.1]
          rfl
      · have c0 : ¬ nI n = 0 := fun e => by have := (nI_eq (b := 0) (by omega) (by omega)).mp e; omega
        obtain ⟨S1, a1, a2, a3, a4, a5⟩ := X6_copyFrom (D := 9) (L := 1) (S := S) (by omega) (by omega) (by omega) hS.nf hS.l9 hS.l1 hH
        have hS1 : Sh S1.2 := hS.x a2.1 (by simp)
        have x55 : 55 ≤ mX S := hS.nf.1
        obtain ⟨S3, d1, d2⟩ := X11_seed61 (n := n) (l := l) (by omega) h6 (by omega) l FU 0 0 y S1 hS1 a3 (by rw [a4, hv]; exact hB) (by rw [a2.2 1 (by omega) (by simp)]; exact rn) (by omega) (by show l < 3000; omega)
        rw [a4, hv] at d1
        have z3 : S3.2 = S1.2 := d2.1
        have hG : Gx [9, 11, 12, 13, 15] [10] S S3 := (a2.mono (by simp +contextual) (by simp)).tr (Gx.ag (d2.mono (by simp +contextual)))
        have hM3 : ModZ S3.2 := by rw [z3]; exact hS1.m
        have eM3 : mV (m15 S3) = mV S := by rw [m15_mV]; exact mV_x hG hS.nf (by simp)
        obtain ⟨O1, e1, e2, e3, e4, e5, -⟩ := X12_open hM3.u
        rw [eM3] at e4 e5
        obtain ⟨O2, f1, f2, f3⟩ := X12_seed65 (n := n) (l := l) (by omega) h6 (by omega) l FU 0 0 y (sI O1 33 37 y) e2 (by rw [mV_o (by omega), e4]; exact hB) (by simp [mI_s]) (by omega) (by show l < 3000; omega)
        rw [mV_o (by omega), e4] at f1
        have hO2 : ModZ O2.2 := by rw [f2.1]; exact e2
        obtain ⟨O3, g1, g2, g3, g4, -⟩ := X12_close hO2
        have f47 : mI O2 47 = mI O1 47 := by
          rw [f2.2 47 (by simp)]
          exact (Ag.sI (cs := [33]) (by simp)).2 47 (by simp)
        refine ⟨_, two (g := fun T => f_X12_seeds T 33 (nI l) y) (v := sdV n l y (mV S) 0) (S1 := S3) (S2 := O3) ?_ ?_, hI.md hG (by simp) (by rw [z3]; exact a3) ((Mf.m15.tr e3).tr ((Mf.sI (Or.inl (by omega)) (fun _ => by omega)).tr ((Mf.ag f2 f3 (by simp) (by simp)).tr g3))) (by rw [g4, f47, e5])⟩
        · simp only [f_X11_seeds, hS.o S rfl, if_true, h1, h9, hS.g0 S rfl, hS.l1.i S _ rfl, rn, c0, if_false, Option.bind_some, hS.g1 S rfl, a1]
          exact d1
        · have k0 : mI (m15 S3) 33 0 = nI n := by rw [mv0, eM3]; exact hB.sz
          simp only [f_X12_seeds, f_X12_seeds_39, hM3.o _ rfl, if_true, hM3.q, Option.bind_some, h1, h9, hM3.u.i _ _ rfl, k0, c0, if_false, e1, e2.p O1 _ _ rfl]
          rw [if_pos (by decide)]
          refine f1.trans ?_
          rw [g1]
          rfl
    · refine ref 6 (-6) (by omega) ?_ ?_
      · simp only [f_X11_seeds, hS.o S rfl, if_true, Option.bind_some, h1, h9, if_false, (cR hS).2.2.2.2]
      · simp only [f_X12_seeds, f_X12_seeds_39, (hMk 6).o _ rfl, if_true, (hMk 6).q, Option.bind_some, h1, h9, if_false, (mR' (hMk 6).u).2.2.2.2]
        rfl
  · refine ref 4 (-4) (by omega) ?_ ?_
    · simp only [f_X11_seeds, hS.o S rfl, if_true, Option.bind_some, h1, if_false, (cR hS).2.2.2.1]
    · simp only [f_X12_seeds, f_X12_seeds_39, (hMk 4).o _ rfl, if_true, (hMk 4).q, Option.bind_some, h1, if_false, (mR' (hMk 4).u).2.2.2.1]
      rfl
