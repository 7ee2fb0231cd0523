/-! the calls, one after another -/
theorem two {f : Option (Int32 × Mm)} {g : Mm → Option (Int32 × Mm)} {v : Int32} {S1 S2 : Mm} (h1 : f = some (v, S1)) (h2 : g S1 = some (v, S2)) : (f.bind fun q => (g q.2).bind fun r => if q.1 = r.1 then some r.2 else none) = some S2 := by
  subst h1
  simp only [Option.bind_some, h2, if_true]
def rfC (S : Mm) (k : Nat) : Mm := sI S 32 k (mI S 32 k + 1)
def rfM (S : Mm) (k : Nat) : Mm := sI S 45 k (mI S 45 k + 1)
def m15 (S : Mm) : Mm := sI S 33 15 0
theorem rfC_2 {S : Mm} {k : Nat} : (rfC S k).2 = S.2 := rfl
theorem rfM_2 {S : Mm} {k : Nat} : (rfM S k).2 = S.2 := rfl
theorem m15_2 (S : Mm) : (m15 S).2 = S.2 := by simp [m15, sI_2]
theorem m15_mV (S : Mm) : mV (m15 S) = mV S := mV_o (Or.inr (Or.inr ⟨rfl, by omega⟩))
theorem rfC_mV {S : Mm} {k : Nat} : mV (rfC S k) = mV S := mV_o (by omega)
theorem Inv.rf {j k : Nat} {S : Mm} (hI : Inv j S) (hk : k < 7) : Inv (j + 1) (rfM (m15 (rfC S k)) k) := hI.refuse hk
theorem cR {S : Mm} (hS : Sh S.2) : f_X11_refuse S 0 (-1) = some (-1, rfC S 1) ∧ f_X11_refuse S 0 (-2) = some (-2, rfC S 2) ∧ f_X11_refuse S 0 (-3) = some (-3, rfC S 3) ∧ f_X11_refuse S 0 (-4) = some (-4, rfC S 4) ∧ f_X11_refuse S 0 (-6) = some (-6, rfC S 6) := ⟨X11_refuse hS (by omega) rfl, X11_refuse hS (by omega) rfl, X11_refuse hS (by omega) rfl, X11_refuse hS (by omega) rfl, X11_refuse hS (by omega) rfl⟩
theorem mR' {S : Mm} (hM : ModZ S.2) : f_X12_refuse S 33 (-1) = some (-1, rfM S 1) ∧ f_X12_refuse S 33 (-2) = some (-2, rfM S 2) ∧ f_X12_refuse S 33 (-3) = some (-3, rfM S 3) ∧ f_X12_refuse S 33 (-4) = some (-4, rfM S 4) ∧ f_X12_refuse S 33 (-6) = some (-6, rfM S 6) := ⟨X12_refuse hM (by omega) rfl, X12_refuse hM (by omega) rfl, X12_refuse hM (by omega) rfl, X12_refuse hM (by omega) rfl, X12_refuse hM (by omega) rfl⟩
theorem in3 (x : Int32) : (decide ((0 : Int64) ≤ x.toInt64) && decide (x.toInt64 ≤ 2)) = goodI x := by
  rw [show (0 : Int64) = (0 : Int32).toInt64 from rfl, show (2 : Int64) = (2 : Int32).toInt64 from rfl]
  simp only [i64_le, goodI]
  congr 1
  rw [decide_eq_decide]
  exact lt_pred (n := 3) (by omega)
theorem lawI_g (x : Int32) : lawI x = goodI x := by
  by_cases h : goodI x = true
  · obtain ⟨g, h1, rfl⟩ := goodI_n h
    rw [h]
    have : g = 0 ∨ g = 1 ∨ g = 2 := by omega
    rcases this with rfl | rfl | rfl <;> rfl
  · rw [Bool.not_eq_true] at h
    rw [h]
    by_cases h2 : lawI x = true
    · simp only [lawI, Bool.or_eq_true, decide_eq_true_eq] at h2
      rcases h2 with (rfl | rfl) | rfl <;> cases h
    · rwa [Bool.not_eq_true] at h2
theorem ModZ.q {S : Mm} (h : ModZ S.2) : pI S 11 33 15 0 = some (m15 S) := h.p S _ _ rfl
theorem ModZ.u {S : Mm} (h : ModZ S.2) : ModZ (m15 S).2 := h
theorem lV_mo {cs : List Nat} {S S' : Mm} (hA : Ag cs S S') (hN : NoF S.2) (hH : HsZ S.2 1) (h : ∀ c ∈ cs, 33 ≤ c ∧ c < 55) : lV S' 1 = lV S 1 := lV_ag hA hH (fun c hc => by
  have := h c hc
  refine ⟨fun q => ?_, hN.2 c (by omega) (by omega) (by omega) (by omega)⟩
  simp only [lcell, List.mem_cons, List.not_mem_nil, or_false] at q
  omega)
/-- both sides write the same into their values -/
theorem Inv.ed {cs ds js : List Nat} {j : Nat} {S S1 S2 : Mm} {V : Vw} (hI : Inv j S) (hA : Ag cs S S1) (hM : Ag ds S1 S2) (hO : O33 js S1 S2) (hc : Fre (cs ++ ds)) (h1 : ∀ c ∈ cs, c < 33) (h2 : ∀ c ∈ ds, 33 ≤ c) (hj : 22 ∉ js ∧ 27 ∉ js ∧ 36 ∉ js) (e1 : lV S1 1 = V) (e2 : mV S2 = V) (hV : ValB (j + 1) V) : Inv (j + 1) S2 := by
  have hA2 : Ag (cs ++ ds) S S2 := (hA.mono (by simp +contextual)).tr (hM.mono (by simp +contextual))
  have o : ∀ i, i ∉ js → mI S2 33 i = mI S 33 i := fun i hi => by rw [hO i hi, hA.2 33 (fun q => by have := h1 _ q; omega)]
  have z2 : S2.2 = S.2 := hA2.1
  refine hI.gx (Gx.ag (ws := []) hA2) (by simp) hc (o _ hj.1) (o _ hj.2.1) (o _ hj.2.2) (by rw [z2]; exact hI.2.1.1) (by rw [z2]; exact hI.2.1.2.1) ?_ (by rw [e2]; exact hV)
  rw [lV_mo hM (by rw [hA.1]; exact hI.1.nf) (by rw [hA.1]; exact hI.2.1.1) (fun c q => ⟨h2 c q, (hc c (by simp [q])).1⟩), e1, e2]
theorem O33.m15 {js : List Nat} {S : Mm} (h : 15 ∈ js) : O33 js S (m15 S) := O33.sI (fun _ => h)
theorem Ag.m15 {cs : List Nat} {S : Mm} (h : 33 ∈ cs) : Ag cs S (m15 S) := Ag.sI h
/-! law -/
theorem st_5 {j : Nat} {S : Mm} (hI : Inv j S) (x : Int32) : ∃ S', ls_5 0 33 S x = some S' ∧ Inv (j + 1) S' := by
  unfold ls_5
  have hS := hI.1
  have hv := hI.2.2.1
  by_cases hg : goodI x = true
  · obtain ⟨g, g1, rfl⟩ := goodI_n hg
    have hM : ModZ (sI S 1 6 (nI g)).2 := hS.m
    refine ⟨_, two (g := fun T => f_X12_law T 33 (nI g)) (v := mV S 0 1) (S1 := sI S 1 6 (nI g)) (S2 := sI (m15 (sI S 1 6 (nI g))) 33 1 (nI g)) ?_ ?_, hI.ed (cs := [1]) (ds := [33]) (js := [15, 1]) (Ag.sI (by simp)) ((Ag.m15 (by simp)).sIt (by simp)) ((O33.m15 (by simp)).tr (O33.sI (by simp))) (by unfold Fre; decide) (by simp) (by simp) (by simp) (ls0 hS.l1 hI.2.1.1 (k0 := 1) (by omega) rfl) (V := u2 (lV S 1) 0 1 (nI g)) (by rw [ms0 (by omega), m15_mV, mV_o (by omega), hv]) ?_⟩
    · simp only [f_X11_law, hS.o S rfl, if_true, X11_isLaw, lawI_g, hg, b2i_t, Option.bind_some, hS.g0 S rfl, hS.l1.i S _ rfl, hS.l1.p S _ _ rfl, lv01 (L := 1), hv]
      rfl
    · simp only [f_X12_law, hM.o _ rfl, if_true, hM.q, Option.bind_some, X12_in, in3, hg, b2i_t, hM.u.i _ _ rfl, hM.u.p _ _ _ rfl]
      rfl
    · rw [hv]
      obtain ⟨⟨n, hB⟩, h2, h3⟩ := hI.2.2.2.1.up
      exact ⟨⟨n, hB.u01 g1⟩, h2, h3⟩
  · rw [Bool.not_eq_true] at hg
    have hM : ModZ (rfC S 2).2 := hS.m
    refine ⟨_, two (g := fun T => f_X12_law T 33 x) (v := -2) (S1 := rfC S 2) (S2 := rfM (m15 (rfC S 2)) 2) ?_ ?_, hI.rf (by omega)⟩
    · simp only [f_X11_law, hS.o S rfl, if_true, X11_isLaw, lawI_g, hg, b2i_f, Option.bind_some, (cR hS).2.1]
    · simp only [f_X12_law, hM.o _ rfl, if_true, hM.q, Option.bind_some, X12_in, in3, hg, b2i_f, (mR' hM.u).2.1]
theorem rngI {y : Int32} {lo hi : Nat} (h1 : nI lo ≤ y) (h2 : y ≤ nI hi) (hl : lo < 2 ^ 30) (hh : hi < 2 ^ 30) : ∃ p, y = nI p ∧ lo ≤ p ∧ p ≤ hi := by
  have h0 : (0 : Int32) ≤ y := Int32.le_trans (show (0 : Int32) ≤ nI lo by rw [show (0 : Int32) = nI 0 from rfl, nI_lei (by omega) hl]; omega) h1
  obtain ⟨q, hq, rfl⟩ := nI_of (Int32.not_lt.mpr h0)
  exact ⟨q, rfl, (nI_leI (by omega) hq).mp h1, (nI_leI hq (by omega)).mp h2⟩
/-! price -/
theorem st_4 {j : Nat} {S : Mm} (hI : Inv j S) (x y : Int32) : ∃ S', ls_4 0 33 S x y = some S' ∧ Inv (j + 1) S' := by
  unfold ls_4
  have hS := hI.1
  have hv := hI.2.2.1
  have hMk : ∀ k, ModZ (rfC S k).2 := fun k => hS.m
  have ref : ∀ (k : Nat) (c : Int32), k < 7 → f_X11_price S 0 x y = some (c, rfC S k) → f_X12_price (rfC S k) 33 x y = some (c, rfM (m15 (rfC S k)) k) → ∃ S', ((f_X11_price S 0 x y).bind fun q => (f_X12_price q.2 33 x y).bind fun r => if q.1 = r.1 then some r.2 else none) = some S' ∧ Inv (j + 1) S' := fun k c hk h1 h2 => ⟨_, two (g := fun T => f_X12_price T 33 x y) h1 h2, hI.rf hk⟩
  by_cases hg : goodI x = true
  · obtain ⟨g, g1, rfl⟩ := goodI_n hg
    by_cases h1 : 1 ≤ y
    · by_cases h9 : y ≤ 9
      · obtain ⟨p, rfl, p1, p9⟩ : ∃ p, y = nI p ∧ 1 ≤ p ∧ p ≤ 9 := by
          obtain ⟨p, e, a1, a2⟩ := rngI (lo := 1) (hi := 9) h1 h9 (by omega) (by omega)
          exact ⟨p, e, a1, a2⟩
        have hM : ModZ (sI S 5 g (nI p)).2 := hS.m
        refine ⟨_, two (g := fun T => f_X12_price T 33 (nI g) (nI p)) (v := mV S 11 g) (S1 := sI S 5 g (nI p)) (S2 := sI (m15 (sI S 5 g (nI p))) 44 g (nI p)) ?_ ?_, hI.ed (cs := [5]) (ds := [33, 44]) (js := [15]) (Ag.sI (by simp)) ((Ag.m15 (by simp)).sIt (by simp)) ((O33.m15 (by simp)).tr (O33.sI (by simp))) (by unfold Fre; decide) (by simp) (by simp) (by simp) (ls11 (L := 1) hS.l1 hI.2.1.1 g1) (V := u2 (lV S 1) 11 g (nI p)) (by rw [ms11 g1, m15_mV, mV_o (by omega), hv]) ?_⟩
        · simp only [f_X11_price, hS.o S rfl, if_true, X11_isGood, hg, b2i_t, Option.bind_some, hS.g0 S rfl, hS.l1.g4 S rfl, hS.l1.A4.ld S _ rfl g1, hS.l1.A4.st S _ _ rfl g1, lv11 (L := 1) g1, hv, h1, h9]
          rfl
        · simp only [f_X12_price, f_X12_price_38, hM.o _ rfl, if_true, hM.q, Option.bind_some, X12_isGood, hg, b2i_t, h1, h9, hM.u.g14 _ rfl, hM.u.a44.ld _ _ rfl g1, hM.u.a44.st _ _ _ rfl g1]
          rw [if_neg (by decide), if_pos (by decide), mv11 g1, m15_mV, mV_o (by omega)]
        · rw [hv]
          obtain ⟨⟨n, hB⟩, h2, h3⟩ := hI.2.2.2.1.up
          exact ⟨⟨n, hB.u11 p1 p9⟩, h2, h3⟩
      · refine ref 6 (-6) (by omega) ?_ ?_
        · simp only [f_X11_price, hS.o S rfl, if_true, X11_isGood, hg, b2i_t, Option.bind_some, h1, h9, (cR hS).2.2.2.2]
          rfl
        · simp only [f_X12_price, f_X12_price_38, (hMk 6).o _ rfl, if_true, (hMk 6).q, Option.bind_some, X12_isGood, hg, b2i_t, h1, h9, (mR' (hMk 6).u).2.2.2.2]
          rfl
    · refine ref 4 (-4) (by omega) ?_ ?_
      · simp only [f_X11_price, hS.o S rfl, if_true, X11_isGood, hg, b2i_t, Option.bind_some, h1, (cR hS).2.2.2.1]
        rfl
      · simp only [f_X12_price, f_X12_price_38, (hMk 4).o _ rfl, if_true, (hMk 4).q, Option.bind_some, X12_isGood, hg, b2i_t, h1, (mR' (hMk 4).u).2.2.2.1]
        rfl
  · rw [Bool.not_eq_true] at hg
    refine ref 1 (-1) (by omega) ?_ ?_
    · simp only [f_X11_price, hS.o S rfl, if_true, X11_isGood, hg, b2i_f, Option.bind_some, (cR hS).1]
    · simp only [f_X12_price, f_X12_price_38, (hMk 1).o _ rfl, if_true, (hMk 1).q, Option.bind_some, X12_isGood, hg, b2i_f, (mR' (hMk 1).u).1]
      rfl
/-! store -/
theorem st_3 {j : Nat} {S : Mm} (hI : Inv j S) (x y : Int32) : ∃ S', ls_3 0 33 S x y = some S' ∧ Inv (j + 1) S' := by
  unfold ls_3
  have hS := hI.1
  have hv := hI.2.2.1
  obtain ⟨⟨n, hB⟩, -, -⟩ := hI.2.2.2.1
  have hM := hS.m
  have eM := m15_mV S
  have hM1 : ModZ (rfC S 1).2 := hS.m
  have eM1 : mV (m15 (rfC S 1)) = mV S := by rw [m15_mV, rfC_mV]
  have hz : mV (m15 S) 0 0 = nI n := by rw [eM]; exact hB.sz
  have hz1 : mV (m15 (rfC S 1)) 0 0 = nI n := by rw [eM1]; exact hB.sz
  have qt : Inv (j + 1) (m15 S) := hI.qt (cs := [33]) (ws := []) (Gx.ag (Ag.m15 (by simp))) (by simp) (by unfold Fre; decide) (by decide) rfl rfl rfl hI.2.1.2.1 eM
  have ref : f_X11_store S 0 x y = some (-1, rfC S 1) → f_X12_store (rfC S 1) 33 x y = some (-1, rfM (m15 (rfC S 1)) 1) → ∃ S', ((f_X11_store S 0 x y).bind fun q => (f_X12_store q.2 33 x y).bind fun r => if q.1 = r.1 then some r.2 else none) = some S' ∧ Inv (j + 1) S' := fun h1 h2 => ⟨_, two (g := fun T => f_X12_store T 33 x y) h1 h2, hI.rf (by omega)⟩
  by_cases hh : hasV (mV S) x = true
  · by_cases hg : goodI y = true
    · obtain ⟨g, g1, rfl⟩ := goodI_n hg
      obtain ⟨a, a1, rfl⟩ := hasV_n hB.sz hB.le hh
      have h6 := hB.le
      have hk : 3 * a + g < 18 := by omega
      refine ⟨_, two (g := fun T => f_X12_store T 33 (nI a) (nI g)) (v := mV S 9 (3 * a + g)) (S1 := S) (S2 := m15 S) ?_ ?_, qt⟩
      · simp only [f_X11_store, hS.o S rfl, if_true, hS.g0 S rfl, X6_hasHouse' hS.l1, hv, hh, b2i_t, Option.bind_some, X11_isGood, hg, X6_piecesOf hS.l1 hk, lv9 (L := 1) hk]
        rfl
      · simp only [f_X12_store, f_X12_store_38, hM.o _ rfl, if_true, hM.q, Option.bind_some, X12_isHouse hM.u hz h6, eM, hh, b2i_t, X12_isGood, hg, hM.u.g12 _ rfl, ix3', hM.u.a42.ld _ _ rfl hk, mv9 hk]
        rfl
    · rw [Bool.not_eq_true] at hg
      refine ref ?_ ?_
      · simp only [f_X11_store, f_X11_store_18, hS.o S rfl, if_true, hS.g0 S rfl, X6_hasHouse' hS.l1, hv, hh, b2i_t, Option.bind_some, X11_isGood, hg, b2i_f, (cR hS).1]
        rfl
      · simp only [f_X12_store, f_X12_store_38, f_X12_store_33, hM1.o _ rfl, if_true, hM1.q, Option.bind_some, X12_isHouse hM1.u hz1 hB.le, eM1, hh, b2i_t, X12_isGood, hg, b2i_f, (mR' hM1.u).1]
        rfl
  · rw [Bool.not_eq_true] at hh
    refine ref ?_ ?_
    · simp only [f_X11_store, f_X11_store_18, hS.o S rfl, if_true, hS.g0 S rfl, X6_hasHouse' hS.l1, hv, hh, b2i_f, Option.bind_some, (cR hS).1]
    · simp only [f_X12_store, f_X12_store_38, f_X12_store_33, hM1.o _ rfl, if_true, hM1.q, Option.bind_some, X12_isHouse hM1.u hz1 hB.le, eM1, hh, b2i_f, (mR' hM1.u).1]
/-! lawful -/
theorem st_6 {j : Nat} {S : Mm} (hI : Inv j S) (x y : Int32) : ∃ S', ls_6 0 33 S x y = some S' ∧ Inv (j + 1) S' := by
  unfold ls_6
  have hS := hI.1
  have hv := hI.2.2.1
  obtain ⟨⟨n, hB⟩, -, -⟩ := hI.2.2.2.1
  have hM := hS.m
  have eM := m15_mV S
  have hM1 : ModZ (rfC S 1).2 := hS.m
  have eM1 : mV (m15 (rfC S 1)) = mV S := by rw [m15_mV, rfC_mV]
  have hz : mV (m15 S) 0 0 = nI n := by rw [eM]; exact hB.sz
  have hz1 : mV (m15 (rfC S 1)) 0 0 = nI n := by rw [eM1]; exact hB.sz
  have qt : Inv (j + 1) (m15 S) := hI.qt (cs := [33]) (ws := []) (Gx.ag (Ag.m15 (by simp))) (by simp) (by unfold Fre; decide) (by decide) rfl rfl rfl hI.2.1.2.1 eM
  by_cases hh : twoV (mV S) x y = true
  · obtain ⟨a, b, a1, b1, hab, rfl, rfl⟩ := twoV_n hB.sz hB.le hh
    have h6 := hB.le
    obtain ⟨q, q3, hq⟩ := hB.lw
    have hq' : mV (m15 S) 0 1 = nI q := by rw [eM]; exact hq
    refine ⟨_, two (g := fun T => f_X12_lawful T 33 (nI a) (nI b)) (v := b2i (lawV (mV S) a b)) (S1 := S) (S2 := m15 S) ?_ ?_, qt⟩
    · simp only [f_X11_lawful, f_X11_lawful_35, hS.o S rfl, if_true, hS.g0 S rfl, X6_areTwo hS.l1, hv, hh, b2i_t, Option.bind_some, X6_isLawful hS.l1 hI.2.1.1 (show a < 6 by omega) (show b < 6 by omega)]
      rw [if_neg (by decide)]
      cases lawV (mV S) a b <;> rfl
    · simp only [f_X12_lawful, f_X12_lawful_34, hM.o _ rfl, if_true, hM.q, Option.bind_some, X12_areTwo hM.u hz h6, eM, hh, b2i_t, X12_isLawful hM.u hq' q3 (show a < 6 by omega) (show b < 6 by omega)]
      rw [if_neg (by decide)]
      cases lawV (mV S) a b <;> rfl
  · rw [Bool.not_eq_true] at hh
    refine ⟨_, two (g := fun T => f_X12_lawful T 33 x y) (v := -1) (S1 := rfC S 1) (S2 := rfM (m15 (rfC S 1)) 1) ?_ ?_, hI.rf (by omega)⟩
    · simp only [f_X11_lawful, hS.o S rfl, if_true, hS.g0 S rfl, X6_areTwo hS.l1, hv, hh, b2i_f, Option.bind_some, (cR hS).1]
    · simp only [f_X12_lawful, hM1.o _ rfl, if_true, hM1.q, Option.bind_some, X12_areTwo hM1.u hz1 hB.le, eM1, hh, b2i_f, (mR' hM1.u).1]
