/-! what the rings come to -/
def nS (D : Nat → Nat) : Nat → Nat
  | 0 => 0
  | c + 1 => nS D c + D c
theorem sm_nS {D : Nat → Nat} : ∀ c : Nat, sm (fun k => nI (D k)) c 0 0 = nI (nS D c)
  | 0 => rfl
  | c + 1 => by rw [sm_last, sm_nS c, nI_add]; rfl
theorem nS_up {D D' : Nat → Nat} {k m : Nat} (hm : m ≤ D k) (h : ∀ i, D' i = if i = k then D k - m else D i) : ∀ c : Nat, nS D' c + (if k < c then m else 0) = nS D c
  | 0 => rfl
  | c + 1 => by
    have ih := nS_up hm h c
    show nS D' c + D' c + _ = nS D c + D c
    rw [h c]
    by_cases hc : c = k
    · subst hc
      rw [if_pos rfl, if_pos (by omega)]
      rw [if_neg (by omega)] at ih
      omega
    · rw [if_neg hc]
      by_cases hk : k < c
      · rw [if_pos (by omega)]
        rw [if_pos hk] at ih
        omega
      · rw [if_neg (by omega)]
        rw [if_neg hk] at ih
        omega
theorem nS_r {D : Nat → Nat} {r : Rg} (hr : okR r) : nS (rgS D r) 36 + (if r.2.2 = 9 then 2 else 3) * rgM D r = nS D 36 := by
  obtain ⟨a, b, c⟩ := r
  obtain ⟨ha, hb, hc, hab, hbc, hac⟩ := hr
  simp only at ha hb hc hab hbc hac
  by_cases c9 : c = 9
  · subst c9
    have e := rgM_2 (D := D) (a := a) (b := b)
    obtain ⟨m, hm⟩ : ∃ m, m = rgM D (a, b, 9) := ⟨_, rfl⟩
    have u1 := nS_up (D := D) (D' := fun i => if i = 6 * a + b then D (6 * a + b) - m else D i) (k := 6 * a + b) (m := m) (by omega) (fun i => rfl) 36
    have u2' := nS_up (D := fun i => if i = 6 * a + b then D (6 * a + b) - m else D i) (D' := rgS D (a, b, 9)) (k := 6 * b + a) (m := m) (by rw [if_neg (by omega)]; omega) (fun i => by
      unfold rgS
      rw [← hm]
      by_cases h1 : i = 6 * b + a
      · rw [if_pos (inR_2.mpr (Or.inr h1)), if_pos h1, if_neg (by omega), h1]
      · rw [if_neg h1]
        by_cases h2 : i = 6 * a + b
        · rw [if_pos (inR_2.mpr (Or.inl h2)), if_pos h2, h2]
        · rw [if_neg (fun q => (inR_2.mp q).elim h2 h1), if_neg h2]) 36
    rw [if_pos (by omega)] at u1 u2'
    show _ + (if 9 = 9 then 2 else 3) * _ = _
    rw [if_pos rfl, ← hm]
    omega
  · have e := rgM_3 (D := D) (a := a) (b := b) c9
    obtain ⟨m, hm⟩ : ∃ m, m = rgM D (a, b, c) := ⟨_, rfl⟩
    have u1 := nS_up (D := D) (D' := fun i => if i = 6 * a + b then D (6 * a + b) - m else D i) (k := 6 * a + b) (m := m) (by omega) (fun i => rfl) 36
    have u2' := nS_up (D := fun i => if i = 6 * a + b then D (6 * a + b) - m else D i) (D' := fun i => if i = 6 * b + c then D (6 * b + c) - m else if i = 6 * a + b then D (6 * a + b) - m else D i) (k := 6 * b + c) (m := m) (by rw [if_neg (by omega)]; omega) (fun i => by
      by_cases h1 : i = 6 * b + c
      · rw [if_pos h1, if_pos h1, if_neg (by omega)]
      · rw [if_neg h1, if_neg h1]) 36
    have u3 := nS_up (D := fun i => if i = 6 * b + c then D (6 * b + c) - m else if i = 6 * a + b then D (6 * a + b) - m else D i) (D' := rgS D (a, b, c)) (k := 6 * c + a) (m := m) (by rw [if_neg (by omega), if_neg (by omega)]; omega) (fun i => by
      unfold rgS
      rw [← hm]
      by_cases h1 : i = 6 * c + a
      · rw [if_pos ((inR_3 c9).mpr (Or.inr (Or.inr h1))), if_pos h1, if_neg (by omega), if_neg (by omega), h1]
      · rw [if_neg h1]
        by_cases h2 : i = 6 * b + c
        · rw [if_pos ((inR_3 c9).mpr (Or.inr (Or.inl h2))), if_pos h2, h2]
        · rw [if_neg h2]
          by_cases h3 : i = 6 * a + b
          · rw [if_pos ((inR_3 c9).mpr (Or.inl h3)), if_pos h3, h3]
          · rw [if_neg (fun q => by rcases (inR_3 c9).mp q with q | q | q <;> omega), if_neg h3]) 36
    rw [if_pos (by omega)] at u1 u2' u3
    show _ + (if c = 9 then 2 else 3) * _ = _
    rw [if_neg c9, ← hm]
    omega
theorem nI_mul (a b : Nat) : nI a * nI b = nI (a * b) := (Int32.ofNat_mul a b).symm
theorem lost_eq : ∀ (l : List Rg) (D : Nat → Nat) (t : Int32), (∀ r ∈ l, okR r) → nI (nS D 36) = lost l D + nI (nS (runD l D t).1 36)
  | [], D, t, _ => (Int32.zero_add _).symm
  | r :: l, D, t, h => by
    have h1 := nS_r (D := D) (h r (by simp))
    have h2 := lost_eq l (rgS D r) (t + if rgM D r = 0 then 0 else 1) (fun p hp => h p (by simp [hp]))
    have h3 : cf r * nI (rgM D r) = nI ((if r.2.2 = 9 then 2 else 3) * rgM D r) := by
      unfold cf
      split
      · exact nI_mul 2 _
      · exact nI_mul 3 _
    rw [lost, runD, h3, Int32.add_assoc, ← h2, nI_add, Nat.add_comm, h1]
theorem tot {V : Vw} {D : Nat → Nat} : sm (setD V D 10) 36 0 0 = nI (nS D 36) := by
  rw [sm_c (g := fun k => nI (D k)) 36 0 0 (fun k _ h => setD_10 (by omega)), sm_nS]
set_option maxRecDepth 100000 in
theorem st_20 {j : Nat} {S : Mm} (hI : Inv j S) (y : Int32) : ∃ S', ls_20 0 33 S y = some S' ∧ Inv (j + 1) S' := by
  unfold ls_20
  have hS := hI.1
  have hv := hI.2.2.1
  have hH := hI.2.1.1
  obtain ⟨⟨n, hB⟩, ⟨w, w1, w2⟩, ⟨m, m1, m2⟩⟩ := hI.2.2.2.1
  have hM := hS.m
  have h6 := hB.le
  have eM := m15_mV S
  have hMk : ∀ k, ModZ (rfC S k).2 := fun k => hS.m
  have eMk : ∀ k, mV (m15 (rfC S k)) = mV S := fun k => by rw [m15_mV, rfC_mV]
  have hz : mV (m15 S) 0 0 = nI n := by rw [eM]; exact hB.sz
  have hzk : ∀ k, mV (m15 (rfC S k)) 0 0 = nI n := fun k => by rw [eMk]; exact hB.sz
  have qt : Inv (j + 1) (m15 S) := hI.qt (cs := [33]) (ws := []) (Gx.ag (Ag.m15 (by simp))) (by simp) (by unfold Fre; decide) (by decide) rfl rfl rfl hI.2.1.2.1 eM
  have ref : ∀ (k : Nat) (c : Int32), k < 7 → f_X11_rings S 0 y = some (c, rfC S k) → f_X12_rings (rfC S k) 33 y = some (c, rfM (m15 (rfC S k)) k) → ∃ S', ((f_X11_rings S 0 y).bind fun q => (f_X12_rings q.2 33 y).bind fun r => if q.1 = r.1 then some r.2 else none) = some S' ∧ Inv (j + 1) S' := fun k c hk h1 h2 => ⟨_, two (g := fun T => f_X12_rings T 33 y) h1 h2, hI.rf hk⟩
  by_cases y0 : 0 ≤ y
  · have y0' : ¬ y < 0 := Int32.not_lt.mpr y0
    by_cases y1 : y ≤ 1
    · have hk : (decide (0 ≤ y) && decide (y ≤ 1)) = true := by rw [decide_eq_true y0, decide_eq_true y1]; rfl
      obtain ⟨hD, hzD⟩ := gd_ok hB
      have hself := setD_self hB.r10
      obtain ⟨D, hDe⟩ : ∃ D : Nat → Nat, D = fun k => gd (mV S) 10 k := ⟨_, rfl⟩
      rw [← hDe] at hD hzD hself
      obtain ⟨S1, a1, a2, a3, a4, a5⟩ := X6_copyFrom (D := 9) (L := 1) (S := S) (by omega) (by omega) (by omega) hS.nf hS.l9 hS.l1 hH
      have hS1 : Sh S1.2 := hS.x a2.1 (by simp)
      have hH1 : HsZ S1.2 1 := hH.x hS.l1 a2.1 (by omega) (by simp)
      have v1 : lV S1 1 = mV S := by rw [lV_x a2 hS.nf hS.l1 hH (by omega) (by simp) (by unfold plain; decide) (by decide), hv]
      obtain ⟨S2, d1, d2, d3⟩ := X1_strikeRings (V := mV S) hS1.l9 a3 (by rw [a4, hv, hself]) hD
      have z2 : S2.2 = S1.2 := d2.1
      have hS2 : Sh S2.2 := by rw [z2]; exact hS1
      have v2 : lV S2 1 = mV S := by
        rw [lV_ag d2 hH1 (fun c hc => ?_), v1]
        simp only [List.mem_cons, List.not_mem_nil, or_false] at hc
        subst hc
        exact ⟨by simp [lcell], hS1.nf.2 15 (by omega) (by omega) (by omega) (by omega)⟩
      have hG : Gx [9, 11, 12, 13, 15] [10] S S2 := (a2.mono (by simp +contextual) (by simp)).tr (Gx.ag (d2.mono (by simp +contextual)))
      have hM2 : ModZ S2.2 := hS2.m
      have eM2 : mV (m15 S2) = mV S := by rw [m15_mV]; exact mV_x hG hS.nf (by simp)
      obtain ⟨O1, e1, e2, e3, e4, e5, -⟩ := X12_open hM2.u
      rw [eM2] at e4 e5
      obtain ⟨O2, f1, f2, f3, f4, f5⟩ := X12_strikeAll hB.sz h6 hD e2 (by rw [e4, hself])
      rw [← runD_6 h6 hzD] at f1
      have hO2 : ModZ O2.2 := by rw [f2.1]; exact e2
      obtain ⟨O3, g1, g2, g3, g4, -, -, -, g5⟩ := X12_close hO2
      have mf : Mf S2 O3 := ((Mf.m15.tr e3).tr ((Mf.ag f2 f3 (by simp) (by simp)).tr g3))
      have vf : mV O3 = mV S := by rw [g4, f2.2 47 (by simp), e5]
      have k19 : mI O3 33 19 = lost (Rn n) D := by rw [g5 19 (by omega) (by omega) (by omega), f5]
      have t1 : f_X1_total S2 (1 + 5) = some (nI (nS D 36), S2) := by rw [X1_total hS2.l1, smL10 (L := 1) (Nat.le_refl 36), v2, ← hself, tot]
      have t9 : f_X1_total S2 (9 + 5) = some (nI (nS (runD R6 D 0).1 36), S2) := by rw [X1_total hS2.l9, smL10 (L := 9) (Nat.le_refl 36), d3, tot]
      have hlost : nI (nS D 36) - nI (nS (runD R6 D 0).1 36) = lost (Rn n) D := by
        rw [lost_eq (Rn n) D 0 (fun r hr => R6_ok r (by rw [← Rn_eq n h6] at hr; exact (List.mem_filter.mp hr).1)), runD_6 h6 hzD, Int32.add_sub_cancel]
      by_cases k0 : y = 0
      · subst k0
        refine ⟨_, two (g := fun T => f_X12_rings T 33 0) (v := (runD R6 D 0).2) (S1 := S2) (S2 := O3) ?_ ?_, hI.md hG (by simp) (by rw [z2]; exact a3) mf vf⟩
        · simp only [f_X11_rings, f_X11_rings_67, hS.o S rfl, if_true, y0', if_false, y1, hS.g1 S rfl, hS.g0 S rfl, Option.bind_some, a1, hS1.g1 S1 rfl, hS1.l9.g5 S1 rfl, d1]
        · simp only [f_X12_rings, f_X12_rings_47, hM2.o _ rfl, if_true, hM2.q, Option.bind_some, X12_in, in1, hk, b2i_t, e1, f1, g1]
          rfl
      · refine ⟨_, two (g := fun T => f_X12_rings T 33 y) (v := lost (Rn n) D) (S1 := S2) (S2 := O3) ?_ ?_, hI.md hG (by simp) (by rw [z2]; exact a3) mf vf⟩
        · simp only [f_X11_rings, f_X11_rings_67, hS.o S rfl, if_true, y0', if_false, y1, hS.g1 S rfl, hS.g0 S rfl, Option.bind_some, a1, hS1.g1 S1 rfl, hS1.l9.g5 S1 rfl, d1, k0, hS2.g0 S2 rfl, hS2.l1.g5 S2 rfl, t1, hS2.g1 S2 rfl, hS2.l9.g5 S2 rfl, t9, hlost]
        · simp only [f_X12_rings, f_X12_rings_47, hM2.o _ rfl, if_true, hM2.q, Option.bind_some, X12_in, in1, hk, b2i_t, e1, f1, g1, k0, if_false, g2.i O3 _ rfl, k19]
          rfl
    · have hk : (decide (0 ≤ y) && decide (y ≤ 1)) = false := by rw [decide_eq_false y1, Bool.and_false]
      refine ref 2 (-2) (by omega) ?_ ?_
      · simp only [f_X11_rings, f_X11_rings_9, hS.o S rfl, if_true, Option.bind_some, y0', if_false, y1, (cR hS).2.1]
      · simp only [f_X12_rings, (hMk 2).o _ rfl, if_true, (hMk 2).q, Option.bind_some, X12_in, in1, hk, b2i_f, (mR' (hMk 2).u).2.1]
  · have y0' : y < 0 := Int32.not_le.mp y0
    have hk : (decide (0 ≤ y) && decide (y ≤ 1)) = false := by rw [decide_eq_false y0, Bool.false_and]
    refine ref 2 (-2) (by omega) ?_ ?_
    · simp only [f_X11_rings, f_X11_rings_9, hS.o S rfl, if_true, Option.bind_some, y0', (cR hS).2.1]
    · simp only [f_X12_rings, (hMk 2).o _ rfl, if_true, (hMk 2).q, Option.bind_some, X12_in, in1, hk, b2i_f, (mR' (hMk 2).u).2.1]
