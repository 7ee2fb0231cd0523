/-! all rings -/
def lost : List Rg → (Nat → Nat) → Int32
  | [], _ => 0
  | r :: rs, D => cf r * nI (rgM D r) + lost rs (rgS D r)
theorem fz_none {D : Nat → Nat} {l : List Rg} (h : ∀ p ∈ l, rgM D p = 0) : fz D l = none := by
  unfold fz
  rw [List.find?_eq_none]
  intro p hp
  simp [h p hp]
theorem fz_at {D : Nat → Nat} {P rs : List Rg} {r : Rg} (h : ∀ p ∈ P, rgM D p = 0) (hr : rgM D r ≠ 0) : fz D (P ++ r :: rs) = some r := by
  have h1 := fz_none h
  unfold fz at h1 ⊢
  rw [List.find?_append, h1, Option.none_or, List.find?_cons_of_pos]
  simp [hr]
theorem X12_all7 {V : Vw} {n : Nat} (hn : V 0 0 = nI n) (h6 : n ≤ 6) : ∀ (rs P : List Rg) (D : Nat → Nat) (S : Mm) (t : Int32) (fuel : Nat), P ++ rs = Rn n → (∀ p ∈ P, rgM D p = 0) → okD D → ModZ S.2 → mV S = setD V D → rs.length < fuel → ∃ S', f_X12_strikeAll_7 fuel S 33 t = some ((runD rs D t).2, S') ∧ Ag [33, 43] S S' ∧ O33 [19] S S' ∧ mV S' = setD V (runD rs D t).1 ∧ mI S' 33 19 = mI S 33 19 + lost rs D
  | [], P, D, S, t, fuel, hl, hP, hD, hM, hV, hf => by
    obtain ⟨m, rfl⟩ : ∃ m, fuel = m + 1 := ⟨fuel - 1, by simp at hf; omega⟩
    have hs := X12_strikeOne hn h6 hD hM hV
    unfold Sc at hs
    rw [← hl, List.append_nil, fz_none hP] at hs
    obtain ⟨S1, e1, e2, e3⟩ := hs
    refine ⟨S1, ?_, e2.mono (by simp), O33.ag e2 (by simp), e3, by rw [e2.2 33 (by simp)]; exact (Int32.add_zero _).symm⟩
    rw [f_X12_strikeAll_7, e1]
    rfl
  | r :: rs, P, D, S, t, fuel, hl, hP, hD, hM, hV, hf => by
    have hl' : (P ++ [r]) ++ rs = Rn n := by rw [← hl]; simp
    by_cases h0 : rgM D r = 0
    · obtain ⟨S', e1, e2, e3, e4, e5⟩ := X12_all7 hn h6 rs (P ++ [r]) D S t fuel hl' (fun p hp => by
        rcases List.mem_append.mp hp with q | q
        · exact hP p q
        · simp at q; rw [q]; exact h0) hD hM hV (by simp at hf; omega)
      refine ⟨S', ?_, e2, e3, ?_, ?_⟩
      · rw [e1, runD, rgS_0 h0, if_pos h0, Int32.add_zero]
      · rw [e4, runD, rgS_0 h0, if_pos h0, Int32.add_zero]
      · rw [e5, lost, rgS_0 h0, h0, show nI 0 = (0 : Int32) from rfl, Int32.mul_zero, Int32.zero_add]
    · obtain ⟨m, rfl⟩ : ∃ m, fuel = m + 1 := ⟨fuel - 1, by simp at hf; omega⟩
      have hs := X12_strikeOne hn h6 hD hM hV
      unfold Sc at hs
      rw [← hl, fz_at hP h0] at hs
      obtain ⟨S1, a1, a2, a3, a4, a5⟩ := hs
      obtain ⟨S', e1, e2, e3, e4, e5⟩ := X12_all7 hn h6 rs (P ++ [r]) (rgS D r) S1 (t + 1) m hl' (fun p hp => by
        rcases List.mem_append.mp hp with q | q
        · have := rgM_mono (r := p) (fun k => rgS_le (D := D) (r := r) (k := k))
          rw [hP p q] at this
          omega
        · simp at q; rw [q]; exact rgM_s) hD.s (by rw [a2.1]; exact hM) a4 (by simp at hf; omega)
      refine ⟨S', ?_, a2.tr e2, a3.tr e3, ?_, ?_⟩
      · rw [f_X12_strikeAll_7, a1]
        simp only [Option.bind_some]
        rw [if_neg (by decide), e1, runD, if_neg h0]
      · rw [e4, runD, if_neg h0]
      · rw [e5, a5, lost, Int32.add_assoc]
theorem Rn_len : ∀ n, n ≤ 6 → (Rn n).length < 100 := by decide
set_option maxRecDepth 100000 in
theorem X12_strikeAll {V : Vw} {D : Nat → Nat} {n : Nat} {S : Mm} (hn : V 0 0 = nI n) (h6 : n ≤ 6) (hD : okD D) (hM : ModZ S.2) (hV : mV S = setD V D) : ∃ S', f_X12_strikeAll S 33 = some ((runD (Rn n) D 0).2, S') ∧ Ag [33, 43] S S' ∧ O33 [19] S S' ∧ mV S' = setD V (runD (Rn n) D 0).1 ∧ mI S' 33 19 = lost (Rn n) D := by
  have := Rn_len n h6
  obtain ⟨S', e1, e2, e3, e4, e5⟩ := X12_all7 hn h6 (Rn n) [] D (sI S 33 19 0) 0 FU rfl (by simp) hD hM (by rw [mV_o (by omega)]; exact hV) (by show (Rn n).length < 3000; omega)
  refine ⟨S', ?_, (Ag.sI (by simp)).tr e2, (O33.sI (by simp)).tr e3, e4, by rw [e5, mI_s, if_pos ⟨rfl, rfl⟩, Int32.zero_add]⟩
  rw [f_X12_strikeAll, if_pos (hM.o S rfl), hM.p S _ _ rfl]
  exact e1
/-! rings with somebody who isn't there are none -/
def fN (n : Nat) (r : Rg) : Bool := decide (r.1 < n) && (decide (r.2.1 < n) && (decide (r.2.2 = 9) || decide (r.2.2 < n)))
def okR (r : Rg) : Prop := r.1 < 6 ∧ r.2.1 < 6 ∧ (r.2.2 = 9 ∨ r.2.2 < 6) ∧ r.1 ≠ r.2.1 ∧ r.2.1 ≠ r.2.2 ∧ r.1 ≠ r.2.2
theorem R6_ok : ∀ r ∈ R6, okR r := by unfold okR; decide
theorem Rn_eq : ∀ n, n ≤ 6 → R6.filter (fN n) = Rn n := by decide
def zD (D : Nat → Nat) (n : Nat) : Prop := ∀ a b, a < 6 → b < 6 → (n ≤ a ∨ n ≤ b) → D (6 * a + b) = 0
theorem zD.s {D : Nat → Nat} {n : Nat} {r : Rg} (h : zD D n) : zD (rgS D r) n := fun a b ha hb hn => by
  have := rgS_le (D := D) (r := r) (k := 6 * a + b)
  rw [h a b ha hb hn] at this
  omega
theorem zD.m {D : Nat → Nat} {n : Nat} {r : Rg} (h : zD D n) (hr : okR r) (hf : ¬ fN n r = true) : rgM D r = 0 := by
  obtain ⟨a, b, c⟩ := r
  obtain ⟨ha, hb, hc, -⟩ := hr
  simp only at ha hb hc
  simp only [fN, Bool.and_eq_true, Bool.or_eq_true, decide_eq_true_eq] at hf
  by_cases c9 : c = 9
  · subst c9
    rw [rgM_2, h a b ha hb (by omega)]
    omega
  · rw [rgM_3 c9]
    by_cases h1 : n ≤ a ∨ n ≤ b
    · rw [h a b ha hb h1]
      omega
    · rw [h b c hb (by omega) (by omega)]
      omega
theorem runD_f {n : Nat} : ∀ (l : List Rg) (D : Nat → Nat) (t : Int32), (∀ r ∈ l, okR r) → zD D n → runD l D t = runD (l.filter (fN n)) D t
  | [], _, _, _, _ => rfl
  | r :: l, D, t, hl, hz => by
    by_cases hf : fN n r = true
    · rw [List.filter_cons_of_pos hf, runD, runD]
      exact runD_f l _ _ (fun p hp => hl p (by simp [hp])) hz.s
    · rw [List.filter_cons_of_neg hf, runD, rgS_0 (hz.m (hl r (by simp)) hf), if_pos (hz.m (hl r (by simp)) hf), Int32.add_zero]
      exact runD_f l _ _ (fun p hp => hl p (by simp [hp])) hz
theorem runD_6 {n : Nat} (h6 : n ≤ 6) {D : Nat → Nat} {t : Int32} (hz : zD D n) : runD R6 D t = runD (Rn n) D t := by rw [← Rn_eq n h6, runD_f R6 D t R6_ok hz]
theorem runD_z {n : Nat} : ∀ (l : List Rg) (D : Nat → Nat) (t : Int32), zD D n → zD (runD l D t).1 n
  | [], _, _, h => h
  | r :: l, D, t, h => runD_z l _ _ h.s
theorem Bd.setD {V : Vw} {n : Nat} {D : Nat → Nat} (hB : Bd V n) (hD : okD D) (hz : zD D n) : Bd (setD V D) n := by
  refine ⟨hB.le, by rw [setD_o (by omega)]; exact hB.sz, by rw [setD_o (by omega)]; exact hB.lw, (fun k hk => by rw [setD_o (by omega)]; exact hB.r1 k hk), (fun k hk => by rw [setD_o (by omega)]; exact hB.r2 k hk), (fun k hk => by rw [setD_o (by omega)]; exact hB.r3 k hk), (fun k hk => by rw [setD_o (by omega)]; exact hB.r4 k hk), (fun k hk => by rw [setD_o (by omega)]; exact hB.r5 k hk), (fun k hk => by rw [setD_o (by omega)]; exact hB.r6 k hk), (fun k hk => by rw [setD_o (by omega)]; exact hB.r7 k hk), (fun k hk => by rw [setD_o (by omega)]; exact hB.r8 k hk), (fun k hk => by rw [setD_o (by omega)]; exact hB.r9 k hk), fun k hk => ⟨D k, hD k hk, setD_10 hk⟩, fun k hk => by rw [setD_o (by omega)]; exact hB.r11 k hk, fun a h1 h2 => ?_, fun a b h1 h2 h3 => by rw [setD_10 (by omega), hz a b h1 h2 h3]; rfl⟩
  rw [setD_o (by omega)]
  exact ⟨(hB.z9 a h1 h2).1, fun g hg => by rw [setD_o (by omega)]; exact (hB.z9 a h1 h2).2 g hg⟩
theorem gd_ok {V : Vw} {n : Nat} (hB : Bd V n) : okD (fun k => gd V 10 k) ∧ zD (fun k => gd V 10 k) n := ⟨fun k hk => (hB.r10.gd hk (by omega)).2, fun a b ha hb h => by
  show gd V 10 (6 * a + b) = 0
  rw [gd, hB.z10 a b ha hb h]
  rfl⟩
/-! strike -/
theorem st_11 {j : Nat} {S : Mm} (hI : Inv j S) : ∃ S', ls_11 0 33 S = some S' ∧ Inv (j + 1) S' := by
  unfold ls_11
  have hS := hI.1
  have hv := hI.2.2.1
  have hH := hI.2.1.1
  obtain ⟨⟨n, hB⟩, ⟨w, w1, w2⟩, ⟨m, m1, m2⟩⟩ := hI.2.2.2.1
  have hM := hS.m
  have h6 := hB.le
  have eM := m15_mV S
  have hMk : ∀ k, ModZ (rfC S k).2 := fun k => hS.m
  have eMk : ∀ k, mV (m15 (rfC S k)) = mV S := fun k => by rw [m15_mV, rfC_mV]
  have hz : mV (m15 S) 0 0 = nI n := by rw [eM]; exact hB.sz
  have hzk : ∀ k, mV (m15 (rfC S k)) 0 0 = nI n := fun k => by rw [eMk]; exact hB.sz
  have qt : Inv (j + 1) (m15 S) := hI.qt (cs := [33]) (ws := []) (Gx.ag (Ag.m15 (by simp))) (by simp) (by unfold Fre; decide) (by decide) rfl rfl rfl hI.2.1.2.1 eM
  obtain ⟨hD, hzD⟩ := gd_ok hB
  have hself := setD_self hB.r10
  obtain ⟨D, hDe⟩ : ∃ D : Nat → Nat, D = fun k => gd (mV S) 10 k := ⟨_, rfl⟩
  rw [← hDe] at hD hzD hself
  obtain ⟨S1, a1, a2, a3⟩ := X1_strikeRings (V := mV S) hS.l1 hH (by rw [hv, hself]) hD
  have z1 : S1.2 = S.2 := a2.1
  have hM1 : ModZ S1.2 := by rw [z1]; exact hM
  have eM1 : mV (m15 S1) = setD (mV S) D := by rw [m15_mV, mV_ag a2 (by simp), hself]
  obtain ⟨S2, b1, b2, b3, b4, -⟩ := X12_strikeAll hB.sz h6 hD hM1.u eM1
  rw [← runD_6 h6 hzD] at b1 b4
  refine ⟨_, two (g := fun T => f_X12_strike T 33) (v := (runD R6 D 0).2) (S1 := S1) (S2 := S2) ?_ ?_, hI.ed (cs := [7]) (ds := [33, 43]) (js := [15, 19]) a2 ((Ag.m15 (by simp)).tr b2) ((O33.m15 (by simp)).tr (b3.mono (by simp))) (by unfold Fre; decide) (by simp) (by simp) (by simp) a3 b4 ⟨⟨n, hB.setD (runD_ok _ _ _ hD) (runD_z _ _ _ hzD)⟩, ⟨w, by omega, by rw [setD_o (by omega)]; exact w2⟩, m, by omega, by rw [setD_o (by omega)]; exact m2⟩⟩
  · simp only [f_X11_strike, hS.o S rfl, if_true, hS.g0 S rfl, hS.l1.g5 S rfl, Option.bind_some, a1]
  · simp only [f_X12_strike, hM1.o _ rfl, if_true, hM1.q, Option.bind_some, b1]
