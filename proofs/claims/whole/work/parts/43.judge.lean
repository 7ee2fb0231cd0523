/-! judge -/
theorem Gx.both {cs ws : List Nat} {S S1 : Mm} {a j : Nat} {v : Int32} (hG : Gx cs ws S S1) : Gx cs ws (sI S a j v) (sI S1 a j v) := ⟨hG.1, fun b hb hc => by
  funext k
  rw [mI_s, mI_s, hG.2 b hb hc]⟩
theorem Inv.row0 {j : Nat} {S : Mm} (hI : Inv j S) : Inv j (sI (sI S 0 8 0) 33 36 0) := by
  obtain ⟨hS, hHs, hv, hb, hi, hl, hr, hf⟩ := hI
  have hA : Ag [0, 33] S (sI (sI S 0 8 0) 33 36 0) := (Ag.sI (by simp)).sIt (by simp)
  have m33 : ∀ i, i ≠ 36 → mI (sI (sI S 0 8 0) 33 36 0) 33 i = mI S 33 i := fun i h => by simp [mI_s, h]
  have m0 : ∀ i, i ≠ 8 → mI (sI (sI S 0 8 0) 33 36 0) 0 i = mI S 0 i := fun i h => by simp [mI_s, h]
  have eM : mV (sI (sI S 0 8 0) 33 36 0) = mV S := by rw [mV_o (by omega), mV_o (by omega)]
  refine ⟨hS, hHs, ?_, by rw [eM]; exact hb, ?_, ?_, ⟨0, by omega, by simp [mI_s, nI_0], by simp [mI_s, nI_0], fun k hk => absurd hk (Nat.not_lt_zero _)⟩, ?_⟩
  · rw [lV_L hA hS hHs (Or.inl rfl) (by simp), eM]; exact hv
  · unfold Img
    rw [lV_L hA hS hHs (Or.inr rfl) (by simp), m33 22 (by omega), m0 3 (by omega), hA.2 48 (by simp)]
    exact hi
  · unfold Let
    rw [m33 27 (by omega), hA.2 29 (by simp), hA.2 30 (by simp), hA.2 49 (by simp)]
    exact hl
  · unfold Ref
    rw [hA.2 32 (by simp), hA.2 45 (by simp)]
    exact hf
def d2 (x : Int32) : Int32 := (x / 10) - (x / 10) / 10 * 10
def d3 (x : Int32) : Int32 := x - x / 10 * 10
def jdg (rw : Nat → Int32) : Nat → Nat → Vw → Int32
  | 0, _, _ => -9
  | c + 1, k, V => if okT V (rw k / 100) (d2 (rw k)) (d3 (rw k)) = true then jdg rw c (k + 1) (mvV V (rw k / 100).toNatClampNeg (d2 (rw k)).toNatClampNeg (d3 (rw k)).toNatClampNeg) else nI k
theorem jdg_c {rw rw' : Nat → Int32} {s : Nat} (h : ∀ k, k < s → rw k = rw' k) : ∀ (c k : Nat) (V : Vw), k + c ≤ s → jdg rw c k V = jdg rw' c k V
  | 0, _, _, _ => rfl
  | c + 1, k, V, hk => by
    rw [jdg, jdg, h k (by omega), jdg_c h c (k + 1) _ (by omega)]
theorem Bd.ok {V : Vw} {n : Nat} {x y z : Int32} (hB : Bd V n) (h : okT V x y z = true) : Bd (mvV V x.toNatClampNeg y.toNatClampNeg z.toNatClampNeg) n := by
  have h6 := hB.le
  obtain ⟨a, b, g, a1, b1, g1, hab, rfl, rfl, rfl, hc⟩ := okT_n hB.sz hB.le h
  rw [nI_clamp (by omega), nI_clamp (by omega), nI_clamp (by omega)]
  exact (hB.mv a1 b1 g1 hc).1
theorem X11_jud16 {n s : Nat} (hs : s ≤ 8) : ∀ (c fuel k : Nat) (S : Mm), Sh S.2 → HsZ S.2 9 → Bd (lV S 9) n → mI S 0 8 = nI s → k + c = s → c + 1 < fuel → ∃ S', f_X11_judge_16 fuel S 0 (-9) (nI k) = some (jdg (mI S 31) c k (lV S 9), sI S' 0 8 0) ∧ Ag [11, 12] S S' := by
  intro c
  induction c with
  | zero =>
    intro fuel k S hS hH hB h8 hk hf
    obtain ⟨m, rfl⟩ : ∃ m, fuel = m + 1 := ⟨fuel - 1, by omega⟩
    refine ⟨S, ?_, Ag.rf⟩
    rw [f_X11_judge_16, hS.i S _ rfl, h8]
    simp only [Option.bind_some]
    rw [if_pos (by rw [nI_lei (by omega) (by omega)]; omega), f_X11_judge_70, hS.p S _ _ rfl]
    rfl
  | succ c ih =>
    intro fuel k S hS hH hB h8 hk hf
    obtain ⟨m, rfl⟩ : ∃ m, fuel = m + 1 := ⟨fuel - 1, by omega⟩
    rw [f_X11_judge_16, hS.i S _ rfl, h8]
    simp only [Option.bind_some]
    rw [if_neg (by rw [nI_lei (by omega) (by omega)]; omega), if_pos trivial]
    simp only [hS.g7 S rfl, Option.bind_some, hS.a31.ld S k rfl (show k < 8 by omega), hS.g1 S rfl]
    obtain ⟨t0, t1⟩ := X6_trySale hS.l9 hH hB (mI S 31 k / 100) (d2 (mI S 31 k)) (d3 (mI S 31 k))
    by_cases hc : okT (lV S 9) (mI S 31 k / 100) (d2 (mI S 31 k)) (d3 (mI S 31 k)) = true
    · obtain ⟨S1, e1, e2, e3⟩ := t1 hc
      obtain ⟨S2, b1, b2⟩ := ih m (k + 1) S1 (by rw [e2.1]; exact hS) (by rw [e2.1]; exact hH) (by rw [e3]; exact hB.ok hc) (by rw [e2.2 0 (by simp)]; exact h8) (by omega) (by omega)
      refine ⟨S2, ?_, e2.tr b2⟩
      rw [show (mI S 31 k / 10 - mI S 31 k / 10 / 10 * 10) = d2 (mI S 31 k) from rfl, show (mI S 31 k - mI S 31 k / 10 * 10) = d3 (mI S 31 k) from rfl, e1]
      simp only [Option.bind_some, f_X11_judge_64, nI_1]
      rw [if_neg (by decide), b1, e3, e2.2 31 (by simp), jdg, if_pos hc]
    · rw [show (mI S 31 k / 10 - mI S 31 k / 10 / 10 * 10) = d2 (mI S 31 k) from rfl, show (mI S 31 k - mI S 31 k / 10 * 10) = d3 (mI S 31 k) from rfl, t0 (by rwa [Bool.not_eq_true] at hc)]
      refine ⟨S, ?_, Ag.rf⟩
      obtain ⟨m', rfl⟩ : ∃ m', m = m' + 1 := ⟨m - 1, by omega⟩
      have hne : ¬ nI k = -9 := fun e => by
        have h1 : (0 : Int32) ≤ nI k := by rw [show (0 : Int32) = nI 0 from rfl, nI_lei (by omega) (by omega)]; omega
        rw [e] at h1
        exact absurd h1 (by decide)
      simp only [Option.bind_some, f_X11_judge_64, nI_1, if_true]
      rw [f_X11_judge_16, hS.i S _ rfl, h8]
      simp only [Option.bind_some]
      rw [if_neg hne, ite_self, f_X11_judge_70, hS.p S _ _ rfl, jdg, if_neg hc]
      rfl
theorem X12_jud24 {n s : Nat} (hs : s ≤ 8) : ∀ (c fuel k : Nat) (S : Mm), ModZ S.2 → Bd (mV S) n → k + c = s → c + 1 < fuel → ∃ S', f_X12_judge_24 fuel S 33 (nI s) (-9) (nI k) = f_X12_judge_83 S' 33 (jdg (mI S 54) c k (mV S)) ∧ Ag [41, 42] S S' := by
  intro c
  induction c with
  | zero =>
    intro fuel k S hM hB hk hf
    obtain ⟨m, rfl⟩ : ∃ m, fuel = m + 1 := ⟨fuel - 1, by omega⟩
    refine ⟨S, ?_, Ag.rf⟩
    rw [f_X12_judge_24, if_pos (by rw [nI_lei (by omega) (by omega)]; omega)]
    rfl
  | succ c ih =>
    intro fuel k S hM hB hk hf
    obtain ⟨m, rfl⟩ : ∃ m, fuel = m + 1 := ⟨fuel - 1, by omega⟩
    rw [f_X12_judge_24, if_neg (by rw [nI_lei (by omega) (by omega)]; omega), if_neg (by decide)]
    simp only [hM.g35 S rfl, Option.bind_some, hM.a54.ld S k rfl (show k < 8 by omega)]
    obtain ⟨t0, t1⟩ := X12_isSold hM hB (mI S 54 k / 100) (d2 (mI S 54 k)) (d3 (mI S 54 k))
    by_cases hc : okT (mV S) (mI S 54 k / 100) (d2 (mI S 54 k)) (d3 (mI S 54 k)) = true
    · obtain ⟨S1, e1, e2, e3⟩ := t1 hc
      obtain ⟨S2, b1, b2⟩ := ih m (k + 1) S1 (by rw [e2.1]; exact hM) (by rw [e3]; exact hB.ok hc) (by omega) (by omega)
      refine ⟨S2, ?_, e2.tr b2⟩
      rw [show (mI S 54 k / 10 - mI S 54 k / 10 / 10 * 10) = d2 (mI S 54 k) from rfl, show (mI S 54 k - mI S 54 k / 10 * 10) = d3 (mI S 54 k) from rfl, e1]
      simp only [Option.bind_some, f_X12_judge_76, nI_1]
      rw [if_neg (by decide), b1, e3, e2.2 54 (by simp), jdg, if_pos hc]
    · rw [show (mI S 54 k / 10 - mI S 54 k / 10 / 10 * 10) = d2 (mI S 54 k) from rfl, show (mI S 54 k - mI S 54 k / 10 * 10) = d3 (mI S 54 k) from rfl, t0 (by rwa [Bool.not_eq_true] at hc)]
      refine ⟨S, ?_, Ag.rf⟩
      obtain ⟨m', rfl⟩ : ∃ m', m = m' + 1 := ⟨m - 1, by omega⟩
      have h1 : (0 : Int32) ≤ nI k := by rw [show (0 : Int32) = nI 0 from rfl, nI_lei (by omega) (by omega)]; omega
      simp only [Option.bind_some, f_X12_judge_76, nI_1, if_true]
      rw [f_X12_judge_24, if_pos h1, ite_self, jdg, if_neg hc]
set_option maxRecDepth 100000 in
theorem st_23 {j : Nat} {S : Mm} (hI : Inv j S) : ∃ S', ls_23 0 33 S = some S' ∧ Inv (j + 1) S' := by
  unfold ls_23
  obtain ⟨hS, hHs, hv, hb, hi, hl, hr, hf⟩ := id hI
  obtain ⟨⟨n, hB⟩, -, -⟩ := hb
  obtain ⟨s, r1, r2, r3, r4⟩ := hr
  have x55 : 55 ≤ mX S := hS.nf.1
  obtain ⟨S1, a1, a2, a3, a4, a5⟩ := X6_copyFrom (D := 9) (L := 1) (S := S) (by omega) (by omega) (by omega) hS.nf hS.l9 hS.l1 hHs.1
  have hS1 : Sh S1.2 := hS.x a2.1 (by simp)
  obtain ⟨S2, b1, b2⟩ := X11_jud16 (n := n) r1 s FU 0 S1 hS1 a3 (by rw [a4, hv]; exact hB) (by rw [a2.2 0 (by omega) (by simp)]; exact r2) (by omega) (by show s + 1 < 3000; omega)
  rw [a4, hv, a2.2 31 (by omega) (by simp)] at b1
  have z2 : S2.2 = S1.2 := b2.1
  have hG : Gx [9, 11, 12, 13, 15] [10] S S2 := (a2.mono (by simp +contextual) (by simp)).tr (Gx.ag (b2.mono (by simp +contextual)))
  have hG' : Gx [9, 11, 12, 13, 15] [10] (sI (sI S 0 8 0) 33 36 0) (sI (sI S2 0 8 0) 33 36 0) := hG.both.both
  have hM2 : ModZ (sI S2 0 8 0).2 := by show ModZ S2.2; rw [z2]; exact hS1.m
  obtain ⟨T, hT⟩ : ∃ T, T = sI (m15 (sI S2 0 8 0)) 33 36 0 := ⟨_, rfl⟩
  have hMT : ModZ T.2 := by rw [hT]; exact hM2
  have vT : mV T = mV S := by rw [hT, mV_o (by omega), m15_mV, mV_o (by omega)]; exact mV_x hG hS.nf (by simp)
  obtain ⟨O1, e1, e2, e3, e4, e5, -⟩ := X12_open hMT
  rw [vT] at e4 e5
  obtain ⟨O2, f1, f2⟩ := X12_jud24 (n := n) r1 s FU 0 O1 e2 (by rw [e4]; exact hB) (by omega) (by show s + 1 < 3000; omega)
  have e54 : mI O1 54 = mI S 54 := by
    rw [e3.2.1 54 (by omega) (by omega), hT]
    have : Ag [0, 33] S2 (sI (m15 (sI S2 0 8 0)) 33 36 0) := ((Ag.sI (by simp)).tr (Ag.m15 (by simp))).sIt (by simp)
    rw [this.2 54 (by simp), hG.2 54 (by omega) (by simp)]
  rw [e4, e54, ← jdg_c (rw := mI S 31) (s := s) (fun k hk => (r4 k hk).1) s 0 (mV S) (by omega)] at f1
  have hO2 : ModZ O2.2 := by rw [f2.1]; exact e2
  obtain ⟨O3, g1, g2, g3, g4, -⟩ := X12_close hO2
  have mf0 : Mf (sI (sI S2 0 8 0) 33 36 0) T := by
    rw [hT]
    refine ⟨Zeq.rf, fun a ha hb => ?_, by simp [mI_s, m15], by simp [mI_s, m15], by simp [mI_s]⟩
    funext k
    have h33 : a ≠ 33 := by omega
    simp only [mI_s, m15, h33, false_and, if_false]
  refine ⟨O3, two (g := fun T => f_X12_judge T 33) (v := jdg (mI S 31) s 0 (mV S)) (S1 := sI S2 0 8 0) (S2 := O3) ?_ ?_, hI.row0.md hG' (by simp) (by show HsZ S2.2 9; rw [z2]; exact a3) ((mf0.tr e3).tr ((Mf.ag (js := []) f2 (O33.ag f2 (by simp)) (by simp) (by simp)).tr g3)) ?_⟩
  · simp only [f_X11_judge, hS.o S rfl, if_true, hS.g1 S rfl, hS.g0 S rfl, Option.bind_some, a1]
    exact b1
  · have k36 : mI (m15 (sI S2 0 8 0)) 33 36 = nI s := by
      simp only [m15, mI_s]
      rw [if_neg (by omega), if_neg (by omega), hG.2 33 (by omega) (by simp)]
      exact r3
    simp only [f_X12_judge, hM2.o _ rfl, if_true, hM2.q, Option.bind_some, hM2.u.i _ _ rfl, k36, hM2.u.p _ _ _ rfl]
    rw [← hT, e1]
    simp only [Option.bind_some]
    refine f1.trans ?_
    rw [f_X12_judge_83, g1]
    rfl
  · rw [g4, f2.2 47 (by simp), e5, mV_o (by omega), mV_o (by omega)]
