/-! stuck -/
def hbV (V : Vw) (h g : Nat) : Nat → Nat → Bool
  | 0, _ => false
  | c + 1, i => (wantV V i g && lawV V h i) || hbV V h g c (i + 1)
def stT (V : Vw) (n h g : Nat) : Int32 := if (!wantV V h g && !hbV V h g n 0) = true then V 9 (3 * h + g) else 0
theorem dyW' {S : Mm} {L h g : Nat} (hH : HsZ S.2 L) (hh : h < 6) : dy_wantsSome S (hrf S.2 L h) (nI g) = some (b2i (wantV (lV S L) h g), S) := by
  rw [dyW (okF_h hH hh), lv6 hh, lv7 hh]
  rfl
theorem X10_buyer2 {S : Mm} {L n h g : Nat} (hL : LandZ S.2 L) (hH : HsZ S.2 L) (hB : Bd (lV S L) n) (hh : h < 6) : ∀ (c fuel i : Nat), i + c = n → c < fuel → f_X10_hasBuyer_2 fuel S L (nI h) (nI g) (nI i) = some (b2i (hbV (lV S L) h g c i), S) := by
  have h6 := hB.le
  intro c
  induction c with
  | zero =>
    intro fuel i hi hf
    obtain ⟨m, rfl⟩ : ∃ m, fuel = m + 1 := ⟨fuel - 1, by omega⟩
    rw [f_X10_hasBuyer_2, hL.i S _ rfl, lv0, hB.sz]
    simp only [Option.bind_some]
    rw [if_pos (by rw [nI_lei (by omega) (by omega)]; omega)]
    rfl
  | succ c ih =>
    intro fuel i hi hf
    obtain ⟨m, rfl⟩ : ∃ m, fuel = m + 1 := ⟨fuel - 1, by omega⟩
    have hi6 : i < 6 := by omega
    rw [f_X10_hasBuyer_2, hL.i S _ rfl, lv0, hB.sz]
    simp only [Option.bind_some]
    rw [if_neg (by rw [nI_lei (by omega) (by omega)]; omega)]
    simp only [hL.g0 S rfl, Option.bind_some, hL.hr hH hi6, dyW' hH hi6, X6_isLawful hL hH hh hi6, f_X10_hasBuyer_34, nI_1, b2i_0, hbV, ih m (i + 1) (by omega) (by omega)]
    cases wantV (lV S L) i g
    · simp
    · cases lawV (lV S L) h i <;> simp [b2i]
theorem X10_stuck4 {S : Mm} {L n g : Nat} (hL : LandZ S.2 L) (hH : HsZ S.2 L) (hB : Bd (lV S L) n) (hg : g < 3) : ∀ (c fuel h : Nat) (t : Int32), h + c = n → c < fuel → f_X10_stuckOf_4 fuel S L (nI g) t (nI h) = some (sm (fun h => stT (lV S L) n h g) c h t, S) := by
  have h6 := hB.le
  intro c
  induction c with
  | zero =>
    intro fuel h t hi hf
    obtain ⟨m, rfl⟩ : ∃ m, fuel = m + 1 := ⟨fuel - 1, by omega⟩
    rw [f_X10_stuckOf_4, hL.i S _ rfl, lv0, hB.sz]
    simp only [Option.bind_some]
    rw [if_pos (by rw [nI_lei (by omega) (by omega)]; omega)]
    rfl
  | succ c ih =>
    intro fuel h t hi hf
    obtain ⟨m, rfl⟩ : ∃ m, fuel = m + 1 := ⟨fuel - 1, by omega⟩
    have hh : h < 6 := by omega
    have hk : 3 * h + g < 18 := by omega
    have hb : f_X10_hasBuyer S L (nI h) (nI g) = some (b2i (hbV (lV S L) h g n 0), S) := X10_buyer2 hL hH hB hh n FU 0 (by omega) (by show n < 3000; omega)
    rw [f_X10_stuckOf_4, hL.i S _ rfl, lv0, hB.sz]
    simp only [Option.bind_some]
    rw [if_neg (by rw [nI_lei (by omega) (by omega)]; omega)]
    simp only [hL.g0 S rfl, Option.bind_some, hL.hr hH hh, dyW' hH hh, hb, X6_piecesOf hL hk, lv9 hk, f_X10_stuckOf_43, nI_1, b2i_0]
    show _ = some (sm (fun h => stT (lV S L) n h g) c (h + 1) (t + stT (lV S L) n h g), S)
    unfold stT
    cases wantV (lV S L) h g
    · cases hbV (lV S L) h g n 0
      · simp only [if_true, Bool.not_false, Bool.and_self]
        exact ih m (h + 1) _ (by omega) (by omega)
      · simp only [if_true, Bool.not_false, Bool.not_true, Bool.and_false, Bool.true_eq_false, Bool.false_eq_true, if_false, Int32.add_zero]
        exact ih m (h + 1) _ (by omega) (by omega)
    · simp only [Bool.not_true, Bool.false_and, Bool.true_eq_false, Bool.false_eq_true, if_false, Int32.add_zero]
      exact ih m (h + 1) _ (by omega) (by omega)
theorem X10_stuckOf {S : Mm} {L n g : Nat} (hL : LandZ S.2 L) (hH : HsZ S.2 L) (hB : Bd (lV S L) n) (hg : g < 3) : f_X10_stuckOf S L (nI g) = some (sm (fun h => stT (lV S L) n h g) n 0 0, S) := X10_stuck4 hL hH hB hg n FU 0 0 (by omega) (by have := hB.le; show n < 3000; omega)
theorem dm3 : ∀ i, i < 18 → nI i / 3 = nI (i / 3) ∧ nI i - nI i / 3 * 3 = nI (i % 3) := by decide
theorem X12_st48 {S : Mm} {n h g : Nat} (hM : ModZ S.2) (hB : Bd (mV S) n) (hh : h < 6) (k9 : Mm → Nat → Int32 → Int32 → Option (Int32 × Mm)) (l1 l2 : Int32) : ∀ (c fuel i : Nat) (b : Bool), i + c = n → c < fuel → f_X12_stuck_48 k9 fuel S 33 l1 l2 (nI h) (nI g) (b2i b) (nI i) = f_X12_stuck_96 k9 S 33 l1 l2 (b2i (b && !hbV (mV S) h g c i)) := by
  have h6 := hB.le
  obtain ⟨q, q3, hq⟩ := hB.lw
  intro c
  induction c with
  | zero =>
    intro fuel i b hi hf
    obtain ⟨m, rfl⟩ : ∃ m, fuel = m + 1 := ⟨fuel - 1, by omega⟩
    rw [f_X12_stuck_48, hM.i S _ rfl, mv0, hB.sz]
    simp only [Option.bind_some]
    rw [if_pos (by rw [nI_lei (by omega) (by omega)]; omega), hbV, Bool.not_false, Bool.and_true]
  | succ c ih =>
    intro fuel i b hi hf
    obtain ⟨m, rfl⟩ : ∃ m, fuel = m + 1 := ⟨fuel - 1, by omega⟩
    have hi6 : i < 6 := by omega
    rw [f_X12_stuck_48, hM.i S _ rfl, mv0, hB.sz]
    simp only [Option.bind_some]
    rw [if_neg (by rw [nI_lei (by omega) (by omega)]; omega)]
    have i1 := ih m (i + 1) true (by omega) (by omega)
    have i0 := ih m (i + 1) false (by omega) (by omega)
    rw [b2i_t] at i1
    rw [b2i_f] at i0
    cases b
    · simp only [b2i_0, if_true, Bool.false_and]
    · simp only [b2i_0, Bool.true_eq_false, if_false, X12_wants hM hi6, Option.bind_some, X12_isLawful hM hq q3 hh hi6, f_X12_stuck_83, f_X12_stuck_88, nI_1, hbV, i1, i0]
      cases wantV (mV S) i g
      · simp
      · cases lawV (mV S) h i <;> simp
theorem X12_st9 {S : Mm} {n : Nat} (hM : ModZ S.2) (hB : Bd (mV S) n) : ∀ (c fuel i : Nat) (t : Int32), i + c = 3 * n → c < fuel → f_X12_stuck_9 fuel S 33 t (nI i) = some (sm (fun i => stT (mV S) n (i / 3) (i % 3)) c i t, S) := by
  have h6 := hB.le
  intro c
  induction c with
  | zero =>
    intro fuel i t hi hf
    obtain ⟨m, rfl⟩ : ∃ m, fuel = m + 1 := ⟨fuel - 1, by omega⟩
    rw [f_X12_stuck_9, hM.i S _ rfl, mv0, hB.sz]
    simp only [Option.bind_some, nI3]
    rw [if_pos (by rw [nI_lei (by omega) (by omega)]; omega)]
    rfl
  | succ c ih =>
    intro fuel i t hi hf
    obtain ⟨m, rfl⟩ : ∃ m, fuel = m + 1 := ⟨fuel - 1, by omega⟩
    have hh : i / 3 < 6 := by omega
    have hk : i < 18 := by omega
    obtain ⟨e1, e2⟩ := dm3 i hk
    rw [f_X12_stuck_9, hM.i S _ rfl, mv0, hB.sz]
    simp only [Option.bind_some, nI3]
    rw [if_neg (by rw [nI_lei (by omega) (by omega)]; omega), e2, e1, X12_wants hM hh]
    have j1 := X12_st48 (g := i % 3) hM hB hh (f_X12_stuck_9 m) t (nI i) n FU 0 true (by omega) (by show n < 3000; omega)
    have j0 := X12_st48 (g := i % 3) hM hB hh (f_X12_stuck_9 m) t (nI i) n FU 0 false (by omega) (by show n < 3000; omega)
    rw [b2i_t, show nI 0 = (0 : Int32) from rfl] at j1
    rw [b2i_f, show nI 0 = (0 : Int32) from rfl] at j0
    simp only [Option.bind_some, f_X12_stuck_43, j1, j0, b2i_0, f_X12_stuck_96, f_X12_stuck_112, hM.g12 S rfl, hM.a42.ld S i rfl hk, mv9 hk, nI_1]
    show _ = some (sm (fun i => stT (mV S) n (i / 3) (i % 3)) c (i + 1) (t + stT (mV S) n (i / 3) (i % 3)), S)
    have est : stT (mV S) n (i / 3) (i % 3) = if (!wantV (mV S) (i / 3) (i % 3) && !hbV (mV S) (i / 3) (i % 3) n 0) = true then mV S 9 i else 0 := by
      unfold stT
      rw [show 3 * (i / 3) + i % 3 = i by omega]
    rw [est]
    cases wantV (mV S) (i / 3) (i % 3)
    · cases hbV (mV S) (i / 3) (i % 3) n 0
      · simp
        exact ih m (i + 1) _ (by omega) (by omega)
      · simp
        exact ih m (i + 1) _ (by omega) (by omega)
    · simp
      exact ih m (i + 1) _ (by omega) (by omega)
theorem sm_last {f : Nat → Int32} {c : Nat} {a : Int32} : sm f (c + 1) 0 a = sm f c 0 a + f c := by
  rw [sm_add c 1, Nat.zero_add]
  rfl
theorem sm3 (T : Nat → Nat → Int32) : ∀ n : Nat, sm (fun i => T (i / 3) (i % 3)) (3 * n) 0 0 = sm (fun h => T h 0) n 0 0 + sm (fun h => T h 1) n 0 0 + sm (fun h => T h 2) n 0 0
  | 0 => rfl
  | n + 1 => by
    rw [show 3 * (n + 1) = 3 * n + 1 + 1 + 1 by omega, sm_last, sm_last, sm_last, sm3 T n, sm_last, sm_last, sm_last]
    rw [show (3 * n + 1 + 1) / 3 = n by omega, show (3 * n + 1) / 3 = n by omega, show 3 * n / 3 = n by omega, show (3 * n + 1 + 1) % 3 = 2 by omega, show (3 * n + 1) % 3 = 1 by omega, show 3 * n % 3 = 0 by omega]
    ac_rfl
set_option maxRecDepth 100000 in
theorem st_15 {j : Nat} {S : Mm} (hI : Inv j S) : ∃ S', ls_15 0 33 S = some S' ∧ Inv (j + 1) S' := by
  unfold ls_15
  have hS := hI.1
  have hv := hI.2.2.1
  have hH := hI.2.1.1
  obtain ⟨⟨n, hB⟩, ⟨w, w1, w2⟩, ⟨m, m1, m2⟩⟩ := hI.2.2.2.1
  have hM := hS.m
  have h6 := hB.le
  have eM := m15_mV S
  have hMk : ∀ k, ModZ (rfC S k).2 := fun k => hS.m
  have eMk : ∀ k, mV (m15 (rfC S k)) = mV S := fun k => by rw [m15_mV, rfC_mV]
  have hz : mV (m15 S) 0 0 = nI n := by rw [eM]; exact hB.sz
  have hzk : ∀ k, mV (m15 (rfC S k)) 0 0 = nI n := fun k => by rw [eMk]; exact hB.sz
  have qt : Inv (j + 1) (m15 S) := hI.qt (cs := [33]) (ws := []) (Gx.ag (Ag.m15 (by simp))) (by simp) (by unfold Fre; decide) (by decide) rfl rfl rfl hI.2.1.2.1 eM
  refine ⟨_, two (g := fun T => f_X12_stuck T 33) (v := sm (fun i => stT (mV S) n (i / 3) (i % 3)) (3 * n) 0 0) (S1 := S) (S2 := m15 S) ?_ ?_, qt⟩
  · have hB1 : Bd (lV S 1) n := by rw [hv]; exact hB
    have k0 := X10_stuckOf (g := 0) hS.l1 hH hB1 (by omega)
    have k1 := X10_stuckOf (g := 1) hS.l1 hH hB1 (by omega)
    have k2 := X10_stuckOf (g := 2) hS.l1 hH hB1 (by omega)
    rw [hv] at k0 k1 k2
    rw [f_X11_stuck, if_pos (hS.o S rfl), show FU = 2996 + 1 + 1 + 1 + 1 from rfl, f_X11_stuck_4, if_neg (by decide), hS.g0 S rfl]
    simp only [Option.bind_some]
    rw [show (0 : Int32) = nI 0 from rfl, k0]
    simp only [Option.bind_some]
    rw [f_X11_stuck_4, if_neg (by decide), hS.g0 S rfl]
    simp only [Option.bind_some]
    rw [show nI 0 + 1 = nI 1 from rfl, k1]
    simp only [Option.bind_some]
    rw [f_X11_stuck_4, if_neg (by decide), hS.g0 S rfl]
    simp only [Option.bind_some]
    rw [show nI 1 + 1 = nI 2 from rfl, k2]
    simp only [Option.bind_some]
    rw [f_X11_stuck_4, if_pos (by decide), show nI 0 = (0 : Int32) from rfl, Int32.zero_add, sm3 (fun h g => stT (mV S) n h g)]
  · rw [f_X12_stuck, if_pos (hM.o S rfl), hM.q]
    simp only [Option.bind_some]
    have := X12_st9 hM.u (by rw [eM]; exact hB) (3 * n) FU 0 0 (by omega) (by show 3 * n < 3000; omega)
    rw [eM] at this
    exact this
