/-! weeks in mind: what they come to -/
def runV (n : Nat) : Nat → Vw → Vw
  | 0, V => V
  | c + 1, V => runV n c (weekV n V)
def runS (n : Nat) : Nat → Vw → (Nat → Int32) → Nat → Int32
  | 0, _, s => s
  | c + 1, V, s => runS n c (weekV n V) (weekU n V s 0).2.1
def runT (n : Nat) : Nat → Vw → Int32 → Int32
  | 0, _, t => t
  | c + 1, V, t => runT n c (weekV n V) (t + (weekU n V (fun _ => 0) 0).2.2.1)
def runK (n : Nat) : Nat → Vw → Int32 → Int32
  | 0, _, k => k
  | c + 1, V, _ => runK n c (weekV n V) (weekU n V (fun _ => 0) 0).2.2.2
theorem runV_ok {n : Nat} : ∀ (c : Nat) (V : Vw), Bd V n → Bd (runV n c V) n
  | 0, _, h => h
  | c + 1, V, h => runV_ok c (weekV n V) (weekV_ok h)
theorem runS_s {n : Nat} : ∀ (c : Nat) (V : Vw) (s s' : Nat → Int32), (∀ i, i < 6 → s i = s' i) → ∀ i, i < 6 → runS n c V s i = runS n c V s' i
  | 0, _, _, _, h => h
  | c + 1, V, s, s', h => runS_s c (weekV n V) _ _ (weekU_s h)
theorem useS_sf : ∀ (c h : Nat) (V : Vw) (s : Nat → Int32) (t t' k k' : Int32), (useS c h (V, s, t, k)).2.1 = (useS c h (V, s, t', k')).2.1
  | 0, _, _, _, _, _, _, _ => rfl
  | c + 1, h, V, s, t, t', k, k' => useS_sf c (h + 1) (use1 V h) _ _ _ _ _
theorem weekU_sf {n : Nat} {V : Vw} {s : Nat → Int32} {t : Int32} : (weekU n V s t).2.1 = (weekU n V s 0).2.1 := useS_sf _ _ _ _ _ _ _ _
theorem runV_add {n : Nat} : ∀ (c d : Nat) (V : Vw), runV n (c + d) V = runV n d (runV n c V)
  | 0, d, V => by rw [Nat.zero_add]; rfl
  | c + 1, d, V => by rw [show c + 1 + d = (c + d) + 1 by omega]; exact runV_add c d (weekV n V)
theorem runT_add {n : Nat} : ∀ (c d : Nat) (V : Vw) (t : Int32), runT n (c + d) V t = runT n d (runV n c V) (runT n c V t)
  | 0, d, V, t => by rw [Nat.zero_add]; rfl
  | c + 1, d, V, t => by rw [show c + 1 + d = (c + d) + 1 by omega]; exact runT_add c d (weekV n V) _
theorem runT_t {n : Nat} : ∀ (c : Nat) (V : Vw) (t : Int32), runT n c V t = t + runT n c V 0
  | 0, _, t => (Int32.add_zero t).symm
  | c + 1, V, t => by
    show runT n c (weekV n V) (t + _) = t + runT n c (weekV n V) (0 + _)
    rw [runT_t c (weekV n V) (t + _), runT_t c (weekV n V) (0 + _), Int32.zero_add, Int32.add_assoc]
theorem runK_add {n : Nat} : ∀ (c d : Nat) (V : Vw) (k : Int32), runK n (c + d) V k = runK n d (runV n c V) (runK n c V k)
  | 0, d, V, k => by rw [Nat.zero_add]; rfl
  | c + 1, d, V, k => by rw [show c + 1 + d = (c + d) + 1 by omega]; exact runK_add c d (weekV n V) _
/-! the frame of the reference's work in mind -/
def Mf (S S' : Mm) : Prop := Zeq S.2 S'.2 ∧ (∀ a, a < 33 ∨ a = 45 ∨ 48 ≤ a → ¬ (50 ≤ a ∧ a ≤ 53) → mI S' a = mI S a) ∧ mI S' 33 22 = mI S 33 22 ∧ mI S' 33 27 = mI S 33 27 ∧ mI S' 33 36 = mI S 33 36
theorem Mf.rf {S : Mm} : Mf S S := ⟨Zeq.rf, fun _ _ _ => rfl, rfl, rfl, rfl⟩
theorem Mf.tr {S S1 S2 : Mm} (h1 : Mf S S1) (h2 : Mf S1 S2) : Mf S S2 := ⟨h1.1.tr h2.1, fun a ha hb => (h2.2.1 a ha hb).trans (h1.2.1 a ha hb), h2.2.2.1.trans h1.2.2.1, h2.2.2.2.1.trans h1.2.2.2.1, h2.2.2.2.2.trans h1.2.2.2.2⟩
theorem Mf.ag {cs js : List Nat} {S S' : Mm} (h : Ag cs S S') (hO : O33 js S S') (hc : ∀ c ∈ cs, (33 ≤ c ∧ c < 48 ∧ c ≠ 45) ∨ (50 ≤ c ∧ c ≤ 53)) (hj : 22 ∉ js ∧ 27 ∉ js ∧ 36 ∉ js) : Mf S S' := ⟨Zeq.of h.1, fun a ha hb => h.2 a (fun q => by have := hc a q; omega), hO _ hj.1, hO _ hj.2.1, hO _ hj.2.2⟩
theorem Mf.car {tk : Bool} {V : Vw} {f : Nat → Int32} {S S' : Mm} {p : Nat} (h : Car tk 47 V f S p S') : Mf S S' := by
  obtain ⟨hM, hZ, hr25, hA, hK, e24, e23, hF1, hF2, -, -⟩ := h
  exact ⟨hZ, fun a ha hb => hF1 a (by omega), hF2 22 (by omega) (by omega) (by omega), hF2 27 (by omega) (by omega) (by omega), hF2 36 (by omega) (by omega) (by omega)⟩
theorem Mf.sI {S : Mm} {a j : Nat} {v : Int32} (ha : (33 ≤ a ∧ a < 48 ∧ a ≠ 45) ∨ (50 ≤ a ∧ a ≤ 53)) (hj : a = 33 → j ≠ 22 ∧ j ≠ 27 ∧ j ≠ 36) : Mf S (sI S a j v) := ⟨Zeq.rf, fun b hb hc => by
  funext k
  rw [mI_s, if_neg (by omega)], by rw [mI_s, if_neg (by omega)], by rw [mI_s, if_neg (by omega)], by rw [mI_s, if_neg (by omega)]⟩
theorem Mf.gx {S S' : Mm} (h : Mf S S') : Gx [33, 34, 35, 36, 37, 38, 39, 40, 41, 42, 43, 44, 46, 47, 50, 51, 52, 53] [] S S' := ⟨Zx.zeq h.1, fun a _ hc => by
  simp only [List.mem_cons, List.not_mem_nil, or_false] at hc
  exact h.2.1 a (by omega) (by omega)⟩
/-! open, close -/
theorem X12_open11 : ∀ (c fuel k : Nat) (S : Mm), ModZ S.2 → k + c = 6 → c < fuel → (∀ i, i < k → mI S 46 i = 0) → ∃ S', f_X12_open_11 fuel S 33 (nI k) = some S' ∧ Ag [46] S S' ∧ ∀ i, i < 6 → mI S' 46 i = 0 := by
  intro c
  induction c with
  | zero =>
    intro fuel k S hM hk hf h0
    obtain ⟨m, rfl⟩ : ∃ m, fuel = m + 1 := ⟨fuel - 1, by omega⟩
    refine ⟨S, ?_, Ag.rf, fun j hj => h0 j (by omega)⟩
    rw [f_X12_open_11, if_pos (by rw [show (6 : Int32) = nI 6 from rfl, nI_lei (by omega) (by omega)]; omega)]
  | succ c ih =>
    intro fuel k S hM hk hf h0
    obtain ⟨m, rfl⟩ : ∃ m, fuel = m + 1 := ⟨fuel - 1, by omega⟩
    obtain ⟨S', e1, e2, e3⟩ := ih m (k + 1) (sI S 46 k 0) hM (by omega) (by omega) (fun j hj => by
      rw [mI_s]
      split
      · rfl
      · exact h0 j (by omega))
    refine ⟨S', ?_, (Ag.sI (by simp)).tr e2, e3⟩
    rw [f_X12_open_11, if_neg (by rw [show (6 : Int32) = nI 6 from rfl, nI_lei (by omega) (by omega)]; omega)]
    simp only [hM.g18 S rfl, Option.bind_some, hM.a46.st S k 0 rfl (show k < 6 by omega), nI_1]
    exact e1
set_option maxRecDepth 100000 in
theorem X12_open {S : Mm} (hM : ModZ S.2) : ∃ S', f_X12_open S 33 = some S' ∧ ModZ S'.2 ∧ Mf S S' ∧ mV S' = mV S ∧ kV (mI S' 47) = mV S ∧ ∀ i, i < 6 → mI S' 46 i = 0 := by
  obtain ⟨S1, a1, a2⟩ := X12_carryAll hM true (Or.inl rfl)
  obtain ⟨k1, k2⟩ := a2.kept
  have hM1 := a2.1
  obtain ⟨S2, b1, b2, b3⟩ := X12_open11 6 FU 0 S1 hM1 rfl (by show 6 < 3000; omega) (fun i hi => absurd hi (Nat.not_lt_zero _))
  refine ⟨S2, ?_, by rw [b2.1]; exact hM1, (Mf.car a2).tr (Mf.ag (js := []) b2 (O33.ag b2 (by simp)) (by simp) (by simp)), by rw [mV_ag b2 (by simp)]; exact k1, by rw [b2.2 47 (by simp)]; exact k2, b3⟩
  simp only [f_X12_open, hM.o S rfl, if_true, hM.g20 S rfl, Option.bind_some]
  rw [show (1 : Int32) = b2i true from rfl, a1]
  exact b1
theorem X12_close {S : Mm} (hM : ModZ S.2) : ∃ S', f_X12_close S 33 = some S' ∧ ModZ S'.2 ∧ Mf S S' ∧ mV S' = kV (mI S 47) ∧ mI S' 47 = mI S 47 ∧ mI S' 46 = mI S 46 ∧ mI S' 53 = mI S 53 ∧ ∀ i, 4 ≤ i → i ≠ 23 → i ≠ 24 → mI S' 33 i = mI S 33 i := by
  obtain ⟨S1, a1, a2⟩ := X12_carryAll hM false (Or.inl rfl)
  obtain ⟨k1, k2⟩ := a2.back
  obtain ⟨-, -, -, -, -, -, -, hF1, hF2, -, -⟩ := id a2
  refine ⟨S1, ?_, a2.1, Mf.car a2, k1, k2, hF1 46 (by omega), hF1 53 (by omega), hF2⟩
  simp only [f_X12_close, hM.o S rfl, if_true, hM.g20 S rfl, Option.bind_some]
  rw [show (0 : Int32) = b2i false from rfl, a1]
  rfl
theorem X12_served4 {n l : Nat} (hl : l < 2 ^ 20) : ∀ (c fuel k : Nat) (t : Int32) (S : Mm), ModZ S.2 → Bd (mV S) n → k + c = l → c < fuel → ∃ S', f_X12_servedIn_4 fuel S 33 (nI l) t (nI k) = some (runT n c (mV S) t, S') ∧ Ag [33, 41, 42, 46] S S' ∧ O33 [2, 17] S S' ∧ mV S' = runV n c (mV S) ∧ mI S' 46 = runS n c (mV S) (mI S 46) := by
  intro c
  induction c with
  | zero =>
    intro fuel k t S hM hB hk hf
    obtain ⟨m, rfl⟩ : ∃ m, fuel = m + 1 := ⟨fuel - 1, by omega⟩
    exact ⟨S, by rw [f_X12_servedIn_4, if_pos (by rw [nI_lei (by omega) (by omega)]; omega)]; rfl, Ag.rf, O33.rf, rfl, rfl⟩
  | succ c ih =>
    intro fuel k t S hM hB hk hf
    obtain ⟨m, rfl⟩ : ∃ m, fuel = m + 1 := ⟨fuel - 1, by omega⟩
    obtain ⟨S1, a1, a2, a3, a4, a5, -⟩ := X12_weekOn hM hB
    obtain ⟨S2, b1, b2, b3, b4, b5⟩ := ih m (k + 1) (t + (weekU n (mV S) (mI S 46) 0).2.2.1) S1 (by rw [a2.1]; exact hM) (by rw [a4]; exact weekV_ok hB) (by omega) (by omega)
    refine ⟨S2, ?_, a2.tr b2, a3.tr b3, by rw [b4, a4]; rfl, by rw [b5, a4, a5]; rfl⟩
    rw [f_X12_servedIn_4, if_neg (by rw [nI_lei (by omega) (by omega)]; omega), a1]
    simp only [Option.bind_some, nI_1]
    rw [b1, a4, weekU_t0 (s' := fun _ => 0)]
    rfl
theorem X12_servedIn {n l : Nat} (hl : l < 2000) {S : Mm} (hM : ModZ S.2) (hB : Bd (mV S) n) : ∃ S', f_X12_servedIn S 33 (nI l) = some (runT n l (mV S) 0, S') ∧ Ag [33, 41, 42, 46] S S' ∧ O33 [2, 17] S S' ∧ mV S' = runV n l (mV S) ∧ mI S' 46 = runS n l (mV S) (mI S 46) := by
  obtain ⟨S', h1, h2⟩ := X12_served4 (n := n) (l := l) (by omega) l FU 0 0 S hM hB (by omega) (by show l < 3000; omega)
  refine ⟨S', ?_, h2⟩
  rw [f_X12_servedIn, if_pos (hM.o S rfl)]
  exact h1
theorem Mf.sv {S S' : Mm} (h : Ag [33, 41, 42, 46] S S') (hO : O33 [2, 17] S S') : Mf S S' := Mf.ag h hO (by simp) (by simp)
/-! the class's weeks in mind -/
theorem X11_pass26 {n l Q : Nat} (hl : l < 2 ^ 20) (hQ : Q = 25 ∨ Q = 27) : ∀ (c fuel k : Nat) (S : Mm), Sh S.2 → HsZ S.2 9 → Bd (lV S 9) n → k + c = l → c < fuel → ∃ S', f_X11_passInMind_26 fuel S 0 (nI l) Q (nI k) = some S' ∧ Ag [9, 11, 12, Q, Q + 1] S S' ∧ lV S' 9 = runV n c (lV S 9) ∧ mI S' Q 0 = runT n c (lV S 9) (mI S Q 0) ∧ mI S' (Q + 1) = runS n c (lV S 9) (mI S (Q + 1)) ∧ mI S' Q 2 = runK n c (lV S 9) (mI S Q 2) := by
  intro c
  induction c with
  | zero =>
    intro fuel k S hS hH hB hk hf
    obtain ⟨m, rfl⟩ : ∃ m, fuel = m + 1 := ⟨fuel - 1, by omega⟩
    exact ⟨S, by rw [f_X11_passInMind_26, if_pos (by rw [nI_lei (by omega) (by omega)]; omega)], Ag.rf, rfl, rfl, rfl, rfl⟩
  | succ c ih =>
    intro fuel k S hS hH hB hk hf
    obtain ⟨m, rfl⟩ : ∃ m, fuel = m + 1 := ⟨fuel - 1, by omega⟩
    have hT : TalZ S.2 Q := by
      rcases hQ with rfl | rfl
      · exact hS.t25
      · exact hS.t27
    obtain ⟨S1, a1, a2, a3, a4, a5, -, a6⟩ := X6_passWeek (L := 9) (Q := Q) (n := n) (by unfold apartQ; omega) hS.l9 hH hT hB
    obtain ⟨S2, b1, b2, b3, b4, b5, b6⟩ := ih m (k + 1) S1 (by rw [a2.1]; exact hS) (by rw [a2.1]; exact hH) (by rw [a3]; exact weekV_ok hB) (by omega) (by omega)
    refine ⟨S2, ?_, a2.tr b2, by rw [b3, a3]; rfl, ?_, ?_, ?_⟩
    · rw [f_X11_passInMind_26, if_neg (by rw [nI_lei (by omega) (by omega)]; omega)]
      simp only [hS.g1 S rfl, Option.bind_some, a1, nI_1]
      exact b1
    · rw [b4, a3, a5, weekU_t (s' := fun _ => 0)]; rfl
    · rw [b5, a3, a4, weekU_sf]; rfl
    · rw [b6, a3, a6, weekU_k (s' := fun _ => 0) (t' := 0)]; rfl
theorem u2_self {V : Vw} {r k : Nat} : u2 V r k (V r k) = V := by
  funext a b
  unfold u2
  split
  · next h => rw [h.1, h.2]
  · rfl
set_option maxRecDepth 100000 in
theorem X11_passInMind {n l Q q : Nat} {S : Mm} (hl : l < 2000) (hQ : Q = 25 ∨ Q = 27) (hS : Sh S.2) (hHs : Hss S.2) (hB : Bd (lV S 1) n) (hq : q < 3) : ∃ S', f_X11_passInMind S 0 (nI l) (nI q) Q = some S' ∧ Gx [9, 11, 12, 13, 15, Q, Q + 1] [10] S S' ∧ HsZ S'.2 9 ∧ S'.2.2 = S.2.2 ∧ lV S' 9 = runV n l (u2 (lV S 1) 0 1 (nI q)) ∧ mI S' Q 0 = runT n l (u2 (lV S 1) 0 1 (nI q)) 0 ∧ (∀ i, i < 6 → mI S' (Q + 1) i = runS n l (u2 (lV S 1) 0 1 (nI q)) (fun _ => 0) i) ∧ mI S' Q 2 = runK n l (u2 (lV S 1) 0 1 (nI q)) 0 := by
  obtain ⟨S1, a1, a2, a3, a4, a5⟩ := X6_copyFrom (D := 9) (L := 1) (S := S) (by omega) (by omega) (by omega) hS.nf hS.l9 hS.l1 hHs.1
  have hS1 : Sh S1.2 := hS.x a2.1 (by simp)
  obtain ⟨S2, hS2⟩ : ∃ S2, S2 = sI S1 9 6 (nI q) := ⟨_, rfl⟩
  have z2 : S2.2 = S1.2 := by rw [hS2]; rfl
  have v2 : lV S2 9 = u2 (lV S 1) 0 1 (nI q) := by rw [hS2, ls0 (j := 6) (k0 := 1) hS1.l9 a3 (by omega) rfl, a4]
  have hT : TalZ S2.2 Q := by
    rw [z2]
    rcases hQ with rfl | rfl
    · exact hS1.t25
    · exact hS1.t27
  obtain ⟨S3, b1, b2, b3, b4, -, b5⟩ := X9_clear hT
  have z3 : S3.2 = S1.2 := b2.1.trans z2
  have v3 : lV S3 9 = u2 (lV S 1) 0 1 (nI q) := by
    rw [lV_ag b2 (by rw [z2]; exact a3) (fun c hc => ?_), v2]
    simp only [List.mem_cons, List.not_mem_nil, or_false] at hc
    refine ⟨fun p => ?_, ?_⟩
    · simp only [lcell, List.mem_cons, List.not_mem_nil, or_false] at p
      omega
    · rw [z2]
      exact hS1.nf.2 c (by omega) (by omega) (by omega) (by omega)
  have hB3 : Bd (lV S3 9) n := by rw [v3]; exact hB.u01 hq
  obtain ⟨S4, d1, d2, d3, d4, d5, d6⟩ := X11_pass26 (n := n) (l := l) (by omega) hQ l FU 0 S3 (by rw [z3]; exact hS1) (by rw [z3]; exact a3) hB3 (by omega) (by show l < 3000; omega)
  rw [v3] at d3 d4 d5 d6
  have z4 : S4.2 = S1.2 := d2.1.trans z3
  have hA : Ag [9, 11, 12, 13, 15, Q, Q + 1] S1 S4 := by
    refine Ag.tr (S1 := S2) ?_ (Ag.tr (b2.mono (by simp +contextual)) (d2.mono (by simp +contextual)))
    rw [hS2]
    exact Ag.sI (by simp)
  refine ⟨S4, ?_, (a2.mono (by simp +contextual) (by simp)).tr (Gx.ag hA), by rw [z4]; exact a3, by rw [z4]; exact a5, d3, by rw [d4, b4], fun i hi => ?_, by rw [d6, b5]⟩
  · simp only [f_X11_passInMind, hS.o S rfl, if_true, hS.g1 S rfl, hS.g0 S rfl, Option.bind_some, a1, hS1.g1 S1 rfl, hS1.l9.p S1 _ _ rfl]
    rw [← hS2, b1]
    exact d1
  · rw [d5]
    exact runS_s l _ _ _ b3 i hi
