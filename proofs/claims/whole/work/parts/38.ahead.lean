/-! calls that look ahead -/
def MC : List Nat := [33, 34, 35, 36, 37, 38, 39, 40, 41, 42, 43, 44, 46, 47, 50, 51, 52, 53]
theorem Inv.md {cs : List Nat} {j : Nat} {S S1 S2 : Mm} (hI : Inv j S) (hG : Gx cs [10] S S1) (hc : ∀ c ∈ cs, c = 9 ∨ c = 11 ∨ c = 12 ∨ c = 13 ∨ c = 15 ∨ (25 ≤ c ∧ c ≤ 28)) (hH9 : HsZ S1.2 9) (hM : Mf S1 S2) (e : mV S2 = mV S) : Inv (j + 1) S2 := by
  have h33 : mI S1 33 = mI S 33 := hG.2 33 (by have : 55 ≤ mX S := hI.1.nf.1; omega) (fun q => by have := hc _ q; omega)
  have hG2 : Gx (cs ++ MC) [10] S S2 := (hG.mono (by simp +contextual) (by simp)).tr (hM.gx.mono (by simp +contextual [MC]) (by simp))
  have hS1 : Sh S1.2 := hI.1.x hG.1 (by simp)
  refine hI.qt hG2 (by simp) (fun c q => ?_) (fun c q p => ?_) (by rw [hM.2.2.1, h33]) (by rw [hM.2.2.2.1, h33]) (by rw [hM.2.2.2.2, h33]) (hH9.z hM.1 (by omega)) e
  · rcases List.mem_append.mp q with q | q
    · have := hc c q
      omega
    · simp only [MC, List.mem_cons, List.not_mem_nil, or_false] at q
      omega
  · simp only [lcell, List.mem_cons, List.not_mem_nil, or_false] at p
    rcases List.mem_append.mp q with q | q
    · have := hc c q
      omega
    · simp only [MC, List.mem_cons, List.not_mem_nil, or_false] at q
      omega
theorem Mf.m15 {S : Mm} : Mf S (m15 S) := Mf.sI (Or.inl (by omega)) (fun _ => by omega)
theorem X12_mind {n l : Nat} {T : Mm} (hl : l < 2000) (hM : ModZ T.2) (hB : Bd (mV T) n) : ∃ O1 O2 O3, f_X12_open T 33 = some O1 ∧ f_X12_servedIn O1 33 (nI l) = some (runT n l (mV T) 0, O2) ∧ f_X12_close O2 33 = some O3 ∧ ModZ O2.2 ∧ mV O2 = runV n l (mV T) ∧ (∀ i, i < 6 → mI O2 46 i = runS n l (mV T) (fun _ => 0) i) ∧ Mf T O3 ∧ mV O3 = mV T ∧ ModZ O3.2 := by
  obtain ⟨O1, a1, a2, a3, a4, a5, a6⟩ := X12_open hM
  obtain ⟨O2, b1, b2, b3, b4, b5⟩ := X12_servedIn (l := l) hl a2 (by rw [a4]; exact hB)
  have hM2 : ModZ O2.2 := by rw [b2.1]; exact a2
  obtain ⟨O3, c1, c2, c3, c4, -⟩ := X12_close hM2
  rw [a4] at b1 b4 b5
  refine ⟨O1, O2, O3, a1, b1, c1, hM2, b4, fun i hi => ?_, (a3.tr (Mf.sv b2 b3)).tr c3, ?_, c2⟩
  · rw [b5]
    exact runS_s l _ _ _ a6 i hi
  · rw [c4, b2.2 47 (by simp), a5]
theorem in1 (x : Int32) : (decide ((0 : Int64) ≤ x.toInt64) && decide (x.toInt64 ≤ 1)) = (decide (0 ≤ x) && decide (x ≤ 1)) := by
  rw [show (0 : Int64) = (0 : Int32).toInt64 from rfl, show (1 : Int64) = (1 : Int32).toInt64 from rfl]
  simp only [i64_le]
/-! behind -/
set_option maxRecDepth 100000 in
theorem st_12 {j : Nat} {S : Mm} (hI : Inv j S) (x y : Int32) : ∃ S', ls_12 0 33 S x y = some S' ∧ Inv (j + 1) S' := by
  unfold ls_12
  have hS := hI.1
  have hv := hI.2.2.1
  have hH := hI.2.1.1
  obtain ⟨⟨n, hB⟩, ⟨w, w1, w2⟩, ⟨m, m1, m2⟩⟩ := hI.2.2.2.1
  have hM := hS.m
  have h6 := hB.le
  have eM := m15_mV S
  have hMk : ∀ k, ModZ (rfC S k).2 := fun k => hS.m
  have eMk : ∀ k, mV (m15 (rfC S k)) = mV S := fun k => by rw [m15_mV, rfC_mV]
  have hz : mV (m15 S) 0 0 = nI n := by rw [eM]; exact hB.sz
  have hzk : ∀ k, mV (m15 (rfC S k)) 0 0 = nI n := fun k => by rw [eMk]; exact hB.sz
  have qt : Inv (j + 1) (m15 S) := hI.qt (cs := [33]) (ws := []) (Gx.ag (Ag.m15 (by simp))) (by simp) (by unfold Fre; decide) (by decide) rfl rfl rfl hI.2.1.2.1 eM
  have ref : ∀ (k : Nat) (c : Int32), k < 7 → f_X11_behind S 0 x y = some (c, rfC S k) → f_X12_behind (rfC S k) 33 x y = some (c, rfM (m15 (rfC S k)) k) → ∃ S', ((f_X11_behind S 0 x y).bind fun q => (f_X12_behind q.2 33 x y).bind fun r => if q.1 = r.1 then some r.2 else none) = some S' ∧ Inv (j + 1) S' := fun k c hk h1 h2 => ⟨_, two (g := fun T => f_X12_behind T 33 x y) h1 h2, hI.rf hk⟩
  by_cases hh : hasV (mV S) x = true
  · obtain ⟨a, a1, rfl⟩ := hasV_n hB.sz hB.le hh
    have ha : a < 6 := by omega
    by_cases h0 : 0 ≤ y
    · by_cases h9 : y ≤ 60
      · obtain ⟨l, rfl, -, l9⟩ := rngI (lo := 0) (hi := 60) h0 h9 (by omega) (by omega)
        obtain ⟨q, q3, hq⟩ := hB.lw
        obtain ⟨S1, d1, d2, d3, d4, d5, -⟩ := X11_passInMind (n := n) (l := l) (Q := 25) (q := q) (by omega) (Or.inl rfl) hS hI.2.1 (by rw [hv]; exact hB) q3
        rw [hv, ← hq, u2_self] at d5
        have hS1 : Sh S1.2 := hS.x d2.1 (by simp)
        have hM1 : ModZ S1.2 := hS1.m
        have eM1 : mV (m15 S1) = mV S := by rw [m15_mV]; exact mV_x d2 hS.nf (by simp)
        have hz1 : mV (m15 S1) 0 0 = nI n := by rw [eM1]; exact hB.sz
        obtain ⟨O1, O2, O3, f1, f2, f3, f4, f5, -, f6, f7, -⟩ := X12_mind (l := l) (by omega) hM1.u (by rw [eM1]; exact hB)
        rw [eM1] at f2 f5 f7
        have rl : mI S 1 6 = nI q := by rw [lv01 (L := 1), hv]; exact hq
        refine ⟨_, two (g := fun T => f_X12_behind T 33 (nI a) (nI l)) (v := runV n l (mV S) 8 a) (S1 := S1) (S2 := O3) ?_ ?_, hI.md d2 (by simp) d3 (Mf.m15.tr f6) f7⟩
        · simp only [f_X11_behind, hS.o S rfl, if_true, hS.g0 S rfl, X6_hasHouse' hS.l1, hv, hh, b2i_t, Option.bind_some, h0, h9, hS.l1.i S _ rfl, rl, hS.g4 S rfl, d1, hS1.g1 S1 rfl, hS1.l9.g2 S1 rfl, hS1.l9.A2.ld S1 a rfl ha, lv8 (L := 9) ha, d5]
          rfl
        · simp only [f_X12_behind, f_X12_behind_38, hM1.o _ rfl, if_true, hM1.q, Option.bind_some, X12_isHouse hM1.u hz1 h6, eM1, hh, b2i_t, h0, h9, f1, f2, f4.g11 O2 rfl, f4.a41.ld O2 a rfl ha, mv8 ha, f5, f3]
          rw [if_neg (by decide), if_pos (by decide)]
      · refine ref 6 (-6) (by omega) ?_ ?_
        · simp only [f_X11_behind, hS.o S rfl, if_true, hS.g0 S rfl, X6_hasHouse' hS.l1, hv, hh, b2i_t, Option.bind_some, h0, h9, (cR hS).2.2.2.2]
          rfl
        · simp only [f_X12_behind, f_X12_behind_38, (hMk 6).o _ rfl, if_true, (hMk 6).q, Option.bind_some, X12_isHouse (hMk 6).u (hzk 6) h6, eMk, hh, b2i_t, h0, h9, (mR' (hMk 6).u).2.2.2.2]
          rfl
    · refine ref 4 (-4) (by omega) ?_ ?_
      · simp only [f_X11_behind, hS.o S rfl, if_true, hS.g0 S rfl, X6_hasHouse' hS.l1, hv, hh, b2i_t, Option.bind_some, h0, (cR hS).2.2.2.1]
        rfl
      · simp only [f_X12_behind, f_X12_behind_38, (hMk 4).o _ rfl, if_true, (hMk 4).q, Option.bind_some, X12_isHouse (hMk 4).u (hzk 4) h6, eMk, hh, b2i_t, h0, (mR' (hMk 4).u).2.2.2.1]
        rfl
  · rw [Bool.not_eq_true] at hh
    refine ref 1 (-1) (by omega) ?_ ?_
    · simp only [f_X11_behind, hS.o S rfl, if_true, hS.g0 S rfl, X6_hasHouse' hS.l1, hv, hh, b2i_f, Option.bind_some, (cR hS).1]
    · simp only [f_X12_behind, f_X12_behind_38, (hMk 1).o _ rfl, if_true, (hMk 1).q, Option.bind_some, X12_isHouse (hMk 1).u (hzk 1) h6, eMk, hh, b2i_f, (mR' (hMk 1).u).1]
      rfl
/-! what is wanted of all -/
def wantS : Nat → Nat → Vw → Int32 → Int32
  | 0, _, _, t => t
  | c + 1, k, V, t => wantS c (k + 1) V (t + V 7 k)
theorem wantS_V : ∀ (c k : Nat) (V V' : Vw) (t : Int32), (∀ i, V' 7 i = V 7 i) → wantS c k V' t = wantS c k V t
  | 0, _, _, _, _, _ => rfl
  | c + 1, k, V, V', t, h => by
    show wantS c (k + 1) V' (t + V' 7 k) = wantS c (k + 1) V (t + V 7 k)
    rw [h k]
    exact wantS_V c (k + 1) V V' _ h
theorem i32_1 (k w u t : Int32) : k + (w - u) + (t + u) = k + t + w := by
  rw [Int32.add_assoc k t w, Int32.add_assoc k, ← Int32.add_assoc (w - u) t u, Int32.add_comm (w - u) t, Int32.add_assoc t, Int32.sub_add_cancel]
theorem useS_w : ∀ (c h : Nat) (V : Vw) (s : Nat → Int32) (t k : Int32), (useS c h (V, s, t, k)).2.2.2 = wantS c h V (k + t) - (useS c h (V, s, t, k)).2.2.1
  | 0, _, _, _, t, k => (Int32.add_sub_cancel k t).symm
  | c + 1, h, V, s, t, k => by
    show (useS c (h + 1) (use1 V h, upd s h (s h + usd V h), t + usd V h, k + (V 7 h - usd V h))).2.2.2 = wantS c (h + 1) V (k + t + V 7 h) - (useS c (h + 1) (use1 V h, upd s h (s h + usd V h), t + usd V h, k + (V 7 h - usd V h))).2.2.1
    rw [useS_w c (h + 1), i32_1, wantS_V c (h + 1) V (use1 V h) _ (fun i => u2_ne (by omega))]
theorem weekU_w {n : Nat} {V : Vw} {s : Nat → Int32} (hB : Bd V n) : (weekU n V s 0).2.2.2 = wantS n 0 V 0 - (weekU n V s 0).2.2.1 := by
  rw [weekU, useS_w, wantS_V n 0 V (midV n V).1 _ (fun i => (midV_ok hB).2.1 7 i (by omega) (by omega)), Int32.add_zero]
theorem X12_wants4 {n : Nat} {S : Mm} (hM : ModZ S.2) (hB : Bd (mV S) n) : ∀ (c fuel k : Nat) (t : Int32), k + c = n → c < fuel → f_X12_wantsOfAll_4 fuel S 33 t (nI k) = some (wantS c k (mV S) t, S) := by
  have h6 := hB.le
  intro c
  induction c with
  | zero =>
    intro fuel k t hk hf
    obtain ⟨m, rfl⟩ : ∃ m, fuel = m + 1 := ⟨fuel - 1, by omega⟩
    rw [f_X12_wantsOfAll_4, hM.i S _ rfl, mv0, hB.sz]
    simp only [Option.bind_some]
    rw [if_pos (by rw [nI_lei (by omega) (by omega)]; omega)]
    rfl
  | succ c ih =>
    intro fuel k t hk hf
    obtain ⟨m, rfl⟩ : ∃ m, fuel = m + 1 := ⟨fuel - 1, by omega⟩
    rw [f_X12_wantsOfAll_4, hM.i S _ rfl, mv0, hB.sz]
    simp only [Option.bind_some]
    rw [if_neg (by rw [nI_lei (by omega) (by omega)]; omega)]
    simp only [hM.g10 S rfl, Option.bind_some, hM.a40.ld S k rfl (show k < 6 by omega), mv7 (show k < 6 by omega), nI_1]
    rw [ih m (k + 1) _ (by omega) (by omega)]
    rfl
theorem X12_wantsOfAll {n : Nat} {S : Mm} (hM : ModZ S.2) (hB : Bd (mV S) n) : f_X12_wantsOfAll S 33 = some (wantS n 0 (mV S) 0, S) := by
  have h6 := hB.le
  rw [f_X12_wantsOfAll, if_pos (hM.o S rfl)]
  exact X12_wants4 hM hB n FU 0 0 (by omega) (by show n < 3000; omega)
theorem runV_7 {n : Nat} : ∀ (c : Nat) (V : Vw), Bd V n → ∀ i, runV n c V 7 i = V 7 i
  | 0, _, _, _ => rfl
  | c + 1, V, h, i => by
    show runV n c (weekV n V) 7 i = V 7 i
    rw [runV_7 c (weekV n V) (weekV_ok h), weekV_r h (by omega) (by omega) (by omega)]
