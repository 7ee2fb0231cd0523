/-! mountain -/
def Mf3 (S S' : Mm) : Prop := Zeq S.2 S'.2 ∧ (∀ a, a < 33 ∨ a = 45 ∨ 48 ≤ a → ¬ (50 ≤ a ∧ a ≤ 53) → mI S' a = mI S a) ∧ mI S' 33 22 = mI S 33 22 ∧ mI S' 33 36 = mI S 33 36
theorem Mf.m3 {S S' : Mm} (h : Mf S S') : Mf3 S S' := ⟨h.1, h.2.1, h.2.2.1, h.2.2.2.2⟩
theorem Mf3.tr {S S1 S2 : Mm} (h1 : Mf3 S S1) (h2 : Mf3 S1 S2) : Mf3 S S2 := ⟨h1.1.tr h2.1, fun a ha hb => (h2.2.1 a ha hb).trans (h1.2.1 a ha hb), h2.2.2.1.trans h1.2.2.1, h2.2.2.2.trans h1.2.2.2⟩
theorem Mf3.ag {js : List Nat} {S S' : Mm} (h : Ag [33, 50, 51, 52] S S') (hO : O33 js S S') (hj : 22 ∉ js ∧ 36 ∉ js) : Mf3 S S' := ⟨Zeq.of h.1, fun a ha hb => h.2 a (fun q => by
  simp only [List.mem_cons, List.not_mem_nil, or_false] at q
  omega), hO 22 hj.1, hO 36 hj.2⟩
theorem Inv.mt {cs ws : List Nat} {j : Nat} {S S1 S2 : Mm} {V : Vw} (hI : Inv j S) (hG : Gx cs ws S S1) (hc : ∀ c ∈ cs, c = 1 ∨ c = 3 ∨ c = 4 ∨ c = 5 ∨ c = 7 ∨ c = 9 ∨ c = 11 ∨ c = 12 ∨ c = 13 ∨ c = 15 ∨ c = 29) (hw : ∀ w ∈ ws, w = 2 ∨ w = 10) (h29 : mI S1 29 1 = 0) (hH1 : HsZ S1.2 1) (hH9 : HsZ S1.2 9) (e1 : lV S1 1 = V) (hM : Mf3 S1 S2) (h27 : mI S2 33 27 = 0) (e2 : mV S2 = V) (hV : ValB (j + 1) V) : Inv (j + 1) S2 := by
  obtain ⟨hS, hHs, hv, hb, hi, hl, hr, hf⟩ := hI
  have x55 : 55 ≤ mX S := hS.nf.1
  have G2 : Gx [33, 34, 35, 36, 37, 38, 39, 40, 41, 42, 43, 44, 46, 47, 50, 51, 52, 53] [] S1 S2 := ⟨Zx.zeq hM.1, fun a _ hq => by
    simp only [List.mem_cons, List.not_mem_nil, or_false] at hq
    exact hM.2.1 a (by omega) (by omega)⟩
  have hS1 : Sh S1.2 := hS.x hG.1 (fun w q => by have := hw w q; omega)
  have hS2 : Sh S2.2 := hS1.x G2.1 (by simp)
  have pl1 : plain cs := fun c q => by have := hc c q; omega
  have pl2 : plain [33, 34, 35, 36, 37, 38, 39, 40, 41, 42, 43, 44, 46, 47, 50, 51, 52, 53] := by unfold plain; decide
  have eq1 : ∀ a, a < 55 → a ∉ cs → mI S1 a = mI S a := fun a h1 h2 => hG.2 a (by omega) h2
  have n1 : ∀ a, (a = 0 ∨ (17 ≤ a ∧ a ≤ 23) ∨ (30 ≤ a ∧ a < 55)) → a ∉ cs := fun a h q => by have := hc a q; omega
  have eqs : ∀ a, a < 55 → (a = 0 ∨ a = 30 ∨ a = 31 ∨ a = 32 ∨ a = 45 ∨ a = 48 ∨ a = 54) → mI S2 a = mI S a := fun a h1 h2 => (hM.2.1 a (by omega) (by omega)).trans (eq1 a h1 (n1 a (by omega)))
  have s33 : ∀ k, mI S1 33 k = mI S 33 k := fun k => by rw [eq1 33 (by omega) (n1 33 (by omega))]
  have h17 : lV S2 17 = lV S 17 := by
    have a1 : lV S1 17 = lV S 17 := lV_x hG hS.nf hS.l17 hHs.2.2 (by omega) (fun q => by have := hw _ q; omega) pl1 (fun c q p => by
      have := hc c q
      simp only [lcell, List.mem_cons, List.not_mem_nil, or_false] at p
      omega)
    have hH17 := hHs.2.2.x hS.l17 hG.1 (by omega) (fun q => by have := hw _ q; omega)
    have a2 : lV S2 17 = lV S1 17 := lV_x G2 hS1.nf hS1.l17 hH17 (by omega) (by simp) pl2 (by decide)
    exact a2.trans a1
  have h1 : lV S2 1 = lV S1 1 := lV_x G2 hS1.nf hS1.l1 hH1 (by omega) (by simp) pl2 (by decide)
  refine ⟨hS2, ⟨hH1.x hS1.l1 G2.1 (by omega) (by simp), hH9.x hS1.l9 G2.1 (by omega) (by simp), (hHs.2.2.x hS.l17 hG.1 (by omega) (fun q => by have := hw _ q; omega)).x hS1.l17 G2.1 (by omega) (by simp)⟩, by rw [h1, e1, e2], by rw [e2]; exact hV, ?_, ?_, ?_, ?_⟩
  · unfold Img
    rw [eqs 0 (by omega) (by omega), hM.2.2.1, s33, h17, eqs 48 (by omega) (by omega)]
    exact hi.up
  · exact ⟨0, by omega, by rw [hM.2.1 29 (by omega) (by omega)]; exact h29, h27, fun k hk => absurd hk (Nat.not_lt_zero _)⟩
  · unfold Row
    rw [eqs 0 (by omega) (by omega), hM.2.2.2, s33, eqs 31 (by omega) (by omega), eqs 54 (by omega) (by omega)]
    exact hr
  · unfold Ref
    rw [eqs 32 (by omega) (by omega), eqs 45 (by omega) (by omega)]
    exact hf
section
variable {x : Nat → Nat} {s : Nat}
theorem fw_N : ∀ (f k : Nat), s ≤ qL x s k + f → (∀ i, i < k → okL x s (qL x s i) = true) → fwL x s f (qL x s k) = none → ∃ N, k ≤ N ∧ (∀ i, i < N → okL x s (qL x s i) = true) ∧ s ≤ qL x s N
  | 0, k, h, hk, _ => ⟨k, Nat.le_refl k, hk, h⟩
  | f + 1, k, h, hk, hn => by
    rw [fwL] at hn
    by_cases h1 : s ≤ qL x s k
    · exact ⟨k, Nat.le_refl k, hk, h1⟩
    · rw [if_neg h1] at hn
      by_cases h2 : okL x s (qL x s k) = true
      · rw [if_pos h2] at hn
        have h3 := (okL_t x s h2).2.1
        obtain ⟨N, a1, a2, a3⟩ := fw_N f (k + 1) (by rw [qL]; omega) (fun i hi => by
          by_cases e : i = k
          · rw [e]
            exact h2
          · exact hk i (by omega)) hn
        exact ⟨N, by omega, a2, a3⟩
      · rw [if_neg h2] at hn
        cases hn
theorem N_un {N M : Nat} (h1 : ∀ i, i < N → okL x s (qL x s i) = true) (h2 : s ≤ qL x s N) (h3 : ∀ i, i < M → okL x s (qL x s i) = true) (h4 : s ≤ qL x s M) : N = M := by
  have K : ∀ {A B : Nat}, (∀ i, i < B → okL x s (qL x s i) = true) → s ≤ qL x s A → ¬ A < B := fun hB hA hlt => by
    obtain ⟨-, e1, e2, -⟩ := okL_t x s (hB _ hlt)
    omega
  have a1 := K h1 h4
  have a2 := K h3 h2
  omega
theorem tl_val : ∀ (d : Nat) (W : Vw) (n k : Nat), ((tlL x s d W n k).1 = none → ∃ i, i < k + d ∧ (tlL x s d W n k).2 = -2000 - nI (qL x s i)) ∧ ∀ W', (tlL x s d W n k).1 = some W' → (tlL x s d W n k).2 = nI (k + d)
  | 0, W, n, k => ⟨fun h => (by cases h), fun _ _ => rfl⟩
  | d + 1, W, n, k => by
    rw [tlL]
    cases apL x s W n (qL x s k) with
    | none => exact ⟨fun _ => ⟨k, by omega, rfl⟩, fun W' h => (by cases h)⟩
    | some q =>
      obtain ⟨W1, n1⟩ := q
      obtain ⟨a1, a2⟩ := tl_val d W1 n1 (k + 1)
      refine ⟨fun h => ?_, fun W' h => ?_⟩
      · obtain ⟨i, i1, i2⟩ := a1 h
        exact ⟨i, by omega, i2⟩
      · rw [a2 W' h, show k + 1 + d = k + (d + 1) by omega]
theorem ng1 : ∀ e, e ≤ 96 → (-1000 - nI e) ≤ (0 : Int32) := by decide
theorem ng2 : ∀ e, e ≤ 96 → (-2000 - nI e) ≤ (0 : Int32) := by decide
theorem nI_nl {e : Nat} (he : e ≤ 96) : ¬ nI e < 0 := by
  rw [show (0 : Int32) = nI 0 from rfl, nI_lti (by omega) (by omega)]
  omega
/-- the place of the fault, if there is one -/
def wrL (x : Nat → Nat) (s : Nat) : Option Nat := if s = 0 then some 0 else fwL x s s 0
theorem wr_le {e : Nat} (h : wrL x s = some e) : e ≤ s := by
  unfold wrL at h
  by_cases h0 : s = 0
  · rw [if_pos h0] at h
    injection h with h
    omega
  · rw [if_neg h0] at h
    exact fw_le x s s 0 e (Nat.zero_le _) h
theorem wr_N (hs : s ≤ 96) (h : wrL x s = none) : ∃ N, 0 < N ∧ N ≤ 32 ∧ (∀ i, i < N → okL x s (qL x s i) = true) ∧ s ≤ qL x s N := by
  unfold wrL at h
  by_cases h0 : s = 0
  · rw [if_pos h0] at h
    cases h
  · rw [if_neg h0] at h
    obtain ⟨N, a1, a2, a3⟩ := fw_N (x := x) (s := s) s 0 (by omega) (fun i hi => absurd hi (Nat.not_lt_zero _)) h
    have a4 := qL_ge x s N a2
    have a5 := qL_le x s N a2
    refine ⟨N, ?_, by omega, a2, a3⟩
    cases N with
    | zero =>
      have : qL x s 0 = 0 := rfl
      omega
    | succ N => omega
/-- the class's call -/
theorem X7_tellTo {S : Mm} {n : Nat} (hS : Sh S.2) (hl : LtC x s S) (hH : HsZ S.2 9) (hB : Bd (lV S 9) n) : (∀ e, wrL x s = some e → f_X7_tellTo S 29 9 = some (-1000 - nI e, S)) ∧ ∀ N, wrL x s = none → N ≤ 32 → (∀ i, i < N → okL x s (qL x s i) = true) → s ≤ qL x s N → ∃ S', f_X7_tellTo S 29 9 = some ((tlL x s N (lV S 9) n 0).2, S') ∧ Gx [9, 11, 12, 13, 15] [10] S S' ∧ HsZ S'.2 9 ∧ ∀ W', (tlL x s N (lV S 9) n 0).1 = some W' → lV S' 9 = W' ∧ (∃ n', Bd W' n') ∧ W' 0 2 = lV S 9 0 2 ∧ W' 0 3 = lV S 9 0 3 := by
  have h96 := hl.1
  have hw : f_X7_firstWrongPlace S 29 = some ((match wrL x s with | none => -1 | some e => nI e), S) := by
    rw [X7_wrong hS hl, wrL]
    by_cases h0 : s = 0
    · rw [if_pos h0, if_pos h0]
      rfl
    · (rw [if_neg h0, if_neg h0]) <;> (cases fwL x s s 0 <;> rfl)
  refine ⟨fun e he => ?_, fun N he hN32 hN hsN => ?_⟩
  · have := wr_le he
    rw [f_X7_tellTo, if_pos (hS.o29.ok S rfl), hw, he]
    simp only [Option.bind_some]
    rw [if_neg (nI_nl (by omega))]
  · obtain ⟨S', a1, a2⟩ := X7_tl hN hsN N 100 0 n S (by omega) (by omega) hS hl hH hB
    refine ⟨S', ?_, a2⟩
    rw [f_X7_tellTo, if_pos (hS.o29.ok S rfl), hw, he]
    simp only [Option.bind_some]
    rw [if_pos (by decide)]
    exact a1
/-- the reference's call -/
theorem X12_mount {R : Mm} {n : Nat} (hM : ModZ R.2) (hl : LtM x s R) (hB : Bd (mV R) n) : (∀ e, wrL x s = some e → ∃ T', f_X12_mountain R 33 = some (-1000 - nI e, T') ∧ Mf3 R T' ∧ mI T' 33 27 = 0 ∧ mV T' = mV R) ∧ ∀ N, wrL x s = none → N ≤ 32 → (∀ i, i < N → okL x s (qL x s i) = true) → s ≤ qL x s N → ∃ T', f_X12_mountain R 33 = some ((tlL x s N (mV R) n 0).2, T') ∧ Mf3 R T' ∧ mI T' 33 27 = 0 ∧ (∀ W', (tlL x s N (mV R) n 0).1 = some W' → mV T' = W') ∧ ((tlL x s N (mV R) n 0).1 = none → mV T' = mV R) := by
  have h96 := hl.1
  obtain ⟨T0, hT0⟩ : ∃ T0, T0 = sI (sI (sI (sI R 33 15 0) 33 28 0) 33 29 0) 33 30 0 := ⟨_, rfl⟩
  have a0 : Ag [33, 50, 51, 52] R T0 := by rw [hT0]; exact (((Ag.sI (by simp)).sIt (by simp)).sIt (by simp)).sIt (by simp)
  have o0 : O33 [15, 28, 29, 30] R T0 := by rw [hT0]; exact (((O33.sI (by simp)).tr (O33.sI (by simp))).tr (O33.sI (by simp))).tr (O33.sI (by simp))
  have hM0 : ModZ T0.2 := by rw [a0.1]; exact hM
  have hl0 := hl.ag a0 o0 (by simp) (by simp)
  have v0 : mV T0 = mV R := by rw [hT0, mV_o (by omega), mV_o (by omega), mV_o (by omega), mV_o (by omega)]
  have st : f_X12_mountain R 33 = f_X12_mountain_20 FU T0 33 := by
    simp only [f_X12_mountain, hM.o R rfl, if_true, hM.p, hM.b0, sI_2, Option.bind_some]
    rw [hT0]
  have e28 : mI T0 33 28 = nI (qL x s 0) := by rw [hT0]; simp [mI_s]; rfl
  have e29 : mI T0 33 29 = 0 := by rw [hT0]; simp [mI_s]
  have e30 : mI T0 33 30 = nI 0 := by rw [hT0]; simp [mI_s]; rfl
  obtain ⟨T1, b1, b2, b3, b4⟩ := X12_mt20 (x := x) (s := s) s FU 0 T0 (by omega) (by show s + 2 < 3000; omega) hM0 hl0 (fun i hi => absurd hi (Nat.not_lt_zero _)) e28 e29 e30 (fun i hi => absurd hi (Nat.not_lt_zero _))
  have ew : (if 0 = 0 ∧ s = 0 then some 0 else fwL x s s (qL x s 0)) = wrL x s := by
    unfold wrL
    by_cases h0 : s = 0
    · rw [if_pos ⟨rfl, h0⟩, if_pos h0]
    · rw [if_neg (fun q => h0 q.2), if_neg h0]
      rfl
  rw [ew] at b4
  have hM1 : ModZ T1.2 := by rw [b2.1]; exact hM0
  obtain ⟨U, hU⟩ : ∃ U, U = sI T1 33 27 0 := ⟨_, rfl⟩
  have hMU : ModZ U.2 := by rw [hU]; exact hM1
  have aU : Ag [33, 50, 51, 52] R U := (a0.tr b2).tr (by rw [hU]; exact Ag.sI (by simp))
  have oU : O33 [15, 27, 28, 29, 30] R U := ((o0.mono (by simp)).tr (b3.mono (by simp))).tr (by rw [hU]; exact O33.sI (by simp))
  have e27 : mI U 33 27 = 0 := by rw [hU]; simp [mI_s]
  have ek : ∀ q, q ≠ 27 → mI U 33 q = mI T1 33 q := fun q hq => by rw [hU, mI_s, if_neg (fun h => hq h.2)]
  have v1 : mV T1 = mV T0 := by
    funext r q
    unfold mV
    by_cases hq : q < ml r
    · rw [if_pos hq, if_pos hq]
      by_cases hr : r = 0
      · subst hr
        have : q < 4 := hq
        exact b3 q (by simp; omega)
      · rw [b2.2 (33 + r)]
        intro h
        simp only [List.mem_cons, List.not_mem_nil, or_false] at h
        rw [ml_big (by omega)] at hq
        omega
    · rw [if_neg hq, if_neg hq]
  have vU : mV U = mV R := by rw [hU, mV_o (by omega), v1, v0]
  have fU : Mf3 R U := Mf3.ag aU oU (by simp)
  refine ⟨fun e he => ?_, fun N he hN32 hN hsN => ?_⟩
  · rcases b4 with ⟨b4, -⟩ | ⟨e', b4, b5, b6⟩
    · rw [he] at b4
      cases b4
    · rw [he] at b4
      injection b4 with b4
      subst b4
      refine ⟨U, ?_, fU, e27, vU⟩
      rw [st, b1, f_X12_mountain_52, hM1.p T1 _ _ rfl, ← hU]
      simp only [Option.bind_some, hMU.i U _ rfl, ek 29 (by omega), ek 28 (by omega), b5, b6]
      rw [if_neg (by decide)]
  · rcases b4 with ⟨-, b5, M, M0, hM2, hM3, b6, b7⟩ | ⟨e', b4, -⟩
    · obtain rfl := N_un hM2 hM3 hN hsN
      obtain ⟨O, c1, c2, c3, c4, c5, c6, c7, c8, c9⟩ := X12_open3 hMU
      have rw' : ∀ i, i < M → rwL x s O i (qL x s i) := fun i hi => by
        obtain ⟨r1, r2, r3, r4⟩ := b7 i hi
        have u50 : mI U 50 = mI T1 50 := by funext q; rw [hU, mI_s, if_neg (by omega)]
        have u51 : mI U 51 = mI T1 51 := by funext q; rw [hU, mI_s, if_neg (by omega)]
        have u52 : mI U 52 = mI T1 52 := by funext q; rw [hU, mI_s, if_neg (by omega)]
        unfold rwL
        rw [c6, c7, c8, u50, u51, u52]
        exact ⟨r1, r2, r3, r4⟩
      obtain ⟨T', d1, d2, d3, d4⟩ := X12_m79 hN (by omega) M FU 0 n O (by omega) (by show M < 3000; omega) c2 (by rw [c9, ek 30 (by omega)]; exact b6) rw' (by rw [c4, vU]; exact hB)
      rw [c4, vU] at d1 d3 d4
      refine ⟨T', ?_, (fU.tr c3.m3).tr d2.m3, ?_, d3, fun h => by rw [d4 h, c5, vU]⟩
      · rw [st, b1, f_X12_mountain_52, hM1.p T1 _ _ rfl, ← hU]
        simp only [Option.bind_some, hMU.i U _ rfl, ek 29 (by omega), b5, if_true, c1]
        exact d1
      · rw [d2.2.2.2.1, c3.2.2.2.1]
        exact e27
    · rw [he] at b4
      cases b4
end
set_option maxRecDepth 100000 in
theorem st_1 {j : Nat} {S : Mm} (hI : Inv j S) : ∃ S', ls_1 0 33 S = some S' ∧ Inv (j + 1) S' := by
  unfold ls_1
  have hS := hI.1
  have hv := hI.2.2.1
  have hH := hI.2.1.1
  obtain ⟨⟨n, hB⟩, ⟨w, w1, w2⟩, ⟨m, m1, m2⟩⟩ := id hI.2.2.2.1
  obtain ⟨s, r1, r2, r3, r4⟩ := id hI.2.2.2.2.2.1
  have x55 : 55 ≤ mX S := hS.nf.1
  obtain ⟨x, hx⟩ : ∃ x : Nat → Nat, x = fun k => (mI S 30 k).toNatClampNeg := ⟨_, rfl⟩
  have hx1 : ∀ k, k < s → mI S 30 k = nI (x k) ∧ x k ≤ 255 := fun k hk => by
    obtain ⟨-, q, q1, q2⟩ := r4 k hk
    have : x k = q := by rw [hx]; show (mI S 30 k).toNatClampNeg = q; rw [q2, nI_clamp (by omega)]
    rw [this]
    exact ⟨q2, q1⟩
  have hlC : LtC x s S := ⟨r1, r2, hx1⟩
  have lM : ∀ {cs ws : List Nat} {R : Mm}, Gx cs ws S R → 33 ∉ cs → 49 ∉ cs → LtM x s R := fun hG h1 h2 => ⟨r1, by rw [hG.2 33 (by omega) h1]; exact r3, fun k hk => by rw [hG.2 49 (by omega) h2, ← (r4 k hk).1]; exact hx1 k hk⟩
  obtain ⟨S1, a1, a2, a3, a4, -⟩ := X6_copyFrom (D := 9) (L := 1) (S := S) (by omega) (by omega) (by omega) hS.nf hS.l9 hS.l1 hH
  have a2' : Gx [9, 11, 12, 13, 15] [10] S S1 := a2
  have hS1 : Sh S1.2 := hS.x a2'.1 (by simp)
  have hl1 := hlC.gx a2' hS.nf (by simp) (by simp)
  have v9 : lV S1 9 = mV S := by rw [a4, hv]
  have hB9 : Bd (lV S1 9) n := by rw [v9]; exact hB
  obtain ⟨t1, t2⟩ := X7_tellTo hS1 hl1 a3 hB9
  have fin : ∀ (r : Int32) (S2 : Mm), f_X7_tellTo S1 29 9 = some (r, S2) → Sh S2.2 → r ≤ 0 → f_X11_mountain S 0 = some (r, sI S2 29 1 0) := fun r S2 h1 h2 h3 => by
    simp only [f_X11_mountain, hS.o S rfl, if_true, hS.g0 S rfl, hS.g1 S rfl, Option.bind_some, a1, hS1.g6 S1 rfl, hS1.g1 S1 rfl, h1, h2.g6 S2 rfl, h2.o29.pI S2 _ _ rfl, f_X11_mountain_46, h3]
  have quiet : ∀ (r : Int32) (S2 T : Mm), f_X11_mountain S 0 = some (r, sI S2 29 1 0) → Gx [9, 11, 12, 13, 15] [10] S S2 → HsZ S2.2 9 → f_X12_mountain (sI S2 29 1 0) 33 = some (r, T) → Mf3 (sI S2 29 1 0) T → mI T 33 27 = 0 → mV T = mV (sI S2 29 1 0) → ∃ S', ((f_X11_mountain S 0).bind fun q => (f_X12_mountain q.2 33).bind fun r => if q.1 = r.1 then some r.2 else none) = some S' ∧ Inv (j + 1) S' := fun r S2 T h1 h2 h3 h4 h5 h6 h7 => by
    have g : Gx [9, 11, 12, 13, 15, 29] [10] S (sI S2 29 1 0) := (h2.mono (by simp) (by simp)).tr (Gx.ag (Ag.sI (by simp)))
    have vm : mV (sI S2 29 1 0) = mV S := mV_x g hS.nf (by simp)
    have vl : lV (sI S2 29 1 0) 1 = mV S := by rw [lV_x g hS.nf hS.l1 hH (by omega) (by simp) (by unfold plain; decide) (by decide), hv]
    refine ⟨T, two (g := fun T => f_X12_mountain T 33) h1 h4, hI.mt g (by simp) (by simp) (by simp [mI_s]) (hH.x hS.l1 g.1 (by omega) (by simp)) h3 vl h5 h6 (h7.trans vm) hI.2.2.2.1.up⟩
  cases hw : wrL x s with
  | some e =>
    have he := wr_le hw
    have k1 := fin _ _ (t1 e hw) hS1 (ng1 e (by omega))
    have g : Gx [9, 11, 12, 13, 15, 29] [10] S (sI S1 29 1 0) := (a2'.mono (by simp) (by simp)).tr (Gx.ag (Ag.sI (by simp)))
    have vm : mV (sI S1 29 1 0) = mV S := mV_x g hS.nf (by simp)
    obtain ⟨T, c1, c2, c3, c4⟩ := (X12_mount (R := sI S1 29 1 0) hS1.m (lM g (by simp) (by simp)) (by rw [vm]; exact hB)).1 e hw
    exact quiet _ _ T k1 a2' a3 c1 c2 c3 c4
  | none =>
    obtain ⟨N, N0, N32, hN, hsN⟩ := wr_N r1 hw
    obtain ⟨S2, b1, b2, b3, b4⟩ := t2 N hw N32 hN hsN
    rw [v9] at b1 b4
    have hS2 : Sh S2.2 := hS1.x b2.1 (by simp)
    have g2 : Gx [9, 11, 12, 13, 15] [10] S S2 := a2'.tr b2
    have g : Gx [9, 11, 12, 13, 15, 29] [10] S (sI S2 29 1 0) := (g2.mono (by simp) (by simp)).tr (Gx.ag (Ag.sI (by simp)))
    obtain ⟨p1, p2⟩ := tl_val (x := x) (s := s) N (mV S) n 0
    cases ht : (tlL x s N (mV S) n 0).1 with
    | none =>
      obtain ⟨i, i1, i2⟩ := p1 ht
      have hq := qL_le x s i (fun k hk => hN k (by omega))
      have k1 := fin _ _ b1 hS2 (by rw [i2]; exact ng2 _ (by omega))
      have vm : mV (sI S2 29 1 0) = mV S := mV_x g hS.nf (by simp)
      obtain ⟨T, c1, c2, c3, c4, c5⟩ := (X12_mount (R := sI S2 29 1 0) (n := n) hS2.m (lM g (by simp) (by simp)) (by rw [vm]; exact hB)).2 N hw N32 hN hsN
      rw [vm] at c1 c4 c5
      exact quiet _ _ T k1 g2 b3 c1 c2 c3 ((c5 ht).trans vm.symm)
    | some W =>
      obtain ⟨d1, ⟨n', d2⟩, d3, d4⟩ := b4 W ht
      have i2 := p2 W ht
      rw [Nat.zero_add] at i2
      have hS3 : Sh (sI S2 29 1 0).2 := hS2
      have v3 : lV (sI S2 29 1 0) 9 = W := by rw [lV_o b3 (by decide) (hS2.nf.2 29 (by omega) (by omega) (by omega) (by omega)), d1]
      obtain ⟨S4, f1, f2, f3, f4, -⟩ := X6_copyFrom (D := 1) (L := 9) (S := sI S2 29 1 0) (by omega) (by omega) (by omega) hS3.nf hS3.l1 hS3.l9 b3
      have f2' : Gx [1, 3, 4, 5, 7] [2] (sI S2 29 1 0) S4 := f2
      have hS4 : Sh S4.2 := hS3.x f2'.1 (by simp)
      have g4 : Gx [1, 3, 4, 5, 7, 9, 11, 12, 13, 15, 29] [2, 10] S S4 := (g.mono (by simp) (by simp)).tr (f2'.mono (by simp) (by simp))
      have vm : mV S4 = mV S := mV_x g4 hS.nf (by simp)
      have hN1 : ¬ nI N ≤ 0 := by rw [show (0 : Int32) = nI 0 from rfl, nI_lei (by omega) (by omega)]; omega
      have k1 : f_X11_mountain S 0 = some (nI N, S4) := by
        rw [i2] at b1
        simp only [f_X11_mountain, hS.o S rfl, if_true, hS.g0 S rfl, hS.g1 S rfl, Option.bind_some, a1, hS1.g6 S1 rfl, hS1.g1 S1 rfl, b1, hS2.g6 S2 rfl, hS2.o29.pI S2 _ _ rfl, f_X11_mountain_46, hN1, if_false, hS3.g0 (sI S2 29 1 0) rfl, hS3.g1 (sI S2 29 1 0) rfl, f1]
      obtain ⟨T, c1, c2, c3, c4, c5⟩ := (X12_mount (R := S4) (n := n) hS4.m (lM g4 (by simp) (by simp)) (by rw [vm]; exact hB)).2 N hw N32 hN hsN
      rw [vm, i2] at c1
      rw [vm] at c4
      have x55' : 55 ≤ mX (sI S2 29 1 0) := hS3.nf.1
      refine ⟨T, two (g := fun T => f_X12_mountain T 33) k1 c1, hI.mt g4 (by simp) (by simp) ?_ f3 (b3.x hS3.l9 f2'.1 (by omega) (by simp)) (f4.trans v3) c2 c3 (c4 W ht) ⟨⟨n', d2⟩, ⟨w, by omega, ?_⟩, ⟨m, by omega, ?_⟩⟩⟩
      · rw [f2'.2 29 (by omega) (by simp)]
        simp [mI_s]
      · rw [d3]
        exact w2
      · rw [d4]
        exact m2
