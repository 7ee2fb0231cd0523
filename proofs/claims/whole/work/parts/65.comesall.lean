theorem X12_close2 {S : Mm} (hM : ModZ S.2) : ∃ S', f_X12_close S 33 = some S' ∧ ModZ S'.2 ∧ Mf S S' ∧ mV S' = kV (mI S 47) ∧ mI S' 50 = mI S 50 := by
  obtain ⟨S1, a1, a2⟩ := X12_carryAll hM false (Or.inl rfl)
  obtain ⟨k1, k2⟩ := a2.back
  obtain ⟨-, -, -, -, -, -, -, hF1, hF2, -, -⟩ := id a2
  refine ⟨S1, ?_, a2.1, Mf.car a2, k1, hF1 50 (by omega)⟩
  simp only [f_X12_close, hM.o S rfl, if_true, hM.g20 S rfl, Option.bind_some]
  rw [show (0 : Int32) = b2i false from rfl, a1]
  rfl
set_option maxRecDepth 100000 in
theorem X12_open3 {S : Mm} (hM : ModZ S.2) : ∃ S', f_X12_open S 33 = some S' ∧ ModZ S'.2 ∧ Mf S S' ∧ mV S' = mV S ∧ kV (mI S' 47) = mV S ∧ mI S' 50 = mI S 50 ∧ mI S' 51 = mI S 51 ∧ mI S' 52 = mI S 52 ∧ mI S' 33 30 = mI S 33 30 := by
  obtain ⟨S1, a1, a2⟩ := X12_carryAll hM true (Or.inl rfl)
  obtain ⟨k1, k2⟩ := a2.kept
  have hM1 := a2.1
  have hF := a2.2.2.2.2.2.2.2.1
  have hF2 := a2.2.2.2.2.2.2.2.2.1
  obtain ⟨S2, b1, b2, b3⟩ := X12_open11 6 FU 0 S1 hM1 rfl (by show 6 < 3000; omega) (fun i hi => absurd hi (Nat.not_lt_zero _))
  refine ⟨S2, ?_, by rw [b2.1]; exact hM1, (Mf.car a2).tr (Mf.ag (js := []) b2 (O33.ag b2 (by simp)) (by simp) (by simp)), by rw [mV_ag b2 (by simp)]; exact k1, by rw [b2.2 47 (by simp)]; exact k2, by rw [b2.2 50 (by simp)]; exact hF 50 (by omega), by rw [b2.2 51 (by simp)]; exact hF 51 (by omega), by rw [b2.2 52 (by simp)]; exact hF 52 (by omega), by rw [b2.2 33 (by simp)]; exact hF2 30 (by omega) (by omega) (by omega)⟩
  simp only [f_X12_open, hM.o S rfl, if_true, hM.g20 S rfl, Option.bind_some]
  rw [show (1 : Int32) = b2i true from rfl, a1]
  exact b1
/-! letters: the reference's statements come, all of them -/
section
variable {x : Nat → Nat} {s : Nat}
theorem X12_comes {T : Mm} {n p k : Nat} (hM : ModZ T.2) (hB : Bd (mV T) n) (hk : okL x s p = true) (hk9 : k ≤ 48) (hr : rwL x s T k p) : TlM x s T n p (f_X12_comes T 33 (nI k)) := by
  have h6 := hB.le
  obtain ⟨hh, e1, e2, e3⟩ := okL_t x s hk
  obtain ⟨r1, r2, r3, r4⟩ := id hr
  have D : ∀ j, 0 < j → j ≤ fxL (x p) → 48 ≤ x (p + j) ∧ x (p + j) ≤ 57 := fun j h1 h2 => (dgL_t x s (ok_d hk h1 h2)).2
  have i1 : nI (9 * k) + 1 = nI (9 * k + 1) := nI_c _ 1 rfl
  have i2 : nI (9 * k) + 2 = nI (9 * k + 2) := nI_c _ 2 rfl
  have fx1 : 0 < fxL (x p) := (fx_b (x p)).2.2.2
  have d1 := D 1 (by omega) (by omega)
  have z0 : aI T 52 (nI (9 * k)) = some (nI (x (p + 1) - 48)) := by
    rw [hM.a52.ld T _ rfl (by omega)]
    exact congrArg some (r3 0 fx1)
  have z1 : aI T 52 (nI (9 * k + 1)) = some (mI T 52 (9 * k + 1)) := hM.a52.ld T _ rfl (by omega)
  have zl : aI T 51 (nI k) = some (nI (x p)) := by rw [hM.a51.ld T k rfl (by omega), r2]
  rw [f_X12_comes, if_pos (hM.o T rfl)]
  simp only [hM.g33 T rfl, hM.g32 T rfl, Option.bind_some, ix9', i1, i2, z0, z1, zl]
  rcases hdL_t x hh with hx | hx | hx | hx
  · rw [hx, if_pos (by decide)]
    obtain ⟨T', a1, a2, a3, a4⟩ := X12_houseComes hM hB hk hx hk9 hr
    rw [a1]
    simp only [Option.bind_some, rB_b2i]
    exact ⟨T', rfl, a2, a3, a4⟩
  · rw [hx, if_neg (by decide), if_pos (by decide)]
    have d2 := D 2 (by omega) (by rw [hx]; show 2 ≤ 2; omega)
    have w1 : mI T 52 (9 * k + 1) = nI (x (p + 2) - 48) := r3 1 (by rw [hx]; show 1 < 2; omega)
    have ea : apL x s (mV T) n p = if x (p + 1) - 48 < 3 ∧ 0 < x (p + 2) - 48 then some (u2 (mV T) 11 (x (p + 1) - 48) (nI (x (p + 2) - 48)), n) else none := by rw [apL, if_neg (by omega), if_pos hx]
    have bad : TlM x s T n p (f_X12_comes_63 T 33 (nI (x (p + 1) - 48)) (nI (x (p + 2) - 48))) ∨ (x (p + 1) - 48 < 3 ∧ 0 < x (p + 2) - 48) := by
      by_cases h : x (p + 1) - 48 < 3 ∧ 0 < x (p + 2) - 48
      · exact Or.inr h
      · left
        unfold TlM
        rw [ea, if_neg h]
        have a0 : aI T 44 0 = some (mI T 44 0) := hM.a44.ld T 0 rfl (by omega)
        have s0 : aS T 44 0 (mI T 44 0) = some (sI T 44 0 (mI T 44 0)) := hM.a44.st T 0 _ rfl (by omega)
        simp only [f_X12_comes_63, f_X12_comes_64, f_X12_comes_80, f_X12_comes_95, hM.g14 T rfl, Option.bind_some, if_true, a0, s0, rB_0]
        exact ⟨_, rfl, Ag.sI (by simp), O33.sI (by simp), fun W' n' e => by cases e⟩
    rw [w1]
    by_cases h : x (p + 1) - 48 < 3
    · rw [if_neg (by rw [show (3 : Int32) = nI 3 from rfl, nI_lei (by omega) (by omega)]; omega)]
      by_cases h2 : 0 < x (p + 2) - 48
      · rw [if_neg (by rw [show (0 : Int32) = nI 0 from rfl, nI_lei (by omega) (by omega)]; omega)]
        unfold TlM
        rw [ea, if_pos ⟨h, h2⟩]
        have s1 := hM.a44.st T (x (p + 1) - 48) (nI (x (p + 2) - 48)) rfl h
        simp only [f_X12_comes_64, f_X12_comes_80, f_X12_comes_95, hM.g14 T rfl, Option.bind_some, show ¬ ((1 : Int32) = 0) by decide, if_false, s1, rB_1]
        refine ⟨_, rfl, Ag.sI (by simp), O33.sI (by simp), fun W' n' e => ?_⟩
        injection e with e
        injection e with e1 e2
        rw [← e1]
        exact mV_s (r := 11) (show x (p + 1) - 48 < ml 11 from h)
      · rw [if_pos (by rw [show (0 : Int32) = nI 0 from rfl, nI_lei (by omega) (by omega)]; omega)]
        rcases bad with b | b
        · exact b
        · exact absurd b.2 h2
    · rw [if_pos (by rw [show (3 : Int32) = nI 3 from rfl, nI_lei (by omega) (by omega)]; omega)]
      rcases bad with b | b
      · exact b
      · exact absurd b.1 h
  · rw [hx, if_neg (by decide), if_neg (by decide), if_pos (by decide)]
    have ea : apL x s (mV T) n p = if x (p + 1) - 48 < 3 then some (u2 (mV T) 0 1 (nI (x (p + 1) - 48)), n) else none := by rw [apL, if_neg (by omega), if_neg (by omega), if_pos hx]
    unfold TlM
    rw [ea, hM.p T _ _ rfl]
    simp only [Option.bind_some, f_X12_comes_125, rB_0, rB_1]
    by_cases h : x (p + 1) - 48 < 3
    · rw [if_neg (by rw [show (3 : Int32) = nI 3 from rfl, nI_lei (by omega) (by omega)]; omega), if_pos h]
      refine ⟨_, rfl, Ag.sI (by simp), O33.sI (by simp), fun W' n' e => ?_⟩
      injection e with e
      injection e with e1 e2
      rw [← e1]
      exact mV_s (r := 0) (show 1 < ml 0 by decide)
    · rw [if_pos (by rw [show (3 : Int32) = nI 3 from rfl, nI_lei (by omega) (by omega)]; omega), if_neg h]
      exact ⟨_, rfl, Ag.sI (by simp), O33.sI (by simp), fun W' n' e => by cases e⟩
  · rw [hx, if_neg (by decide), if_neg (by decide), if_neg (by decide)]
    have d2 := D 2 (by omega) (by rw [hx]; show 2 ≤ 2; omega)
    have w1 : mI T 52 (9 * k + 1) = nI (x (p + 2) - 48) := r3 1 (by rw [hx]; show 1 < 2; omega)
    have w2 : mI T 52 (9 * k + 2) = nI (nmL x (enL x s p - (p + 3)) (p + 3) 0) := by
      have := r4 (by rw [hx]; decide)
      rw [hx] at this
      exact this
    have ea : apL x s (mV T) n p = if x (p + 1) - 48 < n ∧ x (p + 2) - 48 < n ∧ x (p + 1) - 48 ≠ x (p + 2) - 48 then some (u2 (mV T) 10 (6 * (x (p + 1) - 48) + (x (p + 2) - 48)) (nI (nmL x (enL x s p - (p + 3)) (p + 3) 0)), n) else none := by rw [apL, if_neg (by omega), if_neg (by omega), if_neg (by omega)]
    unfold TlM
    rw [ea, w1, X12_areTwo hM hB.sz h6]
    simp only [Option.bind_some, twoV_d hB.sz h6 (show x (p + 1) - 48 < 100 by omega) (show x (p + 2) - 48 < 100 by omega), b2i_0, f_X12_comes_161, rB_b2i]
    by_cases h : x (p + 1) - 48 < n ∧ x (p + 2) - 48 < n ∧ x (p + 1) - 48 ≠ x (p + 2) - 48
    · rw [decide_eq_true h, if_neg (by simp), if_pos h, hM.g13 T rfl]
      simp only [Option.bind_some]
      rw [hM.g33 T rfl]
      simp only [Option.bind_some]
      rw [hM.a52.ld T _ rfl (by omega), w2]
      simp only [Option.bind_some]
      rw [ix6', hM.a43.st T _ _ rfl (by omega)]
      refine ⟨_, rfl, Ag.sI (by simp), O33.sI (by simp), fun W' n' e => ?_⟩
      injection e with e
      injection e with e1 e2
      rw [← e1]
      exact mV_s (r := 10) (show 6 * (x (p + 1) - 48) + (x (p + 2) - 48) < ml 10 from (by show _ < 36; omega))
    · rw [decide_eq_false h, if_pos rfl, if_neg h]
      exact ⟨T, rfl, Ag.rf, O33.rf, fun W' n' e => by cases e⟩
theorem X12_m79 {N : Nat} (hN : ∀ i, i < N → okL x s (qL x s i) = true) (hN9 : N ≤ 48) : ∀ (d fuel k n : Nat) (T : Mm), k + d = N → d < fuel → ModZ T.2 → mI T 33 30 = nI N → (∀ i, i < N → rwL x s T i (qL x s i)) → Bd (mV T) n → ∃ T', f_X12_mountain_79 fuel T 33 (nI k) = some ((tlL x s d (mV T) n k).2, T') ∧ Mf T T' ∧ (∀ W', (tlL x s d (mV T) n k).1 = some W' → mV T' = W') ∧ ((tlL x s d (mV T) n k).1 = none → mV T' = kV (mI T 47)) := by
  intro d
  induction d with
  | zero =>
    intro fuel k n T hk hf hM h30 hr hB
    obtain ⟨g, rfl⟩ : ∃ g, fuel = g + 1 := ⟨fuel - 1, by omega⟩
    obtain rfl : k = N := by omega
    refine ⟨T, ?_, Mf.rf, fun W' e => ?_, fun e => by cases e⟩
    · rw [f_X12_mountain_79, hM.i T _ rfl, h30]
      simp only [Option.bind_some]
      rw [if_pos (by rw [nI_lei (by omega) (by omega)]; omega)]
      rfl
    · injection e with e
  | succ d ih =>
    intro fuel k n T hk hf hM h30 hr hB
    obtain ⟨g, rfl⟩ : ∃ g, fuel = g + 1 := ⟨fuel - 1, by omega⟩
    have hkk := hN k (by omega)
    obtain ⟨T1, a1, a2, a3, a4⟩ := X12_comes hM hB hkk (show k ≤ 48 by omega) (hr k (by omega))
    have hM1 : ModZ T1.2 := by rw [a2.1]; exact hM
    have f1 : Mf T T1 := Mf.ag a2 a3 (by simp) (by simp)
    rw [f_X12_mountain_79, hM.i T _ rfl, h30, tlL]
    simp only [Option.bind_some]
    rw [if_neg (by rw [nI_lei (by omega) (by omega)]; omega), a1]
    simp only [Option.bind_some]
    cases ha : apL x s (mV T) n (qL x s k) with
    | none =>
      obtain ⟨T2, b1, b2, b3, b4⟩ := X12_close2 hM1
      refine ⟨T2, ?_, f1.tr b3, fun W' e => (by cases e), fun _ => by rw [b4.1, a2.2 47 (by simp)]⟩
      rw [if_pos (show b2i (none : Option (Vw × Nat)).isSome = 0 from rfl), b1]
      simp only [Option.bind_some]
      rw [b2.g31 T2 rfl]
      simp only [Option.bind_some]
      rw [b2.a50.ld T2 k rfl (by omega), b4.2, a2.2 50 (by simp), (hr k (by omega)).1]
      rfl
    | some q =>
      obtain ⟨W1, n1⟩ := q
      obtain ⟨c1, c2, c3⟩ := ap_ok hB hkk ha
      have hv := a4 W1 n1 ha
      obtain ⟨T2, b1, b2, b3, b4⟩ := ih g (k + 1) n1 T1 (by omega) (by omega) hM1 ((a3 30 (by simp)).trans h30) (fun i hi => by
        obtain ⟨r1, r2, r3, r4⟩ := hr i hi
        unfold rwL
        rw [a2.2 50 (by simp), a2.2 51 (by simp), a2.2 52 (by simp)]
        exact ⟨r1, r2, r3, r4⟩) (by rw [hv]; exact c1)
      rw [hv] at b1 b3 b4
      refine ⟨T2, ?_, f1.tr b2, b3, fun e => by rw [b4 e, a2.2 47 (by simp)]⟩
      rw [Option.isSome_some, if_neg (by decide), nI_1]
      exact b1
end
