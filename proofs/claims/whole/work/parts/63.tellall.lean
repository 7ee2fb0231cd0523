/-! letters: the class tells a house, and all statements -/
section
variable {x : Nat → Nat} {s : Nat} {S : Mm} {n p : Nat}
theorem X7_270 (hS : Sh S.2) (hl : LtC x s S) (hH : HsZ S.2 9) (hB : Bd (lV S 9) n) (hk : okL x s p = true) (hx : x p = 104) {T : Mm} {ci : Nat} (hF : isF ci = true) (hT : T.2 = (nC S ci 0).2) (hm : ∀ c, c ≠ mX S → mI T c = mI S c) (h0 : kOf ci = nI (x (p + 1) - 48)) (f0 : mI T (mX S) 0 = nI (x (p + 2) - 48)) (f1 : mI T (mX S) 1 = nI (10 * (x (p + 3) - 48) + (x (p + 4) - 48))) (f2 : mI T (mX S) 2 = nI (x (p + 5) - 48)) (f3 : mI T (mX S) 3 = nI (x (p + 6) - 48)) (f4 : mI T (mX S) 4 = nI (x (p + 7) - 48)) (f5 : mI T (mX S) 5 = nI (x (p + 8) - 48)) (c1 : x (p + 1) - 48 ≤ 5) (c2 : x (p + 5) - 48 < 3) (c3 : x (p + 7) - 48 < 3) : TlC x s S n p (f_X7_tellHouse_270 T 29 9 (nI p) (nI (enL x s p)) (mX S)) := by
  have h6 := hB.le
  have x55 : 55 ≤ mX S := hS.nf.1
  have G0 : Gx [] [] S T := ⟨by rw [hT]; exact nC_zx, fun a ha _ => hm a (Nat.ne_of_lt ha)⟩
  have hST : Sh T.2 := hS.x G0.1 (by simp)
  have hlT := hl.gx G0 hS.nf (by simp) (by simp)
  obtain ⟨hh, e1, e2, e3⟩ := okL_t x s hk
  rw [hx] at e1
  have e1' : p + 1 + 9 ≤ enL x s p := e1
  have nu : f_X7_number T 29 (nI (p + 9)) (nI (enL x s p)) = some (nI (nmL x (enL x s p - (p + 9)) (p + 9) 0), T) := by
    have := X7_num (p := p + 9) (c := enL x s p - (p + 9)) hST hlT (by omega) (fun q q1 q2 => ok_dg x s hk (by omega) (by omega))
    rwa [show p + 9 + (enL x s p - (p + 9)) = enL x s p by omega] at this
  have ea : apL x s (lV S 9) n p = if n < 6 then some (nhV (lV S 9) n (fun r => nI (hfL x p r)) (nI (nmL x (enL x s p - (p + 9)) (p + 9) 0)), n + 1) else none := by
    rw [apL, if_pos hx]
    by_cases h : n < 6
    · rw [if_pos ⟨c1, c2, c3, h⟩, if_pos h]
    · rw [if_neg (fun q => h q.2.2.2), if_neg h]
  have sz : mI T 9 1 = nI n := by rw [hm 9 (by omega)]; exact hB.sz
  unfold TlC
  rw [f_X7_tellHouse_270, nI_c p 9 (show nI 9 = 9 from rfl), nu, ea]
  simp only [Option.bind_some]
  rw [f_X6_addHouse, if_pos (hST.l9.o T rfl), hST.l9.i T _ rfl, sz]
  simp only [Option.bind_some]
  by_cases h : n < 6
  · obtain ⟨U, hU⟩ : ∃ U, U = sR T 10 n (some (mX S)) := ⟨_, rfl⟩
    obtain ⟨v1, v2, v3⟩ := lV_newG (F := fun r => nI (hfL x p r)) hS hH h hT hm h0 (fun i hi => by
      have : i = 0 ∨ i = 1 ∨ i = 2 ∨ i = 3 ∨ i = 4 ∨ i = 5 := by omega
      rcases this with rfl | rfl | rfl | rfl | rfl | rfl
      · exact f0
      · exact f1
      · exact f2
      · exact f3
      · exact f4
      · exact f5) hF hU
    have hSU : Sh U.2 := hS.x v3.1 (by simp)
    have q : aQ T (9 + 1) (nI n) (mX S) = some U := by
      have a1 : okc T 10 101 = true := by
        simp only [okc, Bool.and_eq_true, decide_eq_true_eq]
        exact ⟨hST.l9.2.2.2.2.2.2.1.1, hST.l9.2.2.2.2.2.2.1.2.1⟩
      have a2 : mN T 10 = 6 := hST.l9.2.2.2.2.2.2.1.2.2
      have a3 : okF T (mX S) = true := by
        simp only [okF, Bool.and_eq_true, decide_eq_true_eq]
        refine ⟨?_, ?_⟩
        · show mX S < T.2.2.2.2
          rw [hT]
          exact Nat.lt_succ_self _
        · rw [show mC T (mX S) = ci by show T.2.2.1 (mX S) = ci; rw [hT]; exact va_up_self _ _ _]
          exact hF
      rw [show (9 : Nat) + 1 = 10 from rfl, aQ, a1, a2, a3, inb_nI h (by omega), if_pos (show (true && true && true) = true from rfl), nI_clamp (by omega), hU]
    have szU : mI U 9 1 = nI n := by rw [hU]; exact sz
    rw [if_pos (by rw [show (6 : Int32) = nI 6 from rfl, nI_lti (by omega) (by omega)]; exact h), if_pos h, hST.l9.g0 T rfl]
    simp only [Option.bind_some]
    rw [q]
    simp only [Option.bind_some, hSU.l9.g2 U rfl, hSU.l9.i U _ rfl, szU]
    rw [hSU.l9.A2.st U n _ rfl h]
    simp only [Option.bind_some]
    rw [hSU.l9.i (sI U (9 + 2) n _) _ rfl]
    simp only [Option.bind_some]
    rw [hSU.l9.p (sI U (9 + 2) n _) _ _ rfl]
    simp only [Option.bind_some]
    rw [mI_s, if_neg (by omega), szU, nI_1, rB_1]
    have H1 : HsZ (sI U (9 + 2) n (nI (nmL x (enL x s p - (p + 9)) (p + 9) 0))).2 9 := v2
    refine ⟨_, rfl, (v3.mono (by simp) (by simp)).tr (Gx.ag ((Ag.sI (by simp)).sIt (by simp))), v2, fun W' n' e => ?_⟩
    injection e with e
    injection e with e1 e2
    rw [← e1, lV_s (j := 1) H1 (hSU.nf.2 9 (by omega) (by omega) (by omega) (by omega)) (show 0 < ml 0 by decide) (Or.inl ⟨rfl, rfl, rfl⟩), lV_s v2 (hSU.nf.2 11 (by omega) (by omega) (by omega) (by omega)) (show n < ml 8 from h) (Or.inr (Or.inl ⟨rfl, rfl, rfl⟩)), v1]
    rfl
  · rw [if_neg (by rw [show (6 : Int32) = nI 6 from rfl, nI_lti (by omega) (by omega)]; exact h), if_neg h]
    simp only [Option.bind_some, rB_0]
    exact ⟨T, rfl, G0.mono (by simp) (by simp), hH.x hS.l9 G0.1 (by omega) (by simp), fun W' n' e => by cases e⟩
theorem X7_tellHouse (hS : Sh S.2) (hl : LtC x s S) (hH : HsZ S.2 9) (hB : Bd (lV S 9) n) (hk : okL x s p = true) (hx : x p = 104) : TlC x s S n p (f_X7_tellHouse S 29 9 (nI p) (nI (enL x s p))) := by
  have h6 := hB.le
  have D : ∀ j, 0 < j → j ≤ 8 → dgL x s (p + j) = true := fun j h1 h2 => ok_d hk h1 (by rw [hx]; exact h2)
  have d1 := dgL_t x s (D 1 (by omega) (by omega))
  have d5 := dgL_t x s (D 5 (by omega) (by omega))
  have d7 := dgL_t x s (D 7 (by omega) (by omega))
  have K : ∀ j, 0 < j → j ≤ 8 → f_X7_digit S 29 (nI (p + j)) = some (nI (x (p + j) - 48), S) := fun j h1 h2 => X7_dig hS hl (D j h1 h2)
  have k3 : f_X7_number S 29 (nI (p + 3)) (nI (p + 5)) = some (nI (10 * (x (p + 3) - 48) + (x (p + 4) - 48)), S) := by
    have := X7_num (p := p + 3) (c := 2) hS hl (by have := dgL_t x s (D 4 (by omega) (by omega)); omega) (fun q q1 q2 => by
      have h : q = p + 3 ∨ q = p + 4 := by omega
      rcases h with rfl | rfl
      · exact D 3 (by omega) (by omega)
      · exact D 4 (by omega) (by omega))
    simp only [nmL, Nat.mul_zero, Nat.zero_add] at this
    exact this
  have no : ∀ q, apL x s (lV S 9) n p = none → q = some ((0 : Int32), S) → TlC x s S n p q := fun q h e => by
    unfold TlC
    rw [h, e]
    exact ⟨S, rfl, Gx.rf, hH, fun W' n' e => by cases e⟩
  rw [f_X7_tellHouse, if_pos (hS.o29.ok S rfl), nI_c p 2 (show nI 2 = 2 from rfl), nI_c p 3 (show nI 3 = 3 from rfl), nI_c p 5 (show nI 5 = 5 from rfl), nI_c p 6 (show nI 6 = 6 from rfl), nI_c p 7 (show nI 7 = 7 from rfl), nI_c p 8 (show nI 8 = 8 from rfl), nI_1, K 2 (by omega) (by omega)]
  simp only [Option.bind_some]
  rw [k3]
  simp only [Option.bind_some]
  rw [K 5 (by omega) (by omega)]
  simp only [Option.bind_some]
  rw [K 6 (by omega) (by omega)]
  simp only [Option.bind_some]
  rw [K 7 (by omega) (by omega)]
  simp only [Option.bind_some]
  rw [K 8 (by omega) (by omega)]
  simp only [Option.bind_some, X11_isGood, goodI_d (show x (p + 5) - 48 < 2 ^ 30 by omega), goodI_d (show x (p + 7) - 48 < 2 ^ 30 by omega), b2i_0, f_X7_tellHouse_76]
  by_cases c2 : x (p + 5) - 48 < 3
  · rw [if_neg (by simp [c2])]
    by_cases c3 : x (p + 7) - 48 < 3
    · rw [if_neg (by simp [c3]), K 1 (by omega) (by omega)]
      simp only [Option.bind_some]
      by_cases c1 : x (p + 1) - 48 ≤ 5
      · have kd : x (p + 1) - 48 = 0 ∨ x (p + 1) - 48 = 1 ∨ x (p + 1) - 48 = 2 ∨ x (p + 1) - 48 = 3 ∨ x (p + 1) - 48 = 4 ∨ x (p + 1) - 48 = 5 := by omega
        rcases kd with e | e | e | e | e | e
        · obtain ⟨T, t1, t2, t3, t4, t5, t6, t7, t8, t9⟩ := X4_new (S := S) (ci := 4) rfl (nI (x (p + 2) - 48)) (nI (10 * (x (p + 3) - 48) + (x (p + 4) - 48))) (nI (x (p + 5) - 48)) (nI (x (p + 6) - 48)) (nI (x (p + 7) - 48)) (nI (x (p + 8) - 48))
          have := X7_270 hS hl hH hB hk hx (ci := 4) rfl t2 t3 (by rw [e]; rfl) t4 t5 t6 t7 t8 t9 c1 c2 c3
          rw [e, if_pos (by decide), t1]
          exact this
        · obtain ⟨T, t1, t2, t3, t4, t5, t6, t7, t8, t9⟩ := X4_new (S := S) (ci := 0) rfl (nI (x (p + 2) - 48)) (nI (10 * (x (p + 3) - 48) + (x (p + 4) - 48))) (nI (x (p + 5) - 48)) (nI (x (p + 6) - 48)) (nI (x (p + 7) - 48)) (nI (x (p + 8) - 48))
          have := X7_270 hS hl hH hB hk hx (ci := 0) rfl t2 t3 (by rw [e]; rfl) t4 t5 t6 t7 t8 t9 c1 c2 c3
          rw [e, if_neg (by decide), if_pos (by decide), f_X0_init, t1]
          exact this
        · obtain ⟨T, t1, t2, t3, t4, t5, t6, t7, t8, t9⟩ := X4_new (S := S) (ci := 5) rfl (nI (x (p + 2) - 48)) (nI (10 * (x (p + 3) - 48) + (x (p + 4) - 48))) (nI (x (p + 5) - 48)) (nI (x (p + 6) - 48)) (nI (x (p + 7) - 48)) (nI (x (p + 8) - 48))
          have := X7_270 hS hl hH hB hk hx (ci := 5) rfl t2 t3 (by rw [e]; rfl) t4 t5 t6 t7 t8 t9 c1 c2 c3
          rw [e, if_neg (by decide), if_neg (by decide), if_pos (by decide), f_X5_init, t1]
          exact this
        · obtain ⟨T, t1, t2, t3, t4, t5, t6, t7, t8, t9⟩ := X4_new (S := S) (ci := 3) rfl (nI (x (p + 2) - 48)) (nI (10 * (x (p + 3) - 48) + (x (p + 4) - 48))) (nI (x (p + 5) - 48)) (nI (x (p + 6) - 48)) (nI (x (p + 7) - 48)) (nI (x (p + 8) - 48))
          have := X7_270 hS hl hH hB hk hx (ci := 3) rfl t2 t3 (by rw [e]; rfl) t4 t5 t6 t7 t8 t9 c1 c2 c3
          rw [e, if_neg (by decide), if_neg (by decide), if_neg (by decide), if_pos (by decide), f_X3_init, t1]
          exact this
        · obtain ⟨T, t1, t2, t3, t4, t5, t6, t7, t8, t9⟩ := X4_new (S := S) (ci := 8) rfl (nI (x (p + 2) - 48)) (nI (10 * (x (p + 3) - 48) + (x (p + 4) - 48))) (nI (x (p + 5) - 48)) (nI (x (p + 6) - 48)) (nI (x (p + 7) - 48)) (nI (x (p + 8) - 48))
          have := X7_270 hS hl hH hB hk hx (ci := 8) rfl t2 t3 (by rw [e]; rfl) t4 t5 t6 t7 t8 t9 c1 c2 c3
          rw [e, if_neg (by decide), if_neg (by decide), if_neg (by decide), if_neg (by decide), if_pos (by decide), f_X8_init, f_X0_init, t1]
          exact this
        · obtain ⟨T, t1, t2, t3, t4, t5, t6, t7, t8, t9⟩ := X4_new (S := S) (ci := 2) rfl (nI (x (p + 2) - 48)) (nI (10 * (x (p + 3) - 48) + (x (p + 4) - 48))) (nI (x (p + 5) - 48)) (nI (x (p + 6) - 48)) (nI (x (p + 7) - 48)) (nI (x (p + 8) - 48))
          have := X7_270 hS hl hH hB hk hx (ci := 2) rfl t2 t3 (by rw [e]; rfl) t4 t5 t6 t7 t8 t9 c1 c2 c3
          rw [e, if_neg (by decide), if_neg (by decide), if_neg (by decide), if_neg (by decide), if_neg (by decide), if_pos (by decide), f_X2_init, f_X8_init, f_X0_init, t1]
          exact this
      · have ne : ∀ j : Nat, j ≤ 5 → ¬ nI (x (p + 1) - 48) = nI j := fun j hj e => by have := (nI_eq (by omega) (by omega)).mp e; omega
        refine no _ (by rw [apL, if_pos hx, if_neg (fun q => c1 q.1)]) ?_
        rw [if_neg (show ¬ nI (x (p + 1) - 48) = 0 from ne 0 (by omega)), if_neg (show ¬ nI (x (p + 1) - 48) = 1 from ne 1 (by omega)), if_neg (show ¬ nI (x (p + 1) - 48) = 2 from ne 2 (by omega)), if_neg (show ¬ nI (x (p + 1) - 48) = 3 from ne 3 (by omega)), if_neg (show ¬ nI (x (p + 1) - 48) = 4 from ne 4 (by omega)), if_neg (show ¬ nI (x (p + 1) - 48) = 5 from ne 5 (by omega))]
    · exact no _ (by rw [apL, if_pos hx, if_neg (fun q => c3 q.2.2.1)]) (by rw [if_pos (by simp [c3])])
  · exact no _ (by rw [apL, if_pos hx, if_neg (fun q => c2 q.2.1)]) (by rw [if_pos (by simp [c2])])
/-- all statements from one on -/
def tlL (x : Nat → Nat) (s : Nat) : Nat → Vw → Nat → Nat → Option Vw × Int32
  | 0, W, _, k => (some W, nI k)
  | d + 1, W, n, k => match apL x s W n (qL x s k) with
    | none => (none, -2000 - nI (qL x s k))
    | some (W', n') => tlL x s d W' n' (k + 1)
theorem X7_tl {N : Nat} (hN : ∀ i, i < N → okL x s (qL x s i) = true) (hsN : s ≤ qL x s N) : ∀ (d fuel k n : Nat) (S : Mm), k + d = N → d < fuel → Sh S.2 → LtC x s S → HsZ S.2 9 → Bd (lV S 9) n → ∃ S', f_X7_tellTo_20 fuel S 29 9 (nI k) (nI (qL x s k)) = some ((tlL x s d (lV S 9) n k).2, S') ∧ Gx [9, 11, 12, 13, 15] [10] S S' ∧ HsZ S'.2 9 ∧ ∀ W', (tlL x s d (lV S 9) n k).1 = some W' → lV S' 9 = W' ∧ (∃ n', Bd W' n') ∧ W' 0 2 = lV S 9 0 2 ∧ W' 0 3 = lV S 9 0 3 := by
  intro d
  induction d with
  | zero =>
    intro fuel k n S hk hf hS hl hH hB
    obtain ⟨g, rfl⟩ : ∃ g, fuel = g + 1 := ⟨fuel - 1, by omega⟩
    obtain rfl : k = N := by omega
    have h96 := hl.1
    have q2 := qL_le x s k hN
    refine ⟨S, ?_, Gx.rf, hH, fun W' e => ?_⟩
    · rw [f_X7_tellTo_20, hl.g hS]
      simp only [Option.bind_some]
      rw [if_pos (by rw [nI_lei (by omega) (by omega)]; omega)]
      rfl
    · injection e with e
      rw [← e]
      exact ⟨rfl, ⟨n, hB⟩, rfl, rfl⟩
  | succ d ih =>
    intro fuel k n S hk hf hS hl hH hB
    obtain ⟨g, rfl⟩ : ∃ g, fuel = g + 1 := ⟨fuel - 1, by omega⟩
    have h96 := hl.1
    have hkk := hN k (by omega)
    obtain ⟨hh, e1, e2, e3⟩ := okL_t x s hkk
    have hps : qL x s k < s := by omega
    have eos : f_X7_endOfStatement S 29 (nI (qL x s k)) = some (nI (enL x s (qL x s k)), S) := by
      rw [f_X7_endOfStatement, if_pos (hS.o29.ok S rfl)]
      exact X7_eos hS hl hkk (enL x s (qL x s k) - qL x s k) FU _ (by omega) (by show _ < 3000; omega) (Nat.le_refl _)
    have main : ∃ r, TlC x s S n (qL x s k) r ∧ f_X7_tellTo_20 (g + 1) S 29 9 (nI k) (nI (qL x s k)) = r.bind fun q => f_X7_tellTo_129 (f_X7_tellTo_20 g) q.2 29 9 (nI k) (nI (qL x s k)) (nI (enL x s (qL x s k))) q.1 := by
      rw [f_X7_tellTo_20, hl.g hS]
      simp only [Option.bind_some]
      rw [if_neg (by rw [nI_lei (by omega) (by omega)]; omega), eos]
      simp only [Option.bind_some]
      rw [hS.gl S rfl]
      simp only [Option.bind_some]
      rw [hl.a hS hps]
      simp only [Option.bind_some]
      rcases hdL_t x hh with hx | hx | hx | hx
      · exact ⟨_, X7_tellHouse hS hl hH hB hkk hx, by rw [hx, if_pos (by decide)]⟩
      · exact ⟨_, X7_tellPrice hS hl hH hB hkk hx, by rw [hx, if_neg (by decide), if_neg (by decide), if_pos (by decide)]⟩
      · exact ⟨_, X7_tellLaw hS hl hH hB hkk hx, by rw [hx, if_neg (by decide), if_pos (by decide)]⟩
      · exact ⟨_, X7_tellDebt hS hl hH hB hkk hx, by rw [hx, if_neg (by decide), if_neg (by decide), if_neg (by decide)]⟩
    obtain ⟨r, ⟨S1, rfl, g1, g2, g3⟩, hr⟩ := main
    rw [hr, tlL]
    simp only [Option.bind_some, f_X7_tellTo_129]
    cases ha : apL x s (lV S 9) n (qL x s k) with
    | none => exact ⟨S1, by rw [if_pos (show b2i (none : Option (Vw × Nat)).isSome = 0 from rfl)], g1, g2, fun W' e => by cases e⟩
    | some q =>
      obtain ⟨W1, n1⟩ := q
      obtain ⟨b1, b2, b3⟩ := ap_ok hB hkk ha
      have hv := g3 W1 n1 ha
      have hS1 : Sh S1.2 := hS.x g1.1 (by simp)
      have hl1 := hl.gx g1 hS.nf (by simp) (by simp)
      obtain ⟨S2, c1, c2, c3, c4⟩ := ih g (k + 1) n1 S1 (by omega) (by omega) hS1 hl1 g2 (by rw [hv]; exact b1)
      rw [hv] at c1 c4
      refine ⟨S2, ?_, g1.tr c2, c3, fun W' e => ?_⟩
      · rw [Option.isSome_some, if_neg (by decide), nI_1, nI_1]
        exact c1
      · obtain ⟨d1, d2, d3, d4⟩ := c4 W' e
        exact ⟨d1, d2, d3.trans b2, d4.trans b3⟩
end
