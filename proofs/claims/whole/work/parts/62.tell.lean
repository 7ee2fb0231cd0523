/-! letters: the class tells its mountain in mind -/
theorem goodI_d {d : Nat} (hd : d < 2 ^ 30) : goodI (nI d) = decide (d < 3) := by
  have h1 : (0 : Int32) ≤ nI d := by rw [show (0 : Int32) = nI 0 from rfl, nI_lei (by omega) hd]; omega
  rw [goodI, decide_eq_true h1, Bool.true_and]
  exact decide_eq_decide.mpr (nI_lti (b := 3) hd (by omega))
theorem twoV_d {V : Vw} {n a b : Nat} (hn : V 0 0 = nI n) (h6 : n ≤ 6) (ha : a < 100) (hb : b < 100) : twoV V (nI a) (nI b) = decide (a < n ∧ b < n ∧ a ≠ b) := by
  have H : ∀ c, c < 100 → hasV V (nI c) = decide (c < n) := fun c hc => by
    have h1 : (0 : Int32) ≤ nI c := by rw [show (0 : Int32) = nI 0 from rfl, nI_lei (by omega) (by omega)]; omega
    rw [hasV, decide_eq_true h1, Bool.true_and, hn]
    exact decide_eq_decide.mpr (nI_lti (by omega) (by omega))
  have e : decide (nI a ≠ nI b) = decide (a ≠ b) := decide_eq_decide.mpr (not_congr (nI_eq (by omega) (by omega)))
  rw [twoV, H a ha, H b hb, e, Bool.decide_and, Bool.decide_and, Bool.and_assoc]
theorem lV_newG {S T S' : Mm} {a ci : Nat} {F : Nat → Int32} (hS : Sh S.2) (hH : HsZ S.2 9) (ha : a < 6) (hT : T.2 = (nC S ci 0).2) (hm : ∀ c, c ≠ mX S → mI T c = mI S c) (h0 : kOf ci = F 1) (h1 : ∀ i, i ≤ 5 → mI T (mX S) i = F (i + 2)) (hF : isF ci = true) (hS' : S' = sR T 10 a (some (mX S))) : lV S' 9 = hsW (lV S 9) a F ∧ HsZ S'.2 9 ∧ Gx [] [10] S S' := by
  have x55 : 55 ≤ mX S := hS.nf.1
  have mS' : mI S' = mI T := by rw [hS']; rfl
  have low : ∀ c, c < 55 → mI S' c = mI S c := fun c hc => by rw [mS', hm c (by omega)]
  have R' : ∀ k, S'.2.1 10 k = if k = a then some (mX S) else S.2.1 10 k := fun k => by
    rw [hS']
    show u2 T.2.1 10 a (some (mX S)) 10 k = _
    rw [hT]
    unfold u2
    by_cases hk : k = a
    · rw [if_pos ⟨rfl, hk⟩, if_pos hk]
    · rw [if_neg (fun q => hk q.2), if_neg hk]
      exact congrFun (va_up_ne S.2.1 (fun _ => none) (show 10 ≠ mX S by omega)) k
  have C' : ∀ c, c < mX S → S'.2.2.1 c = S.2.2.1 c := fun c hc => by
    rw [hS']
    show T.2.2.1 c = _
    rw [hT]
    exact va_up_ne _ _ (Nat.ne_of_lt hc)
  have Cn : S'.2.2.1 (mX S) = ci := by
    rw [hS']
    show T.2.2.1 (mX S) = _
    rw [hT]
    exact va_up_self _ _ _
  have Xn : S'.2.2.2.2 = mX S + 1 := by
    rw [hS']
    show T.2.2.2.2 = _
    rw [hT]
    rfl
  have hra : hrf S'.2 9 a = mX S := by
    rw [hrf, show (9 : Nat) + 1 = 10 from rfl, R' a, if_pos rfl]
    rfl
  have hrk : ∀ k, k ≠ a → hrf S'.2 9 k = hrf S.2 9 k := fun k hk => by rw [hrf, hrf, show (9 : Nat) + 1 = 10 from rfl, R' k, if_neg hk]
  refine ⟨?_, fun k hk => ?_, ?_, fun c hc _ => by rw [mS', hm c (Nat.ne_of_lt hc)]⟩
  · funext r k
    by_cases hk : k < ml r
    · rw [lV, if_pos hk]
      by_cases r0 : r = 0
      · subst r0
        rw [hsW_ne (by omega), lV_at hk]
        show mI S' 9 _ = mI S 9 _
        rw [low 9 (by omega)]
      by_cases r1 : r = 1
      · subst r1
        have hk6 : k < 6 := hk
        show kOf (S'.2.2.1 (hrf S'.2 9 k)) = _
        by_cases hka : k = a
        · subst hka
          rw [hsW, if_pos (by omega), hra, Cn]
          exact h0
        · rw [hsW_ne (by omega), lV_at hk, hrk k hka, C' _ (hH.h hk6).2.1]
          rfl
      by_cases r8 : r = 8
      · subst r8
        rw [hsW_ne (by omega), lV_at hk]
        show mI S' (9 + 2) k = mI S (9 + 2) k
        rw [low (9 + 2) (by omega)]
      by_cases r9 : r = 9
      · subst r9
        rw [hsW_ne (by omega), lV_at hk]
        show mI S' (9 + 3) k = mI S (9 + 3) k
        rw [low (9 + 3) (by omega)]
      by_cases r10 : r = 10
      · subst r10
        rw [hsW_ne (by omega), lV_at hk]
        show mI S' (9 + 6) k = mI S (9 + 6) k
        rw [low (9 + 6) (by omega)]
      by_cases r11 : r = 11
      · subst r11
        rw [hsW_ne (by omega), lV_at hk]
        show mI S' (9 + 4) k = mI S (9 + 4) k
        rw [low (9 + 4) (by omega)]
      obtain ⟨k6, r8'⟩ := ml6 hk r0 r9 r10 r11
      rw [lrow_h r0 r1 r8 r9 r10 r11]
      by_cases hka : k = a
      · subst hka
        rw [hra, mS', hsW, if_pos (by omega), h1 (r - 2) (by omega), show r - 2 + 2 = r by omega]
      · rw [hsW_ne (by omega), lV_at hk, lrow_h r0 r1 r8 r9 r10 r11, hrk k hka, mS', hm _ (Nat.ne_of_lt (hH.h k6).2.1)]
    · have hka : ¬ (k = a ∧ 1 ≤ r ∧ r ≤ 7) := fun q => hk (by
        rw [q.1]
        have : r = 1 ∨ r = 2 ∨ r = 3 ∨ r = 4 ∨ r = 5 ∨ r = 6 ∨ r = 7 := by omega
        rcases this with rfl | rfl | rfl | rfl | rfl | rfl | rfl <;> exact ha)
      rw [hsW_ne hka, lV, lV, if_neg hk, if_neg hk]
  · show ∃ r, S'.2.1 (9 + 1) k = some r ∧ r < S'.2.2.2.2 ∧ isF (S'.2.2.1 r) = true
    rw [show (9 : Nat) + 1 = 10 from rfl, R' k]
    by_cases hka : k = a
    · rw [if_pos hka]
      exact ⟨mX S, rfl, by omega, by rw [Cn]; exact hF⟩
    · rw [if_neg hka]
      obtain ⟨r, r1, r2, r3⟩ := hH k hk
      exact ⟨r, r1, by rw [Xn]; exact Nat.lt_succ_of_lt r2, by rw [C' r r2]; exact r3⟩
  · rw [hS']
    refine Zx.tr (Z1 := T.2) ?_ (sR_zx (by simp))
    rw [hT]
    exact nC_zx.mono (by simp)
theorem X4_new {S : Mm} {ci : Nat} (hF : isF ci = true) (a1 a2 a3 a4 a5 a6 : Int32) : ∃ T, f_X4_init (nC S ci 0) (mX S) a1 a2 a3 a4 a5 a6 = some T ∧ T.2 = (nC S ci 0).2 ∧ (∀ c, c ≠ mX S → mI T c = mI S c) ∧ mI T (mX S) 0 = a1 ∧ mI T (mX S) 1 = a2 ∧ mI T (mX S) 2 = a3 ∧ mI T (mX S) 3 = a4 ∧ mI T (mX S) 4 = a5 ∧ mI T (mX S) 5 = a6 := by
  obtain ⟨N, hN⟩ : ∃ N, N = nC S ci 0 := ⟨_, rfl⟩
  have hcx : ∀ T : Mm, T.2 = N.2 → okF T (mX S) = true := fun T hT => by
    have hx : mX T = mX S + 1 := by rw [mX, hT, hN]; rfl
    have hc : mC T (mX S) = ci := by rw [mC, hT, hN]; exact va_up_self _ _ _
    simp only [okF, Bool.and_eq_true, decide_eq_true_eq]
    exact ⟨by omega, by rw [hc]; exact hF⟩
  have p : ∀ (T : Mm) (j : Nat) (v : Int32), T.2 = N.2 → pF T (mX S) j v = some (sI T (mX S) j v) := fun T j v hT => by rw [pF, if_pos (hcx T hT)]
  refine ⟨sI (sI (sI (sI (sI (sI N (mX S) 0 a1) (mX S) 1 a2) (mX S) 2 a3) (mX S) 3 a4) (mX S) 4 a5) (mX S) 5 a6, ?_, by rw [hN]; rfl, fun a ha => ?_, ?_, ?_, ?_, ?_, ?_, ?_⟩
  · rw [← hN]
    simp only [f_X4_init, p, sI_2, Option.bind_some]
  · funext k
    simp only [mI_s]
    rw [if_neg (fun q => ha q.1), if_neg (fun q => ha q.1), if_neg (fun q => ha q.1), if_neg (fun q => ha q.1), if_neg (fun q => ha q.1), if_neg (fun q => ha q.1), hN, nC_mI ha]
  all_goals simp [mI_s]
section
variable {x : Nat → Nat} {s : Nat} {S : Mm} {n p : Nat}
theorem LtC.gx {cs ws : List Nat} {S S' : Mm} (hl : LtC x s S) (hG : Gx cs ws S S') (hN : NoF S.2) (h1 : 29 ∉ cs) (h2 : 30 ∉ cs) : LtC x s S' := by
  have x55 : 55 ≤ mX S := hN.1
  exact ⟨hl.1, by rw [hG.2 29 (by omega) h1]; exact hl.2.1, fun k hk => by rw [hG.2 30 (by omega) h2]; exact hl.2.2 k hk⟩
theorem nI_c (a k : Nat) {c : Int32} (h : nI k = c) : nI a + c = nI (a + k) := by rw [← h, nI_add]
/-- what telling one statement gives -/
def TlC (x : Nat → Nat) (s : Nat) (S : Mm) (n p : Nat) (r : Option (Int32 × Mm)) : Prop := ∃ S', r = some (b2i (apL x s (lV S 9) n p).isSome, S') ∧ Gx [9, 11, 12, 13, 15] [10] S S' ∧ HsZ S'.2 9 ∧ ∀ W' n', apL x s (lV S 9) n p = some (W', n') → lV S' 9 = W'
theorem X7_tellLaw (hS : Sh S.2) (hl : LtC x s S) (hH : HsZ S.2 9) (hB : Bd (lV S 9) n) (hk : okL x s p = true) (hx : x p = 108) : TlC x s S n p (f_X7_tellLaw S 29 9 (nI p)) := by
  have D : dgL x s (p + 1) = true := ok_d hk (by omega) (by rw [hx]; show 1 ≤ 1; omega)
  have d1 := dgL_t x s D
  have ea : apL x s (lV S 9) n p = if x (p + 1) - 48 < 3 then some (u2 (lV S 9) 0 1 (nI (x (p + 1) - 48)), n) else none := by rw [apL, if_neg (by omega), if_neg (by omega), if_pos hx]
  unfold TlC
  rw [f_X7_tellLaw, if_pos (hS.o29.ok S rfl), nI_1, X7_dig hS hl D, ea]
  simp only [Option.bind_some, X11_isLaw, lawI_g, goodI_d (show x (p + 1) - 48 < 2 ^ 30 by omega), b2i_0]
  by_cases h : x (p + 1) - 48 < 3
  · rw [if_neg (by simp [h]), if_pos h, hS.l9.p S _ _ rfl]
    refine ⟨_, rfl, Gx.ag (Ag.sI (by simp)), hH, fun W' n' e => ?_⟩
    injection e with e
    injection e with e1 e2
    rw [← e1]
    exact lV_s hH (hS.nf.2 9 (by omega) (by omega) (by omega) (by omega)) (show 1 < ml 0 by decide) (Or.inl ⟨rfl, rfl, rfl⟩)
  · rw [if_pos (by simp [h]), if_neg h]
    exact ⟨S, rfl, Gx.rf, hH, fun W' n' e => by cases e⟩
theorem X7_tellPrice (hS : Sh S.2) (hl : LtC x s S) (hH : HsZ S.2 9) (hB : Bd (lV S 9) n) (hk : okL x s p = true) (hx : x p = 112) : TlC x s S n p (f_X7_tellPrice S 29 9 (nI p)) := by
  have D1 : dgL x s (p + 1) = true := ok_d hk (by omega) (by rw [hx]; show 1 ≤ 2; omega)
  have D2 : dgL x s (p + 2) = true := ok_d hk (by omega) (by rw [hx]; show 2 ≤ 2; omega)
  have d1 := dgL_t x s D1
  have d2 := dgL_t x s D2
  have ea : apL x s (lV S 9) n p = if x (p + 1) - 48 < 3 ∧ 0 < x (p + 2) - 48 then some (u2 (lV S 9) 11 (x (p + 1) - 48) (nI (x (p + 2) - 48)), n) else none := by rw [apL, if_neg (by omega), if_pos hx]
  unfold TlC
  rw [f_X7_tellPrice, if_pos (hS.o29.ok S rfl), nI_1, nI_c p 2 (show nI 2 = 2 from rfl), X7_dig hS hl D1, ea]
  simp only [Option.bind_some]
  rw [X7_dig hS hl D2]
  simp only [Option.bind_some, X11_isGood, goodI_d (show x (p + 1) - 48 < 2 ^ 30 by omega), b2i_0, f_X7_tellPrice_37]
  by_cases h : x (p + 1) - 48 < 3
  · rw [if_neg (by simp [h])]
    by_cases h2 : 0 < x (p + 2) - 48
    · rw [if_neg (by rw [show (1 : Int32) = nI 1 from rfl, nI_lti (by omega) (by omega)]; omega), if_pos (by rw [show (9 : Int32) = nI 9 from rfl, nI_lei (by omega) (by omega)]; omega), if_pos ⟨h, h2⟩, hS.l9.g4 S rfl]
      simp only [Option.bind_some]
      rw [hS.l9.A4.st S _ _ rfl h]
      refine ⟨_, rfl, Gx.ag (Ag.sI (by simp)), hH, fun W' n' e => ?_⟩
      injection e with e
      injection e with e1 e2
      rw [← e1]
      exact lV_s hH (hS.nf.2 13 (by omega) (by omega) (by omega) (by omega)) (show x (p + 1) - 48 < ml 11 from h) (by simp)
    · rw [if_pos (by rw [show (1 : Int32) = nI 1 from rfl, nI_lti (by omega) (by omega)]; omega), if_neg (fun q => h2 q.2)]
      exact ⟨S, rfl, Gx.rf, hH, fun W' n' e => by cases e⟩
  · rw [if_pos (by simp [h]), if_neg (fun q => h q.1)]
    exact ⟨S, rfl, Gx.rf, hH, fun W' n' e => by cases e⟩
theorem X7_tellDebt (hS : Sh S.2) (hl : LtC x s S) (hH : HsZ S.2 9) (hB : Bd (lV S 9) n) (hk : okL x s p = true) (hx : x p = 100) : TlC x s S n p (f_X7_tellDebt S 29 9 (nI p) (nI (enL x s p))) := by
  have h6 := hB.le
  have D1 : dgL x s (p + 1) = true := ok_d hk (by omega) (by rw [hx]; show 1 ≤ 2; omega)
  have D2 : dgL x s (p + 2) = true := ok_d hk (by omega) (by rw [hx]; show 2 ≤ 2; omega)
  have d1 := dgL_t x s D1
  have d2 := dgL_t x s D2
  obtain ⟨hh, e1, e2, e3⟩ := okL_t x s hk
  rw [hx] at e1
  have e1' : p + 1 + 3 ≤ enL x s p := e1
  have nu : f_X7_number S 29 (nI (p + 3)) (nI (enL x s p)) = some (nI (nmL x (enL x s p - (p + 3)) (p + 3) 0), S) := by
    have := X7_num (p := p + 3) (c := enL x s p - (p + 3)) hS hl (by omega) (fun q q1 q2 => ok_dg x s hk (by omega) (by omega))
    rwa [show p + 3 + (enL x s p - (p + 3)) = enL x s p by omega] at this
  have ea : apL x s (lV S 9) n p = if x (p + 1) - 48 < n ∧ x (p + 2) - 48 < n ∧ x (p + 1) - 48 ≠ x (p + 2) - 48 then some (u2 (lV S 9) 10 (6 * (x (p + 1) - 48) + (x (p + 2) - 48)) (nI (nmL x (enL x s p - (p + 3)) (p + 3) 0)), n) else none := by rw [apL, if_neg (by omega), if_neg (by omega), if_neg (by omega)]
  unfold TlC
  rw [f_X7_tellDebt, if_pos (hS.o29.ok S rfl), nI_1, nI_c p 2 (show nI 2 = 2 from rfl), nI_c p 3 (show nI 3 = 3 from rfl), X7_dig hS hl D1, ea]
  simp only [Option.bind_some]
  rw [X7_dig hS hl D2]
  simp only [Option.bind_some, X6_areTwo hS.l9, twoV_d hB.sz h6 (show x (p + 1) - 48 < 100 by omega) (show x (p + 2) - 48 < 100 by omega), b2i_0]
  by_cases h : x (p + 1) - 48 < n ∧ x (p + 2) - 48 < n ∧ x (p + 1) - 48 ≠ x (p + 2) - 48
  · rw [decide_eq_true h, if_neg (by simp), if_pos h, hS.l9.g5 S rfl]
    simp only [Option.bind_some]
    rw [nu]
    simp only [Option.bind_some]
    rw [X1_put hS.l9 (by omega)]
    refine ⟨_, rfl, Gx.ag (Ag.sI (by simp)), hH, fun W' n' e => ?_⟩
    injection e with e
    injection e with e1 e2
    rw [← e1]
    exact lV_s hH (hS.nf.2 15 (by omega) (by omega) (by omega) (by omega)) (show 6 * (x (p + 1) - 48) + (x (p + 2) - 48) < ml 10 from (by show _ < 36; omega)) (by simp)
  · rw [decide_eq_false h, if_pos rfl, if_neg h]
    exact ⟨S, rfl, Gx.rf, hH, fun W' n' e => by cases e⟩
end
