/-! cellar -/
theorem Bd.u1r {V : Vw} {n h q : Nat} (hB : Bd V n) (hq : q ≤ 5) : Bd (u2 V 1 h (nI q)) n := by
  refine ⟨hB.le, by rw [u2_ne (by omega)]; exact hB.sz, by rw [u2_ne (by omega)]; exact hB.lw, hB.r1.set (fun _ => hq), hB.r2.set (by omega), hB.r3.set (by omega), hB.r4.set (by omega), hB.r5.set (by omega), hB.r6.set (by omega), hB.r7.set (by omega), hB.r8.set (by omega), hB.r9.set (by omega), hB.r10.set (by omega), fun k hk => by rw [u2_ne (by omega)]; exact hB.r11 k hk, fun a h1 h2 => ?_, fun a b h1 h2 h3 => by rw [u2_ne (by omega)]; exact hB.z10 a b h1 h2 h3⟩
  rw [u2_ne (by omega)]
  exact ⟨(hB.z9 a h1 h2).1, fun g hg => by rw [u2_ne (by omega)]; exact (hB.z9 a h1 h2).2 g hg⟩
theorem Bd.u2r {V : Vw} {n h q : Nat} (hB : Bd V n) (hq : q ≤ 9) : Bd (u2 V 2 h (nI q)) n := by
  refine ⟨hB.le, by rw [u2_ne (by omega)]; exact hB.sz, by rw [u2_ne (by omega)]; exact hB.lw, hB.r1.set (by omega), hB.r2.set (fun _ => hq), hB.r3.set (by omega), hB.r4.set (by omega), hB.r5.set (by omega), hB.r6.set (by omega), hB.r7.set (by omega), hB.r8.set (by omega), hB.r9.set (by omega), hB.r10.set (by omega), fun k hk => by rw [u2_ne (by omega)]; exact hB.r11 k hk, fun a h1 h2 => ?_, fun a b h1 h2 h3 => by rw [u2_ne (by omega)]; exact hB.z10 a b h1 h2 h3⟩
  rw [u2_ne (by omega)]
  exact ⟨(hB.z9 a h1 h2).1, fun g hg => by rw [u2_ne (by omega)]; exact (hB.z9 a h1 h2).2 g hg⟩
theorem nC_zx {S : Mm} {ci n : Nat} : Zx [] S.2 (nC S ci n).2 := ⟨Nat.le_succ _, fun a ha => ⟨va_up_ne _ _ (Nat.ne_of_lt ha), va_up_ne _ _ (Nat.ne_of_lt ha)⟩, fun a j ha _ _ => congrFun (va_up_ne S.2.1 (fun _ => none) (Nat.ne_of_lt ha)) j⟩
theorem nC_mI {S : Mm} {ci n a : Nat} (h : a ≠ mX S) : mI (nC S ci n) a = mI S a := va_up_ne _ _ h
theorem X0_instead {S : Mm} {r : Nat} (hr : okF S r = true) (z : Int32) : ∃ S', f_X0_insteadOf S r z = some (mX S, S') ∧ S'.2 = (nC S 0 0).2 ∧ (∀ a, a ≠ mX S → mI S' a = mI S a) ∧ mI S' (mX S) 0 = z ∧ (∀ i, 1 ≤ i → i ≤ 5 → mI S' (mX S) i = mI S r i) := by
  obtain ⟨N, hN⟩ : ∃ N, N = nC S 0 0 := ⟨_, rfl⟩
  simp only [okF, Bool.and_eq_true, decide_eq_true_eq] at hr
  have hne : r ≠ mX S := Nat.ne_of_lt hr.1
  have zN : Zx [] S.2 N.2 := by rw [hN]; exact nC_zx
  have g : ∀ j, gF N r j = some (mI S r j) := fun j => by
    have h1 : okF N r = true := by
      simp only [okF, Bool.and_eq_true, decide_eq_true_eq]
      exact ⟨Nat.lt_of_lt_of_le hr.1 zN.1, by rw [show mC N r = mC S r from (zN.2.1 r hr.1).1]; exact hr.2⟩
    rw [gF, if_pos h1, hN, nC_mI hne]
  have hcx : ∀ T : Mm, T.2 = N.2 → okF T (mX S) = true := fun T hT => by
    have hx : mX T = mX S + 1 := by rw [mX, hT, hN]; rfl
    have hc : mC T (mX S) = 0 := by rw [mC, hT, hN]; exact va_up_self _ _ _
    simp only [okF, Bool.and_eq_true, decide_eq_true_eq]
    exact ⟨by omega, by rw [hc]; rfl⟩
  have p : ∀ (T : Mm) (j : Nat) (v : Int32), T.2 = N.2 → pF T (mX S) j v = some (sI T (mX S) j v) := fun T j v hT => by rw [pF, if_pos (hcx T hT)]
  refine ⟨sI (sI (sI (sI (sI (sI N (mX S) 0 z) (mX S) 1 (mI S r 1)) (mX S) 2 (mI S r 2)) (mX S) 3 (mI S r 3)) (mX S) 4 (mI S r 4)) (mX S) 5 (mI S r 5), ?_, by rw [hN]; rfl, fun a ha => ?_, ?_, fun i h1 h2 => ?_⟩
  · rw [f_X0_insteadOf, ← hN]
    simp only [g, Option.bind_some, f_X0_init, f_X4_init, p, sI_2]
  · funext k
    simp only [mI_s]
    rw [if_neg (fun q => ha q.1), if_neg (fun q => ha q.1), if_neg (fun q => ha q.1), if_neg (fun q => ha q.1), if_neg (fun q => ha q.1), if_neg (fun q => ha q.1), hN, nC_mI ha]
  · simp [mI_s]
  · have : i = 1 ∨ i = 2 ∨ i = 3 ∨ i = 4 ∨ i = 5 := by omega
    rcases this with rfl | rfl | rfl | rfl | rfl <;> simp [mI_s]
theorem lV_new {S T S' : Mm} {a : Nat} {z : Int32} (hS : Sh S.2) (hH : HsZ S.2 9) (ha : a < 6) (hT : T.2 = (nC S 0 0).2) (hm : ∀ c, c ≠ mX S → mI T c = mI S c) (h0 : mI T (mX S) 0 = z) (h1 : ∀ i, 1 ≤ i → i ≤ 5 → mI T (mX S) i = mI S (hrf S.2 9 a) i) (hS' : S' = sR T 10 a (some (mX S))) : lV S' 9 = u2 (u2 (lV S 9) 1 a 1) 2 a z := by
  have x55 : 55 ≤ mX S := hS.nf.1
  have mS' : mI S' = mI T := by rw [hS']; rfl
  have low : ∀ c, c < 55 → mI S' c = mI S c := fun c hc => by rw [mS', hm c (by omega)]
  have R' : ∀ k, S'.2.1 10 k = if k = a then some (mX S) else S.2.1 10 k := fun k => by
    rw [hS']
    show u2 T.2.1 10 a (some (mX S)) 10 k = _
    rw [hT]
    unfold u2
    by_cases hk : k = a
    · rw [if_pos ⟨rfl, hk⟩, if_pos hk]
    · rw [if_neg (fun q => hk q.2), if_neg hk]
      exact congrFun (va_up_ne S.2.1 (fun _ => none) (show 10 ≠ mX S by omega)) k
  have C' : ∀ c, c < mX S → S'.2.2.1 c = S.2.2.1 c := fun c hc => by
    rw [hS']
    show T.2.2.1 c = _
    rw [hT]
    exact va_up_ne _ _ (Nat.ne_of_lt hc)
  have Cn : S'.2.2.1 (mX S) = 0 := by
    rw [hS']
    show T.2.2.1 (mX S) = _
    rw [hT]
    exact va_up_self _ _ _
  have hra : hrf S'.2 9 a = mX S := by
    rw [hrf, show (9 : Nat) + 1 = 10 from rfl, R' a, if_pos rfl]
    rfl
  have hrk : ∀ k, k ≠ a → hrf S'.2 9 k = hrf S.2 9 k := fun k hk => by rw [hrf, hrf, show (9 : Nat) + 1 = 10 from rfl, R' k, if_neg hk]
  funext r k
  by_cases hk : k < ml r
  · rw [lV, if_pos hk]
    by_cases r0 : r = 0
    · subst r0
      rw [u2_ne (by omega), u2_ne (by omega), lV_at hk]
      show mI S' 9 _ = mI S 9 _
      rw [low 9 (by omega)]
    by_cases r1 : r = 1
    · subst r1
      have hk6 : k < 6 := hk
      rw [u2_ne (by omega)]
      show kOf (S'.2.2.1 (hrf S'.2 9 k)) = _
      by_cases hka : k = a
      · subst hka
        rw [u2_eq, hra, Cn]
        rfl
      · rw [u2_ne (by omega), lV_at hk, hrk k hka, C' _ (hH.h hk6).2.1]
        rfl
    by_cases r8 : r = 8
    · subst r8
      rw [u2_ne (by omega), u2_ne (by omega), lV_at hk]
      show mI S' (9 + 2) k = mI S (9 + 2) k
      rw [low (9 + 2) (by omega)]
    by_cases r9 : r = 9
    · subst r9
      rw [u2_ne (by omega), u2_ne (by omega), lV_at hk]
      show mI S' (9 + 3) k = mI S (9 + 3) k
      rw [low (9 + 3) (by omega)]
    by_cases r10 : r = 10
    · subst r10
      rw [u2_ne (by omega), u2_ne (by omega), lV_at hk]
      show mI S' (9 + 6) k = mI S (9 + 6) k
      rw [low (9 + 6) (by omega)]
    by_cases r11 : r = 11
    · subst r11
      rw [u2_ne (by omega), u2_ne (by omega), lV_at hk]
      show mI S' (9 + 4) k = mI S (9 + 4) k
      rw [low (9 + 4) (by omega)]
    obtain ⟨k6, r8'⟩ := ml6 hk r0 r9 r10 r11
    rw [lrow_h r0 r1 r8 r9 r10 r11]
    by_cases hka : k = a
    · subst hka
      rw [hra, mS']
      by_cases r2 : r = 2
      · subst r2
        rw [u2_eq]
        exact h0
      · rw [u2_ne (by omega), u2_ne (by omega), lV_at hk, lrow_h r0 r1 r8 r9 r10 r11]
        exact h1 (r - 2) (by omega) (by omega)
    · rw [u2_ne (by omega), u2_ne (by omega), lV_at hk, lrow_h r0 r1 r8 r9 r10 r11, hrk k hka, mS', hm _ (Nat.ne_of_lt (hH.h k6).2.1)]
  · have h12 : ¬ (r = 2 ∧ k = a) := fun q => hk (by rw [q.1, q.2]; exact ha)
    have h11 : ¬ (r = 1 ∧ k = a) := fun q => hk (by rw [q.1, q.2]; exact ha)
    rw [u2_ne h12, u2_ne h11, lV, lV, if_neg hk, if_neg hk]
theorem u2_back {V : Vw} {a : Nat} {x y : Int32} : u2 (u2 (u2 (u2 V 1 a x) 2 a y) 1 a (V 1 a)) 2 a (V 2 a) = V := by
  funext r k
  by_cases h2 : r = 2 ∧ k = a
  · rw [h2.1, h2.2, u2_eq]
  · rw [u2_ne h2]
    by_cases h1 : r = 1 ∧ k = a
    · rw [h1.1, h1.2, u2_eq]
    · rw [u2_ne h1, u2_ne h2, u2_ne h1]
set_option maxRecDepth 100000 in
theorem st_17 {j : Nat} {S : Mm} (hI : Inv j S) (x y z : Int32) : ∃ S', ls_17 0 33 S x y z = some S' ∧ Inv (j + 1) S' := by
  unfold ls_17
  have hS := hI.1
  have hv := hI.2.2.1
  have hH := hI.2.1.1
  obtain ⟨⟨n, hB⟩, ⟨w, w1, w2⟩, ⟨m, m1, m2⟩⟩ := hI.2.2.2.1
  have hM := hS.m
  have h6 := hB.le
  have eM := m15_mV S
  have hMk : ∀ k, ModZ (rfC S k).2 := fun k => hS.m
  have eMk : ∀ k, mV (m15 (rfC S k)) = mV S := fun k => by rw [m15_mV, rfC_mV]
  have hz : mV (m15 S) 0 0 = nI n := by rw [eM]; exact hB.sz
  have hzk : ∀ k, mV (m15 (rfC S k)) 0 0 = nI n := fun k => by rw [eMk]; exact hB.sz
  have qt : Inv (j + 1) (m15 S) := hI.qt (cs := [33]) (ws := []) (Gx.ag (Ag.m15 (by simp))) (by simp) (by unfold Fre; decide) (by decide) rfl rfl rfl hI.2.1.2.1 eM
  have ref : ∀ (k : Nat) (c : Int32), k < 7 → f_X11_cellar S 0 x y z = some (1000000000 - c, rfC S k) → f_X12_cellar (rfC S k) 33 x y z = some (1000000000 - c, rfM (m15 (rfC S k)) k) → ∃ S', ((f_X11_cellar S 0 x y z).bind fun q => (f_X12_cellar q.2 33 x y z).bind fun r => if q.1 = r.1 then some r.2 else none) = some S' ∧ Inv (j + 1) S' := fun k c hk h1 h2 => ⟨_, two (g := fun T => f_X12_cellar T 33 x y z) h1 h2, hI.rf hk⟩
  by_cases hh : hasV (mV S) x = true
  · by_cases hg : goodI y = true
    · by_cases h0 : 0 ≤ z
      · by_cases h9 : z ≤ 9
        · obtain ⟨a, a1, rfl⟩ := hasV_n hB.sz hB.le hh
          obtain ⟨g, g1, rfl⟩ := goodI_n hg
          obtain ⟨q, rfl, -, q9⟩ := rngI (lo := 0) (hi := 9) h0 h9 (by omega) (by omega)
          have ha : a < 6 := by omega
          have x55 : 55 ≤ mX S := hS.nf.1
          obtain ⟨S1, b1, b2, b3, b4, b5⟩ := X6_copyFrom (D := 9) (L := 1) (S := S) (by omega) (by omega) (by omega) hS.nf hS.l9 hS.l1 hH
          have hS1 : Sh S1.2 := hS.x b2.1 (by simp)
          have hH1 : HsZ S1.2 1 := hH.x hS.l1 b2.1 (by omega) (by simp)
          have v1 : lV S1 1 = mV S := by rw [lV_x b2 hS.nf hS.l1 hH (by omega) (by simp) (by unfold plain; decide) (by decide), hv]
          have v9 : lV S1 9 = mV S := by rw [b4, hv]
          have x1 : 55 ≤ mX S1 := hS1.nf.1
          obtain ⟨T, t1, t2, t3, t4, t5⟩ := X0_instead (okF_h hH1 ha) (nI q)
          obtain ⟨S2, hS2⟩ : ∃ S2, S2 = sR T 10 a (some (mX S1)) := ⟨_, rfl⟩
          have zT : Zx [] S1.2 T.2 := by rw [t2]; exact nC_zx
          have hST : Sh T.2 := hS1.x zT (by simp)
          have z2 : Zx [10] S1.2 S2.2 := (zT.mono (by simp)).tr (by rw [hS2]; exact sR_zx (by simp))
          have hG2 : Gx [] [10] S1 S2 := ⟨z2, fun c hc _ => by rw [hS2]; exact t3 c (Nat.ne_of_lt hc)⟩
          have hsS2 : Sh S2.2 := hS1.x z2 (by simp)
          have eh : ∀ i, 1 ≤ i → i ≤ 5 → mI S1 (hrf S1.2 1 a) i = mI S1 (hrf S1.2 9 a) i := fun i i1 i5 => by
            have k1 : lV S1 1 (i + 2) a = lV S1 9 (i + 2) a := by rw [v1, v9]
            have hml : a < ml (i + 2) := by
              have : i = 1 ∨ i = 2 ∨ i = 3 ∨ i = 4 ∨ i = 5 := by omega
              rcases this with rfl | rfl | rfl | rfl | rfl <;> exact ha
            rw [lV_at hml, lV_at hml, lrow_h (by omega) (by omega) (by omega) (by omega) (by omega) (by omega), lrow_h (by omega) (by omega) (by omega) (by omega) (by omega) (by omega)] at k1
            exact k1
          have w9 : lV S2 9 = u2 (u2 (mV S) 1 a 1) 2 a (nI q) := by rw [lV_new (T := T) hS1 b3 ha t2 t3 t4 (fun i i1 i5 => (t5 i i1 i5).trans (eh i i1 i5)) hS2, v9]
          have w1' : lV S2 1 = mV S := by rw [lV_x hG2 hS1.nf hS1.l1 hH1 (by omega) (by simp) (by unfold plain; simp) (by simp), v1]
          have hH2 : HsZ S2.2 1 := hH1.x hS1.l1 z2 (by omega) (by simp)
          have okn : okF T (mX S1) = true := by
            have hx : mX T = mX S1 + 1 := by rw [mX, t2]; rfl
            have hc : mC T (mX S1) = 0 := by rw [mC, t2]; exact va_up_self _ _ _
            simp only [okF, Bool.and_eq_true, decide_eq_true_eq]
            exact ⟨by omega, by rw [hc]; rfl⟩
          have h9S2 : HsZ S2.2 9 := fun k hk => by
            by_cases hka : k = a
            · refine ⟨mX S1, ?_, ?_, ?_⟩
              · rw [hS2, hka]
                exact u2_eq
              · rw [hS2]
                show mX S1 < T.2.2.2.2
                rw [t2]
                exact Nat.lt_succ_self _
              · rw [hS2]
                show isF (T.2.2.1 (mX S1)) = true
                rw [t2]
                show isF (va_up S1.2.2.1 (mX S1) 0 (mX S1)) = true
                rw [va_up_self]
                rfl
            · obtain ⟨r, r1, r2, r3⟩ := b3 k hk
              refine ⟨r, ?_, Nat.lt_of_lt_of_le r2 z2.1, by rw [(z2.2.1 r r2).1]; exact r3⟩
              rw [hS2]
              show u2 T.2.1 10 a (some (mX S1)) 10 k = some r
              rw [u2_ne (fun p => hka p.2), t2]
              exact (congrFun (va_up_ne S1.2.1 (fun _ => none) (show 10 ≠ mX S1 by omega)) k).trans r1
          have hG : Gx [9, 11, 12, 13, 15] [10] S S2 := (b2.mono (by simp +contextual) (by simp)).tr (hG2.mono (by simp) (by simp))
          have hB' : Bd (u2 (u2 (mV S) 1 a 1) 2 a (nI q)) n := (hB.u1r (q := 1) (by omega)).u2r q9
          have hM2 : ModZ S2.2 := hsS2.m
          have eM2 : mV (m15 S2) = mV S := by rw [m15_mV]; exact mV_x hG hS.nf (by simp)
          have hz2 : mV (m15 S2) 0 0 = nI n := by rw [eM2]; exact hB.sz
          obtain ⟨O, hO⟩ : ∃ O, O = sI (sI (m15 S2) 34 a 1) 35 a (nI q) := ⟨_, rfl⟩
          have zO : O.2 = S2.2 := by rw [hO]; rfl
          have hMO : ModZ O.2 := by rw [zO]; exact hM2
          have vO : mV O = u2 (u2 (mV S) 1 a 1) 2 a (nI q) := by rw [hO, mV_s (r := 2) (k := a) ha, mV_s (r := 1) (k := a) ha, eM2]
          have vE : mV (sI (sI O 34 a (mV S 1 a)) 35 a (mV S 2 a)) = mV S := by rw [mV_s (r := 2) (k := a) ha, mV_s (r := 1) (k := a) ha, vO, u2_back]
          refine ⟨_, two (g := fun T => f_X12_cellar T 33 (nI a) (nI g) (nI q)) (v := mostV (u2 (u2 (mV S) 1 a 1) 2 a (nI q)) n g - mostV (mV S) n g) (S1 := S2) (S2 := sI (sI O 34 a (mV S 1 a)) 35 a (mV S 2 a)) ?_ ?_, hI.md hG (by simp) h9S2 (Mf.m15.tr ?_) vE⟩
          · simp only [f_X11_cellar, hS.o S rfl, if_true, hS.g0 S rfl, X6_hasHouse' hS.l1, hv, hh, b2i_t, Option.bind_some, X11_isGood, hg, h0, h9, hS.g1 S rfl, b1, hS1.g1 S1 rfl, hS1.l9.g0 S1 rfl, hS1.g0 S1 rfl, hS1.l1.g0 S1 rfl, hS1.l1.hr hH1 ha, t1, hST.l9.q ha okn]
            rw [if_neg (by decide), if_neg (by decide), show sR T (9 + 1) a (some (mX S1)) = S2 from hS2.symm, hsS2.g1 S2 rfl]
            simp only [Option.bind_some]
            rw [X10_mostOf hsS2.l9 h9S2 (n := n) (by rw [w9]; exact hB') g1, w9]
            simp only [Option.bind_some]
            rw [hsS2.g0 S2 rfl]
            simp only [Option.bind_some]
            rw [X10_mostOf hsS2.l1 hH2 (n := n) (by rw [w1']; exact hB) g1, w1']
            rfl
          · simp only [f_X12_cellar, f_X12_cellar_45, hM2.o _ rfl, if_true, hM2.q, Option.bind_some, X12_isHouse hM2.u hz2 h6, eM2, hh, b2i_t, X12_isGood, hg, h0, h9, X12_mostOf hM2.u (show Bd (mV (m15 S2)) n by rw [eM2]; exact hB) g1, hM2.u.g4 _ rfl, hM2.u.g5 _ rfl, hM2.u.a34.ld _ a rfl ha, hM2.u.a35.ld _ a rfl ha, mv1 ha, mv2 ha, hM2.u.a34.st _ a _ rfl ha, hM2.u.g5 _ (sI_2 (m15 S2) 34 a 1), hM2.u.a35.st _ a _ (sI_2 (m15 S2) 34 a 1) ha]
            rw [if_neg (by decide), if_neg (by decide), if_pos (by decide), ← hO, X12_mostOf hMO (by rw [vO]; exact hB') g1, vO]
            simp only [Option.bind_some, hMO.g4 O rfl, hMO.a34.st O a _ rfl ha, hMO.g5 _ (sI_2 O 34 a (mV S 1 a)), hMO.a35.st _ a _ (sI_2 O 34 a (mV S 1 a)) ha]
          · rw [hO]
            exact ((Mf.sI (Or.inl (by omega)) (fun p => by omega)).tr (Mf.sI (Or.inl (by omega)) (fun p => by omega))).tr ((Mf.sI (Or.inl (by omega)) (fun p => by omega)).tr (Mf.sI (Or.inl (by omega)) (fun p => by omega)))
        · refine ref 6 (-6) (by omega) ?_ ?_
          · simp only [f_X11_cellar, f_X11_cellar_18, hS.o S rfl, if_true, hS.g0 S rfl, X6_hasHouse' hS.l1, hv, Option.bind_some, hh, b2i_t, X11_isGood, hg, h0, h9, (cR hS).2.2.2.2]
            rfl
          · simp only [f_X12_cellar, f_X12_cellar_20, f_X12_cellar_45, (hMk 6).o _ rfl, if_true, (hMk 6).q, Option.bind_some, X12_isHouse (hMk 6).u (hzk 6) h6, eMk, hh, b2i_t, X12_isGood, hg, h0, h9, (mR' (hMk 6).u).2.2.2.2]
            rfl
      · refine ref 4 (-4) (by omega) ?_ ?_
        · simp only [f_X11_cellar, f_X11_cellar_18, hS.o S rfl, if_true, hS.g0 S rfl, X6_hasHouse' hS.l1, hv, Option.bind_some, hh, b2i_t, X11_isGood, hg, h0, (cR hS).2.2.2.1]
          rfl
        · simp only [f_X12_cellar, f_X12_cellar_20, f_X12_cellar_45, (hMk 4).o _ rfl, if_true, (hMk 4).q, Option.bind_some, X12_isHouse (hMk 4).u (hzk 4) h6, eMk, hh, b2i_t, X12_isGood, hg, h0, (mR' (hMk 4).u).2.2.2.1]
          rfl
    · rw [Bool.not_eq_true] at hg
      refine ref 1 (-1) (by omega) ?_ ?_
      · simp only [f_X11_cellar, f_X11_cellar_18, hS.o S rfl, if_true, hS.g0 S rfl, X6_hasHouse' hS.l1, hv, Option.bind_some, hh, b2i_t, X11_isGood, hg, b2i_f, (cR hS).1]
        rfl
      · simp only [f_X12_cellar, f_X12_cellar_20, f_X12_cellar_45, (hMk 1).o _ rfl, if_true, (hMk 1).q, Option.bind_some, X12_isHouse (hMk 1).u (hzk 1) h6, eMk, hh, b2i_t, X12_isGood, hg, b2i_f, (mR' (hMk 1).u).1]
        rfl
  · rw [Bool.not_eq_true] at hh
    refine ref 1 (-1) (by omega) ?_ ?_
    · simp only [f_X11_cellar, f_X11_cellar_18, hS.o S rfl, if_true, hS.g0 S rfl, X6_hasHouse' hS.l1, hv, Option.bind_some, hh, b2i_f, (cR hS).1]
    · simp only [f_X12_cellar, f_X12_cellar_20, f_X12_cellar_45, (hMk 1).o _ rfl, if_true, (hMk 1).q, Option.bind_some, X12_isHouse (hMk 1).u (hzk 1) h6, eMk, hh, b2i_f, (mR' (hMk 1).u).1]
      rfl
