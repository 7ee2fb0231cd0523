section
variable {G : Gt} {l : Launch} {y : MethodName} {cc : ByteArray} {nL : Nat} {rt : Option FieldType} {t mc ms ce sl pc : Nat} {lv st : List Value} {S : Mm} {T : TG}
theorem isF_name {ci : Nat} (h : isF ci = true) : ∃ (C : String) (TT : u_T), vwCl[ci]? = some (C, TT, 6) ∧ (C = "GoodsDownhill$House" ∨ C ∈ nwC) := by
  rcases isF_c h with h | h | h | h | h | h <;> subst h
  · exact ⟨RX0, TX0, rfl, Or.inr (by decide)⟩
  · exact ⟨RX2, TX2, rfl, Or.inr (by decide)⟩
  · exact ⟨RX3, TX3, rfl, Or.inr (by decide)⟩
  · exact ⟨RX4, TX4, rfl, Or.inl rfl⟩
  · exact ⟨RX5, TX5, rfl, Or.inr (by decide)⟩
  · exact ⟨RX8, TX8, rfl, Or.inr (by decide)⟩
theorem isF_lt {ci : Nat} (h : isF ci = true) : ci < 100 := by rcases isF_c h with h | h | h | h | h | h <;> omega
theorem r_aastore {a r : Nat} {i : Int32} {S' : Mm} (hd : decode cc pc = .ok (.aastore, 1)) (h : aQ S a i r = some S') (K : Sat G l y cc nL rt t mc ms ce sl (pc + 1) lv st S' T) : Sat G l y cc nL rt t mc ms ce sl pc lv (.ref r :: .int i :: .ref a :: st) S T := by
  obtain ⟨hb, hx⟩ := oif h
  cases hx
  simp only [Bool.and_eq_true] at hb
  obtain ⟨⟨hb1, hb2⟩, hb3⟩ := hb
  obtain ⟨r1, r2⟩ := okF_s hb3
  obtain ⟨C, TT, hcl, hC0⟩ := isF_name r2
  intro p e s m args below meth c H locs ls hC hH hL
  have hin := inb_s hb2
  have h0 := cE_rar (G := G) hb1
  have hlt : i.toNatClampNeg < mN S a := Nat.not_le.mp fun q => hin (Or.inr q)
  have hi0 : ¬ i < 0 := fun q => hin (Or.inl q)
  have hK := hC.2.2.2.2.2.2.2.2.1
  have hv := cE_obj (G := G) (S := S) (a := r) (ci := mC S r) (by simp [okc, r1]) (isF_lt r2)
  obtain ⟨r', hr', cellV, g1, g2, g3, -⟩ := hH.1 r _ hv
  have hcls := (hK.1 _ _ hcl).2
  obtain ⟨kA, comp, k1, k2, k3, -⟩ := (hK.2 1 _ rfl).2
  obtain ⟨kE, hkE, -⟩ := Vm.findClass_spec k3
  obtain ⟨kC, hkC, -⟩ := hcls.2
  have hasg : s.vm.assignable (G.2.1.1 (mC S r)) comp = true := by
    rcases hC0 with hC0 | hC0
    · have e1 : comp = G.2.1.1 (mC S r) := Option.some.inj (k3.symm.trans (by rw [← hC0]; exact hcls.1))
      rw [e1]
      exact Vm.assignable_self _ _
    · exact vb_asgC (hC.2.2.2.2.2.2.2.2.2.1.2.1 C hC0) comp _ k3 hcls.1
  refine W.aast hC.1 hC.2.1 (hH.1 a _ h0) (fun q h => by cases h) (fun h => by cases h) k1 k2 rfl hkE ⟨hi0, by show _ < (arrV _ _ _).slots.size; rw [arrV_size]; exact hlt⟩ g1 (fun q h => by rw [g3] at h; cases h) (by rw [g2]; exact hkC) (by rw [g2]; exact hasg) rfl rfl hd fun H1 e1 z oq => ?_
  refine K p e s m args below meth c H1 _ ls hC (cW_put hH h0 (S' := sR S a i.toNatClampNeg (some r)) (E := .inl (G.2.2.2, mN S a, .inr (.inr (.inr (.inr (va_up (fun j => (mR S a j).map (fun r => G.1 + r)) i.toNatClampNeg (some (G.1 + r)))))))) rfl (fun k hk => cE_sR hk) ?_ ?_ z oq) hL
  · have hc : mC (sR S a i.toNatClampNeg (some r)) a = 101 := (okc_s hb1).2
    rw [cE, if_neg (by omega), if_pos hc]
    have hq : (fun j => (mR (sR S a i.toNatClampNeg (some r)) a j).map (fun r => G.1 + r)) = va_up (fun j => (mR S a j).map (fun r => G.1 + r)) i.toNatClampNeg (some (G.1 + r)) := by
      funext q
      by_cases hq : q = i.toNatClampNeg <;> simp [mR_sR, u2, va_up, hq]
    rw [hq]
    rfl
  · show H1[G.1 + a]? = some (vp_cell _ _)
    rw [e1]
    show some ((arrV G.2.2.2 (mN S a) (fun j => va_rf ((mR S a j).map (fun r => G.1 + r)))).setSlot _ _) = _
    rw [vp_cell_q, arrV_store]
    congr 2
    funext q
    by_cases hq : q = i.toNatClampNeg <;> simp [updV, va_up, va_rf, hq]
theorem cE_sW {a k : Nat} {f : Nat → Int32} (hk : k ≠ a) : cE G (sW S a f) k = cE G S k :=
  cE_congr (by show va_up S.1 a f k = _; rw [va_up_ne _ _ hk]; rfl) rfl rfl rfl
def arrcw (own : String) (ix : Nat) : Prop := Cond.methodLink own ix arraycopyName ∈ gtb ∧ Cond.native arraycopyName ∈ gtb ∧ Cond.static arraycopyName ∈ gtb ∧ Cond.initialized "java/lang/System" ∈ gtb
theorem r_copy {a b ix : Nat} {sp dp n : Int32} {S' : Mm} (hd : decode cc pc = .ok (.invokestatic ix, 3)) (hw : arrcw y.cls ix) (h : aC S a sp b dp n = some S') (ht : 1 ≤ t) (hst : (st.map fun v => v.category).sum + (nativeFrameWords "java/lang/System" "arraycopy" 5 + 11) ≤ 41 * t + 32) (K : Sat G l y cc nL rt t mc ms 0 sl (pc + 3) lv st S' T) : Sat G l y cc nL rt t mc ms 0 sl pc lv (.int n :: .int dp :: .ref b :: .int sp :: .ref a :: st) S T := by
  obtain ⟨hb, hx⟩ := oif h
  cases hx
  simp only [Bool.and_eq_true, decide_eq_true_eq] at hb
  obtain ⟨⟨⟨⟨⟨⟨b1, b2⟩, b3⟩, b4⟩, b5⟩, b6⟩, b7⟩ := hb
  intro p e s m args below meth c H locs ls hC hH hL
  have hts := hC.2.2.2.2.2.1
  have hw1 : ∀ w, w ∈ gtb → w.before args s = true := fun w h => hts _ h
  have hcat : ((st.map (cv G.1)).map fun v => v.category).sum = (st.map fun v => v.category).sum := by
    rw [List.map_map]; congr 1; exact List.map_congr_left (fun v _ => cv_cat v)
  intro T00 hT00 X00
  have hz0 : T00.heap.size ≤ s.heap.size + 0 := X00.same.2.2.1
  rw [hT00] at hz0
  refine (show W _ _ _ _ _ _ _ _ _ _ _ _ _ _ _ _ from va_copyi (D := G.2.1) (tys := tyG G) (ty := .int) hC.1 hC.2.1 (hC.2.2.2.1.trans hL.1.symm) hC.2.2.2.2.1 (hw1 _ hw.1) (hw1 _ hw.2.1) (hw1 _ hw.2.2.1) (hw1 _ hw.2.2.2) hC.2.2.2.2.2.2.2.2.1 hH.1 cW_D hH.2.2 a b 0 0 (cE_arr b1) (cE_arr b2) rfl rfl rfl (Int32.not_lt.mpr b3) (Int32.not_lt.mpr b4) (Int32.not_lt.mpr b5) b6 b7 (fun i hi => rfl) ht (by rw [hcat]; exact hst) hd (fun H1 locs1 hP hD hS => ?_)) T00 hT00 X00
  intro T0 hT0 X
  have hz1 : T0.heap.size ≤ s.heap.size + 0 := X.same.2.2.1
  have hz2 := hH.2.2.1
  have hz3 := hS.1
  rw [hT0] at hz1
  refine K p e s m args below meth c H1 locs1 ls hC ⟨?_, ?_, hS⟩ hL T0 hT0 X
  · rw [← cW_set (S := S) (S' := sW S b (va_cpy (mI S a) (mI S b) sp.toNatClampNeg dp.toNatClampNeg n.toNatClampNeg)) (a := b) (E := .inl (G.2.2.1, mN S b, .inl (va_cpy (mI S a) (mI S b) sp.toNatClampNeg dp.toNatClampNeg n.toNatClampNeg))) rfl (fun k hk => cE_sW hk) ?_]
    · exact hP
    · have hc : mC (sW S b (va_cpy (mI S a) (mI S b) sp.toNatClampNeg dp.toNatClampNeg n.toNatClampNeg)) b = 100 := (okc_s b2).2
      have hi : mI (sW S b (va_cpy (mI S a) (mI S b) sp.toNatClampNeg dp.toNatClampNeg n.toNatClampNeg)) b = va_cpy (mI S a) (mI S b) sp.toNatClampNeg dp.toNatClampNeg n.toNatClampNeg := va_up_self _ _ _
      rw [cE, if_pos hc, hi]
      rfl
  · have := hH.2.1
    show H1.size = G.1 + mX S
    omega
theorem r_min {ix : Nat} {a b : Int32} (hd : decode cc pc = .ok (.invokestatic ix, 3)) (hw : Cond.methodLink y.cls ix Lib.Math.min.name ∈ gtb ∧ Cond.static Lib.Math.min.name ∈ gtb ∧ Cond.initialized "java/lang/Math" ∈ gtb ∧ Cond.code Lib.Math.min.name Lib.Math.min.code 2 (some .int) ∈ gtb) (ht : 1 ≤ t) (hst : (st.map fun v => v.category).sum + 13 ≤ 41 * t + 32) (h1 : ce ≤ mc) (h2 : sl ≤ ms) (K : Sat G l y cc nL rt t mc ms ce sl (pc + 3) lv (.int (mnI a b) :: st) S T) : Sat G l y cc nL rt t mc ms ce sl pc lv (.int b :: .int a :: st) S T := by
  intro p e s m args below meth c H locs ls hC hH hL
  have hts := hC.2.2.2.2.2.1
  have hw1 : ∀ w, w ∈ gtb → w.before args s = true := fun w h => hts _ h
  have hcat : ((st.map (cv G.1)).map fun v => v.category).sum = (st.map fun v => v.category).sum := by
    rw [List.map_map]; congr 1; exact List.map_congr_left (fun v _ => cv_cat v)
  exact va_mmin hC.1 hC.2.1 (hC.2.2.2.1.trans hL.1.symm) hC.2.2.2.2.1 (hw1 _ hw.1) (hw1 _ hw.2.1) (hw1 _ hw.2.2.1) (hw1 _ hw.2.2.2) ht (by rw [hcat]; exact hst) h1 h2 hd (K p e s m args below meth c H locs ls hC hH hL)
theorem r_max {ix : Nat} {a b : Int32} (hd : decode cc pc = .ok (.invokestatic ix, 3)) (hw : Cond.methodLink y.cls ix Lib.Math.max.name ∈ gtb ∧ Cond.static Lib.Math.max.name ∈ gtb ∧ Cond.initialized "java/lang/Math" ∈ gtb ∧ Cond.code Lib.Math.max.name Lib.Math.max.code 2 (some .int) ∈ gtb) (ht : 1 ≤ t) (hst : (st.map fun v => v.category).sum + 13 ≤ 41 * t + 32) (h1 : ce ≤ mc) (h2 : sl ≤ ms) (K : Sat G l y cc nL rt t mc ms ce sl (pc + 3) lv (.int (mxI a b) :: st) S T) : Sat G l y cc nL rt t mc ms ce sl pc lv (.int b :: .int a :: st) S T := by
  intro p e s m args below meth c H locs ls hC hH hL
  have hts := hC.2.2.2.2.2.1
  have hw1 : ∀ w, w ∈ gtb → w.before args s = true := fun w h => hts _ h
  have hcat : ((st.map (cv G.1)).map fun v => v.category).sum = (st.map fun v => v.category).sum := by
    rw [List.map_map]; congr 1; exact List.map_congr_left (fun v _ => cv_cat v)
  exact va_mmax hC.1 hC.2.1 (hC.2.2.2.1.trans hL.1.symm) hC.2.2.2.2.1 (hw1 _ hw.1) (hw1 _ hw.2.1) (hw1 _ hw.2.2.1) (hw1 _ hw.2.2.2) ht (by rw [hcat]; exact hst) h1 h2 hd (K p e s m args below meth c H locs ls hC hH hL)
theorem r_objInit {ix a : Nat} (hd : decode cc pc = .ok (.invokespecial ix, 3)) (hw : Cond.methodLink y.cls ix Lib.objectInit ∈ gtb ∧ Cond.instanceMethod Lib.objectInit ∈ gtb ∧ Cond.code Lib.objectInit ⟨#[0xb1]⟩ 1 none ∈ gtb) (ht : 1 ≤ t) (hst : (st.map fun v => v.category).sum + 12 ≤ 41 * t + 32) (K : Sat G l y cc nL rt t mc ms ce sl (pc + 3) lv st S T) : Sat G l y cc nL rt t mc ms ce sl pc lv (.ref a :: st) S T := by
  intro p e s m args below meth c H locs ls hC hH hL
  have hts := hC.2.2.2.2.2.1
  have hw1 : ∀ w, w ∈ gtb → w.before args s = true := fun w h => hts _ h
  have hcat : ((st.map (cv G.1)).map fun v => v.category).sum = (st.map fun v => v.category).sum := by
    rw [List.map_map]; congr 1; exact List.map_congr_left (fun v _ => cv_cat v)
  refine W.objInit hC.1 hC.2.1 hC.2.2.2.2.1 (hw1 _ hw.1) (hw1 _ hw.2.1) (hw1 _ hw.2.2) rfl (hL.1.trans hC.2.2.2.1.symm) rfl hd ht ?_ (K p e s m args below meth c H locs ls hC hH hL)
  show 2 * 0 + ((st.map (cv G.1)).map fun v => v.category).sum + 12 ≤ 41 * t + 32
  rw [hcat]; omega
/-! calls -/
/-- what a call runs: the callee comes to R with the rest of the stack below its answer -/
theorem cc_go {p : Program} {e : Env} {s : State} {m : MethodId} {args : Array Value} {below : List Frame} {meth : Method} {c : Code} {H : Heap} {locs : List Loc} {ls : Array Slot} {R : Option Value × Mm} {mc' ms' : Nat} {a : Array Value} {st0 : List Value}
    (hr : va_Run p l e (rmm t mc ms) s m args below meth c H locs ce sl mc' ms' (F0 m pc ls st0) (st.map (cv G.1)) (Qm G R a) (fun q => G.1 ≤ q)) (hC : Cx G y cc nL rt T p s m args meth c) (hH : Hx G S s H locs) (hL : Lx G.1 ls nL lv) (K : Sat G l y cc nL rt t mc ms (ce + mc') (sl + ms') (pc + 3) lv (R.1.toList ++ st) R.2 T) :
    W p l e (rmm t mc ms) s m args below meth c H locs ce sl (QT G T mc ms below args s) (F0 m pc ls st0) := by
  intro T0 hT0 X
  obtain ⟨v, st₀, t1, T', L, h0, X', hL', e1, e2, ⟨⟨hv, hp, hb⟩, hz, hk⟩, stp⟩ := hr T0 hT0 X
  cases hv
  rw [h0] at hz hk
  obtain ⟨t2, a1, b1⟩ := K p e s m args below meth c T'.heap (locs ++ L) ls hC ⟨by rw [e1]; exact hp, by rw [e1]; exact hb, ⟨Nat.le_trans hH.2.2.1 (by rw [e1]; exact hz), fun q h1 h2 => by
      rw [e1, hk q (Nat.lt_of_lt_of_le h1 hH.2.2.1) h2]; exact hH.2.2.2.1 q h1 h2, fun q hq => by
      rcases List.mem_append.mp hq with h | h
      · exact hH.2.2.2.2 q h
      · exact hL' q h⟩⟩ hL T' rfl X'
  refine ⟨t2, stp t2 ?_, b1⟩
  have hm : (R.1.map (cv G.1)).toList ++ st.map (cv G.1) = (R.1.toList ++ st).map (cv G.1) := by cases R.1 <;> rfl
  rw [hm]
  exact a1
theorem cc_pre {as : List Value} {s : State} {H : Heap} {locs : List Loc} (hK : va_K G.2.1 vwCl (tyG G) s) (hN : NX s) (hH : Hx G S s H locs) : PreS s H (va_Pc (as.map (cv G.1)) (fun U => va_P G.2.1 vwCl (cW G S) U.heap ∧ U.heap.size = G.1 + mX S ∧ va_K G.2.1 vwCl (tyG G) U ∧ NX U)) (as.map (cv G.1)) :=
  ⟨fun a U g mk q => by
    obtain ⟨q0, q1, q2, q3, q4⟩ := q
    exact ⟨q0, q1, q2, va_K.moved (u := U) (U := U.calling g mk a) (Vm.Alike.refl U.vm) q3, q4.calls g mk a⟩,
   fun U hU hW => ⟨rfl, by rw [hU]; exact hH.1, by rw [hU]; exact hH.2.1, va_K.moved hW.alike hK, hN.warm hW⟩⟩
theorem st_cat {z : Nat} {st : List Value} : ((st.map (cv z)).map fun v => v.category).sum = (st.map fun v => v.category).sum := by
  rw [List.map_map]; congr 1; exact List.map_congr_left (fun v _ => cv_cat v)
/-- a method's words at a call -/
def MS (y' : MethodName) (cc' : ByteArray) (nL' : Nat) (rt' : Option FieldType) (n : Nat) : Prop := Cond.code y' cc' nL' rt' ∈ gtb ∧ Cond.initialized y'.cls ∈ gtb ∧ y'.cls ≠ "java/lang/invoke/MethodHandle" ∧ y'.cls ≠ "java/lang/invoke/VarHandle" ∧ (parseMethodDescriptor y'.desc).map (fun d => d.parameters.length) = some n
theorem r_callV {y' : MethodName} {cc' : ByteArray} {nL' ix ci a n : Nat} {rt' : Option FieldType} {t' mc' ms' : Nat} {as : List Value} {R : Option Value × Mm} {N : Nat} {TT : u_T} (hd : decode cc pc = .ok (.invokevirtual ix, 3)) (hM : MS y' cc' nL' rt' n) (hw : vwCl[ci]? = some (y'.cls, TT, N) ∧ Cond.methodLink y.cls ix y' ∈ gtb ∧ Cond.instanceMethod y' ∈ gtb ∧ Cond.selects y'.cls y' y' ∈ gtb) (ha : okc S a ci = true) (hc : CC G l y' cc' nL' rt' t' mc' ms' (.ref a :: as) S (.inl R)) (hn : as.length = n) (ht : t' + 1 ≤ t ∧ 8 + (nL' + 11) + (41 * t' + 32) ≤ 41 * t + 32) (hst : (st.map fun v => v.category).sum ≤ 8) (h1 : ce + mc' ≤ mc) (h2 : sl + ms' ≤ ms) {st0 : List Value} (hs0 : as.reverse ++ .ref a :: st = st0) (K : Sat G l y cc nL rt t mc ms (ce + mc') (sl + ms') (pc + 3) lv (R.1.toList ++ st) R.2 T) : Sat G l y cc nL rt t mc ms ce sl pc lv st0 S T := by
  subst hs0
  obtain ⟨R', hR', hM2⟩ := hc
  cases hR'
  intro p e s m args below meth c H locs ls hC hH hL
  have hts := hC.2.2.2.2.2.1
  have hK := hC.2.2.2.2.2.2.2.2.1
  have hw1 : ∀ w, w ∈ gtb → w.before args s = true := fun w h => hts _ h
  obtain ⟨w1, w2, w3, w4⟩ := hw
  have hpre := cc_pre (as := .ref a :: as) hK hC.2.2.2.2.2.2.2.2.2.1 hH
  refine cc_go (va_runV (C := y'.cls) (As := as.map (cv G.1)) (rest := st.map (cv G.1)) (n := n) (b := G.1 + a) ⟨hC.1, hC.2.1, hC.2.2.2.1, hC.2.2.2.2.1, hts⟩ hM2 ⟨callB_of n hts (gtb_good hM.1) rfl rfl rfl (hw1 _ hM.2.1) (hw1 _ w2) hM.2.2 ht, hw1 _ w3, hw1 _ w4⟩ ⟨hpre.1, va_recv hK hH.1 w1 (cE_obj ha (ci_lt w1)), hpre.2⟩ rfl (by rw [List.length_map]; exact hn) hL.1 ?_ (lv_room (by rw [st_cat]; exact hst)) hd ⟨h1, h2⟩) hC hH hL K
  show (as.reverse ++ .ref a :: st).map (cv G.1) = _
  rw [List.map_append, List.map_cons, List.map_reverse]
  rfl
theorem r_callS {y' : MethodName} {cc' : ByteArray} {nL' ix n : Nat} {rt' : Option FieldType} {t' mc' ms' : Nat} {as : List Value} {R : Option Value × Mm} (hd : decode cc pc = .ok (.invokestatic ix, 3)) (hM : MS y' cc' nL' rt' n) (hw : Cond.methodLink y.cls ix y' ∈ gtb ∧ Cond.static y' ∈ gtb) (hc : CC G l y' cc' nL' rt' t' mc' ms' as S (.inl R)) (hn : as.length = n) (ht : t' + 1 ≤ t ∧ 8 + (nL' + 11) + (41 * t' + 32) ≤ 41 * t + 32) (hst : (st.map fun v => v.category).sum ≤ 8) (h1 : ce + mc' ≤ mc) (h2 : sl + ms' ≤ ms) {st0 : List Value} (hs0 : as.reverse ++ st = st0) (K : Sat G l y cc nL rt t mc ms (ce + mc') (sl + ms') (pc + 3) lv (R.1.toList ++ st) R.2 T) : Sat G l y cc nL rt t mc ms ce sl pc lv st0 S T := by
  subst hs0
  obtain ⟨R', hR', hM2⟩ := hc
  cases hR'
  intro p e s m args below meth c H locs ls hC hH hL
  have hts := hC.2.2.2.2.2.1
  have hK := hC.2.2.2.2.2.2.2.2.1
  have hw1 : ∀ w, w ∈ gtb → w.before args s = true := fun w h => hts _ h
  obtain ⟨w2, w3⟩ := hw
  refine cc_go (va_runS (As := as.map (cv G.1)) (rest := st.map (cv G.1)) (n := n) ⟨hC.1, hC.2.1, hC.2.2.2.1, hC.2.2.2.2.1, hts⟩ hM2 ⟨callB_of n hts (gtb_good hM.1) rfl rfl rfl (hw1 _ hM.2.1) (hw1 _ w2) hM.2.2 ht, hw1 _ w3⟩ (cc_pre (as := as) hK hC.2.2.2.2.2.2.2.2.2.1 hH) rfl (by rw [List.length_map]; exact hn) hL.1 ?_ (lv_room (by rw [st_cat]; exact hst)) hd ⟨h1, h2⟩) hC hH hL K
  show (as.reverse ++ st).map (cv G.1) = _
  rw [List.map_append, List.map_reverse]
theorem r_callSN {y' : MethodName} {cc' : ByteArray} {nL' ix n : Nat} {rt' : Option FieldType} {t' mc' ms' : Nat} {as : List Value} {R : Option Value × Mm} (hd : decode cc pc = .ok (.invokestatic ix, 3)) (hM : MS y' cc' nL' rt' n) (hw : (y.cls, ix, y') ∈ nwM ∧ Cond.static y' ∈ gtb) (hc : CC G l y' cc' nL' rt' t' mc' ms' as S (.inl R)) (hn : as.length = n) (ht : t' + 1 ≤ t ∧ 8 + (nL' + 11) + (41 * t' + 32) ≤ 41 * t + 32) (hst : (st.map fun v => v.category).sum ≤ 8) (h1 : ce + mc' ≤ mc) (h2 : sl + ms' ≤ ms) {st0 : List Value} (hs0 : as.reverse ++ st = st0) (K : Sat G l y cc nL rt t mc ms (ce + mc') (sl + ms') (pc + 3) lv (R.1.toList ++ st) R.2 T) : Sat G l y cc nL rt t mc ms ce sl pc lv st0 S T := by
  subst hs0
  obtain ⟨R', hR', hM2⟩ := hc
  cases hR'
  intro p e s m args below meth c H locs ls hC hH hL
  have hts := hC.2.2.2.2.2.1
  have hK := hC.2.2.2.2.2.2.2.2.1
  have hw1 : ∀ w, w ∈ gtb → w.before args s = true := fun w h => hts _ h
  obtain ⟨w2, w3⟩ := hw
  refine cc_go (va_runSN (As := as.map (cv G.1)) (rest := st.map (cv G.1)) (n := n) ⟨hC.1, hC.2.1, hC.2.2.2.1, hC.2.2.2.2.1, hts⟩ hM2 ⟨va_cnB n hts (gtb_good hM.1) rfl rfl rfl (hC.2.2.2.2.2.2.2.2.2.1.1 _ w2) (hw1 _ hM.2.1) hM.2.2 ht, hw1 _ w3, trivial⟩ (cc_pre (as := as) hK hC.2.2.2.2.2.2.2.2.2.1 hH) rfl (by rw [List.length_map]; exact hn) hL.1 ?_ (lv_room (by rw [st_cat]; exact hst)) hd ⟨h1, h2⟩) hC hH hL K
  show (as.reverse ++ st).map (cv G.1) = _
  rw [List.map_append, List.map_reverse]
theorem r_callI {y' : MethodName} {cc' : ByteArray} {nL' ix a n : Nat} {t' mc' ms' : Nat} {as : List Value} {R : Option Value × Mm} (hd : decode cc pc = .ok (.invokespecial ix, 3)) (hM : MS y' cc' nL' none n) (hw : y'.name = "<init>" ∧ Cond.methodLink y.cls ix y' ∈ gtb ∧ Cond.instanceMethod y' ∈ gtb) (hc : CC G l y' cc' nL' none t' mc' ms' (.ref a :: as) S (.inl R)) (hn : as.length = n) (ht : t' + 1 ≤ t ∧ 8 + (nL' + 11) + (41 * t' + 32) ≤ 41 * t + 32) (hst : (st.map fun v => v.category).sum ≤ 8) (h1 : ce + mc' ≤ mc) (h2 : sl + ms' ≤ ms) {st0 : List Value} (hs0 : as.reverse ++ .ref a :: st = st0) (K : Sat G l y cc nL rt t mc ms (ce + mc') (sl + ms') (pc + 3) lv (R.1.toList ++ st) R.2 T) : Sat G l y cc nL rt t mc ms ce sl pc lv st0 S T := by
  subst hs0
  obtain ⟨R', hR', hM2⟩ := hc
  cases hR'
  intro p e s m args below meth c H locs ls hC hH hL
  have hts := hC.2.2.2.2.2.1
  have hK := hC.2.2.2.2.2.2.2.2.1
  have hw1 : ∀ w, w ∈ gtb → w.before args s = true := fun w h => hts _ h
  obtain ⟨w0, w2, w3⟩ := hw
  refine cc_go (va_runI (As := as.map (cv G.1)) (rest := st.map (cv G.1)) (n := n) (b := G.1 + a) ⟨hC.1, hC.2.1, hC.2.2.2.1, hC.2.2.2.2.1, hts⟩ hM2 ⟨callB_of n hts (gtb_good hM.1) rfl rfl rfl (hw1 _ hM.2.1) (hw1 _ w2) hM.2.2 ht, w0, hw1 _ w3⟩ (cc_pre (as := .ref a :: as) hK hC.2.2.2.2.2.2.2.2.2.1 hH) rfl (by rw [List.length_map]; exact hn) hL.1 ?_ (lv_room (by rw [st_cat]; exact hst)) hd ⟨h1, h2⟩) hC hH hL K
  show (as.reverse ++ .ref a :: st).map (cv G.1) = _
  rw [List.map_append, List.map_cons, List.map_reverse]
  rfl
theorem r_callIN {y' : MethodName} {cc' : ByteArray} {nL' ix a n : Nat} {t' mc' ms' : Nat} {as : List Value} {R : Option Value × Mm} (hd : decode cc pc = .ok (.invokespecial ix, 3)) (hM : MS y' cc' nL' none n) (hw : y'.name = "<init>" ∧ (y.cls, ix, y') ∈ nwM ∧ Cond.instanceMethod y' ∈ gtb) (hc : CC G l y' cc' nL' none t' mc' ms' (.ref a :: as) S (.inl R)) (hn : as.length = n) (ht : t' + 1 ≤ t ∧ 8 + (nL' + 11) + (41 * t' + 32) ≤ 41 * t + 32) (hst : (st.map fun v => v.category).sum ≤ 8) (h1 : ce + mc' ≤ mc) (h2 : sl + ms' ≤ ms) {st0 : List Value} (hs0 : as.reverse ++ .ref a :: st = st0) (K : Sat G l y cc nL rt t mc ms (ce + mc') (sl + ms') (pc + 3) lv (R.1.toList ++ st) R.2 T) : Sat G l y cc nL rt t mc ms ce sl pc lv st0 S T := by
  subst hs0
  obtain ⟨R', hR', hM2⟩ := hc
  cases hR'
  intro p e s m args below meth c H locs ls hC hH hL
  have hts := hC.2.2.2.2.2.1
  have hK := hC.2.2.2.2.2.2.2.2.1
  have hw1 : ∀ w, w ∈ gtb → w.before args s = true := fun w h => hts _ h
  obtain ⟨w0, w2, w3⟩ := hw
  refine cc_go (va_runIN (As := as.map (cv G.1)) (rest := st.map (cv G.1)) (n := n) (b := G.1 + a) ⟨hC.1, hC.2.1, hC.2.2.2.1, hC.2.2.2.2.1, hts⟩ hM2 ⟨va_cnB n hts (gtb_good hM.1) rfl rfl rfl (hC.2.2.2.2.2.2.2.2.2.1.1 _ w2) (hw1 _ hM.2.1) hM.2.2 ht, w0, hw1 _ w3⟩ (cc_pre (as := .ref a :: as) hK hC.2.2.2.2.2.2.2.2.2.1 hH) rfl (by rw [List.length_map]; exact hn) hL.1 ?_ (lv_room (by rw [st_cat]; exact hst)) hd ⟨h1, h2⟩) hC hH hL K
  show (as.reverse ++ .ref a :: st).map (cv G.1) = _
  rw [List.map_append, List.map_cons, List.map_reverse]
  rfl
/-- a method that the class of the receiver selects, under the name that House declares -/
theorem r_callO {x y' : MethodName} {cc' : ByteArray} {nL' ix ci a n : Nat} {rt' : Option FieldType} {t' mc' ms' : Nat} {as : List Value} {R : Option Value × Mm} {N : Nat} {TT : u_T} {C : String} {b0 : ByteArray} {m0 : Nat} {r0 : Option FieldType} (hd : decode cc pc = .ok (.invokevirtual ix, 3)) (hM : MS y' cc' nL' rt' n) (hw : vwCl[ci]? = some (C, TT, N) ∧ Cond.methodLink y.cls ix x ∈ gtb ∧ Cond.sameMethod x.cls x.cls x.name x.desc ∈ gtb ∧ Cond.instanceMethod x ∈ gtb ∧ Cond.selects C x y' ∈ gtb ∧ Cond.instanceMethod y' ∈ gtb ∧ Cond.code x b0 m0 r0 ∈ gtb) (hx : x.cls ≠ "java/lang/invoke/MethodHandle" ∧ x.cls ≠ "java/lang/invoke/VarHandle" ∧ (parseMethodDescriptor x.desc).map (fun d => d.parameters.length) = some n) (ha : okc S a ci = true) (hc : CC G l y' cc' nL' rt' t' mc' ms' (.ref a :: as) S (.inl R)) (hn : as.length = n) (ht : t' + 1 ≤ t ∧ 8 + (nL' + 11) + (41 * t' + 32) ≤ 41 * t + 32) (hst : (st.map fun v => v.category).sum ≤ 8) (h1 : ce + mc' ≤ mc) (h2 : sl + ms' ≤ ms) {st0 : List Value} (hs0 : as.reverse ++ .ref a :: st = st0) (K : Sat G l y cc nL rt t mc ms (ce + mc') (sl + ms') (pc + 3) lv (R.1.toList ++ st) R.2 T) : Sat G l y cc nL rt t mc ms ce sl pc lv st0 S T := by
  subst hs0
  obtain ⟨R', hR', hM2⟩ := hc
  cases hR'
  intro p e s m args below meth c H locs ls hC hH hL
  have hts := hC.2.2.2.2.2.1
  have hK := hC.2.2.2.2.2.2.2.2.1
  obtain ⟨w1, w2, w3, w4, w5, w6, w7⟩ := hw
  have hpre := cc_pre (as := .ref a :: as) hK hC.2.2.2.2.2.2.2.2.2.1 hH
  have hG : GoodIn gtb (va_wsO y.cls ix C x.cls x y' (Cond.code y' cc' nL' rt' :: gtb)) := by
    intro w hw
    have hg : w ∈ gtb := by
      unfold va_wsO at hw
      rcases List.mem_append.mp hw with h | h
      · simp only [List.mem_cons, List.not_mem_nil, or_false] at h
        rcases h with rfl | rfl | rfl | rfl | rfl | rfl
        · exact w2
        · exact w3
        · exact w4
        · exact w5
        · exact w6
        · exact hM.2.1
      · rcases List.mem_cons.mp h with rfl | h
        · exact hM.1
        · exact h
    exact ⟨hg, good_of_word (List.mem_filter.mp hg).2⟩
  refine cc_go (va_runU (C := C) (owner := x.cls) (x := x) (As := as.map (cv G.1)) (rest := st.map (cv G.1)) (n := n) (b := G.1 + a) ⟨hC.1, hC.2.1, hC.2.2.2.1, hC.2.2.2.2.1, hts⟩ hM2 (va_cwO n hts hG rfl rfl rfl w7 hx ht) ⟨hpre.1, va_recv hK hH.1 w1 (cE_obj ha (ci_lt w1)), hpre.2⟩ rfl (by rw [List.length_map]; exact hn) hL.1 ?_ (lv_room (by rw [st_cat]; exact hst)) hd ⟨h1, h2⟩) hC hH hL K
  show (as.reverse ++ .ref a :: st).map (cv G.1) = _
  rw [List.map_append, List.map_cons, List.map_reverse]
  rfl
/-! a method's contract out of its body -/
theorem lv_args_in {z : Nat} : ∀ (as : List Value) (i n k : Nat) (v : Value), (lvA n as)[k]? = some v → v ≠ .null → (∀ w ∈ as, w ≠ .null) → (i + k, cv z v) ∈ lv_args i (as.map (cv z))
  | [], i, n, k, v, h, hv, _ => by
    rw [lvA] at h
    have := List.mem_of_getElem? h
    exact absurd (List.eq_of_mem_replicate this) hv
  | w :: as, i, n, k, v, h, hv, ha => by
    rw [lvA] at h
    rw [List.map_cons, lv_args, cv_cat]
    have ha2 : ∀ w ∈ as, w ≠ .null := fun x hx => ha x (List.mem_cons_of_mem _ hx)
    split at h
    · next hc =>
      rw [if_pos hc]
      match k, h with
      | 0, h =>
        simp at h
        subst h
        exact List.mem_cons_self
      | 1, h =>
        simp at h
        exact absurd h.symm hv
      | k + 2, h =>
        have := lv_args_in (z := z) as (i + 2) (n - 2) k v (by simpa using h) hv ha2
        rw [show i + 2 + k = i + (k + 2) by omega] at this
        exact List.mem_cons_of_mem _ this
    · next hc =>
      rw [if_neg hc]
      match k, h with
      | 0, h =>
        simp at h
        subst h
        exact List.mem_cons_self
      | k + 1, h =>
        have := lv_args_in (z := z) as (i + 1) (n - 1) k v (by simpa using h) hv ha2
        rw [show i + 1 + k = i + (k + 1) by omega] at this
        exact List.mem_cons_of_mem _ this
theorem lg_len {z : Nat} : ∀ as : List Value, (lg_sl (as.map (cv z))).length = (lg_sl as).length
  | [] => rfl
  | w :: as => by
    have ih := lg_len (z := z) as
    simp only [lg_sl, List.map_cons, List.flatMap_cons, List.length_append, cv_cat] at ih ⊢
    rw [ih]
    congr 1
    split <;> rfl
theorem r_body {R : Option Value × Mm} {as : List Value} {lv : List Value} (hy : plainName y.cls = true) (hl : lvA nL as = lv) (hn : (lg_sl as).length ≤ nL) (ha : ∀ w ∈ as, w ≠ .null) (K : Sat G l y cc nL rt t mc ms 0 0 0 lv [] S (.inl R)) : CC G l y cc nL rt t mc ms as S (.inl R) := by
  subst hl
  refine ⟨R, rfl, ?_⟩
  refine Met.ofW (cc := cc) (maxL := nL) (ret := rt) hy rfl ?_
  intro p e s m args below meth c s₁ B hml hv
  obtain ⟨rfl, hP, hz, hK, hN⟩ := hv
  have hlg : (lg_sl (as.map (cv G.1))).length = (lg_sl as).length := lg_len as
  rw [lg_entry_eq]
  have hle := lv_entry (as.map (cv G.1)) (n := nL) (by rw [hlg]; exact hn)
  refine K p e s m _ below meth c s.heap [] _ ⟨B.exec, B.bytes, B.returns, hml, findClass_of_methodNamed B.named, (fun w h => atoms_spec (ws := Cond.code y cc nL rt :: gtb) B.pre w (List.mem_cons_of_mem _ h)), B.notSynchronized, (fun h => (name_of_methodNamed B.named B.method).1.trans h), hK, hN, by omega, trivial⟩ ⟨hP, hz, va_S.rf⟩ ⟨hle.1, hle.2.1, fun k v hk hv => ?_⟩
  have := hle.2.2 (k, cv G.1 v) (by have := lv_args_in (z := G.1) as 0 nL k v hk hv ha; rwa [Nat.zero_add] at this)
  exact this
end
