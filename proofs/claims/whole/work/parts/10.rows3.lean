def FU : Nat := 3000
def eI (T : Int32 × Mm) : TG := .inl (some (.int T.1), T.2)
def eV (S : Mm) : TG := .inl (none, S)
def eA (T : Nat × Mm) : TG := .inl (some (.ref T.1), T.2)
section
variable {G : Gt} {l : Launch} {y : MethodName} {cc : ByteArray} {nL : Nat} {rt : Option FieldType} {t mc ms ce sl pc : Nat} {lv st : List Value} {S : Mm} {T : TG}
def lsub : List Value → List Value → Prop
  | [], [] => True
  | v :: vs, w :: ws => (w = v ∨ w = .null) ∧ lsub vs ws
  | _, _ => False
theorem lsub_at : ∀ (lv lv' : List Value), lsub lv lv' → ∀ k : Nat, lv'[k]? = lv[k]? ∨ lv'[k]? = some .null
  | [], [], _, k => Or.inl rfl
  | [], w :: ws, h, k => h.elim
  | v :: vs, [], h, k => h.elim
  | v :: vs, w :: ws, h, 0 => by
    rcases h.1 with h | h
    · exact Or.inl (by rw [h]; rfl)
    · exact Or.inr (by rw [h]; rfl)
  | v :: vs, w :: ws, h, k + 1 => lsub_at vs ws h.2 k
theorem r_lvs {lv' : List Value} (h : lsub lv lv') (K : Sat G l y cc nL rt t mc ms ce sl pc lv' st S T) : Sat G l y cc nL rt t mc ms ce sl pc lv st S T := r_lv (lsub_at _ _ h) K
theorem r_tsIn {dflt lo hi : Int} {offs : Array Int} {len : Nat} {x k : Int32} {off : Int} {tgt : Nat} (hd : decode cc pc = .ok (.tableswitch dflt lo hi offs, len)) (hx : x = k) (h1 : ¬ k.toInt < lo) (h2 : ¬ hi < k.toInt) (ho : offs[(k.toInt - lo).toNat]? = some off) (ht : (pc : Int) + off = (tgt : Int)) (K : Sat G l y cc nL rt t mc ms ce sl tgt lv st S T) : Sat G l y cc nL rt t mc ms ce sl pc lv (.int x :: st) S T := by
  subst hx
  exact fun p e s m args below meth c H locs ls hC hH hL => lv_tableIn hC.1 hC.2.1 hd h1 h2 ho ht (K p e s m args below meth c H locs ls hC hH hL)
theorem r_tsOut {dflt lo hi : Int} {offs : Array Int} {len n : Nat} {x : Int32} {ks : List Int32} {tgt : Nat} (hd : decode cc pc = .ok (.tableswitch dflt lo hi offs, len)) (hk : ks.map Int32.toInt = (List.range n).map (fun i : Nat => lo + (i : Int))) (hn : lo + (n : Int) = hi + 1) (hx : ¬ x ∈ ks) (ht : (pc : Int) + dflt = (tgt : Int)) (K : Sat G l y cc nL rt t mc ms ce sl tgt lv st S T) : Sat G l y cc nL rt t mc ms ce sl pc lv (.int x :: st) S T := by
  have ho : x.toInt < lo ∨ hi < x.toInt := by
    by_cases h : x.toInt < lo ∨ hi < x.toInt
    · exact h
    · exfalso
      have hm : x.toInt ∈ ks.map Int32.toInt := by
        rw [hk]
        exact List.mem_map.mpr ⟨(x.toInt - lo).toNat, List.mem_range.mpr (by omega), by omega⟩
      obtain ⟨k, h1, h2⟩ := List.mem_map.mp hm
      rw [Int32.toInt_inj.mp h2] at h1
      exact hx h1
  exact fun p e s m args below meth c H locs ls hC hH hL => lv_tableOut hC.1 hC.2.1 hd ho ht (K p e s m args below meth c H locs ls hC hH hL)
theorem r_lsIn {dflt : Int} {ps : Array (Int × Int)} {len : Nat} {x k : Int32} {off : Int} {tgt : Nat} (hd : decode cc pc = .ok (.lookupswitch dflt ps, len)) (hp : (ps.toList.zip (ps.toList.drop 1)).all (fun (a, next) => a.1 < next.1) = true) (hx : x = k) (ho : Op.lookupswitch.offset ps.toList dflt k.toInt = off) (ht : (pc : Int) + off = (tgt : Int)) (K : Sat G l y cc nL rt t mc ms ce sl tgt lv st S T) : Sat G l y cc nL rt t mc ms ce sl pc lv (.int x :: st) S T := by
  subst hx
  exact fun p e s m args below meth c H locs ls hC hH hL => lv_lookup hC.1 hC.2.1 hd hp ho ht (K p e s m args below meth c H locs ls hC hH hL)
theorem ls_out {x : Int32} {d : Int} : ∀ (ps : List (Int × Int)) (ks : List Int32), ps.map Prod.fst = ks.map Int32.toInt → ¬ x ∈ ks → Op.lookupswitch.offset ps d x.toInt = d
  | [], [], _, _ => rfl
  | [], k :: ks, h, _ => by simp at h
  | p :: ps, [], h, _ => by simp at h
  | (a, o) :: ps, k :: ks, h, hx => by
    simp only [List.map_cons, List.cons.injEq] at h
    simp only [List.mem_cons, not_or] at hx
    rw [lv_osw hx.1 h.1.symm]
    exact ls_out ps ks h.2 hx.2
theorem r_lsOut {dflt : Int} {ps : Array (Int × Int)} {len : Nat} {x : Int32} {ks : List Int32} {tgt : Nat} (hd : decode cc pc = .ok (.lookupswitch dflt ps, len)) (hp : (ps.toList.zip (ps.toList.drop 1)).all (fun (a, next) => a.1 < next.1) = true) (hk : ps.toList.map Prod.fst = ks.map Int32.toInt) (hx : ¬ x ∈ ks) (ht : (pc : Int) + dflt = (tgt : Int)) (K : Sat G l y cc nL rt t mc ms ce sl tgt lv st S T) : Sat G l y cc nL rt t mc ms ce sl pc lv (.int x :: st) S T :=
  fun p e s m args below meth c H locs ls hC hH hL => lv_lookup hC.1 hC.2.1 hd hp (ls_out _ ks hk hx) ht (K p e s m args below meth c H locs ls hC hH hL)
theorem r_callVi {y' : MethodName} {cc' : ByteArray} {nL' ix n : Nat} {rt' : Option FieldType} {t' mc' ms' : Nat} {as : List Value} {q : Int32 × Mm} {N : Nat} {TT : u_T} {ci a : Nat} (hd : decode cc pc = .ok (.invokevirtual ix, 3)) (hM : MS y' cc' nL' rt' n) (hw : vwCl[ci]? = some (y'.cls, TT, N) ∧ Cond.methodLink y.cls ix y' ∈ gtb ∧ Cond.instanceMethod y' ∈ gtb ∧ Cond.selects y'.cls y' y' ∈ gtb) (ha : okc S a ci = true) (hc : CC G l y' cc' nL' rt' t' mc' ms' (.ref a :: as) S (eI q)) (hn : as.length = n) (ht : t' + 1 ≤ t ∧ 8 + (nL' + 11) + (41 * t' + 32) ≤ 41 * t + 32) (hst : (st.map fun v => v.category).sum ≤ 8) (h1 : ce + mc' ≤ mc) (h2 : sl + ms' ≤ ms) {st0 : List Value} (hs0 : as.reverse ++ .ref a :: st = st0) (K : Sat G l y cc nL rt t mc ms (ce + mc') (sl + ms') (pc + 3) lv (.int q.1 :: st) q.2 T) : Sat G l y cc nL rt t mc ms ce sl pc lv st0 S T :=
  r_callV hd hM hw ha hc hn ht hst h1 h2 hs0 K
theorem r_callVv {y' : MethodName} {cc' : ByteArray} {nL' ix n : Nat} {rt' : Option FieldType} {t' mc' ms' : Nat} {as : List Value} {q : Mm} {N : Nat} {TT : u_T} {ci a : Nat} (hd : decode cc pc = .ok (.invokevirtual ix, 3)) (hM : MS y' cc' nL' rt' n) (hw : vwCl[ci]? = some (y'.cls, TT, N) ∧ Cond.methodLink y.cls ix y' ∈ gtb ∧ Cond.instanceMethod y' ∈ gtb ∧ Cond.selects y'.cls y' y' ∈ gtb) (ha : okc S a ci = true) (hc : CC G l y' cc' nL' rt' t' mc' ms' (.ref a :: as) S (eV q)) (hn : as.length = n) (ht : t' + 1 ≤ t ∧ 8 + (nL' + 11) + (41 * t' + 32) ≤ 41 * t + 32) (hst : (st.map fun v => v.category).sum ≤ 8) (h1 : ce + mc' ≤ mc) (h2 : sl + ms' ≤ ms) {st0 : List Value} (hs0 : as.reverse ++ .ref a :: st = st0) (K : Sat G l y cc nL rt t mc ms (ce + mc') (sl + ms') (pc + 3) lv (st) q T) : Sat G l y cc nL rt t mc ms ce sl pc lv st0 S T :=
  r_callV hd hM hw ha hc hn ht hst h1 h2 hs0 K
theorem r_callVa {y' : MethodName} {cc' : ByteArray} {nL' ix n : Nat} {rt' : Option FieldType} {t' mc' ms' : Nat} {as : List Value} {q : Nat × Mm} {N : Nat} {TT : u_T} {ci a : Nat} (hd : decode cc pc = .ok (.invokevirtual ix, 3)) (hM : MS y' cc' nL' rt' n) (hw : vwCl[ci]? = some (y'.cls, TT, N) ∧ Cond.methodLink y.cls ix y' ∈ gtb ∧ Cond.instanceMethod y' ∈ gtb ∧ Cond.selects y'.cls y' y' ∈ gtb) (ha : okc S a ci = true) (hc : CC G l y' cc' nL' rt' t' mc' ms' (.ref a :: as) S (eA q)) (hn : as.length = n) (ht : t' + 1 ≤ t ∧ 8 + (nL' + 11) + (41 * t' + 32) ≤ 41 * t + 32) (hst : (st.map fun v => v.category).sum ≤ 8) (h1 : ce + mc' ≤ mc) (h2 : sl + ms' ≤ ms) {st0 : List Value} (hs0 : as.reverse ++ .ref a :: st = st0) (K : Sat G l y cc nL rt t mc ms (ce + mc') (sl + ms') (pc + 3) lv (.ref q.1 :: st) q.2 T) : Sat G l y cc nL rt t mc ms ce sl pc lv st0 S T :=
  r_callV hd hM hw ha hc hn ht hst h1 h2 hs0 K
theorem r_callSi {y' : MethodName} {cc' : ByteArray} {nL' ix n : Nat} {rt' : Option FieldType} {t' mc' ms' : Nat} {as : List Value} {q : Int32 × Mm}  (hd : decode cc pc = .ok (.invokestatic ix, 3)) (hM : MS y' cc' nL' rt' n) (hw : Cond.methodLink y.cls ix y' ∈ gtb ∧ Cond.static y' ∈ gtb) (hc : CC G l y' cc' nL' rt' t' mc' ms' as S (eI q)) (hn : as.length = n) (ht : t' + 1 ≤ t ∧ 8 + (nL' + 11) + (41 * t' + 32) ≤ 41 * t + 32) (hst : (st.map fun v => v.category).sum ≤ 8) (h1 : ce + mc' ≤ mc) (h2 : sl + ms' ≤ ms) {st0 : List Value} (hs0 : as.reverse ++ st = st0) (K : Sat G l y cc nL rt t mc ms (ce + mc') (sl + ms') (pc + 3) lv (.int q.1 :: st) q.2 T) : Sat G l y cc nL rt t mc ms ce sl pc lv st0 S T :=
  r_callS hd hM hw hc hn ht hst h1 h2 hs0 K
theorem r_callSv {y' : MethodName} {cc' : ByteArray} {nL' ix n : Nat} {rt' : Option FieldType} {t' mc' ms' : Nat} {as : List Value} {q : Mm}  (hd : decode cc pc = .ok (.invokestatic ix, 3)) (hM : MS y' cc' nL' rt' n) (hw : Cond.methodLink y.cls ix y' ∈ gtb ∧ Cond.static y' ∈ gtb) (hc : CC G l y' cc' nL' rt' t' mc' ms' as S (eV q)) (hn : as.length = n) (ht : t' + 1 ≤ t ∧ 8 + (nL' + 11) + (41 * t' + 32) ≤ 41 * t + 32) (hst : (st.map fun v => v.category).sum ≤ 8) (h1 : ce + mc' ≤ mc) (h2 : sl + ms' ≤ ms) {st0 : List Value} (hs0 : as.reverse ++ st = st0) (K : Sat G l y cc nL rt t mc ms (ce + mc') (sl + ms') (pc + 3) lv (st) q T) : Sat G l y cc nL rt t mc ms ce sl pc lv st0 S T :=
  r_callS hd hM hw hc hn ht hst h1 h2 hs0 K
theorem r_callSa {y' : MethodName} {cc' : ByteArray} {nL' ix n : Nat} {rt' : Option FieldType} {t' mc' ms' : Nat} {as : List Value} {q : Nat × Mm}  (hd : decode cc pc = .ok (.invokestatic ix, 3)) (hM : MS y' cc' nL' rt' n) (hw : Cond.methodLink y.cls ix y' ∈ gtb ∧ Cond.static y' ∈ gtb) (hc : CC G l y' cc' nL' rt' t' mc' ms' as S (eA q)) (hn : as.length = n) (ht : t' + 1 ≤ t ∧ 8 + (nL' + 11) + (41 * t' + 32) ≤ 41 * t + 32) (hst : (st.map fun v => v.category).sum ≤ 8) (h1 : ce + mc' ≤ mc) (h2 : sl + ms' ≤ ms) {st0 : List Value} (hs0 : as.reverse ++ st = st0) (K : Sat G l y cc nL rt t mc ms (ce + mc') (sl + ms') (pc + 3) lv (.ref q.1 :: st) q.2 T) : Sat G l y cc nL rt t mc ms ce sl pc lv st0 S T :=
  r_callS hd hM hw hc hn ht hst h1 h2 hs0 K
theorem r_callSNi {y' : MethodName} {cc' : ByteArray} {nL' ix n : Nat} {rt' : Option FieldType} {t' mc' ms' : Nat} {as : List Value} {q : Int32 × Mm}  (hd : decode cc pc = .ok (.invokestatic ix, 3)) (hM : MS y' cc' nL' rt' n) (hw : (y.cls, ix, y') ∈ nwM ∧ Cond.static y' ∈ gtb) (hc : CC G l y' cc' nL' rt' t' mc' ms' as S (eI q)) (hn : as.length = n) (ht : t' + 1 ≤ t ∧ 8 + (nL' + 11) + (41 * t' + 32) ≤ 41 * t + 32) (hst : (st.map fun v => v.category).sum ≤ 8) (h1 : ce + mc' ≤ mc) (h2 : sl + ms' ≤ ms) {st0 : List Value} (hs0 : as.reverse ++ st = st0) (K : Sat G l y cc nL rt t mc ms (ce + mc') (sl + ms') (pc + 3) lv (.int q.1 :: st) q.2 T) : Sat G l y cc nL rt t mc ms ce sl pc lv st0 S T :=
  r_callSN hd hM hw hc hn ht hst h1 h2 hs0 K
theorem r_callSNv {y' : MethodName} {cc' : ByteArray} {nL' ix n : Nat} {rt' : Option FieldType} {t' mc' ms' : Nat} {as : List Value} {q : Mm}  (hd : decode cc pc = .ok (.invokestatic ix, 3)) (hM : MS y' cc' nL' rt' n) (hw : (y.cls, ix, y') ∈ nwM ∧ Cond.static y' ∈ gtb) (hc : CC G l y' cc' nL' rt' t' mc' ms' as S (eV q)) (hn : as.length = n) (ht : t' + 1 ≤ t ∧ 8 + (nL' + 11) + (41 * t' + 32) ≤ 41 * t + 32) (hst : (st.map fun v => v.category).sum ≤ 8) (h1 : ce + mc' ≤ mc) (h2 : sl + ms' ≤ ms) {st0 : List Value} (hs0 : as.reverse ++ st = st0) (K : Sat G l y cc nL rt t mc ms (ce + mc') (sl + ms') (pc + 3) lv (st) q T) : Sat G l y cc nL rt t mc ms ce sl pc lv st0 S T :=
  r_callSN hd hM hw hc hn ht hst h1 h2 hs0 K
theorem r_callSNa {y' : MethodName} {cc' : ByteArray} {nL' ix n : Nat} {rt' : Option FieldType} {t' mc' ms' : Nat} {as : List Value} {q : Nat × Mm}  (hd : decode cc pc = .ok (.invokestatic ix, 3)) (hM : MS y' cc' nL' rt' n) (hw : (y.cls, ix, y') ∈ nwM ∧ Cond.static y' ∈ gtb) (hc : CC G l y' cc' nL' rt' t' mc' ms' as S (eA q)) (hn : as.length = n) (ht : t' + 1 ≤ t ∧ 8 + (nL' + 11) + (41 * t' + 32) ≤ 41 * t + 32) (hst : (st.map fun v => v.category).sum ≤ 8) (h1 : ce + mc' ≤ mc) (h2 : sl + ms' ≤ ms) {st0 : List Value} (hs0 : as.reverse ++ st = st0) (K : Sat G l y cc nL rt t mc ms (ce + mc') (sl + ms') (pc + 3) lv (.ref q.1 :: st) q.2 T) : Sat G l y cc nL rt t mc ms ce sl pc lv st0 S T :=
  r_callSN hd hM hw hc hn ht hst h1 h2 hs0 K
theorem r_callIv {y' : MethodName} {cc' : ByteArray} {nL' ix n : Nat}  {t' mc' ms' : Nat} {as : List Value} {q : Mm} {a : Nat} (hd : decode cc pc = .ok (.invokespecial ix, 3)) (hM : MS y' cc' nL' none n) (hw : y'.name = "<init>" ∧ Cond.methodLink y.cls ix y' ∈ gtb ∧ Cond.instanceMethod y' ∈ gtb) (hc : CC G l y' cc' nL' none t' mc' ms' (.ref a :: as) S (eV q)) (hn : as.length = n) (ht : t' + 1 ≤ t ∧ 8 + (nL' + 11) + (41 * t' + 32) ≤ 41 * t + 32) (hst : (st.map fun v => v.category).sum ≤ 8) (h1 : ce + mc' ≤ mc) (h2 : sl + ms' ≤ ms) {st0 : List Value} (hs0 : as.reverse ++ .ref a :: st = st0) (K : Sat G l y cc nL rt t mc ms (ce + mc') (sl + ms') (pc + 3) lv (st) q T) : Sat G l y cc nL rt t mc ms ce sl pc lv st0 S T :=
  r_callI hd hM hw hc hn ht hst h1 h2 hs0 K
theorem r_callINv {y' : MethodName} {cc' : ByteArray} {nL' ix n : Nat}  {t' mc' ms' : Nat} {as : List Value} {q : Mm} {a : Nat} (hd : decode cc pc = .ok (.invokespecial ix, 3)) (hM : MS y' cc' nL' none n) (hw : y'.name = "<init>" ∧ (y.cls, ix, y') ∈ nwM ∧ Cond.instanceMethod y' ∈ gtb) (hc : CC G l y' cc' nL' none t' mc' ms' (.ref a :: as) S (eV q)) (hn : as.length = n) (ht : t' + 1 ≤ t ∧ 8 + (nL' + 11) + (41 * t' + 32) ≤ 41 * t + 32) (hst : (st.map fun v => v.category).sum ≤ 8) (h1 : ce + mc' ≤ mc) (h2 : sl + ms' ≤ ms) {st0 : List Value} (hs0 : as.reverse ++ .ref a :: st = st0) (K : Sat G l y cc nL rt t mc ms (ce + mc') (sl + ms') (pc + 3) lv (st) q T) : Sat G l y cc nL rt t mc ms ce sl pc lv st0 S T :=
  r_callIN hd hM hw hc hn ht hst h1 h2 hs0 K
theorem r_callOi {x y' : MethodName} {cc' : ByteArray} {nL' ix ci a n : Nat} {rt' : Option FieldType} {t' mc' ms' : Nat} {as : List Value} {q : Int32 × Mm} {N : Nat} {TT : u_T} {C : String} {b0 : ByteArray} {m0 : Nat} {r0 : Option FieldType} (hd : decode cc pc = .ok (.invokevirtual ix, 3)) (hM : MS y' cc' nL' rt' n) (hw : vwCl[ci]? = some (C, TT, N) ∧ Cond.methodLink y.cls ix x ∈ gtb ∧ Cond.sameMethod x.cls x.cls x.name x.desc ∈ gtb ∧ Cond.instanceMethod x ∈ gtb ∧ Cond.selects C x y' ∈ gtb ∧ Cond.instanceMethod y' ∈ gtb ∧ Cond.code x b0 m0 r0 ∈ gtb) (hx : x.cls ≠ "java/lang/invoke/MethodHandle" ∧ x.cls ≠ "java/lang/invoke/VarHandle" ∧ (parseMethodDescriptor x.desc).map (fun d => d.parameters.length) = some n) (ha : okc S a ci = true) (hc : CC G l y' cc' nL' rt' t' mc' ms' (.ref a :: as) S (eI q)) (hn : as.length = n) (ht : t' + 1 ≤ t ∧ 8 + (nL' + 11) + (41 * t' + 32) ≤ 41 * t + 32) (hst : (st.map fun v => v.category).sum ≤ 8) (h1 : ce + mc' ≤ mc) (h2 : sl + ms' ≤ ms) {st0 : List Value} (hs0 : as.reverse ++ .ref a :: st = st0) (K : Sat G l y cc nL rt t mc ms (ce + mc') (sl + ms') (pc + 3) lv (.int q.1 :: st) q.2 T) : Sat G l y cc nL rt t mc ms ce sl pc lv st0 S T :=
  r_callO hd hM hw hx ha hc hn ht hst h1 h2 hs0 K
end
