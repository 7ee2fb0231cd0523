section
variable {G : Gt} {l : Launch} {y : MethodName} {cc : ByteArray} {nL : Nat} {rt : Option FieldType} {t mc ms ce sl pc : Nat} {lv st : List Value} {S : Mm} {T : TG}
theorem cO_sI {z a j : Nat} {v : Int32} : ∀ (ts : List Bool) (i : Nat), i ≤ j → ts[j - i]? = some false → cO z (sI S a j v) a i ts = (cO z S a i ts).set (j - i) (.int v)
  | [], i, hi, h => by simp at h
  | t :: ts, i, hi, h => by
    by_cases hij : j = i
    · subst hij
      rw [Nat.sub_self] at h ⊢
      simp at h
      subst h
      rw [cO, cO, List.set_cons_zero, cO_congr (S := S) (S' := sI S a j v) ts (j + 1) (fun k hk => by simp [mI_sI, u2]; omega) (fun k hk => rfl)]
      simp [cS, mI_sI, u2]
    · obtain ⟨d, hd⟩ : ∃ d, j - i = d + 1 := ⟨j - i - 1, by omega⟩
      rw [hd] at h ⊢
      have h2 : j - (i + 1) = d := by omega
      rw [List.getElem?_cons_succ] at h
      rw [cO, cO, List.set_cons_succ, cO_sI ts (i + 1) (by omega) (by rw [h2]; exact h), h2]
      congr 1
      simp [cS, mI_sI, u2, Ne.symm hij]
      rfl
theorem cO_sR {z a j r : Nat} : ∀ (ts : List Bool) (i : Nat), i ≤ j → ts[j - i]? = some true → cO z (sR S a j (some r)) a i ts = (cO z S a i ts).set (j - i) (.ref (z + r))
  | [], i, hi, h => by simp at h
  | t :: ts, i, hi, h => by
    by_cases hij : j = i
    · subst hij
      rw [Nat.sub_self] at h ⊢
      simp at h
      subst h
      rw [cO, cO, List.set_cons_zero, cO_congr (S := S) (S' := sR S a j (some r)) ts (j + 1) (fun k hk => rfl) (fun k hk => by simp [mR_sR, u2]; omega)]
      simp [cS, mR_sR, u2, va_rf]
    · obtain ⟨d, hd⟩ : ∃ d, j - i = d + 1 := ⟨j - i - 1, by omega⟩
      rw [hd] at h ⊢
      have h2 : j - (i + 1) = d := by omega
      rw [List.getElem?_cons_succ] at h
      rw [cO, cO, List.set_cons_succ, cO_sR ts (i + 1) (by omega) (by rw [h2]; exact h), h2]
      congr 1
      simp [cS, mR_sR, u2, Ne.symm hij]
      rfl
theorem cE_sIa {a ci j : Nat} {v : Int32} (h : okc S a ci = true) (hc : ci < 100) (hj : (fT ci)[j]? = some false) : cE G (sI S a j v) a = .inr (ci, (cO G.1 S a 0 (fT ci)).set j (.int v)) := by
  obtain ⟨h1, h2⟩ := okc_s h
  have h3 : mC (sI S a j v) a = ci := h2
  rw [cE, if_neg (by omega), if_neg (by omega), h3, cO_sI (fT ci) 0 (Nat.zero_le j) (by simpa using hj)]
  rfl
theorem cE_sRa {a ci j r : Nat} (h : okc S a ci = true) (hc : ci < 100) (hj : (fT ci)[j]? = some true) : cE G (sR S a j (some r)) a = .inr (ci, (cO G.1 S a 0 (fT ci)).set j (.ref (G.1 + r))) := by
  obtain ⟨h1, h2⟩ := okc_s h
  have h3 : mC (sR S a j (some r)) a = ci := h2
  rw [cE, if_neg (by omega), if_neg (by omega), h3, cO_sR (fT ci) 0 (Nat.zero_le j) (by simpa using hj)]
  rfl
theorem FS.lt {own : String} {ix ci j : Nat} {fin : Bool} {ty : FieldType} (h : FS own ix ci j fin ty) : ci < 100 := by
  obtain ⟨C, TT, N, ref, h1, -⟩ := h
  exact ci_lt h1
theorem r_putI {a ci j ix : Nat} {x : Int32} {S' : Mm} (hd : decode cc pc = .ok (.putfield ix, 3)) (hF : FS y.cls ix ci j false .int) (hj : (fT ci)[j]? = some false) (h : pI S ci a j x = some S') (K : Sat G l y cc nL rt t mc ms ce sl (pc + 3) lv st S' T) : Sat G l y cc nL rt t mc ms ce sl pc lv (.int x :: .ref a :: st) S T := by
  obtain ⟨hb, hx⟩ := oif h
  cases hx
  exact r_put (S' := sI S a j x) hd hF hb rfl rfl rfl (fun k hk => cE_sI hk) (cE_sIa hb hF.lt hj) K
theorem r_putB {a ci j ix : Nat} {x : Int32} {S' : Mm} (hd : decode cc pc = .ok (.putfield ix, 3)) (hF : FS y.cls ix ci j false .boolean) (hj : (fT ci)[j]? = some false) (h : pB S ci a j x = some S') (K : Sat G l y cc nL rt t mc ms ce sl (pc + 3) lv st S' T) : Sat G l y cc nL rt t mc ms ce sl pc lv (.int x :: .ref a :: st) S T := by
  obtain ⟨hb, hx⟩ := oif h
  cases hx
  simp only [Bool.and_eq_true, Bool.or_eq_true, beq_iff_eq] at hb
  have hn : narrow .boolean (.int x) = .int x := by rcases hb.2 with rfl | rfl <;> rfl
  have hf : fits .boolean (.int x) = true := by rcases hb.2 with rfl | rfl <;> rfl
  exact r_put (S' := sI S a j x) hd hF hb.1 hn hf rfl (fun k hk => cE_sI hk) (cE_sIa hb.1 hF.lt hj) K
theorem r_putR {a ci j ix r : Nat} {ty : FieldType} {S' : Mm} (hd : decode cc pc = .ok (.putfield ix, 3)) (hF : FS y.cls ix ci j false ty) (hj : (fT ci)[j]? = some true) (hn : ∀ k, narrow ty (.ref k) = .ref k) (hf : ∀ k, fits ty (.ref k) = true) (h : pR S ci a j r = some S') (K : Sat G l y cc nL rt t mc ms ce sl (pc + 3) lv st S' T) : Sat G l y cc nL rt t mc ms ce sl pc lv (.ref r :: .ref a :: st) S T := by
  obtain ⟨hb, hx⟩ := oif h
  cases hx
  exact r_put (S' := sR S a j (some r)) hd hF hb (hn _) (hf _) rfl (fun k hk => cE_sR hk) (cE_sRa hb hF.lt hj) K
/-- a final reference, in the constructor -/
theorem r_putFR {a ci j ix r : Nat} {ty : FieldType} {S' : Mm} (hd : decode cc pc = .ok (.putfield ix, 3)) (hF : FS y.cls ix ci j true ty) (hown : ∀ (C : String) (TT : u_T) (N : Nat), vwCl[ci]? = some (C, TT, N) → (TT j).1 = y.cls) (hy : y.name = "<init>") (hj : (fT ci)[j]? = some true) (hn : ∀ k, narrow ty (.ref k) = .ref k) (hf : ∀ k, fits ty (.ref k) = true) (h : pR S ci a j r = some S') (K : Sat G l y cc nL rt t mc ms ce sl (pc + 3) lv st S' T) : Sat G l y cc nL rt t mc ms ce sl pc lv (.ref r :: .ref a :: st) S T := by
  obtain ⟨hb, hx⟩ := oif h
  cases hx
  exact r_putF (S' := sR S a j (some r)) hd hF hown hy hb (hn _) (hf _) rfl (fun k hk => cE_sR hk) (cE_sRa hb hF.lt hj) K
/-- a final int of a house of any kind, in House's constructor -/
theorem r_putFF {a j ix : Nat} {x : Int32} {S' : Mm} (hd : decode cc pc = .ok (.putfield ix, 3)) (hF : ∀ ci, isF ci = true → FS y.cls ix ci j true .int) (hown : ∀ ci, isF ci = true → ∀ (C : String) (TT : u_T) (N : Nat), vwCl[ci]? = some (C, TT, N) → (TT j).1 = y.cls) (hy : y.name = "<init>") (hj : j < 6) (h : pF S a j x = some S') (K : Sat G l y cc nL rt t mc ms ce sl (pc + 3) lv st S' T) : Sat G l y cc nL rt t mc ms ce sl pc lv (.int x :: .ref a :: st) S T := by
  obtain ⟨hb, hx⟩ := oif h
  cases hx
  obtain ⟨h1, h2⟩ := okF_s hb
  have hj2 : (fT (mC S a))[j]? = some false := by
    rcases isF_c h2 with h | h | h | h | h | h <;> rw [h] <;> (rcases (show j = 0 ∨ j = 1 ∨ j = 2 ∨ j = 3 ∨ j = 4 ∨ j = 5 by omega) with rfl | rfl | rfl | rfl | rfl | rfl <;> rfl)
  have hc : okc S a (mC S a) = true := by simp [okc, h1]
  exact r_putF (S' := sI S a j x) hd (hF _ h2) (hown _ h2) hy hc rfl rfl rfl (fun k hk => cE_sI hk) (cE_sIa hc (hF _ h2).lt hj2) K
/-! new cells -/
theorem mX_nC {ci n : Nat} : mX (nC S ci n) = mX S + 1 := rfl
theorem cE_nC {ci n k : Nat} (hk : k ≠ mX S) : cE G (nC S ci n) k = cE G S k :=
  cE_congr (by show va_up S.1 (mX S) _ k = _; rw [va_up_ne _ _ hk]; rfl) (by show va_up S.2.1 (mX S) _ k = _; rw [va_up_ne _ _ hk]; rfl) (by show va_up S.2.2.1 (mX S) _ k = _; rw [va_up_ne _ _ hk]; rfl) (by show va_up S.2.2.2.1 (mX S) _ k = _; rw [va_up_ne _ _ hk]; rfl)
theorem cW_new {ci n : Nat} {s : State} {H H1 : Heap} {locs : List Loc} (hH : Hx G S s H locs) (hz : G.1 ≤ s.heap.size) (z1 : H1.size = H.size + 1) (o1 : ∀ q : Nat, q < H.size → H1[q]? = H[q]?) (he : va_at G.2.1 vwCl (G.1 + mX S, cE G (nC S ci n) (mX S)) H1) : Hx G (nC S ci n) s H1 locs := by
  refine ⟨fun k q hk => ?_, by rw [z1, hH.2.1, mX_nC]; omega, ⟨Nat.le_trans hH.2.2.1 (by omega), fun x h1 h2 => (o1 x (Nat.lt_of_lt_of_le h1 hH.2.2.1)).trans (hH.2.2.2.1 x h1 h2), hH.2.2.2.2⟩⟩
  obtain ⟨hl, rfl⟩ := cW_lt hk
  rw [mX_nC] at hl
  by_cases hkx : k = mX S
  · subst hkx
    exact he
  · rw [cE_nC hkx]
    exact (hH.1 k _ (cW_at (by omega))).kept (o1 _ (by rw [hH.2.1]; show G.1 + k < _; omega))
/-- how a class may be made here -/
def NS (own : String) (ix ci : Nat) (N : Nat) : Prop := ∃ (C : String) (T : u_T), vwCl[ci]? = some (C, T, N) ∧ Cond.classLink own ix C ∈ gtb ∧ Cond.instantiable C N ∈ gtb ∧ Cond.initialized C ∈ gtb
def dfl (t : Bool) : Value := if t = true then .null else .int 0
theorem cO_new {z a : Nat} : ∀ (ts : List Bool) (i : Nat), (∀ j, mI S a j = 0) → (∀ j, mR S a j = none) → cO z S a i ts = ts.map dfl
  | [], i, _, _ => rfl
  | t :: ts, i, h1, h2 => by
    rw [cO, List.map_cons, cO_new ts (i + 1) h1 h2, cS, h1, h2]
    cases t <;> rfl
theorem dfl_ok {ci : Nat} {q : vw_C} (h : vwCl[ci]? = some q) : ∀ j, j < q.2.2 → defaultValue (tyO ci j) = vp_V ((fT ci).map dfl) j := by
  have key : ∀ (n : Nat) (f g : Nat → Value), (List.range n).all (fun j => decide (f j = g j)) = true → ∀ j, j < n → f j = g j := fun n f g h j hj => by
    have := List.all_eq_true.mp h j (List.mem_range.mpr hj)
    simpa using this
  match ci, h with
  | 0, h => cases h; exact key _ _ _ (by decide +kernel)
  | 1, h => cases h; exact key _ _ _ (by decide +kernel)
  | 2, h => cases h; exact key _ _ _ (by decide +kernel)
  | 3, h => cases h; exact key _ _ _ (by decide +kernel)
  | 4, h => cases h; exact key _ _ _ (by decide +kernel)
  | 5, h => cases h; exact key _ _ _ (by decide +kernel)
  | 6, h => cases h; exact key _ _ _ (by decide +kernel)
  | 7, h => cases h; exact key _ _ _ (by decide +kernel)
  | 8, h => cases h; exact key _ _ _ (by decide +kernel)
  | 9, h => cases h; exact key _ _ _ (by decide +kernel)
  | 10, h => cases h; exact key _ _ _ (by decide +kernel)
  | 11, h => cases h; exact key _ _ _ (by decide +kernel)
  | k + 12, h => simp [vwCl] at h
theorem r_new {ix ci N : Nat} (hd : decode cc pc = .ok (.new ix, 3)) (hN : NS y.cls ix ci N) (h1 : ce + 1 ≤ mc) (h2 : sl + N ≤ ms) (K : Sat G l y cc nL rt t mc ms (ce + 1) (sl + N) (pc + 3) lv (.ref (mX S) :: st) (nC S ci 0) T) : Sat G l y cc nL rt t mc ms ce sl pc lv st S T := by
  obtain ⟨C, TT, g1, g2, g3, g4⟩ := hN
  intro p e s m args below meth c H locs ls hC hH hL
  have hts := hC.2.2.2.2.2.1
  have hin : ∀ w ∈ u_ws C TT N, w ∈ gtb := fun w h => uin g1 w h
  have hKn := hC.2.2.2.2.2.2.2.2.1.1 ci _ g1
  refine W.newcK hC.1 hC.2.1 hC.2.2.2.2.1 (hts _ g2) (hts _ g3) (hts _ g4) rfl hd h1 h2 hKn.2.1 hH.2.1 fun H1 kC hkC e1 z1 o1 => ?_
  refine K p e s m args below meth c H1 locs ls hC (cW_new hH hC.2.2.2.2.2.2.2.2.2.2.1 (by rw [z1, hH.2.1]) (fun q hq => o1 q (by rw [← hH.2.1]; exact hq)) ?_) hL
  have hc : mC (nC S ci 0) (mX S) = ci := va_up_self _ _ _
  have hl := ci_lt g1
  rw [cE, if_neg (by omega), if_neg (by omega), hc, cO_new (S := nC S ci 0) (fT ci) 0 (fun j => by show va_up S.1 (mX S) _ (mX S) j = 0; rw [va_up_self]) (fun j => by show va_up S.2.1 (mX S) _ (mX S) j = none; rw [va_up_self])]
  exact ⟨_, g1, (u_born (tyO ci) hts hin hKn hkC e1 (tyO_ok g1).1).to (dfl_ok g1)⟩
theorem r_newarray {n : Int32} {N : Nat} (hd : decode cc pc = .ok (.newarray .int, 2)) (hw : Cond.arrayClass .int ∈ gtb) (hn : ¬ n < 0) (hN : n.toNatClampNeg = N) (hb : N * 4 ≤ 536870912) (h1 : ce + 1 ≤ mc) (h2 : sl + N ≤ ms) (K : Sat G l y cc nL rt t mc ms (ce + 1) (sl + N) (pc + 2) lv (.ref (mX S) :: st) (nC S 100 N) T) : Sat G l y cc nL rt t mc ms ce sl pc lv (.int n :: st) S T := by
  intro p e s m args below meth c H locs ls hC hH hL
  have hts := hC.2.2.2.2.2.1
  refine va_newaK (atype := .int) hC.1 hC.2.1 (hts _ hw) rfl hd rfl hn hN hb h1 h2 hH.2.1 fun H1 cA e1 z1 o1 hAr hNm => ?_
  have hcA : cA = G.2.2.1 := Option.some.inj (hNm.symm.trans (hC.2.2.2.2.2.2.2.2.1.2 0 _ rfl).2)
  subst hcA
  refine K p e s m args below meth c H1 locs ls hC (cW_new hH hC.2.2.2.2.2.2.2.2.2.2.1 (by rw [z1, hH.2.1]) (fun q hq => o1 q (by rw [← hH.2.1]; exact hq)) ?_) hL
  have hc : mC (nC S 100 N) (mX S) = 100 := va_up_self _ _ _
  have hm : mN (nC S 100 N) (mX S) = N := va_up_self _ _ _
  have hi : mI (nC S 100 N) (mX S) = fun _ => 0 := va_up_self _ _ _
  rw [cE, if_pos hc, hm, hi]
  exact e1
theorem r_anewarray {n : Int32} {N ix : Nat} (hd : decode cc pc = .ok (.anewarray ix, 3)) (hw : Cond.classLink y.cls ix "GoodsDownhill$House" ∈ gtb) (hn : ¬ n < 0) (hN : n.toNatClampNeg = N) (hb : N * 4 ≤ 536870912) (h1 : ce + 1 ≤ mc) (h2 : sl + N ≤ ms) (K : Sat G l y cc nL rt t mc ms (ce + 1) (sl + N) (pc + 3) lv (.ref (mX S) :: st) (nC S 101 N) T) : Sat G l y cc nL rt t mc ms ce sl pc lv (.int n :: st) S T := by
  intro p e s m args below meth c H locs ls hC hH hL
  have hts := hC.2.2.2.2.2.1
  subst hN
  refine W.anew hC.1 hC.2.1 hC.2.2.2.2.1 (hts _ hw) (va_AO.use hC.2.2.2.2.2.2.2.2.2.1.2.2) rfl hd rfl hn hb h1 h2 fun cA kA comp f1 f2 f3 f4 => ?_
  have hcA : cA = G.2.2.2 := by
    obtain ⟨kA', comp', k1, k2, k3, k4⟩ := (hC.2.2.2.2.2.2.2.2.1.2 1 _ rfl).2
    exact Option.some.inj (f1.symm.trans k4)
  subst hcA
  have hz := hH.2.1
  generalize hH1 : H.push ({ cls := G.2.2.2, slots := Array.replicate n.toNatClampNeg .null, vm := .none } : Cell) = H1
  have z1 : H1.size = H.size + 1 := by rw [← hH1, Array.size_push]
  have e1 : H1[H.size]? = some (arrV G.2.2.2 n.toNatClampNeg (fun _ => .null)) := by rw [← hH1, Array.getElem?_push_size, ← arrV_new]
  have o1 : ∀ q : Nat, q < H.size → H1[q]? = H[q]? := fun q hq => by rw [← hH1, Array.getElem?_push, if_neg (Nat.ne_of_lt hq)]
  rw [hz]
  refine K p e s m args below meth c H1 locs ls hC (cW_new hH hC.2.2.2.2.2.2.2.2.2.2.1 z1 o1 ?_) hL
  have hc : mC (nC S 101 n.toNatClampNeg) (mX S) = 101 := va_up_self _ _ _
  have hm : mN (nC S 101 n.toNatClampNeg) (mX S) = n.toNatClampNeg := va_up_self _ _ _
  have hi : mR (nC S 101 n.toNatClampNeg) (mX S) = fun _ => none := va_up_self _ _ _
  rw [cE, if_neg (by omega), if_pos hc, hm, hi, ← hz]
  exact e1
end
