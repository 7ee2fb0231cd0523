section
variable {G : Gt} {l : Launch} {y : MethodName} {cc : ByteArray} {nL : Nat} {rt : Option FieldType} {t mc ms ce sl pc : Nat} {lv st : List Value} {S : Mm} {T : TG}
/-! locals -/
def noL (lv : List Value) : Bool := lv.all (fun v => decide (v.category = 1))
def asc (z : Nat) : Nat → List Value → List (Nat × Value)
  | _, [] => []
  | i, v :: vs => if v = .null then asc z (i + 1) vs else (i, cv z v) :: asc z (i + 1) vs
theorem asc_mem {z : Nat} : ∀ (lv : List Value) (i : Nat) (q : Nat × Value), q ∈ asc z i lv ↔ ∃ (k : Nat) (v : Value), lv[k]? = some v ∧ v ≠ .null ∧ q = (i + k, cv z v)
  | [], i, q => by simp [asc]
  | w :: lv, i, q => by
    have ih := asc_mem (z := z) lv (i + 1) q
    rw [asc]
    constructor
    · intro h
      split at h
      · obtain ⟨k, v, h1, h2, h3⟩ := ih.mp h
        exact ⟨k + 1, v, by simpa using h1, h2, by rw [h3]; congr 1; omega⟩
      · next hw =>
        rcases List.mem_cons.mp h with h | h
        · exact ⟨0, w, rfl, hw, h⟩
        · obtain ⟨k, v, h1, h2, h3⟩ := ih.mp h
          exact ⟨k + 1, v, by simpa using h1, h2, by rw [h3]; congr 1; omega⟩
    · rintro ⟨k, v, h1, h2, h3⟩
      cases k with
      | zero =>
        simp at h1
        subst h1
        rw [if_neg h2, h3]
        exact List.mem_cons_self
      | succ k =>
        have h4 : q ∈ asc z (i + 1) lv := ih.mpr ⟨k, v, by simpa using h1, h2, by rw [h3]; congr 1; omega⟩
        split
        · exact h4
        · exact List.mem_cons_of_mem _ h4
theorem Lx.has {z : Nat} {ls : Array Slot} (h : Lx z ls nL lv) : lv_has ls nL (asc z 0 lv) := by
  refine ⟨h.1, h.2.1, fun q hq => ?_⟩
  obtain ⟨k, v, h1, h2, h3⟩ := (asc_mem lv 0 q).mp hq
  rw [h3]
  show ls[0 + k]? = _
  rw [Nat.zero_add]
  exact h.2.2 k v h1 h2
theorem Lx.of {z : Nat} {ls : Array Slot} {i : Nat} {v : Value} (hn : noL lv = true) (h : lv_has ls nL ((i, cv z v) :: (asc z 0 lv).filter (fun q => !(q.1 == i) && !(q.1 + 1 == i && q.2.category == 2)))) : Lx z ls nL (lv.set i v) := by
  refine ⟨h.1, h.2.1, fun k w hk hw => ?_⟩
  by_cases hki : k = i
  · subst hki
    have hl := (List.getElem?_eq_some_iff.mp hk).1
    rw [List.getElem?_set_self (by simpa using hl)] at hk
    cases hk
    exact h.2.2 (k, cv z v) List.mem_cons_self
  · rw [List.getElem?_set_ne (Ne.symm hki)] at hk
    refine h.2.2 (k, cv z w) (List.mem_cons_of_mem _ (List.mem_filter.mpr ⟨(asc_mem lv 0 _).mpr ⟨k, w, hk, hw, by rw [Nat.zero_add]⟩, ?_⟩))
    have hc : w.category = 1 := by
      have := List.all_eq_true.mp hn w (List.mem_of_getElem? hk)
      simpa using this
    simp [hki, cv_cat, hc]
theorem r_istore {k : Nat} {x : Int32} {lv' : List Value} (hd : decode cc pc = .ok (.istore k, 2)) (hk : k < nL) (hn : noL lv = true) (hl : lv.set k (.int x) = lv') (K : Sat G l y cc nL rt t mc ms ce sl (pc + 2) lv' st S T) : Sat G l y cc nL rt t mc ms ce sl pc lv (.int x :: st) S T := by
  subst hl
  exact fun p e s m args below meth c H locs ls hC hH hL => lv_istore hC.1 hC.2.1 hd hL.has hk rfl (fun ls' hl' => K p e s m args below meth c H locs ls' hC hH (Lx.of (v := .int x) hn hl'))
theorem r_istore_n {k : Fin 4} {x : Int32} {lv' : List Value} (hd : decode cc pc = .ok (.istore_n k, 1)) (hk : (k : Nat) < nL) (hn : noL lv = true) (hl : lv.set (k : Nat) (.int x) = lv') (K : Sat G l y cc nL rt t mc ms ce sl (pc + 1) lv' st S T) : Sat G l y cc nL rt t mc ms ce sl pc lv (.int x :: st) S T := by
  subst hl
  exact fun p e s m args below meth c H locs ls hC hH hL => lv_istore_n hC.1 hC.2.1 hd rfl hL.has hk rfl (fun ls' hl' => K p e s m args below meth c H locs ls' hC hH (Lx.of (v := .int x) hn hl'))
theorem r_astore {k : Nat} {x : Nat} {lv' : List Value} (hd : decode cc pc = .ok (.astore k, 2)) (hk : k < nL) (hn : noL lv = true) (hl : lv.set k (.ref x) = lv') (K : Sat G l y cc nL rt t mc ms ce sl (pc + 2) lv' st S T) : Sat G l y cc nL rt t mc ms ce sl pc lv (.ref x :: st) S T := by
  subst hl
  exact fun p e s m args below meth c H locs ls hC hH hL => lv_astore hC.1 hC.2.1 hd hL.has hk rfl (fun ls' hl' => K p e s m args below meth c H locs ls' hC hH (Lx.of (v := .ref x) hn hl'))
theorem r_astore_n {k : Fin 4} {x : Nat} {lv' : List Value} (hd : decode cc pc = .ok (.astore_n k, 1)) (hk : (k : Nat) < nL) (hn : noL lv = true) (hl : lv.set (k : Nat) (.ref x) = lv') (K : Sat G l y cc nL rt t mc ms ce sl (pc + 1) lv' st S T) : Sat G l y cc nL rt t mc ms ce sl pc lv (.ref x :: st) S T := by
  subst hl
  exact fun p e s m args below meth c H locs ls hC hH hL => lv_astore_n hC.1 hC.2.1 hd rfl hL.has hk rfl (fun ls' hl' => K p e s m args below meth c H locs ls' hC hH (Lx.of (v := .ref x) hn hl'))
theorem r_iinc {k : Nat} {n : Int} {x v : Int32} {lv' : List Value} (hd : decode cc pc = .ok (.iinc k n, 3)) (hx : lv[k]? = some (.int x)) (hv : Int32.ofInt n = v) (hk : k < nL) (hn : noL lv = true) (hl : lv.set k (.int (x + v)) = lv') (K : Sat G l y cc nL rt t mc ms ce sl (pc + 3) lv' st S T) : Sat G l y cc nL rt t mc ms ce sl pc lv st S T := by
  subst hl
  intro p e s m args below meth c H locs ls hC hH hL
  obtain ⟨j, hj⟩ := List.getElem?_of_mem ((asc_mem (z := G.1) lv 0 (k, .int x)).mpr ⟨k, .int x, hx, by simp, by rw [Nat.zero_add]; rfl⟩)
  exact lv_iinc (v := x + v) hC.1 hC.2.1 hd hL.has hj (by rw [hv]) hk rfl (fun ls' hl' => K p e s m args below meth c H locs ls' hC hH (Lx.of (v := .int (x + v)) hn hl'))
/-- the locals that are no more used are forgotten -/
theorem r_lv {lv' : List Value} (h : ∀ k : Nat, lv'[k]? = lv[k]? ∨ lv'[k]? = some .null) (K : Sat G l y cc nL rt t mc ms ce sl pc lv' st S T) : Sat G l y cc nL rt t mc ms ce sl pc lv st S T :=
  fun p e s m args below meth c H locs ls hC hH hL => K p e s m args below meth c H locs ls hC hH ⟨hL.1, hL.2.1, fun k v hk hv => by
    rcases h k with h | h
    · exact hL.2.2 k v (h.symm.trans hk) hv
    · exact absurd (Option.some.inj (hk.symm.trans h)) hv⟩
theorem r_widen {ce' sl' : Nat} (h1 : ce ≤ ce') (h2 : sl ≤ sl') (K : Sat G l y cc nL rt t mc ms ce' sl' pc lv st S T) : Sat G l y cc nL rt t mc ms ce sl pc lv st S T :=
  fun p e s m args below meth c H locs ls hC hH hL => W.widen h1 h2 (K p e s m args below meth c H locs ls hC hH hL)
/-! returns -/
theorem r_ireturn {x : Int32} (hd : decode cc pc = .ok (.ireturn, 1)) (hr : rt = some .int) (h1 : ce ≤ mc) (h2 : sl ≤ ms) (hT : (.inl (some (.int x), S) : TG) = T) : Sat G l y cc nL rt t mc ms ce sl pc lv [.int x] S T := by
  subst hT
  exact fun p e s m args below meth c H locs ls hC hH hL => W.widen h1 h2 (W.iret hC.1 hC.2.1 (hC.2.2.1.trans hr) (fun t ht hW => ⟨⟨rfl, by rw [ht]; exact hH.1, by rw [ht]; exact hH.2.1⟩, hH.2.2.F ht⟩) hH.2.2.2.2 hd hC.2.2.2.2.2.2.1)
theorem r_zreturn {x x' : Int32} (hd : decode cc pc = .ok (.ireturn, 1)) (hr : rt = some .boolean) (h1 : ce ≤ mc) (h2 : sl ≤ ms) (hx : rB x = some x') (hT : (.inl (some (.int x'), S) : TG) = T) : Sat G l y cc nL rt t mc ms ce sl pc lv [.int x] S T := by
  subst hT
  obtain ⟨hb, hx⟩ := oif hx
  cases hx
  have hn : narrow .boolean (.int x) = .int x := by
    simp only [Bool.or_eq_true, beq_iff_eq] at hb
    rcases hb with rfl | rfl <;> rfl
  exact fun p e s m args below meth c H locs ls hC hH hL => W.widen h1 h2 (W.zret hC.1 hC.2.1 (hC.2.2.1.trans hr) hn (fun t ht hW => ⟨⟨rfl, by rw [ht]; exact hH.1, by rw [ht]; exact hH.2.1⟩, hH.2.2.F ht⟩) hH.2.2.2.2 hd hC.2.2.2.2.2.2.1)
theorem r_return (hd : decode cc pc = .ok (.return_, 1)) (hr : rt = none) (h1 : ce ≤ mc) (h2 : sl ≤ ms) (hT : (.inl (none, S) : TG) = T) : Sat G l y cc nL rt t mc ms ce sl pc lv [] S T := by
  subst hT
  exact fun p e s m args below meth c H locs ls hC hH hL => W.widen h1 h2 (W.vret hC.1 hC.2.1 (hC.2.2.1.trans hr) (fun t ht hW => ⟨⟨rfl, by rw [ht]; exact hH.1, by rw [ht]; exact hH.2.1⟩, hH.2.2.F ht⟩) hH.2.2.2.2 hd hC.2.2.2.2.2.2.1)
theorem r_areturn {a : Nat} {C : String} (hd : decode cc pc = .ok (.areturn, 1)) (hr : rt = some (.object C)) (h1 : ce ≤ mc) (h2 : sl ≤ ms) (hT : (.inl (some (.ref a), S) : TG) = T) : Sat G l y cc nL rt t mc ms ce sl pc lv [.ref a] S T := by
  subst hT
  exact fun p e s m args below meth c H locs ls hC hH hL => W.widen h1 h2 (W.aret hC.1 hC.2.1 (hC.2.2.1.trans hr) (Or.inl ⟨_, rfl⟩) (Or.inr ⟨_, rfl⟩) (fun t ht hW => ⟨⟨rfl, by rw [ht]; exact hH.1, by rw [ht]; exact hH.2.1⟩, hH.2.2.F ht⟩) hH.2.2.2.2 hd hC.2.2.2.2.2.2.1)
/-! arrays -/
theorem okc_s {a ci : Nat} (h : okc S a ci = true) : a < mX S ∧ mC S a = ci := by simpa [okc] using h
theorem okF_s {a : Nat} (h : okF S a = true) : a < mX S ∧ isF (mC S a) = true := by simpa [okF] using h
theorem inb_s {i : Int32} {n : Nat} (h : inb i n = true) : vp_in i n := by
  simp only [inb, Bool.and_eq_true, decide_eq_true_eq] at h
  intro q
  rcases q with q | q
  · exact absurd q (Int32.not_lt.mpr h.1)
  · omega
theorem cE_arr {a : Nat} (h : okc S a 100 = true) : (cW G S)[a]? = some (G.1 + a, .inl (G.2.2.1, mN S a, .inl (mI S a))) := by
  obtain ⟨h1, h2⟩ := okc_s h
  rw [cW_at h1, cE, if_pos h2]
theorem cE_rar {a : Nat} (h : okc S a 101 = true) : (cW G S)[a]? = some (G.1 + a, .inl (G.2.2.2, mN S a, .inr (.inr (.inr (.inr (fun j => (mR S a j).map (fun r => G.1 + r))))))) := by
  obtain ⟨h1, h2⟩ := okc_s h
  rw [cW_at h1, cE, if_neg (by omega), if_pos h2]
theorem r_iaload {a : Nat} {i x : Int32} (hd : decode cc pc = .ok (.iaload, 1)) (h : aI S a i = some x) (K : Sat G l y cc nL rt t mc ms ce sl (pc + 1) lv (.int x :: st) S T) : Sat G l y cc nL rt t mc ms ce sl pc lv (.int i :: .ref a :: st) S T := by
  obtain ⟨hb, hx⟩ := oif h
  cases hx
  simp only [Bool.and_eq_true] at hb
  exact fun p e s m args below meth c H locs ls hC hH hL => va_iald (D := G.2.1) (tys := tyG G) hC.1 hC.2.1 hC.2.2.2.2.2.2.2.2.1 hH.1 a 0 (cE_arr hb.1) rfl (inb_s hb.2) hd (K p e s m args below meth c H locs ls hC hH hL)
theorem r_aaload {a r : Nat} {i : Int32} (hd : decode cc pc = .ok (.aaload, 1)) (h : aR S a i = some r) (K : Sat G l y cc nL rt t mc ms ce sl (pc + 1) lv (.ref r :: st) S T) : Sat G l y cc nL rt t mc ms ce sl pc lv (.int i :: .ref a :: st) S T := by
  obtain ⟨hb, hx⟩ := oif h
  simp only [Bool.and_eq_true] at hb
  intro p e s m args below meth c H locs ls hC hH hL
  refine va_aldq (D := G.2.1) (tys := tyG G) hC.1 hC.2.1 hC.2.2.2.2.2.2.2.2.1 hH.1 a 1 (cE_rar hb.1) rfl (inb_s hb.2) hd ?_
  rw [hx]
  exact K p e s m args below meth c H locs ls hC hH hL
theorem r_alen {a : Nat} {x : Int32} (hd : decode cc pc = .ok (.arraylength, 1)) (h : aL S 100 a = some x) (K : Sat G l y cc nL rt t mc ms ce sl (pc + 1) lv (.int x :: st) S T) : Sat G l y cc nL rt t mc ms ce sl pc lv (.ref a :: st) S T := by
  obtain ⟨hb, hx⟩ := oif h
  cases hx
  exact fun p e s m args below meth c H locs ls hC hH hL => va_alen (D := G.2.1) (tys := tyG G) hC.1 hC.2.1 hC.2.2.2.2.2.2.2.2.1 hH.1 a 0 (cE_arr hb) rfl rfl hd (K p e s m args below meth c H locs ls hC hH hL)
theorem r_alenR {a : Nat} {x : Int32} (hd : decode cc pc = .ok (.arraylength, 1)) (h : aL S 101 a = some x) (K : Sat G l y cc nL rt t mc ms ce sl (pc + 1) lv (.int x :: st) S T) : Sat G l y cc nL rt t mc ms ce sl pc lv (.ref a :: st) S T := by
  obtain ⟨hb, hx⟩ := oif h
  cases hx
  exact fun p e s m args below meth c H locs ls hC hH hL => va_alen (D := G.2.1) (tys := tyG G) hC.1 hC.2.1 hC.2.2.2.2.2.2.2.2.1 hH.1 a 1 (cE_rar hb) rfl rfl hd (K p e s m args below meth c H locs ls hC hH hL)
theorem mI_sI {a j : Nat} {v : Int32} : mI (sI S a j v) = u2 (mI S) a j v := rfl
theorem cE_sI {a j k : Nat} {v : Int32} (hk : k ≠ a) : cE G (sI S a j v) k = cE G S k :=
  cE_congr (by funext q; simp [mI_sI, u2, hk]) rfl rfl rfl
theorem mR_sR {a j : Nat} {v : Option Nat} : mR (sR S a j v) = u2 (mR S) a j v := rfl
theorem cE_sR {a j k : Nat} {v : Option Nat} (hk : k ≠ a) : cE G (sR S a j v) k = cE G S k :=
  cE_congr rfl (by funext q; simp [mR_sR, u2, hk]) rfl rfl
theorem cW_put {a : Nat} {E0 E : va_E} {S' : Mm} {s : State} {H H1 : Heap} {locs : List Loc} {j : Nat} (hH : Hx G S s H locs) (h0 : (cW G S)[a]? = some (G.1 + a, E0)) (hX : mX S' = mX S) (ho : ∀ k, k ≠ a → cE G S' k = cE G S k) (ha : cE G S' a = E) (he : va_at G.2.1 vwCl (G.1 + a, E) H1) (z : H1.size = H.size) (oq : ∀ q : Nat, q ≠ G.1 + a → H1[q]? = H[q]?) : Hx G S' s H1 (locs ++ [⟨G.1 + a, j⟩]) := by
  refine ⟨?_, ?_, hH.2.2.put z oq (Nat.le_add_right _ _)⟩
  · rw [← cW_set (S := S) (S' := S') (a := a) (E := E) hX ho ha]
    exact hH.1.set cW_D h0 he oq
  · rw [z, hX]; exact hH.2.1
theorem r_iastore {a : Nat} {i x : Int32} {S' : Mm} (hd : decode cc pc = .ok (.iastore, 1)) (h : aS S a i x = some S') (K : Sat G l y cc nL rt t mc ms ce sl (pc + 1) lv st S' T) : Sat G l y cc nL rt t mc ms ce sl pc lv (.int x :: .int i :: .ref a :: st) S T := by
  obtain ⟨hb, hx⟩ := oif h
  cases hx
  simp only [Bool.and_eq_true] at hb
  intro p e s m args below meth c H locs ls hC hH hL
  have hin := inb_s hb.2
  have h0 := cE_arr (G := G) hb.1
  refine W.iast hC.1 hC.2.1 (hH.1 a _ h0) ((hC.2.2.2.2.2.2.2.2.1.2 0 _ rfl).1 (mN S a) (fun j => .int (mI S a j))) (fun q => by cases q) (by show ¬ (i < 0 ∨ (arrV _ _ _).slots.size ≤ _); rw [arrV_size]; exact hin) rfl rfl hd fun H1 e1 z oq => ?_
  refine K p e s m args below meth c H1 _ ls hC (cW_put hH h0 (S' := sI S a i.toNatClampNeg x) (E := .inl (G.2.2.1, mN S a, .inl (upd (mI S a) i.toNatClampNeg x))) rfl (fun k hk => cE_sI hk) ?_ ?_ z oq) hL
  · rw [cE, if_pos (show mC (sI S a i.toNatClampNeg x) a = 100 from (okc_s hb.1).2)]
    have hq : mI (sI S a i.toNatClampNeg x) a = upd (mI S a) i.toNatClampNeg x := by
      funext q
      simp [mI_sI, u2, upd]
    rw [hq]
    rfl
  · show H1[G.1 + a]? = some (vp_cell _ _)
    rw [e1]
    show some ((arrV G.2.2.1 (mN S a) (fun j => .int (mI S a j))).setSlot _ _) = _
    rw [vp_cell_i, arrV_store]
    congr 2
    funext q
    by_cases hq : q = i.toNatClampNeg <;> simp [updV, upd, hq]
/-! fields -/
/-- a field's place: the method's class, its pool number, the object's kind, the slot -/
def FS (own : String) (ix ci j : Nat) (fin : Bool) (ty : FieldType) : Prop := ∃ (C : String) (T : u_T) (N : Nat) (ref : String), vwCl[ci]? = some (C, T, N) ∧ j < N ∧ Cond.fieldLink own ix ref (T j).2.1 (T j).2.2.1 ∈ gtb ∧ (ref = (T j).1 ∨ Cond.sameField ref (T j).1 (T j).2.1 (T j).2.2.1 ∈ gtb) ∧ (T j).2.2.2 = fin ∧ parseFieldDescriptor (T j).2.2.1 = some ty
theorem cE_obj {a ci : Nat} (h : okc S a ci = true) (hc : ci < 100) : (cW G S)[a]? = some (G.1 + a, .inr (ci, cO G.1 S a 0 (fT ci))) := by
  obtain ⟨h1, h2⟩ := okc_s h
  rw [cW_at h1, cE, if_neg (by omega), if_neg (by omega), h2]
theorem ci_lt {ci : Nat} {q : vw_C} (h : vwCl[ci]? = some q) : ci < 100 := by
  have := (List.getElem?_eq_some_iff.mp h).1
  simp [vwCl] at this
  omega
theorem r_get {a ci j ix : Nat} {fin : Bool} {ty : FieldType} {v : Value} (hd : decode cc pc = .ok (.getfield ix, 3)) (hF : FS y.cls ix ci j fin ty) (ha : okc S a ci = true) (hv : (cO G.1 S a 0 (fT ci))[j]? = some (cv G.1 v)) (K : Sat G l y cc nL rt t mc ms ce sl (pc + 3) lv (v :: st) S T) : Sat G l y cc nL rt t mc ms ce sl pc lv (.ref a :: st) S T := by
  obtain ⟨C, TT, N, ref, h1, h2, h3, h4, h5, h6⟩ := hF
  intro p e s m args below meth c H locs ls hC hH hL
  have hts := hC.2.2.2.2.2.1
  refine va_get (D := G.2.1) (ci := ci) (C := C) (T := TT) (N := N) hC.1 hC.2.1 hts (fun w h => uin h1 w h) hC.2.2.2.2.1 hC.2.2.2.2.2.2.2.2.1 hH.1 a (cE_obj ha (ci_lt h1)) h1 j h2 (hts _ h3) (fun x hx => ?_) hv hd (K p e s m args below meth c H locs ls hC hH hL)
  rcases h4 with h4 | h4
  · rw [h4]; exact hx
  · exact u_same (hts _ h4) x hx
theorem r_getI {a ci j ix : Nat} {fin : Bool} {ty : FieldType} {x : Int32} (hd : decode cc pc = .ok (.getfield ix, 3)) (hF : FS y.cls ix ci j fin ty) (hj : (fT ci)[j]? = some false) (h : gI S ci a j = some x) (K : Sat G l y cc nL rt t mc ms ce sl (pc + 3) lv (.int x :: st) S T) : Sat G l y cc nL rt t mc ms ce sl pc lv (.ref a :: st) S T := by
  obtain ⟨hb, hx⟩ := oif h
  cases hx
  exact r_get hd hF hb (by rw [cO_at, hj]; simp [cS, cv]) K
theorem r_getR {a ci j ix r : Nat} {fin : Bool} {ty : FieldType} (hd : decode cc pc = .ok (.getfield ix, 3)) (hF : FS y.cls ix ci j fin ty) (hj : (fT ci)[j]? = some true) (h : gR S ci a j = some r) (K : Sat G l y cc nL rt t mc ms ce sl (pc + 3) lv (.ref r :: st) S T) : Sat G l y cc nL rt t mc ms ce sl pc lv (.ref a :: st) S T := by
  obtain ⟨hb, hx⟩ := oif h
  exact r_get hd hF hb (by rw [cO_at, hj]; simp [cS, cv, hx, va_rf]) K
theorem isF_c {c : Nat} (h : isF c = true) : c = 0 ∨ c = 2 ∨ c = 3 ∨ c = 4 ∨ c = 5 ∨ c = 8 := by
  simp only [isF, Bool.or_eq_true, beq_iff_eq] at h
  omega
/-- a field of a house of any kind -/
theorem r_getF {a j ix : Nat} {fin : Bool} {ty : FieldType} {x : Int32} (hd : decode cc pc = .ok (.getfield ix, 3)) (hF : ∀ ci, isF ci = true → FS y.cls ix ci j fin ty) (hj : j < 6) (h : gF S a j = some x) (K : Sat G l y cc nL rt t mc ms ce sl (pc + 3) lv (.int x :: st) S T) : Sat G l y cc nL rt t mc ms ce sl pc lv (.ref a :: st) S T := by
  obtain ⟨hb, hx⟩ := oif h
  obtain ⟨h1, h2⟩ := okF_s hb
  have hj2 : (fT (mC S a))[j]? = some false := by
    rcases isF_c h2 with h | h | h | h | h | h <;> rw [h] <;> (rcases (show j = 0 ∨ j = 1 ∨ j = 2 ∨ j = 3 ∨ j = 4 ∨ j = 5 by omega) with rfl | rfl | rfl | rfl | rfl | rfl <;> rfl)
  exact r_getI hd (hF _ h2) hj2 (by rw [gI, if_pos (by simp [okc, h1])]; exact hx) K
theorem r_put {a ci j ix : Nat} {ty : FieldType} {v : Value} {S' : Mm} (hd : decode cc pc = .ok (.putfield ix, 3)) (hF : FS y.cls ix ci j false ty) (ha : okc S a ci = true) (hn : narrow ty (cv G.1 v) = cv G.1 v) (hf : fits ty (cv G.1 v) = true) (hX : mX S' = mX S) (ho : ∀ k, k ≠ a → cE G S' k = cE G S k) (he : cE G S' a = .inr (ci, (cO G.1 S a 0 (fT ci)).set j (cv G.1 v))) (K : Sat G l y cc nL rt t mc ms ce sl (pc + 3) lv st S' T) : Sat G l y cc nL rt t mc ms ce sl pc lv (v :: .ref a :: st) S T := by
  obtain ⟨C, TT, N, ref, h1, h2, h3, h4, h5, h6⟩ := hF
  intro p e s m args below meth c H locs ls hC hH hL
  have hts := hC.2.2.2.2.2.1
  have hin : ∀ w ∈ u_ws C TT N, w ∈ gtb := fun w h => uin h1 w h
  have hK := hC.2.2.2.2.2.2.2.2.1
  have h0 := cE_obj (G := G) ha (ci_lt h1)
  have hap := va_apart (own := y.cls) hts hin (tyO ci) (tyO_ok h1).1 (tyO_ok h1).2 hK h1
  obtain ⟨r, g1, cell, q1, q2, q3, q4⟩ := hH.1 a _ h0
  cases g1.symm.trans h1
  obtain ⟨hS, hfc, kC, hkC, hkind⟩ := hK.1 ci _ h1
  obtain ⟨cf, kf, fi, f, hi, hsl⟩ := hS j h2
  have hlay := hts _ (hin _ (u_in_lay h2))
  unfold u_lay at hlay
  rw [if_neg (by rw [h5]; decide)] at hlay
  have hst := (u_facts hfc hkC (u_lays hts hin h2) hi).1
  have hstore := u_store hfc hkC hkind hlay hi h6 hn hf
  have hsame : ∀ x, s.fieldFound? (TT j).1 (TT j).2.1 (TT j).2.2.1 = some x → s.fieldFound? ref (TT j).2.1 (TT j).2.2.1 = some x := fun x hx => by
    rcases h4 with h4 | h4
    · rw [h4]; exact hx
    · exact u_same (hts _ h4) x hx
  refine W.putK hC.1 hC.2.1 (f := f) ⟨hC.2.2.2.2.1, hts _ h3, ⟨_, _, _, hsame _ hi⟩, hst⟩ (by rw [q2]; exact hstore) q1 q3 (by rw [hsl]; exact k2_hasslot (q4 j h2)) rfl rfl hd fun H1 e1 e2 e3 => ?_
  rw [hsl] at e1 ⊢
  have hl : j < (cO G.1 S a 0 (fT ci)).length := by rw [cO_len, fT_len h1]; exact h2
  exact K p e s m args below meth c H1 _ ls hC (cW_put hH h0 hX ho he ⟨_, h1, t_OB.to (V := updV (vp_V (cO G.1 S a 0 (fT ci))) j (cv G.1 v)) ⟨_, e1, q2, q3, t_set q4 hap h2 _⟩ (fun k _ => vp_updV_set hl _ k)⟩ e2 e3) hL
theorem r_putF {a ci j ix : Nat} {ty : FieldType} {v : Value} {S' : Mm} (hd : decode cc pc = .ok (.putfield ix, 3)) (hF : FS y.cls ix ci j true ty) (hown : ∀ (C : String) (TT : u_T) (N : Nat), vwCl[ci]? = some (C, TT, N) → (TT j).1 = y.cls) (hy : y.name = "<init>") (ha : okc S a ci = true) (hn : narrow ty (cv G.1 v) = cv G.1 v) (hf : fits ty (cv G.1 v) = true) (hX : mX S' = mX S) (ho : ∀ k, k ≠ a → cE G S' k = cE G S k) (he : cE G S' a = .inr (ci, (cO G.1 S a 0 (fT ci)).set j (cv G.1 v))) (K : Sat G l y cc nL rt t mc ms ce sl (pc + 3) lv st S' T) : Sat G l y cc nL rt t mc ms ce sl pc lv (v :: .ref a :: st) S T := by
  obtain ⟨C, TT, N, ref, h1, h2, h3, h4, h5, h6⟩ := hF
  intro p e s m args below meth c H locs ls hC hH hL
  have hts := hC.2.2.2.2.2.1
  have hin : ∀ w ∈ u_ws C TT N, w ∈ gtb := fun w h => uin h1 w h
  have hK := hC.2.2.2.2.2.2.2.2.1
  have h0 := cE_obj (G := G) ha (ci_lt h1)
  have hap := va_apart (own := y.cls) hts hin (tyO ci) (tyO_ok h1).1 (tyO_ok h1).2 hK h1
  obtain ⟨r, g1, cell, q1, q2, q3, q4⟩ := hH.1 a _ h0
  cases g1.symm.trans h1
  obtain ⟨hS, hfc, kC, hkC, hkind⟩ := hK.1 ci _ h1
  obtain ⟨cf, kf, fi, f, hi, hsl⟩ := hS j h2
  have hlay := hts _ (hin _ (u_in_lay h2))
  unfold u_lay at hlay
  rw [if_pos h5] at hlay
  have hst := (u_facts hfc hkC (u_lays hts hin h2) hi).1
  have hcf : m.cls = cf := by
    obtain ⟨_, _, c', _, _, _, -, -, hf', -, -, -, hown2, -⟩ := Cond.laysFinal_spec hlay
    have e1 : c' = cf := by have := hi.symm.trans hf'; simp at this; exact this.1.symm
    rw [hown C TT N h1] at hown2
    rw [← e1]; exact Option.some.inj (hC.2.2.2.2.1.symm.trans hown2)
  have hfit := u_fits hfc hkC hkind (Or.inr hlay) hi h6 hn hf
  have hsame : ∀ x, s.fieldFound? (TT j).1 (TT j).2.1 (TT j).2.2.1 = some x → s.fieldFound? ref (TT j).2.1 (TT j).2.2.1 = some x := fun x hx => by
    rcases h4 with h4 | h4
    · rw [h4]; exact hx
    · exact u_same (hts _ h4) x hx
  refine W.putFinK hC.1 hC.2.1 hC.2.2.2.2.1 (hts _ h3) (hsame _ hi) hst hcf (hC.2.2.2.2.2.2.2.1 hy) (by rw [q2]; exact hfit) q1 q3 (by rw [hsl]; exact k2_hasslot (q4 j h2)) rfl rfl hd fun H1 e1 e2 e3 => ?_
  rw [hsl] at e1 ⊢
  have hl : j < (cO G.1 S a 0 (fT ci)).length := by rw [cO_len, fT_len h1]; exact h2
  exact K p e s m args below meth c H1 _ ls hC (cW_put hH h0 hX ho he ⟨_, h1, t_OB.to (V := updV (vp_V (cO G.1 S a 0 (fT ci))) j (cv G.1 v)) ⟨_, e1, q2, q3, t_set q4 hap h2 _⟩ (fun k _ => vp_updV_set hl _ k)⟩ e2 e3) hL
end
