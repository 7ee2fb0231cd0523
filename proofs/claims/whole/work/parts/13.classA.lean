def f_X4_init (S : Mm) (l0 : Nat) (l1 : Int32) (l2 : Int32) (l3 : Int32) (l4 : Int32) (l5 : Int32) (l6 : Int32) : Option Mm := (pF S l0 0 l1).bind fun S1 => (pF S1 l0 1 l2).bind fun S3 => (pF S3 l0 2 l3).bind fun S5 => (pF S5 l0 3 l4).bind fun S7 => (pF S7 l0 4 l5).bind fun S9 => (pF S9 l0 5 l6).bind fun S11 => some S11
set_option maxRecDepth 20000 in
theorem c_X4_init {G : Gt} {l : Launch} {S : Mm} {l0 : Nat} {l1 : Int32} {l2 : Int32} {l3 : Int32} {l4 : Int32} {l5 : Int32} {l6 : Int32} {T : Mm} (hf : f_X4_init S l0 l1 l2 l3 l4 l5 l6 = some T) : CC G l yX4_init cX4_init 7 none 1 0 0 [.ref l0, .int l1, .int l2, .int l3, .int l4, .int l5, .int l6] S (eV T) := by
  unfold f_X4_init at hf
  refine r_body (by decide) rfl (Nat.le_of_ble_eq_true rfl) (by simp) ?_
  refine r_aload_n dX4_init_0 rfl ?_
  refine r_objInit dX4_init_1 ⟨w1_47, w1_22, w1_23⟩ (by decide) (Nat.le_of_ble_eq_true rfl) ?_
  refine r_aload_n dX4_init_4 rfl ?_
  refine r_iload_n dX4_init_5 rfl ?_
  obtain ⟨S1, h2, hf⟩ := bnd hf
  refine r_putFF dX4_init_6 ff4_7 (hfam0) rfl (by decide) h2 ?_
  refine r_aload_n dX4_init_9 rfl ?_
  refine r_iload_n dX4_init_10 rfl ?_
  obtain ⟨S3, h4, hf⟩ := bnd hf
  refine r_putFF dX4_init_11 ff4_13 (hfam1) rfl (by decide) h4 ?_
  refine r_aload_n dX4_init_14 rfl ?_
  refine r_iload_n dX4_init_15 rfl ?_
  obtain ⟨S5, h6, hf⟩ := bnd hf
  refine r_putFF dX4_init_16 ff4_16 (hfam2) rfl (by decide) h6 ?_
  refine r_aload_n dX4_init_19 rfl ?_
  refine r_iload dX4_init_20 rfl ?_
  obtain ⟨S7, h8, hf⟩ := bnd hf
  refine r_putFF dX4_init_22 ff4_19 (hfam3) rfl (by decide) h8 ?_
  refine r_aload_n dX4_init_25 rfl ?_
  refine r_iload dX4_init_26 rfl ?_
  obtain ⟨S9, h10, hf⟩ := bnd hf
  refine r_putFF dX4_init_28 ff4_22 (hfam4) rfl (by decide) h10 ?_
  refine r_aload_n dX4_init_31 rfl ?_
  refine r_iload dX4_init_32 rfl ?_
  obtain ⟨S11, h12, hf⟩ := bnd hf
  refine r_putFF dX4_init_34 ff4_25 (hfam5) rfl (by decide) h12 ?_
  have hz := congrArg eV (Option.some.inj hf)
  exact r_return dX4_init_37 rfl (Nat.le_of_ble_eq_true rfl) (Nat.le_of_ble_eq_true rfl) hz
def f_X0_init (S : Mm) (l0 : Nat) (l1 : Int32) (l2 : Int32) (l3 : Int32) (l4 : Int32) (l5 : Int32) (l6 : Int32) : Option Mm := (f_X4_init S l0 l1 l2 l3 l4 l5 l6).bind fun q1 => some q1
set_option maxRecDepth 20000 in
theorem c_X0_init {G : Gt} {l : Launch} {S : Mm} {l0 : Nat} {l1 : Int32} {l2 : Int32} {l3 : Int32} {l4 : Int32} {l5 : Int32} {l6 : Int32} {T : Mm} (hf : f_X0_init S l0 l1 l2 l3 l4 l5 l6 = some T) : CC G l yX0_init cX0_init 7 none 2 0 0 [.ref l0, .int l1, .int l2, .int l3, .int l4, .int l5, .int l6] S (eV T) := by
  unfold f_X0_init at hf
  refine r_body (by decide) rfl (Nat.le_of_ble_eq_true rfl) (by simp) ?_
  refine r_aload_n dX0_init_0 rfl ?_
  refine r_iload_n dX0_init_1 rfl ?_
  refine r_iload_n dX0_init_2 rfl ?_
  refine r_iload_n dX0_init_3 rfl ?_
  refine r_iload dX0_init_4 rfl ?_
  refine r_iload dX0_init_6 rfl ?_
  refine r_iload dX0_init_8 rfl ?_
  obtain ⟨q1, h2, hf⟩ := bnd hf
  refine r_callIv (st := []) (as := [.int l1, .int l2, .int l3, .int l4, .int l5, .int l6]) dX0_init_10 ms_X4_init ⟨rfl, w2_47, w1_45⟩ (c_X4_init h2) rfl ⟨by omega, by omega⟩ (Nat.le_of_ble_eq_true rfl) (by decide) (by decide) rfl ?_
  have hz := congrArg eV (Option.some.inj hf)
  exact r_return dX0_init_13 rfl (Nat.le_of_ble_eq_true rfl) (Nat.le_of_ble_eq_true rfl) hz
def f_X0_insteadOf (S : Mm) (l0 : Nat) (l1 : Int32) : Option (Nat × Mm) := (gF (nC S 0 0) l0 1).bind fun x1 => (gF (nC S 0 0) l0 2).bind fun x3 => (gF (nC S 0 0) l0 3).bind fun x5 => (gF (nC S 0 0) l0 4).bind fun x7 => (gF (nC S 0 0) l0 5).bind fun x9 => (f_X0_init (nC S 0 0) (mX S) l1 x1 x3 x5 x7 x9).bind fun q11 => some ((mX S), q11)
set_option maxRecDepth 20000 in
theorem c_X0_insteadOf {G : Gt} {l : Launch} {S : Mm} {l0 : Nat} {l1 : Int32} {T : (Nat × Mm)} (hf : f_X0_insteadOf S l0 l1 = some T) : CC G l yX0_insteadOf cX0_insteadOf 2 (some (.object "GoodsDownhill$House")) 3 1 6 [.ref l0, .int l1] S (eA T) := by
  unfold f_X0_insteadOf at hf
  refine r_body (by decide) rfl (Nat.le_of_ble_eq_true rfl) (by simp) ?_
  refine r_new (ci := 0) (N := 6) dX0_insteadOf_0 ⟨_, _, rfl, w3_180, w2_43, w1_9⟩ (by decide) (by decide) ?_
  refine r_dup dX0_insteadOf_3 rfl ?_
  refine r_iload_n dX0_insteadOf_4 rfl ?_
  refine r_aload_n dX0_insteadOf_5 rfl ?_
  obtain ⟨x1, h2, hf⟩ := bnd hf
  refine r_getF dX0_insteadOf_6 ff0_9 (by decide) h2 ?_
  refine r_aload_n dX0_insteadOf_9 rfl ?_
  obtain ⟨x3, h4, hf⟩ := bnd hf
  refine r_getF dX0_insteadOf_10 ff0_13 (by decide) h4 ?_
  refine r_aload_n dX0_insteadOf_13 rfl ?_
  obtain ⟨x5, h6, hf⟩ := bnd hf
  refine r_getF dX0_insteadOf_14 ff0_16 (by decide) h6 ?_
  refine r_aload_n dX0_insteadOf_17 rfl ?_
  obtain ⟨x7, h8, hf⟩ := bnd hf
  refine r_getF dX0_insteadOf_18 ff0_19 (by decide) h8 ?_
  refine r_aload_n dX0_insteadOf_21 rfl ?_
  obtain ⟨x9, h10, hf⟩ := bnd hf
  refine r_getF dX0_insteadOf_22 ff0_22 (by decide) h10 ?_
  obtain ⟨q11, h12, hf⟩ := bnd hf
  refine r_callIv (st := [.ref (mX S)]) (as := [.int l1, .int x1, .int x3, .int x5, .int x7, .int x9]) dX0_insteadOf_25 ms_X0_init ⟨rfl, w3_181, w2_45⟩ (c_X0_init h12) rfl ⟨by omega, by omega⟩ (Nat.le_of_ble_eq_true rfl) (by decide) (by decide) rfl ?_
  have hz := congrArg eA (Option.some.inj hf)
  exact r_areturn dX0_insteadOf_28 rfl (Nat.le_of_ble_eq_true rfl) (Nat.le_of_ble_eq_true rfl) hz
def f_X1_init (S : Mm) (l0 : Nat) : Option Mm := (pR (nC S 100 36) 1 l0 0 (mX S)).bind fun S1 => some S1
set_option maxRecDepth 20000 in
theorem c_X1_init {G : Gt} {l : Launch} {S : Mm} {l0 : Nat} {T : Mm} (hf : f_X1_init S l0 = some T) : CC G l yX1_init cX1_init 1 none 1 1 36 [.ref l0] S (eV T) := by
  unfold f_X1_init at hf
  refine r_body (by decide) rfl (Nat.le_of_ble_eq_true rfl) (by simp) ?_
  refine r_aload_n dX1_init_0 rfl ?_
  refine r_objInit dX1_init_1 ⟨w1_37, w1_22, w1_23⟩ (by decide) (Nat.le_of_ble_eq_true rfl) ?_
  refine r_aload_n dX1_init_4 rfl ?_
  refine r_bipush (v := 36) dX1_init_5 (by decide) ?_
  refine r_newarray (N := 36) dX1_init_7 w1_42 (by decide) (by decide) (by decide) (by decide) (by decide) ?_
  obtain ⟨S1, h2, hf⟩ := bnd hf
  refine r_putFR dX1_init_9 fs1_9_1 (fun _ _ _ h => by cases h; rfl) rfl rfl (fun _ => rfl) (fun _ => rfl) h2 ?_
  have hz := congrArg eV (Option.some.inj hf)
  exact r_return dX1_init_12 rfl (Nat.le_of_ble_eq_true rfl) (Nat.le_of_ble_eq_true rfl) hz
def f_X1_copyFrom (S : Mm) (l0 : Nat) (l1 : Nat) : Option Mm := if okc S l0 1 = true then (gR S 1 l1 0).bind fun x1 => (gR S 1 l0 0).bind fun x3 => (gR S 1 l0 0).bind fun x5 => (aL S 100 x5).bind fun x7 => (aC S x1 0 x3 0 x7).bind fun S9 => some S9 else none
set_option maxRecDepth 20000 in
theorem ok_X1_copyFrom {S : Mm} {l0 : Nat} {l1 : Nat} {T : Mm} (hf : f_X1_copyFrom S l0 l1 = some T) : okc S l0 1 = true := (oif hf).1
set_option maxRecDepth 20000 in
theorem c_X1_copyFrom {G : Gt} {l : Launch} {S : Mm} {l0 : Nat} {l1 : Nat} {T : Mm} (hf : f_X1_copyFrom S l0 l1 = some T) : CC G l yX1_copyFrom cX1_copyFrom 2 none 1 0 0 [.ref l0, .ref l1] S (eV T) := by
  unfold f_X1_copyFrom at hf
  replace hf := (oif hf).2
  refine r_body (by decide) rfl (Nat.le_of_ble_eq_true rfl) (by simp) ?_
  refine r_aload_n dX1_copyFrom_0 rfl ?_
  obtain ⟨x1, h2, hf⟩ := bnd hf
  refine r_getR dX1_copyFrom_1 fs1_9_1 rfl h2 ?_
  refine r_iconst (v := 0) dX1_copyFrom_4 (by decide) ?_
  refine r_aload_n dX1_copyFrom_5 rfl ?_
  obtain ⟨x3, h4, hf⟩ := bnd hf
  refine r_getR dX1_copyFrom_6 fs1_9_1 rfl h4 ?_
  refine r_iconst (v := 0) dX1_copyFrom_9 (by decide) ?_
  refine r_aload_n dX1_copyFrom_10 rfl ?_
  obtain ⟨x5, h6, hf⟩ := bnd hf
  refine r_getR dX1_copyFrom_11 fs1_9_1 rfl h6 ?_
  obtain ⟨x7, h8, hf⟩ := bnd hf
  refine r_alen dX1_copyFrom_14 h8 ?_
  obtain ⟨S9, h10, hf⟩ := bnd hf
  refine r_copy dX1_copyFrom_15 wkcp_1015 h10 (by decide) (Nat.le_of_ble_eq_true rfl) ?_
  have hz := congrArg eV (Option.some.inj hf)
  exact r_return dX1_copyFrom_18 rfl (Nat.le_of_ble_eq_true rfl) (Nat.le_of_ble_eq_true rfl) hz
def f_X1_from (S : Mm) (l0 : Nat) (l1 : Int32) (l2 : Int32) : Option (Int32 × Mm) := if okc S l0 1 = true then (gR S 1 l0 0).bind fun x1 => (aI S x1 ((l1 * 6) + l2)).bind fun x3 => some (x3, S) else none
set_option maxRecDepth 20000 in
theorem ok_X1_from {S : Mm} {l0 : Nat} {l1 : Int32} {l2 : Int32} {T : (Int32 × Mm)} (hf : f_X1_from S l0 l1 l2 = some T) : okc S l0 1 = true := (oif hf).1
set_option maxRecDepth 20000 in
theorem c_X1_from {G : Gt} {l : Launch} {S : Mm} {l0 : Nat} {l1 : Int32} {l2 : Int32} {T : (Int32 × Mm)} (hf : f_X1_from S l0 l1 l2 = some T) : CC G l yX1_from cX1_from 3 (some .int) 0 0 0 [.ref l0, .int l1, .int l2] S (eI T) := by
  unfold f_X1_from at hf
  replace hf := (oif hf).2
  refine r_body (by decide) rfl (Nat.le_of_ble_eq_true rfl) (by simp) ?_
  refine r_aload_n dX1_from_0 rfl ?_
  obtain ⟨x1, h2, hf⟩ := bnd hf
  refine r_getR dX1_from_1 fs1_9_1 rfl h2 ?_
  refine r_iload_n dX1_from_4 rfl ?_
  refine r_bipush (v := 6) dX1_from_5 (by decide) ?_
  refine r_imul dX1_from_7 ?_
  refine r_iload_n dX1_from_8 rfl ?_
  refine r_iadd dX1_from_9 ?_
  obtain ⟨x3, h4, hf⟩ := bnd hf
  refine r_iaload dX1_from_10 h4 ?_
  have hz := congrArg eI (Option.some.inj hf)
  exact r_ireturn dX1_from_11 rfl (Nat.le_of_ble_eq_true rfl) (Nat.le_of_ble_eq_true rfl) hz
def f_X1_put (S : Mm) (l0 : Nat) (l1 : Int32) (l2 : Int32) (l3 : Int32) : Option Mm := if okc S l0 1 = true then (gR S 1 l0 0).bind fun x1 => (aS S x1 ((l1 * 6) + l2) l3).bind fun S3 => some S3 else none
set_option maxRecDepth 20000 in
theorem ok_X1_put {S : Mm} {l0 : Nat} {l1 : Int32} {l2 : Int32} {l3 : Int32} {T : Mm} (hf : f_X1_put S l0 l1 l2 l3 = some T) : okc S l0 1 = true := (oif hf).1
set_option maxRecDepth 20000 in
theorem c_X1_put {G : Gt} {l : Launch} {S : Mm} {l0 : Nat} {l1 : Int32} {l2 : Int32} {l3 : Int32} {T : Mm} (hf : f_X1_put S l0 l1 l2 l3 = some T) : CC G l yX1_put cX1_put 4 none 0 0 0 [.ref l0, .int l1, .int l2, .int l3] S (eV T) := by
  unfold f_X1_put at hf
  replace hf := (oif hf).2
  refine r_body (by decide) rfl (Nat.le_of_ble_eq_true rfl) (by simp) ?_
  refine r_aload_n dX1_put_0 rfl ?_
  obtain ⟨x1, h2, hf⟩ := bnd hf
  refine r_getR dX1_put_1 fs1_9_1 rfl h2 ?_
  refine r_iload_n dX1_put_4 rfl ?_
  refine r_bipush (v := 6) dX1_put_5 (by decide) ?_
  refine r_imul dX1_put_7 ?_
  refine r_iload_n dX1_put_8 rfl ?_
  refine r_iadd dX1_put_9 ?_
  refine r_iload_n dX1_put_10 rfl ?_
  obtain ⟨S3, h4, hf⟩ := bnd hf
  refine r_iastore dX1_put_11 h4 ?_
  have hz := congrArg eV (Option.some.inj hf)
  exact r_return dX1_put_12 rfl (Nat.le_of_ble_eq_true rfl) (Nat.le_of_ble_eq_true rfl) hz
def f_X11_sumOf_10 : Nat → Mm → Int32 → Nat → Int32 → Int32 → Option (Int32 × Mm)
  | 0, _, _, _, _, _ => none
  | n + 1, S, l1, l2, l3, l4 => (if l3 ≤ l4 then some (l1, S) else (aI S l2 l4).bind fun x2 => (f_X11_sumOf_10 n) S (l1 + x2) l2 l3 (l4 + 1))
def f_X11_sumOf (S : Mm) (l0 : Nat) : Option (Int32 × Mm) := (aL S 100 l0).bind fun x1 => f_X11_sumOf_10 FU S 0 l0 x1 0
set_option maxRecDepth 20000 in
theorem t_X11_sumOf_10 {G : Gt} {l : Launch} : ∀ (n : Nat) (S : Mm) (l1 : Int32) (l2 : Nat) (l3 : Int32) (l4 : Int32) (T : (Int32 × Mm)), f_X11_sumOf_10 n S l1 l2 l3 l4 = some T → Sat G l yX11_sumOf cX11_sumOf 6 (some .int) 0 0 0 0 0 10 [.null, .int l1, .ref l2, .int l3, .int l4, .null] [] S (eI T) := by
  intro n
  induction n with
  | zero =>
    intro S l1 l2 l3 l4 T hf
    rw [f_X11_sumOf_10] at hf
    cases hf
  | succ n ih =>
    intro S l1 l2 l3 l4 T hf
    rw [f_X11_sumOf_10] at hf
    refine r_iload dX11_sumOf_10 rfl ?_
    refine r_iload_n dX11_sumOf_12 rfl ?_
    refine r_icmp_ge (tgt := 33) dX11_sumOf_13 (by decide) (fun c1 => ?_) (fun c1 => ?_)
    · replace hf := (if_pos c1).symm.trans hf
      refine r_iload_n dX11_sumOf_33 rfl ?_
      have hz := congrArg eI (Option.some.inj hf)
      exact r_ireturn dX11_sumOf_34 rfl (Nat.le_of_ble_eq_true rfl) (Nat.le_of_ble_eq_true rfl) hz
    · replace hf := (if_neg c1).symm.trans hf
      refine r_aload_n dX11_sumOf_16 rfl ?_
      refine r_iload dX11_sumOf_17 rfl ?_
      obtain ⟨x2, h3, hf⟩ := bnd hf
      refine r_iaload dX11_sumOf_19 h3 ?_
      refine r_istore (lv' := [.null, .int l1, .ref l2, .int l3, .int l4, .int x2]) dX11_sumOf_20 (by decide) rfl rfl ?_
      refine r_iload_n dX11_sumOf_22 rfl ?_
      refine r_iload dX11_sumOf_23 rfl ?_
      refine r_iadd dX11_sumOf_25 ?_
      refine r_istore_n (lv' := [.null, .int (l1 + x2), .ref l2, .int l3, .int l4, .int x2]) dX11_sumOf_26 (by decide) rfl rfl ?_
      refine r_iinc (v := 1) (lv' := [.null, .int (l1 + x2), .ref l2, .int l3, .int (l4 + 1), .int x2]) dX11_sumOf_27 rfl (by decide) (by decide) rfl rfl ?_
      refine r_goto (tgt := 10) dX11_sumOf_30 (by decide) ?_
      refine r_lvs (lv' := [.null, .int (l1 + x2), .ref l2, .int l3, .int (l4 + 1), .null]) ⟨Or.inl rfl, Or.inl rfl, Or.inl rfl, Or.inl rfl, Or.inl rfl, Or.inr rfl, trivial⟩ ?_
      exact ih _ _ _ _ _ _ hf
set_option maxRecDepth 20000 in
theorem c_X11_sumOf {G : Gt} {l : Launch} {S : Mm} {l0 : Nat} {T : (Int32 × Mm)} (hf : f_X11_sumOf S l0 = some T) : CC G l yX11_sumOf cX11_sumOf 6 (some .int) 0 0 0 [.ref l0] S (eI T) := by
  unfold f_X11_sumOf at hf
  refine r_body (by decide) rfl (Nat.le_of_ble_eq_true rfl) (by simp) ?_
  refine r_iconst (v := 0) dX11_sumOf_0 (by decide) ?_
  refine r_istore_n (lv' := [.ref l0, .int 0, .null, .null, .null, .null]) dX11_sumOf_1 (by decide) rfl rfl ?_
  refine r_aload_n dX11_sumOf_2 rfl ?_
  refine r_astore_n (lv' := [.ref l0, .int 0, .ref l0, .null, .null, .null]) dX11_sumOf_3 (by decide) rfl rfl ?_
  refine r_aload_n dX11_sumOf_4 rfl ?_
  obtain ⟨x1, h2, hf⟩ := bnd hf
  refine r_alen dX11_sumOf_5 h2 ?_
  refine r_istore_n (lv' := [.ref l0, .int 0, .ref l0, .int x1, .null, .null]) dX11_sumOf_6 (by decide) rfl rfl ?_
  refine r_iconst (v := 0) dX11_sumOf_7 (by decide) ?_
  refine r_istore (lv' := [.ref l0, .int 0, .ref l0, .int x1, .int 0, .null]) dX11_sumOf_8 (by decide) rfl rfl ?_
  refine r_lvs (lv' := [.null, .int 0, .ref l0, .int x1, .int 0, .null]) ⟨Or.inr rfl, Or.inl rfl, Or.inl rfl, Or.inl rfl, Or.inl rfl, Or.inl rfl, trivial⟩ ?_
  exact t_X11_sumOf_10 FU _ _ _ _ _ _ hf
def f_X1_total (S : Mm) (l0 : Nat) : Option (Int32 × Mm) := if okc S l0 1 = true then (gR S 1 l0 0).bind fun x1 => (f_X11_sumOf S x1).bind fun q3 => some (q3.1, q3.2) else none
set_option maxRecDepth 20000 in
theorem ok_X1_total {S : Mm} {l0 : Nat} {T : (Int32 × Mm)} (hf : f_X1_total S l0 = some T) : okc S l0 1 = true := (oif hf).1
set_option maxRecDepth 20000 in
theorem c_X1_total {G : Gt} {l : Launch} {S : Mm} {l0 : Nat} {T : (Int32 × Mm)} (hf : f_X1_total S l0 = some T) : CC G l yX1_total cX1_total 1 (some .int) 1 0 0 [.ref l0] S (eI T) := by
  unfold f_X1_total at hf
  replace hf := (oif hf).2
  refine r_body (by decide) rfl (Nat.le_of_ble_eq_true rfl) (by simp) ?_
  refine r_aload_n dX1_total_0 rfl ?_
  obtain ⟨x1, h2, hf⟩ := bnd hf
  refine r_getR dX1_total_1 fs1_9_1 rfl h2 ?_
  obtain ⟨q3, h4, hf⟩ := bnd hf
  refine r_callSNi (st := []) (as := [.ref x1]) dX1_total_4 ms_X11_sumOf ⟨by decide, w2_227⟩ (c_X11_sumOf h4) rfl ⟨by omega, by omega⟩ (Nat.le_of_ble_eq_true rfl) (by decide) (by decide) rfl ?_
  have hz := congrArg eI (Option.some.inj hf)
  exact r_ireturn dX1_total_7 rfl (Nat.le_of_ble_eq_true rfl) (Nat.le_of_ble_eq_true rfl) hz
def f_X1_owedTo_4 : Nat → Mm → Nat → Int32 → Int32 → Int32 → Option (Int32 × Mm)
  | 0, _, _, _, _, _ => none
  | n + 1, S, l0, l1, l2, l3 => (if 6 ≤ l3 then some (l2, S) else (f_X1_from S l0 l3 l1).bind fun q2 => (f_X1_from q2.2 l0 l1 l3).bind fun q4 => (f_X1_owedTo_4 n) q4.2 l0 l1 (l2 + (q2.1 - q4.1)) (l3 + 1))
def f_X1_owedTo (S : Mm) (l0 : Nat) (l1 : Int32) : Option (Int32 × Mm) := if okc S l0 1 = true then f_X1_owedTo_4 FU S l0 l1 0 0 else none
set_option maxRecDepth 20000 in
theorem t_X1_owedTo_4 {G : Gt} {l : Launch} : ∀ (n : Nat) (S : Mm) (l0 : Nat) (l1 : Int32) (l2 : Int32) (l3 : Int32) (T : (Int32 × Mm)), f_X1_owedTo_4 n S l0 l1 l2 l3 = some T → Sat G l yX1_owedTo cX1_owedTo 4 (some .int) 1 0 0 0 0 4 [.ref l0, .int l1, .int l2, .int l3] [] S (eI T) := by
  intro n
  induction n with
  | zero =>
    intro S l0 l1 l2 l3 T hf
    rw [f_X1_owedTo_4] at hf
    cases hf
  | succ n ih =>
    intro S l0 l1 l2 l3 T hf
    rw [f_X1_owedTo_4] at hf
    refine r_iload_n dX1_owedTo_4 rfl ?_
    refine r_bipush (v := 6) dX1_owedTo_5 (by decide) ?_
    refine r_icmp_ge (tgt := 32) dX1_owedTo_7 (by decide) (fun c1 => ?_) (fun c1 => ?_)
    · replace hf := (if_pos c1).symm.trans hf
      refine r_iload_n dX1_owedTo_32 rfl ?_
      have hz := congrArg eI (Option.some.inj hf)
      exact r_ireturn dX1_owedTo_33 rfl (Nat.le_of_ble_eq_true rfl) (Nat.le_of_ble_eq_true rfl) hz
    · replace hf := (if_neg c1).symm.trans hf
      refine r_iload_n dX1_owedTo_10 rfl ?_
      refine r_aload_n dX1_owedTo_11 rfl ?_
      refine r_iload_n dX1_owedTo_12 rfl ?_
      refine r_iload_n dX1_owedTo_13 rfl ?_
      obtain ⟨q2, h3, hf⟩ := bnd hf
      refine r_callVi (st := [.int l2]) (as := [.int l3, .int l1]) dX1_owedTo_14 ms_X1_from ⟨rfl, w3_97, w3_81, w3_82⟩ (ok_X1_from h3) (c_X1_from h3) rfl ⟨by omega, by omega⟩ (Nat.le_of_ble_eq_true rfl) (by decide) (by decide) rfl ?_
      refine r_aload_n dX1_owedTo_17 rfl ?_
      refine r_iload_n dX1_owedTo_18 rfl ?_
      refine r_iload_n dX1_owedTo_19 rfl ?_
      obtain ⟨q4, h5, hf⟩ := bnd hf
      refine r_callVi (st := [.int q2.1, .int l2]) (as := [.int l1, .int l3]) dX1_owedTo_20 ms_X1_from ⟨rfl, w3_97, w3_81, w3_82⟩ (ok_X1_from h5) (c_X1_from h5) rfl ⟨by omega, by omega⟩ (Nat.le_of_ble_eq_true rfl) (by decide) (by decide) rfl ?_
      refine r_isub dX1_owedTo_23 ?_
      refine r_iadd dX1_owedTo_24 ?_
      refine r_istore_n (lv' := [.ref l0, .int l1, .int (l2 + (q2.1 - q4.1)), .int l3]) dX1_owedTo_25 (by decide) rfl rfl ?_
      refine r_iinc (v := 1) (lv' := [.ref l0, .int l1, .int (l2 + (q2.1 - q4.1)), .int (l3 + 1)]) dX1_owedTo_26 rfl (by decide) (by decide) rfl rfl ?_
      refine r_goto (tgt := 4) dX1_owedTo_29 (by decide) ?_
      exact ih _ _ _ _ _ _ hf
set_option maxRecDepth 20000 in
theorem ok_X1_owedTo {S : Mm} {l0 : Nat} {l1 : Int32} {T : (Int32 × Mm)} (hf : f_X1_owedTo S l0 l1 = some T) : okc S l0 1 = true := (oif hf).1
set_option maxRecDepth 20000 in
theorem c_X1_owedTo {G : Gt} {l : Launch} {S : Mm} {l0 : Nat} {l1 : Int32} {T : (Int32 × Mm)} (hf : f_X1_owedTo S l0 l1 = some T) : CC G l yX1_owedTo cX1_owedTo 4 (some .int) 1 0 0 [.ref l0, .int l1] S (eI T) := by
  unfold f_X1_owedTo at hf
  replace hf := (oif hf).2
  refine r_body (by decide) rfl (Nat.le_of_ble_eq_true rfl) (by simp) ?_
  refine r_iconst (v := 0) dX1_owedTo_0 (by decide) ?_
  refine r_istore_n (lv' := [.ref l0, .int l1, .int 0, .null]) dX1_owedTo_1 (by decide) rfl rfl ?_
  refine r_iconst (v := 0) dX1_owedTo_2 (by decide) ?_
  refine r_istore_n (lv' := [.ref l0, .int l1, .int 0, .int 0]) dX1_owedTo_3 (by decide) rfl rfl ?_
  exact t_X1_owedTo_4 FU _ _ _ _ _ _ hf
def f_X1_strikeTwo_53 (S : Mm) (s0 : Int32) : Option (Int32 × Mm) := some (s0, S)
def f_X1_strikeTwo (S : Mm) (l0 : Nat) (l1 : Int32) (l2 : Int32) : Option (Int32 × Mm) := if okc S l0 1 = true then (f_X1_from S l0 l1 l2).bind fun q1 => (f_X1_from q1.2 l0 l2 l1).bind fun q3 => (f_X1_from q3.2 l0 l1 l2).bind fun q5 => (f_X1_put q5.2 l0 l1 l2 (q5.1 - (mnI q1.1 q3.1))).bind fun q7 => (f_X1_from q7 l0 l2 l1).bind fun q9 => (f_X1_put q9.2 l0 l2 l1 (q9.1 - (mnI q1.1 q3.1))).bind fun q11 => (if (mnI q1.1 q3.1) ≤ 0 then f_X1_strikeTwo_53 q11 0 else f_X1_strikeTwo_53 q11 1) else none
set_option maxRecDepth 20000 in
theorem t_X1_strikeTwo_53 {G : Gt} {l : Launch} (S : Mm) (s0 : Int32) (T : (Int32 × Mm)) (hf : f_X1_strikeTwo_53 S s0 = some T) : Sat G l yX1_strikeTwo cX1_strikeTwo 4 (some .int) 1 0 0 0 0 53 [.null, .null, .null, .null] [.int s0] S (eI T) := by
  unfold f_X1_strikeTwo_53 at hf
  have hz := congrArg eI (Option.some.inj hf)
  exact r_ireturn dX1_strikeTwo_53 rfl (Nat.le_of_ble_eq_true rfl) (Nat.le_of_ble_eq_true rfl) hz
set_option maxRecDepth 20000 in
theorem ok_X1_strikeTwo {S : Mm} {l0 : Nat} {l1 : Int32} {l2 : Int32} {T : (Int32 × Mm)} (hf : f_X1_strikeTwo S l0 l1 l2 = some T) : okc S l0 1 = true := (oif hf).1
set_option maxRecDepth 20000 in
theorem c_X1_strikeTwo {G : Gt} {l : Launch} {S : Mm} {l0 : Nat} {l1 : Int32} {l2 : Int32} {T : (Int32 × Mm)} (hf : f_X1_strikeTwo S l0 l1 l2 = some T) : CC G l yX1_strikeTwo cX1_strikeTwo 4 (some .int) 1 0 0 [.ref l0, .int l1, .int l2] S (eI T) := by
  unfold f_X1_strikeTwo at hf
  replace hf := (oif hf).2
  refine r_body (by decide) rfl (Nat.le_of_ble_eq_true rfl) (by simp) ?_
  refine r_aload_n dX1_strikeTwo_0 rfl ?_
  refine r_iload_n dX1_strikeTwo_1 rfl ?_
  refine r_iload_n dX1_strikeTwo_2 rfl ?_
  obtain ⟨q1, h2, hf⟩ := bnd hf
  refine r_callVi (st := []) (as := [.int l1, .int l2]) dX1_strikeTwo_3 ms_X1_from ⟨rfl, w3_97, w3_81, w3_82⟩ (ok_X1_from h2) (c_X1_from h2) rfl ⟨by omega, by omega⟩ (Nat.le_of_ble_eq_true rfl) (by decide) (by decide) rfl ?_
  refine r_aload_n dX1_strikeTwo_6 rfl ?_
  refine r_iload_n dX1_strikeTwo_7 rfl ?_
  refine r_iload_n dX1_strikeTwo_8 rfl ?_
  obtain ⟨q3, h4, hf⟩ := bnd hf
  refine r_callVi (st := [.int q1.1]) (as := [.int l2, .int l1]) dX1_strikeTwo_9 ms_X1_from ⟨rfl, w3_97, w3_81, w3_82⟩ (ok_X1_from h4) (c_X1_from h4) rfl ⟨by omega, by omega⟩ (Nat.le_of_ble_eq_true rfl) (by decide) (by decide) rfl ?_
  refine r_min dX1_strikeTwo_12 wkmin_1036 (by decide) (Nat.le_of_ble_eq_true rfl) (by decide) (by decide) ?_
  refine r_istore_n (lv' := [.ref l0, .int l1, .int l2, .int (mnI q1.1 q3.1)]) dX1_strikeTwo_15 (by decide) rfl rfl ?_
  refine r_aload_n dX1_strikeTwo_16 rfl ?_
  refine r_iload_n dX1_strikeTwo_17 rfl ?_
  refine r_iload_n dX1_strikeTwo_18 rfl ?_
  refine r_aload_n dX1_strikeTwo_19 rfl ?_
  refine r_iload_n dX1_strikeTwo_20 rfl ?_
  refine r_iload_n dX1_strikeTwo_21 rfl ?_
  obtain ⟨q5, h6, hf⟩ := bnd hf
  refine r_callVi (st := [.int l2, .int l1, .ref l0]) (as := [.int l1, .int l2]) dX1_strikeTwo_22 ms_X1_from ⟨rfl, w3_97, w3_81, w3_82⟩ (ok_X1_from h6) (c_X1_from h6) rfl ⟨by omega, by omega⟩ (Nat.le_of_ble_eq_true rfl) (by decide) (by decide) rfl ?_
  refine r_iload_n dX1_strikeTwo_25 rfl ?_
  refine r_isub dX1_strikeTwo_26 ?_
  obtain ⟨q7, h8, hf⟩ := bnd hf
  refine r_callVv (st := []) (as := [.int l1, .int l2, .int (q5.1 - (mnI q1.1 q3.1))]) dX1_strikeTwo_27 ms_X1_put ⟨rfl, w3_99, w2_135, w2_136⟩ (ok_X1_put h8) (c_X1_put h8) rfl ⟨by omega, by omega⟩ (Nat.le_of_ble_eq_true rfl) (by decide) (by decide) rfl ?_
  refine r_aload_n dX1_strikeTwo_30 rfl ?_
  refine r_iload_n dX1_strikeTwo_31 rfl ?_
  refine r_iload_n dX1_strikeTwo_32 rfl ?_
  refine r_aload_n dX1_strikeTwo_33 rfl ?_
  refine r_iload_n dX1_strikeTwo_34 rfl ?_
  refine r_iload_n dX1_strikeTwo_35 rfl ?_
  obtain ⟨q9, h10, hf⟩ := bnd hf
  refine r_callVi (st := [.int l1, .int l2, .ref l0]) (as := [.int l2, .int l1]) dX1_strikeTwo_36 ms_X1_from ⟨rfl, w3_97, w3_81, w3_82⟩ (ok_X1_from h10) (c_X1_from h10) rfl ⟨by omega, by omega⟩ (Nat.le_of_ble_eq_true rfl) (by decide) (by decide) rfl ?_
  refine r_iload_n dX1_strikeTwo_39 rfl ?_
  refine r_isub dX1_strikeTwo_40 ?_
  obtain ⟨q11, h12, hf⟩ := bnd hf
  refine r_callVv (st := []) (as := [.int l2, .int l1, .int (q9.1 - (mnI q1.1 q3.1))]) dX1_strikeTwo_41 ms_X1_put ⟨rfl, w3_99, w2_135, w2_136⟩ (ok_X1_put h12) (c_X1_put h12) rfl ⟨by omega, by omega⟩ (Nat.le_of_ble_eq_true rfl) (by decide) (by decide) rfl ?_
  refine r_iload_n dX1_strikeTwo_44 rfl ?_
  refine r_if_le (tgt := 52) dX1_strikeTwo_45 (by decide) (fun c13 => ?_) (fun c13 => ?_)
  · replace hf := (if_pos c13).symm.trans hf
    refine r_iconst (v := 0) dX1_strikeTwo_52 (by decide) ?_
    refine r_lvs (lv' := [.null, .null, .null, .null]) ⟨Or.inr rfl, Or.inr rfl, Or.inr rfl, Or.inr rfl, trivial⟩ ?_
    exact t_X1_strikeTwo_53 _ _ _ hf
  · replace hf := (if_neg c13).symm.trans hf
    refine r_iconst (v := 1) dX1_strikeTwo_48 (by decide) ?_
    refine r_goto (tgt := 53) dX1_strikeTwo_49 (by decide) ?_
    refine r_lvs (lv' := [.null, .null, .null, .null]) ⟨Or.inr rfl, Or.inr rfl, Or.inr rfl, Or.inr rfl, trivial⟩ ?_
    exact t_X1_strikeTwo_53 _ _ _ hf
def f_X1_strikeThree_81 (S : Mm) (s0 : Int32) : Option (Int32 × Mm) := some (s0, S)
def f_X1_strikeThree (S : Mm) (l0 : Nat) (l1 : Int32) (l2 : Int32) (l3 : Int32) : Option (Int32 × Mm) := if okc S l0 1 = true then (f_X1_from S l0 l1 l2).bind fun q1 => (f_X1_from q1.2 l0 l2 l3).bind fun q3 => (f_X1_from q3.2 l0 l3 l1).bind fun q5 => (f_X1_from q5.2 l0 l1 l2).bind fun q7 => (f_X1_put q7.2 l0 l1 l2 (q7.1 - (mnI q1.1 (mnI q3.1 q5.1)))).bind fun q9 => (f_X1_from q9 l0 l2 l3).bind fun q11 => (f_X1_put q11.2 l0 l2 l3 (q11.1 - (mnI q1.1 (mnI q3.1 q5.1)))).bind fun q13 => (f_X1_from q13 l0 l3 l1).bind fun q15 => (f_X1_put q15.2 l0 l3 l1 (q15.1 - (mnI q1.1 (mnI q3.1 q5.1)))).bind fun q17 => (if (mnI q1.1 (mnI q3.1 q5.1)) ≤ 0 then f_X1_strikeThree_81 q17 0 else f_X1_strikeThree_81 q17 1) else none
set_option maxRecDepth 20000 in
theorem t_X1_strikeThree_81 {G : Gt} {l : Launch} (S : Mm) (s0 : Int32) (T : (Int32 × Mm)) (hf : f_X1_strikeThree_81 S s0 = some T) : Sat G l yX1_strikeThree cX1_strikeThree 5 (some .int) 1 0 0 0 0 81 [.null, .null, .null, .null, .null] [.int s0] S (eI T) := by
  unfold f_X1_strikeThree_81 at hf
  have hz := congrArg eI (Option.some.inj hf)
  exact r_ireturn dX1_strikeThree_81 rfl (Nat.le_of_ble_eq_true rfl) (Nat.le_of_ble_eq_true rfl) hz
set_option maxRecDepth 20000 in
theorem ok_X1_strikeThree {S : Mm} {l0 : Nat} {l1 : Int32} {l2 : Int32} {l3 : Int32} {T : (Int32 × Mm)} (hf : f_X1_strikeThree S l0 l1 l2 l3 = some T) : okc S l0 1 = true := (oif hf).1
set_option maxRecDepth 20000 in
theorem c_X1_strikeThree {G : Gt} {l : Launch} {S : Mm} {l0 : Nat} {l1 : Int32} {l2 : Int32} {l3 : Int32} {T : (Int32 × Mm)} (hf : f_X1_strikeThree S l0 l1 l2 l3 = some T) : CC G l yX1_strikeThree cX1_strikeThree 5 (some .int) 1 0 0 [.ref l0, .int l1, .int l2, .int l3] S (eI T) := by
  unfold f_X1_strikeThree at hf
  replace hf := (oif hf).2
  refine r_body (by decide) rfl (Nat.le_of_ble_eq_true rfl) (by simp) ?_
  refine r_aload_n dX1_strikeThree_0 rfl ?_
  refine r_iload_n dX1_strikeThree_1 rfl ?_
  refine r_iload_n dX1_strikeThree_2 rfl ?_
  obtain ⟨q1, h2, hf⟩ := bnd hf
  refine r_callVi (st := []) (as := [.int l1, .int l2]) dX1_strikeThree_3 ms_X1_from ⟨rfl, w3_97, w3_81, w3_82⟩ (ok_X1_from h2) (c_X1_from h2) rfl ⟨by omega, by omega⟩ (Nat.le_of_ble_eq_true rfl) (by decide) (by decide) rfl ?_
  refine r_aload_n dX1_strikeThree_6 rfl ?_
  refine r_iload_n dX1_strikeThree_7 rfl ?_
  refine r_iload_n dX1_strikeThree_8 rfl ?_
  obtain ⟨q3, h4, hf⟩ := bnd hf
  refine r_callVi (st := [.int q1.1]) (as := [.int l2, .int l3]) dX1_strikeThree_9 ms_X1_from ⟨rfl, w3_97, w3_81, w3_82⟩ (ok_X1_from h4) (c_X1_from h4) rfl ⟨by omega, by omega⟩ (Nat.le_of_ble_eq_true rfl) (by decide) (by decide) rfl ?_
  refine r_aload_n dX1_strikeThree_12 rfl ?_
  refine r_iload_n dX1_strikeThree_13 rfl ?_
  refine r_iload_n dX1_strikeThree_14 rfl ?_
  obtain ⟨q5, h6, hf⟩ := bnd hf
  refine r_callVi (st := [.int q3.1, .int q1.1]) (as := [.int l3, .int l1]) dX1_strikeThree_15 ms_X1_from ⟨rfl, w3_97, w3_81, w3_82⟩ (ok_X1_from h6) (c_X1_from h6) rfl ⟨by omega, by omega⟩ (Nat.le_of_ble_eq_true rfl) (by decide) (by decide) rfl ?_
  refine r_min dX1_strikeThree_18 wkmin_1036 (by decide) (Nat.le_of_ble_eq_true rfl) (by decide) (by decide) ?_
  refine r_min dX1_strikeThree_21 wkmin_1036 (by decide) (Nat.le_of_ble_eq_true rfl) (by decide) (by decide) ?_
  refine r_istore (lv' := [.ref l0, .int l1, .int l2, .int l3, .int (mnI q1.1 (mnI q3.1 q5.1))]) dX1_strikeThree_24 (by decide) rfl rfl ?_
  refine r_aload_n dX1_strikeThree_26 rfl ?_
  refine r_iload_n dX1_strikeThree_27 rfl ?_
  refine r_iload_n dX1_strikeThree_28 rfl ?_
  refine r_aload_n dX1_strikeThree_29 rfl ?_
  refine r_iload_n dX1_strikeThree_30 rfl ?_
  refine r_iload_n dX1_strikeThree_31 rfl ?_
  obtain ⟨q7, h8, hf⟩ := bnd hf
  refine r_callVi (st := [.int l2, .int l1, .ref l0]) (as := [.int l1, .int l2]) dX1_strikeThree_32 ms_X1_from ⟨rfl, w3_97, w3_81, w3_82⟩ (ok_X1_from h8) (c_X1_from h8) rfl ⟨by omega, by omega⟩ (Nat.le_of_ble_eq_true rfl) (by decide) (by decide) rfl ?_
  refine r_iload dX1_strikeThree_35 rfl ?_
  refine r_isub dX1_strikeThree_37 ?_
  obtain ⟨q9, h10, hf⟩ := bnd hf
  refine r_callVv (st := []) (as := [.int l1, .int l2, .int (q7.1 - (mnI q1.1 (mnI q3.1 q5.1)))]) dX1_strikeThree_38 ms_X1_put ⟨rfl, w3_99, w2_135, w2_136⟩ (ok_X1_put h10) (c_X1_put h10) rfl ⟨by omega, by omega⟩ (Nat.le_of_ble_eq_true rfl) (by decide) (by decide) rfl ?_
  refine r_aload_n dX1_strikeThree_41 rfl ?_
  refine r_iload_n dX1_strikeThree_42 rfl ?_
  refine r_iload_n dX1_strikeThree_43 rfl ?_
  refine r_aload_n dX1_strikeThree_44 rfl ?_
  refine r_iload_n dX1_strikeThree_45 rfl ?_
  refine r_iload_n dX1_strikeThree_46 rfl ?_
  obtain ⟨q11, h12, hf⟩ := bnd hf
  refine r_callVi (st := [.int l3, .int l2, .ref l0]) (as := [.int l2, .int l3]) dX1_strikeThree_47 ms_X1_from ⟨rfl, w3_97, w3_81, w3_82⟩ (ok_X1_from h12) (c_X1_from h12) rfl ⟨by omega, by omega⟩ (Nat.le_of_ble_eq_true rfl) (by decide) (by decide) rfl ?_
  refine r_iload dX1_strikeThree_50 rfl ?_
  refine r_isub dX1_strikeThree_52 ?_
  obtain ⟨q13, h14, hf⟩ := bnd hf
  refine r_callVv (st := []) (as := [.int l2, .int l3, .int (q11.1 - (mnI q1.1 (mnI q3.1 q5.1)))]) dX1_strikeThree_53 ms_X1_put ⟨rfl, w3_99, w2_135, w2_136⟩ (ok_X1_put h14) (c_X1_put h14) rfl ⟨by omega, by omega⟩ (Nat.le_of_ble_eq_true rfl) (by decide) (by decide) rfl ?_
  refine r_aload_n dX1_strikeThree_56 rfl ?_
  refine r_iload_n dX1_strikeThree_57 rfl ?_
  refine r_iload_n dX1_strikeThree_58 rfl ?_
  refine r_aload_n dX1_strikeThree_59 rfl ?_
  refine r_iload_n dX1_strikeThree_60 rfl ?_
  refine r_iload_n dX1_strikeThree_61 rfl ?_
  obtain ⟨q15, h16, hf⟩ := bnd hf
  refine r_callVi (st := [.int l1, .int l3, .ref l0]) (as := [.int l3, .int l1]) dX1_strikeThree_62 ms_X1_from ⟨rfl, w3_97, w3_81, w3_82⟩ (ok_X1_from h16) (c_X1_from h16) rfl ⟨by omega, by omega⟩ (Nat.le_of_ble_eq_true rfl) (by decide) (by decide) rfl ?_
  refine r_iload dX1_strikeThree_65 rfl ?_
  refine r_isub dX1_strikeThree_67 ?_
  obtain ⟨q17, h18, hf⟩ := bnd hf
  refine r_callVv (st := []) (as := [.int l3, .int l1, .int (q15.1 - (mnI q1.1 (mnI q3.1 q5.1)))]) dX1_strikeThree_68 ms_X1_put ⟨rfl, w3_99, w2_135, w2_136⟩ (ok_X1_put h18) (c_X1_put h18) rfl ⟨by omega, by omega⟩ (Nat.le_of_ble_eq_true rfl) (by decide) (by decide) rfl ?_
  refine r_iload dX1_strikeThree_71 rfl ?_
  refine r_if_le (tgt := 80) dX1_strikeThree_73 (by decide) (fun c19 => ?_) (fun c19 => ?_)
  · replace hf := (if_pos c19).symm.trans hf
    refine r_iconst (v := 0) dX1_strikeThree_80 (by decide) ?_
    refine r_lvs (lv' := [.null, .null, .null, .null, .null]) ⟨Or.inr rfl, Or.inr rfl, Or.inr rfl, Or.inr rfl, Or.inr rfl, trivial⟩ ?_
    exact t_X1_strikeThree_81 _ _ _ hf
  · replace hf := (if_neg c19).symm.trans hf
    refine r_iconst (v := 1) dX1_strikeThree_76 (by decide) ?_
    refine r_goto (tgt := 81) dX1_strikeThree_77 (by decide) ?_
    refine r_lvs (lv' := [.null, .null, .null, .null, .null]) ⟨Or.inr rfl, Or.inr rfl, Or.inr rfl, Or.inr rfl, Or.inr rfl, trivial⟩ ?_
    exact t_X1_strikeThree_81 _ _ _ hf
def f_X1_strikeRings_14 (k4 : Mm → Nat → Int32 → Int32 → Option (Int32 × Mm)) : Nat → Mm → Nat → Int32 → Int32 → Int32 → Option (Int32 × Mm)
  | 0, _, _, _, _, _ => none
  | n + 1, S, l0, l1, l2, l3 => (if 6 ≤ l3 then k4 S l0 l1 (l2 + 1) else (f_X1_strikeTwo S l0 l2 l3).bind fun q2 => (f_X1_strikeRings_14 k4 n) q2.2 l0 (l1 + q2.1) l2 (l3 + 1))
def f_X1_strikeRings_90 (k43 : Mm → Nat → Int32 → Int32 → Option (Int32 × Mm)) (k53 : Mm → Nat → Int32 → Int32 → Int32 → Option (Int32 × Mm)) (k64 : Mm → Nat → Int32 → Int32 → Int32 → Int32 → Option (Int32 × Mm)) (S : Mm) (l0 : Nat) (l2 : Int32) (l3 : Int32) (l4 : Int32) (s0 : Int32) (s1 : Int32) : Option (Int32 × Mm) := k64 S l0 (s0 + s1) l2 l3 (l4 + 1)
def f_X1_strikeRings_64 (k43 : Mm → Nat → Int32 → Int32 → Option (Int32 × Mm)) (k53 : Mm → Nat → Int32 → Int32 → Int32 → Option (Int32 × Mm)) : Nat → Mm → Nat → Int32 → Int32 → Int32 → Int32 → Option (Int32 × Mm)
  | 0, _, _, _, _, _, _ => none
  | n + 1, S, l0, l1, l2, l3, l4 => (if 6 ≤ l4 then k53 S l0 l1 l2 (l3 + 1) else (if l3 = l4 then f_X1_strikeRings_90 k43 k53 (f_X1_strikeRings_64 k43 k53 n) S l0 l2 l3 l4 l1 0 else (f_X1_strikeThree S l0 l2 l3 l4).bind fun q3 => f_X1_strikeRings_90 k43 k53 (f_X1_strikeRings_64 k43 k53 n) q3.2 l0 l2 l3 l4 l1 q3.1))
def f_X1_strikeRings_53 (k43 : Mm → Nat → Int32 → Int32 → Option (Int32 × Mm)) : Nat → Mm → Nat → Int32 → Int32 → Int32 → Option (Int32 × Mm)
  | 0, _, _, _, _, _ => none
  | n + 1, S, l0, l1, l2, l3 => (if 6 ≤ l3 then k43 S l0 l1 (l2 + 1) else f_X1_strikeRings_64 k43 (f_X1_strikeRings_53 k43 n) FU S l0 l1 l2 l3 (l2 + 1))
def f_X1_strikeRings_43 : Nat → Mm → Nat → Int32 → Int32 → Option (Int32 × Mm)
  | 0, _, _, _, _ => none
  | n + 1, S, l0, l1, l2 => (if 6 ≤ l2 then some (l1, S) else f_X1_strikeRings_53 (f_X1_strikeRings_43 n) FU S l0 l1 l2 (l2 + 1))
def f_X1_strikeRings_4 : Nat → Mm → Nat → Int32 → Int32 → Option (Int32 × Mm)
  | 0, _, _, _, _ => none
  | n + 1, S, l0, l1, l2 => (if 6 ≤ l2 then f_X1_strikeRings_43 FU S l0 l1 0 else f_X1_strikeRings_14 (f_X1_strikeRings_4 n) FU S l0 l1 l2 (l2 + 1))
def f_X1_strikeRings (S : Mm) (l0 : Nat) : Option (Int32 × Mm) := if okc S l0 1 = true then f_X1_strikeRings_4 FU S l0 0 0 else none
set_option maxRecDepth 20000 in
theorem t_X1_strikeRings_14 {G : Gt} {l : Launch} (k4 : Mm → Nat → Int32 → Int32 → Option (Int32 × Mm)) (hk4 : ∀ (S : Mm) (l0 : Nat) (l1 : Int32) (l2 : Int32) (T : (Int32 × Mm)), k4 S l0 l1 l2 = some T → Sat G l yX1_strikeRings cX1_strikeRings 5 (some .int) 2 0 0 0 0 4 [.ref l0, .int l1, .int l2, .null, .null] [] S (eI T)) : ∀ (n : Nat) (S : Mm) (l0 : Nat) (l1 : Int32) (l2 : Int32) (l3 : Int32) (T : (Int32 × Mm)), f_X1_strikeRings_14 k4 n S l0 l1 l2 l3 = some T → Sat G l yX1_strikeRings cX1_strikeRings 5 (some .int) 2 0 0 0 0 14 [.ref l0, .int l1, .int l2, .int l3, .null] [] S (eI T) := by
  intro n
  induction n with
  | zero =>
    intro S l0 l1 l2 l3 T hf
    rw [f_X1_strikeRings_14] at hf
    cases hf
  | succ n ih =>
    intro S l0 l1 l2 l3 T hf
    rw [f_X1_strikeRings_14] at hf
    refine r_iload_n dX1_strikeRings_14 rfl ?_
    refine r_bipush (v := 6) dX1_strikeRings_15 (by decide) ?_
    refine r_icmp_ge (tgt := 35) dX1_strikeRings_17 (by decide) (fun c1 => ?_) (fun c1 => ?_)
    · replace hf := (if_pos c1).symm.trans hf
      refine r_iinc (v := 1) (lv' := [.ref l0, .int l1, .int (l2 + 1), .int l3, .null]) dX1_strikeRings_35 rfl (by decide) (by decide) rfl rfl ?_
      refine r_goto (tgt := 4) dX1_strikeRings_38 (by decide) ?_
      refine r_lvs (lv' := [.ref l0, .int l1, .int (l2 + 1), .null, .null]) ⟨Or.inl rfl, Or.inl rfl, Or.inl rfl, Or.inr rfl, Or.inl rfl, trivial⟩ ?_
      exact hk4 _ _ _ _ _ hf
    · replace hf := (if_neg c1).symm.trans hf
      refine r_iload_n dX1_strikeRings_20 rfl ?_
      refine r_aload_n dX1_strikeRings_21 rfl ?_
      refine r_iload_n dX1_strikeRings_22 rfl ?_
      refine r_iload_n dX1_strikeRings_23 rfl ?_
      obtain ⟨q2, h3, hf⟩ := bnd hf
      refine r_callVi (st := [.int l1]) (as := [.int l2, .int l3]) dX1_strikeRings_24 ms_X1_strikeTwo ⟨rfl, w3_93, w3_95, w0_16⟩ (ok_X1_strikeTwo h3) (c_X1_strikeTwo h3) rfl ⟨by omega, by omega⟩ (Nat.le_of_ble_eq_true rfl) (by decide) (by decide) rfl ?_
      refine r_iadd dX1_strikeRings_27 ?_
      refine r_istore_n (lv' := [.ref l0, .int (l1 + q2.1), .int l2, .int l3, .null]) dX1_strikeRings_28 (by decide) rfl rfl ?_
      refine r_iinc (v := 1) (lv' := [.ref l0, .int (l1 + q2.1), .int l2, .int (l3 + 1), .null]) dX1_strikeRings_29 rfl (by decide) (by decide) rfl rfl ?_
      refine r_goto (tgt := 14) dX1_strikeRings_32 (by decide) ?_
      exact ih _ _ _ _ _ _ hf
set_option maxRecDepth 20000 in
theorem t_X1_strikeRings_90 {G : Gt} {l : Launch} (k43 : Mm → Nat → Int32 → Int32 → Option (Int32 × Mm)) (hk43 : ∀ (S : Mm) (l0 : Nat) (l1 : Int32) (l2 : Int32) (T : (Int32 × Mm)), k43 S l0 l1 l2 = some T → Sat G l yX1_strikeRings cX1_strikeRings 5 (some .int) 2 0 0 0 0 43 [.ref l0, .int l1, .int l2, .null, .null] [] S (eI T)) (k53 : Mm → Nat → Int32 → Int32 → Int32 → Option (Int32 × Mm)) (hk53 : ∀ (S : Mm) (l0 : Nat) (l1 : Int32) (l2 : Int32) (l3 : Int32) (T : (Int32 × Mm)), k53 S l0 l1 l2 l3 = some T → Sat G l yX1_strikeRings cX1_strikeRings 5 (some .int) 2 0 0 0 0 53 [.ref l0, .int l1, .int l2, .int l3, .null] [] S (eI T)) (k64 : Mm → Nat → Int32 → Int32 → Int32 → Int32 → Option (Int32 × Mm)) (hk64 : ∀ (S : Mm) (l0 : Nat) (l1 : Int32) (l2 : Int32) (l3 : Int32) (l4 : Int32) (T : (Int32 × Mm)), k64 S l0 l1 l2 l3 l4 = some T → Sat G l yX1_strikeRings cX1_strikeRings 5 (some .int) 2 0 0 0 0 64 [.ref l0, .int l1, .int l2, .int l3, .int l4] [] S (eI T)) (S : Mm) (l0 : Nat) (l2 : Int32) (l3 : Int32) (l4 : Int32) (s0 : Int32) (s1 : Int32) (T : (Int32 × Mm)) (hf : f_X1_strikeRings_90 k43 k53 k64 S l0 l2 l3 l4 s0 s1 = some T) : Sat G l yX1_strikeRings cX1_strikeRings 5 (some .int) 2 0 0 0 0 90 [.ref l0, .null, .int l2, .int l3, .int l4] [.int s1, .int s0] S (eI T) := by
  unfold f_X1_strikeRings_90 at hf
  refine r_iadd dX1_strikeRings_90 ?_
  refine r_istore_n (lv' := [.ref l0, .int (s0 + s1), .int l2, .int l3, .int l4]) dX1_strikeRings_91 (by decide) rfl rfl ?_
  refine r_iinc (v := 1) (lv' := [.ref l0, .int (s0 + s1), .int l2, .int l3, .int (l4 + 1)]) dX1_strikeRings_92 rfl (by decide) (by decide) rfl rfl ?_
  refine r_goto (tgt := 64) dX1_strikeRings_95 (by decide) ?_
  exact hk64 _ _ _ _ _ _ _ hf
set_option maxRecDepth 20000 in
theorem t_X1_strikeRings_64 {G : Gt} {l : Launch} (k43 : Mm → Nat → Int32 → Int32 → Option (Int32 × Mm)) (hk43 : ∀ (S : Mm) (l0 : Nat) (l1 : Int32) (l2 : Int32) (T : (Int32 × Mm)), k43 S l0 l1 l2 = some T → Sat G l yX1_strikeRings cX1_strikeRings 5 (some .int) 2 0 0 0 0 43 [.ref l0, .int l1, .int l2, .null, .null] [] S (eI T)) (k53 : Mm → Nat → Int32 → Int32 → Int32 → Option (Int32 × Mm)) (hk53 : ∀ (S : Mm) (l0 : Nat) (l1 : Int32) (l2 : Int32) (l3 : Int32) (T : (Int32 × Mm)), k53 S l0 l1 l2 l3 = some T → Sat G l yX1_strikeRings cX1_strikeRings 5 (some .int) 2 0 0 0 0 53 [.ref l0, .int l1, .int l2, .int l3, .null] [] S (eI T)) : ∀ (n : Nat) (S : Mm) (l0 : Nat) (l1 : Int32) (l2 : Int32) (l3 : Int32) (l4 : Int32) (T : (Int32 × Mm)), f_X1_strikeRings_64 k43 k53 n S l0 l1 l2 l3 l4 = some T → Sat G l yX1_strikeRings cX1_strikeRings 5 (some .int) 2 0 0 0 0 64 [.ref l0, .int l1, .int l2, .int l3, .int l4] [] S (eI T) := by
  intro n
  induction n with
  | zero =>
    intro S l0 l1 l2 l3 l4 T hf
    rw [f_X1_strikeRings_64] at hf
    cases hf
  | succ n ih =>
    intro S l0 l1 l2 l3 l4 T hf
    rw [f_X1_strikeRings_64] at hf
    refine r_iload dX1_strikeRings_64 rfl ?_
    refine r_bipush (v := 6) dX1_strikeRings_66 (by decide) ?_
    refine r_icmp_ge (tgt := 98) dX1_strikeRings_68 (by decide) (fun c1 => ?_) (fun c1 => ?_)
    · replace hf := (if_pos c1).symm.trans hf
      refine r_iinc (v := 1) (lv' := [.ref l0, .int l1, .int l2, .int (l3 + 1), .int l4]) dX1_strikeRings_98 rfl (by decide) (by decide) rfl rfl ?_
      refine r_goto (tgt := 53) dX1_strikeRings_101 (by decide) ?_
      refine r_lvs (lv' := [.ref l0, .int l1, .int l2, .int (l3 + 1), .null]) ⟨Or.inl rfl, Or.inl rfl, Or.inl rfl, Or.inl rfl, Or.inr rfl, trivial⟩ ?_
      exact hk53 _ _ _ _ _ _ hf
    · replace hf := (if_neg c1).symm.trans hf
      refine r_iload_n dX1_strikeRings_71 rfl ?_
      refine r_iload_n dX1_strikeRings_72 rfl ?_
      refine r_iload dX1_strikeRings_73 rfl ?_
      refine r_icmp_ne (tgt := 82) dX1_strikeRings_75 (by decide) (fun c2 => ?_) (fun c2 => ?_)
      · replace hf := (if_neg c2).symm.trans hf
        refine r_aload_n dX1_strikeRings_82 rfl ?_
        refine r_iload_n dX1_strikeRings_83 rfl ?_
        refine r_iload_n dX1_strikeRings_84 rfl ?_
        refine r_iload dX1_strikeRings_85 rfl ?_
        obtain ⟨q3, h4, hf⟩ := bnd hf
        refine r_callVi (st := [.int l1]) (as := [.int l2, .int l3, .int l4]) dX1_strikeRings_87 ms_X1_strikeThree ⟨rfl, w3_100, w3_102, w0_17⟩ (ok_X1_strikeThree h4) (c_X1_strikeThree h4) rfl ⟨by omega, by omega⟩ (Nat.le_of_ble_eq_true rfl) (by decide) (by decide) rfl ?_
        refine r_lvs (lv' := [.ref l0, .null, .int l2, .int l3, .int l4]) ⟨Or.inl rfl, Or.inr rfl, Or.inl rfl, Or.inl rfl, Or.inl rfl, trivial⟩ ?_
        exact t_X1_strikeRings_90 k43 hk43 k53 hk53 (f_X1_strikeRings_64 k43 k53 n) ih _ _ _ _ _ _ _ _ hf
      · replace hf := (if_pos c2).symm.trans hf
        refine r_iconst (v := 0) dX1_strikeRings_78 (by decide) ?_
        refine r_goto (tgt := 90) dX1_strikeRings_79 (by decide) ?_
        refine r_lvs (lv' := [.ref l0, .null, .int l2, .int l3, .int l4]) ⟨Or.inl rfl, Or.inr rfl, Or.inl rfl, Or.inl rfl, Or.inl rfl, trivial⟩ ?_
        exact t_X1_strikeRings_90 k43 hk43 k53 hk53 (f_X1_strikeRings_64 k43 k53 n) ih _ _ _ _ _ _ _ _ hf
set_option maxRecDepth 20000 in
theorem t_X1_strikeRings_53 {G : Gt} {l : Launch} (k43 : Mm → Nat → Int32 → Int32 → Option (Int32 × Mm)) (hk43 : ∀ (S : Mm) (l0 : Nat) (l1 : Int32) (l2 : Int32) (T : (Int32 × Mm)), k43 S l0 l1 l2 = some T → Sat G l yX1_strikeRings cX1_strikeRings 5 (some .int) 2 0 0 0 0 43 [.ref l0, .int l1, .int l2, .null, .null] [] S (eI T)) : ∀ (n : Nat) (S : Mm) (l0 : Nat) (l1 : Int32) (l2 : Int32) (l3 : Int32) (T : (Int32 × Mm)), f_X1_strikeRings_53 k43 n S l0 l1 l2 l3 = some T → Sat G l yX1_strikeRings cX1_strikeRings 5 (some .int) 2 0 0 0 0 53 [.ref l0, .int l1, .int l2, .int l3, .null] [] S (eI T) := by
  intro n
  induction n with
  | zero =>
    intro S l0 l1 l2 l3 T hf
    rw [f_X1_strikeRings_53] at hf
    cases hf
  | succ n ih =>
    intro S l0 l1 l2 l3 T hf
    rw [f_X1_strikeRings_53] at hf
    refine r_iload_n dX1_strikeRings_53 rfl ?_
    refine r_bipush (v := 6) dX1_strikeRings_54 (by decide) ?_
    refine r_icmp_ge (tgt := 104) dX1_strikeRings_56 (by decide) (fun c1 => ?_) (fun c1 => ?_)
    · replace hf := (if_pos c1).symm.trans hf
      refine r_iinc (v := 1) (lv' := [.ref l0, .int l1, .int (l2 + 1), .int l3, .null]) dX1_strikeRings_104 rfl (by decide) (by decide) rfl rfl ?_
      refine r_goto (tgt := 43) dX1_strikeRings_107 (by decide) ?_
      refine r_lvs (lv' := [.ref l0, .int l1, .int (l2 + 1), .null, .null]) ⟨Or.inl rfl, Or.inl rfl, Or.inl rfl, Or.inr rfl, Or.inl rfl, trivial⟩ ?_
      exact hk43 _ _ _ _ _ hf
    · replace hf := (if_neg c1).symm.trans hf
      refine r_iload_n dX1_strikeRings_59 rfl ?_
      refine r_iconst (v := 1) dX1_strikeRings_60 (by decide) ?_
      refine r_iadd dX1_strikeRings_61 ?_
      refine r_istore (lv' := [.ref l0, .int l1, .int l2, .int l3, .int (l2 + 1)]) dX1_strikeRings_62 (by decide) rfl rfl ?_
      exact t_X1_strikeRings_64 k43 hk43 (f_X1_strikeRings_53 k43 n) ih FU _ _ _ _ _ _ _ hf
set_option maxRecDepth 20000 in
theorem t_X1_strikeRings_43 {G : Gt} {l : Launch} : ∀ (n : Nat) (S : Mm) (l0 : Nat) (l1 : Int32) (l2 : Int32) (T : (Int32 × Mm)), f_X1_strikeRings_43 n S l0 l1 l2 = some T → Sat G l yX1_strikeRings cX1_strikeRings 5 (some .int) 2 0 0 0 0 43 [.ref l0, .int l1, .int l2, .null, .null] [] S (eI T) := by
  intro n
  induction n with
  | zero =>
    intro S l0 l1 l2 T hf
    rw [f_X1_strikeRings_43] at hf
    cases hf
  | succ n ih =>
    intro S l0 l1 l2 T hf
    rw [f_X1_strikeRings_43] at hf
    refine r_iload_n dX1_strikeRings_43 rfl ?_
    refine r_bipush (v := 6) dX1_strikeRings_44 (by decide) ?_
    refine r_icmp_ge (tgt := 110) dX1_strikeRings_46 (by decide) (fun c1 => ?_) (fun c1 => ?_)
    · replace hf := (if_pos c1).symm.trans hf
      refine r_iload_n dX1_strikeRings_110 rfl ?_
      have hz := congrArg eI (Option.some.inj hf)
      exact r_ireturn dX1_strikeRings_111 rfl (Nat.le_of_ble_eq_true rfl) (Nat.le_of_ble_eq_true rfl) hz
    · replace hf := (if_neg c1).symm.trans hf
      refine r_iload_n dX1_strikeRings_49 rfl ?_
      refine r_iconst (v := 1) dX1_strikeRings_50 (by decide) ?_
      refine r_iadd dX1_strikeRings_51 ?_
      refine r_istore_n (lv' := [.ref l0, .int l1, .int l2, .int (l2 + 1), .null]) dX1_strikeRings_52 (by decide) rfl rfl ?_
      exact t_X1_strikeRings_53 (f_X1_strikeRings_43 n) ih FU _ _ _ _ _ _ hf
set_option maxRecDepth 20000 in
theorem t_X1_strikeRings_4 {G : Gt} {l : Launch} : ∀ (n : Nat) (S : Mm) (l0 : Nat) (l1 : Int32) (l2 : Int32) (T : (Int32 × Mm)), f_X1_strikeRings_4 n S l0 l1 l2 = some T → Sat G l yX1_strikeRings cX1_strikeRings 5 (some .int) 2 0 0 0 0 4 [.ref l0, .int l1, .int l2, .null, .null] [] S (eI T) := by
  intro n
  induction n with
  | zero =>
    intro S l0 l1 l2 T hf
    rw [f_X1_strikeRings_4] at hf
    cases hf
  | succ n ih =>
    intro S l0 l1 l2 T hf
    rw [f_X1_strikeRings_4] at hf
    refine r_iload_n dX1_strikeRings_4 rfl ?_
    refine r_bipush (v := 6) dX1_strikeRings_5 (by decide) ?_
    refine r_icmp_ge (tgt := 41) dX1_strikeRings_7 (by decide) (fun c1 => ?_) (fun c1 => ?_)
    · replace hf := (if_pos c1).symm.trans hf
      refine r_iconst (v := 0) dX1_strikeRings_41 (by decide) ?_
      refine r_istore_n (lv' := [.ref l0, .int l1, .int 0, .null, .null]) dX1_strikeRings_42 (by decide) rfl rfl ?_
      exact t_X1_strikeRings_43 FU _ _ _ _ _ hf
    · replace hf := (if_neg c1).symm.trans hf
      refine r_iload_n dX1_strikeRings_10 rfl ?_
      refine r_iconst (v := 1) dX1_strikeRings_11 (by decide) ?_
      refine r_iadd dX1_strikeRings_12 ?_
      refine r_istore_n (lv' := [.ref l0, .int l1, .int l2, .int (l2 + 1), .null]) dX1_strikeRings_13 (by decide) rfl rfl ?_
      exact t_X1_strikeRings_14 (f_X1_strikeRings_4 n) ih FU _ _ _ _ _ _ hf
set_option maxRecDepth 20000 in
theorem ok_X1_strikeRings {S : Mm} {l0 : Nat} {T : (Int32 × Mm)} (hf : f_X1_strikeRings S l0 = some T) : okc S l0 1 = true := (oif hf).1
set_option maxRecDepth 20000 in
theorem c_X1_strikeRings {G : Gt} {l : Launch} {S : Mm} {l0 : Nat} {T : (Int32 × Mm)} (hf : f_X1_strikeRings S l0 = some T) : CC G l yX1_strikeRings cX1_strikeRings 5 (some .int) 2 0 0 [.ref l0] S (eI T) := by
  unfold f_X1_strikeRings at hf
  replace hf := (oif hf).2
  refine r_body (by decide) rfl (Nat.le_of_ble_eq_true rfl) (by simp) ?_
  refine r_iconst (v := 0) dX1_strikeRings_0 (by decide) ?_
  refine r_istore_n (lv' := [.ref l0, .int 0, .null, .null, .null]) dX1_strikeRings_1 (by decide) rfl rfl ?_
  refine r_iconst (v := 0) dX1_strikeRings_2 (by decide) ?_
  refine r_istore_n (lv' := [.ref l0, .int 0, .int 0, .null, .null]) dX1_strikeRings_3 (by decide) rfl rfl ?_
  exact t_X1_strikeRings_4 FU _ _ _ _ _ hf
def f_X8_init (S : Mm) (l0 : Nat) (l1 : Int32) (l2 : Int32) (l3 : Int32) (l4 : Int32) (l5 : Int32) (l6 : Int32) : Option Mm := (f_X0_init S l0 l1 l2 l3 l4 l5 l6).bind fun q1 => some q1
set_option maxRecDepth 20000 in
theorem c_X8_init {G : Gt} {l : Launch} {S : Mm} {l0 : Nat} {l1 : Int32} {l2 : Int32} {l3 : Int32} {l4 : Int32} {l5 : Int32} {l6 : Int32} {T : Mm} (hf : f_X8_init S l0 l1 l2 l3 l4 l5 l6 = some T) : CC G l yX8_init cX8_init 7 none 3 0 0 [.ref l0, .int l1, .int l2, .int l3, .int l4, .int l5, .int l6] S (eV T) := by
  unfold f_X8_init at hf
  refine r_body (by decide) rfl (Nat.le_of_ble_eq_true rfl) (by simp) ?_
  refine r_aload_n dX8_init_0 rfl ?_
  refine r_iload_n dX8_init_1 rfl ?_
  refine r_iload_n dX8_init_2 rfl ?_
  refine r_iload_n dX8_init_3 rfl ?_
  refine r_iload dX8_init_4 rfl ?_
  refine r_iload dX8_init_6 rfl ?_
  refine r_iload dX8_init_8 rfl ?_
  obtain ⟨q1, h2, hf⟩ := bnd hf
  refine r_callIv (st := []) (as := [.int l1, .int l2, .int l3, .int l4, .int l5, .int l6]) dX8_init_10 ms_X0_init ⟨rfl, w2_86, w2_45⟩ (c_X0_init h2) rfl ⟨by omega, by omega⟩ (Nat.le_of_ble_eq_true rfl) (by decide) (by decide) rfl ?_
  have hz := congrArg eV (Option.some.inj hf)
  exact r_return dX8_init_13 rfl (Nat.le_of_ble_eq_true rfl) (Nat.le_of_ble_eq_true rfl) hz
def f_X2_init (S : Mm) (l0 : Nat) (l1 : Int32) (l2 : Int32) (l3 : Int32) (l4 : Int32) (l5 : Int32) (l6 : Int32) : Option Mm := (f_X8_init S l0 l1 l2 l3 l4 l5 l6).bind fun q1 => some q1
set_option maxRecDepth 20000 in
theorem c_X2_init {G : Gt} {l : Launch} {S : Mm} {l0 : Nat} {l1 : Int32} {l2 : Int32} {l3 : Int32} {l4 : Int32} {l5 : Int32} {l6 : Int32} {T : Mm} (hf : f_X2_init S l0 l1 l2 l3 l4 l5 l6 = some T) : CC G l yX2_init cX2_init 7 none 4 0 0 [.ref l0, .int l1, .int l2, .int l3, .int l4, .int l5, .int l6] S (eV T) := by
  unfold f_X2_init at hf
  refine r_body (by decide) rfl (Nat.le_of_ble_eq_true rfl) (by simp) ?_
  refine r_aload_n dX2_init_0 rfl ?_
  refine r_iload_n dX2_init_1 rfl ?_
  refine r_iload_n dX2_init_2 rfl ?_
  refine r_iload_n dX2_init_3 rfl ?_
  refine r_iload dX2_init_4 rfl ?_
  refine r_iload dX2_init_6 rfl ?_
  refine r_iload dX2_init_8 rfl ?_
  obtain ⟨q1, h2, hf⟩ := bnd hf
  refine r_callIv (st := []) (as := [.int l1, .int l2, .int l3, .int l4, .int l5, .int l6]) dX2_init_10 ms_X8_init ⟨rfl, w2_99, w2_84⟩ (c_X8_init h2) rfl ⟨by omega, by omega⟩ (Nat.le_of_ble_eq_true rfl) (by decide) (by decide) rfl ?_
  have hz := congrArg eV (Option.some.inj hf)
  exact r_return dX2_init_13 rfl (Nat.le_of_ble_eq_true rfl) (Nat.le_of_ble_eq_true rfl) hz
def f_X3_init (S : Mm) (l0 : Nat) (l1 : Int32) (l2 : Int32) (l3 : Int32) (l4 : Int32) (l5 : Int32) (l6 : Int32) : Option Mm := (f_X4_init S l0 l1 l2 l3 l4 l5 l6).bind fun q1 => some q1
set_option maxRecDepth 20000 in
theorem c_X3_init {G : Gt} {l : Launch} {S : Mm} {l0 : Nat} {l1 : Int32} {l2 : Int32} {l3 : Int32} {l4 : Int32} {l5 : Int32} {l6 : Int32} {T : Mm} (hf : f_X3_init S l0 l1 l2 l3 l4 l5 l6 = some T) : CC G l yX3_init cX3_init 7 none 2 0 0 [.ref l0, .int l1, .int l2, .int l3, .int l4, .int l5, .int l6] S (eV T) := by
  unfold f_X3_init at hf
  refine r_body (by decide) rfl (Nat.le_of_ble_eq_true rfl) (by simp) ?_
  refine r_aload_n dX3_init_0 rfl ?_
  refine r_iload_n dX3_init_1 rfl ?_
  refine r_iload_n dX3_init_2 rfl ?_
  refine r_iload_n dX3_init_3 rfl ?_
  refine r_iload dX3_init_4 rfl ?_
  refine r_iload dX3_init_6 rfl ?_
  refine r_iload dX3_init_8 rfl ?_
  obtain ⟨q1, h2, hf⟩ := bnd hf
  refine r_callIv (st := []) (as := [.int l1, .int l2, .int l3, .int l4, .int l5, .int l6]) dX3_init_10 ms_X4_init ⟨rfl, w2_73, w1_45⟩ (c_X4_init h2) rfl ⟨by omega, by omega⟩ (Nat.le_of_ble_eq_true rfl) (by decide) (by decide) rfl ?_
  have hz := congrArg eV (Option.some.inj hf)
  exact r_return dX3_init_13 rfl (Nat.le_of_ble_eq_true rfl) (Nat.le_of_ble_eq_true rfl) hz
def f_X5_init (S : Mm) (l0 : Nat) (l1 : Int32) (l2 : Int32) (l3 : Int32) (l4 : Int32) (l5 : Int32) (l6 : Int32) : Option Mm := (f_X4_init S l0 l1 l2 l3 l4 l5 l6).bind fun q1 => some q1
set_option maxRecDepth 20000 in
theorem c_X5_init {G : Gt} {l : Launch} {S : Mm} {l0 : Nat} {l1 : Int32} {l2 : Int32} {l3 : Int32} {l4 : Int32} {l5 : Int32} {l6 : Int32} {T : Mm} (hf : f_X5_init S l0 l1 l2 l3 l4 l5 l6 = some T) : CC G l yX5_init cX5_init 7 none 2 0 0 [.ref l0, .int l1, .int l2, .int l3, .int l4, .int l5, .int l6] S (eV T) := by
  unfold f_X5_init at hf
  refine r_body (by decide) rfl (Nat.le_of_ble_eq_true rfl) (by simp) ?_
  refine r_aload_n dX5_init_0 rfl ?_
  refine r_iload_n dX5_init_1 rfl ?_
  refine r_iload_n dX5_init_2 rfl ?_
  refine r_iload_n dX5_init_3 rfl ?_
  refine r_iload dX5_init_4 rfl ?_
  refine r_iload dX5_init_6 rfl ?_
  refine r_iload dX5_init_8 rfl ?_
  obtain ⟨q1, h2, hf⟩ := bnd hf
  refine r_callIv (st := []) (as := [.int l1, .int l2, .int l3, .int l4, .int l5, .int l6]) dX5_init_10 ms_X4_init ⟨rfl, w2_60, w1_45⟩ (c_X4_init h2) rfl ⟨by omega, by omega⟩ (Nat.le_of_ble_eq_true rfl) (by decide) (by decide) rfl ?_
  have hz := congrArg eV (Option.some.inj hf)
  exact r_return dX5_init_13 rfl (Nat.le_of_ble_eq_true rfl) (Nat.le_of_ble_eq_true rfl) hz
def f_X6_init_87 : Nat → Mm → Nat → Int32 → Option Mm
  | 0, _, _, _ => none
  | n + 1, S, l0, l2 => (gR S 6 l0 4).bind fun x1 => (aL S 100 x1).bind fun x3 => (if x3 ≤ l2 then some S else (gR S 6 l0 4).bind fun x6 => (aS S x6 l2 1).bind fun S8 => (f_X6_init_87 n) S8 l0 (l2 + 1))
def f_X6_init_63 : Nat → Mm → Nat → Nat → Int32 → Option Mm
  | 0, _, _, _, _ => none
  | n + 1, S, l0, l1, l2 => (gR S 6 l0 0).bind fun x1 => (aL S 101 x1).bind fun x3 => (if x3 ≤ l2 then f_X6_init_87 FU S l0 0 else (gR S 6 l0 0).bind fun x6 => (aQ S x6 l2 l1).bind fun S8 => (f_X6_init_63 n) S8 l0 l1 (l2 + 1))
def f_X6_init (S : Mm) (l0 : Nat) : Option Mm := (pR (nC S 101 6) 6 l0 0 (mX S)).bind fun S1 => (pR (nC S1 100 6) 6 l0 2 (mX S1)).bind fun S3 => (pR (nC S3 100 18) 6 l0 3 (mX S3)).bind fun S5 => (pR (nC S5 100 3) 6 l0 4 (mX S5)).bind fun S7 => (f_X1_init (nC S7 1 0) (mX S7)).bind fun q9 => (pR q9 6 l0 5 (mX S7)).bind fun S11 => (f_X4_init (nC S11 4 0) (mX S11) 0 0 0 0 0 0).bind fun q13 => f_X6_init_63 FU q13 l0 (mX S11) 0
set_option maxRecDepth 20000 in
theorem t_X6_init_87 {G : Gt} {l : Launch} : ∀ (n : Nat) (S : Mm) (l0 : Nat) (l2 : Int32) (T : Mm), f_X6_init_87 n S l0 l2 = some T → Sat G l yX6_init cX6_init 3 none 2 7 76 7 76 87 [.ref l0, .null, .int l2] [] S (eV T) := by
  intro n
  induction n with
  | zero =>
    intro S l0 l2 T hf
    rw [f_X6_init_87] at hf
    cases hf
  | succ n ih =>
    intro S l0 l2 T hf
    rw [f_X6_init_87] at hf
    refine r_iload_n dX6_init_87 rfl ?_
    refine r_aload_n dX6_init_88 rfl ?_
    obtain ⟨x1, h2, hf⟩ := bnd hf
    refine r_getR dX6_init_89 fs6_24_6 rfl h2 ?_
    obtain ⟨x3, h4, hf⟩ := bnd hf
    refine r_alen dX6_init_92 h4 ?_
    refine r_icmp_ge (tgt := 109) dX6_init_93 (by decide) (fun c5 => ?_) (fun c5 => ?_)
    · replace hf := (if_pos c5).symm.trans hf
      have hz := congrArg eV (Option.some.inj hf)
      exact r_return dX6_init_109 rfl (Nat.le_of_ble_eq_true rfl) (Nat.le_of_ble_eq_true rfl) hz
    · replace hf := (if_neg c5).symm.trans hf
      refine r_aload_n dX6_init_96 rfl ?_
      obtain ⟨x6, h7, hf⟩ := bnd hf
      refine r_getR dX6_init_97 fs6_24_6 rfl h7 ?_
      refine r_iload_n dX6_init_100 rfl ?_
      refine r_iconst (v := 1) dX6_init_101 (by decide) ?_
      obtain ⟨S8, h9, hf⟩ := bnd hf
      refine r_iastore dX6_init_102 h9 ?_
      refine r_iinc (v := 1) (lv' := [.ref l0, .null, .int (l2 + 1)]) dX6_init_103 rfl (by decide) (by decide) rfl rfl ?_
      refine r_goto (tgt := 87) dX6_init_106 (by decide) ?_
      exact ih _ _ _ _ hf
set_option maxRecDepth 20000 in
theorem t_X6_init_63 {G : Gt} {l : Launch} : ∀ (n : Nat) (S : Mm) (l0 : Nat) (l1 : Nat) (l2 : Int32) (T : Mm), f_X6_init_63 n S l0 l1 l2 = some T → Sat G l yX6_init cX6_init 3 none 2 7 76 7 76 63 [.ref l0, .ref l1, .int l2] [] S (eV T) := by
  intro n
  induction n with
  | zero =>
    intro S l0 l1 l2 T hf
    rw [f_X6_init_63] at hf
    cases hf
  | succ n ih =>
    intro S l0 l1 l2 T hf
    rw [f_X6_init_63] at hf
    refine r_iload_n dX6_init_63 rfl ?_
    refine r_aload_n dX6_init_64 rfl ?_
    obtain ⟨x1, h2, hf⟩ := bnd hf
    refine r_getR dX6_init_65 fs6_11_6 rfl h2 ?_
    obtain ⟨x3, h4, hf⟩ := bnd hf
    refine r_alenR dX6_init_68 h4 ?_
    refine r_icmp_ge (tgt := 85) dX6_init_69 (by decide) (fun c5 => ?_) (fun c5 => ?_)
    · replace hf := (if_pos c5).symm.trans hf
      refine r_iconst (v := 0) dX6_init_85 (by decide) ?_
      refine r_istore_n (lv' := [.ref l0, .ref l1, .int 0]) dX6_init_86 (by decide) rfl rfl ?_
      refine r_lvs (lv' := [.ref l0, .null, .int 0]) ⟨Or.inl rfl, Or.inr rfl, Or.inl rfl, trivial⟩ ?_
      exact t_X6_init_87 FU _ _ _ _ hf
    · replace hf := (if_neg c5).symm.trans hf
      refine r_aload_n dX6_init_72 rfl ?_
      obtain ⟨x6, h7, hf⟩ := bnd hf
      refine r_getR dX6_init_73 fs6_11_6 rfl h7 ?_
      refine r_iload_n dX6_init_76 rfl ?_
      refine r_aload_n dX6_init_77 rfl ?_
      obtain ⟨S8, h9, hf⟩ := bnd hf
      refine r_aastore dX6_init_78 h9 ?_
      refine r_iinc (v := 1) (lv' := [.ref l0, .ref l1, .int (l2 + 1)]) dX6_init_79 rfl (by decide) (by decide) rfl rfl ?_
      refine r_goto (tgt := 63) dX6_init_82 (by decide) ?_
      exact ih _ _ _ _ _ hf
set_option maxRecDepth 20000 in
theorem c_X6_init {G : Gt} {l : Launch} {S : Mm} {l0 : Nat} {T : Mm} (hf : f_X6_init S l0 = some T) : CC G l yX6_init cX6_init 3 none 2 7 76 [.ref l0] S (eV T) := by
  unfold f_X6_init at hf
  refine r_body (by decide) rfl (Nat.le_of_ble_eq_true rfl) (by simp) ?_
  refine r_aload_n dX6_init_0 rfl ?_
  refine r_objInit dX6_init_1 ⟨w1_29, w1_22, w1_23⟩ (by decide) (Nat.le_of_ble_eq_true rfl) ?_
  refine r_aload_n dX6_init_4 rfl ?_
  refine r_bipush (v := 6) dX6_init_5 (by decide) ?_
  refine r_anewarray (N := 6) dX6_init_7 w1_30 (by decide) (by decide) (by decide) (by decide) (by decide) ?_
  obtain ⟨S1, h2, hf⟩ := bnd hf
  refine r_putFR dX6_init_10 fs6_11_6 (fun _ _ _ h => by cases h; rfl) rfl rfl (fun _ => rfl) (fun _ => rfl) h2 ?_
  refine r_aload_n dX6_init_13 rfl ?_
  refine r_bipush (v := 6) dX6_init_14 (by decide) ?_
  refine r_newarray (N := 6) dX6_init_16 w1_42 (by decide) (by decide) (by decide) (by decide) (by decide) ?_
  obtain ⟨S3, h4, hf⟩ := bnd hf
  refine r_putFR dX6_init_18 fs6_17_6 (fun _ _ _ h => by cases h; rfl) rfl rfl (fun _ => rfl) (fun _ => rfl) h4 ?_
  refine r_aload_n dX6_init_21 rfl ?_
  refine r_bipush (v := 18) dX6_init_22 (by decide) ?_
  refine r_newarray (N := 18) dX6_init_24 w1_42 (by decide) (by decide) (by decide) (by decide) (by decide) ?_
  obtain ⟨S5, h6, hf⟩ := bnd hf
  refine r_putFR dX6_init_26 fs6_21_6 (fun _ _ _ h => by cases h; rfl) rfl rfl (fun _ => rfl) (fun _ => rfl) h6 ?_
  refine r_aload_n dX6_init_29 rfl ?_
  refine r_iconst (v := 3) dX6_init_30 (by decide) ?_
  refine r_newarray (N := 3) dX6_init_31 w1_42 (by decide) (by decide) (by decide) (by decide) (by decide) ?_
  obtain ⟨S7, h8, hf⟩ := bnd hf
  refine r_putFR dX6_init_33 fs6_24_6 (fun _ _ _ h => by cases h; rfl) rfl rfl (fun _ => rfl) (fun _ => rfl) h8 ?_
  refine r_aload_n dX6_init_36 rfl ?_
  refine r_new (ci := 1) (N := 1) dX6_init_37 ⟨_, _, rfl, w1_32, w1_33, w1_3⟩ (by decide) (by decide) ?_
  refine r_dup dX6_init_40 rfl ?_
  obtain ⟨q9, h10, hf⟩ := bnd hf
  refine r_callINv (st := [.ref (mX S7), .ref l0]) (as := []) dX6_init_41 ms_X1_init ⟨rfl, by decide, w1_35⟩ (c_X1_init h10) rfl ⟨by omega, by omega⟩ (Nat.le_of_ble_eq_true rfl) (by decide) (by decide) rfl ?_
  obtain ⟨S11, h12, hf⟩ := bnd hf
  refine r_putFR dX6_init_44 fs6_30_6 (fun _ _ _ h => by cases h; rfl) rfl rfl (fun _ => rfl) (fun _ => rfl) h12 ?_
  refine r_new (ci := 4) (N := 6) dX6_init_47 ⟨_, _, rfl, w1_30, w1_43, w1_4⟩ (by decide) (by decide) ?_
  refine r_dup dX6_init_50 rfl ?_
  refine r_iconst (v := 0) dX6_init_51 (by decide) ?_
  refine r_iconst (v := 0) dX6_init_52 (by decide) ?_
  refine r_iconst (v := 0) dX6_init_53 (by decide) ?_
  refine r_iconst (v := 0) dX6_init_54 (by decide) ?_
  refine r_iconst (v := 0) dX6_init_55 (by decide) ?_
  refine r_iconst (v := 0) dX6_init_56 (by decide) ?_
  obtain ⟨q13, h14, hf⟩ := bnd hf
  refine r_callIv (st := [.ref (mX S11)]) (as := [.int 0, .int 0, .int 0, .int 0, .int 0, .int 0]) dX6_init_57 ms_X4_init ⟨rfl, w1_44, w1_45⟩ (c_X4_init h14) rfl ⟨by omega, by omega⟩ (Nat.le_of_ble_eq_true rfl) (by decide) (by decide) rfl ?_
  refine r_astore_n (lv' := [.ref l0, .ref (mX S11), .null]) dX6_init_60 (by decide) rfl rfl ?_
  refine r_iconst (v := 0) dX6_init_61 (by decide) ?_
  refine r_istore_n (lv' := [.ref l0, .ref (mX S11), .int 0]) dX6_init_62 (by decide) rfl rfl ?_
  exact t_X6_init_63 FU _ _ _ _ _ hf
def f_X6_copyFrom_2 : Nat → Mm → Nat → Nat → Int32 → Option Mm
  | 0, _, _, _, _ => none
  | n + 1, S, l0, l1, l2 => (gR S 6 l0 0).bind fun x1 => (aL S 101 x1).bind fun x3 => (if x3 ≤ l2 then (gI S 6 l1 1).bind fun x6 => (pI S 6 l0 1 x6).bind fun S8 => (gR S8 6 l1 2).bind fun x10 => (gR S8 6 l0 2).bind fun x12 => (gR S8 6 l0 2).bind fun x14 => (aL S8 100 x14).bind fun x16 => (aC S8 x10 0 x12 0 x16).bind fun S18 => (gR S18 6 l1 3).bind fun x20 => (gR S18 6 l0 3).bind fun x22 => (gR S18 6 l0 3).bind fun x24 => (aL S18 100 x24).bind fun x26 => (aC S18 x20 0 x22 0 x26).bind fun S28 => (gR S28 6 l1 4).bind fun x30 => (gR S28 6 l0 4).bind fun x32 => (gR S28 6 l0 4).bind fun x34 => (aL S28 100 x34).bind fun x36 => (aC S28 x30 0 x32 0 x36).bind fun S38 => (gR S38 6 l0 5).bind fun x40 => (gR S38 6 l1 5).bind fun x42 => (f_X1_copyFrom S38 x40 x42).bind fun q44 => (gI q44 6 l1 6).bind fun x46 => (pI q44 6 l0 6 x46).bind fun S48 => (gI S48 6 l1 7).bind fun x50 => (pI S48 6 l0 7 x50).bind fun S52 => (gI S52 6 l1 8).bind fun x54 => (pI S52 6 l0 8 x54).bind fun S56 => some S56 else (gR S 6 l0 0).bind fun x58 => (gR S 6 l1 0).bind fun x60 => (aR S x60 l2).bind fun x62 => (aQ S x58 l2 x62).bind fun S64 => (f_X6_copyFrom_2 n) S64 l0 l1 (l2 + 1))
def f_X6_copyFrom (S : Mm) (l0 : Nat) (l1 : Nat) : Option Mm := if okc S l0 6 = true then f_X6_copyFrom_2 FU S l0 l1 0 else none
set_option maxRecDepth 20000 in
theorem t_X6_copyFrom_2 {G : Gt} {l : Launch} : ∀ (n : Nat) (S : Mm) (l0 : Nat) (l1 : Nat) (l2 : Int32) (T : Mm), f_X6_copyFrom_2 n S l0 l1 l2 = some T → Sat G l yX6_copyFrom cX6_copyFrom 3 none 2 0 0 0 0 2 [.ref l0, .ref l1, .int l2] [] S (eV T) := by
  intro n
  induction n with
  | zero =>
    intro S l0 l1 l2 T hf
    rw [f_X6_copyFrom_2] at hf
    cases hf
  | succ n ih =>
    intro S l0 l1 l2 T hf
    rw [f_X6_copyFrom_2] at hf
    refine r_iload_n dX6_copyFrom_2 rfl ?_
    refine r_aload_n dX6_copyFrom_3 rfl ?_
    obtain ⟨x1, h2, hf⟩ := bnd hf
    refine r_getR dX6_copyFrom_4 fs6_11_6 rfl h2 ?_
    obtain ⟨x3, h4, hf⟩ := bnd hf
    refine r_alenR dX6_copyFrom_7 h4 ?_
    refine r_icmp_ge (tgt := 29) dX6_copyFrom_8 (by decide) (fun c5 => ?_) (fun c5 => ?_)
    · replace hf := (if_pos c5).symm.trans hf
      refine r_aload_n dX6_copyFrom_29 rfl ?_
      refine r_aload_n dX6_copyFrom_30 rfl ?_
      obtain ⟨x6, h7, hf⟩ := bnd hf
      refine r_getI dX6_copyFrom_31 fs6_37_6 rfl h7 ?_
      obtain ⟨S8, h9, hf⟩ := bnd hf
      refine r_putI dX6_copyFrom_34 fs6_37_6 rfl h9 ?_
      refine r_aload_n dX6_copyFrom_37 rfl ?_
      obtain ⟨x10, h11, hf⟩ := bnd hf
      refine r_getR dX6_copyFrom_38 fs6_17_6 rfl h11 ?_
      refine r_iconst (v := 0) dX6_copyFrom_41 (by decide) ?_
      refine r_aload_n dX6_copyFrom_42 rfl ?_
      obtain ⟨x12, h13, hf⟩ := bnd hf
      refine r_getR dX6_copyFrom_43 fs6_17_6 rfl h13 ?_
      refine r_iconst (v := 0) dX6_copyFrom_46 (by decide) ?_
      refine r_aload_n dX6_copyFrom_47 rfl ?_
      obtain ⟨x14, h15, hf⟩ := bnd hf
      refine r_getR dX6_copyFrom_48 fs6_17_6 rfl h15 ?_
      obtain ⟨x16, h17, hf⟩ := bnd hf
      refine r_alen dX6_copyFrom_51 h17 ?_
      obtain ⟨S18, h19, hf⟩ := bnd hf
      refine r_copy dX6_copyFrom_52 wkcp_6041 h19 (by decide) (Nat.le_of_ble_eq_true rfl) ?_
      refine r_aload_n dX6_copyFrom_55 rfl ?_
      obtain ⟨x20, h21, hf⟩ := bnd hf
      refine r_getR dX6_copyFrom_56 fs6_21_6 rfl h21 ?_
      refine r_iconst (v := 0) dX6_copyFrom_59 (by decide) ?_
      refine r_aload_n dX6_copyFrom_60 rfl ?_
      obtain ⟨x22, h23, hf⟩ := bnd hf
      refine r_getR dX6_copyFrom_61 fs6_21_6 rfl h23 ?_
      refine r_iconst (v := 0) dX6_copyFrom_64 (by decide) ?_
      refine r_aload_n dX6_copyFrom_65 rfl ?_
      obtain ⟨x24, h25, hf⟩ := bnd hf
      refine r_getR dX6_copyFrom_66 fs6_21_6 rfl h25 ?_
      obtain ⟨x26, h27, hf⟩ := bnd hf
      refine r_alen dX6_copyFrom_69 h27 ?_
      obtain ⟨S28, h29, hf⟩ := bnd hf
      refine r_copy dX6_copyFrom_70 wkcp_6041 h29 (by decide) (Nat.le_of_ble_eq_true rfl) ?_
      refine r_aload_n dX6_copyFrom_73 rfl ?_
      obtain ⟨x30, h31, hf⟩ := bnd hf
      refine r_getR dX6_copyFrom_74 fs6_24_6 rfl h31 ?_
      refine r_iconst (v := 0) dX6_copyFrom_77 (by decide) ?_
      refine r_aload_n dX6_copyFrom_78 rfl ?_
      obtain ⟨x32, h33, hf⟩ := bnd hf
      refine r_getR dX6_copyFrom_79 fs6_24_6 rfl h33 ?_
      refine r_iconst (v := 0) dX6_copyFrom_82 (by decide) ?_
      refine r_aload_n dX6_copyFrom_83 rfl ?_
      obtain ⟨x34, h35, hf⟩ := bnd hf
      refine r_getR dX6_copyFrom_84 fs6_24_6 rfl h35 ?_
      obtain ⟨x36, h37, hf⟩ := bnd hf
      refine r_alen dX6_copyFrom_87 h37 ?_
      obtain ⟨S38, h39, hf⟩ := bnd hf
      refine r_copy dX6_copyFrom_88 wkcp_6041 h39 (by decide) (Nat.le_of_ble_eq_true rfl) ?_
      refine r_aload_n dX6_copyFrom_91 rfl ?_
      obtain ⟨x40, h41, hf⟩ := bnd hf
      refine r_getR dX6_copyFrom_92 fs6_30_6 rfl h41 ?_
      refine r_aload_n dX6_copyFrom_95 rfl ?_
      obtain ⟨x42, h43, hf⟩ := bnd hf
      refine r_getR dX6_copyFrom_96 fs6_30_6 rfl h43 ?_
      obtain ⟨q44, h45, hf⟩ := bnd hf
      refine r_callVv (st := []) (as := [.ref x42]) dX6_copyFrom_99 ms_X1_copyFrom ⟨rfl, w1_238, w1_239, w2_0⟩ (ok_X1_copyFrom h45) (c_X1_copyFrom h45) rfl ⟨by omega, by omega⟩ (Nat.le_of_ble_eq_true rfl) (by decide) (by decide) rfl ?_
      refine r_aload_n dX6_copyFrom_102 rfl ?_
      refine r_aload_n dX6_copyFrom_103 rfl ?_
      obtain ⟨x46, h47, hf⟩ := bnd hf
      refine r_getI dX6_copyFrom_104 fs6_51_6 rfl h47 ?_
      obtain ⟨S48, h49, hf⟩ := bnd hf
      refine r_putI dX6_copyFrom_107 fs6_51_6 rfl h49 ?_
      refine r_aload_n dX6_copyFrom_110 rfl ?_
      refine r_aload_n dX6_copyFrom_111 rfl ?_
      obtain ⟨x50, h51, hf⟩ := bnd hf
      refine r_getI dX6_copyFrom_112 fs6_54_6 rfl h51 ?_
      obtain ⟨S52, h53, hf⟩ := bnd hf
      refine r_putI dX6_copyFrom_115 fs6_54_6 rfl h53 ?_
      refine r_aload_n dX6_copyFrom_118 rfl ?_
      refine r_aload_n dX6_copyFrom_119 rfl ?_
      obtain ⟨x54, h55, hf⟩ := bnd hf
      refine r_getI dX6_copyFrom_120 fs6_57_6 rfl h55 ?_
      obtain ⟨S56, h57, hf⟩ := bnd hf
      refine r_putI dX6_copyFrom_123 fs6_57_6 rfl h57 ?_
      have hz := congrArg eV (Option.some.inj hf)
      exact r_return dX6_copyFrom_126 rfl (Nat.le_of_ble_eq_true rfl) (Nat.le_of_ble_eq_true rfl) hz
    · replace hf := (if_neg c5).symm.trans hf
      refine r_aload_n dX6_copyFrom_11 rfl ?_
      obtain ⟨x58, h59, hf⟩ := bnd hf
      refine r_getR dX6_copyFrom_12 fs6_11_6 rfl h59 ?_
      refine r_iload_n dX6_copyFrom_15 rfl ?_
      refine r_aload_n dX6_copyFrom_16 rfl ?_
      obtain ⟨x60, h61, hf⟩ := bnd hf
      refine r_getR dX6_copyFrom_17 fs6_11_6 rfl h61 ?_
      refine r_iload_n dX6_copyFrom_20 rfl ?_
      obtain ⟨x62, h63, hf⟩ := bnd hf
      refine r_aaload dX6_copyFrom_21 h63 ?_
      obtain ⟨S64, h65, hf⟩ := bnd hf
      refine r_aastore dX6_copyFrom_22 h65 ?_
      refine r_iinc (v := 1) (lv' := [.ref l0, .ref l1, .int (l2 + 1)]) dX6_copyFrom_23 rfl (by decide) (by decide) rfl rfl ?_
      refine r_goto (tgt := 2) dX6_copyFrom_26 (by decide) ?_
      exact ih _ _ _ _ _ hf
set_option maxRecDepth 20000 in
theorem ok_X6_copyFrom {S : Mm} {l0 : Nat} {l1 : Nat} {T : Mm} (hf : f_X6_copyFrom S l0 l1 = some T) : okc S l0 6 = true := (oif hf).1
set_option maxRecDepth 20000 in
theorem c_X6_copyFrom {G : Gt} {l : Launch} {S : Mm} {l0 : Nat} {l1 : Nat} {T : Mm} (hf : f_X6_copyFrom S l0 l1 = some T) : CC G l yX6_copyFrom cX6_copyFrom 3 none 2 0 0 [.ref l0, .ref l1] S (eV T) := by
  unfold f_X6_copyFrom at hf
  replace hf := (oif hf).2
  refine r_body (by decide) rfl (Nat.le_of_ble_eq_true rfl) (by simp) ?_
  refine r_iconst (v := 0) dX6_copyFrom_0 (by decide) ?_
  refine r_istore_n (lv' := [.ref l0, .ref l1, .int 0]) dX6_copyFrom_1 (by decide) rfl rfl ?_
  exact t_X6_copyFrom_2 FU _ _ _ _ _ hf
def f_X6_addHouse (S : Mm) (l0 : Nat) (l1 : Nat) (l2 : Int32) : Option (Int32 × Mm) := if okc S l0 6 = true then (gI S 6 l0 1).bind fun x1 => (if x1 < 6 then (gR S 6 l0 0).bind fun x4 => (gI S 6 l0 1).bind fun x6 => (aQ S x4 x6 l1).bind fun S8 => (gR S8 6 l0 2).bind fun x10 => (gI S8 6 l0 1).bind fun x12 => (aS S8 x10 x12 l2).bind fun S14 => (gI S14 6 l0 1).bind fun x16 => (pI S14 6 l0 1 (x16 + 1)).bind fun S18 => some (1, S18) else some (0, S)) else none
set_option maxRecDepth 20000 in
theorem ok_X6_addHouse {S : Mm} {l0 : Nat} {l1 : Nat} {l2 : Int32} {T : (Int32 × Mm)} (hf : f_X6_addHouse S l0 l1 l2 = some T) : okc S l0 6 = true := (oif hf).1
set_option maxRecDepth 20000 in
theorem c_X6_addHouse {G : Gt} {l : Launch} {S : Mm} {l0 : Nat} {l1 : Nat} {l2 : Int32} {T : (Int32 × Mm)} (hf : f_X6_addHouse S l0 l1 l2 = some T) : CC G l yX6_addHouse cX6_addHouse 3 (some .boolean) 0 0 0 [.ref l0, .ref l1, .int l2] S (eI T) := by
  unfold f_X6_addHouse at hf
  replace hf := (oif hf).2
  refine r_body (by decide) rfl (Nat.le_of_ble_eq_true rfl) (by simp) ?_
  refine r_aload_n dX6_addHouse_0 rfl ?_
  obtain ⟨x1, h2, hf⟩ := bnd hf
  refine r_getI dX6_addHouse_1 fs6_37_6 rfl h2 ?_
  refine r_bipush (v := 6) dX6_addHouse_4 (by decide) ?_
  refine r_icmp_lt (tgt := 11) dX6_addHouse_6 (by decide) (fun c3 => ?_) (fun c3 => ?_)
  · replace hf := (if_pos c3).symm.trans hf
    refine r_aload_n dX6_addHouse_11 rfl ?_
    obtain ⟨x4, h5, hf⟩ := bnd hf
    refine r_getR dX6_addHouse_12 fs6_11_6 rfl h5 ?_
    refine r_aload_n dX6_addHouse_15 rfl ?_
    obtain ⟨x6, h7, hf⟩ := bnd hf
    refine r_getI dX6_addHouse_16 fs6_37_6 rfl h7 ?_
    refine r_aload_n dX6_addHouse_19 rfl ?_
    obtain ⟨S8, h9, hf⟩ := bnd hf
    refine r_aastore dX6_addHouse_20 h9 ?_
    refine r_aload_n dX6_addHouse_21 rfl ?_
    obtain ⟨x10, h11, hf⟩ := bnd hf
    refine r_getR dX6_addHouse_22 fs6_17_6 rfl h11 ?_
    refine r_aload_n dX6_addHouse_25 rfl ?_
    obtain ⟨x12, h13, hf⟩ := bnd hf
    refine r_getI dX6_addHouse_26 fs6_37_6 rfl h13 ?_
    refine r_iload_n dX6_addHouse_29 rfl ?_
    obtain ⟨S14, h15, hf⟩ := bnd hf
    refine r_iastore dX6_addHouse_30 h15 ?_
    refine r_aload_n dX6_addHouse_31 rfl ?_
    refine r_dup dX6_addHouse_32 rfl ?_
    obtain ⟨x16, h17, hf⟩ := bnd hf
    refine r_getI dX6_addHouse_33 fs6_37_6 rfl h17 ?_
    refine r_iconst (v := 1) dX6_addHouse_36 (by decide) ?_
    refine r_iadd dX6_addHouse_37 ?_
    obtain ⟨S18, h19, hf⟩ := bnd hf
    refine r_putI dX6_addHouse_38 fs6_37_6 rfl h19 ?_
    refine r_iconst (v := 1) dX6_addHouse_41 (by decide) ?_
    have hz := congrArg eI (Option.some.inj hf)
    exact r_zreturn (x' := 1) dX6_addHouse_42 rfl (Nat.le_of_ble_eq_true rfl) (Nat.le_of_ble_eq_true rfl) rfl hz
  · replace hf := (if_neg c3).symm.trans hf
    refine r_iconst (v := 0) dX6_addHouse_9 (by decide) ?_
    have hz := congrArg eI (Option.some.inj hf)
    exact r_zreturn (x' := 0) dX6_addHouse_10 rfl (Nat.le_of_ble_eq_true rfl) (Nat.le_of_ble_eq_true rfl) rfl hz
def f_X6_hasHouse_17 (S : Mm) (s0 : Int32) : Option (Int32 × Mm) := (rB s0).bind fun x1 => some (x1, S)
def f_X6_hasHouse_16 (S : Mm)  : Option (Int32 × Mm) := f_X6_hasHouse_17 S 0
def f_X6_hasHouse (S : Mm) (l0 : Nat) (l1 : Int32) : Option (Int32 × Mm) := if okc S l0 6 = true then (if l1 < 0 then f_X6_hasHouse_16 S else (gI S 6 l0 1).bind fun x2 => (if x2 ≤ l1 then f_X6_hasHouse_16 S else f_X6_hasHouse_17 S 1)) else none
set_option maxRecDepth 20000 in
theorem t_X6_hasHouse_17 {G : Gt} {l : Launch} (S : Mm) (s0 : Int32) (T : (Int32 × Mm)) (hf : f_X6_hasHouse_17 S s0 = some T) : Sat G l yX6_hasHouse cX6_hasHouse 2 (some .boolean) 0 0 0 0 0 17 [.null, .null] [.int s0] S (eI T) := by
  unfold f_X6_hasHouse_17 at hf
  obtain ⟨x1, h2, hf⟩ := bnd hf
  have hz := congrArg eI (Option.some.inj hf)
  exact r_zreturn dX6_hasHouse_17 rfl (Nat.le_of_ble_eq_true rfl) (Nat.le_of_ble_eq_true rfl) h2 hz
set_option maxRecDepth 20000 in
theorem t_X6_hasHouse_16 {G : Gt} {l : Launch} (S : Mm)  (T : (Int32 × Mm)) (hf : f_X6_hasHouse_16 S  = some T) : Sat G l yX6_hasHouse cX6_hasHouse 2 (some .boolean) 0 0 0 0 0 16 [.null, .null] [] S (eI T) := by
  unfold f_X6_hasHouse_16 at hf
  refine r_iconst (v := 0) dX6_hasHouse_16 (by decide) ?_
  exact t_X6_hasHouse_17 _ _ _ hf
set_option maxRecDepth 20000 in
theorem ok_X6_hasHouse {S : Mm} {l0 : Nat} {l1 : Int32} {T : (Int32 × Mm)} (hf : f_X6_hasHouse S l0 l1 = some T) : okc S l0 6 = true := (oif hf).1
set_option maxRecDepth 20000 in
theorem c_X6_hasHouse {G : Gt} {l : Launch} {S : Mm} {l0 : Nat} {l1 : Int32} {T : (Int32 × Mm)} (hf : f_X6_hasHouse S l0 l1 = some T) : CC G l yX6_hasHouse cX6_hasHouse 2 (some .boolean) 0 0 0 [.ref l0, .int l1] S (eI T) := by
  unfold f_X6_hasHouse at hf
  replace hf := (oif hf).2
  refine r_body (by decide) rfl (Nat.le_of_ble_eq_true rfl) (by simp) ?_
  refine r_iload_n dX6_hasHouse_0 rfl ?_
  refine r_if_lt (tgt := 16) dX6_hasHouse_1 (by decide) (fun c1 => ?_) (fun c1 => ?_)
  · replace hf := (if_pos c1).symm.trans hf
    refine r_lvs (lv' := [.null, .null]) ⟨Or.inr rfl, Or.inr rfl, trivial⟩ ?_
    exact t_X6_hasHouse_16 _ _ hf
  · replace hf := (if_neg c1).symm.trans hf
    refine r_iload_n dX6_hasHouse_4 rfl ?_
    refine r_aload_n dX6_hasHouse_5 rfl ?_
    obtain ⟨x2, h3, hf⟩ := bnd hf
    refine r_getI dX6_hasHouse_6 fs6_37_6 rfl h3 ?_
    refine r_icmp_ge (tgt := 16) dX6_hasHouse_9 (by decide) (fun c4 => ?_) (fun c4 => ?_)
    · replace hf := (if_pos c4).symm.trans hf
      refine r_lvs (lv' := [.null, .null]) ⟨Or.inr rfl, Or.inr rfl, trivial⟩ ?_
      exact t_X6_hasHouse_16 _ _ hf
    · replace hf := (if_neg c4).symm.trans hf
      refine r_iconst (v := 1) dX6_hasHouse_12 (by decide) ?_
      refine r_goto (tgt := 17) dX6_hasHouse_13 (by decide) ?_
      refine r_lvs (lv' := [.null, .null]) ⟨Or.inr rfl, Or.inr rfl, trivial⟩ ?_
      exact t_X6_hasHouse_17 _ _ _ hf
def f_X6_areTwo_26 (S : Mm) (s0 : Int32) : Option (Int32 × Mm) := (rB s0).bind fun x1 => some (x1, S)
def f_X6_areTwo_25 (S : Mm)  : Option (Int32 × Mm) := f_X6_areTwo_26 S 0
def f_X6_areTwo (S : Mm) (l0 : Nat) (l1 : Int32) (l2 : Int32) : Option (Int32 × Mm) := if okc S l0 6 = true then (f_X6_hasHouse S l0 l1).bind fun q1 => (if q1.1 = 0 then f_X6_areTwo_25 q1.2 else (f_X6_hasHouse q1.2 l0 l2).bind fun q4 => (if q4.1 = 0 then f_X6_areTwo_25 q4.2 else (if l1 = l2 then f_X6_areTwo_25 q4.2 else f_X6_areTwo_26 q4.2 1))) else none
set_option maxRecDepth 20000 in
theorem t_X6_areTwo_26 {G : Gt} {l : Launch} (S : Mm) (s0 : Int32) (T : (Int32 × Mm)) (hf : f_X6_areTwo_26 S s0 = some T) : Sat G l yX6_areTwo cX6_areTwo 3 (some .boolean) 1 0 0 0 0 26 [.null, .null, .null] [.int s0] S (eI T) := by
  unfold f_X6_areTwo_26 at hf
  obtain ⟨x1, h2, hf⟩ := bnd hf
  have hz := congrArg eI (Option.some.inj hf)
  exact r_zreturn dX6_areTwo_26 rfl (Nat.le_of_ble_eq_true rfl) (Nat.le_of_ble_eq_true rfl) h2 hz
set_option maxRecDepth 20000 in
theorem t_X6_areTwo_25 {G : Gt} {l : Launch} (S : Mm)  (T : (Int32 × Mm)) (hf : f_X6_areTwo_25 S  = some T) : Sat G l yX6_areTwo cX6_areTwo 3 (some .boolean) 1 0 0 0 0 25 [.null, .null, .null] [] S (eI T) := by
  unfold f_X6_areTwo_25 at hf
  refine r_iconst (v := 0) dX6_areTwo_25 (by decide) ?_
  exact t_X6_areTwo_26 _ _ _ hf
set_option maxRecDepth 20000 in
theorem ok_X6_areTwo {S : Mm} {l0 : Nat} {l1 : Int32} {l2 : Int32} {T : (Int32 × Mm)} (hf : f_X6_areTwo S l0 l1 l2 = some T) : okc S l0 6 = true := (oif hf).1
set_option maxRecDepth 20000 in
theorem c_X6_areTwo {G : Gt} {l : Launch} {S : Mm} {l0 : Nat} {l1 : Int32} {l2 : Int32} {T : (Int32 × Mm)} (hf : f_X6_areTwo S l0 l1 l2 = some T) : CC G l yX6_areTwo cX6_areTwo 3 (some .boolean) 1 0 0 [.ref l0, .int l1, .int l2] S (eI T) := by
  unfold f_X6_areTwo at hf
  replace hf := (oif hf).2
  refine r_body (by decide) rfl (Nat.le_of_ble_eq_true rfl) (by simp) ?_
  refine r_aload_n dX6_areTwo_0 rfl ?_
  refine r_iload_n dX6_areTwo_1 rfl ?_
  obtain ⟨q1, h2, hf⟩ := bnd hf
  refine r_callVi (st := []) (as := [.int l1]) dX6_areTwo_2 ms_X6_hasHouse ⟨rfl, w2_130, w2_131, w2_132⟩ (ok_X6_hasHouse h2) (c_X6_hasHouse h2) rfl ⟨by omega, by omega⟩ (Nat.le_of_ble_eq_true rfl) (by decide) (by decide) rfl ?_
  refine r_if_eq (tgt := 25) dX6_areTwo_5 (by decide) (fun c3 => ?_) (fun c3 => ?_)
  · replace hf := (if_pos c3).symm.trans hf
    refine r_lvs (lv' := [.null, .null, .null]) ⟨Or.inr rfl, Or.inr rfl, Or.inr rfl, trivial⟩ ?_
    exact t_X6_areTwo_25 _ _ hf
  · replace hf := (if_neg c3).symm.trans hf
    refine r_aload_n dX6_areTwo_8 rfl ?_
    refine r_iload_n dX6_areTwo_9 rfl ?_
    obtain ⟨q4, h5, hf⟩ := bnd hf
    refine r_callVi (st := []) (as := [.int l2]) dX6_areTwo_10 ms_X6_hasHouse ⟨rfl, w2_130, w2_131, w2_132⟩ (ok_X6_hasHouse h5) (c_X6_hasHouse h5) rfl ⟨by omega, by omega⟩ (Nat.le_of_ble_eq_true rfl) (by decide) (by decide) rfl ?_
    refine r_if_eq (tgt := 25) dX6_areTwo_13 (by decide) (fun c6 => ?_) (fun c6 => ?_)
    · replace hf := (if_pos c6).symm.trans hf
      refine r_lvs (lv' := [.null, .null, .null]) ⟨Or.inr rfl, Or.inr rfl, Or.inr rfl, trivial⟩ ?_
      exact t_X6_areTwo_25 _ _ hf
    · replace hf := (if_neg c6).symm.trans hf
      refine r_iload_n dX6_areTwo_16 rfl ?_
      refine r_iload_n dX6_areTwo_17 rfl ?_
      refine r_icmp_eq (tgt := 25) dX6_areTwo_18 (by decide) (fun c7 => ?_) (fun c7 => ?_)
      · replace hf := (if_pos c7).symm.trans hf
        refine r_lvs (lv' := [.null, .null, .null]) ⟨Or.inr rfl, Or.inr rfl, Or.inr rfl, trivial⟩ ?_
        exact t_X6_areTwo_25 _ _ hf
      · replace hf := (if_neg c7).symm.trans hf
        refine r_iconst (v := 1) dX6_areTwo_21 (by decide) ?_
        refine r_goto (tgt := 26) dX6_areTwo_22 (by decide) ?_
        refine r_lvs (lv' := [.null, .null, .null]) ⟨Or.inr rfl, Or.inr rfl, Or.inr rfl, trivial⟩ ?_
        exact t_X6_areTwo_26 _ _ _ hf
def f_X6_piecesOf (S : Mm) (l0 : Nat) (l1 : Int32) (l2 : Int32) : Option (Int32 × Mm) := if okc S l0 6 = true then (gR S 6 l0 3).bind fun x1 => (aI S x1 ((l1 * 3) + l2)).bind fun x3 => some (x3, S) else none
set_option maxRecDepth 20000 in
theorem ok_X6_piecesOf {S : Mm} {l0 : Nat} {l1 : Int32} {l2 : Int32} {T : (Int32 × Mm)} (hf : f_X6_piecesOf S l0 l1 l2 = some T) : okc S l0 6 = true := (oif hf).1
set_option maxRecDepth 20000 in
theorem c_X6_piecesOf {G : Gt} {l : Launch} {S : Mm} {l0 : Nat} {l1 : Int32} {l2 : Int32} {T : (Int32 × Mm)} (hf : f_X6_piecesOf S l0 l1 l2 = some T) : CC G l yX6_piecesOf cX6_piecesOf 3 (some .int) 0 0 0 [.ref l0, .int l1, .int l2] S (eI T) := by
  unfold f_X6_piecesOf at hf
  replace hf := (oif hf).2
  refine r_body (by decide) rfl (Nat.le_of_ble_eq_true rfl) (by simp) ?_
  refine r_aload_n dX6_piecesOf_0 rfl ?_
  obtain ⟨x1, h2, hf⟩ := bnd hf
  refine r_getR dX6_piecesOf_1 fs6_21_6 rfl h2 ?_
  refine r_iload_n dX6_piecesOf_4 rfl ?_
  refine r_iconst (v := 3) dX6_piecesOf_5 (by decide) ?_
  refine r_imul dX6_piecesOf_6 ?_
  refine r_iload_n dX6_piecesOf_7 rfl ?_
  refine r_iadd dX6_piecesOf_8 ?_
  obtain ⟨x3, h4, hf⟩ := bnd hf
  refine r_iaload dX6_piecesOf_9 h4 ?_
  have hz := congrArg eI (Option.some.inj hf)
  exact r_ireturn dX6_piecesOf_10 rfl (Nat.le_of_ble_eq_true rfl) (Nat.le_of_ble_eq_true rfl) hz
def f_X6_addPieces (S : Mm) (l0 : Nat) (l1 : Int32) (l2 : Int32) (l3 : Int32) : Option Mm := if okc S l0 6 = true then (gR S 6 l0 3).bind fun x1 => (aI S x1 ((l1 * 3) + l2)).bind fun x3 => (aS S x1 ((l1 * 3) + l2) (x3 + l3)).bind fun S5 => some S5 else none
set_option maxRecDepth 20000 in
theorem ok_X6_addPieces {S : Mm} {l0 : Nat} {l1 : Int32} {l2 : Int32} {l3 : Int32} {T : Mm} (hf : f_X6_addPieces S l0 l1 l2 l3 = some T) : okc S l0 6 = true := (oif hf).1
set_option maxRecDepth 20000 in
theorem c_X6_addPieces {G : Gt} {l : Launch} {S : Mm} {l0 : Nat} {l1 : Int32} {l2 : Int32} {l3 : Int32} {T : Mm} (hf : f_X6_addPieces S l0 l1 l2 l3 = some T) : CC G l yX6_addPieces cX6_addPieces 4 none 0 0 0 [.ref l0, .int l1, .int l2, .int l3] S (eV T) := by
  unfold f_X6_addPieces at hf
  replace hf := (oif hf).2
  refine r_body (by decide) rfl (Nat.le_of_ble_eq_true rfl) (by simp) ?_
  refine r_aload_n dX6_addPieces_0 rfl ?_
  obtain ⟨x1, h2, hf⟩ := bnd hf
  refine r_getR dX6_addPieces_1 fs6_21_6 rfl h2 ?_
  refine r_iload_n dX6_addPieces_4 rfl ?_
  refine r_iconst (v := 3) dX6_addPieces_5 (by decide) ?_
  refine r_imul dX6_addPieces_6 ?_
  refine r_iload_n dX6_addPieces_7 rfl ?_
  refine r_iadd dX6_addPieces_8 ?_
  refine r_dup2 dX6_addPieces_9 rfl rfl ?_
  obtain ⟨x3, h4, hf⟩ := bnd hf
  refine r_iaload dX6_addPieces_10 h4 ?_
  refine r_iload_n dX6_addPieces_11 rfl ?_
  refine r_iadd dX6_addPieces_12 ?_
  obtain ⟨S5, h6, hf⟩ := bnd hf
  refine r_iastore dX6_addPieces_13 h6 ?_
  have hz := congrArg eV (Option.some.inj hf)
  exact r_return dX6_addPieces_14 rfl (Nat.le_of_ble_eq_true rfl) (Nat.le_of_ble_eq_true rfl) hz
def f_X6_isLawful_71 (S : Mm) (s0 : Int32) : Option (Int32 × Mm) := (rB s0).bind fun x1 => some (x1, S)
def f_X6_isLawful_83 (S : Mm) (s0 : Int32) : Option (Int32 × Mm) := (rB s0).bind fun x1 => some (x1, S)
def f_X6_isLawful (S : Mm) (l0 : Nat) (l1 : Int32) (l2 : Int32) : Option (Int32 × Mm) := if okc S l0 6 = true then (if l1 = l2 then some (0, S) else (gR S 6 l0 0).bind fun x2 => (aR S x2 l2).bind fun x4 => (dy_buysAt S x4).bind fun q6 => (gR q6.2 6 l0 0).bind fun x8 => (aR q6.2 x8 l1).bind fun x10 => (dy_sellsAt q6.2 x10).bind fun q12 => (gI q12.2 6 l0 6).bind fun x14 => (if x14 = 0 then (if q12.1 ≤ q6.1 then f_X6_isLawful_71 q12.2 0 else f_X6_isLawful_71 q12.2 1) else (if x14 = 1 then (if q6.1 ≤ q12.1 then f_X6_isLawful_83 q12.2 0 else f_X6_isLawful_83 q12.2 1) else some (1, q12.2)))) else none
set_option maxRecDepth 20000 in
theorem t_X6_isLawful_71 {G : Gt} {l : Launch} (S : Mm) (s0 : Int32) (T : (Int32 × Mm)) (hf : f_X6_isLawful_71 S s0 = some T) : Sat G l yX6_isLawful cX6_isLawful 5 (some .boolean) 1 0 0 0 0 71 [.null, .null, .null, .null, .null] [.int s0] S (eI T) := by
  unfold f_X6_isLawful_71 at hf
  obtain ⟨x1, h2, hf⟩ := bnd hf
  have hz := congrArg eI (Option.some.inj hf)
  exact r_zreturn dX6_isLawful_71 rfl (Nat.le_of_ble_eq_true rfl) (Nat.le_of_ble_eq_true rfl) h2 hz
set_option maxRecDepth 20000 in
theorem t_X6_isLawful_83 {G : Gt} {l : Launch} (S : Mm) (s0 : Int32) (T : (Int32 × Mm)) (hf : f_X6_isLawful_83 S s0 = some T) : Sat G l yX6_isLawful cX6_isLawful 5 (some .boolean) 1 0 0 0 0 83 [.null, .null, .null, .null, .null] [.int s0] S (eI T) := by
  unfold f_X6_isLawful_83 at hf
  obtain ⟨x1, h2, hf⟩ := bnd hf
  have hz := congrArg eI (Option.some.inj hf)
  exact r_zreturn dX6_isLawful_83 rfl (Nat.le_of_ble_eq_true rfl) (Nat.le_of_ble_eq_true rfl) h2 hz
set_option maxRecDepth 20000 in
theorem ok_X6_isLawful {S : Mm} {l0 : Nat} {l1 : Int32} {l2 : Int32} {T : (Int32 × Mm)} (hf : f_X6_isLawful S l0 l1 l2 = some T) : okc S l0 6 = true := (oif hf).1
set_option maxRecDepth 20000 in
theorem c_X6_isLawful {G : Gt} {l : Launch} {S : Mm} {l0 : Nat} {l1 : Int32} {l2 : Int32} {T : (Int32 × Mm)} (hf : f_X6_isLawful S l0 l1 l2 = some T) : CC G l yX6_isLawful cX6_isLawful 5 (some .boolean) 1 0 0 [.ref l0, .int l1, .int l2] S (eI T) := by
  unfold f_X6_isLawful at hf
  replace hf := (oif hf).2
  refine r_body (by decide) rfl (Nat.le_of_ble_eq_true rfl) (by simp) ?_
  refine r_iload_n dX6_isLawful_0 rfl ?_
  refine r_iload_n dX6_isLawful_1 rfl ?_
  refine r_icmp_ne (tgt := 7) dX6_isLawful_2 (by decide) (fun c1 => ?_) (fun c1 => ?_)
  · replace hf := (if_neg c1).symm.trans hf
    refine r_aload_n dX6_isLawful_7 rfl ?_
    obtain ⟨x2, h3, hf⟩ := bnd hf
    refine r_getR dX6_isLawful_8 fs6_11_6 rfl h3 ?_
    refine r_iload_n dX6_isLawful_11 rfl ?_
    obtain ⟨x4, h5, hf⟩ := bnd hf
    refine r_aaload dX6_isLawful_12 h5 ?_
    obtain ⟨q6, h7, hf⟩ := bnd hf
    refine rv_6_64 (st := []) dX6_isLawful_13 rfl h7 ⟨by omega, by omega⟩ (Nat.le_of_ble_eq_true rfl) (by decide) (by decide) rfl ?_
    refine r_istore_n (lv' := [.ref l0, .int l1, .int l2, .int q6.1, .null]) dX6_isLawful_16 (by decide) rfl rfl ?_
    refine r_aload_n dX6_isLawful_17 rfl ?_
    obtain ⟨x8, h9, hf⟩ := bnd hf
    refine r_getR dX6_isLawful_18 fs6_11_6 rfl h9 ?_
    refine r_iload_n dX6_isLawful_21 rfl ?_
    obtain ⟨x10, h11, hf⟩ := bnd hf
    refine r_aaload dX6_isLawful_22 h11 ?_
    obtain ⟨q12, h13, hf⟩ := bnd hf
    refine rv_6_68 (st := []) dX6_isLawful_23 rfl h13 ⟨by omega, by omega⟩ (Nat.le_of_ble_eq_true rfl) (by decide) (by decide) rfl ?_
    refine r_istore (lv' := [.ref l0, .int l1, .int l2, .int q6.1, .int q12.1]) dX6_isLawful_26 (by decide) rfl rfl ?_
    refine r_aload_n dX6_isLawful_28 rfl ?_
    obtain ⟨x14, h15, hf⟩ := bnd hf
    refine r_getI dX6_isLawful_29 fs6_51_6 rfl h15 ?_
    by_cases c16 : x14 = 0
    · replace hf := (if_pos c16).symm.trans hf
      refine r_lsIn (k := 0) (off := 28) (tgt := 60) dX6_isLawful_32 (by decide) c16 (by decide) (by decide) ?_
      refine r_iload_n dX6_isLawful_60 rfl ?_
      refine r_iload dX6_isLawful_61 rfl ?_
      refine r_icmp_ge (tgt := 70) dX6_isLawful_63 (by decide) (fun c18 => ?_) (fun c18 => ?_)
      · replace hf := (if_pos c18).symm.trans hf
        refine r_iconst (v := 0) dX6_isLawful_70 (by decide) ?_
        refine r_lvs (lv' := [.null, .null, .null, .null, .null]) ⟨Or.inr rfl, Or.inr rfl, Or.inr rfl, Or.inr rfl, Or.inr rfl, trivial⟩ ?_
        exact t_X6_isLawful_71 _ _ _ hf
      · replace hf := (if_neg c18).symm.trans hf
        refine r_iconst (v := 1) dX6_isLawful_66 (by decide) ?_
        refine r_goto (tgt := 71) dX6_isLawful_67 (by decide) ?_
        refine r_lvs (lv' := [.null, .null, .null, .null, .null]) ⟨Or.inr rfl, Or.inr rfl, Or.inr rfl, Or.inr rfl, Or.inr rfl, trivial⟩ ?_
        exact t_X6_isLawful_71 _ _ _ hf
    replace hf := (if_neg c16).symm.trans hf
    by_cases c17 : x14 = 1
    · replace hf := (if_pos c17).symm.trans hf
      refine r_lsIn (k := 1) (off := 40) (tgt := 72) dX6_isLawful_32 (by decide) c17 (by decide) (by decide) ?_
      refine r_iload_n dX6_isLawful_72 rfl ?_
      refine r_iload dX6_isLawful_73 rfl ?_
      refine r_icmp_le (tgt := 82) dX6_isLawful_75 (by decide) (fun c19 => ?_) (fun c19 => ?_)
      · replace hf := (if_pos c19).symm.trans hf
        refine r_iconst (v := 0) dX6_isLawful_82 (by decide) ?_
        refine r_lvs (lv' := [.null, .null, .null, .null, .null]) ⟨Or.inr rfl, Or.inr rfl, Or.inr rfl, Or.inr rfl, Or.inr rfl, trivial⟩ ?_
        exact t_X6_isLawful_83 _ _ _ hf
      · replace hf := (if_neg c19).symm.trans hf
        refine r_iconst (v := 1) dX6_isLawful_78 (by decide) ?_
        refine r_goto (tgt := 83) dX6_isLawful_79 (by decide) ?_
        refine r_lvs (lv' := [.null, .null, .null, .null, .null]) ⟨Or.inr rfl, Or.inr rfl, Or.inr rfl, Or.inr rfl, Or.inr rfl, trivial⟩ ?_
        exact t_X6_isLawful_83 _ _ _ hf
    replace hf := (if_neg c17).symm.trans hf
    refine r_lsOut (ks := [0, 1]) (tgt := 84) dX6_isLawful_32 (by decide) (by decide) (by simp only [List.mem_cons, List.not_mem_nil, or_false, not_or]; exact ⟨c16, c17⟩) (by decide) ?_
    refine r_iconst (v := 1) dX6_isLawful_84 (by decide) ?_
    have hz := congrArg eI (Option.some.inj hf)
    exact r_zreturn (x' := 1) dX6_isLawful_85 rfl (Nat.le_of_ble_eq_true rfl) (Nat.le_of_ble_eq_true rfl) rfl hz
  · replace hf := (if_pos c1).symm.trans hf
    refine r_iconst (v := 0) dX6_isLawful_5 (by decide) ?_
    have hz := congrArg eI (Option.some.inj hf)
    exact r_zreturn (x' := 0) dX6_isLawful_6 rfl (Nat.le_of_ble_eq_true rfl) (Nat.le_of_ble_eq_true rfl) rfl hz
def f_X6_hasMeans_59 (S : Mm) (s0 : Int32) : Option (Int32 × Mm) := (rB s0).bind fun x1 => some (x1, S)
def f_X6_hasMeans_58 (S : Mm)  : Option (Int32 × Mm) := f_X6_hasMeans_59 S 0
def f_X6_hasMeans (S : Mm) (l0 : Nat) (l1 : Int32) (l2 : Int32) (l3 : Int32) : Option (Int32 × Mm) := if okc S l0 6 = true then (f_X6_piecesOf S l0 l1 l3).bind fun q1 => (if q1.1 ≤ 0 then f_X6_hasMeans_58 q1.2 else (gR q1.2 6 l0 2).bind fun x4 => (aI q1.2 x4 l2).bind fun x6 => (gR q1.2 6 l0 4).bind fun x8 => (aI q1.2 x8 l3).bind fun x10 => (if x6 < x10 then f_X6_hasMeans_58 q1.2 else (f_X6_piecesOf q1.2 l0 l2 l3).bind fun q13 => (if 99 ≤ q13.1 then f_X6_hasMeans_58 q13.2 else (gR q13.2 6 l0 2).bind fun x16 => (aI q13.2 x16 l1).bind fun x18 => (gR q13.2 6 l0 4).bind fun x20 => (aI q13.2 x20 l3).bind fun x22 => (if 9999 < (x18 + x22) then f_X6_hasMeans_58 q13.2 else f_X6_hasMeans_59 q13.2 1)))) else none
set_option maxRecDepth 20000 in
theorem t_X6_hasMeans_59 {G : Gt} {l : Launch} (S : Mm) (s0 : Int32) (T : (Int32 × Mm)) (hf : f_X6_hasMeans_59 S s0 = some T) : Sat G l yX6_hasMeans cX6_hasMeans 4 (some .boolean) 1 0 0 0 0 59 [.null, .null, .null, .null] [.int s0] S (eI T) := by
  unfold f_X6_hasMeans_59 at hf
  obtain ⟨x1, h2, hf⟩ := bnd hf
  have hz := congrArg eI (Option.some.inj hf)
  exact r_zreturn dX6_hasMeans_59 rfl (Nat.le_of_ble_eq_true rfl) (Nat.le_of_ble_eq_true rfl) h2 hz
set_option maxRecDepth 20000 in
theorem t_X6_hasMeans_58 {G : Gt} {l : Launch} (S : Mm)  (T : (Int32 × Mm)) (hf : f_X6_hasMeans_58 S  = some T) : Sat G l yX6_hasMeans cX6_hasMeans 4 (some .boolean) 1 0 0 0 0 58 [.null, .null, .null, .null] [] S (eI T) := by
  unfold f_X6_hasMeans_58 at hf
  refine r_iconst (v := 0) dX6_hasMeans_58 (by decide) ?_
  exact t_X6_hasMeans_59 _ _ _ hf
set_option maxRecDepth 20000 in
theorem ok_X6_hasMeans {S : Mm} {l0 : Nat} {l1 : Int32} {l2 : Int32} {l3 : Int32} {T : (Int32 × Mm)} (hf : f_X6_hasMeans S l0 l1 l2 l3 = some T) : okc S l0 6 = true := (oif hf).1
set_option maxRecDepth 20000 in
theorem c_X6_hasMeans {G : Gt} {l : Launch} {S : Mm} {l0 : Nat} {l1 : Int32} {l2 : Int32} {l3 : Int32} {T : (Int32 × Mm)} (hf : f_X6_hasMeans S l0 l1 l2 l3 = some T) : CC G l yX6_hasMeans cX6_hasMeans 4 (some .boolean) 1 0 0 [.ref l0, .int l1, .int l2, .int l3] S (eI T) := by
  unfold f_X6_hasMeans at hf
  replace hf := (oif hf).2
  refine r_body (by decide) rfl (Nat.le_of_ble_eq_true rfl) (by simp) ?_
  refine r_aload_n dX6_hasMeans_0 rfl ?_
  refine r_iload_n dX6_hasMeans_1 rfl ?_
  refine r_iload_n dX6_hasMeans_2 rfl ?_
  obtain ⟨q1, h2, hf⟩ := bnd hf
  refine r_callVi (st := []) (as := [.int l1, .int l3]) dX6_hasMeans_3 ms_X6_piecesOf ⟨rfl, w3_12, w2_199, w2_200⟩ (ok_X6_piecesOf h2) (c_X6_piecesOf h2) rfl ⟨by omega, by omega⟩ (Nat.le_of_ble_eq_true rfl) (by decide) (by decide) rfl ?_
  refine r_if_le (tgt := 58) dX6_hasMeans_6 (by decide) (fun c3 => ?_) (fun c3 => ?_)
  · replace hf := (if_pos c3).symm.trans hf
    refine r_lvs (lv' := [.null, .null, .null, .null]) ⟨Or.inr rfl, Or.inr rfl, Or.inr rfl, Or.inr rfl, trivial⟩ ?_
    exact t_X6_hasMeans_58 _ _ hf
  · replace hf := (if_neg c3).symm.trans hf
    refine r_aload_n dX6_hasMeans_9 rfl ?_
    obtain ⟨x4, h5, hf⟩ := bnd hf
    refine r_getR dX6_hasMeans_10 fs6_17_6 rfl h5 ?_
    refine r_iload_n dX6_hasMeans_13 rfl ?_
    obtain ⟨x6, h7, hf⟩ := bnd hf
    refine r_iaload dX6_hasMeans_14 h7 ?_
    refine r_aload_n dX6_hasMeans_15 rfl ?_
    obtain ⟨x8, h9, hf⟩ := bnd hf
    refine r_getR dX6_hasMeans_16 fs6_24_6 rfl h9 ?_
    refine r_iload_n dX6_hasMeans_19 rfl ?_
    obtain ⟨x10, h11, hf⟩ := bnd hf
    refine r_iaload dX6_hasMeans_20 h11 ?_
    refine r_icmp_lt (tgt := 58) dX6_hasMeans_21 (by decide) (fun c12 => ?_) (fun c12 => ?_)
    · replace hf := (if_pos c12).symm.trans hf
      refine r_lvs (lv' := [.null, .null, .null, .null]) ⟨Or.inr rfl, Or.inr rfl, Or.inr rfl, Or.inr rfl, trivial⟩ ?_
      exact t_X6_hasMeans_58 _ _ hf
    · replace hf := (if_neg c12).symm.trans hf
      refine r_aload_n dX6_hasMeans_24 rfl ?_
      refine r_iload_n dX6_hasMeans_25 rfl ?_
      refine r_iload_n dX6_hasMeans_26 rfl ?_
      obtain ⟨q13, h14, hf⟩ := bnd hf
      refine r_callVi (st := []) (as := [.int l2, .int l3]) dX6_hasMeans_27 ms_X6_piecesOf ⟨rfl, w3_12, w2_199, w2_200⟩ (ok_X6_piecesOf h14) (c_X6_piecesOf h14) rfl ⟨by omega, by omega⟩ (Nat.le_of_ble_eq_true rfl) (by decide) (by decide) rfl ?_
      refine r_bipush (v := 99) dX6_hasMeans_30 (by decide) ?_
      refine r_icmp_ge (tgt := 58) dX6_hasMeans_32 (by decide) (fun c15 => ?_) (fun c15 => ?_)
      · replace hf := (if_pos c15).symm.trans hf
        refine r_lvs (lv' := [.null, .null, .null, .null]) ⟨Or.inr rfl, Or.inr rfl, Or.inr rfl, Or.inr rfl, trivial⟩ ?_
        exact t_X6_hasMeans_58 _ _ hf
      · replace hf := (if_neg c15).symm.trans hf
        refine r_aload_n dX6_hasMeans_35 rfl ?_
        obtain ⟨x16, h17, hf⟩ := bnd hf
        refine r_getR dX6_hasMeans_36 fs6_17_6 rfl h17 ?_
        refine r_iload_n dX6_hasMeans_39 rfl ?_
        obtain ⟨x18, h19, hf⟩ := bnd hf
        refine r_iaload dX6_hasMeans_40 h19 ?_
        refine r_aload_n dX6_hasMeans_41 rfl ?_
        obtain ⟨x20, h21, hf⟩ := bnd hf
        refine r_getR dX6_hasMeans_42 fs6_24_6 rfl h21 ?_
        refine r_iload_n dX6_hasMeans_45 rfl ?_
        obtain ⟨x22, h23, hf⟩ := bnd hf
        refine r_iaload dX6_hasMeans_46 h23 ?_
        refine r_iadd dX6_hasMeans_47 ?_
        refine r_sipush (v := 9999) dX6_hasMeans_48 (by decide) ?_
        refine r_icmp_gt (tgt := 58) dX6_hasMeans_51 (by decide) (fun c24 => ?_) (fun c24 => ?_)
        · replace hf := (if_pos c24).symm.trans hf
          refine r_lvs (lv' := [.null, .null, .null, .null]) ⟨Or.inr rfl, Or.inr rfl, Or.inr rfl, Or.inr rfl, trivial⟩ ?_
          exact t_X6_hasMeans_58 _ _ hf
        · replace hf := (if_neg c24).symm.trans hf
          refine r_iconst (v := 1) dX6_hasMeans_54 (by decide) ?_
          refine r_goto (tgt := 59) dX6_hasMeans_55 (by decide) ?_
          refine r_lvs (lv' := [.null, .null, .null, .null]) ⟨Or.inr rfl, Or.inr rfl, Or.inr rfl, Or.inr rfl, trivial⟩ ?_
          exact t_X6_hasMeans_59 _ _ _ hf
def f_X6_moveOnePiece (S : Mm) (l0 : Nat) (l1 : Int32) (l2 : Int32) (l3 : Int32) : Option Mm := if okc S l0 6 = true then (f_X6_addPieces S l0 l1 l3 (-1)).bind fun q1 => (f_X6_addPieces q1 l0 l2 l3 1).bind fun q3 => (gR q3 6 l0 2).bind fun x5 => (aI q3 x5 l2).bind fun x7 => (gR q3 6 l0 4).bind fun x9 => (aI q3 x9 l3).bind fun x11 => (aS q3 x5 l2 (x7 - x11)).bind fun S13 => (gR S13 6 l0 2).bind fun x15 => (aI S13 x15 l1).bind fun x17 => (gR S13 6 l0 4).bind fun x19 => (aI S13 x19 l3).bind fun x21 => (aS S13 x15 l1 (x17 + x21)).bind fun S23 => some S23 else none
set_option maxRecDepth 20000 in
theorem ok_X6_moveOnePiece {S : Mm} {l0 : Nat} {l1 : Int32} {l2 : Int32} {l3 : Int32} {T : Mm} (hf : f_X6_moveOnePiece S l0 l1 l2 l3 = some T) : okc S l0 6 = true := (oif hf).1
set_option maxRecDepth 20000 in
theorem c_X6_moveOnePiece {G : Gt} {l : Launch} {S : Mm} {l0 : Nat} {l1 : Int32} {l2 : Int32} {l3 : Int32} {T : Mm} (hf : f_X6_moveOnePiece S l0 l1 l2 l3 = some T) : CC G l yX6_moveOnePiece cX6_moveOnePiece 4 none 1 0 0 [.ref l0, .int l1, .int l2, .int l3] S (eV T) := by
  unfold f_X6_moveOnePiece at hf
  replace hf := (oif hf).2
  refine r_body (by decide) rfl (Nat.le_of_ble_eq_true rfl) (by simp) ?_
  refine r_aload_n dX6_moveOnePiece_0 rfl ?_
  refine r_iload_n dX6_moveOnePiece_1 rfl ?_
  refine r_iload_n dX6_moveOnePiece_2 rfl ?_
  refine r_iconst (v := (-1)) dX6_moveOnePiece_3 (by decide) ?_
  obtain ⟨q1, h2, hf⟩ := bnd hf
  refine r_callVv (st := []) (as := [.int l1, .int l3, .int (-1)]) dX6_moveOnePiece_4 ms_X6_addPieces ⟨rfl, w3_17, w3_19, w0_11⟩ (ok_X6_addPieces h2) (c_X6_addPieces h2) rfl ⟨by omega, by omega⟩ (Nat.le_of_ble_eq_true rfl) (by decide) (by decide) rfl ?_
  refine r_aload_n dX6_moveOnePiece_7 rfl ?_
  refine r_iload_n dX6_moveOnePiece_8 rfl ?_
  refine r_iload_n dX6_moveOnePiece_9 rfl ?_
  refine r_iconst (v := 1) dX6_moveOnePiece_10 (by decide) ?_
  obtain ⟨q3, h4, hf⟩ := bnd hf
  refine r_callVv (st := []) (as := [.int l2, .int l3, .int 1]) dX6_moveOnePiece_11 ms_X6_addPieces ⟨rfl, w3_17, w3_19, w0_11⟩ (ok_X6_addPieces h4) (c_X6_addPieces h4) rfl ⟨by omega, by omega⟩ (Nat.le_of_ble_eq_true rfl) (by decide) (by decide) rfl ?_
  refine r_aload_n dX6_moveOnePiece_14 rfl ?_
  obtain ⟨x5, h6, hf⟩ := bnd hf
  refine r_getR dX6_moveOnePiece_15 fs6_17_6 rfl h6 ?_
  refine r_iload_n dX6_moveOnePiece_18 rfl ?_
  refine r_dup2 dX6_moveOnePiece_19 rfl rfl ?_
  obtain ⟨x7, h8, hf⟩ := bnd hf
  refine r_iaload dX6_moveOnePiece_20 h8 ?_
  refine r_aload_n dX6_moveOnePiece_21 rfl ?_
  obtain ⟨x9, h10, hf⟩ := bnd hf
  refine r_getR dX6_moveOnePiece_22 fs6_24_6 rfl h10 ?_
  refine r_iload_n dX6_moveOnePiece_25 rfl ?_
  obtain ⟨x11, h12, hf⟩ := bnd hf
  refine r_iaload dX6_moveOnePiece_26 h12 ?_
  refine r_isub dX6_moveOnePiece_27 ?_
  obtain ⟨S13, h14, hf⟩ := bnd hf
  refine r_iastore dX6_moveOnePiece_28 h14 ?_
  refine r_aload_n dX6_moveOnePiece_29 rfl ?_
  obtain ⟨x15, h16, hf⟩ := bnd hf
  refine r_getR dX6_moveOnePiece_30 fs6_17_6 rfl h16 ?_
  refine r_iload_n dX6_moveOnePiece_33 rfl ?_
  refine r_dup2 dX6_moveOnePiece_34 rfl rfl ?_
  obtain ⟨x17, h18, hf⟩ := bnd hf
  refine r_iaload dX6_moveOnePiece_35 h18 ?_
  refine r_aload_n dX6_moveOnePiece_36 rfl ?_
  obtain ⟨x19, h20, hf⟩ := bnd hf
  refine r_getR dX6_moveOnePiece_37 fs6_24_6 rfl h20 ?_
  refine r_iload_n dX6_moveOnePiece_40 rfl ?_
  obtain ⟨x21, h22, hf⟩ := bnd hf
  refine r_iaload dX6_moveOnePiece_41 h22 ?_
  refine r_iadd dX6_moveOnePiece_42 ?_
  obtain ⟨S23, h24, hf⟩ := bnd hf
  refine r_iastore dX6_moveOnePiece_43 h24 ?_
  have hz := congrArg eV (Option.some.inj hf)
  exact r_return dX6_moveOnePiece_44 rfl (Nat.le_of_ble_eq_true rfl) (Nat.le_of_ble_eq_true rfl) hz
def f_X11_isGood_14 (S : Mm) (s0 : Int32) : Option (Int32 × Mm) := (rB s0).bind fun x1 => some (x1, S)
def f_X11_isGood_13 (S : Mm)  : Option (Int32 × Mm) := f_X11_isGood_14 S 0
def f_X11_isGood (S : Mm) (l0 : Int32) : Option (Int32 × Mm) := (if l0 < 0 then f_X11_isGood_13 S else (if 3 ≤ l0 then f_X11_isGood_13 S else f_X11_isGood_14 S 1))
set_option maxRecDepth 20000 in
theorem t_X11_isGood_14 {G : Gt} {l : Launch} (S : Mm) (s0 : Int32) (T : (Int32 × Mm)) (hf : f_X11_isGood_14 S s0 = some T) : Sat G l yX11_isGood cX11_isGood 1 (some .boolean) 0 0 0 0 0 14 [.null] [.int s0] S (eI T) := by
  unfold f_X11_isGood_14 at hf
  obtain ⟨x1, h2, hf⟩ := bnd hf
  have hz := congrArg eI (Option.some.inj hf)
  exact r_zreturn dX11_isGood_14 rfl (Nat.le_of_ble_eq_true rfl) (Nat.le_of_ble_eq_true rfl) h2 hz
set_option maxRecDepth 20000 in
theorem t_X11_isGood_13 {G : Gt} {l : Launch} (S : Mm)  (T : (Int32 × Mm)) (hf : f_X11_isGood_13 S  = some T) : Sat G l yX11_isGood cX11_isGood 1 (some .boolean) 0 0 0 0 0 13 [.null] [] S (eI T) := by
  unfold f_X11_isGood_13 at hf
  refine r_iconst (v := 0) dX11_isGood_13 (by decide) ?_
  exact t_X11_isGood_14 _ _ _ hf
set_option maxRecDepth 20000 in
theorem c_X11_isGood {G : Gt} {l : Launch} {S : Mm} {l0 : Int32} {T : (Int32 × Mm)} (hf : f_X11_isGood S l0 = some T) : CC G l yX11_isGood cX11_isGood 1 (some .boolean) 0 0 0 [.int l0] S (eI T) := by
  unfold f_X11_isGood at hf
  refine r_body (by decide) rfl (Nat.le_of_ble_eq_true rfl) (by simp) ?_
  refine r_iload_n dX11_isGood_0 rfl ?_
  refine r_if_lt (tgt := 13) dX11_isGood_1 (by decide) (fun c1 => ?_) (fun c1 => ?_)
  · replace hf := (if_pos c1).symm.trans hf
    refine r_lvs (lv' := [.null]) ⟨Or.inr rfl, trivial⟩ ?_
    exact t_X11_isGood_13 _ _ hf
  · replace hf := (if_neg c1).symm.trans hf
    refine r_iload_n dX11_isGood_4 rfl ?_
    refine r_iconst (v := 3) dX11_isGood_5 (by decide) ?_
    refine r_icmp_ge (tgt := 13) dX11_isGood_6 (by decide) (fun c2 => ?_) (fun c2 => ?_)
    · replace hf := (if_pos c2).symm.trans hf
      refine r_lvs (lv' := [.null]) ⟨Or.inr rfl, trivial⟩ ?_
      exact t_X11_isGood_13 _ _ hf
    · replace hf := (if_neg c2).symm.trans hf
      refine r_iconst (v := 1) dX11_isGood_9 (by decide) ?_
      refine r_goto (tgt := 14) dX11_isGood_10 (by decide) ?_
      refine r_lvs (lv' := [.null]) ⟨Or.inr rfl, trivial⟩ ?_
      exact t_X11_isGood_14 _ _ _ hf
def f_X6_trySale_35 (S : Mm)  : Option (Int32 × Mm) := some (0, S)
def f_X6_trySale (S : Mm) (l0 : Nat) (l1 : Int32) (l2 : Int32) (l3 : Int32) : Option (Int32 × Mm) := if okc S l0 6 = true then (f_X6_areTwo S l0 l1 l2).bind fun q1 => (if q1.1 = 0 then f_X6_trySale_35 q1.2 else (f_X11_isGood q1.2 l3).bind fun q4 => (if q4.1 = 0 then f_X6_trySale_35 q4.2 else (f_X6_isLawful q4.2 l0 l1 l2).bind fun q7 => (if q7.1 = 0 then f_X6_trySale_35 q7.2 else (f_X6_hasMeans q7.2 l0 l1 l2 l3).bind fun q10 => (if q10.1 = 0 then f_X6_trySale_35 q10.2 else (f_X6_moveOnePiece q10.2 l0 l1 l2 l3).bind fun q13 => some (1, q13))))) else none
set_option maxRecDepth 20000 in
theorem t_X6_trySale_35 {G : Gt} {l : Launch} (S : Mm)  (T : (Int32 × Mm)) (hf : f_X6_trySale_35 S  = some T) : Sat G l yX6_trySale cX6_trySale 4 (some .boolean) 2 0 0 0 0 35 [.null, .null, .null, .null] [] S (eI T) := by
  unfold f_X6_trySale_35 at hf
  refine r_iconst (v := 0) dX6_trySale_35 (by decide) ?_
  have hz := congrArg eI (Option.some.inj hf)
  exact r_zreturn (x' := 0) dX6_trySale_36 rfl (Nat.le_of_ble_eq_true rfl) (Nat.le_of_ble_eq_true rfl) rfl hz
set_option maxRecDepth 20000 in
theorem ok_X6_trySale {S : Mm} {l0 : Nat} {l1 : Int32} {l2 : Int32} {l3 : Int32} {T : (Int32 × Mm)} (hf : f_X6_trySale S l0 l1 l2 l3 = some T) : okc S l0 6 = true := (oif hf).1
set_option maxRecDepth 20000 in
theorem c_X6_trySale {G : Gt} {l : Launch} {S : Mm} {l0 : Nat} {l1 : Int32} {l2 : Int32} {l3 : Int32} {T : (Int32 × Mm)} (hf : f_X6_trySale S l0 l1 l2 l3 = some T) : CC G l yX6_trySale cX6_trySale 4 (some .boolean) 2 0 0 [.ref l0, .int l1, .int l2, .int l3] S (eI T) := by
  unfold f_X6_trySale at hf
  replace hf := (oif hf).2
  refine r_body (by decide) rfl (Nat.le_of_ble_eq_true rfl) (by simp) ?_
  refine r_aload_n dX6_trySale_0 rfl ?_
  refine r_iload_n dX6_trySale_1 rfl ?_
  refine r_iload_n dX6_trySale_2 rfl ?_
  obtain ⟨q1, h2, hf⟩ := bnd hf
  refine r_callVi (st := []) (as := [.int l1, .int l2]) dX6_trySale_3 ms_X6_areTwo ⟨rfl, w3_5, w2_127, w2_128⟩ (ok_X6_areTwo h2) (c_X6_areTwo h2) rfl ⟨by omega, by omega⟩ (Nat.le_of_ble_eq_true rfl) (by decide) (by decide) rfl ?_
  refine r_if_eq (tgt := 35) dX6_trySale_6 (by decide) (fun c3 => ?_) (fun c3 => ?_)
  · replace hf := (if_pos c3).symm.trans hf
    refine r_lvs (lv' := [.null, .null, .null, .null]) ⟨Or.inr rfl, Or.inr rfl, Or.inr rfl, Or.inr rfl, trivial⟩ ?_
    exact t_X6_trySale_35 _ _ hf
  · replace hf := (if_neg c3).symm.trans hf
    refine r_iload_n dX6_trySale_9 rfl ?_
    obtain ⟨q4, h5, hf⟩ := bnd hf
    refine r_callSNi (st := []) (as := [.int l3]) dX6_trySale_10 ms_X11_isGood ⟨by decide, w2_38⟩ (c_X11_isGood h5) rfl ⟨by omega, by omega⟩ (Nat.le_of_ble_eq_true rfl) (by decide) (by decide) rfl ?_
    refine r_if_eq (tgt := 35) dX6_trySale_13 (by decide) (fun c6 => ?_) (fun c6 => ?_)
    · replace hf := (if_pos c6).symm.trans hf
      refine r_lvs (lv' := [.null, .null, .null, .null]) ⟨Or.inr rfl, Or.inr rfl, Or.inr rfl, Or.inr rfl, trivial⟩ ?_
      exact t_X6_trySale_35 _ _ hf
    · replace hf := (if_neg c6).symm.trans hf
      refine r_aload_n dX6_trySale_16 rfl ?_
      refine r_iload_n dX6_trySale_17 rfl ?_
      refine r_iload_n dX6_trySale_18 rfl ?_
      obtain ⟨q7, h8, hf⟩ := bnd hf
      refine r_callVi (st := []) (as := [.int l1, .int l2]) dX6_trySale_19 ms_X6_isLawful ⟨rfl, w3_7, w2_217, w2_218⟩ (ok_X6_isLawful h8) (c_X6_isLawful h8) rfl ⟨by omega, by omega⟩ (Nat.le_of_ble_eq_true rfl) (by decide) (by decide) rfl ?_
      refine r_if_eq (tgt := 35) dX6_trySale_22 (by decide) (fun c9 => ?_) (fun c9 => ?_)
      · replace hf := (if_pos c9).symm.trans hf
        refine r_lvs (lv' := [.null, .null, .null, .null]) ⟨Or.inr rfl, Or.inr rfl, Or.inr rfl, Or.inr rfl, trivial⟩ ?_
        exact t_X6_trySale_35 _ _ hf
      · replace hf := (if_neg c9).symm.trans hf
        refine r_aload_n dX6_trySale_25 rfl ?_
        refine r_iload_n dX6_trySale_26 rfl ?_
        refine r_iload_n dX6_trySale_27 rfl ?_
        refine r_iload_n dX6_trySale_28 rfl ?_
        obtain ⟨q10, h11, hf⟩ := bnd hf
        refine r_callVi (st := []) (as := [.int l1, .int l2, .int l3]) dX6_trySale_29 ms_X6_hasMeans ⟨rfl, w3_8, w3_10, w0_9⟩ (ok_X6_hasMeans h11) (c_X6_hasMeans h11) rfl ⟨by omega, by omega⟩ (Nat.le_of_ble_eq_true rfl) (by decide) (by decide) rfl ?_
        refine r_if_ne (tgt := 37) dX6_trySale_32 (by decide) (fun c12 => ?_) (fun c12 => ?_)
        · replace hf := (if_neg c12).symm.trans hf
          refine r_aload_n dX6_trySale_37 rfl ?_
          refine r_iload_n dX6_trySale_38 rfl ?_
          refine r_iload_n dX6_trySale_39 rfl ?_
          refine r_iload_n dX6_trySale_40 rfl ?_
          obtain ⟨q13, h14, hf⟩ := bnd hf
          refine r_callVv (st := []) (as := [.int l1, .int l2, .int l3]) dX6_trySale_41 ms_X6_moveOnePiece ⟨rfl, w3_13, w3_15, w0_10⟩ (ok_X6_moveOnePiece h14) (c_X6_moveOnePiece h14) rfl ⟨by omega, by omega⟩ (Nat.le_of_ble_eq_true rfl) (by decide) (by decide) rfl ?_
          refine r_iconst (v := 1) dX6_trySale_44 (by decide) ?_
          have hz := congrArg eI (Option.some.inj hf)
          exact r_zreturn (x' := 1) dX6_trySale_45 rfl (Nat.le_of_ble_eq_true rfl) (Nat.le_of_ble_eq_true rfl) rfl hz
        · replace hf := (if_pos c12).symm.trans hf
          refine r_lvs (lv' := [.null, .null, .null, .null]) ⟨Or.inr rfl, Or.inr rfl, Or.inr rfl, Or.inr rfl, trivial⟩ ?_
          exact t_X6_trySale_35 _ _ hf
def f_X9_beginWeek (S : Mm) (l0 : Nat) : Option Mm := if okc S l0 9 = true then (pI S 9 l0 1 0).bind fun S1 => (pI S1 9 l0 2 0).bind fun S3 => some S3 else none
set_option maxRecDepth 20000 in
theorem ok_X9_beginWeek {S : Mm} {l0 : Nat} {T : Mm} (hf : f_X9_beginWeek S l0 = some T) : okc S l0 9 = true := (oif hf).1
set_option maxRecDepth 20000 in
theorem c_X9_beginWeek {G : Gt} {l : Launch} {S : Mm} {l0 : Nat} {T : Mm} (hf : f_X9_beginWeek S l0 = some T) : CC G l yX9_beginWeek cX9_beginWeek 1 none 0 0 0 [.ref l0] S (eV T) := by
  unfold f_X9_beginWeek at hf
  replace hf := (oif hf).2
  refine r_body (by decide) rfl (Nat.le_of_ble_eq_true rfl) (by simp) ?_
  refine r_aload_n dX9_beginWeek_0 rfl ?_
  refine r_iconst (v := 0) dX9_beginWeek_1 (by decide) ?_
  obtain ⟨S1, h2, hf⟩ := bnd hf
  refine r_putI dX9_beginWeek_2 fs9_22_9 rfl h2 ?_
  refine r_aload_n dX9_beginWeek_5 rfl ?_
  refine r_iconst (v := 0) dX9_beginWeek_6 (by decide) ?_
  obtain ⟨S3, h4, hf⟩ := bnd hf
  refine r_putI dX9_beginWeek_7 fs9_25_9 rfl h4 ?_
  have hz := congrArg eV (Option.some.inj hf)
  exact r_return dX9_beginWeek_10 rfl (Nat.le_of_ble_eq_true rfl) (Nat.le_of_ble_eq_true rfl) hz
def f_X6_makeGoods (S : Mm) (l0 : Nat) (l1 : Int32) : Option Mm := if okc S l0 6 = true then (gR S 6 l0 0).bind fun x1 => (aR S x1 l1).bind fun x3 => (gF S x3 2).bind fun x5 => (f_X6_piecesOf S l0 l1 x5).bind fun q7 => (gF q7.2 x3 2).bind fun x9 => (gF q7.2 x3 3).bind fun x11 => (f_X6_addPieces q7.2 l0 l1 x9 (mnI x11 (99 - q7.1))).bind fun q13 => some q13 else none
set_option maxRecDepth 20000 in
theorem ok_X6_makeGoods {S : Mm} {l0 : Nat} {l1 : Int32} {T : Mm} (hf : f_X6_makeGoods S l0 l1 = some T) : okc S l0 6 = true := (oif hf).1
set_option maxRecDepth 20000 in
theorem c_X6_makeGoods {G : Gt} {l : Launch} {S : Mm} {l0 : Nat} {l1 : Int32} {T : Mm} (hf : f_X6_makeGoods S l0 l1 = some T) : CC G l yX6_makeGoods cX6_makeGoods 4 none 1 0 0 [.ref l0, .int l1] S (eV T) := by
  unfold f_X6_makeGoods at hf
  replace hf := (oif hf).2
  refine r_body (by decide) rfl (Nat.le_of_ble_eq_true rfl) (by simp) ?_
  refine r_aload_n dX6_makeGoods_0 rfl ?_
  obtain ⟨x1, h2, hf⟩ := bnd hf
  refine r_getR dX6_makeGoods_1 fs6_11_6 rfl h2 ?_
  refine r_iload_n dX6_makeGoods_4 rfl ?_
  obtain ⟨x3, h4, hf⟩ := bnd hf
  refine r_aaload dX6_makeGoods_5 h4 ?_
  refine r_astore_n (lv' := [.ref l0, .int l1, .ref x3, .null]) dX6_makeGoods_6 (by decide) rfl rfl ?_
  refine r_bipush (v := 99) dX6_makeGoods_7 (by decide) ?_
  refine r_aload_n dX6_makeGoods_9 rfl ?_
  refine r_iload_n dX6_makeGoods_10 rfl ?_
  refine r_aload_n dX6_makeGoods_11 rfl ?_
  obtain ⟨x5, h6, hf⟩ := bnd hf
  refine r_getF dX6_makeGoods_12 ff6_121 (by decide) h6 ?_
  obtain ⟨q7, h8, hf⟩ := bnd hf
  refine r_callVi (st := [.int 99]) (as := [.int l1, .int x5]) dX6_makeGoods_15 ms_X6_piecesOf ⟨rfl, w3_12, w2_199, w2_200⟩ (ok_X6_piecesOf h8) (c_X6_piecesOf h8) rfl ⟨by omega, by omega⟩ (Nat.le_of_ble_eq_true rfl) (by decide) (by decide) rfl ?_
  refine r_isub dX6_makeGoods_18 ?_
  refine r_istore_n (lv' := [.ref l0, .int l1, .ref x3, .int (99 - q7.1)]) dX6_makeGoods_19 (by decide) rfl rfl ?_
  refine r_aload_n dX6_makeGoods_20 rfl ?_
  refine r_iload_n dX6_makeGoods_21 rfl ?_
  refine r_aload_n dX6_makeGoods_22 rfl ?_
  obtain ⟨x9, h10, hf⟩ := bnd hf
  refine r_getF dX6_makeGoods_23 ff6_121 (by decide) h10 ?_
  refine r_aload_n dX6_makeGoods_26 rfl ?_
  obtain ⟨x11, h12, hf⟩ := bnd hf
  refine r_getF dX6_makeGoods_27 ff6_124 (by decide) h12 ?_
  refine r_iload_n dX6_makeGoods_30 rfl ?_
  refine r_min dX6_makeGoods_31 wkmin_6127 (by decide) (Nat.le_of_ble_eq_true rfl) (by decide) (by decide) ?_
  obtain ⟨q13, h14, hf⟩ := bnd hf
  refine r_callVv (st := []) (as := [.int l1, .int x9, .int (mnI x11 (99 - q7.1))]) dX6_makeGoods_34 ms_X6_addPieces ⟨rfl, w3_17, w3_19, w0_11⟩ (ok_X6_addPieces h14) (c_X6_addPieces h14) rfl ⟨by omega, by omega⟩ (Nat.le_of_ble_eq_true rfl) (by decide) (by decide) rfl ?_
  have hz := congrArg eV (Option.some.inj hf)
  exact r_return dX6_makeGoods_37 rfl (Nat.le_of_ble_eq_true rfl) (Nat.le_of_ble_eq_true rfl) hz
def f_X6_fullestSellerTo_72 (k5 : Mm → Nat → Int32 → Int32 → Int32 → Int32 → Option (Int32 × Mm)) (S : Mm) (l0 : Nat) (l1 : Int32) (l2 : Int32) (l3 : Int32) (l4 : Int32) : Option (Int32 × Mm) := k5 S l0 l1 l2 l3 (l4 + 1)
def f_X6_fullestSellerTo_69 (k5 : Mm → Nat → Int32 → Int32 → Int32 → Int32 → Option (Int32 × Mm)) (S : Mm) (l0 : Nat) (l1 : Int32) (l2 : Int32) (l4 : Int32) : Option (Int32 × Mm) := f_X6_fullestSellerTo_72 k5 S l0 l1 l2 l4 l4
def f_X6_fullestSellerTo_5 : Nat → Mm → Nat → Int32 → Int32 → Int32 → Int32 → Option (Int32 × Mm)
  | 0, _, _, _, _, _, _ => none
  | n + 1, S, l0, l1, l2, l3, l4 => (gI S 6 l0 1).bind fun x1 => (if x1 ≤ l4 then some (l3, S) else (gR S 6 l0 0).bind fun x4 => (aR S x4 l4).bind fun x6 => (dy_wantsSome S x6 l2).bind fun q8 => (if q8.1 = 0 then (f_X6_isLawful q8.2 l0 l4 l1).bind fun q11 => (if q11.1 = 0 then f_X6_fullestSellerTo_72 (f_X6_fullestSellerTo_5 n) q11.2 l0 l1 l2 l3 l4 else (f_X6_hasMeans q11.2 l0 l4 l1 l2).bind fun q14 => (if q14.1 = 0 then f_X6_fullestSellerTo_72 (f_X6_fullestSellerTo_5 n) q14.2 l0 l1 l2 l3 l4 else (if l3 < 0 then f_X6_fullestSellerTo_69 (f_X6_fullestSellerTo_5 n) q14.2 l0 l1 l2 l4 else (f_X6_piecesOf q14.2 l0 l4 l2).bind fun q18 => (f_X6_piecesOf q18.2 l0 l3 l2).bind fun q20 => (if q18.1 ≤ q20.1 then f_X6_fullestSellerTo_72 (f_X6_fullestSellerTo_5 n) q20.2 l0 l1 l2 l3 l4 else f_X6_fullestSellerTo_69 (f_X6_fullestSellerTo_5 n) q20.2 l0 l1 l2 l4)))) else f_X6_fullestSellerTo_72 (f_X6_fullestSellerTo_5 n) q8.2 l0 l1 l2 l3 l4))
def f_X6_fullestSellerTo (S : Mm) (l0 : Nat) (l1 : Int32) (l2 : Int32) : Option (Int32 × Mm) := if okc S l0 6 = true then f_X6_fullestSellerTo_5 FU S l0 l1 l2 (-1) 0 else none
set_option maxRecDepth 20000 in
theorem t_X6_fullestSellerTo_72 {G : Gt} {l : Launch} (k5 : Mm → Nat → Int32 → Int32 → Int32 → Int32 → Option (Int32 × Mm)) (hk5 : ∀ (S : Mm) (l0 : Nat) (l1 : Int32) (l2 : Int32) (l3 : Int32) (l4 : Int32) (T : (Int32 × Mm)), k5 S l0 l1 l2 l3 l4 = some T → Sat G l yX6_fullestSellerTo cX6_fullestSellerTo 5 (some .int) 2 0 0 0 0 5 [.ref l0, .int l1, .int l2, .int l3, .int l4] [] S (eI T)) (S : Mm) (l0 : Nat) (l1 : Int32) (l2 : Int32) (l3 : Int32) (l4 : Int32) (T : (Int32 × Mm)) (hf : f_X6_fullestSellerTo_72 k5 S l0 l1 l2 l3 l4 = some T) : Sat G l yX6_fullestSellerTo cX6_fullestSellerTo 5 (some .int) 2 0 0 0 0 72 [.ref l0, .int l1, .int l2, .int l3, .int l4] [] S (eI T) := by
  unfold f_X6_fullestSellerTo_72 at hf
  refine r_iinc (v := 1) (lv' := [.ref l0, .int l1, .int l2, .int l3, .int (l4 + 1)]) dX6_fullestSellerTo_72 rfl (by decide) (by decide) rfl rfl ?_
  refine r_goto (tgt := 5) dX6_fullestSellerTo_75 (by decide) ?_
  exact hk5 _ _ _ _ _ _ _ hf
set_option maxRecDepth 20000 in
theorem t_X6_fullestSellerTo_69 {G : Gt} {l : Launch} (k5 : Mm → Nat → Int32 → Int32 → Int32 → Int32 → Option (Int32 × Mm)) (hk5 : ∀ (S : Mm) (l0 : Nat) (l1 : Int32) (l2 : Int32) (l3 : Int32) (l4 : Int32) (T : (Int32 × Mm)), k5 S l0 l1 l2 l3 l4 = some T → Sat G l yX6_fullestSellerTo cX6_fullestSellerTo 5 (some .int) 2 0 0 0 0 5 [.ref l0, .int l1, .int l2, .int l3, .int l4] [] S (eI T)) (S : Mm) (l0 : Nat) (l1 : Int32) (l2 : Int32) (l4 : Int32) (T : (Int32 × Mm)) (hf : f_X6_fullestSellerTo_69 k5 S l0 l1 l2 l4 = some T) : Sat G l yX6_fullestSellerTo cX6_fullestSellerTo 5 (some .int) 2 0 0 0 0 69 [.ref l0, .int l1, .int l2, .null, .int l4] [] S (eI T) := by
  unfold f_X6_fullestSellerTo_69 at hf
  refine r_iload dX6_fullestSellerTo_69 rfl ?_
  refine r_istore_n (lv' := [.ref l0, .int l1, .int l2, .int l4, .int l4]) dX6_fullestSellerTo_71 (by decide) rfl rfl ?_
  exact t_X6_fullestSellerTo_72 k5 hk5 _ _ _ _ _ _ _ hf
set_option maxRecDepth 20000 in
theorem t_X6_fullestSellerTo_5 {G : Gt} {l : Launch} : ∀ (n : Nat) (S : Mm) (l0 : Nat) (l1 : Int32) (l2 : Int32) (l3 : Int32) (l4 : Int32) (T : (Int32 × Mm)), f_X6_fullestSellerTo_5 n S l0 l1 l2 l3 l4 = some T → Sat G l yX6_fullestSellerTo cX6_fullestSellerTo 5 (some .int) 2 0 0 0 0 5 [.ref l0, .int l1, .int l2, .int l3, .int l4] [] S (eI T) := by
  intro n
  induction n with
  | zero =>
    intro S l0 l1 l2 l3 l4 T hf
    rw [f_X6_fullestSellerTo_5] at hf
    cases hf
  | succ n ih =>
    intro S l0 l1 l2 l3 l4 T hf
    rw [f_X6_fullestSellerTo_5] at hf
    refine r_iload dX6_fullestSellerTo_5 rfl ?_
    refine r_aload_n dX6_fullestSellerTo_7 rfl ?_
    obtain ⟨x1, h2, hf⟩ := bnd hf
    refine r_getI dX6_fullestSellerTo_8 fs6_37_6 rfl h2 ?_
    refine r_icmp_ge (tgt := 78) dX6_fullestSellerTo_11 (by decide) (fun c3 => ?_) (fun c3 => ?_)
    · replace hf := (if_pos c3).symm.trans hf
      refine r_iload_n dX6_fullestSellerTo_78 rfl ?_
      have hz := congrArg eI (Option.some.inj hf)
      exact r_ireturn dX6_fullestSellerTo_79 rfl (Nat.le_of_ble_eq_true rfl) (Nat.le_of_ble_eq_true rfl) hz
    · replace hf := (if_neg c3).symm.trans hf
      refine r_aload_n dX6_fullestSellerTo_14 rfl ?_
      obtain ⟨x4, h5, hf⟩ := bnd hf
      refine r_getR dX6_fullestSellerTo_15 fs6_11_6 rfl h5 ?_
      refine r_iload dX6_fullestSellerTo_18 rfl ?_
      obtain ⟨x6, h7, hf⟩ := bnd hf
      refine r_aaload dX6_fullestSellerTo_20 h7 ?_
      refine r_iload_n dX6_fullestSellerTo_21 rfl ?_
      obtain ⟨q8, h9, hf⟩ := bnd hf
      refine rv_6_141 (st := []) dX6_fullestSellerTo_22 rfl h9 ⟨by omega, by omega⟩ (Nat.le_of_ble_eq_true rfl) (by decide) (by decide) rfl ?_
      refine r_if_ne (tgt := 72) dX6_fullestSellerTo_25 (by decide) (fun c10 => ?_) (fun c10 => ?_)
      · replace hf := (if_neg c10).symm.trans hf
        exact t_X6_fullestSellerTo_72 (f_X6_fullestSellerTo_5 n) ih _ _ _ _ _ _ _ hf
      · replace hf := (if_pos c10).symm.trans hf
        refine r_aload_n dX6_fullestSellerTo_28 rfl ?_
        refine r_iload dX6_fullestSellerTo_29 rfl ?_
        refine r_iload_n dX6_fullestSellerTo_31 rfl ?_
        obtain ⟨q11, h12, hf⟩ := bnd hf
        refine r_callVi (st := []) (as := [.int l4, .int l1]) dX6_fullestSellerTo_32 ms_X6_isLawful ⟨rfl, w3_7, w2_217, w2_218⟩ (ok_X6_isLawful h12) (c_X6_isLawful h12) rfl ⟨by omega, by omega⟩ (Nat.le_of_ble_eq_true rfl) (by decide) (by decide) rfl ?_
        refine r_if_eq (tgt := 72) dX6_fullestSellerTo_35 (by decide) (fun c13 => ?_) (fun c13 => ?_)
        · replace hf := (if_pos c13).symm.trans hf
          exact t_X6_fullestSellerTo_72 (f_X6_fullestSellerTo_5 n) ih _ _ _ _ _ _ _ hf
        · replace hf := (if_neg c13).symm.trans hf
          refine r_aload_n dX6_fullestSellerTo_38 rfl ?_
          refine r_iload dX6_fullestSellerTo_39 rfl ?_
          refine r_iload_n dX6_fullestSellerTo_41 rfl ?_
          refine r_iload_n dX6_fullestSellerTo_42 rfl ?_
          obtain ⟨q14, h15, hf⟩ := bnd hf
          refine r_callVi (st := []) (as := [.int l4, .int l1, .int l2]) dX6_fullestSellerTo_43 ms_X6_hasMeans ⟨rfl, w3_8, w3_10, w0_9⟩ (ok_X6_hasMeans h15) (c_X6_hasMeans h15) rfl ⟨by omega, by omega⟩ (Nat.le_of_ble_eq_true rfl) (by decide) (by decide) rfl ?_
          refine r_if_eq (tgt := 72) dX6_fullestSellerTo_46 (by decide) (fun c16 => ?_) (fun c16 => ?_)
          · replace hf := (if_pos c16).symm.trans hf
            exact t_X6_fullestSellerTo_72 (f_X6_fullestSellerTo_5 n) ih _ _ _ _ _ _ _ hf
          · replace hf := (if_neg c16).symm.trans hf
            refine r_iload_n dX6_fullestSellerTo_49 rfl ?_
            refine r_if_lt (tgt := 69) dX6_fullestSellerTo_50 (by decide) (fun c17 => ?_) (fun c17 => ?_)
            · replace hf := (if_pos c17).symm.trans hf
              refine r_lvs (lv' := [.ref l0, .int l1, .int l2, .null, .int l4]) ⟨Or.inl rfl, Or.inl rfl, Or.inl rfl, Or.inr rfl, Or.inl rfl, trivial⟩ ?_
              exact t_X6_fullestSellerTo_69 (f_X6_fullestSellerTo_5 n) ih _ _ _ _ _ _ hf
            · replace hf := (if_neg c17).symm.trans hf
              refine r_aload_n dX6_fullestSellerTo_53 rfl ?_
              refine r_iload dX6_fullestSellerTo_54 rfl ?_
              refine r_iload_n dX6_fullestSellerTo_56 rfl ?_
              obtain ⟨q18, h19, hf⟩ := bnd hf
              refine r_callVi (st := []) (as := [.int l4, .int l2]) dX6_fullestSellerTo_57 ms_X6_piecesOf ⟨rfl, w3_12, w2_199, w2_200⟩ (ok_X6_piecesOf h19) (c_X6_piecesOf h19) rfl ⟨by omega, by omega⟩ (Nat.le_of_ble_eq_true rfl) (by decide) (by decide) rfl ?_
              refine r_aload_n dX6_fullestSellerTo_60 rfl ?_
              refine r_iload_n dX6_fullestSellerTo_61 rfl ?_
              refine r_iload_n dX6_fullestSellerTo_62 rfl ?_
              obtain ⟨q20, h21, hf⟩ := bnd hf
              refine r_callVi (st := [.int q18.1]) (as := [.int l3, .int l2]) dX6_fullestSellerTo_63 ms_X6_piecesOf ⟨rfl, w3_12, w2_199, w2_200⟩ (ok_X6_piecesOf h21) (c_X6_piecesOf h21) rfl ⟨by omega, by omega⟩ (Nat.le_of_ble_eq_true rfl) (by decide) (by decide) rfl ?_
              refine r_icmp_le (tgt := 72) dX6_fullestSellerTo_66 (by decide) (fun c22 => ?_) (fun c22 => ?_)
              · replace hf := (if_pos c22).symm.trans hf
                exact t_X6_fullestSellerTo_72 (f_X6_fullestSellerTo_5 n) ih _ _ _ _ _ _ _ hf
              · replace hf := (if_neg c22).symm.trans hf
                refine r_lvs (lv' := [.ref l0, .int l1, .int l2, .null, .int l4]) ⟨Or.inl rfl, Or.inl rfl, Or.inl rfl, Or.inr rfl, Or.inl rfl, trivial⟩ ?_
                exact t_X6_fullestSellerTo_69 (f_X6_fullestSellerTo_5 n) ih _ _ _ _ _ _ hf
set_option maxRecDepth 20000 in
theorem ok_X6_fullestSellerTo {S : Mm} {l0 : Nat} {l1 : Int32} {l2 : Int32} {T : (Int32 × Mm)} (hf : f_X6_fullestSellerTo S l0 l1 l2 = some T) : okc S l0 6 = true := (oif hf).1
set_option maxRecDepth 20000 in
theorem c_X6_fullestSellerTo {G : Gt} {l : Launch} {S : Mm} {l0 : Nat} {l1 : Int32} {l2 : Int32} {T : (Int32 × Mm)} (hf : f_X6_fullestSellerTo S l0 l1 l2 = some T) : CC G l yX6_fullestSellerTo cX6_fullestSellerTo 5 (some .int) 2 0 0 [.ref l0, .int l1, .int l2] S (eI T) := by
  unfold f_X6_fullestSellerTo at hf
  replace hf := (oif hf).2
  refine r_body (by decide) rfl (Nat.le_of_ble_eq_true rfl) (by simp) ?_
  refine r_iconst (v := (-1)) dX6_fullestSellerTo_0 (by decide) ?_
  refine r_istore_n (lv' := [.ref l0, .int l1, .int l2, .int (-1), .null]) dX6_fullestSellerTo_1 (by decide) rfl rfl ?_
  refine r_iconst (v := 0) dX6_fullestSellerTo_2 (by decide) ?_
  refine r_istore (lv' := [.ref l0, .int l1, .int l2, .int (-1), .int 0]) dX6_fullestSellerTo_3 (by decide) rfl rfl ?_
  exact t_X6_fullestSellerTo_5 FU _ _ _ _ _ _ _ hf
def f_X6_buyWanted_30 : Nat → Mm → Nat → Int32 → Int32 → Int32 → Int32 → Option (Int32 × Mm)
  | 0, _, _, _, _, _, _ => none
  | n + 1, S, l0, l1, l2, l3, l4 => (if l3 ≤ l4 then some ((mxI 0 l3), S) else (f_X6_fullestSellerTo S l0 l1 l2).bind fun q2 => (if 0 ≤ q2.1 then (f_X6_moveOnePiece q2.2 l0 q2.1 l1 l2).bind fun q5 => (f_X6_buyWanted_30 n) q5 l0 l1 l2 l3 (l4 + 1) else some (l4, q2.2)))
def f_X6_buyWanted (S : Mm) (l0 : Nat) (l1 : Int32) : Option (Int32 × Mm) := if okc S l0 6 = true then (gR S 6 l0 0).bind fun x1 => (aR S x1 l1).bind fun x3 => (gF S x3 4).bind fun x5 => (gR S 6 l0 0).bind fun x7 => (aR S x7 l1).bind fun x9 => (gF S x9 5).bind fun x11 => (f_X6_piecesOf S l0 l1 x5).bind fun q13 => f_X6_buyWanted_30 FU q13.2 l0 l1 x5 (x11 - q13.1) 0 else none
set_option maxRecDepth 20000 in
theorem t_X6_buyWanted_30 {G : Gt} {l : Launch} : ∀ (n : Nat) (S : Mm) (l0 : Nat) (l1 : Int32) (l2 : Int32) (l3 : Int32) (l4 : Int32) (T : (Int32 × Mm)), f_X6_buyWanted_30 n S l0 l1 l2 l3 l4 = some T → Sat G l yX6_buyWanted cX6_buyWanted 6 (some .int) 3 0 0 0 0 30 [.ref l0, .int l1, .int l2, .int l3, .int l4, .null] [] S (eI T) := by
  intro n
  induction n with
  | zero =>
    intro S l0 l1 l2 l3 l4 T hf
    rw [f_X6_buyWanted_30] at hf
    cases hf
  | succ n ih =>
    intro S l0 l1 l2 l3 l4 T hf
    rw [f_X6_buyWanted_30] at hf
    refine r_iload dX6_buyWanted_30 rfl ?_
    refine r_iload_n dX6_buyWanted_32 rfl ?_
    refine r_icmp_ge (tgt := 66) dX6_buyWanted_33 (by decide) (fun c1 => ?_) (fun c1 => ?_)
    · replace hf := (if_pos c1).symm.trans hf
      refine r_iconst (v := 0) dX6_buyWanted_66 (by decide) ?_
      refine r_iload_n dX6_buyWanted_67 rfl ?_
      refine r_max dX6_buyWanted_68 wkmax_6138 (by decide) (Nat.le_of_ble_eq_true rfl) (by decide) (by decide) ?_
      have hz := congrArg eI (Option.some.inj hf)
      exact r_ireturn dX6_buyWanted_71 rfl (Nat.le_of_ble_eq_true rfl) (Nat.le_of_ble_eq_true rfl) hz
    · replace hf := (if_neg c1).symm.trans hf
      refine r_aload_n dX6_buyWanted_36 rfl ?_
      refine r_iload_n dX6_buyWanted_37 rfl ?_
      refine r_iload_n dX6_buyWanted_38 rfl ?_
      obtain ⟨q2, h3, hf⟩ := bnd hf
      refine r_callVi (st := []) (as := [.int l1, .int l2]) dX6_buyWanted_39 ms_X6_fullestSellerTo ⟨rfl, w3_49, w3_51, w0_14⟩ (ok_X6_fullestSellerTo h3) (c_X6_fullestSellerTo h3) rfl ⟨by omega, by omega⟩ (Nat.le_of_ble_eq_true rfl) (by decide) (by decide) rfl ?_
      refine r_istore (lv' := [.ref l0, .int l1, .int l2, .int l3, .int l4, .int q2.1]) dX6_buyWanted_42 (by decide) rfl rfl ?_
      refine r_iload dX6_buyWanted_44 rfl ?_
      refine r_if_ge (tgt := 52) dX6_buyWanted_46 (by decide) (fun c4 => ?_) (fun c4 => ?_)
      · replace hf := (if_pos c4).symm.trans hf
        refine r_aload_n dX6_buyWanted_52 rfl ?_
        refine r_iload dX6_buyWanted_53 rfl ?_
        refine r_iload_n dX6_buyWanted_55 rfl ?_
        refine r_iload_n dX6_buyWanted_56 rfl ?_
        obtain ⟨q5, h6, hf⟩ := bnd hf
        refine r_callVv (st := []) (as := [.int q2.1, .int l1, .int l2]) dX6_buyWanted_57 ms_X6_moveOnePiece ⟨rfl, w3_13, w3_15, w0_10⟩ (ok_X6_moveOnePiece h6) (c_X6_moveOnePiece h6) rfl ⟨by omega, by omega⟩ (Nat.le_of_ble_eq_true rfl) (by decide) (by decide) rfl ?_
        refine r_iinc (v := 1) (lv' := [.ref l0, .int l1, .int l2, .int l3, .int (l4 + 1), .int q2.1]) dX6_buyWanted_60 rfl (by decide) (by decide) rfl rfl ?_
        refine r_goto (tgt := 30) dX6_buyWanted_63 (by decide) ?_
        refine r_lvs (lv' := [.ref l0, .int l1, .int l2, .int l3, .int (l4 + 1), .null]) ⟨Or.inl rfl, Or.inl rfl, Or.inl rfl, Or.inl rfl, Or.inl rfl, Or.inr rfl, trivial⟩ ?_
        exact ih _ _ _ _ _ _ _ hf
      · replace hf := (if_neg c4).symm.trans hf
        refine r_iload dX6_buyWanted_49 rfl ?_
        have hz := congrArg eI (Option.some.inj hf)
        exact r_ireturn dX6_buyWanted_51 rfl (Nat.le_of_ble_eq_true rfl) (Nat.le_of_ble_eq_true rfl) hz
set_option maxRecDepth 20000 in
theorem ok_X6_buyWanted {S : Mm} {l0 : Nat} {l1 : Int32} {T : (Int32 × Mm)} (hf : f_X6_buyWanted S l0 l1 = some T) : okc S l0 6 = true := (oif hf).1
set_option maxRecDepth 20000 in
theorem c_X6_buyWanted {G : Gt} {l : Launch} {S : Mm} {l0 : Nat} {l1 : Int32} {T : (Int32 × Mm)} (hf : f_X6_buyWanted S l0 l1 = some T) : CC G l yX6_buyWanted cX6_buyWanted 6 (some .int) 3 0 0 [.ref l0, .int l1] S (eI T) := by
  unfold f_X6_buyWanted at hf
  replace hf := (oif hf).2
  refine r_body (by decide) rfl (Nat.le_of_ble_eq_true rfl) (by simp) ?_
  refine r_aload_n dX6_buyWanted_0 rfl ?_
  obtain ⟨x1, h2, hf⟩ := bnd hf
  refine r_getR dX6_buyWanted_1 fs6_11_6 rfl h2 ?_
  refine r_iload_n dX6_buyWanted_4 rfl ?_
  obtain ⟨x3, h4, hf⟩ := bnd hf
  refine r_aaload dX6_buyWanted_5 h4 ?_
  obtain ⟨x5, h6, hf⟩ := bnd hf
  refine r_getF dX6_buyWanted_6 ff6_132 (by decide) h6 ?_
  refine r_istore_n (lv' := [.ref l0, .int l1, .int x5, .null, .null, .null]) dX6_buyWanted_9 (by decide) rfl rfl ?_
  refine r_aload_n dX6_buyWanted_10 rfl ?_
  obtain ⟨x7, h8, hf⟩ := bnd hf
  refine r_getR dX6_buyWanted_11 fs6_11_6 rfl h8 ?_
  refine r_iload_n dX6_buyWanted_14 rfl ?_
  obtain ⟨x9, h10, hf⟩ := bnd hf
  refine r_aaload dX6_buyWanted_15 h10 ?_
  obtain ⟨x11, h12, hf⟩ := bnd hf
  refine r_getF dX6_buyWanted_16 ff6_115 (by decide) h12 ?_
  refine r_aload_n dX6_buyWanted_19 rfl ?_
  refine r_iload_n dX6_buyWanted_20 rfl ?_
  refine r_iload_n dX6_buyWanted_21 rfl ?_
  obtain ⟨q13, h14, hf⟩ := bnd hf
  refine r_callVi (st := [.int x11]) (as := [.int l1, .int x5]) dX6_buyWanted_22 ms_X6_piecesOf ⟨rfl, w3_12, w2_199, w2_200⟩ (ok_X6_piecesOf h14) (c_X6_piecesOf h14) rfl ⟨by omega, by omega⟩ (Nat.le_of_ble_eq_true rfl) (by decide) (by decide) rfl ?_
  refine r_isub dX6_buyWanted_25 ?_
  refine r_istore_n (lv' := [.ref l0, .int l1, .int x5, .int (x11 - q13.1), .null, .null]) dX6_buyWanted_26 (by decide) rfl rfl ?_
  refine r_iconst (v := 0) dX6_buyWanted_27 (by decide) ?_
  refine r_istore (lv' := [.ref l0, .int l1, .int x5, .int (x11 - q13.1), .int 0, .null]) dX6_buyWanted_28 (by decide) rfl rfl ?_
  exact t_X6_buyWanted_30 FU _ _ _ _ _ _ _ hf
def f_X6_useWanted (S : Mm) (l0 : Nat) (l1 : Int32) : Option (Int32 × Mm) := if okc S l0 6 = true then (gR S 6 l0 0).bind fun x1 => (aR S x1 l1).bind fun x3 => (gF S x3 4).bind fun x5 => (gR S 6 l0 0).bind fun x7 => (aR S x7 l1).bind fun x9 => (gF S x9 5).bind fun x11 => (f_X6_piecesOf S l0 l1 x5).bind fun q13 => (f_X6_addPieces q13.2 l0 l1 x5 (-(mnI x11 q13.1))).bind fun q15 => some ((mnI x11 q13.1), q15) else none
set_option maxRecDepth 20000 in
theorem ok_X6_useWanted {S : Mm} {l0 : Nat} {l1 : Int32} {T : (Int32 × Mm)} (hf : f_X6_useWanted S l0 l1 = some T) : okc S l0 6 = true := (oif hf).1
set_option maxRecDepth 20000 in
theorem c_X6_useWanted {G : Gt} {l : Launch} {S : Mm} {l0 : Nat} {l1 : Int32} {T : (Int32 × Mm)} (hf : f_X6_useWanted S l0 l1 = some T) : CC G l yX6_useWanted cX6_useWanted 4 (some .int) 1 0 0 [.ref l0, .int l1] S (eI T) := by
  unfold f_X6_useWanted at hf
  replace hf := (oif hf).2
  refine r_body (by decide) rfl (Nat.le_of_ble_eq_true rfl) (by simp) ?_
  refine r_aload_n dX6_useWanted_0 rfl ?_
  obtain ⟨x1, h2, hf⟩ := bnd hf
  refine r_getR dX6_useWanted_1 fs6_11_6 rfl h2 ?_
  refine r_iload_n dX6_useWanted_4 rfl ?_
  obtain ⟨x3, h4, hf⟩ := bnd hf
  refine r_aaload dX6_useWanted_5 h4 ?_
  obtain ⟨x5, h6, hf⟩ := bnd hf
  refine r_getF dX6_useWanted_6 ff6_132 (by decide) h6 ?_
  refine r_istore_n (lv' := [.ref l0, .int l1, .int x5, .null]) dX6_useWanted_9 (by decide) rfl rfl ?_
  refine r_aload_n dX6_useWanted_10 rfl ?_
  obtain ⟨x7, h8, hf⟩ := bnd hf
  refine r_getR dX6_useWanted_11 fs6_11_6 rfl h8 ?_
  refine r_iload_n dX6_useWanted_14 rfl ?_
  obtain ⟨x9, h10, hf⟩ := bnd hf
  refine r_aaload dX6_useWanted_15 h10 ?_
  obtain ⟨x11, h12, hf⟩ := bnd hf
  refine r_getF dX6_useWanted_16 ff6_115 (by decide) h12 ?_
  refine r_aload_n dX6_useWanted_19 rfl ?_
  refine r_iload_n dX6_useWanted_20 rfl ?_
  refine r_iload_n dX6_useWanted_21 rfl ?_
  obtain ⟨q13, h14, hf⟩ := bnd hf
  refine r_callVi (st := [.int x11]) (as := [.int l1, .int x5]) dX6_useWanted_22 ms_X6_piecesOf ⟨rfl, w3_12, w2_199, w2_200⟩ (ok_X6_piecesOf h14) (c_X6_piecesOf h14) rfl ⟨by omega, by omega⟩ (Nat.le_of_ble_eq_true rfl) (by decide) (by decide) rfl ?_
  refine r_min dX6_useWanted_25 wkmin_6127 (by decide) (Nat.le_of_ble_eq_true rfl) (by decide) (by decide) ?_
  refine r_istore_n (lv' := [.ref l0, .int l1, .int x5, .int (mnI x11 q13.1)]) dX6_useWanted_28 (by decide) rfl rfl ?_
  refine r_aload_n dX6_useWanted_29 rfl ?_
  refine r_iload_n dX6_useWanted_30 rfl ?_
  refine r_iload_n dX6_useWanted_31 rfl ?_
  refine r_iload_n dX6_useWanted_32 rfl ?_
  refine r_ineg dX6_useWanted_33 ?_
  obtain ⟨q15, h16, hf⟩ := bnd hf
  refine r_callVv (st := []) (as := [.int l1, .int x5, .int (-(mnI x11 q13.1))]) dX6_useWanted_34 ms_X6_addPieces ⟨rfl, w3_17, w3_19, w0_11⟩ (ok_X6_addPieces h16) (c_X6_addPieces h16) rfl ⟨by omega, by omega⟩ (Nat.le_of_ble_eq_true rfl) (by decide) (by decide) rfl ?_
  refine r_iload_n dX6_useWanted_37 rfl ?_
  have hz := congrArg eI (Option.some.inj hf)
  exact r_ireturn dX6_useWanted_38 rfl (Nat.le_of_ble_eq_true rfl) (Nat.le_of_ble_eq_true rfl) hz
def f_X9_addUse (S : Mm) (l0 : Nat) (l1 : Int32) (l2 : Int32) (l3 : Int32) : Option Mm := if okc S l0 9 = true then (gI S 9 l0 0).bind fun x1 => (pI S 9 l0 0 (x1 + l2)).bind fun S3 => (gR S3 9 l0 3).bind fun x5 => (aI S3 x5 l1).bind fun x7 => (aS S3 x5 l1 (x7 + l2)).bind fun S9 => (gI S9 9 l0 2).bind fun x11 => (pI S9 9 l0 2 (x11 + (l3 - l2))).bind fun S13 => some S13 else none
set_option maxRecDepth 20000 in
theorem ok_X9_addUse {S : Mm} {l0 : Nat} {l1 : Int32} {l2 : Int32} {l3 : Int32} {T : Mm} (hf : f_X9_addUse S l0 l1 l2 l3 = some T) : okc S l0 9 = true := (oif hf).1
set_option maxRecDepth 20000 in
theorem c_X9_addUse {G : Gt} {l : Launch} {S : Mm} {l0 : Nat} {l1 : Int32} {l2 : Int32} {l3 : Int32} {T : Mm} (hf : f_X9_addUse S l0 l1 l2 l3 = some T) : CC G l yX9_addUse cX9_addUse 4 none 0 0 0 [.ref l0, .int l1, .int l2, .int l3] S (eV T) := by
  unfold f_X9_addUse at hf
  replace hf := (oif hf).2
  refine r_body (by decide) rfl (Nat.le_of_ble_eq_true rfl) (by simp) ?_
  refine r_aload_n dX9_addUse_0 rfl ?_
  refine r_dup dX9_addUse_1 rfl ?_
  obtain ⟨x1, h2, hf⟩ := bnd hf
  refine r_getI dX9_addUse_2 fs9_15_9 rfl h2 ?_
  refine r_iload_n dX9_addUse_5 rfl ?_
  refine r_iadd dX9_addUse_6 ?_
  obtain ⟨S3, h4, hf⟩ := bnd hf
  refine r_putI dX9_addUse_7 fs9_15_9 rfl h4 ?_
  refine r_aload_n dX9_addUse_10 rfl ?_
  obtain ⟨x5, h6, hf⟩ := bnd hf
  refine r_getR dX9_addUse_11 fs9_9_9 rfl h6 ?_
  refine r_iload_n dX9_addUse_14 rfl ?_
  refine r_dup2 dX9_addUse_15 rfl rfl ?_
  obtain ⟨x7, h8, hf⟩ := bnd hf
  refine r_iaload dX9_addUse_16 h8 ?_
  refine r_iload_n dX9_addUse_17 rfl ?_
  refine r_iadd dX9_addUse_18 ?_
  obtain ⟨S9, h10, hf⟩ := bnd hf
  refine r_iastore dX9_addUse_19 h10 ?_
  refine r_aload_n dX9_addUse_20 rfl ?_
  refine r_dup dX9_addUse_21 rfl ?_
  obtain ⟨x11, h12, hf⟩ := bnd hf
  refine r_getI dX9_addUse_22 fs9_25_9 rfl h12 ?_
  refine r_iload_n dX9_addUse_25 rfl ?_
  refine r_iload_n dX9_addUse_26 rfl ?_
  refine r_isub dX9_addUse_27 ?_
  refine r_iadd dX9_addUse_28 ?_
  obtain ⟨S13, h14, hf⟩ := bnd hf
  refine r_putI dX9_addUse_29 fs9_25_9 rfl h14 ?_
  have hz := congrArg eV (Option.some.inj hf)
  exact r_return dX9_addUse_32 rfl (Nat.le_of_ble_eq_true rfl) (Nat.le_of_ble_eq_true rfl) hz
def f_X6_passWeek_57 : Nat → Mm → Nat → Nat → Int32 → Option Mm
  | 0, _, _, _, _ => none
  | n + 1, S, l0, l1, l2 => (gI S 6 l0 1).bind fun x1 => (if x1 ≤ l2 then (gI S 6 l0 7).bind fun x4 => (pI S 6 l0 7 (x4 + 1)).bind fun S6 => some S6 else (f_X6_useWanted S l0 l2).bind fun q8 => (gR q8.2 6 l0 0).bind fun x10 => (aR q8.2 x10 l2).bind fun x12 => (gF q8.2 x12 5).bind fun x14 => (f_X9_addUse q8.2 l1 l2 q8.1 x14).bind fun q16 => (f_X6_passWeek_57 n) q16 l0 l1 (l2 + 1))
def f_X6_passWeek_27 : Nat → Mm → Nat → Nat → Int32 → Option Mm
  | 0, _, _, _, _ => none
  | n + 1, S, l0, l1, l2 => (gI S 6 l0 1).bind fun x1 => (if x1 ≤ l2 then f_X6_passWeek_57 FU S l0 l1 0 else (gI S 9 l1 1).bind fun x4 => (f_X6_buyWanted S l0 l2).bind fun q6 => (pI q6.2 9 l1 1 (x4 + q6.1)).bind fun S8 => (f_X6_passWeek_27 n) S8 l0 l1 (l2 + 1))
def f_X6_passWeek_6 : Nat → Mm → Nat → Nat → Int32 → Option Mm
  | 0, _, _, _, _ => none
  | n + 1, S, l0, l1, l2 => (gI S 6 l0 1).bind fun x1 => (if x1 ≤ l2 then f_X6_passWeek_27 FU S l0 l1 0 else (f_X6_makeGoods S l0 l2).bind fun q4 => (f_X6_passWeek_6 n) q4 l0 l1 (l2 + 1))
def f_X6_passWeek (S : Mm) (l0 : Nat) (l1 : Nat) : Option Mm := if okc S l0 6 = true then (f_X9_beginWeek S l1).bind fun q1 => f_X6_passWeek_6 FU q1 l0 l1 0 else none
set_option maxRecDepth 20000 in
theorem t_X6_passWeek_57 {G : Gt} {l : Launch} : ∀ (n : Nat) (S : Mm) (l0 : Nat) (l1 : Nat) (l2 : Int32) (T : Mm), f_X6_passWeek_57 n S l0 l1 l2 = some T → Sat G l yX6_passWeek cX6_passWeek 3 none 4 0 0 0 0 57 [.ref l0, .ref l1, .int l2] [] S (eV T) := by
  intro n
  induction n with
  | zero =>
    intro S l0 l1 l2 T hf
    rw [f_X6_passWeek_57] at hf
    cases hf
  | succ n ih =>
    intro S l0 l1 l2 T hf
    rw [f_X6_passWeek_57] at hf
    refine r_iload_n dX6_passWeek_57 rfl ?_
    refine r_aload_n dX6_passWeek_58 rfl ?_
    obtain ⟨x1, h2, hf⟩ := bnd hf
    refine r_getI dX6_passWeek_59 fs6_37_6 rfl h2 ?_
    refine r_icmp_ge (tgt := 90) dX6_passWeek_62 (by decide) (fun c3 => ?_) (fun c3 => ?_)
    · replace hf := (if_pos c3).symm.trans hf
      refine r_aload_n dX6_passWeek_90 rfl ?_
      refine r_dup dX6_passWeek_91 rfl ?_
      obtain ⟨x4, h5, hf⟩ := bnd hf
      refine r_getI dX6_passWeek_92 fs6_54_6 rfl h5 ?_
      refine r_iconst (v := 1) dX6_passWeek_95 (by decide) ?_
      refine r_iadd dX6_passWeek_96 ?_
      obtain ⟨S6, h7, hf⟩ := bnd hf
      refine r_putI dX6_passWeek_97 fs6_54_6 rfl h7 ?_
      have hz := congrArg eV (Option.some.inj hf)
      exact r_return dX6_passWeek_100 rfl (Nat.le_of_ble_eq_true rfl) (Nat.le_of_ble_eq_true rfl) hz
    · replace hf := (if_neg c3).symm.trans hf
      refine r_aload_n dX6_passWeek_65 rfl ?_
      refine r_iload_n dX6_passWeek_66 rfl ?_
      refine r_aload_n dX6_passWeek_67 rfl ?_
      refine r_iload_n dX6_passWeek_68 rfl ?_
      obtain ⟨q8, h9, hf⟩ := bnd hf
      refine r_callVi (st := [.int l2, .ref l1]) (as := [.int l2]) dX6_passWeek_69 ms_X6_useWanted ⟨rfl, w3_64, w3_66, w0_15⟩ (ok_X6_useWanted h9) (c_X6_useWanted h9) rfl ⟨by omega, by omega⟩ (Nat.le_of_ble_eq_true rfl) (by decide) (by decide) rfl ?_
      refine r_aload_n dX6_passWeek_72 rfl ?_
      obtain ⟨x10, h11, hf⟩ := bnd hf
      refine r_getR dX6_passWeek_73 fs6_11_6 rfl h11 ?_
      refine r_iload_n dX6_passWeek_76 rfl ?_
      obtain ⟨x12, h13, hf⟩ := bnd hf
      refine r_aaload dX6_passWeek_77 h13 ?_
      obtain ⟨x14, h15, hf⟩ := bnd hf
      refine r_getF dX6_passWeek_78 ff6_115 (by decide) h15 ?_
      obtain ⟨q16, h17, hf⟩ := bnd hf
      refine r_callVv (st := []) (as := [.int l2, .int q8.1, .int x14]) dX6_passWeek_81 ms_X9_addUse ⟨rfl, w3_68, w3_69, w3_70⟩ (ok_X9_addUse h17) (c_X9_addUse h17) rfl ⟨by omega, by omega⟩ (Nat.le_of_ble_eq_true rfl) (by decide) (by decide) rfl ?_
      refine r_iinc (v := 1) (lv' := [.ref l0, .ref l1, .int (l2 + 1)]) dX6_passWeek_84 rfl (by decide) (by decide) rfl rfl ?_
      refine r_goto (tgt := 57) dX6_passWeek_87 (by decide) ?_
      exact ih _ _ _ _ _ hf
set_option maxRecDepth 20000 in
theorem t_X6_passWeek_27 {G : Gt} {l : Launch} : ∀ (n : Nat) (S : Mm) (l0 : Nat) (l1 : Nat) (l2 : Int32) (T : Mm), f_X6_passWeek_27 n S l0 l1 l2 = some T → Sat G l yX6_passWeek cX6_passWeek 3 none 4 0 0 0 0 27 [.ref l0, .ref l1, .int l2] [] S (eV T) := by
  intro n
  induction n with
  | zero =>
    intro S l0 l1 l2 T hf
    rw [f_X6_passWeek_27] at hf
    cases hf
  | succ n ih =>
    intro S l0 l1 l2 T hf
    rw [f_X6_passWeek_27] at hf
    refine r_iload_n dX6_passWeek_27 rfl ?_
    refine r_aload_n dX6_passWeek_28 rfl ?_
    obtain ⟨x1, h2, hf⟩ := bnd hf
    refine r_getI dX6_passWeek_29 fs6_37_6 rfl h2 ?_
    refine r_icmp_ge (tgt := 55) dX6_passWeek_32 (by decide) (fun c3 => ?_) (fun c3 => ?_)
    · replace hf := (if_pos c3).symm.trans hf
      refine r_iconst (v := 0) dX6_passWeek_55 (by decide) ?_
      refine r_istore_n (lv' := [.ref l0, .ref l1, .int 0]) dX6_passWeek_56 (by decide) rfl rfl ?_
      exact t_X6_passWeek_57 FU _ _ _ _ _ hf
    · replace hf := (if_neg c3).symm.trans hf
      refine r_aload_n dX6_passWeek_35 rfl ?_
      refine r_dup dX6_passWeek_36 rfl ?_
      obtain ⟨x4, h5, hf⟩ := bnd hf
      refine r_getI dX6_passWeek_37 fs6_105_9 rfl h5 ?_
      refine r_aload_n dX6_passWeek_40 rfl ?_
      refine r_iload_n dX6_passWeek_41 rfl ?_
      obtain ⟨q6, h7, hf⟩ := bnd hf
      refine r_callVi (st := [.int x4, .ref l1]) (as := [.int l2]) dX6_passWeek_42 ms_X6_buyWanted ⟨rfl, w3_45, w3_47, w0_13⟩ (ok_X6_buyWanted h7) (c_X6_buyWanted h7) rfl ⟨by omega, by omega⟩ (Nat.le_of_ble_eq_true rfl) (by decide) (by decide) rfl ?_
      refine r_iadd dX6_passWeek_45 ?_
      obtain ⟨S8, h9, hf⟩ := bnd hf
      refine r_putI dX6_passWeek_46 fs6_105_9 rfl h9 ?_
      refine r_iinc (v := 1) (lv' := [.ref l0, .ref l1, .int (l2 + 1)]) dX6_passWeek_49 rfl (by decide) (by decide) rfl rfl ?_
      refine r_goto (tgt := 27) dX6_passWeek_52 (by decide) ?_
      exact ih _ _ _ _ _ hf
set_option maxRecDepth 20000 in
theorem t_X6_passWeek_6 {G : Gt} {l : Launch} : ∀ (n : Nat) (S : Mm) (l0 : Nat) (l1 : Nat) (l2 : Int32) (T : Mm), f_X6_passWeek_6 n S l0 l1 l2 = some T → Sat G l yX6_passWeek cX6_passWeek 3 none 4 0 0 0 0 6 [.ref l0, .ref l1, .int l2] [] S (eV T) := by
  intro n
  induction n with
  | zero =>
    intro S l0 l1 l2 T hf
    rw [f_X6_passWeek_6] at hf
    cases hf
  | succ n ih =>
    intro S l0 l1 l2 T hf
    rw [f_X6_passWeek_6] at hf
    refine r_iload_n dX6_passWeek_6 rfl ?_
    refine r_aload_n dX6_passWeek_7 rfl ?_
    obtain ⟨x1, h2, hf⟩ := bnd hf
    refine r_getI dX6_passWeek_8 fs6_37_6 rfl h2 ?_
    refine r_icmp_ge (tgt := 25) dX6_passWeek_11 (by decide) (fun c3 => ?_) (fun c3 => ?_)
    · replace hf := (if_pos c3).symm.trans hf
      refine r_iconst (v := 0) dX6_passWeek_25 (by decide) ?_
      refine r_istore_n (lv' := [.ref l0, .ref l1, .int 0]) dX6_passWeek_26 (by decide) rfl rfl ?_
      exact t_X6_passWeek_27 FU _ _ _ _ _ hf
    · replace hf := (if_neg c3).symm.trans hf
      refine r_aload_n dX6_passWeek_14 rfl ?_
      refine r_iload_n dX6_passWeek_15 rfl ?_
      obtain ⟨q4, h5, hf⟩ := bnd hf
      refine r_callVv (st := []) (as := [.int l2]) dX6_passWeek_16 ms_X6_makeGoods ⟨rfl, w3_38, w3_40, w0_12⟩ (ok_X6_makeGoods h5) (c_X6_makeGoods h5) rfl ⟨by omega, by omega⟩ (Nat.le_of_ble_eq_true rfl) (by decide) (by decide) rfl ?_
      refine r_iinc (v := 1) (lv' := [.ref l0, .ref l1, .int (l2 + 1)]) dX6_passWeek_19 rfl (by decide) (by decide) rfl rfl ?_
      refine r_goto (tgt := 6) dX6_passWeek_22 (by decide) ?_
      exact ih _ _ _ _ _ hf
set_option maxRecDepth 20000 in
theorem ok_X6_passWeek {S : Mm} {l0 : Nat} {l1 : Nat} {T : Mm} (hf : f_X6_passWeek S l0 l1 = some T) : okc S l0 6 = true := (oif hf).1
set_option maxRecDepth 20000 in
theorem c_X6_passWeek {G : Gt} {l : Launch} {S : Mm} {l0 : Nat} {l1 : Nat} {T : Mm} (hf : f_X6_passWeek S l0 l1 = some T) : CC G l yX6_passWeek cX6_passWeek 3 none 4 0 0 [.ref l0, .ref l1] S (eV T) := by
  unfold f_X6_passWeek at hf
  replace hf := (oif hf).2
  refine r_body (by decide) rfl (Nat.le_of_ble_eq_true rfl) (by simp) ?_
  refine r_aload_n dX6_passWeek_0 rfl ?_
  obtain ⟨q1, h2, hf⟩ := bnd hf
  refine r_callVv (st := []) (as := []) dX6_passWeek_1 ms_X9_beginWeek ⟨rfl, w3_37, w3_30, w3_31⟩ (ok_X9_beginWeek h2) (c_X9_beginWeek h2) rfl ⟨by omega, by omega⟩ (Nat.le_of_ble_eq_true rfl) (by decide) (by decide) rfl ?_
  refine r_iconst (v := 0) dX6_passWeek_4 (by decide) ?_
  refine r_istore_n (lv' := [.ref l0, .ref l1, .int 0]) dX6_passWeek_5 (by decide) rfl rfl ?_
  exact t_X6_passWeek_6 FU _ _ _ _ _ hf
def f_X6_richest_29 (k4 : Mm → Nat → Int32 → Int32 → Option (Int32 × Mm)) (S : Mm) (l0 : Nat) (l1 : Int32) (l2 : Int32) : Option (Int32 × Mm) := k4 S l0 l1 (l2 + 1)
def f_X6_richest_4 : Nat → Mm → Nat → Int32 → Int32 → Option (Int32 × Mm)
  | 0, _, _, _, _ => none
  | n + 1, S, l0, l1, l2 => (gI S 6 l0 1).bind fun x1 => (if x1 ≤ l2 then some (l1, S) else (gR S 6 l0 2).bind fun x4 => (aI S x4 l2).bind fun x6 => (gR S 6 l0 2).bind fun x8 => (aI S x8 l1).bind fun x10 => (if x6 ≤ x10 then f_X6_richest_29 (f_X6_richest_4 n) S l0 l1 l2 else f_X6_richest_29 (f_X6_richest_4 n) S l0 l2 l2))
def f_X6_richest (S : Mm) (l0 : Nat) : Option (Int32 × Mm) := if okc S l0 6 = true then f_X6_richest_4 FU S l0 0 1 else none
set_option maxRecDepth 20000 in
theorem t_X6_richest_29 {G : Gt} {l : Launch} (k4 : Mm → Nat → Int32 → Int32 → Option (Int32 × Mm)) (hk4 : ∀ (S : Mm) (l0 : Nat) (l1 : Int32) (l2 : Int32) (T : (Int32 × Mm)), k4 S l0 l1 l2 = some T → Sat G l yX6_richest cX6_richest 3 (some .int) 0 0 0 0 0 4 [.ref l0, .int l1, .int l2] [] S (eI T)) (S : Mm) (l0 : Nat) (l1 : Int32) (l2 : Int32) (T : (Int32 × Mm)) (hf : f_X6_richest_29 k4 S l0 l1 l2 = some T) : Sat G l yX6_richest cX6_richest 3 (some .int) 0 0 0 0 0 29 [.ref l0, .int l1, .int l2] [] S (eI T) := by
  unfold f_X6_richest_29 at hf
  refine r_iinc (v := 1) (lv' := [.ref l0, .int l1, .int (l2 + 1)]) dX6_richest_29 rfl (by decide) (by decide) rfl rfl ?_
  refine r_goto (tgt := 4) dX6_richest_32 (by decide) ?_
  exact hk4 _ _ _ _ _ hf
set_option maxRecDepth 20000 in
theorem t_X6_richest_4 {G : Gt} {l : Launch} : ∀ (n : Nat) (S : Mm) (l0 : Nat) (l1 : Int32) (l2 : Int32) (T : (Int32 × Mm)), f_X6_richest_4 n S l0 l1 l2 = some T → Sat G l yX6_richest cX6_richest 3 (some .int) 0 0 0 0 0 4 [.ref l0, .int l1, .int l2] [] S (eI T) := by
  intro n
  induction n with
  | zero =>
    intro S l0 l1 l2 T hf
    rw [f_X6_richest_4] at hf
    cases hf
  | succ n ih =>
    intro S l0 l1 l2 T hf
    rw [f_X6_richest_4] at hf
    refine r_iload_n dX6_richest_4 rfl ?_
    refine r_aload_n dX6_richest_5 rfl ?_
    obtain ⟨x1, h2, hf⟩ := bnd hf
    refine r_getI dX6_richest_6 fs6_37_6 rfl h2 ?_
    refine r_icmp_ge (tgt := 35) dX6_richest_9 (by decide) (fun c3 => ?_) (fun c3 => ?_)
    · replace hf := (if_pos c3).symm.trans hf
      refine r_iload_n dX6_richest_35 rfl ?_
      have hz := congrArg eI (Option.some.inj hf)
      exact r_ireturn dX6_richest_36 rfl (Nat.le_of_ble_eq_true rfl) (Nat.le_of_ble_eq_true rfl) hz
    · replace hf := (if_neg c3).symm.trans hf
      refine r_aload_n dX6_richest_12 rfl ?_
      obtain ⟨x4, h5, hf⟩ := bnd hf
      refine r_getR dX6_richest_13 fs6_17_6 rfl h5 ?_
      refine r_iload_n dX6_richest_16 rfl ?_
      obtain ⟨x6, h7, hf⟩ := bnd hf
      refine r_iaload dX6_richest_17 h7 ?_
      refine r_aload_n dX6_richest_18 rfl ?_
      obtain ⟨x8, h9, hf⟩ := bnd hf
      refine r_getR dX6_richest_19 fs6_17_6 rfl h9 ?_
      refine r_iload_n dX6_richest_22 rfl ?_
      obtain ⟨x10, h11, hf⟩ := bnd hf
      refine r_iaload dX6_richest_23 h11 ?_
      refine r_icmp_le (tgt := 29) dX6_richest_24 (by decide) (fun c12 => ?_) (fun c12 => ?_)
      · replace hf := (if_pos c12).symm.trans hf
        exact t_X6_richest_29 (f_X6_richest_4 n) ih _ _ _ _ _ hf
      · replace hf := (if_neg c12).symm.trans hf
        refine r_iload_n dX6_richest_27 rfl ?_
        refine r_istore_n (lv' := [.ref l0, .int l2, .int l2]) dX6_richest_28 (by decide) rfl rfl ?_
        exact t_X6_richest_29 (f_X6_richest_4 n) ih _ _ _ _ _ hf
set_option maxRecDepth 20000 in
theorem ok_X6_richest {S : Mm} {l0 : Nat} {T : (Int32 × Mm)} (hf : f_X6_richest S l0 = some T) : okc S l0 6 = true := (oif hf).1
set_option maxRecDepth 20000 in
theorem c_X6_richest {G : Gt} {l : Launch} {S : Mm} {l0 : Nat} {T : (Int32 × Mm)} (hf : f_X6_richest S l0 = some T) : CC G l yX6_richest cX6_richest 3 (some .int) 0 0 0 [.ref l0] S (eI T) := by
  unfold f_X6_richest at hf
  replace hf := (oif hf).2
  refine r_body (by decide) rfl (Nat.le_of_ble_eq_true rfl) (by simp) ?_
  refine r_iconst (v := 0) dX6_richest_0 (by decide) ?_
  refine r_istore_n (lv' := [.ref l0, .int 0, .null]) dX6_richest_1 (by decide) rfl rfl ?_
  refine r_iconst (v := 1) dX6_richest_2 (by decide) ?_
  refine r_istore_n (lv' := [.ref l0, .int 0, .int 1]) dX6_richest_3 (by decide) rfl rfl ?_
  exact t_X6_richest_4 FU _ _ _ _ _ hf
def f_X7_init (S : Mm) (l0 : Nat) : Option Mm := (pR (nC S 100 96) 7 l0 0 (mX S)).bind fun S1 => some S1
set_option maxRecDepth 20000 in
theorem c_X7_init {G : Gt} {l : Launch} {S : Mm} {l0 : Nat} {T : Mm} (hf : f_X7_init S l0 = some T) : CC G l yX7_init cX7_init 1 none 1 1 96 [.ref l0] S (eV T) := by
  unfold f_X7_init at hf
  refine r_body (by decide) rfl (Nat.le_of_ble_eq_true rfl) (by simp) ?_
  refine r_aload_n dX7_init_0 rfl ?_
  refine r_objInit dX7_init_1 ⟨w1_170, w1_22, w1_23⟩ (by decide) (Nat.le_of_ble_eq_true rfl) ?_
  refine r_aload_n dX7_init_4 rfl ?_
  refine r_bipush (v := 96) dX7_init_5 (by decide) ?_
  refine r_newarray (N := 96) dX7_init_7 w1_42 (by decide) (by decide) (by decide) (by decide) (by decide) ?_
  obtain ⟨S1, h2, hf⟩ := bnd hf
  refine r_putFR dX7_init_9 fs7_9_7 (fun _ _ _ h => by cases h; rfl) rfl rfl (fun _ => rfl) (fun _ => rfl) h2 ?_
  have hz := congrArg eV (Option.some.inj hf)
  exact r_return dX7_init_12 rfl (Nat.le_of_ble_eq_true rfl) (Nat.le_of_ble_eq_true rfl) hz
def f_X7_isFull_14 (S : Mm) (s0 : Int32) : Option (Int32 × Mm) := (rB s0).bind fun x1 => some (x1, S)
def f_X7_isFull (S : Mm) (l0 : Nat) : Option (Int32 × Mm) := if okc S l0 7 = true then (gI S 7 l0 1).bind fun x1 => (if x1 < 96 then f_X7_isFull_14 S 0 else f_X7_isFull_14 S 1) else none
set_option maxRecDepth 20000 in
theorem t_X7_isFull_14 {G : Gt} {l : Launch} (S : Mm) (s0 : Int32) (T : (Int32 × Mm)) (hf : f_X7_isFull_14 S s0 = some T) : Sat G l yX7_isFull cX7_isFull 1 (some .boolean) 0 0 0 0 0 14 [.null] [.int s0] S (eI T) := by
  unfold f_X7_isFull_14 at hf
  obtain ⟨x1, h2, hf⟩ := bnd hf
  have hz := congrArg eI (Option.some.inj hf)
  exact r_zreturn dX7_isFull_14 rfl (Nat.le_of_ble_eq_true rfl) (Nat.le_of_ble_eq_true rfl) h2 hz
set_option maxRecDepth 20000 in
theorem ok_X7_isFull {S : Mm} {l0 : Nat} {T : (Int32 × Mm)} (hf : f_X7_isFull S l0 = some T) : okc S l0 7 = true := (oif hf).1
set_option maxRecDepth 20000 in
theorem c_X7_isFull {G : Gt} {l : Launch} {S : Mm} {l0 : Nat} {T : (Int32 × Mm)} (hf : f_X7_isFull S l0 = some T) : CC G l yX7_isFull cX7_isFull 1 (some .boolean) 0 0 0 [.ref l0] S (eI T) := by
  unfold f_X7_isFull at hf
  replace hf := (oif hf).2
  refine r_body (by decide) rfl (Nat.le_of_ble_eq_true rfl) (by simp) ?_
  refine r_aload_n dX7_isFull_0 rfl ?_
  obtain ⟨x1, h2, hf⟩ := bnd hf
  refine r_getI dX7_isFull_1 fs7_15_7 rfl h2 ?_
  refine r_bipush (v := 96) dX7_isFull_4 (by decide) ?_
  refine r_icmp_lt (tgt := 13) dX7_isFull_6 (by decide) (fun c3 => ?_) (fun c3 => ?_)
  · replace hf := (if_pos c3).symm.trans hf
    refine r_iconst (v := 0) dX7_isFull_13 (by decide) ?_
    refine r_lvs (lv' := [.null]) ⟨Or.inr rfl, trivial⟩ ?_
    exact t_X7_isFull_14 _ _ _ hf
  · replace hf := (if_neg c3).symm.trans hf
    refine r_iconst (v := 1) dX7_isFull_9 (by decide) ?_
    refine r_goto (tgt := 14) dX7_isFull_10 (by decide) ?_
    refine r_lvs (lv' := [.null]) ⟨Or.inr rfl, trivial⟩ ?_
    exact t_X7_isFull_14 _ _ _ hf
def f_X7_add_27 (S : Mm)  : Option Mm := some S
def f_X7_add (S : Mm) (l0 : Nat) (l1 : Int32) : Option Mm := if okc S l0 7 = true then (f_X7_isFull S l0).bind fun q1 => (if q1.1 = 0 then (gR q1.2 7 l0 0).bind fun x4 => (gI q1.2 7 l0 1).bind fun x6 => (aS q1.2 x4 x6 l1).bind fun S8 => (gI S8 7 l0 1).bind fun x10 => (pI S8 7 l0 1 (x10 + 1)).bind fun S12 => f_X7_add_27 S12 else f_X7_add_27 q1.2) else none
set_option maxRecDepth 20000 in
theorem t_X7_add_27 {G : Gt} {l : Launch} (S : Mm)  (T : Mm) (hf : f_X7_add_27 S  = some T) : Sat G l yX7_add cX7_add 2 none 1 0 0 0 0 27 [.null, .null] [] S (eV T) := by
  unfold f_X7_add_27 at hf
  have hz := congrArg eV (Option.some.inj hf)
  exact r_return dX7_add_27 rfl (Nat.le_of_ble_eq_true rfl) (Nat.le_of_ble_eq_true rfl) hz
set_option maxRecDepth 20000 in
theorem ok_X7_add {S : Mm} {l0 : Nat} {l1 : Int32} {T : Mm} (hf : f_X7_add S l0 l1 = some T) : okc S l0 7 = true := (oif hf).1
set_option maxRecDepth 20000 in
theorem c_X7_add {G : Gt} {l : Launch} {S : Mm} {l0 : Nat} {l1 : Int32} {T : Mm} (hf : f_X7_add S l0 l1 = some T) : CC G l yX7_add cX7_add 2 none 1 0 0 [.ref l0, .int l1] S (eV T) := by
  unfold f_X7_add at hf
  replace hf := (oif hf).2
  refine r_body (by decide) rfl (Nat.le_of_ble_eq_true rfl) (by simp) ?_
  refine r_aload_n dX7_add_0 rfl ?_
  obtain ⟨q1, h2, hf⟩ := bnd hf
  refine r_callVi (st := []) (as := []) dX7_add_1 ms_X7_isFull ⟨rfl, w1_226, w1_219, w1_220⟩ (ok_X7_isFull h2) (c_X7_isFull h2) rfl ⟨by omega, by omega⟩ (Nat.le_of_ble_eq_true rfl) (by decide) (by decide) rfl ?_
  refine r_if_ne (tgt := 27) dX7_add_4 (by decide) (fun c3 => ?_) (fun c3 => ?_)
  · replace hf := (if_neg c3).symm.trans hf
    refine r_lvs (lv' := [.null, .null]) ⟨Or.inr rfl, Or.inr rfl, trivial⟩ ?_
    exact t_X7_add_27 _ _ hf
  · replace hf := (if_pos c3).symm.trans hf
    refine r_aload_n dX7_add_7 rfl ?_
    obtain ⟨x4, h5, hf⟩ := bnd hf
    refine r_getR dX7_add_8 fs7_9_7 rfl h5 ?_
    refine r_aload_n dX7_add_11 rfl ?_
    obtain ⟨x6, h7, hf⟩ := bnd hf
    refine r_getI dX7_add_12 fs7_15_7 rfl h7 ?_
    refine r_iload_n dX7_add_15 rfl ?_
    obtain ⟨S8, h9, hf⟩ := bnd hf
    refine r_iastore dX7_add_16 h9 ?_
    refine r_aload_n dX7_add_17 rfl ?_
    refine r_dup dX7_add_18 rfl ?_
    obtain ⟨x10, h11, hf⟩ := bnd hf
    refine r_getI dX7_add_19 fs7_15_7 rfl h11 ?_
    refine r_iconst (v := 1) dX7_add_22 (by decide) ?_
    refine r_iadd dX7_add_23 ?_
    obtain ⟨S12, h13, hf⟩ := bnd hf
    refine r_putI dX7_add_24 fs7_15_7 rfl h13 ?_
    refine r_lvs (lv' := [.null, .null]) ⟨Or.inr rfl, Or.inr rfl, trivial⟩ ?_
    exact t_X7_add_27 _ _ hf
def f_X7_mostDigits (S : Mm) (l0 : Int32) : Option (Int32 × Mm) := (if l0 = 100 then some (4, S) else (if l0 = 104 then some (11, S) else (if l0 = 108 then some (1, S) else (if l0 = 112 then some (2, S) else some (0, S)))))
set_option maxRecDepth 20000 in
theorem c_X7_mostDigits {G : Gt} {l : Launch} {S : Mm} {l0 : Int32} {T : (Int32 × Mm)} (hf : f_X7_mostDigits S l0 = some T) : CC G l yX7_mostDigits cX7_mostDigits 1 (some .int) 0 0 0 [.int l0] S (eI T) := by
  unfold f_X7_mostDigits at hf
  refine r_body (by decide) rfl (Nat.le_of_ble_eq_true rfl) (by simp) ?_
  refine r_iload_n dX7_mostDigits_0 rfl ?_
  by_cases c1 : l0 = 100
  · replace hf := (if_pos c1).symm.trans hf
    refine r_lsIn (k := 100) (off := 50) (tgt := 51) dX7_mostDigits_1 (by decide) c1 (by decide) (by decide) ?_
    refine r_iconst (v := 4) dX7_mostDigits_51 (by decide) ?_
    have hz := congrArg eI (Option.some.inj hf)
    exact r_ireturn dX7_mostDigits_52 rfl (Nat.le_of_ble_eq_true rfl) (Nat.le_of_ble_eq_true rfl) hz
  replace hf := (if_neg c1).symm.trans hf
  by_cases c2 : l0 = 104
  · replace hf := (if_pos c2).symm.trans hf
    refine r_lsIn (k := 104) (off := 43) (tgt := 44) dX7_mostDigits_1 (by decide) c2 (by decide) (by decide) ?_
    refine r_bipush (v := 11) dX7_mostDigits_44 (by decide) ?_
    have hz := congrArg eI (Option.some.inj hf)
    exact r_ireturn dX7_mostDigits_46 rfl (Nat.le_of_ble_eq_true rfl) (Nat.le_of_ble_eq_true rfl) hz
  replace hf := (if_neg c2).symm.trans hf
  by_cases c3 : l0 = 108
  · replace hf := (if_pos c3).symm.trans hf
    refine r_lsIn (k := 108) (off := 48) (tgt := 49) dX7_mostDigits_1 (by decide) c3 (by decide) (by decide) ?_
    refine r_iconst (v := 1) dX7_mostDigits_49 (by decide) ?_
    have hz := congrArg eI (Option.some.inj hf)
    exact r_ireturn dX7_mostDigits_50 rfl (Nat.le_of_ble_eq_true rfl) (Nat.le_of_ble_eq_true rfl) hz
  replace hf := (if_neg c3).symm.trans hf
  by_cases c4 : l0 = 112
  · replace hf := (if_pos c4).symm.trans hf
    refine r_lsIn (k := 112) (off := 46) (tgt := 47) dX7_mostDigits_1 (by decide) c4 (by decide) (by decide) ?_
    refine r_iconst (v := 2) dX7_mostDigits_47 (by decide) ?_
    have hz := congrArg eI (Option.some.inj hf)
    exact r_ireturn dX7_mostDigits_48 rfl (Nat.le_of_ble_eq_true rfl) (Nat.le_of_ble_eq_true rfl) hz
  replace hf := (if_neg c4).symm.trans hf
  refine r_lsOut (ks := [100, 104, 108, 112]) (tgt := 53) dX7_mostDigits_1 (by decide) (by decide) (by simp only [List.mem_cons, List.not_mem_nil, or_false, not_or]; exact ⟨c1, c2, c3, c4⟩) (by decide) ?_
  refine r_iconst (v := 0) dX7_mostDigits_53 (by decide) ?_
  have hz := congrArg eI (Option.some.inj hf)
  exact r_ireturn dX7_mostDigits_54 rfl (Nat.le_of_ble_eq_true rfl) (Nat.le_of_ble_eq_true rfl) hz
def f_X7_endOfDigits_45 (S : Mm) (l3 : Int32) : Option (Int32 × Mm) := some (l3, S)
def f_X7_endOfDigits_2 : Nat → Mm → Nat → Int32 → Int32 → Int32 → Option (Int32 × Mm)
  | 0, _, _, _, _, _ => none
  | n + 1, S, l0, l1, l2, l3 => (gI S 7 l0 1).bind fun x1 => (if x1 ≤ l3 then f_X7_endOfDigits_45 S l3 else (if l2 ≤ (l3 - l1) then f_X7_endOfDigits_45 S l3 else (gR S 7 l0 0).bind fun x5 => (aI S x5 l3).bind fun x7 => (if x7 < 48 then f_X7_endOfDigits_45 S l3 else (gR S 7 l0 0).bind fun x10 => (aI S x10 l3).bind fun x12 => (if 57 < x12 then f_X7_endOfDigits_45 S l3 else (f_X7_endOfDigits_2 n) S l0 l1 l2 (l3 + 1)))))
def f_X7_endOfDigits (S : Mm) (l0 : Nat) (l1 : Int32) (l2 : Int32) : Option (Int32 × Mm) := if okc S l0 7 = true then f_X7_endOfDigits_2 FU S l0 l1 l2 l1 else none
set_option maxRecDepth 20000 in
theorem t_X7_endOfDigits_45 {G : Gt} {l : Launch} (S : Mm) (l3 : Int32) (T : (Int32 × Mm)) (hf : f_X7_endOfDigits_45 S l3 = some T) : Sat G l yX7_endOfDigits cX7_endOfDigits 4 (some .int) 0 0 0 0 0 45 [.null, .null, .null, .int l3] [] S (eI T) := by
  unfold f_X7_endOfDigits_45 at hf
  refine r_iload_n dX7_endOfDigits_45 rfl ?_
  have hz := congrArg eI (Option.some.inj hf)
  exact r_ireturn dX7_endOfDigits_46 rfl (Nat.le_of_ble_eq_true rfl) (Nat.le_of_ble_eq_true rfl) hz
set_option maxRecDepth 20000 in
theorem t_X7_endOfDigits_2 {G : Gt} {l : Launch} : ∀ (n : Nat) (S : Mm) (l0 : Nat) (l1 : Int32) (l2 : Int32) (l3 : Int32) (T : (Int32 × Mm)), f_X7_endOfDigits_2 n S l0 l1 l2 l3 = some T → Sat G l yX7_endOfDigits cX7_endOfDigits 4 (some .int) 0 0 0 0 0 2 [.ref l0, .int l1, .int l2, .int l3] [] S (eI T) := by
  intro n
  induction n with
  | zero =>
    intro S l0 l1 l2 l3 T hf
    rw [f_X7_endOfDigits_2] at hf
    cases hf
  | succ n ih =>
    intro S l0 l1 l2 l3 T hf
    rw [f_X7_endOfDigits_2] at hf
    refine r_iload_n dX7_endOfDigits_2 rfl ?_
    refine r_aload_n dX7_endOfDigits_3 rfl ?_
    obtain ⟨x1, h2, hf⟩ := bnd hf
    refine r_getI dX7_endOfDigits_4 fs7_15_7 rfl h2 ?_
    refine r_icmp_ge (tgt := 45) dX7_endOfDigits_7 (by decide) (fun c3 => ?_) (fun c3 => ?_)
    · replace hf := (if_pos c3).symm.trans hf
      refine r_lvs (lv' := [.null, .null, .null, .int l3]) ⟨Or.inr rfl, Or.inr rfl, Or.inr rfl, Or.inl rfl, trivial⟩ ?_
      exact t_X7_endOfDigits_45 _ _ _ hf
    · replace hf := (if_neg c3).symm.trans hf
      refine r_iload_n dX7_endOfDigits_10 rfl ?_
      refine r_iload_n dX7_endOfDigits_11 rfl ?_
      refine r_isub dX7_endOfDigits_12 ?_
      refine r_iload_n dX7_endOfDigits_13 rfl ?_
      refine r_icmp_ge (tgt := 45) dX7_endOfDigits_14 (by decide) (fun c4 => ?_) (fun c4 => ?_)
      · replace hf := (if_pos c4).symm.trans hf
        refine r_lvs (lv' := [.null, .null, .null, .int l3]) ⟨Or.inr rfl, Or.inr rfl, Or.inr rfl, Or.inl rfl, trivial⟩ ?_
        exact t_X7_endOfDigits_45 _ _ _ hf
      · replace hf := (if_neg c4).symm.trans hf
        refine r_aload_n dX7_endOfDigits_17 rfl ?_
        obtain ⟨x5, h6, hf⟩ := bnd hf
        refine r_getR dX7_endOfDigits_18 fs7_9_7 rfl h6 ?_
        refine r_iload_n dX7_endOfDigits_21 rfl ?_
        obtain ⟨x7, h8, hf⟩ := bnd hf
        refine r_iaload dX7_endOfDigits_22 h8 ?_
        refine r_bipush (v := 48) dX7_endOfDigits_23 (by decide) ?_
        refine r_icmp_lt (tgt := 45) dX7_endOfDigits_25 (by decide) (fun c9 => ?_) (fun c9 => ?_)
        · replace hf := (if_pos c9).symm.trans hf
          refine r_lvs (lv' := [.null, .null, .null, .int l3]) ⟨Or.inr rfl, Or.inr rfl, Or.inr rfl, Or.inl rfl, trivial⟩ ?_
          exact t_X7_endOfDigits_45 _ _ _ hf
        · replace hf := (if_neg c9).symm.trans hf
          refine r_aload_n dX7_endOfDigits_28 rfl ?_
          obtain ⟨x10, h11, hf⟩ := bnd hf
          refine r_getR dX7_endOfDigits_29 fs7_9_7 rfl h11 ?_
          refine r_iload_n dX7_endOfDigits_32 rfl ?_
          obtain ⟨x12, h13, hf⟩ := bnd hf
          refine r_iaload dX7_endOfDigits_33 h13 ?_
          refine r_bipush (v := 57) dX7_endOfDigits_34 (by decide) ?_
          refine r_icmp_gt (tgt := 45) dX7_endOfDigits_36 (by decide) (fun c14 => ?_) (fun c14 => ?_)
          · replace hf := (if_pos c14).symm.trans hf
            refine r_lvs (lv' := [.null, .null, .null, .int l3]) ⟨Or.inr rfl, Or.inr rfl, Or.inr rfl, Or.inl rfl, trivial⟩ ?_
            exact t_X7_endOfDigits_45 _ _ _ hf
          · replace hf := (if_neg c14).symm.trans hf
            refine r_iinc (v := 1) (lv' := [.ref l0, .int l1, .int l2, .int (l3 + 1)]) dX7_endOfDigits_39 rfl (by decide) (by decide) rfl rfl ?_
            refine r_goto (tgt := 2) dX7_endOfDigits_42 (by decide) ?_
            exact ih _ _ _ _ _ _ hf
set_option maxRecDepth 20000 in
theorem ok_X7_endOfDigits {S : Mm} {l0 : Nat} {l1 : Int32} {l2 : Int32} {T : (Int32 × Mm)} (hf : f_X7_endOfDigits S l0 l1 l2 = some T) : okc S l0 7 = true := (oif hf).1
set_option maxRecDepth 20000 in
theorem c_X7_endOfDigits {G : Gt} {l : Launch} {S : Mm} {l0 : Nat} {l1 : Int32} {l2 : Int32} {T : (Int32 × Mm)} (hf : f_X7_endOfDigits S l0 l1 l2 = some T) : CC G l yX7_endOfDigits cX7_endOfDigits 4 (some .int) 0 0 0 [.ref l0, .int l1, .int l2] S (eI T) := by
  unfold f_X7_endOfDigits at hf
  replace hf := (oif hf).2
  refine r_body (by decide) rfl (Nat.le_of_ble_eq_true rfl) (by simp) ?_
  refine r_iload_n dX7_endOfDigits_0 rfl ?_
  refine r_istore_n (lv' := [.ref l0, .int l1, .int l2, .int l1]) dX7_endOfDigits_1 (by decide) rfl rfl ?_
  exact t_X7_endOfDigits_2 FU _ _ _ _ _ _ hf
def f_X7_leastDigits (S : Mm) (l0 : Int32) : Option (Int32 × Mm) := (if l0 = 100 then some (3, S) else (if l0 = 104 then some (9, S) else (if l0 = 108 then some (1, S) else (if l0 = 112 then some (2, S) else some (0, S)))))
set_option maxRecDepth 20000 in
theorem c_X7_leastDigits {G : Gt} {l : Launch} {S : Mm} {l0 : Int32} {T : (Int32 × Mm)} (hf : f_X7_leastDigits S l0 = some T) : CC G l yX7_leastDigits cX7_leastDigits 1 (some .int) 0 0 0 [.int l0] S (eI T) := by
  unfold f_X7_leastDigits at hf
  refine r_body (by decide) rfl (Nat.le_of_ble_eq_true rfl) (by simp) ?_
  refine r_iload_n dX7_leastDigits_0 rfl ?_
  by_cases c1 : l0 = 100
  · replace hf := (if_pos c1).symm.trans hf
    refine r_lsIn (k := 100) (off := 50) (tgt := 51) dX7_leastDigits_1 (by decide) c1 (by decide) (by decide) ?_
    refine r_iconst (v := 3) dX7_leastDigits_51 (by decide) ?_
    have hz := congrArg eI (Option.some.inj hf)
    exact r_ireturn dX7_leastDigits_52 rfl (Nat.le_of_ble_eq_true rfl) (Nat.le_of_ble_eq_true rfl) hz
  replace hf := (if_neg c1).symm.trans hf
  by_cases c2 : l0 = 104
  · replace hf := (if_pos c2).symm.trans hf
    refine r_lsIn (k := 104) (off := 43) (tgt := 44) dX7_leastDigits_1 (by decide) c2 (by decide) (by decide) ?_
    refine r_bipush (v := 9) dX7_leastDigits_44 (by decide) ?_
    have hz := congrArg eI (Option.some.inj hf)
    exact r_ireturn dX7_leastDigits_46 rfl (Nat.le_of_ble_eq_true rfl) (Nat.le_of_ble_eq_true rfl) hz
  replace hf := (if_neg c2).symm.trans hf
  by_cases c3 : l0 = 108
  · replace hf := (if_pos c3).symm.trans hf
    refine r_lsIn (k := 108) (off := 48) (tgt := 49) dX7_leastDigits_1 (by decide) c3 (by decide) (by decide) ?_
    refine r_iconst (v := 1) dX7_leastDigits_49 (by decide) ?_
    have hz := congrArg eI (Option.some.inj hf)
    exact r_ireturn dX7_leastDigits_50 rfl (Nat.le_of_ble_eq_true rfl) (Nat.le_of_ble_eq_true rfl) hz
  replace hf := (if_neg c3).symm.trans hf
  by_cases c4 : l0 = 112
  · replace hf := (if_pos c4).symm.trans hf
    refine r_lsIn (k := 112) (off := 46) (tgt := 47) dX7_leastDigits_1 (by decide) c4 (by decide) (by decide) ?_
    refine r_iconst (v := 2) dX7_leastDigits_47 (by decide) ?_
    have hz := congrArg eI (Option.some.inj hf)
    exact r_ireturn dX7_leastDigits_48 rfl (Nat.le_of_ble_eq_true rfl) (Nat.le_of_ble_eq_true rfl) hz
  replace hf := (if_neg c4).symm.trans hf
  refine r_lsOut (ks := [100, 104, 108, 112]) (tgt := 53) dX7_leastDigits_1 (by decide) (by decide) (by simp only [List.mem_cons, List.not_mem_nil, or_false, not_or]; exact ⟨c1, c2, c3, c4⟩) (by decide) ?_
  refine r_iconst (v := 0) dX7_leastDigits_53 (by decide) ?_
  have hz := congrArg eI (Option.some.inj hf)
  exact r_ireturn dX7_leastDigits_54 rfl (Nat.le_of_ble_eq_true rfl) (Nat.le_of_ble_eq_true rfl) hz
def f_X7_firstWrongPlace_92 (S : Mm) (l3 : Int32) : Option (Int32 × Mm) := some (l3, S)
def f_X7_firstWrongPlace_66 (k11 : Mm → Nat → Int32 → Option (Int32 × Mm)) (S : Mm) (l0 : Nat) (l3 : Int32) (s0 : Int32) : Option (Int32 × Mm) := (if s0 = 0 then f_X7_firstWrongPlace_92 S l3 else (gI S 7 l0 1).bind fun x2 => (if x2 ≤ l3 then f_X7_firstWrongPlace_92 S l3 else (gR S 7 l0 0).bind fun x5 => (aI S x5 l3).bind fun x7 => (if x7 = 59 then k11 S l0 (l3 + 1) else f_X7_firstWrongPlace_92 S l3)))
def f_X7_firstWrongPlace_11 : Nat → Mm → Nat → Int32 → Option (Int32 × Mm)
  | 0, _, _, _ => none
  | n + 1, S, l0, l1 => (gI S 7 l0 1).bind fun x1 => (if x1 ≤ l1 then some ((-1), S) else (gR S 7 l0 0).bind fun x4 => (aI S x4 l1).bind fun x6 => (f_X7_mostDigits S x6).bind fun q8 => (if q8.1 = 0 then some (l1, q8.2) else (f_X7_endOfDigits q8.2 l0 (l1 + 1) q8.1).bind fun q11 => (gR q11.2 7 l0 0).bind fun x13 => (aI q11.2 x13 l1).bind fun x15 => (f_X7_leastDigits q11.2 x15).bind fun q17 => (if ((q11.1 - l1) - 1) < q17.1 then f_X7_firstWrongPlace_66 (f_X7_firstWrongPlace_11 n) q17.2 l0 q11.1 0 else f_X7_firstWrongPlace_66 (f_X7_firstWrongPlace_11 n) q17.2 l0 q11.1 1)))
def f_X7_firstWrongPlace (S : Mm) (l0 : Nat) : Option (Int32 × Mm) := if okc S l0 7 = true then (gI S 7 l0 1).bind fun x1 => (if x1 = 0 then some (0, S) else f_X7_firstWrongPlace_11 FU S l0 0) else none
set_option maxRecDepth 20000 in
theorem t_X7_firstWrongPlace_92 {G : Gt} {l : Launch} (S : Mm) (l3 : Int32) (T : (Int32 × Mm)) (hf : f_X7_firstWrongPlace_92 S l3 = some T) : Sat G l yX7_firstWrongPlace cX7_firstWrongPlace 5 (some .int) 1 0 0 0 0 92 [.null, .null, .null, .int l3, .null] [] S (eI T) := by
  unfold f_X7_firstWrongPlace_92 at hf
  refine r_iload_n dX7_firstWrongPlace_92 rfl ?_
  have hz := congrArg eI (Option.some.inj hf)
  exact r_ireturn dX7_firstWrongPlace_93 rfl (Nat.le_of_ble_eq_true rfl) (Nat.le_of_ble_eq_true rfl) hz
set_option maxRecDepth 20000 in
theorem t_X7_firstWrongPlace_66 {G : Gt} {l : Launch} (k11 : Mm → Nat → Int32 → Option (Int32 × Mm)) (hk11 : ∀ (S : Mm) (l0 : Nat) (l1 : Int32) (T : (Int32 × Mm)), k11 S l0 l1 = some T → Sat G l yX7_firstWrongPlace cX7_firstWrongPlace 5 (some .int) 1 0 0 0 0 11 [.ref l0, .int l1, .null, .null, .null] [] S (eI T)) (S : Mm) (l0 : Nat) (l3 : Int32) (s0 : Int32) (T : (Int32 × Mm)) (hf : f_X7_firstWrongPlace_66 k11 S l0 l3 s0 = some T) : Sat G l yX7_firstWrongPlace cX7_firstWrongPlace 5 (some .int) 1 0 0 0 0 66 [.ref l0, .null, .null, .int l3, .null] [.int s0] S (eI T) := by
  unfold f_X7_firstWrongPlace_66 at hf
  refine r_istore (lv' := [.ref l0, .null, .null, .int l3, .int s0]) dX7_firstWrongPlace_66 (by decide) rfl rfl ?_
  refine r_iload dX7_firstWrongPlace_68 rfl ?_
  refine r_if_eq (tgt := 92) dX7_firstWrongPlace_70 (by decide) (fun c1 => ?_) (fun c1 => ?_)
  · replace hf := (if_pos c1).symm.trans hf
    refine r_lvs (lv' := [.null, .null, .null, .int l3, .null]) ⟨Or.inr rfl, Or.inl rfl, Or.inl rfl, Or.inl rfl, Or.inr rfl, trivial⟩ ?_
    exact t_X7_firstWrongPlace_92 _ _ _ hf
  · replace hf := (if_neg c1).symm.trans hf
    refine r_iload_n dX7_firstWrongPlace_73 rfl ?_
    refine r_aload_n dX7_firstWrongPlace_74 rfl ?_
    obtain ⟨x2, h3, hf⟩ := bnd hf
    refine r_getI dX7_firstWrongPlace_75 fs7_15_7 rfl h3 ?_
    refine r_icmp_ge (tgt := 92) dX7_firstWrongPlace_78 (by decide) (fun c4 => ?_) (fun c4 => ?_)
    · replace hf := (if_pos c4).symm.trans hf
      refine r_lvs (lv' := [.null, .null, .null, .int l3, .null]) ⟨Or.inr rfl, Or.inl rfl, Or.inl rfl, Or.inl rfl, Or.inr rfl, trivial⟩ ?_
      exact t_X7_firstWrongPlace_92 _ _ _ hf
    · replace hf := (if_neg c4).symm.trans hf
      refine r_aload_n dX7_firstWrongPlace_81 rfl ?_
      obtain ⟨x5, h6, hf⟩ := bnd hf
      refine r_getR dX7_firstWrongPlace_82 fs7_9_7 rfl h6 ?_
      refine r_iload_n dX7_firstWrongPlace_85 rfl ?_
      obtain ⟨x7, h8, hf⟩ := bnd hf
      refine r_iaload dX7_firstWrongPlace_86 h8 ?_
      refine r_bipush (v := 59) dX7_firstWrongPlace_87 (by decide) ?_
      refine r_icmp_eq (tgt := 94) dX7_firstWrongPlace_89 (by decide) (fun c9 => ?_) (fun c9 => ?_)
      · replace hf := (if_pos c9).symm.trans hf
        refine r_iload_n dX7_firstWrongPlace_94 rfl ?_
        refine r_iconst (v := 1) dX7_firstWrongPlace_95 (by decide) ?_
        refine r_iadd dX7_firstWrongPlace_96 ?_
        refine r_istore_n (lv' := [.ref l0, .int (l3 + 1), .null, .int l3, .int s0]) dX7_firstWrongPlace_97 (by decide) rfl rfl ?_
        refine r_goto (tgt := 11) dX7_firstWrongPlace_98 (by decide) ?_
        refine r_lvs (lv' := [.ref l0, .int (l3 + 1), .null, .null, .null]) ⟨Or.inl rfl, Or.inl rfl, Or.inl rfl, Or.inr rfl, Or.inr rfl, trivial⟩ ?_
        exact hk11 _ _ _ _ hf
      · replace hf := (if_neg c9).symm.trans hf
        refine r_lvs (lv' := [.null, .null, .null, .int l3, .null]) ⟨Or.inr rfl, Or.inl rfl, Or.inl rfl, Or.inl rfl, Or.inr rfl, trivial⟩ ?_
        exact t_X7_firstWrongPlace_92 _ _ _ hf
set_option maxRecDepth 20000 in
theorem t_X7_firstWrongPlace_11 {G : Gt} {l : Launch} : ∀ (n : Nat) (S : Mm) (l0 : Nat) (l1 : Int32) (T : (Int32 × Mm)), f_X7_firstWrongPlace_11 n S l0 l1 = some T → Sat G l yX7_firstWrongPlace cX7_firstWrongPlace 5 (some .int) 1 0 0 0 0 11 [.ref l0, .int l1, .null, .null, .null] [] S (eI T) := by
  intro n
  induction n with
  | zero =>
    intro S l0 l1 T hf
    rw [f_X7_firstWrongPlace_11] at hf
    cases hf
  | succ n ih =>
    intro S l0 l1 T hf
    rw [f_X7_firstWrongPlace_11] at hf
    refine r_iload_n dX7_firstWrongPlace_11 rfl ?_
    refine r_aload_n dX7_firstWrongPlace_12 rfl ?_
    obtain ⟨x1, h2, hf⟩ := bnd hf
    refine r_getI dX7_firstWrongPlace_13 fs7_15_7 rfl h2 ?_
    refine r_icmp_ge (tgt := 101) dX7_firstWrongPlace_16 (by decide) (fun c3 => ?_) (fun c3 => ?_)
    · replace hf := (if_pos c3).symm.trans hf
      refine r_iconst (v := (-1)) dX7_firstWrongPlace_101 (by decide) ?_
      have hz := congrArg eI (Option.some.inj hf)
      exact r_ireturn dX7_firstWrongPlace_102 rfl (Nat.le_of_ble_eq_true rfl) (Nat.le_of_ble_eq_true rfl) hz
    · replace hf := (if_neg c3).symm.trans hf
      refine r_aload_n dX7_firstWrongPlace_19 rfl ?_
      obtain ⟨x4, h5, hf⟩ := bnd hf
      refine r_getR dX7_firstWrongPlace_20 fs7_9_7 rfl h5 ?_
      refine r_iload_n dX7_firstWrongPlace_23 rfl ?_
      obtain ⟨x6, h7, hf⟩ := bnd hf
      refine r_iaload dX7_firstWrongPlace_24 h7 ?_
      obtain ⟨q8, h9, hf⟩ := bnd hf
      refine r_callSi (st := []) (as := [.int x6]) dX7_firstWrongPlace_25 ms_X7_mostDigits ⟨w2_11, w2_12⟩ (c_X7_mostDigits h9) rfl ⟨by omega, by omega⟩ (Nat.le_of_ble_eq_true rfl) (by decide) (by decide) rfl ?_
      refine r_istore_n (lv' := [.ref l0, .int l1, .int q8.1, .null, .null]) dX7_firstWrongPlace_28 (by decide) rfl rfl ?_
      refine r_iload_n dX7_firstWrongPlace_29 rfl ?_
      refine r_if_ne (tgt := 35) dX7_firstWrongPlace_30 (by decide) (fun c10 => ?_) (fun c10 => ?_)
      · replace hf := (if_neg c10).symm.trans hf
        refine r_aload_n dX7_firstWrongPlace_35 rfl ?_
        refine r_iload_n dX7_firstWrongPlace_36 rfl ?_
        refine r_iconst (v := 1) dX7_firstWrongPlace_37 (by decide) ?_
        refine r_iadd dX7_firstWrongPlace_38 ?_
        refine r_iload_n dX7_firstWrongPlace_39 rfl ?_
        obtain ⟨q11, h12, hf⟩ := bnd hf
        refine r_callVi (st := []) (as := [.int (l1 + 1), .int q8.1]) dX7_firstWrongPlace_40 ms_X7_endOfDigits ⟨rfl, w2_14, w2_16, w0_1⟩ (ok_X7_endOfDigits h12) (c_X7_endOfDigits h12) rfl ⟨by omega, by omega⟩ (Nat.le_of_ble_eq_true rfl) (by decide) (by decide) rfl ?_
        refine r_istore_n (lv' := [.ref l0, .int l1, .int q8.1, .int q11.1, .null]) dX7_firstWrongPlace_43 (by decide) rfl rfl ?_
        refine r_iload_n dX7_firstWrongPlace_44 rfl ?_
        refine r_iload_n dX7_firstWrongPlace_45 rfl ?_
        refine r_isub dX7_firstWrongPlace_46 ?_
        refine r_iconst (v := 1) dX7_firstWrongPlace_47 (by decide) ?_
        refine r_isub dX7_firstWrongPlace_48 ?_
        refine r_aload_n dX7_firstWrongPlace_49 rfl ?_
        obtain ⟨x13, h14, hf⟩ := bnd hf
        refine r_getR dX7_firstWrongPlace_50 fs7_9_7 rfl h14 ?_
        refine r_iload_n dX7_firstWrongPlace_53 rfl ?_
        obtain ⟨x15, h16, hf⟩ := bnd hf
        refine r_iaload dX7_firstWrongPlace_54 h16 ?_
        obtain ⟨q17, h18, hf⟩ := bnd hf
        refine r_callSi (st := [.int ((q11.1 - l1) - 1)]) (as := [.int x15]) dX7_firstWrongPlace_55 ms_X7_leastDigits ⟨w2_18, w2_19⟩ (c_X7_leastDigits h18) rfl ⟨by omega, by omega⟩ (Nat.le_of_ble_eq_true rfl) (by decide) (by decide) rfl ?_
        refine r_icmp_lt (tgt := 65) dX7_firstWrongPlace_58 (by decide) (fun c19 => ?_) (fun c19 => ?_)
        · replace hf := (if_pos c19).symm.trans hf
          refine r_iconst (v := 0) dX7_firstWrongPlace_65 (by decide) ?_
          refine r_lvs (lv' := [.ref l0, .null, .null, .int q11.1, .null]) ⟨Or.inl rfl, Or.inr rfl, Or.inr rfl, Or.inl rfl, Or.inl rfl, trivial⟩ ?_
          exact t_X7_firstWrongPlace_66 (f_X7_firstWrongPlace_11 n) ih _ _ _ _ _ hf
        · replace hf := (if_neg c19).symm.trans hf
          refine r_iconst (v := 1) dX7_firstWrongPlace_61 (by decide) ?_
          refine r_goto (tgt := 66) dX7_firstWrongPlace_62 (by decide) ?_
          refine r_lvs (lv' := [.ref l0, .null, .null, .int q11.1, .null]) ⟨Or.inl rfl, Or.inr rfl, Or.inr rfl, Or.inl rfl, Or.inl rfl, trivial⟩ ?_
          exact t_X7_firstWrongPlace_66 (f_X7_firstWrongPlace_11 n) ih _ _ _ _ _ hf
      · replace hf := (if_pos c10).symm.trans hf
        refine r_iload_n dX7_firstWrongPlace_33 rfl ?_
        have hz := congrArg eI (Option.some.inj hf)
        exact r_ireturn dX7_firstWrongPlace_34 rfl (Nat.le_of_ble_eq_true rfl) (Nat.le_of_ble_eq_true rfl) hz
set_option maxRecDepth 20000 in
theorem ok_X7_firstWrongPlace {S : Mm} {l0 : Nat} {T : (Int32 × Mm)} (hf : f_X7_firstWrongPlace S l0 = some T) : okc S l0 7 = true := (oif hf).1
set_option maxRecDepth 20000 in
theorem c_X7_firstWrongPlace {G : Gt} {l : Launch} {S : Mm} {l0 : Nat} {T : (Int32 × Mm)} (hf : f_X7_firstWrongPlace S l0 = some T) : CC G l yX7_firstWrongPlace cX7_firstWrongPlace 5 (some .int) 1 0 0 [.ref l0] S (eI T) := by
  unfold f_X7_firstWrongPlace at hf
  replace hf := (oif hf).2
  refine r_body (by decide) rfl (Nat.le_of_ble_eq_true rfl) (by simp) ?_
  refine r_aload_n dX7_firstWrongPlace_0 rfl ?_
  obtain ⟨x1, h2, hf⟩ := bnd hf
  refine r_getI dX7_firstWrongPlace_1 fs7_15_7 rfl h2 ?_
  refine r_if_ne (tgt := 9) dX7_firstWrongPlace_4 (by decide) (fun c3 => ?_) (fun c3 => ?_)
  · replace hf := (if_neg c3).symm.trans hf
    refine r_iconst (v := 0) dX7_firstWrongPlace_9 (by decide) ?_
    refine r_istore_n (lv' := [.ref l0, .int 0, .null, .null, .null]) dX7_firstWrongPlace_10 (by decide) rfl rfl ?_
    exact t_X7_firstWrongPlace_11 FU _ _ _ _ hf
  · replace hf := (if_pos c3).symm.trans hf
    refine r_iconst (v := 0) dX7_firstWrongPlace_7 (by decide) ?_
    have hz := congrArg eI (Option.some.inj hf)
    exact r_ireturn dX7_firstWrongPlace_8 rfl (Nat.le_of_ble_eq_true rfl) (Nat.le_of_ble_eq_true rfl) hz
def f_X7_endOfStatement_27 (S : Mm) (l2 : Int32) : Option (Int32 × Mm) := some (l2, S)
def f_X7_endOfStatement_2 : Nat → Mm → Nat → Int32 → Option (Int32 × Mm)
  | 0, _, _, _ => none
  | n + 1, S, l0, l2 => (gI S 7 l0 1).bind fun x1 => (if x1 ≤ l2 then f_X7_endOfStatement_27 S l2 else (gR S 7 l0 0).bind fun x4 => (aI S x4 l2).bind fun x6 => (if x6 = 59 then f_X7_endOfStatement_27 S l2 else (f_X7_endOfStatement_2 n) S l0 (l2 + 1)))
def f_X7_endOfStatement (S : Mm) (l0 : Nat) (l1 : Int32) : Option (Int32 × Mm) := if okc S l0 7 = true then f_X7_endOfStatement_2 FU S l0 l1 else none
set_option maxRecDepth 20000 in
theorem t_X7_endOfStatement_27 {G : Gt} {l : Launch} (S : Mm) (l2 : Int32) (T : (Int32 × Mm)) (hf : f_X7_endOfStatement_27 S l2 = some T) : Sat G l yX7_endOfStatement cX7_endOfStatement 3 (some .int) 0 0 0 0 0 27 [.null, .null, .int l2] [] S (eI T) := by
  unfold f_X7_endOfStatement_27 at hf
  refine r_iload_n dX7_endOfStatement_27 rfl ?_
  have hz := congrArg eI (Option.some.inj hf)
  exact r_ireturn dX7_endOfStatement_28 rfl (Nat.le_of_ble_eq_true rfl) (Nat.le_of_ble_eq_true rfl) hz
set_option maxRecDepth 20000 in
theorem t_X7_endOfStatement_2 {G : Gt} {l : Launch} : ∀ (n : Nat) (S : Mm) (l0 : Nat) (l2 : Int32) (T : (Int32 × Mm)), f_X7_endOfStatement_2 n S l0 l2 = some T → Sat G l yX7_endOfStatement cX7_endOfStatement 3 (some .int) 0 0 0 0 0 2 [.ref l0, .null, .int l2] [] S (eI T) := by
  intro n
  induction n with
  | zero =>
    intro S l0 l2 T hf
    rw [f_X7_endOfStatement_2] at hf
    cases hf
  | succ n ih =>
    intro S l0 l2 T hf
    rw [f_X7_endOfStatement_2] at hf
    refine r_iload_n dX7_endOfStatement_2 rfl ?_
    refine r_aload_n dX7_endOfStatement_3 rfl ?_
    obtain ⟨x1, h2, hf⟩ := bnd hf
    refine r_getI dX7_endOfStatement_4 fs7_15_7 rfl h2 ?_
    refine r_icmp_ge (tgt := 27) dX7_endOfStatement_7 (by decide) (fun c3 => ?_) (fun c3 => ?_)
    · replace hf := (if_pos c3).symm.trans hf
      refine r_lvs (lv' := [.null, .null, .int l2]) ⟨Or.inr rfl, Or.inl rfl, Or.inl rfl, trivial⟩ ?_
      exact t_X7_endOfStatement_27 _ _ _ hf
    · replace hf := (if_neg c3).symm.trans hf
      refine r_aload_n dX7_endOfStatement_10 rfl ?_
      obtain ⟨x4, h5, hf⟩ := bnd hf
      refine r_getR dX7_endOfStatement_11 fs7_9_7 rfl h5 ?_
      refine r_iload_n dX7_endOfStatement_14 rfl ?_
      obtain ⟨x6, h7, hf⟩ := bnd hf
      refine r_iaload dX7_endOfStatement_15 h7 ?_
      refine r_bipush (v := 59) dX7_endOfStatement_16 (by decide) ?_
      refine r_icmp_eq (tgt := 27) dX7_endOfStatement_18 (by decide) (fun c8 => ?_) (fun c8 => ?_)
      · replace hf := (if_pos c8).symm.trans hf
        refine r_lvs (lv' := [.null, .null, .int l2]) ⟨Or.inr rfl, Or.inl rfl, Or.inl rfl, trivial⟩ ?_
        exact t_X7_endOfStatement_27 _ _ _ hf
      · replace hf := (if_neg c8).symm.trans hf
        refine r_iinc (v := 1) (lv' := [.ref l0, .null, .int (l2 + 1)]) dX7_endOfStatement_21 rfl (by decide) (by decide) rfl rfl ?_
        refine r_goto (tgt := 2) dX7_endOfStatement_24 (by decide) ?_
        exact ih _ _ _ _ hf
set_option maxRecDepth 20000 in
theorem ok_X7_endOfStatement {S : Mm} {l0 : Nat} {l1 : Int32} {T : (Int32 × Mm)} (hf : f_X7_endOfStatement S l0 l1 = some T) : okc S l0 7 = true := (oif hf).1
set_option maxRecDepth 20000 in
theorem c_X7_endOfStatement {G : Gt} {l : Launch} {S : Mm} {l0 : Nat} {l1 : Int32} {T : (Int32 × Mm)} (hf : f_X7_endOfStatement S l0 l1 = some T) : CC G l yX7_endOfStatement cX7_endOfStatement 3 (some .int) 0 0 0 [.ref l0, .int l1] S (eI T) := by
  unfold f_X7_endOfStatement at hf
  replace hf := (oif hf).2
  refine r_body (by decide) rfl (Nat.le_of_ble_eq_true rfl) (by simp) ?_
  refine r_iload_n dX7_endOfStatement_0 rfl ?_
  refine r_istore_n (lv' := [.ref l0, .int l1, .int l1]) dX7_endOfStatement_1 (by decide) rfl rfl ?_
  refine r_lvs (lv' := [.ref l0, .null, .int l1]) ⟨Or.inl rfl, Or.inr rfl, Or.inl rfl, trivial⟩ ?_
  exact t_X7_endOfStatement_2 FU _ _ _ _ hf
def f_X7_number_42 (S : Mm) (l3 : Int32) : Option (Int32 × Mm) := some (l3, S)
def f_X7_number_5 : Nat → Mm → Nat → Int32 → Int32 → Int32 → Option (Int32 × Mm)
  | 0, _, _, _, _, _ => none
  | n + 1, S, l0, l2, l3, l4 => (if l2 ≤ l4 then f_X7_number_42 S l3 else (gI S 7 l0 1).bind fun x2 => (if x2 ≤ l4 then f_X7_number_42 S l3 else (gR S 7 l0 0).bind fun x5 => (aI S x5 l4).bind fun x7 => (f_X7_number_5 n) S l0 l2 (((l3 * 10) + x7) - 48) (l4 + 1)))
def f_X7_number (S : Mm) (l0 : Nat) (l1 : Int32) (l2 : Int32) : Option (Int32 × Mm) := if okc S l0 7 = true then f_X7_number_5 FU S l0 l2 0 l1 else none
set_option maxRecDepth 20000 in
theorem t_X7_number_42 {G : Gt} {l : Launch} (S : Mm) (l3 : Int32) (T : (Int32 × Mm)) (hf : f_X7_number_42 S l3 = some T) : Sat G l yX7_number cX7_number 5 (some .int) 0 0 0 0 0 42 [.null, .null, .null, .int l3, .null] [] S (eI T) := by
  unfold f_X7_number_42 at hf
  refine r_iload_n dX7_number_42 rfl ?_
  have hz := congrArg eI (Option.some.inj hf)
  exact r_ireturn dX7_number_43 rfl (Nat.le_of_ble_eq_true rfl) (Nat.le_of_ble_eq_true rfl) hz
set_option maxRecDepth 20000 in
theorem t_X7_number_5 {G : Gt} {l : Launch} : ∀ (n : Nat) (S : Mm) (l0 : Nat) (l2 : Int32) (l3 : Int32) (l4 : Int32) (T : (Int32 × Mm)), f_X7_number_5 n S l0 l2 l3 l4 = some T → Sat G l yX7_number cX7_number 5 (some .int) 0 0 0 0 0 5 [.ref l0, .null, .int l2, .int l3, .int l4] [] S (eI T) := by
  intro n
  induction n with
  | zero =>
    intro S l0 l2 l3 l4 T hf
    rw [f_X7_number_5] at hf
    cases hf
  | succ n ih =>
    intro S l0 l2 l3 l4 T hf
    rw [f_X7_number_5] at hf
    refine r_iload dX7_number_5 rfl ?_
    refine r_iload_n dX7_number_7 rfl ?_
    refine r_icmp_ge (tgt := 42) dX7_number_8 (by decide) (fun c1 => ?_) (fun c1 => ?_)
    · replace hf := (if_pos c1).symm.trans hf
      refine r_lvs (lv' := [.null, .null, .null, .int l3, .null]) ⟨Or.inr rfl, Or.inl rfl, Or.inr rfl, Or.inl rfl, Or.inr rfl, trivial⟩ ?_
      exact t_X7_number_42 _ _ _ hf
    · replace hf := (if_neg c1).symm.trans hf
      refine r_iload dX7_number_11 rfl ?_
      refine r_aload_n dX7_number_13 rfl ?_
      obtain ⟨x2, h3, hf⟩ := bnd hf
      refine r_getI dX7_number_14 fs7_15_7 rfl h3 ?_
      refine r_icmp_ge (tgt := 42) dX7_number_17 (by decide) (fun c4 => ?_) (fun c4 => ?_)
      · replace hf := (if_pos c4).symm.trans hf
        refine r_lvs (lv' := [.null, .null, .null, .int l3, .null]) ⟨Or.inr rfl, Or.inl rfl, Or.inr rfl, Or.inl rfl, Or.inr rfl, trivial⟩ ?_
        exact t_X7_number_42 _ _ _ hf
      · replace hf := (if_neg c4).symm.trans hf
        refine r_iload_n dX7_number_20 rfl ?_
        refine r_bipush (v := 10) dX7_number_21 (by decide) ?_
        refine r_imul dX7_number_23 ?_
        refine r_aload_n dX7_number_24 rfl ?_
        obtain ⟨x5, h6, hf⟩ := bnd hf
        refine r_getR dX7_number_25 fs7_9_7 rfl h6 ?_
        refine r_iload dX7_number_28 rfl ?_
        obtain ⟨x7, h8, hf⟩ := bnd hf
        refine r_iaload dX7_number_30 h8 ?_
        refine r_iadd dX7_number_31 ?_
        refine r_bipush (v := 48) dX7_number_32 (by decide) ?_
        refine r_isub dX7_number_34 ?_
        refine r_istore_n (lv' := [.ref l0, .null, .int l2, .int (((l3 * 10) + x7) - 48), .int l4]) dX7_number_35 (by decide) rfl rfl ?_
        refine r_iinc (v := 1) (lv' := [.ref l0, .null, .int l2, .int (((l3 * 10) + x7) - 48), .int (l4 + 1)]) dX7_number_36 rfl (by decide) (by decide) rfl rfl ?_
        refine r_goto (tgt := 5) dX7_number_39 (by decide) ?_
        exact ih _ _ _ _ _ _ hf
set_option maxRecDepth 20000 in
theorem ok_X7_number {S : Mm} {l0 : Nat} {l1 : Int32} {l2 : Int32} {T : (Int32 × Mm)} (hf : f_X7_number S l0 l1 l2 = some T) : okc S l0 7 = true := (oif hf).1
set_option maxRecDepth 20000 in
theorem c_X7_number {G : Gt} {l : Launch} {S : Mm} {l0 : Nat} {l1 : Int32} {l2 : Int32} {T : (Int32 × Mm)} (hf : f_X7_number S l0 l1 l2 = some T) : CC G l yX7_number cX7_number 5 (some .int) 0 0 0 [.ref l0, .int l1, .int l2] S (eI T) := by
  unfold f_X7_number at hf
  replace hf := (oif hf).2
  refine r_body (by decide) rfl (Nat.le_of_ble_eq_true rfl) (by simp) ?_
  refine r_iconst (v := 0) dX7_number_0 (by decide) ?_
  refine r_istore_n (lv' := [.ref l0, .int l1, .int l2, .int 0, .null]) dX7_number_1 (by decide) rfl rfl ?_
  refine r_iload_n dX7_number_2 rfl ?_
  refine r_istore (lv' := [.ref l0, .int l1, .int l2, .int 0, .int l1]) dX7_number_3 (by decide) rfl rfl ?_
  refine r_lvs (lv' := [.ref l0, .null, .int l2, .int 0, .int l1]) ⟨Or.inl rfl, Or.inr rfl, Or.inl rfl, Or.inl rfl, Or.inl rfl, trivial⟩ ?_
  exact t_X7_number_5 FU _ _ _ _ _ _ hf
def f_X7_digit (S : Mm) (l0 : Nat) (l1 : Int32) : Option (Int32 × Mm) := if okc S l0 7 = true then (f_X7_number S l0 l1 (l1 + 1)).bind fun q1 => some (q1.1, q1.2) else none
set_option maxRecDepth 20000 in
theorem ok_X7_digit {S : Mm} {l0 : Nat} {l1 : Int32} {T : (Int32 × Mm)} (hf : f_X7_digit S l0 l1 = some T) : okc S l0 7 = true := (oif hf).1
set_option maxRecDepth 20000 in
theorem c_X7_digit {G : Gt} {l : Launch} {S : Mm} {l0 : Nat} {l1 : Int32} {T : (Int32 × Mm)} (hf : f_X7_digit S l0 l1 = some T) : CC G l yX7_digit cX7_digit 2 (some .int) 1 0 0 [.ref l0, .int l1] S (eI T) := by
  unfold f_X7_digit at hf
  replace hf := (oif hf).2
  refine r_body (by decide) rfl (Nat.le_of_ble_eq_true rfl) (by simp) ?_
  refine r_aload_n dX7_digit_0 rfl ?_
  refine r_iload_n dX7_digit_1 rfl ?_
  refine r_iload_n dX7_digit_2 rfl ?_
  refine r_iconst (v := 1) dX7_digit_3 (by decide) ?_
  refine r_iadd dX7_digit_4 ?_
  obtain ⟨q1, h2, hf⟩ := bnd hf
  refine r_callVi (st := []) (as := [.int l1, .int (l1 + 1)]) dX7_digit_5 ms_X7_number ⟨rfl, w2_33, w2_35, w0_5⟩ (ok_X7_number h2) (c_X7_number h2) rfl ⟨by omega, by omega⟩ (Nat.le_of_ble_eq_true rfl) (by decide) (by decide) rfl ?_
  have hz := congrArg eI (Option.some.inj hf)
  exact r_ireturn dX7_digit_8 rfl (Nat.le_of_ble_eq_true rfl) (Nat.le_of_ble_eq_true rfl) hz
def f_X7_tellHouse_76 (S : Mm)  : Option (Int32 × Mm) := some (0, S)
def f_X7_tellHouse_270 (S : Mm) (l0 : Nat) (l1 : Nat) (l2 : Int32) (l3 : Int32) (l10 : Nat) : Option (Int32 × Mm) := (f_X7_number S l0 (l2 + 9) l3).bind fun q1 => (f_X6_addHouse q1.2 l1 l10 q1.1).bind fun q3 => (rB q3.1).bind fun x5 => some (x5, q3.2)
def f_X7_tellHouse (S : Mm) (l0 : Nat) (l1 : Nat) (l2 : Int32) (l3 : Int32) : Option (Int32 × Mm) := if okc S l0 7 = true then (f_X7_digit S l0 (l2 + 2)).bind fun q1 => (f_X7_number q1.2 l0 (l2 + 3) (l2 + 5)).bind fun q3 => (f_X7_digit q3.2 l0 (l2 + 5)).bind fun q5 => (f_X7_digit q5.2 l0 (l2 + 6)).bind fun q7 => (f_X7_digit q7.2 l0 (l2 + 7)).bind fun q9 => (f_X7_digit q9.2 l0 (l2 + 8)).bind fun q11 => (f_X11_isGood q11.2 q5.1).bind fun q13 => (if q13.1 = 0 then f_X7_tellHouse_76 q13.2 else (f_X11_isGood q13.2 q9.1).bind fun q16 => (if q16.1 = 0 then f_X7_tellHouse_76 q16.2 else (f_X7_digit q16.2 l0 (l2 + 1)).bind fun q19 => (if q19.1 = 0 then (f_X4_init (nC q19.2 4 0) (mX q19.2) q1.1 q3.1 q5.1 q7.1 q9.1 q11.1).bind fun q27 => f_X7_tellHouse_270 q27 l0 l1 l2 l3 (mX q19.2) else (if q19.1 = 1 then (f_X0_init (nC q19.2 0 0) (mX q19.2) q1.1 q3.1 q5.1 q7.1 q9.1 q11.1).bind fun q29 => f_X7_tellHouse_270 q29 l0 l1 l2 l3 (mX q19.2) else (if q19.1 = 2 then (f_X5_init (nC q19.2 5 0) (mX q19.2) q1.1 q3.1 q5.1 q7.1 q9.1 q11.1).bind fun q31 => f_X7_tellHouse_270 q31 l0 l1 l2 l3 (mX q19.2) else (if q19.1 = 3 then (f_X3_init (nC q19.2 3 0) (mX q19.2) q1.1 q3.1 q5.1 q7.1 q9.1 q11.1).bind fun q33 => f_X7_tellHouse_270 q33 l0 l1 l2 l3 (mX q19.2) else (if q19.1 = 4 then (f_X8_init (nC q19.2 8 0) (mX q19.2) q1.1 q3.1 q5.1 q7.1 q9.1 q11.1).bind fun q35 => f_X7_tellHouse_270 q35 l0 l1 l2 l3 (mX q19.2) else (if q19.1 = 5 then (f_X2_init (nC q19.2 2 0) (mX q19.2) q1.1 q3.1 q5.1 q7.1 q9.1 q11.1).bind fun q37 => f_X7_tellHouse_270 q37 l0 l1 l2 l3 (mX q19.2) else some (0, q19.2))))))))) else none
set_option maxRecDepth 20000 in
theorem t_X7_tellHouse_76 {G : Gt} {l : Launch} (S : Mm)  (T : (Int32 × Mm)) (hf : f_X7_tellHouse_76 S  = some T) : Sat G l yX7_tellHouse cX7_tellHouse 11 (some .boolean) 5 1 6 0 0 76 [.null, .null, .null, .null, .null, .null, .null, .null, .null, .null, .null] [] S (eI T) := by
  unfold f_X7_tellHouse_76 at hf
  refine r_iconst (v := 0) dX7_tellHouse_76 (by decide) ?_
  have hz := congrArg eI (Option.some.inj hf)
  exact r_zreturn (x' := 0) dX7_tellHouse_77 rfl (Nat.le_of_ble_eq_true rfl) (Nat.le_of_ble_eq_true rfl) rfl hz
set_option maxRecDepth 20000 in
theorem t_X7_tellHouse_270 {G : Gt} {l : Launch} (S : Mm) (l0 : Nat) (l1 : Nat) (l2 : Int32) (l3 : Int32) (l10 : Nat) (T : (Int32 × Mm)) (hf : f_X7_tellHouse_270 S l0 l1 l2 l3 l10 = some T) : Sat G l yX7_tellHouse cX7_tellHouse 11 (some .boolean) 5 1 6 1 6 270 [.ref l0, .ref l1, .int l2, .int l3, .null, .null, .null, .null, .null, .null, .ref l10] [] S (eI T) := by
  unfold f_X7_tellHouse_270 at hf
  refine r_aload_n dX7_tellHouse_270 rfl ?_
  refine r_aload dX7_tellHouse_271 rfl ?_
  refine r_aload_n dX7_tellHouse_273 rfl ?_
  refine r_iload_n dX7_tellHouse_274 rfl ?_
  refine r_bipush (v := 9) dX7_tellHouse_275 (by decide) ?_
  refine r_iadd dX7_tellHouse_277 ?_
  refine r_iload_n dX7_tellHouse_278 rfl ?_
  obtain ⟨q1, h2, hf⟩ := bnd hf
  refine r_callVi (st := [.ref l10, .ref l1]) (as := [.int (l2 + 9), .int l3]) dX7_tellHouse_279 ms_X7_number ⟨rfl, w2_33, w2_35, w0_5⟩ (ok_X7_number h2) (c_X7_number h2) rfl ⟨by omega, by omega⟩ (Nat.le_of_ble_eq_true rfl) (by decide) (by decide) rfl ?_
  obtain ⟨q3, h4, hf⟩ := bnd hf
  refine r_callVi (st := []) (as := [.ref l10, .int q1.1]) dX7_tellHouse_282 ms_X6_addHouse ⟨rfl, w2_107, w2_108, w2_109⟩ (ok_X6_addHouse h4) (c_X6_addHouse h4) rfl ⟨by omega, by omega⟩ (Nat.le_of_ble_eq_true rfl) (by decide) (by decide) rfl ?_
  obtain ⟨x5, h6, hf⟩ := bnd hf
  have hz := congrArg eI (Option.some.inj hf)
  exact r_zreturn dX7_tellHouse_285 rfl (Nat.le_of_ble_eq_true rfl) (Nat.le_of_ble_eq_true rfl) h6 hz
set_option maxRecDepth 20000 in
theorem ok_X7_tellHouse {S : Mm} {l0 : Nat} {l1 : Nat} {l2 : Int32} {l3 : Int32} {T : (Int32 × Mm)} (hf : f_X7_tellHouse S l0 l1 l2 l3 = some T) : okc S l0 7 = true := (oif hf).1
set_option maxRecDepth 20000 in
theorem c_X7_tellHouse {G : Gt} {l : Launch} {S : Mm} {l0 : Nat} {l1 : Nat} {l2 : Int32} {l3 : Int32} {T : (Int32 × Mm)} (hf : f_X7_tellHouse S l0 l1 l2 l3 = some T) : CC G l yX7_tellHouse cX7_tellHouse 11 (some .boolean) 5 1 6 [.ref l0, .ref l1, .int l2, .int l3] S (eI T) := by
  unfold f_X7_tellHouse at hf
  replace hf := (oif hf).2
  refine r_body (by decide) rfl (Nat.le_of_ble_eq_true rfl) (by simp) ?_
  refine r_aload_n dX7_tellHouse_0 rfl ?_
  refine r_iload_n dX7_tellHouse_1 rfl ?_
  refine r_iconst (v := 2) dX7_tellHouse_2 (by decide) ?_
  refine r_iadd dX7_tellHouse_3 ?_
  obtain ⟨q1, h2, hf⟩ := bnd hf
  refine r_callVi (st := []) (as := [.int (l2 + 2)]) dX7_tellHouse_4 ms_X7_digit ⟨rfl, w2_29, w2_31, w0_4⟩ (ok_X7_digit h2) (c_X7_digit h2) rfl ⟨by omega, by omega⟩ (Nat.le_of_ble_eq_true rfl) (by decide) (by decide) rfl ?_
  refine r_istore (lv' := [.ref l0, .ref l1, .int l2, .int l3, .int q1.1, .null, .null, .null, .null, .null, .null]) dX7_tellHouse_7 (by decide) rfl rfl ?_
  refine r_aload_n dX7_tellHouse_9 rfl ?_
  refine r_iload_n dX7_tellHouse_10 rfl ?_
  refine r_iconst (v := 3) dX7_tellHouse_11 (by decide) ?_
  refine r_iadd dX7_tellHouse_12 ?_
  refine r_iload_n dX7_tellHouse_13 rfl ?_
  refine r_iconst (v := 5) dX7_tellHouse_14 (by decide) ?_
  refine r_iadd dX7_tellHouse_15 ?_
  obtain ⟨q3, h4, hf⟩ := bnd hf
  refine r_callVi (st := []) (as := [.int (l2 + 3), .int (l2 + 5)]) dX7_tellHouse_16 ms_X7_number ⟨rfl, w2_33, w2_35, w0_5⟩ (ok_X7_number h4) (c_X7_number h4) rfl ⟨by omega, by omega⟩ (Nat.le_of_ble_eq_true rfl) (by decide) (by decide) rfl ?_
  refine r_istore (lv' := [.ref l0, .ref l1, .int l2, .int l3, .int q1.1, .int q3.1, .null, .null, .null, .null, .null]) dX7_tellHouse_19 (by decide) rfl rfl ?_
  refine r_aload_n dX7_tellHouse_21 rfl ?_
  refine r_iload_n dX7_tellHouse_22 rfl ?_
  refine r_iconst (v := 5) dX7_tellHouse_23 (by decide) ?_
  refine r_iadd dX7_tellHouse_24 ?_
  obtain ⟨q5, h6, hf⟩ := bnd hf
  refine r_callVi (st := []) (as := [.int (l2 + 5)]) dX7_tellHouse_25 ms_X7_digit ⟨rfl, w2_29, w2_31, w0_4⟩ (ok_X7_digit h6) (c_X7_digit h6) rfl ⟨by omega, by omega⟩ (Nat.le_of_ble_eq_true rfl) (by decide) (by decide) rfl ?_
  refine r_istore (lv' := [.ref l0, .ref l1, .int l2, .int l3, .int q1.1, .int q3.1, .int q5.1, .null, .null, .null, .null]) dX7_tellHouse_28 (by decide) rfl rfl ?_
  refine r_aload_n dX7_tellHouse_30 rfl ?_
  refine r_iload_n dX7_tellHouse_31 rfl ?_
  refine r_bipush (v := 6) dX7_tellHouse_32 (by decide) ?_
  refine r_iadd dX7_tellHouse_34 ?_
  obtain ⟨q7, h8, hf⟩ := bnd hf
  refine r_callVi (st := []) (as := [.int (l2 + 6)]) dX7_tellHouse_35 ms_X7_digit ⟨rfl, w2_29, w2_31, w0_4⟩ (ok_X7_digit h8) (c_X7_digit h8) rfl ⟨by omega, by omega⟩ (Nat.le_of_ble_eq_true rfl) (by decide) (by decide) rfl ?_
  refine r_istore (lv' := [.ref l0, .ref l1, .int l2, .int l3, .int q1.1, .int q3.1, .int q5.1, .int q7.1, .null, .null, .null]) dX7_tellHouse_38 (by decide) rfl rfl ?_
  refine r_aload_n dX7_tellHouse_40 rfl ?_
  refine r_iload_n dX7_tellHouse_41 rfl ?_
  refine r_bipush (v := 7) dX7_tellHouse_42 (by decide) ?_
  refine r_iadd dX7_tellHouse_44 ?_
  obtain ⟨q9, h10, hf⟩ := bnd hf
  refine r_callVi (st := []) (as := [.int (l2 + 7)]) dX7_tellHouse_45 ms_X7_digit ⟨rfl, w2_29, w2_31, w0_4⟩ (ok_X7_digit h10) (c_X7_digit h10) rfl ⟨by omega, by omega⟩ (Nat.le_of_ble_eq_true rfl) (by decide) (by decide) rfl ?_
  refine r_istore (lv' := [.ref l0, .ref l1, .int l2, .int l3, .int q1.1, .int q3.1, .int q5.1, .int q7.1, .int q9.1, .null, .null]) dX7_tellHouse_48 (by decide) rfl rfl ?_
  refine r_aload_n dX7_tellHouse_50 rfl ?_
  refine r_iload_n dX7_tellHouse_51 rfl ?_
  refine r_bipush (v := 8) dX7_tellHouse_52 (by decide) ?_
  refine r_iadd dX7_tellHouse_54 ?_
  obtain ⟨q11, h12, hf⟩ := bnd hf
  refine r_callVi (st := []) (as := [.int (l2 + 8)]) dX7_tellHouse_55 ms_X7_digit ⟨rfl, w2_29, w2_31, w0_4⟩ (ok_X7_digit h12) (c_X7_digit h12) rfl ⟨by omega, by omega⟩ (Nat.le_of_ble_eq_true rfl) (by decide) (by decide) rfl ?_
  refine r_istore (lv' := [.ref l0, .ref l1, .int l2, .int l3, .int q1.1, .int q3.1, .int q5.1, .int q7.1, .int q9.1, .int q11.1, .null]) dX7_tellHouse_58 (by decide) rfl rfl ?_
  refine r_iload dX7_tellHouse_60 rfl ?_
  obtain ⟨q13, h14, hf⟩ := bnd hf
  refine r_callSNi (st := []) (as := [.int q5.1]) dX7_tellHouse_62 ms_X11_isGood ⟨by decide, w2_38⟩ (c_X11_isGood h14) rfl ⟨by omega, by omega⟩ (Nat.le_of_ble_eq_true rfl) (by decide) (by decide) rfl ?_
  refine r_if_eq (tgt := 76) dX7_tellHouse_65 (by decide) (fun c15 => ?_) (fun c15 => ?_)
  · replace hf := (if_pos c15).symm.trans hf
    refine r_lvs (lv' := [.null, .null, .null, .null, .null, .null, .null, .null, .null, .null, .null]) ⟨Or.inr rfl, Or.inr rfl, Or.inr rfl, Or.inr rfl, Or.inr rfl, Or.inr rfl, Or.inr rfl, Or.inr rfl, Or.inr rfl, Or.inr rfl, Or.inl rfl, trivial⟩ ?_
    exact t_X7_tellHouse_76 _ _ hf
  · replace hf := (if_neg c15).symm.trans hf
    refine r_iload dX7_tellHouse_68 rfl ?_
    obtain ⟨q16, h17, hf⟩ := bnd hf
    refine r_callSNi (st := []) (as := [.int q9.1]) dX7_tellHouse_70 ms_X11_isGood ⟨by decide, w2_38⟩ (c_X11_isGood h17) rfl ⟨by omega, by omega⟩ (Nat.le_of_ble_eq_true rfl) (by decide) (by decide) rfl ?_
    refine r_if_ne (tgt := 78) dX7_tellHouse_73 (by decide) (fun c18 => ?_) (fun c18 => ?_)
    · replace hf := (if_neg c18).symm.trans hf
      refine r_aload_n dX7_tellHouse_78 rfl ?_
      refine r_iload_n dX7_tellHouse_79 rfl ?_
      refine r_iconst (v := 1) dX7_tellHouse_80 (by decide) ?_
      refine r_iadd dX7_tellHouse_81 ?_
      obtain ⟨q19, h20, hf⟩ := bnd hf
      refine r_callVi (st := []) (as := [.int (l2 + 1)]) dX7_tellHouse_82 ms_X7_digit ⟨rfl, w2_29, w2_31, w0_4⟩ (ok_X7_digit h20) (c_X7_digit h20) rfl ⟨by omega, by omega⟩ (Nat.le_of_ble_eq_true rfl) (by decide) (by decide) rfl ?_
      by_cases c21 : q19.1 = 0
      · replace hf := (if_pos c21).symm.trans hf
        refine r_tsIn (k := 0) (tgt := 124) dX7_tellHouse_85 c21 (by decide) (by decide) (by rfl) (by decide) ?_
        refine r_new (ci := 4) (N := 6) dX7_tellHouse_124 ⟨_, _, rfl, w2_40, w1_43, w1_4⟩ (by decide) (by decide) ?_
        refine r_dup dX7_tellHouse_127 rfl ?_
        refine r_iload dX7_tellHouse_128 rfl ?_
        refine r_iload dX7_tellHouse_130 rfl ?_
        refine r_iload dX7_tellHouse_132 rfl ?_
        refine r_iload dX7_tellHouse_134 rfl ?_
        refine r_iload dX7_tellHouse_136 rfl ?_
        refine r_iload dX7_tellHouse_138 rfl ?_
        obtain ⟨q27, h28, hf⟩ := bnd hf
        refine r_callIv (st := [.ref (mX q19.2)]) (as := [.int q1.1, .int q3.1, .int q5.1, .int q7.1, .int q9.1, .int q11.1]) dX7_tellHouse_140 ms_X4_init ⟨rfl, w2_41, w1_45⟩ (c_X4_init h28) rfl ⟨by omega, by omega⟩ (Nat.le_of_ble_eq_true rfl) (by decide) (by decide) rfl ?_
        refine r_astore (lv' := [.ref l0, .ref l1, .int l2, .int l3, .int q1.1, .int q3.1, .int q5.1, .int q7.1, .int q9.1, .int q11.1, .ref (mX q19.2)]) dX7_tellHouse_143 (by decide) rfl rfl ?_
        refine r_goto (tgt := 270) dX7_tellHouse_145 (by decide) ?_
        refine r_lvs (lv' := [.ref l0, .ref l1, .int l2, .int l3, .null, .null, .null, .null, .null, .null, .ref (mX q19.2)]) ⟨Or.inl rfl, Or.inl rfl, Or.inl rfl, Or.inl rfl, Or.inr rfl, Or.inr rfl, Or.inr rfl, Or.inr rfl, Or.inr rfl, Or.inr rfl, Or.inl rfl, trivial⟩ ?_
        exact t_X7_tellHouse_270 _ _ _ _ _ _ _ hf
      replace hf := (if_neg c21).symm.trans hf
      by_cases c22 : q19.1 = 1
      · replace hf := (if_pos c22).symm.trans hf
        refine r_tsIn (k := 1) (tgt := 148) dX7_tellHouse_85 c22 (by decide) (by decide) (by rfl) (by decide) ?_
        refine r_new (ci := 0) (N := 6) dX7_tellHouse_148 ⟨_, _, rfl, w2_42, w2_43, w1_9⟩ (by decide) (by decide) ?_
        refine r_dup dX7_tellHouse_151 rfl ?_
        refine r_iload dX7_tellHouse_152 rfl ?_
        refine r_iload dX7_tellHouse_154 rfl ?_
        refine r_iload dX7_tellHouse_156 rfl ?_
        refine r_iload dX7_tellHouse_158 rfl ?_
        refine r_iload dX7_tellHouse_160 rfl ?_
        refine r_iload dX7_tellHouse_162 rfl ?_
        obtain ⟨q29, h30, hf⟩ := bnd hf
        refine r_callIv (st := [.ref (mX q19.2)]) (as := [.int q1.1, .int q3.1, .int q5.1, .int q7.1, .int q9.1, .int q11.1]) dX7_tellHouse_164 ms_X0_init ⟨rfl, w2_44, w2_45⟩ (c_X0_init h30) rfl ⟨by omega, by omega⟩ (Nat.le_of_ble_eq_true rfl) (by decide) (by decide) rfl ?_
        refine r_astore (lv' := [.ref l0, .ref l1, .int l2, .int l3, .int q1.1, .int q3.1, .int q5.1, .int q7.1, .int q9.1, .int q11.1, .ref (mX q19.2)]) dX7_tellHouse_167 (by decide) rfl rfl ?_
        refine r_goto (tgt := 270) dX7_tellHouse_169 (by decide) ?_
        refine r_lvs (lv' := [.ref l0, .ref l1, .int l2, .int l3, .null, .null, .null, .null, .null, .null, .ref (mX q19.2)]) ⟨Or.inl rfl, Or.inl rfl, Or.inl rfl, Or.inl rfl, Or.inr rfl, Or.inr rfl, Or.inr rfl, Or.inr rfl, Or.inr rfl, Or.inr rfl, Or.inl rfl, trivial⟩ ?_
        exact t_X7_tellHouse_270 _ _ _ _ _ _ _ hf
      replace hf := (if_neg c22).symm.trans hf
      by_cases c23 : q19.1 = 2
      · replace hf := (if_pos c23).symm.trans hf
        refine r_tsIn (k := 2) (tgt := 172) dX7_tellHouse_85 c23 (by decide) (by decide) (by rfl) (by decide) ?_
        refine r_new (ci := 5) (N := 6) dX7_tellHouse_172 ⟨_, _, rfl, w2_55, w2_56, w1_10⟩ (by decide) (by decide) ?_
        refine r_dup dX7_tellHouse_175 rfl ?_
        refine r_iload dX7_tellHouse_176 rfl ?_
        refine r_iload dX7_tellHouse_178 rfl ?_
        refine r_iload dX7_tellHouse_180 rfl ?_
        refine r_iload dX7_tellHouse_182 rfl ?_
        refine r_iload dX7_tellHouse_184 rfl ?_
        refine r_iload dX7_tellHouse_186 rfl ?_
        obtain ⟨q31, h32, hf⟩ := bnd hf
        refine r_callIv (st := [.ref (mX q19.2)]) (as := [.int q1.1, .int q3.1, .int q5.1, .int q7.1, .int q9.1, .int q11.1]) dX7_tellHouse_188 ms_X5_init ⟨rfl, w2_57, w2_58⟩ (c_X5_init h32) rfl ⟨by omega, by omega⟩ (Nat.le_of_ble_eq_true rfl) (by decide) (by decide) rfl ?_
        refine r_astore (lv' := [.ref l0, .ref l1, .int l2, .int l3, .int q1.1, .int q3.1, .int q5.1, .int q7.1, .int q9.1, .int q11.1, .ref (mX q19.2)]) dX7_tellHouse_191 (by decide) rfl rfl ?_
        refine r_goto (tgt := 270) dX7_tellHouse_193 (by decide) ?_
        refine r_lvs (lv' := [.ref l0, .ref l1, .int l2, .int l3, .null, .null, .null, .null, .null, .null, .ref (mX q19.2)]) ⟨Or.inl rfl, Or.inl rfl, Or.inl rfl, Or.inl rfl, Or.inr rfl, Or.inr rfl, Or.inr rfl, Or.inr rfl, Or.inr rfl, Or.inr rfl, Or.inl rfl, trivial⟩ ?_
        exact t_X7_tellHouse_270 _ _ _ _ _ _ _ hf
      replace hf := (if_neg c23).symm.trans hf
      by_cases c24 : q19.1 = 3
      · replace hf := (if_pos c24).symm.trans hf
        refine r_tsIn (k := 3) (tgt := 196) dX7_tellHouse_85 c24 (by decide) (by decide) (by rfl) (by decide) ?_
        refine r_new (ci := 3) (N := 6) dX7_tellHouse_196 ⟨_, _, rfl, w2_68, w2_69, w1_11⟩ (by decide) (by decide) ?_
        refine r_dup dX7_tellHouse_199 rfl ?_
        refine r_iload dX7_tellHouse_200 rfl ?_
        refine r_iload dX7_tellHouse_202 rfl ?_
        refine r_iload dX7_tellHouse_204 rfl ?_
        refine r_iload dX7_tellHouse_206 rfl ?_
        refine r_iload dX7_tellHouse_208 rfl ?_
        refine r_iload dX7_tellHouse_210 rfl ?_
        obtain ⟨q33, h34, hf⟩ := bnd hf
        refine r_callIv (st := [.ref (mX q19.2)]) (as := [.int q1.1, .int q3.1, .int q5.1, .int q7.1, .int q9.1, .int q11.1]) dX7_tellHouse_212 ms_X3_init ⟨rfl, w2_70, w2_71⟩ (c_X3_init h34) rfl ⟨by omega, by omega⟩ (Nat.le_of_ble_eq_true rfl) (by decide) (by decide) rfl ?_
        refine r_astore (lv' := [.ref l0, .ref l1, .int l2, .int l3, .int q1.1, .int q3.1, .int q5.1, .int q7.1, .int q9.1, .int q11.1, .ref (mX q19.2)]) dX7_tellHouse_215 (by decide) rfl rfl ?_
        refine r_goto (tgt := 270) dX7_tellHouse_217 (by decide) ?_
        refine r_lvs (lv' := [.ref l0, .ref l1, .int l2, .int l3, .null, .null, .null, .null, .null, .null, .ref (mX q19.2)]) ⟨Or.inl rfl, Or.inl rfl, Or.inl rfl, Or.inl rfl, Or.inr rfl, Or.inr rfl, Or.inr rfl, Or.inr rfl, Or.inr rfl, Or.inr rfl, Or.inl rfl, trivial⟩ ?_
        exact t_X7_tellHouse_270 _ _ _ _ _ _ _ hf
      replace hf := (if_neg c24).symm.trans hf
      by_cases c25 : q19.1 = 4
      · replace hf := (if_pos c25).symm.trans hf
        refine r_tsIn (k := 4) (tgt := 220) dX7_tellHouse_85 c25 (by decide) (by decide) (by rfl) (by decide) ?_
        refine r_new (ci := 8) (N := 6) dX7_tellHouse_220 ⟨_, _, rfl, w2_81, w2_82, w1_12⟩ (by decide) (by decide) ?_
        refine r_dup dX7_tellHouse_223 rfl ?_
        refine r_iload dX7_tellHouse_224 rfl ?_
        refine r_iload dX7_tellHouse_226 rfl ?_
        refine r_iload dX7_tellHouse_228 rfl ?_
        refine r_iload dX7_tellHouse_230 rfl ?_
        refine r_iload dX7_tellHouse_232 rfl ?_
        refine r_iload dX7_tellHouse_234 rfl ?_
        obtain ⟨q35, h36, hf⟩ := bnd hf
        refine r_callIv (st := [.ref (mX q19.2)]) (as := [.int q1.1, .int q3.1, .int q5.1, .int q7.1, .int q9.1, .int q11.1]) dX7_tellHouse_236 ms_X8_init ⟨rfl, w2_83, w2_84⟩ (c_X8_init h36) rfl ⟨by omega, by omega⟩ (Nat.le_of_ble_eq_true rfl) (by decide) (by decide) rfl ?_
        refine r_astore (lv' := [.ref l0, .ref l1, .int l2, .int l3, .int q1.1, .int q3.1, .int q5.1, .int q7.1, .int q9.1, .int q11.1, .ref (mX q19.2)]) dX7_tellHouse_239 (by decide) rfl rfl ?_
        refine r_goto (tgt := 270) dX7_tellHouse_241 (by decide) ?_
        refine r_lvs (lv' := [.ref l0, .ref l1, .int l2, .int l3, .null, .null, .null, .null, .null, .null, .ref (mX q19.2)]) ⟨Or.inl rfl, Or.inl rfl, Or.inl rfl, Or.inl rfl, Or.inr rfl, Or.inr rfl, Or.inr rfl, Or.inr rfl, Or.inr rfl, Or.inr rfl, Or.inl rfl, trivial⟩ ?_
        exact t_X7_tellHouse_270 _ _ _ _ _ _ _ hf
      replace hf := (if_neg c25).symm.trans hf
      by_cases c26 : q19.1 = 5
      · replace hf := (if_pos c26).symm.trans hf
        refine r_tsIn (k := 5) (tgt := 244) dX7_tellHouse_85 c26 (by decide) (by decide) (by rfl) (by decide) ?_
        refine r_new (ci := 2) (N := 6) dX7_tellHouse_244 ⟨_, _, rfl, w2_94, w2_95, w1_13⟩ (by decide) (by decide) ?_
        refine r_dup dX7_tellHouse_247 rfl ?_
        refine r_iload dX7_tellHouse_248 rfl ?_
        refine r_iload dX7_tellHouse_250 rfl ?_
        refine r_iload dX7_tellHouse_252 rfl ?_
        refine r_iload dX7_tellHouse_254 rfl ?_
        refine r_iload dX7_tellHouse_256 rfl ?_
        refine r_iload dX7_tellHouse_258 rfl ?_
        obtain ⟨q37, h38, hf⟩ := bnd hf
        refine r_callIv (st := [.ref (mX q19.2)]) (as := [.int q1.1, .int q3.1, .int q5.1, .int q7.1, .int q9.1, .int q11.1]) dX7_tellHouse_260 ms_X2_init ⟨rfl, w2_96, w2_97⟩ (c_X2_init h38) rfl ⟨by omega, by omega⟩ (Nat.le_of_ble_eq_true rfl) (by decide) (by decide) rfl ?_
        refine r_astore (lv' := [.ref l0, .ref l1, .int l2, .int l3, .int q1.1, .int q3.1, .int q5.1, .int q7.1, .int q9.1, .int q11.1, .ref (mX q19.2)]) dX7_tellHouse_263 (by decide) rfl rfl ?_
        refine r_goto (tgt := 270) dX7_tellHouse_265 (by decide) ?_
        refine r_lvs (lv' := [.ref l0, .ref l1, .int l2, .int l3, .null, .null, .null, .null, .null, .null, .ref (mX q19.2)]) ⟨Or.inl rfl, Or.inl rfl, Or.inl rfl, Or.inl rfl, Or.inr rfl, Or.inr rfl, Or.inr rfl, Or.inr rfl, Or.inr rfl, Or.inr rfl, Or.inl rfl, trivial⟩ ?_
        exact t_X7_tellHouse_270 _ _ _ _ _ _ _ hf
      replace hf := (if_neg c26).symm.trans hf
      refine r_tsOut (ks := [0, 1, 2, 3, 4, 5]) (n := 6) (tgt := 268) dX7_tellHouse_85 (by decide) (by decide) (by simp only [List.mem_cons, List.not_mem_nil, or_false, not_or]; exact ⟨c21, c22, c23, c24, c25, c26⟩) (by decide) ?_
      refine r_iconst (v := 0) dX7_tellHouse_268 (by decide) ?_
      have hz := congrArg eI (Option.some.inj hf)
      exact r_zreturn (x' := 0) dX7_tellHouse_269 rfl (Nat.le_of_ble_eq_true rfl) (Nat.le_of_ble_eq_true rfl) rfl hz
    · replace hf := (if_pos c18).symm.trans hf
      refine r_lvs (lv' := [.null, .null, .null, .null, .null, .null, .null, .null, .null, .null, .null]) ⟨Or.inr rfl, Or.inr rfl, Or.inr rfl, Or.inr rfl, Or.inr rfl, Or.inr rfl, Or.inr rfl, Or.inr rfl, Or.inr rfl, Or.inr rfl, Or.inl rfl, trivial⟩ ?_
      exact t_X7_tellHouse_76 _ _ hf
def f_X7_tellPrice_37 (S : Mm)  : Option (Int32 × Mm) := some (0, S)
def f_X7_tellPrice (S : Mm) (l0 : Nat) (l1 : Nat) (l2 : Int32) : Option (Int32 × Mm) := if okc S l0 7 = true then (f_X7_digit S l0 (l2 + 1)).bind fun q1 => (f_X7_digit q1.2 l0 (l2 + 2)).bind fun q3 => (f_X11_isGood q3.2 q1.1).bind fun q5 => (if q5.1 = 0 then f_X7_tellPrice_37 q5.2 else (if q3.1 < 1 then f_X7_tellPrice_37 q5.2 else (if q3.1 ≤ 9 then (gR q5.2 6 l1 4).bind fun x10 => (aS q5.2 x10 q1.1 q3.1).bind fun S12 => some (1, S12) else f_X7_tellPrice_37 q5.2))) else none
set_option maxRecDepth 20000 in
theorem t_X7_tellPrice_37 {G : Gt} {l : Launch} (S : Mm)  (T : (Int32 × Mm)) (hf : f_X7_tellPrice_37 S  = some T) : Sat G l yX7_tellPrice cX7_tellPrice 5 (some .boolean) 2 0 0 0 0 37 [.null, .null, .null, .null, .null] [] S (eI T) := by
  unfold f_X7_tellPrice_37 at hf
  refine r_iconst (v := 0) dX7_tellPrice_37 (by decide) ?_
  have hz := congrArg eI (Option.some.inj hf)
  exact r_zreturn (x' := 0) dX7_tellPrice_38 rfl (Nat.le_of_ble_eq_true rfl) (Nat.le_of_ble_eq_true rfl) rfl hz
set_option maxRecDepth 20000 in
theorem ok_X7_tellPrice {S : Mm} {l0 : Nat} {l1 : Nat} {l2 : Int32} {T : (Int32 × Mm)} (hf : f_X7_tellPrice S l0 l1 l2 = some T) : okc S l0 7 = true := (oif hf).1
set_option maxRecDepth 20000 in
theorem c_X7_tellPrice {G : Gt} {l : Launch} {S : Mm} {l0 : Nat} {l1 : Nat} {l2 : Int32} {T : (Int32 × Mm)} (hf : f_X7_tellPrice S l0 l1 l2 = some T) : CC G l yX7_tellPrice cX7_tellPrice 5 (some .boolean) 2 0 0 [.ref l0, .ref l1, .int l2] S (eI T) := by
  unfold f_X7_tellPrice at hf
  replace hf := (oif hf).2
  refine r_body (by decide) rfl (Nat.le_of_ble_eq_true rfl) (by simp) ?_
  refine r_aload_n dX7_tellPrice_0 rfl ?_
  refine r_iload_n dX7_tellPrice_1 rfl ?_
  refine r_iconst (v := 1) dX7_tellPrice_2 (by decide) ?_
  refine r_iadd dX7_tellPrice_3 ?_
  obtain ⟨q1, h2, hf⟩ := bnd hf
  refine r_callVi (st := []) (as := [.int (l2 + 1)]) dX7_tellPrice_4 ms_X7_digit ⟨rfl, w2_29, w2_31, w0_4⟩ (ok_X7_digit h2) (c_X7_digit h2) rfl ⟨by omega, by omega⟩ (Nat.le_of_ble_eq_true rfl) (by decide) (by decide) rfl ?_
  refine r_istore_n (lv' := [.ref l0, .ref l1, .int l2, .int q1.1, .null]) dX7_tellPrice_7 (by decide) rfl rfl ?_
  refine r_aload_n dX7_tellPrice_8 rfl ?_
  refine r_iload_n dX7_tellPrice_9 rfl ?_
  refine r_iconst (v := 2) dX7_tellPrice_10 (by decide) ?_
  refine r_iadd dX7_tellPrice_11 ?_
  obtain ⟨q3, h4, hf⟩ := bnd hf
  refine r_callVi (st := []) (as := [.int (l2 + 2)]) dX7_tellPrice_12 ms_X7_digit ⟨rfl, w2_29, w2_31, w0_4⟩ (ok_X7_digit h4) (c_X7_digit h4) rfl ⟨by omega, by omega⟩ (Nat.le_of_ble_eq_true rfl) (by decide) (by decide) rfl ?_
  refine r_istore (lv' := [.ref l0, .ref l1, .int l2, .int q1.1, .int q3.1]) dX7_tellPrice_15 (by decide) rfl rfl ?_
  refine r_iload_n dX7_tellPrice_17 rfl ?_
  obtain ⟨q5, h6, hf⟩ := bnd hf
  refine r_callSNi (st := []) (as := [.int q1.1]) dX7_tellPrice_18 ms_X11_isGood ⟨by decide, w2_38⟩ (c_X11_isGood h6) rfl ⟨by omega, by omega⟩ (Nat.le_of_ble_eq_true rfl) (by decide) (by decide) rfl ?_
  refine r_if_eq (tgt := 37) dX7_tellPrice_21 (by decide) (fun c7 => ?_) (fun c7 => ?_)
  · replace hf := (if_pos c7).symm.trans hf
    refine r_lvs (lv' := [.null, .null, .null, .null, .null]) ⟨Or.inr rfl, Or.inr rfl, Or.inr rfl, Or.inr rfl, Or.inr rfl, trivial⟩ ?_
    exact t_X7_tellPrice_37 _ _ hf
  · replace hf := (if_neg c7).symm.trans hf
    refine r_iload dX7_tellPrice_24 rfl ?_
    refine r_iconst (v := 1) dX7_tellPrice_26 (by decide) ?_
    refine r_icmp_lt (tgt := 37) dX7_tellPrice_27 (by decide) (fun c8 => ?_) (fun c8 => ?_)
    · replace hf := (if_pos c8).symm.trans hf
      refine r_lvs (lv' := [.null, .null, .null, .null, .null]) ⟨Or.inr rfl, Or.inr rfl, Or.inr rfl, Or.inr rfl, Or.inr rfl, trivial⟩ ?_
      exact t_X7_tellPrice_37 _ _ hf
    · replace hf := (if_neg c8).symm.trans hf
      refine r_iload dX7_tellPrice_30 rfl ?_
      refine r_bipush (v := 9) dX7_tellPrice_32 (by decide) ?_
      refine r_icmp_le (tgt := 39) dX7_tellPrice_34 (by decide) (fun c9 => ?_) (fun c9 => ?_)
      · replace hf := (if_pos c9).symm.trans hf
        refine r_aload_n dX7_tellPrice_39 rfl ?_
        obtain ⟨x10, h11, hf⟩ := bnd hf
        refine r_getR dX7_tellPrice_40 fs7_91_6 rfl h11 ?_
        refine r_iload_n dX7_tellPrice_43 rfl ?_
        refine r_iload dX7_tellPrice_44 rfl ?_
        obtain ⟨S12, h13, hf⟩ := bnd hf
        refine r_iastore dX7_tellPrice_46 h13 ?_
        refine r_iconst (v := 1) dX7_tellPrice_47 (by decide) ?_
        have hz := congrArg eI (Option.some.inj hf)
        exact r_zreturn (x' := 1) dX7_tellPrice_48 rfl (Nat.le_of_ble_eq_true rfl) (Nat.le_of_ble_eq_true rfl) rfl hz
      · replace hf := (if_neg c9).symm.trans hf
        refine r_lvs (lv' := [.null, .null, .null, .null, .null]) ⟨Or.inr rfl, Or.inr rfl, Or.inr rfl, Or.inr rfl, Or.inr rfl, trivial⟩ ?_
        exact t_X7_tellPrice_37 _ _ hf
def f_X11_isLaw_19 (S : Mm) (s0 : Int32) : Option (Int32 × Mm) := (rB s0).bind fun x1 => some (x1, S)
def f_X11_isLaw_14 (S : Mm)  : Option (Int32 × Mm) := f_X11_isLaw_19 S 1
def f_X11_isLaw (S : Mm) (l0 : Int32) : Option (Int32 × Mm) := (if l0 = 0 then f_X11_isLaw_14 S else (if l0 = 1 then f_X11_isLaw_14 S else (if l0 = 2 then f_X11_isLaw_14 S else f_X11_isLaw_19 S 0)))
set_option maxRecDepth 20000 in
theorem t_X11_isLaw_19 {G : Gt} {l : Launch} (S : Mm) (s0 : Int32) (T : (Int32 × Mm)) (hf : f_X11_isLaw_19 S s0 = some T) : Sat G l yX11_isLaw cX11_isLaw 1 (some .boolean) 0 0 0 0 0 19 [.null] [.int s0] S (eI T) := by
  unfold f_X11_isLaw_19 at hf
  obtain ⟨x1, h2, hf⟩ := bnd hf
  have hz := congrArg eI (Option.some.inj hf)
  exact r_zreturn dX11_isLaw_19 rfl (Nat.le_of_ble_eq_true rfl) (Nat.le_of_ble_eq_true rfl) h2 hz
set_option maxRecDepth 20000 in
theorem t_X11_isLaw_14 {G : Gt} {l : Launch} (S : Mm)  (T : (Int32 × Mm)) (hf : f_X11_isLaw_14 S  = some T) : Sat G l yX11_isLaw cX11_isLaw 1 (some .boolean) 0 0 0 0 0 14 [.null] [] S (eI T) := by
  unfold f_X11_isLaw_14 at hf
  refine r_iconst (v := 1) dX11_isLaw_14 (by decide) ?_
  refine r_goto (tgt := 19) dX11_isLaw_15 (by decide) ?_
  exact t_X11_isLaw_19 _ _ _ hf
set_option maxRecDepth 20000 in
theorem c_X11_isLaw {G : Gt} {l : Launch} {S : Mm} {l0 : Int32} {T : (Int32 × Mm)} (hf : f_X11_isLaw S l0 = some T) : CC G l yX11_isLaw cX11_isLaw 1 (some .boolean) 0 0 0 [.int l0] S (eI T) := by
  unfold f_X11_isLaw at hf
  refine r_body (by decide) rfl (Nat.le_of_ble_eq_true rfl) (by simp) ?_
  refine r_iload_n dX11_isLaw_0 rfl ?_
  refine r_if_eq (tgt := 14) dX11_isLaw_1 (by decide) (fun c1 => ?_) (fun c1 => ?_)
  · replace hf := (if_pos c1).symm.trans hf
    refine r_lvs (lv' := [.null]) ⟨Or.inr rfl, trivial⟩ ?_
    exact t_X11_isLaw_14 _ _ hf
  · replace hf := (if_neg c1).symm.trans hf
    refine r_iload_n dX11_isLaw_4 rfl ?_
    refine r_iconst (v := 1) dX11_isLaw_5 (by decide) ?_
    refine r_icmp_eq (tgt := 14) dX11_isLaw_6 (by decide) (fun c2 => ?_) (fun c2 => ?_)
    · replace hf := (if_pos c2).symm.trans hf
      refine r_lvs (lv' := [.null]) ⟨Or.inr rfl, trivial⟩ ?_
      exact t_X11_isLaw_14 _ _ hf
    · replace hf := (if_neg c2).symm.trans hf
      refine r_iload_n dX11_isLaw_9 rfl ?_
      refine r_iconst (v := 2) dX11_isLaw_10 (by decide) ?_
      refine r_icmp_ne (tgt := 18) dX11_isLaw_11 (by decide) (fun c3 => ?_) (fun c3 => ?_)
      · replace hf := (if_neg c3).symm.trans hf
        refine r_iconst (v := 0) dX11_isLaw_18 (by decide) ?_
        refine r_lvs (lv' := [.null]) ⟨Or.inr rfl, trivial⟩ ?_
        exact t_X11_isLaw_19 _ _ _ hf
      · replace hf := (if_pos c3).symm.trans hf
        refine r_lvs (lv' := [.null]) ⟨Or.inr rfl, trivial⟩ ?_
        exact t_X11_isLaw_14 _ _ hf
def f_X7_tellLaw (S : Mm) (l0 : Nat) (l1 : Nat) (l2 : Int32) : Option (Int32 × Mm) := if okc S l0 7 = true then (f_X7_digit S l0 (l2 + 1)).bind fun q1 => (f_X11_isLaw q1.2 q1.1).bind fun q3 => (if q3.1 = 0 then some (0, q3.2) else (pI q3.2 6 l1 6 q1.1).bind fun S6 => some (1, S6)) else none
set_option maxRecDepth 20000 in
theorem ok_X7_tellLaw {S : Mm} {l0 : Nat} {l1 : Nat} {l2 : Int32} {T : (Int32 × Mm)} (hf : f_X7_tellLaw S l0 l1 l2 = some T) : okc S l0 7 = true := (oif hf).1
set_option maxRecDepth 20000 in
theorem c_X7_tellLaw {G : Gt} {l : Launch} {S : Mm} {l0 : Nat} {l1 : Nat} {l2 : Int32} {T : (Int32 × Mm)} (hf : f_X7_tellLaw S l0 l1 l2 = some T) : CC G l yX7_tellLaw cX7_tellLaw 4 (some .boolean) 2 0 0 [.ref l0, .ref l1, .int l2] S (eI T) := by
  unfold f_X7_tellLaw at hf
  replace hf := (oif hf).2
  refine r_body (by decide) rfl (Nat.le_of_ble_eq_true rfl) (by simp) ?_
  refine r_aload_n dX7_tellLaw_0 rfl ?_
  refine r_iload_n dX7_tellLaw_1 rfl ?_
  refine r_iconst (v := 1) dX7_tellLaw_2 (by decide) ?_
  refine r_iadd dX7_tellLaw_3 ?_
  obtain ⟨q1, h2, hf⟩ := bnd hf
  refine r_callVi (st := []) (as := [.int (l2 + 1)]) dX7_tellLaw_4 ms_X7_digit ⟨rfl, w2_29, w2_31, w0_4⟩ (ok_X7_digit h2) (c_X7_digit h2) rfl ⟨by omega, by omega⟩ (Nat.le_of_ble_eq_true rfl) (by decide) (by decide) rfl ?_
  refine r_istore_n (lv' := [.ref l0, .ref l1, .int l2, .int q1.1]) dX7_tellLaw_7 (by decide) rfl rfl ?_
  refine r_iload_n dX7_tellLaw_8 rfl ?_
  obtain ⟨q3, h4, hf⟩ := bnd hf
  refine r_callSNi (st := []) (as := [.int q1.1]) dX7_tellLaw_9 ms_X11_isLaw ⟨by decide, w2_120⟩ (c_X11_isLaw h4) rfl ⟨by omega, by omega⟩ (Nat.le_of_ble_eq_true rfl) (by decide) (by decide) rfl ?_
  refine r_if_ne (tgt := 17) dX7_tellLaw_12 (by decide) (fun c5 => ?_) (fun c5 => ?_)
  · replace hf := (if_neg c5).symm.trans hf
    refine r_aload_n dX7_tellLaw_17 rfl ?_
    refine r_iload_n dX7_tellLaw_18 rfl ?_
    obtain ⟨S6, h7, hf⟩ := bnd hf
    refine r_putI dX7_tellLaw_19 fs7_97_6 rfl h7 ?_
    refine r_iconst (v := 1) dX7_tellLaw_22 (by decide) ?_
    have hz := congrArg eI (Option.some.inj hf)
    exact r_zreturn (x' := 1) dX7_tellLaw_23 rfl (Nat.le_of_ble_eq_true rfl) (Nat.le_of_ble_eq_true rfl) rfl hz
  · replace hf := (if_pos c5).symm.trans hf
    refine r_iconst (v := 0) dX7_tellLaw_15 (by decide) ?_
    have hz := congrArg eI (Option.some.inj hf)
    exact r_zreturn (x' := 0) dX7_tellLaw_16 rfl (Nat.le_of_ble_eq_true rfl) (Nat.le_of_ble_eq_true rfl) rfl hz
def f_X7_tellDebt (S : Mm) (l0 : Nat) (l1 : Nat) (l2 : Int32) (l3 : Int32) : Option (Int32 × Mm) := if okc S l0 7 = true then (f_X7_digit S l0 (l2 + 1)).bind fun q1 => (f_X7_digit q1.2 l0 (l2 + 2)).bind fun q3 => (f_X6_areTwo q3.2 l1 q1.1 q3.1).bind fun q5 => (if q5.1 = 0 then some (0, q5.2) else (gR q5.2 6 l1 5).bind fun x8 => (f_X7_number q5.2 l0 (l2 + 3) l3).bind fun q10 => (f_X1_put q10.2 x8 q1.1 q3.1 q10.1).bind fun q12 => some (1, q12)) else none
set_option maxRecDepth 20000 in
theorem ok_X7_tellDebt {S : Mm} {l0 : Nat} {l1 : Nat} {l2 : Int32} {l3 : Int32} {T : (Int32 × Mm)} (hf : f_X7_tellDebt S l0 l1 l2 l3 = some T) : okc S l0 7 = true := (oif hf).1
set_option maxRecDepth 20000 in
theorem c_X7_tellDebt {G : Gt} {l : Launch} {S : Mm} {l0 : Nat} {l1 : Nat} {l2 : Int32} {l3 : Int32} {T : (Int32 × Mm)} (hf : f_X7_tellDebt S l0 l1 l2 l3 = some T) : CC G l yX7_tellDebt cX7_tellDebt 6 (some .boolean) 2 0 0 [.ref l0, .ref l1, .int l2, .int l3] S (eI T) := by
  unfold f_X7_tellDebt at hf
  replace hf := (oif hf).2
  refine r_body (by decide) rfl (Nat.le_of_ble_eq_true rfl) (by simp) ?_
  refine r_aload_n dX7_tellDebt_0 rfl ?_
  refine r_iload_n dX7_tellDebt_1 rfl ?_
  refine r_iconst (v := 1) dX7_tellDebt_2 (by decide) ?_
  refine r_iadd dX7_tellDebt_3 ?_
  obtain ⟨q1, h2, hf⟩ := bnd hf
  refine r_callVi (st := []) (as := [.int (l2 + 1)]) dX7_tellDebt_4 ms_X7_digit ⟨rfl, w2_29, w2_31, w0_4⟩ (ok_X7_digit h2) (c_X7_digit h2) rfl ⟨by omega, by omega⟩ (Nat.le_of_ble_eq_true rfl) (by decide) (by decide) rfl ?_
  refine r_istore (lv' := [.ref l0, .ref l1, .int l2, .int l3, .int q1.1, .null]) dX7_tellDebt_7 (by decide) rfl rfl ?_
  refine r_aload_n dX7_tellDebt_9 rfl ?_
  refine r_iload_n dX7_tellDebt_10 rfl ?_
  refine r_iconst (v := 2) dX7_tellDebt_11 (by decide) ?_
  refine r_iadd dX7_tellDebt_12 ?_
  obtain ⟨q3, h4, hf⟩ := bnd hf
  refine r_callVi (st := []) (as := [.int (l2 + 2)]) dX7_tellDebt_13 ms_X7_digit ⟨rfl, w2_29, w2_31, w0_4⟩ (ok_X7_digit h4) (c_X7_digit h4) rfl ⟨by omega, by omega⟩ (Nat.le_of_ble_eq_true rfl) (by decide) (by decide) rfl ?_
  refine r_istore (lv' := [.ref l0, .ref l1, .int l2, .int l3, .int q1.1, .int q3.1]) dX7_tellDebt_16 (by decide) rfl rfl ?_
  refine r_aload_n dX7_tellDebt_18 rfl ?_
  refine r_iload dX7_tellDebt_19 rfl ?_
  refine r_iload dX7_tellDebt_21 rfl ?_
  obtain ⟨q5, h6, hf⟩ := bnd hf
  refine r_callVi (st := []) (as := [.int q1.1, .int q3.1]) dX7_tellDebt_23 ms_X6_areTwo ⟨rfl, w2_126, w2_127, w2_128⟩ (ok_X6_areTwo h6) (c_X6_areTwo h6) rfl ⟨by omega, by omega⟩ (Nat.le_of_ble_eq_true rfl) (by decide) (by decide) rfl ?_
  refine r_if_ne (tgt := 31) dX7_tellDebt_26 (by decide) (fun c7 => ?_) (fun c7 => ?_)
  · replace hf := (if_neg c7).symm.trans hf
    refine r_aload_n dX7_tellDebt_31 rfl ?_
    obtain ⟨x8, h9, hf⟩ := bnd hf
    refine r_getR dX7_tellDebt_32 fs7_104_6 rfl h9 ?_
    refine r_iload dX7_tellDebt_35 rfl ?_
    refine r_iload dX7_tellDebt_37 rfl ?_
    refine r_aload_n dX7_tellDebt_39 rfl ?_
    refine r_iload_n dX7_tellDebt_40 rfl ?_
    refine r_iconst (v := 3) dX7_tellDebt_41 (by decide) ?_
    refine r_iadd dX7_tellDebt_42 ?_
    refine r_iload_n dX7_tellDebt_43 rfl ?_
    obtain ⟨q10, h11, hf⟩ := bnd hf
    refine r_callVi (st := [.int q3.1, .int q1.1, .ref x8]) (as := [.int (l2 + 3), .int l3]) dX7_tellDebt_44 ms_X7_number ⟨rfl, w2_33, w2_35, w0_5⟩ (ok_X7_number h11) (c_X7_number h11) rfl ⟨by omega, by omega⟩ (Nat.le_of_ble_eq_true rfl) (by decide) (by decide) rfl ?_
    obtain ⟨q12, h13, hf⟩ := bnd hf
    refine r_callVv (st := []) (as := [.int q1.1, .int q3.1, .int q10.1]) dX7_tellDebt_47 ms_X1_put ⟨rfl, w2_134, w2_135, w2_136⟩ (ok_X1_put h13) (c_X1_put h13) rfl ⟨by omega, by omega⟩ (Nat.le_of_ble_eq_true rfl) (by decide) (by decide) rfl ?_
    refine r_iconst (v := 1) dX7_tellDebt_50 (by decide) ?_
    have hz := congrArg eI (Option.some.inj hf)
    exact r_zreturn (x' := 1) dX7_tellDebt_51 rfl (Nat.le_of_ble_eq_true rfl) (Nat.le_of_ble_eq_true rfl) rfl hz
  · replace hf := (if_pos c7).symm.trans hf
    refine r_iconst (v := 0) dX7_tellDebt_29 (by decide) ?_
    have hz := congrArg eI (Option.some.inj hf)
    exact r_zreturn (x' := 0) dX7_tellDebt_30 rfl (Nat.le_of_ble_eq_true rfl) (Nat.le_of_ble_eq_true rfl) rfl hz
def f_X7_tellTo_129 (k20 : Mm → Nat → Nat → Int32 → Int32 → Option (Int32 × Mm)) (S : Mm) (l0 : Nat) (l1 : Nat) (l3 : Int32) (l4 : Int32) (l5 : Int32) (l6 : Int32) : Option (Int32 × Mm) := (if l6 = 0 then some (((-2000) - l4), S) else k20 S l0 l1 (l3 + 1) (l5 + 1))
def f_X7_tellTo_20 : Nat → Mm → Nat → Nat → Int32 → Int32 → Option (Int32 × Mm)
  | 0, _, _, _, _, _ => none
  | n + 1, S, l0, l1, l3, l4 => (gI S 7 l0 1).bind fun x1 => (if x1 ≤ l4 then some (l3, S) else (f_X7_endOfStatement S l0 l4).bind fun q4 => (gR q4.2 7 l0 0).bind fun x6 => (aI q4.2 x6 l4).bind fun x8 => (if x8 = 104 then (f_X7_tellHouse q4.2 l0 l1 l4 q4.1).bind fun q13 => f_X7_tellTo_129 (f_X7_tellTo_20 n) q13.2 l0 l1 l3 l4 q4.1 q13.1 else (if x8 = 108 then (f_X7_tellLaw q4.2 l0 l1 l4).bind fun q15 => f_X7_tellTo_129 (f_X7_tellTo_20 n) q15.2 l0 l1 l3 l4 q4.1 q15.1 else (if x8 = 112 then (f_X7_tellPrice q4.2 l0 l1 l4).bind fun q17 => f_X7_tellTo_129 (f_X7_tellTo_20 n) q17.2 l0 l1 l3 l4 q4.1 q17.1 else (f_X7_tellDebt q4.2 l0 l1 l4 q4.1).bind fun q19 => f_X7_tellTo_129 (f_X7_tellTo_20 n) q19.2 l0 l1 l3 l4 q4.1 q19.1))))
def f_X7_tellTo (S : Mm) (l0 : Nat) (l1 : Nat) : Option (Int32 × Mm) := if okc S l0 7 = true then (f_X7_firstWrongPlace S l0).bind fun q1 => (if q1.1 < 0 then f_X7_tellTo_20 100 q1.2 l0 l1 0 0 else some (((-1000) - q1.1), q1.2)) else none
set_option maxRecDepth 20000 in
theorem t_X7_tellTo_129 {G : Gt} {l : Launch} (k20 : Mm → Nat → Nat → Int32 → Int32 → Option (Int32 × Mm)) (ce sl : Nat) (hce : ce ≤ 100) (hsl : sl ≤ 600) (hk20 : ∀ (S : Mm) (l0 : Nat) (l1 : Nat) (l3 : Int32) (l4 : Int32) (T : (Int32 × Mm)), k20 S l0 l1 l3 l4 = some T → Sat G l yX7_tellTo cX7_tellTo 7 (some .int) 6 100 600 ce sl 20 [.ref l0, .ref l1, .null, .int l3, .int l4, .null, .null] [] S (eI T)) (S : Mm) (l0 : Nat) (l1 : Nat) (l3 : Int32) (l4 : Int32) (l5 : Int32) (l6 : Int32) (T : (Int32 × Mm)) (hf : f_X7_tellTo_129 k20 S l0 l1 l3 l4 l5 l6 = some T) : Sat G l yX7_tellTo cX7_tellTo 7 (some .int) 6 100 600 ce sl 129 [.ref l0, .ref l1, .null, .int l3, .int l4, .int l5, .int l6] [] S (eI T) := by
  unfold f_X7_tellTo_129 at hf
  refine r_iload dX7_tellTo_129 rfl ?_
  refine r_if_ne (tgt := 141) dX7_tellTo_131 (by decide) (fun c1 => ?_) (fun c1 => ?_)
  · replace hf := (if_neg c1).symm.trans hf
    refine r_iinc (v := 1) (lv' := [.ref l0, .ref l1, .null, .int (l3 + 1), .int l4, .int l5, .int l6]) dX7_tellTo_141 rfl (by decide) (by decide) rfl rfl ?_
    refine r_iload dX7_tellTo_144 rfl ?_
    refine r_iconst (v := 1) dX7_tellTo_146 (by decide) ?_
    refine r_iadd dX7_tellTo_147 ?_
    refine r_istore (lv' := [.ref l0, .ref l1, .null, .int (l3 + 1), .int (l5 + 1), .int l5, .int l6]) dX7_tellTo_148 (by decide) rfl rfl ?_
    refine r_goto (tgt := 20) dX7_tellTo_150 (by decide) ?_
    refine r_lvs (lv' := [.ref l0, .ref l1, .null, .int (l3 + 1), .int (l5 + 1), .null, .null]) ⟨Or.inl rfl, Or.inl rfl, Or.inl rfl, Or.inl rfl, Or.inl rfl, Or.inr rfl, Or.inr rfl, trivial⟩ ?_
    exact hk20 _ _ _ _ _ _ hf
  · replace hf := (if_pos c1).symm.trans hf
    refine r_sipush (v := (-2000)) dX7_tellTo_134 (by decide) ?_
    refine r_iload dX7_tellTo_137 rfl ?_
    refine r_isub dX7_tellTo_139 ?_
    have hz := congrArg eI (Option.some.inj hf)
    exact r_ireturn dX7_tellTo_140 rfl (by omega) (by omega) hz
set_option maxRecDepth 20000 in
theorem t_X7_tellTo_20 {G : Gt} {l : Launch} : ∀ (n : Nat) (ce sl : Nat), ce + n ≤ 100 → sl + 6 * n ≤ 600 → ∀ (S : Mm) (l0 : Nat) (l1 : Nat) (l3 : Int32) (l4 : Int32) (T : (Int32 × Mm)), f_X7_tellTo_20 n S l0 l1 l3 l4 = some T → Sat G l yX7_tellTo cX7_tellTo 7 (some .int) 6 100 600 ce sl 20 [.ref l0, .ref l1, .null, .int l3, .int l4, .null, .null] [] S (eI T) := by
  intro n
  induction n with
  | zero =>
    intro ce sl hce hsl S l0 l1 l3 l4 T hf
    rw [f_X7_tellTo_20] at hf
    cases hf
  | succ n ih =>
    intro ce sl hce hsl S l0 l1 l3 l4 T hf
    rw [f_X7_tellTo_20] at hf
    refine r_iload dX7_tellTo_20 rfl ?_
    refine r_aload_n dX7_tellTo_22 rfl ?_
    obtain ⟨x1, h2, hf⟩ := bnd hf
    refine r_getI dX7_tellTo_23 fs7_15_7 rfl h2 ?_
    refine r_icmp_ge (tgt := 153) dX7_tellTo_26 (by decide) (fun c3 => ?_) (fun c3 => ?_)
    · replace hf := (if_pos c3).symm.trans hf
      refine r_iload_n dX7_tellTo_153 rfl ?_
      have hz := congrArg eI (Option.some.inj hf)
      exact r_ireturn dX7_tellTo_154 rfl (by omega) (by omega) hz
    · replace hf := (if_neg c3).symm.trans hf
      refine r_aload_n dX7_tellTo_29 rfl ?_
      refine r_iload dX7_tellTo_30 rfl ?_
      obtain ⟨q4, h5, hf⟩ := bnd hf
      refine r_callVi (st := []) (as := [.int l4]) dX7_tellTo_32 ms_X7_endOfStatement ⟨rfl, w2_21, w2_23, w0_2⟩ (ok_X7_endOfStatement h5) (c_X7_endOfStatement h5) rfl ⟨by omega, by omega⟩ (Nat.le_of_ble_eq_true rfl) (by omega) (by omega) rfl ?_
      refine r_istore (lv' := [.ref l0, .ref l1, .null, .int l3, .int l4, .int q4.1, .null]) dX7_tellTo_35 (by decide) rfl rfl ?_
      refine r_aload_n dX7_tellTo_37 rfl ?_
      obtain ⟨x6, h7, hf⟩ := bnd hf
      refine r_getR dX7_tellTo_38 fs7_9_7 rfl h7 ?_
      refine r_iload dX7_tellTo_41 rfl ?_
      obtain ⟨x8, h9, hf⟩ := bnd hf
      refine r_iaload dX7_tellTo_43 h9 ?_
      by_cases c10 : x8 = 104
      · replace hf := (if_pos c10).symm.trans hf
        refine r_lsIn (k := 104) (off := 36) (tgt := 80) dX7_tellTo_44 (by decide) c10 (by decide) (by decide) ?_
        refine r_aload_n dX7_tellTo_80 rfl ?_
        refine r_aload_n dX7_tellTo_81 rfl ?_
        refine r_iload dX7_tellTo_82 rfl ?_
        refine r_iload dX7_tellTo_84 rfl ?_
        obtain ⟨q13, h14, hf⟩ := bnd hf
        refine r_callVi (st := []) (as := [.ref l1, .int l4, .int q4.1]) dX7_tellTo_86 ms_X7_tellHouse ⟨rfl, w2_25, w2_27, w0_3⟩ (ok_X7_tellHouse h14) (c_X7_tellHouse h14) rfl ⟨by omega, by omega⟩ (Nat.le_of_ble_eq_true rfl) (by omega) (by omega) rfl ?_
        refine r_istore (lv' := [.ref l0, .ref l1, .null, .int l3, .int l4, .int q4.1, .int q13.1]) dX7_tellTo_89 (by decide) rfl rfl ?_
        refine r_goto (tgt := 129) dX7_tellTo_91 (by decide) ?_
        exact t_X7_tellTo_129 (f_X7_tellTo_20 n) (ce + 1) (sl + 6) (by omega) (by omega) (fun S0 a0 a1 a2 a3 T0 h0 => ih (ce + 1) (sl + 6) (by omega) (by omega) S0 a0 a1 a2 a3 T0 h0) _ _ _ _ _ _ _ _ hf
      replace hf := (if_neg c10).symm.trans hf
      by_cases c11 : x8 = 108
      · replace hf := (if_pos c11).symm.trans hf
        refine r_lsIn (k := 108) (off := 62) (tgt := 106) dX7_tellTo_44 (by decide) c11 (by decide) (by decide) ?_
        refine r_aload_n dX7_tellTo_106 rfl ?_
        refine r_aload_n dX7_tellTo_107 rfl ?_
        refine r_iload dX7_tellTo_108 rfl ?_
        obtain ⟨q15, h16, hf⟩ := bnd hf
        refine r_callVi (st := []) (as := [.ref l1, .int l4]) dX7_tellTo_110 ms_X7_tellLaw ⟨rfl, w2_115, w2_117, w0_7⟩ (ok_X7_tellLaw h16) (c_X7_tellLaw h16) rfl ⟨by omega, by omega⟩ (Nat.le_of_ble_eq_true rfl) (by omega) (by omega) rfl ?_
        refine r_istore (lv' := [.ref l0, .ref l1, .null, .int l3, .int l4, .int q4.1, .int q15.1]) dX7_tellTo_113 (by decide) rfl rfl ?_
        refine r_goto (tgt := 129) dX7_tellTo_115 (by decide) ?_
        refine r_widen (ce' := ce + 1) (sl' := sl + 6) (by omega) (by omega) ?_
        exact t_X7_tellTo_129 (f_X7_tellTo_20 n) (ce + 1) (sl + 6) (by omega) (by omega) (fun S0 a0 a1 a2 a3 T0 h0 => ih (ce + 1) (sl + 6) (by omega) (by omega) S0 a0 a1 a2 a3 T0 h0) _ _ _ _ _ _ _ _ hf
      replace hf := (if_neg c11).symm.trans hf
      by_cases c12 : x8 = 112
      · replace hf := (if_pos c12).symm.trans hf
        refine r_lsIn (k := 112) (off := 50) (tgt := 94) dX7_tellTo_44 (by decide) c12 (by decide) (by decide) ?_
        refine r_aload_n dX7_tellTo_94 rfl ?_
        refine r_aload_n dX7_tellTo_95 rfl ?_
        refine r_iload dX7_tellTo_96 rfl ?_
        obtain ⟨q17, h18, hf⟩ := bnd hf
        refine r_callVi (st := []) (as := [.ref l1, .int l4]) dX7_tellTo_98 ms_X7_tellPrice ⟨rfl, w2_111, w2_113, w0_6⟩ (ok_X7_tellPrice h18) (c_X7_tellPrice h18) rfl ⟨by omega, by omega⟩ (Nat.le_of_ble_eq_true rfl) (by omega) (by omega) rfl ?_
        refine r_istore (lv' := [.ref l0, .ref l1, .null, .int l3, .int l4, .int q4.1, .int q17.1]) dX7_tellTo_101 (by decide) rfl rfl ?_
        refine r_goto (tgt := 129) dX7_tellTo_103 (by decide) ?_
        refine r_widen (ce' := ce + 1) (sl' := sl + 6) (by omega) (by omega) ?_
        exact t_X7_tellTo_129 (f_X7_tellTo_20 n) (ce + 1) (sl + 6) (by omega) (by omega) (fun S0 a0 a1 a2 a3 T0 h0 => ih (ce + 1) (sl + 6) (by omega) (by omega) S0 a0 a1 a2 a3 T0 h0) _ _ _ _ _ _ _ _ hf
      replace hf := (if_neg c12).symm.trans hf
      refine r_lsOut (ks := [104, 108, 112]) (tgt := 118) dX7_tellTo_44 (by decide) (by decide) (by simp only [List.mem_cons, List.not_mem_nil, or_false, not_or]; exact ⟨c10, c11, c12⟩) (by decide) ?_
      refine r_aload_n dX7_tellTo_118 rfl ?_
      refine r_aload_n dX7_tellTo_119 rfl ?_
      refine r_iload dX7_tellTo_120 rfl ?_
      refine r_iload dX7_tellTo_122 rfl ?_
      obtain ⟨q19, h20, hf⟩ := bnd hf
      refine r_callVi (st := []) (as := [.ref l1, .int l4, .int q4.1]) dX7_tellTo_124 ms_X7_tellDebt ⟨rfl, w2_122, w2_124, w0_8⟩ (ok_X7_tellDebt h20) (c_X7_tellDebt h20) rfl ⟨by omega, by omega⟩ (Nat.le_of_ble_eq_true rfl) (by omega) (by omega) rfl ?_
      refine r_istore (lv' := [.ref l0, .ref l1, .null, .int l3, .int l4, .int q4.1, .int q19.1]) dX7_tellTo_127 (by decide) rfl rfl ?_
      refine r_widen (ce' := ce + 1) (sl' := sl + 6) (by omega) (by omega) ?_
      exact t_X7_tellTo_129 (f_X7_tellTo_20 n) (ce + 1) (sl + 6) (by omega) (by omega) (fun S0 a0 a1 a2 a3 T0 h0 => ih (ce + 1) (sl + 6) (by omega) (by omega) S0 a0 a1 a2 a3 T0 h0) _ _ _ _ _ _ _ _ hf
set_option maxRecDepth 20000 in
theorem ok_X7_tellTo {S : Mm} {l0 : Nat} {l1 : Nat} {T : (Int32 × Mm)} (hf : f_X7_tellTo S l0 l1 = some T) : okc S l0 7 = true := (oif hf).1
set_option maxRecDepth 20000 in
theorem c_X7_tellTo {G : Gt} {l : Launch} {S : Mm} {l0 : Nat} {l1 : Nat} {T : (Int32 × Mm)} (hf : f_X7_tellTo S l0 l1 = some T) : CC G l yX7_tellTo cX7_tellTo 7 (some .int) 6 100 600 [.ref l0, .ref l1] S (eI T) := by
  unfold f_X7_tellTo at hf
  replace hf := (oif hf).2
  refine r_body (by decide) rfl (Nat.le_of_ble_eq_true rfl) (by simp) ?_
  refine r_aload_n dX7_tellTo_0 rfl ?_
  obtain ⟨q1, h2, hf⟩ := bnd hf
  refine r_callVi (st := []) (as := []) dX7_tellTo_1 ms_X7_firstWrongPlace ⟨rfl, w2_7, w2_8, w2_9⟩ (ok_X7_firstWrongPlace h2) (c_X7_firstWrongPlace h2) rfl ⟨by omega, by omega⟩ (Nat.le_of_ble_eq_true rfl) (by omega) (by omega) rfl ?_
  refine r_istore_n (lv' := [.ref l0, .ref l1, .int q1.1, .null, .null, .null, .null]) dX7_tellTo_4 (by decide) rfl rfl ?_
  refine r_iload_n dX7_tellTo_5 rfl ?_
  refine r_if_lt (tgt := 15) dX7_tellTo_6 (by decide) (fun c3 => ?_) (fun c3 => ?_)
  · replace hf := (if_pos c3).symm.trans hf
    refine r_iconst (v := 0) dX7_tellTo_15 (by decide) ?_
    refine r_istore_n (lv' := [.ref l0, .ref l1, .int q1.1, .int 0, .null, .null, .null]) dX7_tellTo_16 (by decide) rfl rfl ?_
    refine r_iconst (v := 0) dX7_tellTo_17 (by decide) ?_
    refine r_istore (lv' := [.ref l0, .ref l1, .int q1.1, .int 0, .int 0, .null, .null]) dX7_tellTo_18 (by decide) rfl rfl ?_
    refine r_lvs (lv' := [.ref l0, .ref l1, .null, .int 0, .int 0, .null, .null]) ⟨Or.inl rfl, Or.inl rfl, Or.inr rfl, Or.inl rfl, Or.inl rfl, Or.inl rfl, Or.inl rfl, trivial⟩ ?_
    exact t_X7_tellTo_20 100 0 0 (by decide) (by decide) _ _ _ _ _ _ hf
  · replace hf := (if_neg c3).symm.trans hf
    refine r_sipush (v := (-1000)) dX7_tellTo_9 (by decide) ?_
    refine r_iload_n dX7_tellTo_12 rfl ?_
    refine r_isub dX7_tellTo_13 ?_
    have hz := congrArg eI (Option.some.inj hf)
    exact r_ireturn dX7_tellTo_14 rfl (by omega) (by omega) hz
def f_X9_init (S : Mm) (l0 : Nat) : Option Mm := (pR (nC S 100 6) 9 l0 3 (mX S)).bind fun S1 => some S1
set_option maxRecDepth 20000 in
theorem c_X9_init {G : Gt} {l : Launch} {S : Mm} {l0 : Nat} {T : Mm} (hf : f_X9_init S l0 = some T) : CC G l yX9_init cX9_init 1 none 1 1 6 [.ref l0] S (eV T) := by
  unfold f_X9_init at hf
  refine r_body (by decide) rfl (Nat.le_of_ble_eq_true rfl) (by simp) ?_
  refine r_aload_n dX9_init_0 rfl ?_
  refine r_objInit dX9_init_1 ⟨w1_146, w1_22, w1_23⟩ (by decide) (Nat.le_of_ble_eq_true rfl) ?_
  refine r_aload_n dX9_init_4 rfl ?_
  refine r_bipush (v := 6) dX9_init_5 (by decide) ?_
  refine r_newarray (N := 6) dX9_init_7 w1_42 (by decide) (by decide) (by decide) (by decide) (by decide) ?_
  obtain ⟨S1, h2, hf⟩ := bnd hf
  refine r_putFR dX9_init_9 fs9_9_9 (fun _ _ _ h => by cases h; rfl) rfl rfl (fun _ => rfl) (fun _ => rfl) h2 ?_
  have hz := congrArg eV (Option.some.inj hf)
  exact r_return dX9_init_12 rfl (Nat.le_of_ble_eq_true rfl) (Nat.le_of_ble_eq_true rfl) hz
def f_X9_clear_11 : Nat → Mm → Nat → Int32 → Option Mm
  | 0, _, _, _ => none
  | n + 1, S, l0, l1 => (gR S 9 l0 3).bind fun x1 => (aL S 100 x1).bind fun x3 => (if x3 ≤ l1 then some S else (gR S 9 l0 3).bind fun x6 => (aS S x6 l1 0).bind fun S8 => (f_X9_clear_11 n) S8 l0 (l1 + 1))
def f_X9_clear (S : Mm) (l0 : Nat) : Option Mm := if okc S l0 9 = true then (pI S 9 l0 0 0).bind fun S1 => (f_X9_beginWeek S1 l0).bind fun q3 => f_X9_clear_11 FU q3 l0 0 else none
set_option maxRecDepth 20000 in
theorem t_X9_clear_11 {G : Gt} {l : Launch} : ∀ (n : Nat) (S : Mm) (l0 : Nat) (l1 : Int32) (T : Mm), f_X9_clear_11 n S l0 l1 = some T → Sat G l yX9_clear cX9_clear 2 none 1 0 0 0 0 11 [.ref l0, .int l1] [] S (eV T) := by
  intro n
  induction n with
  | zero =>
    intro S l0 l1 T hf
    rw [f_X9_clear_11] at hf
    cases hf
  | succ n ih =>
    intro S l0 l1 T hf
    rw [f_X9_clear_11] at hf
    refine r_iload_n dX9_clear_11 rfl ?_
    refine r_aload_n dX9_clear_12 rfl ?_
    obtain ⟨x1, h2, hf⟩ := bnd hf
    refine r_getR dX9_clear_13 fs9_9_9 rfl h2 ?_
    obtain ⟨x3, h4, hf⟩ := bnd hf
    refine r_alen dX9_clear_16 h4 ?_
    refine r_icmp_ge (tgt := 33) dX9_clear_17 (by decide) (fun c5 => ?_) (fun c5 => ?_)
    · replace hf := (if_pos c5).symm.trans hf
      have hz := congrArg eV (Option.some.inj hf)
      exact r_return dX9_clear_33 rfl (Nat.le_of_ble_eq_true rfl) (Nat.le_of_ble_eq_true rfl) hz
    · replace hf := (if_neg c5).symm.trans hf
      refine r_aload_n dX9_clear_20 rfl ?_
      obtain ⟨x6, h7, hf⟩ := bnd hf
      refine r_getR dX9_clear_21 fs9_9_9 rfl h7 ?_
      refine r_iload_n dX9_clear_24 rfl ?_
      refine r_iconst (v := 0) dX9_clear_25 (by decide) ?_
      obtain ⟨S8, h9, hf⟩ := bnd hf
      refine r_iastore dX9_clear_26 h9 ?_
      refine r_iinc (v := 1) (lv' := [.ref l0, .int (l1 + 1)]) dX9_clear_27 rfl (by decide) (by decide) rfl rfl ?_
      refine r_goto (tgt := 11) dX9_clear_30 (by decide) ?_
      exact ih _ _ _ _ hf
set_option maxRecDepth 20000 in
theorem ok_X9_clear {S : Mm} {l0 : Nat} {T : Mm} (hf : f_X9_clear S l0 = some T) : okc S l0 9 = true := (oif hf).1
set_option maxRecDepth 20000 in
theorem c_X9_clear {G : Gt} {l : Launch} {S : Mm} {l0 : Nat} {T : Mm} (hf : f_X9_clear S l0 = some T) : CC G l yX9_clear cX9_clear 2 none 1 0 0 [.ref l0] S (eV T) := by
  unfold f_X9_clear at hf
  replace hf := (oif hf).2
  refine r_body (by decide) rfl (Nat.le_of_ble_eq_true rfl) (by simp) ?_
  refine r_aload_n dX9_clear_0 rfl ?_
  refine r_iconst (v := 0) dX9_clear_1 (by decide) ?_
  obtain ⟨S1, h2, hf⟩ := bnd hf
  refine r_putI dX9_clear_2 fs9_15_9 rfl h2 ?_
  refine r_aload_n dX9_clear_5 rfl ?_
  obtain ⟨q3, h4, hf⟩ := bnd hf
  refine r_callVv (st := []) (as := []) dX9_clear_6 ms_X9_beginWeek ⟨rfl, w3_29, w3_30, w3_31⟩ (ok_X9_beginWeek h4) (c_X9_beginWeek h4) rfl ⟨by omega, by omega⟩ (Nat.le_of_ble_eq_true rfl) (by decide) (by decide) rfl ?_
  refine r_iconst (v := 0) dX9_clear_9 (by decide) ?_
  refine r_istore_n (lv' := [.ref l0, .int 0]) dX9_clear_10 (by decide) rfl rfl ?_
  exact t_X9_clear_11 FU _ _ _ _ hf
def f_X10_hasBuyer_34 (k2 : Mm → Nat → Int32 → Int32 → Int32 → Option (Int32 × Mm)) (S : Mm) (l0 : Nat) (l1 : Int32) (l2 : Int32) (l3 : Int32) : Option (Int32 × Mm) := k2 S l0 l1 l2 (l3 + 1)
def f_X10_hasBuyer_2 : Nat → Mm → Nat → Int32 → Int32 → Int32 → Option (Int32 × Mm)
  | 0, _, _, _, _, _ => none
  | n + 1, S, l0, l1, l2, l3 => (gI S 6 l0 1).bind fun x1 => (if x1 ≤ l3 then some (0, S) else (gR S 6 l0 0).bind fun x4 => (aR S x4 l3).bind fun x6 => (dy_wantsSome S x6 l2).bind fun q8 => (if q8.1 = 0 then f_X10_hasBuyer_34 (f_X10_hasBuyer_2 n) q8.2 l0 l1 l2 l3 else (f_X6_isLawful q8.2 l0 l1 l3).bind fun q11 => (if q11.1 = 0 then f_X10_hasBuyer_34 (f_X10_hasBuyer_2 n) q11.2 l0 l1 l2 l3 else some (1, q11.2))))
def f_X10_hasBuyer (S : Mm) (l0 : Nat) (l1 : Int32) (l2 : Int32) : Option (Int32 × Mm) := f_X10_hasBuyer_2 FU S l0 l1 l2 0
set_option maxRecDepth 20000 in
theorem t_X10_hasBuyer_34 {G : Gt} {l : Launch} (k2 : Mm → Nat → Int32 → Int32 → Int32 → Option (Int32 × Mm)) (hk2 : ∀ (S : Mm) (l0 : Nat) (l1 : Int32) (l2 : Int32) (l3 : Int32) (T : (Int32 × Mm)), k2 S l0 l1 l2 l3 = some T → Sat G l yX10_hasBuyer cX10_hasBuyer 4 (some .boolean) 2 0 0 0 0 2 [.ref l0, .int l1, .int l2, .int l3] [] S (eI T)) (S : Mm) (l0 : Nat) (l1 : Int32) (l2 : Int32) (l3 : Int32) (T : (Int32 × Mm)) (hf : f_X10_hasBuyer_34 k2 S l0 l1 l2 l3 = some T) : Sat G l yX10_hasBuyer cX10_hasBuyer 4 (some .boolean) 2 0 0 0 0 34 [.ref l0, .int l1, .int l2, .int l3] [] S (eI T) := by
  unfold f_X10_hasBuyer_34 at hf
  refine r_iinc (v := 1) (lv' := [.ref l0, .int l1, .int l2, .int (l3 + 1)]) dX10_hasBuyer_34 rfl (by decide) (by decide) rfl rfl ?_
  refine r_goto (tgt := 2) dX10_hasBuyer_37 (by decide) ?_
  exact hk2 _ _ _ _ _ _ hf
set_option maxRecDepth 20000 in
theorem t_X10_hasBuyer_2 {G : Gt} {l : Launch} : ∀ (n : Nat) (S : Mm) (l0 : Nat) (l1 : Int32) (l2 : Int32) (l3 : Int32) (T : (Int32 × Mm)), f_X10_hasBuyer_2 n S l0 l1 l2 l3 = some T → Sat G l yX10_hasBuyer cX10_hasBuyer 4 (some .boolean) 2 0 0 0 0 2 [.ref l0, .int l1, .int l2, .int l3] [] S (eI T) := by
  intro n
  induction n with
  | zero =>
    intro S l0 l1 l2 l3 T hf
    rw [f_X10_hasBuyer_2] at hf
    cases hf
  | succ n ih =>
    intro S l0 l1 l2 l3 T hf
    rw [f_X10_hasBuyer_2] at hf
    refine r_iload_n dX10_hasBuyer_2 rfl ?_
    refine r_aload_n dX10_hasBuyer_3 rfl ?_
    obtain ⟨x1, h2, hf⟩ := bnd hf
    refine r_getI dX10_hasBuyer_4 fs10_9_6 rfl h2 ?_
    refine r_icmp_ge (tgt := 40) dX10_hasBuyer_7 (by decide) (fun c3 => ?_) (fun c3 => ?_)
    · replace hf := (if_pos c3).symm.trans hf
      refine r_iconst (v := 0) dX10_hasBuyer_40 (by decide) ?_
      have hz := congrArg eI (Option.some.inj hf)
      exact r_zreturn (x' := 0) dX10_hasBuyer_41 rfl (Nat.le_of_ble_eq_true rfl) (Nat.le_of_ble_eq_true rfl) rfl hz
    · replace hf := (if_neg c3).symm.trans hf
      refine r_aload_n dX10_hasBuyer_10 rfl ?_
      obtain ⟨x4, h5, hf⟩ := bnd hf
      refine r_getR dX10_hasBuyer_11 fs10_15_6 rfl h5 ?_
      refine r_iload_n dX10_hasBuyer_14 rfl ?_
      obtain ⟨x6, h7, hf⟩ := bnd hf
      refine r_aaload dX10_hasBuyer_15 h7 ?_
      refine r_iload_n dX10_hasBuyer_16 rfl ?_
      obtain ⟨q8, h9, hf⟩ := bnd hf
      refine rv_10_19 (st := []) dX10_hasBuyer_17 rfl h9 ⟨by omega, by omega⟩ (Nat.le_of_ble_eq_true rfl) (by decide) (by decide) rfl ?_
      refine r_if_eq (tgt := 34) dX10_hasBuyer_20 (by decide) (fun c10 => ?_) (fun c10 => ?_)
      · replace hf := (if_pos c10).symm.trans hf
        exact t_X10_hasBuyer_34 (f_X10_hasBuyer_2 n) ih _ _ _ _ _ _ hf
      · replace hf := (if_neg c10).symm.trans hf
        refine r_aload_n dX10_hasBuyer_23 rfl ?_
        refine r_iload_n dX10_hasBuyer_24 rfl ?_
        refine r_iload_n dX10_hasBuyer_25 rfl ?_
        obtain ⟨q11, h12, hf⟩ := bnd hf
        refine r_callVi (st := []) (as := [.int l1, .int l3]) dX10_hasBuyer_26 ms_X6_isLawful ⟨rfl, w3_156, w2_217, w2_218⟩ (ok_X6_isLawful h12) (c_X6_isLawful h12) rfl ⟨by omega, by omega⟩ (Nat.le_of_ble_eq_true rfl) (by decide) (by decide) rfl ?_
        refine r_if_eq (tgt := 34) dX10_hasBuyer_29 (by decide) (fun c13 => ?_) (fun c13 => ?_)
        · replace hf := (if_pos c13).symm.trans hf
          exact t_X10_hasBuyer_34 (f_X10_hasBuyer_2 n) ih _ _ _ _ _ _ hf
        · replace hf := (if_neg c13).symm.trans hf
          refine r_iconst (v := 1) dX10_hasBuyer_32 (by decide) ?_
          have hz := congrArg eI (Option.some.inj hf)
          exact r_zreturn (x' := 1) dX10_hasBuyer_33 rfl (Nat.le_of_ble_eq_true rfl) (Nat.le_of_ble_eq_true rfl) rfl hz
set_option maxRecDepth 20000 in
theorem c_X10_hasBuyer {G : Gt} {l : Launch} {S : Mm} {l0 : Nat} {l1 : Int32} {l2 : Int32} {T : (Int32 × Mm)} (hf : f_X10_hasBuyer S l0 l1 l2 = some T) : CC G l yX10_hasBuyer cX10_hasBuyer 4 (some .boolean) 2 0 0 [.ref l0, .int l1, .int l2] S (eI T) := by
  unfold f_X10_hasBuyer at hf
  refine r_body (by decide) rfl (Nat.le_of_ble_eq_true rfl) (by simp) ?_
  refine r_iconst (v := 0) dX10_hasBuyer_0 (by decide) ?_
  refine r_istore_n (lv' := [.ref l0, .int l1, .int l2, .int 0]) dX10_hasBuyer_1 (by decide) rfl rfl ?_
  exact t_X10_hasBuyer_2 FU _ _ _ _ _ _ hf
def f_X10_stuckOf_43 (k4 : Mm → Nat → Int32 → Int32 → Int32 → Option (Int32 × Mm)) (S : Mm) (l0 : Nat) (l1 : Int32) (l2 : Int32) (l3 : Int32) : Option (Int32 × Mm) := k4 S l0 l1 l2 (l3 + 1)
def f_X10_stuckOf_4 : Nat → Mm → Nat → Int32 → Int32 → Int32 → Option (Int32 × Mm)
  | 0, _, _, _, _, _ => none
  | n + 1, S, l0, l1, l2, l3 => (gI S 6 l0 1).bind fun x1 => (if x1 ≤ l3 then some (l2, S) else (gR S 6 l0 0).bind fun x4 => (aR S x4 l3).bind fun x6 => (dy_wantsSome S x6 l1).bind fun q8 => (if q8.1 = 0 then (f_X10_hasBuyer q8.2 l0 l3 l1).bind fun q11 => (if q11.1 = 0 then (f_X6_piecesOf q11.2 l0 l3 l1).bind fun q14 => f_X10_stuckOf_43 (f_X10_stuckOf_4 n) q14.2 l0 l1 (l2 + q14.1) l3 else f_X10_stuckOf_43 (f_X10_stuckOf_4 n) q11.2 l0 l1 l2 l3) else f_X10_stuckOf_43 (f_X10_stuckOf_4 n) q8.2 l0 l1 l2 l3))
def f_X10_stuckOf (S : Mm) (l0 : Nat) (l1 : Int32) : Option (Int32 × Mm) := f_X10_stuckOf_4 FU S l0 l1 0 0
set_option maxRecDepth 20000 in
theorem t_X10_stuckOf_43 {G : Gt} {l : Launch} (k4 : Mm → Nat → Int32 → Int32 → Int32 → Option (Int32 × Mm)) (hk4 : ∀ (S : Mm) (l0 : Nat) (l1 : Int32) (l2 : Int32) (l3 : Int32) (T : (Int32 × Mm)), k4 S l0 l1 l2 l3 = some T → Sat G l yX10_stuckOf cX10_stuckOf 4 (some .int) 3 0 0 0 0 4 [.ref l0, .int l1, .int l2, .int l3] [] S (eI T)) (S : Mm) (l0 : Nat) (l1 : Int32) (l2 : Int32) (l3 : Int32) (T : (Int32 × Mm)) (hf : f_X10_stuckOf_43 k4 S l0 l1 l2 l3 = some T) : Sat G l yX10_stuckOf cX10_stuckOf 4 (some .int) 3 0 0 0 0 43 [.ref l0, .int l1, .int l2, .int l3] [] S (eI T) := by
  unfold f_X10_stuckOf_43 at hf
  refine r_iinc (v := 1) (lv' := [.ref l0, .int l1, .int l2, .int (l3 + 1)]) dX10_stuckOf_43 rfl (by decide) (by decide) rfl rfl ?_
  refine r_goto (tgt := 4) dX10_stuckOf_46 (by decide) ?_
  exact hk4 _ _ _ _ _ _ hf
set_option maxRecDepth 20000 in
theorem t_X10_stuckOf_4 {G : Gt} {l : Launch} : ∀ (n : Nat) (S : Mm) (l0 : Nat) (l1 : Int32) (l2 : Int32) (l3 : Int32) (T : (Int32 × Mm)), f_X10_stuckOf_4 n S l0 l1 l2 l3 = some T → Sat G l yX10_stuckOf cX10_stuckOf 4 (some .int) 3 0 0 0 0 4 [.ref l0, .int l1, .int l2, .int l3] [] S (eI T) := by
  intro n
  induction n with
  | zero =>
    intro S l0 l1 l2 l3 T hf
    rw [f_X10_stuckOf_4] at hf
    cases hf
  | succ n ih =>
    intro S l0 l1 l2 l3 T hf
    rw [f_X10_stuckOf_4] at hf
    refine r_iload_n dX10_stuckOf_4 rfl ?_
    refine r_aload_n dX10_stuckOf_5 rfl ?_
    obtain ⟨x1, h2, hf⟩ := bnd hf
    refine r_getI dX10_stuckOf_6 fs10_9_6 rfl h2 ?_
    refine r_icmp_ge (tgt := 49) dX10_stuckOf_9 (by decide) (fun c3 => ?_) (fun c3 => ?_)
    · replace hf := (if_pos c3).symm.trans hf
      refine r_iload_n dX10_stuckOf_49 rfl ?_
      have hz := congrArg eI (Option.some.inj hf)
      exact r_ireturn dX10_stuckOf_50 rfl (Nat.le_of_ble_eq_true rfl) (Nat.le_of_ble_eq_true rfl) hz
    · replace hf := (if_neg c3).symm.trans hf
      refine r_aload_n dX10_stuckOf_12 rfl ?_
      obtain ⟨x4, h5, hf⟩ := bnd hf
      refine r_getR dX10_stuckOf_13 fs10_15_6 rfl h5 ?_
      refine r_iload_n dX10_stuckOf_16 rfl ?_
      obtain ⟨x6, h7, hf⟩ := bnd hf
      refine r_aaload dX10_stuckOf_17 h7 ?_
      refine r_iload_n dX10_stuckOf_18 rfl ?_
      obtain ⟨q8, h9, hf⟩ := bnd hf
      refine rv_10_19 (st := []) dX10_stuckOf_19 rfl h9 ⟨by omega, by omega⟩ (Nat.le_of_ble_eq_true rfl) (by decide) (by decide) rfl ?_
      refine r_if_ne (tgt := 43) dX10_stuckOf_22 (by decide) (fun c10 => ?_) (fun c10 => ?_)
      · replace hf := (if_neg c10).symm.trans hf
        exact t_X10_stuckOf_43 (f_X10_stuckOf_4 n) ih _ _ _ _ _ _ hf
      · replace hf := (if_pos c10).symm.trans hf
        refine r_aload_n dX10_stuckOf_25 rfl ?_
        refine r_iload_n dX10_stuckOf_26 rfl ?_
        refine r_iload_n dX10_stuckOf_27 rfl ?_
        obtain ⟨q11, h12, hf⟩ := bnd hf
        refine r_callSi (st := []) (as := [.ref l0, .int l3, .int l1]) dX10_stuckOf_28 ms_X10_hasBuyer ⟨w3_153, w3_154⟩ (c_X10_hasBuyer h12) rfl ⟨by omega, by omega⟩ (Nat.le_of_ble_eq_true rfl) (by decide) (by decide) rfl ?_
        refine r_if_ne (tgt := 43) dX10_stuckOf_31 (by decide) (fun c13 => ?_) (fun c13 => ?_)
        · replace hf := (if_neg c13).symm.trans hf
          exact t_X10_stuckOf_43 (f_X10_stuckOf_4 n) ih _ _ _ _ _ _ hf
        · replace hf := (if_pos c13).symm.trans hf
          refine r_iload_n dX10_stuckOf_34 rfl ?_
          refine r_aload_n dX10_stuckOf_35 rfl ?_
          refine r_iload_n dX10_stuckOf_36 rfl ?_
          refine r_iload_n dX10_stuckOf_37 rfl ?_
          obtain ⟨q14, h15, hf⟩ := bnd hf
          refine r_callVi (st := [.int l2]) (as := [.int l3, .int l1]) dX10_stuckOf_38 ms_X6_piecesOf ⟨rfl, w3_157, w2_199, w2_200⟩ (ok_X6_piecesOf h15) (c_X6_piecesOf h15) rfl ⟨by omega, by omega⟩ (Nat.le_of_ble_eq_true rfl) (by decide) (by decide) rfl ?_
          refine r_iadd dX10_stuckOf_41 ?_
          refine r_istore_n (lv' := [.ref l0, .int l1, .int (l2 + q14.1), .int l3]) dX10_stuckOf_42 (by decide) rfl rfl ?_
          exact t_X10_stuckOf_43 (f_X10_stuckOf_4 n) ih _ _ _ _ _ _ hf
set_option maxRecDepth 20000 in
theorem c_X10_stuckOf {G : Gt} {l : Launch} {S : Mm} {l0 : Nat} {l1 : Int32} {T : (Int32 × Mm)} (hf : f_X10_stuckOf S l0 l1 = some T) : CC G l yX10_stuckOf cX10_stuckOf 4 (some .int) 3 0 0 [.ref l0, .int l1] S (eI T) := by
  unfold f_X10_stuckOf at hf
  refine r_body (by decide) rfl (Nat.le_of_ble_eq_true rfl) (by simp) ?_
  refine r_iconst (v := 0) dX10_stuckOf_0 (by decide) ?_
  refine r_istore_n (lv' := [.ref l0, .int l1, .int 0, .null]) dX10_stuckOf_1 (by decide) rfl rfl ?_
  refine r_iconst (v := 0) dX10_stuckOf_2 (by decide) ?_
  refine r_istore_n (lv' := [.ref l0, .int l1, .int 0, .int 0]) dX10_stuckOf_3 (by decide) rfl rfl ?_
  exact t_X10_stuckOf_4 FU _ _ _ _ _ _ hf
def f_X10_hasSellerAmong_48 (k3 : Mm → Nat → Int32 → Int32 → Int32 → Int32 → Option (Int32 × Mm)) (S : Mm) (l0 : Nat) (l1 : Int32) (l2 : Int32) (l3 : Int32) (l4 : Int32) : Option (Int32 × Mm) := k3 S l0 l1 l2 l3 (l4 + 1)
def f_X10_hasSellerAmong_3 : Nat → Mm → Nat → Int32 → Int32 → Int32 → Int32 → Option (Int32 × Mm)
  | 0, _, _, _, _, _, _ => none
  | n + 1, S, l0, l1, l2, l3, l4 => (gI S 6 l0 1).bind fun x1 => (if x1 ≤ l4 then some (0, S) else (if ((l3 >>> (l4 &&& 31)) &&& 1) = 1 then (gR S 6 l0 0).bind fun x5 => (aR S x5 l4).bind fun x7 => (dy_wantsSome S x7 l2).bind fun q9 => (if q9.1 = 0 then (f_X6_isLawful q9.2 l0 l4 l1).bind fun q12 => (if q12.1 = 0 then f_X10_hasSellerAmong_48 (f_X10_hasSellerAmong_3 n) q12.2 l0 l1 l2 l3 l4 else some (1, q12.2)) else f_X10_hasSellerAmong_48 (f_X10_hasSellerAmong_3 n) q9.2 l0 l1 l2 l3 l4) else f_X10_hasSellerAmong_48 (f_X10_hasSellerAmong_3 n) S l0 l1 l2 l3 l4))
def f_X10_hasSellerAmong (S : Mm) (l0 : Nat) (l1 : Int32) (l2 : Int32) (l3 : Int32) : Option (Int32 × Mm) := f_X10_hasSellerAmong_3 FU S l0 l1 l2 l3 0
set_option maxRecDepth 20000 in
theorem t_X10_hasSellerAmong_48 {G : Gt} {l : Launch} (k3 : Mm → Nat → Int32 → Int32 → Int32 → Int32 → Option (Int32 × Mm)) (hk3 : ∀ (S : Mm) (l0 : Nat) (l1 : Int32) (l2 : Int32) (l3 : Int32) (l4 : Int32) (T : (Int32 × Mm)), k3 S l0 l1 l2 l3 l4 = some T → Sat G l yX10_hasSellerAmong cX10_hasSellerAmong 5 (some .boolean) 2 0 0 0 0 3 [.ref l0, .int l1, .int l2, .int l3, .int l4] [] S (eI T)) (S : Mm) (l0 : Nat) (l1 : Int32) (l2 : Int32) (l3 : Int32) (l4 : Int32) (T : (Int32 × Mm)) (hf : f_X10_hasSellerAmong_48 k3 S l0 l1 l2 l3 l4 = some T) : Sat G l yX10_hasSellerAmong cX10_hasSellerAmong 5 (some .boolean) 2 0 0 0 0 48 [.ref l0, .int l1, .int l2, .int l3, .int l4] [] S (eI T) := by
  unfold f_X10_hasSellerAmong_48 at hf
  refine r_iinc (v := 1) (lv' := [.ref l0, .int l1, .int l2, .int l3, .int (l4 + 1)]) dX10_hasSellerAmong_48 rfl (by decide) (by decide) rfl rfl ?_
  refine r_goto (tgt := 3) dX10_hasSellerAmong_51 (by decide) ?_
  exact hk3 _ _ _ _ _ _ _ hf
set_option maxRecDepth 20000 in
theorem t_X10_hasSellerAmong_3 {G : Gt} {l : Launch} : ∀ (n : Nat) (S : Mm) (l0 : Nat) (l1 : Int32) (l2 : Int32) (l3 : Int32) (l4 : Int32) (T : (Int32 × Mm)), f_X10_hasSellerAmong_3 n S l0 l1 l2 l3 l4 = some T → Sat G l yX10_hasSellerAmong cX10_hasSellerAmong 5 (some .boolean) 2 0 0 0 0 3 [.ref l0, .int l1, .int l2, .int l3, .int l4] [] S (eI T) := by
  intro n
  induction n with
  | zero =>
    intro S l0 l1 l2 l3 l4 T hf
    rw [f_X10_hasSellerAmong_3] at hf
    cases hf
  | succ n ih =>
    intro S l0 l1 l2 l3 l4 T hf
    rw [f_X10_hasSellerAmong_3] at hf
    refine r_iload dX10_hasSellerAmong_3 rfl ?_
    refine r_aload_n dX10_hasSellerAmong_5 rfl ?_
    obtain ⟨x1, h2, hf⟩ := bnd hf
    refine r_getI dX10_hasSellerAmong_6 fs10_9_6 rfl h2 ?_
    refine r_icmp_ge (tgt := 54) dX10_hasSellerAmong_9 (by decide) (fun c3 => ?_) (fun c3 => ?_)
    · replace hf := (if_pos c3).symm.trans hf
      refine r_iconst (v := 0) dX10_hasSellerAmong_54 (by decide) ?_
      have hz := congrArg eI (Option.some.inj hf)
      exact r_zreturn (x' := 0) dX10_hasSellerAmong_55 rfl (Nat.le_of_ble_eq_true rfl) (Nat.le_of_ble_eq_true rfl) rfl hz
    · replace hf := (if_neg c3).symm.trans hf
      refine r_iload_n dX10_hasSellerAmong_12 rfl ?_
      refine r_iload dX10_hasSellerAmong_13 rfl ?_
      refine r_ishr dX10_hasSellerAmong_15 ?_
      refine r_iconst (v := 1) dX10_hasSellerAmong_16 (by decide) ?_
      refine r_iand dX10_hasSellerAmong_17 ?_
      refine r_iconst (v := 1) dX10_hasSellerAmong_18 (by decide) ?_
      refine r_icmp_ne (tgt := 48) dX10_hasSellerAmong_19 (by decide) (fun c4 => ?_) (fun c4 => ?_)
      · replace hf := (if_neg c4).symm.trans hf
        exact t_X10_hasSellerAmong_48 (f_X10_hasSellerAmong_3 n) ih _ _ _ _ _ _ _ hf
      · replace hf := (if_pos c4).symm.trans hf
        refine r_aload_n dX10_hasSellerAmong_22 rfl ?_
        obtain ⟨x5, h6, hf⟩ := bnd hf
        refine r_getR dX10_hasSellerAmong_23 fs10_15_6 rfl h6 ?_
        refine r_iload dX10_hasSellerAmong_26 rfl ?_
        obtain ⟨x7, h8, hf⟩ := bnd hf
        refine r_aaload dX10_hasSellerAmong_28 h8 ?_
        refine r_iload_n dX10_hasSellerAmong_29 rfl ?_
        obtain ⟨q9, h10, hf⟩ := bnd hf
        refine rv_10_19 (st := []) dX10_hasSellerAmong_30 rfl h10 ⟨by omega, by omega⟩ (Nat.le_of_ble_eq_true rfl) (by decide) (by decide) rfl ?_
        refine r_if_ne (tgt := 48) dX10_hasSellerAmong_33 (by decide) (fun c11 => ?_) (fun c11 => ?_)
        · replace hf := (if_neg c11).symm.trans hf
          exact t_X10_hasSellerAmong_48 (f_X10_hasSellerAmong_3 n) ih _ _ _ _ _ _ _ hf
        · replace hf := (if_pos c11).symm.trans hf
          refine r_aload_n dX10_hasSellerAmong_36 rfl ?_
          refine r_iload dX10_hasSellerAmong_37 rfl ?_
          refine r_iload_n dX10_hasSellerAmong_39 rfl ?_
          obtain ⟨q12, h13, hf⟩ := bnd hf
          refine r_callVi (st := []) (as := [.int l4, .int l1]) dX10_hasSellerAmong_40 ms_X6_isLawful ⟨rfl, w3_156, w2_217, w2_218⟩ (ok_X6_isLawful h13) (c_X6_isLawful h13) rfl ⟨by omega, by omega⟩ (Nat.le_of_ble_eq_true rfl) (by decide) (by decide) rfl ?_
          refine r_if_eq (tgt := 48) dX10_hasSellerAmong_43 (by decide) (fun c14 => ?_) (fun c14 => ?_)
          · replace hf := (if_pos c14).symm.trans hf
            exact t_X10_hasSellerAmong_48 (f_X10_hasSellerAmong_3 n) ih _ _ _ _ _ _ _ hf
          · replace hf := (if_neg c14).symm.trans hf
            refine r_iconst (v := 1) dX10_hasSellerAmong_46 (by decide) ?_
            have hz := congrArg eI (Option.some.inj hf)
            exact r_zreturn (x' := 1) dX10_hasSellerAmong_47 rfl (Nat.le_of_ble_eq_true rfl) (Nat.le_of_ble_eq_true rfl) rfl hz
set_option maxRecDepth 20000 in
theorem c_X10_hasSellerAmong {G : Gt} {l : Launch} {S : Mm} {l0 : Nat} {l1 : Int32} {l2 : Int32} {l3 : Int32} {T : (Int32 × Mm)} (hf : f_X10_hasSellerAmong S l0 l1 l2 l3 = some T) : CC G l yX10_hasSellerAmong cX10_hasSellerAmong 5 (some .boolean) 2 0 0 [.ref l0, .int l1, .int l2, .int l3] S (eI T) := by
  unfold f_X10_hasSellerAmong at hf
  refine r_body (by decide) rfl (Nat.le_of_ble_eq_true rfl) (by simp) ?_
  refine r_iconst (v := 0) dX10_hasSellerAmong_0 (by decide) ?_
  refine r_istore (lv' := [.ref l0, .int l1, .int l2, .int l3, .int 0]) dX10_hasSellerAmong_1 (by decide) rfl rfl ?_
  exact t_X10_hasSellerAmong_3 FU _ _ _ _ _ _ _ hf
def f_X10_cutBeside_78 (k5 : Mm → Nat → Int32 → Int32 → Int32 → Int32 → Option (Int32 × Mm)) (S : Mm) (l0 : Nat) (l1 : Int32) (l2 : Int32) (l3 : Int32) (l4 : Int32) : Option (Int32 × Mm) := k5 S l0 l1 l2 l3 (l4 + 1)
def f_X10_cutBeside_54 (k5 : Mm → Nat → Int32 → Int32 → Int32 → Int32 → Option (Int32 × Mm)) (S : Mm) (l0 : Nat) (l1 : Int32) (l2 : Int32) (l4 : Int32) (s0 : Int32) (s1 : Int32) : Option (Int32 × Mm) := f_X10_cutBeside_78 k5 S l0 l1 l2 (s0 + s1) l4
def f_X10_cutBeside_5 : Nat → Mm → Nat → Int32 → Int32 → Int32 → Int32 → Option (Int32 × Mm)
  | 0, _, _, _, _, _, _ => none
  | n + 1, S, l0, l1, l2, l3, l4 => (gI S 6 l0 1).bind fun x1 => (if x1 ≤ l4 then some (l3, S) else (gR S 6 l0 0).bind fun x4 => (aR S x4 l4).bind fun x6 => (dy_wantsSome S x6 l1).bind fun q8 => (if q8.1 = 0 then (if ((l2 >>> (l4 &&& 31)) &&& 1) = 0 then (f_X6_piecesOf q8.2 l0 l4 l1).bind fun q12 => f_X10_cutBeside_78 (f_X10_cutBeside_5 n) q12.2 l0 l1 l2 (l3 + q12.1) l4 else f_X10_cutBeside_78 (f_X10_cutBeside_5 n) q8.2 l0 l1 l2 l3 l4) else (f_X10_hasSellerAmong q8.2 l0 l4 l1 l2).bind fun q14 => (if q14.1 = 0 then f_X10_cutBeside_54 (f_X10_cutBeside_5 n) q14.2 l0 l1 l2 l4 l3 0 else (gR q14.2 6 l0 0).bind fun x17 => (aR q14.2 x17 l4).bind fun x19 => (gF q14.2 x19 5).bind fun x21 => f_X10_cutBeside_54 (f_X10_cutBeside_5 n) q14.2 l0 l1 l2 l4 l3 x21)))
def f_X10_cutBeside (S : Mm) (l0 : Nat) (l1 : Int32) (l2 : Int32) : Option (Int32 × Mm) := f_X10_cutBeside_5 FU S l0 l1 l2 0 0
set_option maxRecDepth 20000 in
theorem t_X10_cutBeside_78 {G : Gt} {l : Launch} (k5 : Mm → Nat → Int32 → Int32 → Int32 → Int32 → Option (Int32 × Mm)) (hk5 : ∀ (S : Mm) (l0 : Nat) (l1 : Int32) (l2 : Int32) (l3 : Int32) (l4 : Int32) (T : (Int32 × Mm)), k5 S l0 l1 l2 l3 l4 = some T → Sat G l yX10_cutBeside cX10_cutBeside 5 (some .int) 3 0 0 0 0 5 [.ref l0, .int l1, .int l2, .int l3, .int l4] [] S (eI T)) (S : Mm) (l0 : Nat) (l1 : Int32) (l2 : Int32) (l3 : Int32) (l4 : Int32) (T : (Int32 × Mm)) (hf : f_X10_cutBeside_78 k5 S l0 l1 l2 l3 l4 = some T) : Sat G l yX10_cutBeside cX10_cutBeside 5 (some .int) 3 0 0 0 0 78 [.ref l0, .int l1, .int l2, .int l3, .int l4] [] S (eI T) := by
  unfold f_X10_cutBeside_78 at hf
  refine r_iinc (v := 1) (lv' := [.ref l0, .int l1, .int l2, .int l3, .int (l4 + 1)]) dX10_cutBeside_78 rfl (by decide) (by decide) rfl rfl ?_
  refine r_goto (tgt := 5) dX10_cutBeside_81 (by decide) ?_
  exact hk5 _ _ _ _ _ _ _ hf
set_option maxRecDepth 20000 in
theorem t_X10_cutBeside_54 {G : Gt} {l : Launch} (k5 : Mm → Nat → Int32 → Int32 → Int32 → Int32 → Option (Int32 × Mm)) (hk5 : ∀ (S : Mm) (l0 : Nat) (l1 : Int32) (l2 : Int32) (l3 : Int32) (l4 : Int32) (T : (Int32 × Mm)), k5 S l0 l1 l2 l3 l4 = some T → Sat G l yX10_cutBeside cX10_cutBeside 5 (some .int) 3 0 0 0 0 5 [.ref l0, .int l1, .int l2, .int l3, .int l4] [] S (eI T)) (S : Mm) (l0 : Nat) (l1 : Int32) (l2 : Int32) (l4 : Int32) (s0 : Int32) (s1 : Int32) (T : (Int32 × Mm)) (hf : f_X10_cutBeside_54 k5 S l0 l1 l2 l4 s0 s1 = some T) : Sat G l yX10_cutBeside cX10_cutBeside 5 (some .int) 3 0 0 0 0 54 [.ref l0, .int l1, .int l2, .null, .int l4] [.int s1, .int s0] S (eI T) := by
  unfold f_X10_cutBeside_54 at hf
  refine r_iadd dX10_cutBeside_54 ?_
  refine r_istore_n (lv' := [.ref l0, .int l1, .int l2, .int (s0 + s1), .int l4]) dX10_cutBeside_55 (by decide) rfl rfl ?_
  refine r_goto (tgt := 78) dX10_cutBeside_56 (by decide) ?_
  exact t_X10_cutBeside_78 k5 hk5 _ _ _ _ _ _ _ hf
set_option maxRecDepth 20000 in
theorem t_X10_cutBeside_5 {G : Gt} {l : Launch} : ∀ (n : Nat) (S : Mm) (l0 : Nat) (l1 : Int32) (l2 : Int32) (l3 : Int32) (l4 : Int32) (T : (Int32 × Mm)), f_X10_cutBeside_5 n S l0 l1 l2 l3 l4 = some T → Sat G l yX10_cutBeside cX10_cutBeside 5 (some .int) 3 0 0 0 0 5 [.ref l0, .int l1, .int l2, .int l3, .int l4] [] S (eI T) := by
  intro n
  induction n with
  | zero =>
    intro S l0 l1 l2 l3 l4 T hf
    rw [f_X10_cutBeside_5] at hf
    cases hf
  | succ n ih =>
    intro S l0 l1 l2 l3 l4 T hf
    rw [f_X10_cutBeside_5] at hf
    refine r_iload dX10_cutBeside_5 rfl ?_
    refine r_aload_n dX10_cutBeside_7 rfl ?_
    obtain ⟨x1, h2, hf⟩ := bnd hf
    refine r_getI dX10_cutBeside_8 fs10_9_6 rfl h2 ?_
    refine r_icmp_ge (tgt := 84) dX10_cutBeside_11 (by decide) (fun c3 => ?_) (fun c3 => ?_)
    · replace hf := (if_pos c3).symm.trans hf
      refine r_iload_n dX10_cutBeside_84 rfl ?_
      have hz := congrArg eI (Option.some.inj hf)
      exact r_ireturn dX10_cutBeside_85 rfl (Nat.le_of_ble_eq_true rfl) (Nat.le_of_ble_eq_true rfl) hz
    · replace hf := (if_neg c3).symm.trans hf
      refine r_aload_n dX10_cutBeside_14 rfl ?_
      obtain ⟨x4, h5, hf⟩ := bnd hf
      refine r_getR dX10_cutBeside_15 fs10_15_6 rfl h5 ?_
      refine r_iload dX10_cutBeside_18 rfl ?_
      obtain ⟨x6, h7, hf⟩ := bnd hf
      refine r_aaload dX10_cutBeside_20 h7 ?_
      refine r_iload_n dX10_cutBeside_21 rfl ?_
      obtain ⟨q8, h9, hf⟩ := bnd hf
      refine rv_10_19 (st := []) dX10_cutBeside_22 rfl h9 ⟨by omega, by omega⟩ (Nat.le_of_ble_eq_true rfl) (by decide) (by decide) rfl ?_
      refine r_if_eq (tgt := 59) dX10_cutBeside_25 (by decide) (fun c10 => ?_) (fun c10 => ?_)
      · replace hf := (if_pos c10).symm.trans hf
        refine r_iload_n dX10_cutBeside_59 rfl ?_
        refine r_iload dX10_cutBeside_60 rfl ?_
        refine r_ishr dX10_cutBeside_62 ?_
        refine r_iconst (v := 1) dX10_cutBeside_63 (by decide) ?_
        refine r_iand dX10_cutBeside_64 ?_
        refine r_if_ne (tgt := 78) dX10_cutBeside_65 (by decide) (fun c11 => ?_) (fun c11 => ?_)
        · replace hf := (if_neg c11).symm.trans hf
          exact t_X10_cutBeside_78 (f_X10_cutBeside_5 n) ih _ _ _ _ _ _ _ hf
        · replace hf := (if_pos c11).symm.trans hf
          refine r_iload_n dX10_cutBeside_68 rfl ?_
          refine r_aload_n dX10_cutBeside_69 rfl ?_
          refine r_iload dX10_cutBeside_70 rfl ?_
          refine r_iload_n dX10_cutBeside_72 rfl ?_
          obtain ⟨q12, h13, hf⟩ := bnd hf
          refine r_callVi (st := [.int l3]) (as := [.int l4, .int l1]) dX10_cutBeside_73 ms_X6_piecesOf ⟨rfl, w3_157, w2_199, w2_200⟩ (ok_X6_piecesOf h13) (c_X6_piecesOf h13) rfl ⟨by omega, by omega⟩ (Nat.le_of_ble_eq_true rfl) (by decide) (by decide) rfl ?_
          refine r_iadd dX10_cutBeside_76 ?_
          refine r_istore_n (lv' := [.ref l0, .int l1, .int l2, .int (l3 + q12.1), .int l4]) dX10_cutBeside_77 (by decide) rfl rfl ?_
          exact t_X10_cutBeside_78 (f_X10_cutBeside_5 n) ih _ _ _ _ _ _ _ hf
      · replace hf := (if_neg c10).symm.trans hf
        refine r_iload_n dX10_cutBeside_28 rfl ?_
        refine r_aload_n dX10_cutBeside_29 rfl ?_
        refine r_iload dX10_cutBeside_30 rfl ?_
        refine r_iload_n dX10_cutBeside_32 rfl ?_
        refine r_iload_n dX10_cutBeside_33 rfl ?_
        obtain ⟨q14, h15, hf⟩ := bnd hf
        refine r_callSi (st := [.int l3]) (as := [.ref l0, .int l4, .int l1, .int l2]) dX10_cutBeside_34 ms_X10_hasSellerAmong ⟨w3_168, w3_169⟩ (c_X10_hasSellerAmong h15) rfl ⟨by omega, by omega⟩ (Nat.le_of_ble_eq_true rfl) (by decide) (by decide) rfl ?_
        refine r_if_eq (tgt := 53) dX10_cutBeside_37 (by decide) (fun c16 => ?_) (fun c16 => ?_)
        · replace hf := (if_pos c16).symm.trans hf
          refine r_iconst (v := 0) dX10_cutBeside_53 (by decide) ?_
          refine r_lvs (lv' := [.ref l0, .int l1, .int l2, .null, .int l4]) ⟨Or.inl rfl, Or.inl rfl, Or.inl rfl, Or.inr rfl, Or.inl rfl, trivial⟩ ?_
          exact t_X10_cutBeside_54 (f_X10_cutBeside_5 n) ih _ _ _ _ _ _ _ _ hf
        · replace hf := (if_neg c16).symm.trans hf
          refine r_aload_n dX10_cutBeside_40 rfl ?_
          obtain ⟨x17, h18, hf⟩ := bnd hf
          refine r_getR dX10_cutBeside_41 fs10_15_6 rfl h18 ?_
          refine r_iload dX10_cutBeside_44 rfl ?_
          obtain ⟨x19, h20, hf⟩ := bnd hf
          refine r_aaload dX10_cutBeside_46 h20 ?_
          obtain ⟨x21, h22, hf⟩ := bnd hf
          refine r_getF dX10_cutBeside_47 ff10_52 (by decide) h22 ?_
          refine r_goto (tgt := 54) dX10_cutBeside_50 (by decide) ?_
          refine r_lvs (lv' := [.ref l0, .int l1, .int l2, .null, .int l4]) ⟨Or.inl rfl, Or.inl rfl, Or.inl rfl, Or.inr rfl, Or.inl rfl, trivial⟩ ?_
          exact t_X10_cutBeside_54 (f_X10_cutBeside_5 n) ih _ _ _ _ _ _ _ _ hf
set_option maxRecDepth 20000 in
theorem c_X10_cutBeside {G : Gt} {l : Launch} {S : Mm} {l0 : Nat} {l1 : Int32} {l2 : Int32} {T : (Int32 × Mm)} (hf : f_X10_cutBeside S l0 l1 l2 = some T) : CC G l yX10_cutBeside cX10_cutBeside 5 (some .int) 3 0 0 [.ref l0, .int l1, .int l2] S (eI T) := by
  unfold f_X10_cutBeside at hf
  refine r_body (by decide) rfl (Nat.le_of_ble_eq_true rfl) (by simp) ?_
  refine r_iconst (v := 0) dX10_cutBeside_0 (by decide) ?_
  refine r_istore_n (lv' := [.ref l0, .int l1, .int l2, .int 0, .null]) dX10_cutBeside_1 (by decide) rfl rfl ?_
  refine r_iconst (v := 0) dX10_cutBeside_2 (by decide) ?_
  refine r_istore (lv' := [.ref l0, .int l1, .int l2, .int 0, .int 0]) dX10_cutBeside_3 (by decide) rfl rfl ?_
  exact t_X10_cutBeside_5 FU _ _ _ _ _ _ _ hf
def f_X10_mostOf_9 : Nat → Mm → Nat → Int32 → Int32 → Int32 → Option (Int32 × Mm)
  | 0, _, _, _, _, _ => none
  | n + 1, S, l0, l1, l2, l3 => (gI S 6 l0 1).bind fun x1 => (if (1 <<< (x1 &&& 31)) ≤ l3 then some (l2, S) else (f_X10_cutBeside S l0 l1 l3).bind fun q4 => (f_X10_mostOf_9 n) q4.2 l0 l1 (mnI l2 q4.1) (l3 + 1))
def f_X10_mostOf (S : Mm) (l0 : Nat) (l1 : Int32) : Option (Int32 × Mm) := (f_X10_cutBeside S l0 l1 0).bind fun q1 => f_X10_mostOf_9 FU q1.2 l0 l1 q1.1 1
set_option maxRecDepth 20000 in
theorem t_X10_mostOf_9 {G : Gt} {l : Launch} : ∀ (n : Nat) (S : Mm) (l0 : Nat) (l1 : Int32) (l2 : Int32) (l3 : Int32) (T : (Int32 × Mm)), f_X10_mostOf_9 n S l0 l1 l2 l3 = some T → Sat G l yX10_mostOf cX10_mostOf 4 (some .int) 4 0 0 0 0 9 [.ref l0, .int l1, .int l2, .int l3] [] S (eI T) := by
  intro n
  induction n with
  | zero =>
    intro S l0 l1 l2 l3 T hf
    rw [f_X10_mostOf_9] at hf
    cases hf
  | succ n ih =>
    intro S l0 l1 l2 l3 T hf
    rw [f_X10_mostOf_9] at hf
    refine r_iload_n dX10_mostOf_9 rfl ?_
    refine r_iconst (v := 1) dX10_mostOf_10 (by decide) ?_
    refine r_aload_n dX10_mostOf_11 rfl ?_
    obtain ⟨x1, h2, hf⟩ := bnd hf
    refine r_getI dX10_mostOf_12 fs10_9_6 rfl h2 ?_
    refine r_ishl dX10_mostOf_15 ?_
    refine r_icmp_ge (tgt := 36) dX10_mostOf_16 (by decide) (fun c3 => ?_) (fun c3 => ?_)
    · replace hf := (if_pos c3).symm.trans hf
      refine r_iload_n dX10_mostOf_36 rfl ?_
      have hz := congrArg eI (Option.some.inj hf)
      exact r_ireturn dX10_mostOf_37 rfl (Nat.le_of_ble_eq_true rfl) (Nat.le_of_ble_eq_true rfl) hz
    · replace hf := (if_neg c3).symm.trans hf
      refine r_iload_n dX10_mostOf_19 rfl ?_
      refine r_aload_n dX10_mostOf_20 rfl ?_
      refine r_iload_n dX10_mostOf_21 rfl ?_
      refine r_iload_n dX10_mostOf_22 rfl ?_
      obtain ⟨q4, h5, hf⟩ := bnd hf
      refine r_callSi (st := [.int l2]) (as := [.ref l0, .int l1, .int l3]) dX10_mostOf_23 ms_X10_cutBeside ⟨w3_165, w3_166⟩ (c_X10_cutBeside h5) rfl ⟨by omega, by omega⟩ (Nat.le_of_ble_eq_true rfl) (by decide) (by decide) rfl ?_
      refine r_min dX10_mostOf_26 wkmin_10043 (by decide) (Nat.le_of_ble_eq_true rfl) (by decide) (by decide) ?_
      refine r_istore_n (lv' := [.ref l0, .int l1, .int (mnI l2 q4.1), .int l3]) dX10_mostOf_29 (by decide) rfl rfl ?_
      refine r_iinc (v := 1) (lv' := [.ref l0, .int l1, .int (mnI l2 q4.1), .int (l3 + 1)]) dX10_mostOf_30 rfl (by decide) (by decide) rfl rfl ?_
      refine r_goto (tgt := 9) dX10_mostOf_33 (by decide) ?_
      exact ih _ _ _ _ _ _ hf
set_option maxRecDepth 20000 in
theorem c_X10_mostOf {G : Gt} {l : Launch} {S : Mm} {l0 : Nat} {l1 : Int32} {T : (Int32 × Mm)} (hf : f_X10_mostOf S l0 l1 = some T) : CC G l yX10_mostOf cX10_mostOf 4 (some .int) 4 0 0 [.ref l0, .int l1] S (eI T) := by
  unfold f_X10_mostOf at hf
  refine r_body (by decide) rfl (Nat.le_of_ble_eq_true rfl) (by simp) ?_
  refine r_aload_n dX10_mostOf_0 rfl ?_
  refine r_iload_n dX10_mostOf_1 rfl ?_
  refine r_iconst (v := 0) dX10_mostOf_2 (by decide) ?_
  obtain ⟨q1, h2, hf⟩ := bnd hf
  refine r_callSi (st := []) (as := [.ref l0, .int l1, .int 0]) dX10_mostOf_3 ms_X10_cutBeside ⟨w3_165, w3_166⟩ (c_X10_cutBeside h2) rfl ⟨by omega, by omega⟩ (Nat.le_of_ble_eq_true rfl) (by decide) (by decide) rfl ?_
  refine r_istore_n (lv' := [.ref l0, .int l1, .int q1.1, .null]) dX10_mostOf_6 (by decide) rfl rfl ?_
  refine r_iconst (v := 1) dX10_mostOf_7 (by decide) ?_
  refine r_istore_n (lv' := [.ref l0, .int l1, .int q1.1, .int 1]) dX10_mostOf_8 (by decide) rfl rfl ?_
  exact t_X10_mostOf_9 FU _ _ _ _ _ _ hf
def f_X10_waysOn_72 (k22 : Mm → Nat → Int32 → Int32 → Int32 → Int32 → Int32 → Int32 → Option (Int32 × Mm)) (rec : Mm → Nat → Int32 → Int32 → Int32 → Int32 → Option (Int32 × Mm)) (S : Mm) (l0 : Nat) (l1 : Int32) (l2 : Int32) (l3 : Int32) (l4 : Int32) (l5 : Int32) (l6 : Int32) : Option (Int32 × Mm) := k22 S l0 l1 l2 l3 l4 l5 (l6 + 1)
def f_X10_waysOn_22 (rec : Mm → Nat → Int32 → Int32 → Int32 → Int32 → Option (Int32 × Mm)) : Nat → Mm → Nat → Int32 → Int32 → Int32 → Int32 → Int32 → Int32 → Option (Int32 × Mm)
  | 0, _, _, _, _, _, _, _, _ => none
  | n + 1, S, l0, l1, l2, l3, l4, l5, l6 => (gI S 6 l0 1).bind fun x1 => (if x1 ≤ l6 then some (l5, S) else (if ((l3 >>> (l6 &&& 31)) &&& 1) = 0 then (f_X6_isLawful S l0 l1 l6).bind fun q5 => (if q5.1 = 0 then f_X10_waysOn_72 (f_X10_waysOn_22 rec n) rec q5.2 l0 l1 l2 l3 l4 l5 l6 else (rec q5.2 l0 l6 l2 (l3 ||| (1 <<< (l6 &&& 31))) (l4 + 1)).bind fun q8 => f_X10_waysOn_72 (f_X10_waysOn_22 rec n) rec q8.2 l0 l1 l2 l3 l4 (l5 + q8.1) l6) else f_X10_waysOn_72 (f_X10_waysOn_22 rec n) rec S l0 l1 l2 l3 l4 l5 l6))
def f_X10_waysOn : Nat → Mm → Nat → Int32 → Int32 → Int32 → Int32 → Option (Int32 × Mm)
  | 0, _, _, _, _, _, _ => none
  | d + 1, S, l0, l1, l2, l3, l4 => (fun rec => (if l1 = l2 then some (1, S) else (if l4 < 6 then f_X10_waysOn_22 rec FU S l0 l1 l2 l3 l4 0 0 else some (0, S)))) (f_X10_waysOn d)
set_option maxRecDepth 20000 in
theorem t_X10_waysOn_72 {G : Gt} {l : Launch} {d : Nat} (k22 : Mm → Nat → Int32 → Int32 → Int32 → Int32 → Int32 → Int32 → Option (Int32 × Mm)) (hk22 : ∀ (S : Mm) (l0 : Nat) (l1 : Int32) (l2 : Int32) (l3 : Int32) (l4 : Int32) (l5 : Int32) (l6 : Int32) (T : (Int32 × Mm)), k22 S l0 l1 l2 l3 l4 l5 l6 = some T → Sat G l yX10_waysOn cX10_waysOn 7 (some .int) (d + 3) 0 0 0 0 22 [.ref l0, .int l1, .int l2, .int l3, .int l4, .int l5, .int l6] [] S (eI T)) (rec : Mm → Nat → Int32 → Int32 → Int32 → Int32 → Option (Int32 × Mm)) (hrec : ∀ (S : Mm) (a0 : Nat) (a1 : Int32) (a2 : Int32) (a3 : Int32) (a4 : Int32) (T : (Int32 × Mm)), rec S a0 a1 a2 a3 a4 = some T → CC G l yX10_waysOn cX10_waysOn 7 (some .int) (d + 2) 0 0 [.ref a0, .int a1, .int a2, .int a3, .int a4] S (eI T)) (S : Mm) (l0 : Nat) (l1 : Int32) (l2 : Int32) (l3 : Int32) (l4 : Int32) (l5 : Int32) (l6 : Int32) (T : (Int32 × Mm)) (hf : f_X10_waysOn_72 k22 rec S l0 l1 l2 l3 l4 l5 l6 = some T) : Sat G l yX10_waysOn cX10_waysOn 7 (some .int) (d + 3) 0 0 0 0 72 [.ref l0, .int l1, .int l2, .int l3, .int l4, .int l5, .int l6] [] S (eI T) := by
  unfold f_X10_waysOn_72 at hf
  refine r_iinc (v := 1) (lv' := [.ref l0, .int l1, .int l2, .int l3, .int l4, .int l5, .int (l6 + 1)]) dX10_waysOn_72 rfl (by decide) (by decide) rfl rfl ?_
  refine r_goto (tgt := 22) dX10_waysOn_75 (by decide) ?_
  exact hk22 _ _ _ _ _ _ _ _ _ hf
set_option maxRecDepth 20000 in
theorem t_X10_waysOn_22 {G : Gt} {l : Launch} {d : Nat} (rec : Mm → Nat → Int32 → Int32 → Int32 → Int32 → Option (Int32 × Mm)) (hrec : ∀ (S : Mm) (a0 : Nat) (a1 : Int32) (a2 : Int32) (a3 : Int32) (a4 : Int32) (T : (Int32 × Mm)), rec S a0 a1 a2 a3 a4 = some T → CC G l yX10_waysOn cX10_waysOn 7 (some .int) (d + 2) 0 0 [.ref a0, .int a1, .int a2, .int a3, .int a4] S (eI T)) : ∀ (n : Nat) (S : Mm) (l0 : Nat) (l1 : Int32) (l2 : Int32) (l3 : Int32) (l4 : Int32) (l5 : Int32) (l6 : Int32) (T : (Int32 × Mm)), f_X10_waysOn_22 rec n S l0 l1 l2 l3 l4 l5 l6 = some T → Sat G l yX10_waysOn cX10_waysOn 7 (some .int) (d + 3) 0 0 0 0 22 [.ref l0, .int l1, .int l2, .int l3, .int l4, .int l5, .int l6] [] S (eI T) := by
  intro n
  induction n with
  | zero =>
    intro S l0 l1 l2 l3 l4 l5 l6 T hf
    rw [f_X10_waysOn_22] at hf
    cases hf
  | succ n ih =>
    intro S l0 l1 l2 l3 l4 l5 l6 T hf
    rw [f_X10_waysOn_22] at hf
    refine r_iload dX10_waysOn_22 rfl ?_
    refine r_aload_n dX10_waysOn_24 rfl ?_
    obtain ⟨x1, h2, hf⟩ := bnd hf
    refine r_getI dX10_waysOn_25 fs10_9_6 rfl h2 ?_
    refine r_icmp_ge (tgt := 78) dX10_waysOn_28 (by decide) (fun c3 => ?_) (fun c3 => ?_)
    · replace hf := (if_pos c3).symm.trans hf
      refine r_iload dX10_waysOn_78 rfl ?_
      have hz := congrArg eI (Option.some.inj hf)
      exact r_ireturn dX10_waysOn_80 rfl (Nat.le_of_ble_eq_true rfl) (Nat.le_of_ble_eq_true rfl) hz
    · replace hf := (if_neg c3).symm.trans hf
      refine r_iload_n dX10_waysOn_31 rfl ?_
      refine r_iload dX10_waysOn_32 rfl ?_
      refine r_ishr dX10_waysOn_34 ?_
      refine r_iconst (v := 1) dX10_waysOn_35 (by decide) ?_
      refine r_iand dX10_waysOn_36 ?_
      refine r_if_ne (tgt := 72) dX10_waysOn_37 (by decide) (fun c4 => ?_) (fun c4 => ?_)
      · replace hf := (if_neg c4).symm.trans hf
        exact t_X10_waysOn_72 (f_X10_waysOn_22 rec n) ih rec hrec _ _ _ _ _ _ _ _ _ hf
      · replace hf := (if_pos c4).symm.trans hf
        refine r_aload_n dX10_waysOn_40 rfl ?_
        refine r_iload_n dX10_waysOn_41 rfl ?_
        refine r_iload dX10_waysOn_42 rfl ?_
        obtain ⟨q5, h6, hf⟩ := bnd hf
        refine r_callVi (st := []) (as := [.int l1, .int l6]) dX10_waysOn_44 ms_X6_isLawful ⟨rfl, w3_156, w2_217, w2_218⟩ (ok_X6_isLawful h6) (c_X6_isLawful h6) rfl ⟨by omega, by omega⟩ (Nat.le_of_ble_eq_true rfl) (by decide) (by decide) rfl ?_
        refine r_if_eq (tgt := 72) dX10_waysOn_47 (by decide) (fun c7 => ?_) (fun c7 => ?_)
        · replace hf := (if_pos c7).symm.trans hf
          exact t_X10_waysOn_72 (f_X10_waysOn_22 rec n) ih rec hrec _ _ _ _ _ _ _ _ _ hf
        · replace hf := (if_neg c7).symm.trans hf
          refine r_iload dX10_waysOn_50 rfl ?_
          refine r_aload_n dX10_waysOn_52 rfl ?_
          refine r_iload dX10_waysOn_53 rfl ?_
          refine r_iload_n dX10_waysOn_55 rfl ?_
          refine r_iload_n dX10_waysOn_56 rfl ?_
          refine r_iconst (v := 1) dX10_waysOn_57 (by decide) ?_
          refine r_iload dX10_waysOn_58 rfl ?_
          refine r_ishl dX10_waysOn_60 ?_
          refine r_ior dX10_waysOn_61 ?_
          refine r_iload dX10_waysOn_62 rfl ?_
          refine r_iconst (v := 1) dX10_waysOn_64 (by decide) ?_
          refine r_iadd dX10_waysOn_65 ?_
          obtain ⟨q8, h9, hf⟩ := bnd hf
          refine r_callSi (st := [.int l5]) (as := [.ref l0, .int l6, .int l2, .int (l3 ||| (1 <<< (l6 &&& 31))), .int (l4 + 1)]) dX10_waysOn_66 ms_X10_waysOn ⟨w3_189, w3_190⟩ (hrec _ _ _ _ _ _ _ h9) rfl ⟨by omega, by omega⟩ (Nat.le_of_ble_eq_true rfl) (by decide) (by decide) rfl ?_
          refine r_iadd dX10_waysOn_69 ?_
          refine r_istore (lv' := [.ref l0, .int l1, .int l2, .int l3, .int l4, .int (l5 + q8.1), .int l6]) dX10_waysOn_70 (by decide) rfl rfl ?_
          exact t_X10_waysOn_72 (f_X10_waysOn_22 rec n) ih rec hrec _ _ _ _ _ _ _ _ _ hf
set_option maxRecDepth 20000 in
theorem cr_X10_waysOn {G : Gt} {l : Launch} : ∀ (d : Nat) (S : Mm) (l0 : Nat) (l1 : Int32) (l2 : Int32) (l3 : Int32) (l4 : Int32) (T : (Int32 × Mm)), f_X10_waysOn d S l0 l1 l2 l3 l4 = some T → CC G l yX10_waysOn cX10_waysOn 7 (some .int) (d + 2) 0 0 [.ref l0, .int l1, .int l2, .int l3, .int l4] S (eI T) := by
  intro d
  induction d with
  | zero =>
    intro S l0 l1 l2 l3 l4 T hf
    rw [f_X10_waysOn] at hf
    cases hf
  | succ d hrec =>
    intro S l0 l1 l2 l3 l4 T hf
    rw [f_X10_waysOn] at hf
    generalize f_X10_waysOn d = rec at hf hrec
    replace hf : _ = some T := hf
    refine r_body (by decide) rfl (Nat.le_of_ble_eq_true rfl) (by simp) ?_
    refine r_iload_n dX10_waysOn_0 rfl ?_
    refine r_iload_n dX10_waysOn_1 rfl ?_
    refine r_icmp_ne (tgt := 7) dX10_waysOn_2 (by decide) (fun c1 => ?_) (fun c1 => ?_)
    · replace hf := (if_neg c1).symm.trans hf
      refine r_iload dX10_waysOn_7 rfl ?_
      refine r_bipush (v := 6) dX10_waysOn_9 (by decide) ?_
      refine r_icmp_lt (tgt := 16) dX10_waysOn_11 (by decide) (fun c2 => ?_) (fun c2 => ?_)
      · replace hf := (if_pos c2).symm.trans hf
        refine r_iconst (v := 0) dX10_waysOn_16 (by decide) ?_
        refine r_istore (lv' := [.ref l0, .int l1, .int l2, .int l3, .int l4, .int 0, .null]) dX10_waysOn_17 (by decide) rfl rfl ?_
        refine r_iconst (v := 0) dX10_waysOn_19 (by decide) ?_
        refine r_istore (lv' := [.ref l0, .int l1, .int l2, .int l3, .int l4, .int 0, .int 0]) dX10_waysOn_20 (by decide) rfl rfl ?_
        exact t_X10_waysOn_22 rec hrec FU _ _ _ _ _ _ _ _ _ hf
      · replace hf := (if_neg c2).symm.trans hf
        refine r_iconst (v := 0) dX10_waysOn_14 (by decide) ?_
        have hz := congrArg eI (Option.some.inj hf)
        exact r_ireturn dX10_waysOn_15 rfl (Nat.le_of_ble_eq_true rfl) (Nat.le_of_ble_eq_true rfl) hz
    · replace hf := (if_pos c1).symm.trans hf
      refine r_iconst (v := 1) dX10_waysOn_5 (by decide) ?_
      have hz := congrArg eI (Option.some.inj hf)
      exact r_ireturn dX10_waysOn_6 rfl (Nat.le_of_ble_eq_true rfl) (Nat.le_of_ble_eq_true rfl) hz
set_option maxRecDepth 20000 in
theorem c_X10_waysOn {G : Gt} {l : Launch} {S : Mm} {l0 : Nat} {l1 : Int32} {l2 : Int32} {l3 : Int32} {l4 : Int32} {T : (Int32 × Mm)} (hf : f_X10_waysOn 8 S l0 l1 l2 l3 l4 = some T) : CC G l yX10_waysOn cX10_waysOn 7 (some .int) 10 0 0 [.ref l0, .int l1, .int l2, .int l3, .int l4] S (eI T) := cr_X10_waysOn 8 S l0 l1 l2 l3 l4 T hf
def f_X10_ways (S : Mm) (l0 : Nat) (l1 : Int32) (l2 : Int32) : Option (Int32 × Mm) := (f_X10_waysOn 8 S l0 l1 l2 (1 <<< (l1 &&& 31)) 0).bind fun q1 => some (q1.1, q1.2)
set_option maxRecDepth 20000 in
theorem c_X10_ways {G : Gt} {l : Launch} {S : Mm} {l0 : Nat} {l1 : Int32} {l2 : Int32} {T : (Int32 × Mm)} (hf : f_X10_ways S l0 l1 l2 = some T) : CC G l yX10_ways cX10_ways 3 (some .int) 11 0 0 [.ref l0, .int l1, .int l2] S (eI T) := by
  unfold f_X10_ways at hf
  refine r_body (by decide) rfl (Nat.le_of_ble_eq_true rfl) (by simp) ?_
  refine r_aload_n dX10_ways_0 rfl ?_
  refine r_iload_n dX10_ways_1 rfl ?_
  refine r_iload_n dX10_ways_2 rfl ?_
  refine r_iconst (v := 1) dX10_ways_3 (by decide) ?_
  refine r_iload_n dX10_ways_4 rfl ?_
  refine r_ishl dX10_ways_5 ?_
  refine r_iconst (v := 0) dX10_ways_6 (by decide) ?_
  obtain ⟨q1, h2, hf⟩ := bnd hf
  refine r_callSi (st := []) (as := [.ref l0, .int l1, .int l2, .int (1 <<< (l1 &&& 31)), .int 0]) dX10_ways_7 ms_X10_waysOn ⟨w3_189, w3_190⟩ (c_X10_waysOn h2) rfl ⟨by omega, by omega⟩ (Nat.le_of_ble_eq_true rfl) (by decide) (by decide) rfl ?_
  have hz := congrArg eI (Option.some.inj hf)
  exact r_ireturn dX10_ways_10 rfl (Nat.le_of_ble_eq_true rfl) (Nat.le_of_ble_eq_true rfl) hz
def f_X10_oneSaleBehind_50 (k4 : Mm → Nat → Int32 → Int32 → Int32 → Option (Int32 × Mm)) (k15 : Mm → Nat → Int32 → Int32 → Int32 → Int32 → Option (Int32 × Mm)) (S : Mm) (l0 : Nat) (l1 : Int32) (l2 : Int32) (l3 : Int32) (l4 : Int32) : Option (Int32 × Mm) := k15 S l0 l1 l2 l3 (l4 + 1)
def f_X10_oneSaleBehind_15 (k4 : Mm → Nat → Int32 → Int32 → Int32 → Option (Int32 × Mm)) : Nat → Mm → Nat → Int32 → Int32 → Int32 → Int32 → Option (Int32 × Mm)
  | 0, _, _, _, _, _, _ => none
  | n + 1, S, l0, l1, l2, l3, l4 => (gI S 6 l0 1).bind fun x1 => (if x1 ≤ l4 then k4 S l0 l1 l2 (l3 + 1) else (if ((l1 >>> (l3 &&& 31)) &&& 1) = 1 then (f_X6_isLawful S l0 l3 l4).bind fun q5 => (if q5.1 = 0 then f_X10_oneSaleBehind_50 k4 (f_X10_oneSaleBehind_15 k4 n) q5.2 l0 l1 l2 l3 l4 else f_X10_oneSaleBehind_50 k4 (f_X10_oneSaleBehind_15 k4 n) q5.2 l0 l1 (l2 ||| (1 <<< (l4 &&& 31))) l3 l4) else f_X10_oneSaleBehind_50 k4 (f_X10_oneSaleBehind_15 k4 n) S l0 l1 l2 l3 l4))
def f_X10_oneSaleBehind_4 : Nat → Mm → Nat → Int32 → Int32 → Int32 → Option (Int32 × Mm)
  | 0, _, _, _, _, _ => none
  | n + 1, S, l0, l1, l2, l3 => (gI S 6 l0 1).bind fun x1 => (if x1 ≤ l3 then some (l2, S) else f_X10_oneSaleBehind_15 (f_X10_oneSaleBehind_4 n) FU S l0 l1 l2 l3 0)
def f_X10_oneSaleBehind (S : Mm) (l0 : Nat) (l1 : Int32) : Option (Int32 × Mm) := f_X10_oneSaleBehind_4 FU S l0 l1 0 0
set_option maxRecDepth 20000 in
theorem t_X10_oneSaleBehind_50 {G : Gt} {l : Launch} (k4 : Mm → Nat → Int32 → Int32 → Int32 → Option (Int32 × Mm)) (hk4 : ∀ (S : Mm) (l0 : Nat) (l1 : Int32) (l2 : Int32) (l3 : Int32) (T : (Int32 × Mm)), k4 S l0 l1 l2 l3 = some T → Sat G l yX10_oneSaleBehind cX10_oneSaleBehind 5 (some .int) 2 0 0 0 0 4 [.ref l0, .int l1, .int l2, .int l3, .null] [] S (eI T)) (k15 : Mm → Nat → Int32 → Int32 → Int32 → Int32 → Option (Int32 × Mm)) (hk15 : ∀ (S : Mm) (l0 : Nat) (l1 : Int32) (l2 : Int32) (l3 : Int32) (l4 : Int32) (T : (Int32 × Mm)), k15 S l0 l1 l2 l3 l4 = some T → Sat G l yX10_oneSaleBehind cX10_oneSaleBehind 5 (some .int) 2 0 0 0 0 15 [.ref l0, .int l1, .int l2, .int l3, .int l4] [] S (eI T)) (S : Mm) (l0 : Nat) (l1 : Int32) (l2 : Int32) (l3 : Int32) (l4 : Int32) (T : (Int32 × Mm)) (hf : f_X10_oneSaleBehind_50 k4 k15 S l0 l1 l2 l3 l4 = some T) : Sat G l yX10_oneSaleBehind cX10_oneSaleBehind 5 (some .int) 2 0 0 0 0 50 [.ref l0, .int l1, .int l2, .int l3, .int l4] [] S (eI T) := by
  unfold f_X10_oneSaleBehind_50 at hf
  refine r_iinc (v := 1) (lv' := [.ref l0, .int l1, .int l2, .int l3, .int (l4 + 1)]) dX10_oneSaleBehind_50 rfl (by decide) (by decide) rfl rfl ?_
  refine r_goto (tgt := 15) dX10_oneSaleBehind_53 (by decide) ?_
  exact hk15 _ _ _ _ _ _ _ hf
set_option maxRecDepth 20000 in
theorem t_X10_oneSaleBehind_15 {G : Gt} {l : Launch} (k4 : Mm → Nat → Int32 → Int32 → Int32 → Option (Int32 × Mm)) (hk4 : ∀ (S : Mm) (l0 : Nat) (l1 : Int32) (l2 : Int32) (l3 : Int32) (T : (Int32 × Mm)), k4 S l0 l1 l2 l3 = some T → Sat G l yX10_oneSaleBehind cX10_oneSaleBehind 5 (some .int) 2 0 0 0 0 4 [.ref l0, .int l1, .int l2, .int l3, .null] [] S (eI T)) : ∀ (n : Nat) (S : Mm) (l0 : Nat) (l1 : Int32) (l2 : Int32) (l3 : Int32) (l4 : Int32) (T : (Int32 × Mm)), f_X10_oneSaleBehind_15 k4 n S l0 l1 l2 l3 l4 = some T → Sat G l yX10_oneSaleBehind cX10_oneSaleBehind 5 (some .int) 2 0 0 0 0 15 [.ref l0, .int l1, .int l2, .int l3, .int l4] [] S (eI T) := by
  intro n
  induction n with
  | zero =>
    intro S l0 l1 l2 l3 l4 T hf
    rw [f_X10_oneSaleBehind_15] at hf
    cases hf
  | succ n ih =>
    intro S l0 l1 l2 l3 l4 T hf
    rw [f_X10_oneSaleBehind_15] at hf
    refine r_iload dX10_oneSaleBehind_15 rfl ?_
    refine r_aload_n dX10_oneSaleBehind_17 rfl ?_
    obtain ⟨x1, h2, hf⟩ := bnd hf
    refine r_getI dX10_oneSaleBehind_18 fs10_9_6 rfl h2 ?_
    refine r_icmp_ge (tgt := 56) dX10_oneSaleBehind_21 (by decide) (fun c3 => ?_) (fun c3 => ?_)
    · replace hf := (if_pos c3).symm.trans hf
      refine r_iinc (v := 1) (lv' := [.ref l0, .int l1, .int l2, .int (l3 + 1), .int l4]) dX10_oneSaleBehind_56 rfl (by decide) (by decide) rfl rfl ?_
      refine r_goto (tgt := 4) dX10_oneSaleBehind_59 (by decide) ?_
      refine r_lvs (lv' := [.ref l0, .int l1, .int l2, .int (l3 + 1), .null]) ⟨Or.inl rfl, Or.inl rfl, Or.inl rfl, Or.inl rfl, Or.inr rfl, trivial⟩ ?_
      exact hk4 _ _ _ _ _ _ hf
    · replace hf := (if_neg c3).symm.trans hf
      refine r_iload_n dX10_oneSaleBehind_24 rfl ?_
      refine r_iload_n dX10_oneSaleBehind_25 rfl ?_
      refine r_ishr dX10_oneSaleBehind_26 ?_
      refine r_iconst (v := 1) dX10_oneSaleBehind_27 (by decide) ?_
      refine r_iand dX10_oneSaleBehind_28 ?_
      refine r_iconst (v := 1) dX10_oneSaleBehind_29 (by decide) ?_
      refine r_icmp_ne (tgt := 50) dX10_oneSaleBehind_30 (by decide) (fun c4 => ?_) (fun c4 => ?_)
      · replace hf := (if_neg c4).symm.trans hf
        exact t_X10_oneSaleBehind_50 k4 hk4 (f_X10_oneSaleBehind_15 k4 n) ih _ _ _ _ _ _ _ hf
      · replace hf := (if_pos c4).symm.trans hf
        refine r_aload_n dX10_oneSaleBehind_33 rfl ?_
        refine r_iload_n dX10_oneSaleBehind_34 rfl ?_
        refine r_iload dX10_oneSaleBehind_35 rfl ?_
        obtain ⟨q5, h6, hf⟩ := bnd hf
        refine r_callVi (st := []) (as := [.int l3, .int l4]) dX10_oneSaleBehind_37 ms_X6_isLawful ⟨rfl, w3_156, w2_217, w2_218⟩ (ok_X6_isLawful h6) (c_X6_isLawful h6) rfl ⟨by omega, by omega⟩ (Nat.le_of_ble_eq_true rfl) (by decide) (by decide) rfl ?_
        refine r_if_eq (tgt := 50) dX10_oneSaleBehind_40 (by decide) (fun c7 => ?_) (fun c7 => ?_)
        · replace hf := (if_pos c7).symm.trans hf
          exact t_X10_oneSaleBehind_50 k4 hk4 (f_X10_oneSaleBehind_15 k4 n) ih _ _ _ _ _ _ _ hf
        · replace hf := (if_neg c7).symm.trans hf
          refine r_iload_n dX10_oneSaleBehind_43 rfl ?_
          refine r_iconst (v := 1) dX10_oneSaleBehind_44 (by decide) ?_
          refine r_iload dX10_oneSaleBehind_45 rfl ?_
          refine r_ishl dX10_oneSaleBehind_47 ?_
          refine r_ior dX10_oneSaleBehind_48 ?_
          refine r_istore_n (lv' := [.ref l0, .int l1, .int (l2 ||| (1 <<< (l4 &&& 31))), .int l3, .int l4]) dX10_oneSaleBehind_49 (by decide) rfl rfl ?_
          exact t_X10_oneSaleBehind_50 k4 hk4 (f_X10_oneSaleBehind_15 k4 n) ih _ _ _ _ _ _ _ hf
set_option maxRecDepth 20000 in
theorem t_X10_oneSaleBehind_4 {G : Gt} {l : Launch} : ∀ (n : Nat) (S : Mm) (l0 : Nat) (l1 : Int32) (l2 : Int32) (l3 : Int32) (T : (Int32 × Mm)), f_X10_oneSaleBehind_4 n S l0 l1 l2 l3 = some T → Sat G l yX10_oneSaleBehind cX10_oneSaleBehind 5 (some .int) 2 0 0 0 0 4 [.ref l0, .int l1, .int l2, .int l3, .null] [] S (eI T) := by
  intro n
  induction n with
  | zero =>
    intro S l0 l1 l2 l3 T hf
    rw [f_X10_oneSaleBehind_4] at hf
    cases hf
  | succ n ih =>
    intro S l0 l1 l2 l3 T hf
    rw [f_X10_oneSaleBehind_4] at hf
    refine r_iload_n dX10_oneSaleBehind_4 rfl ?_
    refine r_aload_n dX10_oneSaleBehind_5 rfl ?_
    obtain ⟨x1, h2, hf⟩ := bnd hf
    refine r_getI dX10_oneSaleBehind_6 fs10_9_6 rfl h2 ?_
    refine r_icmp_ge (tgt := 62) dX10_oneSaleBehind_9 (by decide) (fun c3 => ?_) (fun c3 => ?_)
    · replace hf := (if_pos c3).symm.trans hf
      refine r_iload_n dX10_oneSaleBehind_62 rfl ?_
      have hz := congrArg eI (Option.some.inj hf)
      exact r_ireturn dX10_oneSaleBehind_63 rfl (Nat.le_of_ble_eq_true rfl) (Nat.le_of_ble_eq_true rfl) hz
    · replace hf := (if_neg c3).symm.trans hf
      refine r_iconst (v := 0) dX10_oneSaleBehind_12 (by decide) ?_
      refine r_istore (lv' := [.ref l0, .int l1, .int l2, .int l3, .int 0]) dX10_oneSaleBehind_13 (by decide) rfl rfl ?_
      exact t_X10_oneSaleBehind_15 (f_X10_oneSaleBehind_4 n) ih FU _ _ _ _ _ _ _ hf
set_option maxRecDepth 20000 in
theorem c_X10_oneSaleBehind {G : Gt} {l : Launch} {S : Mm} {l0 : Nat} {l1 : Int32} {T : (Int32 × Mm)} (hf : f_X10_oneSaleBehind S l0 l1 = some T) : CC G l yX10_oneSaleBehind cX10_oneSaleBehind 5 (some .int) 2 0 0 [.ref l0, .int l1] S (eI T) := by
  unfold f_X10_oneSaleBehind at hf
  refine r_body (by decide) rfl (Nat.le_of_ble_eq_true rfl) (by simp) ?_
  refine r_iconst (v := 0) dX10_oneSaleBehind_0 (by decide) ?_
  refine r_istore_n (lv' := [.ref l0, .int l1, .int 0, .null, .null]) dX10_oneSaleBehind_1 (by decide) rfl rfl ?_
  refine r_iconst (v := 0) dX10_oneSaleBehind_2 (by decide) ?_
  refine r_istore_n (lv' := [.ref l0, .int l1, .int 0, .int 0, .null]) dX10_oneSaleBehind_3 (by decide) rfl rfl ?_
  exact t_X10_oneSaleBehind_4 FU _ _ _ _ _ _ hf
def f_X10_fewestSales_7 : Nat → Mm → Nat → Int32 → Int32 → Int32 → Option (Int32 × Mm)
  | 0, _, _, _, _, _ => none
  | n + 1, S, l0, l2, l3, l4 => (if 6 ≤ l4 then some ((-9), S) else (f_X10_oneSaleBehind S l0 l3).bind fun q2 => (if (((l3 ||| q2.1) >>> (l2 &&& 31)) &&& 1) = 1 then some (l4, q2.2) else (f_X10_fewestSales_7 n) q2.2 l0 l2 (l3 ||| q2.1) (l4 + 1)))
def f_X10_fewestSales (S : Mm) (l0 : Nat) (l1 : Int32) (l2 : Int32) : Option (Int32 × Mm) := f_X10_fewestSales_7 FU S l0 l2 (1 <<< (l1 &&& 31)) 1
set_option maxRecDepth 20000 in
theorem t_X10_fewestSales_7 {G : Gt} {l : Launch} : ∀ (n : Nat) (S : Mm) (l0 : Nat) (l2 : Int32) (l3 : Int32) (l4 : Int32) (T : (Int32 × Mm)), f_X10_fewestSales_7 n S l0 l2 l3 l4 = some T → Sat G l yX10_fewestSales cX10_fewestSales 5 (some .int) 3 0 0 0 0 7 [.ref l0, .null, .int l2, .int l3, .int l4] [] S (eI T) := by
  intro n
  induction n with
  | zero =>
    intro S l0 l2 l3 l4 T hf
    rw [f_X10_fewestSales_7] at hf
    cases hf
  | succ n ih =>
    intro S l0 l2 l3 l4 T hf
    rw [f_X10_fewestSales_7] at hf
    refine r_iload dX10_fewestSales_7 rfl ?_
    refine r_bipush (v := 6) dX10_fewestSales_9 (by decide) ?_
    refine r_icmp_ge (tgt := 40) dX10_fewestSales_11 (by decide) (fun c1 => ?_) (fun c1 => ?_)
    · replace hf := (if_pos c1).symm.trans hf
      refine r_bipush (v := (-9)) dX10_fewestSales_40 (by decide) ?_
      have hz := congrArg eI (Option.some.inj hf)
      exact r_ireturn dX10_fewestSales_42 rfl (Nat.le_of_ble_eq_true rfl) (Nat.le_of_ble_eq_true rfl) hz
    · replace hf := (if_neg c1).symm.trans hf
      refine r_iload_n dX10_fewestSales_14 rfl ?_
      refine r_aload_n dX10_fewestSales_15 rfl ?_
      refine r_iload_n dX10_fewestSales_16 rfl ?_
      obtain ⟨q2, h3, hf⟩ := bnd hf
      refine r_callSi (st := [.int l3]) (as := [.ref l0, .int l3]) dX10_fewestSales_17 ms_X10_oneSaleBehind ⟨w3_195, w3_196⟩ (c_X10_oneSaleBehind h3) rfl ⟨by omega, by omega⟩ (Nat.le_of_ble_eq_true rfl) (by decide) (by decide) rfl ?_
      refine r_ior dX10_fewestSales_20 ?_
      refine r_istore_n (lv' := [.ref l0, .null, .int l2, .int (l3 ||| q2.1), .int l4]) dX10_fewestSales_21 (by decide) rfl rfl ?_
      refine r_iload_n dX10_fewestSales_22 rfl ?_
      refine r_iload_n dX10_fewestSales_23 rfl ?_
      refine r_ishr dX10_fewestSales_24 ?_
      refine r_iconst (v := 1) dX10_fewestSales_25 (by decide) ?_
      refine r_iand dX10_fewestSales_26 ?_
      refine r_iconst (v := 1) dX10_fewestSales_27 (by decide) ?_
      refine r_icmp_ne (tgt := 34) dX10_fewestSales_28 (by decide) (fun c4 => ?_) (fun c4 => ?_)
      · replace hf := (if_neg c4).symm.trans hf
        refine r_iinc (v := 1) (lv' := [.ref l0, .null, .int l2, .int (l3 ||| q2.1), .int (l4 + 1)]) dX10_fewestSales_34 rfl (by decide) (by decide) rfl rfl ?_
        refine r_goto (tgt := 7) dX10_fewestSales_37 (by decide) ?_
        exact ih _ _ _ _ _ _ hf
      · replace hf := (if_pos c4).symm.trans hf
        refine r_iload dX10_fewestSales_31 rfl ?_
        have hz := congrArg eI (Option.some.inj hf)
        exact r_ireturn dX10_fewestSales_33 rfl (Nat.le_of_ble_eq_true rfl) (Nat.le_of_ble_eq_true rfl) hz
set_option maxRecDepth 20000 in
theorem c_X10_fewestSales {G : Gt} {l : Launch} {S : Mm} {l0 : Nat} {l1 : Int32} {l2 : Int32} {T : (Int32 × Mm)} (hf : f_X10_fewestSales S l0 l1 l2 = some T) : CC G l yX10_fewestSales cX10_fewestSales 5 (some .int) 3 0 0 [.ref l0, .int l1, .int l2] S (eI T) := by
  unfold f_X10_fewestSales at hf
  refine r_body (by decide) rfl (Nat.le_of_ble_eq_true rfl) (by simp) ?_
  refine r_iconst (v := 1) dX10_fewestSales_0 (by decide) ?_
  refine r_iload_n dX10_fewestSales_1 rfl ?_
  refine r_ishl dX10_fewestSales_2 ?_
  refine r_istore_n (lv' := [.ref l0, .int l1, .int l2, .int (1 <<< (l1 &&& 31)), .null]) dX10_fewestSales_3 (by decide) rfl rfl ?_
  refine r_iconst (v := 1) dX10_fewestSales_4 (by decide) ?_
  refine r_istore (lv' := [.ref l0, .int l1, .int l2, .int (1 <<< (l1 &&& 31)), .int 1]) dX10_fewestSales_5 (by decide) rfl rfl ?_
  refine r_lvs (lv' := [.ref l0, .null, .int l2, .int (1 <<< (l1 &&& 31)), .int 1]) ⟨Or.inl rfl, Or.inr rfl, Or.inl rfl, Or.inl rfl, Or.inl rfl, trivial⟩ ?_
  exact t_X10_fewestSales_7 FU _ _ _ _ _ _ hf
