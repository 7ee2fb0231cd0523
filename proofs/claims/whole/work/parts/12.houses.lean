def f_X0_kind (S : Mm) (l0 : Nat) : Option (Int32 × Mm) := if okF S l0 = true then some (1, S) else none
set_option maxRecDepth 20000 in
theorem ok_X0_kind {S : Mm} {l0 : Nat} {T : (Int32 × Mm)} (hf : f_X0_kind S l0 = some T) : okF S l0 = true := (oif hf).1
set_option maxRecDepth 20000 in
theorem c_X0_kind {G : Gt} {l : Launch} {S : Mm} {l0 : Nat} {T : (Int32 × Mm)} (hf : f_X0_kind S l0 = some T) : CC G l yX0_kind cX0_kind 1 (some .int) 0 0 0 [.ref l0] S (eI T) := by
  unfold f_X0_kind at hf
  replace hf := (oif hf).2
  refine r_body (by decide) rfl (Nat.le_of_ble_eq_true rfl) (by simp) ?_
  refine r_iconst (v := 1) dX0_kind_0 (by decide) ?_
  have hz := congrArg eI (Option.some.inj hf)
  exact r_ireturn dX0_kind_1 rfl (Nat.le_of_ble_eq_true rfl) (Nat.le_of_ble_eq_true rfl) hz
def f_X0_buysAt (S : Mm) (l0 : Nat) : Option (Int32 × Mm) := if okF S l0 = true then (gF S l0 1).bind fun x1 => (gF S l0 0).bind fun x3 => some ((x1 - x3), S) else none
set_option maxRecDepth 20000 in
theorem ok_X0_buysAt {S : Mm} {l0 : Nat} {T : (Int32 × Mm)} (hf : f_X0_buysAt S l0 = some T) : okF S l0 = true := (oif hf).1
set_option maxRecDepth 20000 in
theorem c_X0_buysAt {G : Gt} {l : Launch} {S : Mm} {l0 : Nat} {T : (Int32 × Mm)} (hf : f_X0_buysAt S l0 = some T) : CC G l yX0_buysAt cX0_buysAt 1 (some .int) 0 0 0 [.ref l0] S (eI T) := by
  unfold f_X0_buysAt at hf
  replace hf := (oif hf).2
  refine r_body (by decide) rfl (Nat.le_of_ble_eq_true rfl) (by simp) ?_
  refine r_aload_n dX0_buysAt_0 rfl ?_
  obtain ⟨x1, h2, hf⟩ := bnd hf
  refine r_getF dX0_buysAt_1 ff0_26 (by decide) h2 ?_
  refine r_aload_n dX0_buysAt_4 rfl ?_
  obtain ⟨x3, h4, hf⟩ := bnd hf
  refine r_getF dX0_buysAt_5 ff0_27 (by decide) h4 ?_
  refine r_isub dX0_buysAt_8 ?_
  have hz := congrArg eI (Option.some.inj hf)
  exact r_ireturn dX0_buysAt_9 rfl (Nat.le_of_ble_eq_true rfl) (Nat.le_of_ble_eq_true rfl) hz
def f_X2_kind (S : Mm) (l0 : Nat) : Option (Int32 × Mm) := if okF S l0 = true then some (5, S) else none
set_option maxRecDepth 20000 in
theorem ok_X2_kind {S : Mm} {l0 : Nat} {T : (Int32 × Mm)} (hf : f_X2_kind S l0 = some T) : okF S l0 = true := (oif hf).1
set_option maxRecDepth 20000 in
theorem c_X2_kind {G : Gt} {l : Launch} {S : Mm} {l0 : Nat} {T : (Int32 × Mm)} (hf : f_X2_kind S l0 = some T) : CC G l yX2_kind cX2_kind 1 (some .int) 0 0 0 [.ref l0] S (eI T) := by
  unfold f_X2_kind at hf
  replace hf := (oif hf).2
  refine r_body (by decide) rfl (Nat.le_of_ble_eq_true rfl) (by simp) ?_
  refine r_iconst (v := 5) dX2_kind_0 (by decide) ?_
  have hz := congrArg eI (Option.some.inj hf)
  exact r_ireturn dX2_kind_1 rfl (Nat.le_of_ble_eq_true rfl) (Nat.le_of_ble_eq_true rfl) hz
def f_X2_buysAt (S : Mm) (l0 : Nat) : Option (Int32 × Mm) := if okF S l0 = true then (gF S l0 1).bind fun x1 => (gF S l0 0).bind fun x3 => some ((x1 - (2 * x3)), S) else none
set_option maxRecDepth 20000 in
theorem ok_X2_buysAt {S : Mm} {l0 : Nat} {T : (Int32 × Mm)} (hf : f_X2_buysAt S l0 = some T) : okF S l0 = true := (oif hf).1
set_option maxRecDepth 20000 in
theorem c_X2_buysAt {G : Gt} {l : Launch} {S : Mm} {l0 : Nat} {T : (Int32 × Mm)} (hf : f_X2_buysAt S l0 = some T) : CC G l yX2_buysAt cX2_buysAt 1 (some .int) 0 0 0 [.ref l0] S (eI T) := by
  unfold f_X2_buysAt at hf
  replace hf := (oif hf).2
  refine r_body (by decide) rfl (Nat.le_of_ble_eq_true rfl) (by simp) ?_
  refine r_aload_n dX2_buysAt_0 rfl ?_
  obtain ⟨x1, h2, hf⟩ := bnd hf
  refine r_getF dX2_buysAt_1 ff2_7 (by decide) h2 ?_
  refine r_iconst (v := 2) dX2_buysAt_4 (by decide) ?_
  refine r_aload_n dX2_buysAt_5 rfl ?_
  obtain ⟨x3, h4, hf⟩ := bnd hf
  refine r_getF dX2_buysAt_6 ff2_13 (by decide) h4 ?_
  refine r_imul dX2_buysAt_9 ?_
  refine r_isub dX2_buysAt_10 ?_
  have hz := congrArg eI (Option.some.inj hf)
  exact r_ireturn dX2_buysAt_11 rfl (Nat.le_of_ble_eq_true rfl) (Nat.le_of_ble_eq_true rfl) hz
def f_X3_kind (S : Mm) (l0 : Nat) : Option (Int32 × Mm) := if okF S l0 = true then some (3, S) else none
set_option maxRecDepth 20000 in
theorem ok_X3_kind {S : Mm} {l0 : Nat} {T : (Int32 × Mm)} (hf : f_X3_kind S l0 = some T) : okF S l0 = true := (oif hf).1
set_option maxRecDepth 20000 in
theorem c_X3_kind {G : Gt} {l : Launch} {S : Mm} {l0 : Nat} {T : (Int32 × Mm)} (hf : f_X3_kind S l0 = some T) : CC G l yX3_kind cX3_kind 1 (some .int) 0 0 0 [.ref l0] S (eI T) := by
  unfold f_X3_kind at hf
  replace hf := (oif hf).2
  refine r_body (by decide) rfl (Nat.le_of_ble_eq_true rfl) (by simp) ?_
  refine r_iconst (v := 3) dX3_kind_0 (by decide) ?_
  have hz := congrArg eI (Option.some.inj hf)
  exact r_ireturn dX3_kind_1 rfl (Nat.le_of_ble_eq_true rfl) (Nat.le_of_ble_eq_true rfl) hz
def f_X3_buysAt (S : Mm) (l0 : Nat) : Option (Int32 × Mm) := if okF S l0 = true then some (999, S) else none
set_option maxRecDepth 20000 in
theorem ok_X3_buysAt {S : Mm} {l0 : Nat} {T : (Int32 × Mm)} (hf : f_X3_buysAt S l0 = some T) : okF S l0 = true := (oif hf).1
set_option maxRecDepth 20000 in
theorem c_X3_buysAt {G : Gt} {l : Launch} {S : Mm} {l0 : Nat} {T : (Int32 × Mm)} (hf : f_X3_buysAt S l0 = some T) : CC G l yX3_buysAt cX3_buysAt 1 (some .int) 0 0 0 [.ref l0] S (eI T) := by
  unfold f_X3_buysAt at hf
  replace hf := (oif hf).2
  refine r_body (by decide) rfl (Nat.le_of_ble_eq_true rfl) (by simp) ?_
  refine r_sipush (v := 999) dX3_buysAt_0 (by decide) ?_
  have hz := congrArg eI (Option.some.inj hf)
  exact r_ireturn dX3_buysAt_3 rfl (Nat.le_of_ble_eq_true rfl) (Nat.le_of_ble_eq_true rfl) hz
def f_X4_kind (S : Mm) (l0 : Nat) : Option (Int32 × Mm) := if okF S l0 = true then some (0, S) else none
set_option maxRecDepth 20000 in
theorem ok_X4_kind {S : Mm} {l0 : Nat} {T : (Int32 × Mm)} (hf : f_X4_kind S l0 = some T) : okF S l0 = true := (oif hf).1
set_option maxRecDepth 20000 in
theorem c_X4_kind {G : Gt} {l : Launch} {S : Mm} {l0 : Nat} {T : (Int32 × Mm)} (hf : f_X4_kind S l0 = some T) : CC G l yX4_kind cX4_kind 1 (some .int) 0 0 0 [.ref l0] S (eI T) := by
  unfold f_X4_kind at hf
  replace hf := (oif hf).2
  refine r_body (by decide) rfl (Nat.le_of_ble_eq_true rfl) (by simp) ?_
  refine r_iconst (v := 0) dX4_kind_0 (by decide) ?_
  have hz := congrArg eI (Option.some.inj hf)
  exact r_ireturn dX4_kind_1 rfl (Nat.le_of_ble_eq_true rfl) (Nat.le_of_ble_eq_true rfl) hz
def f_X4_sellsAt (S : Mm) (l0 : Nat) : Option (Int32 × Mm) := if okF S l0 = true then (gF S l0 1).bind fun x1 => some (x1, S) else none
set_option maxRecDepth 20000 in
theorem ok_X4_sellsAt {S : Mm} {l0 : Nat} {T : (Int32 × Mm)} (hf : f_X4_sellsAt S l0 = some T) : okF S l0 = true := (oif hf).1
set_option maxRecDepth 20000 in
theorem c_X4_sellsAt {G : Gt} {l : Launch} {S : Mm} {l0 : Nat} {T : (Int32 × Mm)} (hf : f_X4_sellsAt S l0 = some T) : CC G l yX4_sellsAt cX4_sellsAt 1 (some .int) 0 0 0 [.ref l0] S (eI T) := by
  unfold f_X4_sellsAt at hf
  replace hf := (oif hf).2
  refine r_body (by decide) rfl (Nat.le_of_ble_eq_true rfl) (by simp) ?_
  refine r_aload_n dX4_sellsAt_0 rfl ?_
  obtain ⟨x1, h2, hf⟩ := bnd hf
  refine r_getF dX4_sellsAt_1 ff4_13 (by decide) h2 ?_
  have hz := congrArg eI (Option.some.inj hf)
  exact r_ireturn dX4_sellsAt_4 rfl (Nat.le_of_ble_eq_true rfl) (Nat.le_of_ble_eq_true rfl) hz
def f_X4_buysAt (S : Mm) (l0 : Nat) : Option (Int32 × Mm) := if okF S l0 = true then (gF S l0 1).bind fun x1 => some (x1, S) else none
set_option maxRecDepth 20000 in
theorem ok_X4_buysAt {S : Mm} {l0 : Nat} {T : (Int32 × Mm)} (hf : f_X4_buysAt S l0 = some T) : okF S l0 = true := (oif hf).1
set_option maxRecDepth 20000 in
theorem c_X4_buysAt {G : Gt} {l : Launch} {S : Mm} {l0 : Nat} {T : (Int32 × Mm)} (hf : f_X4_buysAt S l0 = some T) : CC G l yX4_buysAt cX4_buysAt 1 (some .int) 0 0 0 [.ref l0] S (eI T) := by
  unfold f_X4_buysAt at hf
  replace hf := (oif hf).2
  refine r_body (by decide) rfl (Nat.le_of_ble_eq_true rfl) (by simp) ?_
  refine r_aload_n dX4_buysAt_0 rfl ?_
  obtain ⟨x1, h2, hf⟩ := bnd hf
  refine r_getF dX4_buysAt_1 ff4_13 (by decide) h2 ?_
  have hz := congrArg eI (Option.some.inj hf)
  exact r_ireturn dX4_buysAt_4 rfl (Nat.le_of_ble_eq_true rfl) (Nat.le_of_ble_eq_true rfl) hz
def f_X4_wantsSome_20 (S : Mm) (s0 : Int32) : Option (Int32 × Mm) := (rB s0).bind fun x1 => some (x1, S)
def f_X4_wantsSome_19 (S : Mm)  : Option (Int32 × Mm) := f_X4_wantsSome_20 S 0
def f_X4_wantsSome (S : Mm) (l0 : Nat) (l1 : Int32) : Option (Int32 × Mm) := if okF S l0 = true then (gF S l0 5).bind fun x1 => (if x1 ≤ 0 then f_X4_wantsSome_19 S else (gF S l0 4).bind fun x4 => (if x4 = l1 then f_X4_wantsSome_20 S 1 else f_X4_wantsSome_19 S)) else none
set_option maxRecDepth 20000 in
theorem t_X4_wantsSome_20 {G : Gt} {l : Launch} (S : Mm) (s0 : Int32) (T : (Int32 × Mm)) (hf : f_X4_wantsSome_20 S s0 = some T) : Sat G l yX4_wantsSome cX4_wantsSome 2 (some .boolean) 0 0 0 0 0 20 [.null, .null] [.int s0] S (eI T) := by
  unfold f_X4_wantsSome_20 at hf
  obtain ⟨x1, h2, hf⟩ := bnd hf
  have hz := congrArg eI (Option.some.inj hf)
  exact r_zreturn dX4_wantsSome_20 rfl (Nat.le_of_ble_eq_true rfl) (Nat.le_of_ble_eq_true rfl) h2 hz
set_option maxRecDepth 20000 in
theorem t_X4_wantsSome_19 {G : Gt} {l : Launch} (S : Mm)  (T : (Int32 × Mm)) (hf : f_X4_wantsSome_19 S  = some T) : Sat G l yX4_wantsSome cX4_wantsSome 2 (some .boolean) 0 0 0 0 0 19 [.null, .null] [] S (eI T) := by
  unfold f_X4_wantsSome_19 at hf
  refine r_iconst (v := 0) dX4_wantsSome_19 (by decide) ?_
  exact t_X4_wantsSome_20 _ _ _ hf
set_option maxRecDepth 20000 in
theorem ok_X4_wantsSome {S : Mm} {l0 : Nat} {l1 : Int32} {T : (Int32 × Mm)} (hf : f_X4_wantsSome S l0 l1 = some T) : okF S l0 = true := (oif hf).1
set_option maxRecDepth 20000 in
theorem c_X4_wantsSome {G : Gt} {l : Launch} {S : Mm} {l0 : Nat} {l1 : Int32} {T : (Int32 × Mm)} (hf : f_X4_wantsSome S l0 l1 = some T) : CC G l yX4_wantsSome cX4_wantsSome 2 (some .boolean) 0 0 0 [.ref l0, .int l1] S (eI T) := by
  unfold f_X4_wantsSome at hf
  replace hf := (oif hf).2
  refine r_body (by decide) rfl (Nat.le_of_ble_eq_true rfl) (by simp) ?_
  refine r_aload_n dX4_wantsSome_0 rfl ?_
  obtain ⟨x1, h2, hf⟩ := bnd hf
  refine r_getF dX4_wantsSome_1 ff4_25 (by decide) h2 ?_
  refine r_if_le (tgt := 19) dX4_wantsSome_4 (by decide) (fun c3 => ?_) (fun c3 => ?_)
  · replace hf := (if_pos c3).symm.trans hf
    refine r_lvs (lv' := [.null, .null]) ⟨Or.inr rfl, Or.inr rfl, trivial⟩ ?_
    exact t_X4_wantsSome_19 _ _ hf
  · replace hf := (if_neg c3).symm.trans hf
    refine r_aload_n dX4_wantsSome_7 rfl ?_
    obtain ⟨x4, h5, hf⟩ := bnd hf
    refine r_getF dX4_wantsSome_8 ff4_22 (by decide) h5 ?_
    refine r_iload_n dX4_wantsSome_11 rfl ?_
    refine r_icmp_ne (tgt := 19) dX4_wantsSome_12 (by decide) (fun c6 => ?_) (fun c6 => ?_)
    · replace hf := (if_neg c6).symm.trans hf
      refine r_lvs (lv' := [.null, .null]) ⟨Or.inr rfl, Or.inr rfl, trivial⟩ ?_
      exact t_X4_wantsSome_19 _ _ hf
    · replace hf := (if_pos c6).symm.trans hf
      refine r_iconst (v := 1) dX4_wantsSome_15 (by decide) ?_
      refine r_goto (tgt := 20) dX4_wantsSome_16 (by decide) ?_
      refine r_lvs (lv' := [.null, .null]) ⟨Or.inr rfl, Or.inr rfl, trivial⟩ ?_
      exact t_X4_wantsSome_20 _ _ _ hf
def f_X5_kind (S : Mm) (l0 : Nat) : Option (Int32 × Mm) := if okF S l0 = true then some (2, S) else none
set_option maxRecDepth 20000 in
theorem ok_X5_kind {S : Mm} {l0 : Nat} {T : (Int32 × Mm)} (hf : f_X5_kind S l0 = some T) : okF S l0 = true := (oif hf).1
set_option maxRecDepth 20000 in
theorem c_X5_kind {G : Gt} {l : Launch} {S : Mm} {l0 : Nat} {T : (Int32 × Mm)} (hf : f_X5_kind S l0 = some T) : CC G l yX5_kind cX5_kind 1 (some .int) 0 0 0 [.ref l0] S (eI T) := by
  unfold f_X5_kind at hf
  replace hf := (oif hf).2
  refine r_body (by decide) rfl (Nat.le_of_ble_eq_true rfl) (by simp) ?_
  refine r_iconst (v := 2) dX5_kind_0 (by decide) ?_
  have hz := congrArg eI (Option.some.inj hf)
  exact r_ireturn dX5_kind_1 rfl (Nat.le_of_ble_eq_true rfl) (Nat.le_of_ble_eq_true rfl) hz
def f_X5_sellsAt (S : Mm) (l0 : Nat) : Option (Int32 × Mm) := if okF S l0 = true then (gF S l0 1).bind fun x1 => (gF S l0 0).bind fun x3 => some ((x1 + x3), S) else none
set_option maxRecDepth 20000 in
theorem ok_X5_sellsAt {S : Mm} {l0 : Nat} {T : (Int32 × Mm)} (hf : f_X5_sellsAt S l0 = some T) : okF S l0 = true := (oif hf).1
set_option maxRecDepth 20000 in
theorem c_X5_sellsAt {G : Gt} {l : Launch} {S : Mm} {l0 : Nat} {T : (Int32 × Mm)} (hf : f_X5_sellsAt S l0 = some T) : CC G l yX5_sellsAt cX5_sellsAt 1 (some .int) 0 0 0 [.ref l0] S (eI T) := by
  unfold f_X5_sellsAt at hf
  replace hf := (oif hf).2
  refine r_body (by decide) rfl (Nat.le_of_ble_eq_true rfl) (by simp) ?_
  refine r_aload_n dX5_sellsAt_0 rfl ?_
  obtain ⟨x1, h2, hf⟩ := bnd hf
  refine r_getF dX5_sellsAt_1 ff5_7 (by decide) h2 ?_
  refine r_aload_n dX5_sellsAt_4 rfl ?_
  obtain ⟨x3, h4, hf⟩ := bnd hf
  refine r_getF dX5_sellsAt_5 ff5_13 (by decide) h4 ?_
  refine r_iadd dX5_sellsAt_8 ?_
  have hz := congrArg eI (Option.some.inj hf)
  exact r_ireturn dX5_sellsAt_9 rfl (Nat.le_of_ble_eq_true rfl) (Nat.le_of_ble_eq_true rfl) hz
def f_X8_sellsAt (S : Mm) (l0 : Nat) : Option (Int32 × Mm) := if okF S l0 = true then (gF S l0 1).bind fun x1 => (gF S l0 0).bind fun x3 => some ((x1 + x3), S) else none
set_option maxRecDepth 20000 in
theorem ok_X8_sellsAt {S : Mm} {l0 : Nat} {T : (Int32 × Mm)} (hf : f_X8_sellsAt S l0 = some T) : okF S l0 = true := (oif hf).1
set_option maxRecDepth 20000 in
theorem c_X8_sellsAt {G : Gt} {l : Launch} {S : Mm} {l0 : Nat} {T : (Int32 × Mm)} (hf : f_X8_sellsAt S l0 = some T) : CC G l yX8_sellsAt cX8_sellsAt 1 (some .int) 0 0 0 [.ref l0] S (eI T) := by
  unfold f_X8_sellsAt at hf
  replace hf := (oif hf).2
  refine r_body (by decide) rfl (Nat.le_of_ble_eq_true rfl) (by simp) ?_
  refine r_aload_n dX8_sellsAt_0 rfl ?_
  obtain ⟨x1, h2, hf⟩ := bnd hf
  refine r_getF dX8_sellsAt_1 ff8_7 (by decide) h2 ?_
  refine r_aload_n dX8_sellsAt_4 rfl ?_
  obtain ⟨x3, h4, hf⟩ := bnd hf
  refine r_getF dX8_sellsAt_5 ff8_13 (by decide) h4 ?_
  refine r_iadd dX8_sellsAt_8 ?_
  have hz := congrArg eI (Option.some.inj hf)
  exact r_ireturn dX8_sellsAt_9 rfl (Nat.le_of_ble_eq_true rfl) (Nat.le_of_ble_eq_true rfl) hz
def f_X8_kind (S : Mm) (l0 : Nat) : Option (Int32 × Mm) := if okF S l0 = true then some (4, S) else none
set_option maxRecDepth 20000 in
theorem ok_X8_kind {S : Mm} {l0 : Nat} {T : (Int32 × Mm)} (hf : f_X8_kind S l0 = some T) : okF S l0 = true := (oif hf).1
set_option maxRecDepth 20000 in
theorem c_X8_kind {G : Gt} {l : Launch} {S : Mm} {l0 : Nat} {T : (Int32 × Mm)} (hf : f_X8_kind S l0 = some T) : CC G l yX8_kind cX8_kind 1 (some .int) 0 0 0 [.ref l0] S (eI T) := by
  unfold f_X8_kind at hf
  replace hf := (oif hf).2
  refine r_body (by decide) rfl (Nat.le_of_ble_eq_true rfl) (by simp) ?_
  refine r_iconst (v := 4) dX8_kind_0 (by decide) ?_
  have hz := congrArg eI (Option.some.inj hf)
  exact r_ireturn dX8_kind_1 rfl (Nat.le_of_ble_eq_true rfl) (Nat.le_of_ble_eq_true rfl) hz
def dy_kind (S : Mm) (a : Nat)  : Option (Int32 × Mm) := if okc S a 0 = true then f_X0_kind S a else if okc S a 2 = true then f_X2_kind S a else if okc S a 3 = true then f_X3_kind S a else if okc S a 4 = true then f_X4_kind S a else if okc S a 5 = true then f_X5_kind S a else if okc S a 8 = true then f_X8_kind S a else none
def dy_sellsAt (S : Mm) (a : Nat)  : Option (Int32 × Mm) := if okc S a 0 = true then f_X4_sellsAt S a else if okc S a 2 = true then f_X8_sellsAt S a else if okc S a 3 = true then f_X4_sellsAt S a else if okc S a 4 = true then f_X4_sellsAt S a else if okc S a 5 = true then f_X5_sellsAt S a else if okc S a 8 = true then f_X8_sellsAt S a else none
def dy_buysAt (S : Mm) (a : Nat)  : Option (Int32 × Mm) := if okc S a 0 = true then f_X0_buysAt S a else if okc S a 2 = true then f_X2_buysAt S a else if okc S a 3 = true then f_X3_buysAt S a else if okc S a 4 = true then f_X4_buysAt S a else if okc S a 5 = true then f_X4_buysAt S a else if okc S a 8 = true then f_X0_buysAt S a else none
def dy_wantsSome (S : Mm) (a : Nat) (b0 : Int32) : Option (Int32 × Mm) := if okc S a 0 = true then f_X4_wantsSome S a b0 else if okc S a 2 = true then f_X4_wantsSome S a b0 else if okc S a 3 = true then f_X4_wantsSome S a b0 else if okc S a 4 = true then f_X4_wantsSome S a b0 else if okc S a 5 = true then f_X4_wantsSome S a b0 else if okc S a 8 = true then f_X4_wantsSome S a b0 else none
set_option maxRecDepth 20000 in
theorem rv_11_78 {G : Gt} {l : Launch} {y : MethodName} {cc : ByteArray} {nL : Nat} {rt : Option FieldType} {t mc ms ce sl pc : Nat} {lv st : List Value} {S : Mm} {T : TG} {a : Nat}  {q : Int32 × Mm} (hd : decode cc pc = .ok (.invokevirtual 78, 3)) (hy : y.cls = "GoodsDownhill") (h : dy_kind S a = some q) (ht : 1 ≤ t ∧ 21 ≤ 40 * t) (hst : (st.map fun v => v.category).sum ≤ 8) (h1 : ce ≤ mc) (h2 : sl ≤ ms) {st0 : List Value} (hs0 : ([] : List Value).reverse ++ .ref a :: st = st0) (K : Sat G l y cc nL rt t mc ms ce sl (pc + 3) lv (.int q.1 :: st) q.2 T) : Sat G l y cc nL rt t mc ms ce sl pc lv st0 S T := by
  unfold dy_kind at h
  by_cases ho : okc S a 0 = true
  · replace h := (if_pos ho).symm.trans h
    exact r_callOi (x := ⟨"GoodsDownhill$House", "kind", "()I"⟩) (as := []) hd ms_X0_kind ⟨rfl, by rw [hy]; exact w2_143, w2_146, w2_144, w2_147, w2_148, w2_162⟩ ⟨by decide, by decide, by decide +kernel⟩ ho (c_X0_kind h) rfl ⟨by omega, by omega⟩ hst h1 h2 hs0 K
  replace h := (if_neg ho).symm.trans h
  by_cases ho : okc S a 2 = true
  · replace h := (if_pos ho).symm.trans h
    exact r_callOi (x := ⟨"GoodsDownhill$House", "kind", "()I"⟩) (as := []) hd ms_X2_kind ⟨rfl, by rw [hy]; exact w2_143, w2_146, w2_144, w2_150, w2_151, w2_162⟩ ⟨by decide, by decide, by decide +kernel⟩ ho (c_X2_kind h) rfl ⟨by omega, by omega⟩ hst h1 h2 hs0 K
  replace h := (if_neg ho).symm.trans h
  by_cases ho : okc S a 3 = true
  · replace h := (if_pos ho).symm.trans h
    exact r_callOi (x := ⟨"GoodsDownhill$House", "kind", "()I"⟩) (as := []) hd ms_X3_kind ⟨rfl, by rw [hy]; exact w2_143, w2_146, w2_144, w2_153, w2_154, w2_162⟩ ⟨by decide, by decide, by decide +kernel⟩ ho (c_X3_kind h) rfl ⟨by omega, by omega⟩ hst h1 h2 hs0 K
  replace h := (if_neg ho).symm.trans h
  by_cases ho : okc S a 4 = true
  · replace h := (if_pos ho).symm.trans h
    exact r_callOi (x := ⟨"GoodsDownhill$House", "kind", "()I"⟩) (as := []) hd ms_X4_kind ⟨rfl, by rw [hy]; exact w2_143, w2_146, w2_144, w2_145, w2_144, w2_162⟩ ⟨by decide, by decide, by decide +kernel⟩ ho (c_X4_kind h) rfl ⟨by omega, by omega⟩ hst h1 h2 hs0 K
  replace h := (if_neg ho).symm.trans h
  by_cases ho : okc S a 5 = true
  · replace h := (if_pos ho).symm.trans h
    exact r_callOi (x := ⟨"GoodsDownhill$House", "kind", "()I"⟩) (as := []) hd ms_X5_kind ⟨rfl, by rw [hy]; exact w2_143, w2_146, w2_144, w2_156, w2_157, w2_162⟩ ⟨by decide, by decide, by decide +kernel⟩ ho (c_X5_kind h) rfl ⟨by omega, by omega⟩ hst h1 h2 hs0 K
  replace h := (if_neg ho).symm.trans h
  by_cases ho : okc S a 8 = true
  · replace h := (if_pos ho).symm.trans h
    exact r_callOi (x := ⟨"GoodsDownhill$House", "kind", "()I"⟩) (as := []) hd ms_X8_kind ⟨rfl, by rw [hy]; exact w2_143, w2_146, w2_144, w2_159, w2_160, w2_162⟩ ⟨by decide, by decide, by decide +kernel⟩ ho (c_X8_kind h) rfl ⟨by omega, by omega⟩ hst h1 h2 hs0 K
  replace h := (if_neg ho).symm.trans h
  cases h
set_option maxRecDepth 20000 in
theorem rv_11_90 {G : Gt} {l : Launch} {y : MethodName} {cc : ByteArray} {nL : Nat} {rt : Option FieldType} {t mc ms ce sl pc : Nat} {lv st : List Value} {S : Mm} {T : TG} {a : Nat}  {q : Int32 × Mm} (hd : decode cc pc = .ok (.invokevirtual 90, 3)) (hy : y.cls = "GoodsDownhill") (h : dy_sellsAt S a = some q) (ht : 1 ≤ t ∧ 21 ≤ 40 * t) (hst : (st.map fun v => v.category).sum ≤ 8) (h1 : ce ≤ mc) (h2 : sl ≤ ms) {st0 : List Value} (hs0 : ([] : List Value).reverse ++ .ref a :: st = st0) (K : Sat G l y cc nL rt t mc ms ce sl (pc + 3) lv (.int q.1 :: st) q.2 T) : Sat G l y cc nL rt t mc ms ce sl pc lv st0 S T := by
  unfold dy_sellsAt at h
  by_cases ho : okc S a 0 = true
  · replace h := (if_pos ho).symm.trans h
    exact r_callOi (x := ⟨"GoodsDownhill$House", "sellsAt", "()I"⟩) (as := []) hd ms_X4_sellsAt ⟨rfl, by rw [hy]; exact w2_163, w2_166, w2_164, w2_167, w2_164, w2_176⟩ ⟨by decide, by decide, by decide +kernel⟩ ho (c_X4_sellsAt h) rfl ⟨by omega, by omega⟩ hst h1 h2 hs0 K
  replace h := (if_neg ho).symm.trans h
  by_cases ho : okc S a 2 = true
  · replace h := (if_pos ho).symm.trans h
    exact r_callOi (x := ⟨"GoodsDownhill$House", "sellsAt", "()I"⟩) (as := []) hd ms_X8_sellsAt ⟨rfl, by rw [hy]; exact w2_163, w2_166, w2_164, w2_168, w2_169, w2_176⟩ ⟨by decide, by decide, by decide +kernel⟩ ho (c_X8_sellsAt h) rfl ⟨by omega, by omega⟩ hst h1 h2 hs0 K
  replace h := (if_neg ho).symm.trans h
  by_cases ho : okc S a 3 = true
  · replace h := (if_pos ho).symm.trans h
    exact r_callOi (x := ⟨"GoodsDownhill$House", "sellsAt", "()I"⟩) (as := []) hd ms_X4_sellsAt ⟨rfl, by rw [hy]; exact w2_163, w2_166, w2_164, w2_171, w2_164, w2_176⟩ ⟨by decide, by decide, by decide +kernel⟩ ho (c_X4_sellsAt h) rfl ⟨by omega, by omega⟩ hst h1 h2 hs0 K
  replace h := (if_neg ho).symm.trans h
  by_cases ho : okc S a 4 = true
  · replace h := (if_pos ho).symm.trans h
    exact r_callOi (x := ⟨"GoodsDownhill$House", "sellsAt", "()I"⟩) (as := []) hd ms_X4_sellsAt ⟨rfl, by rw [hy]; exact w2_163, w2_166, w2_164, w2_165, w2_164, w2_176⟩ ⟨by decide, by decide, by decide +kernel⟩ ho (c_X4_sellsAt h) rfl ⟨by omega, by omega⟩ hst h1 h2 hs0 K
  replace h := (if_neg ho).symm.trans h
  by_cases ho : okc S a 5 = true
  · replace h := (if_pos ho).symm.trans h
    exact r_callOi (x := ⟨"GoodsDownhill$House", "sellsAt", "()I"⟩) (as := []) hd ms_X5_sellsAt ⟨rfl, by rw [hy]; exact w2_163, w2_166, w2_164, w2_172, w2_173, w2_176⟩ ⟨by decide, by decide, by decide +kernel⟩ ho (c_X5_sellsAt h) rfl ⟨by omega, by omega⟩ hst h1 h2 hs0 K
  replace h := (if_neg ho).symm.trans h
  by_cases ho : okc S a 8 = true
  · replace h := (if_pos ho).symm.trans h
    exact r_callOi (x := ⟨"GoodsDownhill$House", "sellsAt", "()I"⟩) (as := []) hd ms_X8_sellsAt ⟨rfl, by rw [hy]; exact w2_163, w2_166, w2_164, w2_175, w2_169, w2_176⟩ ⟨by decide, by decide, by decide +kernel⟩ ho (c_X8_sellsAt h) rfl ⟨by omega, by omega⟩ hst h1 h2 hs0 K
  replace h := (if_neg ho).symm.trans h
  cases h
set_option maxRecDepth 20000 in
theorem rv_11_93 {G : Gt} {l : Launch} {y : MethodName} {cc : ByteArray} {nL : Nat} {rt : Option FieldType} {t mc ms ce sl pc : Nat} {lv st : List Value} {S : Mm} {T : TG} {a : Nat}  {q : Int32 × Mm} (hd : decode cc pc = .ok (.invokevirtual 93, 3)) (hy : y.cls = "GoodsDownhill") (h : dy_buysAt S a = some q) (ht : 1 ≤ t ∧ 21 ≤ 40 * t) (hst : (st.map fun v => v.category).sum ≤ 8) (h1 : ce ≤ mc) (h2 : sl ≤ ms) {st0 : List Value} (hs0 : ([] : List Value).reverse ++ .ref a :: st = st0) (K : Sat G l y cc nL rt t mc ms ce sl (pc + 3) lv (.int q.1 :: st) q.2 T) : Sat G l y cc nL rt t mc ms ce sl pc lv st0 S T := by
  unfold dy_buysAt at h
  by_cases ho : okc S a 0 = true
  · replace h := (if_pos ho).symm.trans h
    exact r_callOi (x := ⟨"GoodsDownhill$House", "buysAt", "()I"⟩) (as := []) hd ms_X0_buysAt ⟨rfl, by rw [hy]; exact w2_177, w2_180, w2_178, w2_181, w2_182, w2_192⟩ ⟨by decide, by decide, by decide +kernel⟩ ho (c_X0_buysAt h) rfl ⟨by omega, by omega⟩ hst h1 h2 hs0 K
  replace h := (if_neg ho).symm.trans h
  by_cases ho : okc S a 2 = true
  · replace h := (if_pos ho).symm.trans h
    exact r_callOi (x := ⟨"GoodsDownhill$House", "buysAt", "()I"⟩) (as := []) hd ms_X2_buysAt ⟨rfl, by rw [hy]; exact w2_177, w2_180, w2_178, w2_184, w2_185, w2_192⟩ ⟨by decide, by decide, by decide +kernel⟩ ho (c_X2_buysAt h) rfl ⟨by omega, by omega⟩ hst h1 h2 hs0 K
  replace h := (if_neg ho).symm.trans h
  by_cases ho : okc S a 3 = true
  · replace h := (if_pos ho).symm.trans h
    exact r_callOi (x := ⟨"GoodsDownhill$House", "buysAt", "()I"⟩) (as := []) hd ms_X3_buysAt ⟨rfl, by rw [hy]; exact w2_177, w2_180, w2_178, w2_187, w2_188, w2_192⟩ ⟨by decide, by decide, by decide +kernel⟩ ho (c_X3_buysAt h) rfl ⟨by omega, by omega⟩ hst h1 h2 hs0 K
  replace h := (if_neg ho).symm.trans h
  by_cases ho : okc S a 4 = true
  · replace h := (if_pos ho).symm.trans h
    exact r_callOi (x := ⟨"GoodsDownhill$House", "buysAt", "()I"⟩) (as := []) hd ms_X4_buysAt ⟨rfl, by rw [hy]; exact w2_177, w2_180, w2_178, w2_179, w2_178, w2_192⟩ ⟨by decide, by decide, by decide +kernel⟩ ho (c_X4_buysAt h) rfl ⟨by omega, by omega⟩ hst h1 h2 hs0 K
  replace h := (if_neg ho).symm.trans h
  by_cases ho : okc S a 5 = true
  · replace h := (if_pos ho).symm.trans h
    exact r_callOi (x := ⟨"GoodsDownhill$House", "buysAt", "()I"⟩) (as := []) hd ms_X4_buysAt ⟨rfl, by rw [hy]; exact w2_177, w2_180, w2_178, w2_190, w2_178, w2_192⟩ ⟨by decide, by decide, by decide +kernel⟩ ho (c_X4_buysAt h) rfl ⟨by omega, by omega⟩ hst h1 h2 hs0 K
  replace h := (if_neg ho).symm.trans h
  by_cases ho : okc S a 8 = true
  · replace h := (if_pos ho).symm.trans h
    exact r_callOi (x := ⟨"GoodsDownhill$House", "buysAt", "()I"⟩) (as := []) hd ms_X0_buysAt ⟨rfl, by rw [hy]; exact w2_177, w2_180, w2_178, w2_191, w2_182, w2_192⟩ ⟨by decide, by decide, by decide +kernel⟩ ho (c_X0_buysAt h) rfl ⟨by omega, by omega⟩ hst h1 h2 hs0 K
  replace h := (if_neg ho).symm.trans h
  cases h
set_option maxRecDepth 20000 in
theorem rv_6_64 {G : Gt} {l : Launch} {y : MethodName} {cc : ByteArray} {nL : Nat} {rt : Option FieldType} {t mc ms ce sl pc : Nat} {lv st : List Value} {S : Mm} {T : TG} {a : Nat}  {q : Int32 × Mm} (hd : decode cc pc = .ok (.invokevirtual 64, 3)) (hy : y.cls = "GoodsDownhill$Land") (h : dy_buysAt S a = some q) (ht : 1 ≤ t ∧ 21 ≤ 40 * t) (hst : (st.map fun v => v.category).sum ≤ 8) (h1 : ce ≤ mc) (h2 : sl ≤ ms) {st0 : List Value} (hs0 : ([] : List Value).reverse ++ .ref a :: st = st0) (K : Sat G l y cc nL rt t mc ms ce sl (pc + 3) lv (.int q.1 :: st) q.2 T) : Sat G l y cc nL rt t mc ms ce sl pc lv st0 S T := by
  unfold dy_buysAt at h
  by_cases ho : okc S a 0 = true
  · replace h := (if_pos ho).symm.trans h
    exact r_callOi (x := ⟨"GoodsDownhill$House", "buysAt", "()I"⟩) (as := []) hd ms_X0_buysAt ⟨rfl, by rw [hy]; exact w2_220, w2_180, w2_178, w2_181, w2_182, w2_192⟩ ⟨by decide, by decide, by decide +kernel⟩ ho (c_X0_buysAt h) rfl ⟨by omega, by omega⟩ hst h1 h2 hs0 K
  replace h := (if_neg ho).symm.trans h
  by_cases ho : okc S a 2 = true
  · replace h := (if_pos ho).symm.trans h
    exact r_callOi (x := ⟨"GoodsDownhill$House", "buysAt", "()I"⟩) (as := []) hd ms_X2_buysAt ⟨rfl, by rw [hy]; exact w2_220, w2_180, w2_178, w2_184, w2_185, w2_192⟩ ⟨by decide, by decide, by decide +kernel⟩ ho (c_X2_buysAt h) rfl ⟨by omega, by omega⟩ hst h1 h2 hs0 K
  replace h := (if_neg ho).symm.trans h
  by_cases ho : okc S a 3 = true
  · replace h := (if_pos ho).symm.trans h
    exact r_callOi (x := ⟨"GoodsDownhill$House", "buysAt", "()I"⟩) (as := []) hd ms_X3_buysAt ⟨rfl, by rw [hy]; exact w2_220, w2_180, w2_178, w2_187, w2_188, w2_192⟩ ⟨by decide, by decide, by decide +kernel⟩ ho (c_X3_buysAt h) rfl ⟨by omega, by omega⟩ hst h1 h2 hs0 K
  replace h := (if_neg ho).symm.trans h
  by_cases ho : okc S a 4 = true
  · replace h := (if_pos ho).symm.trans h
    exact r_callOi (x := ⟨"GoodsDownhill$House", "buysAt", "()I"⟩) (as := []) hd ms_X4_buysAt ⟨rfl, by rw [hy]; exact w2_220, w2_180, w2_178, w2_179, w2_178, w2_192⟩ ⟨by decide, by decide, by decide +kernel⟩ ho (c_X4_buysAt h) rfl ⟨by omega, by omega⟩ hst h1 h2 hs0 K
  replace h := (if_neg ho).symm.trans h
  by_cases ho : okc S a 5 = true
  · replace h := (if_pos ho).symm.trans h
    exact r_callOi (x := ⟨"GoodsDownhill$House", "buysAt", "()I"⟩) (as := []) hd ms_X4_buysAt ⟨rfl, by rw [hy]; exact w2_220, w2_180, w2_178, w2_190, w2_178, w2_192⟩ ⟨by decide, by decide, by decide +kernel⟩ ho (c_X4_buysAt h) rfl ⟨by omega, by omega⟩ hst h1 h2 hs0 K
  replace h := (if_neg ho).symm.trans h
  by_cases ho : okc S a 8 = true
  · replace h := (if_pos ho).symm.trans h
    exact r_callOi (x := ⟨"GoodsDownhill$House", "buysAt", "()I"⟩) (as := []) hd ms_X0_buysAt ⟨rfl, by rw [hy]; exact w2_220, w2_180, w2_178, w2_191, w2_182, w2_192⟩ ⟨by decide, by decide, by decide +kernel⟩ ho (c_X0_buysAt h) rfl ⟨by omega, by omega⟩ hst h1 h2 hs0 K
  replace h := (if_neg ho).symm.trans h
  cases h
set_option maxRecDepth 20000 in
theorem rv_6_68 {G : Gt} {l : Launch} {y : MethodName} {cc : ByteArray} {nL : Nat} {rt : Option FieldType} {t mc ms ce sl pc : Nat} {lv st : List Value} {S : Mm} {T : TG} {a : Nat}  {q : Int32 × Mm} (hd : decode cc pc = .ok (.invokevirtual 68, 3)) (hy : y.cls = "GoodsDownhill$Land") (h : dy_sellsAt S a = some q) (ht : 1 ≤ t ∧ 21 ≤ 40 * t) (hst : (st.map fun v => v.category).sum ≤ 8) (h1 : ce ≤ mc) (h2 : sl ≤ ms) {st0 : List Value} (hs0 : ([] : List Value).reverse ++ .ref a :: st = st0) (K : Sat G l y cc nL rt t mc ms ce sl (pc + 3) lv (.int q.1 :: st) q.2 T) : Sat G l y cc nL rt t mc ms ce sl pc lv st0 S T := by
  unfold dy_sellsAt at h
  by_cases ho : okc S a 0 = true
  · replace h := (if_pos ho).symm.trans h
    exact r_callOi (x := ⟨"GoodsDownhill$House", "sellsAt", "()I"⟩) (as := []) hd ms_X4_sellsAt ⟨rfl, by rw [hy]; exact w2_221, w2_166, w2_164, w2_167, w2_164, w2_176⟩ ⟨by decide, by decide, by decide +kernel⟩ ho (c_X4_sellsAt h) rfl ⟨by omega, by omega⟩ hst h1 h2 hs0 K
  replace h := (if_neg ho).symm.trans h
  by_cases ho : okc S a 2 = true
  · replace h := (if_pos ho).symm.trans h
    exact r_callOi (x := ⟨"GoodsDownhill$House", "sellsAt", "()I"⟩) (as := []) hd ms_X8_sellsAt ⟨rfl, by rw [hy]; exact w2_221, w2_166, w2_164, w2_168, w2_169, w2_176⟩ ⟨by decide, by decide, by decide +kernel⟩ ho (c_X8_sellsAt h) rfl ⟨by omega, by omega⟩ hst h1 h2 hs0 K
  replace h := (if_neg ho).symm.trans h
  by_cases ho : okc S a 3 = true
  · replace h := (if_pos ho).symm.trans h
    exact r_callOi (x := ⟨"GoodsDownhill$House", "sellsAt", "()I"⟩) (as := []) hd ms_X4_sellsAt ⟨rfl, by rw [hy]; exact w2_221, w2_166, w2_164, w2_171, w2_164, w2_176⟩ ⟨by decide, by decide, by decide +kernel⟩ ho (c_X4_sellsAt h) rfl ⟨by omega, by omega⟩ hst h1 h2 hs0 K
  replace h := (if_neg ho).symm.trans h
  by_cases ho : okc S a 4 = true
  · replace h := (if_pos ho).symm.trans h
    exact r_callOi (x := ⟨"GoodsDownhill$House", "sellsAt", "()I"⟩) (as := []) hd ms_X4_sellsAt ⟨rfl, by rw [hy]; exact w2_221, w2_166, w2_164, w2_165, w2_164, w2_176⟩ ⟨by decide, by decide, by decide +kernel⟩ ho (c_X4_sellsAt h) rfl ⟨by omega, by omega⟩ hst h1 h2 hs0 K
  replace h := (if_neg ho).symm.trans h
  by_cases ho : okc S a 5 = true
  · replace h := (if_pos ho).symm.trans h
    exact r_callOi (x := ⟨"GoodsDownhill$House", "sellsAt", "()I"⟩) (as := []) hd ms_X5_sellsAt ⟨rfl, by rw [hy]; exact w2_221, w2_166, w2_164, w2_172, w2_173, w2_176⟩ ⟨by decide, by decide, by decide +kernel⟩ ho (c_X5_sellsAt h) rfl ⟨by omega, by omega⟩ hst h1 h2 hs0 K
  replace h := (if_neg ho).symm.trans h
  by_cases ho : okc S a 8 = true
  · replace h := (if_pos ho).symm.trans h
    exact r_callOi (x := ⟨"GoodsDownhill$House", "sellsAt", "()I"⟩) (as := []) hd ms_X8_sellsAt ⟨rfl, by rw [hy]; exact w2_221, w2_166, w2_164, w2_175, w2_169, w2_176⟩ ⟨by decide, by decide, by decide +kernel⟩ ho (c_X8_sellsAt h) rfl ⟨by omega, by omega⟩ hst h1 h2 hs0 K
  replace h := (if_neg ho).symm.trans h
  cases h
set_option maxRecDepth 20000 in
theorem rv_6_141 {G : Gt} {l : Launch} {y : MethodName} {cc : ByteArray} {nL : Nat} {rt : Option FieldType} {t mc ms ce sl pc : Nat} {lv st : List Value} {S : Mm} {T : TG} {a : Nat} {b0 : Int32} {q : Int32 × Mm} (hd : decode cc pc = .ok (.invokevirtual 141, 3)) (hy : y.cls = "GoodsDownhill$Land") (h : dy_wantsSome S a b0 = some q) (ht : 1 ≤ t ∧ 21 ≤ 40 * t) (hst : (st.map fun v => v.category).sum ≤ 8) (h1 : ce ≤ mc) (h2 : sl ≤ ms) {st0 : List Value} (hs0 : ([.int b0] : List Value).reverse ++ .ref a :: st = st0) (K : Sat G l y cc nL rt t mc ms ce sl (pc + 3) lv (.int q.1 :: st) q.2 T) : Sat G l y cc nL rt t mc ms ce sl pc lv st0 S T := by
  unfold dy_wantsSome at h
  by_cases ho : okc S a 0 = true
  · replace h := (if_pos ho).symm.trans h
    exact r_callOi (x := ⟨"GoodsDownhill$House", "wantsSome", "(I)Z"⟩) (as := [.int b0]) hd ms_X4_wantsSome ⟨rfl, by rw [hy]; exact w3_53, w3_56, w3_54, w3_57, w3_54, w3_62⟩ ⟨by decide, by decide, by decide +kernel⟩ ho (c_X4_wantsSome h) rfl ⟨by omega, by omega⟩ hst h1 h2 hs0 K
  replace h := (if_neg ho).symm.trans h
  by_cases ho : okc S a 2 = true
  · replace h := (if_pos ho).symm.trans h
    exact r_callOi (x := ⟨"GoodsDownhill$House", "wantsSome", "(I)Z"⟩) (as := [.int b0]) hd ms_X4_wantsSome ⟨rfl, by rw [hy]; exact w3_53, w3_56, w3_54, w3_58, w3_54, w3_62⟩ ⟨by decide, by decide, by decide +kernel⟩ ho (c_X4_wantsSome h) rfl ⟨by omega, by omega⟩ hst h1 h2 hs0 K
  replace h := (if_neg ho).symm.trans h
  by_cases ho : okc S a 3 = true
  · replace h := (if_pos ho).symm.trans h
    exact r_callOi (x := ⟨"GoodsDownhill$House", "wantsSome", "(I)Z"⟩) (as := [.int b0]) hd ms_X4_wantsSome ⟨rfl, by rw [hy]; exact w3_53, w3_56, w3_54, w3_59, w3_54, w3_62⟩ ⟨by decide, by decide, by decide +kernel⟩ ho (c_X4_wantsSome h) rfl ⟨by omega, by omega⟩ hst h1 h2 hs0 K
  replace h := (if_neg ho).symm.trans h
  by_cases ho : okc S a 4 = true
  · replace h := (if_pos ho).symm.trans h
    exact r_callOi (x := ⟨"GoodsDownhill$House", "wantsSome", "(I)Z"⟩) (as := [.int b0]) hd ms_X4_wantsSome ⟨rfl, by rw [hy]; exact w3_53, w3_56, w3_54, w3_55, w3_54, w3_62⟩ ⟨by decide, by decide, by decide +kernel⟩ ho (c_X4_wantsSome h) rfl ⟨by omega, by omega⟩ hst h1 h2 hs0 K
  replace h := (if_neg ho).symm.trans h
  by_cases ho : okc S a 5 = true
  · replace h := (if_pos ho).symm.trans h
    exact r_callOi (x := ⟨"GoodsDownhill$House", "wantsSome", "(I)Z"⟩) (as := [.int b0]) hd ms_X4_wantsSome ⟨rfl, by rw [hy]; exact w3_53, w3_56, w3_54, w3_60, w3_54, w3_62⟩ ⟨by decide, by decide, by decide +kernel⟩ ho (c_X4_wantsSome h) rfl ⟨by omega, by omega⟩ hst h1 h2 hs0 K
  replace h := (if_neg ho).symm.trans h
  by_cases ho : okc S a 8 = true
  · replace h := (if_pos ho).symm.trans h
    exact r_callOi (x := ⟨"GoodsDownhill$House", "wantsSome", "(I)Z"⟩) (as := [.int b0]) hd ms_X4_wantsSome ⟨rfl, by rw [hy]; exact w3_53, w3_56, w3_54, w3_61, w3_54, w3_62⟩ ⟨by decide, by decide, by decide +kernel⟩ ho (c_X4_wantsSome h) rfl ⟨by omega, by omega⟩ hst h1 h2 hs0 K
  replace h := (if_neg ho).symm.trans h
  cases h
set_option maxRecDepth 20000 in
theorem rv_10_19 {G : Gt} {l : Launch} {y : MethodName} {cc : ByteArray} {nL : Nat} {rt : Option FieldType} {t mc ms ce sl pc : Nat} {lv st : List Value} {S : Mm} {T : TG} {a : Nat} {b0 : Int32} {q : Int32 × Mm} (hd : decode cc pc = .ok (.invokevirtual 19, 3)) (hy : y.cls = "GoodsDownhill$Trade") (h : dy_wantsSome S a b0 = some q) (ht : 1 ≤ t ∧ 21 ≤ 40 * t) (hst : (st.map fun v => v.category).sum ≤ 8) (h1 : ce ≤ mc) (h2 : sl ≤ ms) {st0 : List Value} (hs0 : ([.int b0] : List Value).reverse ++ .ref a :: st = st0) (K : Sat G l y cc nL rt t mc ms ce sl (pc + 3) lv (.int q.1 :: st) q.2 T) : Sat G l y cc nL rt t mc ms ce sl pc lv st0 S T := by
  unfold dy_wantsSome at h
  by_cases ho : okc S a 0 = true
  · replace h := (if_pos ho).symm.trans h
    exact r_callOi (x := ⟨"GoodsDownhill$House", "wantsSome", "(I)Z"⟩) (as := [.int b0]) hd ms_X4_wantsSome ⟨rfl, by rw [hy]; exact w3_152, w3_56, w3_54, w3_57, w3_54, w3_62⟩ ⟨by decide, by decide, by decide +kernel⟩ ho (c_X4_wantsSome h) rfl ⟨by omega, by omega⟩ hst h1 h2 hs0 K
  replace h := (if_neg ho).symm.trans h
  by_cases ho : okc S a 2 = true
  · replace h := (if_pos ho).symm.trans h
    exact r_callOi (x := ⟨"GoodsDownhill$House", "wantsSome", "(I)Z"⟩) (as := [.int b0]) hd ms_X4_wantsSome ⟨rfl, by rw [hy]; exact w3_152, w3_56, w3_54, w3_58, w3_54, w3_62⟩ ⟨by decide, by decide, by decide +kernel⟩ ho (c_X4_wantsSome h) rfl ⟨by omega, by omega⟩ hst h1 h2 hs0 K
  replace h := (if_neg ho).symm.trans h
  by_cases ho : okc S a 3 = true
  · replace h := (if_pos ho).symm.trans h
    exact r_callOi (x := ⟨"GoodsDownhill$House", "wantsSome", "(I)Z"⟩) (as := [.int b0]) hd ms_X4_wantsSome ⟨rfl, by rw [hy]; exact w3_152, w3_56, w3_54, w3_59, w3_54, w3_62⟩ ⟨by decide, by decide, by decide +kernel⟩ ho (c_X4_wantsSome h) rfl ⟨by omega, by omega⟩ hst h1 h2 hs0 K
  replace h := (if_neg ho).symm.trans h
  by_cases ho : okc S a 4 = true
  · replace h := (if_pos ho).symm.trans h
    exact r_callOi (x := ⟨"GoodsDownhill$House", "wantsSome", "(I)Z"⟩) (as := [.int b0]) hd ms_X4_wantsSome ⟨rfl, by rw [hy]; exact w3_152, w3_56, w3_54, w3_55, w3_54, w3_62⟩ ⟨by decide, by decide, by decide +kernel⟩ ho (c_X4_wantsSome h) rfl ⟨by omega, by omega⟩ hst h1 h2 hs0 K
  replace h := (if_neg ho).symm.trans h
  by_cases ho : okc S a 5 = true
  · replace h := (if_pos ho).symm.trans h
    exact r_callOi (x := ⟨"GoodsDownhill$House", "wantsSome", "(I)Z"⟩) (as := [.int b0]) hd ms_X4_wantsSome ⟨rfl, by rw [hy]; exact w3_152, w3_56, w3_54, w3_60, w3_54, w3_62⟩ ⟨by decide, by decide, by decide +kernel⟩ ho (c_X4_wantsSome h) rfl ⟨by omega, by omega⟩ hst h1 h2 hs0 K
  replace h := (if_neg ho).symm.trans h
  by_cases ho : okc S a 8 = true
  · replace h := (if_pos ho).symm.trans h
    exact r_callOi (x := ⟨"GoodsDownhill$House", "wantsSome", "(I)Z"⟩) (as := [.int b0]) hd ms_X4_wantsSome ⟨rfl, by rw [hy]; exact w3_152, w3_56, w3_54, w3_61, w3_54, w3_62⟩ ⟨by decide, by decide, by decide +kernel⟩ ho (c_X4_wantsSome h) rfl ⟨by omega, by omega⟩ hst h1 h2 hs0 K
  replace h := (if_neg ho).symm.trans h
  cases h
