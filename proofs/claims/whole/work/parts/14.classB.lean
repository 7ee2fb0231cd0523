def f_X11_init (S : Mm) (l0 : Nat) : Option Mm := (f_X6_init (nC S 6 0) (mX S)).bind fun q1 => (pR q1 10 l0 0 (mX S)).bind fun S3 => (f_X6_init (nC S3 6 0) (mX S3)).bind fun q5 => (pR q5 10 l0 1 (mX S3)).bind fun S7 => (f_X6_init (nC S7 6 0) (mX S7)).bind fun q9 => (pR q9 10 l0 2 (mX S7)).bind fun S11 => (f_X9_init (nC S11 9 0) (mX S11)).bind fun q13 => (pR q13 10 l0 4 (mX S11)).bind fun S15 => (f_X9_init (nC S15 9 0) (mX S15)).bind fun q17 => (pR q17 10 l0 5 (mX S15)).bind fun S19 => (f_X7_init (nC S19 7 0) (mX S19)).bind fun q21 => (pR q21 10 l0 6 (mX S19)).bind fun S23 => (pR (nC S23 100 8) 10 l0 7 (mX S23)).bind fun S25 => (pR (nC S25 100 7) 10 l0 9 (mX S25)).bind fun S27 => some S27
set_option maxRecDepth 20000 in
theorem c_X11_init {G : Gt} {l : Launch} {S : Mm} {l0 : Nat} {T : Mm} (hf : f_X11_init S l0 = some T) : CC G l yX11_init cX11_init 1 none 3 32 388 [.ref l0] S (eV T) := by
  unfold f_X11_init at hf
  refine r_body (by decide) rfl (Nat.le_of_ble_eq_true rfl) (by simp) ?_
  refine r_aload_n dX11_init_0 rfl ?_
  refine r_objInit dX11_init_1 ⟨w1_21, w1_22, w1_23⟩ (by decide) (Nat.le_of_ble_eq_true rfl) ?_
  refine r_aload_n dX11_init_4 rfl ?_
  refine r_new (ci := 6) (N := 9) dX11_init_5 ⟨_, _, rfl, w1_24, w1_25, w1_2⟩ (by decide) (by decide) ?_
  refine r_dup dX11_init_8 rfl ?_
  obtain ⟨q1, h2, hf⟩ := bnd hf
  refine r_callIv (st := [.ref (mX S), .ref l0]) (as := []) dX11_init_9 ms_X6_init ⟨rfl, w1_26, w1_27⟩ (c_X6_init h2) rfl ⟨by omega, by omega⟩ (Nat.le_of_ble_eq_true rfl) (by decide) (by decide) rfl ?_
  obtain ⟨S3, h4, hf⟩ := bnd hf
  refine r_putFR dX11_init_12 fs11_10_10 (fun _ _ _ h => by cases h; rfl) rfl rfl (fun _ => rfl) (fun _ => rfl) h4 ?_
  refine r_aload_n dX11_init_15 rfl ?_
  refine r_new (ci := 6) (N := 9) dX11_init_16 ⟨_, _, rfl, w1_24, w1_25, w1_2⟩ (by decide) (by decide) ?_
  refine r_dup dX11_init_19 rfl ?_
  obtain ⟨q5, h6, hf⟩ := bnd hf
  refine r_callIv (st := [.ref (mX S3), .ref l0]) (as := []) dX11_init_20 ms_X6_init ⟨rfl, w1_26, w1_27⟩ (c_X6_init h6) rfl ⟨by omega, by omega⟩ (Nat.le_of_ble_eq_true rfl) (by decide) (by decide) rfl ?_
  obtain ⟨S7, h8, hf⟩ := bnd hf
  refine r_putFR dX11_init_23 fs11_16_10 (fun _ _ _ h => by cases h; rfl) rfl rfl (fun _ => rfl) (fun _ => rfl) h8 ?_
  refine r_aload_n dX11_init_26 rfl ?_
  refine r_new (ci := 6) (N := 9) dX11_init_27 ⟨_, _, rfl, w1_24, w1_25, w1_2⟩ (by decide) (by decide) ?_
  refine r_dup dX11_init_30 rfl ?_
  obtain ⟨q9, h10, hf⟩ := bnd hf
  refine r_callIv (st := [.ref (mX S7), .ref l0]) (as := []) dX11_init_31 ms_X6_init ⟨rfl, w1_26, w1_27⟩ (c_X6_init h10) rfl ⟨by omega, by omega⟩ (Nat.le_of_ble_eq_true rfl) (by decide) (by decide) rfl ?_
  obtain ⟨S11, h12, hf⟩ := bnd hf
  refine r_putFR dX11_init_34 fs11_19_10 (fun _ _ _ h => by cases h; rfl) rfl rfl (fun _ => rfl) (fun _ => rfl) h12 ?_
  refine r_aload_n dX11_init_37 rfl ?_
  refine r_new (ci := 9) (N := 4) dX11_init_38 ⟨_, _, rfl, w1_141, w1_142, w1_5⟩ (by decide) (by decide) ?_
  refine r_dup dX11_init_41 rfl ?_
  obtain ⟨q13, h14, hf⟩ := bnd hf
  refine r_callINv (st := [.ref (mX S11), .ref l0]) (as := []) dX11_init_42 ms_X9_init ⟨rfl, by decide, w1_144⟩ (c_X9_init h14) rfl ⟨by omega, by omega⟩ (Nat.le_of_ble_eq_true rfl) (by decide) (by decide) rfl ?_
  obtain ⟨S15, h16, hf⟩ := bnd hf
  refine r_putFR dX11_init_45 fs11_25_10 (fun _ _ _ h => by cases h; rfl) rfl rfl (fun _ => rfl) (fun _ => rfl) h16 ?_
  refine r_aload_n dX11_init_48 rfl ?_
  refine r_new (ci := 9) (N := 4) dX11_init_49 ⟨_, _, rfl, w1_141, w1_142, w1_5⟩ (by decide) (by decide) ?_
  refine r_dup dX11_init_52 rfl ?_
  obtain ⟨q17, h18, hf⟩ := bnd hf
  refine r_callINv (st := [.ref (mX S15), .ref l0]) (as := []) dX11_init_53 ms_X9_init ⟨rfl, by decide, w1_144⟩ (c_X9_init h18) rfl ⟨by omega, by omega⟩ (Nat.le_of_ble_eq_true rfl) (by decide) (by decide) rfl ?_
  obtain ⟨S19, h20, hf⟩ := bnd hf
  refine r_putFR dX11_init_56 fs11_29_10 (fun _ _ _ h => by cases h; rfl) rfl rfl (fun _ => rfl) (fun _ => rfl) h20 ?_
  refine r_aload_n dX11_init_59 rfl ?_
  refine r_new (ci := 7) (N := 2) dX11_init_60 ⟨_, _, rfl, w1_165, w1_166, w1_6⟩ (by decide) (by decide) ?_
  refine r_dup dX11_init_63 rfl ?_
  obtain ⟨q21, h22, hf⟩ := bnd hf
  refine r_callINv (st := [.ref (mX S19), .ref l0]) (as := []) dX11_init_64 ms_X7_init ⟨rfl, by decide, w1_168⟩ (c_X7_init h22) rfl ⟨by omega, by omega⟩ (Nat.le_of_ble_eq_true rfl) (by decide) (by decide) rfl ?_
  obtain ⟨S23, h24, hf⟩ := bnd hf
  refine r_putFR dX11_init_67 fs11_35_10 (fun _ _ _ h => by cases h; rfl) rfl rfl (fun _ => rfl) (fun _ => rfl) h24 ?_
  refine r_aload_n dX11_init_70 rfl ?_
  refine r_bipush (v := 8) dX11_init_71 (by decide) ?_
  refine r_newarray (N := 8) dX11_init_73 w1_42 (by decide) (by decide) (by decide) (by decide) (by decide) ?_
  obtain ⟨S25, h26, hf⟩ := bnd hf
  refine r_putFR dX11_init_75 fs11_39_10 (fun _ _ _ h => by cases h; rfl) rfl rfl (fun _ => rfl) (fun _ => rfl) h26 ?_
  refine r_aload_n dX11_init_78 rfl ?_
  refine r_bipush (v := 7) dX11_init_79 (by decide) ?_
  refine r_newarray (N := 7) dX11_init_81 w1_42 (by decide) (by decide) (by decide) (by decide) (by decide) ?_
  obtain ⟨S27, h28, hf⟩ := bnd hf
  refine r_putFR dX11_init_83 fs11_43_10 (fun _ _ _ h => by cases h; rfl) rfl rfl (fun _ => rfl) (fun _ => rfl) h28 ?_
  have hz := congrArg eV (Option.some.inj hf)
  exact r_return dX11_init_86 rfl (Nat.le_of_ble_eq_true rfl) (Nat.le_of_ble_eq_true rfl) hz
def f_X11_refuse_26 (S : Mm) (l1 : Int32) : Option (Int32 × Mm) := some (l1, S)
def f_X11_refuse (S : Mm) (l0 : Nat) (l1 : Int32) : Option (Int32 × Mm) := if okc S l0 10 = true then (if (-l1) < 0 then f_X11_refuse_26 S l1 else (gR S 10 l0 9).bind fun x2 => (aL S 100 x2).bind fun x4 => (if x4 ≤ (-l1) then f_X11_refuse_26 S l1 else (gR S 10 l0 9).bind fun x7 => (aI S x7 (-l1)).bind fun x9 => (aS S x7 (-l1) (x9 + 1)).bind fun S11 => f_X11_refuse_26 S11 l1)) else none
set_option maxRecDepth 20000 in
theorem t_X11_refuse_26 {G : Gt} {l : Launch} (S : Mm) (l1 : Int32) (T : (Int32 × Mm)) (hf : f_X11_refuse_26 S l1 = some T) : Sat G l yX11_refuse cX11_refuse 3 (some .int) 0 0 0 0 0 26 [.null, .int l1, .null] [] S (eI T) := by
  unfold f_X11_refuse_26 at hf
  refine r_iload_n dX11_refuse_26 rfl ?_
  have hz := congrArg eI (Option.some.inj hf)
  exact r_ireturn dX11_refuse_27 rfl (Nat.le_of_ble_eq_true rfl) (Nat.le_of_ble_eq_true rfl) hz
set_option maxRecDepth 20000 in
theorem ok_X11_refuse {S : Mm} {l0 : Nat} {l1 : Int32} {T : (Int32 × Mm)} (hf : f_X11_refuse S l0 l1 = some T) : okc S l0 10 = true := (oif hf).1
set_option maxRecDepth 20000 in
theorem c_X11_refuse {G : Gt} {l : Launch} {S : Mm} {l0 : Nat} {l1 : Int32} {T : (Int32 × Mm)} (hf : f_X11_refuse S l0 l1 = some T) : CC G l yX11_refuse cX11_refuse 3 (some .int) 0 0 0 [.ref l0, .int l1] S (eI T) := by
  unfold f_X11_refuse at hf
  replace hf := (oif hf).2
  refine r_body (by decide) rfl (Nat.le_of_ble_eq_true rfl) (by simp) ?_
  refine r_iload_n dX11_refuse_0 rfl ?_
  refine r_ineg dX11_refuse_1 ?_
  refine r_istore_n (lv' := [.ref l0, .int l1, .int (-l1)]) dX11_refuse_2 (by decide) rfl rfl ?_
  refine r_iload_n dX11_refuse_3 rfl ?_
  refine r_if_lt (tgt := 26) dX11_refuse_4 (by decide) (fun c1 => ?_) (fun c1 => ?_)
  · replace hf := (if_pos c1).symm.trans hf
    refine r_lvs (lv' := [.null, .int l1, .null]) ⟨Or.inr rfl, Or.inl rfl, Or.inr rfl, trivial⟩ ?_
    exact t_X11_refuse_26 _ _ _ hf
  · replace hf := (if_neg c1).symm.trans hf
    refine r_iload_n dX11_refuse_7 rfl ?_
    refine r_aload_n dX11_refuse_8 rfl ?_
    obtain ⟨x2, h3, hf⟩ := bnd hf
    refine r_getR dX11_refuse_9 fs11_43_10 rfl h3 ?_
    obtain ⟨x4, h5, hf⟩ := bnd hf
    refine r_alen dX11_refuse_12 h5 ?_
    refine r_icmp_ge (tgt := 26) dX11_refuse_13 (by decide) (fun c6 => ?_) (fun c6 => ?_)
    · replace hf := (if_pos c6).symm.trans hf
      refine r_lvs (lv' := [.null, .int l1, .null]) ⟨Or.inr rfl, Or.inl rfl, Or.inr rfl, trivial⟩ ?_
      exact t_X11_refuse_26 _ _ _ hf
    · replace hf := (if_neg c6).symm.trans hf
      refine r_aload_n dX11_refuse_16 rfl ?_
      obtain ⟨x7, h8, hf⟩ := bnd hf
      refine r_getR dX11_refuse_17 fs11_43_10 rfl h8 ?_
      refine r_iload_n dX11_refuse_20 rfl ?_
      refine r_dup2 dX11_refuse_21 rfl rfl ?_
      obtain ⟨x9, h10, hf⟩ := bnd hf
      refine r_iaload dX11_refuse_22 h10 ?_
      refine r_iconst (v := 1) dX11_refuse_23 (by decide) ?_
      refine r_iadd dX11_refuse_24 ?_
      obtain ⟨S11, h12, hf⟩ := bnd hf
      refine r_iastore dX11_refuse_25 h12 ?_
      refine r_lvs (lv' := [.null, .int l1, .null]) ⟨Or.inr rfl, Or.inl rfl, Or.inr rfl, trivial⟩ ?_
      exact t_X11_refuse_26 _ _ _ hf
def f_X11_feed_28 (S : Mm) (l0 : Nat) : Option (Int32 × Mm) := (f_X11_refuse S l0 (-6)).bind fun q1 => some (q1.1, q1.2)
def f_X11_feed (S : Mm) (l0 : Nat) (l1 : Int32) : Option (Int32 × Mm) := if okc S l0 10 = true then (if 0 ≤ l1 then (if 255 < l1 then f_X11_feed_28 S l0 else (gR S 10 l0 6).bind fun x3 => (f_X7_isFull S x3).bind fun q5 => (if q5.1 = 0 then (gR q5.2 10 l0 6).bind fun x8 => (f_X7_add q5.2 x8 l1).bind fun q10 => (gR q10 10 l0 6).bind fun x12 => (gI q10 7 x12 1).bind fun x14 => some (x14, q10) else f_X11_feed_28 q5.2 l0)) else (f_X11_refuse S l0 (-4)).bind fun q16 => some (q16.1, q16.2)) else none
set_option maxRecDepth 20000 in
theorem t_X11_feed_28 {G : Gt} {l : Launch} (S : Mm) (l0 : Nat) (T : (Int32 × Mm)) (hf : f_X11_feed_28 S l0 = some T) : Sat G l yX11_feed cX11_feed 2 (some .int) 2 0 0 0 0 28 [.ref l0, .null] [] S (eI T) := by
  unfold f_X11_feed_28 at hf
  refine r_aload_n dX11_feed_28 rfl ?_
  refine r_bipush (v := (-6)) dX11_feed_29 (by decide) ?_
  obtain ⟨q1, h2, hf⟩ := bnd hf
  refine r_callVi (st := []) (as := [.int (-6)]) dX11_feed_31 ms_X11_refuse ⟨rfl, w1_214, w1_216, w0_0⟩ (ok_X11_refuse h2) (c_X11_refuse h2) rfl ⟨by omega, by omega⟩ (Nat.le_of_ble_eq_true rfl) (by decide) (by decide) rfl ?_
  have hz := congrArg eI (Option.some.inj hf)
  exact r_ireturn dX11_feed_34 rfl (Nat.le_of_ble_eq_true rfl) (Nat.le_of_ble_eq_true rfl) hz
set_option maxRecDepth 20000 in
theorem ok_X11_feed {S : Mm} {l0 : Nat} {l1 : Int32} {T : (Int32 × Mm)} (hf : f_X11_feed S l0 l1 = some T) : okc S l0 10 = true := (oif hf).1
set_option maxRecDepth 20000 in
theorem c_X11_feed {G : Gt} {l : Launch} {S : Mm} {l0 : Nat} {l1 : Int32} {T : (Int32 × Mm)} (hf : f_X11_feed S l0 l1 = some T) : CC G l yX11_feed cX11_feed 2 (some .int) 2 0 0 [.ref l0, .int l1] S (eI T) := by
  unfold f_X11_feed at hf
  replace hf := (oif hf).2
  refine r_body (by decide) rfl (Nat.le_of_ble_eq_true rfl) (by simp) ?_
  refine r_iload_n dX11_feed_0 rfl ?_
  refine r_if_ge (tgt := 11) dX11_feed_1 (by decide) (fun c1 => ?_) (fun c1 => ?_)
  · replace hf := (if_pos c1).symm.trans hf
    refine r_iload_n dX11_feed_11 rfl ?_
    refine r_sipush (v := 255) dX11_feed_12 (by decide) ?_
    refine r_icmp_gt (tgt := 28) dX11_feed_15 (by decide) (fun c2 => ?_) (fun c2 => ?_)
    · replace hf := (if_pos c2).symm.trans hf
      refine r_lvs (lv' := [.ref l0, .null]) ⟨Or.inl rfl, Or.inr rfl, trivial⟩ ?_
      exact t_X11_feed_28 _ _ _ hf
    · replace hf := (if_neg c2).symm.trans hf
      refine r_aload_n dX11_feed_18 rfl ?_
      obtain ⟨x3, h4, hf⟩ := bnd hf
      refine r_getR dX11_feed_19 fs11_35_10 rfl h4 ?_
      obtain ⟨q5, h6, hf⟩ := bnd hf
      refine r_callVi (st := []) (as := []) dX11_feed_22 ms_X7_isFull ⟨rfl, w1_218, w1_219, w1_220⟩ (ok_X7_isFull h6) (c_X7_isFull h6) rfl ⟨by omega, by omega⟩ (Nat.le_of_ble_eq_true rfl) (by decide) (by decide) rfl ?_
      refine r_if_eq (tgt := 35) dX11_feed_25 (by decide) (fun c7 => ?_) (fun c7 => ?_)
      · replace hf := (if_pos c7).symm.trans hf
        refine r_aload_n dX11_feed_35 rfl ?_
        obtain ⟨x8, h9, hf⟩ := bnd hf
        refine r_getR dX11_feed_36 fs11_35_10 rfl h9 ?_
        refine r_iload_n dX11_feed_39 rfl ?_
        obtain ⟨q10, h11, hf⟩ := bnd hf
        refine r_callVv (st := []) (as := [.int l1]) dX11_feed_40 ms_X7_add ⟨rfl, w1_222, w1_223, w1_224⟩ (ok_X7_add h11) (c_X7_add h11) rfl ⟨by omega, by omega⟩ (Nat.le_of_ble_eq_true rfl) (by decide) (by decide) rfl ?_
        refine r_aload_n dX11_feed_43 rfl ?_
        obtain ⟨x12, h13, hf⟩ := bnd hf
        refine r_getR dX11_feed_44 fs11_35_10 rfl h13 ?_
        obtain ⟨x14, h15, hf⟩ := bnd hf
        refine r_getI dX11_feed_47 fs11_58_7 rfl h15 ?_
        have hz := congrArg eI (Option.some.inj hf)
        exact r_ireturn dX11_feed_50 rfl (Nat.le_of_ble_eq_true rfl) (Nat.le_of_ble_eq_true rfl) hz
      · replace hf := (if_neg c7).symm.trans hf
        refine r_lvs (lv' := [.ref l0, .null]) ⟨Or.inl rfl, Or.inr rfl, trivial⟩ ?_
        exact t_X11_feed_28 _ _ _ hf
  · replace hf := (if_neg c1).symm.trans hf
    refine r_aload_n dX11_feed_4 rfl ?_
    refine r_bipush (v := (-4)) dX11_feed_5 (by decide) ?_
    obtain ⟨q16, h17, hf⟩ := bnd hf
    refine r_callVi (st := []) (as := [.int (-4)]) dX11_feed_7 ms_X11_refuse ⟨rfl, w1_214, w1_216, w0_0⟩ (ok_X11_refuse h17) (c_X11_refuse h17) rfl ⟨by omega, by omega⟩ (Nat.le_of_ble_eq_true rfl) (by decide) (by decide) rfl ?_
    have hz := congrArg eI (Option.some.inj hf)
    exact r_ireturn dX11_feed_10 rfl (Nat.le_of_ble_eq_true rfl) (Nat.le_of_ble_eq_true rfl) hz
def f_X11_mountain_46 (S : Mm) (l1 : Int32) : Option (Int32 × Mm) := some (l1, S)
def f_X11_mountain (S : Mm) (l0 : Nat) : Option (Int32 × Mm) := if okc S l0 10 = true then (gR S 10 l0 1).bind fun x1 => (gR S 10 l0 0).bind fun x3 => (f_X6_copyFrom S x1 x3).bind fun q5 => (gR q5 10 l0 6).bind fun x7 => (gR q5 10 l0 1).bind fun x9 => (f_X7_tellTo q5 x7 x9).bind fun q11 => (gR q11.2 10 l0 6).bind fun x13 => (pI q11.2 7 x13 1 0).bind fun S15 => (if q11.1 ≤ 0 then f_X11_mountain_46 S15 q11.1 else (gR S15 10 l0 0).bind fun x18 => (gR S15 10 l0 1).bind fun x20 => (f_X6_copyFrom S15 x18 x20).bind fun q22 => f_X11_mountain_46 q22 q11.1) else none
set_option maxRecDepth 20000 in
theorem t_X11_mountain_46 {G : Gt} {l : Launch} (S : Mm) (l1 : Int32) (T : (Int32 × Mm)) (hf : f_X11_mountain_46 S l1 = some T) : Sat G l yX11_mountain cX11_mountain 2 (some .int) 7 100 600 100 600 46 [.null, .int l1] [] S (eI T) := by
  unfold f_X11_mountain_46 at hf
  refine r_iload_n dX11_mountain_46 rfl ?_
  have hz := congrArg eI (Option.some.inj hf)
  exact r_ireturn dX11_mountain_47 rfl (Nat.le_of_ble_eq_true rfl) (Nat.le_of_ble_eq_true rfl) hz
set_option maxRecDepth 20000 in
theorem ok_X11_mountain {S : Mm} {l0 : Nat} {T : (Int32 × Mm)} (hf : f_X11_mountain S l0 = some T) : okc S l0 10 = true := (oif hf).1
set_option maxRecDepth 20000 in
theorem c_X11_mountain {G : Gt} {l : Launch} {S : Mm} {l0 : Nat} {T : (Int32 × Mm)} (hf : f_X11_mountain S l0 = some T) : CC G l yX11_mountain cX11_mountain 2 (some .int) 7 100 600 [.ref l0] S (eI T) := by
  unfold f_X11_mountain at hf
  replace hf := (oif hf).2
  refine r_body (by decide) rfl (Nat.le_of_ble_eq_true rfl) (by simp) ?_
  refine r_aload_n dX11_mountain_0 rfl ?_
  obtain ⟨x1, h2, hf⟩ := bnd hf
  refine r_getR dX11_mountain_1 fs11_16_10 rfl h2 ?_
  refine r_aload_n dX11_mountain_4 rfl ?_
  obtain ⟨x3, h4, hf⟩ := bnd hf
  refine r_getR dX11_mountain_5 fs11_10_10 rfl h4 ?_
  obtain ⟨q5, h6, hf⟩ := bnd hf
  refine r_callVv (st := []) (as := [.ref x3]) dX11_mountain_8 ms_X6_copyFrom ⟨rfl, w1_231, w1_232, w1_233⟩ (ok_X6_copyFrom h6) (c_X6_copyFrom h6) rfl ⟨by omega, by omega⟩ (Nat.le_of_ble_eq_true rfl) (by decide) (by decide) rfl ?_
  refine r_aload_n dX11_mountain_11 rfl ?_
  obtain ⟨x7, h8, hf⟩ := bnd hf
  refine r_getR dX11_mountain_12 fs11_35_10 rfl h8 ?_
  refine r_aload_n dX11_mountain_15 rfl ?_
  obtain ⟨x9, h10, hf⟩ := bnd hf
  refine r_getR dX11_mountain_16 fs11_16_10 rfl h10 ?_
  obtain ⟨q11, h12, hf⟩ := bnd hf
  refine r_callVi (st := []) (as := [.ref x9]) dX11_mountain_19 ms_X7_tellTo ⟨rfl, w2_3, w2_4, w2_5⟩ (ok_X7_tellTo h12) (c_X7_tellTo h12) rfl ⟨by omega, by omega⟩ (Nat.le_of_ble_eq_true rfl) (by decide) (by decide) rfl ?_
  refine r_istore_n (lv' := [.ref l0, .int q11.1]) dX11_mountain_22 (by decide) rfl rfl ?_
  refine r_aload_n dX11_mountain_23 rfl ?_
  obtain ⟨x13, h14, hf⟩ := bnd hf
  refine r_getR dX11_mountain_24 fs11_35_10 rfl h14 ?_
  refine r_iconst (v := 0) dX11_mountain_27 (by decide) ?_
  obtain ⟨S15, h16, hf⟩ := bnd hf
  refine r_putI dX11_mountain_28 fs11_58_7 rfl h16 ?_
  refine r_iload_n dX11_mountain_31 rfl ?_
  refine r_if_le (tgt := 46) dX11_mountain_32 (by decide) (fun c17 => ?_) (fun c17 => ?_)
  · replace hf := (if_pos c17).symm.trans hf
    refine r_lvs (lv' := [.null, .int q11.1]) ⟨Or.inr rfl, Or.inl rfl, trivial⟩ ?_
    exact t_X11_mountain_46 _ _ _ hf
  · replace hf := (if_neg c17).symm.trans hf
    refine r_aload_n dX11_mountain_35 rfl ?_
    obtain ⟨x18, h19, hf⟩ := bnd hf
    refine r_getR dX11_mountain_36 fs11_10_10 rfl h19 ?_
    refine r_aload_n dX11_mountain_39 rfl ?_
    obtain ⟨x20, h21, hf⟩ := bnd hf
    refine r_getR dX11_mountain_40 fs11_16_10 rfl h21 ?_
    obtain ⟨q22, h23, hf⟩ := bnd hf
    refine r_callVv (st := []) (as := [.ref x20]) dX11_mountain_43 ms_X6_copyFrom ⟨rfl, w1_231, w1_232, w1_233⟩ (ok_X6_copyFrom h23) (c_X6_copyFrom h23) rfl ⟨by omega, by omega⟩ (Nat.le_of_ble_eq_true rfl) (by decide) (by decide) rfl ?_
    refine r_lvs (lv' := [.null, .int q11.1]) ⟨Or.inr rfl, Or.inl rfl, trivial⟩ ?_
    exact t_X11_mountain_46 _ _ _ hf
def f_X11_house (S : Mm) (l0 : Nat) (l1 : Int32) (l2 : Int32) : Option (Int32 × Mm) := if okc S l0 10 = true then (gR S 10 l0 0).bind fun x1 => (f_X6_hasHouse S x1 l1).bind fun q3 => (if q3.1 = 0 then (f_X11_refuse q3.2 l0 (-1)).bind fun q48 => some (q48.1, q48.2) else (gR q3.2 10 l0 0).bind fun x6 => (gR q3.2 6 x6 0).bind fun x8 => (aR q3.2 x8 l1).bind fun x10 => (if l2 = 0 then (dy_kind q3.2 x10).bind fun q22 => some (q22.1, q22.2) else (if l2 = 1 then (gF q3.2 x10 0).bind fun x24 => some (x24, q3.2) else (if l2 = 2 then (gF q3.2 x10 1).bind fun x26 => some (x26, q3.2) else (if l2 = 3 then (dy_sellsAt q3.2 x10).bind fun q28 => some (q28.1, q28.2) else (if l2 = 4 then (dy_buysAt q3.2 x10).bind fun q30 => some (q30.1, q30.2) else (if l2 = 5 then (gF q3.2 x10 2).bind fun x32 => some (x32, q3.2) else (if l2 = 6 then (gF q3.2 x10 3).bind fun x34 => some (x34, q3.2) else (if l2 = 7 then (gF q3.2 x10 4).bind fun x36 => some (x36, q3.2) else (if l2 = 8 then (gF q3.2 x10 5).bind fun x38 => some (x38, q3.2) else (if l2 = 9 then (gR q3.2 10 l0 0).bind fun x40 => (gR q3.2 6 x40 2).bind fun x42 => (aI q3.2 x42 l1).bind fun x44 => some (x44, q3.2) else (f_X11_refuse q3.2 l0 (-2)).bind fun q46 => some (q46.1, q46.2)))))))))))) else none
set_option maxRecDepth 20000 in
theorem ok_X11_house {S : Mm} {l0 : Nat} {l1 : Int32} {l2 : Int32} {T : (Int32 × Mm)} (hf : f_X11_house S l0 l1 l2 = some T) : okc S l0 10 = true := (oif hf).1
set_option maxRecDepth 20000 in
theorem c_X11_house {G : Gt} {l : Launch} {S : Mm} {l0 : Nat} {l1 : Int32} {l2 : Int32} {T : (Int32 × Mm)} (hf : f_X11_house S l0 l1 l2 = some T) : CC G l yX11_house cX11_house 4 (some .int) 1 0 0 [.ref l0, .int l1, .int l2] S (eI T) := by
  unfold f_X11_house at hf
  replace hf := (oif hf).2
  refine r_body (by decide) rfl (Nat.le_of_ble_eq_true rfl) (by simp) ?_
  refine r_aload_n dX11_house_0 rfl ?_
  obtain ⟨x1, h2, hf⟩ := bnd hf
  refine r_getR dX11_house_1 fs11_10_10 rfl h2 ?_
  refine r_iload_n dX11_house_4 rfl ?_
  obtain ⟨q3, h4, hf⟩ := bnd hf
  refine r_callVi (st := []) (as := [.int l1]) dX11_house_5 ms_X6_hasHouse ⟨rfl, w2_142, w2_131, w2_132⟩ (ok_X6_hasHouse h4) (c_X6_hasHouse h4) rfl ⟨by omega, by omega⟩ (Nat.le_of_ble_eq_true rfl) (by decide) (by decide) rfl ?_
  refine r_if_ne (tgt := 17) dX11_house_8 (by decide) (fun c5 => ?_) (fun c5 => ?_)
  · replace hf := (if_neg c5).symm.trans hf
    refine r_aload_n dX11_house_17 rfl ?_
    obtain ⟨x6, h7, hf⟩ := bnd hf
    refine r_getR dX11_house_18 fs11_10_10 rfl h7 ?_
    obtain ⟨x8, h9, hf⟩ := bnd hf
    refine r_getR dX11_house_21 fs11_74_6 rfl h9 ?_
    refine r_iload_n dX11_house_24 rfl ?_
    obtain ⟨x10, h11, hf⟩ := bnd hf
    refine r_aaload dX11_house_25 h11 ?_
    refine r_astore_n (lv' := [.ref l0, .int l1, .int l2, .ref x10]) dX11_house_26 (by decide) rfl rfl ?_
    refine r_iload_n dX11_house_27 rfl ?_
    by_cases c12 : l2 = 0
    · replace hf := (if_pos c12).symm.trans hf
      refine r_tsIn (k := 0) (tgt := 84) dX11_house_28 c12 (by decide) (by decide) (by rfl) (by decide) ?_
      refine r_aload_n dX11_house_84 rfl ?_
      obtain ⟨q22, h23, hf⟩ := bnd hf
      refine rv_11_78 (st := []) dX11_house_85 rfl h23 ⟨by omega, by omega⟩ (Nat.le_of_ble_eq_true rfl) (by decide) (by decide) rfl ?_
      have hz := congrArg eI (Option.some.inj hf)
      exact r_ireturn dX11_house_88 rfl (Nat.le_of_ble_eq_true rfl) (Nat.le_of_ble_eq_true rfl) hz
    replace hf := (if_neg c12).symm.trans hf
    by_cases c13 : l2 = 1
    · replace hf := (if_pos c13).symm.trans hf
      refine r_tsIn (k := 1) (tgt := 89) dX11_house_28 c13 (by decide) (by decide) (by rfl) (by decide) ?_
      refine r_aload_n dX11_house_89 rfl ?_
      obtain ⟨x24, h25, hf⟩ := bnd hf
      refine r_getF dX11_house_90 ff11_84 (by decide) h25 ?_
      have hz := congrArg eI (Option.some.inj hf)
      exact r_ireturn dX11_house_93 rfl (Nat.le_of_ble_eq_true rfl) (Nat.le_of_ble_eq_true rfl) hz
    replace hf := (if_neg c13).symm.trans hf
    by_cases c14 : l2 = 2
    · replace hf := (if_pos c14).symm.trans hf
      refine r_tsIn (k := 2) (tgt := 94) dX11_house_28 c14 (by decide) (by decide) (by rfl) (by decide) ?_
      refine r_aload_n dX11_house_94 rfl ?_
      obtain ⟨x26, h27, hf⟩ := bnd hf
      refine r_getF dX11_house_95 ff11_87 (by decide) h27 ?_
      have hz := congrArg eI (Option.some.inj hf)
      exact r_ireturn dX11_house_98 rfl (Nat.le_of_ble_eq_true rfl) (Nat.le_of_ble_eq_true rfl) hz
    replace hf := (if_neg c14).symm.trans hf
    by_cases c15 : l2 = 3
    · replace hf := (if_pos c15).symm.trans hf
      refine r_tsIn (k := 3) (tgt := 99) dX11_house_28 c15 (by decide) (by decide) (by rfl) (by decide) ?_
      refine r_aload_n dX11_house_99 rfl ?_
      obtain ⟨q28, h29, hf⟩ := bnd hf
      refine rv_11_90 (st := []) dX11_house_100 rfl h29 ⟨by omega, by omega⟩ (Nat.le_of_ble_eq_true rfl) (by decide) (by decide) rfl ?_
      have hz := congrArg eI (Option.some.inj hf)
      exact r_ireturn dX11_house_103 rfl (Nat.le_of_ble_eq_true rfl) (Nat.le_of_ble_eq_true rfl) hz
    replace hf := (if_neg c15).symm.trans hf
    by_cases c16 : l2 = 4
    · replace hf := (if_pos c16).symm.trans hf
      refine r_tsIn (k := 4) (tgt := 104) dX11_house_28 c16 (by decide) (by decide) (by rfl) (by decide) ?_
      refine r_aload_n dX11_house_104 rfl ?_
      obtain ⟨q30, h31, hf⟩ := bnd hf
      refine rv_11_93 (st := []) dX11_house_105 rfl h31 ⟨by omega, by omega⟩ (Nat.le_of_ble_eq_true rfl) (by decide) (by decide) rfl ?_
      have hz := congrArg eI (Option.some.inj hf)
      exact r_ireturn dX11_house_108 rfl (Nat.le_of_ble_eq_true rfl) (Nat.le_of_ble_eq_true rfl) hz
    replace hf := (if_neg c16).symm.trans hf
    by_cases c17 : l2 = 5
    · replace hf := (if_pos c17).symm.trans hf
      refine r_tsIn (k := 5) (tgt := 109) dX11_house_28 c17 (by decide) (by decide) (by rfl) (by decide) ?_
      refine r_aload_n dX11_house_109 rfl ?_
      obtain ⟨x32, h33, hf⟩ := bnd hf
      refine r_getF dX11_house_110 ff11_96 (by decide) h33 ?_
      have hz := congrArg eI (Option.some.inj hf)
      exact r_ireturn dX11_house_113 rfl (Nat.le_of_ble_eq_true rfl) (Nat.le_of_ble_eq_true rfl) hz
    replace hf := (if_neg c17).symm.trans hf
    by_cases c18 : l2 = 6
    · replace hf := (if_pos c18).symm.trans hf
      refine r_tsIn (k := 6) (tgt := 114) dX11_house_28 c18 (by decide) (by decide) (by rfl) (by decide) ?_
      refine r_aload_n dX11_house_114 rfl ?_
      obtain ⟨x34, h35, hf⟩ := bnd hf
      refine r_getF dX11_house_115 ff11_99 (by decide) h35 ?_
      have hz := congrArg eI (Option.some.inj hf)
      exact r_ireturn dX11_house_118 rfl (Nat.le_of_ble_eq_true rfl) (Nat.le_of_ble_eq_true rfl) hz
    replace hf := (if_neg c18).symm.trans hf
    by_cases c19 : l2 = 7
    · replace hf := (if_pos c19).symm.trans hf
      refine r_tsIn (k := 7) (tgt := 119) dX11_house_28 c19 (by decide) (by decide) (by rfl) (by decide) ?_
      refine r_aload_n dX11_house_119 rfl ?_
      obtain ⟨x36, h37, hf⟩ := bnd hf
      refine r_getF dX11_house_120 ff11_102 (by decide) h37 ?_
      have hz := congrArg eI (Option.some.inj hf)
      exact r_ireturn dX11_house_123 rfl (Nat.le_of_ble_eq_true rfl) (Nat.le_of_ble_eq_true rfl) hz
    replace hf := (if_neg c19).symm.trans hf
    by_cases c20 : l2 = 8
    · replace hf := (if_pos c20).symm.trans hf
      refine r_tsIn (k := 8) (tgt := 124) dX11_house_28 c20 (by decide) (by decide) (by rfl) (by decide) ?_
      refine r_aload_n dX11_house_124 rfl ?_
      obtain ⟨x38, h39, hf⟩ := bnd hf
      refine r_getF dX11_house_125 ff11_105 (by decide) h39 ?_
      have hz := congrArg eI (Option.some.inj hf)
      exact r_ireturn dX11_house_128 rfl (Nat.le_of_ble_eq_true rfl) (Nat.le_of_ble_eq_true rfl) hz
    replace hf := (if_neg c20).symm.trans hf
    by_cases c21 : l2 = 9
    · replace hf := (if_pos c21).symm.trans hf
      refine r_tsIn (k := 9) (tgt := 129) dX11_house_28 c21 (by decide) (by decide) (by rfl) (by decide) ?_
      refine r_aload_n dX11_house_129 rfl ?_
      obtain ⟨x40, h41, hf⟩ := bnd hf
      refine r_getR dX11_house_130 fs11_10_10 rfl h41 ?_
      obtain ⟨x42, h43, hf⟩ := bnd hf
      refine r_getR dX11_house_133 fs11_108_6 rfl h43 ?_
      refine r_iload_n dX11_house_136 rfl ?_
      obtain ⟨x44, h45, hf⟩ := bnd hf
      refine r_iaload dX11_house_137 h45 ?_
      have hz := congrArg eI (Option.some.inj hf)
      exact r_ireturn dX11_house_138 rfl (Nat.le_of_ble_eq_true rfl) (Nat.le_of_ble_eq_true rfl) hz
    replace hf := (if_neg c21).symm.trans hf
    refine r_tsOut (ks := [0, 1, 2, 3, 4, 5, 6, 7, 8, 9]) (n := 10) (tgt := 139) dX11_house_28 (by decide) (by decide) (by simp only [List.mem_cons, List.not_mem_nil, or_false, not_or]; exact ⟨c12, c13, c14, c15, c16, c17, c18, c19, c20, c21⟩) (by decide) ?_
    refine r_aload_n dX11_house_139 rfl ?_
    refine r_bipush (v := (-2)) dX11_house_140 (by decide) ?_
    obtain ⟨q46, h47, hf⟩ := bnd hf
    refine r_callVi (st := []) (as := [.int (-2)]) dX11_house_142 ms_X11_refuse ⟨rfl, w1_214, w1_216, w0_0⟩ (ok_X11_refuse h47) (c_X11_refuse h47) rfl ⟨by omega, by omega⟩ (Nat.le_of_ble_eq_true rfl) (by decide) (by decide) rfl ?_
    have hz := congrArg eI (Option.some.inj hf)
    exact r_ireturn dX11_house_145 rfl (Nat.le_of_ble_eq_true rfl) (Nat.le_of_ble_eq_true rfl) hz
  · replace hf := (if_pos c5).symm.trans hf
    refine r_aload_n dX11_house_11 rfl ?_
    refine r_iconst (v := (-1)) dX11_house_12 (by decide) ?_
    obtain ⟨q48, h49, hf⟩ := bnd hf
    refine r_callVi (st := []) (as := [.int (-1)]) dX11_house_13 ms_X11_refuse ⟨rfl, w1_214, w1_216, w0_0⟩ (ok_X11_refuse h49) (c_X11_refuse h49) rfl ⟨by omega, by omega⟩ (Nat.le_of_ble_eq_true rfl) (by decide) (by decide) rfl ?_
    have hz := congrArg eI (Option.some.inj hf)
    exact r_ireturn dX11_house_16 rfl (Nat.le_of_ble_eq_true rfl) (Nat.le_of_ble_eq_true rfl) hz
def f_X11_store_18 (S : Mm) (l0 : Nat) : Option (Int32 × Mm) := (f_X11_refuse S l0 (-1)).bind fun q1 => some (q1.1, q1.2)
def f_X11_store (S : Mm) (l0 : Nat) (l1 : Int32) (l2 : Int32) : Option (Int32 × Mm) := if okc S l0 10 = true then (gR S 10 l0 0).bind fun x1 => (f_X6_hasHouse S x1 l1).bind fun q3 => (if q3.1 = 0 then f_X11_store_18 q3.2 l0 else (f_X11_isGood q3.2 l2).bind fun q6 => (if q6.1 = 0 then f_X11_store_18 q6.2 l0 else (gR q6.2 10 l0 0).bind fun x9 => (f_X6_piecesOf q6.2 x9 l1 l2).bind fun q11 => some (q11.1, q11.2))) else none
set_option maxRecDepth 20000 in
theorem t_X11_store_18 {G : Gt} {l : Launch} (S : Mm) (l0 : Nat) (T : (Int32 × Mm)) (hf : f_X11_store_18 S l0 = some T) : Sat G l yX11_store cX11_store 3 (some .int) 1 0 0 0 0 18 [.ref l0, .null, .null] [] S (eI T) := by
  unfold f_X11_store_18 at hf
  refine r_aload_n dX11_store_18 rfl ?_
  refine r_iconst (v := (-1)) dX11_store_19 (by decide) ?_
  obtain ⟨q1, h2, hf⟩ := bnd hf
  refine r_callVi (st := []) (as := [.int (-1)]) dX11_store_20 ms_X11_refuse ⟨rfl, w1_214, w1_216, w0_0⟩ (ok_X11_refuse h2) (c_X11_refuse h2) rfl ⟨by omega, by omega⟩ (Nat.le_of_ble_eq_true rfl) (by decide) (by decide) rfl ?_
  have hz := congrArg eI (Option.some.inj hf)
  exact r_ireturn dX11_store_23 rfl (Nat.le_of_ble_eq_true rfl) (Nat.le_of_ble_eq_true rfl) hz
set_option maxRecDepth 20000 in
theorem ok_X11_store {S : Mm} {l0 : Nat} {l1 : Int32} {l2 : Int32} {T : (Int32 × Mm)} (hf : f_X11_store S l0 l1 l2 = some T) : okc S l0 10 = true := (oif hf).1
set_option maxRecDepth 20000 in
theorem c_X11_store {G : Gt} {l : Launch} {S : Mm} {l0 : Nat} {l1 : Int32} {l2 : Int32} {T : (Int32 × Mm)} (hf : f_X11_store S l0 l1 l2 = some T) : CC G l yX11_store cX11_store 3 (some .int) 1 0 0 [.ref l0, .int l1, .int l2] S (eI T) := by
  unfold f_X11_store at hf
  replace hf := (oif hf).2
  refine r_body (by decide) rfl (Nat.le_of_ble_eq_true rfl) (by simp) ?_
  refine r_aload_n dX11_store_0 rfl ?_
  obtain ⟨x1, h2, hf⟩ := bnd hf
  refine r_getR dX11_store_1 fs11_10_10 rfl h2 ?_
  refine r_iload_n dX11_store_4 rfl ?_
  obtain ⟨q3, h4, hf⟩ := bnd hf
  refine r_callVi (st := []) (as := [.int l1]) dX11_store_5 ms_X6_hasHouse ⟨rfl, w2_142, w2_131, w2_132⟩ (ok_X6_hasHouse h4) (c_X6_hasHouse h4) rfl ⟨by omega, by omega⟩ (Nat.le_of_ble_eq_true rfl) (by decide) (by decide) rfl ?_
  refine r_if_eq (tgt := 18) dX11_store_8 (by decide) (fun c5 => ?_) (fun c5 => ?_)
  · replace hf := (if_pos c5).symm.trans hf
    refine r_lvs (lv' := [.ref l0, .null, .null]) ⟨Or.inl rfl, Or.inr rfl, Or.inr rfl, trivial⟩ ?_
    exact t_X11_store_18 _ _ _ hf
  · replace hf := (if_neg c5).symm.trans hf
    refine r_iload_n dX11_store_11 rfl ?_
    obtain ⟨q6, h7, hf⟩ := bnd hf
    refine r_callSi (st := []) (as := [.int l2]) dX11_store_12 ms_X11_isGood ⟨w2_197, w2_38⟩ (c_X11_isGood h7) rfl ⟨by omega, by omega⟩ (Nat.le_of_ble_eq_true rfl) (by decide) (by decide) rfl ?_
    refine r_if_ne (tgt := 24) dX11_store_15 (by decide) (fun c8 => ?_) (fun c8 => ?_)
    · replace hf := (if_neg c8).symm.trans hf
      refine r_aload_n dX11_store_24 rfl ?_
      obtain ⟨x9, h10, hf⟩ := bnd hf
      refine r_getR dX11_store_25 fs11_10_10 rfl h10 ?_
      refine r_iload_n dX11_store_28 rfl ?_
      refine r_iload_n dX11_store_29 rfl ?_
      obtain ⟨q11, h12, hf⟩ := bnd hf
      refine r_callVi (st := []) (as := [.int l1, .int l2]) dX11_store_30 ms_X6_piecesOf ⟨rfl, w2_198, w2_199, w2_200⟩ (ok_X6_piecesOf h12) (c_X6_piecesOf h12) rfl ⟨by omega, by omega⟩ (Nat.le_of_ble_eq_true rfl) (by decide) (by decide) rfl ?_
      have hz := congrArg eI (Option.some.inj hf)
      exact r_ireturn dX11_store_33 rfl (Nat.le_of_ble_eq_true rfl) (Nat.le_of_ble_eq_true rfl) hz
    · replace hf := (if_pos c8).symm.trans hf
      refine r_lvs (lv' := [.ref l0, .null, .null]) ⟨Or.inl rfl, Or.inr rfl, Or.inr rfl, trivial⟩ ?_
      exact t_X11_store_18 _ _ _ hf
def f_X11_price (S : Mm) (l0 : Nat) (l1 : Int32) (l2 : Int32) : Option (Int32 × Mm) := if okc S l0 10 = true then (f_X11_isGood S l1).bind fun q1 => (if q1.1 = 0 then (f_X11_refuse q1.2 l0 (-1)).bind fun q22 => some (q22.1, q22.2) else (if 1 ≤ l2 then (if l2 ≤ 9 then (gR q1.2 10 l0 0).bind fun x6 => (gR q1.2 6 x6 4).bind fun x8 => (aI q1.2 x8 l1).bind fun x10 => (gR q1.2 10 l0 0).bind fun x12 => (gR q1.2 6 x12 4).bind fun x14 => (aS q1.2 x14 l1 l2).bind fun S16 => some (x10, S16) else (f_X11_refuse q1.2 l0 (-6)).bind fun q18 => some (q18.1, q18.2)) else (f_X11_refuse q1.2 l0 (-4)).bind fun q20 => some (q20.1, q20.2))) else none
set_option maxRecDepth 20000 in
theorem ok_X11_price {S : Mm} {l0 : Nat} {l1 : Int32} {l2 : Int32} {T : (Int32 × Mm)} (hf : f_X11_price S l0 l1 l2 = some T) : okc S l0 10 = true := (oif hf).1
set_option maxRecDepth 20000 in
theorem c_X11_price {G : Gt} {l : Launch} {S : Mm} {l0 : Nat} {l1 : Int32} {l2 : Int32} {T : (Int32 × Mm)} (hf : f_X11_price S l0 l1 l2 = some T) : CC G l yX11_price cX11_price 4 (some .int) 1 0 0 [.ref l0, .int l1, .int l2] S (eI T) := by
  unfold f_X11_price at hf
  replace hf := (oif hf).2
  refine r_body (by decide) rfl (Nat.le_of_ble_eq_true rfl) (by simp) ?_
  refine r_iload_n dX11_price_0 rfl ?_
  obtain ⟨q1, h2, hf⟩ := bnd hf
  refine r_callSi (st := []) (as := [.int l1]) dX11_price_1 ms_X11_isGood ⟨w2_197, w2_38⟩ (c_X11_isGood h2) rfl ⟨by omega, by omega⟩ (Nat.le_of_ble_eq_true rfl) (by decide) (by decide) rfl ?_
  refine r_if_ne (tgt := 13) dX11_price_4 (by decide) (fun c3 => ?_) (fun c3 => ?_)
  · replace hf := (if_neg c3).symm.trans hf
    refine r_iload_n dX11_price_13 rfl ?_
    refine r_iconst (v := 1) dX11_price_14 (by decide) ?_
    refine r_icmp_ge (tgt := 25) dX11_price_15 (by decide) (fun c4 => ?_) (fun c4 => ?_)
    · replace hf := (if_pos c4).symm.trans hf
      refine r_iload_n dX11_price_25 rfl ?_
      refine r_bipush (v := 9) dX11_price_26 (by decide) ?_
      refine r_icmp_le (tgt := 38) dX11_price_28 (by decide) (fun c5 => ?_) (fun c5 => ?_)
      · replace hf := (if_pos c5).symm.trans hf
        refine r_aload_n dX11_price_38 rfl ?_
        obtain ⟨x6, h7, hf⟩ := bnd hf
        refine r_getR dX11_price_39 fs11_10_10 rfl h7 ?_
        obtain ⟨x8, h9, hf⟩ := bnd hf
        refine r_getR dX11_price_42 fs11_118_6 rfl h9 ?_
        refine r_iload_n dX11_price_45 rfl ?_
        obtain ⟨x10, h11, hf⟩ := bnd hf
        refine r_iaload dX11_price_46 h11 ?_
        refine r_istore_n (lv' := [.ref l0, .int l1, .int l2, .int x10]) dX11_price_47 (by decide) rfl rfl ?_
        refine r_aload_n dX11_price_48 rfl ?_
        obtain ⟨x12, h13, hf⟩ := bnd hf
        refine r_getR dX11_price_49 fs11_10_10 rfl h13 ?_
        obtain ⟨x14, h15, hf⟩ := bnd hf
        refine r_getR dX11_price_52 fs11_118_6 rfl h15 ?_
        refine r_iload_n dX11_price_55 rfl ?_
        refine r_iload_n dX11_price_56 rfl ?_
        obtain ⟨S16, h17, hf⟩ := bnd hf
        refine r_iastore dX11_price_57 h17 ?_
        refine r_iload_n dX11_price_58 rfl ?_
        have hz := congrArg eI (Option.some.inj hf)
        exact r_ireturn dX11_price_59 rfl (Nat.le_of_ble_eq_true rfl) (Nat.le_of_ble_eq_true rfl) hz
      · replace hf := (if_neg c5).symm.trans hf
        refine r_aload_n dX11_price_31 rfl ?_
        refine r_bipush (v := (-6)) dX11_price_32 (by decide) ?_
        obtain ⟨q18, h19, hf⟩ := bnd hf
        refine r_callVi (st := []) (as := [.int (-6)]) dX11_price_34 ms_X11_refuse ⟨rfl, w1_214, w1_216, w0_0⟩ (ok_X11_refuse h19) (c_X11_refuse h19) rfl ⟨by omega, by omega⟩ (Nat.le_of_ble_eq_true rfl) (by decide) (by decide) rfl ?_
        have hz := congrArg eI (Option.some.inj hf)
        exact r_ireturn dX11_price_37 rfl (Nat.le_of_ble_eq_true rfl) (Nat.le_of_ble_eq_true rfl) hz
    · replace hf := (if_neg c4).symm.trans hf
      refine r_aload_n dX11_price_18 rfl ?_
      refine r_bipush (v := (-4)) dX11_price_19 (by decide) ?_
      obtain ⟨q20, h21, hf⟩ := bnd hf
      refine r_callVi (st := []) (as := [.int (-4)]) dX11_price_21 ms_X11_refuse ⟨rfl, w1_214, w1_216, w0_0⟩ (ok_X11_refuse h21) (c_X11_refuse h21) rfl ⟨by omega, by omega⟩ (Nat.le_of_ble_eq_true rfl) (by decide) (by decide) rfl ?_
      have hz := congrArg eI (Option.some.inj hf)
      exact r_ireturn dX11_price_24 rfl (Nat.le_of_ble_eq_true rfl) (Nat.le_of_ble_eq_true rfl) hz
  · replace hf := (if_pos c3).symm.trans hf
    refine r_aload_n dX11_price_7 rfl ?_
    refine r_iconst (v := (-1)) dX11_price_8 (by decide) ?_
    obtain ⟨q22, h23, hf⟩ := bnd hf
    refine r_callVi (st := []) (as := [.int (-1)]) dX11_price_9 ms_X11_refuse ⟨rfl, w1_214, w1_216, w0_0⟩ (ok_X11_refuse h23) (c_X11_refuse h23) rfl ⟨by omega, by omega⟩ (Nat.le_of_ble_eq_true rfl) (by decide) (by decide) rfl ?_
    have hz := congrArg eI (Option.some.inj hf)
    exact r_ireturn dX11_price_12 rfl (Nat.le_of_ble_eq_true rfl) (Nat.le_of_ble_eq_true rfl) hz
def f_X11_law (S : Mm) (l0 : Nat) (l1 : Int32) : Option (Int32 × Mm) := if okc S l0 10 = true then (f_X11_isLaw S l1).bind fun q1 => (if q1.1 = 0 then (f_X11_refuse q1.2 l0 (-2)).bind fun q12 => some (q12.1, q12.2) else (gR q1.2 10 l0 0).bind fun x4 => (gI q1.2 6 x4 6).bind fun x6 => (gR q1.2 10 l0 0).bind fun x8 => (pI q1.2 6 x8 6 l1).bind fun S10 => some (x6, S10)) else none
set_option maxRecDepth 20000 in
theorem ok_X11_law {S : Mm} {l0 : Nat} {l1 : Int32} {T : (Int32 × Mm)} (hf : f_X11_law S l0 l1 = some T) : okc S l0 10 = true := (oif hf).1
set_option maxRecDepth 20000 in
theorem c_X11_law {G : Gt} {l : Launch} {S : Mm} {l0 : Nat} {l1 : Int32} {T : (Int32 × Mm)} (hf : f_X11_law S l0 l1 = some T) : CC G l yX11_law cX11_law 3 (some .int) 1 0 0 [.ref l0, .int l1] S (eI T) := by
  unfold f_X11_law at hf
  replace hf := (oif hf).2
  refine r_body (by decide) rfl (Nat.le_of_ble_eq_true rfl) (by simp) ?_
  refine r_iload_n dX11_law_0 rfl ?_
  obtain ⟨q1, h2, hf⟩ := bnd hf
  refine r_callSi (st := []) (as := [.int l1]) dX11_law_1 ms_X11_isLaw ⟨w2_210, w2_120⟩ (c_X11_isLaw h2) rfl ⟨by omega, by omega⟩ (Nat.le_of_ble_eq_true rfl) (by decide) (by decide) rfl ?_
  refine r_if_ne (tgt := 14) dX11_law_4 (by decide) (fun c3 => ?_) (fun c3 => ?_)
  · replace hf := (if_neg c3).symm.trans hf
    refine r_aload_n dX11_law_14 rfl ?_
    obtain ⟨x4, h5, hf⟩ := bnd hf
    refine r_getR dX11_law_15 fs11_10_10 rfl h5 ?_
    obtain ⟨x6, h7, hf⟩ := bnd hf
    refine r_getI dX11_law_18 fs11_124_6 rfl h7 ?_
    refine r_istore_n (lv' := [.ref l0, .int l1, .int x6]) dX11_law_21 (by decide) rfl rfl ?_
    refine r_aload_n dX11_law_22 rfl ?_
    obtain ⟨x8, h9, hf⟩ := bnd hf
    refine r_getR dX11_law_23 fs11_10_10 rfl h9 ?_
    refine r_iload_n dX11_law_26 rfl ?_
    obtain ⟨S10, h11, hf⟩ := bnd hf
    refine r_putI dX11_law_27 fs11_124_6 rfl h11 ?_
    refine r_iload_n dX11_law_30 rfl ?_
    have hz := congrArg eI (Option.some.inj hf)
    exact r_ireturn dX11_law_31 rfl (Nat.le_of_ble_eq_true rfl) (Nat.le_of_ble_eq_true rfl) hz
  · replace hf := (if_pos c3).symm.trans hf
    refine r_aload_n dX11_law_7 rfl ?_
    refine r_bipush (v := (-2)) dX11_law_8 (by decide) ?_
    obtain ⟨q12, h13, hf⟩ := bnd hf
    refine r_callVi (st := []) (as := [.int (-2)]) dX11_law_10 ms_X11_refuse ⟨rfl, w1_214, w1_216, w0_0⟩ (ok_X11_refuse h13) (c_X11_refuse h13) rfl ⟨by omega, by omega⟩ (Nat.le_of_ble_eq_true rfl) (by decide) (by decide) rfl ?_
    have hz := congrArg eI (Option.some.inj hf)
    exact r_ireturn dX11_law_13 rfl (Nat.le_of_ble_eq_true rfl) (Nat.le_of_ble_eq_true rfl) hz
def f_X11_lawful_35 (S : Mm) (s0 : Int32) : Option (Int32 × Mm) := some (s0, S)
def f_X11_lawful (S : Mm) (l0 : Nat) (l1 : Int32) (l2 : Int32) : Option (Int32 × Mm) := if okc S l0 10 = true then (gR S 10 l0 0).bind fun x1 => (f_X6_areTwo S x1 l1 l2).bind fun q3 => (if q3.1 = 0 then (f_X11_refuse q3.2 l0 (-1)).bind fun q11 => some (q11.1, q11.2) else (gR q3.2 10 l0 0).bind fun x6 => (f_X6_isLawful q3.2 x6 l1 l2).bind fun q8 => (if q8.1 = 0 then f_X11_lawful_35 q8.2 0 else f_X11_lawful_35 q8.2 1)) else none
set_option maxRecDepth 20000 in
theorem t_X11_lawful_35 {G : Gt} {l : Launch} (S : Mm) (s0 : Int32) (T : (Int32 × Mm)) (hf : f_X11_lawful_35 S s0 = some T) : Sat G l yX11_lawful cX11_lawful 3 (some .int) 2 0 0 0 0 35 [.null, .null, .null] [.int s0] S (eI T) := by
  unfold f_X11_lawful_35 at hf
  have hz := congrArg eI (Option.some.inj hf)
  exact r_ireturn dX11_lawful_35 rfl (Nat.le_of_ble_eq_true rfl) (Nat.le_of_ble_eq_true rfl) hz
set_option maxRecDepth 20000 in
theorem ok_X11_lawful {S : Mm} {l0 : Nat} {l1 : Int32} {l2 : Int32} {T : (Int32 × Mm)} (hf : f_X11_lawful S l0 l1 l2 = some T) : okc S l0 10 = true := (oif hf).1
set_option maxRecDepth 20000 in
theorem c_X11_lawful {G : Gt} {l : Launch} {S : Mm} {l0 : Nat} {l1 : Int32} {l2 : Int32} {T : (Int32 × Mm)} (hf : f_X11_lawful S l0 l1 l2 = some T) : CC G l yX11_lawful cX11_lawful 3 (some .int) 2 0 0 [.ref l0, .int l1, .int l2] S (eI T) := by
  unfold f_X11_lawful at hf
  replace hf := (oif hf).2
  refine r_body (by decide) rfl (Nat.le_of_ble_eq_true rfl) (by simp) ?_
  refine r_aload_n dX11_lawful_0 rfl ?_
  obtain ⟨x1, h2, hf⟩ := bnd hf
  refine r_getR dX11_lawful_1 fs11_10_10 rfl h2 ?_
  refine r_iload_n dX11_lawful_4 rfl ?_
  refine r_iload_n dX11_lawful_5 rfl ?_
  obtain ⟨q3, h4, hf⟩ := bnd hf
  refine r_callVi (st := []) (as := [.int l1, .int l2]) dX11_lawful_6 ms_X6_areTwo ⟨rfl, w2_215, w2_127, w2_128⟩ (ok_X6_areTwo h4) (c_X6_areTwo h4) rfl ⟨by omega, by omega⟩ (Nat.le_of_ble_eq_true rfl) (by decide) (by decide) rfl ?_
  refine r_if_ne (tgt := 18) dX11_lawful_9 (by decide) (fun c5 => ?_) (fun c5 => ?_)
  · replace hf := (if_neg c5).symm.trans hf
    refine r_aload_n dX11_lawful_18 rfl ?_
    obtain ⟨x6, h7, hf⟩ := bnd hf
    refine r_getR dX11_lawful_19 fs11_10_10 rfl h7 ?_
    refine r_iload_n dX11_lawful_22 rfl ?_
    refine r_iload_n dX11_lawful_23 rfl ?_
    obtain ⟨q8, h9, hf⟩ := bnd hf
    refine r_callVi (st := []) (as := [.int l1, .int l2]) dX11_lawful_24 ms_X6_isLawful ⟨rfl, w2_216, w2_217, w2_218⟩ (ok_X6_isLawful h9) (c_X6_isLawful h9) rfl ⟨by omega, by omega⟩ (Nat.le_of_ble_eq_true rfl) (by decide) (by decide) rfl ?_
    refine r_if_eq (tgt := 34) dX11_lawful_27 (by decide) (fun c10 => ?_) (fun c10 => ?_)
    · replace hf := (if_pos c10).symm.trans hf
      refine r_iconst (v := 0) dX11_lawful_34 (by decide) ?_
      refine r_lvs (lv' := [.null, .null, .null]) ⟨Or.inr rfl, Or.inr rfl, Or.inr rfl, trivial⟩ ?_
      exact t_X11_lawful_35 _ _ _ hf
    · replace hf := (if_neg c10).symm.trans hf
      refine r_iconst (v := 1) dX11_lawful_30 (by decide) ?_
      refine r_goto (tgt := 35) dX11_lawful_31 (by decide) ?_
      refine r_lvs (lv' := [.null, .null, .null]) ⟨Or.inr rfl, Or.inr rfl, Or.inr rfl, trivial⟩ ?_
      exact t_X11_lawful_35 _ _ _ hf
  · replace hf := (if_pos c5).symm.trans hf
    refine r_aload_n dX11_lawful_12 rfl ?_
    refine r_iconst (v := (-1)) dX11_lawful_13 (by decide) ?_
    obtain ⟨q11, h12, hf⟩ := bnd hf
    refine r_callVi (st := []) (as := [.int (-1)]) dX11_lawful_14 ms_X11_refuse ⟨rfl, w1_214, w1_216, w0_0⟩ (ok_X11_refuse h12) (c_X11_refuse h12) rfl ⟨by omega, by omega⟩ (Nat.le_of_ble_eq_true rfl) (by decide) (by decide) rfl ?_
    have hz := congrArg eI (Option.some.inj hf)
    exact r_ireturn dX11_lawful_17 rfl (Nat.le_of_ble_eq_true rfl) (Nat.le_of_ble_eq_true rfl) hz
def f_X11_count (S : Mm) (l0 : Nat) (l1 : Int32) : Option (Int32 × Mm) := if okc S l0 10 = true then (if l1 = 0 then (gR S 10 l0 0).bind fun x18 => (gI S 6 x18 1).bind fun x20 => some (x20, S) else (if l1 = 1 then (gR S 10 l0 0).bind fun x22 => (gI S 6 x22 7).bind fun x24 => some (x24, S) else (if l1 = 2 then (gR S 10 l0 0).bind fun x26 => (gI S 6 x26 6).bind fun x28 => some (x28, S) else (if l1 = 3 then (gR S 10 l0 0).bind fun x30 => (gR S 6 x30 2).bind fun x32 => (f_X11_sumOf S x32).bind fun q34 => some (q34.1, q34.2) else (if l1 = 4 then (gR S 10 l0 0).bind fun x36 => (gR S 6 x36 3).bind fun x38 => (f_X11_sumOf S x38).bind fun q40 => some (q40.1, q40.2) else (if l1 = 5 then (gR S 10 l0 0).bind fun x42 => (gR S 6 x42 5).bind fun x44 => (f_X1_total S x44).bind fun q46 => some (q46.1, q46.2) else (if l1 = 6 then (gR S 10 l0 6).bind fun x48 => (gI S 7 x48 1).bind fun x50 => some (x50, S) else (if l1 = 7 then (gI S 10 l0 8).bind fun x52 => some (x52, S) else (if l1 = 8 then (gR S 10 l0 0).bind fun x54 => (gI S 6 x54 8).bind fun x56 => (gR S 10 l0 0).bind fun x58 => (gI S 6 x58 7).bind fun x60 => some ((mxI 0 (x56 - x60)), S) else (if l1 = 9 then some ((-9), S) else (if l1 = 10 then some ((-9), S) else (if l1 = 11 then (gR S 10 l0 9).bind fun x62 => (aI S x62 (l1 - 10)).bind fun x64 => some (x64, S) else (if l1 = 12 then (gR S 10 l0 9).bind fun x66 => (aI S x66 (l1 - 10)).bind fun x68 => some (x68, S) else (if l1 = 13 then (gR S 10 l0 9).bind fun x70 => (aI S x70 (l1 - 10)).bind fun x72 => some (x72, S) else (if l1 = 14 then (gR S 10 l0 9).bind fun x74 => (aI S x74 (l1 - 10)).bind fun x76 => some (x76, S) else (if l1 = 15 then (gR S 10 l0 9).bind fun x78 => (aI S x78 (l1 - 10)).bind fun x80 => some (x80, S) else (if l1 = 16 then (gR S 10 l0 9).bind fun x82 => (aI S x82 (l1 - 10)).bind fun x84 => some (x84, S) else some ((-9), S)))))))))))))))))) else none
set_option maxRecDepth 20000 in
theorem ok_X11_count {S : Mm} {l0 : Nat} {l1 : Int32} {T : (Int32 × Mm)} (hf : f_X11_count S l0 l1 = some T) : okc S l0 10 = true := (oif hf).1
set_option maxRecDepth 20000 in
theorem c_X11_count {G : Gt} {l : Launch} {S : Mm} {l0 : Nat} {l1 : Int32} {T : (Int32 × Mm)} (hf : f_X11_count S l0 l1 = some T) : CC G l yX11_count cX11_count 2 (some .int) 2 0 0 [.ref l0, .int l1] S (eI T) := by
  unfold f_X11_count at hf
  replace hf := (oif hf).2
  refine r_body (by decide) rfl (Nat.le_of_ble_eq_true rfl) (by simp) ?_
  refine r_iload_n dX11_count_0 rfl ?_
  by_cases c1 : l1 = 0
  · replace hf := (if_pos c1).symm.trans hf
    refine r_tsIn (k := 0) (tgt := 84) dX11_count_1 c1 (by decide) (by decide) (by rfl) (by decide) ?_
    refine r_aload_n dX11_count_84 rfl ?_
    obtain ⟨x18, h19, hf⟩ := bnd hf
    refine r_getR dX11_count_85 fs11_10_10 rfl h19 ?_
    obtain ⟨x20, h21, hf⟩ := bnd hf
    refine r_getI dX11_count_88 fs11_134_6 rfl h21 ?_
    have hz := congrArg eI (Option.some.inj hf)
    exact r_ireturn dX11_count_91 rfl (Nat.le_of_ble_eq_true rfl) (Nat.le_of_ble_eq_true rfl) hz
  replace hf := (if_neg c1).symm.trans hf
  by_cases c2 : l1 = 1
  · replace hf := (if_pos c2).symm.trans hf
    refine r_tsIn (k := 1) (tgt := 92) dX11_count_1 c2 (by decide) (by decide) (by rfl) (by decide) ?_
    refine r_aload_n dX11_count_92 rfl ?_
    obtain ⟨x22, h23, hf⟩ := bnd hf
    refine r_getR dX11_count_93 fs11_10_10 rfl h23 ?_
    obtain ⟨x24, h25, hf⟩ := bnd hf
    refine r_getI dX11_count_96 fs11_135_6 rfl h25 ?_
    have hz := congrArg eI (Option.some.inj hf)
    exact r_ireturn dX11_count_99 rfl (Nat.le_of_ble_eq_true rfl) (Nat.le_of_ble_eq_true rfl) hz
  replace hf := (if_neg c2).symm.trans hf
  by_cases c3 : l1 = 2
  · replace hf := (if_pos c3).symm.trans hf
    refine r_tsIn (k := 2) (tgt := 100) dX11_count_1 c3 (by decide) (by decide) (by rfl) (by decide) ?_
    refine r_aload_n dX11_count_100 rfl ?_
    obtain ⟨x26, h27, hf⟩ := bnd hf
    refine r_getR dX11_count_101 fs11_10_10 rfl h27 ?_
    obtain ⟨x28, h29, hf⟩ := bnd hf
    refine r_getI dX11_count_104 fs11_124_6 rfl h29 ?_
    have hz := congrArg eI (Option.some.inj hf)
    exact r_ireturn dX11_count_107 rfl (Nat.le_of_ble_eq_true rfl) (Nat.le_of_ble_eq_true rfl) hz
  replace hf := (if_neg c3).symm.trans hf
  by_cases c4 : l1 = 3
  · replace hf := (if_pos c4).symm.trans hf
    refine r_tsIn (k := 3) (tgt := 108) dX11_count_1 c4 (by decide) (by decide) (by rfl) (by decide) ?_
    refine r_aload_n dX11_count_108 rfl ?_
    obtain ⟨x30, h31, hf⟩ := bnd hf
    refine r_getR dX11_count_109 fs11_10_10 rfl h31 ?_
    obtain ⟨x32, h33, hf⟩ := bnd hf
    refine r_getR dX11_count_112 fs11_108_6 rfl h33 ?_
    obtain ⟨q34, h35, hf⟩ := bnd hf
    refine r_callSi (st := []) (as := [.ref x32]) dX11_count_115 ms_X11_sumOf ⟨w2_226, w2_227⟩ (c_X11_sumOf h35) rfl ⟨by omega, by omega⟩ (Nat.le_of_ble_eq_true rfl) (by decide) (by decide) rfl ?_
    have hz := congrArg eI (Option.some.inj hf)
    exact r_ireturn dX11_count_118 rfl (Nat.le_of_ble_eq_true rfl) (Nat.le_of_ble_eq_true rfl) hz
  replace hf := (if_neg c4).symm.trans hf
  by_cases c5 : l1 = 4
  · replace hf := (if_pos c5).symm.trans hf
    refine r_tsIn (k := 4) (tgt := 119) dX11_count_1 c5 (by decide) (by decide) (by rfl) (by decide) ?_
    refine r_aload_n dX11_count_119 rfl ?_
    obtain ⟨x36, h37, hf⟩ := bnd hf
    refine r_getR dX11_count_120 fs11_10_10 rfl h37 ?_
    obtain ⟨x38, h39, hf⟩ := bnd hf
    refine r_getR dX11_count_123 fs11_142_6 rfl h39 ?_
    obtain ⟨q40, h41, hf⟩ := bnd hf
    refine r_callSi (st := []) (as := [.ref x38]) dX11_count_126 ms_X11_sumOf ⟨w2_226, w2_227⟩ (c_X11_sumOf h41) rfl ⟨by omega, by omega⟩ (Nat.le_of_ble_eq_true rfl) (by decide) (by decide) rfl ?_
    have hz := congrArg eI (Option.some.inj hf)
    exact r_ireturn dX11_count_129 rfl (Nat.le_of_ble_eq_true rfl) (Nat.le_of_ble_eq_true rfl) hz
  replace hf := (if_neg c5).symm.trans hf
  by_cases c6 : l1 = 5
  · replace hf := (if_pos c6).symm.trans hf
    refine r_tsIn (k := 5) (tgt := 130) dX11_count_1 c6 (by decide) (by decide) (by rfl) (by decide) ?_
    refine r_aload_n dX11_count_130 rfl ?_
    obtain ⟨x42, h43, hf⟩ := bnd hf
    refine r_getR dX11_count_131 fs11_10_10 rfl h43 ?_
    obtain ⟨x44, h45, hf⟩ := bnd hf
    refine r_getR dX11_count_134 fs11_145_6 rfl h45 ?_
    obtain ⟨q46, h47, hf⟩ := bnd hf
    refine r_callVi (st := []) (as := []) dX11_count_137 ms_X1_total ⟨rfl, w2_229, w2_230, w2_231⟩ (ok_X1_total h47) (c_X1_total h47) rfl ⟨by omega, by omega⟩ (Nat.le_of_ble_eq_true rfl) (by decide) (by decide) rfl ?_
    have hz := congrArg eI (Option.some.inj hf)
    exact r_ireturn dX11_count_140 rfl (Nat.le_of_ble_eq_true rfl) (Nat.le_of_ble_eq_true rfl) hz
  replace hf := (if_neg c6).symm.trans hf
  by_cases c7 : l1 = 6
  · replace hf := (if_pos c7).symm.trans hf
    refine r_tsIn (k := 6) (tgt := 141) dX11_count_1 c7 (by decide) (by decide) (by rfl) (by decide) ?_
    refine r_aload_n dX11_count_141 rfl ?_
    obtain ⟨x48, h49, hf⟩ := bnd hf
    refine r_getR dX11_count_142 fs11_35_10 rfl h49 ?_
    obtain ⟨x50, h51, hf⟩ := bnd hf
    refine r_getI dX11_count_145 fs11_58_7 rfl h51 ?_
    have hz := congrArg eI (Option.some.inj hf)
    exact r_ireturn dX11_count_148 rfl (Nat.le_of_ble_eq_true rfl) (Nat.le_of_ble_eq_true rfl) hz
  replace hf := (if_neg c7).symm.trans hf
  by_cases c8 : l1 = 7
  · replace hf := (if_pos c8).symm.trans hf
    refine r_tsIn (k := 7) (tgt := 149) dX11_count_1 c8 (by decide) (by decide) (by rfl) (by decide) ?_
    refine r_aload_n dX11_count_149 rfl ?_
    obtain ⟨x52, h53, hf⟩ := bnd hf
    refine r_getI dX11_count_150 fs11_154_10 rfl h53 ?_
    have hz := congrArg eI (Option.some.inj hf)
    exact r_ireturn dX11_count_153 rfl (Nat.le_of_ble_eq_true rfl) (Nat.le_of_ble_eq_true rfl) hz
  replace hf := (if_neg c8).symm.trans hf
  by_cases c9 : l1 = 8
  · replace hf := (if_pos c9).symm.trans hf
    refine r_tsIn (k := 8) (tgt := 154) dX11_count_1 c9 (by decide) (by decide) (by rfl) (by decide) ?_
    refine r_iconst (v := 0) dX11_count_154 (by decide) ?_
    refine r_aload_n dX11_count_155 rfl ?_
    obtain ⟨x54, h55, hf⟩ := bnd hf
    refine r_getR dX11_count_156 fs11_10_10 rfl h55 ?_
    obtain ⟨x56, h57, hf⟩ := bnd hf
    refine r_getI dX11_count_159 fs11_157_6 rfl h57 ?_
    refine r_aload_n dX11_count_162 rfl ?_
    obtain ⟨x58, h59, hf⟩ := bnd hf
    refine r_getR dX11_count_163 fs11_10_10 rfl h59 ?_
    obtain ⟨x60, h61, hf⟩ := bnd hf
    refine r_getI dX11_count_166 fs11_135_6 rfl h61 ?_
    refine r_isub dX11_count_169 ?_
    refine r_max dX11_count_170 wkmax_11160 (by decide) (Nat.le_of_ble_eq_true rfl) (by decide) (by decide) ?_
    have hz := congrArg eI (Option.some.inj hf)
    exact r_ireturn dX11_count_173 rfl (Nat.le_of_ble_eq_true rfl) (Nat.le_of_ble_eq_true rfl) hz
  replace hf := (if_neg c9).symm.trans hf
  by_cases c10 : l1 = 9
  · replace hf := (if_pos c10).symm.trans hf
    refine r_tsIn (k := 9) (tgt := 184) dX11_count_1 c10 (by decide) (by decide) (by rfl) (by decide) ?_
    refine r_bipush (v := (-9)) dX11_count_184 (by decide) ?_
    have hz := congrArg eI (Option.some.inj hf)
    exact r_ireturn dX11_count_186 rfl (Nat.le_of_ble_eq_true rfl) (Nat.le_of_ble_eq_true rfl) hz
  replace hf := (if_neg c10).symm.trans hf
  by_cases c11 : l1 = 10
  · replace hf := (if_pos c11).symm.trans hf
    refine r_tsIn (k := 10) (tgt := 184) dX11_count_1 c11 (by decide) (by decide) (by rfl) (by decide) ?_
    refine r_bipush (v := (-9)) dX11_count_184 (by decide) ?_
    have hz := congrArg eI (Option.some.inj hf)
    exact r_ireturn dX11_count_186 rfl (Nat.le_of_ble_eq_true rfl) (Nat.le_of_ble_eq_true rfl) hz
  replace hf := (if_neg c11).symm.trans hf
  by_cases c12 : l1 = 11
  · replace hf := (if_pos c12).symm.trans hf
    refine r_tsIn (k := 11) (tgt := 174) dX11_count_1 c12 (by decide) (by decide) (by rfl) (by decide) ?_
    refine r_aload_n dX11_count_174 rfl ?_
    obtain ⟨x62, h63, hf⟩ := bnd hf
    refine r_getR dX11_count_175 fs11_43_10 rfl h63 ?_
    refine r_iload_n dX11_count_178 rfl ?_
    refine r_bipush (v := 10) dX11_count_179 (by decide) ?_
    refine r_isub dX11_count_181 ?_
    obtain ⟨x64, h65, hf⟩ := bnd hf
    refine r_iaload dX11_count_182 h65 ?_
    have hz := congrArg eI (Option.some.inj hf)
    exact r_ireturn dX11_count_183 rfl (Nat.le_of_ble_eq_true rfl) (Nat.le_of_ble_eq_true rfl) hz
  replace hf := (if_neg c12).symm.trans hf
  by_cases c13 : l1 = 12
  · replace hf := (if_pos c13).symm.trans hf
    refine r_tsIn (k := 12) (tgt := 174) dX11_count_1 c13 (by decide) (by decide) (by rfl) (by decide) ?_
    refine r_aload_n dX11_count_174 rfl ?_
    obtain ⟨x66, h67, hf⟩ := bnd hf
    refine r_getR dX11_count_175 fs11_43_10 rfl h67 ?_
    refine r_iload_n dX11_count_178 rfl ?_
    refine r_bipush (v := 10) dX11_count_179 (by decide) ?_
    refine r_isub dX11_count_181 ?_
    obtain ⟨x68, h69, hf⟩ := bnd hf
    refine r_iaload dX11_count_182 h69 ?_
    have hz := congrArg eI (Option.some.inj hf)
    exact r_ireturn dX11_count_183 rfl (Nat.le_of_ble_eq_true rfl) (Nat.le_of_ble_eq_true rfl) hz
  replace hf := (if_neg c13).symm.trans hf
  by_cases c14 : l1 = 13
  · replace hf := (if_pos c14).symm.trans hf
    refine r_tsIn (k := 13) (tgt := 174) dX11_count_1 c14 (by decide) (by decide) (by rfl) (by decide) ?_
    refine r_aload_n dX11_count_174 rfl ?_
    obtain ⟨x70, h71, hf⟩ := bnd hf
    refine r_getR dX11_count_175 fs11_43_10 rfl h71 ?_
    refine r_iload_n dX11_count_178 rfl ?_
    refine r_bipush (v := 10) dX11_count_179 (by decide) ?_
    refine r_isub dX11_count_181 ?_
    obtain ⟨x72, h73, hf⟩ := bnd hf
    refine r_iaload dX11_count_182 h73 ?_
    have hz := congrArg eI (Option.some.inj hf)
    exact r_ireturn dX11_count_183 rfl (Nat.le_of_ble_eq_true rfl) (Nat.le_of_ble_eq_true rfl) hz
  replace hf := (if_neg c14).symm.trans hf
  by_cases c15 : l1 = 14
  · replace hf := (if_pos c15).symm.trans hf
    refine r_tsIn (k := 14) (tgt := 174) dX11_count_1 c15 (by decide) (by decide) (by rfl) (by decide) ?_
    refine r_aload_n dX11_count_174 rfl ?_
    obtain ⟨x74, h75, hf⟩ := bnd hf
    refine r_getR dX11_count_175 fs11_43_10 rfl h75 ?_
    refine r_iload_n dX11_count_178 rfl ?_
    refine r_bipush (v := 10) dX11_count_179 (by decide) ?_
    refine r_isub dX11_count_181 ?_
    obtain ⟨x76, h77, hf⟩ := bnd hf
    refine r_iaload dX11_count_182 h77 ?_
    have hz := congrArg eI (Option.some.inj hf)
    exact r_ireturn dX11_count_183 rfl (Nat.le_of_ble_eq_true rfl) (Nat.le_of_ble_eq_true rfl) hz
  replace hf := (if_neg c15).symm.trans hf
  by_cases c16 : l1 = 15
  · replace hf := (if_pos c16).symm.trans hf
    refine r_tsIn (k := 15) (tgt := 174) dX11_count_1 c16 (by decide) (by decide) (by rfl) (by decide) ?_
    refine r_aload_n dX11_count_174 rfl ?_
    obtain ⟨x78, h79, hf⟩ := bnd hf
    refine r_getR dX11_count_175 fs11_43_10 rfl h79 ?_
    refine r_iload_n dX11_count_178 rfl ?_
    refine r_bipush (v := 10) dX11_count_179 (by decide) ?_
    refine r_isub dX11_count_181 ?_
    obtain ⟨x80, h81, hf⟩ := bnd hf
    refine r_iaload dX11_count_182 h81 ?_
    have hz := congrArg eI (Option.some.inj hf)
    exact r_ireturn dX11_count_183 rfl (Nat.le_of_ble_eq_true rfl) (Nat.le_of_ble_eq_true rfl) hz
  replace hf := (if_neg c16).symm.trans hf
  by_cases c17 : l1 = 16
  · replace hf := (if_pos c17).symm.trans hf
    refine r_tsIn (k := 16) (tgt := 174) dX11_count_1 c17 (by decide) (by decide) (by rfl) (by decide) ?_
    refine r_aload_n dX11_count_174 rfl ?_
    obtain ⟨x82, h83, hf⟩ := bnd hf
    refine r_getR dX11_count_175 fs11_43_10 rfl h83 ?_
    refine r_iload_n dX11_count_178 rfl ?_
    refine r_bipush (v := 10) dX11_count_179 (by decide) ?_
    refine r_isub dX11_count_181 ?_
    obtain ⟨x84, h85, hf⟩ := bnd hf
    refine r_iaload dX11_count_182 h85 ?_
    have hz := congrArg eI (Option.some.inj hf)
    exact r_ireturn dX11_count_183 rfl (Nat.le_of_ble_eq_true rfl) (Nat.le_of_ble_eq_true rfl) hz
  replace hf := (if_neg c17).symm.trans hf
  refine r_tsOut (ks := [0, 1, 2, 3, 4, 5, 6, 7, 8, 9, 10, 11, 12, 13, 14, 15, 16]) (n := 17) (tgt := 184) dX11_count_1 (by decide) (by decide) (by simp only [List.mem_cons, List.not_mem_nil, or_false, not_or]; exact ⟨c1, c2, c3, c4, c5, c6, c7, c8, c9, c10, c11, c12, c13, c14, c15, c16, c17⟩) (by decide) ?_
  refine r_bipush (v := (-9)) dX11_count_184 (by decide) ?_
  have hz := congrArg eI (Option.some.inj hf)
  exact r_ireturn dX11_count_186 rfl (Nat.le_of_ble_eq_true rfl) (Nat.le_of_ble_eq_true rfl) hz
def f_X11_sale_19 (S : Mm) (l0 : Nat) : Option (Int32 × Mm) := (f_X11_refuse S l0 (-1)).bind fun q1 => some (q1.1, q1.2)
def f_X11_sale (S : Mm) (l0 : Nat) (l1 : Int32) (l2 : Int32) (l3 : Int32) : Option (Int32 × Mm) := if okc S l0 10 = true then (gR S 10 l0 0).bind fun x1 => (f_X6_areTwo S x1 l1 l2).bind fun q3 => (if q3.1 = 0 then f_X11_sale_19 q3.2 l0 else (f_X11_isGood q3.2 l3).bind fun q6 => (if q6.1 = 0 then f_X11_sale_19 q6.2 l0 else (gR q6.2 10 l0 0).bind fun x9 => (f_X6_trySale q6.2 x9 l1 l2 l3).bind fun q11 => (if q11.1 = 0 then (f_X11_refuse q11.2 l0 (-3)).bind fun q20 => some (q20.1, q20.2) else (gR q11.2 10 l0 0).bind fun x14 => (gR q11.2 6 x14 2).bind fun x16 => (aI q11.2 x16 l2).bind fun x18 => some (x18, q11.2)))) else none
set_option maxRecDepth 20000 in
theorem t_X11_sale_19 {G : Gt} {l : Launch} (S : Mm) (l0 : Nat) (T : (Int32 × Mm)) (hf : f_X11_sale_19 S l0 = some T) : Sat G l yX11_sale cX11_sale 4 (some .int) 3 0 0 0 0 19 [.ref l0, .null, .null, .null] [] S (eI T) := by
  unfold f_X11_sale_19 at hf
  refine r_aload_n dX11_sale_19 rfl ?_
  refine r_iconst (v := (-1)) dX11_sale_20 (by decide) ?_
  obtain ⟨q1, h2, hf⟩ := bnd hf
  refine r_callVi (st := []) (as := [.int (-1)]) dX11_sale_21 ms_X11_refuse ⟨rfl, w1_214, w1_216, w0_0⟩ (ok_X11_refuse h2) (c_X11_refuse h2) rfl ⟨by omega, by omega⟩ (Nat.le_of_ble_eq_true rfl) (by decide) (by decide) rfl ?_
  have hz := congrArg eI (Option.some.inj hf)
  exact r_ireturn dX11_sale_24 rfl (Nat.le_of_ble_eq_true rfl) (Nat.le_of_ble_eq_true rfl) hz
set_option maxRecDepth 20000 in
theorem ok_X11_sale {S : Mm} {l0 : Nat} {l1 : Int32} {l2 : Int32} {l3 : Int32} {T : (Int32 × Mm)} (hf : f_X11_sale S l0 l1 l2 l3 = some T) : okc S l0 10 = true := (oif hf).1
set_option maxRecDepth 20000 in
theorem c_X11_sale {G : Gt} {l : Launch} {S : Mm} {l0 : Nat} {l1 : Int32} {l2 : Int32} {l3 : Int32} {T : (Int32 × Mm)} (hf : f_X11_sale S l0 l1 l2 l3 = some T) : CC G l yX11_sale cX11_sale 4 (some .int) 3 0 0 [.ref l0, .int l1, .int l2, .int l3] S (eI T) := by
  unfold f_X11_sale at hf
  replace hf := (oif hf).2
  refine r_body (by decide) rfl (Nat.le_of_ble_eq_true rfl) (by simp) ?_
  refine r_aload_n dX11_sale_0 rfl ?_
  obtain ⟨x1, h2, hf⟩ := bnd hf
  refine r_getR dX11_sale_1 fs11_10_10 rfl h2 ?_
  refine r_iload_n dX11_sale_4 rfl ?_
  refine r_iload_n dX11_sale_5 rfl ?_
  obtain ⟨q3, h4, hf⟩ := bnd hf
  refine r_callVi (st := []) (as := [.int l1, .int l2]) dX11_sale_6 ms_X6_areTwo ⟨rfl, w2_215, w2_127, w2_128⟩ (ok_X6_areTwo h4) (c_X6_areTwo h4) rfl ⟨by omega, by omega⟩ (Nat.le_of_ble_eq_true rfl) (by decide) (by decide) rfl ?_
  refine r_if_eq (tgt := 19) dX11_sale_9 (by decide) (fun c5 => ?_) (fun c5 => ?_)
  · replace hf := (if_pos c5).symm.trans hf
    refine r_lvs (lv' := [.ref l0, .null, .null, .null]) ⟨Or.inl rfl, Or.inr rfl, Or.inr rfl, Or.inr rfl, trivial⟩ ?_
    exact t_X11_sale_19 _ _ _ hf
  · replace hf := (if_neg c5).symm.trans hf
    refine r_iload_n dX11_sale_12 rfl ?_
    obtain ⟨q6, h7, hf⟩ := bnd hf
    refine r_callSi (st := []) (as := [.int l3]) dX11_sale_13 ms_X11_isGood ⟨w2_197, w2_38⟩ (c_X11_isGood h7) rfl ⟨by omega, by omega⟩ (Nat.le_of_ble_eq_true rfl) (by decide) (by decide) rfl ?_
    refine r_if_ne (tgt := 25) dX11_sale_16 (by decide) (fun c8 => ?_) (fun c8 => ?_)
    · replace hf := (if_neg c8).symm.trans hf
      refine r_aload_n dX11_sale_25 rfl ?_
      obtain ⟨x9, h10, hf⟩ := bnd hf
      refine r_getR dX11_sale_26 fs11_10_10 rfl h10 ?_
      refine r_iload_n dX11_sale_29 rfl ?_
      refine r_iload_n dX11_sale_30 rfl ?_
      refine r_iload_n dX11_sale_31 rfl ?_
      obtain ⟨q11, h12, hf⟩ := bnd hf
      refine r_callVi (st := []) (as := [.int l1, .int l2, .int l3]) dX11_sale_32 ms_X6_trySale ⟨rfl, w3_1, w3_2, w3_3⟩ (ok_X6_trySale h12) (c_X6_trySale h12) rfl ⟨by omega, by omega⟩ (Nat.le_of_ble_eq_true rfl) (by decide) (by decide) rfl ?_
      refine r_if_ne (tgt := 45) dX11_sale_35 (by decide) (fun c13 => ?_) (fun c13 => ?_)
      · replace hf := (if_neg c13).symm.trans hf
        refine r_aload_n dX11_sale_45 rfl ?_
        obtain ⟨x14, h15, hf⟩ := bnd hf
        refine r_getR dX11_sale_46 fs11_10_10 rfl h15 ?_
        obtain ⟨x16, h17, hf⟩ := bnd hf
        refine r_getR dX11_sale_49 fs11_108_6 rfl h17 ?_
        refine r_iload_n dX11_sale_52 rfl ?_
        obtain ⟨x18, h19, hf⟩ := bnd hf
        refine r_iaload dX11_sale_53 h19 ?_
        have hz := congrArg eI (Option.some.inj hf)
        exact r_ireturn dX11_sale_54 rfl (Nat.le_of_ble_eq_true rfl) (Nat.le_of_ble_eq_true rfl) hz
      · replace hf := (if_pos c13).symm.trans hf
        refine r_aload_n dX11_sale_38 rfl ?_
        refine r_bipush (v := (-3)) dX11_sale_39 (by decide) ?_
        obtain ⟨q20, h21, hf⟩ := bnd hf
        refine r_callVi (st := []) (as := [.int (-3)]) dX11_sale_41 ms_X11_refuse ⟨rfl, w1_214, w1_216, w0_0⟩ (ok_X11_refuse h21) (c_X11_refuse h21) rfl ⟨by omega, by omega⟩ (Nat.le_of_ble_eq_true rfl) (by decide) (by decide) rfl ?_
        have hz := congrArg eI (Option.some.inj hf)
        exact r_ireturn dX11_sale_44 rfl (Nat.le_of_ble_eq_true rfl) (Nat.le_of_ble_eq_true rfl) hz
    · replace hf := (if_pos c8).symm.trans hf
      refine r_lvs (lv' := [.ref l0, .null, .null, .null]) ⟨Or.inl rfl, Or.inr rfl, Or.inr rfl, Or.inr rfl, trivial⟩ ?_
      exact t_X11_sale_19 _ _ _ hf
def f_X11_week (S : Mm) (l0 : Nat) : Option (Int32 × Mm) := if okc S l0 10 = true then (gR S 10 l0 0).bind fun x1 => (gI S 6 x1 7).bind fun x3 => (if x3 < 9999 then (gR S 10 l0 4).bind fun x6 => (f_X9_clear S x6).bind fun q8 => (gR q8 10 l0 0).bind fun x10 => (gR q8 10 l0 4).bind fun x12 => (f_X6_passWeek q8 x10 x12).bind fun q14 => (gR q14 10 l0 4).bind fun x16 => (gI q14 9 x16 0).bind fun x18 => some (x18, q14) else (f_X11_refuse S l0 (-6)).bind fun q20 => some (q20.1, q20.2)) else none
set_option maxRecDepth 20000 in
theorem ok_X11_week {S : Mm} {l0 : Nat} {T : (Int32 × Mm)} (hf : f_X11_week S l0 = some T) : okc S l0 10 = true := (oif hf).1
set_option maxRecDepth 20000 in
theorem c_X11_week {G : Gt} {l : Launch} {S : Mm} {l0 : Nat} {T : (Int32 × Mm)} (hf : f_X11_week S l0 = some T) : CC G l yX11_week cX11_week 1 (some .int) 5 0 0 [.ref l0] S (eI T) := by
  unfold f_X11_week at hf
  replace hf := (oif hf).2
  refine r_body (by decide) rfl (Nat.le_of_ble_eq_true rfl) (by simp) ?_
  refine r_aload_n dX11_week_0 rfl ?_
  obtain ⟨x1, h2, hf⟩ := bnd hf
  refine r_getR dX11_week_1 fs11_10_10 rfl h2 ?_
  obtain ⟨x3, h4, hf⟩ := bnd hf
  refine r_getI dX11_week_4 fs11_135_6 rfl h4 ?_
  refine r_sipush (v := 9999) dX11_week_7 (by decide) ?_
  refine r_icmp_lt (tgt := 20) dX11_week_10 (by decide) (fun c5 => ?_) (fun c5 => ?_)
  · replace hf := (if_pos c5).symm.trans hf
    refine r_aload_n dX11_week_20 rfl ?_
    obtain ⟨x6, h7, hf⟩ := bnd hf
    refine r_getR dX11_week_21 fs11_25_10 rfl h7 ?_
    obtain ⟨q8, h9, hf⟩ := bnd hf
    refine r_callVv (st := []) (as := []) dX11_week_24 ms_X9_clear ⟨rfl, w3_25, w3_26, w3_27⟩ (ok_X9_clear h9) (c_X9_clear h9) rfl ⟨by omega, by omega⟩ (Nat.le_of_ble_eq_true rfl) (by decide) (by decide) rfl ?_
    refine r_aload_n dX11_week_27 rfl ?_
    obtain ⟨x10, h11, hf⟩ := bnd hf
    refine r_getR dX11_week_28 fs11_10_10 rfl h11 ?_
    refine r_aload_n dX11_week_31 rfl ?_
    obtain ⟨x12, h13, hf⟩ := bnd hf
    refine r_getR dX11_week_32 fs11_25_10 rfl h13 ?_
    obtain ⟨q14, h15, hf⟩ := bnd hf
    refine r_callVv (st := []) (as := [.ref x12]) dX11_week_35 ms_X6_passWeek ⟨rfl, w3_33, w3_34, w3_35⟩ (ok_X6_passWeek h15) (c_X6_passWeek h15) rfl ⟨by omega, by omega⟩ (Nat.le_of_ble_eq_true rfl) (by decide) (by decide) rfl ?_
    refine r_aload_n dX11_week_38 rfl ?_
    obtain ⟨x16, h17, hf⟩ := bnd hf
    refine r_getR dX11_week_39 fs11_25_10 rfl h17 ?_
    obtain ⟨x18, h19, hf⟩ := bnd hf
    refine r_getI dX11_week_42 fs11_176_9 rfl h19 ?_
    have hz := congrArg eI (Option.some.inj hf)
    exact r_ireturn dX11_week_45 rfl (Nat.le_of_ble_eq_true rfl) (Nat.le_of_ble_eq_true rfl) hz
  · replace hf := (if_neg c5).symm.trans hf
    refine r_aload_n dX11_week_13 rfl ?_
    refine r_bipush (v := (-6)) dX11_week_14 (by decide) ?_
    obtain ⟨q20, h21, hf⟩ := bnd hf
    refine r_callVi (st := []) (as := [.int (-6)]) dX11_week_16 ms_X11_refuse ⟨rfl, w1_214, w1_216, w0_0⟩ (ok_X11_refuse h21) (c_X11_refuse h21) rfl ⟨by omega, by omega⟩ (Nat.le_of_ble_eq_true rfl) (by decide) (by decide) rfl ?_
    have hz := congrArg eI (Option.some.inj hf)
    exact r_ireturn dX11_week_19 rfl (Nat.le_of_ble_eq_true rfl) (Nat.le_of_ble_eq_true rfl) hz
def f_X11_mule_84 (S : Mm) (l0 : Nat) : Option (Int32 × Mm) := (f_X11_refuse S l0 (-6)).bind fun q1 => some (q1.1, q1.2)
def f_X11_mule (S : Mm) (l0 : Nat) (l1 : Int32) (l2 : Int32) (l3 : Int32) : Option (Int32 × Mm) := if okc S l0 10 = true then (gR S 10 l0 0).bind fun x1 => (f_X6_areTwo S x1 l1 l2).bind fun q3 => (if q3.1 = 0 then (f_X11_refuse q3.2 l0 (-1)).bind fun q62 => some (q62.1, q62.2) else (if 1 ≤ l3 then (gR q3.2 10 l0 0).bind fun x7 => (gI q3.2 6 x7 7).bind fun x9 => (gR q3.2 10 l0 0).bind fun x11 => (gI q3.2 6 x11 8).bind fun x13 => (if x13 ≤ x9 then (gR q3.2 10 l0 0).bind fun x16 => (gR q3.2 6 x16 2).bind fun x18 => (aI q3.2 x18 l1).bind fun x20 => (if x20 < l3 then f_X11_mule_84 q3.2 l0 else (gR q3.2 10 l0 0).bind fun x23 => (gR q3.2 6 x23 2).bind fun x25 => (aI q3.2 x25 l2).bind fun x27 => (if (x27 + l3) ≤ 9999 then (gR q3.2 10 l0 0).bind fun x30 => (gR q3.2 6 x30 2).bind fun x32 => (aI q3.2 x32 l1).bind fun x34 => (aS q3.2 x32 l1 (x34 - l3)).bind fun S36 => (gR S36 10 l0 0).bind fun x38 => (gR S36 6 x38 2).bind fun x40 => (aI S36 x40 l2).bind fun x42 => (aS S36 x40 l2 (x42 + l3)).bind fun S44 => (gR S44 10 l0 0).bind fun x46 => (gR S44 10 l0 0).bind fun x48 => (gI S44 6 x48 7).bind fun x50 => (pI S44 6 x46 8 (x50 + 52)).bind fun S52 => (gR S52 10 l0 0).bind fun x54 => (gI S52 6 x54 8).bind fun x56 => some (x56, S52) else f_X11_mule_84 q3.2 l0)) else (f_X11_refuse q3.2 l0 (-3)).bind fun q58 => some (q58.1, q58.2)) else (f_X11_refuse q3.2 l0 (-4)).bind fun q60 => some (q60.1, q60.2))) else none
set_option maxRecDepth 20000 in
theorem t_X11_mule_84 {G : Gt} {l : Launch} (S : Mm) (l0 : Nat) (T : (Int32 × Mm)) (hf : f_X11_mule_84 S l0 = some T) : Sat G l yX11_mule cX11_mule 4 (some .int) 2 0 0 0 0 84 [.ref l0, .null, .null, .null] [] S (eI T) := by
  unfold f_X11_mule_84 at hf
  refine r_aload_n dX11_mule_84 rfl ?_
  refine r_bipush (v := (-6)) dX11_mule_85 (by decide) ?_
  obtain ⟨q1, h2, hf⟩ := bnd hf
  refine r_callVi (st := []) (as := [.int (-6)]) dX11_mule_87 ms_X11_refuse ⟨rfl, w1_214, w1_216, w0_0⟩ (ok_X11_refuse h2) (c_X11_refuse h2) rfl ⟨by omega, by omega⟩ (Nat.le_of_ble_eq_true rfl) (by decide) (by decide) rfl ?_
  have hz := congrArg eI (Option.some.inj hf)
  exact r_ireturn dX11_mule_90 rfl (Nat.le_of_ble_eq_true rfl) (Nat.le_of_ble_eq_true rfl) hz
set_option maxRecDepth 20000 in
theorem ok_X11_mule {S : Mm} {l0 : Nat} {l1 : Int32} {l2 : Int32} {l3 : Int32} {T : (Int32 × Mm)} (hf : f_X11_mule S l0 l1 l2 l3 = some T) : okc S l0 10 = true := (oif hf).1
set_option maxRecDepth 20000 in
theorem c_X11_mule {G : Gt} {l : Launch} {S : Mm} {l0 : Nat} {l1 : Int32} {l2 : Int32} {l3 : Int32} {T : (Int32 × Mm)} (hf : f_X11_mule S l0 l1 l2 l3 = some T) : CC G l yX11_mule cX11_mule 4 (some .int) 2 0 0 [.ref l0, .int l1, .int l2, .int l3] S (eI T) := by
  unfold f_X11_mule at hf
  replace hf := (oif hf).2
  refine r_body (by decide) rfl (Nat.le_of_ble_eq_true rfl) (by simp) ?_
  refine r_aload_n dX11_mule_0 rfl ?_
  obtain ⟨x1, h2, hf⟩ := bnd hf
  refine r_getR dX11_mule_1 fs11_10_10 rfl h2 ?_
  refine r_iload_n dX11_mule_4 rfl ?_
  refine r_iload_n dX11_mule_5 rfl ?_
  obtain ⟨q3, h4, hf⟩ := bnd hf
  refine r_callVi (st := []) (as := [.int l1, .int l2]) dX11_mule_6 ms_X6_areTwo ⟨rfl, w2_215, w2_127, w2_128⟩ (ok_X6_areTwo h4) (c_X6_areTwo h4) rfl ⟨by omega, by omega⟩ (Nat.le_of_ble_eq_true rfl) (by decide) (by decide) rfl ?_
  refine r_if_ne (tgt := 18) dX11_mule_9 (by decide) (fun c5 => ?_) (fun c5 => ?_)
  · replace hf := (if_neg c5).symm.trans hf
    refine r_iload_n dX11_mule_18 rfl ?_
    refine r_iconst (v := 1) dX11_mule_19 (by decide) ?_
    refine r_icmp_ge (tgt := 30) dX11_mule_20 (by decide) (fun c6 => ?_) (fun c6 => ?_)
    · replace hf := (if_pos c6).symm.trans hf
      refine r_aload_n dX11_mule_30 rfl ?_
      obtain ⟨x7, h8, hf⟩ := bnd hf
      refine r_getR dX11_mule_31 fs11_10_10 rfl h8 ?_
      obtain ⟨x9, h10, hf⟩ := bnd hf
      refine r_getI dX11_mule_34 fs11_135_6 rfl h10 ?_
      refine r_aload_n dX11_mule_37 rfl ?_
      obtain ⟨x11, h12, hf⟩ := bnd hf
      refine r_getR dX11_mule_38 fs11_10_10 rfl h12 ?_
      obtain ⟨x13, h14, hf⟩ := bnd hf
      refine r_getI dX11_mule_41 fs11_157_6 rfl h14 ?_
      refine r_icmp_ge (tgt := 54) dX11_mule_44 (by decide) (fun c15 => ?_) (fun c15 => ?_)
      · replace hf := (if_pos c15).symm.trans hf
        refine r_iload_n dX11_mule_54 rfl ?_
        refine r_aload_n dX11_mule_55 rfl ?_
        obtain ⟨x16, h17, hf⟩ := bnd hf
        refine r_getR dX11_mule_56 fs11_10_10 rfl h17 ?_
        obtain ⟨x18, h19, hf⟩ := bnd hf
        refine r_getR dX11_mule_59 fs11_108_6 rfl h19 ?_
        refine r_iload_n dX11_mule_62 rfl ?_
        obtain ⟨x20, h21, hf⟩ := bnd hf
        refine r_iaload dX11_mule_63 h21 ?_
        refine r_icmp_gt (tgt := 84) dX11_mule_64 (by decide) (fun c22 => ?_) (fun c22 => ?_)
        · replace hf := (if_pos c22).symm.trans hf
          refine r_lvs (lv' := [.ref l0, .null, .null, .null]) ⟨Or.inl rfl, Or.inr rfl, Or.inr rfl, Or.inr rfl, trivial⟩ ?_
          exact t_X11_mule_84 _ _ _ hf
        · replace hf := (if_neg c22).symm.trans hf
          refine r_aload_n dX11_mule_67 rfl ?_
          obtain ⟨x23, h24, hf⟩ := bnd hf
          refine r_getR dX11_mule_68 fs11_10_10 rfl h24 ?_
          obtain ⟨x25, h26, hf⟩ := bnd hf
          refine r_getR dX11_mule_71 fs11_108_6 rfl h26 ?_
          refine r_iload_n dX11_mule_74 rfl ?_
          obtain ⟨x27, h28, hf⟩ := bnd hf
          refine r_iaload dX11_mule_75 h28 ?_
          refine r_iload_n dX11_mule_76 rfl ?_
          refine r_iadd dX11_mule_77 ?_
          refine r_sipush (v := 9999) dX11_mule_78 (by decide) ?_
          refine r_icmp_le (tgt := 91) dX11_mule_81 (by decide) (fun c29 => ?_) (fun c29 => ?_)
          · replace hf := (if_pos c29).symm.trans hf
            refine r_aload_n dX11_mule_91 rfl ?_
            obtain ⟨x30, h31, hf⟩ := bnd hf
            refine r_getR dX11_mule_92 fs11_10_10 rfl h31 ?_
            obtain ⟨x32, h33, hf⟩ := bnd hf
            refine r_getR dX11_mule_95 fs11_108_6 rfl h33 ?_
            refine r_iload_n dX11_mule_98 rfl ?_
            refine r_dup2 dX11_mule_99 rfl rfl ?_
            obtain ⟨x34, h35, hf⟩ := bnd hf
            refine r_iaload dX11_mule_100 h35 ?_
            refine r_iload_n dX11_mule_101 rfl ?_
            refine r_isub dX11_mule_102 ?_
            obtain ⟨S36, h37, hf⟩ := bnd hf
            refine r_iastore dX11_mule_103 h37 ?_
            refine r_aload_n dX11_mule_104 rfl ?_
            obtain ⟨x38, h39, hf⟩ := bnd hf
            refine r_getR dX11_mule_105 fs11_10_10 rfl h39 ?_
            obtain ⟨x40, h41, hf⟩ := bnd hf
            refine r_getR dX11_mule_108 fs11_108_6 rfl h41 ?_
            refine r_iload_n dX11_mule_111 rfl ?_
            refine r_dup2 dX11_mule_112 rfl rfl ?_
            obtain ⟨x42, h43, hf⟩ := bnd hf
            refine r_iaload dX11_mule_113 h43 ?_
            refine r_iload_n dX11_mule_114 rfl ?_
            refine r_iadd dX11_mule_115 ?_
            obtain ⟨S44, h45, hf⟩ := bnd hf
            refine r_iastore dX11_mule_116 h45 ?_
            refine r_aload_n dX11_mule_117 rfl ?_
            obtain ⟨x46, h47, hf⟩ := bnd hf
            refine r_getR dX11_mule_118 fs11_10_10 rfl h47 ?_
            refine r_aload_n dX11_mule_121 rfl ?_
            obtain ⟨x48, h49, hf⟩ := bnd hf
            refine r_getR dX11_mule_122 fs11_10_10 rfl h49 ?_
            obtain ⟨x50, h51, hf⟩ := bnd hf
            refine r_getI dX11_mule_125 fs11_135_6 rfl h51 ?_
            refine r_bipush (v := 52) dX11_mule_128 (by decide) ?_
            refine r_iadd dX11_mule_130 ?_
            obtain ⟨S52, h53, hf⟩ := bnd hf
            refine r_putI dX11_mule_131 fs11_157_6 rfl h53 ?_
            refine r_aload_n dX11_mule_134 rfl ?_
            obtain ⟨x54, h55, hf⟩ := bnd hf
            refine r_getR dX11_mule_135 fs11_10_10 rfl h55 ?_
            obtain ⟨x56, h57, hf⟩ := bnd hf
            refine r_getI dX11_mule_138 fs11_157_6 rfl h57 ?_
            have hz := congrArg eI (Option.some.inj hf)
            exact r_ireturn dX11_mule_141 rfl (Nat.le_of_ble_eq_true rfl) (Nat.le_of_ble_eq_true rfl) hz
          · replace hf := (if_neg c29).symm.trans hf
            refine r_lvs (lv' := [.ref l0, .null, .null, .null]) ⟨Or.inl rfl, Or.inr rfl, Or.inr rfl, Or.inr rfl, trivial⟩ ?_
            exact t_X11_mule_84 _ _ _ hf
      · replace hf := (if_neg c15).symm.trans hf
        refine r_aload_n dX11_mule_47 rfl ?_
        refine r_bipush (v := (-3)) dX11_mule_48 (by decide) ?_
        obtain ⟨q58, h59, hf⟩ := bnd hf
        refine r_callVi (st := []) (as := [.int (-3)]) dX11_mule_50 ms_X11_refuse ⟨rfl, w1_214, w1_216, w0_0⟩ (ok_X11_refuse h59) (c_X11_refuse h59) rfl ⟨by omega, by omega⟩ (Nat.le_of_ble_eq_true rfl) (by decide) (by decide) rfl ?_
        have hz := congrArg eI (Option.some.inj hf)
        exact r_ireturn dX11_mule_53 rfl (Nat.le_of_ble_eq_true rfl) (Nat.le_of_ble_eq_true rfl) hz
    · replace hf := (if_neg c6).symm.trans hf
      refine r_aload_n dX11_mule_23 rfl ?_
      refine r_bipush (v := (-4)) dX11_mule_24 (by decide) ?_
      obtain ⟨q60, h61, hf⟩ := bnd hf
      refine r_callVi (st := []) (as := [.int (-4)]) dX11_mule_26 ms_X11_refuse ⟨rfl, w1_214, w1_216, w0_0⟩ (ok_X11_refuse h61) (c_X11_refuse h61) rfl ⟨by omega, by omega⟩ (Nat.le_of_ble_eq_true rfl) (by decide) (by decide) rfl ?_
      have hz := congrArg eI (Option.some.inj hf)
      exact r_ireturn dX11_mule_29 rfl (Nat.le_of_ble_eq_true rfl) (Nat.le_of_ble_eq_true rfl) hz
  · replace hf := (if_pos c5).symm.trans hf
    refine r_aload_n dX11_mule_12 rfl ?_
    refine r_iconst (v := (-1)) dX11_mule_13 (by decide) ?_
    obtain ⟨q62, h63, hf⟩ := bnd hf
    refine r_callVi (st := []) (as := [.int (-1)]) dX11_mule_14 ms_X11_refuse ⟨rfl, w1_214, w1_216, w0_0⟩ (ok_X11_refuse h63) (c_X11_refuse h63) rfl ⟨by omega, by omega⟩ (Nat.le_of_ble_eq_true rfl) (by decide) (by decide) rfl ?_
    have hz := congrArg eI (Option.some.inj hf)
    exact r_ireturn dX11_mule_17 rfl (Nat.le_of_ble_eq_true rfl) (Nat.le_of_ble_eq_true rfl) hz
def f_X11_owe (S : Mm) (l0 : Nat) (l1 : Int32) (l2 : Int32) (l3 : Int32) : Option (Int32 × Mm) := if okc S l0 10 = true then (gR S 10 l0 0).bind fun x1 => (f_X6_areTwo S x1 l1 l2).bind fun q3 => (if q3.1 = 0 then (f_X11_refuse q3.2 l0 (-1)).bind fun q24 => some (q24.1, q24.2) else (if 0 ≤ l3 then (if l3 ≤ 99 then (gR q3.2 10 l0 0).bind fun x8 => (gR q3.2 6 x8 5).bind fun x10 => (f_X1_from q3.2 x10 l1 l2).bind fun q12 => (gR q12.2 10 l0 0).bind fun x14 => (gR q12.2 6 x14 5).bind fun x16 => (f_X1_put q12.2 x16 l1 l2 l3).bind fun q18 => some (q12.1, q18) else (f_X11_refuse q3.2 l0 (-6)).bind fun q20 => some (q20.1, q20.2)) else (f_X11_refuse q3.2 l0 (-4)).bind fun q22 => some (q22.1, q22.2))) else none
set_option maxRecDepth 20000 in
theorem ok_X11_owe {S : Mm} {l0 : Nat} {l1 : Int32} {l2 : Int32} {l3 : Int32} {T : (Int32 × Mm)} (hf : f_X11_owe S l0 l1 l2 l3 = some T) : okc S l0 10 = true := (oif hf).1
set_option maxRecDepth 20000 in
theorem c_X11_owe {G : Gt} {l : Launch} {S : Mm} {l0 : Nat} {l1 : Int32} {l2 : Int32} {l3 : Int32} {T : (Int32 × Mm)} (hf : f_X11_owe S l0 l1 l2 l3 = some T) : CC G l yX11_owe cX11_owe 5 (some .int) 2 0 0 [.ref l0, .int l1, .int l2, .int l3] S (eI T) := by
  unfold f_X11_owe at hf
  replace hf := (oif hf).2
  refine r_body (by decide) rfl (Nat.le_of_ble_eq_true rfl) (by simp) ?_
  refine r_aload_n dX11_owe_0 rfl ?_
  obtain ⟨x1, h2, hf⟩ := bnd hf
  refine r_getR dX11_owe_1 fs11_10_10 rfl h2 ?_
  refine r_iload_n dX11_owe_4 rfl ?_
  refine r_iload_n dX11_owe_5 rfl ?_
  obtain ⟨q3, h4, hf⟩ := bnd hf
  refine r_callVi (st := []) (as := [.int l1, .int l2]) dX11_owe_6 ms_X6_areTwo ⟨rfl, w2_215, w2_127, w2_128⟩ (ok_X6_areTwo h4) (c_X6_areTwo h4) rfl ⟨by omega, by omega⟩ (Nat.le_of_ble_eq_true rfl) (by decide) (by decide) rfl ?_
  refine r_if_ne (tgt := 18) dX11_owe_9 (by decide) (fun c5 => ?_) (fun c5 => ?_)
  · replace hf := (if_neg c5).symm.trans hf
    refine r_iload_n dX11_owe_18 rfl ?_
    refine r_if_ge (tgt := 29) dX11_owe_19 (by decide) (fun c6 => ?_) (fun c6 => ?_)
    · replace hf := (if_pos c6).symm.trans hf
      refine r_iload_n dX11_owe_29 rfl ?_
      refine r_bipush (v := 99) dX11_owe_30 (by decide) ?_
      refine r_icmp_le (tgt := 42) dX11_owe_32 (by decide) (fun c7 => ?_) (fun c7 => ?_)
      · replace hf := (if_pos c7).symm.trans hf
        refine r_aload_n dX11_owe_42 rfl ?_
        obtain ⟨x8, h9, hf⟩ := bnd hf
        refine r_getR dX11_owe_43 fs11_10_10 rfl h9 ?_
        obtain ⟨x10, h11, hf⟩ := bnd hf
        refine r_getR dX11_owe_46 fs11_145_6 rfl h11 ?_
        refine r_iload_n dX11_owe_49 rfl ?_
        refine r_iload_n dX11_owe_50 rfl ?_
        obtain ⟨q12, h13, hf⟩ := bnd hf
        refine r_callVi (st := []) (as := [.int l1, .int l2]) dX11_owe_51 ms_X1_from ⟨rfl, w3_80, w3_81, w3_82⟩ (ok_X1_from h13) (c_X1_from h13) rfl ⟨by omega, by omega⟩ (Nat.le_of_ble_eq_true rfl) (by decide) (by decide) rfl ?_
        refine r_istore (lv' := [.ref l0, .int l1, .int l2, .int l3, .int q12.1]) dX11_owe_54 (by decide) rfl rfl ?_
        refine r_aload_n dX11_owe_56 rfl ?_
        obtain ⟨x14, h15, hf⟩ := bnd hf
        refine r_getR dX11_owe_57 fs11_10_10 rfl h15 ?_
        obtain ⟨x16, h17, hf⟩ := bnd hf
        refine r_getR dX11_owe_60 fs11_145_6 rfl h17 ?_
        refine r_iload_n dX11_owe_63 rfl ?_
        refine r_iload_n dX11_owe_64 rfl ?_
        refine r_iload_n dX11_owe_65 rfl ?_
        obtain ⟨q18, h19, hf⟩ := bnd hf
        refine r_callVv (st := []) (as := [.int l1, .int l2, .int l3]) dX11_owe_66 ms_X1_put ⟨rfl, w3_84, w2_135, w2_136⟩ (ok_X1_put h19) (c_X1_put h19) rfl ⟨by omega, by omega⟩ (Nat.le_of_ble_eq_true rfl) (by decide) (by decide) rfl ?_
        refine r_iload dX11_owe_69 rfl ?_
        have hz := congrArg eI (Option.some.inj hf)
        exact r_ireturn dX11_owe_71 rfl (Nat.le_of_ble_eq_true rfl) (Nat.le_of_ble_eq_true rfl) hz
      · replace hf := (if_neg c7).symm.trans hf
        refine r_aload_n dX11_owe_35 rfl ?_
        refine r_bipush (v := (-6)) dX11_owe_36 (by decide) ?_
        obtain ⟨q20, h21, hf⟩ := bnd hf
        refine r_callVi (st := []) (as := [.int (-6)]) dX11_owe_38 ms_X11_refuse ⟨rfl, w1_214, w1_216, w0_0⟩ (ok_X11_refuse h21) (c_X11_refuse h21) rfl ⟨by omega, by omega⟩ (Nat.le_of_ble_eq_true rfl) (by decide) (by decide) rfl ?_
        have hz := congrArg eI (Option.some.inj hf)
        exact r_ireturn dX11_owe_41 rfl (Nat.le_of_ble_eq_true rfl) (Nat.le_of_ble_eq_true rfl) hz
    · replace hf := (if_neg c6).symm.trans hf
      refine r_aload_n dX11_owe_22 rfl ?_
      refine r_bipush (v := (-4)) dX11_owe_23 (by decide) ?_
      obtain ⟨q22, h23, hf⟩ := bnd hf
      refine r_callVi (st := []) (as := [.int (-4)]) dX11_owe_25 ms_X11_refuse ⟨rfl, w1_214, w1_216, w0_0⟩ (ok_X11_refuse h23) (c_X11_refuse h23) rfl ⟨by omega, by omega⟩ (Nat.le_of_ble_eq_true rfl) (by decide) (by decide) rfl ?_
      have hz := congrArg eI (Option.some.inj hf)
      exact r_ireturn dX11_owe_28 rfl (Nat.le_of_ble_eq_true rfl) (Nat.le_of_ble_eq_true rfl) hz
  · replace hf := (if_pos c5).symm.trans hf
    refine r_aload_n dX11_owe_12 rfl ?_
    refine r_iconst (v := (-1)) dX11_owe_13 (by decide) ?_
    obtain ⟨q24, h25, hf⟩ := bnd hf
    refine r_callVi (st := []) (as := [.int (-1)]) dX11_owe_14 ms_X11_refuse ⟨rfl, w1_214, w1_216, w0_0⟩ (ok_X11_refuse h25) (c_X11_refuse h25) rfl ⟨by omega, by omega⟩ (Nat.le_of_ble_eq_true rfl) (by decide) (by decide) rfl ?_
    have hz := congrArg eI (Option.some.inj hf)
    exact r_ireturn dX11_owe_17 rfl (Nat.le_of_ble_eq_true rfl) (Nat.le_of_ble_eq_true rfl) hz
def f_X11_strike (S : Mm) (l0 : Nat) : Option (Int32 × Mm) := if okc S l0 10 = true then (gR S 10 l0 0).bind fun x1 => (gR S 6 x1 5).bind fun x3 => (f_X1_strikeRings S x3).bind fun q5 => some (q5.1, q5.2) else none
set_option maxRecDepth 20000 in
theorem ok_X11_strike {S : Mm} {l0 : Nat} {T : (Int32 × Mm)} (hf : f_X11_strike S l0 = some T) : okc S l0 10 = true := (oif hf).1
set_option maxRecDepth 20000 in
theorem c_X11_strike {G : Gt} {l : Launch} {S : Mm} {l0 : Nat} {T : (Int32 × Mm)} (hf : f_X11_strike S l0 = some T) : CC G l yX11_strike cX11_strike 1 (some .int) 3 0 0 [.ref l0] S (eI T) := by
  unfold f_X11_strike at hf
  replace hf := (oif hf).2
  refine r_body (by decide) rfl (Nat.le_of_ble_eq_true rfl) (by simp) ?_
  refine r_aload_n dX11_strike_0 rfl ?_
  obtain ⟨x1, h2, hf⟩ := bnd hf
  refine r_getR dX11_strike_1 fs11_10_10 rfl h2 ?_
  obtain ⟨x3, h4, hf⟩ := bnd hf
  refine r_getR dX11_strike_4 fs11_145_6 rfl h4 ?_
  obtain ⟨q5, h6, hf⟩ := bnd hf
  refine r_callVi (st := []) (as := []) dX11_strike_7 ms_X1_strikeRings ⟨rfl, w3_89, w3_90, w3_91⟩ (ok_X1_strikeRings h6) (c_X1_strikeRings h6) rfl ⟨by omega, by omega⟩ (Nat.le_of_ble_eq_true rfl) (by decide) (by decide) rfl ?_
  have hz := congrArg eI (Option.some.inj hf)
  exact r_ireturn dX11_strike_10 rfl (Nat.le_of_ble_eq_true rfl) (Nat.le_of_ble_eq_true rfl) hz
def f_X11_passInMind_26 : Nat → Mm → Nat → Int32 → Nat → Int32 → Option Mm
  | 0, _, _, _, _, _ => none
  | n + 1, S, l0, l1, l3, l4 => (if l1 ≤ l4 then some S else (gR S 10 l0 1).bind fun x2 => (f_X6_passWeek S x2 l3).bind fun q4 => (f_X11_passInMind_26 n) q4 l0 l1 l3 (l4 + 1))
def f_X11_passInMind (S : Mm) (l0 : Nat) (l1 : Int32) (l2 : Int32) (l3 : Nat) : Option Mm := if okc S l0 10 = true then (gR S 10 l0 1).bind fun x1 => (gR S 10 l0 0).bind fun x3 => (f_X6_copyFrom S x1 x3).bind fun q5 => (gR q5 10 l0 1).bind fun x7 => (pI q5 6 x7 6 l2).bind fun S9 => (f_X9_clear S9 l3).bind fun q11 => f_X11_passInMind_26 FU q11 l0 l1 l3 0 else none
set_option maxRecDepth 20000 in
theorem t_X11_passInMind_26 {G : Gt} {l : Launch} : ∀ (n : Nat) (S : Mm) (l0 : Nat) (l1 : Int32) (l3 : Nat) (l4 : Int32) (T : Mm), f_X11_passInMind_26 n S l0 l1 l3 l4 = some T → Sat G l yX11_passInMind cX11_passInMind 5 none 5 0 0 0 0 26 [.ref l0, .int l1, .null, .ref l3, .int l4] [] S (eV T) := by
  intro n
  induction n with
  | zero =>
    intro S l0 l1 l3 l4 T hf
    rw [f_X11_passInMind_26] at hf
    cases hf
  | succ n ih =>
    intro S l0 l1 l3 l4 T hf
    rw [f_X11_passInMind_26] at hf
    refine r_iload dX11_passInMind_26 rfl ?_
    refine r_iload_n dX11_passInMind_28 rfl ?_
    refine r_icmp_ge (tgt := 46) dX11_passInMind_29 (by decide) (fun c1 => ?_) (fun c1 => ?_)
    · replace hf := (if_pos c1).symm.trans hf
      have hz := congrArg eV (Option.some.inj hf)
      exact r_return dX11_passInMind_46 rfl (Nat.le_of_ble_eq_true rfl) (Nat.le_of_ble_eq_true rfl) hz
    · replace hf := (if_neg c1).symm.trans hf
      refine r_aload_n dX11_passInMind_32 rfl ?_
      obtain ⟨x2, h3, hf⟩ := bnd hf
      refine r_getR dX11_passInMind_33 fs11_16_10 rfl h3 ?_
      refine r_aload_n dX11_passInMind_36 rfl ?_
      obtain ⟨q4, h5, hf⟩ := bnd hf
      refine r_callVv (st := []) (as := [.ref l3]) dX11_passInMind_37 ms_X6_passWeek ⟨rfl, w3_33, w3_34, w3_35⟩ (ok_X6_passWeek h5) (c_X6_passWeek h5) rfl ⟨by omega, by omega⟩ (Nat.le_of_ble_eq_true rfl) (by decide) (by decide) rfl ?_
      refine r_iinc (v := 1) (lv' := [.ref l0, .int l1, .null, .ref l3, .int (l4 + 1)]) dX11_passInMind_40 rfl (by decide) (by decide) rfl rfl ?_
      refine r_goto (tgt := 26) dX11_passInMind_43 (by decide) ?_
      exact ih _ _ _ _ _ _ hf
set_option maxRecDepth 20000 in
theorem ok_X11_passInMind {S : Mm} {l0 : Nat} {l1 : Int32} {l2 : Int32} {l3 : Nat} {T : Mm} (hf : f_X11_passInMind S l0 l1 l2 l3 = some T) : okc S l0 10 = true := (oif hf).1
set_option maxRecDepth 20000 in
theorem c_X11_passInMind {G : Gt} {l : Launch} {S : Mm} {l0 : Nat} {l1 : Int32} {l2 : Int32} {l3 : Nat} {T : Mm} (hf : f_X11_passInMind S l0 l1 l2 l3 = some T) : CC G l yX11_passInMind cX11_passInMind 5 none 5 0 0 [.ref l0, .int l1, .int l2, .ref l3] S (eV T) := by
  unfold f_X11_passInMind at hf
  replace hf := (oif hf).2
  refine r_body (by decide) rfl (Nat.le_of_ble_eq_true rfl) (by simp) ?_
  refine r_aload_n dX11_passInMind_0 rfl ?_
  obtain ⟨x1, h2, hf⟩ := bnd hf
  refine r_getR dX11_passInMind_1 fs11_16_10 rfl h2 ?_
  refine r_aload_n dX11_passInMind_4 rfl ?_
  obtain ⟨x3, h4, hf⟩ := bnd hf
  refine r_getR dX11_passInMind_5 fs11_10_10 rfl h4 ?_
  obtain ⟨q5, h6, hf⟩ := bnd hf
  refine r_callVv (st := []) (as := [.ref x3]) dX11_passInMind_8 ms_X6_copyFrom ⟨rfl, w1_231, w1_232, w1_233⟩ (ok_X6_copyFrom h6) (c_X6_copyFrom h6) rfl ⟨by omega, by omega⟩ (Nat.le_of_ble_eq_true rfl) (by decide) (by decide) rfl ?_
  refine r_aload_n dX11_passInMind_11 rfl ?_
  obtain ⟨x7, h8, hf⟩ := bnd hf
  refine r_getR dX11_passInMind_12 fs11_16_10 rfl h8 ?_
  refine r_iload_n dX11_passInMind_15 rfl ?_
  obtain ⟨S9, h10, hf⟩ := bnd hf
  refine r_putI dX11_passInMind_16 fs11_124_6 rfl h10 ?_
  refine r_aload_n dX11_passInMind_19 rfl ?_
  obtain ⟨q11, h12, hf⟩ := bnd hf
  refine r_callVv (st := []) (as := []) dX11_passInMind_20 ms_X9_clear ⟨rfl, w3_25, w3_26, w3_27⟩ (ok_X9_clear h12) (c_X9_clear h12) rfl ⟨by omega, by omega⟩ (Nat.le_of_ble_eq_true rfl) (by decide) (by decide) rfl ?_
  refine r_iconst (v := 0) dX11_passInMind_23 (by decide) ?_
  refine r_istore (lv' := [.ref l0, .int l1, .int l2, .ref l3, .int 0]) dX11_passInMind_24 (by decide) rfl rfl ?_
  refine r_lvs (lv' := [.ref l0, .int l1, .null, .ref l3, .int 0]) ⟨Or.inl rfl, Or.inl rfl, Or.inr rfl, Or.inl rfl, Or.inl rfl, trivial⟩ ?_
  exact t_X11_passInMind_26 FU _ _ _ _ _ _ hf
def f_X11_behind (S : Mm) (l0 : Nat) (l1 : Int32) (l2 : Int32) : Option (Int32 × Mm) := if okc S l0 10 = true then (gR S 10 l0 0).bind fun x1 => (f_X6_hasHouse S x1 l1).bind fun q3 => (if q3.1 = 0 then (f_X11_refuse q3.2 l0 (-1)).bind fun q26 => some (q26.1, q26.2) else (if 0 ≤ l2 then (if l2 ≤ 60 then (gR q3.2 10 l0 0).bind fun x8 => (gI q3.2 6 x8 6).bind fun x10 => (gR q3.2 10 l0 4).bind fun x12 => (f_X11_passInMind q3.2 l0 l2 x10 x12).bind fun q14 => (gR q14 10 l0 1).bind fun x16 => (gR q14 6 x16 2).bind fun x18 => (aI q14 x18 l1).bind fun x20 => some (x20, q14) else (f_X11_refuse q3.2 l0 (-6)).bind fun q22 => some (q22.1, q22.2)) else (f_X11_refuse q3.2 l0 (-4)).bind fun q24 => some (q24.1, q24.2))) else none
set_option maxRecDepth 20000 in
theorem ok_X11_behind {S : Mm} {l0 : Nat} {l1 : Int32} {l2 : Int32} {T : (Int32 × Mm)} (hf : f_X11_behind S l0 l1 l2 = some T) : okc S l0 10 = true := (oif hf).1
set_option maxRecDepth 20000 in
theorem c_X11_behind {G : Gt} {l : Launch} {S : Mm} {l0 : Nat} {l1 : Int32} {l2 : Int32} {T : (Int32 × Mm)} (hf : f_X11_behind S l0 l1 l2 = some T) : CC G l yX11_behind cX11_behind 3 (some .int) 6 0 0 [.ref l0, .int l1, .int l2] S (eI T) := by
  unfold f_X11_behind at hf
  replace hf := (oif hf).2
  refine r_body (by decide) rfl (Nat.le_of_ble_eq_true rfl) (by simp) ?_
  refine r_aload_n dX11_behind_0 rfl ?_
  obtain ⟨x1, h2, hf⟩ := bnd hf
  refine r_getR dX11_behind_1 fs11_10_10 rfl h2 ?_
  refine r_iload_n dX11_behind_4 rfl ?_
  obtain ⟨q3, h4, hf⟩ := bnd hf
  refine r_callVi (st := []) (as := [.int l1]) dX11_behind_5 ms_X6_hasHouse ⟨rfl, w2_142, w2_131, w2_132⟩ (ok_X6_hasHouse h4) (c_X6_hasHouse h4) rfl ⟨by omega, by omega⟩ (Nat.le_of_ble_eq_true rfl) (by decide) (by decide) rfl ?_
  refine r_if_ne (tgt := 17) dX11_behind_8 (by decide) (fun c5 => ?_) (fun c5 => ?_)
  · replace hf := (if_neg c5).symm.trans hf
    refine r_iload_n dX11_behind_17 rfl ?_
    refine r_if_ge (tgt := 28) dX11_behind_18 (by decide) (fun c6 => ?_) (fun c6 => ?_)
    · replace hf := (if_pos c6).symm.trans hf
      refine r_iload_n dX11_behind_28 rfl ?_
      refine r_bipush (v := 60) dX11_behind_29 (by decide) ?_
      refine r_icmp_le (tgt := 41) dX11_behind_31 (by decide) (fun c7 => ?_) (fun c7 => ?_)
      · replace hf := (if_pos c7).symm.trans hf
        refine r_aload_n dX11_behind_41 rfl ?_
        refine r_iload_n dX11_behind_42 rfl ?_
        refine r_aload_n dX11_behind_43 rfl ?_
        obtain ⟨x8, h9, hf⟩ := bnd hf
        refine r_getR dX11_behind_44 fs11_10_10 rfl h9 ?_
        obtain ⟨x10, h11, hf⟩ := bnd hf
        refine r_getI dX11_behind_47 fs11_124_6 rfl h11 ?_
        refine r_aload_n dX11_behind_50 rfl ?_
        obtain ⟨x12, h13, hf⟩ := bnd hf
        refine r_getR dX11_behind_51 fs11_25_10 rfl h13 ?_
        obtain ⟨q14, h15, hf⟩ := bnd hf
        refine r_callVv (st := []) (as := [.int l2, .int x10, .ref x12]) dX11_behind_54 ms_X11_passInMind ⟨rfl, w3_108, w3_110, w0_18⟩ (ok_X11_passInMind h15) (c_X11_passInMind h15) rfl ⟨by omega, by omega⟩ (Nat.le_of_ble_eq_true rfl) (by decide) (by decide) rfl ?_
        refine r_aload_n dX11_behind_57 rfl ?_
        obtain ⟨x16, h17, hf⟩ := bnd hf
        refine r_getR dX11_behind_58 fs11_16_10 rfl h17 ?_
        obtain ⟨x18, h19, hf⟩ := bnd hf
        refine r_getR dX11_behind_61 fs11_108_6 rfl h19 ?_
        refine r_iload_n dX11_behind_64 rfl ?_
        obtain ⟨x20, h21, hf⟩ := bnd hf
        refine r_iaload dX11_behind_65 h21 ?_
        have hz := congrArg eI (Option.some.inj hf)
        exact r_ireturn dX11_behind_66 rfl (Nat.le_of_ble_eq_true rfl) (Nat.le_of_ble_eq_true rfl) hz
      · replace hf := (if_neg c7).symm.trans hf
        refine r_aload_n dX11_behind_34 rfl ?_
        refine r_bipush (v := (-6)) dX11_behind_35 (by decide) ?_
        obtain ⟨q22, h23, hf⟩ := bnd hf
        refine r_callVi (st := []) (as := [.int (-6)]) dX11_behind_37 ms_X11_refuse ⟨rfl, w1_214, w1_216, w0_0⟩ (ok_X11_refuse h23) (c_X11_refuse h23) rfl ⟨by omega, by omega⟩ (Nat.le_of_ble_eq_true rfl) (by decide) (by decide) rfl ?_
        have hz := congrArg eI (Option.some.inj hf)
        exact r_ireturn dX11_behind_40 rfl (Nat.le_of_ble_eq_true rfl) (Nat.le_of_ble_eq_true rfl) hz
    · replace hf := (if_neg c6).symm.trans hf
      refine r_aload_n dX11_behind_21 rfl ?_
      refine r_bipush (v := (-4)) dX11_behind_22 (by decide) ?_
      obtain ⟨q24, h25, hf⟩ := bnd hf
      refine r_callVi (st := []) (as := [.int (-4)]) dX11_behind_24 ms_X11_refuse ⟨rfl, w1_214, w1_216, w0_0⟩ (ok_X11_refuse h25) (c_X11_refuse h25) rfl ⟨by omega, by omega⟩ (Nat.le_of_ble_eq_true rfl) (by decide) (by decide) rfl ?_
      have hz := congrArg eI (Option.some.inj hf)
      exact r_ireturn dX11_behind_27 rfl (Nat.le_of_ble_eq_true rfl) (Nat.le_of_ble_eq_true rfl) hz
  · replace hf := (if_pos c5).symm.trans hf
    refine r_aload_n dX11_behind_11 rfl ?_
    refine r_iconst (v := (-1)) dX11_behind_12 (by decide) ?_
    obtain ⟨q26, h27, hf⟩ := bnd hf
    refine r_callVi (st := []) (as := [.int (-1)]) dX11_behind_13 ms_X11_refuse ⟨rfl, w1_214, w1_216, w0_0⟩ (ok_X11_refuse h27) (c_X11_refuse h27) rfl ⟨by omega, by omega⟩ (Nat.le_of_ble_eq_true rfl) (by decide) (by decide) rfl ?_
    have hz := congrArg eI (Option.some.inj hf)
    exact r_ireturn dX11_behind_16 rfl (Nat.le_of_ble_eq_true rfl) (Nat.le_of_ble_eq_true rfl) hz
def f_X11_served_9 (S : Mm) (l0 : Nat) : Option (Int32 × Mm) := (f_X11_refuse S l0 (-2)).bind fun q1 => some (q1.1, q1.2)
def f_X11_served_77 (S : Mm) (s0 : Int32) : Option (Int32 × Mm) := some (s0, S)
def f_X11_served (S : Mm) (l0 : Nat) (l1 : Int32) (l2 : Int32) : Option (Int32 × Mm) := if okc S l0 10 = true then (if l2 < 0 then f_X11_served_9 S l0 else (if l2 ≤ 1 then (if 0 ≤ l1 then (if l1 ≤ 60 then (gR S 10 l0 0).bind fun x5 => (gI S 6 x5 6).bind fun x7 => (gR S 10 l0 4).bind fun x9 => (f_X11_passInMind S l0 l1 x7 x9).bind fun q11 => (if l2 = 0 then (gR q11 10 l0 4).bind fun x18 => (gI q11 9 x18 0).bind fun x20 => f_X11_served_77 q11 x20 else (gR q11 10 l0 4).bind fun x14 => (gI q11 9 x14 2).bind fun x16 => f_X11_served_77 q11 x16) else (f_X11_refuse S l0 (-6)).bind fun q22 => some (q22.1, q22.2)) else (f_X11_refuse S l0 (-4)).bind fun q24 => some (q24.1, q24.2)) else f_X11_served_9 S l0)) else none
set_option maxRecDepth 20000 in
theorem t_X11_served_9 {G : Gt} {l : Launch} (S : Mm) (l0 : Nat) (T : (Int32 × Mm)) (hf : f_X11_served_9 S l0 = some T) : Sat G l yX11_served cX11_served 3 (some .int) 6 0 0 0 0 9 [.ref l0, .null, .null] [] S (eI T) := by
  unfold f_X11_served_9 at hf
  refine r_aload_n dX11_served_9 rfl ?_
  refine r_bipush (v := (-2)) dX11_served_10 (by decide) ?_
  obtain ⟨q1, h2, hf⟩ := bnd hf
  refine r_callVi (st := []) (as := [.int (-2)]) dX11_served_12 ms_X11_refuse ⟨rfl, w1_214, w1_216, w0_0⟩ (ok_X11_refuse h2) (c_X11_refuse h2) rfl ⟨by omega, by omega⟩ (Nat.le_of_ble_eq_true rfl) (by decide) (by decide) rfl ?_
  have hz := congrArg eI (Option.some.inj hf)
  exact r_ireturn dX11_served_15 rfl (Nat.le_of_ble_eq_true rfl) (Nat.le_of_ble_eq_true rfl) hz
set_option maxRecDepth 20000 in
theorem t_X11_served_77 {G : Gt} {l : Launch} (S : Mm) (s0 : Int32) (T : (Int32 × Mm)) (hf : f_X11_served_77 S s0 = some T) : Sat G l yX11_served cX11_served 3 (some .int) 6 0 0 0 0 77 [.null, .null, .null] [.int s0] S (eI T) := by
  unfold f_X11_served_77 at hf
  have hz := congrArg eI (Option.some.inj hf)
  exact r_ireturn dX11_served_77 rfl (Nat.le_of_ble_eq_true rfl) (Nat.le_of_ble_eq_true rfl) hz
set_option maxRecDepth 20000 in
theorem ok_X11_served {S : Mm} {l0 : Nat} {l1 : Int32} {l2 : Int32} {T : (Int32 × Mm)} (hf : f_X11_served S l0 l1 l2 = some T) : okc S l0 10 = true := (oif hf).1
set_option maxRecDepth 20000 in
theorem c_X11_served {G : Gt} {l : Launch} {S : Mm} {l0 : Nat} {l1 : Int32} {l2 : Int32} {T : (Int32 × Mm)} (hf : f_X11_served S l0 l1 l2 = some T) : CC G l yX11_served cX11_served 3 (some .int) 6 0 0 [.ref l0, .int l1, .int l2] S (eI T) := by
  unfold f_X11_served at hf
  replace hf := (oif hf).2
  refine r_body (by decide) rfl (Nat.le_of_ble_eq_true rfl) (by simp) ?_
  refine r_iload_n dX11_served_0 rfl ?_
  refine r_if_lt (tgt := 9) dX11_served_1 (by decide) (fun c1 => ?_) (fun c1 => ?_)
  · replace hf := (if_pos c1).symm.trans hf
    refine r_lvs (lv' := [.ref l0, .null, .null]) ⟨Or.inl rfl, Or.inr rfl, Or.inr rfl, trivial⟩ ?_
    exact t_X11_served_9 _ _ _ hf
  · replace hf := (if_neg c1).symm.trans hf
    refine r_iload_n dX11_served_4 rfl ?_
    refine r_iconst (v := 1) dX11_served_5 (by decide) ?_
    refine r_icmp_le (tgt := 16) dX11_served_6 (by decide) (fun c2 => ?_) (fun c2 => ?_)
    · replace hf := (if_pos c2).symm.trans hf
      refine r_iload_n dX11_served_16 rfl ?_
      refine r_if_ge (tgt := 27) dX11_served_17 (by decide) (fun c3 => ?_) (fun c3 => ?_)
      · replace hf := (if_pos c3).symm.trans hf
        refine r_iload_n dX11_served_27 rfl ?_
        refine r_bipush (v := 60) dX11_served_28 (by decide) ?_
        refine r_icmp_le (tgt := 40) dX11_served_30 (by decide) (fun c4 => ?_) (fun c4 => ?_)
        · replace hf := (if_pos c4).symm.trans hf
          refine r_aload_n dX11_served_40 rfl ?_
          refine r_iload_n dX11_served_41 rfl ?_
          refine r_aload_n dX11_served_42 rfl ?_
          obtain ⟨x5, h6, hf⟩ := bnd hf
          refine r_getR dX11_served_43 fs11_10_10 rfl h6 ?_
          obtain ⟨x7, h8, hf⟩ := bnd hf
          refine r_getI dX11_served_46 fs11_124_6 rfl h8 ?_
          refine r_aload_n dX11_served_49 rfl ?_
          obtain ⟨x9, h10, hf⟩ := bnd hf
          refine r_getR dX11_served_50 fs11_25_10 rfl h10 ?_
          obtain ⟨q11, h12, hf⟩ := bnd hf
          refine r_callVv (st := []) (as := [.int l1, .int x7, .ref x9]) dX11_served_53 ms_X11_passInMind ⟨rfl, w3_108, w3_110, w0_18⟩ (ok_X11_passInMind h12) (c_X11_passInMind h12) rfl ⟨by omega, by omega⟩ (Nat.le_of_ble_eq_true rfl) (by decide) (by decide) rfl ?_
          refine r_iload_n dX11_served_56 rfl ?_
          refine r_if_ne (tgt := 70) dX11_served_57 (by decide) (fun c13 => ?_) (fun c13 => ?_)
          · replace hf := (if_neg c13).symm.trans hf
            refine r_aload_n dX11_served_70 rfl ?_
            obtain ⟨x14, h15, hf⟩ := bnd hf
            refine r_getR dX11_served_71 fs11_25_10 rfl h15 ?_
            obtain ⟨x16, h17, hf⟩ := bnd hf
            refine r_getI dX11_served_74 fs11_193_9 rfl h17 ?_
            refine r_lvs (lv' := [.null, .null, .null]) ⟨Or.inr rfl, Or.inr rfl, Or.inr rfl, trivial⟩ ?_
            exact t_X11_served_77 _ _ _ hf
          · replace hf := (if_pos c13).symm.trans hf
            refine r_aload_n dX11_served_60 rfl ?_
            obtain ⟨x18, h19, hf⟩ := bnd hf
            refine r_getR dX11_served_61 fs11_25_10 rfl h19 ?_
            obtain ⟨x20, h21, hf⟩ := bnd hf
            refine r_getI dX11_served_64 fs11_176_9 rfl h21 ?_
            refine r_goto (tgt := 77) dX11_served_67 (by decide) ?_
            refine r_lvs (lv' := [.null, .null, .null]) ⟨Or.inr rfl, Or.inr rfl, Or.inr rfl, trivial⟩ ?_
            exact t_X11_served_77 _ _ _ hf
        · replace hf := (if_neg c4).symm.trans hf
          refine r_aload_n dX11_served_33 rfl ?_
          refine r_bipush (v := (-6)) dX11_served_34 (by decide) ?_
          obtain ⟨q22, h23, hf⟩ := bnd hf
          refine r_callVi (st := []) (as := [.int (-6)]) dX11_served_36 ms_X11_refuse ⟨rfl, w1_214, w1_216, w0_0⟩ (ok_X11_refuse h23) (c_X11_refuse h23) rfl ⟨by omega, by omega⟩ (Nat.le_of_ble_eq_true rfl) (by decide) (by decide) rfl ?_
          have hz := congrArg eI (Option.some.inj hf)
          exact r_ireturn dX11_served_39 rfl (Nat.le_of_ble_eq_true rfl) (Nat.le_of_ble_eq_true rfl) hz
      · replace hf := (if_neg c3).symm.trans hf
        refine r_aload_n dX11_served_20 rfl ?_
        refine r_bipush (v := (-4)) dX11_served_21 (by decide) ?_
        obtain ⟨q24, h25, hf⟩ := bnd hf
        refine r_callVi (st := []) (as := [.int (-4)]) dX11_served_23 ms_X11_refuse ⟨rfl, w1_214, w1_216, w0_0⟩ (ok_X11_refuse h25) (c_X11_refuse h25) rfl ⟨by omega, by omega⟩ (Nat.le_of_ble_eq_true rfl) (by decide) (by decide) rfl ?_
        have hz := congrArg eI (Option.some.inj hf)
        exact r_ireturn dX11_served_26 rfl (Nat.le_of_ble_eq_true rfl) (Nat.le_of_ble_eq_true rfl) hz
    · replace hf := (if_neg c2).symm.trans hf
      refine r_lvs (lv' := [.ref l0, .null, .null]) ⟨Or.inl rfl, Or.inr rfl, Or.inr rfl, trivial⟩ ?_
      exact t_X11_served_9 _ _ _ hf
def f_X11_drift_9 (S : Mm) (l0 : Nat) : Option (Int32 × Mm) := (f_X11_refuse S l0 (-2)).bind fun q1 => some (q1.1, q1.2)
def f_X11_drift_97 (S : Mm) (s0 : Int32) : Option (Int32 × Mm) := some (s0, S)
def f_X11_drift_53 : Nat → Mm → Nat → Int32 → Int32 → Option (Int32 × Mm)
  | 0, _, _, _, _ => none
  | n + 1, S, l0, l1, l2 => (if 100 < l2 then some ((-9), S) else (gR S 10 l0 1).bind fun x2 => (f_X6_richest S x2).bind fun q4 => (gR q4.2 10 l0 1).bind fun x6 => (gR q4.2 10 l0 4).bind fun x8 => (f_X6_passWeek q4.2 x6 x8).bind fun q10 => (gR q10 10 l0 4).bind fun x12 => (gI q10 9 x12 1).bind fun x14 => (if x14 = 0 then (if l1 = 0 then f_X11_drift_97 q10 l2 else f_X11_drift_97 q10 q4.1) else (f_X11_drift_53 n) q10 l0 l1 (l2 + 1)))
def f_X11_drift (S : Mm) (l0 : Nat) (l1 : Int32) : Option (Int32 × Mm) := if okc S l0 10 = true then (if l1 < 0 then f_X11_drift_9 S l0 else (if l1 ≤ 1 then (gR S 10 l0 0).bind fun x3 => (gI S 6 x3 1).bind fun x5 => (if x5 = 0 then (f_X11_refuse S l0 (-3)).bind fun q18 => some (q18.1, q18.2) else (gR S 10 l0 1).bind fun x8 => (gR S 10 l0 0).bind fun x10 => (f_X6_copyFrom S x8 x10).bind fun q12 => (gR q12 10 l0 4).bind fun x14 => (f_X9_clear q12 x14).bind fun q16 => f_X11_drift_53 FU q16 l0 l1 0) else f_X11_drift_9 S l0)) else none
set_option maxRecDepth 20000 in
theorem t_X11_drift_9 {G : Gt} {l : Launch} (S : Mm) (l0 : Nat) (T : (Int32 × Mm)) (hf : f_X11_drift_9 S l0 = some T) : Sat G l yX11_drift cX11_drift 4 (some .int) 5 0 0 0 0 9 [.ref l0, .null, .null, .null] [] S (eI T) := by
  unfold f_X11_drift_9 at hf
  refine r_aload_n dX11_drift_9 rfl ?_
  refine r_bipush (v := (-2)) dX11_drift_10 (by decide) ?_
  obtain ⟨q1, h2, hf⟩ := bnd hf
  refine r_callVi (st := []) (as := [.int (-2)]) dX11_drift_12 ms_X11_refuse ⟨rfl, w1_214, w1_216, w0_0⟩ (ok_X11_refuse h2) (c_X11_refuse h2) rfl ⟨by omega, by omega⟩ (Nat.le_of_ble_eq_true rfl) (by decide) (by decide) rfl ?_
  have hz := congrArg eI (Option.some.inj hf)
  exact r_ireturn dX11_drift_15 rfl (Nat.le_of_ble_eq_true rfl) (Nat.le_of_ble_eq_true rfl) hz
set_option maxRecDepth 20000 in
theorem t_X11_drift_97 {G : Gt} {l : Launch} (S : Mm) (s0 : Int32) (T : (Int32 × Mm)) (hf : f_X11_drift_97 S s0 = some T) : Sat G l yX11_drift cX11_drift 4 (some .int) 5 0 0 0 0 97 [.null, .null, .null, .null] [.int s0] S (eI T) := by
  unfold f_X11_drift_97 at hf
  have hz := congrArg eI (Option.some.inj hf)
  exact r_ireturn dX11_drift_97 rfl (Nat.le_of_ble_eq_true rfl) (Nat.le_of_ble_eq_true rfl) hz
set_option maxRecDepth 20000 in
theorem t_X11_drift_53 {G : Gt} {l : Launch} : ∀ (n : Nat) (S : Mm) (l0 : Nat) (l1 : Int32) (l2 : Int32) (T : (Int32 × Mm)), f_X11_drift_53 n S l0 l1 l2 = some T → Sat G l yX11_drift cX11_drift 4 (some .int) 5 0 0 0 0 53 [.ref l0, .int l1, .int l2, .null] [] S (eI T) := by
  intro n
  induction n with
  | zero =>
    intro S l0 l1 l2 T hf
    rw [f_X11_drift_53] at hf
    cases hf
  | succ n ih =>
    intro S l0 l1 l2 T hf
    rw [f_X11_drift_53] at hf
    refine r_iload_n dX11_drift_53 rfl ?_
    refine r_bipush (v := 100) dX11_drift_54 (by decide) ?_
    refine r_icmp_gt (tgt := 104) dX11_drift_56 (by decide) (fun c1 => ?_) (fun c1 => ?_)
    · replace hf := (if_pos c1).symm.trans hf
      refine r_bipush (v := (-9)) dX11_drift_104 (by decide) ?_
      have hz := congrArg eI (Option.some.inj hf)
      exact r_ireturn dX11_drift_106 rfl (Nat.le_of_ble_eq_true rfl) (Nat.le_of_ble_eq_true rfl) hz
    · replace hf := (if_neg c1).symm.trans hf
      refine r_aload_n dX11_drift_59 rfl ?_
      obtain ⟨x2, h3, hf⟩ := bnd hf
      refine r_getR dX11_drift_60 fs11_16_10 rfl h3 ?_
      obtain ⟨q4, h5, hf⟩ := bnd hf
      refine r_callVi (st := []) (as := []) dX11_drift_63 ms_X6_richest ⟨rfl, w3_120, w3_121, w3_122⟩ (ok_X6_richest h5) (c_X6_richest h5) rfl ⟨by omega, by omega⟩ (Nat.le_of_ble_eq_true rfl) (by decide) (by decide) rfl ?_
      refine r_istore_n (lv' := [.ref l0, .int l1, .int l2, .int q4.1]) dX11_drift_66 (by decide) rfl rfl ?_
      refine r_aload_n dX11_drift_67 rfl ?_
      obtain ⟨x6, h7, hf⟩ := bnd hf
      refine r_getR dX11_drift_68 fs11_16_10 rfl h7 ?_
      refine r_aload_n dX11_drift_71 rfl ?_
      obtain ⟨x8, h9, hf⟩ := bnd hf
      refine r_getR dX11_drift_72 fs11_25_10 rfl h9 ?_
      obtain ⟨q10, h11, hf⟩ := bnd hf
      refine r_callVv (st := []) (as := [.ref x8]) dX11_drift_75 ms_X6_passWeek ⟨rfl, w3_33, w3_34, w3_35⟩ (ok_X6_passWeek h11) (c_X6_passWeek h11) rfl ⟨by omega, by omega⟩ (Nat.le_of_ble_eq_true rfl) (by decide) (by decide) rfl ?_
      refine r_aload_n dX11_drift_78 rfl ?_
      obtain ⟨x12, h13, hf⟩ := bnd hf
      refine r_getR dX11_drift_79 fs11_25_10 rfl h13 ?_
      obtain ⟨x14, h15, hf⟩ := bnd hf
      refine r_getI dX11_drift_82 fs11_199_9 rfl h15 ?_
      refine r_if_ne (tgt := 98) dX11_drift_85 (by decide) (fun c16 => ?_) (fun c16 => ?_)
      · replace hf := (if_neg c16).symm.trans hf
        refine r_iinc (v := 1) (lv' := [.ref l0, .int l1, .int (l2 + 1), .int q4.1]) dX11_drift_98 rfl (by decide) (by decide) rfl rfl ?_
        refine r_goto (tgt := 53) dX11_drift_101 (by decide) ?_
        refine r_lvs (lv' := [.ref l0, .int l1, .int (l2 + 1), .null]) ⟨Or.inl rfl, Or.inl rfl, Or.inl rfl, Or.inr rfl, trivial⟩ ?_
        exact ih _ _ _ _ _ hf
      · replace hf := (if_pos c16).symm.trans hf
        refine r_iload_n dX11_drift_88 rfl ?_
        refine r_if_ne (tgt := 96) dX11_drift_89 (by decide) (fun c17 => ?_) (fun c17 => ?_)
        · replace hf := (if_neg c17).symm.trans hf
          refine r_iload_n dX11_drift_96 rfl ?_
          refine r_lvs (lv' := [.null, .null, .null, .null]) ⟨Or.inr rfl, Or.inr rfl, Or.inr rfl, Or.inr rfl, trivial⟩ ?_
          exact t_X11_drift_97 _ _ _ hf
        · replace hf := (if_pos c17).symm.trans hf
          refine r_iload_n dX11_drift_92 rfl ?_
          refine r_goto (tgt := 97) dX11_drift_93 (by decide) ?_
          refine r_lvs (lv' := [.null, .null, .null, .null]) ⟨Or.inr rfl, Or.inr rfl, Or.inr rfl, Or.inr rfl, trivial⟩ ?_
          exact t_X11_drift_97 _ _ _ hf
set_option maxRecDepth 20000 in
theorem ok_X11_drift {S : Mm} {l0 : Nat} {l1 : Int32} {T : (Int32 × Mm)} (hf : f_X11_drift S l0 l1 = some T) : okc S l0 10 = true := (oif hf).1
set_option maxRecDepth 20000 in
theorem c_X11_drift {G : Gt} {l : Launch} {S : Mm} {l0 : Nat} {l1 : Int32} {T : (Int32 × Mm)} (hf : f_X11_drift S l0 l1 = some T) : CC G l yX11_drift cX11_drift 4 (some .int) 5 0 0 [.ref l0, .int l1] S (eI T) := by
  unfold f_X11_drift at hf
  replace hf := (oif hf).2
  refine r_body (by decide) rfl (Nat.le_of_ble_eq_true rfl) (by simp) ?_
  refine r_iload_n dX11_drift_0 rfl ?_
  refine r_if_lt (tgt := 9) dX11_drift_1 (by decide) (fun c1 => ?_) (fun c1 => ?_)
  · replace hf := (if_pos c1).symm.trans hf
    refine r_lvs (lv' := [.ref l0, .null, .null, .null]) ⟨Or.inl rfl, Or.inr rfl, Or.inl rfl, Or.inl rfl, trivial⟩ ?_
    exact t_X11_drift_9 _ _ _ hf
  · replace hf := (if_neg c1).symm.trans hf
    refine r_iload_n dX11_drift_4 rfl ?_
    refine r_iconst (v := 1) dX11_drift_5 (by decide) ?_
    refine r_icmp_le (tgt := 16) dX11_drift_6 (by decide) (fun c2 => ?_) (fun c2 => ?_)
    · replace hf := (if_pos c2).symm.trans hf
      refine r_aload_n dX11_drift_16 rfl ?_
      obtain ⟨x3, h4, hf⟩ := bnd hf
      refine r_getR dX11_drift_17 fs11_10_10 rfl h4 ?_
      obtain ⟨x5, h6, hf⟩ := bnd hf
      refine r_getI dX11_drift_20 fs11_134_6 rfl h6 ?_
      refine r_if_ne (tgt := 33) dX11_drift_23 (by decide) (fun c7 => ?_) (fun c7 => ?_)
      · replace hf := (if_neg c7).symm.trans hf
        refine r_aload_n dX11_drift_33 rfl ?_
        obtain ⟨x8, h9, hf⟩ := bnd hf
        refine r_getR dX11_drift_34 fs11_16_10 rfl h9 ?_
        refine r_aload_n dX11_drift_37 rfl ?_
        obtain ⟨x10, h11, hf⟩ := bnd hf
        refine r_getR dX11_drift_38 fs11_10_10 rfl h11 ?_
        obtain ⟨q12, h13, hf⟩ := bnd hf
        refine r_callVv (st := []) (as := [.ref x10]) dX11_drift_41 ms_X6_copyFrom ⟨rfl, w1_231, w1_232, w1_233⟩ (ok_X6_copyFrom h13) (c_X6_copyFrom h13) rfl ⟨by omega, by omega⟩ (Nat.le_of_ble_eq_true rfl) (by decide) (by decide) rfl ?_
        refine r_aload_n dX11_drift_44 rfl ?_
        obtain ⟨x14, h15, hf⟩ := bnd hf
        refine r_getR dX11_drift_45 fs11_25_10 rfl h15 ?_
        obtain ⟨q16, h17, hf⟩ := bnd hf
        refine r_callVv (st := []) (as := []) dX11_drift_48 ms_X9_clear ⟨rfl, w3_25, w3_26, w3_27⟩ (ok_X9_clear h17) (c_X9_clear h17) rfl ⟨by omega, by omega⟩ (Nat.le_of_ble_eq_true rfl) (by decide) (by decide) rfl ?_
        refine r_iconst (v := 0) dX11_drift_51 (by decide) ?_
        refine r_istore_n (lv' := [.ref l0, .int l1, .int 0, .null]) dX11_drift_52 (by decide) rfl rfl ?_
        exact t_X11_drift_53 FU _ _ _ _ _ hf
      · replace hf := (if_pos c7).symm.trans hf
        refine r_aload_n dX11_drift_26 rfl ?_
        refine r_bipush (v := (-3)) dX11_drift_27 (by decide) ?_
        obtain ⟨q18, h19, hf⟩ := bnd hf
        refine r_callVi (st := []) (as := [.int (-3)]) dX11_drift_29 ms_X11_refuse ⟨rfl, w1_214, w1_216, w0_0⟩ (ok_X11_refuse h19) (c_X11_refuse h19) rfl ⟨by omega, by omega⟩ (Nat.le_of_ble_eq_true rfl) (by decide) (by decide) rfl ?_
        have hz := congrArg eI (Option.some.inj hf)
        exact r_ireturn dX11_drift_32 rfl (Nat.le_of_ble_eq_true rfl) (Nat.le_of_ble_eq_true rfl) hz
    · replace hf := (if_neg c2).symm.trans hf
      refine r_lvs (lv' := [.ref l0, .null, .null, .null]) ⟨Or.inl rfl, Or.inr rfl, Or.inl rfl, Or.inl rfl, trivial⟩ ?_
      exact t_X11_drift_9 _ _ _ hf
def f_X11_votes_112 (k70 : Mm → Nat → Int32 → Int32 → Option (Int32 × Mm)) (S : Mm) (l0 : Nat) (l3 : Int32) (l4 : Int32) : Option (Int32 × Mm) := k70 S l0 l3 (l4 + 1)
def f_X11_votes_70 : Nat → Mm → Nat → Int32 → Int32 → Option (Int32 × Mm)
  | 0, _, _, _, _ => none
  | n + 1, S, l0, l3, l4 => (gR S 10 l0 0).bind fun x1 => (gI S 6 x1 1).bind fun x3 => (if x3 ≤ l4 then some (l3, S) else (gR S 10 l0 5).bind fun x6 => (gR S 9 x6 3).bind fun x8 => (aI S x8 l4).bind fun x10 => (gR S 10 l0 4).bind fun x12 => (gR S 9 x12 3).bind fun x14 => (aI S x14 l4).bind fun x16 => (if x10 ≤ x16 then f_X11_votes_112 (f_X11_votes_70 n) S l0 l3 l4 else f_X11_votes_112 (f_X11_votes_70 n) S l0 (l3 ||| (1 <<< (l4 &&& 31))) l4))
def f_X11_votes (S : Mm) (l0 : Nat) (l1 : Int32) (l2 : Int32) : Option (Int32 × Mm) := if okc S l0 10 = true then (f_X11_isLaw S l1).bind fun q1 => (if q1.1 = 0 then (f_X11_refuse q1.2 l0 (-2)).bind fun q22 => some (q22.1, q22.2) else (if 1 ≤ l2 then (if l2 ≤ 30 then (gR q1.2 10 l0 0).bind fun x6 => (gI q1.2 6 x6 6).bind fun x8 => (gR q1.2 10 l0 4).bind fun x10 => (f_X11_passInMind q1.2 l0 l2 x8 x10).bind fun q12 => (gR q12 10 l0 5).bind fun x14 => (f_X11_passInMind q12 l0 l2 l1 x14).bind fun q16 => f_X11_votes_70 FU q16 l0 0 0 else (f_X11_refuse q1.2 l0 (-6)).bind fun q18 => some (q18.1, q18.2)) else (f_X11_refuse q1.2 l0 (-4)).bind fun q20 => some (q20.1, q20.2))) else none
set_option maxRecDepth 20000 in
theorem t_X11_votes_112 {G : Gt} {l : Launch} (k70 : Mm → Nat → Int32 → Int32 → Option (Int32 × Mm)) (hk70 : ∀ (S : Mm) (l0 : Nat) (l3 : Int32) (l4 : Int32) (T : (Int32 × Mm)), k70 S l0 l3 l4 = some T → Sat G l yX11_votes cX11_votes 5 (some .int) 6 0 0 0 0 70 [.ref l0, .null, .null, .int l3, .int l4] [] S (eI T)) (S : Mm) (l0 : Nat) (l3 : Int32) (l4 : Int32) (T : (Int32 × Mm)) (hf : f_X11_votes_112 k70 S l0 l3 l4 = some T) : Sat G l yX11_votes cX11_votes 5 (some .int) 6 0 0 0 0 112 [.ref l0, .null, .null, .int l3, .int l4] [] S (eI T) := by
  unfold f_X11_votes_112 at hf
  refine r_iinc (v := 1) (lv' := [.ref l0, .null, .null, .int l3, .int (l4 + 1)]) dX11_votes_112 rfl (by decide) (by decide) rfl rfl ?_
  refine r_goto (tgt := 70) dX11_votes_115 (by decide) ?_
  exact hk70 _ _ _ _ _ hf
set_option maxRecDepth 20000 in
theorem t_X11_votes_70 {G : Gt} {l : Launch} : ∀ (n : Nat) (S : Mm) (l0 : Nat) (l3 : Int32) (l4 : Int32) (T : (Int32 × Mm)), f_X11_votes_70 n S l0 l3 l4 = some T → Sat G l yX11_votes cX11_votes 5 (some .int) 6 0 0 0 0 70 [.ref l0, .null, .null, .int l3, .int l4] [] S (eI T) := by
  intro n
  induction n with
  | zero =>
    intro S l0 l3 l4 T hf
    rw [f_X11_votes_70] at hf
    cases hf
  | succ n ih =>
    intro S l0 l3 l4 T hf
    rw [f_X11_votes_70] at hf
    refine r_iload dX11_votes_70 rfl ?_
    refine r_aload_n dX11_votes_72 rfl ?_
    obtain ⟨x1, h2, hf⟩ := bnd hf
    refine r_getR dX11_votes_73 fs11_10_10 rfl h2 ?_
    obtain ⟨x3, h4, hf⟩ := bnd hf
    refine r_getI dX11_votes_76 fs11_134_6 rfl h4 ?_
    refine r_icmp_ge (tgt := 118) dX11_votes_79 (by decide) (fun c5 => ?_) (fun c5 => ?_)
    · replace hf := (if_pos c5).symm.trans hf
      refine r_iload_n dX11_votes_118 rfl ?_
      have hz := congrArg eI (Option.some.inj hf)
      exact r_ireturn dX11_votes_119 rfl (Nat.le_of_ble_eq_true rfl) (Nat.le_of_ble_eq_true rfl) hz
    · replace hf := (if_neg c5).symm.trans hf
      refine r_aload_n dX11_votes_82 rfl ?_
      obtain ⟨x6, h7, hf⟩ := bnd hf
      refine r_getR dX11_votes_83 fs11_29_10 rfl h7 ?_
      obtain ⟨x8, h9, hf⟩ := bnd hf
      refine r_getR dX11_votes_86 fs11_202_9 rfl h9 ?_
      refine r_iload dX11_votes_89 rfl ?_
      obtain ⟨x10, h11, hf⟩ := bnd hf
      refine r_iaload dX11_votes_91 h11 ?_
      refine r_aload_n dX11_votes_92 rfl ?_
      obtain ⟨x12, h13, hf⟩ := bnd hf
      refine r_getR dX11_votes_93 fs11_25_10 rfl h13 ?_
      obtain ⟨x14, h15, hf⟩ := bnd hf
      refine r_getR dX11_votes_96 fs11_202_9 rfl h15 ?_
      refine r_iload dX11_votes_99 rfl ?_
      obtain ⟨x16, h17, hf⟩ := bnd hf
      refine r_iaload dX11_votes_101 h17 ?_
      refine r_icmp_le (tgt := 112) dX11_votes_102 (by decide) (fun c18 => ?_) (fun c18 => ?_)
      · replace hf := (if_pos c18).symm.trans hf
        exact t_X11_votes_112 (f_X11_votes_70 n) ih _ _ _ _ _ hf
      · replace hf := (if_neg c18).symm.trans hf
        refine r_iload_n dX11_votes_105 rfl ?_
        refine r_iconst (v := 1) dX11_votes_106 (by decide) ?_
        refine r_iload dX11_votes_107 rfl ?_
        refine r_ishl dX11_votes_109 ?_
        refine r_ior dX11_votes_110 ?_
        refine r_istore_n (lv' := [.ref l0, .null, .null, .int (l3 ||| (1 <<< (l4 &&& 31))), .int l4]) dX11_votes_111 (by decide) rfl rfl ?_
        exact t_X11_votes_112 (f_X11_votes_70 n) ih _ _ _ _ _ hf
set_option maxRecDepth 20000 in
theorem ok_X11_votes {S : Mm} {l0 : Nat} {l1 : Int32} {l2 : Int32} {T : (Int32 × Mm)} (hf : f_X11_votes S l0 l1 l2 = some T) : okc S l0 10 = true := (oif hf).1
set_option maxRecDepth 20000 in
theorem c_X11_votes {G : Gt} {l : Launch} {S : Mm} {l0 : Nat} {l1 : Int32} {l2 : Int32} {T : (Int32 × Mm)} (hf : f_X11_votes S l0 l1 l2 = some T) : CC G l yX11_votes cX11_votes 5 (some .int) 6 0 0 [.ref l0, .int l1, .int l2] S (eI T) := by
  unfold f_X11_votes at hf
  replace hf := (oif hf).2
  refine r_body (by decide) rfl (Nat.le_of_ble_eq_true rfl) (by simp) ?_
  refine r_iload_n dX11_votes_0 rfl ?_
  obtain ⟨q1, h2, hf⟩ := bnd hf
  refine r_callSi (st := []) (as := [.int l1]) dX11_votes_1 ms_X11_isLaw ⟨w2_210, w2_120⟩ (c_X11_isLaw h2) rfl ⟨by omega, by omega⟩ (Nat.le_of_ble_eq_true rfl) (by decide) (by decide) rfl ?_
  refine r_if_ne (tgt := 14) dX11_votes_4 (by decide) (fun c3 => ?_) (fun c3 => ?_)
  · replace hf := (if_neg c3).symm.trans hf
    refine r_iload_n dX11_votes_14 rfl ?_
    refine r_iconst (v := 1) dX11_votes_15 (by decide) ?_
    refine r_icmp_ge (tgt := 26) dX11_votes_16 (by decide) (fun c4 => ?_) (fun c4 => ?_)
    · replace hf := (if_pos c4).symm.trans hf
      refine r_iload_n dX11_votes_26 rfl ?_
      refine r_bipush (v := 30) dX11_votes_27 (by decide) ?_
      refine r_icmp_le (tgt := 39) dX11_votes_29 (by decide) (fun c5 => ?_) (fun c5 => ?_)
      · replace hf := (if_pos c5).symm.trans hf
        refine r_aload_n dX11_votes_39 rfl ?_
        refine r_iload_n dX11_votes_40 rfl ?_
        refine r_aload_n dX11_votes_41 rfl ?_
        obtain ⟨x6, h7, hf⟩ := bnd hf
        refine r_getR dX11_votes_42 fs11_10_10 rfl h7 ?_
        obtain ⟨x8, h9, hf⟩ := bnd hf
        refine r_getI dX11_votes_45 fs11_124_6 rfl h9 ?_
        refine r_aload_n dX11_votes_48 rfl ?_
        obtain ⟨x10, h11, hf⟩ := bnd hf
        refine r_getR dX11_votes_49 fs11_25_10 rfl h11 ?_
        obtain ⟨q12, h13, hf⟩ := bnd hf
        refine r_callVv (st := []) (as := [.int l2, .int x8, .ref x10]) dX11_votes_52 ms_X11_passInMind ⟨rfl, w3_108, w3_110, w0_18⟩ (ok_X11_passInMind h13) (c_X11_passInMind h13) rfl ⟨by omega, by omega⟩ (Nat.le_of_ble_eq_true rfl) (by decide) (by decide) rfl ?_
        refine r_aload_n dX11_votes_55 rfl ?_
        refine r_iload_n dX11_votes_56 rfl ?_
        refine r_iload_n dX11_votes_57 rfl ?_
        refine r_aload_n dX11_votes_58 rfl ?_
        obtain ⟨x14, h15, hf⟩ := bnd hf
        refine r_getR dX11_votes_59 fs11_29_10 rfl h15 ?_
        obtain ⟨q16, h17, hf⟩ := bnd hf
        refine r_callVv (st := []) (as := [.int l2, .int l1, .ref x14]) dX11_votes_62 ms_X11_passInMind ⟨rfl, w3_108, w3_110, w0_18⟩ (ok_X11_passInMind h17) (c_X11_passInMind h17) rfl ⟨by omega, by omega⟩ (Nat.le_of_ble_eq_true rfl) (by decide) (by decide) rfl ?_
        refine r_iconst (v := 0) dX11_votes_65 (by decide) ?_
        refine r_istore_n (lv' := [.ref l0, .int l1, .int l2, .int 0, .null]) dX11_votes_66 (by decide) rfl rfl ?_
        refine r_iconst (v := 0) dX11_votes_67 (by decide) ?_
        refine r_istore (lv' := [.ref l0, .int l1, .int l2, .int 0, .int 0]) dX11_votes_68 (by decide) rfl rfl ?_
        refine r_lvs (lv' := [.ref l0, .null, .null, .int 0, .int 0]) ⟨Or.inl rfl, Or.inr rfl, Or.inr rfl, Or.inl rfl, Or.inl rfl, trivial⟩ ?_
        exact t_X11_votes_70 FU _ _ _ _ _ hf
      · replace hf := (if_neg c5).symm.trans hf
        refine r_aload_n dX11_votes_32 rfl ?_
        refine r_bipush (v := (-6)) dX11_votes_33 (by decide) ?_
        obtain ⟨q18, h19, hf⟩ := bnd hf
        refine r_callVi (st := []) (as := [.int (-6)]) dX11_votes_35 ms_X11_refuse ⟨rfl, w1_214, w1_216, w0_0⟩ (ok_X11_refuse h19) (c_X11_refuse h19) rfl ⟨by omega, by omega⟩ (Nat.le_of_ble_eq_true rfl) (by decide) (by decide) rfl ?_
        have hz := congrArg eI (Option.some.inj hf)
        exact r_ireturn dX11_votes_38 rfl (Nat.le_of_ble_eq_true rfl) (Nat.le_of_ble_eq_true rfl) hz
    · replace hf := (if_neg c4).symm.trans hf
      refine r_aload_n dX11_votes_19 rfl ?_
      refine r_bipush (v := (-4)) dX11_votes_20 (by decide) ?_
      obtain ⟨q20, h21, hf⟩ := bnd hf
      refine r_callVi (st := []) (as := [.int (-4)]) dX11_votes_22 ms_X11_refuse ⟨rfl, w1_214, w1_216, w0_0⟩ (ok_X11_refuse h21) (c_X11_refuse h21) rfl ⟨by omega, by omega⟩ (Nat.le_of_ble_eq_true rfl) (by decide) (by decide) rfl ?_
      have hz := congrArg eI (Option.some.inj hf)
      exact r_ireturn dX11_votes_25 rfl (Nat.le_of_ble_eq_true rfl) (Nat.le_of_ble_eq_true rfl) hz
  · replace hf := (if_pos c3).symm.trans hf
    refine r_aload_n dX11_votes_7 rfl ?_
    refine r_bipush (v := (-2)) dX11_votes_8 (by decide) ?_
    obtain ⟨q22, h23, hf⟩ := bnd hf
    refine r_callVi (st := []) (as := [.int (-2)]) dX11_votes_10 ms_X11_refuse ⟨rfl, w1_214, w1_216, w0_0⟩ (ok_X11_refuse h23) (c_X11_refuse h23) rfl ⟨by omega, by omega⟩ (Nat.le_of_ble_eq_true rfl) (by decide) (by decide) rfl ?_
    have hz := congrArg eI (Option.some.inj hf)
    exact r_ireturn dX11_votes_13 rfl (Nat.le_of_ble_eq_true rfl) (Nat.le_of_ble_eq_true rfl) hz
def f_X11_rings_9 (S : Mm) (l0 : Nat) : Option (Int32 × Mm) := (f_X11_refuse S l0 (-2)).bind fun q1 => some (q1.1, q1.2)
def f_X11_rings_67 (S : Mm) (s0 : Int32) : Option (Int32 × Mm) := some (s0, S)
def f_X11_rings (S : Mm) (l0 : Nat) (l1 : Int32) : Option (Int32 × Mm) := if okc S l0 10 = true then (if l1 < 0 then f_X11_rings_9 S l0 else (if l1 ≤ 1 then (gR S 10 l0 1).bind fun x3 => (gR S 10 l0 0).bind fun x5 => (f_X6_copyFrom S x3 x5).bind fun q7 => (gR q7 10 l0 1).bind fun x9 => (gR q7 6 x9 5).bind fun x11 => (f_X1_strikeRings q7 x11).bind fun q13 => (if l1 = 0 then f_X11_rings_67 q13.2 q13.1 else (gR q13.2 10 l0 0).bind fun x16 => (gR q13.2 6 x16 5).bind fun x18 => (f_X1_total q13.2 x18).bind fun q20 => (gR q20.2 10 l0 1).bind fun x22 => (gR q20.2 6 x22 5).bind fun x24 => (f_X1_total q20.2 x24).bind fun q26 => f_X11_rings_67 q26.2 (q20.1 - q26.1)) else f_X11_rings_9 S l0)) else none
set_option maxRecDepth 20000 in
theorem t_X11_rings_9 {G : Gt} {l : Launch} (S : Mm) (l0 : Nat) (T : (Int32 × Mm)) (hf : f_X11_rings_9 S l0 = some T) : Sat G l yX11_rings cX11_rings 3 (some .int) 3 0 0 0 0 9 [.ref l0, .null, .null] [] S (eI T) := by
  unfold f_X11_rings_9 at hf
  refine r_aload_n dX11_rings_9 rfl ?_
  refine r_bipush (v := (-2)) dX11_rings_10 (by decide) ?_
  obtain ⟨q1, h2, hf⟩ := bnd hf
  refine r_callVi (st := []) (as := [.int (-2)]) dX11_rings_12 ms_X11_refuse ⟨rfl, w1_214, w1_216, w0_0⟩ (ok_X11_refuse h2) (c_X11_refuse h2) rfl ⟨by omega, by omega⟩ (Nat.le_of_ble_eq_true rfl) (by decide) (by decide) rfl ?_
  have hz := congrArg eI (Option.some.inj hf)
  exact r_ireturn dX11_rings_15 rfl (Nat.le_of_ble_eq_true rfl) (Nat.le_of_ble_eq_true rfl) hz
set_option maxRecDepth 20000 in
theorem t_X11_rings_67 {G : Gt} {l : Launch} (S : Mm) (s0 : Int32) (T : (Int32 × Mm)) (hf : f_X11_rings_67 S s0 = some T) : Sat G l yX11_rings cX11_rings 3 (some .int) 3 0 0 0 0 67 [.null, .null, .null] [.int s0] S (eI T) := by
  unfold f_X11_rings_67 at hf
  have hz := congrArg eI (Option.some.inj hf)
  exact r_ireturn dX11_rings_67 rfl (Nat.le_of_ble_eq_true rfl) (Nat.le_of_ble_eq_true rfl) hz
set_option maxRecDepth 20000 in
theorem ok_X11_rings {S : Mm} {l0 : Nat} {l1 : Int32} {T : (Int32 × Mm)} (hf : f_X11_rings S l0 l1 = some T) : okc S l0 10 = true := (oif hf).1
set_option maxRecDepth 20000 in
theorem c_X11_rings {G : Gt} {l : Launch} {S : Mm} {l0 : Nat} {l1 : Int32} {T : (Int32 × Mm)} (hf : f_X11_rings S l0 l1 = some T) : CC G l yX11_rings cX11_rings 3 (some .int) 3 0 0 [.ref l0, .int l1] S (eI T) := by
  unfold f_X11_rings at hf
  replace hf := (oif hf).2
  refine r_body (by decide) rfl (Nat.le_of_ble_eq_true rfl) (by simp) ?_
  refine r_iload_n dX11_rings_0 rfl ?_
  refine r_if_lt (tgt := 9) dX11_rings_1 (by decide) (fun c1 => ?_) (fun c1 => ?_)
  · replace hf := (if_pos c1).symm.trans hf
    refine r_lvs (lv' := [.ref l0, .null, .null]) ⟨Or.inl rfl, Or.inr rfl, Or.inl rfl, trivial⟩ ?_
    exact t_X11_rings_9 _ _ _ hf
  · replace hf := (if_neg c1).symm.trans hf
    refine r_iload_n dX11_rings_4 rfl ?_
    refine r_iconst (v := 1) dX11_rings_5 (by decide) ?_
    refine r_icmp_le (tgt := 16) dX11_rings_6 (by decide) (fun c2 => ?_) (fun c2 => ?_)
    · replace hf := (if_pos c2).symm.trans hf
      refine r_aload_n dX11_rings_16 rfl ?_
      obtain ⟨x3, h4, hf⟩ := bnd hf
      refine r_getR dX11_rings_17 fs11_16_10 rfl h4 ?_
      refine r_aload_n dX11_rings_20 rfl ?_
      obtain ⟨x5, h6, hf⟩ := bnd hf
      refine r_getR dX11_rings_21 fs11_10_10 rfl h6 ?_
      obtain ⟨q7, h8, hf⟩ := bnd hf
      refine r_callVv (st := []) (as := [.ref x5]) dX11_rings_24 ms_X6_copyFrom ⟨rfl, w1_231, w1_232, w1_233⟩ (ok_X6_copyFrom h8) (c_X6_copyFrom h8) rfl ⟨by omega, by omega⟩ (Nat.le_of_ble_eq_true rfl) (by decide) (by decide) rfl ?_
      refine r_aload_n dX11_rings_27 rfl ?_
      obtain ⟨x9, h10, hf⟩ := bnd hf
      refine r_getR dX11_rings_28 fs11_16_10 rfl h10 ?_
      obtain ⟨x11, h12, hf⟩ := bnd hf
      refine r_getR dX11_rings_31 fs11_145_6 rfl h12 ?_
      obtain ⟨q13, h14, hf⟩ := bnd hf
      refine r_callVi (st := []) (as := []) dX11_rings_34 ms_X1_strikeRings ⟨rfl, w3_89, w3_90, w3_91⟩ (ok_X1_strikeRings h14) (c_X1_strikeRings h14) rfl ⟨by omega, by omega⟩ (Nat.le_of_ble_eq_true rfl) (by decide) (by decide) rfl ?_
      refine r_istore_n (lv' := [.ref l0, .int l1, .int q13.1]) dX11_rings_37 (by decide) rfl rfl ?_
      refine r_iload_n dX11_rings_38 rfl ?_
      refine r_if_ne (tgt := 46) dX11_rings_39 (by decide) (fun c15 => ?_) (fun c15 => ?_)
      · replace hf := (if_neg c15).symm.trans hf
        refine r_aload_n dX11_rings_46 rfl ?_
        obtain ⟨x16, h17, hf⟩ := bnd hf
        refine r_getR dX11_rings_47 fs11_10_10 rfl h17 ?_
        obtain ⟨x18, h19, hf⟩ := bnd hf
        refine r_getR dX11_rings_50 fs11_145_6 rfl h19 ?_
        obtain ⟨q20, h21, hf⟩ := bnd hf
        refine r_callVi (st := []) (as := []) dX11_rings_53 ms_X1_total ⟨rfl, w2_229, w2_230, w2_231⟩ (ok_X1_total h21) (c_X1_total h21) rfl ⟨by omega, by omega⟩ (Nat.le_of_ble_eq_true rfl) (by decide) (by decide) rfl ?_
        refine r_aload_n dX11_rings_56 rfl ?_
        obtain ⟨x22, h23, hf⟩ := bnd hf
        refine r_getR dX11_rings_57 fs11_16_10 rfl h23 ?_
        obtain ⟨x24, h25, hf⟩ := bnd hf
        refine r_getR dX11_rings_60 fs11_145_6 rfl h25 ?_
        obtain ⟨q26, h27, hf⟩ := bnd hf
        refine r_callVi (st := [.int q20.1]) (as := []) dX11_rings_63 ms_X1_total ⟨rfl, w2_229, w2_230, w2_231⟩ (ok_X1_total h27) (c_X1_total h27) rfl ⟨by omega, by omega⟩ (Nat.le_of_ble_eq_true rfl) (by decide) (by decide) rfl ?_
        refine r_isub dX11_rings_66 ?_
        refine r_lvs (lv' := [.null, .null, .null]) ⟨Or.inr rfl, Or.inr rfl, Or.inr rfl, trivial⟩ ?_
        exact t_X11_rings_67 _ _ _ hf
      · replace hf := (if_pos c15).symm.trans hf
        refine r_iload_n dX11_rings_42 rfl ?_
        refine r_goto (tgt := 67) dX11_rings_43 (by decide) ?_
        refine r_lvs (lv' := [.null, .null, .null]) ⟨Or.inr rfl, Or.inr rfl, Or.inr rfl, trivial⟩ ?_
        exact t_X11_rings_67 _ _ _ hf
    · replace hf := (if_neg c2).symm.trans hf
      refine r_lvs (lv' := [.ref l0, .null, .null]) ⟨Or.inl rfl, Or.inr rfl, Or.inl rfl, trivial⟩ ?_
      exact t_X11_rings_9 _ _ _ hf
def f_X11_nextSeed (S : Mm) (l0 : Int32) : Option (Int32 × Mm) := some (((l0 * 1103515245) + 12345), S)
set_option maxRecDepth 20000 in
theorem c_X11_nextSeed {G : Gt} {l : Launch} {S : Mm} {l0 : Int32} {T : (Int32 × Mm)} (hf : f_X11_nextSeed S l0 = some T) : CC G l yX11_nextSeed cX11_nextSeed 1 (some .int) 0 0 0 [.int l0] S (eI T) := by
  unfold f_X11_nextSeed at hf
  refine r_body (by decide) rfl (Nat.le_of_ble_eq_true rfl) (by simp) ?_
  refine r_iload_n dX11_nextSeed_0 rfl ?_
  refine r_ldc (v := 1103515245) dX11_nextSeed_1 w3_139 ?_
  refine r_imul dX11_nextSeed_3 ?_
  refine r_sipush (v := 12345) dX11_nextSeed_4 (by decide) ?_
  refine r_iadd dX11_nextSeed_7 ?_
  have hz := congrArg eI (Option.some.inj hf)
  exact r_ireturn dX11_nextSeed_8 rfl (Nat.le_of_ble_eq_true rfl) (Nat.le_of_ble_eq_true rfl) hz
def f_X11_drawBelow_17 (S : Mm) (s0 : Int32) : Option (Int32 × Mm) := some (s0, S)
def f_X11_drawBelow (S : Mm) (l0 : Int32) (l1 : Int32) : Option (Int32 × Mm) := (if l0 ≤ 0 then f_X11_drawBelow_17 S 0 else (rM ((l1 &&& 2147483647) / 65536) l0).bind fun x2 => f_X11_drawBelow_17 S x2)
set_option maxRecDepth 20000 in
theorem t_X11_drawBelow_17 {G : Gt} {l : Launch} (S : Mm) (s0 : Int32) (T : (Int32 × Mm)) (hf : f_X11_drawBelow_17 S s0 = some T) : Sat G l yX11_drawBelow cX11_drawBelow 2 (some .int) 0 0 0 0 0 17 [.null, .null] [.int s0] S (eI T) := by
  unfold f_X11_drawBelow_17 at hf
  have hz := congrArg eI (Option.some.inj hf)
  exact r_ireturn dX11_drawBelow_17 rfl (Nat.le_of_ble_eq_true rfl) (Nat.le_of_ble_eq_true rfl) hz
set_option maxRecDepth 20000 in
theorem c_X11_drawBelow {G : Gt} {l : Launch} {S : Mm} {l0 : Int32} {l1 : Int32} {T : (Int32 × Mm)} (hf : f_X11_drawBelow S l0 l1 = some T) : CC G l yX11_drawBelow cX11_drawBelow 2 (some .int) 0 0 0 [.int l0, .int l1] S (eI T) := by
  unfold f_X11_drawBelow at hf
  refine r_body (by decide) rfl (Nat.le_of_ble_eq_true rfl) (by simp) ?_
  refine r_iload_n dX11_drawBelow_0 rfl ?_
  refine r_if_le (tgt := 16) dX11_drawBelow_1 (by decide) (fun c1 => ?_) (fun c1 => ?_)
  · replace hf := (if_pos c1).symm.trans hf
    refine r_iconst (v := 0) dX11_drawBelow_16 (by decide) ?_
    refine r_lvs (lv' := [.null, .null]) ⟨Or.inr rfl, Or.inr rfl, trivial⟩ ?_
    exact t_X11_drawBelow_17 _ _ _ hf
  · replace hf := (if_neg c1).symm.trans hf
    refine r_iload_n dX11_drawBelow_4 rfl ?_
    refine r_ldc (v := 2147483647) dX11_drawBelow_5 w3_143 ?_
    refine r_iand dX11_drawBelow_7 ?_
    refine r_ldc (v := 65536) dX11_drawBelow_8 w3_144 ?_
    refine r_idiv dX11_drawBelow_10 (x := ((l1 &&& 2147483647) / 65536)) rfl ?_
    refine r_iload_n dX11_drawBelow_11 rfl ?_
    obtain ⟨x2, h3, hf⟩ := bnd hf
    refine r_irem dX11_drawBelow_12 h3 ?_
    refine r_goto (tgt := 17) dX11_drawBelow_13 (by decide) ?_
    refine r_lvs (lv' := [.null, .null]) ⟨Or.inr rfl, Or.inr rfl, trivial⟩ ?_
    exact t_X11_drawBelow_17 _ _ _ hf
def f_X11_seeds_139 (k61 : Mm → Nat → Int32 → Int32 → Int32 → Int32 → Option (Int32 × Mm)) (S : Mm) (l0 : Nat) (l1 : Int32) (l3 : Int32) (l4 : Int32) (l5 : Int32) : Option (Int32 × Mm) := k61 S l0 l1 l3 l4 (l5 + 1)
def f_X11_seeds_61 : Nat → Mm → Nat → Int32 → Int32 → Int32 → Int32 → Option (Int32 × Mm)
  | 0, _, _, _, _, _, _ => none
  | n + 1, S, l0, l1, l3, l4, l5 => (if l1 ≤ l5 then some (l3, S) else (f_X11_nextSeed S l4).bind fun q2 => (gR q2.2 10 l0 0).bind fun x4 => (gI q2.2 6 x4 1).bind fun x6 => (f_X11_drawBelow q2.2 x6 q2.1).bind fun q8 => (f_X11_nextSeed q8.2 q2.1).bind fun q10 => (gR q10.2 10 l0 0).bind fun x12 => (gI q10.2 6 x12 1).bind fun x14 => (f_X11_drawBelow q10.2 x14 q10.1).bind fun q16 => (f_X11_nextSeed q16.2 q10.1).bind fun q18 => (gR q18.2 10 l0 1).bind fun x20 => (f_X11_drawBelow q18.2 3 q18.1).bind fun q22 => (f_X6_trySale q22.2 x20 q8.1 q16.1 q22.1).bind fun q24 => (if q24.1 = 0 then f_X11_seeds_139 (f_X11_seeds_61 n) q24.2 l0 l1 l3 q18.1 l5 else f_X11_seeds_139 (f_X11_seeds_61 n) q24.2 l0 l1 (l3 + 1) q18.1 l5))
def f_X11_seeds (S : Mm) (l0 : Nat) (l1 : Int32) (l2 : Int32) : Option (Int32 × Mm) := if okc S l0 10 = true then (if 1 ≤ l1 then (if l1 ≤ 60 then (gR S 10 l0 0).bind fun x3 => (gI S 6 x3 1).bind fun x5 => (if x5 = 0 then (f_X11_refuse S l0 (-3)).bind fun q14 => some (q14.1, q14.2) else (gR S 10 l0 1).bind fun x8 => (gR S 10 l0 0).bind fun x10 => (f_X6_copyFrom S x8 x10).bind fun q12 => f_X11_seeds_61 FU q12 l0 l1 0 l2 0) else (f_X11_refuse S l0 (-6)).bind fun q16 => some (q16.1, q16.2)) else (f_X11_refuse S l0 (-4)).bind fun q18 => some (q18.1, q18.2)) else none
set_option maxRecDepth 20000 in
theorem t_X11_seeds_139 {G : Gt} {l : Launch} (k61 : Mm → Nat → Int32 → Int32 → Int32 → Int32 → Option (Int32 × Mm)) (hk61 : ∀ (S : Mm) (l0 : Nat) (l1 : Int32) (l3 : Int32) (l4 : Int32) (l5 : Int32) (T : (Int32 × Mm)), k61 S l0 l1 l3 l4 l5 = some T → Sat G l yX11_seeds cX11_seeds 8 (some .int) 3 0 0 0 0 61 [.ref l0, .int l1, .null, .int l3, .int l4, .int l5, .null, .null] [] S (eI T)) (S : Mm) (l0 : Nat) (l1 : Int32) (l3 : Int32) (l4 : Int32) (l5 : Int32) (T : (Int32 × Mm)) (hf : f_X11_seeds_139 k61 S l0 l1 l3 l4 l5 = some T) : Sat G l yX11_seeds cX11_seeds 8 (some .int) 3 0 0 0 0 139 [.ref l0, .int l1, .null, .int l3, .int l4, .int l5, .null, .null] [] S (eI T) := by
  unfold f_X11_seeds_139 at hf
  refine r_iinc (v := 1) (lv' := [.ref l0, .int l1, .null, .int l3, .int l4, .int (l5 + 1), .null, .null]) dX11_seeds_139 rfl (by decide) (by decide) rfl rfl ?_
  refine r_goto (tgt := 61) dX11_seeds_142 (by decide) ?_
  exact hk61 _ _ _ _ _ _ _ hf
set_option maxRecDepth 20000 in
theorem t_X11_seeds_61 {G : Gt} {l : Launch} : ∀ (n : Nat) (S : Mm) (l0 : Nat) (l1 : Int32) (l3 : Int32) (l4 : Int32) (l5 : Int32) (T : (Int32 × Mm)), f_X11_seeds_61 n S l0 l1 l3 l4 l5 = some T → Sat G l yX11_seeds cX11_seeds 8 (some .int) 3 0 0 0 0 61 [.ref l0, .int l1, .null, .int l3, .int l4, .int l5, .null, .null] [] S (eI T) := by
  intro n
  induction n with
  | zero =>
    intro S l0 l1 l3 l4 l5 T hf
    rw [f_X11_seeds_61] at hf
    cases hf
  | succ n ih =>
    intro S l0 l1 l3 l4 l5 T hf
    rw [f_X11_seeds_61] at hf
    refine r_iload dX11_seeds_61 rfl ?_
    refine r_iload_n dX11_seeds_63 rfl ?_
    refine r_icmp_ge (tgt := 145) dX11_seeds_64 (by decide) (fun c1 => ?_) (fun c1 => ?_)
    · replace hf := (if_pos c1).symm.trans hf
      refine r_iload_n dX11_seeds_145 rfl ?_
      have hz := congrArg eI (Option.some.inj hf)
      exact r_ireturn dX11_seeds_146 rfl (Nat.le_of_ble_eq_true rfl) (Nat.le_of_ble_eq_true rfl) hz
    · replace hf := (if_neg c1).symm.trans hf
      refine r_iload dX11_seeds_67 rfl ?_
      obtain ⟨q2, h3, hf⟩ := bnd hf
      refine r_callSi (st := []) (as := [.int l4]) dX11_seeds_69 ms_X11_nextSeed ⟨w3_136, w3_137⟩ (c_X11_nextSeed h3) rfl ⟨by omega, by omega⟩ (Nat.le_of_ble_eq_true rfl) (by decide) (by decide) rfl ?_
      refine r_istore (lv' := [.ref l0, .int l1, .null, .int l3, .int q2.1, .int l5, .null, .null]) dX11_seeds_72 (by decide) rfl rfl ?_
      refine r_aload_n dX11_seeds_74 rfl ?_
      obtain ⟨x4, h5, hf⟩ := bnd hf
      refine r_getR dX11_seeds_75 fs11_10_10 rfl h5 ?_
      obtain ⟨x6, h7, hf⟩ := bnd hf
      refine r_getI dX11_seeds_78 fs11_134_6 rfl h7 ?_
      refine r_iload dX11_seeds_81 rfl ?_
      obtain ⟨q8, h9, hf⟩ := bnd hf
      refine r_callSi (st := []) (as := [.int x6, .int q2.1]) dX11_seeds_83 ms_X11_drawBelow ⟨w3_140, w3_141⟩ (c_X11_drawBelow h9) rfl ⟨by omega, by omega⟩ (Nat.le_of_ble_eq_true rfl) (by decide) (by decide) rfl ?_
      refine r_istore (lv' := [.ref l0, .int l1, .null, .int l3, .int q2.1, .int l5, .int q8.1, .null]) dX11_seeds_86 (by decide) rfl rfl ?_
      refine r_iload dX11_seeds_88 rfl ?_
      obtain ⟨q10, h11, hf⟩ := bnd hf
      refine r_callSi (st := []) (as := [.int q2.1]) dX11_seeds_90 ms_X11_nextSeed ⟨w3_136, w3_137⟩ (c_X11_nextSeed h11) rfl ⟨by omega, by omega⟩ (Nat.le_of_ble_eq_true rfl) (by decide) (by decide) rfl ?_
      refine r_istore (lv' := [.ref l0, .int l1, .null, .int l3, .int q10.1, .int l5, .int q8.1, .null]) dX11_seeds_93 (by decide) rfl rfl ?_
      refine r_aload_n dX11_seeds_95 rfl ?_
      obtain ⟨x12, h13, hf⟩ := bnd hf
      refine r_getR dX11_seeds_96 fs11_10_10 rfl h13 ?_
      obtain ⟨x14, h15, hf⟩ := bnd hf
      refine r_getI dX11_seeds_99 fs11_134_6 rfl h15 ?_
      refine r_iload dX11_seeds_102 rfl ?_
      obtain ⟨q16, h17, hf⟩ := bnd hf
      refine r_callSi (st := []) (as := [.int x14, .int q10.1]) dX11_seeds_104 ms_X11_drawBelow ⟨w3_140, w3_141⟩ (c_X11_drawBelow h17) rfl ⟨by omega, by omega⟩ (Nat.le_of_ble_eq_true rfl) (by decide) (by decide) rfl ?_
      refine r_istore (lv' := [.ref l0, .int l1, .null, .int l3, .int q10.1, .int l5, .int q8.1, .int q16.1]) dX11_seeds_107 (by decide) rfl rfl ?_
      refine r_iload dX11_seeds_109 rfl ?_
      obtain ⟨q18, h19, hf⟩ := bnd hf
      refine r_callSi (st := []) (as := [.int q10.1]) dX11_seeds_111 ms_X11_nextSeed ⟨w3_136, w3_137⟩ (c_X11_nextSeed h19) rfl ⟨by omega, by omega⟩ (Nat.le_of_ble_eq_true rfl) (by decide) (by decide) rfl ?_
      refine r_istore (lv' := [.ref l0, .int l1, .null, .int l3, .int q18.1, .int l5, .int q8.1, .int q16.1]) dX11_seeds_114 (by decide) rfl rfl ?_
      refine r_aload_n dX11_seeds_116 rfl ?_
      obtain ⟨x20, h21, hf⟩ := bnd hf
      refine r_getR dX11_seeds_117 fs11_16_10 rfl h21 ?_
      refine r_iload dX11_seeds_120 rfl ?_
      refine r_iload dX11_seeds_122 rfl ?_
      refine r_iconst (v := 3) dX11_seeds_124 (by decide) ?_
      refine r_iload dX11_seeds_125 rfl ?_
      obtain ⟨q22, h23, hf⟩ := bnd hf
      refine r_callSi (st := [.int q16.1, .int q8.1, .ref x20]) (as := [.int 3, .int q18.1]) dX11_seeds_127 ms_X11_drawBelow ⟨w3_140, w3_141⟩ (c_X11_drawBelow h23) rfl ⟨by omega, by omega⟩ (Nat.le_of_ble_eq_true rfl) (by decide) (by decide) rfl ?_
      obtain ⟨q24, h25, hf⟩ := bnd hf
      refine r_callVi (st := []) (as := [.int q8.1, .int q16.1, .int q22.1]) dX11_seeds_130 ms_X6_trySale ⟨rfl, w3_1, w3_2, w3_3⟩ (ok_X6_trySale h25) (c_X6_trySale h25) rfl ⟨by omega, by omega⟩ (Nat.le_of_ble_eq_true rfl) (by decide) (by decide) rfl ?_
      refine r_if_eq (tgt := 139) dX11_seeds_133 (by decide) (fun c26 => ?_) (fun c26 => ?_)
      · replace hf := (if_pos c26).symm.trans hf
        refine r_lvs (lv' := [.ref l0, .int l1, .null, .int l3, .int q18.1, .int l5, .null, .null]) ⟨Or.inl rfl, Or.inl rfl, Or.inl rfl, Or.inl rfl, Or.inl rfl, Or.inl rfl, Or.inr rfl, Or.inr rfl, trivial⟩ ?_
        exact t_X11_seeds_139 (f_X11_seeds_61 n) ih _ _ _ _ _ _ _ hf
      · replace hf := (if_neg c26).symm.trans hf
        refine r_iinc (v := 1) (lv' := [.ref l0, .int l1, .null, .int (l3 + 1), .int q18.1, .int l5, .int q8.1, .int q16.1]) dX11_seeds_136 rfl (by decide) (by decide) rfl rfl ?_
        refine r_lvs (lv' := [.ref l0, .int l1, .null, .int (l3 + 1), .int q18.1, .int l5, .null, .null]) ⟨Or.inl rfl, Or.inl rfl, Or.inl rfl, Or.inl rfl, Or.inl rfl, Or.inl rfl, Or.inr rfl, Or.inr rfl, trivial⟩ ?_
        exact t_X11_seeds_139 (f_X11_seeds_61 n) ih _ _ _ _ _ _ _ hf
set_option maxRecDepth 20000 in
theorem ok_X11_seeds {S : Mm} {l0 : Nat} {l1 : Int32} {l2 : Int32} {T : (Int32 × Mm)} (hf : f_X11_seeds S l0 l1 l2 = some T) : okc S l0 10 = true := (oif hf).1
set_option maxRecDepth 20000 in
theorem c_X11_seeds {G : Gt} {l : Launch} {S : Mm} {l0 : Nat} {l1 : Int32} {l2 : Int32} {T : (Int32 × Mm)} (hf : f_X11_seeds S l0 l1 l2 = some T) : CC G l yX11_seeds cX11_seeds 8 (some .int) 3 0 0 [.ref l0, .int l1, .int l2] S (eI T) := by
  unfold f_X11_seeds at hf
  replace hf := (oif hf).2
  refine r_body (by decide) rfl (Nat.le_of_ble_eq_true rfl) (by simp) ?_
  refine r_iload_n dX11_seeds_0 rfl ?_
  refine r_iconst (v := 1) dX11_seeds_1 (by decide) ?_
  refine r_icmp_ge (tgt := 12) dX11_seeds_2 (by decide) (fun c1 => ?_) (fun c1 => ?_)
  · replace hf := (if_pos c1).symm.trans hf
    refine r_iload_n dX11_seeds_12 rfl ?_
    refine r_bipush (v := 60) dX11_seeds_13 (by decide) ?_
    refine r_icmp_le (tgt := 25) dX11_seeds_15 (by decide) (fun c2 => ?_) (fun c2 => ?_)
    · replace hf := (if_pos c2).symm.trans hf
      refine r_aload_n dX11_seeds_25 rfl ?_
      obtain ⟨x3, h4, hf⟩ := bnd hf
      refine r_getR dX11_seeds_26 fs11_10_10 rfl h4 ?_
      obtain ⟨x5, h6, hf⟩ := bnd hf
      refine r_getI dX11_seeds_29 fs11_134_6 rfl h6 ?_
      refine r_if_ne (tgt := 42) dX11_seeds_32 (by decide) (fun c7 => ?_) (fun c7 => ?_)
      · replace hf := (if_neg c7).symm.trans hf
        refine r_aload_n dX11_seeds_42 rfl ?_
        obtain ⟨x8, h9, hf⟩ := bnd hf
        refine r_getR dX11_seeds_43 fs11_16_10 rfl h9 ?_
        refine r_aload_n dX11_seeds_46 rfl ?_
        obtain ⟨x10, h11, hf⟩ := bnd hf
        refine r_getR dX11_seeds_47 fs11_10_10 rfl h11 ?_
        obtain ⟨q12, h13, hf⟩ := bnd hf
        refine r_callVv (st := []) (as := [.ref x10]) dX11_seeds_50 ms_X6_copyFrom ⟨rfl, w1_231, w1_232, w1_233⟩ (ok_X6_copyFrom h13) (c_X6_copyFrom h13) rfl ⟨by omega, by omega⟩ (Nat.le_of_ble_eq_true rfl) (by decide) (by decide) rfl ?_
        refine r_iconst (v := 0) dX11_seeds_53 (by decide) ?_
        refine r_istore_n (lv' := [.ref l0, .int l1, .int l2, .int 0, .null, .null, .null, .null]) dX11_seeds_54 (by decide) rfl rfl ?_
        refine r_iload_n dX11_seeds_55 rfl ?_
        refine r_istore (lv' := [.ref l0, .int l1, .int l2, .int 0, .int l2, .null, .null, .null]) dX11_seeds_56 (by decide) rfl rfl ?_
        refine r_iconst (v := 0) dX11_seeds_58 (by decide) ?_
        refine r_istore (lv' := [.ref l0, .int l1, .int l2, .int 0, .int l2, .int 0, .null, .null]) dX11_seeds_59 (by decide) rfl rfl ?_
        refine r_lvs (lv' := [.ref l0, .int l1, .null, .int 0, .int l2, .int 0, .null, .null]) ⟨Or.inl rfl, Or.inl rfl, Or.inr rfl, Or.inl rfl, Or.inl rfl, Or.inl rfl, Or.inl rfl, Or.inl rfl, trivial⟩ ?_
        exact t_X11_seeds_61 FU _ _ _ _ _ _ _ hf
      · replace hf := (if_pos c7).symm.trans hf
        refine r_aload_n dX11_seeds_35 rfl ?_
        refine r_bipush (v := (-3)) dX11_seeds_36 (by decide) ?_
        obtain ⟨q14, h15, hf⟩ := bnd hf
        refine r_callVi (st := []) (as := [.int (-3)]) dX11_seeds_38 ms_X11_refuse ⟨rfl, w1_214, w1_216, w0_0⟩ (ok_X11_refuse h15) (c_X11_refuse h15) rfl ⟨by omega, by omega⟩ (Nat.le_of_ble_eq_true rfl) (by decide) (by decide) rfl ?_
        have hz := congrArg eI (Option.some.inj hf)
        exact r_ireturn dX11_seeds_41 rfl (Nat.le_of_ble_eq_true rfl) (Nat.le_of_ble_eq_true rfl) hz
    · replace hf := (if_neg c2).symm.trans hf
      refine r_aload_n dX11_seeds_18 rfl ?_
      refine r_bipush (v := (-6)) dX11_seeds_19 (by decide) ?_
      obtain ⟨q16, h17, hf⟩ := bnd hf
      refine r_callVi (st := []) (as := [.int (-6)]) dX11_seeds_21 ms_X11_refuse ⟨rfl, w1_214, w1_216, w0_0⟩ (ok_X11_refuse h17) (c_X11_refuse h17) rfl ⟨by omega, by omega⟩ (Nat.le_of_ble_eq_true rfl) (by decide) (by decide) rfl ?_
      have hz := congrArg eI (Option.some.inj hf)
      exact r_ireturn dX11_seeds_24 rfl (Nat.le_of_ble_eq_true rfl) (Nat.le_of_ble_eq_true rfl) hz
  · replace hf := (if_neg c1).symm.trans hf
    refine r_aload_n dX11_seeds_5 rfl ?_
    refine r_bipush (v := (-4)) dX11_seeds_6 (by decide) ?_
    obtain ⟨q18, h19, hf⟩ := bnd hf
    refine r_callVi (st := []) (as := [.int (-4)]) dX11_seeds_8 ms_X11_refuse ⟨rfl, w1_214, w1_216, w0_0⟩ (ok_X11_refuse h19) (c_X11_refuse h19) rfl ⟨by omega, by omega⟩ (Nat.le_of_ble_eq_true rfl) (by decide) (by decide) rfl ?_
    have hz := congrArg eI (Option.some.inj hf)
    exact r_ireturn dX11_seeds_11 rfl (Nat.le_of_ble_eq_true rfl) (Nat.le_of_ble_eq_true rfl) hz
def f_X11_stuck_4 : Nat → Mm → Nat → Int32 → Int32 → Option (Int32 × Mm)
  | 0, _, _, _, _ => none
  | n + 1, S, l0, l1, l2 => (if 3 ≤ l2 then some (l1, S) else (gR S 10 l0 0).bind fun x2 => (f_X10_stuckOf S x2 l2).bind fun q4 => (f_X11_stuck_4 n) q4.2 l0 (l1 + q4.1) (l2 + 1))
def f_X11_stuck (S : Mm) (l0 : Nat) : Option (Int32 × Mm) := if okc S l0 10 = true then f_X11_stuck_4 FU S l0 0 0 else none
set_option maxRecDepth 20000 in
theorem t_X11_stuck_4 {G : Gt} {l : Launch} : ∀ (n : Nat) (S : Mm) (l0 : Nat) (l1 : Int32) (l2 : Int32) (T : (Int32 × Mm)), f_X11_stuck_4 n S l0 l1 l2 = some T → Sat G l yX11_stuck cX11_stuck 3 (some .int) 4 0 0 0 0 4 [.ref l0, .int l1, .int l2] [] S (eI T) := by
  intro n
  induction n with
  | zero =>
    intro S l0 l1 l2 T hf
    rw [f_X11_stuck_4] at hf
    cases hf
  | succ n ih =>
    intro S l0 l1 l2 T hf
    rw [f_X11_stuck_4] at hf
    refine r_iload_n dX11_stuck_4 rfl ?_
    refine r_iconst (v := 3) dX11_stuck_5 (by decide) ?_
    refine r_icmp_ge (tgt := 26) dX11_stuck_6 (by decide) (fun c1 => ?_) (fun c1 => ?_)
    · replace hf := (if_pos c1).symm.trans hf
      refine r_iload_n dX11_stuck_26 rfl ?_
      have hz := congrArg eI (Option.some.inj hf)
      exact r_ireturn dX11_stuck_27 rfl (Nat.le_of_ble_eq_true rfl) (Nat.le_of_ble_eq_true rfl) hz
    · replace hf := (if_neg c1).symm.trans hf
      refine r_iload_n dX11_stuck_9 rfl ?_
      refine r_aload_n dX11_stuck_10 rfl ?_
      obtain ⟨x2, h3, hf⟩ := bnd hf
      refine r_getR dX11_stuck_11 fs11_10_10 rfl h3 ?_
      refine r_iload_n dX11_stuck_14 rfl ?_
      obtain ⟨q4, h5, hf⟩ := bnd hf
      refine r_callSi (st := [.int l1]) (as := [.ref x2, .int l2]) dX11_stuck_15 ms_X10_stuckOf ⟨w3_149, w3_150⟩ (c_X10_stuckOf h5) rfl ⟨by omega, by omega⟩ (Nat.le_of_ble_eq_true rfl) (by decide) (by decide) rfl ?_
      refine r_iadd dX11_stuck_18 ?_
      refine r_istore_n (lv' := [.ref l0, .int (l1 + q4.1), .int l2]) dX11_stuck_19 (by decide) rfl rfl ?_
      refine r_iinc (v := 1) (lv' := [.ref l0, .int (l1 + q4.1), .int (l2 + 1)]) dX11_stuck_20 rfl (by decide) (by decide) rfl rfl ?_
      refine r_goto (tgt := 4) dX11_stuck_23 (by decide) ?_
      exact ih _ _ _ _ _ hf
set_option maxRecDepth 20000 in
theorem ok_X11_stuck {S : Mm} {l0 : Nat} {T : (Int32 × Mm)} (hf : f_X11_stuck S l0 = some T) : okc S l0 10 = true := (oif hf).1
set_option maxRecDepth 20000 in
theorem c_X11_stuck {G : Gt} {l : Launch} {S : Mm} {l0 : Nat} {T : (Int32 × Mm)} (hf : f_X11_stuck S l0 = some T) : CC G l yX11_stuck cX11_stuck 3 (some .int) 4 0 0 [.ref l0] S (eI T) := by
  unfold f_X11_stuck at hf
  replace hf := (oif hf).2
  refine r_body (by decide) rfl (Nat.le_of_ble_eq_true rfl) (by simp) ?_
  refine r_iconst (v := 0) dX11_stuck_0 (by decide) ?_
  refine r_istore_n (lv' := [.ref l0, .int 0, .null]) dX11_stuck_1 (by decide) rfl rfl ?_
  refine r_iconst (v := 0) dX11_stuck_2 (by decide) ?_
  refine r_istore_n (lv' := [.ref l0, .int 0, .int 0]) dX11_stuck_3 (by decide) rfl rfl ?_
  exact t_X11_stuck_4 FU _ _ _ _ _ hf
def f_X11_most (S : Mm) (l0 : Nat) (l1 : Int32) : Option (Int32 × Mm) := if okc S l0 10 = true then (f_X11_isGood S l1).bind fun q1 => (if q1.1 = 0 then (f_X11_refuse q1.2 l0 (-1)).bind fun q8 => some (q8.1, q8.2) else (gR q1.2 10 l0 0).bind fun x4 => (f_X10_mostOf q1.2 x4 l1).bind fun q6 => some (q6.1, q6.2)) else none
set_option maxRecDepth 20000 in
theorem ok_X11_most {S : Mm} {l0 : Nat} {l1 : Int32} {T : (Int32 × Mm)} (hf : f_X11_most S l0 l1 = some T) : okc S l0 10 = true := (oif hf).1
set_option maxRecDepth 20000 in
theorem c_X11_most {G : Gt} {l : Launch} {S : Mm} {l0 : Nat} {l1 : Int32} {T : (Int32 × Mm)} (hf : f_X11_most S l0 l1 = some T) : CC G l yX11_most cX11_most 2 (some .int) 5 0 0 [.ref l0, .int l1] S (eI T) := by
  unfold f_X11_most at hf
  replace hf := (oif hf).2
  refine r_body (by decide) rfl (Nat.le_of_ble_eq_true rfl) (by simp) ?_
  refine r_iload_n dX11_most_0 rfl ?_
  obtain ⟨q1, h2, hf⟩ := bnd hf
  refine r_callSi (st := []) (as := [.int l1]) dX11_most_1 ms_X11_isGood ⟨w2_197, w2_38⟩ (c_X11_isGood h2) rfl ⟨by omega, by omega⟩ (Nat.le_of_ble_eq_true rfl) (by decide) (by decide) rfl ?_
  refine r_if_ne (tgt := 13) dX11_most_4 (by decide) (fun c3 => ?_) (fun c3 => ?_)
  · replace hf := (if_neg c3).symm.trans hf
    refine r_aload_n dX11_most_13 rfl ?_
    obtain ⟨x4, h5, hf⟩ := bnd hf
    refine r_getR dX11_most_14 fs11_10_10 rfl h5 ?_
    refine r_iload_n dX11_most_17 rfl ?_
    obtain ⟨q6, h7, hf⟩ := bnd hf
    refine r_callSi (st := []) (as := [.ref x4, .int l1]) dX11_most_18 ms_X10_mostOf ⟨w3_162, w3_163⟩ (c_X10_mostOf h7) rfl ⟨by omega, by omega⟩ (Nat.le_of_ble_eq_true rfl) (by decide) (by decide) rfl ?_
    have hz := congrArg eI (Option.some.inj hf)
    exact r_ireturn dX11_most_21 rfl (Nat.le_of_ble_eq_true rfl) (Nat.le_of_ble_eq_true rfl) hz
  · replace hf := (if_pos c3).symm.trans hf
    refine r_aload_n dX11_most_7 rfl ?_
    refine r_iconst (v := (-1)) dX11_most_8 (by decide) ?_
    obtain ⟨q8, h9, hf⟩ := bnd hf
    refine r_callVi (st := []) (as := [.int (-1)]) dX11_most_9 ms_X11_refuse ⟨rfl, w1_214, w1_216, w0_0⟩ (ok_X11_refuse h9) (c_X11_refuse h9) rfl ⟨by omega, by omega⟩ (Nat.le_of_ble_eq_true rfl) (by decide) (by decide) rfl ?_
    have hz := congrArg eI (Option.some.inj hf)
    exact r_ireturn dX11_most_12 rfl (Nat.le_of_ble_eq_true rfl) (Nat.le_of_ble_eq_true rfl) hz
def f_X11_cellar_18 (S : Mm) (l0 : Nat) : Option (Int32 × Mm) := (f_X11_refuse S l0 (-1)).bind fun q1 => some ((1000000000 - q1.1), q1.2)
def f_X11_cellar (S : Mm) (l0 : Nat) (l1 : Int32) (l2 : Int32) (l3 : Int32) : Option (Int32 × Mm) := if okc S l0 10 = true then (gR S 10 l0 0).bind fun x1 => (f_X6_hasHouse S x1 l1).bind fun q3 => (if q3.1 = 0 then f_X11_cellar_18 q3.2 l0 else (f_X11_isGood q3.2 l2).bind fun q6 => (if q6.1 = 0 then f_X11_cellar_18 q6.2 l0 else (if 0 ≤ l3 then (if l3 ≤ 9 then (gR q6.2 10 l0 1).bind fun x11 => (gR q6.2 10 l0 0).bind fun x13 => (f_X6_copyFrom q6.2 x11 x13).bind fun q15 => (gR q15 10 l0 1).bind fun x17 => (gR q15 6 x17 0).bind fun x19 => (gR q15 10 l0 0).bind fun x21 => (gR q15 6 x21 0).bind fun x23 => (aR q15 x23 l1).bind fun x25 => (f_X0_insteadOf q15 x25 l3).bind fun q27 => (aQ q27.2 x19 l1 q27.1).bind fun S29 => (gR S29 10 l0 1).bind fun x31 => (f_X10_mostOf S29 x31 l2).bind fun q33 => (gR q33.2 10 l0 0).bind fun x35 => (f_X10_mostOf q33.2 x35 l2).bind fun q37 => some ((q33.1 - q37.1), q37.2) else (f_X11_refuse q6.2 l0 (-6)).bind fun q39 => some ((1000000000 - q39.1), q39.2)) else (f_X11_refuse q6.2 l0 (-4)).bind fun q41 => some ((1000000000 - q41.1), q41.2)))) else none
set_option maxRecDepth 20000 in
theorem t_X11_cellar_18 {G : Gt} {l : Launch} (S : Mm) (l0 : Nat) (T : (Int32 × Mm)) (hf : f_X11_cellar_18 S l0 = some T) : Sat G l yX11_cellar cX11_cellar 4 (some .int) 5 1 6 0 0 18 [.ref l0, .null, .null, .null] [] S (eI T) := by
  unfold f_X11_cellar_18 at hf
  refine r_ldc (v := 1000000000) dX11_cellar_18 w3_176 ?_
  refine r_aload_n dX11_cellar_20 rfl ?_
  refine r_iconst (v := (-1)) dX11_cellar_21 (by decide) ?_
  obtain ⟨q1, h2, hf⟩ := bnd hf
  refine r_callVi (st := [.int 1000000000]) (as := [.int (-1)]) dX11_cellar_22 ms_X11_refuse ⟨rfl, w1_214, w1_216, w0_0⟩ (ok_X11_refuse h2) (c_X11_refuse h2) rfl ⟨by omega, by omega⟩ (Nat.le_of_ble_eq_true rfl) (by decide) (by decide) rfl ?_
  refine r_isub dX11_cellar_25 ?_
  have hz := congrArg eI (Option.some.inj hf)
  exact r_ireturn dX11_cellar_26 rfl (Nat.le_of_ble_eq_true rfl) (Nat.le_of_ble_eq_true rfl) hz
set_option maxRecDepth 20000 in
theorem ok_X11_cellar {S : Mm} {l0 : Nat} {l1 : Int32} {l2 : Int32} {l3 : Int32} {T : (Int32 × Mm)} (hf : f_X11_cellar S l0 l1 l2 l3 = some T) : okc S l0 10 = true := (oif hf).1
set_option maxRecDepth 20000 in
theorem c_X11_cellar {G : Gt} {l : Launch} {S : Mm} {l0 : Nat} {l1 : Int32} {l2 : Int32} {l3 : Int32} {T : (Int32 × Mm)} (hf : f_X11_cellar S l0 l1 l2 l3 = some T) : CC G l yX11_cellar cX11_cellar 4 (some .int) 5 1 6 [.ref l0, .int l1, .int l2, .int l3] S (eI T) := by
  unfold f_X11_cellar at hf
  replace hf := (oif hf).2
  refine r_body (by decide) rfl (Nat.le_of_ble_eq_true rfl) (by simp) ?_
  refine r_aload_n dX11_cellar_0 rfl ?_
  obtain ⟨x1, h2, hf⟩ := bnd hf
  refine r_getR dX11_cellar_1 fs11_10_10 rfl h2 ?_
  refine r_iload_n dX11_cellar_4 rfl ?_
  obtain ⟨q3, h4, hf⟩ := bnd hf
  refine r_callVi (st := []) (as := [.int l1]) dX11_cellar_5 ms_X6_hasHouse ⟨rfl, w2_142, w2_131, w2_132⟩ (ok_X6_hasHouse h4) (c_X6_hasHouse h4) rfl ⟨by omega, by omega⟩ (Nat.le_of_ble_eq_true rfl) (by decide) (by decide) rfl ?_
  refine r_if_eq (tgt := 18) dX11_cellar_8 (by decide) (fun c5 => ?_) (fun c5 => ?_)
  · replace hf := (if_pos c5).symm.trans hf
    refine r_lvs (lv' := [.ref l0, .null, .null, .null]) ⟨Or.inl rfl, Or.inr rfl, Or.inr rfl, Or.inr rfl, trivial⟩ ?_
    exact t_X11_cellar_18 _ _ _ hf
  · replace hf := (if_neg c5).symm.trans hf
    refine r_iload_n dX11_cellar_11 rfl ?_
    obtain ⟨q6, h7, hf⟩ := bnd hf
    refine r_callSi (st := []) (as := [.int l2]) dX11_cellar_12 ms_X11_isGood ⟨w2_197, w2_38⟩ (c_X11_isGood h7) rfl ⟨by omega, by omega⟩ (Nat.le_of_ble_eq_true rfl) (by decide) (by decide) rfl ?_
    refine r_if_ne (tgt := 27) dX11_cellar_15 (by decide) (fun c8 => ?_) (fun c8 => ?_)
    · replace hf := (if_neg c8).symm.trans hf
      refine r_iload_n dX11_cellar_27 rfl ?_
      refine r_if_ge (tgt := 41) dX11_cellar_28 (by decide) (fun c9 => ?_) (fun c9 => ?_)
      · replace hf := (if_pos c9).symm.trans hf
        refine r_iload_n dX11_cellar_41 rfl ?_
        refine r_bipush (v := 9) dX11_cellar_42 (by decide) ?_
        refine r_icmp_le (tgt := 57) dX11_cellar_44 (by decide) (fun c10 => ?_) (fun c10 => ?_)
        · replace hf := (if_pos c10).symm.trans hf
          refine r_aload_n dX11_cellar_57 rfl ?_
          obtain ⟨x11, h12, hf⟩ := bnd hf
          refine r_getR dX11_cellar_58 fs11_16_10 rfl h12 ?_
          refine r_aload_n dX11_cellar_61 rfl ?_
          obtain ⟨x13, h14, hf⟩ := bnd hf
          refine r_getR dX11_cellar_62 fs11_10_10 rfl h14 ?_
          obtain ⟨q15, h16, hf⟩ := bnd hf
          refine r_callVv (st := []) (as := [.ref x13]) dX11_cellar_65 ms_X6_copyFrom ⟨rfl, w1_231, w1_232, w1_233⟩ (ok_X6_copyFrom h16) (c_X6_copyFrom h16) rfl ⟨by omega, by omega⟩ (Nat.le_of_ble_eq_true rfl) (by decide) (by decide) rfl ?_
          refine r_aload_n dX11_cellar_68 rfl ?_
          obtain ⟨x17, h18, hf⟩ := bnd hf
          refine r_getR dX11_cellar_69 fs11_16_10 rfl h18 ?_
          obtain ⟨x19, h20, hf⟩ := bnd hf
          refine r_getR dX11_cellar_72 fs11_74_6 rfl h20 ?_
          refine r_iload_n dX11_cellar_75 rfl ?_
          refine r_aload_n dX11_cellar_76 rfl ?_
          obtain ⟨x21, h22, hf⟩ := bnd hf
          refine r_getR dX11_cellar_77 fs11_10_10 rfl h22 ?_
          obtain ⟨x23, h24, hf⟩ := bnd hf
          refine r_getR dX11_cellar_80 fs11_74_6 rfl h24 ?_
          refine r_iload_n dX11_cellar_83 rfl ?_
          obtain ⟨x25, h26, hf⟩ := bnd hf
          refine r_aaload dX11_cellar_84 h26 ?_
          refine r_iload_n dX11_cellar_85 rfl ?_
          obtain ⟨q27, h28, hf⟩ := bnd hf
          refine r_callSa (st := [.int l1, .ref x19]) (as := [.ref x25, .int l3]) dX11_cellar_86 ms_X0_insteadOf ⟨w3_177, w3_178⟩ (c_X0_insteadOf h28) rfl ⟨by omega, by omega⟩ (Nat.le_of_ble_eq_true rfl) (by decide) (by decide) rfl ?_
          obtain ⟨S29, h30, hf⟩ := bnd hf
          refine r_aastore dX11_cellar_89 h30 ?_
          refine r_aload_n dX11_cellar_90 rfl ?_
          obtain ⟨x31, h32, hf⟩ := bnd hf
          refine r_getR dX11_cellar_91 fs11_16_10 rfl h32 ?_
          refine r_iload_n dX11_cellar_94 rfl ?_
          obtain ⟨q33, h34, hf⟩ := bnd hf
          refine r_callSi (st := []) (as := [.ref x31, .int l2]) dX11_cellar_95 ms_X10_mostOf ⟨w3_162, w3_163⟩ (c_X10_mostOf h34) rfl ⟨by omega, by omega⟩ (Nat.le_of_ble_eq_true rfl) (by decide) (by decide) rfl ?_
          refine r_aload_n dX11_cellar_98 rfl ?_
          obtain ⟨x35, h36, hf⟩ := bnd hf
          refine r_getR dX11_cellar_99 fs11_10_10 rfl h36 ?_
          refine r_iload_n dX11_cellar_102 rfl ?_
          obtain ⟨q37, h38, hf⟩ := bnd hf
          refine r_callSi (st := [.int q33.1]) (as := [.ref x35, .int l2]) dX11_cellar_103 ms_X10_mostOf ⟨w3_162, w3_163⟩ (c_X10_mostOf h38) rfl ⟨by omega, by omega⟩ (Nat.le_of_ble_eq_true rfl) (by decide) (by decide) rfl ?_
          refine r_isub dX11_cellar_106 ?_
          have hz := congrArg eI (Option.some.inj hf)
          exact r_ireturn dX11_cellar_107 rfl (Nat.le_of_ble_eq_true rfl) (Nat.le_of_ble_eq_true rfl) hz
        · replace hf := (if_neg c10).symm.trans hf
          refine r_ldc (v := 1000000000) dX11_cellar_47 w3_176 ?_
          refine r_aload_n dX11_cellar_49 rfl ?_
          refine r_bipush (v := (-6)) dX11_cellar_50 (by decide) ?_
          obtain ⟨q39, h40, hf⟩ := bnd hf
          refine r_callVi (st := [.int 1000000000]) (as := [.int (-6)]) dX11_cellar_52 ms_X11_refuse ⟨rfl, w1_214, w1_216, w0_0⟩ (ok_X11_refuse h40) (c_X11_refuse h40) rfl ⟨by omega, by omega⟩ (Nat.le_of_ble_eq_true rfl) (by decide) (by decide) rfl ?_
          refine r_isub dX11_cellar_55 ?_
          have hz := congrArg eI (Option.some.inj hf)
          exact r_ireturn dX11_cellar_56 rfl (Nat.le_of_ble_eq_true rfl) (Nat.le_of_ble_eq_true rfl) hz
      · replace hf := (if_neg c9).symm.trans hf
        refine r_ldc (v := 1000000000) dX11_cellar_31 w3_176 ?_
        refine r_aload_n dX11_cellar_33 rfl ?_
        refine r_bipush (v := (-4)) dX11_cellar_34 (by decide) ?_
        obtain ⟨q41, h42, hf⟩ := bnd hf
        refine r_callVi (st := [.int 1000000000]) (as := [.int (-4)]) dX11_cellar_36 ms_X11_refuse ⟨rfl, w1_214, w1_216, w0_0⟩ (ok_X11_refuse h42) (c_X11_refuse h42) rfl ⟨by omega, by omega⟩ (Nat.le_of_ble_eq_true rfl) (by decide) (by decide) rfl ?_
        refine r_isub dX11_cellar_39 ?_
        have hz := congrArg eI (Option.some.inj hf)
        exact r_ireturn dX11_cellar_40 rfl (Nat.le_of_ble_eq_true rfl) (Nat.le_of_ble_eq_true rfl) hz
    · replace hf := (if_pos c8).symm.trans hf
      refine r_lvs (lv' := [.ref l0, .null, .null, .null]) ⟨Or.inl rfl, Or.inr rfl, Or.inr rfl, Or.inr rfl, trivial⟩ ?_
      exact t_X11_cellar_18 _ _ _ hf
def f_X11_paths_27 (S : Mm) (l0 : Nat) : Option (Int32 × Mm) := (f_X11_refuse S l0 (-2)).bind fun q1 => some (q1.1, q1.2)
def f_X11_paths_59 (S : Mm) (s0 : Int32) : Option (Int32 × Mm) := some (s0, S)
def f_X11_paths (S : Mm) (l0 : Nat) (l1 : Int32) (l2 : Int32) (l3 : Int32) : Option (Int32 × Mm) := if okc S l0 10 = true then (gR S 10 l0 0).bind fun x1 => (f_X6_areTwo S x1 l1 l2).bind fun q3 => (if q3.1 = 0 then (f_X11_refuse q3.2 l0 (-1)).bind fun q17 => some (q17.1, q17.2) else (if l3 < 0 then f_X11_paths_27 q3.2 l0 else (if l3 ≤ 1 then (if l3 = 0 then (gR q3.2 10 l0 0).bind fun x13 => (f_X10_ways q3.2 x13 l1 l2).bind fun q15 => f_X11_paths_59 q15.2 q15.1 else (gR q3.2 10 l0 0).bind fun x9 => (f_X10_fewestSales q3.2 x9 l1 l2).bind fun q11 => f_X11_paths_59 q11.2 q11.1) else f_X11_paths_27 q3.2 l0))) else none
set_option maxRecDepth 20000 in
theorem t_X11_paths_27 {G : Gt} {l : Launch} (S : Mm) (l0 : Nat) (T : (Int32 × Mm)) (hf : f_X11_paths_27 S l0 = some T) : Sat G l yX11_paths cX11_paths 4 (some .int) 12 0 0 0 0 27 [.ref l0, .null, .null, .null] [] S (eI T) := by
  unfold f_X11_paths_27 at hf
  refine r_aload_n dX11_paths_27 rfl ?_
  refine r_bipush (v := (-2)) dX11_paths_28 (by decide) ?_
  obtain ⟨q1, h2, hf⟩ := bnd hf
  refine r_callVi (st := []) (as := [.int (-2)]) dX11_paths_30 ms_X11_refuse ⟨rfl, w1_214, w1_216, w0_0⟩ (ok_X11_refuse h2) (c_X11_refuse h2) rfl ⟨by omega, by omega⟩ (Nat.le_of_ble_eq_true rfl) (by decide) (by decide) rfl ?_
  have hz := congrArg eI (Option.some.inj hf)
  exact r_ireturn dX11_paths_33 rfl (Nat.le_of_ble_eq_true rfl) (Nat.le_of_ble_eq_true rfl) hz
set_option maxRecDepth 20000 in
theorem t_X11_paths_59 {G : Gt} {l : Launch} (S : Mm) (s0 : Int32) (T : (Int32 × Mm)) (hf : f_X11_paths_59 S s0 = some T) : Sat G l yX11_paths cX11_paths 4 (some .int) 12 0 0 0 0 59 [.null, .null, .null, .null] [.int s0] S (eI T) := by
  unfold f_X11_paths_59 at hf
  have hz := congrArg eI (Option.some.inj hf)
  exact r_ireturn dX11_paths_59 rfl (Nat.le_of_ble_eq_true rfl) (Nat.le_of_ble_eq_true rfl) hz
set_option maxRecDepth 20000 in
theorem ok_X11_paths {S : Mm} {l0 : Nat} {l1 : Int32} {l2 : Int32} {l3 : Int32} {T : (Int32 × Mm)} (hf : f_X11_paths S l0 l1 l2 l3 = some T) : okc S l0 10 = true := (oif hf).1
set_option maxRecDepth 20000 in
theorem c_X11_paths {G : Gt} {l : Launch} {S : Mm} {l0 : Nat} {l1 : Int32} {l2 : Int32} {l3 : Int32} {T : (Int32 × Mm)} (hf : f_X11_paths S l0 l1 l2 l3 = some T) : CC G l yX11_paths cX11_paths 4 (some .int) 12 0 0 [.ref l0, .int l1, .int l2, .int l3] S (eI T) := by
  unfold f_X11_paths at hf
  replace hf := (oif hf).2
  refine r_body (by decide) rfl (Nat.le_of_ble_eq_true rfl) (by simp) ?_
  refine r_aload_n dX11_paths_0 rfl ?_
  obtain ⟨x1, h2, hf⟩ := bnd hf
  refine r_getR dX11_paths_1 fs11_10_10 rfl h2 ?_
  refine r_iload_n dX11_paths_4 rfl ?_
  refine r_iload_n dX11_paths_5 rfl ?_
  obtain ⟨q3, h4, hf⟩ := bnd hf
  refine r_callVi (st := []) (as := [.int l1, .int l2]) dX11_paths_6 ms_X6_areTwo ⟨rfl, w2_215, w2_127, w2_128⟩ (ok_X6_areTwo h4) (c_X6_areTwo h4) rfl ⟨by omega, by omega⟩ (Nat.le_of_ble_eq_true rfl) (by decide) (by decide) rfl ?_
  refine r_if_ne (tgt := 18) dX11_paths_9 (by decide) (fun c5 => ?_) (fun c5 => ?_)
  · replace hf := (if_neg c5).symm.trans hf
    refine r_iload_n dX11_paths_18 rfl ?_
    refine r_if_lt (tgt := 27) dX11_paths_19 (by decide) (fun c6 => ?_) (fun c6 => ?_)
    · replace hf := (if_pos c6).symm.trans hf
      refine r_lvs (lv' := [.ref l0, .null, .null, .null]) ⟨Or.inl rfl, Or.inr rfl, Or.inr rfl, Or.inr rfl, trivial⟩ ?_
      exact t_X11_paths_27 _ _ _ hf
    · replace hf := (if_neg c6).symm.trans hf
      refine r_iload_n dX11_paths_22 rfl ?_
      refine r_iconst (v := 1) dX11_paths_23 (by decide) ?_
      refine r_icmp_le (tgt := 34) dX11_paths_24 (by decide) (fun c7 => ?_) (fun c7 => ?_)
      · replace hf := (if_pos c7).symm.trans hf
        refine r_iload_n dX11_paths_34 rfl ?_
        refine r_if_ne (tgt := 50) dX11_paths_35 (by decide) (fun c8 => ?_) (fun c8 => ?_)
        · replace hf := (if_neg c8).symm.trans hf
          refine r_aload_n dX11_paths_50 rfl ?_
          obtain ⟨x9, h10, hf⟩ := bnd hf
          refine r_getR dX11_paths_51 fs11_10_10 rfl h10 ?_
          refine r_iload_n dX11_paths_54 rfl ?_
          refine r_iload_n dX11_paths_55 rfl ?_
          obtain ⟨q11, h12, hf⟩ := bnd hf
          refine r_callSi (st := []) (as := [.ref x9, .int l1, .int l2]) dX11_paths_56 ms_X10_fewestSales ⟨w3_192, w3_193⟩ (c_X10_fewestSales h12) rfl ⟨by omega, by omega⟩ (Nat.le_of_ble_eq_true rfl) (by decide) (by decide) rfl ?_
          refine r_lvs (lv' := [.null, .null, .null, .null]) ⟨Or.inr rfl, Or.inr rfl, Or.inr rfl, Or.inr rfl, trivial⟩ ?_
          exact t_X11_paths_59 _ _ _ hf
        · replace hf := (if_pos c8).symm.trans hf
          refine r_aload_n dX11_paths_38 rfl ?_
          obtain ⟨x13, h14, hf⟩ := bnd hf
          refine r_getR dX11_paths_39 fs11_10_10 rfl h14 ?_
          refine r_iload_n dX11_paths_42 rfl ?_
          refine r_iload_n dX11_paths_43 rfl ?_
          obtain ⟨q15, h16, hf⟩ := bnd hf
          refine r_callSi (st := []) (as := [.ref x13, .int l1, .int l2]) dX11_paths_44 ms_X10_ways ⟨w3_186, w3_187⟩ (c_X10_ways h16) rfl ⟨by omega, by omega⟩ (Nat.le_of_ble_eq_true rfl) (by decide) (by decide) rfl ?_
          refine r_goto (tgt := 59) dX11_paths_47 (by decide) ?_
          refine r_lvs (lv' := [.null, .null, .null, .null]) ⟨Or.inr rfl, Or.inr rfl, Or.inr rfl, Or.inr rfl, trivial⟩ ?_
          exact t_X11_paths_59 _ _ _ hf
      · replace hf := (if_neg c7).symm.trans hf
        refine r_lvs (lv' := [.ref l0, .null, .null, .null]) ⟨Or.inl rfl, Or.inr rfl, Or.inr rfl, Or.inr rfl, trivial⟩ ?_
        exact t_X11_paths_27 _ _ _ hf
  · replace hf := (if_pos c5).symm.trans hf
    refine r_aload_n dX11_paths_12 rfl ?_
    refine r_iconst (v := (-1)) dX11_paths_13 (by decide) ?_
    obtain ⟨q17, h18, hf⟩ := bnd hf
    refine r_callVi (st := []) (as := [.int (-1)]) dX11_paths_14 ms_X11_refuse ⟨rfl, w1_214, w1_216, w0_0⟩ (ok_X11_refuse h18) (c_X11_refuse h18) rfl ⟨by omega, by omega⟩ (Nat.le_of_ble_eq_true rfl) (by decide) (by decide) rfl ?_
    have hz := congrArg eI (Option.some.inj hf)
    exact r_ireturn dX11_paths_17 rfl (Nat.le_of_ble_eq_true rfl) (Nat.le_of_ble_eq_true rfl) hz
def f_X11_owed (S : Mm) (l0 : Nat) (l1 : Int32) : Option (Int32 × Mm) := if okc S l0 10 = true then (gR S 10 l0 0).bind fun x1 => (f_X6_hasHouse S x1 l1).bind fun q3 => (if q3.1 = 0 then (f_X11_refuse q3.2 l0 (-1)).bind fun q12 => some ((1000000000 - q12.1), q12.2) else (gR q3.2 10 l0 0).bind fun x6 => (gR q3.2 6 x6 5).bind fun x8 => (f_X1_owedTo q3.2 x8 l1).bind fun q10 => some (q10.1, q10.2)) else none
set_option maxRecDepth 20000 in
theorem ok_X11_owed {S : Mm} {l0 : Nat} {l1 : Int32} {T : (Int32 × Mm)} (hf : f_X11_owed S l0 l1 = some T) : okc S l0 10 = true := (oif hf).1
set_option maxRecDepth 20000 in
theorem c_X11_owed {G : Gt} {l : Launch} {S : Mm} {l0 : Nat} {l1 : Int32} {T : (Int32 × Mm)} (hf : f_X11_owed S l0 l1 = some T) : CC G l yX11_owed cX11_owed 2 (some .int) 2 0 0 [.ref l0, .int l1] S (eI T) := by
  unfold f_X11_owed at hf
  replace hf := (oif hf).2
  refine r_body (by decide) rfl (Nat.le_of_ble_eq_true rfl) (by simp) ?_
  refine r_aload_n dX11_owed_0 rfl ?_
  obtain ⟨x1, h2, hf⟩ := bnd hf
  refine r_getR dX11_owed_1 fs11_10_10 rfl h2 ?_
  refine r_iload_n dX11_owed_4 rfl ?_
  obtain ⟨q3, h4, hf⟩ := bnd hf
  refine r_callVi (st := []) (as := [.int l1]) dX11_owed_5 ms_X6_hasHouse ⟨rfl, w2_142, w2_131, w2_132⟩ (ok_X6_hasHouse h4) (c_X6_hasHouse h4) rfl ⟨by omega, by omega⟩ (Nat.le_of_ble_eq_true rfl) (by decide) (by decide) rfl ?_
  refine r_if_ne (tgt := 20) dX11_owed_8 (by decide) (fun c5 => ?_) (fun c5 => ?_)
  · replace hf := (if_neg c5).symm.trans hf
    refine r_aload_n dX11_owed_20 rfl ?_
    obtain ⟨x6, h7, hf⟩ := bnd hf
    refine r_getR dX11_owed_21 fs11_10_10 rfl h7 ?_
    obtain ⟨x8, h9, hf⟩ := bnd hf
    refine r_getR dX11_owed_24 fs11_145_6 rfl h9 ?_
    refine r_iload_n dX11_owed_27 rfl ?_
    obtain ⟨q10, h11, hf⟩ := bnd hf
    refine r_callVi (st := []) (as := [.int l1]) dX11_owed_28 ms_X1_owedTo ⟨rfl, w3_202, w3_203, w3_204⟩ (ok_X1_owedTo h11) (c_X1_owedTo h11) rfl ⟨by omega, by omega⟩ (Nat.le_of_ble_eq_true rfl) (by decide) (by decide) rfl ?_
    have hz := congrArg eI (Option.some.inj hf)
    exact r_ireturn dX11_owed_31 rfl (Nat.le_of_ble_eq_true rfl) (Nat.le_of_ble_eq_true rfl) hz
  · replace hf := (if_pos c5).symm.trans hf
    refine r_ldc (v := 1000000000) dX11_owed_11 w3_176 ?_
    refine r_aload_n dX11_owed_13 rfl ?_
    refine r_iconst (v := (-1)) dX11_owed_14 (by decide) ?_
    obtain ⟨q12, h13, hf⟩ := bnd hf
    refine r_callVi (st := [.int 1000000000]) (as := [.int (-1)]) dX11_owed_15 ms_X11_refuse ⟨rfl, w1_214, w1_216, w0_0⟩ (ok_X11_refuse h13) (c_X11_refuse h13) rfl ⟨by omega, by omega⟩ (Nat.le_of_ble_eq_true rfl) (by decide) (by decide) rfl ?_
    refine r_isub dX11_owed_18 ?_
    have hz := congrArg eI (Option.some.inj hf)
    exact r_ireturn dX11_owed_19 rfl (Nat.le_of_ble_eq_true rfl) (Nat.le_of_ble_eq_true rfl) hz
def f_X11_row_27 (S : Mm) (l0 : Nat) : Option (Int32 × Mm) := (f_X11_refuse S l0 (-6)).bind fun q1 => some (q1.1, q1.2)
def f_X11_row (S : Mm) (l0 : Nat) (l1 : Int32) : Option (Int32 × Mm) := if okc S l0 10 = true then (if 0 ≤ l1 then (if 999 < l1 then f_X11_row_27 S l0 else (gI S 10 l0 8).bind fun x3 => (if x3 < 8 then (gR S 10 l0 7).bind fun x6 => (gI S 10 l0 8).bind fun x8 => (aS S x6 x8 l1).bind fun S10 => (gI S10 10 l0 8).bind fun x12 => (pI S10 10 l0 8 (x12 + 1)).bind fun S14 => (gI S14 10 l0 8).bind fun x16 => some (x16, S14) else f_X11_row_27 S l0)) else (f_X11_refuse S l0 (-4)).bind fun q18 => some (q18.1, q18.2)) else none
set_option maxRecDepth 20000 in
theorem t_X11_row_27 {G : Gt} {l : Launch} (S : Mm) (l0 : Nat) (T : (Int32 × Mm)) (hf : f_X11_row_27 S l0 = some T) : Sat G l yX11_row cX11_row 2 (some .int) 1 0 0 0 0 27 [.ref l0, .null] [] S (eI T) := by
  unfold f_X11_row_27 at hf
  refine r_aload_n dX11_row_27 rfl ?_
  refine r_bipush (v := (-6)) dX11_row_28 (by decide) ?_
  obtain ⟨q1, h2, hf⟩ := bnd hf
  refine r_callVi (st := []) (as := [.int (-6)]) dX11_row_30 ms_X11_refuse ⟨rfl, w1_214, w1_216, w0_0⟩ (ok_X11_refuse h2) (c_X11_refuse h2) rfl ⟨by omega, by omega⟩ (Nat.le_of_ble_eq_true rfl) (by decide) (by decide) rfl ?_
  have hz := congrArg eI (Option.some.inj hf)
  exact r_ireturn dX11_row_33 rfl (Nat.le_of_ble_eq_true rfl) (Nat.le_of_ble_eq_true rfl) hz
set_option maxRecDepth 20000 in
theorem ok_X11_row {S : Mm} {l0 : Nat} {l1 : Int32} {T : (Int32 × Mm)} (hf : f_X11_row S l0 l1 = some T) : okc S l0 10 = true := (oif hf).1
set_option maxRecDepth 20000 in
theorem c_X11_row {G : Gt} {l : Launch} {S : Mm} {l0 : Nat} {l1 : Int32} {T : (Int32 × Mm)} (hf : f_X11_row S l0 l1 = some T) : CC G l yX11_row cX11_row 2 (some .int) 1 0 0 [.ref l0, .int l1] S (eI T) := by
  unfold f_X11_row at hf
  replace hf := (oif hf).2
  refine r_body (by decide) rfl (Nat.le_of_ble_eq_true rfl) (by simp) ?_
  refine r_iload_n dX11_row_0 rfl ?_
  refine r_if_ge (tgt := 11) dX11_row_1 (by decide) (fun c1 => ?_) (fun c1 => ?_)
  · replace hf := (if_pos c1).symm.trans hf
    refine r_iload_n dX11_row_11 rfl ?_
    refine r_sipush (v := 999) dX11_row_12 (by decide) ?_
    refine r_icmp_gt (tgt := 27) dX11_row_15 (by decide) (fun c2 => ?_) (fun c2 => ?_)
    · replace hf := (if_pos c2).symm.trans hf
      refine r_lvs (lv' := [.ref l0, .null]) ⟨Or.inl rfl, Or.inr rfl, trivial⟩ ?_
      exact t_X11_row_27 _ _ _ hf
    · replace hf := (if_neg c2).symm.trans hf
      refine r_aload_n dX11_row_18 rfl ?_
      obtain ⟨x3, h4, hf⟩ := bnd hf
      refine r_getI dX11_row_19 fs11_154_10 rfl h4 ?_
      refine r_bipush (v := 8) dX11_row_22 (by decide) ?_
      refine r_icmp_lt (tgt := 34) dX11_row_24 (by decide) (fun c5 => ?_) (fun c5 => ?_)
      · replace hf := (if_pos c5).symm.trans hf
        refine r_aload_n dX11_row_34 rfl ?_
        obtain ⟨x6, h7, hf⟩ := bnd hf
        refine r_getR dX11_row_35 fs11_39_10 rfl h7 ?_
        refine r_aload_n dX11_row_38 rfl ?_
        obtain ⟨x8, h9, hf⟩ := bnd hf
        refine r_getI dX11_row_39 fs11_154_10 rfl h9 ?_
        refine r_iload_n dX11_row_42 rfl ?_
        obtain ⟨S10, h11, hf⟩ := bnd hf
        refine r_iastore dX11_row_43 h11 ?_
        refine r_aload_n dX11_row_44 rfl ?_
        refine r_dup dX11_row_45 rfl ?_
        obtain ⟨x12, h13, hf⟩ := bnd hf
        refine r_getI dX11_row_46 fs11_154_10 rfl h13 ?_
        refine r_iconst (v := 1) dX11_row_49 (by decide) ?_
        refine r_iadd dX11_row_50 ?_
        obtain ⟨S14, h15, hf⟩ := bnd hf
        refine r_putI dX11_row_51 fs11_154_10 rfl h15 ?_
        refine r_aload_n dX11_row_54 rfl ?_
        obtain ⟨x16, h17, hf⟩ := bnd hf
        refine r_getI dX11_row_55 fs11_154_10 rfl h17 ?_
        have hz := congrArg eI (Option.some.inj hf)
        exact r_ireturn dX11_row_58 rfl (Nat.le_of_ble_eq_true rfl) (Nat.le_of_ble_eq_true rfl) hz
      · replace hf := (if_neg c5).symm.trans hf
        refine r_lvs (lv' := [.ref l0, .null]) ⟨Or.inl rfl, Or.inr rfl, trivial⟩ ?_
        exact t_X11_row_27 _ _ _ hf
  · replace hf := (if_neg c1).symm.trans hf
    refine r_aload_n dX11_row_4 rfl ?_
    refine r_bipush (v := (-4)) dX11_row_5 (by decide) ?_
    obtain ⟨q18, h19, hf⟩ := bnd hf
    refine r_callVi (st := []) (as := [.int (-4)]) dX11_row_7 ms_X11_refuse ⟨rfl, w1_214, w1_216, w0_0⟩ (ok_X11_refuse h19) (c_X11_refuse h19) rfl ⟨by omega, by omega⟩ (Nat.le_of_ble_eq_true rfl) (by decide) (by decide) rfl ?_
    have hz := congrArg eI (Option.some.inj hf)
    exact r_ireturn dX11_row_10 rfl (Nat.le_of_ble_eq_true rfl) (Nat.le_of_ble_eq_true rfl) hz
def f_X11_judge_64 (k16 : Mm → Nat → Int32 → Int32 → Option (Int32 × Mm)) (S : Mm) (l0 : Nat) (l1 : Int32) (l2 : Int32) : Option (Int32 × Mm) := k16 S l0 l1 (l2 + 1)
def f_X11_judge_70 (S : Mm) (l0 : Nat) (l1 : Int32) : Option (Int32 × Mm) := (pI S 10 l0 8 0).bind fun S1 => some (l1, S1)
def f_X11_judge_16 : Nat → Mm → Nat → Int32 → Int32 → Option (Int32 × Mm)
  | 0, _, _, _, _ => none
  | n + 1, S, l0, l1, l2 => (gI S 10 l0 8).bind fun x1 => (if x1 ≤ l2 then f_X11_judge_70 S l0 l1 else (if l1 = (-9) then (gR S 10 l0 7).bind fun x5 => (aI S x5 l2).bind fun x7 => (gR S 10 l0 1).bind fun x9 => (f_X6_trySale S x9 (x7 / 100) ((x7 / 10) - (x7 / 10) / 10 * 10) (x7 - x7 / 10 * 10)).bind fun q11 => (if q11.1 = 0 then f_X11_judge_64 (f_X11_judge_16 n) q11.2 l0 l2 l2 else f_X11_judge_64 (f_X11_judge_16 n) q11.2 l0 l1 l2) else f_X11_judge_70 S l0 l1))
def f_X11_judge (S : Mm) (l0 : Nat) : Option (Int32 × Mm) := if okc S l0 10 = true then (gR S 10 l0 1).bind fun x1 => (gR S 10 l0 0).bind fun x3 => (f_X6_copyFrom S x1 x3).bind fun q5 => f_X11_judge_16 FU q5 l0 (-9) 0 else none
set_option maxRecDepth 20000 in
theorem t_X11_judge_64 {G : Gt} {l : Launch} (k16 : Mm → Nat → Int32 → Int32 → Option (Int32 × Mm)) (hk16 : ∀ (S : Mm) (l0 : Nat) (l1 : Int32) (l2 : Int32) (T : (Int32 × Mm)), k16 S l0 l1 l2 = some T → Sat G l yX11_judge cX11_judge 4 (some .int) 3 0 0 0 0 16 [.ref l0, .int l1, .int l2, .null] [] S (eI T)) (S : Mm) (l0 : Nat) (l1 : Int32) (l2 : Int32) (T : (Int32 × Mm)) (hf : f_X11_judge_64 k16 S l0 l1 l2 = some T) : Sat G l yX11_judge cX11_judge 4 (some .int) 3 0 0 0 0 64 [.ref l0, .int l1, .int l2, .null] [] S (eI T) := by
  unfold f_X11_judge_64 at hf
  refine r_iinc (v := 1) (lv' := [.ref l0, .int l1, .int (l2 + 1), .null]) dX11_judge_64 rfl (by decide) (by decide) rfl rfl ?_
  refine r_goto (tgt := 16) dX11_judge_67 (by decide) ?_
  exact hk16 _ _ _ _ _ hf
set_option maxRecDepth 20000 in
theorem t_X11_judge_70 {G : Gt} {l : Launch} (S : Mm) (l0 : Nat) (l1 : Int32) (T : (Int32 × Mm)) (hf : f_X11_judge_70 S l0 l1 = some T) : Sat G l yX11_judge cX11_judge 4 (some .int) 3 0 0 0 0 70 [.ref l0, .int l1, .null, .null] [] S (eI T) := by
  unfold f_X11_judge_70 at hf
  refine r_aload_n dX11_judge_70 rfl ?_
  refine r_iconst (v := 0) dX11_judge_71 (by decide) ?_
  obtain ⟨S1, h2, hf⟩ := bnd hf
  refine r_putI dX11_judge_72 fs11_154_10 rfl h2 ?_
  refine r_iload_n dX11_judge_75 rfl ?_
  have hz := congrArg eI (Option.some.inj hf)
  exact r_ireturn dX11_judge_76 rfl (Nat.le_of_ble_eq_true rfl) (Nat.le_of_ble_eq_true rfl) hz
set_option maxRecDepth 20000 in
theorem t_X11_judge_16 {G : Gt} {l : Launch} : ∀ (n : Nat) (S : Mm) (l0 : Nat) (l1 : Int32) (l2 : Int32) (T : (Int32 × Mm)), f_X11_judge_16 n S l0 l1 l2 = some T → Sat G l yX11_judge cX11_judge 4 (some .int) 3 0 0 0 0 16 [.ref l0, .int l1, .int l2, .null] [] S (eI T) := by
  intro n
  induction n with
  | zero =>
    intro S l0 l1 l2 T hf
    rw [f_X11_judge_16] at hf
    cases hf
  | succ n ih =>
    intro S l0 l1 l2 T hf
    rw [f_X11_judge_16] at hf
    refine r_iload_n dX11_judge_16 rfl ?_
    refine r_aload_n dX11_judge_17 rfl ?_
    obtain ⟨x1, h2, hf⟩ := bnd hf
    refine r_getI dX11_judge_18 fs11_154_10 rfl h2 ?_
    refine r_icmp_ge (tgt := 70) dX11_judge_21 (by decide) (fun c3 => ?_) (fun c3 => ?_)
    · replace hf := (if_pos c3).symm.trans hf
      refine r_lvs (lv' := [.ref l0, .int l1, .null, .null]) ⟨Or.inl rfl, Or.inl rfl, Or.inr rfl, Or.inl rfl, trivial⟩ ?_
      exact t_X11_judge_70 _ _ _ _ hf
    · replace hf := (if_neg c3).symm.trans hf
      refine r_iload_n dX11_judge_24 rfl ?_
      refine r_bipush (v := (-9)) dX11_judge_25 (by decide) ?_
      refine r_icmp_ne (tgt := 70) dX11_judge_27 (by decide) (fun c4 => ?_) (fun c4 => ?_)
      · replace hf := (if_neg c4).symm.trans hf
        refine r_lvs (lv' := [.ref l0, .int l1, .null, .null]) ⟨Or.inl rfl, Or.inl rfl, Or.inr rfl, Or.inl rfl, trivial⟩ ?_
        exact t_X11_judge_70 _ _ _ _ hf
      · replace hf := (if_pos c4).symm.trans hf
        refine r_aload_n dX11_judge_30 rfl ?_
        obtain ⟨x5, h6, hf⟩ := bnd hf
        refine r_getR dX11_judge_31 fs11_39_10 rfl h6 ?_
        refine r_iload_n dX11_judge_34 rfl ?_
        obtain ⟨x7, h8, hf⟩ := bnd hf
        refine r_iaload dX11_judge_35 h8 ?_
        refine r_istore_n (lv' := [.ref l0, .int l1, .int l2, .int x7]) dX11_judge_36 (by decide) rfl rfl ?_
        refine r_aload_n dX11_judge_37 rfl ?_
        obtain ⟨x9, h10, hf⟩ := bnd hf
        refine r_getR dX11_judge_38 fs11_16_10 rfl h10 ?_
        refine r_iload_n dX11_judge_41 rfl ?_
        refine r_bipush (v := 100) dX11_judge_42 (by decide) ?_
        refine r_idiv dX11_judge_44 (x := (x7 / 100)) rfl ?_
        refine r_iload_n dX11_judge_45 rfl ?_
        refine r_bipush (v := 10) dX11_judge_46 (by decide) ?_
        refine r_idiv dX11_judge_48 (x := (x7 / 10)) rfl ?_
        refine r_bipush (v := 10) dX11_judge_49 (by decide) ?_
        refine r_irem dX11_judge_51 (x := ((x7 / 10) - (x7 / 10) / 10 * 10)) rfl ?_
        refine r_iload_n dX11_judge_52 rfl ?_
        refine r_bipush (v := 10) dX11_judge_53 (by decide) ?_
        refine r_irem dX11_judge_55 (x := (x7 - x7 / 10 * 10)) rfl ?_
        obtain ⟨q11, h12, hf⟩ := bnd hf
        refine r_callVi (st := []) (as := [.int (x7 / 100), .int ((x7 / 10) - (x7 / 10) / 10 * 10), .int (x7 - x7 / 10 * 10)]) dX11_judge_56 ms_X6_trySale ⟨rfl, w3_1, w3_2, w3_3⟩ (ok_X6_trySale h12) (c_X6_trySale h12) rfl ⟨by omega, by omega⟩ (Nat.le_of_ble_eq_true rfl) (by decide) (by decide) rfl ?_
        refine r_if_ne (tgt := 64) dX11_judge_59 (by decide) (fun c13 => ?_) (fun c13 => ?_)
        · replace hf := (if_neg c13).symm.trans hf
          refine r_lvs (lv' := [.ref l0, .int l1, .int l2, .null]) ⟨Or.inl rfl, Or.inl rfl, Or.inl rfl, Or.inr rfl, trivial⟩ ?_
          exact t_X11_judge_64 (f_X11_judge_16 n) ih _ _ _ _ _ hf
        · replace hf := (if_pos c13).symm.trans hf
          refine r_iload_n dX11_judge_62 rfl ?_
          refine r_istore_n (lv' := [.ref l0, .int l2, .int l2, .int x7]) dX11_judge_63 (by decide) rfl rfl ?_
          refine r_lvs (lv' := [.ref l0, .int l2, .int l2, .null]) ⟨Or.inl rfl, Or.inl rfl, Or.inl rfl, Or.inr rfl, trivial⟩ ?_
          exact t_X11_judge_64 (f_X11_judge_16 n) ih _ _ _ _ _ hf
set_option maxRecDepth 20000 in
theorem ok_X11_judge {S : Mm} {l0 : Nat} {T : (Int32 × Mm)} (hf : f_X11_judge S l0 = some T) : okc S l0 10 = true := (oif hf).1
set_option maxRecDepth 20000 in
theorem c_X11_judge {G : Gt} {l : Launch} {S : Mm} {l0 : Nat} {T : (Int32 × Mm)} (hf : f_X11_judge S l0 = some T) : CC G l yX11_judge cX11_judge 4 (some .int) 3 0 0 [.ref l0] S (eI T) := by
  unfold f_X11_judge at hf
  replace hf := (oif hf).2
  refine r_body (by decide) rfl (Nat.le_of_ble_eq_true rfl) (by simp) ?_
  refine r_aload_n dX11_judge_0 rfl ?_
  obtain ⟨x1, h2, hf⟩ := bnd hf
  refine r_getR dX11_judge_1 fs11_16_10 rfl h2 ?_
  refine r_aload_n dX11_judge_4 rfl ?_
  obtain ⟨x3, h4, hf⟩ := bnd hf
  refine r_getR dX11_judge_5 fs11_10_10 rfl h4 ?_
  obtain ⟨q5, h6, hf⟩ := bnd hf
  refine r_callVv (st := []) (as := [.ref x3]) dX11_judge_8 ms_X6_copyFrom ⟨rfl, w1_231, w1_232, w1_233⟩ (ok_X6_copyFrom h6) (c_X6_copyFrom h6) rfl ⟨by omega, by omega⟩ (Nat.le_of_ble_eq_true rfl) (by decide) (by decide) rfl ?_
  refine r_bipush (v := (-9)) dX11_judge_11 (by decide) ?_
  refine r_istore_n (lv' := [.ref l0, .int (-9), .null, .null]) dX11_judge_13 (by decide) rfl rfl ?_
  refine r_iconst (v := 0) dX11_judge_14 (by decide) ?_
  refine r_istore_n (lv' := [.ref l0, .int (-9), .int 0, .null]) dX11_judge_15 (by decide) rfl rfl ?_
  exact t_X11_judge_16 FU _ _ _ _ _ hf
def f_X11_image (S : Mm) (l0 : Nat) : Option (Int32 × Mm) := if okc S l0 10 = true then (gR S 10 l0 2).bind fun x1 => (gR S 10 l0 0).bind fun x3 => (f_X6_copyFrom S x1 x3).bind fun q5 => (pB q5 10 l0 3 1).bind fun S7 => (gR S7 10 l0 0).bind fun x9 => (gI S7 6 x9 7).bind fun x11 => some (x11, S7) else none
set_option maxRecDepth 20000 in
theorem ok_X11_image {S : Mm} {l0 : Nat} {T : (Int32 × Mm)} (hf : f_X11_image S l0 = some T) : okc S l0 10 = true := (oif hf).1
set_option maxRecDepth 20000 in
theorem c_X11_image {G : Gt} {l : Launch} {S : Mm} {l0 : Nat} {T : (Int32 × Mm)} (hf : f_X11_image S l0 = some T) : CC G l yX11_image cX11_image 1 (some .int) 3 0 0 [.ref l0] S (eI T) := by
  unfold f_X11_image at hf
  replace hf := (oif hf).2
  refine r_body (by decide) rfl (Nat.le_of_ble_eq_true rfl) (by simp) ?_
  refine r_aload_n dX11_image_0 rfl ?_
  obtain ⟨x1, h2, hf⟩ := bnd hf
  refine r_getR dX11_image_1 fs11_19_10 rfl h2 ?_
  refine r_aload_n dX11_image_4 rfl ?_
  obtain ⟨x3, h4, hf⟩ := bnd hf
  refine r_getR dX11_image_5 fs11_10_10 rfl h4 ?_
  obtain ⟨q5, h6, hf⟩ := bnd hf
  refine r_callVv (st := []) (as := [.ref x3]) dX11_image_8 ms_X6_copyFrom ⟨rfl, w1_231, w1_232, w1_233⟩ (ok_X6_copyFrom h6) (c_X6_copyFrom h6) rfl ⟨by omega, by omega⟩ (Nat.le_of_ble_eq_true rfl) (by decide) (by decide) rfl ?_
  refine r_aload_n dX11_image_11 rfl ?_
  refine r_iconst (v := 1) dX11_image_12 (by decide) ?_
  obtain ⟨S7, h8, hf⟩ := bnd hf
  refine r_putB dX11_image_13 fs11_240_10 rfl h8 ?_
  refine r_aload_n dX11_image_16 rfl ?_
  obtain ⟨x9, h10, hf⟩ := bnd hf
  refine r_getR dX11_image_17 fs11_10_10 rfl h10 ?_
  obtain ⟨x11, h12, hf⟩ := bnd hf
  refine r_getI dX11_image_20 fs11_135_6 rfl h12 ?_
  have hz := congrArg eI (Option.some.inj hf)
  exact r_ireturn dX11_image_23 rfl (Nat.le_of_ble_eq_true rfl) (Nat.le_of_ble_eq_true rfl) hz
def f_X11_restore (S : Mm) (l0 : Nat) : Option (Int32 × Mm) := if okc S l0 10 = true then (gI S 10 l0 3).bind fun x1 => (if x1 = 0 then (f_X11_refuse S l0 (-3)).bind fun q14 => some (q14.1, q14.2) else (gR S 10 l0 0).bind fun x4 => (gR S 10 l0 2).bind fun x6 => (f_X6_copyFrom S x4 x6).bind fun q8 => (gR q8 10 l0 0).bind fun x10 => (gI q8 6 x10 7).bind fun x12 => some (x12, q8)) else none
set_option maxRecDepth 20000 in
theorem ok_X11_restore {S : Mm} {l0 : Nat} {T : (Int32 × Mm)} (hf : f_X11_restore S l0 = some T) : okc S l0 10 = true := (oif hf).1
set_option maxRecDepth 20000 in
theorem c_X11_restore {G : Gt} {l : Launch} {S : Mm} {l0 : Nat} {T : (Int32 × Mm)} (hf : f_X11_restore S l0 = some T) : CC G l yX11_restore cX11_restore 1 (some .int) 3 0 0 [.ref l0] S (eI T) := by
  unfold f_X11_restore at hf
  replace hf := (oif hf).2
  refine r_body (by decide) rfl (Nat.le_of_ble_eq_true rfl) (by simp) ?_
  refine r_aload_n dX11_restore_0 rfl ?_
  obtain ⟨x1, h2, hf⟩ := bnd hf
  refine r_getI dX11_restore_1 fs11_240_10 rfl h2 ?_
  refine r_if_ne (tgt := 14) dX11_restore_4 (by decide) (fun c3 => ?_) (fun c3 => ?_)
  · replace hf := (if_neg c3).symm.trans hf
    refine r_aload_n dX11_restore_14 rfl ?_
    obtain ⟨x4, h5, hf⟩ := bnd hf
    refine r_getR dX11_restore_15 fs11_10_10 rfl h5 ?_
    refine r_aload_n dX11_restore_18 rfl ?_
    obtain ⟨x6, h7, hf⟩ := bnd hf
    refine r_getR dX11_restore_19 fs11_19_10 rfl h7 ?_
    obtain ⟨q8, h9, hf⟩ := bnd hf
    refine r_callVv (st := []) (as := [.ref x6]) dX11_restore_22 ms_X6_copyFrom ⟨rfl, w1_231, w1_232, w1_233⟩ (ok_X6_copyFrom h9) (c_X6_copyFrom h9) rfl ⟨by omega, by omega⟩ (Nat.le_of_ble_eq_true rfl) (by decide) (by decide) rfl ?_
    refine r_aload_n dX11_restore_25 rfl ?_
    obtain ⟨x10, h11, hf⟩ := bnd hf
    refine r_getR dX11_restore_26 fs11_10_10 rfl h11 ?_
    obtain ⟨x12, h13, hf⟩ := bnd hf
    refine r_getI dX11_restore_29 fs11_135_6 rfl h13 ?_
    have hz := congrArg eI (Option.some.inj hf)
    exact r_ireturn dX11_restore_32 rfl (Nat.le_of_ble_eq_true rfl) (Nat.le_of_ble_eq_true rfl) hz
  · replace hf := (if_pos c3).symm.trans hf
    refine r_aload_n dX11_restore_7 rfl ?_
    refine r_bipush (v := (-3)) dX11_restore_8 (by decide) ?_
    obtain ⟨q14, h15, hf⟩ := bnd hf
    refine r_callVi (st := []) (as := [.int (-3)]) dX11_restore_10 ms_X11_refuse ⟨rfl, w1_214, w1_216, w0_0⟩ (ok_X11_refuse h15) (c_X11_refuse h15) rfl ⟨by omega, by omega⟩ (Nat.le_of_ble_eq_true rfl) (by decide) (by decide) rfl ?_
    have hz := congrArg eI (Option.some.inj hf)
    exact r_ireturn dX11_restore_13 rfl (Nat.le_of_ble_eq_true rfl) (Nat.le_of_ble_eq_true rfl) hz
