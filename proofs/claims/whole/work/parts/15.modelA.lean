def f_X12_init (S : Mm) (l0 : Nat) : Option Mm := (pR (nC S 100 6) 11 l0 4 (mX S)).bind fun S1 => (pR (nC S1 100 6) 11 l0 5 (mX S1)).bind fun S3 => (pR (nC S3 100 6) 11 l0 6 (mX S3)).bind fun S5 => (pR (nC S5 100 6) 11 l0 7 (mX S5)).bind fun S7 => (pR (nC S7 100 6) 11 l0 8 (mX S7)).bind fun S9 => (pR (nC S9 100 6) 11 l0 9 (mX S9)).bind fun S11 => (pR (nC S11 100 6) 11 l0 10 (mX S11)).bind fun S13 => (pR (nC S13 100 6) 11 l0 11 (mX S13)).bind fun S15 => (pR (nC S15 100 18) 11 l0 12 (mX S15)).bind fun S17 => (pR (nC S17 100 36) 11 l0 13 (mX S17)).bind fun S19 => (aS (nC S19 100 3) (mX S19) 0 1).bind fun S21 => (aS S21 (mX S19) 1 1).bind fun S23 => (aS S23 (mX S19) 2 1).bind fun S25 => (pR S25 11 l0 14 (mX S19)).bind fun S27 => (pR (nC S27 100 7) 11 l0 16 (mX S27)).bind fun S29 => (pR (nC S29 100 6) 11 l0 18 (mX S29)).bind fun S31 => (pR (nC S31 100 109) 11 l0 20 (mX S31)).bind fun S33 => (pR (nC S33 100 109) 11 l0 21 (mX S33)).bind fun S35 => (pR (nC S35 100 96) 11 l0 26 (mX S35)).bind fun S37 => (pR (nC S37 100 49) 11 l0 31 (mX S37)).bind fun S39 => (pR (nC S39 100 49) 11 l0 32 (mX S39)).bind fun S41 => (pR (nC S41 100 441) 11 l0 33 (mX S41)).bind fun S43 => (pR (nC S43 100 6) 11 l0 34 (mX S43)).bind fun S45 => (pR (nC S45 100 8) 11 l0 35 (mX S45)).bind fun S47 => (pI S47 11 l0 15 0).bind fun S49 => some S49
set_option maxRecDepth 20000 in
theorem c_X12_init {G : Gt} {l : Launch} {S : Mm} {l0 : Nat} {T : Mm} (hf : f_X12_init S l0 = some T) : CC G l yX12_init cX12_init 1 none 1 21 985 [.ref l0] S (eV T) := by
  unfold f_X12_init at hf
  refine r_body (by decide) rfl (Nat.le_of_ble_eq_true rfl) (by simp) ?_
  refine r_aload_n dX12_init_0 rfl ?_
  refine r_objInit dX12_init_1 ⟨w3_227, w1_22, w1_23⟩ (by decide) (Nat.le_of_ble_eq_true rfl) ?_
  refine r_aload_n dX12_init_4 rfl ?_
  refine r_bipush (v := 6) dX12_init_5 (by decide) ?_
  refine r_newarray (N := 6) dX12_init_7 w1_42 (by decide) (by decide) (by decide) (by decide) (by decide) ?_
  obtain ⟨S1, h2, hf⟩ := bnd hf
  refine r_putFR dX12_init_9 fs12_7_11 (fun _ _ _ h => by cases h; rfl) rfl rfl (fun _ => rfl) (fun _ => rfl) h2 ?_
  refine r_aload_n dX12_init_12 rfl ?_
  refine r_bipush (v := 6) dX12_init_13 (by decide) ?_
  refine r_newarray (N := 6) dX12_init_15 w1_42 (by decide) (by decide) (by decide) (by decide) (by decide) ?_
  obtain ⟨S3, h4, hf⟩ := bnd hf
  refine r_putFR dX12_init_17 fs12_13_11 (fun _ _ _ h => by cases h; rfl) rfl rfl (fun _ => rfl) (fun _ => rfl) h4 ?_
  refine r_aload_n dX12_init_20 rfl ?_
  refine r_bipush (v := 6) dX12_init_21 (by decide) ?_
  refine r_newarray (N := 6) dX12_init_23 w1_42 (by decide) (by decide) (by decide) (by decide) (by decide) ?_
  obtain ⟨S5, h6, hf⟩ := bnd hf
  refine r_putFR dX12_init_25 fs12_16_11 (fun _ _ _ h => by cases h; rfl) rfl rfl (fun _ => rfl) (fun _ => rfl) h6 ?_
  refine r_aload_n dX12_init_28 rfl ?_
  refine r_bipush (v := 6) dX12_init_29 (by decide) ?_
  refine r_newarray (N := 6) dX12_init_31 w1_42 (by decide) (by decide) (by decide) (by decide) (by decide) ?_
  obtain ⟨S7, h8, hf⟩ := bnd hf
  refine r_putFR dX12_init_33 fs12_19_11 (fun _ _ _ h => by cases h; rfl) rfl rfl (fun _ => rfl) (fun _ => rfl) h8 ?_
  refine r_aload_n dX12_init_36 rfl ?_
  refine r_bipush (v := 6) dX12_init_37 (by decide) ?_
  refine r_newarray (N := 6) dX12_init_39 w1_42 (by decide) (by decide) (by decide) (by decide) (by decide) ?_
  obtain ⟨S9, h10, hf⟩ := bnd hf
  refine r_putFR dX12_init_41 fs12_22_11 (fun _ _ _ h => by cases h; rfl) rfl rfl (fun _ => rfl) (fun _ => rfl) h10 ?_
  refine r_aload_n dX12_init_44 rfl ?_
  refine r_bipush (v := 6) dX12_init_45 (by decide) ?_
  refine r_newarray (N := 6) dX12_init_47 w1_42 (by decide) (by decide) (by decide) (by decide) (by decide) ?_
  obtain ⟨S11, h12, hf⟩ := bnd hf
  refine r_putFR dX12_init_49 fs12_25_11 (fun _ _ _ h => by cases h; rfl) rfl rfl (fun _ => rfl) (fun _ => rfl) h12 ?_
  refine r_aload_n dX12_init_52 rfl ?_
  refine r_bipush (v := 6) dX12_init_53 (by decide) ?_
  refine r_newarray (N := 6) dX12_init_55 w1_42 (by decide) (by decide) (by decide) (by decide) (by decide) ?_
  obtain ⟨S13, h14, hf⟩ := bnd hf
  refine r_putFR dX12_init_57 fs12_28_11 (fun _ _ _ h => by cases h; rfl) rfl rfl (fun _ => rfl) (fun _ => rfl) h14 ?_
  refine r_aload_n dX12_init_60 rfl ?_
  refine r_bipush (v := 6) dX12_init_61 (by decide) ?_
  refine r_newarray (N := 6) dX12_init_63 w1_42 (by decide) (by decide) (by decide) (by decide) (by decide) ?_
  obtain ⟨S15, h16, hf⟩ := bnd hf
  refine r_putFR dX12_init_65 fs12_31_11 (fun _ _ _ h => by cases h; rfl) rfl rfl (fun _ => rfl) (fun _ => rfl) h16 ?_
  refine r_aload_n dX12_init_68 rfl ?_
  refine r_bipush (v := 18) dX12_init_69 (by decide) ?_
  refine r_newarray (N := 18) dX12_init_71 w1_42 (by decide) (by decide) (by decide) (by decide) (by decide) ?_
  obtain ⟨S17, h18, hf⟩ := bnd hf
  refine r_putFR dX12_init_73 fs12_34_11 (fun _ _ _ h => by cases h; rfl) rfl rfl (fun _ => rfl) (fun _ => rfl) h18 ?_
  refine r_aload_n dX12_init_76 rfl ?_
  refine r_bipush (v := 36) dX12_init_77 (by decide) ?_
  refine r_newarray (N := 36) dX12_init_79 w1_42 (by decide) (by decide) (by decide) (by decide) (by decide) ?_
  obtain ⟨S19, h20, hf⟩ := bnd hf
  refine r_putFR dX12_init_81 fs12_37_11 (fun _ _ _ h => by cases h; rfl) rfl rfl (fun _ => rfl) (fun _ => rfl) h20 ?_
  refine r_aload_n dX12_init_84 rfl ?_
  refine r_iconst (v := 3) dX12_init_85 (by decide) ?_
  refine r_newarray (N := 3) dX12_init_86 w1_42 (by decide) (by decide) (by decide) (by decide) (by decide) ?_
  refine r_dup dX12_init_88 rfl ?_
  refine r_iconst (v := 0) dX12_init_89 (by decide) ?_
  refine r_iconst (v := 1) dX12_init_90 (by decide) ?_
  obtain ⟨S21, h22, hf⟩ := bnd hf
  refine r_iastore dX12_init_91 h22 ?_
  refine r_dup dX12_init_92 rfl ?_
  refine r_iconst (v := 1) dX12_init_93 (by decide) ?_
  refine r_iconst (v := 1) dX12_init_94 (by decide) ?_
  obtain ⟨S23, h24, hf⟩ := bnd hf
  refine r_iastore dX12_init_95 h24 ?_
  refine r_dup dX12_init_96 rfl ?_
  refine r_iconst (v := 2) dX12_init_97 (by decide) ?_
  refine r_iconst (v := 1) dX12_init_98 (by decide) ?_
  obtain ⟨S25, h26, hf⟩ := bnd hf
  refine r_iastore dX12_init_99 h26 ?_
  obtain ⟨S27, h28, hf⟩ := bnd hf
  refine r_putFR dX12_init_100 fs12_40_11 (fun _ _ _ h => by cases h; rfl) rfl rfl (fun _ => rfl) (fun _ => rfl) h28 ?_
  refine r_aload_n dX12_init_103 rfl ?_
  refine r_bipush (v := 7) dX12_init_104 (by decide) ?_
  refine r_newarray (N := 7) dX12_init_106 w1_42 (by decide) (by decide) (by decide) (by decide) (by decide) ?_
  obtain ⟨S29, h30, hf⟩ := bnd hf
  refine r_putFR dX12_init_108 fs12_43_11 (fun _ _ _ h => by cases h; rfl) rfl rfl (fun _ => rfl) (fun _ => rfl) h30 ?_
  refine r_aload_n dX12_init_111 rfl ?_
  refine r_bipush (v := 6) dX12_init_112 (by decide) ?_
  refine r_newarray (N := 6) dX12_init_114 w1_42 (by decide) (by decide) (by decide) (by decide) (by decide) ?_
  obtain ⟨S31, h32, hf⟩ := bnd hf
  refine r_putFR dX12_init_116 fs12_46_11 (fun _ _ _ h => by cases h; rfl) rfl rfl (fun _ => rfl) (fun _ => rfl) h32 ?_
  refine r_aload_n dX12_init_119 rfl ?_
  refine r_bipush (v := 109) dX12_init_120 (by decide) ?_
  refine r_newarray (N := 109) dX12_init_122 w1_42 (by decide) (by decide) (by decide) (by decide) (by decide) ?_
  obtain ⟨S33, h34, hf⟩ := bnd hf
  refine r_putFR dX12_init_124 fs12_49_11 (fun _ _ _ h => by cases h; rfl) rfl rfl (fun _ => rfl) (fun _ => rfl) h34 ?_
  refine r_aload_n dX12_init_127 rfl ?_
  refine r_bipush (v := 109) dX12_init_128 (by decide) ?_
  refine r_newarray (N := 109) dX12_init_130 w1_42 (by decide) (by decide) (by decide) (by decide) (by decide) ?_
  obtain ⟨S35, h36, hf⟩ := bnd hf
  refine r_putFR dX12_init_132 fs12_52_11 (fun _ _ _ h => by cases h; rfl) rfl rfl (fun _ => rfl) (fun _ => rfl) h36 ?_
  refine r_aload_n dX12_init_135 rfl ?_
  refine r_bipush (v := 96) dX12_init_136 (by decide) ?_
  refine r_newarray (N := 96) dX12_init_138 w1_42 (by decide) (by decide) (by decide) (by decide) (by decide) ?_
  obtain ⟨S37, h38, hf⟩ := bnd hf
  refine r_putFR dX12_init_140 fs12_55_11 (fun _ _ _ h => by cases h; rfl) rfl rfl (fun _ => rfl) (fun _ => rfl) h38 ?_
  refine r_aload_n dX12_init_143 rfl ?_
  refine r_bipush (v := 49) dX12_init_144 (by decide) ?_
  refine r_newarray (N := 49) dX12_init_146 w1_42 (by decide) (by decide) (by decide) (by decide) (by decide) ?_
  obtain ⟨S39, h40, hf⟩ := bnd hf
  refine r_putFR dX12_init_148 fs12_58_11 (fun _ _ _ h => by cases h; rfl) rfl rfl (fun _ => rfl) (fun _ => rfl) h40 ?_
  refine r_aload_n dX12_init_151 rfl ?_
  refine r_bipush (v := 49) dX12_init_152 (by decide) ?_
  refine r_newarray (N := 49) dX12_init_154 w1_42 (by decide) (by decide) (by decide) (by decide) (by decide) ?_
  obtain ⟨S41, h42, hf⟩ := bnd hf
  refine r_putFR dX12_init_156 fs12_61_11 (fun _ _ _ h => by cases h; rfl) rfl rfl (fun _ => rfl) (fun _ => rfl) h42 ?_
  refine r_aload_n dX12_init_159 rfl ?_
  refine r_sipush (v := 441) dX12_init_160 (by decide) ?_
  refine r_newarray (N := 441) dX12_init_163 w1_42 (by decide) (by decide) (by decide) (by decide) (by decide) ?_
  obtain ⟨S43, h44, hf⟩ := bnd hf
  refine r_putFR dX12_init_165 fs12_64_11 (fun _ _ _ h => by cases h; rfl) rfl rfl (fun _ => rfl) (fun _ => rfl) h44 ?_
  refine r_aload_n dX12_init_168 rfl ?_
  refine r_bipush (v := 6) dX12_init_169 (by decide) ?_
  refine r_newarray (N := 6) dX12_init_171 w1_42 (by decide) (by decide) (by decide) (by decide) (by decide) ?_
  obtain ⟨S45, h46, hf⟩ := bnd hf
  refine r_putFR dX12_init_173 fs12_67_11 (fun _ _ _ h => by cases h; rfl) rfl rfl (fun _ => rfl) (fun _ => rfl) h46 ?_
  refine r_aload_n dX12_init_176 rfl ?_
  refine r_bipush (v := 8) dX12_init_177 (by decide) ?_
  refine r_newarray (N := 8) dX12_init_179 w1_42 (by decide) (by decide) (by decide) (by decide) (by decide) ?_
  obtain ⟨S47, h48, hf⟩ := bnd hf
  refine r_putFR dX12_init_181 fs12_70_11 (fun _ _ _ h => by cases h; rfl) rfl rfl (fun _ => rfl) (fun _ => rfl) h48 ?_
  refine r_aload_n dX12_init_184 rfl ?_
  refine r_iconst (v := 0) dX12_init_185 (by decide) ?_
  obtain ⟨S49, h50, hf⟩ := bnd hf
  refine r_putI dX12_init_186 fs12_73_11 rfl h50 ?_
  have hz := congrArg eV (Option.some.inj hf)
  exact r_return dX12_init_189 rfl (Nat.le_of_ble_eq_true rfl) (Nat.le_of_ble_eq_true rfl) hz
def f_X12_in_18 (S : Mm) (s0 : Int32) : Option (Int32 × Mm) := (rB s0).bind fun x1 => some (x1, S)
def f_X12_in_17 (S : Mm)  : Option (Int32 × Mm) := f_X12_in_18 S 0
def f_X12_in (S : Mm) (l0 : Int64) (l2 : Int64) (l4 : Int64) : Option (Int32 × Mm) := (if (lg_cmp l0 l2) < 0 then f_X12_in_17 S else (if 0 < (lg_cmp l0 l4) then f_X12_in_17 S else f_X12_in_18 S 1))
set_option maxRecDepth 20000 in
theorem t_X12_in_18 {G : Gt} {l : Launch} (S : Mm) (s0 : Int32) (T : (Int32 × Mm)) (hf : f_X12_in_18 S s0 = some T) : Sat G l yX12_in cX12_in 6 (some .boolean) 0 0 0 0 0 18 [.null, .null, .null, .null, .null, .null] [.int s0] S (eI T) := by
  unfold f_X12_in_18 at hf
  obtain ⟨x1, h2, hf⟩ := bnd hf
  have hz := congrArg eI (Option.some.inj hf)
  exact r_zreturn dX12_in_18 rfl (Nat.le_of_ble_eq_true rfl) (Nat.le_of_ble_eq_true rfl) h2 hz
set_option maxRecDepth 20000 in
theorem t_X12_in_17 {G : Gt} {l : Launch} (S : Mm)  (T : (Int32 × Mm)) (hf : f_X12_in_17 S  = some T) : Sat G l yX12_in cX12_in 6 (some .boolean) 0 0 0 0 0 17 [.null, .null, .null, .null, .null, .null] [] S (eI T) := by
  unfold f_X12_in_17 at hf
  refine r_iconst (v := 0) dX12_in_17 (by decide) ?_
  exact t_X12_in_18 _ _ _ hf
set_option maxRecDepth 20000 in
theorem c_X12_in {G : Gt} {l : Launch} {S : Mm} {l0 : Int64} {l2 : Int64} {l4 : Int64} {T : (Int32 × Mm)} (hf : f_X12_in S l0 l2 l4 = some T) : CC G l yX12_in cX12_in 6 (some .boolean) 0 0 0 [.long l0, .long l2, .long l4] S (eI T) := by
  unfold f_X12_in at hf
  refine r_body (by decide) rfl (Nat.le_of_ble_eq_true rfl) (by simp) ?_
  refine r_lload_n dX12_in_0 rfl ?_
  refine r_lload_n dX12_in_1 rfl ?_
  refine r_lcmp dX12_in_2 ?_
  refine r_if_lt (tgt := 17) dX12_in_3 (by decide) (fun c1 => ?_) (fun c1 => ?_)
  · replace hf := (if_pos c1).symm.trans hf
    refine r_lvs (lv' := [.null, .null, .null, .null, .null, .null]) ⟨Or.inr rfl, Or.inl rfl, Or.inr rfl, Or.inl rfl, Or.inr rfl, Or.inl rfl, trivial⟩ ?_
    exact t_X12_in_17 _ _ hf
  · replace hf := (if_neg c1).symm.trans hf
    refine r_lload_n dX12_in_6 rfl ?_
    refine r_lload dX12_in_7 rfl ?_
    refine r_lcmp dX12_in_9 ?_
    refine r_if_gt (tgt := 17) dX12_in_10 (by decide) (fun c2 => ?_) (fun c2 => ?_)
    · replace hf := (if_pos c2).symm.trans hf
      refine r_lvs (lv' := [.null, .null, .null, .null, .null, .null]) ⟨Or.inr rfl, Or.inl rfl, Or.inr rfl, Or.inl rfl, Or.inr rfl, Or.inl rfl, trivial⟩ ?_
      exact t_X12_in_17 _ _ hf
    · replace hf := (if_neg c2).symm.trans hf
      refine r_iconst (v := 1) dX12_in_13 (by decide) ?_
      refine r_goto (tgt := 18) dX12_in_14 (by decide) ?_
      refine r_lvs (lv' := [.null, .null, .null, .null, .null, .null]) ⟨Or.inr rfl, Or.inl rfl, Or.inr rfl, Or.inl rfl, Or.inr rfl, Or.inl rfl, trivial⟩ ?_
      exact t_X12_in_18 _ _ _ hf
def f_X12_refuse (S : Mm) (l0 : Nat) (l1 : Int32) : Option (Int32 × Mm) := if okc S l0 11 = true then (gR S 11 l0 16).bind fun x1 => (aI S x1 (-l1)).bind fun x3 => (aS S x1 (-l1) (x3 + 1)).bind fun S5 => some (l1, S5) else none
set_option maxRecDepth 20000 in
theorem ok_X12_refuse {S : Mm} {l0 : Nat} {l1 : Int32} {T : (Int32 × Mm)} (hf : f_X12_refuse S l0 l1 = some T) : okc S l0 11 = true := (oif hf).1
set_option maxRecDepth 20000 in
theorem c_X12_refuse {G : Gt} {l : Launch} {S : Mm} {l0 : Nat} {l1 : Int32} {T : (Int32 × Mm)} (hf : f_X12_refuse S l0 l1 = some T) : CC G l yX12_refuse cX12_refuse 2 (some .int) 0 0 0 [.ref l0, .int l1] S (eI T) := by
  unfold f_X12_refuse at hf
  replace hf := (oif hf).2
  refine r_body (by decide) rfl (Nat.le_of_ble_eq_true rfl) (by simp) ?_
  refine r_aload_n dX12_refuse_0 rfl ?_
  obtain ⟨x1, h2, hf⟩ := bnd hf
  refine r_getR dX12_refuse_1 fs12_43_11 rfl h2 ?_
  refine r_iload_n dX12_refuse_4 rfl ?_
  refine r_ineg dX12_refuse_5 ?_
  refine r_dup2 dX12_refuse_6 rfl rfl ?_
  obtain ⟨x3, h4, hf⟩ := bnd hf
  refine r_iaload dX12_refuse_7 h4 ?_
  refine r_iconst (v := 1) dX12_refuse_8 (by decide) ?_
  refine r_iadd dX12_refuse_9 ?_
  obtain ⟨S5, h6, hf⟩ := bnd hf
  refine r_iastore dX12_refuse_10 h6 ?_
  refine r_iload_n dX12_refuse_11 rfl ?_
  have hz := congrArg eI (Option.some.inj hf)
  exact r_ireturn dX12_refuse_12 rfl (Nat.le_of_ble_eq_true rfl) (Nat.le_of_ble_eq_true rfl) hz
def f_X12_isHouse (S : Mm) (l0 : Nat) (l1 : Int32) : Option (Int32 × Mm) := if okc S l0 11 = true then (gI S 11 l0 0).bind fun x1 => (f_X12_in S l1.toInt64 0 ((x1 - 1).toInt64)).bind fun q3 => (rB q3.1).bind fun x5 => some (x5, q3.2) else none
set_option maxRecDepth 20000 in
theorem ok_X12_isHouse {S : Mm} {l0 : Nat} {l1 : Int32} {T : (Int32 × Mm)} (hf : f_X12_isHouse S l0 l1 = some T) : okc S l0 11 = true := (oif hf).1
set_option maxRecDepth 20000 in
theorem c_X12_isHouse {G : Gt} {l : Launch} {S : Mm} {l0 : Nat} {l1 : Int32} {T : (Int32 × Mm)} (hf : f_X12_isHouse S l0 l1 = some T) : CC G l yX12_isHouse cX12_isHouse 2 (some .boolean) 1 0 0 [.ref l0, .int l1] S (eI T) := by
  unfold f_X12_isHouse at hf
  replace hf := (oif hf).2
  refine r_body (by decide) rfl (Nat.le_of_ble_eq_true rfl) (by simp) ?_
  refine r_iload_n dX12_isHouse_0 rfl ?_
  refine r_i2l dX12_isHouse_1 ?_
  refine r_lconst (v := 0) dX12_isHouse_2 (by decide) ?_
  refine r_aload_n dX12_isHouse_3 rfl ?_
  obtain ⟨x1, h2, hf⟩ := bnd hf
  refine r_getI dX12_isHouse_4 fs12_77_11 rfl h2 ?_
  refine r_iconst (v := 1) dX12_isHouse_7 (by decide) ?_
  refine r_isub dX12_isHouse_8 ?_
  refine r_i2l dX12_isHouse_9 ?_
  obtain ⟨q3, h4, hf⟩ := bnd hf
  refine r_callSi (st := []) (as := [.long l1.toInt64, .long 0, .long (x1 - 1).toInt64]) dX12_isHouse_10 ms_X12_in ⟨w4_145, w4_146⟩ (c_X12_in h4) rfl ⟨by omega, by omega⟩ (Nat.le_of_ble_eq_true rfl) (by decide) (by decide) rfl ?_
  obtain ⟨x5, h6, hf⟩ := bnd hf
  have hz := congrArg eI (Option.some.inj hf)
  exact r_zreturn dX12_isHouse_13 rfl (Nat.le_of_ble_eq_true rfl) (Nat.le_of_ble_eq_true rfl) h6 hz
def f_X12_areTwo_26 (S : Mm) (s0 : Int32) : Option (Int32 × Mm) := (rB s0).bind fun x1 => some (x1, S)
def f_X12_areTwo_25 (S : Mm)  : Option (Int32 × Mm) := f_X12_areTwo_26 S 0
def f_X12_areTwo (S : Mm) (l0 : Nat) (l1 : Int32) (l2 : Int32) : Option (Int32 × Mm) := if okc S l0 11 = true then (f_X12_isHouse S l0 l1).bind fun q1 => (if q1.1 = 0 then f_X12_areTwo_25 q1.2 else (f_X12_isHouse q1.2 l0 l2).bind fun q4 => (if q4.1 = 0 then f_X12_areTwo_25 q4.2 else (if l1 = l2 then f_X12_areTwo_25 q4.2 else f_X12_areTwo_26 q4.2 1))) else none
set_option maxRecDepth 20000 in
theorem t_X12_areTwo_26 {G : Gt} {l : Launch} (S : Mm) (s0 : Int32) (T : (Int32 × Mm)) (hf : f_X12_areTwo_26 S s0 = some T) : Sat G l yX12_areTwo cX12_areTwo 3 (some .boolean) 2 0 0 0 0 26 [.null, .null, .null] [.int s0] S (eI T) := by
  unfold f_X12_areTwo_26 at hf
  obtain ⟨x1, h2, hf⟩ := bnd hf
  have hz := congrArg eI (Option.some.inj hf)
  exact r_zreturn dX12_areTwo_26 rfl (Nat.le_of_ble_eq_true rfl) (Nat.le_of_ble_eq_true rfl) h2 hz
set_option maxRecDepth 20000 in
theorem t_X12_areTwo_25 {G : Gt} {l : Launch} (S : Mm)  (T : (Int32 × Mm)) (hf : f_X12_areTwo_25 S  = some T) : Sat G l yX12_areTwo cX12_areTwo 3 (some .boolean) 2 0 0 0 0 25 [.null, .null, .null] [] S (eI T) := by
  unfold f_X12_areTwo_25 at hf
  refine r_iconst (v := 0) dX12_areTwo_25 (by decide) ?_
  exact t_X12_areTwo_26 _ _ _ hf
set_option maxRecDepth 20000 in
theorem ok_X12_areTwo {S : Mm} {l0 : Nat} {l1 : Int32} {l2 : Int32} {T : (Int32 × Mm)} (hf : f_X12_areTwo S l0 l1 l2 = some T) : okc S l0 11 = true := (oif hf).1
set_option maxRecDepth 20000 in
theorem c_X12_areTwo {G : Gt} {l : Launch} {S : Mm} {l0 : Nat} {l1 : Int32} {l2 : Int32} {T : (Int32 × Mm)} (hf : f_X12_areTwo S l0 l1 l2 = some T) : CC G l yX12_areTwo cX12_areTwo 3 (some .boolean) 2 0 0 [.ref l0, .int l1, .int l2] S (eI T) := by
  unfold f_X12_areTwo at hf
  replace hf := (oif hf).2
  refine r_body (by decide) rfl (Nat.le_of_ble_eq_true rfl) (by simp) ?_
  refine r_aload_n dX12_areTwo_0 rfl ?_
  refine r_iload_n dX12_areTwo_1 rfl ?_
  obtain ⟨q1, h2, hf⟩ := bnd hf
  refine r_callVi (st := []) (as := [.int l1]) dX12_areTwo_2 ms_X12_isHouse ⟨rfl, w4_168, w4_170, w0_30⟩ (ok_X12_isHouse h2) (c_X12_isHouse h2) rfl ⟨by omega, by omega⟩ (Nat.le_of_ble_eq_true rfl) (by decide) (by decide) rfl ?_
  refine r_if_eq (tgt := 25) dX12_areTwo_5 (by decide) (fun c3 => ?_) (fun c3 => ?_)
  · replace hf := (if_pos c3).symm.trans hf
    refine r_lvs (lv' := [.null, .null, .null]) ⟨Or.inr rfl, Or.inr rfl, Or.inr rfl, trivial⟩ ?_
    exact t_X12_areTwo_25 _ _ hf
  · replace hf := (if_neg c3).symm.trans hf
    refine r_aload_n dX12_areTwo_8 rfl ?_
    refine r_iload_n dX12_areTwo_9 rfl ?_
    obtain ⟨q4, h5, hf⟩ := bnd hf
    refine r_callVi (st := []) (as := [.int l2]) dX12_areTwo_10 ms_X12_isHouse ⟨rfl, w4_168, w4_170, w0_30⟩ (ok_X12_isHouse h5) (c_X12_isHouse h5) rfl ⟨by omega, by omega⟩ (Nat.le_of_ble_eq_true rfl) (by decide) (by decide) rfl ?_
    refine r_if_eq (tgt := 25) dX12_areTwo_13 (by decide) (fun c6 => ?_) (fun c6 => ?_)
    · replace hf := (if_pos c6).symm.trans hf
      refine r_lvs (lv' := [.null, .null, .null]) ⟨Or.inr rfl, Or.inr rfl, Or.inr rfl, trivial⟩ ?_
      exact t_X12_areTwo_25 _ _ hf
    · replace hf := (if_neg c6).symm.trans hf
      refine r_iload_n dX12_areTwo_16 rfl ?_
      refine r_iload_n dX12_areTwo_17 rfl ?_
      refine r_icmp_eq (tgt := 25) dX12_areTwo_18 (by decide) (fun c7 => ?_) (fun c7 => ?_)
      · replace hf := (if_pos c7).symm.trans hf
        refine r_lvs (lv' := [.null, .null, .null]) ⟨Or.inr rfl, Or.inr rfl, Or.inr rfl, trivial⟩ ?_
        exact t_X12_areTwo_25 _ _ hf
      · replace hf := (if_neg c7).symm.trans hf
        refine r_iconst (v := 1) dX12_areTwo_21 (by decide) ?_
        refine r_goto (tgt := 26) dX12_areTwo_22 (by decide) ?_
        refine r_lvs (lv' := [.null, .null, .null]) ⟨Or.inr rfl, Or.inr rfl, Or.inr rfl, trivial⟩ ?_
        exact t_X12_areTwo_26 _ _ _ hf
def f_X12_isGood (S : Mm) (l0 : Int32) : Option (Int32 × Mm) := (f_X12_in S l0.toInt64 0 2).bind fun q1 => (rB q1.1).bind fun x3 => some (x3, q1.2)
set_option maxRecDepth 20000 in
theorem c_X12_isGood {G : Gt} {l : Launch} {S : Mm} {l0 : Int32} {T : (Int32 × Mm)} (hf : f_X12_isGood S l0 = some T) : CC G l yX12_isGood cX12_isGood 1 (some .boolean) 1 0 0 [.int l0] S (eI T) := by
  unfold f_X12_isGood at hf
  refine r_body (by decide) rfl (Nat.le_of_ble_eq_true rfl) (by simp) ?_
  refine r_iload_n dX12_isGood_0 rfl ?_
  refine r_i2l dX12_isGood_1 ?_
  refine r_lconst (v := 0) dX12_isGood_2 (by decide) ?_
  refine r_ldc2 (v := 2) dX12_isGood_3 w4_195 ?_
  obtain ⟨q1, h2, hf⟩ := bnd hf
  refine r_callSi (st := []) (as := [.long l0.toInt64, .long 0, .long 2]) dX12_isGood_6 ms_X12_in ⟨w4_145, w4_146⟩ (c_X12_in h2) rfl ⟨by omega, by omega⟩ (Nat.le_of_ble_eq_true rfl) (by decide) (by decide) rfl ?_
  obtain ⟨x3, h4, hf⟩ := bnd hf
  have hz := congrArg eI (Option.some.inj hf)
  exact r_zreturn dX12_isGood_9 rfl (Nat.le_of_ble_eq_true rfl) (Nat.le_of_ble_eq_true rfl) h4 hz
def f_X12_sellsAt_52 (S : Mm) (s0 : Int32) : Option (Int32 × Mm) := some (s0, S)
def f_X12_sellsAt_25 (S : Mm) (l0 : Nat) (l1 : Int32) (s0 : Int32) : Option (Int32 × Mm) := (if s0 = 0 then (gR S 11 l0 6).bind fun x2 => (aI S x2 l1).bind fun x4 => f_X12_sellsAt_52 S x4 else (gR S 11 l0 6).bind fun x6 => (aI S x6 l1).bind fun x8 => (gR S 11 l0 5).bind fun x10 => (aI S x10 l1).bind fun x12 => f_X12_sellsAt_52 S (x8 + x12))
def f_X12_sellsAt_20 (S : Mm) (l0 : Nat) (l1 : Int32) : Option (Int32 × Mm) := f_X12_sellsAt_25 S l0 l1 1
def f_X12_sellsAt (S : Mm) (l0 : Nat) (l1 : Int32) : Option (Int32 × Mm) := if okc S l0 11 = true then (gR S 11 l0 4).bind fun x1 => (aI S x1 l1).bind fun x3 => (if x3 = 2 then f_X12_sellsAt_20 S l0 l1 else (gR S 11 l0 4).bind fun x6 => (aI S x6 l1).bind fun x8 => (if x8 ≤ 3 then f_X12_sellsAt_25 S l0 l1 0 else f_X12_sellsAt_20 S l0 l1)) else none
set_option maxRecDepth 20000 in
theorem t_X12_sellsAt_52 {G : Gt} {l : Launch} (S : Mm) (s0 : Int32) (T : (Int32 × Mm)) (hf : f_X12_sellsAt_52 S s0 = some T) : Sat G l yX12_sellsAt cX12_sellsAt 3 (some .int) 0 0 0 0 0 52 [.null, .null, .null] [.int s0] S (eI T) := by
  unfold f_X12_sellsAt_52 at hf
  have hz := congrArg eI (Option.some.inj hf)
  exact r_ireturn dX12_sellsAt_52 rfl (Nat.le_of_ble_eq_true rfl) (Nat.le_of_ble_eq_true rfl) hz
set_option maxRecDepth 20000 in
theorem t_X12_sellsAt_25 {G : Gt} {l : Launch} (S : Mm) (l0 : Nat) (l1 : Int32) (s0 : Int32) (T : (Int32 × Mm)) (hf : f_X12_sellsAt_25 S l0 l1 s0 = some T) : Sat G l yX12_sellsAt cX12_sellsAt 3 (some .int) 0 0 0 0 0 25 [.ref l0, .int l1, .null] [.int s0] S (eI T) := by
  unfold f_X12_sellsAt_25 at hf
  refine r_istore_n (lv' := [.ref l0, .int l1, .int s0]) dX12_sellsAt_25 (by decide) rfl rfl ?_
  refine r_iload_n dX12_sellsAt_26 rfl ?_
  refine r_if_eq (tgt := 46) dX12_sellsAt_27 (by decide) (fun c1 => ?_) (fun c1 => ?_)
  · replace hf := (if_pos c1).symm.trans hf
    refine r_aload_n dX12_sellsAt_46 rfl ?_
    obtain ⟨x2, h3, hf⟩ := bnd hf
    refine r_getR dX12_sellsAt_47 fs12_16_11 rfl h3 ?_
    refine r_iload_n dX12_sellsAt_50 rfl ?_
    obtain ⟨x4, h5, hf⟩ := bnd hf
    refine r_iaload dX12_sellsAt_51 h5 ?_
    refine r_lvs (lv' := [.null, .null, .null]) ⟨Or.inr rfl, Or.inr rfl, Or.inr rfl, trivial⟩ ?_
    exact t_X12_sellsAt_52 _ _ _ hf
  · replace hf := (if_neg c1).symm.trans hf
    refine r_aload_n dX12_sellsAt_30 rfl ?_
    obtain ⟨x6, h7, hf⟩ := bnd hf
    refine r_getR dX12_sellsAt_31 fs12_16_11 rfl h7 ?_
    refine r_iload_n dX12_sellsAt_34 rfl ?_
    obtain ⟨x8, h9, hf⟩ := bnd hf
    refine r_iaload dX12_sellsAt_35 h9 ?_
    refine r_aload_n dX12_sellsAt_36 rfl ?_
    obtain ⟨x10, h11, hf⟩ := bnd hf
    refine r_getR dX12_sellsAt_37 fs12_13_11 rfl h11 ?_
    refine r_iload_n dX12_sellsAt_40 rfl ?_
    obtain ⟨x12, h13, hf⟩ := bnd hf
    refine r_iaload dX12_sellsAt_41 h13 ?_
    refine r_iadd dX12_sellsAt_42 ?_
    refine r_goto (tgt := 52) dX12_sellsAt_43 (by decide) ?_
    refine r_lvs (lv' := [.null, .null, .null]) ⟨Or.inr rfl, Or.inr rfl, Or.inr rfl, trivial⟩ ?_
    exact t_X12_sellsAt_52 _ _ _ hf
set_option maxRecDepth 20000 in
theorem t_X12_sellsAt_20 {G : Gt} {l : Launch} (S : Mm) (l0 : Nat) (l1 : Int32) (T : (Int32 × Mm)) (hf : f_X12_sellsAt_20 S l0 l1 = some T) : Sat G l yX12_sellsAt cX12_sellsAt 3 (some .int) 0 0 0 0 0 20 [.ref l0, .int l1, .null] [] S (eI T) := by
  unfold f_X12_sellsAt_20 at hf
  refine r_iconst (v := 1) dX12_sellsAt_20 (by decide) ?_
  refine r_goto (tgt := 25) dX12_sellsAt_21 (by decide) ?_
  exact t_X12_sellsAt_25 _ _ _ _ _ hf
set_option maxRecDepth 20000 in
theorem ok_X12_sellsAt {S : Mm} {l0 : Nat} {l1 : Int32} {T : (Int32 × Mm)} (hf : f_X12_sellsAt S l0 l1 = some T) : okc S l0 11 = true := (oif hf).1
set_option maxRecDepth 20000 in
theorem c_X12_sellsAt {G : Gt} {l : Launch} {S : Mm} {l0 : Nat} {l1 : Int32} {T : (Int32 × Mm)} (hf : f_X12_sellsAt S l0 l1 = some T) : CC G l yX12_sellsAt cX12_sellsAt 3 (some .int) 0 0 0 [.ref l0, .int l1] S (eI T) := by
  unfold f_X12_sellsAt at hf
  replace hf := (oif hf).2
  refine r_body (by decide) rfl (Nat.le_of_ble_eq_true rfl) (by simp) ?_
  refine r_aload_n dX12_sellsAt_0 rfl ?_
  obtain ⟨x1, h2, hf⟩ := bnd hf
  refine r_getR dX12_sellsAt_1 fs12_7_11 rfl h2 ?_
  refine r_iload_n dX12_sellsAt_4 rfl ?_
  obtain ⟨x3, h4, hf⟩ := bnd hf
  refine r_iaload dX12_sellsAt_5 h4 ?_
  refine r_iconst (v := 2) dX12_sellsAt_6 (by decide) ?_
  refine r_icmp_eq (tgt := 20) dX12_sellsAt_7 (by decide) (fun c5 => ?_) (fun c5 => ?_)
  · replace hf := (if_pos c5).symm.trans hf
    exact t_X12_sellsAt_20 _ _ _ _ hf
  · replace hf := (if_neg c5).symm.trans hf
    refine r_aload_n dX12_sellsAt_10 rfl ?_
    obtain ⟨x6, h7, hf⟩ := bnd hf
    refine r_getR dX12_sellsAt_11 fs12_7_11 rfl h7 ?_
    refine r_iload_n dX12_sellsAt_14 rfl ?_
    obtain ⟨x8, h9, hf⟩ := bnd hf
    refine r_iaload dX12_sellsAt_15 h9 ?_
    refine r_iconst (v := 3) dX12_sellsAt_16 (by decide) ?_
    refine r_icmp_le (tgt := 24) dX12_sellsAt_17 (by decide) (fun c10 => ?_) (fun c10 => ?_)
    · replace hf := (if_pos c10).symm.trans hf
      refine r_iconst (v := 0) dX12_sellsAt_24 (by decide) ?_
      exact t_X12_sellsAt_25 _ _ _ _ _ hf
    · replace hf := (if_neg c10).symm.trans hf
      exact t_X12_sellsAt_20 _ _ _ _ hf
def f_X12_buysAt_63 (S : Mm) (s0 : Int32) : Option (Int32 × Mm) := some (s0, S)
def f_X12_buysAt_43 (S : Mm) (l0 : Nat) (l1 : Int32) (l2 : Int32) (s0 : Int32) : Option (Int32 × Mm) := (if l2 = 3 then f_X12_buysAt_63 S 999 else (gR S 11 l0 6).bind fun x2 => (aI S x2 l1).bind fun x4 => f_X12_buysAt_63 S (x4 - s0))
def f_X12_buysAt_17 (S : Mm) (l0 : Nat) (l1 : Int32) (l2 : Int32) : Option (Int32 × Mm) := (gR S 11 l0 5).bind fun x1 => (aI S x1 l1).bind fun x3 => f_X12_buysAt_43 S l0 l1 l2 x3
def f_X12_buysAt (S : Mm) (l0 : Nat) (l1 : Int32) : Option (Int32 × Mm) := if okc S l0 11 = true then (gR S 11 l0 4).bind fun x1 => (aI S x1 l1).bind fun x3 => (if x3 = 1 then f_X12_buysAt_17 S l0 l1 x3 else (if x3 = 4 then f_X12_buysAt_17 S l0 l1 x3 else (if x3 = 5 then (gR S 11 l0 5).bind fun x8 => (aI S x8 l1).bind fun x10 => f_X12_buysAt_43 S l0 l1 x3 (2 * x10) else f_X12_buysAt_43 S l0 l1 x3 0))) else none
set_option maxRecDepth 20000 in
theorem t_X12_buysAt_63 {G : Gt} {l : Launch} (S : Mm) (s0 : Int32) (T : (Int32 × Mm)) (hf : f_X12_buysAt_63 S s0 = some T) : Sat G l yX12_buysAt cX12_buysAt 4 (some .int) 0 0 0 0 0 63 [.null, .null, .null, .null] [.int s0] S (eI T) := by
  unfold f_X12_buysAt_63 at hf
  have hz := congrArg eI (Option.some.inj hf)
  exact r_ireturn dX12_buysAt_63 rfl (Nat.le_of_ble_eq_true rfl) (Nat.le_of_ble_eq_true rfl) hz
set_option maxRecDepth 20000 in
theorem t_X12_buysAt_43 {G : Gt} {l : Launch} (S : Mm) (l0 : Nat) (l1 : Int32) (l2 : Int32) (s0 : Int32) (T : (Int32 × Mm)) (hf : f_X12_buysAt_43 S l0 l1 l2 s0 = some T) : Sat G l yX12_buysAt cX12_buysAt 4 (some .int) 0 0 0 0 0 43 [.ref l0, .int l1, .int l2, .null] [.int s0] S (eI T) := by
  unfold f_X12_buysAt_43 at hf
  refine r_istore_n (lv' := [.ref l0, .int l1, .int l2, .int s0]) dX12_buysAt_43 (by decide) rfl rfl ?_
  refine r_iload_n dX12_buysAt_44 rfl ?_
  refine r_iconst (v := 3) dX12_buysAt_45 (by decide) ?_
  refine r_icmp_ne (tgt := 55) dX12_buysAt_46 (by decide) (fun c1 => ?_) (fun c1 => ?_)
  · replace hf := (if_neg c1).symm.trans hf
    refine r_aload_n dX12_buysAt_55 rfl ?_
    obtain ⟨x2, h3, hf⟩ := bnd hf
    refine r_getR dX12_buysAt_56 fs12_16_11 rfl h3 ?_
    refine r_iload_n dX12_buysAt_59 rfl ?_
    obtain ⟨x4, h5, hf⟩ := bnd hf
    refine r_iaload dX12_buysAt_60 h5 ?_
    refine r_iload_n dX12_buysAt_61 rfl ?_
    refine r_isub dX12_buysAt_62 ?_
    refine r_lvs (lv' := [.null, .null, .null, .null]) ⟨Or.inr rfl, Or.inr rfl, Or.inr rfl, Or.inr rfl, trivial⟩ ?_
    exact t_X12_buysAt_63 _ _ _ hf
  · replace hf := (if_pos c1).symm.trans hf
    refine r_sipush (v := 999) dX12_buysAt_49 (by decide) ?_
    refine r_goto (tgt := 63) dX12_buysAt_52 (by decide) ?_
    refine r_lvs (lv' := [.null, .null, .null, .null]) ⟨Or.inr rfl, Or.inr rfl, Or.inr rfl, Or.inr rfl, trivial⟩ ?_
    exact t_X12_buysAt_63 _ _ _ hf
set_option maxRecDepth 20000 in
theorem t_X12_buysAt_17 {G : Gt} {l : Launch} (S : Mm) (l0 : Nat) (l1 : Int32) (l2 : Int32) (T : (Int32 × Mm)) (hf : f_X12_buysAt_17 S l0 l1 l2 = some T) : Sat G l yX12_buysAt cX12_buysAt 4 (some .int) 0 0 0 0 0 17 [.ref l0, .int l1, .int l2, .null] [] S (eI T) := by
  unfold f_X12_buysAt_17 at hf
  refine r_aload_n dX12_buysAt_17 rfl ?_
  obtain ⟨x1, h2, hf⟩ := bnd hf
  refine r_getR dX12_buysAt_18 fs12_13_11 rfl h2 ?_
  refine r_iload_n dX12_buysAt_21 rfl ?_
  obtain ⟨x3, h4, hf⟩ := bnd hf
  refine r_iaload dX12_buysAt_22 h4 ?_
  refine r_goto (tgt := 43) dX12_buysAt_23 (by decide) ?_
  exact t_X12_buysAt_43 _ _ _ _ _ _ hf
set_option maxRecDepth 20000 in
theorem ok_X12_buysAt {S : Mm} {l0 : Nat} {l1 : Int32} {T : (Int32 × Mm)} (hf : f_X12_buysAt S l0 l1 = some T) : okc S l0 11 = true := (oif hf).1
set_option maxRecDepth 20000 in
theorem c_X12_buysAt {G : Gt} {l : Launch} {S : Mm} {l0 : Nat} {l1 : Int32} {T : (Int32 × Mm)} (hf : f_X12_buysAt S l0 l1 = some T) : CC G l yX12_buysAt cX12_buysAt 4 (some .int) 0 0 0 [.ref l0, .int l1] S (eI T) := by
  unfold f_X12_buysAt at hf
  replace hf := (oif hf).2
  refine r_body (by decide) rfl (Nat.le_of_ble_eq_true rfl) (by simp) ?_
  refine r_aload_n dX12_buysAt_0 rfl ?_
  obtain ⟨x1, h2, hf⟩ := bnd hf
  refine r_getR dX12_buysAt_1 fs12_7_11 rfl h2 ?_
  refine r_iload_n dX12_buysAt_4 rfl ?_
  obtain ⟨x3, h4, hf⟩ := bnd hf
  refine r_iaload dX12_buysAt_5 h4 ?_
  refine r_istore_n (lv' := [.ref l0, .int l1, .int x3, .null]) dX12_buysAt_6 (by decide) rfl rfl ?_
  refine r_iload_n dX12_buysAt_7 rfl ?_
  refine r_iconst (v := 1) dX12_buysAt_8 (by decide) ?_
  refine r_icmp_eq (tgt := 17) dX12_buysAt_9 (by decide) (fun c5 => ?_) (fun c5 => ?_)
  · replace hf := (if_pos c5).symm.trans hf
    exact t_X12_buysAt_17 _ _ _ _ _ hf
  · replace hf := (if_neg c5).symm.trans hf
    refine r_iload_n dX12_buysAt_12 rfl ?_
    refine r_iconst (v := 4) dX12_buysAt_13 (by decide) ?_
    refine r_icmp_ne (tgt := 26) dX12_buysAt_14 (by decide) (fun c6 => ?_) (fun c6 => ?_)
    · replace hf := (if_neg c6).symm.trans hf
      refine r_iload_n dX12_buysAt_26 rfl ?_
      refine r_iconst (v := 5) dX12_buysAt_27 (by decide) ?_
      refine r_icmp_ne (tgt := 42) dX12_buysAt_28 (by decide) (fun c7 => ?_) (fun c7 => ?_)
      · replace hf := (if_neg c7).symm.trans hf
        refine r_iconst (v := 0) dX12_buysAt_42 (by decide) ?_
        exact t_X12_buysAt_43 _ _ _ _ _ _ hf
      · replace hf := (if_pos c7).symm.trans hf
        refine r_iconst (v := 2) dX12_buysAt_31 (by decide) ?_
        refine r_aload_n dX12_buysAt_32 rfl ?_
        obtain ⟨x8, h9, hf⟩ := bnd hf
        refine r_getR dX12_buysAt_33 fs12_13_11 rfl h9 ?_
        refine r_iload_n dX12_buysAt_36 rfl ?_
        obtain ⟨x10, h11, hf⟩ := bnd hf
        refine r_iaload dX12_buysAt_37 h11 ?_
        refine r_imul dX12_buysAt_38 ?_
        refine r_goto (tgt := 43) dX12_buysAt_39 (by decide) ?_
        exact t_X12_buysAt_43 _ _ _ _ _ _ hf
    · replace hf := (if_pos c6).symm.trans hf
      exact t_X12_buysAt_17 _ _ _ _ _ hf
def f_X12_isLawful_53 (S : Mm) (s0 : Int32) : Option (Int32 × Mm) := (rB s0).bind fun x1 => some (x1, S)
def f_X12_isLawful_48 (S : Mm)  : Option (Int32 × Mm) := f_X12_isLawful_53 S 1
def f_X12_isLawful_52 (S : Mm)  : Option (Int32 × Mm) := f_X12_isLawful_53 S 0
def f_X12_isLawful (S : Mm) (l0 : Nat) (l1 : Int32) (l2 : Int32) : Option (Int32 × Mm) := if okc S l0 11 = true then (f_X12_sellsAt S l0 l1).bind fun q1 => (f_X12_buysAt q1.2 l0 l2).bind fun q3 => (if l1 = l2 then f_X12_isLawful_52 q3.2 else (gI q3.2 11 l0 1).bind fun x6 => (if x6 = 0 then (if q1.1 ≤ q3.1 then f_X12_isLawful_52 q3.2 else f_X12_isLawful_48 q3.2) else (gI q3.2 11 l0 1).bind fun x9 => (if x9 = 2 then f_X12_isLawful_48 q3.2 else (if q3.1 ≤ q1.1 then f_X12_isLawful_52 q3.2 else f_X12_isLawful_48 q3.2)))) else none
set_option maxRecDepth 20000 in
theorem t_X12_isLawful_53 {G : Gt} {l : Launch} (S : Mm) (s0 : Int32) (T : (Int32 × Mm)) (hf : f_X12_isLawful_53 S s0 = some T) : Sat G l yX12_isLawful cX12_isLawful 5 (some .boolean) 1 0 0 0 0 53 [.null, .null, .null, .null, .null] [.int s0] S (eI T) := by
  unfold f_X12_isLawful_53 at hf
  obtain ⟨x1, h2, hf⟩ := bnd hf
  have hz := congrArg eI (Option.some.inj hf)
  exact r_zreturn dX12_isLawful_53 rfl (Nat.le_of_ble_eq_true rfl) (Nat.le_of_ble_eq_true rfl) h2 hz
set_option maxRecDepth 20000 in
theorem t_X12_isLawful_48 {G : Gt} {l : Launch} (S : Mm)  (T : (Int32 × Mm)) (hf : f_X12_isLawful_48 S  = some T) : Sat G l yX12_isLawful cX12_isLawful 5 (some .boolean) 1 0 0 0 0 48 [.null, .null, .null, .null, .null] [] S (eI T) := by
  unfold f_X12_isLawful_48 at hf
  refine r_iconst (v := 1) dX12_isLawful_48 (by decide) ?_
  refine r_goto (tgt := 53) dX12_isLawful_49 (by decide) ?_
  exact t_X12_isLawful_53 _ _ _ hf
set_option maxRecDepth 20000 in
theorem t_X12_isLawful_52 {G : Gt} {l : Launch} (S : Mm)  (T : (Int32 × Mm)) (hf : f_X12_isLawful_52 S  = some T) : Sat G l yX12_isLawful cX12_isLawful 5 (some .boolean) 1 0 0 0 0 52 [.null, .null, .null, .null, .null] [] S (eI T) := by
  unfold f_X12_isLawful_52 at hf
  refine r_iconst (v := 0) dX12_isLawful_52 (by decide) ?_
  exact t_X12_isLawful_53 _ _ _ hf
set_option maxRecDepth 20000 in
theorem ok_X12_isLawful {S : Mm} {l0 : Nat} {l1 : Int32} {l2 : Int32} {T : (Int32 × Mm)} (hf : f_X12_isLawful S l0 l1 l2 = some T) : okc S l0 11 = true := (oif hf).1
set_option maxRecDepth 20000 in
theorem c_X12_isLawful {G : Gt} {l : Launch} {S : Mm} {l0 : Nat} {l1 : Int32} {l2 : Int32} {T : (Int32 × Mm)} (hf : f_X12_isLawful S l0 l1 l2 = some T) : CC G l yX12_isLawful cX12_isLawful 5 (some .boolean) 1 0 0 [.ref l0, .int l1, .int l2] S (eI T) := by
  unfold f_X12_isLawful at hf
  replace hf := (oif hf).2
  refine r_body (by decide) rfl (Nat.le_of_ble_eq_true rfl) (by simp) ?_
  refine r_aload_n dX12_isLawful_0 rfl ?_
  refine r_iload_n dX12_isLawful_1 rfl ?_
  obtain ⟨q1, h2, hf⟩ := bnd hf
  refine r_callVi (st := []) (as := [.int l1]) dX12_isLawful_2 ms_X12_sellsAt ⟨rfl, w4_180, w4_182, w0_32⟩ (ok_X12_sellsAt h2) (c_X12_sellsAt h2) rfl ⟨by omega, by omega⟩ (Nat.le_of_ble_eq_true rfl) (by decide) (by decide) rfl ?_
  refine r_istore_n (lv' := [.ref l0, .int l1, .int l2, .int q1.1, .null]) dX12_isLawful_5 (by decide) rfl rfl ?_
  refine r_aload_n dX12_isLawful_6 rfl ?_
  refine r_iload_n dX12_isLawful_7 rfl ?_
  obtain ⟨q3, h4, hf⟩ := bnd hf
  refine r_callVi (st := []) (as := [.int l2]) dX12_isLawful_8 ms_X12_buysAt ⟨rfl, w4_184, w4_186, w0_33⟩ (ok_X12_buysAt h4) (c_X12_buysAt h4) rfl ⟨by omega, by omega⟩ (Nat.le_of_ble_eq_true rfl) (by decide) (by decide) rfl ?_
  refine r_istore (lv' := [.ref l0, .int l1, .int l2, .int q1.1, .int q3.1]) dX12_isLawful_11 (by decide) rfl rfl ?_
  refine r_iload_n dX12_isLawful_13 rfl ?_
  refine r_iload_n dX12_isLawful_14 rfl ?_
  refine r_icmp_eq (tgt := 52) dX12_isLawful_15 (by decide) (fun c5 => ?_) (fun c5 => ?_)
  · replace hf := (if_pos c5).symm.trans hf
    refine r_lvs (lv' := [.null, .null, .null, .null, .null]) ⟨Or.inr rfl, Or.inr rfl, Or.inr rfl, Or.inr rfl, Or.inr rfl, trivial⟩ ?_
    exact t_X12_isLawful_52 _ _ hf
  · replace hf := (if_neg c5).symm.trans hf
    refine r_aload_n dX12_isLawful_18 rfl ?_
    obtain ⟨x6, h7, hf⟩ := bnd hf
    refine r_getI dX12_isLawful_19 fs12_97_11 rfl h7 ?_
    refine r_if_ne (tgt := 34) dX12_isLawful_22 (by decide) (fun c8 => ?_) (fun c8 => ?_)
    · replace hf := (if_neg c8).symm.trans hf
      refine r_aload_n dX12_isLawful_34 rfl ?_
      obtain ⟨x9, h10, hf⟩ := bnd hf
      refine r_getI dX12_isLawful_35 fs12_97_11 rfl h10 ?_
      refine r_iconst (v := 2) dX12_isLawful_38 (by decide) ?_
      refine r_icmp_eq (tgt := 48) dX12_isLawful_39 (by decide) (fun c11 => ?_) (fun c11 => ?_)
      · replace hf := (if_pos c11).symm.trans hf
        refine r_lvs (lv' := [.null, .null, .null, .null, .null]) ⟨Or.inr rfl, Or.inr rfl, Or.inr rfl, Or.inr rfl, Or.inr rfl, trivial⟩ ?_
        exact t_X12_isLawful_48 _ _ hf
      · replace hf := (if_neg c11).symm.trans hf
        refine r_iload dX12_isLawful_42 rfl ?_
        refine r_iload_n dX12_isLawful_44 rfl ?_
        refine r_icmp_le (tgt := 52) dX12_isLawful_45 (by decide) (fun c12 => ?_) (fun c12 => ?_)
        · replace hf := (if_pos c12).symm.trans hf
          refine r_lvs (lv' := [.null, .null, .null, .null, .null]) ⟨Or.inr rfl, Or.inr rfl, Or.inr rfl, Or.inr rfl, Or.inr rfl, trivial⟩ ?_
          exact t_X12_isLawful_52 _ _ hf
        · replace hf := (if_neg c12).symm.trans hf
          refine r_lvs (lv' := [.null, .null, .null, .null, .null]) ⟨Or.inr rfl, Or.inr rfl, Or.inr rfl, Or.inr rfl, Or.inr rfl, trivial⟩ ?_
          exact t_X12_isLawful_48 _ _ hf
    · replace hf := (if_pos c8).symm.trans hf
      refine r_iload dX12_isLawful_25 rfl ?_
      refine r_iload_n dX12_isLawful_27 rfl ?_
      refine r_icmp_ge (tgt := 52) dX12_isLawful_28 (by decide) (fun c13 => ?_) (fun c13 => ?_)
      · replace hf := (if_pos c13).symm.trans hf
        refine r_lvs (lv' := [.null, .null, .null, .null, .null]) ⟨Or.inr rfl, Or.inr rfl, Or.inr rfl, Or.inr rfl, Or.inr rfl, trivial⟩ ?_
        exact t_X12_isLawful_52 _ _ hf
      · replace hf := (if_neg c13).symm.trans hf
        refine r_goto (tgt := 48) dX12_isLawful_31 (by decide) ?_
        refine r_lvs (lv' := [.null, .null, .null, .null, .null]) ⟨Or.inr rfl, Or.inr rfl, Or.inr rfl, Or.inr rfl, Or.inr rfl, trivial⟩ ?_
        exact t_X12_isLawful_48 _ _ hf
def f_X12_canSell_76 (S : Mm) (s0 : Int32) : Option (Int32 × Mm) := (rB s0).bind fun x1 => some (x1, S)
def f_X12_canSell_75 (S : Mm)  : Option (Int32 × Mm) := f_X12_canSell_76 S 0
def f_X12_canSell (S : Mm) (l0 : Nat) (l1 : Int32) (l2 : Int32) (l3 : Int32) : Option (Int32 × Mm) := if okc S l0 11 = true then (f_X12_isLawful S l0 l1 l2).bind fun q1 => (if q1.1 = 0 then f_X12_canSell_75 q1.2 else (gR q1.2 11 l0 12).bind fun x4 => (aI q1.2 x4 ((3 * l1) + l3)).bind fun x6 => (if x6 ≤ 0 then f_X12_canSell_75 q1.2 else (gR q1.2 11 l0 11).bind fun x9 => (aI q1.2 x9 l2).bind fun x11 => (gR q1.2 11 l0 14).bind fun x13 => (aI q1.2 x13 l3).bind fun x15 => (if x11 < x15 then f_X12_canSell_75 q1.2 else (gR q1.2 11 l0 12).bind fun x18 => (aI q1.2 x18 ((3 * l2) + l3)).bind fun x20 => (if 99 ≤ x20 then f_X12_canSell_75 q1.2 else (gR q1.2 11 l0 11).bind fun x23 => (aI q1.2 x23 l1).bind fun x25 => (gR q1.2 11 l0 14).bind fun x27 => (aI q1.2 x27 l3).bind fun x29 => (if 9999 < (x25 + x29) then f_X12_canSell_75 q1.2 else f_X12_canSell_76 q1.2 1))))) else none
set_option maxRecDepth 20000 in
theorem t_X12_canSell_76 {G : Gt} {l : Launch} (S : Mm) (s0 : Int32) (T : (Int32 × Mm)) (hf : f_X12_canSell_76 S s0 = some T) : Sat G l yX12_canSell cX12_canSell 4 (some .boolean) 2 0 0 0 0 76 [.null, .null, .null, .null] [.int s0] S (eI T) := by
  unfold f_X12_canSell_76 at hf
  obtain ⟨x1, h2, hf⟩ := bnd hf
  have hz := congrArg eI (Option.some.inj hf)
  exact r_zreturn dX12_canSell_76 rfl (Nat.le_of_ble_eq_true rfl) (Nat.le_of_ble_eq_true rfl) h2 hz
set_option maxRecDepth 20000 in
theorem t_X12_canSell_75 {G : Gt} {l : Launch} (S : Mm)  (T : (Int32 × Mm)) (hf : f_X12_canSell_75 S  = some T) : Sat G l yX12_canSell cX12_canSell 4 (some .boolean) 2 0 0 0 0 75 [.null, .null, .null, .null] [] S (eI T) := by
  unfold f_X12_canSell_75 at hf
  refine r_iconst (v := 0) dX12_canSell_75 (by decide) ?_
  exact t_X12_canSell_76 _ _ _ hf
set_option maxRecDepth 20000 in
theorem ok_X12_canSell {S : Mm} {l0 : Nat} {l1 : Int32} {l2 : Int32} {l3 : Int32} {T : (Int32 × Mm)} (hf : f_X12_canSell S l0 l1 l2 l3 = some T) : okc S l0 11 = true := (oif hf).1
set_option maxRecDepth 20000 in
theorem c_X12_canSell {G : Gt} {l : Launch} {S : Mm} {l0 : Nat} {l1 : Int32} {l2 : Int32} {l3 : Int32} {T : (Int32 × Mm)} (hf : f_X12_canSell S l0 l1 l2 l3 = some T) : CC G l yX12_canSell cX12_canSell 4 (some .boolean) 2 0 0 [.ref l0, .int l1, .int l2, .int l3] S (eI T) := by
  unfold f_X12_canSell at hf
  replace hf := (oif hf).2
  refine r_body (by decide) rfl (Nat.le_of_ble_eq_true rfl) (by simp) ?_
  refine r_aload_n dX12_canSell_0 rfl ?_
  refine r_iload_n dX12_canSell_1 rfl ?_
  refine r_iload_n dX12_canSell_2 rfl ?_
  obtain ⟨q1, h2, hf⟩ := bnd hf
  refine r_callVi (st := []) (as := [.int l1, .int l2]) dX12_canSell_3 ms_X12_isLawful ⟨rfl, w4_208, w4_210, w0_34⟩ (ok_X12_isLawful h2) (c_X12_isLawful h2) rfl ⟨by omega, by omega⟩ (Nat.le_of_ble_eq_true rfl) (by decide) (by decide) rfl ?_
  refine r_if_eq (tgt := 75) dX12_canSell_6 (by decide) (fun c3 => ?_) (fun c3 => ?_)
  · replace hf := (if_pos c3).symm.trans hf
    refine r_lvs (lv' := [.null, .null, .null, .null]) ⟨Or.inr rfl, Or.inr rfl, Or.inr rfl, Or.inr rfl, trivial⟩ ?_
    exact t_X12_canSell_75 _ _ hf
  · replace hf := (if_neg c3).symm.trans hf
    refine r_aload_n dX12_canSell_9 rfl ?_
    obtain ⟨x4, h5, hf⟩ := bnd hf
    refine r_getR dX12_canSell_10 fs12_34_11 rfl h5 ?_
    refine r_iconst (v := 3) dX12_canSell_13 (by decide) ?_
    refine r_iload_n dX12_canSell_14 rfl ?_
    refine r_imul dX12_canSell_15 ?_
    refine r_iload_n dX12_canSell_16 rfl ?_
    refine r_iadd dX12_canSell_17 ?_
    obtain ⟨x6, h7, hf⟩ := bnd hf
    refine r_iaload dX12_canSell_18 h7 ?_
    refine r_if_le (tgt := 75) dX12_canSell_19 (by decide) (fun c8 => ?_) (fun c8 => ?_)
    · replace hf := (if_pos c8).symm.trans hf
      refine r_lvs (lv' := [.null, .null, .null, .null]) ⟨Or.inr rfl, Or.inr rfl, Or.inr rfl, Or.inr rfl, trivial⟩ ?_
      exact t_X12_canSell_75 _ _ hf
    · replace hf := (if_neg c8).symm.trans hf
      refine r_aload_n dX12_canSell_22 rfl ?_
      obtain ⟨x9, h10, hf⟩ := bnd hf
      refine r_getR dX12_canSell_23 fs12_31_11 rfl h10 ?_
      refine r_iload_n dX12_canSell_26 rfl ?_
      obtain ⟨x11, h12, hf⟩ := bnd hf
      refine r_iaload dX12_canSell_27 h12 ?_
      refine r_aload_n dX12_canSell_28 rfl ?_
      obtain ⟨x13, h14, hf⟩ := bnd hf
      refine r_getR dX12_canSell_29 fs12_40_11 rfl h14 ?_
      refine r_iload_n dX12_canSell_32 rfl ?_
      obtain ⟨x15, h16, hf⟩ := bnd hf
      refine r_iaload dX12_canSell_33 h16 ?_
      refine r_icmp_lt (tgt := 75) dX12_canSell_34 (by decide) (fun c17 => ?_) (fun c17 => ?_)
      · replace hf := (if_pos c17).symm.trans hf
        refine r_lvs (lv' := [.null, .null, .null, .null]) ⟨Or.inr rfl, Or.inr rfl, Or.inr rfl, Or.inr rfl, trivial⟩ ?_
        exact t_X12_canSell_75 _ _ hf
      · replace hf := (if_neg c17).symm.trans hf
        refine r_aload_n dX12_canSell_37 rfl ?_
        obtain ⟨x18, h19, hf⟩ := bnd hf
        refine r_getR dX12_canSell_38 fs12_34_11 rfl h19 ?_
        refine r_iconst (v := 3) dX12_canSell_41 (by decide) ?_
        refine r_iload_n dX12_canSell_42 rfl ?_
        refine r_imul dX12_canSell_43 ?_
        refine r_iload_n dX12_canSell_44 rfl ?_
        refine r_iadd dX12_canSell_45 ?_
        obtain ⟨x20, h21, hf⟩ := bnd hf
        refine r_iaload dX12_canSell_46 h21 ?_
        refine r_bipush (v := 99) dX12_canSell_47 (by decide) ?_
        refine r_icmp_ge (tgt := 75) dX12_canSell_49 (by decide) (fun c22 => ?_) (fun c22 => ?_)
        · replace hf := (if_pos c22).symm.trans hf
          refine r_lvs (lv' := [.null, .null, .null, .null]) ⟨Or.inr rfl, Or.inr rfl, Or.inr rfl, Or.inr rfl, trivial⟩ ?_
          exact t_X12_canSell_75 _ _ hf
        · replace hf := (if_neg c22).symm.trans hf
          refine r_aload_n dX12_canSell_52 rfl ?_
          obtain ⟨x23, h24, hf⟩ := bnd hf
          refine r_getR dX12_canSell_53 fs12_31_11 rfl h24 ?_
          refine r_iload_n dX12_canSell_56 rfl ?_
          obtain ⟨x25, h26, hf⟩ := bnd hf
          refine r_iaload dX12_canSell_57 h26 ?_
          refine r_aload_n dX12_canSell_58 rfl ?_
          obtain ⟨x27, h28, hf⟩ := bnd hf
          refine r_getR dX12_canSell_59 fs12_40_11 rfl h28 ?_
          refine r_iload_n dX12_canSell_62 rfl ?_
          obtain ⟨x29, h30, hf⟩ := bnd hf
          refine r_iaload dX12_canSell_63 h30 ?_
          refine r_iadd dX12_canSell_64 ?_
          refine r_sipush (v := 9999) dX12_canSell_65 (by decide) ?_
          refine r_icmp_gt (tgt := 75) dX12_canSell_68 (by decide) (fun c31 => ?_) (fun c31 => ?_)
          · replace hf := (if_pos c31).symm.trans hf
            refine r_lvs (lv' := [.null, .null, .null, .null]) ⟨Or.inr rfl, Or.inr rfl, Or.inr rfl, Or.inr rfl, trivial⟩ ?_
            exact t_X12_canSell_75 _ _ hf
          · replace hf := (if_neg c31).symm.trans hf
            refine r_iconst (v := 1) dX12_canSell_71 (by decide) ?_
            refine r_goto (tgt := 76) dX12_canSell_72 (by decide) ?_
            refine r_lvs (lv' := [.null, .null, .null, .null]) ⟨Or.inr rfl, Or.inr rfl, Or.inr rfl, Or.inr rfl, trivial⟩ ?_
            exact t_X12_canSell_76 _ _ _ hf
def f_X12_sell (S : Mm) (l0 : Nat) (l1 : Int32) (l2 : Int32) (l3 : Int32) : Option Mm := if okc S l0 11 = true then (gR S 11 l0 12).bind fun x1 => (aI S x1 ((3 * l1) + l3)).bind fun x3 => (aS S x1 ((3 * l1) + l3) (x3 - 1)).bind fun S5 => (gR S5 11 l0 12).bind fun x7 => (aI S5 x7 ((3 * l2) + l3)).bind fun x9 => (aS S5 x7 ((3 * l2) + l3) (x9 + 1)).bind fun S11 => (gR S11 11 l0 11).bind fun x13 => (aI S11 x13 l1).bind fun x15 => (gR S11 11 l0 14).bind fun x17 => (aI S11 x17 l3).bind fun x19 => (aS S11 x13 l1 (x15 + x19)).bind fun S21 => (gR S21 11 l0 11).bind fun x23 => (aI S21 x23 l2).bind fun x25 => (gR S21 11 l0 14).bind fun x27 => (aI S21 x27 l3).bind fun x29 => (aS S21 x23 l2 (x25 - x29)).bind fun S31 => some S31 else none
set_option maxRecDepth 20000 in
theorem ok_X12_sell {S : Mm} {l0 : Nat} {l1 : Int32} {l2 : Int32} {l3 : Int32} {T : Mm} (hf : f_X12_sell S l0 l1 l2 l3 = some T) : okc S l0 11 = true := (oif hf).1
set_option maxRecDepth 20000 in
theorem c_X12_sell {G : Gt} {l : Launch} {S : Mm} {l0 : Nat} {l1 : Int32} {l2 : Int32} {l3 : Int32} {T : Mm} (hf : f_X12_sell S l0 l1 l2 l3 = some T) : CC G l yX12_sell cX12_sell 4 none 0 0 0 [.ref l0, .int l1, .int l2, .int l3] S (eV T) := by
  unfold f_X12_sell at hf
  replace hf := (oif hf).2
  refine r_body (by decide) rfl (Nat.le_of_ble_eq_true rfl) (by simp) ?_
  refine r_aload_n dX12_sell_0 rfl ?_
  obtain ⟨x1, h2, hf⟩ := bnd hf
  refine r_getR dX12_sell_1 fs12_34_11 rfl h2 ?_
  refine r_iconst (v := 3) dX12_sell_4 (by decide) ?_
  refine r_iload_n dX12_sell_5 rfl ?_
  refine r_imul dX12_sell_6 ?_
  refine r_iload_n dX12_sell_7 rfl ?_
  refine r_iadd dX12_sell_8 ?_
  refine r_dup2 dX12_sell_9 rfl rfl ?_
  obtain ⟨x3, h4, hf⟩ := bnd hf
  refine r_iaload dX12_sell_10 h4 ?_
  refine r_iconst (v := 1) dX12_sell_11 (by decide) ?_
  refine r_isub dX12_sell_12 ?_
  obtain ⟨S5, h6, hf⟩ := bnd hf
  refine r_iastore dX12_sell_13 h6 ?_
  refine r_aload_n dX12_sell_14 rfl ?_
  obtain ⟨x7, h8, hf⟩ := bnd hf
  refine r_getR dX12_sell_15 fs12_34_11 rfl h8 ?_
  refine r_iconst (v := 3) dX12_sell_18 (by decide) ?_
  refine r_iload_n dX12_sell_19 rfl ?_
  refine r_imul dX12_sell_20 ?_
  refine r_iload_n dX12_sell_21 rfl ?_
  refine r_iadd dX12_sell_22 ?_
  refine r_dup2 dX12_sell_23 rfl rfl ?_
  obtain ⟨x9, h10, hf⟩ := bnd hf
  refine r_iaload dX12_sell_24 h10 ?_
  refine r_iconst (v := 1) dX12_sell_25 (by decide) ?_
  refine r_iadd dX12_sell_26 ?_
  obtain ⟨S11, h12, hf⟩ := bnd hf
  refine r_iastore dX12_sell_27 h12 ?_
  refine r_aload_n dX12_sell_28 rfl ?_
  obtain ⟨x13, h14, hf⟩ := bnd hf
  refine r_getR dX12_sell_29 fs12_31_11 rfl h14 ?_
  refine r_iload_n dX12_sell_32 rfl ?_
  refine r_dup2 dX12_sell_33 rfl rfl ?_
  obtain ⟨x15, h16, hf⟩ := bnd hf
  refine r_iaload dX12_sell_34 h16 ?_
  refine r_aload_n dX12_sell_35 rfl ?_
  obtain ⟨x17, h18, hf⟩ := bnd hf
  refine r_getR dX12_sell_36 fs12_40_11 rfl h18 ?_
  refine r_iload_n dX12_sell_39 rfl ?_
  obtain ⟨x19, h20, hf⟩ := bnd hf
  refine r_iaload dX12_sell_40 h20 ?_
  refine r_iadd dX12_sell_41 ?_
  obtain ⟨S21, h22, hf⟩ := bnd hf
  refine r_iastore dX12_sell_42 h22 ?_
  refine r_aload_n dX12_sell_43 rfl ?_
  obtain ⟨x23, h24, hf⟩ := bnd hf
  refine r_getR dX12_sell_44 fs12_31_11 rfl h24 ?_
  refine r_iload_n dX12_sell_47 rfl ?_
  refine r_dup2 dX12_sell_48 rfl rfl ?_
  obtain ⟨x25, h26, hf⟩ := bnd hf
  refine r_iaload dX12_sell_49 h26 ?_
  refine r_aload_n dX12_sell_50 rfl ?_
  obtain ⟨x27, h28, hf⟩ := bnd hf
  refine r_getR dX12_sell_51 fs12_40_11 rfl h28 ?_
  refine r_iload_n dX12_sell_54 rfl ?_
  obtain ⟨x29, h30, hf⟩ := bnd hf
  refine r_iaload dX12_sell_55 h30 ?_
  refine r_isub dX12_sell_56 ?_
  obtain ⟨S31, h32, hf⟩ := bnd hf
  refine r_iastore dX12_sell_57 h32 ?_
  have hz := congrArg eV (Option.some.inj hf)
  exact r_return dX12_sell_58 rfl (Nat.le_of_ble_eq_true rfl) (Nat.le_of_ble_eq_true rfl) hz
def f_X12_wants_24 (S : Mm) (s0 : Int32) : Option (Int32 × Mm) := (rB s0).bind fun x1 => some (x1, S)
def f_X12_wants_23 (S : Mm)  : Option (Int32 × Mm) := f_X12_wants_24 S 0
def f_X12_wants (S : Mm) (l0 : Nat) (l1 : Int32) (l2 : Int32) : Option (Int32 × Mm) := if okc S l0 11 = true then (gR S 11 l0 9).bind fun x1 => (aI S x1 l1).bind fun x3 => (if x3 = l2 then (gR S 11 l0 10).bind fun x6 => (aI S x6 l1).bind fun x8 => (if x8 ≤ 0 then f_X12_wants_23 S else f_X12_wants_24 S 1) else f_X12_wants_23 S) else none
set_option maxRecDepth 20000 in
theorem t_X12_wants_24 {G : Gt} {l : Launch} (S : Mm) (s0 : Int32) (T : (Int32 × Mm)) (hf : f_X12_wants_24 S s0 = some T) : Sat G l yX12_wants cX12_wants 3 (some .boolean) 0 0 0 0 0 24 [.null, .null, .null] [.int s0] S (eI T) := by
  unfold f_X12_wants_24 at hf
  obtain ⟨x1, h2, hf⟩ := bnd hf
  have hz := congrArg eI (Option.some.inj hf)
  exact r_zreturn dX12_wants_24 rfl (Nat.le_of_ble_eq_true rfl) (Nat.le_of_ble_eq_true rfl) h2 hz
set_option maxRecDepth 20000 in
theorem t_X12_wants_23 {G : Gt} {l : Launch} (S : Mm)  (T : (Int32 × Mm)) (hf : f_X12_wants_23 S  = some T) : Sat G l yX12_wants cX12_wants 3 (some .boolean) 0 0 0 0 0 23 [.null, .null, .null] [] S (eI T) := by
  unfold f_X12_wants_23 at hf
  refine r_iconst (v := 0) dX12_wants_23 (by decide) ?_
  exact t_X12_wants_24 _ _ _ hf
set_option maxRecDepth 20000 in
theorem ok_X12_wants {S : Mm} {l0 : Nat} {l1 : Int32} {l2 : Int32} {T : (Int32 × Mm)} (hf : f_X12_wants S l0 l1 l2 = some T) : okc S l0 11 = true := (oif hf).1
set_option maxRecDepth 20000 in
theorem c_X12_wants {G : Gt} {l : Launch} {S : Mm} {l0 : Nat} {l1 : Int32} {l2 : Int32} {T : (Int32 × Mm)} (hf : f_X12_wants S l0 l1 l2 = some T) : CC G l yX12_wants cX12_wants 3 (some .boolean) 0 0 0 [.ref l0, .int l1, .int l2] S (eI T) := by
  unfold f_X12_wants at hf
  replace hf := (oif hf).2
  refine r_body (by decide) rfl (Nat.le_of_ble_eq_true rfl) (by simp) ?_
  refine r_aload_n dX12_wants_0 rfl ?_
  obtain ⟨x1, h2, hf⟩ := bnd hf
  refine r_getR dX12_wants_1 fs12_25_11 rfl h2 ?_
  refine r_iload_n dX12_wants_4 rfl ?_
  obtain ⟨x3, h4, hf⟩ := bnd hf
  refine r_iaload dX12_wants_5 h4 ?_
  refine r_iload_n dX12_wants_6 rfl ?_
  refine r_icmp_ne (tgt := 23) dX12_wants_7 (by decide) (fun c5 => ?_) (fun c5 => ?_)
  · replace hf := (if_neg c5).symm.trans hf
    refine r_lvs (lv' := [.null, .null, .null]) ⟨Or.inr rfl, Or.inr rfl, Or.inr rfl, trivial⟩ ?_
    exact t_X12_wants_23 _ _ hf
  · replace hf := (if_pos c5).symm.trans hf
    refine r_aload_n dX12_wants_10 rfl ?_
    obtain ⟨x6, h7, hf⟩ := bnd hf
    refine r_getR dX12_wants_11 fs12_28_11 rfl h7 ?_
    refine r_iload_n dX12_wants_14 rfl ?_
    obtain ⟨x8, h9, hf⟩ := bnd hf
    refine r_iaload dX12_wants_15 h9 ?_
    refine r_if_le (tgt := 23) dX12_wants_16 (by decide) (fun c10 => ?_) (fun c10 => ?_)
    · replace hf := (if_pos c10).symm.trans hf
      refine r_lvs (lv' := [.null, .null, .null]) ⟨Or.inr rfl, Or.inr rfl, Or.inr rfl, trivial⟩ ?_
      exact t_X12_wants_23 _ _ hf
    · replace hf := (if_neg c10).symm.trans hf
      refine r_iconst (v := 1) dX12_wants_19 (by decide) ?_
      refine r_goto (tgt := 24) dX12_wants_20 (by decide) ?_
      refine r_lvs (lv' := [.null, .null, .null]) ⟨Or.inr rfl, Or.inr rfl, Or.inr rfl, trivial⟩ ?_
      exact t_X12_wants_24 _ _ _ hf
def f_X12_buyFor_117 (k9 : Mm → Nat → Int32 → Int32 → Int32 → Option Mm) (k38 : Mm → Nat → Int32 → Int32 → Int32 → Int32 → Option Mm) (S : Mm) (l0 : Nat) (l1 : Int32) (l2 : Int32) (l5 : Int32) (s0 : Int32) : Option Mm := k38 S l0 l1 l2 s0 (l5 + 1)
def f_X12_buyFor_110 (k9 : Mm → Nat → Int32 → Int32 → Int32 → Option Mm) (k38 : Mm → Nat → Int32 → Int32 → Int32 → Int32 → Option Mm) (S : Mm) (l0 : Nat) (l1 : Int32) (l2 : Int32) (l5 : Int32) : Option Mm := f_X12_buyFor_117 k9 k38 S l0 l1 l2 l5 l5
def f_X12_buyFor_115 (k9 : Mm → Nat → Int32 → Int32 → Int32 → Option Mm) (k38 : Mm → Nat → Int32 → Int32 → Int32 → Int32 → Option Mm) (S : Mm) (l0 : Nat) (l1 : Int32) (l2 : Int32) (l4 : Int32) (l5 : Int32) : Option Mm := f_X12_buyFor_117 k9 k38 S l0 l1 l2 l5 l4
def f_X12_buyFor_73 (k9 : Mm → Nat → Int32 → Int32 → Int32 → Option Mm) (k38 : Mm → Nat → Int32 → Int32 → Int32 → Int32 → Option Mm) (S : Mm) (l0 : Nat) (l1 : Int32) (l2 : Int32) (l4 : Int32) (l5 : Int32) (s0 : Int32) : Option Mm := (if s0 = 0 then f_X12_buyFor_115 k9 k38 S l0 l1 l2 l4 l5 else (if l4 < 0 then f_X12_buyFor_110 k9 k38 S l0 l1 l2 l5 else (gR S 11 l0 12).bind fun x3 => (aI S x3 ((3 * l5) + l2)).bind fun x5 => (gR S 11 l0 12).bind fun x7 => (aI S x7 ((3 * l4) + l2)).bind fun x9 => (if x5 ≤ x9 then f_X12_buyFor_115 k9 k38 S l0 l1 l2 l4 l5 else f_X12_buyFor_110 k9 k38 S l0 l1 l2 l5)))
def f_X12_buyFor_72 (k9 : Mm → Nat → Int32 → Int32 → Int32 → Option Mm) (k38 : Mm → Nat → Int32 → Int32 → Int32 → Int32 → Option Mm) (S : Mm) (l0 : Nat) (l1 : Int32) (l2 : Int32) (l4 : Int32) (l5 : Int32) : Option Mm := f_X12_buyFor_73 k9 k38 S l0 l1 l2 l4 l5 0
def f_X12_buyFor_158 (k9 : Mm → Nat → Int32 → Int32 → Int32 → Option Mm) (S : Mm) (l0 : Nat) (l1 : Int32) (l2 : Int32) (l3 : Int32) : Option Mm := k9 S l0 l1 l2 l3
def f_X12_buyFor_135 (k9 : Mm → Nat → Int32 → Int32 → Int32 → Option Mm) (S : Mm) (l0 : Nat) (l1 : Int32) (l2 : Int32) (l4 : Int32) (s0 : Int32) : Option Mm := (if s0 = 0 then f_X12_buyFor_158 k9 S l0 l1 l2 s0 else (f_X12_sell S l0 l4 l1 l2).bind fun q2 => (gI q2 11 l0 17).bind fun x4 => (pI q2 11 l0 17 (x4 + 1)).bind fun S6 => f_X12_buyFor_158 k9 S6 l0 l1 l2 s0)
def f_X12_buyFor_38 (k9 : Mm → Nat → Int32 → Int32 → Int32 → Option Mm) : Nat → Mm → Nat → Int32 → Int32 → Int32 → Int32 → Option Mm
  | 0, _, _, _, _, _, _ => none
  | n + 1, S, l0, l1, l2, l4, l5 => (gI S 11 l0 0).bind fun x1 => (if x1 ≤ l5 then (if l4 < 0 then f_X12_buyFor_135 k9 S l0 l1 l2 l4 0 else f_X12_buyFor_135 k9 S l0 l1 l2 l4 1) else (f_X12_wants S l0 l5 l2).bind fun q5 => (if q5.1 = 0 then (f_X12_canSell q5.2 l0 l5 l1 l2).bind fun q8 => (if q8.1 = 0 then f_X12_buyFor_72 k9 (f_X12_buyFor_38 k9 n) q8.2 l0 l1 l2 l4 l5 else f_X12_buyFor_73 k9 (f_X12_buyFor_38 k9 n) q8.2 l0 l1 l2 l4 l5 1) else f_X12_buyFor_72 k9 (f_X12_buyFor_38 k9 n) q5.2 l0 l1 l2 l4 l5))
def f_X12_buyFor_161 (S : Mm)  : Option Mm := some S
def f_X12_buyFor_9 : Nat → Mm → Nat → Int32 → Int32 → Int32 → Option Mm
  | 0, _, _, _, _, _ => none
  | n + 1, S, l0, l1, l2, l3 => (if l3 = 0 then f_X12_buyFor_161 S else (gR S 11 l0 12).bind fun x2 => (aI S x2 ((3 * l1) + l2)).bind fun x4 => (gR S 11 l0 10).bind fun x6 => (aI S x6 l1).bind fun x8 => (if x8 ≤ x4 then f_X12_buyFor_161 S else f_X12_buyFor_38 (f_X12_buyFor_9 n) FU S l0 l1 l2 (-1) 0))
def f_X12_buyFor (S : Mm) (l0 : Nat) (l1 : Int32) : Option Mm := if okc S l0 11 = true then (gR S 11 l0 9).bind fun x1 => (aI S x1 l1).bind fun x3 => f_X12_buyFor_9 FU S l0 l1 x3 1 else none
set_option maxRecDepth 20000 in
theorem t_X12_buyFor_117 {G : Gt} {l : Launch} (k9 : Mm → Nat → Int32 → Int32 → Int32 → Option Mm) (hk9 : ∀ (S : Mm) (l0 : Nat) (l1 : Int32) (l2 : Int32) (l3 : Int32) (T : Mm), k9 S l0 l1 l2 l3 = some T → Sat G l yX12_buyFor cX12_buyFor 7 none 3 0 0 0 0 9 [.ref l0, .int l1, .int l2, .int l3, .null, .null, .null] [] S (eV T)) (k38 : Mm → Nat → Int32 → Int32 → Int32 → Int32 → Option Mm) (hk38 : ∀ (S : Mm) (l0 : Nat) (l1 : Int32) (l2 : Int32) (l4 : Int32) (l5 : Int32) (T : Mm), k38 S l0 l1 l2 l4 l5 = some T → Sat G l yX12_buyFor cX12_buyFor 7 none 3 0 0 0 0 38 [.ref l0, .int l1, .int l2, .null, .int l4, .int l5, .null] [] S (eV T)) (S : Mm) (l0 : Nat) (l1 : Int32) (l2 : Int32) (l5 : Int32) (s0 : Int32) (T : Mm) (hf : f_X12_buyFor_117 k9 k38 S l0 l1 l2 l5 s0 = some T) : Sat G l yX12_buyFor cX12_buyFor 7 none 3 0 0 0 0 117 [.ref l0, .int l1, .int l2, .null, .null, .int l5, .null] [.int s0] S (eV T) := by
  unfold f_X12_buyFor_117 at hf
  refine r_istore (lv' := [.ref l0, .int l1, .int l2, .null, .int s0, .int l5, .null]) dX12_buyFor_117 (by decide) rfl rfl ?_
  refine r_iinc (v := 1) (lv' := [.ref l0, .int l1, .int l2, .null, .int s0, .int (l5 + 1), .null]) dX12_buyFor_119 rfl (by decide) (by decide) rfl rfl ?_
  refine r_goto (tgt := 38) dX12_buyFor_122 (by decide) ?_
  exact hk38 _ _ _ _ _ _ _ hf
set_option maxRecDepth 20000 in
theorem t_X12_buyFor_110 {G : Gt} {l : Launch} (k9 : Mm → Nat → Int32 → Int32 → Int32 → Option Mm) (hk9 : ∀ (S : Mm) (l0 : Nat) (l1 : Int32) (l2 : Int32) (l3 : Int32) (T : Mm), k9 S l0 l1 l2 l3 = some T → Sat G l yX12_buyFor cX12_buyFor 7 none 3 0 0 0 0 9 [.ref l0, .int l1, .int l2, .int l3, .null, .null, .null] [] S (eV T)) (k38 : Mm → Nat → Int32 → Int32 → Int32 → Int32 → Option Mm) (hk38 : ∀ (S : Mm) (l0 : Nat) (l1 : Int32) (l2 : Int32) (l4 : Int32) (l5 : Int32) (T : Mm), k38 S l0 l1 l2 l4 l5 = some T → Sat G l yX12_buyFor cX12_buyFor 7 none 3 0 0 0 0 38 [.ref l0, .int l1, .int l2, .null, .int l4, .int l5, .null] [] S (eV T)) (S : Mm) (l0 : Nat) (l1 : Int32) (l2 : Int32) (l5 : Int32) (T : Mm) (hf : f_X12_buyFor_110 k9 k38 S l0 l1 l2 l5 = some T) : Sat G l yX12_buyFor cX12_buyFor 7 none 3 0 0 0 0 110 [.ref l0, .int l1, .int l2, .null, .null, .int l5, .null] [] S (eV T) := by
  unfold f_X12_buyFor_110 at hf
  refine r_iload dX12_buyFor_110 rfl ?_
  refine r_goto (tgt := 117) dX12_buyFor_112 (by decide) ?_
  exact t_X12_buyFor_117 k9 hk9 k38 hk38 _ _ _ _ _ _ _ hf
set_option maxRecDepth 20000 in
theorem t_X12_buyFor_115 {G : Gt} {l : Launch} (k9 : Mm → Nat → Int32 → Int32 → Int32 → Option Mm) (hk9 : ∀ (S : Mm) (l0 : Nat) (l1 : Int32) (l2 : Int32) (l3 : Int32) (T : Mm), k9 S l0 l1 l2 l3 = some T → Sat G l yX12_buyFor cX12_buyFor 7 none 3 0 0 0 0 9 [.ref l0, .int l1, .int l2, .int l3, .null, .null, .null] [] S (eV T)) (k38 : Mm → Nat → Int32 → Int32 → Int32 → Int32 → Option Mm) (hk38 : ∀ (S : Mm) (l0 : Nat) (l1 : Int32) (l2 : Int32) (l4 : Int32) (l5 : Int32) (T : Mm), k38 S l0 l1 l2 l4 l5 = some T → Sat G l yX12_buyFor cX12_buyFor 7 none 3 0 0 0 0 38 [.ref l0, .int l1, .int l2, .null, .int l4, .int l5, .null] [] S (eV T)) (S : Mm) (l0 : Nat) (l1 : Int32) (l2 : Int32) (l4 : Int32) (l5 : Int32) (T : Mm) (hf : f_X12_buyFor_115 k9 k38 S l0 l1 l2 l4 l5 = some T) : Sat G l yX12_buyFor cX12_buyFor 7 none 3 0 0 0 0 115 [.ref l0, .int l1, .int l2, .null, .int l4, .int l5, .null] [] S (eV T) := by
  unfold f_X12_buyFor_115 at hf
  refine r_iload dX12_buyFor_115 rfl ?_
  refine r_lvs (lv' := [.ref l0, .int l1, .int l2, .null, .null, .int l5, .null]) ⟨Or.inl rfl, Or.inl rfl, Or.inl rfl, Or.inl rfl, Or.inr rfl, Or.inl rfl, Or.inl rfl, trivial⟩ ?_
  exact t_X12_buyFor_117 k9 hk9 k38 hk38 _ _ _ _ _ _ _ hf
set_option maxRecDepth 20000 in
theorem t_X12_buyFor_73 {G : Gt} {l : Launch} (k9 : Mm → Nat → Int32 → Int32 → Int32 → Option Mm) (hk9 : ∀ (S : Mm) (l0 : Nat) (l1 : Int32) (l2 : Int32) (l3 : Int32) (T : Mm), k9 S l0 l1 l2 l3 = some T → Sat G l yX12_buyFor cX12_buyFor 7 none 3 0 0 0 0 9 [.ref l0, .int l1, .int l2, .int l3, .null, .null, .null] [] S (eV T)) (k38 : Mm → Nat → Int32 → Int32 → Int32 → Int32 → Option Mm) (hk38 : ∀ (S : Mm) (l0 : Nat) (l1 : Int32) (l2 : Int32) (l4 : Int32) (l5 : Int32) (T : Mm), k38 S l0 l1 l2 l4 l5 = some T → Sat G l yX12_buyFor cX12_buyFor 7 none 3 0 0 0 0 38 [.ref l0, .int l1, .int l2, .null, .int l4, .int l5, .null] [] S (eV T)) (S : Mm) (l0 : Nat) (l1 : Int32) (l2 : Int32) (l4 : Int32) (l5 : Int32) (s0 : Int32) (T : Mm) (hf : f_X12_buyFor_73 k9 k38 S l0 l1 l2 l4 l5 s0 = some T) : Sat G l yX12_buyFor cX12_buyFor 7 none 3 0 0 0 0 73 [.ref l0, .int l1, .int l2, .null, .int l4, .int l5, .null] [.int s0] S (eV T) := by
  unfold f_X12_buyFor_73 at hf
  refine r_istore (lv' := [.ref l0, .int l1, .int l2, .null, .int l4, .int l5, .int s0]) dX12_buyFor_73 (by decide) rfl rfl ?_
  refine r_iload dX12_buyFor_75 rfl ?_
  refine r_if_eq (tgt := 115) dX12_buyFor_77 (by decide) (fun c1 => ?_) (fun c1 => ?_)
  · replace hf := (if_pos c1).symm.trans hf
    refine r_lvs (lv' := [.ref l0, .int l1, .int l2, .null, .int l4, .int l5, .null]) ⟨Or.inl rfl, Or.inl rfl, Or.inl rfl, Or.inl rfl, Or.inl rfl, Or.inl rfl, Or.inr rfl, trivial⟩ ?_
    exact t_X12_buyFor_115 k9 hk9 k38 hk38 _ _ _ _ _ _ _ hf
  · replace hf := (if_neg c1).symm.trans hf
    refine r_iload dX12_buyFor_80 rfl ?_
    refine r_if_lt (tgt := 110) dX12_buyFor_82 (by decide) (fun c2 => ?_) (fun c2 => ?_)
    · replace hf := (if_pos c2).symm.trans hf
      refine r_lvs (lv' := [.ref l0, .int l1, .int l2, .null, .null, .int l5, .null]) ⟨Or.inl rfl, Or.inl rfl, Or.inl rfl, Or.inl rfl, Or.inr rfl, Or.inl rfl, Or.inr rfl, trivial⟩ ?_
      exact t_X12_buyFor_110 k9 hk9 k38 hk38 _ _ _ _ _ _ hf
    · replace hf := (if_neg c2).symm.trans hf
      refine r_aload_n dX12_buyFor_85 rfl ?_
      obtain ⟨x3, h4, hf⟩ := bnd hf
      refine r_getR dX12_buyFor_86 fs12_34_11 rfl h4 ?_
      refine r_iconst (v := 3) dX12_buyFor_89 (by decide) ?_
      refine r_iload dX12_buyFor_90 rfl ?_
      refine r_imul dX12_buyFor_92 ?_
      refine r_iload_n dX12_buyFor_93 rfl ?_
      refine r_iadd dX12_buyFor_94 ?_
      obtain ⟨x5, h6, hf⟩ := bnd hf
      refine r_iaload dX12_buyFor_95 h6 ?_
      refine r_aload_n dX12_buyFor_96 rfl ?_
      obtain ⟨x7, h8, hf⟩ := bnd hf
      refine r_getR dX12_buyFor_97 fs12_34_11 rfl h8 ?_
      refine r_iconst (v := 3) dX12_buyFor_100 (by decide) ?_
      refine r_iload dX12_buyFor_101 rfl ?_
      refine r_imul dX12_buyFor_103 ?_
      refine r_iload_n dX12_buyFor_104 rfl ?_
      refine r_iadd dX12_buyFor_105 ?_
      obtain ⟨x9, h10, hf⟩ := bnd hf
      refine r_iaload dX12_buyFor_106 h10 ?_
      refine r_icmp_le (tgt := 115) dX12_buyFor_107 (by decide) (fun c11 => ?_) (fun c11 => ?_)
      · replace hf := (if_pos c11).symm.trans hf
        refine r_lvs (lv' := [.ref l0, .int l1, .int l2, .null, .int l4, .int l5, .null]) ⟨Or.inl rfl, Or.inl rfl, Or.inl rfl, Or.inl rfl, Or.inl rfl, Or.inl rfl, Or.inr rfl, trivial⟩ ?_
        exact t_X12_buyFor_115 k9 hk9 k38 hk38 _ _ _ _ _ _ _ hf
      · replace hf := (if_neg c11).symm.trans hf
        refine r_lvs (lv' := [.ref l0, .int l1, .int l2, .null, .null, .int l5, .null]) ⟨Or.inl rfl, Or.inl rfl, Or.inl rfl, Or.inl rfl, Or.inr rfl, Or.inl rfl, Or.inr rfl, trivial⟩ ?_
        exact t_X12_buyFor_110 k9 hk9 k38 hk38 _ _ _ _ _ _ hf
set_option maxRecDepth 20000 in
theorem t_X12_buyFor_72 {G : Gt} {l : Launch} (k9 : Mm → Nat → Int32 → Int32 → Int32 → Option Mm) (hk9 : ∀ (S : Mm) (l0 : Nat) (l1 : Int32) (l2 : Int32) (l3 : Int32) (T : Mm), k9 S l0 l1 l2 l3 = some T → Sat G l yX12_buyFor cX12_buyFor 7 none 3 0 0 0 0 9 [.ref l0, .int l1, .int l2, .int l3, .null, .null, .null] [] S (eV T)) (k38 : Mm → Nat → Int32 → Int32 → Int32 → Int32 → Option Mm) (hk38 : ∀ (S : Mm) (l0 : Nat) (l1 : Int32) (l2 : Int32) (l4 : Int32) (l5 : Int32) (T : Mm), k38 S l0 l1 l2 l4 l5 = some T → Sat G l yX12_buyFor cX12_buyFor 7 none 3 0 0 0 0 38 [.ref l0, .int l1, .int l2, .null, .int l4, .int l5, .null] [] S (eV T)) (S : Mm) (l0 : Nat) (l1 : Int32) (l2 : Int32) (l4 : Int32) (l5 : Int32) (T : Mm) (hf : f_X12_buyFor_72 k9 k38 S l0 l1 l2 l4 l5 = some T) : Sat G l yX12_buyFor cX12_buyFor 7 none 3 0 0 0 0 72 [.ref l0, .int l1, .int l2, .null, .int l4, .int l5, .null] [] S (eV T) := by
  unfold f_X12_buyFor_72 at hf
  refine r_iconst (v := 0) dX12_buyFor_72 (by decide) ?_
  exact t_X12_buyFor_73 k9 hk9 k38 hk38 _ _ _ _ _ _ _ _ hf
set_option maxRecDepth 20000 in
theorem t_X12_buyFor_158 {G : Gt} {l : Launch} (k9 : Mm → Nat → Int32 → Int32 → Int32 → Option Mm) (hk9 : ∀ (S : Mm) (l0 : Nat) (l1 : Int32) (l2 : Int32) (l3 : Int32) (T : Mm), k9 S l0 l1 l2 l3 = some T → Sat G l yX12_buyFor cX12_buyFor 7 none 3 0 0 0 0 9 [.ref l0, .int l1, .int l2, .int l3, .null, .null, .null] [] S (eV T)) (S : Mm) (l0 : Nat) (l1 : Int32) (l2 : Int32) (l3 : Int32) (T : Mm) (hf : f_X12_buyFor_158 k9 S l0 l1 l2 l3 = some T) : Sat G l yX12_buyFor cX12_buyFor 7 none 3 0 0 0 0 158 [.ref l0, .int l1, .int l2, .int l3, .null, .null, .null] [] S (eV T) := by
  unfold f_X12_buyFor_158 at hf
  refine r_goto (tgt := 9) dX12_buyFor_158 (by decide) ?_
  exact hk9 _ _ _ _ _ _ hf
set_option maxRecDepth 20000 in
theorem t_X12_buyFor_135 {G : Gt} {l : Launch} (k9 : Mm → Nat → Int32 → Int32 → Int32 → Option Mm) (hk9 : ∀ (S : Mm) (l0 : Nat) (l1 : Int32) (l2 : Int32) (l3 : Int32) (T : Mm), k9 S l0 l1 l2 l3 = some T → Sat G l yX12_buyFor cX12_buyFor 7 none 3 0 0 0 0 9 [.ref l0, .int l1, .int l2, .int l3, .null, .null, .null] [] S (eV T)) (S : Mm) (l0 : Nat) (l1 : Int32) (l2 : Int32) (l4 : Int32) (s0 : Int32) (T : Mm) (hf : f_X12_buyFor_135 k9 S l0 l1 l2 l4 s0 = some T) : Sat G l yX12_buyFor cX12_buyFor 7 none 3 0 0 0 0 135 [.ref l0, .int l1, .int l2, .null, .int l4, .null, .null] [.int s0] S (eV T) := by
  unfold f_X12_buyFor_135 at hf
  refine r_istore_n (lv' := [.ref l0, .int l1, .int l2, .int s0, .int l4, .null, .null]) dX12_buyFor_135 (by decide) rfl rfl ?_
  refine r_iload_n dX12_buyFor_136 rfl ?_
  refine r_if_eq (tgt := 158) dX12_buyFor_137 (by decide) (fun c1 => ?_) (fun c1 => ?_)
  · replace hf := (if_pos c1).symm.trans hf
    refine r_lvs (lv' := [.ref l0, .int l1, .int l2, .int s0, .null, .null, .null]) ⟨Or.inl rfl, Or.inl rfl, Or.inl rfl, Or.inl rfl, Or.inr rfl, Or.inl rfl, Or.inl rfl, trivial⟩ ?_
    exact t_X12_buyFor_158 k9 hk9 _ _ _ _ _ _ hf
  · replace hf := (if_neg c1).symm.trans hf
    refine r_aload_n dX12_buyFor_140 rfl ?_
    refine r_iload dX12_buyFor_141 rfl ?_
    refine r_iload_n dX12_buyFor_143 rfl ?_
    refine r_iload_n dX12_buyFor_144 rfl ?_
    obtain ⟨q2, h3, hf⟩ := bnd hf
    refine r_callVv (st := []) (as := [.int l4, .int l1, .int l2]) dX12_buyFor_145 ms_X12_sell ⟨rfl, w4_220, w4_222, w0_36⟩ (ok_X12_sell h3) (c_X12_sell h3) rfl ⟨by omega, by omega⟩ (Nat.le_of_ble_eq_true rfl) (by decide) (by decide) rfl ?_
    refine r_aload_n dX12_buyFor_148 rfl ?_
    refine r_dup dX12_buyFor_149 rfl ?_
    obtain ⟨x4, h5, hf⟩ := bnd hf
    refine r_getI dX12_buyFor_150 fs12_115_11 rfl h5 ?_
    refine r_iconst (v := 1) dX12_buyFor_153 (by decide) ?_
    refine r_iadd dX12_buyFor_154 ?_
    obtain ⟨S6, h7, hf⟩ := bnd hf
    refine r_putI dX12_buyFor_155 fs12_115_11 rfl h7 ?_
    refine r_lvs (lv' := [.ref l0, .int l1, .int l2, .int s0, .null, .null, .null]) ⟨Or.inl rfl, Or.inl rfl, Or.inl rfl, Or.inl rfl, Or.inr rfl, Or.inl rfl, Or.inl rfl, trivial⟩ ?_
    exact t_X12_buyFor_158 k9 hk9 _ _ _ _ _ _ hf
set_option maxRecDepth 20000 in
theorem t_X12_buyFor_38 {G : Gt} {l : Launch} (k9 : Mm → Nat → Int32 → Int32 → Int32 → Option Mm) (hk9 : ∀ (S : Mm) (l0 : Nat) (l1 : Int32) (l2 : Int32) (l3 : Int32) (T : Mm), k9 S l0 l1 l2 l3 = some T → Sat G l yX12_buyFor cX12_buyFor 7 none 3 0 0 0 0 9 [.ref l0, .int l1, .int l2, .int l3, .null, .null, .null] [] S (eV T)) : ∀ (n : Nat) (S : Mm) (l0 : Nat) (l1 : Int32) (l2 : Int32) (l4 : Int32) (l5 : Int32) (T : Mm), f_X12_buyFor_38 k9 n S l0 l1 l2 l4 l5 = some T → Sat G l yX12_buyFor cX12_buyFor 7 none 3 0 0 0 0 38 [.ref l0, .int l1, .int l2, .null, .int l4, .int l5, .null] [] S (eV T) := by
  intro n
  induction n with
  | zero =>
    intro S l0 l1 l2 l4 l5 T hf
    rw [f_X12_buyFor_38] at hf
    cases hf
  | succ n ih =>
    intro S l0 l1 l2 l4 l5 T hf
    rw [f_X12_buyFor_38] at hf
    refine r_iload dX12_buyFor_38 rfl ?_
    refine r_aload_n dX12_buyFor_40 rfl ?_
    obtain ⟨x1, h2, hf⟩ := bnd hf
    refine r_getI dX12_buyFor_41 fs12_77_11 rfl h2 ?_
    refine r_icmp_ge (tgt := 125) dX12_buyFor_44 (by decide) (fun c3 => ?_) (fun c3 => ?_)
    · replace hf := (if_pos c3).symm.trans hf
      refine r_iload dX12_buyFor_125 rfl ?_
      refine r_if_lt (tgt := 134) dX12_buyFor_127 (by decide) (fun c4 => ?_) (fun c4 => ?_)
      · replace hf := (if_pos c4).symm.trans hf
        refine r_iconst (v := 0) dX12_buyFor_134 (by decide) ?_
        refine r_lvs (lv' := [.ref l0, .int l1, .int l2, .null, .int l4, .null, .null]) ⟨Or.inl rfl, Or.inl rfl, Or.inl rfl, Or.inl rfl, Or.inl rfl, Or.inr rfl, Or.inl rfl, trivial⟩ ?_
        exact t_X12_buyFor_135 k9 hk9 _ _ _ _ _ _ _ hf
      · replace hf := (if_neg c4).symm.trans hf
        refine r_iconst (v := 1) dX12_buyFor_130 (by decide) ?_
        refine r_goto (tgt := 135) dX12_buyFor_131 (by decide) ?_
        refine r_lvs (lv' := [.ref l0, .int l1, .int l2, .null, .int l4, .null, .null]) ⟨Or.inl rfl, Or.inl rfl, Or.inl rfl, Or.inl rfl, Or.inl rfl, Or.inr rfl, Or.inl rfl, trivial⟩ ?_
        exact t_X12_buyFor_135 k9 hk9 _ _ _ _ _ _ _ hf
    · replace hf := (if_neg c3).symm.trans hf
      refine r_aload_n dX12_buyFor_47 rfl ?_
      refine r_iload dX12_buyFor_48 rfl ?_
      refine r_iload_n dX12_buyFor_50 rfl ?_
      obtain ⟨q5, h6, hf⟩ := bnd hf
      refine r_callVi (st := []) (as := [.int l5, .int l2]) dX12_buyFor_51 ms_X12_wants ⟨rfl, w4_236, w4_238, w0_39⟩ (ok_X12_wants h6) (c_X12_wants h6) rfl ⟨by omega, by omega⟩ (Nat.le_of_ble_eq_true rfl) (by decide) (by decide) rfl ?_
      refine r_if_ne (tgt := 72) dX12_buyFor_54 (by decide) (fun c7 => ?_) (fun c7 => ?_)
      · replace hf := (if_neg c7).symm.trans hf
        exact t_X12_buyFor_72 k9 hk9 (f_X12_buyFor_38 k9 n) ih _ _ _ _ _ _ _ hf
      · replace hf := (if_pos c7).symm.trans hf
        refine r_aload_n dX12_buyFor_57 rfl ?_
        refine r_iload dX12_buyFor_58 rfl ?_
        refine r_iload_n dX12_buyFor_60 rfl ?_
        refine r_iload_n dX12_buyFor_61 rfl ?_
        obtain ⟨q8, h9, hf⟩ := bnd hf
        refine r_callVi (st := []) (as := [.int l5, .int l1, .int l2]) dX12_buyFor_62 ms_X12_canSell ⟨rfl, w4_216, w4_218, w0_35⟩ (ok_X12_canSell h9) (c_X12_canSell h9) rfl ⟨by omega, by omega⟩ (Nat.le_of_ble_eq_true rfl) (by decide) (by decide) rfl ?_
        refine r_if_eq (tgt := 72) dX12_buyFor_65 (by decide) (fun c10 => ?_) (fun c10 => ?_)
        · replace hf := (if_pos c10).symm.trans hf
          exact t_X12_buyFor_72 k9 hk9 (f_X12_buyFor_38 k9 n) ih _ _ _ _ _ _ _ hf
        · replace hf := (if_neg c10).symm.trans hf
          refine r_iconst (v := 1) dX12_buyFor_68 (by decide) ?_
          refine r_goto (tgt := 73) dX12_buyFor_69 (by decide) ?_
          exact t_X12_buyFor_73 k9 hk9 (f_X12_buyFor_38 k9 n) ih _ _ _ _ _ _ _ _ hf
set_option maxRecDepth 20000 in
theorem t_X12_buyFor_161 {G : Gt} {l : Launch} (S : Mm)  (T : Mm) (hf : f_X12_buyFor_161 S  = some T) : Sat G l yX12_buyFor cX12_buyFor 7 none 3 0 0 0 0 161 [.null, .null, .null, .null, .null, .null, .null] [] S (eV T) := by
  unfold f_X12_buyFor_161 at hf
  have hz := congrArg eV (Option.some.inj hf)
  exact r_return dX12_buyFor_161 rfl (Nat.le_of_ble_eq_true rfl) (Nat.le_of_ble_eq_true rfl) hz
set_option maxRecDepth 20000 in
theorem t_X12_buyFor_9 {G : Gt} {l : Launch} : ∀ (n : Nat) (S : Mm) (l0 : Nat) (l1 : Int32) (l2 : Int32) (l3 : Int32) (T : Mm), f_X12_buyFor_9 n S l0 l1 l2 l3 = some T → Sat G l yX12_buyFor cX12_buyFor 7 none 3 0 0 0 0 9 [.ref l0, .int l1, .int l2, .int l3, .null, .null, .null] [] S (eV T) := by
  intro n
  induction n with
  | zero =>
    intro S l0 l1 l2 l3 T hf
    rw [f_X12_buyFor_9] at hf
    cases hf
  | succ n ih =>
    intro S l0 l1 l2 l3 T hf
    rw [f_X12_buyFor_9] at hf
    refine r_iload_n dX12_buyFor_9 rfl ?_
    refine r_if_eq (tgt := 161) dX12_buyFor_10 (by decide) (fun c1 => ?_) (fun c1 => ?_)
    · replace hf := (if_pos c1).symm.trans hf
      refine r_lvs (lv' := [.null, .null, .null, .null, .null, .null, .null]) ⟨Or.inr rfl, Or.inr rfl, Or.inr rfl, Or.inr rfl, Or.inl rfl, Or.inl rfl, Or.inl rfl, trivial⟩ ?_
      exact t_X12_buyFor_161 _ _ hf
    · replace hf := (if_neg c1).symm.trans hf
      refine r_aload_n dX12_buyFor_13 rfl ?_
      obtain ⟨x2, h3, hf⟩ := bnd hf
      refine r_getR dX12_buyFor_14 fs12_34_11 rfl h3 ?_
      refine r_iconst (v := 3) dX12_buyFor_17 (by decide) ?_
      refine r_iload_n dX12_buyFor_18 rfl ?_
      refine r_imul dX12_buyFor_19 ?_
      refine r_iload_n dX12_buyFor_20 rfl ?_
      refine r_iadd dX12_buyFor_21 ?_
      obtain ⟨x4, h5, hf⟩ := bnd hf
      refine r_iaload dX12_buyFor_22 h5 ?_
      refine r_aload_n dX12_buyFor_23 rfl ?_
      obtain ⟨x6, h7, hf⟩ := bnd hf
      refine r_getR dX12_buyFor_24 fs12_28_11 rfl h7 ?_
      refine r_iload_n dX12_buyFor_27 rfl ?_
      obtain ⟨x8, h9, hf⟩ := bnd hf
      refine r_iaload dX12_buyFor_28 h9 ?_
      refine r_icmp_ge (tgt := 161) dX12_buyFor_29 (by decide) (fun c10 => ?_) (fun c10 => ?_)
      · replace hf := (if_pos c10).symm.trans hf
        refine r_lvs (lv' := [.null, .null, .null, .null, .null, .null, .null]) ⟨Or.inr rfl, Or.inr rfl, Or.inr rfl, Or.inr rfl, Or.inl rfl, Or.inl rfl, Or.inl rfl, trivial⟩ ?_
        exact t_X12_buyFor_161 _ _ hf
      · replace hf := (if_neg c10).symm.trans hf
        refine r_iconst (v := (-1)) dX12_buyFor_32 (by decide) ?_
        refine r_istore (lv' := [.ref l0, .int l1, .int l2, .int l3, .int (-1), .null, .null]) dX12_buyFor_33 (by decide) rfl rfl ?_
        refine r_iconst (v := 0) dX12_buyFor_35 (by decide) ?_
        refine r_istore (lv' := [.ref l0, .int l1, .int l2, .int l3, .int (-1), .int 0, .null]) dX12_buyFor_36 (by decide) rfl rfl ?_
        refine r_lvs (lv' := [.ref l0, .int l1, .int l2, .null, .int (-1), .int 0, .null]) ⟨Or.inl rfl, Or.inl rfl, Or.inl rfl, Or.inr rfl, Or.inl rfl, Or.inl rfl, Or.inl rfl, trivial⟩ ?_
        exact t_X12_buyFor_38 (f_X12_buyFor_9 n) ih FU _ _ _ _ _ _ _ hf
set_option maxRecDepth 20000 in
theorem ok_X12_buyFor {S : Mm} {l0 : Nat} {l1 : Int32} {T : Mm} (hf : f_X12_buyFor S l0 l1 = some T) : okc S l0 11 = true := (oif hf).1
set_option maxRecDepth 20000 in
theorem c_X12_buyFor {G : Gt} {l : Launch} {S : Mm} {l0 : Nat} {l1 : Int32} {T : Mm} (hf : f_X12_buyFor S l0 l1 = some T) : CC G l yX12_buyFor cX12_buyFor 7 none 3 0 0 [.ref l0, .int l1] S (eV T) := by
  unfold f_X12_buyFor at hf
  replace hf := (oif hf).2
  refine r_body (by decide) rfl (Nat.le_of_ble_eq_true rfl) (by simp) ?_
  refine r_aload_n dX12_buyFor_0 rfl ?_
  obtain ⟨x1, h2, hf⟩ := bnd hf
  refine r_getR dX12_buyFor_1 fs12_25_11 rfl h2 ?_
  refine r_iload_n dX12_buyFor_4 rfl ?_
  obtain ⟨x3, h4, hf⟩ := bnd hf
  refine r_iaload dX12_buyFor_5 h4 ?_
  refine r_istore_n (lv' := [.ref l0, .int l1, .int x3, .null, .null, .null, .null]) dX12_buyFor_6 (by decide) rfl rfl ?_
  refine r_iconst (v := 1) dX12_buyFor_7 (by decide) ?_
  refine r_istore_n (lv' := [.ref l0, .int l1, .int x3, .int 1, .null, .null, .null]) dX12_buyFor_8 (by decide) rfl rfl ?_
  exact t_X12_buyFor_9 FU _ _ _ _ _ _ hf
def f_X12_weekOn_67 (k7 : Mm → Nat → Int32 → Option (Int32 × Mm)) (S : Mm) (l0 : Nat) (l1 : Int32) (s0 : Nat) (s1 : Int32) (s2 : Int32) : Option (Int32 × Mm) := (aS S s0 s1 s2).bind fun S1 => k7 S1 l0 (l1 + 1)
def f_X12_weekOn_148 (k99 : Mm → Nat → Int32 → Int32 → Option (Int32 × Mm)) (S : Mm) (l0 : Nat) (l1 : Int32) (l2 : Int32) (l3 : Int32) (s0 : Int32) : Option (Int32 × Mm) := (gR S 11 l0 12).bind fun x1 => (aI S x1 l3).bind fun x3 => (aS S x1 l3 (x3 - s0)).bind fun S5 => (gR S5 11 l0 18).bind fun x7 => (aI S5 x7 l2).bind fun x9 => (aS S5 x7 l2 (x9 + s0)).bind fun S11 => k99 S11 l0 (l1 + s0) (l2 + 1)
def f_X12_weekOn_99 : Nat → Mm → Nat → Int32 → Int32 → Option (Int32 × Mm)
  | 0, _, _, _, _ => none
  | n + 1, S, l0, l1, l2 => (gI S 11 l0 0).bind fun x1 => (if x1 ≤ l2 then (gI S 11 l0 2).bind fun x4 => (pI S 11 l0 2 (x4 + 1)).bind fun S6 => some (l1, S6) else (gR S 11 l0 9).bind fun x8 => (aI S x8 l2).bind fun x10 => (gR S 11 l0 12).bind fun x12 => (aI S x12 ((3 * l2) + x10)).bind fun x14 => (gR S 11 l0 10).bind fun x16 => (aI S x16 l2).bind fun x18 => (if x18 ≤ x14 then (gR S 11 l0 10).bind fun x21 => (aI S x21 l2).bind fun x23 => f_X12_weekOn_148 (f_X12_weekOn_99 n) S l0 l1 l2 ((3 * l2) + x10) x23 else (gR S 11 l0 12).bind fun x25 => (aI S x25 ((3 * l2) + x10)).bind fun x27 => f_X12_weekOn_148 (f_X12_weekOn_99 n) S l0 l1 l2 ((3 * l2) + x10) x27))
def f_X12_weekOn_76 : Nat → Mm → Nat → Int32 → Option (Int32 × Mm)
  | 0, _, _, _ => none
  | n + 1, S, l0, l1 => (gI S 11 l0 0).bind fun x1 => (if x1 ≤ l1 then f_X12_weekOn_99 FU S l0 0 0 else (f_X12_buyFor S l0 l1).bind fun q4 => (f_X12_weekOn_76 n) q4 l0 (l1 + 1))
def f_X12_weekOn_7 : Nat → Mm → Nat → Int32 → Option (Int32 × Mm)
  | 0, _, _, _ => none
  | n + 1, S, l0, l1 => (gI S 11 l0 0).bind fun x1 => (if x1 ≤ l1 then f_X12_weekOn_76 FU S l0 0 else (gR S 11 l0 7).bind fun x4 => (aI S x4 l1).bind fun x6 => (gR S 11 l0 12).bind fun x8 => (gR S 11 l0 12).bind fun x10 => (aI S x10 ((3 * l1) + x6)).bind fun x12 => (gR S 11 l0 8).bind fun x14 => (aI S x14 l1).bind fun x16 => (if (x12 + x16) ≤ 99 then (gR S 11 l0 12).bind fun x19 => (aI S x19 ((3 * l1) + x6)).bind fun x21 => (gR S 11 l0 8).bind fun x23 => (aI S x23 l1).bind fun x25 => f_X12_weekOn_67 (f_X12_weekOn_7 n) S l0 l1 x8 ((3 * l1) + x6) (x21 + x25) else f_X12_weekOn_67 (f_X12_weekOn_7 n) S l0 l1 x8 ((3 * l1) + x6) 99))
def f_X12_weekOn (S : Mm) (l0 : Nat) : Option (Int32 × Mm) := if okc S l0 11 = true then (pI S 11 l0 17 0).bind fun S1 => f_X12_weekOn_7 FU S1 l0 0 else none
set_option maxRecDepth 20000 in
theorem t_X12_weekOn_67 {G : Gt} {l : Launch} (k7 : Mm → Nat → Int32 → Option (Int32 × Mm)) (hk7 : ∀ (S : Mm) (l0 : Nat) (l1 : Int32) (T : (Int32 × Mm)), k7 S l0 l1 = some T → Sat G l yX12_weekOn cX12_weekOn 5 (some .int) 4 0 0 0 0 7 [.ref l0, .int l1, .null, .null, .null] [] S (eI T)) (S : Mm) (l0 : Nat) (l1 : Int32) (s0 : Nat) (s1 : Int32) (s2 : Int32) (T : (Int32 × Mm)) (hf : f_X12_weekOn_67 k7 S l0 l1 s0 s1 s2 = some T) : Sat G l yX12_weekOn cX12_weekOn 5 (some .int) 4 0 0 0 0 67 [.ref l0, .int l1, .null, .null, .null] [.int s2, .int s1, .ref s0] S (eI T) := by
  unfold f_X12_weekOn_67 at hf
  obtain ⟨S1, h2, hf⟩ := bnd hf
  refine r_iastore dX12_weekOn_67 h2 ?_
  refine r_iinc (v := 1) (lv' := [.ref l0, .int (l1 + 1), .null, .null, .null]) dX12_weekOn_68 rfl (by decide) (by decide) rfl rfl ?_
  refine r_goto (tgt := 7) dX12_weekOn_71 (by decide) ?_
  exact hk7 _ _ _ _ hf
set_option maxRecDepth 20000 in
theorem t_X12_weekOn_148 {G : Gt} {l : Launch} (k99 : Mm → Nat → Int32 → Int32 → Option (Int32 × Mm)) (hk99 : ∀ (S : Mm) (l0 : Nat) (l1 : Int32) (l2 : Int32) (T : (Int32 × Mm)), k99 S l0 l1 l2 = some T → Sat G l yX12_weekOn cX12_weekOn 5 (some .int) 4 0 0 0 0 99 [.ref l0, .int l1, .int l2, .null, .null] [] S (eI T)) (S : Mm) (l0 : Nat) (l1 : Int32) (l2 : Int32) (l3 : Int32) (s0 : Int32) (T : (Int32 × Mm)) (hf : f_X12_weekOn_148 k99 S l0 l1 l2 l3 s0 = some T) : Sat G l yX12_weekOn cX12_weekOn 5 (some .int) 4 0 0 0 0 148 [.ref l0, .int l1, .int l2, .int l3, .null] [.int s0] S (eI T) := by
  unfold f_X12_weekOn_148 at hf
  refine r_istore (lv' := [.ref l0, .int l1, .int l2, .int l3, .int s0]) dX12_weekOn_148 (by decide) rfl rfl ?_
  refine r_aload_n dX12_weekOn_150 rfl ?_
  obtain ⟨x1, h2, hf⟩ := bnd hf
  refine r_getR dX12_weekOn_151 fs12_34_11 rfl h2 ?_
  refine r_iload_n dX12_weekOn_154 rfl ?_
  refine r_dup2 dX12_weekOn_155 rfl rfl ?_
  obtain ⟨x3, h4, hf⟩ := bnd hf
  refine r_iaload dX12_weekOn_156 h4 ?_
  refine r_iload dX12_weekOn_157 rfl ?_
  refine r_isub dX12_weekOn_159 ?_
  obtain ⟨S5, h6, hf⟩ := bnd hf
  refine r_iastore dX12_weekOn_160 h6 ?_
  refine r_aload_n dX12_weekOn_161 rfl ?_
  obtain ⟨x7, h8, hf⟩ := bnd hf
  refine r_getR dX12_weekOn_162 fs12_46_11 rfl h8 ?_
  refine r_iload_n dX12_weekOn_165 rfl ?_
  refine r_dup2 dX12_weekOn_166 rfl rfl ?_
  obtain ⟨x9, h10, hf⟩ := bnd hf
  refine r_iaload dX12_weekOn_167 h10 ?_
  refine r_iload dX12_weekOn_168 rfl ?_
  refine r_iadd dX12_weekOn_170 ?_
  obtain ⟨S11, h12, hf⟩ := bnd hf
  refine r_iastore dX12_weekOn_171 h12 ?_
  refine r_iload_n dX12_weekOn_172 rfl ?_
  refine r_iload dX12_weekOn_173 rfl ?_
  refine r_iadd dX12_weekOn_175 ?_
  refine r_istore_n (lv' := [.ref l0, .int (l1 + s0), .int l2, .int l3, .int s0]) dX12_weekOn_176 (by decide) rfl rfl ?_
  refine r_iinc (v := 1) (lv' := [.ref l0, .int (l1 + s0), .int (l2 + 1), .int l3, .int s0]) dX12_weekOn_177 rfl (by decide) (by decide) rfl rfl ?_
  refine r_goto (tgt := 99) dX12_weekOn_180 (by decide) ?_
  refine r_lvs (lv' := [.ref l0, .int (l1 + s0), .int (l2 + 1), .null, .null]) ⟨Or.inl rfl, Or.inl rfl, Or.inl rfl, Or.inr rfl, Or.inr rfl, trivial⟩ ?_
  exact hk99 _ _ _ _ _ hf
set_option maxRecDepth 20000 in
theorem t_X12_weekOn_99 {G : Gt} {l : Launch} : ∀ (n : Nat) (S : Mm) (l0 : Nat) (l1 : Int32) (l2 : Int32) (T : (Int32 × Mm)), f_X12_weekOn_99 n S l0 l1 l2 = some T → Sat G l yX12_weekOn cX12_weekOn 5 (some .int) 4 0 0 0 0 99 [.ref l0, .int l1, .int l2, .null, .null] [] S (eI T) := by
  intro n
  induction n with
  | zero =>
    intro S l0 l1 l2 T hf
    rw [f_X12_weekOn_99] at hf
    cases hf
  | succ n ih =>
    intro S l0 l1 l2 T hf
    rw [f_X12_weekOn_99] at hf
    refine r_iload_n dX12_weekOn_99 rfl ?_
    refine r_aload_n dX12_weekOn_100 rfl ?_
    obtain ⟨x1, h2, hf⟩ := bnd hf
    refine r_getI dX12_weekOn_101 fs12_77_11 rfl h2 ?_
    refine r_icmp_ge (tgt := 183) dX12_weekOn_104 (by decide) (fun c3 => ?_) (fun c3 => ?_)
    · replace hf := (if_pos c3).symm.trans hf
      refine r_aload_n dX12_weekOn_183 rfl ?_
      refine r_dup dX12_weekOn_184 rfl ?_
      obtain ⟨x4, h5, hf⟩ := bnd hf
      refine r_getI dX12_weekOn_185 fs12_122_11 rfl h5 ?_
      refine r_iconst (v := 1) dX12_weekOn_188 (by decide) ?_
      refine r_iadd dX12_weekOn_189 ?_
      obtain ⟨S6, h7, hf⟩ := bnd hf
      refine r_putI dX12_weekOn_190 fs12_122_11 rfl h7 ?_
      refine r_iload_n dX12_weekOn_193 rfl ?_
      have hz := congrArg eI (Option.some.inj hf)
      exact r_ireturn dX12_weekOn_194 rfl (Nat.le_of_ble_eq_true rfl) (Nat.le_of_ble_eq_true rfl) hz
    · replace hf := (if_neg c3).symm.trans hf
      refine r_iconst (v := 3) dX12_weekOn_107 (by decide) ?_
      refine r_iload_n dX12_weekOn_108 rfl ?_
      refine r_imul dX12_weekOn_109 ?_
      refine r_aload_n dX12_weekOn_110 rfl ?_
      obtain ⟨x8, h9, hf⟩ := bnd hf
      refine r_getR dX12_weekOn_111 fs12_25_11 rfl h9 ?_
      refine r_iload_n dX12_weekOn_114 rfl ?_
      obtain ⟨x10, h11, hf⟩ := bnd hf
      refine r_iaload dX12_weekOn_115 h11 ?_
      refine r_iadd dX12_weekOn_116 ?_
      refine r_istore_n (lv' := [.ref l0, .int l1, .int l2, .int ((3 * l2) + x10), .null]) dX12_weekOn_117 (by decide) rfl rfl ?_
      refine r_aload_n dX12_weekOn_118 rfl ?_
      obtain ⟨x12, h13, hf⟩ := bnd hf
      refine r_getR dX12_weekOn_119 fs12_34_11 rfl h13 ?_
      refine r_iload_n dX12_weekOn_122 rfl ?_
      obtain ⟨x14, h15, hf⟩ := bnd hf
      refine r_iaload dX12_weekOn_123 h15 ?_
      refine r_aload_n dX12_weekOn_124 rfl ?_
      obtain ⟨x16, h17, hf⟩ := bnd hf
      refine r_getR dX12_weekOn_125 fs12_28_11 rfl h17 ?_
      refine r_iload_n dX12_weekOn_128 rfl ?_
      obtain ⟨x18, h19, hf⟩ := bnd hf
      refine r_iaload dX12_weekOn_129 h19 ?_
      refine r_icmp_ge (tgt := 142) dX12_weekOn_130 (by decide) (fun c20 => ?_) (fun c20 => ?_)
      · replace hf := (if_pos c20).symm.trans hf
        refine r_aload_n dX12_weekOn_142 rfl ?_
        obtain ⟨x21, h22, hf⟩ := bnd hf
        refine r_getR dX12_weekOn_143 fs12_28_11 rfl h22 ?_
        refine r_iload_n dX12_weekOn_146 rfl ?_
        obtain ⟨x23, h24, hf⟩ := bnd hf
        refine r_iaload dX12_weekOn_147 h24 ?_
        exact t_X12_weekOn_148 (f_X12_weekOn_99 n) ih _ _ _ _ _ _ _ hf
      · replace hf := (if_neg c20).symm.trans hf
        refine r_aload_n dX12_weekOn_133 rfl ?_
        obtain ⟨x25, h26, hf⟩ := bnd hf
        refine r_getR dX12_weekOn_134 fs12_34_11 rfl h26 ?_
        refine r_iload_n dX12_weekOn_137 rfl ?_
        obtain ⟨x27, h28, hf⟩ := bnd hf
        refine r_iaload dX12_weekOn_138 h28 ?_
        refine r_goto (tgt := 148) dX12_weekOn_139 (by decide) ?_
        exact t_X12_weekOn_148 (f_X12_weekOn_99 n) ih _ _ _ _ _ _ _ hf
set_option maxRecDepth 20000 in
theorem t_X12_weekOn_76 {G : Gt} {l : Launch} : ∀ (n : Nat) (S : Mm) (l0 : Nat) (l1 : Int32) (T : (Int32 × Mm)), f_X12_weekOn_76 n S l0 l1 = some T → Sat G l yX12_weekOn cX12_weekOn 5 (some .int) 4 0 0 0 0 76 [.ref l0, .int l1, .null, .null, .null] [] S (eI T) := by
  intro n
  induction n with
  | zero =>
    intro S l0 l1 T hf
    rw [f_X12_weekOn_76] at hf
    cases hf
  | succ n ih =>
    intro S l0 l1 T hf
    rw [f_X12_weekOn_76] at hf
    refine r_iload_n dX12_weekOn_76 rfl ?_
    refine r_aload_n dX12_weekOn_77 rfl ?_
    obtain ⟨x1, h2, hf⟩ := bnd hf
    refine r_getI dX12_weekOn_78 fs12_77_11 rfl h2 ?_
    refine r_icmp_ge (tgt := 95) dX12_weekOn_81 (by decide) (fun c3 => ?_) (fun c3 => ?_)
    · replace hf := (if_pos c3).symm.trans hf
      refine r_iconst (v := 0) dX12_weekOn_95 (by decide) ?_
      refine r_istore_n (lv' := [.ref l0, .int 0, .null, .null, .null]) dX12_weekOn_96 (by decide) rfl rfl ?_
      refine r_iconst (v := 0) dX12_weekOn_97 (by decide) ?_
      refine r_istore_n (lv' := [.ref l0, .int 0, .int 0, .null, .null]) dX12_weekOn_98 (by decide) rfl rfl ?_
      exact t_X12_weekOn_99 FU _ _ _ _ _ hf
    · replace hf := (if_neg c3).symm.trans hf
      refine r_aload_n dX12_weekOn_84 rfl ?_
      refine r_iload_n dX12_weekOn_85 rfl ?_
      obtain ⟨q4, h5, hf⟩ := bnd hf
      refine r_callVv (st := []) (as := [.int l1]) dX12_weekOn_86 ms_X12_buyFor ⟨rfl, w4_232, w4_234, w0_38⟩ (ok_X12_buyFor h5) (c_X12_buyFor h5) rfl ⟨by omega, by omega⟩ (Nat.le_of_ble_eq_true rfl) (by decide) (by decide) rfl ?_
      refine r_iinc (v := 1) (lv' := [.ref l0, .int (l1 + 1), .null, .null, .null]) dX12_weekOn_89 rfl (by decide) (by decide) rfl rfl ?_
      refine r_goto (tgt := 76) dX12_weekOn_92 (by decide) ?_
      exact ih _ _ _ _ hf
set_option maxRecDepth 20000 in
theorem t_X12_weekOn_7 {G : Gt} {l : Launch} : ∀ (n : Nat) (S : Mm) (l0 : Nat) (l1 : Int32) (T : (Int32 × Mm)), f_X12_weekOn_7 n S l0 l1 = some T → Sat G l yX12_weekOn cX12_weekOn 5 (some .int) 4 0 0 0 0 7 [.ref l0, .int l1, .null, .null, .null] [] S (eI T) := by
  intro n
  induction n with
  | zero =>
    intro S l0 l1 T hf
    rw [f_X12_weekOn_7] at hf
    cases hf
  | succ n ih =>
    intro S l0 l1 T hf
    rw [f_X12_weekOn_7] at hf
    refine r_iload_n dX12_weekOn_7 rfl ?_
    refine r_aload_n dX12_weekOn_8 rfl ?_
    obtain ⟨x1, h2, hf⟩ := bnd hf
    refine r_getI dX12_weekOn_9 fs12_77_11 rfl h2 ?_
    refine r_icmp_ge (tgt := 74) dX12_weekOn_12 (by decide) (fun c3 => ?_) (fun c3 => ?_)
    · replace hf := (if_pos c3).symm.trans hf
      refine r_iconst (v := 0) dX12_weekOn_74 (by decide) ?_
      refine r_istore_n (lv' := [.ref l0, .int 0, .null, .null, .null]) dX12_weekOn_75 (by decide) rfl rfl ?_
      exact t_X12_weekOn_76 FU _ _ _ _ hf
    · replace hf := (if_neg c3).symm.trans hf
      refine r_iconst (v := 3) dX12_weekOn_15 (by decide) ?_
      refine r_iload_n dX12_weekOn_16 rfl ?_
      refine r_imul dX12_weekOn_17 ?_
      refine r_aload_n dX12_weekOn_18 rfl ?_
      obtain ⟨x4, h5, hf⟩ := bnd hf
      refine r_getR dX12_weekOn_19 fs12_19_11 rfl h5 ?_
      refine r_iload_n dX12_weekOn_22 rfl ?_
      obtain ⟨x6, h7, hf⟩ := bnd hf
      refine r_iaload dX12_weekOn_23 h7 ?_
      refine r_iadd dX12_weekOn_24 ?_
      refine r_istore_n (lv' := [.ref l0, .int l1, .int ((3 * l1) + x6), .null, .null]) dX12_weekOn_25 (by decide) rfl rfl ?_
      refine r_aload_n dX12_weekOn_26 rfl ?_
      obtain ⟨x8, h9, hf⟩ := bnd hf
      refine r_getR dX12_weekOn_27 fs12_34_11 rfl h9 ?_
      refine r_iload_n dX12_weekOn_30 rfl ?_
      refine r_aload_n dX12_weekOn_31 rfl ?_
      obtain ⟨x10, h11, hf⟩ := bnd hf
      refine r_getR dX12_weekOn_32 fs12_34_11 rfl h11 ?_
      refine r_iload_n dX12_weekOn_35 rfl ?_
      obtain ⟨x12, h13, hf⟩ := bnd hf
      refine r_iaload dX12_weekOn_36 h13 ?_
      refine r_aload_n dX12_weekOn_37 rfl ?_
      obtain ⟨x14, h15, hf⟩ := bnd hf
      refine r_getR dX12_weekOn_38 fs12_22_11 rfl h15 ?_
      refine r_iload_n dX12_weekOn_41 rfl ?_
      obtain ⟨x16, h17, hf⟩ := bnd hf
      refine r_iaload dX12_weekOn_42 h17 ?_
      refine r_iadd dX12_weekOn_43 ?_
      refine r_bipush (v := 99) dX12_weekOn_44 (by decide) ?_
      refine r_icmp_le (tgt := 54) dX12_weekOn_46 (by decide) (fun c18 => ?_) (fun c18 => ?_)
      · replace hf := (if_pos c18).symm.trans hf
        refine r_aload_n dX12_weekOn_54 rfl ?_
        obtain ⟨x19, h20, hf⟩ := bnd hf
        refine r_getR dX12_weekOn_55 fs12_34_11 rfl h20 ?_
        refine r_iload_n dX12_weekOn_58 rfl ?_
        obtain ⟨x21, h22, hf⟩ := bnd hf
        refine r_iaload dX12_weekOn_59 h22 ?_
        refine r_aload_n dX12_weekOn_60 rfl ?_
        obtain ⟨x23, h24, hf⟩ := bnd hf
        refine r_getR dX12_weekOn_61 fs12_22_11 rfl h24 ?_
        refine r_iload_n dX12_weekOn_64 rfl ?_
        obtain ⟨x25, h26, hf⟩ := bnd hf
        refine r_iaload dX12_weekOn_65 h26 ?_
        refine r_iadd dX12_weekOn_66 ?_
        refine r_lvs (lv' := [.ref l0, .int l1, .null, .null, .null]) ⟨Or.inl rfl, Or.inl rfl, Or.inr rfl, Or.inl rfl, Or.inl rfl, trivial⟩ ?_
        exact t_X12_weekOn_67 (f_X12_weekOn_7 n) ih _ _ _ _ _ _ _ hf
      · replace hf := (if_neg c18).symm.trans hf
        refine r_bipush (v := 99) dX12_weekOn_49 (by decide) ?_
        refine r_goto (tgt := 67) dX12_weekOn_51 (by decide) ?_
        refine r_lvs (lv' := [.ref l0, .int l1, .null, .null, .null]) ⟨Or.inl rfl, Or.inl rfl, Or.inr rfl, Or.inl rfl, Or.inl rfl, trivial⟩ ?_
        exact t_X12_weekOn_67 (f_X12_weekOn_7 n) ih _ _ _ _ _ _ _ hf
set_option maxRecDepth 20000 in
theorem ok_X12_weekOn {S : Mm} {l0 : Nat} {T : (Int32 × Mm)} (hf : f_X12_weekOn S l0 = some T) : okc S l0 11 = true := (oif hf).1
set_option maxRecDepth 20000 in
theorem c_X12_weekOn {G : Gt} {l : Launch} {S : Mm} {l0 : Nat} {T : (Int32 × Mm)} (hf : f_X12_weekOn S l0 = some T) : CC G l yX12_weekOn cX12_weekOn 5 (some .int) 4 0 0 [.ref l0] S (eI T) := by
  unfold f_X12_weekOn at hf
  replace hf := (oif hf).2
  refine r_body (by decide) rfl (Nat.le_of_ble_eq_true rfl) (by simp) ?_
  refine r_aload_n dX12_weekOn_0 rfl ?_
  refine r_iconst (v := 0) dX12_weekOn_1 (by decide) ?_
  obtain ⟨S1, h2, hf⟩ := bnd hf
  refine r_putI dX12_weekOn_2 fs12_115_11 rfl h2 ?_
  refine r_iconst (v := 0) dX12_weekOn_5 (by decide) ?_
  refine r_istore_n (lv' := [.ref l0, .int 0, .null, .null, .null]) dX12_weekOn_6 (by decide) rfl rfl ?_
  exact t_X12_weekOn_7 FU _ _ _ _ hf
def f_X12_debt (S : Mm) (l0 : Nat) (l1 : Int32) (l2 : Int32) : Option (Int32 × Mm) := if okc S l0 11 = true then (gR S 11 l0 13).bind fun x1 => (aI S x1 ((6 * l1) + l2)).bind fun x3 => some (x3, S) else none
set_option maxRecDepth 20000 in
theorem ok_X12_debt {S : Mm} {l0 : Nat} {l1 : Int32} {l2 : Int32} {T : (Int32 × Mm)} (hf : f_X12_debt S l0 l1 l2 = some T) : okc S l0 11 = true := (oif hf).1
set_option maxRecDepth 20000 in
theorem c_X12_debt {G : Gt} {l : Launch} {S : Mm} {l0 : Nat} {l1 : Int32} {l2 : Int32} {T : (Int32 × Mm)} (hf : f_X12_debt S l0 l1 l2 = some T) : CC G l yX12_debt cX12_debt 3 (some .int) 0 0 0 [.ref l0, .int l1, .int l2] S (eI T) := by
  unfold f_X12_debt at hf
  replace hf := (oif hf).2
  refine r_body (by decide) rfl (Nat.le_of_ble_eq_true rfl) (by simp) ?_
  refine r_aload_n dX12_debt_0 rfl ?_
  obtain ⟨x1, h2, hf⟩ := bnd hf
  refine r_getR dX12_debt_1 fs12_37_11 rfl h2 ?_
  refine r_bipush (v := 6) dX12_debt_4 (by decide) ?_
  refine r_iload_n dX12_debt_6 rfl ?_
  refine r_imul dX12_debt_7 ?_
  refine r_iload_n dX12_debt_8 rfl ?_
  refine r_iadd dX12_debt_9 ?_
  obtain ⟨x3, h4, hf⟩ := bnd hf
  refine r_iaload dX12_debt_10 h4 ?_
  have hz := congrArg eI (Option.some.inj hf)
  exact r_ireturn dX12_debt_11 rfl (Nat.le_of_ble_eq_true rfl) (Nat.le_of_ble_eq_true rfl) hz
def f_X12_lessen_172 (S : Mm) (l5 : Int32) : Option (Int32 × Mm) := some (l5, S)
def f_X12_lessen_98 (S : Mm) (l0 : Nat) (l1 : Int32) (l2 : Int32) (l3 : Int32) (l4 : Int32) (s0 : Int32) : Option (Int32 × Mm) := (gR S 11 l0 13).bind fun x1 => (aI S x1 ((6 * l1) + l2)).bind fun x3 => (aS S x1 ((6 * l1) + l2) (x3 - s0)).bind fun S5 => (if l4 = 0 then (gR S5 11 l0 13).bind fun x8 => (aI S5 x8 ((6 * l2) + l1)).bind fun x10 => (aS S5 x8 ((6 * l2) + l1) (x10 - s0)).bind fun S12 => f_X12_lessen_172 S12 s0 else (gR S5 11 l0 13).bind fun x14 => (aI S5 x14 ((6 * l2) + l3)).bind fun x16 => (aS S5 x14 ((6 * l2) + l3) (x16 - s0)).bind fun S18 => (gR S18 11 l0 13).bind fun x20 => (aI S18 x20 ((6 * l3) + l1)).bind fun x22 => (aS S18 x20 ((6 * l3) + l1) (x22 - s0)).bind fun S24 => f_X12_lessen_172 S24 s0)
def f_X12_lessen_96 (S : Mm) (l0 : Nat) (l1 : Int32) (l2 : Int32) (l3 : Int32) (l4 : Int32) (l5 : Int32) : Option (Int32 × Mm) := f_X12_lessen_98 S l0 l1 l2 l3 l4 l5
def f_X12_lessen_69 (S : Mm) (l0 : Nat) (l1 : Int32) (l2 : Int32) (l3 : Int32) (l4 : Int32) (s0 : Int32) : Option (Int32 × Mm) := (if l4 = 0 then f_X12_lessen_96 S l0 l1 l2 l3 l4 s0 else (f_X12_debt S l0 l3 l1).bind fun q2 => (if s0 ≤ q2.1 then f_X12_lessen_96 q2.2 l0 l1 l2 l3 l4 s0 else (f_X12_debt q2.2 l0 l3 l1).bind fun q5 => f_X12_lessen_98 q5.2 l0 l1 l2 l3 l4 q5.1))
def f_X12_lessen_37 (S : Mm) (l0 : Nat) (l1 : Int32) (l2 : Int32) (l3 : Int32) (l4 : Int32) (s0 : Int32) (s1 : Int32) : Option (Int32 × Mm) := (if s1 ≤ s0 then (if l4 = 0 then (f_X12_debt S l0 l2 l1).bind fun q3 => f_X12_lessen_69 q3.2 l0 l1 l2 l3 l4 q3.1 else (f_X12_debt S l0 l2 l3).bind fun q5 => f_X12_lessen_69 q5.2 l0 l1 l2 l3 l4 q5.1) else (f_X12_debt S l0 l1 l2).bind fun q7 => f_X12_lessen_69 q7.2 l0 l1 l2 l3 l4 q7.1)
def f_X12_lessen_9 (S : Mm) (l0 : Nat) (l1 : Int32) (l2 : Int32) (l3 : Int32) (s0 : Int32) : Option (Int32 × Mm) := (f_X12_debt S l0 l1 l2).bind fun q1 => (if s0 = 0 then (f_X12_debt q1.2 l0 l2 l1).bind fun q4 => f_X12_lessen_37 q4.2 l0 l1 l2 l3 s0 q1.1 q4.1 else (f_X12_debt q1.2 l0 l2 l3).bind fun q6 => f_X12_lessen_37 q6.2 l0 l1 l2 l3 s0 q1.1 q6.1)
def f_X12_lessen (S : Mm) (l0 : Nat) (l1 : Int32) (l2 : Int32) (l3 : Int32) : Option (Int32 × Mm) := if okc S l0 11 = true then (if l3 < 0 then f_X12_lessen_9 S l0 l1 l2 l3 0 else f_X12_lessen_9 S l0 l1 l2 l3 1) else none
set_option maxRecDepth 20000 in
theorem t_X12_lessen_172 {G : Gt} {l : Launch} (S : Mm) (l5 : Int32) (T : (Int32 × Mm)) (hf : f_X12_lessen_172 S l5 = some T) : Sat G l yX12_lessen cX12_lessen 6 (some .int) 1 0 0 0 0 172 [.null, .null, .null, .null, .null, .int l5] [] S (eI T) := by
  unfold f_X12_lessen_172 at hf
  refine r_iload dX12_lessen_172 rfl ?_
  have hz := congrArg eI (Option.some.inj hf)
  exact r_ireturn dX12_lessen_174 rfl (Nat.le_of_ble_eq_true rfl) (Nat.le_of_ble_eq_true rfl) hz
set_option maxRecDepth 20000 in
theorem t_X12_lessen_98 {G : Gt} {l : Launch} (S : Mm) (l0 : Nat) (l1 : Int32) (l2 : Int32) (l3 : Int32) (l4 : Int32) (s0 : Int32) (T : (Int32 × Mm)) (hf : f_X12_lessen_98 S l0 l1 l2 l3 l4 s0 = some T) : Sat G l yX12_lessen cX12_lessen 6 (some .int) 1 0 0 0 0 98 [.ref l0, .int l1, .int l2, .int l3, .int l4, .null] [.int s0] S (eI T) := by
  unfold f_X12_lessen_98 at hf
  refine r_istore (lv' := [.ref l0, .int l1, .int l2, .int l3, .int l4, .int s0]) dX12_lessen_98 (by decide) rfl rfl ?_
  refine r_aload_n dX12_lessen_100 rfl ?_
  obtain ⟨x1, h2, hf⟩ := bnd hf
  refine r_getR dX12_lessen_101 fs12_37_11 rfl h2 ?_
  refine r_bipush (v := 6) dX12_lessen_104 (by decide) ?_
  refine r_iload_n dX12_lessen_106 rfl ?_
  refine r_imul dX12_lessen_107 ?_
  refine r_iload_n dX12_lessen_108 rfl ?_
  refine r_iadd dX12_lessen_109 ?_
  refine r_dup2 dX12_lessen_110 rfl rfl ?_
  obtain ⟨x3, h4, hf⟩ := bnd hf
  refine r_iaload dX12_lessen_111 h4 ?_
  refine r_iload dX12_lessen_112 rfl ?_
  refine r_isub dX12_lessen_114 ?_
  obtain ⟨S5, h6, hf⟩ := bnd hf
  refine r_iastore dX12_lessen_115 h6 ?_
  refine r_iload dX12_lessen_116 rfl ?_
  refine r_if_eq (tgt := 156) dX12_lessen_118 (by decide) (fun c7 => ?_) (fun c7 => ?_)
  · replace hf := (if_pos c7).symm.trans hf
    refine r_aload_n dX12_lessen_156 rfl ?_
    obtain ⟨x8, h9, hf⟩ := bnd hf
    refine r_getR dX12_lessen_157 fs12_37_11 rfl h9 ?_
    refine r_bipush (v := 6) dX12_lessen_160 (by decide) ?_
    refine r_iload_n dX12_lessen_162 rfl ?_
    refine r_imul dX12_lessen_163 ?_
    refine r_iload_n dX12_lessen_164 rfl ?_
    refine r_iadd dX12_lessen_165 ?_
    refine r_dup2 dX12_lessen_166 rfl rfl ?_
    obtain ⟨x10, h11, hf⟩ := bnd hf
    refine r_iaload dX12_lessen_167 h11 ?_
    refine r_iload dX12_lessen_168 rfl ?_
    refine r_isub dX12_lessen_170 ?_
    obtain ⟨S12, h13, hf⟩ := bnd hf
    refine r_iastore dX12_lessen_171 h13 ?_
    refine r_lvs (lv' := [.null, .null, .null, .null, .null, .int s0]) ⟨Or.inr rfl, Or.inr rfl, Or.inr rfl, Or.inr rfl, Or.inr rfl, Or.inl rfl, trivial⟩ ?_
    exact t_X12_lessen_172 _ _ _ hf
  · replace hf := (if_neg c7).symm.trans hf
    refine r_aload_n dX12_lessen_121 rfl ?_
    obtain ⟨x14, h15, hf⟩ := bnd hf
    refine r_getR dX12_lessen_122 fs12_37_11 rfl h15 ?_
    refine r_bipush (v := 6) dX12_lessen_125 (by decide) ?_
    refine r_iload_n dX12_lessen_127 rfl ?_
    refine r_imul dX12_lessen_128 ?_
    refine r_iload_n dX12_lessen_129 rfl ?_
    refine r_iadd dX12_lessen_130 ?_
    refine r_dup2 dX12_lessen_131 rfl rfl ?_
    obtain ⟨x16, h17, hf⟩ := bnd hf
    refine r_iaload dX12_lessen_132 h17 ?_
    refine r_iload dX12_lessen_133 rfl ?_
    refine r_isub dX12_lessen_135 ?_
    obtain ⟨S18, h19, hf⟩ := bnd hf
    refine r_iastore dX12_lessen_136 h19 ?_
    refine r_aload_n dX12_lessen_137 rfl ?_
    obtain ⟨x20, h21, hf⟩ := bnd hf
    refine r_getR dX12_lessen_138 fs12_37_11 rfl h21 ?_
    refine r_bipush (v := 6) dX12_lessen_141 (by decide) ?_
    refine r_iload_n dX12_lessen_143 rfl ?_
    refine r_imul dX12_lessen_144 ?_
    refine r_iload_n dX12_lessen_145 rfl ?_
    refine r_iadd dX12_lessen_146 ?_
    refine r_dup2 dX12_lessen_147 rfl rfl ?_
    obtain ⟨x22, h23, hf⟩ := bnd hf
    refine r_iaload dX12_lessen_148 h23 ?_
    refine r_iload dX12_lessen_149 rfl ?_
    refine r_isub dX12_lessen_151 ?_
    obtain ⟨S24, h25, hf⟩ := bnd hf
    refine r_iastore dX12_lessen_152 h25 ?_
    refine r_goto (tgt := 172) dX12_lessen_153 (by decide) ?_
    refine r_lvs (lv' := [.null, .null, .null, .null, .null, .int s0]) ⟨Or.inr rfl, Or.inr rfl, Or.inr rfl, Or.inr rfl, Or.inr rfl, Or.inl rfl, trivial⟩ ?_
    exact t_X12_lessen_172 _ _ _ hf
set_option maxRecDepth 20000 in
theorem t_X12_lessen_96 {G : Gt} {l : Launch} (S : Mm) (l0 : Nat) (l1 : Int32) (l2 : Int32) (l3 : Int32) (l4 : Int32) (l5 : Int32) (T : (Int32 × Mm)) (hf : f_X12_lessen_96 S l0 l1 l2 l3 l4 l5 = some T) : Sat G l yX12_lessen cX12_lessen 6 (some .int) 1 0 0 0 0 96 [.ref l0, .int l1, .int l2, .int l3, .int l4, .int l5] [] S (eI T) := by
  unfold f_X12_lessen_96 at hf
  refine r_iload dX12_lessen_96 rfl ?_
  refine r_lvs (lv' := [.ref l0, .int l1, .int l2, .int l3, .int l4, .null]) ⟨Or.inl rfl, Or.inl rfl, Or.inl rfl, Or.inl rfl, Or.inl rfl, Or.inr rfl, trivial⟩ ?_
  exact t_X12_lessen_98 _ _ _ _ _ _ _ _ hf
set_option maxRecDepth 20000 in
theorem t_X12_lessen_69 {G : Gt} {l : Launch} (S : Mm) (l0 : Nat) (l1 : Int32) (l2 : Int32) (l3 : Int32) (l4 : Int32) (s0 : Int32) (T : (Int32 × Mm)) (hf : f_X12_lessen_69 S l0 l1 l2 l3 l4 s0 = some T) : Sat G l yX12_lessen cX12_lessen 6 (some .int) 1 0 0 0 0 69 [.ref l0, .int l1, .int l2, .int l3, .int l4, .null] [.int s0] S (eI T) := by
  unfold f_X12_lessen_69 at hf
  refine r_istore (lv' := [.ref l0, .int l1, .int l2, .int l3, .int l4, .int s0]) dX12_lessen_69 (by decide) rfl rfl ?_
  refine r_iload dX12_lessen_71 rfl ?_
  refine r_if_eq (tgt := 96) dX12_lessen_73 (by decide) (fun c1 => ?_) (fun c1 => ?_)
  · replace hf := (if_pos c1).symm.trans hf
    exact t_X12_lessen_96 _ _ _ _ _ _ _ _ hf
  · replace hf := (if_neg c1).symm.trans hf
    refine r_aload_n dX12_lessen_76 rfl ?_
    refine r_iload_n dX12_lessen_77 rfl ?_
    refine r_iload_n dX12_lessen_78 rfl ?_
    obtain ⟨q2, h3, hf⟩ := bnd hf
    refine r_callVi (st := []) (as := [.int l3, .int l1]) dX12_lessen_79 ms_X12_debt ⟨rfl, w5_8, w5_10, w0_40⟩ (ok_X12_debt h3) (c_X12_debt h3) rfl ⟨by omega, by omega⟩ (Nat.le_of_ble_eq_true rfl) (by decide) (by decide) rfl ?_
    refine r_iload dX12_lessen_82 rfl ?_
    refine r_icmp_ge (tgt := 96) dX12_lessen_84 (by decide) (fun c4 => ?_) (fun c4 => ?_)
    · replace hf := (if_pos c4).symm.trans hf
      exact t_X12_lessen_96 _ _ _ _ _ _ _ _ hf
    · replace hf := (if_neg c4).symm.trans hf
      refine r_aload_n dX12_lessen_87 rfl ?_
      refine r_iload_n dX12_lessen_88 rfl ?_
      refine r_iload_n dX12_lessen_89 rfl ?_
      obtain ⟨q5, h6, hf⟩ := bnd hf
      refine r_callVi (st := []) (as := [.int l3, .int l1]) dX12_lessen_90 ms_X12_debt ⟨rfl, w5_8, w5_10, w0_40⟩ (ok_X12_debt h6) (c_X12_debt h6) rfl ⟨by omega, by omega⟩ (Nat.le_of_ble_eq_true rfl) (by decide) (by decide) rfl ?_
      refine r_goto (tgt := 98) dX12_lessen_93 (by decide) ?_
      refine r_lvs (lv' := [.ref l0, .int l1, .int l2, .int l3, .int l4, .null]) ⟨Or.inl rfl, Or.inl rfl, Or.inl rfl, Or.inl rfl, Or.inl rfl, Or.inr rfl, trivial⟩ ?_
      exact t_X12_lessen_98 _ _ _ _ _ _ _ _ hf
set_option maxRecDepth 20000 in
theorem t_X12_lessen_37 {G : Gt} {l : Launch} (S : Mm) (l0 : Nat) (l1 : Int32) (l2 : Int32) (l3 : Int32) (l4 : Int32) (s0 : Int32) (s1 : Int32) (T : (Int32 × Mm)) (hf : f_X12_lessen_37 S l0 l1 l2 l3 l4 s0 s1 = some T) : Sat G l yX12_lessen cX12_lessen 6 (some .int) 1 0 0 0 0 37 [.ref l0, .int l1, .int l2, .int l3, .int l4, .null] [.int s1, .int s0] S (eI T) := by
  unfold f_X12_lessen_37 at hf
  refine r_icmp_ge (tgt := 49) dX12_lessen_37 (by decide) (fun c1 => ?_) (fun c1 => ?_)
  · replace hf := (if_pos c1).symm.trans hf
    refine r_iload dX12_lessen_49 rfl ?_
    refine r_if_eq (tgt := 63) dX12_lessen_51 (by decide) (fun c2 => ?_) (fun c2 => ?_)
    · replace hf := (if_pos c2).symm.trans hf
      refine r_aload_n dX12_lessen_63 rfl ?_
      refine r_iload_n dX12_lessen_64 rfl ?_
      refine r_iload_n dX12_lessen_65 rfl ?_
      obtain ⟨q3, h4, hf⟩ := bnd hf
      refine r_callVi (st := []) (as := [.int l2, .int l1]) dX12_lessen_66 ms_X12_debt ⟨rfl, w5_8, w5_10, w0_40⟩ (ok_X12_debt h4) (c_X12_debt h4) rfl ⟨by omega, by omega⟩ (Nat.le_of_ble_eq_true rfl) (by decide) (by decide) rfl ?_
      exact t_X12_lessen_69 _ _ _ _ _ _ _ _ hf
    · replace hf := (if_neg c2).symm.trans hf
      refine r_aload_n dX12_lessen_54 rfl ?_
      refine r_iload_n dX12_lessen_55 rfl ?_
      refine r_iload_n dX12_lessen_56 rfl ?_
      obtain ⟨q5, h6, hf⟩ := bnd hf
      refine r_callVi (st := []) (as := [.int l2, .int l3]) dX12_lessen_57 ms_X12_debt ⟨rfl, w5_8, w5_10, w0_40⟩ (ok_X12_debt h6) (c_X12_debt h6) rfl ⟨by omega, by omega⟩ (Nat.le_of_ble_eq_true rfl) (by decide) (by decide) rfl ?_
      refine r_goto (tgt := 69) dX12_lessen_60 (by decide) ?_
      exact t_X12_lessen_69 _ _ _ _ _ _ _ _ hf
  · replace hf := (if_neg c1).symm.trans hf
    refine r_aload_n dX12_lessen_40 rfl ?_
    refine r_iload_n dX12_lessen_41 rfl ?_
    refine r_iload_n dX12_lessen_42 rfl ?_
    obtain ⟨q7, h8, hf⟩ := bnd hf
    refine r_callVi (st := []) (as := [.int l1, .int l2]) dX12_lessen_43 ms_X12_debt ⟨rfl, w5_8, w5_10, w0_40⟩ (ok_X12_debt h8) (c_X12_debt h8) rfl ⟨by omega, by omega⟩ (Nat.le_of_ble_eq_true rfl) (by decide) (by decide) rfl ?_
    refine r_goto (tgt := 69) dX12_lessen_46 (by decide) ?_
    exact t_X12_lessen_69 _ _ _ _ _ _ _ _ hf
set_option maxRecDepth 20000 in
theorem t_X12_lessen_9 {G : Gt} {l : Launch} (S : Mm) (l0 : Nat) (l1 : Int32) (l2 : Int32) (l3 : Int32) (s0 : Int32) (T : (Int32 × Mm)) (hf : f_X12_lessen_9 S l0 l1 l2 l3 s0 = some T) : Sat G l yX12_lessen cX12_lessen 6 (some .int) 1 0 0 0 0 9 [.ref l0, .int l1, .int l2, .int l3, .null, .null] [.int s0] S (eI T) := by
  unfold f_X12_lessen_9 at hf
  refine r_istore (lv' := [.ref l0, .int l1, .int l2, .int l3, .int s0, .null]) dX12_lessen_9 (by decide) rfl rfl ?_
  refine r_aload_n dX12_lessen_11 rfl ?_
  refine r_iload_n dX12_lessen_12 rfl ?_
  refine r_iload_n dX12_lessen_13 rfl ?_
  obtain ⟨q1, h2, hf⟩ := bnd hf
  refine r_callVi (st := []) (as := [.int l1, .int l2]) dX12_lessen_14 ms_X12_debt ⟨rfl, w5_8, w5_10, w0_40⟩ (ok_X12_debt h2) (c_X12_debt h2) rfl ⟨by omega, by omega⟩ (Nat.le_of_ble_eq_true rfl) (by decide) (by decide) rfl ?_
  refine r_iload dX12_lessen_17 rfl ?_
  refine r_if_eq (tgt := 31) dX12_lessen_19 (by decide) (fun c3 => ?_) (fun c3 => ?_)
  · replace hf := (if_pos c3).symm.trans hf
    refine r_aload_n dX12_lessen_31 rfl ?_
    refine r_iload_n dX12_lessen_32 rfl ?_
    refine r_iload_n dX12_lessen_33 rfl ?_
    obtain ⟨q4, h5, hf⟩ := bnd hf
    refine r_callVi (st := [.int q1.1]) (as := [.int l2, .int l1]) dX12_lessen_34 ms_X12_debt ⟨rfl, w5_8, w5_10, w0_40⟩ (ok_X12_debt h5) (c_X12_debt h5) rfl ⟨by omega, by omega⟩ (Nat.le_of_ble_eq_true rfl) (by decide) (by decide) rfl ?_
    exact t_X12_lessen_37 _ _ _ _ _ _ _ _ _ hf
  · replace hf := (if_neg c3).symm.trans hf
    refine r_aload_n dX12_lessen_22 rfl ?_
    refine r_iload_n dX12_lessen_23 rfl ?_
    refine r_iload_n dX12_lessen_24 rfl ?_
    obtain ⟨q6, h7, hf⟩ := bnd hf
    refine r_callVi (st := [.int q1.1]) (as := [.int l2, .int l3]) dX12_lessen_25 ms_X12_debt ⟨rfl, w5_8, w5_10, w0_40⟩ (ok_X12_debt h7) (c_X12_debt h7) rfl ⟨by omega, by omega⟩ (Nat.le_of_ble_eq_true rfl) (by decide) (by decide) rfl ?_
    refine r_goto (tgt := 37) dX12_lessen_28 (by decide) ?_
    exact t_X12_lessen_37 _ _ _ _ _ _ _ _ _ hf
set_option maxRecDepth 20000 in
theorem ok_X12_lessen {S : Mm} {l0 : Nat} {l1 : Int32} {l2 : Int32} {l3 : Int32} {T : (Int32 × Mm)} (hf : f_X12_lessen S l0 l1 l2 l3 = some T) : okc S l0 11 = true := (oif hf).1
set_option maxRecDepth 20000 in
theorem c_X12_lessen {G : Gt} {l : Launch} {S : Mm} {l0 : Nat} {l1 : Int32} {l2 : Int32} {l3 : Int32} {T : (Int32 × Mm)} (hf : f_X12_lessen S l0 l1 l2 l3 = some T) : CC G l yX12_lessen cX12_lessen 6 (some .int) 1 0 0 [.ref l0, .int l1, .int l2, .int l3] S (eI T) := by
  unfold f_X12_lessen at hf
  replace hf := (oif hf).2
  refine r_body (by decide) rfl (Nat.le_of_ble_eq_true rfl) (by simp) ?_
  refine r_iload_n dX12_lessen_0 rfl ?_
  refine r_if_lt (tgt := 8) dX12_lessen_1 (by decide) (fun c1 => ?_) (fun c1 => ?_)
  · replace hf := (if_pos c1).symm.trans hf
    refine r_iconst (v := 0) dX12_lessen_8 (by decide) ?_
    exact t_X12_lessen_9 _ _ _ _ _ _ _ hf
  · replace hf := (if_neg c1).symm.trans hf
    refine r_iconst (v := 1) dX12_lessen_4 (by decide) ?_
    refine r_goto (tgt := 9) dX12_lessen_5 (by decide) ?_
    exact t_X12_lessen_9 _ _ _ _ _ _ _ hf
def f_X12_strikeOne_14 (k2 : Mm → Nat → Int32 → Option (Int32 × Mm)) : Nat → Mm → Nat → Int32 → Int32 → Option (Int32 × Mm)
  | 0, _, _, _, _ => none
  | n + 1, S, l0, l1, l2 => (gI S 11 l0 0).bind fun x1 => (if x1 ≤ l2 then k2 S l0 (l1 + 1) else (f_X12_lessen S l0 l1 l2 (-1)).bind fun q4 => (if q4.1 ≤ 0 then (f_X12_strikeOne_14 k2 n) q4.2 l0 l1 (l2 + 1) else (gI q4.2 11 l0 19).bind fun x7 => (pI q4.2 11 l0 19 (x7 + (2 * q4.1))).bind fun S9 => some (1, S9)))
def f_X12_strikeOne_129 (k62 : Mm → Nat → Int32 → Option (Int32 × Mm)) (k72 : Mm → Nat → Int32 → Int32 → Option (Int32 × Mm)) (S : Mm) (l0 : Nat) (l1 : Int32) (l2 : Int32) (s0 : Int32) : Option (Int32 × Mm) := (if s0 ≤ 0 then k72 S l0 l1 (l2 + 1) else (gI S 11 l0 19).bind fun x2 => (pI S 11 l0 19 (x2 + (3 * s0))).bind fun S4 => some (1, S4))
def f_X12_strikeOne_128 (k62 : Mm → Nat → Int32 → Option (Int32 × Mm)) (k72 : Mm → Nat → Int32 → Int32 → Option (Int32 × Mm)) (S : Mm) (l0 : Nat) (l1 : Int32) (l2 : Int32) : Option (Int32 × Mm) := f_X12_strikeOne_129 k62 k72 S l0 l1 l2 0
def f_X12_strikeOne_72 (k62 : Mm → Nat → Int32 → Option (Int32 × Mm)) : Nat → Mm → Nat → Int32 → Int32 → Option (Int32 × Mm)
  | 0, _, _, _, _ => none
  | n + 1, S, l0, l1, l2 => (gI S 11 l0 0).bind fun x1 => (gI S 11 l0 0).bind fun x3 => (if (x1 * x3) ≤ l2 then k62 S l0 (l1 + 1) else (gI S 11 l0 0).bind fun x6 => (dV l2 x6).bind fun x8 => (gI S 11 l0 0).bind fun x10 => (rM l2 x10).bind fun x12 => (if x8 ≤ l1 then f_X12_strikeOne_128 k62 (f_X12_strikeOne_72 k62 n) S l0 l1 l2 else (if x12 ≤ l1 then f_X12_strikeOne_128 k62 (f_X12_strikeOne_72 k62 n) S l0 l1 l2 else (if x8 = x12 then f_X12_strikeOne_128 k62 (f_X12_strikeOne_72 k62 n) S l0 l1 l2 else (f_X12_lessen S l0 l1 x8 x12).bind fun q17 => f_X12_strikeOne_129 k62 (f_X12_strikeOne_72 k62 n) q17.2 l0 l1 l2 q17.1))))
def f_X12_strikeOne_62 : Nat → Mm → Nat → Int32 → Option (Int32 × Mm)
  | 0, _, _, _ => none
  | n + 1, S, l0, l1 => (gI S 11 l0 0).bind fun x1 => (if x1 ≤ l1 then some (0, S) else f_X12_strikeOne_72 (f_X12_strikeOne_62 n) FU S l0 l1 0)
def f_X12_strikeOne_2 : Nat → Mm → Nat → Int32 → Option (Int32 × Mm)
  | 0, _, _, _ => none
  | n + 1, S, l0, l1 => (gI S 11 l0 0).bind fun x1 => (if x1 ≤ l1 then f_X12_strikeOne_62 FU S l0 0 else f_X12_strikeOne_14 (f_X12_strikeOne_2 n) FU S l0 l1 (l1 + 1))
def f_X12_strikeOne (S : Mm) (l0 : Nat) : Option (Int32 × Mm) := if okc S l0 11 = true then f_X12_strikeOne_2 FU S l0 0 else none
set_option maxRecDepth 20000 in
theorem t_X12_strikeOne_14 {G : Gt} {l : Launch} (k2 : Mm → Nat → Int32 → Option (Int32 × Mm)) (hk2 : ∀ (S : Mm) (l0 : Nat) (l1 : Int32) (T : (Int32 × Mm)), k2 S l0 l1 = some T → Sat G l yX12_strikeOne cX12_strikeOne 6 (some .boolean) 2 0 0 0 0 2 [.ref l0, .int l1, .null, .null, .null, .null] [] S (eI T)) : ∀ (n : Nat) (S : Mm) (l0 : Nat) (l1 : Int32) (l2 : Int32) (T : (Int32 × Mm)), f_X12_strikeOne_14 k2 n S l0 l1 l2 = some T → Sat G l yX12_strikeOne cX12_strikeOne 6 (some .boolean) 2 0 0 0 0 14 [.ref l0, .int l1, .int l2, .null, .null, .null] [] S (eI T) := by
  intro n
  induction n with
  | zero =>
    intro S l0 l1 l2 T hf
    rw [f_X12_strikeOne_14] at hf
    cases hf
  | succ n ih =>
    intro S l0 l1 l2 T hf
    rw [f_X12_strikeOne_14] at hf
    refine r_iload_n dX12_strikeOne_14 rfl ?_
    refine r_aload_n dX12_strikeOne_15 rfl ?_
    obtain ⟨x1, h2, hf⟩ := bnd hf
    refine r_getI dX12_strikeOne_16 fs12_77_11 rfl h2 ?_
    refine r_icmp_ge (tgt := 54) dX12_strikeOne_19 (by decide) (fun c3 => ?_) (fun c3 => ?_)
    · replace hf := (if_pos c3).symm.trans hf
      refine r_iinc (v := 1) (lv' := [.ref l0, .int (l1 + 1), .int l2, .null, .null, .null]) dX12_strikeOne_54 rfl (by decide) (by decide) rfl rfl ?_
      refine r_goto (tgt := 2) dX12_strikeOne_57 (by decide) ?_
      refine r_lvs (lv' := [.ref l0, .int (l1 + 1), .null, .null, .null, .null]) ⟨Or.inl rfl, Or.inl rfl, Or.inr rfl, Or.inl rfl, Or.inl rfl, Or.inl rfl, trivial⟩ ?_
      exact hk2 _ _ _ _ hf
    · replace hf := (if_neg c3).symm.trans hf
      refine r_aload_n dX12_strikeOne_22 rfl ?_
      refine r_iload_n dX12_strikeOne_23 rfl ?_
      refine r_iload_n dX12_strikeOne_24 rfl ?_
      refine r_iconst (v := (-1)) dX12_strikeOne_25 (by decide) ?_
      obtain ⟨q4, h5, hf⟩ := bnd hf
      refine r_callVi (st := []) (as := [.int l1, .int l2, .int (-1)]) dX12_strikeOne_26 ms_X12_lessen ⟨rfl, w5_24, w5_26, w0_43⟩ (ok_X12_lessen h5) (c_X12_lessen h5) rfl ⟨by omega, by omega⟩ (Nat.le_of_ble_eq_true rfl) (by decide) (by decide) rfl ?_
      refine r_istore_n (lv' := [.ref l0, .int l1, .int l2, .int q4.1, .null, .null]) dX12_strikeOne_29 (by decide) rfl rfl ?_
      refine r_iload_n dX12_strikeOne_30 rfl ?_
      refine r_if_le (tgt := 48) dX12_strikeOne_31 (by decide) (fun c6 => ?_) (fun c6 => ?_)
      · replace hf := (if_pos c6).symm.trans hf
        refine r_iinc (v := 1) (lv' := [.ref l0, .int l1, .int (l2 + 1), .int q4.1, .null, .null]) dX12_strikeOne_48 rfl (by decide) (by decide) rfl rfl ?_
        refine r_goto (tgt := 14) dX12_strikeOne_51 (by decide) ?_
        refine r_lvs (lv' := [.ref l0, .int l1, .int (l2 + 1), .null, .null, .null]) ⟨Or.inl rfl, Or.inl rfl, Or.inl rfl, Or.inr rfl, Or.inl rfl, Or.inl rfl, trivial⟩ ?_
        exact ih _ _ _ _ _ hf
      · replace hf := (if_neg c6).symm.trans hf
        refine r_aload_n dX12_strikeOne_34 rfl ?_
        refine r_dup dX12_strikeOne_35 rfl ?_
        obtain ⟨x7, h8, hf⟩ := bnd hf
        refine r_getI dX12_strikeOne_36 fs12_133_11 rfl h8 ?_
        refine r_iconst (v := 2) dX12_strikeOne_39 (by decide) ?_
        refine r_iload_n dX12_strikeOne_40 rfl ?_
        refine r_imul dX12_strikeOne_41 ?_
        refine r_iadd dX12_strikeOne_42 ?_
        obtain ⟨S9, h10, hf⟩ := bnd hf
        refine r_putI dX12_strikeOne_43 fs12_133_11 rfl h10 ?_
        refine r_iconst (v := 1) dX12_strikeOne_46 (by decide) ?_
        have hz := congrArg eI (Option.some.inj hf)
        exact r_zreturn (x' := 1) dX12_strikeOne_47 rfl (Nat.le_of_ble_eq_true rfl) (Nat.le_of_ble_eq_true rfl) rfl hz
set_option maxRecDepth 20000 in
theorem t_X12_strikeOne_129 {G : Gt} {l : Launch} (k62 : Mm → Nat → Int32 → Option (Int32 × Mm)) (hk62 : ∀ (S : Mm) (l0 : Nat) (l1 : Int32) (T : (Int32 × Mm)), k62 S l0 l1 = some T → Sat G l yX12_strikeOne cX12_strikeOne 6 (some .boolean) 2 0 0 0 0 62 [.ref l0, .int l1, .null, .null, .null, .null] [] S (eI T)) (k72 : Mm → Nat → Int32 → Int32 → Option (Int32 × Mm)) (hk72 : ∀ (S : Mm) (l0 : Nat) (l1 : Int32) (l2 : Int32) (T : (Int32 × Mm)), k72 S l0 l1 l2 = some T → Sat G l yX12_strikeOne cX12_strikeOne 6 (some .boolean) 2 0 0 0 0 72 [.ref l0, .int l1, .int l2, .null, .null, .null] [] S (eI T)) (S : Mm) (l0 : Nat) (l1 : Int32) (l2 : Int32) (s0 : Int32) (T : (Int32 × Mm)) (hf : f_X12_strikeOne_129 k62 k72 S l0 l1 l2 s0 = some T) : Sat G l yX12_strikeOne cX12_strikeOne 6 (some .boolean) 2 0 0 0 0 129 [.ref l0, .int l1, .int l2, .null, .null, .null] [.int s0] S (eI T) := by
  unfold f_X12_strikeOne_129 at hf
  refine r_istore (lv' := [.ref l0, .int l1, .int l2, .null, .null, .int s0]) dX12_strikeOne_129 (by decide) rfl rfl ?_
  refine r_iload dX12_strikeOne_131 rfl ?_
  refine r_if_le (tgt := 151) dX12_strikeOne_133 (by decide) (fun c1 => ?_) (fun c1 => ?_)
  · replace hf := (if_pos c1).symm.trans hf
    refine r_iinc (v := 1) (lv' := [.ref l0, .int l1, .int (l2 + 1), .null, .null, .int s0]) dX12_strikeOne_151 rfl (by decide) (by decide) rfl rfl ?_
    refine r_goto (tgt := 72) dX12_strikeOne_154 (by decide) ?_
    refine r_lvs (lv' := [.ref l0, .int l1, .int (l2 + 1), .null, .null, .null]) ⟨Or.inl rfl, Or.inl rfl, Or.inl rfl, Or.inl rfl, Or.inl rfl, Or.inr rfl, trivial⟩ ?_
    exact hk72 _ _ _ _ _ hf
  · replace hf := (if_neg c1).symm.trans hf
    refine r_aload_n dX12_strikeOne_136 rfl ?_
    refine r_dup dX12_strikeOne_137 rfl ?_
    obtain ⟨x2, h3, hf⟩ := bnd hf
    refine r_getI dX12_strikeOne_138 fs12_133_11 rfl h3 ?_
    refine r_iconst (v := 3) dX12_strikeOne_141 (by decide) ?_
    refine r_iload dX12_strikeOne_142 rfl ?_
    refine r_imul dX12_strikeOne_144 ?_
    refine r_iadd dX12_strikeOne_145 ?_
    obtain ⟨S4, h5, hf⟩ := bnd hf
    refine r_putI dX12_strikeOne_146 fs12_133_11 rfl h5 ?_
    refine r_iconst (v := 1) dX12_strikeOne_149 (by decide) ?_
    have hz := congrArg eI (Option.some.inj hf)
    exact r_zreturn (x' := 1) dX12_strikeOne_150 rfl (Nat.le_of_ble_eq_true rfl) (Nat.le_of_ble_eq_true rfl) rfl hz
set_option maxRecDepth 20000 in
theorem t_X12_strikeOne_128 {G : Gt} {l : Launch} (k62 : Mm → Nat → Int32 → Option (Int32 × Mm)) (hk62 : ∀ (S : Mm) (l0 : Nat) (l1 : Int32) (T : (Int32 × Mm)), k62 S l0 l1 = some T → Sat G l yX12_strikeOne cX12_strikeOne 6 (some .boolean) 2 0 0 0 0 62 [.ref l0, .int l1, .null, .null, .null, .null] [] S (eI T)) (k72 : Mm → Nat → Int32 → Int32 → Option (Int32 × Mm)) (hk72 : ∀ (S : Mm) (l0 : Nat) (l1 : Int32) (l2 : Int32) (T : (Int32 × Mm)), k72 S l0 l1 l2 = some T → Sat G l yX12_strikeOne cX12_strikeOne 6 (some .boolean) 2 0 0 0 0 72 [.ref l0, .int l1, .int l2, .null, .null, .null] [] S (eI T)) (S : Mm) (l0 : Nat) (l1 : Int32) (l2 : Int32) (T : (Int32 × Mm)) (hf : f_X12_strikeOne_128 k62 k72 S l0 l1 l2 = some T) : Sat G l yX12_strikeOne cX12_strikeOne 6 (some .boolean) 2 0 0 0 0 128 [.ref l0, .int l1, .int l2, .null, .null, .null] [] S (eI T) := by
  unfold f_X12_strikeOne_128 at hf
  refine r_iconst (v := 0) dX12_strikeOne_128 (by decide) ?_
  exact t_X12_strikeOne_129 k62 hk62 k72 hk72 _ _ _ _ _ _ hf
set_option maxRecDepth 20000 in
theorem t_X12_strikeOne_72 {G : Gt} {l : Launch} (k62 : Mm → Nat → Int32 → Option (Int32 × Mm)) (hk62 : ∀ (S : Mm) (l0 : Nat) (l1 : Int32) (T : (Int32 × Mm)), k62 S l0 l1 = some T → Sat G l yX12_strikeOne cX12_strikeOne 6 (some .boolean) 2 0 0 0 0 62 [.ref l0, .int l1, .null, .null, .null, .null] [] S (eI T)) : ∀ (n : Nat) (S : Mm) (l0 : Nat) (l1 : Int32) (l2 : Int32) (T : (Int32 × Mm)), f_X12_strikeOne_72 k62 n S l0 l1 l2 = some T → Sat G l yX12_strikeOne cX12_strikeOne 6 (some .boolean) 2 0 0 0 0 72 [.ref l0, .int l1, .int l2, .null, .null, .null] [] S (eI T) := by
  intro n
  induction n with
  | zero =>
    intro S l0 l1 l2 T hf
    rw [f_X12_strikeOne_72] at hf
    cases hf
  | succ n ih =>
    intro S l0 l1 l2 T hf
    rw [f_X12_strikeOne_72] at hf
    refine r_iload_n dX12_strikeOne_72 rfl ?_
    refine r_aload_n dX12_strikeOne_73 rfl ?_
    obtain ⟨x1, h2, hf⟩ := bnd hf
    refine r_getI dX12_strikeOne_74 fs12_77_11 rfl h2 ?_
    refine r_aload_n dX12_strikeOne_77 rfl ?_
    obtain ⟨x3, h4, hf⟩ := bnd hf
    refine r_getI dX12_strikeOne_78 fs12_77_11 rfl h4 ?_
    refine r_imul dX12_strikeOne_81 ?_
    refine r_icmp_ge (tgt := 157) dX12_strikeOne_82 (by decide) (fun c5 => ?_) (fun c5 => ?_)
    · replace hf := (if_pos c5).symm.trans hf
      refine r_iinc (v := 1) (lv' := [.ref l0, .int (l1 + 1), .int l2, .null, .null, .null]) dX12_strikeOne_157 rfl (by decide) (by decide) rfl rfl ?_
      refine r_goto (tgt := 62) dX12_strikeOne_160 (by decide) ?_
      refine r_lvs (lv' := [.ref l0, .int (l1 + 1), .null, .null, .null, .null]) ⟨Or.inl rfl, Or.inl rfl, Or.inr rfl, Or.inl rfl, Or.inl rfl, Or.inl rfl, trivial⟩ ?_
      exact hk62 _ _ _ _ hf
    · replace hf := (if_neg c5).symm.trans hf
      refine r_iload_n dX12_strikeOne_85 rfl ?_
      refine r_aload_n dX12_strikeOne_86 rfl ?_
      obtain ⟨x6, h7, hf⟩ := bnd hf
      refine r_getI dX12_strikeOne_87 fs12_77_11 rfl h7 ?_
      obtain ⟨x8, h9, hf⟩ := bnd hf
      refine r_idiv dX12_strikeOne_90 h9 ?_
      refine r_istore_n (lv' := [.ref l0, .int l1, .int l2, .int x8, .null, .null]) dX12_strikeOne_91 (by decide) rfl rfl ?_
      refine r_iload_n dX12_strikeOne_92 rfl ?_
      refine r_aload_n dX12_strikeOne_93 rfl ?_
      obtain ⟨x10, h11, hf⟩ := bnd hf
      refine r_getI dX12_strikeOne_94 fs12_77_11 rfl h11 ?_
      obtain ⟨x12, h13, hf⟩ := bnd hf
      refine r_irem dX12_strikeOne_97 h13 ?_
      refine r_istore (lv' := [.ref l0, .int l1, .int l2, .int x8, .int x12, .null]) dX12_strikeOne_98 (by decide) rfl rfl ?_
      refine r_iload_n dX12_strikeOne_100 rfl ?_
      refine r_iload_n dX12_strikeOne_101 rfl ?_
      refine r_icmp_le (tgt := 128) dX12_strikeOne_102 (by decide) (fun c14 => ?_) (fun c14 => ?_)
      · replace hf := (if_pos c14).symm.trans hf
        refine r_lvs (lv' := [.ref l0, .int l1, .int l2, .null, .null, .null]) ⟨Or.inl rfl, Or.inl rfl, Or.inl rfl, Or.inr rfl, Or.inr rfl, Or.inl rfl, trivial⟩ ?_
        exact t_X12_strikeOne_128 k62 hk62 (f_X12_strikeOne_72 k62 n) ih _ _ _ _ _ hf
      · replace hf := (if_neg c14).symm.trans hf
        refine r_iload dX12_strikeOne_105 rfl ?_
        refine r_iload_n dX12_strikeOne_107 rfl ?_
        refine r_icmp_le (tgt := 128) dX12_strikeOne_108 (by decide) (fun c15 => ?_) (fun c15 => ?_)
        · replace hf := (if_pos c15).symm.trans hf
          refine r_lvs (lv' := [.ref l0, .int l1, .int l2, .null, .null, .null]) ⟨Or.inl rfl, Or.inl rfl, Or.inl rfl, Or.inr rfl, Or.inr rfl, Or.inl rfl, trivial⟩ ?_
          exact t_X12_strikeOne_128 k62 hk62 (f_X12_strikeOne_72 k62 n) ih _ _ _ _ _ hf
        · replace hf := (if_neg c15).symm.trans hf
          refine r_iload_n dX12_strikeOne_111 rfl ?_
          refine r_iload dX12_strikeOne_112 rfl ?_
          refine r_icmp_eq (tgt := 128) dX12_strikeOne_114 (by decide) (fun c16 => ?_) (fun c16 => ?_)
          · replace hf := (if_pos c16).symm.trans hf
            refine r_lvs (lv' := [.ref l0, .int l1, .int l2, .null, .null, .null]) ⟨Or.inl rfl, Or.inl rfl, Or.inl rfl, Or.inr rfl, Or.inr rfl, Or.inl rfl, trivial⟩ ?_
            exact t_X12_strikeOne_128 k62 hk62 (f_X12_strikeOne_72 k62 n) ih _ _ _ _ _ hf
          · replace hf := (if_neg c16).symm.trans hf
            refine r_aload_n dX12_strikeOne_117 rfl ?_
            refine r_iload_n dX12_strikeOne_118 rfl ?_
            refine r_iload_n dX12_strikeOne_119 rfl ?_
            refine r_iload dX12_strikeOne_120 rfl ?_
            obtain ⟨q17, h18, hf⟩ := bnd hf
            refine r_callVi (st := []) (as := [.int l1, .int x8, .int x12]) dX12_strikeOne_122 ms_X12_lessen ⟨rfl, w5_24, w5_26, w0_43⟩ (ok_X12_lessen h18) (c_X12_lessen h18) rfl ⟨by omega, by omega⟩ (Nat.le_of_ble_eq_true rfl) (by decide) (by decide) rfl ?_
            refine r_goto (tgt := 129) dX12_strikeOne_125 (by decide) ?_
            refine r_lvs (lv' := [.ref l0, .int l1, .int l2, .null, .null, .null]) ⟨Or.inl rfl, Or.inl rfl, Or.inl rfl, Or.inr rfl, Or.inr rfl, Or.inl rfl, trivial⟩ ?_
            exact t_X12_strikeOne_129 k62 hk62 (f_X12_strikeOne_72 k62 n) ih _ _ _ _ _ _ hf
set_option maxRecDepth 20000 in
theorem t_X12_strikeOne_62 {G : Gt} {l : Launch} : ∀ (n : Nat) (S : Mm) (l0 : Nat) (l1 : Int32) (T : (Int32 × Mm)), f_X12_strikeOne_62 n S l0 l1 = some T → Sat G l yX12_strikeOne cX12_strikeOne 6 (some .boolean) 2 0 0 0 0 62 [.ref l0, .int l1, .null, .null, .null, .null] [] S (eI T) := by
  intro n
  induction n with
  | zero =>
    intro S l0 l1 T hf
    rw [f_X12_strikeOne_62] at hf
    cases hf
  | succ n ih =>
    intro S l0 l1 T hf
    rw [f_X12_strikeOne_62] at hf
    refine r_iload_n dX12_strikeOne_62 rfl ?_
    refine r_aload_n dX12_strikeOne_63 rfl ?_
    obtain ⟨x1, h2, hf⟩ := bnd hf
    refine r_getI dX12_strikeOne_64 fs12_77_11 rfl h2 ?_
    refine r_icmp_ge (tgt := 163) dX12_strikeOne_67 (by decide) (fun c3 => ?_) (fun c3 => ?_)
    · replace hf := (if_pos c3).symm.trans hf
      refine r_iconst (v := 0) dX12_strikeOne_163 (by decide) ?_
      have hz := congrArg eI (Option.some.inj hf)
      exact r_zreturn (x' := 0) dX12_strikeOne_164 rfl (Nat.le_of_ble_eq_true rfl) (Nat.le_of_ble_eq_true rfl) rfl hz
    · replace hf := (if_neg c3).symm.trans hf
      refine r_iconst (v := 0) dX12_strikeOne_70 (by decide) ?_
      refine r_istore_n (lv' := [.ref l0, .int l1, .int 0, .null, .null, .null]) dX12_strikeOne_71 (by decide) rfl rfl ?_
      exact t_X12_strikeOne_72 (f_X12_strikeOne_62 n) ih FU _ _ _ _ _ hf
set_option maxRecDepth 20000 in
theorem t_X12_strikeOne_2 {G : Gt} {l : Launch} : ∀ (n : Nat) (S : Mm) (l0 : Nat) (l1 : Int32) (T : (Int32 × Mm)), f_X12_strikeOne_2 n S l0 l1 = some T → Sat G l yX12_strikeOne cX12_strikeOne 6 (some .boolean) 2 0 0 0 0 2 [.ref l0, .int l1, .null, .null, .null, .null] [] S (eI T) := by
  intro n
  induction n with
  | zero =>
    intro S l0 l1 T hf
    rw [f_X12_strikeOne_2] at hf
    cases hf
  | succ n ih =>
    intro S l0 l1 T hf
    rw [f_X12_strikeOne_2] at hf
    refine r_iload_n dX12_strikeOne_2 rfl ?_
    refine r_aload_n dX12_strikeOne_3 rfl ?_
    obtain ⟨x1, h2, hf⟩ := bnd hf
    refine r_getI dX12_strikeOne_4 fs12_77_11 rfl h2 ?_
    refine r_icmp_ge (tgt := 60) dX12_strikeOne_7 (by decide) (fun c3 => ?_) (fun c3 => ?_)
    · replace hf := (if_pos c3).symm.trans hf
      refine r_iconst (v := 0) dX12_strikeOne_60 (by decide) ?_
      refine r_istore_n (lv' := [.ref l0, .int 0, .null, .null, .null, .null]) dX12_strikeOne_61 (by decide) rfl rfl ?_
      exact t_X12_strikeOne_62 FU _ _ _ _ hf
    · replace hf := (if_neg c3).symm.trans hf
      refine r_iload_n dX12_strikeOne_10 rfl ?_
      refine r_iconst (v := 1) dX12_strikeOne_11 (by decide) ?_
      refine r_iadd dX12_strikeOne_12 ?_
      refine r_istore_n (lv' := [.ref l0, .int l1, .int (l1 + 1), .null, .null, .null]) dX12_strikeOne_13 (by decide) rfl rfl ?_
      exact t_X12_strikeOne_14 (f_X12_strikeOne_2 n) ih FU _ _ _ _ _ hf
set_option maxRecDepth 20000 in
theorem ok_X12_strikeOne {S : Mm} {l0 : Nat} {T : (Int32 × Mm)} (hf : f_X12_strikeOne S l0 = some T) : okc S l0 11 = true := (oif hf).1
set_option maxRecDepth 20000 in
theorem c_X12_strikeOne {G : Gt} {l : Launch} {S : Mm} {l0 : Nat} {T : (Int32 × Mm)} (hf : f_X12_strikeOne S l0 = some T) : CC G l yX12_strikeOne cX12_strikeOne 6 (some .boolean) 2 0 0 [.ref l0] S (eI T) := by
  unfold f_X12_strikeOne at hf
  replace hf := (oif hf).2
  refine r_body (by decide) rfl (Nat.le_of_ble_eq_true rfl) (by simp) ?_
  refine r_iconst (v := 0) dX12_strikeOne_0 (by decide) ?_
  refine r_istore_n (lv' := [.ref l0, .int 0, .null, .null, .null, .null]) dX12_strikeOne_1 (by decide) rfl rfl ?_
  exact t_X12_strikeOne_2 FU _ _ _ _ hf
def f_X12_strikeAll_7 : Nat → Mm → Nat → Int32 → Option (Int32 × Mm)
  | 0, _, _, _ => none
  | n + 1, S, l0, l1 => (f_X12_strikeOne S l0).bind fun q1 => (if q1.1 = 0 then some (l1, q1.2) else (f_X12_strikeAll_7 n) q1.2 l0 (l1 + 1))
def f_X12_strikeAll (S : Mm) (l0 : Nat) : Option (Int32 × Mm) := if okc S l0 11 = true then (pI S 11 l0 19 0).bind fun S1 => f_X12_strikeAll_7 FU S1 l0 0 else none
set_option maxRecDepth 20000 in
theorem t_X12_strikeAll_7 {G : Gt} {l : Launch} : ∀ (n : Nat) (S : Mm) (l0 : Nat) (l1 : Int32) (T : (Int32 × Mm)), f_X12_strikeAll_7 n S l0 l1 = some T → Sat G l yX12_strikeAll cX12_strikeAll 2 (some .int) 3 0 0 0 0 7 [.ref l0, .int l1] [] S (eI T) := by
  intro n
  induction n with
  | zero =>
    intro S l0 l1 T hf
    rw [f_X12_strikeAll_7] at hf
    cases hf
  | succ n ih =>
    intro S l0 l1 T hf
    rw [f_X12_strikeAll_7] at hf
    refine r_aload_n dX12_strikeAll_7 rfl ?_
    obtain ⟨q1, h2, hf⟩ := bnd hf
    refine r_callVi (st := []) (as := []) dX12_strikeAll_8 ms_X12_strikeOne ⟨rfl, w5_20, w5_22, w0_42⟩ (ok_X12_strikeOne h2) (c_X12_strikeOne h2) rfl ⟨by omega, by omega⟩ (Nat.le_of_ble_eq_true rfl) (by decide) (by decide) rfl ?_
    refine r_if_eq (tgt := 20) dX12_strikeAll_11 (by decide) (fun c3 => ?_) (fun c3 => ?_)
    · replace hf := (if_pos c3).symm.trans hf
      refine r_iload_n dX12_strikeAll_20 rfl ?_
      have hz := congrArg eI (Option.some.inj hf)
      exact r_ireturn dX12_strikeAll_21 rfl (Nat.le_of_ble_eq_true rfl) (Nat.le_of_ble_eq_true rfl) hz
    · replace hf := (if_neg c3).symm.trans hf
      refine r_iinc (v := 1) (lv' := [.ref l0, .int (l1 + 1)]) dX12_strikeAll_14 rfl (by decide) (by decide) rfl rfl ?_
      refine r_goto (tgt := 7) dX12_strikeAll_17 (by decide) ?_
      exact ih _ _ _ _ hf
set_option maxRecDepth 20000 in
theorem ok_X12_strikeAll {S : Mm} {l0 : Nat} {T : (Int32 × Mm)} (hf : f_X12_strikeAll S l0 = some T) : okc S l0 11 = true := (oif hf).1
set_option maxRecDepth 20000 in
theorem c_X12_strikeAll {G : Gt} {l : Launch} {S : Mm} {l0 : Nat} {T : (Int32 × Mm)} (hf : f_X12_strikeAll S l0 = some T) : CC G l yX12_strikeAll cX12_strikeAll 2 (some .int) 3 0 0 [.ref l0] S (eI T) := by
  unfold f_X12_strikeAll at hf
  replace hf := (oif hf).2
  refine r_body (by decide) rfl (Nat.le_of_ble_eq_true rfl) (by simp) ?_
  refine r_aload_n dX12_strikeAll_0 rfl ?_
  refine r_iconst (v := 0) dX12_strikeAll_1 (by decide) ?_
  obtain ⟨S1, h2, hf⟩ := bnd hf
  refine r_putI dX12_strikeAll_2 fs12_133_11 rfl h2 ?_
  refine r_iconst (v := 0) dX12_strikeAll_5 (by decide) ?_
  refine r_istore_n (lv' := [.ref l0, .int 0]) dX12_strikeAll_6 (by decide) rfl rfl ?_
  exact t_X12_strikeAll_7 FU _ _ _ _ hf
def f_X12_carry_17 (S : Mm) (l0 : Nat) : Option (Int32 × Mm) := (gI S 11 l0 23).bind fun x1 => (pI S 11 l0 23 (x1 + 1)).bind fun S3 => (gR S3 11 l0 25).bind fun x5 => (gI S3 11 l0 23).bind fun x7 => (aI S3 x5 (x7 - 1)).bind fun x9 => some (x9, S3)
def f_X12_carry (S : Mm) (l0 : Nat) (l1 : Int32) : Option (Int32 × Mm) := if okc S l0 11 = true then (gI S 11 l0 24).bind fun x1 => (if x1 = 0 then f_X12_carry_17 S l0 else (gR S 11 l0 25).bind fun x4 => (gI S 11 l0 23).bind fun x6 => (aS S x4 x6 l1).bind fun S8 => f_X12_carry_17 S8 l0) else none
set_option maxRecDepth 20000 in
theorem t_X12_carry_17 {G : Gt} {l : Launch} (S : Mm) (l0 : Nat) (T : (Int32 × Mm)) (hf : f_X12_carry_17 S l0 = some T) : Sat G l yX12_carry cX12_carry 2 (some .int) 0 0 0 0 0 17 [.ref l0, .null] [] S (eI T) := by
  unfold f_X12_carry_17 at hf
  refine r_aload_n dX12_carry_17 rfl ?_
  refine r_dup dX12_carry_18 rfl ?_
  obtain ⟨x1, h2, hf⟩ := bnd hf
  refine r_getI dX12_carry_19 fs12_147_11 rfl h2 ?_
  refine r_iconst (v := 1) dX12_carry_22 (by decide) ?_
  refine r_iadd dX12_carry_23 ?_
  obtain ⟨S3, h4, hf⟩ := bnd hf
  refine r_putI dX12_carry_24 fs12_147_11 rfl h4 ?_
  refine r_aload_n dX12_carry_27 rfl ?_
  obtain ⟨x5, h6, hf⟩ := bnd hf
  refine r_getR dX12_carry_28 fs12_144_11 rfl h6 ?_
  refine r_aload_n dX12_carry_31 rfl ?_
  obtain ⟨x7, h8, hf⟩ := bnd hf
  refine r_getI dX12_carry_32 fs12_147_11 rfl h8 ?_
  refine r_iconst (v := 1) dX12_carry_35 (by decide) ?_
  refine r_isub dX12_carry_36 ?_
  obtain ⟨x9, h10, hf⟩ := bnd hf
  refine r_iaload dX12_carry_37 h10 ?_
  have hz := congrArg eI (Option.some.inj hf)
  exact r_ireturn dX12_carry_38 rfl (Nat.le_of_ble_eq_true rfl) (Nat.le_of_ble_eq_true rfl) hz
set_option maxRecDepth 20000 in
theorem ok_X12_carry {S : Mm} {l0 : Nat} {l1 : Int32} {T : (Int32 × Mm)} (hf : f_X12_carry S l0 l1 = some T) : okc S l0 11 = true := (oif hf).1
set_option maxRecDepth 20000 in
theorem c_X12_carry {G : Gt} {l : Launch} {S : Mm} {l0 : Nat} {l1 : Int32} {T : (Int32 × Mm)} (hf : f_X12_carry S l0 l1 = some T) : CC G l yX12_carry cX12_carry 2 (some .int) 0 0 0 [.ref l0, .int l1] S (eI T) := by
  unfold f_X12_carry at hf
  replace hf := (oif hf).2
  refine r_body (by decide) rfl (Nat.le_of_ble_eq_true rfl) (by simp) ?_
  refine r_aload_n dX12_carry_0 rfl ?_
  obtain ⟨x1, h2, hf⟩ := bnd hf
  refine r_getI dX12_carry_1 fs12_140_11 rfl h2 ?_
  refine r_if_eq (tgt := 17) dX12_carry_4 (by decide) (fun c3 => ?_) (fun c3 => ?_)
  · replace hf := (if_pos c3).symm.trans hf
    refine r_lvs (lv' := [.ref l0, .null]) ⟨Or.inl rfl, Or.inr rfl, trivial⟩ ?_
    exact t_X12_carry_17 _ _ _ hf
  · replace hf := (if_neg c3).symm.trans hf
    refine r_aload_n dX12_carry_7 rfl ?_
    obtain ⟨x4, h5, hf⟩ := bnd hf
    refine r_getR dX12_carry_8 fs12_144_11 rfl h5 ?_
    refine r_aload_n dX12_carry_11 rfl ?_
    obtain ⟨x6, h7, hf⟩ := bnd hf
    refine r_getI dX12_carry_12 fs12_147_11 rfl h7 ?_
    refine r_iload_n dX12_carry_15 rfl ?_
    obtain ⟨S8, h9, hf⟩ := bnd hf
    refine r_iastore dX12_carry_16 h9 ?_
    refine r_lvs (lv' := [.ref l0, .null]) ⟨Or.inl rfl, Or.inr rfl, trivial⟩ ?_
    exact t_X12_carry_17 _ _ _ hf
def f_X12_carryAll_267 : Nat → Mm → Nat → Int32 → Option Mm
  | 0, _, _, _ => none
  | n + 1, S, l0, l3 => (if 3 ≤ l3 then some S else (gR S 11 l0 14).bind fun x2 => (gR S 11 l0 14).bind fun x4 => (aI S x4 l3).bind fun x6 => (f_X12_carry S l0 x6).bind fun q8 => (aS q8.2 x2 l3 q8.1).bind fun S10 => (f_X12_carryAll_267 n) S10 l0 (l3 + 1))
def f_X12_carryAll_237 : Nat → Mm → Nat → Int32 → Option Mm
  | 0, _, _, _ => none
  | n + 1, S, l0, l3 => (if 18 ≤ l3 then f_X12_carryAll_267 FU S l0 0 else (gR S 11 l0 12).bind fun x2 => (gR S 11 l0 12).bind fun x4 => (aI S x4 l3).bind fun x6 => (f_X12_carry S l0 x6).bind fun q8 => (aS q8.2 x2 l3 q8.1).bind fun S10 => (f_X12_carryAll_237 n) S10 l0 (l3 + 1))
def f_X12_carryAll_207 : Nat → Mm → Nat → Int32 → Option Mm
  | 0, _, _, _ => none
  | n + 1, S, l0, l3 => (if 36 ≤ l3 then f_X12_carryAll_237 FU S l0 0 else (gR S 11 l0 13).bind fun x2 => (gR S 11 l0 13).bind fun x4 => (aI S x4 l3).bind fun x6 => (f_X12_carry S l0 x6).bind fun q8 => (aS q8.2 x2 l3 q8.1).bind fun S10 => (f_X12_carryAll_207 n) S10 l0 (l3 + 1))
def f_X12_carryAll_65 : Nat → Mm → Nat → Int32 → Option Mm
  | 0, _, _, _ => none
  | n + 1, S, l0, l3 => (if 6 ≤ l3 then f_X12_carryAll_207 FU S l0 0 else (gR S 11 l0 4).bind fun x2 => (gR S 11 l0 4).bind fun x4 => (aI S x4 l3).bind fun x6 => (f_X12_carry S l0 x6).bind fun q8 => (aS q8.2 x2 l3 q8.1).bind fun S10 => (gR S10 11 l0 5).bind fun x12 => (gR S10 11 l0 5).bind fun x14 => (aI S10 x14 l3).bind fun x16 => (f_X12_carry S10 l0 x16).bind fun q18 => (aS q18.2 x12 l3 q18.1).bind fun S20 => (gR S20 11 l0 6).bind fun x22 => (gR S20 11 l0 6).bind fun x24 => (aI S20 x24 l3).bind fun x26 => (f_X12_carry S20 l0 x26).bind fun q28 => (aS q28.2 x22 l3 q28.1).bind fun S30 => (gR S30 11 l0 7).bind fun x32 => (gR S30 11 l0 7).bind fun x34 => (aI S30 x34 l3).bind fun x36 => (f_X12_carry S30 l0 x36).bind fun q38 => (aS q38.2 x32 l3 q38.1).bind fun S40 => (gR S40 11 l0 8).bind fun x42 => (gR S40 11 l0 8).bind fun x44 => (aI S40 x44 l3).bind fun x46 => (f_X12_carry S40 l0 x46).bind fun q48 => (aS q48.2 x42 l3 q48.1).bind fun S50 => (gR S50 11 l0 9).bind fun x52 => (gR S50 11 l0 9).bind fun x54 => (aI S50 x54 l3).bind fun x56 => (f_X12_carry S50 l0 x56).bind fun q58 => (aS q58.2 x52 l3 q58.1).bind fun S60 => (gR S60 11 l0 10).bind fun x62 => (gR S60 11 l0 10).bind fun x64 => (aI S60 x64 l3).bind fun x66 => (f_X12_carry S60 l0 x66).bind fun q68 => (aS q68.2 x62 l3 q68.1).bind fun S70 => (gR S70 11 l0 11).bind fun x72 => (gR S70 11 l0 11).bind fun x74 => (aI S70 x74 l3).bind fun x76 => (f_X12_carry S70 l0 x76).bind fun q78 => (aS q78.2 x72 l3 q78.1).bind fun S80 => (f_X12_carryAll_65 n) S80 l0 (l3 + 1))
def f_X12_carryAll (S : Mm) (l0 : Nat) (l1 : Nat) (l2 : Int32) : Option Mm := if okc S l0 11 = true then (pR S 11 l0 25 l1).bind fun S1 => (pB S1 11 l0 24 l2).bind fun S3 => (pI S3 11 l0 23 0).bind fun S5 => (gI S5 11 l0 0).bind fun x7 => (f_X12_carry S5 l0 x7).bind fun q9 => (pI q9.2 11 l0 0 q9.1).bind fun S11 => (gI S11 11 l0 1).bind fun x13 => (f_X12_carry S11 l0 x13).bind fun q15 => (pI q15.2 11 l0 1 q15.1).bind fun S17 => (gI S17 11 l0 2).bind fun x19 => (f_X12_carry S17 l0 x19).bind fun q21 => (pI q21.2 11 l0 2 q21.1).bind fun S23 => (gI S23 11 l0 3).bind fun x25 => (f_X12_carry S23 l0 x25).bind fun q27 => (pI q27.2 11 l0 3 q27.1).bind fun S29 => f_X12_carryAll_65 FU S29 l0 0 else none
set_option maxRecDepth 20000 in
theorem t_X12_carryAll_267 {G : Gt} {l : Launch} : ∀ (n : Nat) (S : Mm) (l0 : Nat) (l3 : Int32) (T : Mm), f_X12_carryAll_267 n S l0 l3 = some T → Sat G l yX12_carryAll cX12_carryAll 4 none 1 0 0 0 0 267 [.ref l0, .null, .null, .int l3] [] S (eV T) := by
  intro n
  induction n with
  | zero =>
    intro S l0 l3 T hf
    rw [f_X12_carryAll_267] at hf
    cases hf
  | succ n ih =>
    intro S l0 l3 T hf
    rw [f_X12_carryAll_267] at hf
    refine r_iload_n dX12_carryAll_267 rfl ?_
    refine r_iconst (v := 3) dX12_carryAll_268 (by decide) ?_
    refine r_icmp_ge (tgt := 294) dX12_carryAll_269 (by decide) (fun c1 => ?_) (fun c1 => ?_)
    · replace hf := (if_pos c1).symm.trans hf
      have hz := congrArg eV (Option.some.inj hf)
      exact r_return dX12_carryAll_294 rfl (Nat.le_of_ble_eq_true rfl) (Nat.le_of_ble_eq_true rfl) hz
    · replace hf := (if_neg c1).symm.trans hf
      refine r_aload_n dX12_carryAll_272 rfl ?_
      obtain ⟨x2, h3, hf⟩ := bnd hf
      refine r_getR dX12_carryAll_273 fs12_40_11 rfl h3 ?_
      refine r_iload_n dX12_carryAll_276 rfl ?_
      refine r_aload_n dX12_carryAll_277 rfl ?_
      refine r_aload_n dX12_carryAll_278 rfl ?_
      obtain ⟨x4, h5, hf⟩ := bnd hf
      refine r_getR dX12_carryAll_279 fs12_40_11 rfl h5 ?_
      refine r_iload_n dX12_carryAll_282 rfl ?_
      obtain ⟨x6, h7, hf⟩ := bnd hf
      refine r_iaload dX12_carryAll_283 h7 ?_
      obtain ⟨q8, h9, hf⟩ := bnd hf
      refine r_callVi (st := [.int l3, .ref x2]) (as := [.int x6]) dX12_carryAll_284 ms_X12_carry ⟨rfl, w4_111, w4_113, w0_20⟩ (ok_X12_carry h9) (c_X12_carry h9) rfl ⟨by omega, by omega⟩ (Nat.le_of_ble_eq_true rfl) (by decide) (by decide) rfl ?_
      obtain ⟨S10, h11, hf⟩ := bnd hf
      refine r_iastore dX12_carryAll_287 h11 ?_
      refine r_iinc (v := 1) (lv' := [.ref l0, .null, .null, .int (l3 + 1)]) dX12_carryAll_288 rfl (by decide) (by decide) rfl rfl ?_
      refine r_goto (tgt := 267) dX12_carryAll_291 (by decide) ?_
      exact ih _ _ _ _ hf
set_option maxRecDepth 20000 in
theorem t_X12_carryAll_237 {G : Gt} {l : Launch} : ∀ (n : Nat) (S : Mm) (l0 : Nat) (l3 : Int32) (T : Mm), f_X12_carryAll_237 n S l0 l3 = some T → Sat G l yX12_carryAll cX12_carryAll 4 none 1 0 0 0 0 237 [.ref l0, .null, .null, .int l3] [] S (eV T) := by
  intro n
  induction n with
  | zero =>
    intro S l0 l3 T hf
    rw [f_X12_carryAll_237] at hf
    cases hf
  | succ n ih =>
    intro S l0 l3 T hf
    rw [f_X12_carryAll_237] at hf
    refine r_iload_n dX12_carryAll_237 rfl ?_
    refine r_bipush (v := 18) dX12_carryAll_238 (by decide) ?_
    refine r_icmp_ge (tgt := 265) dX12_carryAll_240 (by decide) (fun c1 => ?_) (fun c1 => ?_)
    · replace hf := (if_pos c1).symm.trans hf
      refine r_iconst (v := 0) dX12_carryAll_265 (by decide) ?_
      refine r_istore_n (lv' := [.ref l0, .null, .null, .int 0]) dX12_carryAll_266 (by decide) rfl rfl ?_
      exact t_X12_carryAll_267 FU _ _ _ _ hf
    · replace hf := (if_neg c1).symm.trans hf
      refine r_aload_n dX12_carryAll_243 rfl ?_
      obtain ⟨x2, h3, hf⟩ := bnd hf
      refine r_getR dX12_carryAll_244 fs12_34_11 rfl h3 ?_
      refine r_iload_n dX12_carryAll_247 rfl ?_
      refine r_aload_n dX12_carryAll_248 rfl ?_
      refine r_aload_n dX12_carryAll_249 rfl ?_
      obtain ⟨x4, h5, hf⟩ := bnd hf
      refine r_getR dX12_carryAll_250 fs12_34_11 rfl h5 ?_
      refine r_iload_n dX12_carryAll_253 rfl ?_
      obtain ⟨x6, h7, hf⟩ := bnd hf
      refine r_iaload dX12_carryAll_254 h7 ?_
      obtain ⟨q8, h9, hf⟩ := bnd hf
      refine r_callVi (st := [.int l3, .ref x2]) (as := [.int x6]) dX12_carryAll_255 ms_X12_carry ⟨rfl, w4_111, w4_113, w0_20⟩ (ok_X12_carry h9) (c_X12_carry h9) rfl ⟨by omega, by omega⟩ (Nat.le_of_ble_eq_true rfl) (by decide) (by decide) rfl ?_
      obtain ⟨S10, h11, hf⟩ := bnd hf
      refine r_iastore dX12_carryAll_258 h11 ?_
      refine r_iinc (v := 1) (lv' := [.ref l0, .null, .null, .int (l3 + 1)]) dX12_carryAll_259 rfl (by decide) (by decide) rfl rfl ?_
      refine r_goto (tgt := 237) dX12_carryAll_262 (by decide) ?_
      exact ih _ _ _ _ hf
set_option maxRecDepth 20000 in
theorem t_X12_carryAll_207 {G : Gt} {l : Launch} : ∀ (n : Nat) (S : Mm) (l0 : Nat) (l3 : Int32) (T : Mm), f_X12_carryAll_207 n S l0 l3 = some T → Sat G l yX12_carryAll cX12_carryAll 4 none 1 0 0 0 0 207 [.ref l0, .null, .null, .int l3] [] S (eV T) := by
  intro n
  induction n with
  | zero =>
    intro S l0 l3 T hf
    rw [f_X12_carryAll_207] at hf
    cases hf
  | succ n ih =>
    intro S l0 l3 T hf
    rw [f_X12_carryAll_207] at hf
    refine r_iload_n dX12_carryAll_207 rfl ?_
    refine r_bipush (v := 36) dX12_carryAll_208 (by decide) ?_
    refine r_icmp_ge (tgt := 235) dX12_carryAll_210 (by decide) (fun c1 => ?_) (fun c1 => ?_)
    · replace hf := (if_pos c1).symm.trans hf
      refine r_iconst (v := 0) dX12_carryAll_235 (by decide) ?_
      refine r_istore_n (lv' := [.ref l0, .null, .null, .int 0]) dX12_carryAll_236 (by decide) rfl rfl ?_
      exact t_X12_carryAll_237 FU _ _ _ _ hf
    · replace hf := (if_neg c1).symm.trans hf
      refine r_aload_n dX12_carryAll_213 rfl ?_
      obtain ⟨x2, h3, hf⟩ := bnd hf
      refine r_getR dX12_carryAll_214 fs12_37_11 rfl h3 ?_
      refine r_iload_n dX12_carryAll_217 rfl ?_
      refine r_aload_n dX12_carryAll_218 rfl ?_
      refine r_aload_n dX12_carryAll_219 rfl ?_
      obtain ⟨x4, h5, hf⟩ := bnd hf
      refine r_getR dX12_carryAll_220 fs12_37_11 rfl h5 ?_
      refine r_iload_n dX12_carryAll_223 rfl ?_
      obtain ⟨x6, h7, hf⟩ := bnd hf
      refine r_iaload dX12_carryAll_224 h7 ?_
      obtain ⟨q8, h9, hf⟩ := bnd hf
      refine r_callVi (st := [.int l3, .ref x2]) (as := [.int x6]) dX12_carryAll_225 ms_X12_carry ⟨rfl, w4_111, w4_113, w0_20⟩ (ok_X12_carry h9) (c_X12_carry h9) rfl ⟨by omega, by omega⟩ (Nat.le_of_ble_eq_true rfl) (by decide) (by decide) rfl ?_
      obtain ⟨S10, h11, hf⟩ := bnd hf
      refine r_iastore dX12_carryAll_228 h11 ?_
      refine r_iinc (v := 1) (lv' := [.ref l0, .null, .null, .int (l3 + 1)]) dX12_carryAll_229 rfl (by decide) (by decide) rfl rfl ?_
      refine r_goto (tgt := 207) dX12_carryAll_232 (by decide) ?_
      exact ih _ _ _ _ hf
set_option maxRecDepth 20000 in
theorem t_X12_carryAll_65 {G : Gt} {l : Launch} : ∀ (n : Nat) (S : Mm) (l0 : Nat) (l3 : Int32) (T : Mm), f_X12_carryAll_65 n S l0 l3 = some T → Sat G l yX12_carryAll cX12_carryAll 4 none 1 0 0 0 0 65 [.ref l0, .null, .null, .int l3] [] S (eV T) := by
  intro n
  induction n with
  | zero =>
    intro S l0 l3 T hf
    rw [f_X12_carryAll_65] at hf
    cases hf
  | succ n ih =>
    intro S l0 l3 T hf
    rw [f_X12_carryAll_65] at hf
    refine r_iload_n dX12_carryAll_65 rfl ?_
    refine r_bipush (v := 6) dX12_carryAll_66 (by decide) ?_
    refine r_icmp_ge (tgt := 205) dX12_carryAll_68 (by decide) (fun c1 => ?_) (fun c1 => ?_)
    · replace hf := (if_pos c1).symm.trans hf
      refine r_iconst (v := 0) dX12_carryAll_205 (by decide) ?_
      refine r_istore_n (lv' := [.ref l0, .null, .null, .int 0]) dX12_carryAll_206 (by decide) rfl rfl ?_
      exact t_X12_carryAll_207 FU _ _ _ _ hf
    · replace hf := (if_neg c1).symm.trans hf
      refine r_aload_n dX12_carryAll_71 rfl ?_
      obtain ⟨x2, h3, hf⟩ := bnd hf
      refine r_getR dX12_carryAll_72 fs12_7_11 rfl h3 ?_
      refine r_iload_n dX12_carryAll_75 rfl ?_
      refine r_aload_n dX12_carryAll_76 rfl ?_
      refine r_aload_n dX12_carryAll_77 rfl ?_
      obtain ⟨x4, h5, hf⟩ := bnd hf
      refine r_getR dX12_carryAll_78 fs12_7_11 rfl h5 ?_
      refine r_iload_n dX12_carryAll_81 rfl ?_
      obtain ⟨x6, h7, hf⟩ := bnd hf
      refine r_iaload dX12_carryAll_82 h7 ?_
      obtain ⟨q8, h9, hf⟩ := bnd hf
      refine r_callVi (st := [.int l3, .ref x2]) (as := [.int x6]) dX12_carryAll_83 ms_X12_carry ⟨rfl, w4_111, w4_113, w0_20⟩ (ok_X12_carry h9) (c_X12_carry h9) rfl ⟨by omega, by omega⟩ (Nat.le_of_ble_eq_true rfl) (by decide) (by decide) rfl ?_
      obtain ⟨S10, h11, hf⟩ := bnd hf
      refine r_iastore dX12_carryAll_86 h11 ?_
      refine r_aload_n dX12_carryAll_87 rfl ?_
      obtain ⟨x12, h13, hf⟩ := bnd hf
      refine r_getR dX12_carryAll_88 fs12_13_11 rfl h13 ?_
      refine r_iload_n dX12_carryAll_91 rfl ?_
      refine r_aload_n dX12_carryAll_92 rfl ?_
      refine r_aload_n dX12_carryAll_93 rfl ?_
      obtain ⟨x14, h15, hf⟩ := bnd hf
      refine r_getR dX12_carryAll_94 fs12_13_11 rfl h15 ?_
      refine r_iload_n dX12_carryAll_97 rfl ?_
      obtain ⟨x16, h17, hf⟩ := bnd hf
      refine r_iaload dX12_carryAll_98 h17 ?_
      obtain ⟨q18, h19, hf⟩ := bnd hf
      refine r_callVi (st := [.int l3, .ref x12]) (as := [.int x16]) dX12_carryAll_99 ms_X12_carry ⟨rfl, w4_111, w4_113, w0_20⟩ (ok_X12_carry h19) (c_X12_carry h19) rfl ⟨by omega, by omega⟩ (Nat.le_of_ble_eq_true rfl) (by decide) (by decide) rfl ?_
      obtain ⟨S20, h21, hf⟩ := bnd hf
      refine r_iastore dX12_carryAll_102 h21 ?_
      refine r_aload_n dX12_carryAll_103 rfl ?_
      obtain ⟨x22, h23, hf⟩ := bnd hf
      refine r_getR dX12_carryAll_104 fs12_16_11 rfl h23 ?_
      refine r_iload_n dX12_carryAll_107 rfl ?_
      refine r_aload_n dX12_carryAll_108 rfl ?_
      refine r_aload_n dX12_carryAll_109 rfl ?_
      obtain ⟨x24, h25, hf⟩ := bnd hf
      refine r_getR dX12_carryAll_110 fs12_16_11 rfl h25 ?_
      refine r_iload_n dX12_carryAll_113 rfl ?_
      obtain ⟨x26, h27, hf⟩ := bnd hf
      refine r_iaload dX12_carryAll_114 h27 ?_
      obtain ⟨q28, h29, hf⟩ := bnd hf
      refine r_callVi (st := [.int l3, .ref x22]) (as := [.int x26]) dX12_carryAll_115 ms_X12_carry ⟨rfl, w4_111, w4_113, w0_20⟩ (ok_X12_carry h29) (c_X12_carry h29) rfl ⟨by omega, by omega⟩ (Nat.le_of_ble_eq_true rfl) (by decide) (by decide) rfl ?_
      obtain ⟨S30, h31, hf⟩ := bnd hf
      refine r_iastore dX12_carryAll_118 h31 ?_
      refine r_aload_n dX12_carryAll_119 rfl ?_
      obtain ⟨x32, h33, hf⟩ := bnd hf
      refine r_getR dX12_carryAll_120 fs12_19_11 rfl h33 ?_
      refine r_iload_n dX12_carryAll_123 rfl ?_
      refine r_aload_n dX12_carryAll_124 rfl ?_
      refine r_aload_n dX12_carryAll_125 rfl ?_
      obtain ⟨x34, h35, hf⟩ := bnd hf
      refine r_getR dX12_carryAll_126 fs12_19_11 rfl h35 ?_
      refine r_iload_n dX12_carryAll_129 rfl ?_
      obtain ⟨x36, h37, hf⟩ := bnd hf
      refine r_iaload dX12_carryAll_130 h37 ?_
      obtain ⟨q38, h39, hf⟩ := bnd hf
      refine r_callVi (st := [.int l3, .ref x32]) (as := [.int x36]) dX12_carryAll_131 ms_X12_carry ⟨rfl, w4_111, w4_113, w0_20⟩ (ok_X12_carry h39) (c_X12_carry h39) rfl ⟨by omega, by omega⟩ (Nat.le_of_ble_eq_true rfl) (by decide) (by decide) rfl ?_
      obtain ⟨S40, h41, hf⟩ := bnd hf
      refine r_iastore dX12_carryAll_134 h41 ?_
      refine r_aload_n dX12_carryAll_135 rfl ?_
      obtain ⟨x42, h43, hf⟩ := bnd hf
      refine r_getR dX12_carryAll_136 fs12_22_11 rfl h43 ?_
      refine r_iload_n dX12_carryAll_139 rfl ?_
      refine r_aload_n dX12_carryAll_140 rfl ?_
      refine r_aload_n dX12_carryAll_141 rfl ?_
      obtain ⟨x44, h45, hf⟩ := bnd hf
      refine r_getR dX12_carryAll_142 fs12_22_11 rfl h45 ?_
      refine r_iload_n dX12_carryAll_145 rfl ?_
      obtain ⟨x46, h47, hf⟩ := bnd hf
      refine r_iaload dX12_carryAll_146 h47 ?_
      obtain ⟨q48, h49, hf⟩ := bnd hf
      refine r_callVi (st := [.int l3, .ref x42]) (as := [.int x46]) dX12_carryAll_147 ms_X12_carry ⟨rfl, w4_111, w4_113, w0_20⟩ (ok_X12_carry h49) (c_X12_carry h49) rfl ⟨by omega, by omega⟩ (Nat.le_of_ble_eq_true rfl) (by decide) (by decide) rfl ?_
      obtain ⟨S50, h51, hf⟩ := bnd hf
      refine r_iastore dX12_carryAll_150 h51 ?_
      refine r_aload_n dX12_carryAll_151 rfl ?_
      obtain ⟨x52, h53, hf⟩ := bnd hf
      refine r_getR dX12_carryAll_152 fs12_25_11 rfl h53 ?_
      refine r_iload_n dX12_carryAll_155 rfl ?_
      refine r_aload_n dX12_carryAll_156 rfl ?_
      refine r_aload_n dX12_carryAll_157 rfl ?_
      obtain ⟨x54, h55, hf⟩ := bnd hf
      refine r_getR dX12_carryAll_158 fs12_25_11 rfl h55 ?_
      refine r_iload_n dX12_carryAll_161 rfl ?_
      obtain ⟨x56, h57, hf⟩ := bnd hf
      refine r_iaload dX12_carryAll_162 h57 ?_
      obtain ⟨q58, h59, hf⟩ := bnd hf
      refine r_callVi (st := [.int l3, .ref x52]) (as := [.int x56]) dX12_carryAll_163 ms_X12_carry ⟨rfl, w4_111, w4_113, w0_20⟩ (ok_X12_carry h59) (c_X12_carry h59) rfl ⟨by omega, by omega⟩ (Nat.le_of_ble_eq_true rfl) (by decide) (by decide) rfl ?_
      obtain ⟨S60, h61, hf⟩ := bnd hf
      refine r_iastore dX12_carryAll_166 h61 ?_
      refine r_aload_n dX12_carryAll_167 rfl ?_
      obtain ⟨x62, h63, hf⟩ := bnd hf
      refine r_getR dX12_carryAll_168 fs12_28_11 rfl h63 ?_
      refine r_iload_n dX12_carryAll_171 rfl ?_
      refine r_aload_n dX12_carryAll_172 rfl ?_
      refine r_aload_n dX12_carryAll_173 rfl ?_
      obtain ⟨x64, h65, hf⟩ := bnd hf
      refine r_getR dX12_carryAll_174 fs12_28_11 rfl h65 ?_
      refine r_iload_n dX12_carryAll_177 rfl ?_
      obtain ⟨x66, h67, hf⟩ := bnd hf
      refine r_iaload dX12_carryAll_178 h67 ?_
      obtain ⟨q68, h69, hf⟩ := bnd hf
      refine r_callVi (st := [.int l3, .ref x62]) (as := [.int x66]) dX12_carryAll_179 ms_X12_carry ⟨rfl, w4_111, w4_113, w0_20⟩ (ok_X12_carry h69) (c_X12_carry h69) rfl ⟨by omega, by omega⟩ (Nat.le_of_ble_eq_true rfl) (by decide) (by decide) rfl ?_
      obtain ⟨S70, h71, hf⟩ := bnd hf
      refine r_iastore dX12_carryAll_182 h71 ?_
      refine r_aload_n dX12_carryAll_183 rfl ?_
      obtain ⟨x72, h73, hf⟩ := bnd hf
      refine r_getR dX12_carryAll_184 fs12_31_11 rfl h73 ?_
      refine r_iload_n dX12_carryAll_187 rfl ?_
      refine r_aload_n dX12_carryAll_188 rfl ?_
      refine r_aload_n dX12_carryAll_189 rfl ?_
      obtain ⟨x74, h75, hf⟩ := bnd hf
      refine r_getR dX12_carryAll_190 fs12_31_11 rfl h75 ?_
      refine r_iload_n dX12_carryAll_193 rfl ?_
      obtain ⟨x76, h77, hf⟩ := bnd hf
      refine r_iaload dX12_carryAll_194 h77 ?_
      obtain ⟨q78, h79, hf⟩ := bnd hf
      refine r_callVi (st := [.int l3, .ref x72]) (as := [.int x76]) dX12_carryAll_195 ms_X12_carry ⟨rfl, w4_111, w4_113, w0_20⟩ (ok_X12_carry h79) (c_X12_carry h79) rfl ⟨by omega, by omega⟩ (Nat.le_of_ble_eq_true rfl) (by decide) (by decide) rfl ?_
      obtain ⟨S80, h81, hf⟩ := bnd hf
      refine r_iastore dX12_carryAll_198 h81 ?_
      refine r_iinc (v := 1) (lv' := [.ref l0, .null, .null, .int (l3 + 1)]) dX12_carryAll_199 rfl (by decide) (by decide) rfl rfl ?_
      refine r_goto (tgt := 65) dX12_carryAll_202 (by decide) ?_
      exact ih _ _ _ _ hf
set_option maxRecDepth 20000 in
theorem ok_X12_carryAll {S : Mm} {l0 : Nat} {l1 : Nat} {l2 : Int32} {T : Mm} (hf : f_X12_carryAll S l0 l1 l2 = some T) : okc S l0 11 = true := (oif hf).1
set_option maxRecDepth 20000 in
theorem c_X12_carryAll {G : Gt} {l : Launch} {S : Mm} {l0 : Nat} {l1 : Nat} {l2 : Int32} {T : Mm} (hf : f_X12_carryAll S l0 l1 l2 = some T) : CC G l yX12_carryAll cX12_carryAll 4 none 1 0 0 [.ref l0, .ref l1, .int l2] S (eV T) := by
  unfold f_X12_carryAll at hf
  replace hf := (oif hf).2
  refine r_body (by decide) rfl (Nat.le_of_ble_eq_true rfl) (by simp) ?_
  refine r_aload_n dX12_carryAll_0 rfl ?_
  refine r_aload_n dX12_carryAll_1 rfl ?_
  obtain ⟨S1, h2, hf⟩ := bnd hf
  refine r_putR dX12_carryAll_2 fs12_144_11 rfl (fun _ => rfl) (fun _ => rfl) h2 ?_
  refine r_aload_n dX12_carryAll_5 rfl ?_
  refine r_iload_n dX12_carryAll_6 rfl ?_
  obtain ⟨S3, h4, hf⟩ := bnd hf
  refine r_putB dX12_carryAll_7 fs12_140_11 rfl h4 ?_
  refine r_aload_n dX12_carryAll_10 rfl ?_
  refine r_iconst (v := 0) dX12_carryAll_11 (by decide) ?_
  obtain ⟨S5, h6, hf⟩ := bnd hf
  refine r_putI dX12_carryAll_12 fs12_147_11 rfl h6 ?_
  refine r_aload_n dX12_carryAll_15 rfl ?_
  refine r_aload_n dX12_carryAll_16 rfl ?_
  refine r_aload_n dX12_carryAll_17 rfl ?_
  obtain ⟨x7, h8, hf⟩ := bnd hf
  refine r_getI dX12_carryAll_18 fs12_77_11 rfl h8 ?_
  obtain ⟨q9, h10, hf⟩ := bnd hf
  refine r_callVi (st := [.ref l0]) (as := [.int x7]) dX12_carryAll_21 ms_X12_carry ⟨rfl, w4_111, w4_113, w0_20⟩ (ok_X12_carry h10) (c_X12_carry h10) rfl ⟨by omega, by omega⟩ (Nat.le_of_ble_eq_true rfl) (by decide) (by decide) rfl ?_
  obtain ⟨S11, h12, hf⟩ := bnd hf
  refine r_putI dX12_carryAll_24 fs12_77_11 rfl h12 ?_
  refine r_aload_n dX12_carryAll_27 rfl ?_
  refine r_aload_n dX12_carryAll_28 rfl ?_
  refine r_aload_n dX12_carryAll_29 rfl ?_
  obtain ⟨x13, h14, hf⟩ := bnd hf
  refine r_getI dX12_carryAll_30 fs12_97_11 rfl h14 ?_
  obtain ⟨q15, h16, hf⟩ := bnd hf
  refine r_callVi (st := [.ref l0]) (as := [.int x13]) dX12_carryAll_33 ms_X12_carry ⟨rfl, w4_111, w4_113, w0_20⟩ (ok_X12_carry h16) (c_X12_carry h16) rfl ⟨by omega, by omega⟩ (Nat.le_of_ble_eq_true rfl) (by decide) (by decide) rfl ?_
  obtain ⟨S17, h18, hf⟩ := bnd hf
  refine r_putI dX12_carryAll_36 fs12_97_11 rfl h18 ?_
  refine r_aload_n dX12_carryAll_39 rfl ?_
  refine r_aload_n dX12_carryAll_40 rfl ?_
  refine r_aload_n dX12_carryAll_41 rfl ?_
  obtain ⟨x19, h20, hf⟩ := bnd hf
  refine r_getI dX12_carryAll_42 fs12_122_11 rfl h20 ?_
  obtain ⟨q21, h22, hf⟩ := bnd hf
  refine r_callVi (st := [.ref l0]) (as := [.int x19]) dX12_carryAll_45 ms_X12_carry ⟨rfl, w4_111, w4_113, w0_20⟩ (ok_X12_carry h22) (c_X12_carry h22) rfl ⟨by omega, by omega⟩ (Nat.le_of_ble_eq_true rfl) (by decide) (by decide) rfl ?_
  obtain ⟨S23, h24, hf⟩ := bnd hf
  refine r_putI dX12_carryAll_48 fs12_122_11 rfl h24 ?_
  refine r_aload_n dX12_carryAll_51 rfl ?_
  refine r_aload_n dX12_carryAll_52 rfl ?_
  refine r_aload_n dX12_carryAll_53 rfl ?_
  obtain ⟨x25, h26, hf⟩ := bnd hf
  refine r_getI dX12_carryAll_54 fs12_153_11 rfl h26 ?_
  obtain ⟨q27, h28, hf⟩ := bnd hf
  refine r_callVi (st := [.ref l0]) (as := [.int x25]) dX12_carryAll_57 ms_X12_carry ⟨rfl, w4_111, w4_113, w0_20⟩ (ok_X12_carry h28) (c_X12_carry h28) rfl ⟨by omega, by omega⟩ (Nat.le_of_ble_eq_true rfl) (by decide) (by decide) rfl ?_
  obtain ⟨S29, h30, hf⟩ := bnd hf
  refine r_putI dX12_carryAll_60 fs12_153_11 rfl h30 ?_
  refine r_iconst (v := 0) dX12_carryAll_63 (by decide) ?_
  refine r_istore_n (lv' := [.ref l0, .ref l1, .int l2, .int 0]) dX12_carryAll_64 (by decide) rfl rfl ?_
  refine r_lvs (lv' := [.ref l0, .null, .null, .int 0]) ⟨Or.inl rfl, Or.inr rfl, Or.inr rfl, Or.inl rfl, trivial⟩ ?_
  exact t_X12_carryAll_65 FU _ _ _ _ hf
def f_X12_open_11 : Nat → Mm → Nat → Int32 → Option Mm
  | 0, _, _, _ => none
  | n + 1, S, l0, l1 => (if 6 ≤ l1 then some S else (gR S 11 l0 18).bind fun x2 => (aS S x2 l1 0).bind fun S4 => (f_X12_open_11 n) S4 l0 (l1 + 1))
def f_X12_open (S : Mm) (l0 : Nat) : Option Mm := if okc S l0 11 = true then (gR S 11 l0 20).bind fun x1 => (f_X12_carryAll S l0 x1 1).bind fun q3 => f_X12_open_11 FU q3 l0 0 else none
set_option maxRecDepth 20000 in
theorem t_X12_open_11 {G : Gt} {l : Launch} : ∀ (n : Nat) (S : Mm) (l0 : Nat) (l1 : Int32) (T : Mm), f_X12_open_11 n S l0 l1 = some T → Sat G l yX12_open cX12_open 2 none 2 0 0 0 0 11 [.ref l0, .int l1] [] S (eV T) := by
  intro n
  induction n with
  | zero =>
    intro S l0 l1 T hf
    rw [f_X12_open_11] at hf
    cases hf
  | succ n ih =>
    intro S l0 l1 T hf
    rw [f_X12_open_11] at hf
    refine r_iload_n dX12_open_11 rfl ?_
    refine r_bipush (v := 6) dX12_open_12 (by decide) ?_
    refine r_icmp_ge (tgt := 30) dX12_open_14 (by decide) (fun c1 => ?_) (fun c1 => ?_)
    · replace hf := (if_pos c1).symm.trans hf
      have hz := congrArg eV (Option.some.inj hf)
      exact r_return dX12_open_30 rfl (Nat.le_of_ble_eq_true rfl) (Nat.le_of_ble_eq_true rfl) hz
    · replace hf := (if_neg c1).symm.trans hf
      refine r_aload_n dX12_open_17 rfl ?_
      obtain ⟨x2, h3, hf⟩ := bnd hf
      refine r_getR dX12_open_18 fs12_46_11 rfl h3 ?_
      refine r_iload_n dX12_open_21 rfl ?_
      refine r_iconst (v := 0) dX12_open_22 (by decide) ?_
      obtain ⟨S4, h5, hf⟩ := bnd hf
      refine r_iastore dX12_open_23 h5 ?_
      refine r_iinc (v := 1) (lv' := [.ref l0, .int (l1 + 1)]) dX12_open_24 rfl (by decide) (by decide) rfl rfl ?_
      refine r_goto (tgt := 11) dX12_open_27 (by decide) ?_
      exact ih _ _ _ _ hf
set_option maxRecDepth 20000 in
theorem ok_X12_open {S : Mm} {l0 : Nat} {T : Mm} (hf : f_X12_open S l0 = some T) : okc S l0 11 = true := (oif hf).1
set_option maxRecDepth 20000 in
theorem c_X12_open {G : Gt} {l : Launch} {S : Mm} {l0 : Nat} {T : Mm} (hf : f_X12_open S l0 = some T) : CC G l yX12_open cX12_open 2 none 2 0 0 [.ref l0] S (eV T) := by
  unfold f_X12_open at hf
  replace hf := (oif hf).2
  refine r_body (by decide) rfl (Nat.le_of_ble_eq_true rfl) (by simp) ?_
  refine r_aload_n dX12_open_0 rfl ?_
  refine r_aload_n dX12_open_1 rfl ?_
  obtain ⟨x1, h2, hf⟩ := bnd hf
  refine r_getR dX12_open_2 fs12_49_11 rfl h2 ?_
  refine r_iconst (v := 1) dX12_open_5 (by decide) ?_
  obtain ⟨q3, h4, hf⟩ := bnd hf
  refine r_callVv (st := []) (as := [.ref x1, .int 1]) dX12_open_6 ms_X12_carryAll ⟨rfl, w4_107, w4_109, w0_19⟩ (ok_X12_carryAll h4) (c_X12_carryAll h4) rfl ⟨by omega, by omega⟩ (Nat.le_of_ble_eq_true rfl) (by decide) (by decide) rfl ?_
  refine r_iconst (v := 0) dX12_open_9 (by decide) ?_
  refine r_istore_n (lv' := [.ref l0, .int 0]) dX12_open_10 (by decide) rfl rfl ?_
  exact t_X12_open_11 FU _ _ _ _ hf
def f_X12_close (S : Mm) (l0 : Nat) : Option Mm := if okc S l0 11 = true then (gR S 11 l0 20).bind fun x1 => (f_X12_carryAll S l0 x1 0).bind fun q3 => some q3 else none
set_option maxRecDepth 20000 in
theorem ok_X12_close {S : Mm} {l0 : Nat} {T : Mm} (hf : f_X12_close S l0 = some T) : okc S l0 11 = true := (oif hf).1
set_option maxRecDepth 20000 in
theorem c_X12_close {G : Gt} {l : Launch} {S : Mm} {l0 : Nat} {T : Mm} (hf : f_X12_close S l0 = some T) : CC G l yX12_close cX12_close 1 none 2 0 0 [.ref l0] S (eV T) := by
  unfold f_X12_close at hf
  replace hf := (oif hf).2
  refine r_body (by decide) rfl (Nat.le_of_ble_eq_true rfl) (by simp) ?_
  refine r_aload_n dX12_close_0 rfl ?_
  refine r_aload_n dX12_close_1 rfl ?_
  obtain ⟨x1, h2, hf⟩ := bnd hf
  refine r_getR dX12_close_2 fs12_49_11 rfl h2 ?_
  refine r_iconst (v := 0) dX12_close_5 (by decide) ?_
  obtain ⟨q3, h4, hf⟩ := bnd hf
  refine r_callVv (st := []) (as := [.ref x1, .int 0]) dX12_close_6 ms_X12_carryAll ⟨rfl, w4_107, w4_109, w0_19⟩ (ok_X12_carryAll h4) (c_X12_carryAll h4) rfl ⟨by omega, by omega⟩ (Nat.le_of_ble_eq_true rfl) (by decide) (by decide) rfl ?_
  have hz := congrArg eV (Option.some.inj hf)
  exact r_return dX12_close_9 rfl (Nat.le_of_ble_eq_true rfl) (Nat.le_of_ble_eq_true rfl) hz
def f_X12_image (S : Mm) (l0 : Nat) : Option (Int32 × Mm) := if okc S l0 11 = true then (pI S 11 l0 15 0).bind fun S1 => (pB S1 11 l0 22 1).bind fun S3 => (gR S3 11 l0 21).bind fun x5 => (f_X12_carryAll S3 l0 x5 1).bind fun q7 => (gI q7 11 l0 2).bind fun x9 => some (x9, q7) else none
set_option maxRecDepth 20000 in
theorem ok_X12_image {S : Mm} {l0 : Nat} {T : (Int32 × Mm)} (hf : f_X12_image S l0 = some T) : okc S l0 11 = true := (oif hf).1
set_option maxRecDepth 20000 in
theorem c_X12_image {G : Gt} {l : Launch} {S : Mm} {l0 : Nat} {T : (Int32 × Mm)} (hf : f_X12_image S l0 = some T) : CC G l yX12_image cX12_image 1 (some .int) 2 0 0 [.ref l0] S (eI T) := by
  unfold f_X12_image at hf
  replace hf := (oif hf).2
  refine r_body (by decide) rfl (Nat.le_of_ble_eq_true rfl) (by simp) ?_
  refine r_aload_n dX12_image_0 rfl ?_
  refine r_iconst (v := 0) dX12_image_1 (by decide) ?_
  obtain ⟨S1, h2, hf⟩ := bnd hf
  refine r_putI dX12_image_2 fs12_73_11 rfl h2 ?_
  refine r_aload_n dX12_image_5 rfl ?_
  refine r_iconst (v := 1) dX12_image_6 (by decide) ?_
  obtain ⟨S3, h4, hf⟩ := bnd hf
  refine r_putB dX12_image_7 fs12_160_11 rfl h4 ?_
  refine r_aload_n dX12_image_10 rfl ?_
  refine r_aload_n dX12_image_11 rfl ?_
  obtain ⟨x5, h6, hf⟩ := bnd hf
  refine r_getR dX12_image_12 fs12_52_11 rfl h6 ?_
  refine r_iconst (v := 1) dX12_image_15 (by decide) ?_
  obtain ⟨q7, h8, hf⟩ := bnd hf
  refine r_callVv (st := []) (as := [.ref x5, .int 1]) dX12_image_16 ms_X12_carryAll ⟨rfl, w4_107, w4_109, w0_19⟩ (ok_X12_carryAll h8) (c_X12_carryAll h8) rfl ⟨by omega, by omega⟩ (Nat.le_of_ble_eq_true rfl) (by decide) (by decide) rfl ?_
  refine r_aload_n dX12_image_19 rfl ?_
  obtain ⟨x9, h10, hf⟩ := bnd hf
  refine r_getI dX12_image_20 fs12_122_11 rfl h10 ?_
  have hz := congrArg eI (Option.some.inj hf)
  exact r_ireturn dX12_image_23 rfl (Nat.le_of_ble_eq_true rfl) (Nat.le_of_ble_eq_true rfl) hz
def f_X12_restore (S : Mm) (l0 : Nat) : Option (Int32 × Mm) := if okc S l0 11 = true then (pI S 11 l0 15 0).bind fun S1 => (gI S1 11 l0 22).bind fun x3 => (if x3 = 0 then (f_X12_refuse S1 l0 (-3)).bind fun q12 => some (q12.1, q12.2) else (gR S1 11 l0 21).bind fun x6 => (f_X12_carryAll S1 l0 x6 0).bind fun q8 => (gI q8 11 l0 2).bind fun x10 => some (x10, q8)) else none
set_option maxRecDepth 20000 in
theorem ok_X12_restore {S : Mm} {l0 : Nat} {T : (Int32 × Mm)} (hf : f_X12_restore S l0 = some T) : okc S l0 11 = true := (oif hf).1
set_option maxRecDepth 20000 in
theorem c_X12_restore {G : Gt} {l : Launch} {S : Mm} {l0 : Nat} {T : (Int32 × Mm)} (hf : f_X12_restore S l0 = some T) : CC G l yX12_restore cX12_restore 1 (some .int) 2 0 0 [.ref l0] S (eI T) := by
  unfold f_X12_restore at hf
  replace hf := (oif hf).2
  refine r_body (by decide) rfl (Nat.le_of_ble_eq_true rfl) (by simp) ?_
  refine r_aload_n dX12_restore_0 rfl ?_
  refine r_iconst (v := 0) dX12_restore_1 (by decide) ?_
  obtain ⟨S1, h2, hf⟩ := bnd hf
  refine r_putI dX12_restore_2 fs12_73_11 rfl h2 ?_
  refine r_aload_n dX12_restore_5 rfl ?_
  obtain ⟨x3, h4, hf⟩ := bnd hf
  refine r_getI dX12_restore_6 fs12_160_11 rfl h4 ?_
  refine r_if_ne (tgt := 19) dX12_restore_9 (by decide) (fun c5 => ?_) (fun c5 => ?_)
  · replace hf := (if_neg c5).symm.trans hf
    refine r_aload_n dX12_restore_19 rfl ?_
    refine r_aload_n dX12_restore_20 rfl ?_
    obtain ⟨x6, h7, hf⟩ := bnd hf
    refine r_getR dX12_restore_21 fs12_52_11 rfl h7 ?_
    refine r_iconst (v := 0) dX12_restore_24 (by decide) ?_
    obtain ⟨q8, h9, hf⟩ := bnd hf
    refine r_callVv (st := []) (as := [.ref x6, .int 0]) dX12_restore_25 ms_X12_carryAll ⟨rfl, w4_107, w4_109, w0_19⟩ (ok_X12_carryAll h9) (c_X12_carryAll h9) rfl ⟨by omega, by omega⟩ (Nat.le_of_ble_eq_true rfl) (by decide) (by decide) rfl ?_
    refine r_aload_n dX12_restore_28 rfl ?_
    obtain ⟨x10, h11, hf⟩ := bnd hf
    refine r_getI dX12_restore_29 fs12_122_11 rfl h11 ?_
    have hz := congrArg eI (Option.some.inj hf)
    exact r_ireturn dX12_restore_32 rfl (Nat.le_of_ble_eq_true rfl) (Nat.le_of_ble_eq_true rfl) hz
  · replace hf := (if_pos c5).symm.trans hf
    refine r_aload_n dX12_restore_12 rfl ?_
    refine r_bipush (v := (-3)) dX12_restore_13 (by decide) ?_
    obtain ⟨q12, h13, hf⟩ := bnd hf
    refine r_callVi (st := []) (as := [.int (-3)]) dX12_restore_15 ms_X12_refuse ⟨rfl, w4_119, w4_121, w0_21⟩ (ok_X12_refuse h13) (c_X12_refuse h13) rfl ⟨by omega, by omega⟩ (Nat.le_of_ble_eq_true rfl) (by decide) (by decide) rfl ?_
    have hz := congrArg eI (Option.some.inj hf)
    exact r_ireturn dX12_restore_18 rfl (Nat.le_of_ble_eq_true rfl) (Nat.le_of_ble_eq_true rfl) hz
def f_X12_feed_32 (S : Mm) (l0 : Nat) : Option (Int32 × Mm) := (f_X12_refuse S l0 (-6)).bind fun q1 => some (q1.1, q1.2)
def f_X12_feed (S : Mm) (l0 : Nat) (l1 : Int32) : Option (Int32 × Mm) := if okc S l0 11 = true then (pI S 11 l0 15 0).bind fun S1 => (if 0 ≤ l1 then (if 255 < l1 then f_X12_feed_32 S1 l0 else (gI S1 11 l0 27).bind fun x5 => (if x5 = 96 then f_X12_feed_32 S1 l0 else (gR S1 11 l0 26).bind fun x8 => (gI S1 11 l0 27).bind fun x10 => (aS S1 x8 x10 l1).bind fun S12 => (gI S12 11 l0 27).bind fun x14 => (pI S12 11 l0 27 (x14 + 1)).bind fun S16 => (gI S16 11 l0 27).bind fun x18 => some (x18, S16))) else (f_X12_refuse S1 l0 (-4)).bind fun q20 => some (q20.1, q20.2)) else none
set_option maxRecDepth 20000 in
theorem t_X12_feed_32 {G : Gt} {l : Launch} (S : Mm) (l0 : Nat) (T : (Int32 × Mm)) (hf : f_X12_feed_32 S l0 = some T) : Sat G l yX12_feed cX12_feed 2 (some .int) 1 0 0 0 0 32 [.ref l0, .null] [] S (eI T) := by
  unfold f_X12_feed_32 at hf
  refine r_aload_n dX12_feed_32 rfl ?_
  refine r_bipush (v := (-6)) dX12_feed_33 (by decide) ?_
  obtain ⟨q1, h2, hf⟩ := bnd hf
  refine r_callVi (st := []) (as := [.int (-6)]) dX12_feed_35 ms_X12_refuse ⟨rfl, w4_119, w4_121, w0_21⟩ (ok_X12_refuse h2) (c_X12_refuse h2) rfl ⟨by omega, by omega⟩ (Nat.le_of_ble_eq_true rfl) (by decide) (by decide) rfl ?_
  have hz := congrArg eI (Option.some.inj hf)
  exact r_ireturn dX12_feed_38 rfl (Nat.le_of_ble_eq_true rfl) (Nat.le_of_ble_eq_true rfl) hz
set_option maxRecDepth 20000 in
theorem ok_X12_feed {S : Mm} {l0 : Nat} {l1 : Int32} {T : (Int32 × Mm)} (hf : f_X12_feed S l0 l1 = some T) : okc S l0 11 = true := (oif hf).1
set_option maxRecDepth 20000 in
theorem c_X12_feed {G : Gt} {l : Launch} {S : Mm} {l0 : Nat} {l1 : Int32} {T : (Int32 × Mm)} (hf : f_X12_feed S l0 l1 = some T) : CC G l yX12_feed cX12_feed 2 (some .int) 1 0 0 [.ref l0, .int l1] S (eI T) := by
  unfold f_X12_feed at hf
  replace hf := (oif hf).2
  refine r_body (by decide) rfl (Nat.le_of_ble_eq_true rfl) (by simp) ?_
  refine r_aload_n dX12_feed_0 rfl ?_
  refine r_iconst (v := 0) dX12_feed_1 (by decide) ?_
  obtain ⟨S1, h2, hf⟩ := bnd hf
  refine r_putI dX12_feed_2 fs12_73_11 rfl h2 ?_
  refine r_iload_n dX12_feed_5 rfl ?_
  refine r_if_ge (tgt := 16) dX12_feed_6 (by decide) (fun c3 => ?_) (fun c3 => ?_)
  · replace hf := (if_pos c3).symm.trans hf
    refine r_iload_n dX12_feed_16 rfl ?_
    refine r_sipush (v := 255) dX12_feed_17 (by decide) ?_
    refine r_icmp_gt (tgt := 32) dX12_feed_20 (by decide) (fun c4 => ?_) (fun c4 => ?_)
    · replace hf := (if_pos c4).symm.trans hf
      refine r_lvs (lv' := [.ref l0, .null]) ⟨Or.inl rfl, Or.inr rfl, trivial⟩ ?_
      exact t_X12_feed_32 _ _ _ hf
    · replace hf := (if_neg c4).symm.trans hf
      refine r_aload_n dX12_feed_23 rfl ?_
      obtain ⟨x5, h6, hf⟩ := bnd hf
      refine r_getI dX12_feed_24 fs12_166_11 rfl h6 ?_
      refine r_bipush (v := 96) dX12_feed_27 (by decide) ?_
      refine r_icmp_ne (tgt := 39) dX12_feed_29 (by decide) (fun c7 => ?_) (fun c7 => ?_)
      · replace hf := (if_neg c7).symm.trans hf
        refine r_aload_n dX12_feed_39 rfl ?_
        obtain ⟨x8, h9, hf⟩ := bnd hf
        refine r_getR dX12_feed_40 fs12_55_11 rfl h9 ?_
        refine r_aload_n dX12_feed_43 rfl ?_
        obtain ⟨x10, h11, hf⟩ := bnd hf
        refine r_getI dX12_feed_44 fs12_166_11 rfl h11 ?_
        refine r_iload_n dX12_feed_47 rfl ?_
        obtain ⟨S12, h13, hf⟩ := bnd hf
        refine r_iastore dX12_feed_48 h13 ?_
        refine r_aload_n dX12_feed_49 rfl ?_
        refine r_dup dX12_feed_50 rfl ?_
        obtain ⟨x14, h15, hf⟩ := bnd hf
        refine r_getI dX12_feed_51 fs12_166_11 rfl h15 ?_
        refine r_iconst (v := 1) dX12_feed_54 (by decide) ?_
        refine r_iadd dX12_feed_55 ?_
        obtain ⟨S16, h17, hf⟩ := bnd hf
        refine r_putI dX12_feed_56 fs12_166_11 rfl h17 ?_
        refine r_aload_n dX12_feed_59 rfl ?_
        obtain ⟨x18, h19, hf⟩ := bnd hf
        refine r_getI dX12_feed_60 fs12_166_11 rfl h19 ?_
        have hz := congrArg eI (Option.some.inj hf)
        exact r_ireturn dX12_feed_63 rfl (Nat.le_of_ble_eq_true rfl) (Nat.le_of_ble_eq_true rfl) hz
      · replace hf := (if_pos c7).symm.trans hf
        refine r_lvs (lv' := [.ref l0, .null]) ⟨Or.inl rfl, Or.inr rfl, trivial⟩ ?_
        exact t_X12_feed_32 _ _ _ hf
  · replace hf := (if_neg c3).symm.trans hf
    refine r_aload_n dX12_feed_9 rfl ?_
    refine r_bipush (v := (-4)) dX12_feed_10 (by decide) ?_
    obtain ⟨q20, h21, hf⟩ := bnd hf
    refine r_callVi (st := []) (as := [.int (-4)]) dX12_feed_12 ms_X12_refuse ⟨rfl, w4_119, w4_121, w0_21⟩ (ok_X12_refuse h21) (c_X12_refuse h21) rfl ⟨by omega, by omega⟩ (Nat.le_of_ble_eq_true rfl) (by decide) (by decide) rfl ?_
    have hz := congrArg eI (Option.some.inj hf)
    exact r_ireturn dX12_feed_15 rfl (Nat.le_of_ble_eq_true rfl) (Nat.le_of_ble_eq_true rfl) hz
def f_X12_here_24 (S : Mm) (s0 : Int32) : Option (Int32 × Mm) := some (s0, S)
def f_X12_here (S : Mm) (l0 : Nat) : Option (Int32 × Mm) := if okc S l0 11 = true then (gI S 11 l0 28).bind fun x1 => (gI S 11 l0 27).bind fun x3 => (if x3 ≤ x1 then f_X12_here_24 S (-1) else (gR S 11 l0 26).bind fun x6 => (gI S 11 l0 28).bind fun x8 => (aI S x6 x8).bind fun x10 => f_X12_here_24 S x10) else none
set_option maxRecDepth 20000 in
theorem t_X12_here_24 {G : Gt} {l : Launch} (S : Mm) (s0 : Int32) (T : (Int32 × Mm)) (hf : f_X12_here_24 S s0 = some T) : Sat G l yX12_here cX12_here 1 (some .int) 0 0 0 0 0 24 [.null] [.int s0] S (eI T) := by
  unfold f_X12_here_24 at hf
  have hz := congrArg eI (Option.some.inj hf)
  exact r_ireturn dX12_here_24 rfl (Nat.le_of_ble_eq_true rfl) (Nat.le_of_ble_eq_true rfl) hz
set_option maxRecDepth 20000 in
theorem ok_X12_here {S : Mm} {l0 : Nat} {T : (Int32 × Mm)} (hf : f_X12_here S l0 = some T) : okc S l0 11 = true := (oif hf).1
set_option maxRecDepth 20000 in
theorem c_X12_here {G : Gt} {l : Launch} {S : Mm} {l0 : Nat} {T : (Int32 × Mm)} (hf : f_X12_here S l0 = some T) : CC G l yX12_here cX12_here 1 (some .int) 0 0 0 [.ref l0] S (eI T) := by
  unfold f_X12_here at hf
  replace hf := (oif hf).2
  refine r_body (by decide) rfl (Nat.le_of_ble_eq_true rfl) (by simp) ?_
  refine r_aload_n dX12_here_0 rfl ?_
  obtain ⟨x1, h2, hf⟩ := bnd hf
  refine r_getI dX12_here_1 fs12_169_11 rfl h2 ?_
  refine r_aload_n dX12_here_4 rfl ?_
  obtain ⟨x3, h4, hf⟩ := bnd hf
  refine r_getI dX12_here_5 fs12_166_11 rfl h4 ?_
  refine r_icmp_ge (tgt := 23) dX12_here_8 (by decide) (fun c5 => ?_) (fun c5 => ?_)
  · replace hf := (if_pos c5).symm.trans hf
    refine r_iconst (v := (-1)) dX12_here_23 (by decide) ?_
    refine r_lvs (lv' := [.null]) ⟨Or.inr rfl, trivial⟩ ?_
    exact t_X12_here_24 _ _ _ hf
  · replace hf := (if_neg c5).symm.trans hf
    refine r_aload_n dX12_here_11 rfl ?_
    obtain ⟨x6, h7, hf⟩ := bnd hf
    refine r_getR dX12_here_12 fs12_55_11 rfl h7 ?_
    refine r_aload_n dX12_here_15 rfl ?_
    obtain ⟨x8, h9, hf⟩ := bnd hf
    refine r_getI dX12_here_16 fs12_169_11 rfl h9 ?_
    obtain ⟨x10, h11, hf⟩ := bnd hf
    refine r_iaload dX12_here_19 h11 ?_
    refine r_goto (tgt := 24) dX12_here_20 (by decide) ?_
    refine r_lvs (lv' := [.null]) ⟨Or.inr rfl, trivial⟩ ?_
    exact t_X12_here_24 _ _ _ hf
def f_X12_readDigit_30 (S : Mm) (l0 : Nat) (s0 : Nat) (s1 : Int32) : Option (Int32 × Mm) := (pB S 11 s0 29 s1).bind fun S1 => (gI S1 11 l0 29).bind fun x3 => (if x3 = 0 then (gI S1 11 l0 28).bind fun x6 => (pI S1 11 l0 28 (x6 + 1)).bind fun S8 => (gR S8 11 l0 26).bind fun x10 => (gI S8 11 l0 28).bind fun x12 => (aI S8 x10 (x12 - 1)).bind fun x14 => some ((x14 - 48), S8) else some (0, S1))
def f_X12_readDigit_25 (S : Mm) (l0 : Nat) (s0 : Nat) : Option (Int32 × Mm) := f_X12_readDigit_30 S l0 s0 1
def f_X12_readDigit (S : Mm) (l0 : Nat) : Option (Int32 × Mm) := if okc S l0 11 = true then (gI S 11 l0 29).bind fun x1 => (if x1 = 0 then (f_X12_here S l0).bind fun q4 => (f_X12_in q4.2 q4.1.toInt64 48 57).bind fun q6 => (if q6.1 = 0 then f_X12_readDigit_25 q6.2 l0 l0 else f_X12_readDigit_30 q6.2 l0 l0 0) else f_X12_readDigit_25 S l0 l0) else none
set_option maxRecDepth 20000 in
theorem t_X12_readDigit_30 {G : Gt} {l : Launch} (S : Mm) (l0 : Nat) (s0 : Nat) (s1 : Int32) (T : (Int32 × Mm)) (hf : f_X12_readDigit_30 S l0 s0 s1 = some T) : Sat G l yX12_readDigit cX12_readDigit 1 (some .int) 1 0 0 0 0 30 [.ref l0] [.int s1, .ref s0] S (eI T) := by
  unfold f_X12_readDigit_30 at hf
  obtain ⟨S1, h2, hf⟩ := bnd hf
  refine r_putB dX12_readDigit_30 fs12_172_11 rfl h2 ?_
  refine r_aload_n dX12_readDigit_33 rfl ?_
  obtain ⟨x3, h4, hf⟩ := bnd hf
  refine r_getI dX12_readDigit_34 fs12_172_11 rfl h4 ?_
  refine r_if_eq (tgt := 42) dX12_readDigit_37 (by decide) (fun c5 => ?_) (fun c5 => ?_)
  · replace hf := (if_pos c5).symm.trans hf
    refine r_aload_n dX12_readDigit_42 rfl ?_
    refine r_dup dX12_readDigit_43 rfl ?_
    obtain ⟨x6, h7, hf⟩ := bnd hf
    refine r_getI dX12_readDigit_44 fs12_169_11 rfl h7 ?_
    refine r_iconst (v := 1) dX12_readDigit_47 (by decide) ?_
    refine r_iadd dX12_readDigit_48 ?_
    obtain ⟨S8, h9, hf⟩ := bnd hf
    refine r_putI dX12_readDigit_49 fs12_169_11 rfl h9 ?_
    refine r_aload_n dX12_readDigit_52 rfl ?_
    obtain ⟨x10, h11, hf⟩ := bnd hf
    refine r_getR dX12_readDigit_53 fs12_55_11 rfl h11 ?_
    refine r_aload_n dX12_readDigit_56 rfl ?_
    obtain ⟨x12, h13, hf⟩ := bnd hf
    refine r_getI dX12_readDigit_57 fs12_169_11 rfl h13 ?_
    refine r_iconst (v := 1) dX12_readDigit_60 (by decide) ?_
    refine r_isub dX12_readDigit_61 ?_
    obtain ⟨x14, h15, hf⟩ := bnd hf
    refine r_iaload dX12_readDigit_62 h15 ?_
    refine r_bipush (v := 48) dX12_readDigit_63 (by decide) ?_
    refine r_isub dX12_readDigit_65 ?_
    have hz := congrArg eI (Option.some.inj hf)
    exact r_ireturn dX12_readDigit_66 rfl (Nat.le_of_ble_eq_true rfl) (Nat.le_of_ble_eq_true rfl) hz
  · replace hf := (if_neg c5).symm.trans hf
    refine r_iconst (v := 0) dX12_readDigit_40 (by decide) ?_
    have hz := congrArg eI (Option.some.inj hf)
    exact r_ireturn dX12_readDigit_41 rfl (Nat.le_of_ble_eq_true rfl) (Nat.le_of_ble_eq_true rfl) hz
set_option maxRecDepth 20000 in
theorem t_X12_readDigit_25 {G : Gt} {l : Launch} (S : Mm) (l0 : Nat) (s0 : Nat) (T : (Int32 × Mm)) (hf : f_X12_readDigit_25 S l0 s0 = some T) : Sat G l yX12_readDigit cX12_readDigit 1 (some .int) 1 0 0 0 0 25 [.ref l0] [.ref s0] S (eI T) := by
  unfold f_X12_readDigit_25 at hf
  refine r_iconst (v := 1) dX12_readDigit_25 (by decide) ?_
  refine r_goto (tgt := 30) dX12_readDigit_26 (by decide) ?_
  exact t_X12_readDigit_30 _ _ _ _ _ hf
set_option maxRecDepth 20000 in
theorem ok_X12_readDigit {S : Mm} {l0 : Nat} {T : (Int32 × Mm)} (hf : f_X12_readDigit S l0 = some T) : okc S l0 11 = true := (oif hf).1
set_option maxRecDepth 20000 in
theorem c_X12_readDigit {G : Gt} {l : Launch} {S : Mm} {l0 : Nat} {T : (Int32 × Mm)} (hf : f_X12_readDigit S l0 = some T) : CC G l yX12_readDigit cX12_readDigit 1 (some .int) 1 0 0 [.ref l0] S (eI T) := by
  unfold f_X12_readDigit at hf
  replace hf := (oif hf).2
  refine r_body (by decide) rfl (Nat.le_of_ble_eq_true rfl) (by simp) ?_
  refine r_aload_n dX12_readDigit_0 rfl ?_
  refine r_aload_n dX12_readDigit_1 rfl ?_
  obtain ⟨x1, h2, hf⟩ := bnd hf
  refine r_getI dX12_readDigit_2 fs12_172_11 rfl h2 ?_
  refine r_if_ne (tgt := 25) dX12_readDigit_5 (by decide) (fun c3 => ?_) (fun c3 => ?_)
  · replace hf := (if_neg c3).symm.trans hf
    exact t_X12_readDigit_25 _ _ _ _ hf
  · replace hf := (if_pos c3).symm.trans hf
    refine r_aload_n dX12_readDigit_8 rfl ?_
    obtain ⟨q4, h5, hf⟩ := bnd hf
    refine r_callVi (st := [.ref l0]) (as := []) dX12_readDigit_9 ms_X12_here ⟨rfl, w4_135, w4_137, w0_23⟩ (ok_X12_here h5) (c_X12_here h5) rfl ⟨by omega, by omega⟩ (Nat.le_of_ble_eq_true rfl) (by decide) (by decide) rfl ?_
    refine r_i2l dX12_readDigit_12 ?_
    refine r_ldc2 (v := 48) dX12_readDigit_13 w4_143 ?_
    refine r_ldc2 (v := 57) dX12_readDigit_16 w4_144 ?_
    obtain ⟨q6, h7, hf⟩ := bnd hf
    refine r_callSi (st := [.ref l0]) (as := [.long q4.1.toInt64, .long 48, .long 57]) dX12_readDigit_19 ms_X12_in ⟨w4_145, w4_146⟩ (c_X12_in h7) rfl ⟨by omega, by omega⟩ (Nat.le_of_ble_eq_true rfl) (by decide) (by decide) rfl ?_
    refine r_if_ne (tgt := 29) dX12_readDigit_22 (by decide) (fun c8 => ?_) (fun c8 => ?_)
    · replace hf := (if_neg c8).symm.trans hf
      refine r_iconst (v := 0) dX12_readDigit_29 (by decide) ?_
      exact t_X12_readDigit_30 _ _ _ _ _ hf
    · replace hf := (if_pos c8).symm.trans hf
      exact t_X12_readDigit_25 _ _ _ _ hf
def f_X12_readNumber_52 (S : Mm) (l2 : Int32) : Option (Int32 × Mm) := some (l2, S)
def f_X12_readNumber_7 : Nat → Mm → Nat → Int32 → Int32 → Int32 → Option (Int32 × Mm)
  | 0, _, _, _, _, _ => none
  | n + 1, S, l0, l1, l2, l3 => (if l1 ≤ l3 then f_X12_readNumber_52 S l2 else (gI S 11 l0 29).bind fun x2 => (if x2 = 0 then (f_X12_here S l0).bind fun q5 => (f_X12_in q5.2 q5.1.toInt64 48 57).bind fun q7 => (if q7.1 = 0 then f_X12_readNumber_52 q7.2 l2 else (f_X12_readDigit q7.2 l0).bind fun q10 => (f_X12_readNumber_7 n) q10.2 l0 l1 ((10 * l2) + q10.1) (l3 + 1)) else f_X12_readNumber_52 S l2))
def f_X12_readNumber (S : Mm) (l0 : Nat) (l1 : Int32) : Option (Int32 × Mm) := if okc S l0 11 = true then (f_X12_readDigit S l0).bind fun q1 => f_X12_readNumber_7 FU q1.2 l0 l1 q1.1 1 else none
set_option maxRecDepth 20000 in
theorem t_X12_readNumber_52 {G : Gt} {l : Launch} (S : Mm) (l2 : Int32) (T : (Int32 × Mm)) (hf : f_X12_readNumber_52 S l2 = some T) : Sat G l yX12_readNumber cX12_readNumber 4 (some .int) 2 0 0 0 0 52 [.null, .null, .int l2, .null] [] S (eI T) := by
  unfold f_X12_readNumber_52 at hf
  refine r_iload_n dX12_readNumber_52 rfl ?_
  have hz := congrArg eI (Option.some.inj hf)
  exact r_ireturn dX12_readNumber_53 rfl (Nat.le_of_ble_eq_true rfl) (Nat.le_of_ble_eq_true rfl) hz
set_option maxRecDepth 20000 in
theorem t_X12_readNumber_7 {G : Gt} {l : Launch} : ∀ (n : Nat) (S : Mm) (l0 : Nat) (l1 : Int32) (l2 : Int32) (l3 : Int32) (T : (Int32 × Mm)), f_X12_readNumber_7 n S l0 l1 l2 l3 = some T → Sat G l yX12_readNumber cX12_readNumber 4 (some .int) 2 0 0 0 0 7 [.ref l0, .int l1, .int l2, .int l3] [] S (eI T) := by
  intro n
  induction n with
  | zero =>
    intro S l0 l1 l2 l3 T hf
    rw [f_X12_readNumber_7] at hf
    cases hf
  | succ n ih =>
    intro S l0 l1 l2 l3 T hf
    rw [f_X12_readNumber_7] at hf
    refine r_iload_n dX12_readNumber_7 rfl ?_
    refine r_iload_n dX12_readNumber_8 rfl ?_
    refine r_icmp_ge (tgt := 52) dX12_readNumber_9 (by decide) (fun c1 => ?_) (fun c1 => ?_)
    · replace hf := (if_pos c1).symm.trans hf
      refine r_lvs (lv' := [.null, .null, .int l2, .null]) ⟨Or.inr rfl, Or.inr rfl, Or.inl rfl, Or.inr rfl, trivial⟩ ?_
      exact t_X12_readNumber_52 _ _ _ hf
    · replace hf := (if_neg c1).symm.trans hf
      refine r_aload_n dX12_readNumber_12 rfl ?_
      obtain ⟨x2, h3, hf⟩ := bnd hf
      refine r_getI dX12_readNumber_13 fs12_172_11 rfl h3 ?_
      refine r_if_ne (tgt := 52) dX12_readNumber_16 (by decide) (fun c4 => ?_) (fun c4 => ?_)
      · replace hf := (if_neg c4).symm.trans hf
        refine r_lvs (lv' := [.null, .null, .int l2, .null]) ⟨Or.inr rfl, Or.inr rfl, Or.inl rfl, Or.inr rfl, trivial⟩ ?_
        exact t_X12_readNumber_52 _ _ _ hf
      · replace hf := (if_pos c4).symm.trans hf
        refine r_aload_n dX12_readNumber_19 rfl ?_
        obtain ⟨q5, h6, hf⟩ := bnd hf
        refine r_callVi (st := []) (as := []) dX12_readNumber_20 ms_X12_here ⟨rfl, w4_135, w4_137, w0_23⟩ (ok_X12_here h6) (c_X12_here h6) rfl ⟨by omega, by omega⟩ (Nat.le_of_ble_eq_true rfl) (by decide) (by decide) rfl ?_
        refine r_i2l dX12_readNumber_23 ?_
        refine r_ldc2 (v := 48) dX12_readNumber_24 w4_143 ?_
        refine r_ldc2 (v := 57) dX12_readNumber_27 w4_144 ?_
        obtain ⟨q7, h8, hf⟩ := bnd hf
        refine r_callSi (st := []) (as := [.long q5.1.toInt64, .long 48, .long 57]) dX12_readNumber_30 ms_X12_in ⟨w4_145, w4_146⟩ (c_X12_in h8) rfl ⟨by omega, by omega⟩ (Nat.le_of_ble_eq_true rfl) (by decide) (by decide) rfl ?_
        refine r_if_eq (tgt := 52) dX12_readNumber_33 (by decide) (fun c9 => ?_) (fun c9 => ?_)
        · replace hf := (if_pos c9).symm.trans hf
          refine r_lvs (lv' := [.null, .null, .int l2, .null]) ⟨Or.inr rfl, Or.inr rfl, Or.inl rfl, Or.inr rfl, trivial⟩ ?_
          exact t_X12_readNumber_52 _ _ _ hf
        · replace hf := (if_neg c9).symm.trans hf
          refine r_bipush (v := 10) dX12_readNumber_36 (by decide) ?_
          refine r_iload_n dX12_readNumber_38 rfl ?_
          refine r_imul dX12_readNumber_39 ?_
          refine r_aload_n dX12_readNumber_40 rfl ?_
          obtain ⟨q10, h11, hf⟩ := bnd hf
          refine r_callVi (st := [.int (10 * l2)]) (as := []) dX12_readNumber_41 ms_X12_readDigit ⟨rfl, w4_139, w4_141, w0_24⟩ (ok_X12_readDigit h11) (c_X12_readDigit h11) rfl ⟨by omega, by omega⟩ (Nat.le_of_ble_eq_true rfl) (by decide) (by decide) rfl ?_
          refine r_iadd dX12_readNumber_44 ?_
          refine r_istore_n (lv' := [.ref l0, .int l1, .int ((10 * l2) + q10.1), .int l3]) dX12_readNumber_45 (by decide) rfl rfl ?_
          refine r_iinc (v := 1) (lv' := [.ref l0, .int l1, .int ((10 * l2) + q10.1), .int (l3 + 1)]) dX12_readNumber_46 rfl (by decide) (by decide) rfl rfl ?_
          refine r_goto (tgt := 7) dX12_readNumber_49 (by decide) ?_
          exact ih _ _ _ _ _ _ hf
set_option maxRecDepth 20000 in
theorem ok_X12_readNumber {S : Mm} {l0 : Nat} {l1 : Int32} {T : (Int32 × Mm)} (hf : f_X12_readNumber S l0 l1 = some T) : okc S l0 11 = true := (oif hf).1
set_option maxRecDepth 20000 in
theorem c_X12_readNumber {G : Gt} {l : Launch} {S : Mm} {l0 : Nat} {l1 : Int32} {T : (Int32 × Mm)} (hf : f_X12_readNumber S l0 l1 = some T) : CC G l yX12_readNumber cX12_readNumber 4 (some .int) 2 0 0 [.ref l0, .int l1] S (eI T) := by
  unfold f_X12_readNumber at hf
  replace hf := (oif hf).2
  refine r_body (by decide) rfl (Nat.le_of_ble_eq_true rfl) (by simp) ?_
  refine r_aload_n dX12_readNumber_0 rfl ?_
  obtain ⟨q1, h2, hf⟩ := bnd hf
  refine r_callVi (st := []) (as := []) dX12_readNumber_1 ms_X12_readDigit ⟨rfl, w4_139, w4_141, w0_24⟩ (ok_X12_readDigit h2) (c_X12_readDigit h2) rfl ⟨by omega, by omega⟩ (Nat.le_of_ble_eq_true rfl) (by decide) (by decide) rfl ?_
  refine r_istore_n (lv' := [.ref l0, .int l1, .int q1.1, .null]) dX12_readNumber_4 (by decide) rfl rfl ?_
  refine r_iconst (v := 1) dX12_readNumber_5 (by decide) ?_
  refine r_istore_n (lv' := [.ref l0, .int l1, .int q1.1, .int 1]) dX12_readNumber_6 (by decide) rfl rfl ?_
  exact t_X12_readNumber_7 FU _ _ _ _ _ _ hf
def f_X12_readStatement_222 (S : Mm) (l0 : Nat) (s0 : Nat) (s1 : Int32) (s2 : Int32) : Option Mm := (pI S 11 s0 28 (s1 + s2)).bind fun S1 => (gI S1 11 l0 30).bind fun x3 => (pI S1 11 l0 30 (x3 + 1)).bind fun S5 => some S5
def f_X12_readStatement_202 (S : Mm) (l0 : Nat) (s0 : Nat) (s1 : Int32) : Option Mm := (pB S 11 s0 29 s1).bind fun S1 => (gI S1 11 l0 28).bind fun x3 => (gI S1 11 l0 29).bind fun x5 => (if x5 = 0 then f_X12_readStatement_222 S1 l0 l0 x3 1 else f_X12_readStatement_222 S1 l0 l0 x3 0)
def f_X12_readStatement_197 (S : Mm) (l0 : Nat) (s0 : Nat) : Option Mm := f_X12_readStatement_202 S l0 s0 1
def f_X12_readStatement_180 (S : Mm) (l0 : Nat) : Option Mm := (gI S 11 l0 29).bind fun x1 => (if x1 = 0 then (f_X12_here S l0).bind fun q4 => (if q4.1 = 59 then f_X12_readStatement_202 q4.2 l0 l0 0 else f_X12_readStatement_197 q4.2 l0 l0) else f_X12_readStatement_197 S l0 l0)
def f_X12_readStatement_176 (S : Mm) (l0 : Nat) (s0 : Nat) (s1 : Int32) (s2 : Nat) (s3 : Int32) : Option Mm := (f_X12_readNumber S s2 s3).bind fun q1 => (aS q1.2 s0 s1 q1.1).bind fun S3 => f_X12_readStatement_180 S3 l0
def f_X12_readStatement_154 (S : Mm) (l0 : Nat) (l1 : Int32) (l2 : Int32) (l3 : Int32) : Option Mm := (gR S 11 l0 33).bind fun x1 => (if l2 = 104 then f_X12_readStatement_176 S l0 x1 ((9 * l1) + l3) l0 3 else f_X12_readStatement_176 S l0 x1 ((9 * l1) + l3) l0 2)
def f_X12_readStatement_114 : Nat → Mm → Nat → Int32 → Int32 → Int32 → Int32 → Option Mm
  | 0, _, _, _, _, _, _ => none
  | n + 1, S, l0, l1, l2, l3, l4 => (if l3 ≤ l4 then (if l2 = 104 then f_X12_readStatement_154 S l0 l1 l2 l3 else (if l2 = 100 then f_X12_readStatement_154 S l0 l1 l2 l3 else f_X12_readStatement_180 S l0)) else (gR S 11 l0 33).bind fun x4 => (f_X12_readDigit S l0).bind fun q6 => (aS q6.2 x4 ((9 * l1) + l4) q6.1).bind fun S8 => (f_X12_readStatement_114 n) S8 l0 l1 l2 l3 (l4 + 1))
def f_X12_readStatement_110 (S : Mm) (l0 : Nat) (l1 : Int32) (l2 : Int32) (s0 : Int32) : Option Mm := f_X12_readStatement_114 FU S l0 l1 l2 s0 0
def f_X12_readStatement_84 (S : Mm) (l0 : Nat) (l1 : Int32) (l2 : Int32) (s0 : Nat) (s1 : Int32) (s2 : Int32) : Option Mm := (pI S 11 s0 28 (s1 + s2)).bind fun S1 => (if l2 = 104 then f_X12_readStatement_110 S1 l0 l1 l2 8 else (if l2 = 108 then f_X12_readStatement_110 S1 l0 l1 l2 1 else f_X12_readStatement_110 S1 l0 l1 l2 2))
def f_X12_readStatement_64 (S : Mm) (l0 : Nat) (l1 : Int32) (l2 : Int32) (s0 : Nat) (s1 : Int32) : Option Mm := (pB S 11 s0 29 s1).bind fun S1 => (gI S1 11 l0 28).bind fun x3 => (gI S1 11 l0 29).bind fun x5 => (if x5 = 0 then f_X12_readStatement_84 S1 l0 l1 l2 l0 x3 1 else f_X12_readStatement_84 S1 l0 l1 l2 l0 x3 0)
def f_X12_readStatement_59 (S : Mm) (l0 : Nat) (l1 : Int32) (l2 : Int32) (s0 : Nat) : Option Mm := f_X12_readStatement_64 S l0 l1 l2 s0 1
def f_X12_readStatement_63 (S : Mm) (l0 : Nat) (l1 : Int32) (l2 : Int32) (s0 : Nat) : Option Mm := f_X12_readStatement_64 S l0 l1 l2 s0 0
def f_X12_readStatement (S : Mm) (l0 : Nat) : Option Mm := if okc S l0 11 = true then (gI S 11 l0 30).bind fun x1 => (f_X12_here S l0).bind fun q3 => (gR q3.2 11 l0 31).bind fun x5 => (gI q3.2 11 l0 28).bind fun x7 => (aS q3.2 x5 x1 x7).bind fun S9 => (gR S9 11 l0 32).bind fun x11 => (aS S9 x11 x1 q3.1).bind fun S13 => (gI S13 11 l0 29).bind fun x15 => (if x15 = 0 then (if q3.1 = 104 then f_X12_readStatement_63 S13 l0 x1 q3.1 l0 else (if q3.1 = 112 then f_X12_readStatement_63 S13 l0 x1 q3.1 l0 else (if q3.1 = 108 then f_X12_readStatement_63 S13 l0 x1 q3.1 l0 else (if q3.1 = 100 then f_X12_readStatement_63 S13 l0 x1 q3.1 l0 else f_X12_readStatement_59 S13 l0 x1 q3.1 l0)))) else f_X12_readStatement_59 S13 l0 x1 q3.1 l0) else none
set_option maxRecDepth 20000 in
theorem t_X12_readStatement_222 {G : Gt} {l : Launch} (S : Mm) (l0 : Nat) (s0 : Nat) (s1 : Int32) (s2 : Int32) (T : Mm) (hf : f_X12_readStatement_222 S l0 s0 s1 s2 = some T) : Sat G l yX12_readStatement cX12_readStatement 5 none 3 0 0 0 0 222 [.ref l0, .null, .null, .null, .null] [.int s2, .int s1, .ref s0] S (eV T) := by
  unfold f_X12_readStatement_222 at hf
  refine r_iadd dX12_readStatement_222 ?_
  obtain ⟨S1, h2, hf⟩ := bnd hf
  refine r_putI dX12_readStatement_223 fs12_169_11 rfl h2 ?_
  refine r_aload_n dX12_readStatement_226 rfl ?_
  refine r_dup dX12_readStatement_227 rfl ?_
  obtain ⟨x3, h4, hf⟩ := bnd hf
  refine r_getI dX12_readStatement_228 fs12_186_11 rfl h4 ?_
  refine r_iconst (v := 1) dX12_readStatement_231 (by decide) ?_
  refine r_iadd dX12_readStatement_232 ?_
  obtain ⟨S5, h6, hf⟩ := bnd hf
  refine r_putI dX12_readStatement_233 fs12_186_11 rfl h6 ?_
  have hz := congrArg eV (Option.some.inj hf)
  exact r_return dX12_readStatement_236 rfl (Nat.le_of_ble_eq_true rfl) (Nat.le_of_ble_eq_true rfl) hz
set_option maxRecDepth 20000 in
theorem t_X12_readStatement_202 {G : Gt} {l : Launch} (S : Mm) (l0 : Nat) (s0 : Nat) (s1 : Int32) (T : Mm) (hf : f_X12_readStatement_202 S l0 s0 s1 = some T) : Sat G l yX12_readStatement cX12_readStatement 5 none 3 0 0 0 0 202 [.ref l0, .null, .null, .null, .null] [.int s1, .ref s0] S (eV T) := by
  unfold f_X12_readStatement_202 at hf
  obtain ⟨S1, h2, hf⟩ := bnd hf
  refine r_putB dX12_readStatement_202 fs12_172_11 rfl h2 ?_
  refine r_aload_n dX12_readStatement_205 rfl ?_
  refine r_dup dX12_readStatement_206 rfl ?_
  obtain ⟨x3, h4, hf⟩ := bnd hf
  refine r_getI dX12_readStatement_207 fs12_169_11 rfl h4 ?_
  refine r_aload_n dX12_readStatement_210 rfl ?_
  obtain ⟨x5, h6, hf⟩ := bnd hf
  refine r_getI dX12_readStatement_211 fs12_172_11 rfl h6 ?_
  refine r_if_eq (tgt := 221) dX12_readStatement_214 (by decide) (fun c7 => ?_) (fun c7 => ?_)
  · replace hf := (if_pos c7).symm.trans hf
    refine r_iconst (v := 1) dX12_readStatement_221 (by decide) ?_
    exact t_X12_readStatement_222 _ _ _ _ _ _ hf
  · replace hf := (if_neg c7).symm.trans hf
    refine r_iconst (v := 0) dX12_readStatement_217 (by decide) ?_
    refine r_goto (tgt := 222) dX12_readStatement_218 (by decide) ?_
    exact t_X12_readStatement_222 _ _ _ _ _ _ hf
set_option maxRecDepth 20000 in
theorem t_X12_readStatement_197 {G : Gt} {l : Launch} (S : Mm) (l0 : Nat) (s0 : Nat) (T : Mm) (hf : f_X12_readStatement_197 S l0 s0 = some T) : Sat G l yX12_readStatement cX12_readStatement 5 none 3 0 0 0 0 197 [.ref l0, .null, .null, .null, .null] [.ref s0] S (eV T) := by
  unfold f_X12_readStatement_197 at hf
  refine r_iconst (v := 1) dX12_readStatement_197 (by decide) ?_
  refine r_goto (tgt := 202) dX12_readStatement_198 (by decide) ?_
  exact t_X12_readStatement_202 _ _ _ _ _ hf
set_option maxRecDepth 20000 in
theorem t_X12_readStatement_180 {G : Gt} {l : Launch} (S : Mm) (l0 : Nat) (T : Mm) (hf : f_X12_readStatement_180 S l0 = some T) : Sat G l yX12_readStatement cX12_readStatement 5 none 3 0 0 0 0 180 [.ref l0, .null, .null, .null, .null] [] S (eV T) := by
  unfold f_X12_readStatement_180 at hf
  refine r_aload_n dX12_readStatement_180 rfl ?_
  refine r_aload_n dX12_readStatement_181 rfl ?_
  obtain ⟨x1, h2, hf⟩ := bnd hf
  refine r_getI dX12_readStatement_182 fs12_172_11 rfl h2 ?_
  refine r_if_ne (tgt := 197) dX12_readStatement_185 (by decide) (fun c3 => ?_) (fun c3 => ?_)
  · replace hf := (if_neg c3).symm.trans hf
    exact t_X12_readStatement_197 _ _ _ _ hf
  · replace hf := (if_pos c3).symm.trans hf
    refine r_aload_n dX12_readStatement_188 rfl ?_
    obtain ⟨q4, h5, hf⟩ := bnd hf
    refine r_callVi (st := [.ref l0]) (as := []) dX12_readStatement_189 ms_X12_here ⟨rfl, w4_135, w4_137, w0_23⟩ (ok_X12_here h5) (c_X12_here h5) rfl ⟨by omega, by omega⟩ (Nat.le_of_ble_eq_true rfl) (by decide) (by decide) rfl ?_
    refine r_bipush (v := 59) dX12_readStatement_192 (by decide) ?_
    refine r_icmp_eq (tgt := 201) dX12_readStatement_194 (by decide) (fun c6 => ?_) (fun c6 => ?_)
    · replace hf := (if_pos c6).symm.trans hf
      refine r_iconst (v := 0) dX12_readStatement_201 (by decide) ?_
      exact t_X12_readStatement_202 _ _ _ _ _ hf
    · replace hf := (if_neg c6).symm.trans hf
      exact t_X12_readStatement_197 _ _ _ _ hf
set_option maxRecDepth 20000 in
theorem t_X12_readStatement_176 {G : Gt} {l : Launch} (S : Mm) (l0 : Nat) (s0 : Nat) (s1 : Int32) (s2 : Nat) (s3 : Int32) (T : Mm) (hf : f_X12_readStatement_176 S l0 s0 s1 s2 s3 = some T) : Sat G l yX12_readStatement cX12_readStatement 5 none 3 0 0 0 0 176 [.ref l0, .null, .null, .null, .null] [.int s3, .ref s2, .int s1, .ref s0] S (eV T) := by
  unfold f_X12_readStatement_176 at hf
  obtain ⟨q1, h2, hf⟩ := bnd hf
  refine r_callVi (st := [.int s1, .ref s0]) (as := [.int s3]) dX12_readStatement_176 ms_X12_readNumber ⟨rfl, w4_148, w4_150, w0_25⟩ (ok_X12_readNumber h2) (c_X12_readNumber h2) rfl ⟨by omega, by omega⟩ (Nat.le_of_ble_eq_true rfl) (by decide) (by decide) rfl ?_
  obtain ⟨S3, h4, hf⟩ := bnd hf
  refine r_iastore dX12_readStatement_179 h4 ?_
  exact t_X12_readStatement_180 _ _ _ hf
set_option maxRecDepth 20000 in
theorem t_X12_readStatement_154 {G : Gt} {l : Launch} (S : Mm) (l0 : Nat) (l1 : Int32) (l2 : Int32) (l3 : Int32) (T : Mm) (hf : f_X12_readStatement_154 S l0 l1 l2 l3 = some T) : Sat G l yX12_readStatement cX12_readStatement 5 none 3 0 0 0 0 154 [.ref l0, .int l1, .int l2, .int l3, .null] [] S (eV T) := by
  unfold f_X12_readStatement_154 at hf
  refine r_aload_n dX12_readStatement_154 rfl ?_
  obtain ⟨x1, h2, hf⟩ := bnd hf
  refine r_getR dX12_readStatement_155 fs12_64_11 rfl h2 ?_
  refine r_bipush (v := 9) dX12_readStatement_158 (by decide) ?_
  refine r_iload_n dX12_readStatement_160 rfl ?_
  refine r_imul dX12_readStatement_161 ?_
  refine r_iload_n dX12_readStatement_162 rfl ?_
  refine r_iadd dX12_readStatement_163 ?_
  refine r_aload_n dX12_readStatement_164 rfl ?_
  refine r_iload_n dX12_readStatement_165 rfl ?_
  refine r_bipush (v := 104) dX12_readStatement_166 (by decide) ?_
  refine r_icmp_ne (tgt := 175) dX12_readStatement_168 (by decide) (fun c3 => ?_) (fun c3 => ?_)
  · replace hf := (if_neg c3).symm.trans hf
    refine r_iconst (v := 2) dX12_readStatement_175 (by decide) ?_
    refine r_lvs (lv' := [.ref l0, .null, .null, .null, .null]) ⟨Or.inl rfl, Or.inr rfl, Or.inr rfl, Or.inr rfl, Or.inl rfl, trivial⟩ ?_
    exact t_X12_readStatement_176 _ _ _ _ _ _ _ hf
  · replace hf := (if_pos c3).symm.trans hf
    refine r_iconst (v := 3) dX12_readStatement_171 (by decide) ?_
    refine r_goto (tgt := 176) dX12_readStatement_172 (by decide) ?_
    refine r_lvs (lv' := [.ref l0, .null, .null, .null, .null]) ⟨Or.inl rfl, Or.inr rfl, Or.inr rfl, Or.inr rfl, Or.inl rfl, trivial⟩ ?_
    exact t_X12_readStatement_176 _ _ _ _ _ _ _ hf
set_option maxRecDepth 20000 in
theorem t_X12_readStatement_114 {G : Gt} {l : Launch} : ∀ (n : Nat) (S : Mm) (l0 : Nat) (l1 : Int32) (l2 : Int32) (l3 : Int32) (l4 : Int32) (T : Mm), f_X12_readStatement_114 n S l0 l1 l2 l3 l4 = some T → Sat G l yX12_readStatement cX12_readStatement 5 none 3 0 0 0 0 114 [.ref l0, .int l1, .int l2, .int l3, .int l4] [] S (eV T) := by
  intro n
  induction n with
  | zero =>
    intro S l0 l1 l2 l3 l4 T hf
    rw [f_X12_readStatement_114] at hf
    cases hf
  | succ n ih =>
    intro S l0 l1 l2 l3 l4 T hf
    rw [f_X12_readStatement_114] at hf
    refine r_iload dX12_readStatement_114 rfl ?_
    refine r_iload_n dX12_readStatement_116 rfl ?_
    refine r_icmp_ge (tgt := 142) dX12_readStatement_117 (by decide) (fun c1 => ?_) (fun c1 => ?_)
    · replace hf := (if_pos c1).symm.trans hf
      refine r_iload_n dX12_readStatement_142 rfl ?_
      refine r_bipush (v := 104) dX12_readStatement_143 (by decide) ?_
      refine r_icmp_eq (tgt := 154) dX12_readStatement_145 (by decide) (fun c2 => ?_) (fun c2 => ?_)
      · replace hf := (if_pos c2).symm.trans hf
        refine r_lvs (lv' := [.ref l0, .int l1, .int l2, .int l3, .null]) ⟨Or.inl rfl, Or.inl rfl, Or.inl rfl, Or.inl rfl, Or.inr rfl, trivial⟩ ?_
        exact t_X12_readStatement_154 _ _ _ _ _ _ hf
      · replace hf := (if_neg c2).symm.trans hf
        refine r_iload_n dX12_readStatement_148 rfl ?_
        refine r_bipush (v := 100) dX12_readStatement_149 (by decide) ?_
        refine r_icmp_ne (tgt := 180) dX12_readStatement_151 (by decide) (fun c3 => ?_) (fun c3 => ?_)
        · replace hf := (if_neg c3).symm.trans hf
          refine r_lvs (lv' := [.ref l0, .null, .null, .null, .null]) ⟨Or.inl rfl, Or.inr rfl, Or.inr rfl, Or.inr rfl, Or.inr rfl, trivial⟩ ?_
          exact t_X12_readStatement_180 _ _ _ hf
        · replace hf := (if_pos c3).symm.trans hf
          refine r_lvs (lv' := [.ref l0, .int l1, .int l2, .int l3, .null]) ⟨Or.inl rfl, Or.inl rfl, Or.inl rfl, Or.inl rfl, Or.inr rfl, trivial⟩ ?_
          exact t_X12_readStatement_154 _ _ _ _ _ _ hf
    · replace hf := (if_neg c1).symm.trans hf
      refine r_aload_n dX12_readStatement_120 rfl ?_
      obtain ⟨x4, h5, hf⟩ := bnd hf
      refine r_getR dX12_readStatement_121 fs12_64_11 rfl h5 ?_
      refine r_bipush (v := 9) dX12_readStatement_124 (by decide) ?_
      refine r_iload_n dX12_readStatement_126 rfl ?_
      refine r_imul dX12_readStatement_127 ?_
      refine r_iload dX12_readStatement_128 rfl ?_
      refine r_iadd dX12_readStatement_130 ?_
      refine r_aload_n dX12_readStatement_131 rfl ?_
      obtain ⟨q6, h7, hf⟩ := bnd hf
      refine r_callVi (st := [.int ((9 * l1) + l4), .ref x4]) (as := []) dX12_readStatement_132 ms_X12_readDigit ⟨rfl, w4_139, w4_141, w0_24⟩ (ok_X12_readDigit h7) (c_X12_readDigit h7) rfl ⟨by omega, by omega⟩ (Nat.le_of_ble_eq_true rfl) (by decide) (by decide) rfl ?_
      obtain ⟨S8, h9, hf⟩ := bnd hf
      refine r_iastore dX12_readStatement_135 h9 ?_
      refine r_iinc (v := 1) (lv' := [.ref l0, .int l1, .int l2, .int l3, .int (l4 + 1)]) dX12_readStatement_136 rfl (by decide) (by decide) rfl rfl ?_
      refine r_goto (tgt := 114) dX12_readStatement_139 (by decide) ?_
      exact ih _ _ _ _ _ _ _ hf
set_option maxRecDepth 20000 in
theorem t_X12_readStatement_110 {G : Gt} {l : Launch} (S : Mm) (l0 : Nat) (l1 : Int32) (l2 : Int32) (s0 : Int32) (T : Mm) (hf : f_X12_readStatement_110 S l0 l1 l2 s0 = some T) : Sat G l yX12_readStatement cX12_readStatement 5 none 3 0 0 0 0 110 [.ref l0, .int l1, .int l2, .null, .null] [.int s0] S (eV T) := by
  unfold f_X12_readStatement_110 at hf
  refine r_istore_n (lv' := [.ref l0, .int l1, .int l2, .int s0, .null]) dX12_readStatement_110 (by decide) rfl rfl ?_
  refine r_iconst (v := 0) dX12_readStatement_111 (by decide) ?_
  refine r_istore (lv' := [.ref l0, .int l1, .int l2, .int s0, .int 0]) dX12_readStatement_112 (by decide) rfl rfl ?_
  exact t_X12_readStatement_114 FU _ _ _ _ _ _ _ hf
set_option maxRecDepth 20000 in
theorem t_X12_readStatement_84 {G : Gt} {l : Launch} (S : Mm) (l0 : Nat) (l1 : Int32) (l2 : Int32) (s0 : Nat) (s1 : Int32) (s2 : Int32) (T : Mm) (hf : f_X12_readStatement_84 S l0 l1 l2 s0 s1 s2 = some T) : Sat G l yX12_readStatement cX12_readStatement 5 none 3 0 0 0 0 84 [.ref l0, .int l1, .int l2, .null, .null] [.int s2, .int s1, .ref s0] S (eV T) := by
  unfold f_X12_readStatement_84 at hf
  refine r_iadd dX12_readStatement_84 ?_
  obtain ⟨S1, h2, hf⟩ := bnd hf
  refine r_putI dX12_readStatement_85 fs12_169_11 rfl h2 ?_
  refine r_iload_n dX12_readStatement_88 rfl ?_
  refine r_bipush (v := 104) dX12_readStatement_89 (by decide) ?_
  refine r_icmp_ne (tgt := 99) dX12_readStatement_91 (by decide) (fun c3 => ?_) (fun c3 => ?_)
  · replace hf := (if_neg c3).symm.trans hf
    refine r_iload_n dX12_readStatement_99 rfl ?_
    refine r_bipush (v := 108) dX12_readStatement_100 (by decide) ?_
    refine r_icmp_ne (tgt := 109) dX12_readStatement_102 (by decide) (fun c4 => ?_) (fun c4 => ?_)
    · replace hf := (if_neg c4).symm.trans hf
      refine r_iconst (v := 2) dX12_readStatement_109 (by decide) ?_
      exact t_X12_readStatement_110 _ _ _ _ _ _ hf
    · replace hf := (if_pos c4).symm.trans hf
      refine r_iconst (v := 1) dX12_readStatement_105 (by decide) ?_
      refine r_goto (tgt := 110) dX12_readStatement_106 (by decide) ?_
      exact t_X12_readStatement_110 _ _ _ _ _ _ hf
  · replace hf := (if_pos c3).symm.trans hf
    refine r_bipush (v := 8) dX12_readStatement_94 (by decide) ?_
    refine r_goto (tgt := 110) dX12_readStatement_96 (by decide) ?_
    exact t_X12_readStatement_110 _ _ _ _ _ _ hf
set_option maxRecDepth 20000 in
theorem t_X12_readStatement_64 {G : Gt} {l : Launch} (S : Mm) (l0 : Nat) (l1 : Int32) (l2 : Int32) (s0 : Nat) (s1 : Int32) (T : Mm) (hf : f_X12_readStatement_64 S l0 l1 l2 s0 s1 = some T) : Sat G l yX12_readStatement cX12_readStatement 5 none 3 0 0 0 0 64 [.ref l0, .int l1, .int l2, .null, .null] [.int s1, .ref s0] S (eV T) := by
  unfold f_X12_readStatement_64 at hf
  obtain ⟨S1, h2, hf⟩ := bnd hf
  refine r_putB dX12_readStatement_64 fs12_172_11 rfl h2 ?_
  refine r_aload_n dX12_readStatement_67 rfl ?_
  refine r_dup dX12_readStatement_68 rfl ?_
  obtain ⟨x3, h4, hf⟩ := bnd hf
  refine r_getI dX12_readStatement_69 fs12_169_11 rfl h4 ?_
  refine r_aload_n dX12_readStatement_72 rfl ?_
  obtain ⟨x5, h6, hf⟩ := bnd hf
  refine r_getI dX12_readStatement_73 fs12_172_11 rfl h6 ?_
  refine r_if_eq (tgt := 83) dX12_readStatement_76 (by decide) (fun c7 => ?_) (fun c7 => ?_)
  · replace hf := (if_pos c7).symm.trans hf
    refine r_iconst (v := 1) dX12_readStatement_83 (by decide) ?_
    exact t_X12_readStatement_84 _ _ _ _ _ _ _ _ hf
  · replace hf := (if_neg c7).symm.trans hf
    refine r_iconst (v := 0) dX12_readStatement_79 (by decide) ?_
    refine r_goto (tgt := 84) dX12_readStatement_80 (by decide) ?_
    exact t_X12_readStatement_84 _ _ _ _ _ _ _ _ hf
set_option maxRecDepth 20000 in
theorem t_X12_readStatement_59 {G : Gt} {l : Launch} (S : Mm) (l0 : Nat) (l1 : Int32) (l2 : Int32) (s0 : Nat) (T : Mm) (hf : f_X12_readStatement_59 S l0 l1 l2 s0 = some T) : Sat G l yX12_readStatement cX12_readStatement 5 none 3 0 0 0 0 59 [.ref l0, .int l1, .int l2, .null, .null] [.ref s0] S (eV T) := by
  unfold f_X12_readStatement_59 at hf
  refine r_iconst (v := 1) dX12_readStatement_59 (by decide) ?_
  refine r_goto (tgt := 64) dX12_readStatement_60 (by decide) ?_
  exact t_X12_readStatement_64 _ _ _ _ _ _ _ hf
set_option maxRecDepth 20000 in
theorem t_X12_readStatement_63 {G : Gt} {l : Launch} (S : Mm) (l0 : Nat) (l1 : Int32) (l2 : Int32) (s0 : Nat) (T : Mm) (hf : f_X12_readStatement_63 S l0 l1 l2 s0 = some T) : Sat G l yX12_readStatement cX12_readStatement 5 none 3 0 0 0 0 63 [.ref l0, .int l1, .int l2, .null, .null] [.ref s0] S (eV T) := by
  unfold f_X12_readStatement_63 at hf
  refine r_iconst (v := 0) dX12_readStatement_63 (by decide) ?_
  exact t_X12_readStatement_64 _ _ _ _ _ _ _ hf
set_option maxRecDepth 20000 in
theorem ok_X12_readStatement {S : Mm} {l0 : Nat} {T : Mm} (hf : f_X12_readStatement S l0 = some T) : okc S l0 11 = true := (oif hf).1
set_option maxRecDepth 20000 in
theorem c_X12_readStatement {G : Gt} {l : Launch} {S : Mm} {l0 : Nat} {T : Mm} (hf : f_X12_readStatement S l0 = some T) : CC G l yX12_readStatement cX12_readStatement 5 none 3 0 0 [.ref l0] S (eV T) := by
  unfold f_X12_readStatement at hf
  replace hf := (oif hf).2
  refine r_body (by decide) rfl (Nat.le_of_ble_eq_true rfl) (by simp) ?_
  refine r_aload_n dX12_readStatement_0 rfl ?_
  obtain ⟨x1, h2, hf⟩ := bnd hf
  refine r_getI dX12_readStatement_1 fs12_186_11 rfl h2 ?_
  refine r_istore_n (lv' := [.ref l0, .int x1, .null, .null, .null]) dX12_readStatement_4 (by decide) rfl rfl ?_
  refine r_aload_n dX12_readStatement_5 rfl ?_
  obtain ⟨q3, h4, hf⟩ := bnd hf
  refine r_callVi (st := []) (as := []) dX12_readStatement_6 ms_X12_here ⟨rfl, w4_135, w4_137, w0_23⟩ (ok_X12_here h4) (c_X12_here h4) rfl ⟨by omega, by omega⟩ (Nat.le_of_ble_eq_true rfl) (by decide) (by decide) rfl ?_
  refine r_istore_n (lv' := [.ref l0, .int x1, .int q3.1, .null, .null]) dX12_readStatement_9 (by decide) rfl rfl ?_
  refine r_aload_n dX12_readStatement_10 rfl ?_
  obtain ⟨x5, h6, hf⟩ := bnd hf
  refine r_getR dX12_readStatement_11 fs12_58_11 rfl h6 ?_
  refine r_iload_n dX12_readStatement_14 rfl ?_
  refine r_aload_n dX12_readStatement_15 rfl ?_
  obtain ⟨x7, h8, hf⟩ := bnd hf
  refine r_getI dX12_readStatement_16 fs12_169_11 rfl h8 ?_
  obtain ⟨S9, h10, hf⟩ := bnd hf
  refine r_iastore dX12_readStatement_19 h10 ?_
  refine r_aload_n dX12_readStatement_20 rfl ?_
  obtain ⟨x11, h12, hf⟩ := bnd hf
  refine r_getR dX12_readStatement_21 fs12_61_11 rfl h12 ?_
  refine r_iload_n dX12_readStatement_24 rfl ?_
  refine r_iload_n dX12_readStatement_25 rfl ?_
  obtain ⟨S13, h14, hf⟩ := bnd hf
  refine r_iastore dX12_readStatement_26 h14 ?_
  refine r_aload_n dX12_readStatement_27 rfl ?_
  refine r_aload_n dX12_readStatement_28 rfl ?_
  obtain ⟨x15, h16, hf⟩ := bnd hf
  refine r_getI dX12_readStatement_29 fs12_172_11 rfl h16 ?_
  refine r_if_ne (tgt := 59) dX12_readStatement_32 (by decide) (fun c17 => ?_) (fun c17 => ?_)
  · replace hf := (if_neg c17).symm.trans hf
    exact t_X12_readStatement_59 _ _ _ _ _ _ hf
  · replace hf := (if_pos c17).symm.trans hf
    refine r_iload_n dX12_readStatement_35 rfl ?_
    refine r_bipush (v := 104) dX12_readStatement_36 (by decide) ?_
    refine r_icmp_eq (tgt := 63) dX12_readStatement_38 (by decide) (fun c18 => ?_) (fun c18 => ?_)
    · replace hf := (if_pos c18).symm.trans hf
      exact t_X12_readStatement_63 _ _ _ _ _ _ hf
    · replace hf := (if_neg c18).symm.trans hf
      refine r_iload_n dX12_readStatement_41 rfl ?_
      refine r_bipush (v := 112) dX12_readStatement_42 (by decide) ?_
      refine r_icmp_eq (tgt := 63) dX12_readStatement_44 (by decide) (fun c19 => ?_) (fun c19 => ?_)
      · replace hf := (if_pos c19).symm.trans hf
        exact t_X12_readStatement_63 _ _ _ _ _ _ hf
      · replace hf := (if_neg c19).symm.trans hf
        refine r_iload_n dX12_readStatement_47 rfl ?_
        refine r_bipush (v := 108) dX12_readStatement_48 (by decide) ?_
        refine r_icmp_eq (tgt := 63) dX12_readStatement_50 (by decide) (fun c20 => ?_) (fun c20 => ?_)
        · replace hf := (if_pos c20).symm.trans hf
          exact t_X12_readStatement_63 _ _ _ _ _ _ hf
        · replace hf := (if_neg c20).symm.trans hf
          refine r_iload_n dX12_readStatement_53 rfl ?_
          refine r_bipush (v := 100) dX12_readStatement_54 (by decide) ?_
          refine r_icmp_eq (tgt := 63) dX12_readStatement_56 (by decide) (fun c21 => ?_) (fun c21 => ?_)
          · replace hf := (if_pos c21).symm.trans hf
            exact t_X12_readStatement_63 _ _ _ _ _ _ hf
          · replace hf := (if_neg c21).symm.trans hf
            exact t_X12_readStatement_59 _ _ _ _ _ _ hf
def f_X12_houseComes_49 (S : Mm)  : Option (Int32 × Mm) := some (0, S)
def f_X12_houseComes_211 : Nat → Mm → Nat → Int32 → Int32 → Option (Int32 × Mm)
  | 0, _, _, _, _ => none
  | n + 1, S, l0, l3, l4 => (if 6 ≤ l4 then (gI S 11 l0 0).bind fun x2 => (pI S 11 l0 0 (x2 + 1)).bind fun S4 => some (1, S4) else (gR S 11 l0 13).bind fun x6 => (aS S x6 ((6 * l3) + l4) 0).bind fun S8 => (gR S8 11 l0 13).bind fun x10 => (aS S8 x10 ((6 * l4) + l3) 0).bind fun S12 => (f_X12_houseComes_211 n) S12 l0 l3 (l4 + 1))
def f_X12_houseComes_184 : Nat → Mm → Nat → Int32 → Int32 → Option (Int32 × Mm)
  | 0, _, _, _, _ => none
  | n + 1, S, l0, l3, l4 => (if 3 ≤ l4 then f_X12_houseComes_211 FU S l0 l3 0 else (gR S 11 l0 12).bind fun x2 => (aS S x2 ((3 * l3) + l4) 0).bind fun S4 => (f_X12_houseComes_184 n) S4 l0 l3 (l4 + 1))
def f_X12_houseComes (S : Mm) (l0 : Nat) (l1 : Int32) : Option (Int32 × Mm) := if okc S l0 11 = true then (gR S 11 l0 33).bind fun x1 => (aI S x1 (9 * l1)).bind fun x3 => (if 5 < x3 then f_X12_houseComes_49 S else (gR S 11 l0 33).bind fun x6 => (aI S x6 ((9 * l1) + 4)).bind fun x8 => (if 2 < x8 then f_X12_houseComes_49 S else (gR S 11 l0 33).bind fun x11 => (aI S x11 ((9 * l1) + 6)).bind fun x13 => (if 2 < x13 then f_X12_houseComes_49 S else (gI S 11 l0 0).bind fun x16 => (if x16 = 6 then f_X12_houseComes_49 S else (gI S 11 l0 0).bind fun x19 => (gR S 11 l0 4).bind fun x21 => (gR S 11 l0 33).bind fun x23 => (aI S x23 (9 * l1)).bind fun x25 => (aS S x21 x19 x25).bind fun S27 => (gR S27 11 l0 5).bind fun x29 => (gR S27 11 l0 33).bind fun x31 => (aI S27 x31 ((9 * l1) + 1)).bind fun x33 => (aS S27 x29 x19 x33).bind fun S35 => (gR S35 11 l0 6).bind fun x37 => (gR S35 11 l0 33).bind fun x39 => (aI S35 x39 ((9 * l1) + 2)).bind fun x41 => (gR S35 11 l0 33).bind fun x43 => (aI S35 x43 ((9 * l1) + 3)).bind fun x45 => (aS S35 x37 x19 ((10 * x41) + x45)).bind fun S47 => (gR S47 11 l0 7).bind fun x49 => (gR S47 11 l0 33).bind fun x51 => (aI S47 x51 ((9 * l1) + 4)).bind fun x53 => (aS S47 x49 x19 x53).bind fun S55 => (gR S55 11 l0 8).bind fun x57 => (gR S55 11 l0 33).bind fun x59 => (aI S55 x59 ((9 * l1) + 5)).bind fun x61 => (aS S55 x57 x19 x61).bind fun S63 => (gR S63 11 l0 9).bind fun x65 => (gR S63 11 l0 33).bind fun x67 => (aI S63 x67 ((9 * l1) + 6)).bind fun x69 => (aS S63 x65 x19 x69).bind fun S71 => (gR S71 11 l0 10).bind fun x73 => (gR S71 11 l0 33).bind fun x75 => (aI S71 x75 ((9 * l1) + 7)).bind fun x77 => (aS S71 x73 x19 x77).bind fun S79 => (gR S79 11 l0 11).bind fun x81 => (gR S79 11 l0 33).bind fun x83 => (aI S79 x83 ((9 * l1) + 8)).bind fun x85 => (aS S79 x81 x19 x85).bind fun S87 => f_X12_houseComes_184 FU S87 l0 x19 0)))) else none
set_option maxRecDepth 20000 in
theorem t_X12_houseComes_49 {G : Gt} {l : Launch} (S : Mm)  (T : (Int32 × Mm)) (hf : f_X12_houseComes_49 S  = some T) : Sat G l yX12_houseComes cX12_houseComes 5 (some .boolean) 0 0 0 0 0 49 [.null, .null, .null, .null, .null] [] S (eI T) := by
  unfold f_X12_houseComes_49 at hf
  refine r_iconst (v := 0) dX12_houseComes_49 (by decide) ?_
  have hz := congrArg eI (Option.some.inj hf)
  exact r_zreturn (x' := 0) dX12_houseComes_50 rfl (Nat.le_of_ble_eq_true rfl) (Nat.le_of_ble_eq_true rfl) rfl hz
set_option maxRecDepth 20000 in
theorem t_X12_houseComes_211 {G : Gt} {l : Launch} : ∀ (n : Nat) (S : Mm) (l0 : Nat) (l3 : Int32) (l4 : Int32) (T : (Int32 × Mm)), f_X12_houseComes_211 n S l0 l3 l4 = some T → Sat G l yX12_houseComes cX12_houseComes 5 (some .boolean) 0 0 0 0 0 211 [.ref l0, .null, .null, .int l3, .int l4] [] S (eI T) := by
  intro n
  induction n with
  | zero =>
    intro S l0 l3 l4 T hf
    rw [f_X12_houseComes_211] at hf
    cases hf
  | succ n ih =>
    intro S l0 l3 l4 T hf
    rw [f_X12_houseComes_211] at hf
    refine r_iload dX12_houseComes_211 rfl ?_
    refine r_bipush (v := 6) dX12_houseComes_213 (by decide) ?_
    refine r_icmp_ge (tgt := 250) dX12_houseComes_215 (by decide) (fun c1 => ?_) (fun c1 => ?_)
    · replace hf := (if_pos c1).symm.trans hf
      refine r_aload_n dX12_houseComes_250 rfl ?_
      refine r_dup dX12_houseComes_251 rfl ?_
      obtain ⟨x2, h3, hf⟩ := bnd hf
      refine r_getI dX12_houseComes_252 fs12_77_11 rfl h3 ?_
      refine r_iconst (v := 1) dX12_houseComes_255 (by decide) ?_
      refine r_iadd dX12_houseComes_256 ?_
      obtain ⟨S4, h5, hf⟩ := bnd hf
      refine r_putI dX12_houseComes_257 fs12_77_11 rfl h5 ?_
      refine r_iconst (v := 1) dX12_houseComes_260 (by decide) ?_
      have hz := congrArg eI (Option.some.inj hf)
      exact r_zreturn (x' := 1) dX12_houseComes_261 rfl (Nat.le_of_ble_eq_true rfl) (Nat.le_of_ble_eq_true rfl) rfl hz
    · replace hf := (if_neg c1).symm.trans hf
      refine r_aload_n dX12_houseComes_218 rfl ?_
      obtain ⟨x6, h7, hf⟩ := bnd hf
      refine r_getR dX12_houseComes_219 fs12_37_11 rfl h7 ?_
      refine r_bipush (v := 6) dX12_houseComes_222 (by decide) ?_
      refine r_iload_n dX12_houseComes_224 rfl ?_
      refine r_imul dX12_houseComes_225 ?_
      refine r_iload dX12_houseComes_226 rfl ?_
      refine r_iadd dX12_houseComes_228 ?_
      refine r_iconst (v := 0) dX12_houseComes_229 (by decide) ?_
      obtain ⟨S8, h9, hf⟩ := bnd hf
      refine r_iastore dX12_houseComes_230 h9 ?_
      refine r_aload_n dX12_houseComes_231 rfl ?_
      obtain ⟨x10, h11, hf⟩ := bnd hf
      refine r_getR dX12_houseComes_232 fs12_37_11 rfl h11 ?_
      refine r_bipush (v := 6) dX12_houseComes_235 (by decide) ?_
      refine r_iload dX12_houseComes_237 rfl ?_
      refine r_imul dX12_houseComes_239 ?_
      refine r_iload_n dX12_houseComes_240 rfl ?_
      refine r_iadd dX12_houseComes_241 ?_
      refine r_iconst (v := 0) dX12_houseComes_242 (by decide) ?_
      obtain ⟨S12, h13, hf⟩ := bnd hf
      refine r_iastore dX12_houseComes_243 h13 ?_
      refine r_iinc (v := 1) (lv' := [.ref l0, .null, .null, .int l3, .int (l4 + 1)]) dX12_houseComes_244 rfl (by decide) (by decide) rfl rfl ?_
      refine r_goto (tgt := 211) dX12_houseComes_247 (by decide) ?_
      exact ih _ _ _ _ _ hf
set_option maxRecDepth 20000 in
theorem t_X12_houseComes_184 {G : Gt} {l : Launch} : ∀ (n : Nat) (S : Mm) (l0 : Nat) (l3 : Int32) (l4 : Int32) (T : (Int32 × Mm)), f_X12_houseComes_184 n S l0 l3 l4 = some T → Sat G l yX12_houseComes cX12_houseComes 5 (some .boolean) 0 0 0 0 0 184 [.ref l0, .null, .null, .int l3, .int l4] [] S (eI T) := by
  intro n
  induction n with
  | zero =>
    intro S l0 l3 l4 T hf
    rw [f_X12_houseComes_184] at hf
    cases hf
  | succ n ih =>
    intro S l0 l3 l4 T hf
    rw [f_X12_houseComes_184] at hf
    refine r_iload dX12_houseComes_184 rfl ?_
    refine r_iconst (v := 3) dX12_houseComes_186 (by decide) ?_
    refine r_icmp_ge (tgt := 208) dX12_houseComes_187 (by decide) (fun c1 => ?_) (fun c1 => ?_)
    · replace hf := (if_pos c1).symm.trans hf
      refine r_iconst (v := 0) dX12_houseComes_208 (by decide) ?_
      refine r_istore (lv' := [.ref l0, .null, .null, .int l3, .int 0]) dX12_houseComes_209 (by decide) rfl rfl ?_
      exact t_X12_houseComes_211 FU _ _ _ _ _ hf
    · replace hf := (if_neg c1).symm.trans hf
      refine r_aload_n dX12_houseComes_190 rfl ?_
      obtain ⟨x2, h3, hf⟩ := bnd hf
      refine r_getR dX12_houseComes_191 fs12_34_11 rfl h3 ?_
      refine r_iconst (v := 3) dX12_houseComes_194 (by decide) ?_
      refine r_iload_n dX12_houseComes_195 rfl ?_
      refine r_imul dX12_houseComes_196 ?_
      refine r_iload dX12_houseComes_197 rfl ?_
      refine r_iadd dX12_houseComes_199 ?_
      refine r_iconst (v := 0) dX12_houseComes_200 (by decide) ?_
      obtain ⟨S4, h5, hf⟩ := bnd hf
      refine r_iastore dX12_houseComes_201 h5 ?_
      refine r_iinc (v := 1) (lv' := [.ref l0, .null, .null, .int l3, .int (l4 + 1)]) dX12_houseComes_202 rfl (by decide) (by decide) rfl rfl ?_
      refine r_goto (tgt := 184) dX12_houseComes_205 (by decide) ?_
      exact ih _ _ _ _ _ hf
set_option maxRecDepth 20000 in
theorem ok_X12_houseComes {S : Mm} {l0 : Nat} {l1 : Int32} {T : (Int32 × Mm)} (hf : f_X12_houseComes S l0 l1 = some T) : okc S l0 11 = true := (oif hf).1
set_option maxRecDepth 20000 in
theorem c_X12_houseComes {G : Gt} {l : Launch} {S : Mm} {l0 : Nat} {l1 : Int32} {T : (Int32 × Mm)} (hf : f_X12_houseComes S l0 l1 = some T) : CC G l yX12_houseComes cX12_houseComes 5 (some .boolean) 0 0 0 [.ref l0, .int l1] S (eI T) := by
  unfold f_X12_houseComes at hf
  replace hf := (oif hf).2
  refine r_body (by decide) rfl (Nat.le_of_ble_eq_true rfl) (by simp) ?_
  refine r_bipush (v := 9) dX12_houseComes_0 (by decide) ?_
  refine r_iload_n dX12_houseComes_2 rfl ?_
  refine r_imul dX12_houseComes_3 ?_
  refine r_istore_n (lv' := [.ref l0, .int l1, .int (9 * l1), .null, .null]) dX12_houseComes_4 (by decide) rfl rfl ?_
  refine r_aload_n dX12_houseComes_5 rfl ?_
  obtain ⟨x1, h2, hf⟩ := bnd hf
  refine r_getR dX12_houseComes_6 fs12_64_11 rfl h2 ?_
  refine r_iload_n dX12_houseComes_9 rfl ?_
  obtain ⟨x3, h4, hf⟩ := bnd hf
  refine r_iaload dX12_houseComes_10 h4 ?_
  refine r_iconst (v := 5) dX12_houseComes_11 (by decide) ?_
  refine r_icmp_gt (tgt := 49) dX12_houseComes_12 (by decide) (fun c5 => ?_) (fun c5 => ?_)
  · replace hf := (if_pos c5).symm.trans hf
    refine r_lvs (lv' := [.null, .null, .null, .null, .null]) ⟨Or.inr rfl, Or.inr rfl, Or.inr rfl, Or.inl rfl, Or.inl rfl, trivial⟩ ?_
    exact t_X12_houseComes_49 _ _ hf
  · replace hf := (if_neg c5).symm.trans hf
    refine r_aload_n dX12_houseComes_15 rfl ?_
    obtain ⟨x6, h7, hf⟩ := bnd hf
    refine r_getR dX12_houseComes_16 fs12_64_11 rfl h7 ?_
    refine r_iload_n dX12_houseComes_19 rfl ?_
    refine r_iconst (v := 4) dX12_houseComes_20 (by decide) ?_
    refine r_iadd dX12_houseComes_21 ?_
    obtain ⟨x8, h9, hf⟩ := bnd hf
    refine r_iaload dX12_houseComes_22 h9 ?_
    refine r_iconst (v := 2) dX12_houseComes_23 (by decide) ?_
    refine r_icmp_gt (tgt := 49) dX12_houseComes_24 (by decide) (fun c10 => ?_) (fun c10 => ?_)
    · replace hf := (if_pos c10).symm.trans hf
      refine r_lvs (lv' := [.null, .null, .null, .null, .null]) ⟨Or.inr rfl, Or.inr rfl, Or.inr rfl, Or.inl rfl, Or.inl rfl, trivial⟩ ?_
      exact t_X12_houseComes_49 _ _ hf
    · replace hf := (if_neg c10).symm.trans hf
      refine r_aload_n dX12_houseComes_27 rfl ?_
      obtain ⟨x11, h12, hf⟩ := bnd hf
      refine r_getR dX12_houseComes_28 fs12_64_11 rfl h12 ?_
      refine r_iload_n dX12_houseComes_31 rfl ?_
      refine r_bipush (v := 6) dX12_houseComes_32 (by decide) ?_
      refine r_iadd dX12_houseComes_34 ?_
      obtain ⟨x13, h14, hf⟩ := bnd hf
      refine r_iaload dX12_houseComes_35 h14 ?_
      refine r_iconst (v := 2) dX12_houseComes_36 (by decide) ?_
      refine r_icmp_gt (tgt := 49) dX12_houseComes_37 (by decide) (fun c15 => ?_) (fun c15 => ?_)
      · replace hf := (if_pos c15).symm.trans hf
        refine r_lvs (lv' := [.null, .null, .null, .null, .null]) ⟨Or.inr rfl, Or.inr rfl, Or.inr rfl, Or.inl rfl, Or.inl rfl, trivial⟩ ?_
        exact t_X12_houseComes_49 _ _ hf
      · replace hf := (if_neg c15).symm.trans hf
        refine r_aload_n dX12_houseComes_40 rfl ?_
        obtain ⟨x16, h17, hf⟩ := bnd hf
        refine r_getI dX12_houseComes_41 fs12_77_11 rfl h17 ?_
        refine r_bipush (v := 6) dX12_houseComes_44 (by decide) ?_
        refine r_icmp_ne (tgt := 51) dX12_houseComes_46 (by decide) (fun c18 => ?_) (fun c18 => ?_)
        · replace hf := (if_neg c18).symm.trans hf
          refine r_aload_n dX12_houseComes_51 rfl ?_
          obtain ⟨x19, h20, hf⟩ := bnd hf
          refine r_getI dX12_houseComes_52 fs12_77_11 rfl h20 ?_
          refine r_istore_n (lv' := [.ref l0, .int l1, .int (9 * l1), .int x19, .null]) dX12_houseComes_55 (by decide) rfl rfl ?_
          refine r_aload_n dX12_houseComes_56 rfl ?_
          obtain ⟨x21, h22, hf⟩ := bnd hf
          refine r_getR dX12_houseComes_57 fs12_7_11 rfl h22 ?_
          refine r_iload_n dX12_houseComes_60 rfl ?_
          refine r_aload_n dX12_houseComes_61 rfl ?_
          obtain ⟨x23, h24, hf⟩ := bnd hf
          refine r_getR dX12_houseComes_62 fs12_64_11 rfl h24 ?_
          refine r_iload_n dX12_houseComes_65 rfl ?_
          obtain ⟨x25, h26, hf⟩ := bnd hf
          refine r_iaload dX12_houseComes_66 h26 ?_
          obtain ⟨S27, h28, hf⟩ := bnd hf
          refine r_iastore dX12_houseComes_67 h28 ?_
          refine r_aload_n dX12_houseComes_68 rfl ?_
          obtain ⟨x29, h30, hf⟩ := bnd hf
          refine r_getR dX12_houseComes_69 fs12_13_11 rfl h30 ?_
          refine r_iload_n dX12_houseComes_72 rfl ?_
          refine r_aload_n dX12_houseComes_73 rfl ?_
          obtain ⟨x31, h32, hf⟩ := bnd hf
          refine r_getR dX12_houseComes_74 fs12_64_11 rfl h32 ?_
          refine r_iload_n dX12_houseComes_77 rfl ?_
          refine r_iconst (v := 1) dX12_houseComes_78 (by decide) ?_
          refine r_iadd dX12_houseComes_79 ?_
          obtain ⟨x33, h34, hf⟩ := bnd hf
          refine r_iaload dX12_houseComes_80 h34 ?_
          obtain ⟨S35, h36, hf⟩ := bnd hf
          refine r_iastore dX12_houseComes_81 h36 ?_
          refine r_aload_n dX12_houseComes_82 rfl ?_
          obtain ⟨x37, h38, hf⟩ := bnd hf
          refine r_getR dX12_houseComes_83 fs12_16_11 rfl h38 ?_
          refine r_iload_n dX12_houseComes_86 rfl ?_
          refine r_bipush (v := 10) dX12_houseComes_87 (by decide) ?_
          refine r_aload_n dX12_houseComes_89 rfl ?_
          obtain ⟨x39, h40, hf⟩ := bnd hf
          refine r_getR dX12_houseComes_90 fs12_64_11 rfl h40 ?_
          refine r_iload_n dX12_houseComes_93 rfl ?_
          refine r_iconst (v := 2) dX12_houseComes_94 (by decide) ?_
          refine r_iadd dX12_houseComes_95 ?_
          obtain ⟨x41, h42, hf⟩ := bnd hf
          refine r_iaload dX12_houseComes_96 h42 ?_
          refine r_imul dX12_houseComes_97 ?_
          refine r_aload_n dX12_houseComes_98 rfl ?_
          obtain ⟨x43, h44, hf⟩ := bnd hf
          refine r_getR dX12_houseComes_99 fs12_64_11 rfl h44 ?_
          refine r_iload_n dX12_houseComes_102 rfl ?_
          refine r_iconst (v := 3) dX12_houseComes_103 (by decide) ?_
          refine r_iadd dX12_houseComes_104 ?_
          obtain ⟨x45, h46, hf⟩ := bnd hf
          refine r_iaload dX12_houseComes_105 h46 ?_
          refine r_iadd dX12_houseComes_106 ?_
          obtain ⟨S47, h48, hf⟩ := bnd hf
          refine r_iastore dX12_houseComes_107 h48 ?_
          refine r_aload_n dX12_houseComes_108 rfl ?_
          obtain ⟨x49, h50, hf⟩ := bnd hf
          refine r_getR dX12_houseComes_109 fs12_19_11 rfl h50 ?_
          refine r_iload_n dX12_houseComes_112 rfl ?_
          refine r_aload_n dX12_houseComes_113 rfl ?_
          obtain ⟨x51, h52, hf⟩ := bnd hf
          refine r_getR dX12_houseComes_114 fs12_64_11 rfl h52 ?_
          refine r_iload_n dX12_houseComes_117 rfl ?_
          refine r_iconst (v := 4) dX12_houseComes_118 (by decide) ?_
          refine r_iadd dX12_houseComes_119 ?_
          obtain ⟨x53, h54, hf⟩ := bnd hf
          refine r_iaload dX12_houseComes_120 h54 ?_
          obtain ⟨S55, h56, hf⟩ := bnd hf
          refine r_iastore dX12_houseComes_121 h56 ?_
          refine r_aload_n dX12_houseComes_122 rfl ?_
          obtain ⟨x57, h58, hf⟩ := bnd hf
          refine r_getR dX12_houseComes_123 fs12_22_11 rfl h58 ?_
          refine r_iload_n dX12_houseComes_126 rfl ?_
          refine r_aload_n dX12_houseComes_127 rfl ?_
          obtain ⟨x59, h60, hf⟩ := bnd hf
          refine r_getR dX12_houseComes_128 fs12_64_11 rfl h60 ?_
          refine r_iload_n dX12_houseComes_131 rfl ?_
          refine r_iconst (v := 5) dX12_houseComes_132 (by decide) ?_
          refine r_iadd dX12_houseComes_133 ?_
          obtain ⟨x61, h62, hf⟩ := bnd hf
          refine r_iaload dX12_houseComes_134 h62 ?_
          obtain ⟨S63, h64, hf⟩ := bnd hf
          refine r_iastore dX12_houseComes_135 h64 ?_
          refine r_aload_n dX12_houseComes_136 rfl ?_
          obtain ⟨x65, h66, hf⟩ := bnd hf
          refine r_getR dX12_houseComes_137 fs12_25_11 rfl h66 ?_
          refine r_iload_n dX12_houseComes_140 rfl ?_
          refine r_aload_n dX12_houseComes_141 rfl ?_
          obtain ⟨x67, h68, hf⟩ := bnd hf
          refine r_getR dX12_houseComes_142 fs12_64_11 rfl h68 ?_
          refine r_iload_n dX12_houseComes_145 rfl ?_
          refine r_bipush (v := 6) dX12_houseComes_146 (by decide) ?_
          refine r_iadd dX12_houseComes_148 ?_
          obtain ⟨x69, h70, hf⟩ := bnd hf
          refine r_iaload dX12_houseComes_149 h70 ?_
          obtain ⟨S71, h72, hf⟩ := bnd hf
          refine r_iastore dX12_houseComes_150 h72 ?_
          refine r_aload_n dX12_houseComes_151 rfl ?_
          obtain ⟨x73, h74, hf⟩ := bnd hf
          refine r_getR dX12_houseComes_152 fs12_28_11 rfl h74 ?_
          refine r_iload_n dX12_houseComes_155 rfl ?_
          refine r_aload_n dX12_houseComes_156 rfl ?_
          obtain ⟨x75, h76, hf⟩ := bnd hf
          refine r_getR dX12_houseComes_157 fs12_64_11 rfl h76 ?_
          refine r_iload_n dX12_houseComes_160 rfl ?_
          refine r_bipush (v := 7) dX12_houseComes_161 (by decide) ?_
          refine r_iadd dX12_houseComes_163 ?_
          obtain ⟨x77, h78, hf⟩ := bnd hf
          refine r_iaload dX12_houseComes_164 h78 ?_
          obtain ⟨S79, h80, hf⟩ := bnd hf
          refine r_iastore dX12_houseComes_165 h80 ?_
          refine r_aload_n dX12_houseComes_166 rfl ?_
          obtain ⟨x81, h82, hf⟩ := bnd hf
          refine r_getR dX12_houseComes_167 fs12_31_11 rfl h82 ?_
          refine r_iload_n dX12_houseComes_170 rfl ?_
          refine r_aload_n dX12_houseComes_171 rfl ?_
          obtain ⟨x83, h84, hf⟩ := bnd hf
          refine r_getR dX12_houseComes_172 fs12_64_11 rfl h84 ?_
          refine r_iload_n dX12_houseComes_175 rfl ?_
          refine r_bipush (v := 8) dX12_houseComes_176 (by decide) ?_
          refine r_iadd dX12_houseComes_178 ?_
          obtain ⟨x85, h86, hf⟩ := bnd hf
          refine r_iaload dX12_houseComes_179 h86 ?_
          obtain ⟨S87, h88, hf⟩ := bnd hf
          refine r_iastore dX12_houseComes_180 h88 ?_
          refine r_iconst (v := 0) dX12_houseComes_181 (by decide) ?_
          refine r_istore (lv' := [.ref l0, .int l1, .int (9 * l1), .int x19, .int 0]) dX12_houseComes_182 (by decide) rfl rfl ?_
          refine r_lvs (lv' := [.ref l0, .null, .null, .int x19, .int 0]) ⟨Or.inl rfl, Or.inr rfl, Or.inr rfl, Or.inl rfl, Or.inl rfl, trivial⟩ ?_
          exact t_X12_houseComes_184 FU _ _ _ _ _ hf
        · replace hf := (if_pos c18).symm.trans hf
          refine r_lvs (lv' := [.null, .null, .null, .null, .null]) ⟨Or.inr rfl, Or.inr rfl, Or.inr rfl, Or.inl rfl, Or.inl rfl, trivial⟩ ?_
          exact t_X12_houseComes_49 _ _ hf
def f_X12_comes_95 (S : Mm) (l4 : Int32) (s0 : Nat) (s1 : Int32) (s2 : Int32) : Option (Int32 × Mm) := (aS S s0 s1 s2).bind fun S1 => (rB l4).bind fun x3 => some (x3, S1)
def f_X12_comes_80 (S : Mm) (l0 : Nat) (l3 : Int32) (l4 : Int32) (s0 : Nat) (s1 : Int32) : Option (Int32 × Mm) := (if l4 = 0 then (gR S 11 l0 14).bind fun x2 => (aI S x2 0).bind fun x4 => f_X12_comes_95 S l4 s0 s1 x4 else f_X12_comes_95 S l4 s0 s1 l3)
def f_X12_comes_64 (S : Mm) (l0 : Nat) (l2 : Int32) (l3 : Int32) (s0 : Int32) : Option (Int32 × Mm) := (gR S 11 l0 14).bind fun x1 => (if s0 = 0 then f_X12_comes_80 S l0 l3 s0 x1 0 else f_X12_comes_80 S l0 l3 s0 x1 l2)
def f_X12_comes_63 (S : Mm) (l0 : Nat) (l2 : Int32) (l3 : Int32) : Option (Int32 × Mm) := f_X12_comes_64 S l0 l2 l3 0
def f_X12_comes_125 (S : Mm) (s0 : Int32) : Option (Int32 × Mm) := (rB s0).bind fun x1 => some (x1, S)
def f_X12_comes_161 (S : Mm) (l4 : Int32) : Option (Int32 × Mm) := (rB l4).bind fun x1 => some (x1, S)
def f_X12_comes (S : Mm) (l0 : Nat) (l1 : Int32) : Option (Int32 × Mm) := if okc S l0 11 = true then (gR S 11 l0 33).bind fun x1 => (aI S x1 (9 * l1)).bind fun x3 => (gR S 11 l0 33).bind fun x5 => (aI S x5 ((9 * l1) + 1)).bind fun x7 => (gR S 11 l0 32).bind fun x9 => (aI S x9 l1).bind fun x11 => (if x11 = 104 then (f_X12_houseComes S l0 l1).bind fun q40 => (rB q40.1).bind fun x42 => some (x42, q40.2) else (gR S 11 l0 32).bind fun x14 => (aI S x14 l1).bind fun x16 => (if x16 = 112 then (if 3 ≤ x3 then f_X12_comes_63 S l0 x3 x7 else (if x7 ≤ 0 then f_X12_comes_63 S l0 x3 x7 else f_X12_comes_64 S l0 x3 x7 1)) else (gR S 11 l0 32).bind fun x19 => (aI S x19 l1).bind fun x21 => (if x21 = 108 then (pI S 11 l0 1 x3).bind fun S35 => (if 3 ≤ x3 then f_X12_comes_125 S35 0 else f_X12_comes_125 S35 1) else (f_X12_areTwo S l0 x3 x7).bind fun q24 => (if q24.1 = 0 then f_X12_comes_161 q24.2 q24.1 else (gR q24.2 11 l0 13).bind fun x27 => (gR q24.2 11 l0 33).bind fun x29 => (aI q24.2 x29 ((9 * l1) + 2)).bind fun x31 => (aS q24.2 x27 ((6 * x3) + x7) x31).bind fun S33 => f_X12_comes_161 S33 q24.1)))) else none
set_option maxRecDepth 20000 in
theorem t_X12_comes_95 {G : Gt} {l : Launch} (S : Mm) (l4 : Int32) (s0 : Nat) (s1 : Int32) (s2 : Int32) (T : (Int32 × Mm)) (hf : f_X12_comes_95 S l4 s0 s1 s2 = some T) : Sat G l yX12_comes cX12_comes 5 (some .boolean) 3 0 0 0 0 95 [.null, .null, .null, .null, .int l4] [.int s2, .int s1, .ref s0] S (eI T) := by
  unfold f_X12_comes_95 at hf
  obtain ⟨S1, h2, hf⟩ := bnd hf
  refine r_iastore dX12_comes_95 h2 ?_
  refine r_iload dX12_comes_96 rfl ?_
  obtain ⟨x3, h4, hf⟩ := bnd hf
  have hz := congrArg eI (Option.some.inj hf)
  exact r_zreturn dX12_comes_98 rfl (Nat.le_of_ble_eq_true rfl) (Nat.le_of_ble_eq_true rfl) h4 hz
set_option maxRecDepth 20000 in
theorem t_X12_comes_80 {G : Gt} {l : Launch} (S : Mm) (l0 : Nat) (l3 : Int32) (l4 : Int32) (s0 : Nat) (s1 : Int32) (T : (Int32 × Mm)) (hf : f_X12_comes_80 S l0 l3 l4 s0 s1 = some T) : Sat G l yX12_comes cX12_comes 5 (some .boolean) 3 0 0 0 0 80 [.ref l0, .null, .null, .int l3, .int l4] [.int s1, .ref s0] S (eI T) := by
  unfold f_X12_comes_80 at hf
  refine r_iload dX12_comes_80 rfl ?_
  refine r_if_eq (tgt := 89) dX12_comes_82 (by decide) (fun c1 => ?_) (fun c1 => ?_)
  · replace hf := (if_pos c1).symm.trans hf
    refine r_aload_n dX12_comes_89 rfl ?_
    obtain ⟨x2, h3, hf⟩ := bnd hf
    refine r_getR dX12_comes_90 fs12_40_11 rfl h3 ?_
    refine r_iconst (v := 0) dX12_comes_93 (by decide) ?_
    obtain ⟨x4, h5, hf⟩ := bnd hf
    refine r_iaload dX12_comes_94 h5 ?_
    refine r_lvs (lv' := [.null, .null, .null, .null, .int l4]) ⟨Or.inr rfl, Or.inl rfl, Or.inl rfl, Or.inr rfl, Or.inl rfl, trivial⟩ ?_
    exact t_X12_comes_95 _ _ _ _ _ _ hf
  · replace hf := (if_neg c1).symm.trans hf
    refine r_iload_n dX12_comes_85 rfl ?_
    refine r_goto (tgt := 95) dX12_comes_86 (by decide) ?_
    refine r_lvs (lv' := [.null, .null, .null, .null, .int l4]) ⟨Or.inr rfl, Or.inl rfl, Or.inl rfl, Or.inr rfl, Or.inl rfl, trivial⟩ ?_
    exact t_X12_comes_95 _ _ _ _ _ _ hf
set_option maxRecDepth 20000 in
theorem t_X12_comes_64 {G : Gt} {l : Launch} (S : Mm) (l0 : Nat) (l2 : Int32) (l3 : Int32) (s0 : Int32) (T : (Int32 × Mm)) (hf : f_X12_comes_64 S l0 l2 l3 s0 = some T) : Sat G l yX12_comes cX12_comes 5 (some .boolean) 3 0 0 0 0 64 [.ref l0, .null, .int l2, .int l3, .null] [.int s0] S (eI T) := by
  unfold f_X12_comes_64 at hf
  refine r_istore (lv' := [.ref l0, .null, .int l2, .int l3, .int s0]) dX12_comes_64 (by decide) rfl rfl ?_
  refine r_aload_n dX12_comes_66 rfl ?_
  obtain ⟨x1, h2, hf⟩ := bnd hf
  refine r_getR dX12_comes_67 fs12_40_11 rfl h2 ?_
  refine r_iload dX12_comes_70 rfl ?_
  refine r_if_eq (tgt := 79) dX12_comes_72 (by decide) (fun c3 => ?_) (fun c3 => ?_)
  · replace hf := (if_pos c3).symm.trans hf
    refine r_iconst (v := 0) dX12_comes_79 (by decide) ?_
    refine r_lvs (lv' := [.ref l0, .null, .null, .int l3, .int s0]) ⟨Or.inl rfl, Or.inl rfl, Or.inr rfl, Or.inl rfl, Or.inl rfl, trivial⟩ ?_
    exact t_X12_comes_80 _ _ _ _ _ _ _ hf
  · replace hf := (if_neg c3).symm.trans hf
    refine r_iload_n dX12_comes_75 rfl ?_
    refine r_goto (tgt := 80) dX12_comes_76 (by decide) ?_
    refine r_lvs (lv' := [.ref l0, .null, .null, .int l3, .int s0]) ⟨Or.inl rfl, Or.inl rfl, Or.inr rfl, Or.inl rfl, Or.inl rfl, trivial⟩ ?_
    exact t_X12_comes_80 _ _ _ _ _ _ _ hf
set_option maxRecDepth 20000 in
theorem t_X12_comes_63 {G : Gt} {l : Launch} (S : Mm) (l0 : Nat) (l2 : Int32) (l3 : Int32) (T : (Int32 × Mm)) (hf : f_X12_comes_63 S l0 l2 l3 = some T) : Sat G l yX12_comes cX12_comes 5 (some .boolean) 3 0 0 0 0 63 [.ref l0, .null, .int l2, .int l3, .null] [] S (eI T) := by
  unfold f_X12_comes_63 at hf
  refine r_iconst (v := 0) dX12_comes_63 (by decide) ?_
  exact t_X12_comes_64 _ _ _ _ _ _ hf
set_option maxRecDepth 20000 in
theorem t_X12_comes_125 {G : Gt} {l : Launch} (S : Mm) (s0 : Int32) (T : (Int32 × Mm)) (hf : f_X12_comes_125 S s0 = some T) : Sat G l yX12_comes cX12_comes 5 (some .boolean) 3 0 0 0 0 125 [.null, .null, .null, .null, .null] [.int s0] S (eI T) := by
  unfold f_X12_comes_125 at hf
  obtain ⟨x1, h2, hf⟩ := bnd hf
  have hz := congrArg eI (Option.some.inj hf)
  exact r_zreturn dX12_comes_125 rfl (Nat.le_of_ble_eq_true rfl) (Nat.le_of_ble_eq_true rfl) h2 hz
set_option maxRecDepth 20000 in
theorem t_X12_comes_161 {G : Gt} {l : Launch} (S : Mm) (l4 : Int32) (T : (Int32 × Mm)) (hf : f_X12_comes_161 S l4 = some T) : Sat G l yX12_comes cX12_comes 5 (some .boolean) 3 0 0 0 0 161 [.null, .null, .null, .null, .int l4] [] S (eI T) := by
  unfold f_X12_comes_161 at hf
  refine r_iload dX12_comes_161 rfl ?_
  obtain ⟨x1, h2, hf⟩ := bnd hf
  have hz := congrArg eI (Option.some.inj hf)
  exact r_zreturn dX12_comes_163 rfl (Nat.le_of_ble_eq_true rfl) (Nat.le_of_ble_eq_true rfl) h2 hz
set_option maxRecDepth 20000 in
theorem ok_X12_comes {S : Mm} {l0 : Nat} {l1 : Int32} {T : (Int32 × Mm)} (hf : f_X12_comes S l0 l1 = some T) : okc S l0 11 = true := (oif hf).1
set_option maxRecDepth 20000 in
theorem c_X12_comes {G : Gt} {l : Launch} {S : Mm} {l0 : Nat} {l1 : Int32} {T : (Int32 × Mm)} (hf : f_X12_comes S l0 l1 = some T) : CC G l yX12_comes cX12_comes 5 (some .boolean) 3 0 0 [.ref l0, .int l1] S (eI T) := by
  unfold f_X12_comes at hf
  replace hf := (oif hf).2
  refine r_body (by decide) rfl (Nat.le_of_ble_eq_true rfl) (by simp) ?_
  refine r_aload_n dX12_comes_0 rfl ?_
  obtain ⟨x1, h2, hf⟩ := bnd hf
  refine r_getR dX12_comes_1 fs12_64_11 rfl h2 ?_
  refine r_bipush (v := 9) dX12_comes_4 (by decide) ?_
  refine r_iload_n dX12_comes_6 rfl ?_
  refine r_imul dX12_comes_7 ?_
  obtain ⟨x3, h4, hf⟩ := bnd hf
  refine r_iaload dX12_comes_8 h4 ?_
  refine r_istore_n (lv' := [.ref l0, .int l1, .int x3, .null, .null]) dX12_comes_9 (by decide) rfl rfl ?_
  refine r_aload_n dX12_comes_10 rfl ?_
  obtain ⟨x5, h6, hf⟩ := bnd hf
  refine r_getR dX12_comes_11 fs12_64_11 rfl h6 ?_
  refine r_bipush (v := 9) dX12_comes_14 (by decide) ?_
  refine r_iload_n dX12_comes_16 rfl ?_
  refine r_imul dX12_comes_17 ?_
  refine r_iconst (v := 1) dX12_comes_18 (by decide) ?_
  refine r_iadd dX12_comes_19 ?_
  obtain ⟨x7, h8, hf⟩ := bnd hf
  refine r_iaload dX12_comes_20 h8 ?_
  refine r_istore_n (lv' := [.ref l0, .int l1, .int x3, .int x7, .null]) dX12_comes_21 (by decide) rfl rfl ?_
  refine r_aload_n dX12_comes_22 rfl ?_
  obtain ⟨x9, h10, hf⟩ := bnd hf
  refine r_getR dX12_comes_23 fs12_61_11 rfl h10 ?_
  refine r_iload_n dX12_comes_26 rfl ?_
  obtain ⟨x11, h12, hf⟩ := bnd hf
  refine r_iaload dX12_comes_27 h12 ?_
  refine r_bipush (v := 104) dX12_comes_28 (by decide) ?_
  refine r_icmp_ne (tgt := 39) dX12_comes_30 (by decide) (fun c13 => ?_) (fun c13 => ?_)
  · replace hf := (if_neg c13).symm.trans hf
    refine r_aload_n dX12_comes_39 rfl ?_
    obtain ⟨x14, h15, hf⟩ := bnd hf
    refine r_getR dX12_comes_40 fs12_61_11 rfl h15 ?_
    refine r_iload_n dX12_comes_43 rfl ?_
    obtain ⟨x16, h17, hf⟩ := bnd hf
    refine r_iaload dX12_comes_44 h17 ?_
    refine r_bipush (v := 112) dX12_comes_45 (by decide) ?_
    refine r_icmp_ne (tgt := 99) dX12_comes_47 (by decide) (fun c18 => ?_) (fun c18 => ?_)
    · replace hf := (if_neg c18).symm.trans hf
      refine r_aload_n dX12_comes_99 rfl ?_
      obtain ⟨x19, h20, hf⟩ := bnd hf
      refine r_getR dX12_comes_100 fs12_61_11 rfl h20 ?_
      refine r_iload_n dX12_comes_103 rfl ?_
      obtain ⟨x21, h22, hf⟩ := bnd hf
      refine r_iaload dX12_comes_104 h22 ?_
      refine r_bipush (v := 108) dX12_comes_105 (by decide) ?_
      refine r_icmp_ne (tgt := 126) dX12_comes_107 (by decide) (fun c23 => ?_) (fun c23 => ?_)
      · replace hf := (if_neg c23).symm.trans hf
        refine r_aload_n dX12_comes_126 rfl ?_
        refine r_iload_n dX12_comes_127 rfl ?_
        refine r_iload_n dX12_comes_128 rfl ?_
        obtain ⟨q24, h25, hf⟩ := bnd hf
        refine r_callVi (st := []) (as := [.int x3, .int x7]) dX12_comes_129 ms_X12_areTwo ⟨rfl, w4_164, w4_166, w0_29⟩ (ok_X12_areTwo h25) (c_X12_areTwo h25) rfl ⟨by omega, by omega⟩ (Nat.le_of_ble_eq_true rfl) (by decide) (by decide) rfl ?_
        refine r_istore (lv' := [.ref l0, .int l1, .int x3, .int x7, .int q24.1]) dX12_comes_132 (by decide) rfl rfl ?_
        refine r_iload dX12_comes_134 rfl ?_
        refine r_if_eq (tgt := 161) dX12_comes_136 (by decide) (fun c26 => ?_) (fun c26 => ?_)
        · replace hf := (if_pos c26).symm.trans hf
          refine r_lvs (lv' := [.null, .null, .null, .null, .int q24.1]) ⟨Or.inr rfl, Or.inr rfl, Or.inr rfl, Or.inr rfl, Or.inl rfl, trivial⟩ ?_
          exact t_X12_comes_161 _ _ _ hf
        · replace hf := (if_neg c26).symm.trans hf
          refine r_aload_n dX12_comes_139 rfl ?_
          obtain ⟨x27, h28, hf⟩ := bnd hf
          refine r_getR dX12_comes_140 fs12_37_11 rfl h28 ?_
          refine r_bipush (v := 6) dX12_comes_143 (by decide) ?_
          refine r_iload_n dX12_comes_145 rfl ?_
          refine r_imul dX12_comes_146 ?_
          refine r_iload_n dX12_comes_147 rfl ?_
          refine r_iadd dX12_comes_148 ?_
          refine r_aload_n dX12_comes_149 rfl ?_
          obtain ⟨x29, h30, hf⟩ := bnd hf
          refine r_getR dX12_comes_150 fs12_64_11 rfl h30 ?_
          refine r_bipush (v := 9) dX12_comes_153 (by decide) ?_
          refine r_iload_n dX12_comes_155 rfl ?_
          refine r_imul dX12_comes_156 ?_
          refine r_iconst (v := 2) dX12_comes_157 (by decide) ?_
          refine r_iadd dX12_comes_158 ?_
          obtain ⟨x31, h32, hf⟩ := bnd hf
          refine r_iaload dX12_comes_159 h32 ?_
          obtain ⟨S33, h34, hf⟩ := bnd hf
          refine r_iastore dX12_comes_160 h34 ?_
          refine r_lvs (lv' := [.null, .null, .null, .null, .int q24.1]) ⟨Or.inr rfl, Or.inr rfl, Or.inr rfl, Or.inr rfl, Or.inl rfl, trivial⟩ ?_
          exact t_X12_comes_161 _ _ _ hf
      · replace hf := (if_pos c23).symm.trans hf
        refine r_aload_n dX12_comes_110 rfl ?_
        refine r_iload_n dX12_comes_111 rfl ?_
        obtain ⟨S35, h36, hf⟩ := bnd hf
        refine r_putI dX12_comes_112 fs12_97_11 rfl h36 ?_
        refine r_iload_n dX12_comes_115 rfl ?_
        refine r_iconst (v := 3) dX12_comes_116 (by decide) ?_
        refine r_icmp_ge (tgt := 124) dX12_comes_117 (by decide) (fun c37 => ?_) (fun c37 => ?_)
        · replace hf := (if_pos c37).symm.trans hf
          refine r_iconst (v := 0) dX12_comes_124 (by decide) ?_
          refine r_lvs (lv' := [.null, .null, .null, .null, .null]) ⟨Or.inr rfl, Or.inr rfl, Or.inr rfl, Or.inr rfl, Or.inl rfl, trivial⟩ ?_
          exact t_X12_comes_125 _ _ _ hf
        · replace hf := (if_neg c37).symm.trans hf
          refine r_iconst (v := 1) dX12_comes_120 (by decide) ?_
          refine r_goto (tgt := 125) dX12_comes_121 (by decide) ?_
          refine r_lvs (lv' := [.null, .null, .null, .null, .null]) ⟨Or.inr rfl, Or.inr rfl, Or.inr rfl, Or.inr rfl, Or.inl rfl, trivial⟩ ?_
          exact t_X12_comes_125 _ _ _ hf
    · replace hf := (if_pos c18).symm.trans hf
      refine r_iload_n dX12_comes_50 rfl ?_
      refine r_iconst (v := 3) dX12_comes_51 (by decide) ?_
      refine r_icmp_ge (tgt := 63) dX12_comes_52 (by decide) (fun c38 => ?_) (fun c38 => ?_)
      · replace hf := (if_pos c38).symm.trans hf
        refine r_lvs (lv' := [.ref l0, .null, .int x3, .int x7, .null]) ⟨Or.inl rfl, Or.inr rfl, Or.inl rfl, Or.inl rfl, Or.inl rfl, trivial⟩ ?_
        exact t_X12_comes_63 _ _ _ _ _ hf
      · replace hf := (if_neg c38).symm.trans hf
        refine r_iload_n dX12_comes_55 rfl ?_
        refine r_if_le (tgt := 63) dX12_comes_56 (by decide) (fun c39 => ?_) (fun c39 => ?_)
        · replace hf := (if_pos c39).symm.trans hf
          refine r_lvs (lv' := [.ref l0, .null, .int x3, .int x7, .null]) ⟨Or.inl rfl, Or.inr rfl, Or.inl rfl, Or.inl rfl, Or.inl rfl, trivial⟩ ?_
          exact t_X12_comes_63 _ _ _ _ _ hf
        · replace hf := (if_neg c39).symm.trans hf
          refine r_iconst (v := 1) dX12_comes_59 (by decide) ?_
          refine r_goto (tgt := 64) dX12_comes_60 (by decide) ?_
          refine r_lvs (lv' := [.ref l0, .null, .int x3, .int x7, .null]) ⟨Or.inl rfl, Or.inr rfl, Or.inl rfl, Or.inl rfl, Or.inl rfl, trivial⟩ ?_
          exact t_X12_comes_64 _ _ _ _ _ _ hf
  · replace hf := (if_pos c13).symm.trans hf
    refine r_aload_n dX12_comes_33 rfl ?_
    refine r_iload_n dX12_comes_34 rfl ?_
    obtain ⟨q40, h41, hf⟩ := bnd hf
    refine r_callVi (st := []) (as := [.int l1]) dX12_comes_35 ms_X12_houseComes ⟨rfl, w4_160, w4_162, w0_28⟩ (ok_X12_houseComes h41) (c_X12_houseComes h41) rfl ⟨by omega, by omega⟩ (Nat.le_of_ble_eq_true rfl) (by decide) (by decide) rfl ?_
    obtain ⟨x42, h43, hf⟩ := bnd hf
    have hz := congrArg eI (Option.some.inj hf)
    exact r_zreturn dX12_comes_38 rfl (Nat.le_of_ble_eq_true rfl) (Nat.le_of_ble_eq_true rfl) h43 hz
