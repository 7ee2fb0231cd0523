def f_X12_mountain_45 (k20 : Mm → Nat → Option (Int32 × Mm)) (S : Mm) (l0 : Nat) : Option (Int32 × Mm) := (f_X12_readStatement S l0).bind fun q1 => k20 q1 l0
def f_X12_mountain_79 : Nat → Mm → Nat → Int32 → Option (Int32 × Mm)
  | 0, _, _, _ => none
  | n + 1, S, l0, l1 => (gI S 11 l0 30).bind fun x1 => (if x1 ≤ l1 then (gI S 11 l0 30).bind fun x4 => some (x4, S) else (f_X12_comes S l0 l1).bind fun q6 => (if q6.1 = 0 then (f_X12_close q6.2 l0).bind fun q9 => (gR q9 11 l0 31).bind fun x11 => (aI q9 x11 l1).bind fun x13 => some (((-2000) - x13), q9) else (f_X12_mountain_79 n) q6.2 l0 (l1 + 1)))
def f_X12_mountain_52 (S : Mm) (l0 : Nat) : Option (Int32 × Mm) := (pI S 11 l0 27 0).bind fun S1 => (gI S1 11 l0 29).bind fun x3 => (if x3 = 0 then (f_X12_open S1 l0).bind fun q6 => f_X12_mountain_79 FU q6 l0 0 else (gI S1 11 l0 28).bind fun x8 => some (((-1000) - x8), S1))
def f_X12_mountain_20 : Nat → Mm → Nat → Option (Int32 × Mm)
  | 0, _, _ => none
  | n + 1, S, l0 => (gI S 11 l0 29).bind fun x1 => (if x1 = 0 then (gI S 11 l0 30).bind fun x4 => (if x4 = 0 then f_X12_mountain_45 (f_X12_mountain_20 n) S l0 else (gI S 11 l0 28).bind fun x7 => (gI S 11 l0 27).bind fun x9 => (if x9 ≤ x7 then f_X12_mountain_52 S l0 else f_X12_mountain_45 (f_X12_mountain_20 n) S l0)) else f_X12_mountain_52 S l0)
def f_X12_mountain (S : Mm) (l0 : Nat) : Option (Int32 × Mm) := if okc S l0 11 = true then (pI S 11 l0 15 0).bind fun S1 => (pI S1 11 l0 28 0).bind fun S3 => (pB S3 11 l0 29 0).bind fun S5 => (pI S5 11 l0 30 0).bind fun S7 => f_X12_mountain_20 FU S7 l0 else none
set_option maxRecDepth 20000 in
theorem t_X12_mountain_45 {G : Gt} {l : Launch} (k20 : Mm → Nat → Option (Int32 × Mm)) (hk20 : ∀ (S : Mm) (l0 : Nat) (T : (Int32 × Mm)), k20 S l0 = some T → Sat G l yX12_mountain cX12_mountain 2 (some .int) 4 0 0 0 0 20 [.ref l0, .null] [] S (eI T)) (S : Mm) (l0 : Nat) (T : (Int32 × Mm)) (hf : f_X12_mountain_45 k20 S l0 = some T) : Sat G l yX12_mountain cX12_mountain 2 (some .int) 4 0 0 0 0 45 [.ref l0, .null] [] S (eI T) := by
  unfold f_X12_mountain_45 at hf
  refine r_aload_n dX12_mountain_45 rfl ?_
  obtain ⟨q1, h2, hf⟩ := bnd hf
  refine r_callVv (st := []) (as := []) dX12_mountain_46 ms_X12_readStatement ⟨rfl, w4_131, w4_133, w0_22⟩ (ok_X12_readStatement h2) (c_X12_readStatement h2) rfl ⟨by omega, by omega⟩ (Nat.le_of_ble_eq_true rfl) (by decide) (by decide) rfl ?_
  refine r_goto (tgt := 20) dX12_mountain_49 (by decide) ?_
  exact hk20 _ _ _ hf
set_option maxRecDepth 20000 in
theorem t_X12_mountain_79 {G : Gt} {l : Launch} : ∀ (n : Nat) (S : Mm) (l0 : Nat) (l1 : Int32) (T : (Int32 × Mm)), f_X12_mountain_79 n S l0 l1 = some T → Sat G l yX12_mountain cX12_mountain 2 (some .int) 4 0 0 0 0 79 [.ref l0, .int l1] [] S (eI T) := by
  intro n
  induction n with
  | zero =>
    intro S l0 l1 T hf
    rw [f_X12_mountain_79] at hf
    cases hf
  | succ n ih =>
    intro S l0 l1 T hf
    rw [f_X12_mountain_79] at hf
    refine r_iload_n dX12_mountain_79 rfl ?_
    refine r_aload_n dX12_mountain_80 rfl ?_
    obtain ⟨x1, h2, hf⟩ := bnd hf
    refine r_getI dX12_mountain_81 fs12_186_11 rfl h2 ?_
    refine r_icmp_ge (tgt := 116) dX12_mountain_84 (by decide) (fun c3 => ?_) (fun c3 => ?_)
    · replace hf := (if_pos c3).symm.trans hf
      refine r_aload_n dX12_mountain_116 rfl ?_
      obtain ⟨x4, h5, hf⟩ := bnd hf
      refine r_getI dX12_mountain_117 fs12_186_11 rfl h5 ?_
      have hz := congrArg eI (Option.some.inj hf)
      exact r_ireturn dX12_mountain_120 rfl (Nat.le_of_ble_eq_true rfl) (Nat.le_of_ble_eq_true rfl) hz
    · replace hf := (if_neg c3).symm.trans hf
      refine r_aload_n dX12_mountain_87 rfl ?_
      refine r_iload_n dX12_mountain_88 rfl ?_
      obtain ⟨q6, h7, hf⟩ := bnd hf
      refine r_callVi (st := []) (as := [.int l1]) dX12_mountain_89 ms_X12_comes ⟨rfl, w4_156, w4_158, w0_27⟩ (ok_X12_comes h7) (c_X12_comes h7) rfl ⟨by omega, by omega⟩ (Nat.le_of_ble_eq_true rfl) (by decide) (by decide) rfl ?_
      refine r_if_ne (tgt := 110) dX12_mountain_92 (by decide) (fun c8 => ?_) (fun c8 => ?_)
      · replace hf := (if_neg c8).symm.trans hf
        refine r_iinc (v := 1) (lv' := [.ref l0, .int (l1 + 1)]) dX12_mountain_110 rfl (by decide) (by decide) rfl rfl ?_
        refine r_goto (tgt := 79) dX12_mountain_113 (by decide) ?_
        exact ih _ _ _ _ hf
      · replace hf := (if_pos c8).symm.trans hf
        refine r_aload_n dX12_mountain_95 rfl ?_
        obtain ⟨q9, h10, hf⟩ := bnd hf
        refine r_callVv (st := []) (as := []) dX12_mountain_96 ms_X12_close ⟨rfl, w4_172, w4_174, w0_31⟩ (ok_X12_close h10) (c_X12_close h10) rfl ⟨by omega, by omega⟩ (Nat.le_of_ble_eq_true rfl) (by decide) (by decide) rfl ?_
        refine r_sipush (v := (-2000)) dX12_mountain_99 (by decide) ?_
        refine r_aload_n dX12_mountain_102 rfl ?_
        obtain ⟨x11, h12, hf⟩ := bnd hf
        refine r_getR dX12_mountain_103 fs12_58_11 rfl h12 ?_
        refine r_iload_n dX12_mountain_106 rfl ?_
        obtain ⟨x13, h14, hf⟩ := bnd hf
        refine r_iaload dX12_mountain_107 h14 ?_
        refine r_isub dX12_mountain_108 ?_
        have hz := congrArg eI (Option.some.inj hf)
        exact r_ireturn dX12_mountain_109 rfl (Nat.le_of_ble_eq_true rfl) (Nat.le_of_ble_eq_true rfl) hz
set_option maxRecDepth 20000 in
theorem t_X12_mountain_52 {G : Gt} {l : Launch} (S : Mm) (l0 : Nat) (T : (Int32 × Mm)) (hf : f_X12_mountain_52 S l0 = some T) : Sat G l yX12_mountain cX12_mountain 2 (some .int) 4 0 0 0 0 52 [.ref l0, .null] [] S (eI T) := by
  unfold f_X12_mountain_52 at hf
  refine r_aload_n dX12_mountain_52 rfl ?_
  refine r_iconst (v := 0) dX12_mountain_53 (by decide) ?_
  obtain ⟨S1, h2, hf⟩ := bnd hf
  refine r_putI dX12_mountain_54 fs12_166_11 rfl h2 ?_
  refine r_aload_n dX12_mountain_57 rfl ?_
  obtain ⟨x3, h4, hf⟩ := bnd hf
  refine r_getI dX12_mountain_58 fs12_172_11 rfl h4 ?_
  refine r_if_eq (tgt := 73) dX12_mountain_61 (by decide) (fun c5 => ?_) (fun c5 => ?_)
  · replace hf := (if_pos c5).symm.trans hf
    refine r_aload_n dX12_mountain_73 rfl ?_
    obtain ⟨q6, h7, hf⟩ := bnd hf
    refine r_callVv (st := []) (as := []) dX12_mountain_74 ms_X12_open ⟨rfl, w4_152, w4_154, w0_26⟩ (ok_X12_open h7) (c_X12_open h7) rfl ⟨by omega, by omega⟩ (Nat.le_of_ble_eq_true rfl) (by decide) (by decide) rfl ?_
    refine r_iconst (v := 0) dX12_mountain_77 (by decide) ?_
    refine r_istore_n (lv' := [.ref l0, .int 0]) dX12_mountain_78 (by decide) rfl rfl ?_
    exact t_X12_mountain_79 FU _ _ _ _ hf
  · replace hf := (if_neg c5).symm.trans hf
    refine r_sipush (v := (-1000)) dX12_mountain_64 (by decide) ?_
    refine r_aload_n dX12_mountain_67 rfl ?_
    obtain ⟨x8, h9, hf⟩ := bnd hf
    refine r_getI dX12_mountain_68 fs12_169_11 rfl h9 ?_
    refine r_isub dX12_mountain_71 ?_
    have hz := congrArg eI (Option.some.inj hf)
    exact r_ireturn dX12_mountain_72 rfl (Nat.le_of_ble_eq_true rfl) (Nat.le_of_ble_eq_true rfl) hz
set_option maxRecDepth 20000 in
theorem t_X12_mountain_20 {G : Gt} {l : Launch} : ∀ (n : Nat) (S : Mm) (l0 : Nat) (T : (Int32 × Mm)), f_X12_mountain_20 n S l0 = some T → Sat G l yX12_mountain cX12_mountain 2 (some .int) 4 0 0 0 0 20 [.ref l0, .null] [] S (eI T) := by
  intro n
  induction n with
  | zero =>
    intro S l0 T hf
    rw [f_X12_mountain_20] at hf
    cases hf
  | succ n ih =>
    intro S l0 T hf
    rw [f_X12_mountain_20] at hf
    refine r_aload_n dX12_mountain_20 rfl ?_
    obtain ⟨x1, h2, hf⟩ := bnd hf
    refine r_getI dX12_mountain_21 fs12_172_11 rfl h2 ?_
    refine r_if_ne (tgt := 52) dX12_mountain_24 (by decide) (fun c3 => ?_) (fun c3 => ?_)
    · replace hf := (if_neg c3).symm.trans hf
      exact t_X12_mountain_52 _ _ _ hf
    · replace hf := (if_pos c3).symm.trans hf
      refine r_aload_n dX12_mountain_27 rfl ?_
      obtain ⟨x4, h5, hf⟩ := bnd hf
      refine r_getI dX12_mountain_28 fs12_186_11 rfl h5 ?_
      refine r_if_eq (tgt := 45) dX12_mountain_31 (by decide) (fun c6 => ?_) (fun c6 => ?_)
      · replace hf := (if_pos c6).symm.trans hf
        exact t_X12_mountain_45 (f_X12_mountain_20 n) ih _ _ _ hf
      · replace hf := (if_neg c6).symm.trans hf
        refine r_aload_n dX12_mountain_34 rfl ?_
        obtain ⟨x7, h8, hf⟩ := bnd hf
        refine r_getI dX12_mountain_35 fs12_169_11 rfl h8 ?_
        refine r_aload_n dX12_mountain_38 rfl ?_
        obtain ⟨x9, h10, hf⟩ := bnd hf
        refine r_getI dX12_mountain_39 fs12_166_11 rfl h10 ?_
        refine r_icmp_ge (tgt := 52) dX12_mountain_42 (by decide) (fun c11 => ?_) (fun c11 => ?_)
        · replace hf := (if_pos c11).symm.trans hf
          exact t_X12_mountain_52 _ _ _ hf
        · replace hf := (if_neg c11).symm.trans hf
          exact t_X12_mountain_45 (f_X12_mountain_20 n) ih _ _ _ hf
set_option maxRecDepth 20000 in
theorem ok_X12_mountain {S : Mm} {l0 : Nat} {T : (Int32 × Mm)} (hf : f_X12_mountain S l0 = some T) : okc S l0 11 = true := (oif hf).1
set_option maxRecDepth 20000 in
theorem c_X12_mountain {G : Gt} {l : Launch} {S : Mm} {l0 : Nat} {T : (Int32 × Mm)} (hf : f_X12_mountain S l0 = some T) : CC G l yX12_mountain cX12_mountain 2 (some .int) 4 0 0 [.ref l0] S (eI T) := by
  unfold f_X12_mountain at hf
  replace hf := (oif hf).2
  refine r_body (by decide) rfl (Nat.le_of_ble_eq_true rfl) (by simp) ?_
  refine r_aload_n dX12_mountain_0 rfl ?_
  refine r_iconst (v := 0) dX12_mountain_1 (by decide) ?_
  obtain ⟨S1, h2, hf⟩ := bnd hf
  refine r_putI dX12_mountain_2 fs12_73_11 rfl h2 ?_
  refine r_aload_n dX12_mountain_5 rfl ?_
  refine r_iconst (v := 0) dX12_mountain_6 (by decide) ?_
  obtain ⟨S3, h4, hf⟩ := bnd hf
  refine r_putI dX12_mountain_7 fs12_169_11 rfl h4 ?_
  refine r_aload_n dX12_mountain_10 rfl ?_
  refine r_iconst (v := 0) dX12_mountain_11 (by decide) ?_
  obtain ⟨S5, h6, hf⟩ := bnd hf
  refine r_putB dX12_mountain_12 fs12_172_11 rfl h6 ?_
  refine r_aload_n dX12_mountain_15 rfl ?_
  refine r_iconst (v := 0) dX12_mountain_16 (by decide) ?_
  obtain ⟨S7, h8, hf⟩ := bnd hf
  refine r_putI dX12_mountain_17 fs12_186_11 rfl h8 ?_
  exact t_X12_mountain_20 FU _ _ _ hf
def f_X12_house (S : Mm) (l0 : Nat) (l1 : Int32) (l2 : Int32) : Option (Int32 × Mm) := if okc S l0 11 = true then (pI S 11 l0 15 0).bind fun S1 => (f_X12_isHouse S1 l0 l1).bind fun q3 => (if q3.1 = 0 then (f_X12_refuse q3.2 l0 (-1)).bind fun q54 => some (q54.1, q54.2) else (if l2 = 0 then (gR q3.2 11 l0 4).bind fun x16 => (aI q3.2 x16 l1).bind fun x18 => some (x18, q3.2) else (if l2 = 1 then (gR q3.2 11 l0 5).bind fun x20 => (aI q3.2 x20 l1).bind fun x22 => some (x22, q3.2) else (if l2 = 2 then (gR q3.2 11 l0 6).bind fun x24 => (aI q3.2 x24 l1).bind fun x26 => some (x26, q3.2) else (if l2 = 3 then (f_X12_sellsAt q3.2 l0 l1).bind fun q28 => some (q28.1, q28.2) else (if l2 = 4 then (f_X12_buysAt q3.2 l0 l1).bind fun q30 => some (q30.1, q30.2) else (if l2 = 5 then (gR q3.2 11 l0 7).bind fun x32 => (aI q3.2 x32 l1).bind fun x34 => some (x34, q3.2) else (if l2 = 6 then (gR q3.2 11 l0 8).bind fun x36 => (aI q3.2 x36 l1).bind fun x38 => some (x38, q3.2) else (if l2 = 7 then (gR q3.2 11 l0 9).bind fun x40 => (aI q3.2 x40 l1).bind fun x42 => some (x42, q3.2) else (if l2 = 8 then (gR q3.2 11 l0 10).bind fun x44 => (aI q3.2 x44 l1).bind fun x46 => some (x46, q3.2) else (if l2 = 9 then (gR q3.2 11 l0 11).bind fun x48 => (aI q3.2 x48 l1).bind fun x50 => some (x50, q3.2) else (f_X12_refuse q3.2 l0 (-2)).bind fun q52 => some (q52.1, q52.2)))))))))))) else none
set_option maxRecDepth 20000 in
theorem ok_X12_house {S : Mm} {l0 : Nat} {l1 : Int32} {l2 : Int32} {T : (Int32 × Mm)} (hf : f_X12_house S l0 l1 l2 = some T) : okc S l0 11 = true := (oif hf).1
set_option maxRecDepth 20000 in
theorem c_X12_house {G : Gt} {l : Launch} {S : Mm} {l0 : Nat} {l1 : Int32} {l2 : Int32} {T : (Int32 × Mm)} (hf : f_X12_house S l0 l1 l2 = some T) : CC G l yX12_house cX12_house 3 (some .int) 2 0 0 [.ref l0, .int l1, .int l2] S (eI T) := by
  unfold f_X12_house at hf
  replace hf := (oif hf).2
  refine r_body (by decide) rfl (Nat.le_of_ble_eq_true rfl) (by simp) ?_
  refine r_aload_n dX12_house_0 rfl ?_
  refine r_iconst (v := 0) dX12_house_1 (by decide) ?_
  obtain ⟨S1, h2, hf⟩ := bnd hf
  refine r_putI dX12_house_2 fs12_73_11 rfl h2 ?_
  refine r_aload_n dX12_house_5 rfl ?_
  refine r_iload_n dX12_house_6 rfl ?_
  obtain ⟨q3, h4, hf⟩ := bnd hf
  refine r_callVi (st := []) (as := [.int l1]) dX12_house_7 ms_X12_isHouse ⟨rfl, w4_168, w4_170, w0_30⟩ (ok_X12_isHouse h4) (c_X12_isHouse h4) rfl ⟨by omega, by omega⟩ (Nat.le_of_ble_eq_true rfl) (by decide) (by decide) rfl ?_
  refine r_if_ne (tgt := 19) dX12_house_10 (by decide) (fun c5 => ?_) (fun c5 => ?_)
  · replace hf := (if_neg c5).symm.trans hf
    refine r_iload_n dX12_house_19 rfl ?_
    by_cases c6 : l2 = 0
    · replace hf := (if_pos c6).symm.trans hf
      refine r_tsIn (k := 0) (tgt := 76) dX12_house_20 c6 (by decide) (by decide) (by rfl) (by decide) ?_
      refine r_aload_n dX12_house_76 rfl ?_
      obtain ⟨x16, h17, hf⟩ := bnd hf
      refine r_getR dX12_house_77 fs12_7_11 rfl h17 ?_
      refine r_iload_n dX12_house_80 rfl ?_
      obtain ⟨x18, h19, hf⟩ := bnd hf
      refine r_iaload dX12_house_81 h19 ?_
      have hz := congrArg eI (Option.some.inj hf)
      exact r_ireturn dX12_house_82 rfl (Nat.le_of_ble_eq_true rfl) (Nat.le_of_ble_eq_true rfl) hz
    replace hf := (if_neg c6).symm.trans hf
    by_cases c7 : l2 = 1
    · replace hf := (if_pos c7).symm.trans hf
      refine r_tsIn (k := 1) (tgt := 83) dX12_house_20 c7 (by decide) (by decide) (by rfl) (by decide) ?_
      refine r_aload_n dX12_house_83 rfl ?_
      obtain ⟨x20, h21, hf⟩ := bnd hf
      refine r_getR dX12_house_84 fs12_13_11 rfl h21 ?_
      refine r_iload_n dX12_house_87 rfl ?_
      obtain ⟨x22, h23, hf⟩ := bnd hf
      refine r_iaload dX12_house_88 h23 ?_
      have hz := congrArg eI (Option.some.inj hf)
      exact r_ireturn dX12_house_89 rfl (Nat.le_of_ble_eq_true rfl) (Nat.le_of_ble_eq_true rfl) hz
    replace hf := (if_neg c7).symm.trans hf
    by_cases c8 : l2 = 2
    · replace hf := (if_pos c8).symm.trans hf
      refine r_tsIn (k := 2) (tgt := 90) dX12_house_20 c8 (by decide) (by decide) (by rfl) (by decide) ?_
      refine r_aload_n dX12_house_90 rfl ?_
      obtain ⟨x24, h25, hf⟩ := bnd hf
      refine r_getR dX12_house_91 fs12_16_11 rfl h25 ?_
      refine r_iload_n dX12_house_94 rfl ?_
      obtain ⟨x26, h27, hf⟩ := bnd hf
      refine r_iaload dX12_house_95 h27 ?_
      have hz := congrArg eI (Option.some.inj hf)
      exact r_ireturn dX12_house_96 rfl (Nat.le_of_ble_eq_true rfl) (Nat.le_of_ble_eq_true rfl) hz
    replace hf := (if_neg c8).symm.trans hf
    by_cases c9 : l2 = 3
    · replace hf := (if_pos c9).symm.trans hf
      refine r_tsIn (k := 3) (tgt := 97) dX12_house_20 c9 (by decide) (by decide) (by rfl) (by decide) ?_
      refine r_aload_n dX12_house_97 rfl ?_
      refine r_iload_n dX12_house_98 rfl ?_
      obtain ⟨q28, h29, hf⟩ := bnd hf
      refine r_callVi (st := []) (as := [.int l1]) dX12_house_99 ms_X12_sellsAt ⟨rfl, w4_180, w4_182, w0_32⟩ (ok_X12_sellsAt h29) (c_X12_sellsAt h29) rfl ⟨by omega, by omega⟩ (Nat.le_of_ble_eq_true rfl) (by decide) (by decide) rfl ?_
      have hz := congrArg eI (Option.some.inj hf)
      exact r_ireturn dX12_house_102 rfl (Nat.le_of_ble_eq_true rfl) (Nat.le_of_ble_eq_true rfl) hz
    replace hf := (if_neg c9).symm.trans hf
    by_cases c10 : l2 = 4
    · replace hf := (if_pos c10).symm.trans hf
      refine r_tsIn (k := 4) (tgt := 103) dX12_house_20 c10 (by decide) (by decide) (by rfl) (by decide) ?_
      refine r_aload_n dX12_house_103 rfl ?_
      refine r_iload_n dX12_house_104 rfl ?_
      obtain ⟨q30, h31, hf⟩ := bnd hf
      refine r_callVi (st := []) (as := [.int l1]) dX12_house_105 ms_X12_buysAt ⟨rfl, w4_184, w4_186, w0_33⟩ (ok_X12_buysAt h31) (c_X12_buysAt h31) rfl ⟨by omega, by omega⟩ (Nat.le_of_ble_eq_true rfl) (by decide) (by decide) rfl ?_
      have hz := congrArg eI (Option.some.inj hf)
      exact r_ireturn dX12_house_108 rfl (Nat.le_of_ble_eq_true rfl) (Nat.le_of_ble_eq_true rfl) hz
    replace hf := (if_neg c10).symm.trans hf
    by_cases c11 : l2 = 5
    · replace hf := (if_pos c11).symm.trans hf
      refine r_tsIn (k := 5) (tgt := 109) dX12_house_20 c11 (by decide) (by decide) (by rfl) (by decide) ?_
      refine r_aload_n dX12_house_109 rfl ?_
      obtain ⟨x32, h33, hf⟩ := bnd hf
      refine r_getR dX12_house_110 fs12_19_11 rfl h33 ?_
      refine r_iload_n dX12_house_113 rfl ?_
      obtain ⟨x34, h35, hf⟩ := bnd hf
      refine r_iaload dX12_house_114 h35 ?_
      have hz := congrArg eI (Option.some.inj hf)
      exact r_ireturn dX12_house_115 rfl (Nat.le_of_ble_eq_true rfl) (Nat.le_of_ble_eq_true rfl) hz
    replace hf := (if_neg c11).symm.trans hf
    by_cases c12 : l2 = 6
    · replace hf := (if_pos c12).symm.trans hf
      refine r_tsIn (k := 6) (tgt := 116) dX12_house_20 c12 (by decide) (by decide) (by rfl) (by decide) ?_
      refine r_aload_n dX12_house_116 rfl ?_
      obtain ⟨x36, h37, hf⟩ := bnd hf
      refine r_getR dX12_house_117 fs12_22_11 rfl h37 ?_
      refine r_iload_n dX12_house_120 rfl ?_
      obtain ⟨x38, h39, hf⟩ := bnd hf
      refine r_iaload dX12_house_121 h39 ?_
      have hz := congrArg eI (Option.some.inj hf)
      exact r_ireturn dX12_house_122 rfl (Nat.le_of_ble_eq_true rfl) (Nat.le_of_ble_eq_true rfl) hz
    replace hf := (if_neg c12).symm.trans hf
    by_cases c13 : l2 = 7
    · replace hf := (if_pos c13).symm.trans hf
      refine r_tsIn (k := 7) (tgt := 123) dX12_house_20 c13 (by decide) (by decide) (by rfl) (by decide) ?_
      refine r_aload_n dX12_house_123 rfl ?_
      obtain ⟨x40, h41, hf⟩ := bnd hf
      refine r_getR dX12_house_124 fs12_25_11 rfl h41 ?_
      refine r_iload_n dX12_house_127 rfl ?_
      obtain ⟨x42, h43, hf⟩ := bnd hf
      refine r_iaload dX12_house_128 h43 ?_
      have hz := congrArg eI (Option.some.inj hf)
      exact r_ireturn dX12_house_129 rfl (Nat.le_of_ble_eq_true rfl) (Nat.le_of_ble_eq_true rfl) hz
    replace hf := (if_neg c13).symm.trans hf
    by_cases c14 : l2 = 8
    · replace hf := (if_pos c14).symm.trans hf
      refine r_tsIn (k := 8) (tgt := 130) dX12_house_20 c14 (by decide) (by decide) (by rfl) (by decide) ?_
      refine r_aload_n dX12_house_130 rfl ?_
      obtain ⟨x44, h45, hf⟩ := bnd hf
      refine r_getR dX12_house_131 fs12_28_11 rfl h45 ?_
      refine r_iload_n dX12_house_134 rfl ?_
      obtain ⟨x46, h47, hf⟩ := bnd hf
      refine r_iaload dX12_house_135 h47 ?_
      have hz := congrArg eI (Option.some.inj hf)
      exact r_ireturn dX12_house_136 rfl (Nat.le_of_ble_eq_true rfl) (Nat.le_of_ble_eq_true rfl) hz
    replace hf := (if_neg c14).symm.trans hf
    by_cases c15 : l2 = 9
    · replace hf := (if_pos c15).symm.trans hf
      refine r_tsIn (k := 9) (tgt := 137) dX12_house_20 c15 (by decide) (by decide) (by rfl) (by decide) ?_
      refine r_aload_n dX12_house_137 rfl ?_
      obtain ⟨x48, h49, hf⟩ := bnd hf
      refine r_getR dX12_house_138 fs12_31_11 rfl h49 ?_
      refine r_iload_n dX12_house_141 rfl ?_
      obtain ⟨x50, h51, hf⟩ := bnd hf
      refine r_iaload dX12_house_142 h51 ?_
      have hz := congrArg eI (Option.some.inj hf)
      exact r_ireturn dX12_house_143 rfl (Nat.le_of_ble_eq_true rfl) (Nat.le_of_ble_eq_true rfl) hz
    replace hf := (if_neg c15).symm.trans hf
    refine r_tsOut (ks := [0, 1, 2, 3, 4, 5, 6, 7, 8, 9]) (n := 10) (tgt := 144) dX12_house_20 (by decide) (by decide) (by simp only [List.mem_cons, List.not_mem_nil, or_false, not_or]; exact ⟨c6, c7, c8, c9, c10, c11, c12, c13, c14, c15⟩) (by decide) ?_
    refine r_aload_n dX12_house_144 rfl ?_
    refine r_bipush (v := (-2)) dX12_house_145 (by decide) ?_
    obtain ⟨q52, h53, hf⟩ := bnd hf
    refine r_callVi (st := []) (as := [.int (-2)]) dX12_house_147 ms_X12_refuse ⟨rfl, w4_119, w4_121, w0_21⟩ (ok_X12_refuse h53) (c_X12_refuse h53) rfl ⟨by omega, by omega⟩ (Nat.le_of_ble_eq_true rfl) (by decide) (by decide) rfl ?_
    have hz := congrArg eI (Option.some.inj hf)
    exact r_ireturn dX12_house_150 rfl (Nat.le_of_ble_eq_true rfl) (Nat.le_of_ble_eq_true rfl) hz
  · replace hf := (if_pos c5).symm.trans hf
    refine r_aload_n dX12_house_13 rfl ?_
    refine r_iconst (v := (-1)) dX12_house_14 (by decide) ?_
    obtain ⟨q54, h55, hf⟩ := bnd hf
    refine r_callVi (st := []) (as := [.int (-1)]) dX12_house_15 ms_X12_refuse ⟨rfl, w4_119, w4_121, w0_21⟩ (ok_X12_refuse h55) (c_X12_refuse h55) rfl ⟨by omega, by omega⟩ (Nat.le_of_ble_eq_true rfl) (by decide) (by decide) rfl ?_
    have hz := congrArg eI (Option.some.inj hf)
    exact r_ireturn dX12_house_18 rfl (Nat.le_of_ble_eq_true rfl) (Nat.le_of_ble_eq_true rfl) hz
def f_X12_store_38 (S : Mm) (s0 : Int32) : Option (Int32 × Mm) := some (s0, S)
def f_X12_store_33 (S : Mm) (l0 : Nat) : Option (Int32 × Mm) := (f_X12_refuse S l0 (-1)).bind fun q1 => f_X12_store_38 q1.2 q1.1
def f_X12_store (S : Mm) (l0 : Nat) (l1 : Int32) (l2 : Int32) : Option (Int32 × Mm) := if okc S l0 11 = true then (pI S 11 l0 15 0).bind fun S1 => (f_X12_isHouse S1 l0 l1).bind fun q3 => (if q3.1 = 0 then f_X12_store_33 q3.2 l0 else (f_X12_isGood q3.2 l2).bind fun q6 => (if q6.1 = 0 then f_X12_store_33 q6.2 l0 else (gR q6.2 11 l0 12).bind fun x9 => (aI q6.2 x9 ((3 * l1) + l2)).bind fun x11 => f_X12_store_38 q6.2 x11)) else none
set_option maxRecDepth 20000 in
theorem t_X12_store_38 {G : Gt} {l : Launch} (S : Mm) (s0 : Int32) (T : (Int32 × Mm)) (hf : f_X12_store_38 S s0 = some T) : Sat G l yX12_store cX12_store 3 (some .int) 2 0 0 0 0 38 [.null, .null, .null] [.int s0] S (eI T) := by
  unfold f_X12_store_38 at hf
  have hz := congrArg eI (Option.some.inj hf)
  exact r_ireturn dX12_store_38 rfl (Nat.le_of_ble_eq_true rfl) (Nat.le_of_ble_eq_true rfl) hz
set_option maxRecDepth 20000 in
theorem t_X12_store_33 {G : Gt} {l : Launch} (S : Mm) (l0 : Nat) (T : (Int32 × Mm)) (hf : f_X12_store_33 S l0 = some T) : Sat G l yX12_store cX12_store 3 (some .int) 2 0 0 0 0 33 [.ref l0, .null, .null] [] S (eI T) := by
  unfold f_X12_store_33 at hf
  refine r_aload_n dX12_store_33 rfl ?_
  refine r_iconst (v := (-1)) dX12_store_34 (by decide) ?_
  obtain ⟨q1, h2, hf⟩ := bnd hf
  refine r_callVi (st := []) (as := [.int (-1)]) dX12_store_35 ms_X12_refuse ⟨rfl, w4_119, w4_121, w0_21⟩ (ok_X12_refuse h2) (c_X12_refuse h2) rfl ⟨by omega, by omega⟩ (Nat.le_of_ble_eq_true rfl) (by decide) (by decide) rfl ?_
  refine r_lvs (lv' := [.null, .null, .null]) ⟨Or.inr rfl, Or.inl rfl, Or.inl rfl, trivial⟩ ?_
  exact t_X12_store_38 _ _ _ hf
set_option maxRecDepth 20000 in
theorem ok_X12_store {S : Mm} {l0 : Nat} {l1 : Int32} {l2 : Int32} {T : (Int32 × Mm)} (hf : f_X12_store S l0 l1 l2 = some T) : okc S l0 11 = true := (oif hf).1
set_option maxRecDepth 20000 in
theorem c_X12_store {G : Gt} {l : Launch} {S : Mm} {l0 : Nat} {l1 : Int32} {l2 : Int32} {T : (Int32 × Mm)} (hf : f_X12_store S l0 l1 l2 = some T) : CC G l yX12_store cX12_store 3 (some .int) 2 0 0 [.ref l0, .int l1, .int l2] S (eI T) := by
  unfold f_X12_store at hf
  replace hf := (oif hf).2
  refine r_body (by decide) rfl (Nat.le_of_ble_eq_true rfl) (by simp) ?_
  refine r_aload_n dX12_store_0 rfl ?_
  refine r_iconst (v := 0) dX12_store_1 (by decide) ?_
  obtain ⟨S1, h2, hf⟩ := bnd hf
  refine r_putI dX12_store_2 fs12_73_11 rfl h2 ?_
  refine r_aload_n dX12_store_5 rfl ?_
  refine r_iload_n dX12_store_6 rfl ?_
  obtain ⟨q3, h4, hf⟩ := bnd hf
  refine r_callVi (st := []) (as := [.int l1]) dX12_store_7 ms_X12_isHouse ⟨rfl, w4_168, w4_170, w0_30⟩ (ok_X12_isHouse h4) (c_X12_isHouse h4) rfl ⟨by omega, by omega⟩ (Nat.le_of_ble_eq_true rfl) (by decide) (by decide) rfl ?_
  refine r_if_eq (tgt := 33) dX12_store_10 (by decide) (fun c5 => ?_) (fun c5 => ?_)
  · replace hf := (if_pos c5).symm.trans hf
    refine r_lvs (lv' := [.ref l0, .null, .null]) ⟨Or.inl rfl, Or.inr rfl, Or.inr rfl, trivial⟩ ?_
    exact t_X12_store_33 _ _ _ hf
  · replace hf := (if_neg c5).symm.trans hf
    refine r_iload_n dX12_store_13 rfl ?_
    obtain ⟨q6, h7, hf⟩ := bnd hf
    refine r_callSi (st := []) (as := [.int l2]) dX12_store_14 ms_X12_isGood ⟨w4_192, w4_193⟩ (c_X12_isGood h7) rfl ⟨by omega, by omega⟩ (Nat.le_of_ble_eq_true rfl) (by decide) (by decide) rfl ?_
    refine r_if_eq (tgt := 33) dX12_store_17 (by decide) (fun c8 => ?_) (fun c8 => ?_)
    · replace hf := (if_pos c8).symm.trans hf
      refine r_lvs (lv' := [.ref l0, .null, .null]) ⟨Or.inl rfl, Or.inr rfl, Or.inr rfl, trivial⟩ ?_
      exact t_X12_store_33 _ _ _ hf
    · replace hf := (if_neg c8).symm.trans hf
      refine r_aload_n dX12_store_20 rfl ?_
      obtain ⟨x9, h10, hf⟩ := bnd hf
      refine r_getR dX12_store_21 fs12_34_11 rfl h10 ?_
      refine r_iconst (v := 3) dX12_store_24 (by decide) ?_
      refine r_iload_n dX12_store_25 rfl ?_
      refine r_imul dX12_store_26 ?_
      refine r_iload_n dX12_store_27 rfl ?_
      refine r_iadd dX12_store_28 ?_
      obtain ⟨x11, h12, hf⟩ := bnd hf
      refine r_iaload dX12_store_29 h12 ?_
      refine r_goto (tgt := 38) dX12_store_30 (by decide) ?_
      refine r_lvs (lv' := [.null, .null, .null]) ⟨Or.inr rfl, Or.inr rfl, Or.inr rfl, trivial⟩ ?_
      exact t_X12_store_38 _ _ _ hf
def f_X12_price_38 (S : Mm) (l0 : Nat) (l1 : Int32) (l2 : Int32) (s0 : Int32) : Option (Int32 × Mm) := (if 0 ≤ s0 then (gR S 11 l0 14).bind fun x2 => (aI S x2 l1).bind fun x4 => (gR S 11 l0 14).bind fun x6 => (aS S x6 l1 l2).bind fun S8 => some (x4, S8) else (f_X12_refuse S l0 s0).bind fun q10 => some (q10.1, q10.2))
def f_X12_price (S : Mm) (l0 : Nat) (l1 : Int32) (l2 : Int32) : Option (Int32 × Mm) := if okc S l0 11 = true then (pI S 11 l0 15 0).bind fun S1 => (f_X12_isGood S1 l1).bind fun q3 => (if q3.1 = 0 then f_X12_price_38 q3.2 l0 l1 l2 (-1) else (if 1 ≤ l2 then (if l2 ≤ 9 then f_X12_price_38 q3.2 l0 l1 l2 0 else f_X12_price_38 q3.2 l0 l1 l2 (-6)) else f_X12_price_38 q3.2 l0 l1 l2 (-4))) else none
set_option maxRecDepth 20000 in
theorem t_X12_price_38 {G : Gt} {l : Launch} (S : Mm) (l0 : Nat) (l1 : Int32) (l2 : Int32) (s0 : Int32) (T : (Int32 × Mm)) (hf : f_X12_price_38 S l0 l1 l2 s0 = some T) : Sat G l yX12_price cX12_price 5 (some .int) 2 0 0 0 0 38 [.ref l0, .int l1, .int l2, .null, .null] [.int s0] S (eI T) := by
  unfold f_X12_price_38 at hf
  refine r_istore_n (lv' := [.ref l0, .int l1, .int l2, .int s0, .null]) dX12_price_38 (by decide) rfl rfl ?_
  refine r_iload_n dX12_price_39 rfl ?_
  refine r_if_ge (tgt := 49) dX12_price_40 (by decide) (fun c1 => ?_) (fun c1 => ?_)
  · replace hf := (if_pos c1).symm.trans hf
    refine r_aload_n dX12_price_49 rfl ?_
    obtain ⟨x2, h3, hf⟩ := bnd hf
    refine r_getR dX12_price_50 fs12_40_11 rfl h3 ?_
    refine r_iload_n dX12_price_53 rfl ?_
    obtain ⟨x4, h5, hf⟩ := bnd hf
    refine r_iaload dX12_price_54 h5 ?_
    refine r_istore (lv' := [.ref l0, .int l1, .int l2, .int s0, .int x4]) dX12_price_55 (by decide) rfl rfl ?_
    refine r_aload_n dX12_price_57 rfl ?_
    obtain ⟨x6, h7, hf⟩ := bnd hf
    refine r_getR dX12_price_58 fs12_40_11 rfl h7 ?_
    refine r_iload_n dX12_price_61 rfl ?_
    refine r_iload_n dX12_price_62 rfl ?_
    obtain ⟨S8, h9, hf⟩ := bnd hf
    refine r_iastore dX12_price_63 h9 ?_
    refine r_iload dX12_price_64 rfl ?_
    have hz := congrArg eI (Option.some.inj hf)
    exact r_ireturn dX12_price_66 rfl (Nat.le_of_ble_eq_true rfl) (Nat.le_of_ble_eq_true rfl) hz
  · replace hf := (if_neg c1).symm.trans hf
    refine r_aload_n dX12_price_43 rfl ?_
    refine r_iload_n dX12_price_44 rfl ?_
    obtain ⟨q10, h11, hf⟩ := bnd hf
    refine r_callVi (st := []) (as := [.int s0]) dX12_price_45 ms_X12_refuse ⟨rfl, w4_119, w4_121, w0_21⟩ (ok_X12_refuse h11) (c_X12_refuse h11) rfl ⟨by omega, by omega⟩ (Nat.le_of_ble_eq_true rfl) (by decide) (by decide) rfl ?_
    have hz := congrArg eI (Option.some.inj hf)
    exact r_ireturn dX12_price_48 rfl (Nat.le_of_ble_eq_true rfl) (Nat.le_of_ble_eq_true rfl) hz
set_option maxRecDepth 20000 in
theorem ok_X12_price {S : Mm} {l0 : Nat} {l1 : Int32} {l2 : Int32} {T : (Int32 × Mm)} (hf : f_X12_price S l0 l1 l2 = some T) : okc S l0 11 = true := (oif hf).1
set_option maxRecDepth 20000 in
theorem c_X12_price {G : Gt} {l : Launch} {S : Mm} {l0 : Nat} {l1 : Int32} {l2 : Int32} {T : (Int32 × Mm)} (hf : f_X12_price S l0 l1 l2 = some T) : CC G l yX12_price cX12_price 5 (some .int) 2 0 0 [.ref l0, .int l1, .int l2] S (eI T) := by
  unfold f_X12_price at hf
  replace hf := (oif hf).2
  refine r_body (by decide) rfl (Nat.le_of_ble_eq_true rfl) (by simp) ?_
  refine r_aload_n dX12_price_0 rfl ?_
  refine r_iconst (v := 0) dX12_price_1 (by decide) ?_
  obtain ⟨S1, h2, hf⟩ := bnd hf
  refine r_putI dX12_price_2 fs12_73_11 rfl h2 ?_
  refine r_iload_n dX12_price_5 rfl ?_
  obtain ⟨q3, h4, hf⟩ := bnd hf
  refine r_callSi (st := []) (as := [.int l1]) dX12_price_6 ms_X12_isGood ⟨w4_192, w4_193⟩ (c_X12_isGood h4) rfl ⟨by omega, by omega⟩ (Nat.le_of_ble_eq_true rfl) (by decide) (by decide) rfl ?_
  refine r_if_ne (tgt := 16) dX12_price_9 (by decide) (fun c5 => ?_) (fun c5 => ?_)
  · replace hf := (if_neg c5).symm.trans hf
    refine r_iload_n dX12_price_16 rfl ?_
    refine r_iconst (v := 1) dX12_price_17 (by decide) ?_
    refine r_icmp_ge (tgt := 26) dX12_price_18 (by decide) (fun c6 => ?_) (fun c6 => ?_)
    · replace hf := (if_pos c6).symm.trans hf
      refine r_iload_n dX12_price_26 rfl ?_
      refine r_bipush (v := 9) dX12_price_27 (by decide) ?_
      refine r_icmp_le (tgt := 37) dX12_price_29 (by decide) (fun c7 => ?_) (fun c7 => ?_)
      · replace hf := (if_pos c7).symm.trans hf
        refine r_iconst (v := 0) dX12_price_37 (by decide) ?_
        exact t_X12_price_38 _ _ _ _ _ _ hf
      · replace hf := (if_neg c7).symm.trans hf
        refine r_bipush (v := (-6)) dX12_price_32 (by decide) ?_
        refine r_goto (tgt := 38) dX12_price_34 (by decide) ?_
        exact t_X12_price_38 _ _ _ _ _ _ hf
    · replace hf := (if_neg c6).symm.trans hf
      refine r_bipush (v := (-4)) dX12_price_21 (by decide) ?_
      refine r_goto (tgt := 38) dX12_price_23 (by decide) ?_
      exact t_X12_price_38 _ _ _ _ _ _ hf
  · replace hf := (if_pos c5).symm.trans hf
    refine r_iconst (v := (-1)) dX12_price_12 (by decide) ?_
    refine r_goto (tgt := 38) dX12_price_13 (by decide) ?_
    exact t_X12_price_38 _ _ _ _ _ _ hf
def f_X12_law (S : Mm) (l0 : Nat) (l1 : Int32) : Option (Int32 × Mm) := if okc S l0 11 = true then (pI S 11 l0 15 0).bind fun S1 => (f_X12_in S1 l1.toInt64 0 2).bind fun q3 => (if q3.1 = 0 then (f_X12_refuse q3.2 l0 (-2)).bind fun q10 => some (q10.1, q10.2) else (gI q3.2 11 l0 1).bind fun x6 => (pI q3.2 11 l0 1 l1).bind fun S8 => some (x6, S8)) else none
set_option maxRecDepth 20000 in
theorem ok_X12_law {S : Mm} {l0 : Nat} {l1 : Int32} {T : (Int32 × Mm)} (hf : f_X12_law S l0 l1 = some T) : okc S l0 11 = true := (oif hf).1
set_option maxRecDepth 20000 in
theorem c_X12_law {G : Gt} {l : Launch} {S : Mm} {l0 : Nat} {l1 : Int32} {T : (Int32 × Mm)} (hf : f_X12_law S l0 l1 = some T) : CC G l yX12_law cX12_law 3 (some .int) 1 0 0 [.ref l0, .int l1] S (eI T) := by
  unfold f_X12_law at hf
  replace hf := (oif hf).2
  refine r_body (by decide) rfl (Nat.le_of_ble_eq_true rfl) (by simp) ?_
  refine r_aload_n dX12_law_0 rfl ?_
  refine r_iconst (v := 0) dX12_law_1 (by decide) ?_
  obtain ⟨S1, h2, hf⟩ := bnd hf
  refine r_putI dX12_law_2 fs12_73_11 rfl h2 ?_
  refine r_iload_n dX12_law_5 rfl ?_
  refine r_i2l dX12_law_6 ?_
  refine r_lconst (v := 0) dX12_law_7 (by decide) ?_
  refine r_ldc2 (v := 2) dX12_law_8 w4_195 ?_
  obtain ⟨q3, h4, hf⟩ := bnd hf
  refine r_callSi (st := []) (as := [.long l1.toInt64, .long 0, .long 2]) dX12_law_11 ms_X12_in ⟨w4_145, w4_146⟩ (c_X12_in h4) rfl ⟨by omega, by omega⟩ (Nat.le_of_ble_eq_true rfl) (by decide) (by decide) rfl ?_
  refine r_if_ne (tgt := 24) dX12_law_14 (by decide) (fun c5 => ?_) (fun c5 => ?_)
  · replace hf := (if_neg c5).symm.trans hf
    refine r_aload_n dX12_law_24 rfl ?_
    obtain ⟨x6, h7, hf⟩ := bnd hf
    refine r_getI dX12_law_25 fs12_97_11 rfl h7 ?_
    refine r_istore_n (lv' := [.ref l0, .int l1, .int x6]) dX12_law_28 (by decide) rfl rfl ?_
    refine r_aload_n dX12_law_29 rfl ?_
    refine r_iload_n dX12_law_30 rfl ?_
    obtain ⟨S8, h9, hf⟩ := bnd hf
    refine r_putI dX12_law_31 fs12_97_11 rfl h9 ?_
    refine r_iload_n dX12_law_34 rfl ?_
    have hz := congrArg eI (Option.some.inj hf)
    exact r_ireturn dX12_law_35 rfl (Nat.le_of_ble_eq_true rfl) (Nat.le_of_ble_eq_true rfl) hz
  · replace hf := (if_pos c5).symm.trans hf
    refine r_aload_n dX12_law_17 rfl ?_
    refine r_bipush (v := (-2)) dX12_law_18 (by decide) ?_
    obtain ⟨q10, h11, hf⟩ := bnd hf
    refine r_callVi (st := []) (as := [.int (-2)]) dX12_law_20 ms_X12_refuse ⟨rfl, w4_119, w4_121, w0_21⟩ (ok_X12_refuse h11) (c_X12_refuse h11) rfl ⟨by omega, by omega⟩ (Nat.le_of_ble_eq_true rfl) (by decide) (by decide) rfl ?_
    have hz := congrArg eI (Option.some.inj hf)
    exact r_ireturn dX12_law_23 rfl (Nat.le_of_ble_eq_true rfl) (Nat.le_of_ble_eq_true rfl) hz
def f_X12_lawful_34 (S : Mm) (s0 : Int32) : Option (Int32 × Mm) := some (s0, S)
def f_X12_lawful (S : Mm) (l0 : Nat) (l1 : Int32) (l2 : Int32) : Option (Int32 × Mm) := if okc S l0 11 = true then (pI S 11 l0 15 0).bind fun S1 => (f_X12_areTwo S1 l0 l1 l2).bind fun q3 => (if q3.1 = 0 then (f_X12_refuse q3.2 l0 (-1)).bind fun q9 => some (q9.1, q9.2) else (f_X12_isLawful q3.2 l0 l1 l2).bind fun q6 => (if q6.1 = 0 then f_X12_lawful_34 q6.2 0 else f_X12_lawful_34 q6.2 1)) else none
set_option maxRecDepth 20000 in
theorem t_X12_lawful_34 {G : Gt} {l : Launch} (S : Mm) (s0 : Int32) (T : (Int32 × Mm)) (hf : f_X12_lawful_34 S s0 = some T) : Sat G l yX12_lawful cX12_lawful 3 (some .int) 3 0 0 0 0 34 [.null, .null, .null] [.int s0] S (eI T) := by
  unfold f_X12_lawful_34 at hf
  have hz := congrArg eI (Option.some.inj hf)
  exact r_ireturn dX12_lawful_34 rfl (Nat.le_of_ble_eq_true rfl) (Nat.le_of_ble_eq_true rfl) hz
set_option maxRecDepth 20000 in
theorem ok_X12_lawful {S : Mm} {l0 : Nat} {l1 : Int32} {l2 : Int32} {T : (Int32 × Mm)} (hf : f_X12_lawful S l0 l1 l2 = some T) : okc S l0 11 = true := (oif hf).1
set_option maxRecDepth 20000 in
theorem c_X12_lawful {G : Gt} {l : Launch} {S : Mm} {l0 : Nat} {l1 : Int32} {l2 : Int32} {T : (Int32 × Mm)} (hf : f_X12_lawful S l0 l1 l2 = some T) : CC G l yX12_lawful cX12_lawful 3 (some .int) 3 0 0 [.ref l0, .int l1, .int l2] S (eI T) := by
  unfold f_X12_lawful at hf
  replace hf := (oif hf).2
  refine r_body (by decide) rfl (Nat.le_of_ble_eq_true rfl) (by simp) ?_
  refine r_aload_n dX12_lawful_0 rfl ?_
  refine r_iconst (v := 0) dX12_lawful_1 (by decide) ?_
  obtain ⟨S1, h2, hf⟩ := bnd hf
  refine r_putI dX12_lawful_2 fs12_73_11 rfl h2 ?_
  refine r_aload_n dX12_lawful_5 rfl ?_
  refine r_iload_n dX12_lawful_6 rfl ?_
  refine r_iload_n dX12_lawful_7 rfl ?_
  obtain ⟨q3, h4, hf⟩ := bnd hf
  refine r_callVi (st := []) (as := [.int l1, .int l2]) dX12_lawful_8 ms_X12_areTwo ⟨rfl, w4_164, w4_166, w0_29⟩ (ok_X12_areTwo h4) (c_X12_areTwo h4) rfl ⟨by omega, by omega⟩ (Nat.le_of_ble_eq_true rfl) (by decide) (by decide) rfl ?_
  refine r_if_ne (tgt := 20) dX12_lawful_11 (by decide) (fun c5 => ?_) (fun c5 => ?_)
  · replace hf := (if_neg c5).symm.trans hf
    refine r_aload_n dX12_lawful_20 rfl ?_
    refine r_iload_n dX12_lawful_21 rfl ?_
    refine r_iload_n dX12_lawful_22 rfl ?_
    obtain ⟨q6, h7, hf⟩ := bnd hf
    refine r_callVi (st := []) (as := [.int l1, .int l2]) dX12_lawful_23 ms_X12_isLawful ⟨rfl, w4_208, w4_210, w0_34⟩ (ok_X12_isLawful h7) (c_X12_isLawful h7) rfl ⟨by omega, by omega⟩ (Nat.le_of_ble_eq_true rfl) (by decide) (by decide) rfl ?_
    refine r_if_eq (tgt := 33) dX12_lawful_26 (by decide) (fun c8 => ?_) (fun c8 => ?_)
    · replace hf := (if_pos c8).symm.trans hf
      refine r_iconst (v := 0) dX12_lawful_33 (by decide) ?_
      refine r_lvs (lv' := [.null, .null, .null]) ⟨Or.inr rfl, Or.inr rfl, Or.inr rfl, trivial⟩ ?_
      exact t_X12_lawful_34 _ _ _ hf
    · replace hf := (if_neg c8).symm.trans hf
      refine r_iconst (v := 1) dX12_lawful_29 (by decide) ?_
      refine r_goto (tgt := 34) dX12_lawful_30 (by decide) ?_
      refine r_lvs (lv' := [.null, .null, .null]) ⟨Or.inr rfl, Or.inr rfl, Or.inr rfl, trivial⟩ ?_
      exact t_X12_lawful_34 _ _ _ hf
  · replace hf := (if_pos c5).symm.trans hf
    refine r_aload_n dX12_lawful_14 rfl ?_
    refine r_iconst (v := (-1)) dX12_lawful_15 (by decide) ?_
    obtain ⟨q9, h10, hf⟩ := bnd hf
    refine r_callVi (st := []) (as := [.int (-1)]) dX12_lawful_16 ms_X12_refuse ⟨rfl, w4_119, w4_121, w0_21⟩ (ok_X12_refuse h10) (c_X12_refuse h10) rfl ⟨by omega, by omega⟩ (Nat.le_of_ble_eq_true rfl) (by decide) (by decide) rfl ?_
    have hz := congrArg eI (Option.some.inj hf)
    exact r_ireturn dX12_lawful_19 rfl (Nat.le_of_ble_eq_true rfl) (Nat.le_of_ble_eq_true rfl) hz
def f_X12_sale_21 (S : Mm) (l0 : Nat) : Option (Int32 × Mm) := (f_X12_refuse S l0 (-1)).bind fun q1 => some (q1.1, q1.2)
def f_X12_sale (S : Mm) (l0 : Nat) (l1 : Int32) (l2 : Int32) (l3 : Int32) : Option (Int32 × Mm) := if okc S l0 11 = true then (pI S 11 l0 15 0).bind fun S1 => (f_X12_areTwo S1 l0 l1 l2).bind fun q3 => (if q3.1 = 0 then f_X12_sale_21 q3.2 l0 else (f_X12_isGood q3.2 l3).bind fun q6 => (if q6.1 = 0 then f_X12_sale_21 q6.2 l0 else (f_X12_canSell q6.2 l0 l1 l2 l3).bind fun q9 => (if q9.1 = 0 then (f_X12_refuse q9.2 l0 (-3)).bind fun q18 => some (q18.1, q18.2) else (f_X12_sell q9.2 l0 l1 l2 l3).bind fun q12 => (gR q12 11 l0 11).bind fun x14 => (aI q12 x14 l2).bind fun x16 => some (x16, q12)))) else none
set_option maxRecDepth 20000 in
theorem t_X12_sale_21 {G : Gt} {l : Launch} (S : Mm) (l0 : Nat) (T : (Int32 × Mm)) (hf : f_X12_sale_21 S l0 = some T) : Sat G l yX12_sale cX12_sale 4 (some .int) 3 0 0 0 0 21 [.ref l0, .null, .null, .null] [] S (eI T) := by
  unfold f_X12_sale_21 at hf
  refine r_aload_n dX12_sale_21 rfl ?_
  refine r_iconst (v := (-1)) dX12_sale_22 (by decide) ?_
  obtain ⟨q1, h2, hf⟩ := bnd hf
  refine r_callVi (st := []) (as := [.int (-1)]) dX12_sale_23 ms_X12_refuse ⟨rfl, w4_119, w4_121, w0_21⟩ (ok_X12_refuse h2) (c_X12_refuse h2) rfl ⟨by omega, by omega⟩ (Nat.le_of_ble_eq_true rfl) (by decide) (by decide) rfl ?_
  have hz := congrArg eI (Option.some.inj hf)
  exact r_ireturn dX12_sale_26 rfl (Nat.le_of_ble_eq_true rfl) (Nat.le_of_ble_eq_true rfl) hz
set_option maxRecDepth 20000 in
theorem ok_X12_sale {S : Mm} {l0 : Nat} {l1 : Int32} {l2 : Int32} {l3 : Int32} {T : (Int32 × Mm)} (hf : f_X12_sale S l0 l1 l2 l3 = some T) : okc S l0 11 = true := (oif hf).1
set_option maxRecDepth 20000 in
theorem c_X12_sale {G : Gt} {l : Launch} {S : Mm} {l0 : Nat} {l1 : Int32} {l2 : Int32} {l3 : Int32} {T : (Int32 × Mm)} (hf : f_X12_sale S l0 l1 l2 l3 = some T) : CC G l yX12_sale cX12_sale 4 (some .int) 3 0 0 [.ref l0, .int l1, .int l2, .int l3] S (eI T) := by
  unfold f_X12_sale at hf
  replace hf := (oif hf).2
  refine r_body (by decide) rfl (Nat.le_of_ble_eq_true rfl) (by simp) ?_
  refine r_aload_n dX12_sale_0 rfl ?_
  refine r_iconst (v := 0) dX12_sale_1 (by decide) ?_
  obtain ⟨S1, h2, hf⟩ := bnd hf
  refine r_putI dX12_sale_2 fs12_73_11 rfl h2 ?_
  refine r_aload_n dX12_sale_5 rfl ?_
  refine r_iload_n dX12_sale_6 rfl ?_
  refine r_iload_n dX12_sale_7 rfl ?_
  obtain ⟨q3, h4, hf⟩ := bnd hf
  refine r_callVi (st := []) (as := [.int l1, .int l2]) dX12_sale_8 ms_X12_areTwo ⟨rfl, w4_164, w4_166, w0_29⟩ (ok_X12_areTwo h4) (c_X12_areTwo h4) rfl ⟨by omega, by omega⟩ (Nat.le_of_ble_eq_true rfl) (by decide) (by decide) rfl ?_
  refine r_if_eq (tgt := 21) dX12_sale_11 (by decide) (fun c5 => ?_) (fun c5 => ?_)
  · replace hf := (if_pos c5).symm.trans hf
    refine r_lvs (lv' := [.ref l0, .null, .null, .null]) ⟨Or.inl rfl, Or.inr rfl, Or.inr rfl, Or.inr rfl, trivial⟩ ?_
    exact t_X12_sale_21 _ _ _ hf
  · replace hf := (if_neg c5).symm.trans hf
    refine r_iload_n dX12_sale_14 rfl ?_
    obtain ⟨q6, h7, hf⟩ := bnd hf
    refine r_callSi (st := []) (as := [.int l3]) dX12_sale_15 ms_X12_isGood ⟨w4_192, w4_193⟩ (c_X12_isGood h7) rfl ⟨by omega, by omega⟩ (Nat.le_of_ble_eq_true rfl) (by decide) (by decide) rfl ?_
    refine r_if_ne (tgt := 27) dX12_sale_18 (by decide) (fun c8 => ?_) (fun c8 => ?_)
    · replace hf := (if_neg c8).symm.trans hf
      refine r_aload_n dX12_sale_27 rfl ?_
      refine r_iload_n dX12_sale_28 rfl ?_
      refine r_iload_n dX12_sale_29 rfl ?_
      refine r_iload_n dX12_sale_30 rfl ?_
      obtain ⟨q9, h10, hf⟩ := bnd hf
      refine r_callVi (st := []) (as := [.int l1, .int l2, .int l3]) dX12_sale_31 ms_X12_canSell ⟨rfl, w4_216, w4_218, w0_35⟩ (ok_X12_canSell h10) (c_X12_canSell h10) rfl ⟨by omega, by omega⟩ (Nat.le_of_ble_eq_true rfl) (by decide) (by decide) rfl ?_
      refine r_if_ne (tgt := 44) dX12_sale_34 (by decide) (fun c11 => ?_) (fun c11 => ?_)
      · replace hf := (if_neg c11).symm.trans hf
        refine r_aload_n dX12_sale_44 rfl ?_
        refine r_iload_n dX12_sale_45 rfl ?_
        refine r_iload_n dX12_sale_46 rfl ?_
        refine r_iload_n dX12_sale_47 rfl ?_
        obtain ⟨q12, h13, hf⟩ := bnd hf
        refine r_callVv (st := []) (as := [.int l1, .int l2, .int l3]) dX12_sale_48 ms_X12_sell ⟨rfl, w4_220, w4_222, w0_36⟩ (ok_X12_sell h13) (c_X12_sell h13) rfl ⟨by omega, by omega⟩ (Nat.le_of_ble_eq_true rfl) (by decide) (by decide) rfl ?_
        refine r_aload_n dX12_sale_51 rfl ?_
        obtain ⟨x14, h15, hf⟩ := bnd hf
        refine r_getR dX12_sale_52 fs12_31_11 rfl h15 ?_
        refine r_iload_n dX12_sale_55 rfl ?_
        obtain ⟨x16, h17, hf⟩ := bnd hf
        refine r_iaload dX12_sale_56 h17 ?_
        have hz := congrArg eI (Option.some.inj hf)
        exact r_ireturn dX12_sale_57 rfl (Nat.le_of_ble_eq_true rfl) (Nat.le_of_ble_eq_true rfl) hz
      · replace hf := (if_pos c11).symm.trans hf
        refine r_aload_n dX12_sale_37 rfl ?_
        refine r_bipush (v := (-3)) dX12_sale_38 (by decide) ?_
        obtain ⟨q18, h19, hf⟩ := bnd hf
        refine r_callVi (st := []) (as := [.int (-3)]) dX12_sale_40 ms_X12_refuse ⟨rfl, w4_119, w4_121, w0_21⟩ (ok_X12_refuse h19) (c_X12_refuse h19) rfl ⟨by omega, by omega⟩ (Nat.le_of_ble_eq_true rfl) (by decide) (by decide) rfl ?_
        have hz := congrArg eI (Option.some.inj hf)
        exact r_ireturn dX12_sale_43 rfl (Nat.le_of_ble_eq_true rfl) (Nat.le_of_ble_eq_true rfl) hz
    · replace hf := (if_pos c8).symm.trans hf
      refine r_lvs (lv' := [.ref l0, .null, .null, .null]) ⟨Or.inl rfl, Or.inr rfl, Or.inr rfl, Or.inr rfl, trivial⟩ ?_
      exact t_X12_sale_21 _ _ _ hf
def f_X12_week_28 (S : Mm) (s0 : Int32) : Option (Int32 × Mm) := some (s0, S)
def f_X12_week (S : Mm) (l0 : Nat) : Option (Int32 × Mm) := if okc S l0 11 = true then (pI S 11 l0 15 0).bind fun S1 => (gI S1 11 l0 2).bind fun x3 => (if x3 = 9999 then (f_X12_refuse S1 l0 (-6)).bind fun q8 => f_X12_week_28 q8.2 q8.1 else (f_X12_weekOn S1 l0).bind fun q6 => f_X12_week_28 q6.2 q6.1) else none
set_option maxRecDepth 20000 in
theorem t_X12_week_28 {G : Gt} {l : Launch} (S : Mm) (s0 : Int32) (T : (Int32 × Mm)) (hf : f_X12_week_28 S s0 = some T) : Sat G l yX12_week cX12_week 1 (some .int) 5 0 0 0 0 28 [.null] [.int s0] S (eI T) := by
  unfold f_X12_week_28 at hf
  have hz := congrArg eI (Option.some.inj hf)
  exact r_ireturn dX12_week_28 rfl (Nat.le_of_ble_eq_true rfl) (Nat.le_of_ble_eq_true rfl) hz
set_option maxRecDepth 20000 in
theorem ok_X12_week {S : Mm} {l0 : Nat} {T : (Int32 × Mm)} (hf : f_X12_week S l0 = some T) : okc S l0 11 = true := (oif hf).1
set_option maxRecDepth 20000 in
theorem c_X12_week {G : Gt} {l : Launch} {S : Mm} {l0 : Nat} {T : (Int32 × Mm)} (hf : f_X12_week S l0 = some T) : CC G l yX12_week cX12_week 1 (some .int) 5 0 0 [.ref l0] S (eI T) := by
  unfold f_X12_week at hf
  replace hf := (oif hf).2
  refine r_body (by decide) rfl (Nat.le_of_ble_eq_true rfl) (by simp) ?_
  refine r_aload_n dX12_week_0 rfl ?_
  refine r_iconst (v := 0) dX12_week_1 (by decide) ?_
  obtain ⟨S1, h2, hf⟩ := bnd hf
  refine r_putI dX12_week_2 fs12_73_11 rfl h2 ?_
  refine r_aload_n dX12_week_5 rfl ?_
  obtain ⟨x3, h4, hf⟩ := bnd hf
  refine r_getI dX12_week_6 fs12_122_11 rfl h4 ?_
  refine r_sipush (v := 9999) dX12_week_9 (by decide) ?_
  refine r_icmp_ne (tgt := 24) dX12_week_12 (by decide) (fun c5 => ?_) (fun c5 => ?_)
  · replace hf := (if_neg c5).symm.trans hf
    refine r_aload_n dX12_week_24 rfl ?_
    obtain ⟨q6, h7, hf⟩ := bnd hf
    refine r_callVi (st := []) (as := []) dX12_week_25 ms_X12_weekOn ⟨rfl, w4_228, w4_230, w0_37⟩ (ok_X12_weekOn h7) (c_X12_weekOn h7) rfl ⟨by omega, by omega⟩ (Nat.le_of_ble_eq_true rfl) (by decide) (by decide) rfl ?_
    refine r_lvs (lv' := [.null]) ⟨Or.inr rfl, trivial⟩ ?_
    exact t_X12_week_28 _ _ _ hf
  · replace hf := (if_pos c5).symm.trans hf
    refine r_aload_n dX12_week_15 rfl ?_
    refine r_bipush (v := (-6)) dX12_week_16 (by decide) ?_
    obtain ⟨q8, h9, hf⟩ := bnd hf
    refine r_callVi (st := []) (as := [.int (-6)]) dX12_week_18 ms_X12_refuse ⟨rfl, w4_119, w4_121, w0_21⟩ (ok_X12_refuse h9) (c_X12_refuse h9) rfl ⟨by omega, by omega⟩ (Nat.le_of_ble_eq_true rfl) (by decide) (by decide) rfl ?_
    refine r_goto (tgt := 28) dX12_week_21 (by decide) ?_
    refine r_lvs (lv' := [.null]) ⟨Or.inr rfl, trivial⟩ ?_
    exact t_X12_week_28 _ _ _ hf
def f_X12_mule_80 (S : Mm) (l0 : Nat) (l1 : Int32) (l2 : Int32) (l3 : Int32) (l4 : Int32) : Option (Int32 × Mm) := (if 0 ≤ l4 then (gR S 11 l0 11).bind fun x2 => (aI S x2 l1).bind fun x4 => (aS S x2 l1 (x4 - l3)).bind fun S6 => (gR S6 11 l0 11).bind fun x8 => (aI S6 x8 l2).bind fun x10 => (aS S6 x8 l2 (x10 + l3)).bind fun S12 => (gI S12 11 l0 2).bind fun x14 => (pI S12 11 l0 3 (x14 + 52)).bind fun S16 => (gI S16 11 l0 3).bind fun x18 => some (x18, S16) else (f_X12_refuse S l0 l4).bind fun q20 => some (q20.1, q20.2))
def f_X12_mule_76 (S : Mm) (l0 : Nat) (l1 : Int32) (l2 : Int32) (l3 : Int32) : Option (Int32 × Mm) := f_X12_mule_80 S l0 l1 l2 l3 (-6)
def f_X12_mule_45 (S : Mm) (l0 : Nat) (l1 : Int32) (l2 : Int32) (l3 : Int32) (s0 : Int32) : Option (Int32 × Mm) := (if s0 = 0 then (gR S 11 l0 11).bind fun x2 => (aI S x2 l1).bind fun x4 => (if x4 < l3 then f_X12_mule_76 S l0 l1 l2 l3 else (gR S 11 l0 11).bind fun x7 => (aI S x7 l2).bind fun x9 => (if (x9 + l3) ≤ 9999 then f_X12_mule_80 S l0 l1 l2 l3 s0 else f_X12_mule_76 S l0 l1 l2 l3)) else f_X12_mule_80 S l0 l1 l2 l3 s0)
def f_X12_mule (S : Mm) (l0 : Nat) (l1 : Int32) (l2 : Int32) (l3 : Int32) : Option (Int32 × Mm) := if okc S l0 11 = true then (pI S 11 l0 15 0).bind fun S1 => (f_X12_areTwo S1 l0 l1 l2).bind fun q3 => (if q3.1 = 0 then f_X12_mule_45 q3.2 l0 l1 l2 l3 (-1) else (if 1 ≤ l3 then (gI q3.2 11 l0 2).bind fun x7 => (gI q3.2 11 l0 3).bind fun x9 => (if x9 ≤ x7 then f_X12_mule_45 q3.2 l0 l1 l2 l3 0 else f_X12_mule_45 q3.2 l0 l1 l2 l3 (-3)) else f_X12_mule_45 q3.2 l0 l1 l2 l3 (-4))) else none
set_option maxRecDepth 20000 in
theorem t_X12_mule_80 {G : Gt} {l : Launch} (S : Mm) (l0 : Nat) (l1 : Int32) (l2 : Int32) (l3 : Int32) (l4 : Int32) (T : (Int32 × Mm)) (hf : f_X12_mule_80 S l0 l1 l2 l3 l4 = some T) : Sat G l yX12_mule cX12_mule 5 (some .int) 3 0 0 0 0 80 [.ref l0, .int l1, .int l2, .int l3, .int l4] [] S (eI T) := by
  unfold f_X12_mule_80 at hf
  refine r_iload dX12_mule_80 rfl ?_
  refine r_if_ge (tgt := 92) dX12_mule_82 (by decide) (fun c1 => ?_) (fun c1 => ?_)
  · replace hf := (if_pos c1).symm.trans hf
    refine r_aload_n dX12_mule_92 rfl ?_
    obtain ⟨x2, h3, hf⟩ := bnd hf
    refine r_getR dX12_mule_93 fs12_31_11 rfl h3 ?_
    refine r_iload_n dX12_mule_96 rfl ?_
    refine r_dup2 dX12_mule_97 rfl rfl ?_
    obtain ⟨x4, h5, hf⟩ := bnd hf
    refine r_iaload dX12_mule_98 h5 ?_
    refine r_iload_n dX12_mule_99 rfl ?_
    refine r_isub dX12_mule_100 ?_
    obtain ⟨S6, h7, hf⟩ := bnd hf
    refine r_iastore dX12_mule_101 h7 ?_
    refine r_aload_n dX12_mule_102 rfl ?_
    obtain ⟨x8, h9, hf⟩ := bnd hf
    refine r_getR dX12_mule_103 fs12_31_11 rfl h9 ?_
    refine r_iload_n dX12_mule_106 rfl ?_
    refine r_dup2 dX12_mule_107 rfl rfl ?_
    obtain ⟨x10, h11, hf⟩ := bnd hf
    refine r_iaload dX12_mule_108 h11 ?_
    refine r_iload_n dX12_mule_109 rfl ?_
    refine r_iadd dX12_mule_110 ?_
    obtain ⟨S12, h13, hf⟩ := bnd hf
    refine r_iastore dX12_mule_111 h13 ?_
    refine r_aload_n dX12_mule_112 rfl ?_
    refine r_aload_n dX12_mule_113 rfl ?_
    obtain ⟨x14, h15, hf⟩ := bnd hf
    refine r_getI dX12_mule_114 fs12_122_11 rfl h15 ?_
    refine r_bipush (v := 52) dX12_mule_117 (by decide) ?_
    refine r_iadd dX12_mule_119 ?_
    obtain ⟨S16, h17, hf⟩ := bnd hf
    refine r_putI dX12_mule_120 fs12_153_11 rfl h17 ?_
    refine r_aload_n dX12_mule_123 rfl ?_
    obtain ⟨x18, h19, hf⟩ := bnd hf
    refine r_getI dX12_mule_124 fs12_153_11 rfl h19 ?_
    have hz := congrArg eI (Option.some.inj hf)
    exact r_ireturn dX12_mule_127 rfl (Nat.le_of_ble_eq_true rfl) (Nat.le_of_ble_eq_true rfl) hz
  · replace hf := (if_neg c1).symm.trans hf
    refine r_aload_n dX12_mule_85 rfl ?_
    refine r_iload dX12_mule_86 rfl ?_
    obtain ⟨q20, h21, hf⟩ := bnd hf
    refine r_callVi (st := []) (as := [.int l4]) dX12_mule_88 ms_X12_refuse ⟨rfl, w4_119, w4_121, w0_21⟩ (ok_X12_refuse h21) (c_X12_refuse h21) rfl ⟨by omega, by omega⟩ (Nat.le_of_ble_eq_true rfl) (by decide) (by decide) rfl ?_
    have hz := congrArg eI (Option.some.inj hf)
    exact r_ireturn dX12_mule_91 rfl (Nat.le_of_ble_eq_true rfl) (Nat.le_of_ble_eq_true rfl) hz
set_option maxRecDepth 20000 in
theorem t_X12_mule_76 {G : Gt} {l : Launch} (S : Mm) (l0 : Nat) (l1 : Int32) (l2 : Int32) (l3 : Int32) (T : (Int32 × Mm)) (hf : f_X12_mule_76 S l0 l1 l2 l3 = some T) : Sat G l yX12_mule cX12_mule 5 (some .int) 3 0 0 0 0 76 [.ref l0, .int l1, .int l2, .int l3, .null] [] S (eI T) := by
  unfold f_X12_mule_76 at hf
  refine r_bipush (v := (-6)) dX12_mule_76 (by decide) ?_
  refine r_istore (lv' := [.ref l0, .int l1, .int l2, .int l3, .int (-6)]) dX12_mule_78 (by decide) rfl rfl ?_
  exact t_X12_mule_80 _ _ _ _ _ _ _ hf
set_option maxRecDepth 20000 in
theorem t_X12_mule_45 {G : Gt} {l : Launch} (S : Mm) (l0 : Nat) (l1 : Int32) (l2 : Int32) (l3 : Int32) (s0 : Int32) (T : (Int32 × Mm)) (hf : f_X12_mule_45 S l0 l1 l2 l3 s0 = some T) : Sat G l yX12_mule cX12_mule 5 (some .int) 3 0 0 0 0 45 [.ref l0, .int l1, .int l2, .int l3, .null] [.int s0] S (eI T) := by
  unfold f_X12_mule_45 at hf
  refine r_istore (lv' := [.ref l0, .int l1, .int l2, .int l3, .int s0]) dX12_mule_45 (by decide) rfl rfl ?_
  refine r_iload dX12_mule_47 rfl ?_
  refine r_if_ne (tgt := 80) dX12_mule_49 (by decide) (fun c1 => ?_) (fun c1 => ?_)
  · replace hf := (if_neg c1).symm.trans hf
    exact t_X12_mule_80 _ _ _ _ _ _ _ hf
  · replace hf := (if_pos c1).symm.trans hf
    refine r_iload_n dX12_mule_52 rfl ?_
    refine r_aload_n dX12_mule_53 rfl ?_
    obtain ⟨x2, h3, hf⟩ := bnd hf
    refine r_getR dX12_mule_54 fs12_31_11 rfl h3 ?_
    refine r_iload_n dX12_mule_57 rfl ?_
    obtain ⟨x4, h5, hf⟩ := bnd hf
    refine r_iaload dX12_mule_58 h5 ?_
    refine r_icmp_gt (tgt := 76) dX12_mule_59 (by decide) (fun c6 => ?_) (fun c6 => ?_)
    · replace hf := (if_pos c6).symm.trans hf
      refine r_lvs (lv' := [.ref l0, .int l1, .int l2, .int l3, .null]) ⟨Or.inl rfl, Or.inl rfl, Or.inl rfl, Or.inl rfl, Or.inr rfl, trivial⟩ ?_
      exact t_X12_mule_76 _ _ _ _ _ _ hf
    · replace hf := (if_neg c6).symm.trans hf
      refine r_aload_n dX12_mule_62 rfl ?_
      obtain ⟨x7, h8, hf⟩ := bnd hf
      refine r_getR dX12_mule_63 fs12_31_11 rfl h8 ?_
      refine r_iload_n dX12_mule_66 rfl ?_
      obtain ⟨x9, h10, hf⟩ := bnd hf
      refine r_iaload dX12_mule_67 h10 ?_
      refine r_iload_n dX12_mule_68 rfl ?_
      refine r_iadd dX12_mule_69 ?_
      refine r_sipush (v := 9999) dX12_mule_70 (by decide) ?_
      refine r_icmp_le (tgt := 80) dX12_mule_73 (by decide) (fun c11 => ?_) (fun c11 => ?_)
      · replace hf := (if_pos c11).symm.trans hf
        exact t_X12_mule_80 _ _ _ _ _ _ _ hf
      · replace hf := (if_neg c11).symm.trans hf
        refine r_lvs (lv' := [.ref l0, .int l1, .int l2, .int l3, .null]) ⟨Or.inl rfl, Or.inl rfl, Or.inl rfl, Or.inl rfl, Or.inr rfl, trivial⟩ ?_
        exact t_X12_mule_76 _ _ _ _ _ _ hf
set_option maxRecDepth 20000 in
theorem ok_X12_mule {S : Mm} {l0 : Nat} {l1 : Int32} {l2 : Int32} {l3 : Int32} {T : (Int32 × Mm)} (hf : f_X12_mule S l0 l1 l2 l3 = some T) : okc S l0 11 = true := (oif hf).1
set_option maxRecDepth 20000 in
theorem c_X12_mule {G : Gt} {l : Launch} {S : Mm} {l0 : Nat} {l1 : Int32} {l2 : Int32} {l3 : Int32} {T : (Int32 × Mm)} (hf : f_X12_mule S l0 l1 l2 l3 = some T) : CC G l yX12_mule cX12_mule 5 (some .int) 3 0 0 [.ref l0, .int l1, .int l2, .int l3] S (eI T) := by
  unfold f_X12_mule at hf
  replace hf := (oif hf).2
  refine r_body (by decide) rfl (Nat.le_of_ble_eq_true rfl) (by simp) ?_
  refine r_aload_n dX12_mule_0 rfl ?_
  refine r_iconst (v := 0) dX12_mule_1 (by decide) ?_
  obtain ⟨S1, h2, hf⟩ := bnd hf
  refine r_putI dX12_mule_2 fs12_73_11 rfl h2 ?_
  refine r_aload_n dX12_mule_5 rfl ?_
  refine r_iload_n dX12_mule_6 rfl ?_
  refine r_iload_n dX12_mule_7 rfl ?_
  obtain ⟨q3, h4, hf⟩ := bnd hf
  refine r_callVi (st := []) (as := [.int l1, .int l2]) dX12_mule_8 ms_X12_areTwo ⟨rfl, w4_164, w4_166, w0_29⟩ (ok_X12_areTwo h4) (c_X12_areTwo h4) rfl ⟨by omega, by omega⟩ (Nat.le_of_ble_eq_true rfl) (by decide) (by decide) rfl ?_
  refine r_if_ne (tgt := 18) dX12_mule_11 (by decide) (fun c5 => ?_) (fun c5 => ?_)
  · replace hf := (if_neg c5).symm.trans hf
    refine r_iload_n dX12_mule_18 rfl ?_
    refine r_iconst (v := 1) dX12_mule_19 (by decide) ?_
    refine r_icmp_ge (tgt := 28) dX12_mule_20 (by decide) (fun c6 => ?_) (fun c6 => ?_)
    · replace hf := (if_pos c6).symm.trans hf
      refine r_aload_n dX12_mule_28 rfl ?_
      obtain ⟨x7, h8, hf⟩ := bnd hf
      refine r_getI dX12_mule_29 fs12_122_11 rfl h8 ?_
      refine r_aload_n dX12_mule_32 rfl ?_
      obtain ⟨x9, h10, hf⟩ := bnd hf
      refine r_getI dX12_mule_33 fs12_153_11 rfl h10 ?_
      refine r_icmp_ge (tgt := 44) dX12_mule_36 (by decide) (fun c11 => ?_) (fun c11 => ?_)
      · replace hf := (if_pos c11).symm.trans hf
        refine r_iconst (v := 0) dX12_mule_44 (by decide) ?_
        exact t_X12_mule_45 _ _ _ _ _ _ _ hf
      · replace hf := (if_neg c11).symm.trans hf
        refine r_bipush (v := (-3)) dX12_mule_39 (by decide) ?_
        refine r_goto (tgt := 45) dX12_mule_41 (by decide) ?_
        exact t_X12_mule_45 _ _ _ _ _ _ _ hf
    · replace hf := (if_neg c6).symm.trans hf
      refine r_bipush (v := (-4)) dX12_mule_23 (by decide) ?_
      refine r_goto (tgt := 45) dX12_mule_25 (by decide) ?_
      exact t_X12_mule_45 _ _ _ _ _ _ _ hf
  · replace hf := (if_pos c5).symm.trans hf
    refine r_iconst (v := (-1)) dX12_mule_14 (by decide) ?_
    refine r_goto (tgt := 45) dX12_mule_15 (by decide) ?_
    exact t_X12_mule_45 _ _ _ _ _ _ _ hf
def f_X12_owe_39 (S : Mm) (l0 : Nat) (l1 : Int32) (l2 : Int32) (l3 : Int32) (s0 : Int32) : Option (Int32 × Mm) := (if 0 ≤ s0 then (f_X12_debt S l0 l1 l2).bind fun q2 => (gR q2.2 11 l0 13).bind fun x4 => (aS q2.2 x4 ((6 * l1) + l2) l3).bind fun S6 => some (q2.1, S6) else (f_X12_refuse S l0 s0).bind fun q8 => some (q8.1, q8.2))
def f_X12_owe (S : Mm) (l0 : Nat) (l1 : Int32) (l2 : Int32) (l3 : Int32) : Option (Int32 × Mm) := if okc S l0 11 = true then (pI S 11 l0 15 0).bind fun S1 => (f_X12_areTwo S1 l0 l1 l2).bind fun q3 => (if q3.1 = 0 then f_X12_owe_39 q3.2 l0 l1 l2 l3 (-1) else (if 0 ≤ l3 then (if l3 ≤ 99 then f_X12_owe_39 q3.2 l0 l1 l2 l3 0 else f_X12_owe_39 q3.2 l0 l1 l2 l3 (-6)) else f_X12_owe_39 q3.2 l0 l1 l2 l3 (-4))) else none
set_option maxRecDepth 20000 in
theorem t_X12_owe_39 {G : Gt} {l : Launch} (S : Mm) (l0 : Nat) (l1 : Int32) (l2 : Int32) (l3 : Int32) (s0 : Int32) (T : (Int32 × Mm)) (hf : f_X12_owe_39 S l0 l1 l2 l3 s0 = some T) : Sat G l yX12_owe cX12_owe 6 (some .int) 3 0 0 0 0 39 [.ref l0, .int l1, .int l2, .int l3, .null, .null] [.int s0] S (eI T) := by
  unfold f_X12_owe_39 at hf
  refine r_istore (lv' := [.ref l0, .int l1, .int l2, .int l3, .int s0, .null]) dX12_owe_39 (by decide) rfl rfl ?_
  refine r_iload dX12_owe_41 rfl ?_
  refine r_if_ge (tgt := 53) dX12_owe_43 (by decide) (fun c1 => ?_) (fun c1 => ?_)
  · replace hf := (if_pos c1).symm.trans hf
    refine r_aload_n dX12_owe_53 rfl ?_
    refine r_iload_n dX12_owe_54 rfl ?_
    refine r_iload_n dX12_owe_55 rfl ?_
    obtain ⟨q2, h3, hf⟩ := bnd hf
    refine r_callVi (st := []) (as := [.int l1, .int l2]) dX12_owe_56 ms_X12_debt ⟨rfl, w5_8, w5_10, w0_40⟩ (ok_X12_debt h3) (c_X12_debt h3) rfl ⟨by omega, by omega⟩ (Nat.le_of_ble_eq_true rfl) (by decide) (by decide) rfl ?_
    refine r_istore (lv' := [.ref l0, .int l1, .int l2, .int l3, .int s0, .int q2.1]) dX12_owe_59 (by decide) rfl rfl ?_
    refine r_aload_n dX12_owe_61 rfl ?_
    obtain ⟨x4, h5, hf⟩ := bnd hf
    refine r_getR dX12_owe_62 fs12_37_11 rfl h5 ?_
    refine r_bipush (v := 6) dX12_owe_65 (by decide) ?_
    refine r_iload_n dX12_owe_67 rfl ?_
    refine r_imul dX12_owe_68 ?_
    refine r_iload_n dX12_owe_69 rfl ?_
    refine r_iadd dX12_owe_70 ?_
    refine r_iload_n dX12_owe_71 rfl ?_
    obtain ⟨S6, h7, hf⟩ := bnd hf
    refine r_iastore dX12_owe_72 h7 ?_
    refine r_iload dX12_owe_73 rfl ?_
    have hz := congrArg eI (Option.some.inj hf)
    exact r_ireturn dX12_owe_75 rfl (Nat.le_of_ble_eq_true rfl) (Nat.le_of_ble_eq_true rfl) hz
  · replace hf := (if_neg c1).symm.trans hf
    refine r_aload_n dX12_owe_46 rfl ?_
    refine r_iload dX12_owe_47 rfl ?_
    obtain ⟨q8, h9, hf⟩ := bnd hf
    refine r_callVi (st := []) (as := [.int s0]) dX12_owe_49 ms_X12_refuse ⟨rfl, w4_119, w4_121, w0_21⟩ (ok_X12_refuse h9) (c_X12_refuse h9) rfl ⟨by omega, by omega⟩ (Nat.le_of_ble_eq_true rfl) (by decide) (by decide) rfl ?_
    have hz := congrArg eI (Option.some.inj hf)
    exact r_ireturn dX12_owe_52 rfl (Nat.le_of_ble_eq_true rfl) (Nat.le_of_ble_eq_true rfl) hz
set_option maxRecDepth 20000 in
theorem ok_X12_owe {S : Mm} {l0 : Nat} {l1 : Int32} {l2 : Int32} {l3 : Int32} {T : (Int32 × Mm)} (hf : f_X12_owe S l0 l1 l2 l3 = some T) : okc S l0 11 = true := (oif hf).1
set_option maxRecDepth 20000 in
theorem c_X12_owe {G : Gt} {l : Launch} {S : Mm} {l0 : Nat} {l1 : Int32} {l2 : Int32} {l3 : Int32} {T : (Int32 × Mm)} (hf : f_X12_owe S l0 l1 l2 l3 = some T) : CC G l yX12_owe cX12_owe 6 (some .int) 3 0 0 [.ref l0, .int l1, .int l2, .int l3] S (eI T) := by
  unfold f_X12_owe at hf
  replace hf := (oif hf).2
  refine r_body (by decide) rfl (Nat.le_of_ble_eq_true rfl) (by simp) ?_
  refine r_aload_n dX12_owe_0 rfl ?_
  refine r_iconst (v := 0) dX12_owe_1 (by decide) ?_
  obtain ⟨S1, h2, hf⟩ := bnd hf
  refine r_putI dX12_owe_2 fs12_73_11 rfl h2 ?_
  refine r_aload_n dX12_owe_5 rfl ?_
  refine r_iload_n dX12_owe_6 rfl ?_
  refine r_iload_n dX12_owe_7 rfl ?_
  obtain ⟨q3, h4, hf⟩ := bnd hf
  refine r_callVi (st := []) (as := [.int l1, .int l2]) dX12_owe_8 ms_X12_areTwo ⟨rfl, w4_164, w4_166, w0_29⟩ (ok_X12_areTwo h4) (c_X12_areTwo h4) rfl ⟨by omega, by omega⟩ (Nat.le_of_ble_eq_true rfl) (by decide) (by decide) rfl ?_
  refine r_if_ne (tgt := 18) dX12_owe_11 (by decide) (fun c5 => ?_) (fun c5 => ?_)
  · replace hf := (if_neg c5).symm.trans hf
    refine r_iload_n dX12_owe_18 rfl ?_
    refine r_if_ge (tgt := 27) dX12_owe_19 (by decide) (fun c6 => ?_) (fun c6 => ?_)
    · replace hf := (if_pos c6).symm.trans hf
      refine r_iload_n dX12_owe_27 rfl ?_
      refine r_bipush (v := 99) dX12_owe_28 (by decide) ?_
      refine r_icmp_le (tgt := 38) dX12_owe_30 (by decide) (fun c7 => ?_) (fun c7 => ?_)
      · replace hf := (if_pos c7).symm.trans hf
        refine r_iconst (v := 0) dX12_owe_38 (by decide) ?_
        exact t_X12_owe_39 _ _ _ _ _ _ _ hf
      · replace hf := (if_neg c7).symm.trans hf
        refine r_bipush (v := (-6)) dX12_owe_33 (by decide) ?_
        refine r_goto (tgt := 39) dX12_owe_35 (by decide) ?_
        exact t_X12_owe_39 _ _ _ _ _ _ _ hf
    · replace hf := (if_neg c6).symm.trans hf
      refine r_bipush (v := (-4)) dX12_owe_22 (by decide) ?_
      refine r_goto (tgt := 39) dX12_owe_24 (by decide) ?_
      exact t_X12_owe_39 _ _ _ _ _ _ _ hf
  · replace hf := (if_pos c5).symm.trans hf
    refine r_iconst (v := (-1)) dX12_owe_14 (by decide) ?_
    refine r_goto (tgt := 39) dX12_owe_15 (by decide) ?_
    exact t_X12_owe_39 _ _ _ _ _ _ _ hf
def f_X12_strike (S : Mm) (l0 : Nat) : Option (Int32 × Mm) := if okc S l0 11 = true then (pI S 11 l0 15 0).bind fun S1 => (f_X12_strikeAll S1 l0).bind fun q3 => some (q3.1, q3.2) else none
set_option maxRecDepth 20000 in
theorem ok_X12_strike {S : Mm} {l0 : Nat} {T : (Int32 × Mm)} (hf : f_X12_strike S l0 = some T) : okc S l0 11 = true := (oif hf).1
set_option maxRecDepth 20000 in
theorem c_X12_strike {G : Gt} {l : Launch} {S : Mm} {l0 : Nat} {T : (Int32 × Mm)} (hf : f_X12_strike S l0 = some T) : CC G l yX12_strike cX12_strike 1 (some .int) 4 0 0 [.ref l0] S (eI T) := by
  unfold f_X12_strike at hf
  replace hf := (oif hf).2
  refine r_body (by decide) rfl (Nat.le_of_ble_eq_true rfl) (by simp) ?_
  refine r_aload_n dX12_strike_0 rfl ?_
  refine r_iconst (v := 0) dX12_strike_1 (by decide) ?_
  obtain ⟨S1, h2, hf⟩ := bnd hf
  refine r_putI dX12_strike_2 fs12_73_11 rfl h2 ?_
  refine r_aload_n dX12_strike_5 rfl ?_
  obtain ⟨q3, h4, hf⟩ := bnd hf
  refine r_callVi (st := []) (as := []) dX12_strike_6 ms_X12_strikeAll ⟨rfl, w5_16, w5_18, w0_41⟩ (ok_X12_strikeAll h4) (c_X12_strikeAll h4) rfl ⟨by omega, by omega⟩ (Nat.le_of_ble_eq_true rfl) (by decide) (by decide) rfl ?_
  have hz := congrArg eI (Option.some.inj hf)
  exact r_ireturn dX12_strike_9 rfl (Nat.le_of_ble_eq_true rfl) (Nat.le_of_ble_eq_true rfl) hz
def f_X12_servedIn_4 : Nat → Mm → Nat → Int32 → Int32 → Int32 → Option (Int32 × Mm)
  | 0, _, _, _, _, _ => none
  | n + 1, S, l0, l1, l2, l3 => (if l1 ≤ l3 then some (l2, S) else (f_X12_weekOn S l0).bind fun q2 => (f_X12_servedIn_4 n) q2.2 l0 l1 (l2 + q2.1) (l3 + 1))
def f_X12_servedIn (S : Mm) (l0 : Nat) (l1 : Int32) : Option (Int32 × Mm) := if okc S l0 11 = true then f_X12_servedIn_4 FU S l0 l1 0 0 else none
set_option maxRecDepth 20000 in
theorem t_X12_servedIn_4 {G : Gt} {l : Launch} : ∀ (n : Nat) (S : Mm) (l0 : Nat) (l1 : Int32) (l2 : Int32) (l3 : Int32) (T : (Int32 × Mm)), f_X12_servedIn_4 n S l0 l1 l2 l3 = some T → Sat G l yX12_servedIn cX12_servedIn 4 (some .int) 5 0 0 0 0 4 [.ref l0, .int l1, .int l2, .int l3] [] S (eI T) := by
  intro n
  induction n with
  | zero =>
    intro S l0 l1 l2 l3 T hf
    rw [f_X12_servedIn_4] at hf
    cases hf
  | succ n ih =>
    intro S l0 l1 l2 l3 T hf
    rw [f_X12_servedIn_4] at hf
    refine r_iload_n dX12_servedIn_4 rfl ?_
    refine r_iload_n dX12_servedIn_5 rfl ?_
    refine r_icmp_ge (tgt := 22) dX12_servedIn_6 (by decide) (fun c1 => ?_) (fun c1 => ?_)
    · replace hf := (if_pos c1).symm.trans hf
      refine r_iload_n dX12_servedIn_22 rfl ?_
      have hz := congrArg eI (Option.some.inj hf)
      exact r_ireturn dX12_servedIn_23 rfl (Nat.le_of_ble_eq_true rfl) (Nat.le_of_ble_eq_true rfl) hz
    · replace hf := (if_neg c1).symm.trans hf
      refine r_iload_n dX12_servedIn_9 rfl ?_
      refine r_aload_n dX12_servedIn_10 rfl ?_
      obtain ⟨q2, h3, hf⟩ := bnd hf
      refine r_callVi (st := [.int l2]) (as := []) dX12_servedIn_11 ms_X12_weekOn ⟨rfl, w4_228, w4_230, w0_37⟩ (ok_X12_weekOn h3) (c_X12_weekOn h3) rfl ⟨by omega, by omega⟩ (Nat.le_of_ble_eq_true rfl) (by decide) (by decide) rfl ?_
      refine r_iadd dX12_servedIn_14 ?_
      refine r_istore_n (lv' := [.ref l0, .int l1, .int (l2 + q2.1), .int l3]) dX12_servedIn_15 (by decide) rfl rfl ?_
      refine r_iinc (v := 1) (lv' := [.ref l0, .int l1, .int (l2 + q2.1), .int (l3 + 1)]) dX12_servedIn_16 rfl (by decide) (by decide) rfl rfl ?_
      refine r_goto (tgt := 4) dX12_servedIn_19 (by decide) ?_
      exact ih _ _ _ _ _ _ hf
set_option maxRecDepth 20000 in
theorem ok_X12_servedIn {S : Mm} {l0 : Nat} {l1 : Int32} {T : (Int32 × Mm)} (hf : f_X12_servedIn S l0 l1 = some T) : okc S l0 11 = true := (oif hf).1
set_option maxRecDepth 20000 in
theorem c_X12_servedIn {G : Gt} {l : Launch} {S : Mm} {l0 : Nat} {l1 : Int32} {T : (Int32 × Mm)} (hf : f_X12_servedIn S l0 l1 = some T) : CC G l yX12_servedIn cX12_servedIn 4 (some .int) 5 0 0 [.ref l0, .int l1] S (eI T) := by
  unfold f_X12_servedIn at hf
  replace hf := (oif hf).2
  refine r_body (by decide) rfl (Nat.le_of_ble_eq_true rfl) (by simp) ?_
  refine r_iconst (v := 0) dX12_servedIn_0 (by decide) ?_
  refine r_istore_n (lv' := [.ref l0, .int l1, .int 0, .null]) dX12_servedIn_1 (by decide) rfl rfl ?_
  refine r_iconst (v := 0) dX12_servedIn_2 (by decide) ?_
  refine r_istore_n (lv' := [.ref l0, .int l1, .int 0, .int 0]) dX12_servedIn_3 (by decide) rfl rfl ?_
  exact t_X12_servedIn_4 FU _ _ _ _ _ _ hf
def f_X12_behind_38 (S : Mm) (l0 : Nat) (l1 : Int32) (l2 : Int32) (s0 : Int32) : Option (Int32 × Mm) := (if 0 ≤ s0 then (f_X12_open S l0).bind fun q2 => (f_X12_servedIn q2 l0 l2).bind fun q4 => (gR q4.2 11 l0 11).bind fun x6 => (aI q4.2 x6 l1).bind fun x8 => (f_X12_close q4.2 l0).bind fun q10 => some (x8, q10) else (f_X12_refuse S l0 s0).bind fun q12 => some (q12.1, q12.2))
def f_X12_behind (S : Mm) (l0 : Nat) (l1 : Int32) (l2 : Int32) : Option (Int32 × Mm) := if okc S l0 11 = true then (pI S 11 l0 15 0).bind fun S1 => (f_X12_isHouse S1 l0 l1).bind fun q3 => (if q3.1 = 0 then f_X12_behind_38 q3.2 l0 l1 l2 (-1) else (if 0 ≤ l2 then (if l2 ≤ 60 then f_X12_behind_38 q3.2 l0 l1 l2 0 else f_X12_behind_38 q3.2 l0 l1 l2 (-6)) else f_X12_behind_38 q3.2 l0 l1 l2 (-4))) else none
set_option maxRecDepth 20000 in
theorem t_X12_behind_38 {G : Gt} {l : Launch} (S : Mm) (l0 : Nat) (l1 : Int32) (l2 : Int32) (s0 : Int32) (T : (Int32 × Mm)) (hf : f_X12_behind_38 S l0 l1 l2 s0 = some T) : Sat G l yX12_behind cX12_behind 5 (some .int) 6 0 0 0 0 38 [.ref l0, .int l1, .int l2, .null, .null] [.int s0] S (eI T) := by
  unfold f_X12_behind_38 at hf
  refine r_istore_n (lv' := [.ref l0, .int l1, .int l2, .int s0, .null]) dX12_behind_38 (by decide) rfl rfl ?_
  refine r_iload_n dX12_behind_39 rfl ?_
  refine r_if_ge (tgt := 49) dX12_behind_40 (by decide) (fun c1 => ?_) (fun c1 => ?_)
  · replace hf := (if_pos c1).symm.trans hf
    refine r_aload_n dX12_behind_49 rfl ?_
    obtain ⟨q2, h3, hf⟩ := bnd hf
    refine r_callVv (st := []) (as := []) dX12_behind_50 ms_X12_open ⟨rfl, w4_152, w4_154, w0_26⟩ (ok_X12_open h3) (c_X12_open h3) rfl ⟨by omega, by omega⟩ (Nat.le_of_ble_eq_true rfl) (by decide) (by decide) rfl ?_
    refine r_aload_n dX12_behind_53 rfl ?_
    refine r_iload_n dX12_behind_54 rfl ?_
    obtain ⟨q4, h5, hf⟩ := bnd hf
    refine r_callVi (st := []) (as := [.int l2]) dX12_behind_55 ms_X12_servedIn ⟨rfl, w5_32, w5_34, w0_44⟩ (ok_X12_servedIn h5) (c_X12_servedIn h5) rfl ⟨by omega, by omega⟩ (Nat.le_of_ble_eq_true rfl) (by decide) (by decide) rfl ?_
    refine r_pop dX12_behind_58 rfl ?_
    refine r_aload_n dX12_behind_59 rfl ?_
    obtain ⟨x6, h7, hf⟩ := bnd hf
    refine r_getR dX12_behind_60 fs12_31_11 rfl h7 ?_
    refine r_iload_n dX12_behind_63 rfl ?_
    obtain ⟨x8, h9, hf⟩ := bnd hf
    refine r_iaload dX12_behind_64 h9 ?_
    refine r_istore (lv' := [.ref l0, .int l1, .int l2, .int s0, .int x8]) dX12_behind_65 (by decide) rfl rfl ?_
    refine r_aload_n dX12_behind_67 rfl ?_
    obtain ⟨q10, h11, hf⟩ := bnd hf
    refine r_callVv (st := []) (as := []) dX12_behind_68 ms_X12_close ⟨rfl, w4_172, w4_174, w0_31⟩ (ok_X12_close h11) (c_X12_close h11) rfl ⟨by omega, by omega⟩ (Nat.le_of_ble_eq_true rfl) (by decide) (by decide) rfl ?_
    refine r_iload dX12_behind_71 rfl ?_
    have hz := congrArg eI (Option.some.inj hf)
    exact r_ireturn dX12_behind_73 rfl (Nat.le_of_ble_eq_true rfl) (Nat.le_of_ble_eq_true rfl) hz
  · replace hf := (if_neg c1).symm.trans hf
    refine r_aload_n dX12_behind_43 rfl ?_
    refine r_iload_n dX12_behind_44 rfl ?_
    obtain ⟨q12, h13, hf⟩ := bnd hf
    refine r_callVi (st := []) (as := [.int s0]) dX12_behind_45 ms_X12_refuse ⟨rfl, w4_119, w4_121, w0_21⟩ (ok_X12_refuse h13) (c_X12_refuse h13) rfl ⟨by omega, by omega⟩ (Nat.le_of_ble_eq_true rfl) (by decide) (by decide) rfl ?_
    have hz := congrArg eI (Option.some.inj hf)
    exact r_ireturn dX12_behind_48 rfl (Nat.le_of_ble_eq_true rfl) (Nat.le_of_ble_eq_true rfl) hz
set_option maxRecDepth 20000 in
theorem ok_X12_behind {S : Mm} {l0 : Nat} {l1 : Int32} {l2 : Int32} {T : (Int32 × Mm)} (hf : f_X12_behind S l0 l1 l2 = some T) : okc S l0 11 = true := (oif hf).1
set_option maxRecDepth 20000 in
theorem c_X12_behind {G : Gt} {l : Launch} {S : Mm} {l0 : Nat} {l1 : Int32} {l2 : Int32} {T : (Int32 × Mm)} (hf : f_X12_behind S l0 l1 l2 = some T) : CC G l yX12_behind cX12_behind 5 (some .int) 6 0 0 [.ref l0, .int l1, .int l2] S (eI T) := by
  unfold f_X12_behind at hf
  replace hf := (oif hf).2
  refine r_body (by decide) rfl (Nat.le_of_ble_eq_true rfl) (by simp) ?_
  refine r_aload_n dX12_behind_0 rfl ?_
  refine r_iconst (v := 0) dX12_behind_1 (by decide) ?_
  obtain ⟨S1, h2, hf⟩ := bnd hf
  refine r_putI dX12_behind_2 fs12_73_11 rfl h2 ?_
  refine r_aload_n dX12_behind_5 rfl ?_
  refine r_iload_n dX12_behind_6 rfl ?_
  obtain ⟨q3, h4, hf⟩ := bnd hf
  refine r_callVi (st := []) (as := [.int l1]) dX12_behind_7 ms_X12_isHouse ⟨rfl, w4_168, w4_170, w0_30⟩ (ok_X12_isHouse h4) (c_X12_isHouse h4) rfl ⟨by omega, by omega⟩ (Nat.le_of_ble_eq_true rfl) (by decide) (by decide) rfl ?_
  refine r_if_ne (tgt := 17) dX12_behind_10 (by decide) (fun c5 => ?_) (fun c5 => ?_)
  · replace hf := (if_neg c5).symm.trans hf
    refine r_iload_n dX12_behind_17 rfl ?_
    refine r_if_ge (tgt := 26) dX12_behind_18 (by decide) (fun c6 => ?_) (fun c6 => ?_)
    · replace hf := (if_pos c6).symm.trans hf
      refine r_iload_n dX12_behind_26 rfl ?_
      refine r_bipush (v := 60) dX12_behind_27 (by decide) ?_
      refine r_icmp_le (tgt := 37) dX12_behind_29 (by decide) (fun c7 => ?_) (fun c7 => ?_)
      · replace hf := (if_pos c7).symm.trans hf
        refine r_iconst (v := 0) dX12_behind_37 (by decide) ?_
        exact t_X12_behind_38 _ _ _ _ _ _ hf
      · replace hf := (if_neg c7).symm.trans hf
        refine r_bipush (v := (-6)) dX12_behind_32 (by decide) ?_
        refine r_goto (tgt := 38) dX12_behind_34 (by decide) ?_
        exact t_X12_behind_38 _ _ _ _ _ _ hf
    · replace hf := (if_neg c6).symm.trans hf
      refine r_bipush (v := (-4)) dX12_behind_21 (by decide) ?_
      refine r_goto (tgt := 38) dX12_behind_23 (by decide) ?_
      exact t_X12_behind_38 _ _ _ _ _ _ hf
  · replace hf := (if_pos c5).symm.trans hf
    refine r_iconst (v := (-1)) dX12_behind_13 (by decide) ?_
    refine r_goto (tgt := 38) dX12_behind_14 (by decide) ?_
    exact t_X12_behind_38 _ _ _ _ _ _ hf
def f_X12_wantsOfAll_4 : Nat → Mm → Nat → Int32 → Int32 → Option (Int32 × Mm)
  | 0, _, _, _, _ => none
  | n + 1, S, l0, l1, l2 => (gI S 11 l0 0).bind fun x1 => (if x1 ≤ l2 then some (l1, S) else (gR S 11 l0 10).bind fun x4 => (aI S x4 l2).bind fun x6 => (f_X12_wantsOfAll_4 n) S l0 (l1 + x6) (l2 + 1))
def f_X12_wantsOfAll (S : Mm) (l0 : Nat) : Option (Int32 × Mm) := if okc S l0 11 = true then f_X12_wantsOfAll_4 FU S l0 0 0 else none
set_option maxRecDepth 20000 in
theorem t_X12_wantsOfAll_4 {G : Gt} {l : Launch} : ∀ (n : Nat) (S : Mm) (l0 : Nat) (l1 : Int32) (l2 : Int32) (T : (Int32 × Mm)), f_X12_wantsOfAll_4 n S l0 l1 l2 = some T → Sat G l yX12_wantsOfAll cX12_wantsOfAll 3 (some .int) 0 0 0 0 0 4 [.ref l0, .int l1, .int l2] [] S (eI T) := by
  intro n
  induction n with
  | zero =>
    intro S l0 l1 l2 T hf
    rw [f_X12_wantsOfAll_4] at hf
    cases hf
  | succ n ih =>
    intro S l0 l1 l2 T hf
    rw [f_X12_wantsOfAll_4] at hf
    refine r_iload_n dX12_wantsOfAll_4 rfl ?_
    refine r_aload_n dX12_wantsOfAll_5 rfl ?_
    obtain ⟨x1, h2, hf⟩ := bnd hf
    refine r_getI dX12_wantsOfAll_6 fs12_77_11 rfl h2 ?_
    refine r_icmp_ge (tgt := 27) dX12_wantsOfAll_9 (by decide) (fun c3 => ?_) (fun c3 => ?_)
    · replace hf := (if_pos c3).symm.trans hf
      refine r_iload_n dX12_wantsOfAll_27 rfl ?_
      have hz := congrArg eI (Option.some.inj hf)
      exact r_ireturn dX12_wantsOfAll_28 rfl (Nat.le_of_ble_eq_true rfl) (Nat.le_of_ble_eq_true rfl) hz
    · replace hf := (if_neg c3).symm.trans hf
      refine r_iload_n dX12_wantsOfAll_12 rfl ?_
      refine r_aload_n dX12_wantsOfAll_13 rfl ?_
      obtain ⟨x4, h5, hf⟩ := bnd hf
      refine r_getR dX12_wantsOfAll_14 fs12_28_11 rfl h5 ?_
      refine r_iload_n dX12_wantsOfAll_17 rfl ?_
      obtain ⟨x6, h7, hf⟩ := bnd hf
      refine r_iaload dX12_wantsOfAll_18 h7 ?_
      refine r_iadd dX12_wantsOfAll_19 ?_
      refine r_istore_n (lv' := [.ref l0, .int (l1 + x6), .int l2]) dX12_wantsOfAll_20 (by decide) rfl rfl ?_
      refine r_iinc (v := 1) (lv' := [.ref l0, .int (l1 + x6), .int (l2 + 1)]) dX12_wantsOfAll_21 rfl (by decide) (by decide) rfl rfl ?_
      refine r_goto (tgt := 4) dX12_wantsOfAll_24 (by decide) ?_
      exact ih _ _ _ _ _ hf
set_option maxRecDepth 20000 in
theorem ok_X12_wantsOfAll {S : Mm} {l0 : Nat} {T : (Int32 × Mm)} (hf : f_X12_wantsOfAll S l0 = some T) : okc S l0 11 = true := (oif hf).1
set_option maxRecDepth 20000 in
theorem c_X12_wantsOfAll {G : Gt} {l : Launch} {S : Mm} {l0 : Nat} {T : (Int32 × Mm)} (hf : f_X12_wantsOfAll S l0 = some T) : CC G l yX12_wantsOfAll cX12_wantsOfAll 3 (some .int) 0 0 0 [.ref l0] S (eI T) := by
  unfold f_X12_wantsOfAll at hf
  replace hf := (oif hf).2
  refine r_body (by decide) rfl (Nat.le_of_ble_eq_true rfl) (by simp) ?_
  refine r_iconst (v := 0) dX12_wantsOfAll_0 (by decide) ?_
  refine r_istore_n (lv' := [.ref l0, .int 0, .null]) dX12_wantsOfAll_1 (by decide) rfl rfl ?_
  refine r_iconst (v := 0) dX12_wantsOfAll_2 (by decide) ?_
  refine r_istore_n (lv' := [.ref l0, .int 0, .int 0]) dX12_wantsOfAll_3 (by decide) rfl rfl ?_
  exact t_X12_wantsOfAll_4 FU _ _ _ _ _ hf
def f_X12_served_119 (S : Mm) (s0 : Int32) : Option (Int32 × Mm) := some (s0, S)
def f_X12_served_83 (S : Mm) (l0 : Nat) (l1 : Int32) (l2 : Int32) (l4 : Int32) (s0 : Nat) (s1 : Int32) : Option (Int32 × Mm) := (f_X12_servedIn S s0 s1).bind fun q1 => (f_X12_close q1.2 l0).bind fun q3 => (if l2 = 0 then f_X12_served_119 q3 (l4 + q1.1) else (if l1 = 0 then f_X12_served_119 q3 0 else (f_X12_wantsOfAll q3 l0).bind fun q7 => f_X12_served_119 q7.2 (q7.1 - q1.1)))
def f_X12_served_68 (S : Mm) (l0 : Nat) (l1 : Int32) (l2 : Int32) (s0 : Nat) (s1 : Int32) : Option (Int32 × Mm) := (f_X12_servedIn S s0 s1).bind fun q1 => (if l1 ≤ 0 then f_X12_served_83 q1.2 l0 l1 l2 q1.1 l0 0 else f_X12_served_83 q1.2 l0 l1 l2 q1.1 l0 1)
def f_X12_served_41 (S : Mm) (l0 : Nat) (l1 : Int32) (l2 : Int32) (s0 : Int32) : Option (Int32 × Mm) := (if 0 ≤ s0 then (f_X12_open S l0).bind fun q2 => (if l1 ≤ 0 then f_X12_served_68 q2 l0 l1 l2 l0 0 else f_X12_served_68 q2 l0 l1 l2 l0 (l1 - 1)) else (f_X12_refuse S l0 s0).bind fun q5 => some (q5.1, q5.2))
def f_X12_served (S : Mm) (l0 : Nat) (l1 : Int32) (l2 : Int32) : Option (Int32 × Mm) := if okc S l0 11 = true then (pI S 11 l0 15 0).bind fun S1 => (f_X12_in S1 l2.toInt64 0 1).bind fun q3 => (if q3.1 = 0 then f_X12_served_41 q3.2 l0 l1 l2 (-2) else (if 0 ≤ l1 then (if l1 ≤ 60 then f_X12_served_41 q3.2 l0 l1 l2 0 else f_X12_served_41 q3.2 l0 l1 l2 (-6)) else f_X12_served_41 q3.2 l0 l1 l2 (-4))) else none
set_option maxRecDepth 20000 in
theorem t_X12_served_119 {G : Gt} {l : Launch} (S : Mm) (s0 : Int32) (T : (Int32 × Mm)) (hf : f_X12_served_119 S s0 = some T) : Sat G l yX12_served cX12_served 6 (some .int) 6 0 0 0 0 119 [.null, .null, .null, .null, .null, .null] [.int s0] S (eI T) := by
  unfold f_X12_served_119 at hf
  have hz := congrArg eI (Option.some.inj hf)
  exact r_ireturn dX12_served_119 rfl (Nat.le_of_ble_eq_true rfl) (Nat.le_of_ble_eq_true rfl) hz
set_option maxRecDepth 20000 in
theorem t_X12_served_83 {G : Gt} {l : Launch} (S : Mm) (l0 : Nat) (l1 : Int32) (l2 : Int32) (l4 : Int32) (s0 : Nat) (s1 : Int32) (T : (Int32 × Mm)) (hf : f_X12_served_83 S l0 l1 l2 l4 s0 s1 = some T) : Sat G l yX12_served cX12_served 6 (some .int) 6 0 0 0 0 83 [.ref l0, .int l1, .int l2, .null, .int l4, .null] [.int s1, .ref s0] S (eI T) := by
  unfold f_X12_served_83 at hf
  obtain ⟨q1, h2, hf⟩ := bnd hf
  refine r_callVi (st := []) (as := [.int s1]) dX12_served_83 ms_X12_servedIn ⟨rfl, w5_32, w5_34, w0_44⟩ (ok_X12_servedIn h2) (c_X12_servedIn h2) rfl ⟨by omega, by omega⟩ (Nat.le_of_ble_eq_true rfl) (by decide) (by decide) rfl ?_
  refine r_istore (lv' := [.ref l0, .int l1, .int l2, .null, .int l4, .int q1.1]) dX12_served_86 (by decide) rfl rfl ?_
  refine r_aload_n dX12_served_88 rfl ?_
  obtain ⟨q3, h4, hf⟩ := bnd hf
  refine r_callVv (st := []) (as := []) dX12_served_89 ms_X12_close ⟨rfl, w4_172, w4_174, w0_31⟩ (ok_X12_close h4) (c_X12_close h4) rfl ⟨by omega, by omega⟩ (Nat.le_of_ble_eq_true rfl) (by decide) (by decide) rfl ?_
  refine r_iload_n dX12_served_92 rfl ?_
  refine r_if_ne (tgt := 104) dX12_served_93 (by decide) (fun c5 => ?_) (fun c5 => ?_)
  · replace hf := (if_neg c5).symm.trans hf
    refine r_iload_n dX12_served_104 rfl ?_
    refine r_if_ne (tgt := 112) dX12_served_105 (by decide) (fun c6 => ?_) (fun c6 => ?_)
    · replace hf := (if_neg c6).symm.trans hf
      refine r_aload_n dX12_served_112 rfl ?_
      obtain ⟨q7, h8, hf⟩ := bnd hf
      refine r_callVi (st := []) (as := []) dX12_served_113 ms_X12_wantsOfAll ⟨rfl, w5_40, w5_42, w0_45⟩ (ok_X12_wantsOfAll h8) (c_X12_wantsOfAll h8) rfl ⟨by omega, by omega⟩ (Nat.le_of_ble_eq_true rfl) (by decide) (by decide) rfl ?_
      refine r_iload dX12_served_116 rfl ?_
      refine r_isub dX12_served_118 ?_
      refine r_lvs (lv' := [.null, .null, .null, .null, .null, .null]) ⟨Or.inr rfl, Or.inr rfl, Or.inr rfl, Or.inl rfl, Or.inr rfl, Or.inr rfl, trivial⟩ ?_
      exact t_X12_served_119 _ _ _ hf
    · replace hf := (if_pos c6).symm.trans hf
      refine r_iconst (v := 0) dX12_served_108 (by decide) ?_
      refine r_goto (tgt := 119) dX12_served_109 (by decide) ?_
      refine r_lvs (lv' := [.null, .null, .null, .null, .null, .null]) ⟨Or.inr rfl, Or.inr rfl, Or.inr rfl, Or.inl rfl, Or.inr rfl, Or.inr rfl, trivial⟩ ?_
      exact t_X12_served_119 _ _ _ hf
  · replace hf := (if_pos c5).symm.trans hf
    refine r_iload dX12_served_96 rfl ?_
    refine r_iload dX12_served_98 rfl ?_
    refine r_iadd dX12_served_100 ?_
    refine r_goto (tgt := 119) dX12_served_101 (by decide) ?_
    refine r_lvs (lv' := [.null, .null, .null, .null, .null, .null]) ⟨Or.inr rfl, Or.inr rfl, Or.inr rfl, Or.inl rfl, Or.inr rfl, Or.inr rfl, trivial⟩ ?_
    exact t_X12_served_119 _ _ _ hf
set_option maxRecDepth 20000 in
theorem t_X12_served_68 {G : Gt} {l : Launch} (S : Mm) (l0 : Nat) (l1 : Int32) (l2 : Int32) (s0 : Nat) (s1 : Int32) (T : (Int32 × Mm)) (hf : f_X12_served_68 S l0 l1 l2 s0 s1 = some T) : Sat G l yX12_served cX12_served 6 (some .int) 6 0 0 0 0 68 [.ref l0, .int l1, .int l2, .null, .null, .null] [.int s1, .ref s0] S (eI T) := by
  unfold f_X12_served_68 at hf
  obtain ⟨q1, h2, hf⟩ := bnd hf
  refine r_callVi (st := []) (as := [.int s1]) dX12_served_68 ms_X12_servedIn ⟨rfl, w5_32, w5_34, w0_44⟩ (ok_X12_servedIn h2) (c_X12_servedIn h2) rfl ⟨by omega, by omega⟩ (Nat.le_of_ble_eq_true rfl) (by decide) (by decide) rfl ?_
  refine r_istore (lv' := [.ref l0, .int l1, .int l2, .null, .int q1.1, .null]) dX12_served_71 (by decide) rfl rfl ?_
  refine r_aload_n dX12_served_73 rfl ?_
  refine r_iload_n dX12_served_74 rfl ?_
  refine r_if_le (tgt := 82) dX12_served_75 (by decide) (fun c3 => ?_) (fun c3 => ?_)
  · replace hf := (if_pos c3).symm.trans hf
    refine r_iconst (v := 0) dX12_served_82 (by decide) ?_
    exact t_X12_served_83 _ _ _ _ _ _ _ _ hf
  · replace hf := (if_neg c3).symm.trans hf
    refine r_iconst (v := 1) dX12_served_78 (by decide) ?_
    refine r_goto (tgt := 83) dX12_served_79 (by decide) ?_
    exact t_X12_served_83 _ _ _ _ _ _ _ _ hf
set_option maxRecDepth 20000 in
theorem t_X12_served_41 {G : Gt} {l : Launch} (S : Mm) (l0 : Nat) (l1 : Int32) (l2 : Int32) (s0 : Int32) (T : (Int32 × Mm)) (hf : f_X12_served_41 S l0 l1 l2 s0 = some T) : Sat G l yX12_served cX12_served 6 (some .int) 6 0 0 0 0 41 [.ref l0, .int l1, .int l2, .null, .null, .null] [.int s0] S (eI T) := by
  unfold f_X12_served_41 at hf
  refine r_istore_n (lv' := [.ref l0, .int l1, .int l2, .int s0, .null, .null]) dX12_served_41 (by decide) rfl rfl ?_
  refine r_iload_n dX12_served_42 rfl ?_
  refine r_if_ge (tgt := 52) dX12_served_43 (by decide) (fun c1 => ?_) (fun c1 => ?_)
  · replace hf := (if_pos c1).symm.trans hf
    refine r_aload_n dX12_served_52 rfl ?_
    obtain ⟨q2, h3, hf⟩ := bnd hf
    refine r_callVv (st := []) (as := []) dX12_served_53 ms_X12_open ⟨rfl, w4_152, w4_154, w0_26⟩ (ok_X12_open h3) (c_X12_open h3) rfl ⟨by omega, by omega⟩ (Nat.le_of_ble_eq_true rfl) (by decide) (by decide) rfl ?_
    refine r_aload_n dX12_served_56 rfl ?_
    refine r_iload_n dX12_served_57 rfl ?_
    refine r_if_le (tgt := 67) dX12_served_58 (by decide) (fun c4 => ?_) (fun c4 => ?_)
    · replace hf := (if_pos c4).symm.trans hf
      refine r_iconst (v := 0) dX12_served_67 (by decide) ?_
      refine r_lvs (lv' := [.ref l0, .int l1, .int l2, .null, .null, .null]) ⟨Or.inl rfl, Or.inl rfl, Or.inl rfl, Or.inr rfl, Or.inl rfl, Or.inl rfl, trivial⟩ ?_
      exact t_X12_served_68 _ _ _ _ _ _ _ hf
    · replace hf := (if_neg c4).symm.trans hf
      refine r_iload_n dX12_served_61 rfl ?_
      refine r_iconst (v := 1) dX12_served_62 (by decide) ?_
      refine r_isub dX12_served_63 ?_
      refine r_goto (tgt := 68) dX12_served_64 (by decide) ?_
      refine r_lvs (lv' := [.ref l0, .int l1, .int l2, .null, .null, .null]) ⟨Or.inl rfl, Or.inl rfl, Or.inl rfl, Or.inr rfl, Or.inl rfl, Or.inl rfl, trivial⟩ ?_
      exact t_X12_served_68 _ _ _ _ _ _ _ hf
  · replace hf := (if_neg c1).symm.trans hf
    refine r_aload_n dX12_served_46 rfl ?_
    refine r_iload_n dX12_served_47 rfl ?_
    obtain ⟨q5, h6, hf⟩ := bnd hf
    refine r_callVi (st := []) (as := [.int s0]) dX12_served_48 ms_X12_refuse ⟨rfl, w4_119, w4_121, w0_21⟩ (ok_X12_refuse h6) (c_X12_refuse h6) rfl ⟨by omega, by omega⟩ (Nat.le_of_ble_eq_true rfl) (by decide) (by decide) rfl ?_
    have hz := congrArg eI (Option.some.inj hf)
    exact r_ireturn dX12_served_51 rfl (Nat.le_of_ble_eq_true rfl) (Nat.le_of_ble_eq_true rfl) hz
set_option maxRecDepth 20000 in
theorem ok_X12_served {S : Mm} {l0 : Nat} {l1 : Int32} {l2 : Int32} {T : (Int32 × Mm)} (hf : f_X12_served S l0 l1 l2 = some T) : okc S l0 11 = true := (oif hf).1
set_option maxRecDepth 20000 in
theorem c_X12_served {G : Gt} {l : Launch} {S : Mm} {l0 : Nat} {l1 : Int32} {l2 : Int32} {T : (Int32 × Mm)} (hf : f_X12_served S l0 l1 l2 = some T) : CC G l yX12_served cX12_served 6 (some .int) 6 0 0 [.ref l0, .int l1, .int l2] S (eI T) := by
  unfold f_X12_served at hf
  replace hf := (oif hf).2
  refine r_body (by decide) rfl (Nat.le_of_ble_eq_true rfl) (by simp) ?_
  refine r_aload_n dX12_served_0 rfl ?_
  refine r_iconst (v := 0) dX12_served_1 (by decide) ?_
  obtain ⟨S1, h2, hf⟩ := bnd hf
  refine r_putI dX12_served_2 fs12_73_11 rfl h2 ?_
  refine r_iload_n dX12_served_5 rfl ?_
  refine r_i2l dX12_served_6 ?_
  refine r_lconst (v := 0) dX12_served_7 (by decide) ?_
  refine r_lconst (v := 1) dX12_served_8 (by decide) ?_
  obtain ⟨q3, h4, hf⟩ := bnd hf
  refine r_callSi (st := []) (as := [.long l2.toInt64, .long 0, .long 1]) dX12_served_9 ms_X12_in ⟨w4_145, w4_146⟩ (c_X12_in h4) rfl ⟨by omega, by omega⟩ (Nat.le_of_ble_eq_true rfl) (by decide) (by decide) rfl ?_
  refine r_if_ne (tgt := 20) dX12_served_12 (by decide) (fun c5 => ?_) (fun c5 => ?_)
  · replace hf := (if_neg c5).symm.trans hf
    refine r_iload_n dX12_served_20 rfl ?_
    refine r_if_ge (tgt := 29) dX12_served_21 (by decide) (fun c6 => ?_) (fun c6 => ?_)
    · replace hf := (if_pos c6).symm.trans hf
      refine r_iload_n dX12_served_29 rfl ?_
      refine r_bipush (v := 60) dX12_served_30 (by decide) ?_
      refine r_icmp_le (tgt := 40) dX12_served_32 (by decide) (fun c7 => ?_) (fun c7 => ?_)
      · replace hf := (if_pos c7).symm.trans hf
        refine r_iconst (v := 0) dX12_served_40 (by decide) ?_
        exact t_X12_served_41 _ _ _ _ _ _ hf
      · replace hf := (if_neg c7).symm.trans hf
        refine r_bipush (v := (-6)) dX12_served_35 (by decide) ?_
        refine r_goto (tgt := 41) dX12_served_37 (by decide) ?_
        exact t_X12_served_41 _ _ _ _ _ _ hf
    · replace hf := (if_neg c6).symm.trans hf
      refine r_bipush (v := (-4)) dX12_served_24 (by decide) ?_
      refine r_goto (tgt := 41) dX12_served_26 (by decide) ?_
      exact t_X12_served_41 _ _ _ _ _ _ hf
  · replace hf := (if_pos c5).symm.trans hf
    refine r_bipush (v := (-2)) dX12_served_15 (by decide) ?_
    refine r_goto (tgt := 41) dX12_served_17 (by decide) ?_
    exact t_X12_served_41 _ _ _ _ _ _ hf
def f_X12_drift_40 (S : Mm) (s0 : Nat) (s1 : Int32) : Option (Int32 × Mm) := (f_X12_refuse S s0 s1).bind fun q1 => some (q1.1, q1.2)
def f_X12_drift_22 (S : Mm) (l0 : Nat) (l1 : Int32) : Option (Int32 × Mm) := (f_X12_in S l1.toInt64 0 1).bind fun q1 => (if q1.1 = 0 then f_X12_drift_40 q1.2 l0 (-2) else f_X12_drift_40 q1.2 l0 (-3))
def f_X12_drift_107 (k57 : Mm → Nat → Int32 → Int32 → Int32 → Int32 → Option (Int32 × Mm)) (k74 : Mm → Nat → Int32 → Int32 → Int32 → Int32 → Option (Int32 × Mm)) (S : Mm) (l0 : Nat) (l1 : Int32) (l4 : Int32) (l6 : Int32) (s0 : Int32) : Option (Int32 × Mm) := k74 S l0 l1 l4 s0 (l6 + 1)
def f_X12_drift_149 (k57 : Mm → Nat → Int32 → Int32 → Int32 → Int32 → Option (Int32 × Mm)) (S : Mm) (l0 : Nat) (l1 : Int32) (l2 : Int32) (l4 : Int32) (s0 : Int32) : Option (Int32 × Mm) := k57 S l0 l1 l2 s0 (l4 + 1)
def f_X12_drift_134 (k57 : Mm → Nat → Int32 → Int32 → Int32 → Int32 → Option (Int32 × Mm)) (S : Mm) (l0 : Nat) (l1 : Int32) (l4 : Int32) (l5 : Int32) (s0 : Int32) : Option (Int32 × Mm) := (gI S 11 l0 17).bind fun x1 => (if x1 = 0 then f_X12_drift_149 k57 S l0 l1 s0 l4 l5 else f_X12_drift_149 k57 S l0 l1 s0 l4 (-9))
def f_X12_drift_74 (k57 : Mm → Nat → Int32 → Int32 → Int32 → Int32 → Option (Int32 × Mm)) : Nat → Mm → Nat → Int32 → Int32 → Int32 → Int32 → Option (Int32 × Mm)
  | 0, _, _, _, _, _, _ => none
  | n + 1, S, l0, l1, l4, l5, l6 => (gI S 11 l0 0).bind fun x1 => (if x1 ≤ l6 then (f_X12_weekOn S l0).bind fun q4 => (gI q4.2 11 l0 17).bind fun x6 => (if x6 = 0 then f_X12_drift_134 k57 q4.2 l0 l1 l4 l5 l4 else f_X12_drift_134 k57 q4.2 l0 l1 l4 l5 (-9)) else (gR S 11 l0 11).bind fun x9 => (aI S x9 l6).bind fun x11 => (gR S 11 l0 11).bind fun x13 => (aI S x13 l5).bind fun x15 => (if x11 ≤ x15 then f_X12_drift_107 k57 (f_X12_drift_74 k57 n) S l0 l1 l4 l6 l5 else f_X12_drift_107 k57 (f_X12_drift_74 k57 n) S l0 l1 l4 l6 l6))
def f_X12_drift_169 (S : Mm) (s0 : Int32) : Option (Int32 × Mm) := some (s0, S)
def f_X12_drift_156 (S : Mm) (l0 : Nat) (l1 : Int32) (l2 : Int32) (l3 : Int32) : Option (Int32 × Mm) := (f_X12_close S l0).bind fun q1 => (if l1 = 0 then f_X12_drift_169 q1 l2 else f_X12_drift_169 q1 l3)
def f_X12_drift_57 : Nat → Mm → Nat → Int32 → Int32 → Int32 → Int32 → Option (Int32 × Mm)
  | 0, _, _, _, _, _, _ => none
  | n + 1, S, l0, l1, l2, l3, l4 => (if 100 < l4 then f_X12_drift_156 S l0 l1 l2 l3 else (if 0 ≤ l2 then f_X12_drift_156 S l0 l1 l2 l3 else f_X12_drift_74 (f_X12_drift_57 n) FU S l0 l1 l4 0 1))
def f_X12_drift (S : Mm) (l0 : Nat) (l1 : Int32) : Option (Int32 × Mm) := if okc S l0 11 = true then (pI S 11 l0 15 0).bind fun S1 => (f_X12_in S1 l1.toInt64 0 1).bind fun q3 => (if q3.1 = 0 then f_X12_drift_22 q3.2 l0 l1 else (gI q3.2 11 l0 0).bind fun x6 => (if x6 = 0 then f_X12_drift_22 q3.2 l0 l1 else (f_X12_open q3.2 l0).bind fun q9 => f_X12_drift_57 FU q9 l0 l1 (-9) (-9) 0)) else none
set_option maxRecDepth 20000 in
theorem t_X12_drift_40 {G : Gt} {l : Launch} (S : Mm) (s0 : Nat) (s1 : Int32) (T : (Int32 × Mm)) (hf : f_X12_drift_40 S s0 s1 = some T) : Sat G l yX12_drift cX12_drift 7 (some .int) 5 0 0 0 0 40 [.null, .null, .null, .null, .null, .null, .null] [.int s1, .ref s0] S (eI T) := by
  unfold f_X12_drift_40 at hf
  obtain ⟨q1, h2, hf⟩ := bnd hf
  refine r_callVi (st := []) (as := [.int s1]) dX12_drift_40 ms_X12_refuse ⟨rfl, w4_119, w4_121, w0_21⟩ (ok_X12_refuse h2) (c_X12_refuse h2) rfl ⟨by omega, by omega⟩ (Nat.le_of_ble_eq_true rfl) (by decide) (by decide) rfl ?_
  have hz := congrArg eI (Option.some.inj hf)
  exact r_ireturn dX12_drift_43 rfl (Nat.le_of_ble_eq_true rfl) (Nat.le_of_ble_eq_true rfl) hz
set_option maxRecDepth 20000 in
theorem t_X12_drift_22 {G : Gt} {l : Launch} (S : Mm) (l0 : Nat) (l1 : Int32) (T : (Int32 × Mm)) (hf : f_X12_drift_22 S l0 l1 = some T) : Sat G l yX12_drift cX12_drift 7 (some .int) 5 0 0 0 0 22 [.ref l0, .int l1, .null, .null, .null, .null, .null] [] S (eI T) := by
  unfold f_X12_drift_22 at hf
  refine r_aload_n dX12_drift_22 rfl ?_
  refine r_iload_n dX12_drift_23 rfl ?_
  refine r_i2l dX12_drift_24 ?_
  refine r_lconst (v := 0) dX12_drift_25 (by decide) ?_
  refine r_lconst (v := 1) dX12_drift_26 (by decide) ?_
  obtain ⟨q1, h2, hf⟩ := bnd hf
  refine r_callSi (st := [.ref l0]) (as := [.long l1.toInt64, .long 0, .long 1]) dX12_drift_27 ms_X12_in ⟨w4_145, w4_146⟩ (c_X12_in h2) rfl ⟨by omega, by omega⟩ (Nat.le_of_ble_eq_true rfl) (by decide) (by decide) rfl ?_
  refine r_if_eq (tgt := 38) dX12_drift_30 (by decide) (fun c3 => ?_) (fun c3 => ?_)
  · replace hf := (if_pos c3).symm.trans hf
    refine r_bipush (v := (-2)) dX12_drift_38 (by decide) ?_
    refine r_lvs (lv' := [.null, .null, .null, .null, .null, .null, .null]) ⟨Or.inr rfl, Or.inr rfl, Or.inl rfl, Or.inl rfl, Or.inl rfl, Or.inl rfl, Or.inl rfl, trivial⟩ ?_
    exact t_X12_drift_40 _ _ _ _ hf
  · replace hf := (if_neg c3).symm.trans hf
    refine r_bipush (v := (-3)) dX12_drift_33 (by decide) ?_
    refine r_goto (tgt := 40) dX12_drift_35 (by decide) ?_
    refine r_lvs (lv' := [.null, .null, .null, .null, .null, .null, .null]) ⟨Or.inr rfl, Or.inr rfl, Or.inl rfl, Or.inl rfl, Or.inl rfl, Or.inl rfl, Or.inl rfl, trivial⟩ ?_
    exact t_X12_drift_40 _ _ _ _ hf
set_option maxRecDepth 20000 in
theorem t_X12_drift_107 {G : Gt} {l : Launch} (k57 : Mm → Nat → Int32 → Int32 → Int32 → Int32 → Option (Int32 × Mm)) (hk57 : ∀ (S : Mm) (l0 : Nat) (l1 : Int32) (l2 : Int32) (l3 : Int32) (l4 : Int32) (T : (Int32 × Mm)), k57 S l0 l1 l2 l3 l4 = some T → Sat G l yX12_drift cX12_drift 7 (some .int) 5 0 0 0 0 57 [.ref l0, .int l1, .int l2, .int l3, .int l4, .null, .null] [] S (eI T)) (k74 : Mm → Nat → Int32 → Int32 → Int32 → Int32 → Option (Int32 × Mm)) (hk74 : ∀ (S : Mm) (l0 : Nat) (l1 : Int32) (l4 : Int32) (l5 : Int32) (l6 : Int32) (T : (Int32 × Mm)), k74 S l0 l1 l4 l5 l6 = some T → Sat G l yX12_drift cX12_drift 7 (some .int) 5 0 0 0 0 74 [.ref l0, .int l1, .null, .null, .int l4, .int l5, .int l6] [] S (eI T)) (S : Mm) (l0 : Nat) (l1 : Int32) (l4 : Int32) (l6 : Int32) (s0 : Int32) (T : (Int32 × Mm)) (hf : f_X12_drift_107 k57 k74 S l0 l1 l4 l6 s0 = some T) : Sat G l yX12_drift cX12_drift 7 (some .int) 5 0 0 0 0 107 [.ref l0, .int l1, .null, .null, .int l4, .null, .int l6] [.int s0] S (eI T) := by
  unfold f_X12_drift_107 at hf
  refine r_istore (lv' := [.ref l0, .int l1, .null, .null, .int l4, .int s0, .int l6]) dX12_drift_107 (by decide) rfl rfl ?_
  refine r_iinc (v := 1) (lv' := [.ref l0, .int l1, .null, .null, .int l4, .int s0, .int (l6 + 1)]) dX12_drift_109 rfl (by decide) (by decide) rfl rfl ?_
  refine r_goto (tgt := 74) dX12_drift_112 (by decide) ?_
  exact hk74 _ _ _ _ _ _ _ hf
set_option maxRecDepth 20000 in
theorem t_X12_drift_149 {G : Gt} {l : Launch} (k57 : Mm → Nat → Int32 → Int32 → Int32 → Int32 → Option (Int32 × Mm)) (hk57 : ∀ (S : Mm) (l0 : Nat) (l1 : Int32) (l2 : Int32) (l3 : Int32) (l4 : Int32) (T : (Int32 × Mm)), k57 S l0 l1 l2 l3 l4 = some T → Sat G l yX12_drift cX12_drift 7 (some .int) 5 0 0 0 0 57 [.ref l0, .int l1, .int l2, .int l3, .int l4, .null, .null] [] S (eI T)) (S : Mm) (l0 : Nat) (l1 : Int32) (l2 : Int32) (l4 : Int32) (s0 : Int32) (T : (Int32 × Mm)) (hf : f_X12_drift_149 k57 S l0 l1 l2 l4 s0 = some T) : Sat G l yX12_drift cX12_drift 7 (some .int) 5 0 0 0 0 149 [.ref l0, .int l1, .int l2, .null, .int l4, .null, .null] [.int s0] S (eI T) := by
  unfold f_X12_drift_149 at hf
  refine r_istore_n (lv' := [.ref l0, .int l1, .int l2, .int s0, .int l4, .null, .null]) dX12_drift_149 (by decide) rfl rfl ?_
  refine r_iinc (v := 1) (lv' := [.ref l0, .int l1, .int l2, .int s0, .int (l4 + 1), .null, .null]) dX12_drift_150 rfl (by decide) (by decide) rfl rfl ?_
  refine r_goto (tgt := 57) dX12_drift_153 (by decide) ?_
  exact hk57 _ _ _ _ _ _ _ hf
set_option maxRecDepth 20000 in
theorem t_X12_drift_134 {G : Gt} {l : Launch} (k57 : Mm → Nat → Int32 → Int32 → Int32 → Int32 → Option (Int32 × Mm)) (hk57 : ∀ (S : Mm) (l0 : Nat) (l1 : Int32) (l2 : Int32) (l3 : Int32) (l4 : Int32) (T : (Int32 × Mm)), k57 S l0 l1 l2 l3 l4 = some T → Sat G l yX12_drift cX12_drift 7 (some .int) 5 0 0 0 0 57 [.ref l0, .int l1, .int l2, .int l3, .int l4, .null, .null] [] S (eI T)) (S : Mm) (l0 : Nat) (l1 : Int32) (l4 : Int32) (l5 : Int32) (s0 : Int32) (T : (Int32 × Mm)) (hf : f_X12_drift_134 k57 S l0 l1 l4 l5 s0 = some T) : Sat G l yX12_drift cX12_drift 7 (some .int) 5 0 0 0 0 134 [.ref l0, .int l1, .null, .null, .int l4, .int l5, .null] [.int s0] S (eI T) := by
  unfold f_X12_drift_134 at hf
  refine r_istore_n (lv' := [.ref l0, .int l1, .int s0, .null, .int l4, .int l5, .null]) dX12_drift_134 (by decide) rfl rfl ?_
  refine r_aload_n dX12_drift_135 rfl ?_
  obtain ⟨x1, h2, hf⟩ := bnd hf
  refine r_getI dX12_drift_136 fs12_115_11 rfl h2 ?_
  refine r_if_ne (tgt := 147) dX12_drift_139 (by decide) (fun c3 => ?_) (fun c3 => ?_)
  · replace hf := (if_neg c3).symm.trans hf
    refine r_bipush (v := (-9)) dX12_drift_147 (by decide) ?_
    refine r_lvs (lv' := [.ref l0, .int l1, .int s0, .null, .int l4, .null, .null]) ⟨Or.inl rfl, Or.inl rfl, Or.inl rfl, Or.inl rfl, Or.inl rfl, Or.inr rfl, Or.inl rfl, trivial⟩ ?_
    exact t_X12_drift_149 k57 hk57 _ _ _ _ _ _ _ hf
  · replace hf := (if_pos c3).symm.trans hf
    refine r_iload dX12_drift_142 rfl ?_
    refine r_goto (tgt := 149) dX12_drift_144 (by decide) ?_
    refine r_lvs (lv' := [.ref l0, .int l1, .int s0, .null, .int l4, .null, .null]) ⟨Or.inl rfl, Or.inl rfl, Or.inl rfl, Or.inl rfl, Or.inl rfl, Or.inr rfl, Or.inl rfl, trivial⟩ ?_
    exact t_X12_drift_149 k57 hk57 _ _ _ _ _ _ _ hf
set_option maxRecDepth 20000 in
theorem t_X12_drift_74 {G : Gt} {l : Launch} (k57 : Mm → Nat → Int32 → Int32 → Int32 → Int32 → Option (Int32 × Mm)) (hk57 : ∀ (S : Mm) (l0 : Nat) (l1 : Int32) (l2 : Int32) (l3 : Int32) (l4 : Int32) (T : (Int32 × Mm)), k57 S l0 l1 l2 l3 l4 = some T → Sat G l yX12_drift cX12_drift 7 (some .int) 5 0 0 0 0 57 [.ref l0, .int l1, .int l2, .int l3, .int l4, .null, .null] [] S (eI T)) : ∀ (n : Nat) (S : Mm) (l0 : Nat) (l1 : Int32) (l4 : Int32) (l5 : Int32) (l6 : Int32) (T : (Int32 × Mm)), f_X12_drift_74 k57 n S l0 l1 l4 l5 l6 = some T → Sat G l yX12_drift cX12_drift 7 (some .int) 5 0 0 0 0 74 [.ref l0, .int l1, .null, .null, .int l4, .int l5, .int l6] [] S (eI T) := by
  intro n
  induction n with
  | zero =>
    intro S l0 l1 l4 l5 l6 T hf
    rw [f_X12_drift_74] at hf
    cases hf
  | succ n ih =>
    intro S l0 l1 l4 l5 l6 T hf
    rw [f_X12_drift_74] at hf
    refine r_iload dX12_drift_74 rfl ?_
    refine r_aload_n dX12_drift_76 rfl ?_
    obtain ⟨x1, h2, hf⟩ := bnd hf
    refine r_getI dX12_drift_77 fs12_77_11 rfl h2 ?_
    refine r_icmp_ge (tgt := 115) dX12_drift_80 (by decide) (fun c3 => ?_) (fun c3 => ?_)
    · replace hf := (if_pos c3).symm.trans hf
      refine r_aload_n dX12_drift_115 rfl ?_
      obtain ⟨q4, h5, hf⟩ := bnd hf
      refine r_callVi (st := []) (as := []) dX12_drift_116 ms_X12_weekOn ⟨rfl, w4_228, w4_230, w0_37⟩ (ok_X12_weekOn h5) (c_X12_weekOn h5) rfl ⟨by omega, by omega⟩ (Nat.le_of_ble_eq_true rfl) (by decide) (by decide) rfl ?_
      refine r_pop dX12_drift_119 rfl ?_
      refine r_aload_n dX12_drift_120 rfl ?_
      obtain ⟨x6, h7, hf⟩ := bnd hf
      refine r_getI dX12_drift_121 fs12_115_11 rfl h7 ?_
      refine r_if_ne (tgt := 132) dX12_drift_124 (by decide) (fun c8 => ?_) (fun c8 => ?_)
      · replace hf := (if_neg c8).symm.trans hf
        refine r_bipush (v := (-9)) dX12_drift_132 (by decide) ?_
        refine r_lvs (lv' := [.ref l0, .int l1, .null, .null, .int l4, .int l5, .null]) ⟨Or.inl rfl, Or.inl rfl, Or.inl rfl, Or.inl rfl, Or.inl rfl, Or.inl rfl, Or.inr rfl, trivial⟩ ?_
        exact t_X12_drift_134 k57 hk57 _ _ _ _ _ _ _ hf
      · replace hf := (if_pos c8).symm.trans hf
        refine r_iload dX12_drift_127 rfl ?_
        refine r_goto (tgt := 134) dX12_drift_129 (by decide) ?_
        refine r_lvs (lv' := [.ref l0, .int l1, .null, .null, .int l4, .int l5, .null]) ⟨Or.inl rfl, Or.inl rfl, Or.inl rfl, Or.inl rfl, Or.inl rfl, Or.inl rfl, Or.inr rfl, trivial⟩ ?_
        exact t_X12_drift_134 k57 hk57 _ _ _ _ _ _ _ hf
    · replace hf := (if_neg c3).symm.trans hf
      refine r_aload_n dX12_drift_83 rfl ?_
      obtain ⟨x9, h10, hf⟩ := bnd hf
      refine r_getR dX12_drift_84 fs12_31_11 rfl h10 ?_
      refine r_iload dX12_drift_87 rfl ?_
      obtain ⟨x11, h12, hf⟩ := bnd hf
      refine r_iaload dX12_drift_89 h12 ?_
      refine r_aload_n dX12_drift_90 rfl ?_
      obtain ⟨x13, h14, hf⟩ := bnd hf
      refine r_getR dX12_drift_91 fs12_31_11 rfl h14 ?_
      refine r_iload dX12_drift_94 rfl ?_
      obtain ⟨x15, h16, hf⟩ := bnd hf
      refine r_iaload dX12_drift_96 h16 ?_
      refine r_icmp_le (tgt := 105) dX12_drift_97 (by decide) (fun c17 => ?_) (fun c17 => ?_)
      · replace hf := (if_pos c17).symm.trans hf
        refine r_iload dX12_drift_105 rfl ?_
        refine r_lvs (lv' := [.ref l0, .int l1, .null, .null, .int l4, .null, .int l6]) ⟨Or.inl rfl, Or.inl rfl, Or.inl rfl, Or.inl rfl, Or.inl rfl, Or.inr rfl, Or.inl rfl, trivial⟩ ?_
        exact t_X12_drift_107 k57 hk57 (f_X12_drift_74 k57 n) ih _ _ _ _ _ _ _ hf
      · replace hf := (if_neg c17).symm.trans hf
        refine r_iload dX12_drift_100 rfl ?_
        refine r_goto (tgt := 107) dX12_drift_102 (by decide) ?_
        refine r_lvs (lv' := [.ref l0, .int l1, .null, .null, .int l4, .null, .int l6]) ⟨Or.inl rfl, Or.inl rfl, Or.inl rfl, Or.inl rfl, Or.inl rfl, Or.inr rfl, Or.inl rfl, trivial⟩ ?_
        exact t_X12_drift_107 k57 hk57 (f_X12_drift_74 k57 n) ih _ _ _ _ _ _ _ hf
set_option maxRecDepth 20000 in
theorem t_X12_drift_169 {G : Gt} {l : Launch} (S : Mm) (s0 : Int32) (T : (Int32 × Mm)) (hf : f_X12_drift_169 S s0 = some T) : Sat G l yX12_drift cX12_drift 7 (some .int) 5 0 0 0 0 169 [.null, .null, .null, .null, .null, .null, .null] [.int s0] S (eI T) := by
  unfold f_X12_drift_169 at hf
  have hz := congrArg eI (Option.some.inj hf)
  exact r_ireturn dX12_drift_169 rfl (Nat.le_of_ble_eq_true rfl) (Nat.le_of_ble_eq_true rfl) hz
set_option maxRecDepth 20000 in
theorem t_X12_drift_156 {G : Gt} {l : Launch} (S : Mm) (l0 : Nat) (l1 : Int32) (l2 : Int32) (l3 : Int32) (T : (Int32 × Mm)) (hf : f_X12_drift_156 S l0 l1 l2 l3 = some T) : Sat G l yX12_drift cX12_drift 7 (some .int) 5 0 0 0 0 156 [.ref l0, .int l1, .int l2, .int l3, .null, .null, .null] [] S (eI T) := by
  unfold f_X12_drift_156 at hf
  refine r_aload_n dX12_drift_156 rfl ?_
  obtain ⟨q1, h2, hf⟩ := bnd hf
  refine r_callVv (st := []) (as := []) dX12_drift_157 ms_X12_close ⟨rfl, w4_172, w4_174, w0_31⟩ (ok_X12_close h2) (c_X12_close h2) rfl ⟨by omega, by omega⟩ (Nat.le_of_ble_eq_true rfl) (by decide) (by decide) rfl ?_
  refine r_iload_n dX12_drift_160 rfl ?_
  refine r_if_ne (tgt := 168) dX12_drift_161 (by decide) (fun c3 => ?_) (fun c3 => ?_)
  · replace hf := (if_neg c3).symm.trans hf
    refine r_iload_n dX12_drift_168 rfl ?_
    refine r_lvs (lv' := [.null, .null, .null, .null, .null, .null, .null]) ⟨Or.inr rfl, Or.inr rfl, Or.inr rfl, Or.inr rfl, Or.inl rfl, Or.inl rfl, Or.inl rfl, trivial⟩ ?_
    exact t_X12_drift_169 _ _ _ hf
  · replace hf := (if_pos c3).symm.trans hf
    refine r_iload_n dX12_drift_164 rfl ?_
    refine r_goto (tgt := 169) dX12_drift_165 (by decide) ?_
    refine r_lvs (lv' := [.null, .null, .null, .null, .null, .null, .null]) ⟨Or.inr rfl, Or.inr rfl, Or.inr rfl, Or.inr rfl, Or.inl rfl, Or.inl rfl, Or.inl rfl, trivial⟩ ?_
    exact t_X12_drift_169 _ _ _ hf
set_option maxRecDepth 20000 in
theorem t_X12_drift_57 {G : Gt} {l : Launch} : ∀ (n : Nat) (S : Mm) (l0 : Nat) (l1 : Int32) (l2 : Int32) (l3 : Int32) (l4 : Int32) (T : (Int32 × Mm)), f_X12_drift_57 n S l0 l1 l2 l3 l4 = some T → Sat G l yX12_drift cX12_drift 7 (some .int) 5 0 0 0 0 57 [.ref l0, .int l1, .int l2, .int l3, .int l4, .null, .null] [] S (eI T) := by
  intro n
  induction n with
  | zero =>
    intro S l0 l1 l2 l3 l4 T hf
    rw [f_X12_drift_57] at hf
    cases hf
  | succ n ih =>
    intro S l0 l1 l2 l3 l4 T hf
    rw [f_X12_drift_57] at hf
    refine r_iload dX12_drift_57 rfl ?_
    refine r_bipush (v := 100) dX12_drift_59 (by decide) ?_
    refine r_icmp_gt (tgt := 156) dX12_drift_61 (by decide) (fun c1 => ?_) (fun c1 => ?_)
    · replace hf := (if_pos c1).symm.trans hf
      refine r_lvs (lv' := [.ref l0, .int l1, .int l2, .int l3, .null, .null, .null]) ⟨Or.inl rfl, Or.inl rfl, Or.inl rfl, Or.inl rfl, Or.inr rfl, Or.inl rfl, Or.inl rfl, trivial⟩ ?_
      exact t_X12_drift_156 _ _ _ _ _ _ hf
    · replace hf := (if_neg c1).symm.trans hf
      refine r_iload_n dX12_drift_64 rfl ?_
      refine r_if_ge (tgt := 156) dX12_drift_65 (by decide) (fun c2 => ?_) (fun c2 => ?_)
      · replace hf := (if_pos c2).symm.trans hf
        refine r_lvs (lv' := [.ref l0, .int l1, .int l2, .int l3, .null, .null, .null]) ⟨Or.inl rfl, Or.inl rfl, Or.inl rfl, Or.inl rfl, Or.inr rfl, Or.inl rfl, Or.inl rfl, trivial⟩ ?_
        exact t_X12_drift_156 _ _ _ _ _ _ hf
      · replace hf := (if_neg c2).symm.trans hf
        refine r_iconst (v := 0) dX12_drift_68 (by decide) ?_
        refine r_istore (lv' := [.ref l0, .int l1, .int l2, .int l3, .int l4, .int 0, .null]) dX12_drift_69 (by decide) rfl rfl ?_
        refine r_iconst (v := 1) dX12_drift_71 (by decide) ?_
        refine r_istore (lv' := [.ref l0, .int l1, .int l2, .int l3, .int l4, .int 0, .int 1]) dX12_drift_72 (by decide) rfl rfl ?_
        refine r_lvs (lv' := [.ref l0, .int l1, .null, .null, .int l4, .int 0, .int 1]) ⟨Or.inl rfl, Or.inl rfl, Or.inr rfl, Or.inr rfl, Or.inl rfl, Or.inl rfl, Or.inl rfl, trivial⟩ ?_
        exact t_X12_drift_74 (f_X12_drift_57 n) ih FU _ _ _ _ _ _ _ hf
set_option maxRecDepth 20000 in
theorem ok_X12_drift {S : Mm} {l0 : Nat} {l1 : Int32} {T : (Int32 × Mm)} (hf : f_X12_drift S l0 l1 = some T) : okc S l0 11 = true := (oif hf).1
set_option maxRecDepth 20000 in
theorem c_X12_drift {G : Gt} {l : Launch} {S : Mm} {l0 : Nat} {l1 : Int32} {T : (Int32 × Mm)} (hf : f_X12_drift S l0 l1 = some T) : CC G l yX12_drift cX12_drift 7 (some .int) 5 0 0 [.ref l0, .int l1] S (eI T) := by
  unfold f_X12_drift at hf
  replace hf := (oif hf).2
  refine r_body (by decide) rfl (Nat.le_of_ble_eq_true rfl) (by simp) ?_
  refine r_aload_n dX12_drift_0 rfl ?_
  refine r_iconst (v := 0) dX12_drift_1 (by decide) ?_
  obtain ⟨S1, h2, hf⟩ := bnd hf
  refine r_putI dX12_drift_2 fs12_73_11 rfl h2 ?_
  refine r_iload_n dX12_drift_5 rfl ?_
  refine r_i2l dX12_drift_6 ?_
  refine r_lconst (v := 0) dX12_drift_7 (by decide) ?_
  refine r_lconst (v := 1) dX12_drift_8 (by decide) ?_
  obtain ⟨q3, h4, hf⟩ := bnd hf
  refine r_callSi (st := []) (as := [.long l1.toInt64, .long 0, .long 1]) dX12_drift_9 ms_X12_in ⟨w4_145, w4_146⟩ (c_X12_in h4) rfl ⟨by omega, by omega⟩ (Nat.le_of_ble_eq_true rfl) (by decide) (by decide) rfl ?_
  refine r_if_eq (tgt := 22) dX12_drift_12 (by decide) (fun c5 => ?_) (fun c5 => ?_)
  · replace hf := (if_pos c5).symm.trans hf
    exact t_X12_drift_22 _ _ _ _ hf
  · replace hf := (if_neg c5).symm.trans hf
    refine r_aload_n dX12_drift_15 rfl ?_
    obtain ⟨x6, h7, hf⟩ := bnd hf
    refine r_getI dX12_drift_16 fs12_77_11 rfl h7 ?_
    refine r_if_ne (tgt := 44) dX12_drift_19 (by decide) (fun c8 => ?_) (fun c8 => ?_)
    · replace hf := (if_neg c8).symm.trans hf
      refine r_aload_n dX12_drift_44 rfl ?_
      obtain ⟨q9, h10, hf⟩ := bnd hf
      refine r_callVv (st := []) (as := []) dX12_drift_45 ms_X12_open ⟨rfl, w4_152, w4_154, w0_26⟩ (ok_X12_open h10) (c_X12_open h10) rfl ⟨by omega, by omega⟩ (Nat.le_of_ble_eq_true rfl) (by decide) (by decide) rfl ?_
      refine r_bipush (v := (-9)) dX12_drift_48 (by decide) ?_
      refine r_istore_n (lv' := [.ref l0, .int l1, .int (-9), .null, .null, .null, .null]) dX12_drift_50 (by decide) rfl rfl ?_
      refine r_bipush (v := (-9)) dX12_drift_51 (by decide) ?_
      refine r_istore_n (lv' := [.ref l0, .int l1, .int (-9), .int (-9), .null, .null, .null]) dX12_drift_53 (by decide) rfl rfl ?_
      refine r_iconst (v := 0) dX12_drift_54 (by decide) ?_
      refine r_istore (lv' := [.ref l0, .int l1, .int (-9), .int (-9), .int 0, .null, .null]) dX12_drift_55 (by decide) rfl rfl ?_
      exact t_X12_drift_57 FU _ _ _ _ _ _ _ hf
    · replace hf := (if_pos c8).symm.trans hf
      exact t_X12_drift_22 _ _ _ _ hf
def f_X12_stuck_88 (k9 : Mm → Nat → Int32 → Int32 → Option (Int32 × Mm)) (k48 : Mm → Nat → Int32 → Int32 → Int32 → Int32 → Int32 → Int32 → Option (Int32 × Mm)) (S : Mm) (l0 : Nat) (l1 : Int32) (l2 : Int32) (l3 : Int32) (l4 : Int32) (l6 : Int32) (s0 : Int32) : Option (Int32 × Mm) := k48 S l0 l1 l2 l3 l4 s0 (l6 + 1)
def f_X12_stuck_83 (k9 : Mm → Nat → Int32 → Int32 → Option (Int32 × Mm)) (k48 : Mm → Nat → Int32 → Int32 → Int32 → Int32 → Int32 → Int32 → Option (Int32 × Mm)) (S : Mm) (l0 : Nat) (l1 : Int32) (l2 : Int32) (l3 : Int32) (l4 : Int32) (l6 : Int32) : Option (Int32 × Mm) := f_X12_stuck_88 k9 k48 S l0 l1 l2 l3 l4 l6 1
def f_X12_stuck_112 (k9 : Mm → Nat → Int32 → Int32 → Option (Int32 × Mm)) (S : Mm) (l0 : Nat) (l2 : Int32) (s0 : Int32) (s1 : Int32) : Option (Int32 × Mm) := k9 S l0 (s0 + s1) (l2 + 1)
def f_X12_stuck_96 (k9 : Mm → Nat → Int32 → Int32 → Option (Int32 × Mm)) (S : Mm) (l0 : Nat) (l1 : Int32) (l2 : Int32) (l5 : Int32) : Option (Int32 × Mm) := (if l5 = 0 then f_X12_stuck_112 k9 S l0 l2 l1 0 else (gR S 11 l0 12).bind fun x2 => (aI S x2 l2).bind fun x4 => f_X12_stuck_112 k9 S l0 l2 l1 x4)
def f_X12_stuck_48 (k9 : Mm → Nat → Int32 → Int32 → Option (Int32 × Mm)) : Nat → Mm → Nat → Int32 → Int32 → Int32 → Int32 → Int32 → Int32 → Option (Int32 × Mm)
  | 0, _, _, _, _, _, _, _, _ => none
  | n + 1, S, l0, l1, l2, l3, l4, l5, l6 => (gI S 11 l0 0).bind fun x1 => (if x1 ≤ l6 then f_X12_stuck_96 k9 S l0 l1 l2 l5 else (if l5 = 0 then f_X12_stuck_96 k9 S l0 l1 l2 l5 else (f_X12_wants S l0 l6 l4).bind fun q5 => (if q5.1 = 0 then f_X12_stuck_83 k9 (f_X12_stuck_48 k9 n) q5.2 l0 l1 l2 l3 l4 l6 else (f_X12_isLawful q5.2 l0 l3 l6).bind fun q8 => (if q8.1 = 0 then f_X12_stuck_83 k9 (f_X12_stuck_48 k9 n) q8.2 l0 l1 l2 l3 l4 l6 else f_X12_stuck_88 k9 (f_X12_stuck_48 k9 n) q8.2 l0 l1 l2 l3 l4 l6 0))))
def f_X12_stuck_43 (k9 : Mm → Nat → Int32 → Int32 → Option (Int32 × Mm)) (S : Mm) (l0 : Nat) (l1 : Int32) (l2 : Int32) (l3 : Int32) (l4 : Int32) (s0 : Int32) : Option (Int32 × Mm) := f_X12_stuck_48 k9 FU S l0 l1 l2 l3 l4 s0 0
def f_X12_stuck_9 : Nat → Mm → Nat → Int32 → Int32 → Option (Int32 × Mm)
  | 0, _, _, _, _ => none
  | n + 1, S, l0, l1, l2 => (gI S 11 l0 0).bind fun x1 => (if (3 * x1) ≤ l2 then some (l1, S) else (f_X12_wants S l0 (l2 / 3) (l2 - l2 / 3 * 3)).bind fun q4 => (if q4.1 = 0 then f_X12_stuck_43 (f_X12_stuck_9 n) q4.2 l0 l1 l2 (l2 / 3) (l2 - l2 / 3 * 3) 1 else f_X12_stuck_43 (f_X12_stuck_9 n) q4.2 l0 l1 l2 (l2 / 3) (l2 - l2 / 3 * 3) 0))
def f_X12_stuck (S : Mm) (l0 : Nat) : Option (Int32 × Mm) := if okc S l0 11 = true then (pI S 11 l0 15 0).bind fun S1 => f_X12_stuck_9 FU S1 l0 0 0 else none
set_option maxRecDepth 20000 in
theorem t_X12_stuck_88 {G : Gt} {l : Launch} (k9 : Mm → Nat → Int32 → Int32 → Option (Int32 × Mm)) (hk9 : ∀ (S : Mm) (l0 : Nat) (l1 : Int32) (l2 : Int32) (T : (Int32 × Mm)), k9 S l0 l1 l2 = some T → Sat G l yX12_stuck cX12_stuck 7 (some .int) 2 0 0 0 0 9 [.ref l0, .int l1, .int l2, .null, .null, .null, .null] [] S (eI T)) (k48 : Mm → Nat → Int32 → Int32 → Int32 → Int32 → Int32 → Int32 → Option (Int32 × Mm)) (hk48 : ∀ (S : Mm) (l0 : Nat) (l1 : Int32) (l2 : Int32) (l3 : Int32) (l4 : Int32) (l5 : Int32) (l6 : Int32) (T : (Int32 × Mm)), k48 S l0 l1 l2 l3 l4 l5 l6 = some T → Sat G l yX12_stuck cX12_stuck 7 (some .int) 2 0 0 0 0 48 [.ref l0, .int l1, .int l2, .int l3, .int l4, .int l5, .int l6] [] S (eI T)) (S : Mm) (l0 : Nat) (l1 : Int32) (l2 : Int32) (l3 : Int32) (l4 : Int32) (l6 : Int32) (s0 : Int32) (T : (Int32 × Mm)) (hf : f_X12_stuck_88 k9 k48 S l0 l1 l2 l3 l4 l6 s0 = some T) : Sat G l yX12_stuck cX12_stuck 7 (some .int) 2 0 0 0 0 88 [.ref l0, .int l1, .int l2, .int l3, .int l4, .null, .int l6] [.int s0] S (eI T) := by
  unfold f_X12_stuck_88 at hf
  refine r_istore (lv' := [.ref l0, .int l1, .int l2, .int l3, .int l4, .int s0, .int l6]) dX12_stuck_88 (by decide) rfl rfl ?_
  refine r_iinc (v := 1) (lv' := [.ref l0, .int l1, .int l2, .int l3, .int l4, .int s0, .int (l6 + 1)]) dX12_stuck_90 rfl (by decide) (by decide) rfl rfl ?_
  refine r_goto (tgt := 48) dX12_stuck_93 (by decide) ?_
  exact hk48 _ _ _ _ _ _ _ _ _ hf
set_option maxRecDepth 20000 in
theorem t_X12_stuck_83 {G : Gt} {l : Launch} (k9 : Mm → Nat → Int32 → Int32 → Option (Int32 × Mm)) (hk9 : ∀ (S : Mm) (l0 : Nat) (l1 : Int32) (l2 : Int32) (T : (Int32 × Mm)), k9 S l0 l1 l2 = some T → Sat G l yX12_stuck cX12_stuck 7 (some .int) 2 0 0 0 0 9 [.ref l0, .int l1, .int l2, .null, .null, .null, .null] [] S (eI T)) (k48 : Mm → Nat → Int32 → Int32 → Int32 → Int32 → Int32 → Int32 → Option (Int32 × Mm)) (hk48 : ∀ (S : Mm) (l0 : Nat) (l1 : Int32) (l2 : Int32) (l3 : Int32) (l4 : Int32) (l5 : Int32) (l6 : Int32) (T : (Int32 × Mm)), k48 S l0 l1 l2 l3 l4 l5 l6 = some T → Sat G l yX12_stuck cX12_stuck 7 (some .int) 2 0 0 0 0 48 [.ref l0, .int l1, .int l2, .int l3, .int l4, .int l5, .int l6] [] S (eI T)) (S : Mm) (l0 : Nat) (l1 : Int32) (l2 : Int32) (l3 : Int32) (l4 : Int32) (l6 : Int32) (T : (Int32 × Mm)) (hf : f_X12_stuck_83 k9 k48 S l0 l1 l2 l3 l4 l6 = some T) : Sat G l yX12_stuck cX12_stuck 7 (some .int) 2 0 0 0 0 83 [.ref l0, .int l1, .int l2, .int l3, .int l4, .null, .int l6] [] S (eI T) := by
  unfold f_X12_stuck_83 at hf
  refine r_iconst (v := 1) dX12_stuck_83 (by decide) ?_
  refine r_goto (tgt := 88) dX12_stuck_84 (by decide) ?_
  exact t_X12_stuck_88 k9 hk9 k48 hk48 _ _ _ _ _ _ _ _ _ hf
set_option maxRecDepth 20000 in
theorem t_X12_stuck_112 {G : Gt} {l : Launch} (k9 : Mm → Nat → Int32 → Int32 → Option (Int32 × Mm)) (hk9 : ∀ (S : Mm) (l0 : Nat) (l1 : Int32) (l2 : Int32) (T : (Int32 × Mm)), k9 S l0 l1 l2 = some T → Sat G l yX12_stuck cX12_stuck 7 (some .int) 2 0 0 0 0 9 [.ref l0, .int l1, .int l2, .null, .null, .null, .null] [] S (eI T)) (S : Mm) (l0 : Nat) (l2 : Int32) (s0 : Int32) (s1 : Int32) (T : (Int32 × Mm)) (hf : f_X12_stuck_112 k9 S l0 l2 s0 s1 = some T) : Sat G l yX12_stuck cX12_stuck 7 (some .int) 2 0 0 0 0 112 [.ref l0, .null, .int l2, .null, .null, .null, .null] [.int s1, .int s0] S (eI T) := by
  unfold f_X12_stuck_112 at hf
  refine r_iadd dX12_stuck_112 ?_
  refine r_istore_n (lv' := [.ref l0, .int (s0 + s1), .int l2, .null, .null, .null, .null]) dX12_stuck_113 (by decide) rfl rfl ?_
  refine r_iinc (v := 1) (lv' := [.ref l0, .int (s0 + s1), .int (l2 + 1), .null, .null, .null, .null]) dX12_stuck_114 rfl (by decide) (by decide) rfl rfl ?_
  refine r_goto (tgt := 9) dX12_stuck_117 (by decide) ?_
  exact hk9 _ _ _ _ _ hf
set_option maxRecDepth 20000 in
theorem t_X12_stuck_96 {G : Gt} {l : Launch} (k9 : Mm → Nat → Int32 → Int32 → Option (Int32 × Mm)) (hk9 : ∀ (S : Mm) (l0 : Nat) (l1 : Int32) (l2 : Int32) (T : (Int32 × Mm)), k9 S l0 l1 l2 = some T → Sat G l yX12_stuck cX12_stuck 7 (some .int) 2 0 0 0 0 9 [.ref l0, .int l1, .int l2, .null, .null, .null, .null] [] S (eI T)) (S : Mm) (l0 : Nat) (l1 : Int32) (l2 : Int32) (l5 : Int32) (T : (Int32 × Mm)) (hf : f_X12_stuck_96 k9 S l0 l1 l2 l5 = some T) : Sat G l yX12_stuck cX12_stuck 7 (some .int) 2 0 0 0 0 96 [.ref l0, .int l1, .int l2, .null, .null, .int l5, .null] [] S (eI T) := by
  unfold f_X12_stuck_96 at hf
  refine r_iload_n dX12_stuck_96 rfl ?_
  refine r_iload dX12_stuck_97 rfl ?_
  refine r_if_eq (tgt := 111) dX12_stuck_99 (by decide) (fun c1 => ?_) (fun c1 => ?_)
  · replace hf := (if_pos c1).symm.trans hf
    refine r_iconst (v := 0) dX12_stuck_111 (by decide) ?_
    refine r_lvs (lv' := [.ref l0, .null, .int l2, .null, .null, .null, .null]) ⟨Or.inl rfl, Or.inr rfl, Or.inl rfl, Or.inl rfl, Or.inl rfl, Or.inr rfl, Or.inl rfl, trivial⟩ ?_
    exact t_X12_stuck_112 k9 hk9 _ _ _ _ _ _ hf
  · replace hf := (if_neg c1).symm.trans hf
    refine r_aload_n dX12_stuck_102 rfl ?_
    obtain ⟨x2, h3, hf⟩ := bnd hf
    refine r_getR dX12_stuck_103 fs12_34_11 rfl h3 ?_
    refine r_iload_n dX12_stuck_106 rfl ?_
    obtain ⟨x4, h5, hf⟩ := bnd hf
    refine r_iaload dX12_stuck_107 h5 ?_
    refine r_goto (tgt := 112) dX12_stuck_108 (by decide) ?_
    refine r_lvs (lv' := [.ref l0, .null, .int l2, .null, .null, .null, .null]) ⟨Or.inl rfl, Or.inr rfl, Or.inl rfl, Or.inl rfl, Or.inl rfl, Or.inr rfl, Or.inl rfl, trivial⟩ ?_
    exact t_X12_stuck_112 k9 hk9 _ _ _ _ _ _ hf
set_option maxRecDepth 20000 in
theorem t_X12_stuck_48 {G : Gt} {l : Launch} (k9 : Mm → Nat → Int32 → Int32 → Option (Int32 × Mm)) (hk9 : ∀ (S : Mm) (l0 : Nat) (l1 : Int32) (l2 : Int32) (T : (Int32 × Mm)), k9 S l0 l1 l2 = some T → Sat G l yX12_stuck cX12_stuck 7 (some .int) 2 0 0 0 0 9 [.ref l0, .int l1, .int l2, .null, .null, .null, .null] [] S (eI T)) : ∀ (n : Nat) (S : Mm) (l0 : Nat) (l1 : Int32) (l2 : Int32) (l3 : Int32) (l4 : Int32) (l5 : Int32) (l6 : Int32) (T : (Int32 × Mm)), f_X12_stuck_48 k9 n S l0 l1 l2 l3 l4 l5 l6 = some T → Sat G l yX12_stuck cX12_stuck 7 (some .int) 2 0 0 0 0 48 [.ref l0, .int l1, .int l2, .int l3, .int l4, .int l5, .int l6] [] S (eI T) := by
  intro n
  induction n with
  | zero =>
    intro S l0 l1 l2 l3 l4 l5 l6 T hf
    rw [f_X12_stuck_48] at hf
    cases hf
  | succ n ih =>
    intro S l0 l1 l2 l3 l4 l5 l6 T hf
    rw [f_X12_stuck_48] at hf
    refine r_iload dX12_stuck_48 rfl ?_
    refine r_aload_n dX12_stuck_50 rfl ?_
    obtain ⟨x1, h2, hf⟩ := bnd hf
    refine r_getI dX12_stuck_51 fs12_77_11 rfl h2 ?_
    refine r_icmp_ge (tgt := 96) dX12_stuck_54 (by decide) (fun c3 => ?_) (fun c3 => ?_)
    · replace hf := (if_pos c3).symm.trans hf
      refine r_lvs (lv' := [.ref l0, .int l1, .int l2, .null, .null, .int l5, .null]) ⟨Or.inl rfl, Or.inl rfl, Or.inl rfl, Or.inr rfl, Or.inr rfl, Or.inl rfl, Or.inr rfl, trivial⟩ ?_
      exact t_X12_stuck_96 k9 hk9 _ _ _ _ _ _ hf
    · replace hf := (if_neg c3).symm.trans hf
      refine r_iload dX12_stuck_57 rfl ?_
      refine r_if_eq (tgt := 96) dX12_stuck_59 (by decide) (fun c4 => ?_) (fun c4 => ?_)
      · replace hf := (if_pos c4).symm.trans hf
        refine r_lvs (lv' := [.ref l0, .int l1, .int l2, .null, .null, .int l5, .null]) ⟨Or.inl rfl, Or.inl rfl, Or.inl rfl, Or.inr rfl, Or.inr rfl, Or.inl rfl, Or.inr rfl, trivial⟩ ?_
        exact t_X12_stuck_96 k9 hk9 _ _ _ _ _ _ hf
      · replace hf := (if_neg c4).symm.trans hf
        refine r_aload_n dX12_stuck_62 rfl ?_
        refine r_iload dX12_stuck_63 rfl ?_
        refine r_iload dX12_stuck_65 rfl ?_
        obtain ⟨q5, h6, hf⟩ := bnd hf
        refine r_callVi (st := []) (as := [.int l6, .int l4]) dX12_stuck_67 ms_X12_wants ⟨rfl, w4_236, w4_238, w0_39⟩ (ok_X12_wants h6) (c_X12_wants h6) rfl ⟨by omega, by omega⟩ (Nat.le_of_ble_eq_true rfl) (by decide) (by decide) rfl ?_
        refine r_if_eq (tgt := 83) dX12_stuck_70 (by decide) (fun c7 => ?_) (fun c7 => ?_)
        · replace hf := (if_pos c7).symm.trans hf
          refine r_lvs (lv' := [.ref l0, .int l1, .int l2, .int l3, .int l4, .null, .int l6]) ⟨Or.inl rfl, Or.inl rfl, Or.inl rfl, Or.inl rfl, Or.inl rfl, Or.inr rfl, Or.inl rfl, trivial⟩ ?_
          exact t_X12_stuck_83 k9 hk9 (f_X12_stuck_48 k9 n) ih _ _ _ _ _ _ _ _ hf
        · replace hf := (if_neg c7).symm.trans hf
          refine r_aload_n dX12_stuck_73 rfl ?_
          refine r_iload_n dX12_stuck_74 rfl ?_
          refine r_iload dX12_stuck_75 rfl ?_
          obtain ⟨q8, h9, hf⟩ := bnd hf
          refine r_callVi (st := []) (as := [.int l3, .int l6]) dX12_stuck_77 ms_X12_isLawful ⟨rfl, w4_208, w4_210, w0_34⟩ (ok_X12_isLawful h9) (c_X12_isLawful h9) rfl ⟨by omega, by omega⟩ (Nat.le_of_ble_eq_true rfl) (by decide) (by decide) rfl ?_
          refine r_if_ne (tgt := 87) dX12_stuck_80 (by decide) (fun c10 => ?_) (fun c10 => ?_)
          · replace hf := (if_neg c10).symm.trans hf
            refine r_iconst (v := 0) dX12_stuck_87 (by decide) ?_
            refine r_lvs (lv' := [.ref l0, .int l1, .int l2, .int l3, .int l4, .null, .int l6]) ⟨Or.inl rfl, Or.inl rfl, Or.inl rfl, Or.inl rfl, Or.inl rfl, Or.inr rfl, Or.inl rfl, trivial⟩ ?_
            exact t_X12_stuck_88 k9 hk9 (f_X12_stuck_48 k9 n) ih _ _ _ _ _ _ _ _ _ hf
          · replace hf := (if_pos c10).symm.trans hf
            refine r_lvs (lv' := [.ref l0, .int l1, .int l2, .int l3, .int l4, .null, .int l6]) ⟨Or.inl rfl, Or.inl rfl, Or.inl rfl, Or.inl rfl, Or.inl rfl, Or.inr rfl, Or.inl rfl, trivial⟩ ?_
            exact t_X12_stuck_83 k9 hk9 (f_X12_stuck_48 k9 n) ih _ _ _ _ _ _ _ _ hf
set_option maxRecDepth 20000 in
theorem t_X12_stuck_43 {G : Gt} {l : Launch} (k9 : Mm → Nat → Int32 → Int32 → Option (Int32 × Mm)) (hk9 : ∀ (S : Mm) (l0 : Nat) (l1 : Int32) (l2 : Int32) (T : (Int32 × Mm)), k9 S l0 l1 l2 = some T → Sat G l yX12_stuck cX12_stuck 7 (some .int) 2 0 0 0 0 9 [.ref l0, .int l1, .int l2, .null, .null, .null, .null] [] S (eI T)) (S : Mm) (l0 : Nat) (l1 : Int32) (l2 : Int32) (l3 : Int32) (l4 : Int32) (s0 : Int32) (T : (Int32 × Mm)) (hf : f_X12_stuck_43 k9 S l0 l1 l2 l3 l4 s0 = some T) : Sat G l yX12_stuck cX12_stuck 7 (some .int) 2 0 0 0 0 43 [.ref l0, .int l1, .int l2, .int l3, .int l4, .null, .null] [.int s0] S (eI T) := by
  unfold f_X12_stuck_43 at hf
  refine r_istore (lv' := [.ref l0, .int l1, .int l2, .int l3, .int l4, .int s0, .null]) dX12_stuck_43 (by decide) rfl rfl ?_
  refine r_iconst (v := 0) dX12_stuck_45 (by decide) ?_
  refine r_istore (lv' := [.ref l0, .int l1, .int l2, .int l3, .int l4, .int s0, .int 0]) dX12_stuck_46 (by decide) rfl rfl ?_
  exact t_X12_stuck_48 k9 hk9 FU _ _ _ _ _ _ _ _ _ hf
set_option maxRecDepth 20000 in
theorem t_X12_stuck_9 {G : Gt} {l : Launch} : ∀ (n : Nat) (S : Mm) (l0 : Nat) (l1 : Int32) (l2 : Int32) (T : (Int32 × Mm)), f_X12_stuck_9 n S l0 l1 l2 = some T → Sat G l yX12_stuck cX12_stuck 7 (some .int) 2 0 0 0 0 9 [.ref l0, .int l1, .int l2, .null, .null, .null, .null] [] S (eI T) := by
  intro n
  induction n with
  | zero =>
    intro S l0 l1 l2 T hf
    rw [f_X12_stuck_9] at hf
    cases hf
  | succ n ih =>
    intro S l0 l1 l2 T hf
    rw [f_X12_stuck_9] at hf
    refine r_iload_n dX12_stuck_9 rfl ?_
    refine r_iconst (v := 3) dX12_stuck_10 (by decide) ?_
    refine r_aload_n dX12_stuck_11 rfl ?_
    obtain ⟨x1, h2, hf⟩ := bnd hf
    refine r_getI dX12_stuck_12 fs12_77_11 rfl h2 ?_
    refine r_imul dX12_stuck_15 ?_
    refine r_icmp_ge (tgt := 120) dX12_stuck_16 (by decide) (fun c3 => ?_) (fun c3 => ?_)
    · replace hf := (if_pos c3).symm.trans hf
      refine r_iload_n dX12_stuck_120 rfl ?_
      have hz := congrArg eI (Option.some.inj hf)
      exact r_ireturn dX12_stuck_121 rfl (Nat.le_of_ble_eq_true rfl) (Nat.le_of_ble_eq_true rfl) hz
    · replace hf := (if_neg c3).symm.trans hf
      refine r_iload_n dX12_stuck_19 rfl ?_
      refine r_iconst (v := 3) dX12_stuck_20 (by decide) ?_
      refine r_idiv dX12_stuck_21 (x := (l2 / 3)) rfl ?_
      refine r_istore_n (lv' := [.ref l0, .int l1, .int l2, .int (l2 / 3), .null, .null, .null]) dX12_stuck_22 (by decide) rfl rfl ?_
      refine r_iload_n dX12_stuck_23 rfl ?_
      refine r_iconst (v := 3) dX12_stuck_24 (by decide) ?_
      refine r_irem dX12_stuck_25 (x := (l2 - l2 / 3 * 3)) rfl ?_
      refine r_istore (lv' := [.ref l0, .int l1, .int l2, .int (l2 / 3), .int (l2 - l2 / 3 * 3), .null, .null]) dX12_stuck_26 (by decide) rfl rfl ?_
      refine r_aload_n dX12_stuck_28 rfl ?_
      refine r_iload_n dX12_stuck_29 rfl ?_
      refine r_iload dX12_stuck_30 rfl ?_
      obtain ⟨q4, h5, hf⟩ := bnd hf
      refine r_callVi (st := []) (as := [.int (l2 / 3), .int (l2 - l2 / 3 * 3)]) dX12_stuck_32 ms_X12_wants ⟨rfl, w4_236, w4_238, w0_39⟩ (ok_X12_wants h5) (c_X12_wants h5) rfl ⟨by omega, by omega⟩ (Nat.le_of_ble_eq_true rfl) (by decide) (by decide) rfl ?_
      refine r_if_ne (tgt := 42) dX12_stuck_35 (by decide) (fun c6 => ?_) (fun c6 => ?_)
      · replace hf := (if_neg c6).symm.trans hf
        refine r_iconst (v := 0) dX12_stuck_42 (by decide) ?_
        exact t_X12_stuck_43 (f_X12_stuck_9 n) ih _ _ _ _ _ _ _ _ hf
      · replace hf := (if_pos c6).symm.trans hf
        refine r_iconst (v := 1) dX12_stuck_38 (by decide) ?_
        refine r_goto (tgt := 43) dX12_stuck_39 (by decide) ?_
        exact t_X12_stuck_43 (f_X12_stuck_9 n) ih _ _ _ _ _ _ _ _ hf
set_option maxRecDepth 20000 in
theorem ok_X12_stuck {S : Mm} {l0 : Nat} {T : (Int32 × Mm)} (hf : f_X12_stuck S l0 = some T) : okc S l0 11 = true := (oif hf).1
set_option maxRecDepth 20000 in
theorem c_X12_stuck {G : Gt} {l : Launch} {S : Mm} {l0 : Nat} {T : (Int32 × Mm)} (hf : f_X12_stuck S l0 = some T) : CC G l yX12_stuck cX12_stuck 7 (some .int) 2 0 0 [.ref l0] S (eI T) := by
  unfold f_X12_stuck at hf
  replace hf := (oif hf).2
  refine r_body (by decide) rfl (Nat.le_of_ble_eq_true rfl) (by simp) ?_
  refine r_aload_n dX12_stuck_0 rfl ?_
  refine r_iconst (v := 0) dX12_stuck_1 (by decide) ?_
  obtain ⟨S1, h2, hf⟩ := bnd hf
  refine r_putI dX12_stuck_2 fs12_73_11 rfl h2 ?_
  refine r_iconst (v := 0) dX12_stuck_5 (by decide) ?_
  refine r_istore_n (lv' := [.ref l0, .int 0, .null, .null, .null, .null, .null]) dX12_stuck_6 (by decide) rfl rfl ?_
  refine r_iconst (v := 0) dX12_stuck_7 (by decide) ?_
  refine r_istore_n (lv' := [.ref l0, .int 0, .int 0, .null, .null, .null, .null]) dX12_stuck_8 (by decide) rfl rfl ?_
  exact t_X12_stuck_9 FU _ _ _ _ _ hf
def f_X12_mostOf_141 (k4 : Mm → Nat → Int32 → Int32 → Int32 → Option (Int32 × Mm)) (k20 : Mm → Nat → Int32 → Int32 → Int32 → Int32 → Int32 → Option (Int32 × Mm)) (k86 : Mm → Nat → Int32 → Int32 → Int32 → Int32 → Int32 → Int32 → Int32 → Int32 → Option (Int32 × Mm)) (S : Mm) (l0 : Nat) (l1 : Int32) (l2 : Int32) (l3 : Int32) (l4 : Int32) (l5 : Int32) (l6 : Int32) (l8 : Int32) (s0 : Int32) : Option (Int32 × Mm) := k86 S l0 l1 l2 l3 l4 l5 l6 s0 (l8 + 1)
def f_X12_mostOf_136 (k4 : Mm → Nat → Int32 → Int32 → Int32 → Option (Int32 × Mm)) (k20 : Mm → Nat → Int32 → Int32 → Int32 → Int32 → Int32 → Option (Int32 × Mm)) (k86 : Mm → Nat → Int32 → Int32 → Int32 → Int32 → Int32 → Int32 → Int32 → Int32 → Option (Int32 × Mm)) (S : Mm) (l0 : Nat) (l1 : Int32) (l2 : Int32) (l3 : Int32) (l4 : Int32) (l5 : Int32) (l6 : Int32) (l8 : Int32) : Option (Int32 × Mm) := f_X12_mostOf_141 k4 k20 k86 S l0 l1 l2 l3 l4 l5 l6 l8 1
def f_X12_mostOf_140 (k4 : Mm → Nat → Int32 → Int32 → Int32 → Option (Int32 × Mm)) (k20 : Mm → Nat → Int32 → Int32 → Int32 → Int32 → Int32 → Option (Int32 × Mm)) (k86 : Mm → Nat → Int32 → Int32 → Int32 → Int32 → Int32 → Int32 → Int32 → Int32 → Option (Int32 × Mm)) (S : Mm) (l0 : Nat) (l1 : Int32) (l2 : Int32) (l3 : Int32) (l4 : Int32) (l5 : Int32) (l6 : Int32) (l8 : Int32) : Option (Int32 × Mm) := f_X12_mostOf_141 k4 k20 k86 S l0 l1 l2 l3 l4 l5 l6 l8 0
def f_X12_mostOf_167 (k4 : Mm → Nat → Int32 → Int32 → Int32 → Option (Int32 × Mm)) (k20 : Mm → Nat → Int32 → Int32 → Int32 → Int32 → Int32 → Option (Int32 × Mm)) (S : Mm) (l0 : Nat) (l1 : Int32) (l2 : Int32) (l3 : Int32) (l5 : Int32) (s0 : Int32) (s1 : Int32) : Option (Int32 × Mm) := k20 S l0 l1 l2 l3 (s0 + s1) (l5 + 1)
def f_X12_mostOf_149 (k4 : Mm → Nat → Int32 → Int32 → Int32 → Option (Int32 × Mm)) (k20 : Mm → Nat → Int32 → Int32 → Int32 → Int32 → Int32 → Option (Int32 × Mm)) (S : Mm) (l0 : Nat) (l1 : Int32) (l2 : Int32) (l3 : Int32) (l4 : Int32) (l5 : Int32) (l7 : Int32) : Option (Int32 × Mm) := (if l7 = 0 then f_X12_mostOf_167 k4 k20 S l0 l1 l2 l3 l5 l4 0 else (gR S 11 l0 10).bind fun x2 => (aI S x2 l5).bind fun x4 => f_X12_mostOf_167 k4 k20 S l0 l1 l2 l3 l5 l4 x4)
def f_X12_mostOf_86 (k4 : Mm → Nat → Int32 → Int32 → Int32 → Option (Int32 × Mm)) (k20 : Mm → Nat → Int32 → Int32 → Int32 → Int32 → Int32 → Option (Int32 × Mm)) : Nat → Mm → Nat → Int32 → Int32 → Int32 → Int32 → Int32 → Int32 → Int32 → Int32 → Option (Int32 × Mm)
  | 0, _, _, _, _, _, _, _, _, _, _ => none
  | n + 1, S, l0, l1, l2, l3, l4, l5, l6, l7, l8 => (gI S 11 l0 0).bind fun x1 => (if x1 ≤ l8 then f_X12_mostOf_149 k4 k20 S l0 l1 l2 l3 l4 l5 l7 else (if l6 = 0 then (if l7 = 0 then (if ((l3 >>> (l8 &&& 31)) &&& 1) = 1 then (f_X12_wants S l0 l8 l1).bind fun q7 => (if q7.1 = 0 then (f_X12_isLawful q7.2 l0 l8 l5).bind fun q10 => (if q10.1 = 0 then f_X12_mostOf_140 k4 k20 (f_X12_mostOf_86 k4 k20 n) q10.2 l0 l1 l2 l3 l4 l5 l6 l8 else f_X12_mostOf_136 k4 k20 (f_X12_mostOf_86 k4 k20 n) q10.2 l0 l1 l2 l3 l4 l5 l6 l8) else f_X12_mostOf_140 k4 k20 (f_X12_mostOf_86 k4 k20 n) q7.2 l0 l1 l2 l3 l4 l5 l6 l8) else f_X12_mostOf_140 k4 k20 (f_X12_mostOf_86 k4 k20 n) S l0 l1 l2 l3 l4 l5 l6 l8) else f_X12_mostOf_136 k4 k20 (f_X12_mostOf_86 k4 k20 n) S l0 l1 l2 l3 l4 l5 l6 l8) else f_X12_mostOf_149 k4 k20 S l0 l1 l2 l3 l4 l5 l7))
def f_X12_mostOf_77 (k4 : Mm → Nat → Int32 → Int32 → Int32 → Option (Int32 × Mm)) (k20 : Mm → Nat → Int32 → Int32 → Int32 → Int32 → Int32 → Option (Int32 × Mm)) (S : Mm) (l0 : Nat) (l1 : Int32) (l2 : Int32) (l3 : Int32) (l5 : Int32) (l6 : Int32) (s0 : Int32) (s1 : Int32) : Option (Int32 × Mm) := f_X12_mostOf_86 k4 k20 FU S l0 l1 l2 l3 (s0 + s1) l5 l6 0 0
def f_X12_mostOf_76 (k4 : Mm → Nat → Int32 → Int32 → Int32 → Option (Int32 × Mm)) (k20 : Mm → Nat → Int32 → Int32 → Int32 → Int32 → Int32 → Option (Int32 × Mm)) (S : Mm) (l0 : Nat) (l1 : Int32) (l2 : Int32) (l3 : Int32) (l5 : Int32) (l6 : Int32) (s0 : Int32) : Option (Int32 × Mm) := f_X12_mostOf_77 k4 k20 S l0 l1 l2 l3 l5 l6 s0 0
def f_X12_mostOf_44 (k4 : Mm → Nat → Int32 → Int32 → Int32 → Option (Int32 × Mm)) (k20 : Mm → Nat → Int32 → Int32 → Int32 → Int32 → Int32 → Option (Int32 × Mm)) (S : Mm) (l0 : Nat) (l1 : Int32) (l2 : Int32) (l3 : Int32) (l4 : Int32) (l5 : Int32) (s0 : Int32) : Option (Int32 × Mm) := (if s0 = 0 then f_X12_mostOf_76 k4 k20 S l0 l1 l2 l3 l5 s0 l4 else (if ((l3 >>> (l5 &&& 31)) &&& 1) = 0 then (gR S 11 l0 12).bind fun x3 => (aI S x3 ((3 * l5) + l1)).bind fun x5 => f_X12_mostOf_77 k4 k20 S l0 l1 l2 l3 l5 s0 l4 x5 else f_X12_mostOf_76 k4 k20 S l0 l1 l2 l3 l5 s0 l4))
def f_X12_mostOf_192 (k4 : Mm → Nat → Int32 → Int32 → Int32 → Option (Int32 × Mm)) (S : Mm) (l0 : Nat) (l1 : Int32) (l3 : Int32) (s0 : Int32) : Option (Int32 × Mm) := k4 S l0 l1 s0 (l3 + 1)
def f_X12_mostOf_186 (k4 : Mm → Nat → Int32 → Int32 → Int32 → Option (Int32 × Mm)) (S : Mm) (l0 : Nat) (l1 : Int32) (l3 : Int32) (l4 : Int32) : Option (Int32 × Mm) := f_X12_mostOf_192 k4 S l0 l1 l3 l4
def f_X12_mostOf_20 (k4 : Mm → Nat → Int32 → Int32 → Int32 → Option (Int32 × Mm)) : Nat → Mm → Nat → Int32 → Int32 → Int32 → Int32 → Int32 → Option (Int32 × Mm)
  | 0, _, _, _, _, _, _, _ => none
  | n + 1, S, l0, l1, l2, l3, l4, l5 => (gI S 11 l0 0).bind fun x1 => (if x1 ≤ l5 then (if l2 < 0 then f_X12_mostOf_186 k4 S l0 l1 l3 l4 else (if l2 ≤ l4 then f_X12_mostOf_192 k4 S l0 l1 l3 l2 else f_X12_mostOf_186 k4 S l0 l1 l3 l4)) else (f_X12_wants S l0 l5 l1).bind fun q6 => (if q6.1 = 0 then f_X12_mostOf_44 k4 (f_X12_mostOf_20 k4 n) q6.2 l0 l1 l2 l3 l4 l5 1 else f_X12_mostOf_44 k4 (f_X12_mostOf_20 k4 n) q6.2 l0 l1 l2 l3 l4 l5 0))
def f_X12_mostOf_4 : Nat → Mm → Nat → Int32 → Int32 → Int32 → Option (Int32 × Mm)
  | 0, _, _, _, _, _ => none
  | n + 1, S, l0, l1, l2, l3 => (gI S 11 l0 0).bind fun x1 => (if (1 <<< (x1 &&& 31)) ≤ l3 then some (l2, S) else f_X12_mostOf_20 (f_X12_mostOf_4 n) FU S l0 l1 l2 l3 0 0)
def f_X12_mostOf (S : Mm) (l0 : Nat) (l1 : Int32) : Option (Int32 × Mm) := if okc S l0 11 = true then f_X12_mostOf_4 FU S l0 l1 (-1) 0 else none
set_option maxRecDepth 20000 in
theorem t_X12_mostOf_141 {G : Gt} {l : Launch} (k4 : Mm → Nat → Int32 → Int32 → Int32 → Option (Int32 × Mm)) (hk4 : ∀ (S : Mm) (l0 : Nat) (l1 : Int32) (l2 : Int32) (l3 : Int32) (T : (Int32 × Mm)), k4 S l0 l1 l2 l3 = some T → Sat G l yX12_mostOf cX12_mostOf 9 (some .int) 2 0 0 0 0 4 [.ref l0, .int l1, .int l2, .int l3, .null, .null, .null, .null, .null] [] S (eI T)) (k20 : Mm → Nat → Int32 → Int32 → Int32 → Int32 → Int32 → Option (Int32 × Mm)) (hk20 : ∀ (S : Mm) (l0 : Nat) (l1 : Int32) (l2 : Int32) (l3 : Int32) (l4 : Int32) (l5 : Int32) (T : (Int32 × Mm)), k20 S l0 l1 l2 l3 l4 l5 = some T → Sat G l yX12_mostOf cX12_mostOf 9 (some .int) 2 0 0 0 0 20 [.ref l0, .int l1, .int l2, .int l3, .int l4, .int l5, .null, .null, .null] [] S (eI T)) (k86 : Mm → Nat → Int32 → Int32 → Int32 → Int32 → Int32 → Int32 → Int32 → Int32 → Option (Int32 × Mm)) (hk86 : ∀ (S : Mm) (l0 : Nat) (l1 : Int32) (l2 : Int32) (l3 : Int32) (l4 : Int32) (l5 : Int32) (l6 : Int32) (l7 : Int32) (l8 : Int32) (T : (Int32 × Mm)), k86 S l0 l1 l2 l3 l4 l5 l6 l7 l8 = some T → Sat G l yX12_mostOf cX12_mostOf 9 (some .int) 2 0 0 0 0 86 [.ref l0, .int l1, .int l2, .int l3, .int l4, .int l5, .int l6, .int l7, .int l8] [] S (eI T)) (S : Mm) (l0 : Nat) (l1 : Int32) (l2 : Int32) (l3 : Int32) (l4 : Int32) (l5 : Int32) (l6 : Int32) (l8 : Int32) (s0 : Int32) (T : (Int32 × Mm)) (hf : f_X12_mostOf_141 k4 k20 k86 S l0 l1 l2 l3 l4 l5 l6 l8 s0 = some T) : Sat G l yX12_mostOf cX12_mostOf 9 (some .int) 2 0 0 0 0 141 [.ref l0, .int l1, .int l2, .int l3, .int l4, .int l5, .int l6, .null, .int l8] [.int s0] S (eI T) := by
  unfold f_X12_mostOf_141 at hf
  refine r_istore (lv' := [.ref l0, .int l1, .int l2, .int l3, .int l4, .int l5, .int l6, .int s0, .int l8]) dX12_mostOf_141 (by decide) rfl rfl ?_
  refine r_iinc (v := 1) (lv' := [.ref l0, .int l1, .int l2, .int l3, .int l4, .int l5, .int l6, .int s0, .int (l8 + 1)]) dX12_mostOf_143 rfl (by decide) (by decide) rfl rfl ?_
  refine r_goto (tgt := 86) dX12_mostOf_146 (by decide) ?_
  exact hk86 _ _ _ _ _ _ _ _ _ _ _ hf
set_option maxRecDepth 20000 in
theorem t_X12_mostOf_136 {G : Gt} {l : Launch} (k4 : Mm → Nat → Int32 → Int32 → Int32 → Option (Int32 × Mm)) (hk4 : ∀ (S : Mm) (l0 : Nat) (l1 : Int32) (l2 : Int32) (l3 : Int32) (T : (Int32 × Mm)), k4 S l0 l1 l2 l3 = some T → Sat G l yX12_mostOf cX12_mostOf 9 (some .int) 2 0 0 0 0 4 [.ref l0, .int l1, .int l2, .int l3, .null, .null, .null, .null, .null] [] S (eI T)) (k20 : Mm → Nat → Int32 → Int32 → Int32 → Int32 → Int32 → Option (Int32 × Mm)) (hk20 : ∀ (S : Mm) (l0 : Nat) (l1 : Int32) (l2 : Int32) (l3 : Int32) (l4 : Int32) (l5 : Int32) (T : (Int32 × Mm)), k20 S l0 l1 l2 l3 l4 l5 = some T → Sat G l yX12_mostOf cX12_mostOf 9 (some .int) 2 0 0 0 0 20 [.ref l0, .int l1, .int l2, .int l3, .int l4, .int l5, .null, .null, .null] [] S (eI T)) (k86 : Mm → Nat → Int32 → Int32 → Int32 → Int32 → Int32 → Int32 → Int32 → Int32 → Option (Int32 × Mm)) (hk86 : ∀ (S : Mm) (l0 : Nat) (l1 : Int32) (l2 : Int32) (l3 : Int32) (l4 : Int32) (l5 : Int32) (l6 : Int32) (l7 : Int32) (l8 : Int32) (T : (Int32 × Mm)), k86 S l0 l1 l2 l3 l4 l5 l6 l7 l8 = some T → Sat G l yX12_mostOf cX12_mostOf 9 (some .int) 2 0 0 0 0 86 [.ref l0, .int l1, .int l2, .int l3, .int l4, .int l5, .int l6, .int l7, .int l8] [] S (eI T)) (S : Mm) (l0 : Nat) (l1 : Int32) (l2 : Int32) (l3 : Int32) (l4 : Int32) (l5 : Int32) (l6 : Int32) (l8 : Int32) (T : (Int32 × Mm)) (hf : f_X12_mostOf_136 k4 k20 k86 S l0 l1 l2 l3 l4 l5 l6 l8 = some T) : Sat G l yX12_mostOf cX12_mostOf 9 (some .int) 2 0 0 0 0 136 [.ref l0, .int l1, .int l2, .int l3, .int l4, .int l5, .int l6, .null, .int l8] [] S (eI T) := by
  unfold f_X12_mostOf_136 at hf
  refine r_iconst (v := 1) dX12_mostOf_136 (by decide) ?_
  refine r_goto (tgt := 141) dX12_mostOf_137 (by decide) ?_
  exact t_X12_mostOf_141 k4 hk4 k20 hk20 k86 hk86 _ _ _ _ _ _ _ _ _ _ _ hf
set_option maxRecDepth 20000 in
theorem t_X12_mostOf_140 {G : Gt} {l : Launch} (k4 : Mm → Nat → Int32 → Int32 → Int32 → Option (Int32 × Mm)) (hk4 : ∀ (S : Mm) (l0 : Nat) (l1 : Int32) (l2 : Int32) (l3 : Int32) (T : (Int32 × Mm)), k4 S l0 l1 l2 l3 = some T → Sat G l yX12_mostOf cX12_mostOf 9 (some .int) 2 0 0 0 0 4 [.ref l0, .int l1, .int l2, .int l3, .null, .null, .null, .null, .null] [] S (eI T)) (k20 : Mm → Nat → Int32 → Int32 → Int32 → Int32 → Int32 → Option (Int32 × Mm)) (hk20 : ∀ (S : Mm) (l0 : Nat) (l1 : Int32) (l2 : Int32) (l3 : Int32) (l4 : Int32) (l5 : Int32) (T : (Int32 × Mm)), k20 S l0 l1 l2 l3 l4 l5 = some T → Sat G l yX12_mostOf cX12_mostOf 9 (some .int) 2 0 0 0 0 20 [.ref l0, .int l1, .int l2, .int l3, .int l4, .int l5, .null, .null, .null] [] S (eI T)) (k86 : Mm → Nat → Int32 → Int32 → Int32 → Int32 → Int32 → Int32 → Int32 → Int32 → Option (Int32 × Mm)) (hk86 : ∀ (S : Mm) (l0 : Nat) (l1 : Int32) (l2 : Int32) (l3 : Int32) (l4 : Int32) (l5 : Int32) (l6 : Int32) (l7 : Int32) (l8 : Int32) (T : (Int32 × Mm)), k86 S l0 l1 l2 l3 l4 l5 l6 l7 l8 = some T → Sat G l yX12_mostOf cX12_mostOf 9 (some .int) 2 0 0 0 0 86 [.ref l0, .int l1, .int l2, .int l3, .int l4, .int l5, .int l6, .int l7, .int l8] [] S (eI T)) (S : Mm) (l0 : Nat) (l1 : Int32) (l2 : Int32) (l3 : Int32) (l4 : Int32) (l5 : Int32) (l6 : Int32) (l8 : Int32) (T : (Int32 × Mm)) (hf : f_X12_mostOf_140 k4 k20 k86 S l0 l1 l2 l3 l4 l5 l6 l8 = some T) : Sat G l yX12_mostOf cX12_mostOf 9 (some .int) 2 0 0 0 0 140 [.ref l0, .int l1, .int l2, .int l3, .int l4, .int l5, .int l6, .null, .int l8] [] S (eI T) := by
  unfold f_X12_mostOf_140 at hf
  refine r_iconst (v := 0) dX12_mostOf_140 (by decide) ?_
  exact t_X12_mostOf_141 k4 hk4 k20 hk20 k86 hk86 _ _ _ _ _ _ _ _ _ _ _ hf
set_option maxRecDepth 20000 in
theorem t_X12_mostOf_167 {G : Gt} {l : Launch} (k4 : Mm → Nat → Int32 → Int32 → Int32 → Option (Int32 × Mm)) (hk4 : ∀ (S : Mm) (l0 : Nat) (l1 : Int32) (l2 : Int32) (l3 : Int32) (T : (Int32 × Mm)), k4 S l0 l1 l2 l3 = some T → Sat G l yX12_mostOf cX12_mostOf 9 (some .int) 2 0 0 0 0 4 [.ref l0, .int l1, .int l2, .int l3, .null, .null, .null, .null, .null] [] S (eI T)) (k20 : Mm → Nat → Int32 → Int32 → Int32 → Int32 → Int32 → Option (Int32 × Mm)) (hk20 : ∀ (S : Mm) (l0 : Nat) (l1 : Int32) (l2 : Int32) (l3 : Int32) (l4 : Int32) (l5 : Int32) (T : (Int32 × Mm)), k20 S l0 l1 l2 l3 l4 l5 = some T → Sat G l yX12_mostOf cX12_mostOf 9 (some .int) 2 0 0 0 0 20 [.ref l0, .int l1, .int l2, .int l3, .int l4, .int l5, .null, .null, .null] [] S (eI T)) (S : Mm) (l0 : Nat) (l1 : Int32) (l2 : Int32) (l3 : Int32) (l5 : Int32) (s0 : Int32) (s1 : Int32) (T : (Int32 × Mm)) (hf : f_X12_mostOf_167 k4 k20 S l0 l1 l2 l3 l5 s0 s1 = some T) : Sat G l yX12_mostOf cX12_mostOf 9 (some .int) 2 0 0 0 0 167 [.ref l0, .int l1, .int l2, .int l3, .null, .int l5, .null, .null, .null] [.int s1, .int s0] S (eI T) := by
  unfold f_X12_mostOf_167 at hf
  refine r_iadd dX12_mostOf_167 ?_
  refine r_istore (lv' := [.ref l0, .int l1, .int l2, .int l3, .int (s0 + s1), .int l5, .null, .null, .null]) dX12_mostOf_168 (by decide) rfl rfl ?_
  refine r_iinc (v := 1) (lv' := [.ref l0, .int l1, .int l2, .int l3, .int (s0 + s1), .int (l5 + 1), .null, .null, .null]) dX12_mostOf_170 rfl (by decide) (by decide) rfl rfl ?_
  refine r_goto (tgt := 20) dX12_mostOf_173 (by decide) ?_
  exact hk20 _ _ _ _ _ _ _ _ hf
set_option maxRecDepth 20000 in
theorem t_X12_mostOf_149 {G : Gt} {l : Launch} (k4 : Mm → Nat → Int32 → Int32 → Int32 → Option (Int32 × Mm)) (hk4 : ∀ (S : Mm) (l0 : Nat) (l1 : Int32) (l2 : Int32) (l3 : Int32) (T : (Int32 × Mm)), k4 S l0 l1 l2 l3 = some T → Sat G l yX12_mostOf cX12_mostOf 9 (some .int) 2 0 0 0 0 4 [.ref l0, .int l1, .int l2, .int l3, .null, .null, .null, .null, .null] [] S (eI T)) (k20 : Mm → Nat → Int32 → Int32 → Int32 → Int32 → Int32 → Option (Int32 × Mm)) (hk20 : ∀ (S : Mm) (l0 : Nat) (l1 : Int32) (l2 : Int32) (l3 : Int32) (l4 : Int32) (l5 : Int32) (T : (Int32 × Mm)), k20 S l0 l1 l2 l3 l4 l5 = some T → Sat G l yX12_mostOf cX12_mostOf 9 (some .int) 2 0 0 0 0 20 [.ref l0, .int l1, .int l2, .int l3, .int l4, .int l5, .null, .null, .null] [] S (eI T)) (S : Mm) (l0 : Nat) (l1 : Int32) (l2 : Int32) (l3 : Int32) (l4 : Int32) (l5 : Int32) (l7 : Int32) (T : (Int32 × Mm)) (hf : f_X12_mostOf_149 k4 k20 S l0 l1 l2 l3 l4 l5 l7 = some T) : Sat G l yX12_mostOf cX12_mostOf 9 (some .int) 2 0 0 0 0 149 [.ref l0, .int l1, .int l2, .int l3, .int l4, .int l5, .null, .int l7, .null] [] S (eI T) := by
  unfold f_X12_mostOf_149 at hf
  refine r_iload dX12_mostOf_149 rfl ?_
  refine r_iload dX12_mostOf_151 rfl ?_
  refine r_if_eq (tgt := 166) dX12_mostOf_153 (by decide) (fun c1 => ?_) (fun c1 => ?_)
  · replace hf := (if_pos c1).symm.trans hf
    refine r_iconst (v := 0) dX12_mostOf_166 (by decide) ?_
    refine r_lvs (lv' := [.ref l0, .int l1, .int l2, .int l3, .null, .int l5, .null, .null, .null]) ⟨Or.inl rfl, Or.inl rfl, Or.inl rfl, Or.inl rfl, Or.inr rfl, Or.inl rfl, Or.inl rfl, Or.inr rfl, Or.inl rfl, trivial⟩ ?_
    exact t_X12_mostOf_167 k4 hk4 k20 hk20 _ _ _ _ _ _ _ _ _ hf
  · replace hf := (if_neg c1).symm.trans hf
    refine r_aload_n dX12_mostOf_156 rfl ?_
    obtain ⟨x2, h3, hf⟩ := bnd hf
    refine r_getR dX12_mostOf_157 fs12_28_11 rfl h3 ?_
    refine r_iload dX12_mostOf_160 rfl ?_
    obtain ⟨x4, h5, hf⟩ := bnd hf
    refine r_iaload dX12_mostOf_162 h5 ?_
    refine r_goto (tgt := 167) dX12_mostOf_163 (by decide) ?_
    refine r_lvs (lv' := [.ref l0, .int l1, .int l2, .int l3, .null, .int l5, .null, .null, .null]) ⟨Or.inl rfl, Or.inl rfl, Or.inl rfl, Or.inl rfl, Or.inr rfl, Or.inl rfl, Or.inl rfl, Or.inr rfl, Or.inl rfl, trivial⟩ ?_
    exact t_X12_mostOf_167 k4 hk4 k20 hk20 _ _ _ _ _ _ _ _ _ hf
set_option maxRecDepth 20000 in
theorem t_X12_mostOf_86 {G : Gt} {l : Launch} (k4 : Mm → Nat → Int32 → Int32 → Int32 → Option (Int32 × Mm)) (hk4 : ∀ (S : Mm) (l0 : Nat) (l1 : Int32) (l2 : Int32) (l3 : Int32) (T : (Int32 × Mm)), k4 S l0 l1 l2 l3 = some T → Sat G l yX12_mostOf cX12_mostOf 9 (some .int) 2 0 0 0 0 4 [.ref l0, .int l1, .int l2, .int l3, .null, .null, .null, .null, .null] [] S (eI T)) (k20 : Mm → Nat → Int32 → Int32 → Int32 → Int32 → Int32 → Option (Int32 × Mm)) (hk20 : ∀ (S : Mm) (l0 : Nat) (l1 : Int32) (l2 : Int32) (l3 : Int32) (l4 : Int32) (l5 : Int32) (T : (Int32 × Mm)), k20 S l0 l1 l2 l3 l4 l5 = some T → Sat G l yX12_mostOf cX12_mostOf 9 (some .int) 2 0 0 0 0 20 [.ref l0, .int l1, .int l2, .int l3, .int l4, .int l5, .null, .null, .null] [] S (eI T)) : ∀ (n : Nat) (S : Mm) (l0 : Nat) (l1 : Int32) (l2 : Int32) (l3 : Int32) (l4 : Int32) (l5 : Int32) (l6 : Int32) (l7 : Int32) (l8 : Int32) (T : (Int32 × Mm)), f_X12_mostOf_86 k4 k20 n S l0 l1 l2 l3 l4 l5 l6 l7 l8 = some T → Sat G l yX12_mostOf cX12_mostOf 9 (some .int) 2 0 0 0 0 86 [.ref l0, .int l1, .int l2, .int l3, .int l4, .int l5, .int l6, .int l7, .int l8] [] S (eI T) := by
  intro n
  induction n with
  | zero =>
    intro S l0 l1 l2 l3 l4 l5 l6 l7 l8 T hf
    rw [f_X12_mostOf_86] at hf
    cases hf
  | succ n ih =>
    intro S l0 l1 l2 l3 l4 l5 l6 l7 l8 T hf
    rw [f_X12_mostOf_86] at hf
    refine r_iload dX12_mostOf_86 rfl ?_
    refine r_aload_n dX12_mostOf_88 rfl ?_
    obtain ⟨x1, h2, hf⟩ := bnd hf
    refine r_getI dX12_mostOf_89 fs12_77_11 rfl h2 ?_
    refine r_icmp_ge (tgt := 149) dX12_mostOf_92 (by decide) (fun c3 => ?_) (fun c3 => ?_)
    · replace hf := (if_pos c3).symm.trans hf
      refine r_lvs (lv' := [.ref l0, .int l1, .int l2, .int l3, .int l4, .int l5, .null, .int l7, .null]) ⟨Or.inl rfl, Or.inl rfl, Or.inl rfl, Or.inl rfl, Or.inl rfl, Or.inl rfl, Or.inr rfl, Or.inl rfl, Or.inr rfl, trivial⟩ ?_
      exact t_X12_mostOf_149 k4 hk4 k20 hk20 _ _ _ _ _ _ _ _ _ hf
    · replace hf := (if_neg c3).symm.trans hf
      refine r_iload dX12_mostOf_95 rfl ?_
      refine r_if_ne (tgt := 149) dX12_mostOf_97 (by decide) (fun c4 => ?_) (fun c4 => ?_)
      · replace hf := (if_neg c4).symm.trans hf
        refine r_lvs (lv' := [.ref l0, .int l1, .int l2, .int l3, .int l4, .int l5, .null, .int l7, .null]) ⟨Or.inl rfl, Or.inl rfl, Or.inl rfl, Or.inl rfl, Or.inl rfl, Or.inl rfl, Or.inr rfl, Or.inl rfl, Or.inr rfl, trivial⟩ ?_
        exact t_X12_mostOf_149 k4 hk4 k20 hk20 _ _ _ _ _ _ _ _ _ hf
      · replace hf := (if_pos c4).symm.trans hf
        refine r_iload dX12_mostOf_100 rfl ?_
        refine r_if_ne (tgt := 136) dX12_mostOf_102 (by decide) (fun c5 => ?_) (fun c5 => ?_)
        · replace hf := (if_neg c5).symm.trans hf
          refine r_lvs (lv' := [.ref l0, .int l1, .int l2, .int l3, .int l4, .int l5, .int l6, .null, .int l8]) ⟨Or.inl rfl, Or.inl rfl, Or.inl rfl, Or.inl rfl, Or.inl rfl, Or.inl rfl, Or.inl rfl, Or.inr rfl, Or.inl rfl, trivial⟩ ?_
          exact t_X12_mostOf_136 k4 hk4 k20 hk20 (f_X12_mostOf_86 k4 k20 n) ih _ _ _ _ _ _ _ _ _ _ hf
        · replace hf := (if_pos c5).symm.trans hf
          refine r_iload_n dX12_mostOf_105 rfl ?_
          refine r_iload dX12_mostOf_106 rfl ?_
          refine r_ishr dX12_mostOf_108 ?_
          refine r_iconst (v := 1) dX12_mostOf_109 (by decide) ?_
          refine r_iand dX12_mostOf_110 ?_
          refine r_iconst (v := 1) dX12_mostOf_111 (by decide) ?_
          refine r_icmp_ne (tgt := 140) dX12_mostOf_112 (by decide) (fun c6 => ?_) (fun c6 => ?_)
          · replace hf := (if_neg c6).symm.trans hf
            refine r_lvs (lv' := [.ref l0, .int l1, .int l2, .int l3, .int l4, .int l5, .int l6, .null, .int l8]) ⟨Or.inl rfl, Or.inl rfl, Or.inl rfl, Or.inl rfl, Or.inl rfl, Or.inl rfl, Or.inl rfl, Or.inr rfl, Or.inl rfl, trivial⟩ ?_
            exact t_X12_mostOf_140 k4 hk4 k20 hk20 (f_X12_mostOf_86 k4 k20 n) ih _ _ _ _ _ _ _ _ _ _ hf
          · replace hf := (if_pos c6).symm.trans hf
            refine r_aload_n dX12_mostOf_115 rfl ?_
            refine r_iload dX12_mostOf_116 rfl ?_
            refine r_iload_n dX12_mostOf_118 rfl ?_
            obtain ⟨q7, h8, hf⟩ := bnd hf
            refine r_callVi (st := []) (as := [.int l8, .int l1]) dX12_mostOf_119 ms_X12_wants ⟨rfl, w4_236, w4_238, w0_39⟩ (ok_X12_wants h8) (c_X12_wants h8) rfl ⟨by omega, by omega⟩ (Nat.le_of_ble_eq_true rfl) (by decide) (by decide) rfl ?_
            refine r_if_ne (tgt := 140) dX12_mostOf_122 (by decide) (fun c9 => ?_) (fun c9 => ?_)
            · replace hf := (if_neg c9).symm.trans hf
              refine r_lvs (lv' := [.ref l0, .int l1, .int l2, .int l3, .int l4, .int l5, .int l6, .null, .int l8]) ⟨Or.inl rfl, Or.inl rfl, Or.inl rfl, Or.inl rfl, Or.inl rfl, Or.inl rfl, Or.inl rfl, Or.inr rfl, Or.inl rfl, trivial⟩ ?_
              exact t_X12_mostOf_140 k4 hk4 k20 hk20 (f_X12_mostOf_86 k4 k20 n) ih _ _ _ _ _ _ _ _ _ _ hf
            · replace hf := (if_pos c9).symm.trans hf
              refine r_aload_n dX12_mostOf_125 rfl ?_
              refine r_iload dX12_mostOf_126 rfl ?_
              refine r_iload dX12_mostOf_128 rfl ?_
              obtain ⟨q10, h11, hf⟩ := bnd hf
              refine r_callVi (st := []) (as := [.int l8, .int l5]) dX12_mostOf_130 ms_X12_isLawful ⟨rfl, w4_208, w4_210, w0_34⟩ (ok_X12_isLawful h11) (c_X12_isLawful h11) rfl ⟨by omega, by omega⟩ (Nat.le_of_ble_eq_true rfl) (by decide) (by decide) rfl ?_
              refine r_if_eq (tgt := 140) dX12_mostOf_133 (by decide) (fun c12 => ?_) (fun c12 => ?_)
              · replace hf := (if_pos c12).symm.trans hf
                refine r_lvs (lv' := [.ref l0, .int l1, .int l2, .int l3, .int l4, .int l5, .int l6, .null, .int l8]) ⟨Or.inl rfl, Or.inl rfl, Or.inl rfl, Or.inl rfl, Or.inl rfl, Or.inl rfl, Or.inl rfl, Or.inr rfl, Or.inl rfl, trivial⟩ ?_
                exact t_X12_mostOf_140 k4 hk4 k20 hk20 (f_X12_mostOf_86 k4 k20 n) ih _ _ _ _ _ _ _ _ _ _ hf
              · replace hf := (if_neg c12).symm.trans hf
                refine r_lvs (lv' := [.ref l0, .int l1, .int l2, .int l3, .int l4, .int l5, .int l6, .null, .int l8]) ⟨Or.inl rfl, Or.inl rfl, Or.inl rfl, Or.inl rfl, Or.inl rfl, Or.inl rfl, Or.inl rfl, Or.inr rfl, Or.inl rfl, trivial⟩ ?_
                exact t_X12_mostOf_136 k4 hk4 k20 hk20 (f_X12_mostOf_86 k4 k20 n) ih _ _ _ _ _ _ _ _ _ _ hf
set_option maxRecDepth 20000 in
theorem t_X12_mostOf_77 {G : Gt} {l : Launch} (k4 : Mm → Nat → Int32 → Int32 → Int32 → Option (Int32 × Mm)) (hk4 : ∀ (S : Mm) (l0 : Nat) (l1 : Int32) (l2 : Int32) (l3 : Int32) (T : (Int32 × Mm)), k4 S l0 l1 l2 l3 = some T → Sat G l yX12_mostOf cX12_mostOf 9 (some .int) 2 0 0 0 0 4 [.ref l0, .int l1, .int l2, .int l3, .null, .null, .null, .null, .null] [] S (eI T)) (k20 : Mm → Nat → Int32 → Int32 → Int32 → Int32 → Int32 → Option (Int32 × Mm)) (hk20 : ∀ (S : Mm) (l0 : Nat) (l1 : Int32) (l2 : Int32) (l3 : Int32) (l4 : Int32) (l5 : Int32) (T : (Int32 × Mm)), k20 S l0 l1 l2 l3 l4 l5 = some T → Sat G l yX12_mostOf cX12_mostOf 9 (some .int) 2 0 0 0 0 20 [.ref l0, .int l1, .int l2, .int l3, .int l4, .int l5, .null, .null, .null] [] S (eI T)) (S : Mm) (l0 : Nat) (l1 : Int32) (l2 : Int32) (l3 : Int32) (l5 : Int32) (l6 : Int32) (s0 : Int32) (s1 : Int32) (T : (Int32 × Mm)) (hf : f_X12_mostOf_77 k4 k20 S l0 l1 l2 l3 l5 l6 s0 s1 = some T) : Sat G l yX12_mostOf cX12_mostOf 9 (some .int) 2 0 0 0 0 77 [.ref l0, .int l1, .int l2, .int l3, .null, .int l5, .int l6, .null, .null] [.int s1, .int s0] S (eI T) := by
  unfold f_X12_mostOf_77 at hf
  refine r_iadd dX12_mostOf_77 ?_
  refine r_istore (lv' := [.ref l0, .int l1, .int l2, .int l3, .int (s0 + s1), .int l5, .int l6, .null, .null]) dX12_mostOf_78 (by decide) rfl rfl ?_
  refine r_iconst (v := 0) dX12_mostOf_80 (by decide) ?_
  refine r_istore (lv' := [.ref l0, .int l1, .int l2, .int l3, .int (s0 + s1), .int l5, .int l6, .int 0, .null]) dX12_mostOf_81 (by decide) rfl rfl ?_
  refine r_iconst (v := 0) dX12_mostOf_83 (by decide) ?_
  refine r_istore (lv' := [.ref l0, .int l1, .int l2, .int l3, .int (s0 + s1), .int l5, .int l6, .int 0, .int 0]) dX12_mostOf_84 (by decide) rfl rfl ?_
  exact t_X12_mostOf_86 k4 hk4 k20 hk20 FU _ _ _ _ _ _ _ _ _ _ _ hf
set_option maxRecDepth 20000 in
theorem t_X12_mostOf_76 {G : Gt} {l : Launch} (k4 : Mm → Nat → Int32 → Int32 → Int32 → Option (Int32 × Mm)) (hk4 : ∀ (S : Mm) (l0 : Nat) (l1 : Int32) (l2 : Int32) (l3 : Int32) (T : (Int32 × Mm)), k4 S l0 l1 l2 l3 = some T → Sat G l yX12_mostOf cX12_mostOf 9 (some .int) 2 0 0 0 0 4 [.ref l0, .int l1, .int l2, .int l3, .null, .null, .null, .null, .null] [] S (eI T)) (k20 : Mm → Nat → Int32 → Int32 → Int32 → Int32 → Int32 → Option (Int32 × Mm)) (hk20 : ∀ (S : Mm) (l0 : Nat) (l1 : Int32) (l2 : Int32) (l3 : Int32) (l4 : Int32) (l5 : Int32) (T : (Int32 × Mm)), k20 S l0 l1 l2 l3 l4 l5 = some T → Sat G l yX12_mostOf cX12_mostOf 9 (some .int) 2 0 0 0 0 20 [.ref l0, .int l1, .int l2, .int l3, .int l4, .int l5, .null, .null, .null] [] S (eI T)) (S : Mm) (l0 : Nat) (l1 : Int32) (l2 : Int32) (l3 : Int32) (l5 : Int32) (l6 : Int32) (s0 : Int32) (T : (Int32 × Mm)) (hf : f_X12_mostOf_76 k4 k20 S l0 l1 l2 l3 l5 l6 s0 = some T) : Sat G l yX12_mostOf cX12_mostOf 9 (some .int) 2 0 0 0 0 76 [.ref l0, .int l1, .int l2, .int l3, .null, .int l5, .int l6, .null, .null] [.int s0] S (eI T) := by
  unfold f_X12_mostOf_76 at hf
  refine r_iconst (v := 0) dX12_mostOf_76 (by decide) ?_
  exact t_X12_mostOf_77 k4 hk4 k20 hk20 _ _ _ _ _ _ _ _ _ _ hf
set_option maxRecDepth 20000 in
theorem t_X12_mostOf_44 {G : Gt} {l : Launch} (k4 : Mm → Nat → Int32 → Int32 → Int32 → Option (Int32 × Mm)) (hk4 : ∀ (S : Mm) (l0 : Nat) (l1 : Int32) (l2 : Int32) (l3 : Int32) (T : (Int32 × Mm)), k4 S l0 l1 l2 l3 = some T → Sat G l yX12_mostOf cX12_mostOf 9 (some .int) 2 0 0 0 0 4 [.ref l0, .int l1, .int l2, .int l3, .null, .null, .null, .null, .null] [] S (eI T)) (k20 : Mm → Nat → Int32 → Int32 → Int32 → Int32 → Int32 → Option (Int32 × Mm)) (hk20 : ∀ (S : Mm) (l0 : Nat) (l1 : Int32) (l2 : Int32) (l3 : Int32) (l4 : Int32) (l5 : Int32) (T : (Int32 × Mm)), k20 S l0 l1 l2 l3 l4 l5 = some T → Sat G l yX12_mostOf cX12_mostOf 9 (some .int) 2 0 0 0 0 20 [.ref l0, .int l1, .int l2, .int l3, .int l4, .int l5, .null, .null, .null] [] S (eI T)) (S : Mm) (l0 : Nat) (l1 : Int32) (l2 : Int32) (l3 : Int32) (l4 : Int32) (l5 : Int32) (s0 : Int32) (T : (Int32 × Mm)) (hf : f_X12_mostOf_44 k4 k20 S l0 l1 l2 l3 l4 l5 s0 = some T) : Sat G l yX12_mostOf cX12_mostOf 9 (some .int) 2 0 0 0 0 44 [.ref l0, .int l1, .int l2, .int l3, .int l4, .int l5, .null, .null, .null] [.int s0] S (eI T) := by
  unfold f_X12_mostOf_44 at hf
  refine r_istore (lv' := [.ref l0, .int l1, .int l2, .int l3, .int l4, .int l5, .int s0, .null, .null]) dX12_mostOf_44 (by decide) rfl rfl ?_
  refine r_iload dX12_mostOf_46 rfl ?_
  refine r_iload dX12_mostOf_48 rfl ?_
  refine r_if_eq (tgt := 76) dX12_mostOf_50 (by decide) (fun c1 => ?_) (fun c1 => ?_)
  · replace hf := (if_pos c1).symm.trans hf
    refine r_lvs (lv' := [.ref l0, .int l1, .int l2, .int l3, .null, .int l5, .int s0, .null, .null]) ⟨Or.inl rfl, Or.inl rfl, Or.inl rfl, Or.inl rfl, Or.inr rfl, Or.inl rfl, Or.inl rfl, Or.inl rfl, Or.inl rfl, trivial⟩ ?_
    exact t_X12_mostOf_76 k4 hk4 k20 hk20 _ _ _ _ _ _ _ _ _ hf
  · replace hf := (if_neg c1).symm.trans hf
    refine r_iload_n dX12_mostOf_53 rfl ?_
    refine r_iload dX12_mostOf_54 rfl ?_
    refine r_ishr dX12_mostOf_56 ?_
    refine r_iconst (v := 1) dX12_mostOf_57 (by decide) ?_
    refine r_iand dX12_mostOf_58 ?_
    refine r_if_ne (tgt := 76) dX12_mostOf_59 (by decide) (fun c2 => ?_) (fun c2 => ?_)
    · replace hf := (if_neg c2).symm.trans hf
      refine r_lvs (lv' := [.ref l0, .int l1, .int l2, .int l3, .null, .int l5, .int s0, .null, .null]) ⟨Or.inl rfl, Or.inl rfl, Or.inl rfl, Or.inl rfl, Or.inr rfl, Or.inl rfl, Or.inl rfl, Or.inl rfl, Or.inl rfl, trivial⟩ ?_
      exact t_X12_mostOf_76 k4 hk4 k20 hk20 _ _ _ _ _ _ _ _ _ hf
    · replace hf := (if_pos c2).symm.trans hf
      refine r_aload_n dX12_mostOf_62 rfl ?_
      obtain ⟨x3, h4, hf⟩ := bnd hf
      refine r_getR dX12_mostOf_63 fs12_34_11 rfl h4 ?_
      refine r_iconst (v := 3) dX12_mostOf_66 (by decide) ?_
      refine r_iload dX12_mostOf_67 rfl ?_
      refine r_imul dX12_mostOf_69 ?_
      refine r_iload_n dX12_mostOf_70 rfl ?_
      refine r_iadd dX12_mostOf_71 ?_
      obtain ⟨x5, h6, hf⟩ := bnd hf
      refine r_iaload dX12_mostOf_72 h6 ?_
      refine r_goto (tgt := 77) dX12_mostOf_73 (by decide) ?_
      refine r_lvs (lv' := [.ref l0, .int l1, .int l2, .int l3, .null, .int l5, .int s0, .null, .null]) ⟨Or.inl rfl, Or.inl rfl, Or.inl rfl, Or.inl rfl, Or.inr rfl, Or.inl rfl, Or.inl rfl, Or.inl rfl, Or.inl rfl, trivial⟩ ?_
      exact t_X12_mostOf_77 k4 hk4 k20 hk20 _ _ _ _ _ _ _ _ _ _ hf
set_option maxRecDepth 20000 in
theorem t_X12_mostOf_192 {G : Gt} {l : Launch} (k4 : Mm → Nat → Int32 → Int32 → Int32 → Option (Int32 × Mm)) (hk4 : ∀ (S : Mm) (l0 : Nat) (l1 : Int32) (l2 : Int32) (l3 : Int32) (T : (Int32 × Mm)), k4 S l0 l1 l2 l3 = some T → Sat G l yX12_mostOf cX12_mostOf 9 (some .int) 2 0 0 0 0 4 [.ref l0, .int l1, .int l2, .int l3, .null, .null, .null, .null, .null] [] S (eI T)) (S : Mm) (l0 : Nat) (l1 : Int32) (l3 : Int32) (s0 : Int32) (T : (Int32 × Mm)) (hf : f_X12_mostOf_192 k4 S l0 l1 l3 s0 = some T) : Sat G l yX12_mostOf cX12_mostOf 9 (some .int) 2 0 0 0 0 192 [.ref l0, .int l1, .null, .int l3, .null, .null, .null, .null, .null] [.int s0] S (eI T) := by
  unfold f_X12_mostOf_192 at hf
  refine r_istore_n (lv' := [.ref l0, .int l1, .int s0, .int l3, .null, .null, .null, .null, .null]) dX12_mostOf_192 (by decide) rfl rfl ?_
  refine r_iinc (v := 1) (lv' := [.ref l0, .int l1, .int s0, .int (l3 + 1), .null, .null, .null, .null, .null]) dX12_mostOf_193 rfl (by decide) (by decide) rfl rfl ?_
  refine r_goto (tgt := 4) dX12_mostOf_196 (by decide) ?_
  exact hk4 _ _ _ _ _ _ hf
set_option maxRecDepth 20000 in
theorem t_X12_mostOf_186 {G : Gt} {l : Launch} (k4 : Mm → Nat → Int32 → Int32 → Int32 → Option (Int32 × Mm)) (hk4 : ∀ (S : Mm) (l0 : Nat) (l1 : Int32) (l2 : Int32) (l3 : Int32) (T : (Int32 × Mm)), k4 S l0 l1 l2 l3 = some T → Sat G l yX12_mostOf cX12_mostOf 9 (some .int) 2 0 0 0 0 4 [.ref l0, .int l1, .int l2, .int l3, .null, .null, .null, .null, .null] [] S (eI T)) (S : Mm) (l0 : Nat) (l1 : Int32) (l3 : Int32) (l4 : Int32) (T : (Int32 × Mm)) (hf : f_X12_mostOf_186 k4 S l0 l1 l3 l4 = some T) : Sat G l yX12_mostOf cX12_mostOf 9 (some .int) 2 0 0 0 0 186 [.ref l0, .int l1, .null, .int l3, .int l4, .null, .null, .null, .null] [] S (eI T) := by
  unfold f_X12_mostOf_186 at hf
  refine r_iload dX12_mostOf_186 rfl ?_
  refine r_goto (tgt := 192) dX12_mostOf_188 (by decide) ?_
  refine r_lvs (lv' := [.ref l0, .int l1, .null, .int l3, .null, .null, .null, .null, .null]) ⟨Or.inl rfl, Or.inl rfl, Or.inl rfl, Or.inl rfl, Or.inr rfl, Or.inl rfl, Or.inl rfl, Or.inl rfl, Or.inl rfl, trivial⟩ ?_
  exact t_X12_mostOf_192 k4 hk4 _ _ _ _ _ _ hf
set_option maxRecDepth 20000 in
theorem t_X12_mostOf_20 {G : Gt} {l : Launch} (k4 : Mm → Nat → Int32 → Int32 → Int32 → Option (Int32 × Mm)) (hk4 : ∀ (S : Mm) (l0 : Nat) (l1 : Int32) (l2 : Int32) (l3 : Int32) (T : (Int32 × Mm)), k4 S l0 l1 l2 l3 = some T → Sat G l yX12_mostOf cX12_mostOf 9 (some .int) 2 0 0 0 0 4 [.ref l0, .int l1, .int l2, .int l3, .null, .null, .null, .null, .null] [] S (eI T)) : ∀ (n : Nat) (S : Mm) (l0 : Nat) (l1 : Int32) (l2 : Int32) (l3 : Int32) (l4 : Int32) (l5 : Int32) (T : (Int32 × Mm)), f_X12_mostOf_20 k4 n S l0 l1 l2 l3 l4 l5 = some T → Sat G l yX12_mostOf cX12_mostOf 9 (some .int) 2 0 0 0 0 20 [.ref l0, .int l1, .int l2, .int l3, .int l4, .int l5, .null, .null, .null] [] S (eI T) := by
  intro n
  induction n with
  | zero =>
    intro S l0 l1 l2 l3 l4 l5 T hf
    rw [f_X12_mostOf_20] at hf
    cases hf
  | succ n ih =>
    intro S l0 l1 l2 l3 l4 l5 T hf
    rw [f_X12_mostOf_20] at hf
    refine r_iload dX12_mostOf_20 rfl ?_
    refine r_aload_n dX12_mostOf_22 rfl ?_
    obtain ⟨x1, h2, hf⟩ := bnd hf
    refine r_getI dX12_mostOf_23 fs12_77_11 rfl h2 ?_
    refine r_icmp_ge (tgt := 176) dX12_mostOf_26 (by decide) (fun c3 => ?_) (fun c3 => ?_)
    · replace hf := (if_pos c3).symm.trans hf
      refine r_iload_n dX12_mostOf_176 rfl ?_
      refine r_if_lt (tgt := 186) dX12_mostOf_177 (by decide) (fun c4 => ?_) (fun c4 => ?_)
      · replace hf := (if_pos c4).symm.trans hf
        refine r_lvs (lv' := [.ref l0, .int l1, .null, .int l3, .int l4, .null, .null, .null, .null]) ⟨Or.inl rfl, Or.inl rfl, Or.inr rfl, Or.inl rfl, Or.inl rfl, Or.inr rfl, Or.inl rfl, Or.inl rfl, Or.inl rfl, trivial⟩ ?_
        exact t_X12_mostOf_186 k4 hk4 _ _ _ _ _ _ hf
      · replace hf := (if_neg c4).symm.trans hf
        refine r_iload dX12_mostOf_180 rfl ?_
        refine r_iload_n dX12_mostOf_182 rfl ?_
        refine r_icmp_ge (tgt := 191) dX12_mostOf_183 (by decide) (fun c5 => ?_) (fun c5 => ?_)
        · replace hf := (if_pos c5).symm.trans hf
          refine r_iload_n dX12_mostOf_191 rfl ?_
          refine r_lvs (lv' := [.ref l0, .int l1, .null, .int l3, .null, .null, .null, .null, .null]) ⟨Or.inl rfl, Or.inl rfl, Or.inr rfl, Or.inl rfl, Or.inr rfl, Or.inr rfl, Or.inl rfl, Or.inl rfl, Or.inl rfl, trivial⟩ ?_
          exact t_X12_mostOf_192 k4 hk4 _ _ _ _ _ _ hf
        · replace hf := (if_neg c5).symm.trans hf
          refine r_lvs (lv' := [.ref l0, .int l1, .null, .int l3, .int l4, .null, .null, .null, .null]) ⟨Or.inl rfl, Or.inl rfl, Or.inr rfl, Or.inl rfl, Or.inl rfl, Or.inr rfl, Or.inl rfl, Or.inl rfl, Or.inl rfl, trivial⟩ ?_
          exact t_X12_mostOf_186 k4 hk4 _ _ _ _ _ _ hf
    · replace hf := (if_neg c3).symm.trans hf
      refine r_aload_n dX12_mostOf_29 rfl ?_
      refine r_iload dX12_mostOf_30 rfl ?_
      refine r_iload_n dX12_mostOf_32 rfl ?_
      obtain ⟨q6, h7, hf⟩ := bnd hf
      refine r_callVi (st := []) (as := [.int l5, .int l1]) dX12_mostOf_33 ms_X12_wants ⟨rfl, w4_236, w4_238, w0_39⟩ (ok_X12_wants h7) (c_X12_wants h7) rfl ⟨by omega, by omega⟩ (Nat.le_of_ble_eq_true rfl) (by decide) (by decide) rfl ?_
      refine r_if_ne (tgt := 43) dX12_mostOf_36 (by decide) (fun c8 => ?_) (fun c8 => ?_)
      · replace hf := (if_neg c8).symm.trans hf
        refine r_iconst (v := 0) dX12_mostOf_43 (by decide) ?_
        exact t_X12_mostOf_44 k4 hk4 (f_X12_mostOf_20 k4 n) ih _ _ _ _ _ _ _ _ _ hf
      · replace hf := (if_pos c8).symm.trans hf
        refine r_iconst (v := 1) dX12_mostOf_39 (by decide) ?_
        refine r_goto (tgt := 44) dX12_mostOf_40 (by decide) ?_
        exact t_X12_mostOf_44 k4 hk4 (f_X12_mostOf_20 k4 n) ih _ _ _ _ _ _ _ _ _ hf
set_option maxRecDepth 20000 in
theorem t_X12_mostOf_4 {G : Gt} {l : Launch} : ∀ (n : Nat) (S : Mm) (l0 : Nat) (l1 : Int32) (l2 : Int32) (l3 : Int32) (T : (Int32 × Mm)), f_X12_mostOf_4 n S l0 l1 l2 l3 = some T → Sat G l yX12_mostOf cX12_mostOf 9 (some .int) 2 0 0 0 0 4 [.ref l0, .int l1, .int l2, .int l3, .null, .null, .null, .null, .null] [] S (eI T) := by
  intro n
  induction n with
  | zero =>
    intro S l0 l1 l2 l3 T hf
    rw [f_X12_mostOf_4] at hf
    cases hf
  | succ n ih =>
    intro S l0 l1 l2 l3 T hf
    rw [f_X12_mostOf_4] at hf
    refine r_iload_n dX12_mostOf_4 rfl ?_
    refine r_iconst (v := 1) dX12_mostOf_5 (by decide) ?_
    refine r_aload_n dX12_mostOf_6 rfl ?_
    obtain ⟨x1, h2, hf⟩ := bnd hf
    refine r_getI dX12_mostOf_7 fs12_77_11 rfl h2 ?_
    refine r_ishl dX12_mostOf_10 ?_
    refine r_icmp_ge (tgt := 199) dX12_mostOf_11 (by decide) (fun c3 => ?_) (fun c3 => ?_)
    · replace hf := (if_pos c3).symm.trans hf
      refine r_iload_n dX12_mostOf_199 rfl ?_
      have hz := congrArg eI (Option.some.inj hf)
      exact r_ireturn dX12_mostOf_200 rfl (Nat.le_of_ble_eq_true rfl) (Nat.le_of_ble_eq_true rfl) hz
    · replace hf := (if_neg c3).symm.trans hf
      refine r_iconst (v := 0) dX12_mostOf_14 (by decide) ?_
      refine r_istore (lv' := [.ref l0, .int l1, .int l2, .int l3, .int 0, .null, .null, .null, .null]) dX12_mostOf_15 (by decide) rfl rfl ?_
      refine r_iconst (v := 0) dX12_mostOf_17 (by decide) ?_
      refine r_istore (lv' := [.ref l0, .int l1, .int l2, .int l3, .int 0, .int 0, .null, .null, .null]) dX12_mostOf_18 (by decide) rfl rfl ?_
      exact t_X12_mostOf_20 (f_X12_mostOf_4 n) ih FU _ _ _ _ _ _ _ _ hf
set_option maxRecDepth 20000 in
theorem ok_X12_mostOf {S : Mm} {l0 : Nat} {l1 : Int32} {T : (Int32 × Mm)} (hf : f_X12_mostOf S l0 l1 = some T) : okc S l0 11 = true := (oif hf).1
set_option maxRecDepth 20000 in
theorem c_X12_mostOf {G : Gt} {l : Launch} {S : Mm} {l0 : Nat} {l1 : Int32} {T : (Int32 × Mm)} (hf : f_X12_mostOf S l0 l1 = some T) : CC G l yX12_mostOf cX12_mostOf 9 (some .int) 2 0 0 [.ref l0, .int l1] S (eI T) := by
  unfold f_X12_mostOf at hf
  replace hf := (oif hf).2
  refine r_body (by decide) rfl (Nat.le_of_ble_eq_true rfl) (by simp) ?_
  refine r_iconst (v := (-1)) dX12_mostOf_0 (by decide) ?_
  refine r_istore_n (lv' := [.ref l0, .int l1, .int (-1), .null, .null, .null, .null, .null, .null]) dX12_mostOf_1 (by decide) rfl rfl ?_
  refine r_iconst (v := 0) dX12_mostOf_2 (by decide) ?_
  refine r_istore_n (lv' := [.ref l0, .int l1, .int (-1), .int 0, .null, .null, .null, .null, .null]) dX12_mostOf_3 (by decide) rfl rfl ?_
  exact t_X12_mostOf_4 FU _ _ _ _ _ _ hf
def f_X12_most_25 (S : Mm) (s0 : Int32) : Option (Int32 × Mm) := some (s0, S)
def f_X12_most (S : Mm) (l0 : Nat) (l1 : Int32) : Option (Int32 × Mm) := if okc S l0 11 = true then (pI S 11 l0 15 0).bind fun S1 => (f_X12_isGood S1 l1).bind fun q3 => (if q3.1 = 0 then (f_X12_refuse q3.2 l0 (-1)).bind fun q6 => f_X12_most_25 q6.2 q6.1 else (f_X12_mostOf q3.2 l0 l1).bind fun q8 => f_X12_most_25 q8.2 q8.1) else none
set_option maxRecDepth 20000 in
theorem t_X12_most_25 {G : Gt} {l : Launch} (S : Mm) (s0 : Int32) (T : (Int32 × Mm)) (hf : f_X12_most_25 S s0 = some T) : Sat G l yX12_most cX12_most 2 (some .int) 3 0 0 0 0 25 [.null, .null] [.int s0] S (eI T) := by
  unfold f_X12_most_25 at hf
  have hz := congrArg eI (Option.some.inj hf)
  exact r_ireturn dX12_most_25 rfl (Nat.le_of_ble_eq_true rfl) (Nat.le_of_ble_eq_true rfl) hz
set_option maxRecDepth 20000 in
theorem ok_X12_most {S : Mm} {l0 : Nat} {l1 : Int32} {T : (Int32 × Mm)} (hf : f_X12_most S l0 l1 = some T) : okc S l0 11 = true := (oif hf).1
set_option maxRecDepth 20000 in
theorem c_X12_most {G : Gt} {l : Launch} {S : Mm} {l0 : Nat} {l1 : Int32} {T : (Int32 × Mm)} (hf : f_X12_most S l0 l1 = some T) : CC G l yX12_most cX12_most 2 (some .int) 3 0 0 [.ref l0, .int l1] S (eI T) := by
  unfold f_X12_most at hf
  replace hf := (oif hf).2
  refine r_body (by decide) rfl (Nat.le_of_ble_eq_true rfl) (by simp) ?_
  refine r_aload_n dX12_most_0 rfl ?_
  refine r_iconst (v := 0) dX12_most_1 (by decide) ?_
  obtain ⟨S1, h2, hf⟩ := bnd hf
  refine r_putI dX12_most_2 fs12_73_11 rfl h2 ?_
  refine r_iload_n dX12_most_5 rfl ?_
  obtain ⟨q3, h4, hf⟩ := bnd hf
  refine r_callSi (st := []) (as := [.int l1]) dX12_most_6 ms_X12_isGood ⟨w4_192, w4_193⟩ (c_X12_isGood h4) rfl ⟨by omega, by omega⟩ (Nat.le_of_ble_eq_true rfl) (by decide) (by decide) rfl ?_
  refine r_if_eq (tgt := 20) dX12_most_9 (by decide) (fun c5 => ?_) (fun c5 => ?_)
  · replace hf := (if_pos c5).symm.trans hf
    refine r_aload_n dX12_most_20 rfl ?_
    refine r_iconst (v := (-1)) dX12_most_21 (by decide) ?_
    obtain ⟨q6, h7, hf⟩ := bnd hf
    refine r_callVi (st := []) (as := [.int (-1)]) dX12_most_22 ms_X12_refuse ⟨rfl, w4_119, w4_121, w0_21⟩ (ok_X12_refuse h7) (c_X12_refuse h7) rfl ⟨by omega, by omega⟩ (Nat.le_of_ble_eq_true rfl) (by decide) (by decide) rfl ?_
    refine r_lvs (lv' := [.null, .null]) ⟨Or.inr rfl, Or.inr rfl, trivial⟩ ?_
    exact t_X12_most_25 _ _ _ hf
  · replace hf := (if_neg c5).symm.trans hf
    refine r_aload_n dX12_most_12 rfl ?_
    refine r_iload_n dX12_most_13 rfl ?_
    obtain ⟨q8, h9, hf⟩ := bnd hf
    refine r_callVi (st := []) (as := [.int l1]) dX12_most_14 ms_X12_mostOf ⟨rfl, w5_56, w5_58, w0_46⟩ (ok_X12_mostOf h9) (c_X12_mostOf h9) rfl ⟨by omega, by omega⟩ (Nat.le_of_ble_eq_true rfl) (by decide) (by decide) rfl ?_
    refine r_goto (tgt := 25) dX12_most_17 (by decide) ?_
    refine r_lvs (lv' := [.null, .null]) ⟨Or.inr rfl, Or.inr rfl, trivial⟩ ?_
    exact t_X12_most_25 _ _ _ hf
def f_X12_cellar_45 (S : Mm) (l0 : Nat) (l1 : Int32) (l2 : Int32) (l3 : Int32) (s0 : Int32) : Option (Int32 × Mm) := (if 0 ≤ s0 then (f_X12_mostOf S l0 l2).bind fun q2 => (gR q2.2 11 l0 4).bind fun x4 => (aI q2.2 x4 l1).bind fun x6 => (gR q2.2 11 l0 5).bind fun x8 => (aI q2.2 x8 l1).bind fun x10 => (gR q2.2 11 l0 4).bind fun x12 => (aS q2.2 x12 l1 1).bind fun S14 => (gR S14 11 l0 5).bind fun x16 => (aS S14 x16 l1 l3).bind fun S18 => (f_X12_mostOf S18 l0 l2).bind fun q20 => (gR q20.2 11 l0 4).bind fun x22 => (aS q20.2 x22 l1 x6).bind fun S24 => (gR S24 11 l0 5).bind fun x26 => (aS S24 x26 l1 x10).bind fun S28 => some ((q20.1 - q2.1), S28) else (f_X12_refuse S l0 s0).bind fun q30 => some ((1000000000 - q30.1), q30.2))
def f_X12_cellar_20 (S : Mm) (l0 : Nat) (l1 : Int32) (l2 : Int32) (l3 : Int32) : Option (Int32 × Mm) := f_X12_cellar_45 S l0 l1 l2 l3 (-1)
def f_X12_cellar (S : Mm) (l0 : Nat) (l1 : Int32) (l2 : Int32) (l3 : Int32) : Option (Int32 × Mm) := if okc S l0 11 = true then (pI S 11 l0 15 0).bind fun S1 => (f_X12_isHouse S1 l0 l1).bind fun q3 => (if q3.1 = 0 then f_X12_cellar_20 q3.2 l0 l1 l2 l3 else (f_X12_isGood q3.2 l2).bind fun q6 => (if q6.1 = 0 then f_X12_cellar_20 q6.2 l0 l1 l2 l3 else (if 0 ≤ l3 then (if l3 ≤ 9 then f_X12_cellar_45 q6.2 l0 l1 l2 l3 0 else f_X12_cellar_45 q6.2 l0 l1 l2 l3 (-6)) else f_X12_cellar_45 q6.2 l0 l1 l2 l3 (-4)))) else none
set_option maxRecDepth 20000 in
theorem t_X12_cellar_45 {G : Gt} {l : Launch} (S : Mm) (l0 : Nat) (l1 : Int32) (l2 : Int32) (l3 : Int32) (s0 : Int32) (T : (Int32 × Mm)) (hf : f_X12_cellar_45 S l0 l1 l2 l3 s0 = some T) : Sat G l yX12_cellar cX12_cellar 9 (some .int) 3 0 0 0 0 45 [.ref l0, .int l1, .int l2, .int l3, .null, .null, .null, .null, .null] [.int s0] S (eI T) := by
  unfold f_X12_cellar_45 at hf
  refine r_istore (lv' := [.ref l0, .int l1, .int l2, .int l3, .int s0, .null, .null, .null, .null]) dX12_cellar_45 (by decide) rfl rfl ?_
  refine r_iload dX12_cellar_47 rfl ?_
  refine r_if_ge (tgt := 62) dX12_cellar_49 (by decide) (fun c1 => ?_) (fun c1 => ?_)
  · replace hf := (if_pos c1).symm.trans hf
    refine r_aload_n dX12_cellar_62 rfl ?_
    refine r_iload_n dX12_cellar_63 rfl ?_
    obtain ⟨q2, h3, hf⟩ := bnd hf
    refine r_callVi (st := []) (as := [.int l2]) dX12_cellar_64 ms_X12_mostOf ⟨rfl, w5_56, w5_58, w0_46⟩ (ok_X12_mostOf h3) (c_X12_mostOf h3) rfl ⟨by omega, by omega⟩ (Nat.le_of_ble_eq_true rfl) (by decide) (by decide) rfl ?_
    refine r_istore (lv' := [.ref l0, .int l1, .int l2, .int l3, .int s0, .int q2.1, .null, .null, .null]) dX12_cellar_67 (by decide) rfl rfl ?_
    refine r_aload_n dX12_cellar_69 rfl ?_
    obtain ⟨x4, h5, hf⟩ := bnd hf
    refine r_getR dX12_cellar_70 fs12_7_11 rfl h5 ?_
    refine r_iload_n dX12_cellar_73 rfl ?_
    obtain ⟨x6, h7, hf⟩ := bnd hf
    refine r_iaload dX12_cellar_74 h7 ?_
    refine r_istore (lv' := [.ref l0, .int l1, .int l2, .int l3, .int s0, .int q2.1, .int x6, .null, .null]) dX12_cellar_75 (by decide) rfl rfl ?_
    refine r_aload_n dX12_cellar_77 rfl ?_
    obtain ⟨x8, h9, hf⟩ := bnd hf
    refine r_getR dX12_cellar_78 fs12_13_11 rfl h9 ?_
    refine r_iload_n dX12_cellar_81 rfl ?_
    obtain ⟨x10, h11, hf⟩ := bnd hf
    refine r_iaload dX12_cellar_82 h11 ?_
    refine r_istore (lv' := [.ref l0, .int l1, .int l2, .int l3, .int s0, .int q2.1, .int x6, .int x10, .null]) dX12_cellar_83 (by decide) rfl rfl ?_
    refine r_aload_n dX12_cellar_85 rfl ?_
    obtain ⟨x12, h13, hf⟩ := bnd hf
    refine r_getR dX12_cellar_86 fs12_7_11 rfl h13 ?_
    refine r_iload_n dX12_cellar_89 rfl ?_
    refine r_iconst (v := 1) dX12_cellar_90 (by decide) ?_
    obtain ⟨S14, h15, hf⟩ := bnd hf
    refine r_iastore dX12_cellar_91 h15 ?_
    refine r_aload_n dX12_cellar_92 rfl ?_
    obtain ⟨x16, h17, hf⟩ := bnd hf
    refine r_getR dX12_cellar_93 fs12_13_11 rfl h17 ?_
    refine r_iload_n dX12_cellar_96 rfl ?_
    refine r_iload_n dX12_cellar_97 rfl ?_
    obtain ⟨S18, h19, hf⟩ := bnd hf
    refine r_iastore dX12_cellar_98 h19 ?_
    refine r_aload_n dX12_cellar_99 rfl ?_
    refine r_iload_n dX12_cellar_100 rfl ?_
    obtain ⟨q20, h21, hf⟩ := bnd hf
    refine r_callVi (st := []) (as := [.int l2]) dX12_cellar_101 ms_X12_mostOf ⟨rfl, w5_56, w5_58, w0_46⟩ (ok_X12_mostOf h21) (c_X12_mostOf h21) rfl ⟨by omega, by omega⟩ (Nat.le_of_ble_eq_true rfl) (by decide) (by decide) rfl ?_
    refine r_istore (lv' := [.ref l0, .int l1, .int l2, .int l3, .int s0, .int q2.1, .int x6, .int x10, .int q20.1]) dX12_cellar_104 (by decide) rfl rfl ?_
    refine r_aload_n dX12_cellar_106 rfl ?_
    obtain ⟨x22, h23, hf⟩ := bnd hf
    refine r_getR dX12_cellar_107 fs12_7_11 rfl h23 ?_
    refine r_iload_n dX12_cellar_110 rfl ?_
    refine r_iload dX12_cellar_111 rfl ?_
    obtain ⟨S24, h25, hf⟩ := bnd hf
    refine r_iastore dX12_cellar_113 h25 ?_
    refine r_aload_n dX12_cellar_114 rfl ?_
    obtain ⟨x26, h27, hf⟩ := bnd hf
    refine r_getR dX12_cellar_115 fs12_13_11 rfl h27 ?_
    refine r_iload_n dX12_cellar_118 rfl ?_
    refine r_iload dX12_cellar_119 rfl ?_
    obtain ⟨S28, h29, hf⟩ := bnd hf
    refine r_iastore dX12_cellar_121 h29 ?_
    refine r_iload dX12_cellar_122 rfl ?_
    refine r_iload dX12_cellar_124 rfl ?_
    refine r_isub dX12_cellar_126 ?_
    have hz := congrArg eI (Option.some.inj hf)
    exact r_ireturn dX12_cellar_127 rfl (Nat.le_of_ble_eq_true rfl) (Nat.le_of_ble_eq_true rfl) hz
  · replace hf := (if_neg c1).symm.trans hf
    refine r_ldc (v := 1000000000) dX12_cellar_52 w5_64 ?_
    refine r_aload_n dX12_cellar_54 rfl ?_
    refine r_iload dX12_cellar_55 rfl ?_
    obtain ⟨q30, h31, hf⟩ := bnd hf
    refine r_callVi (st := [.int 1000000000]) (as := [.int s0]) dX12_cellar_57 ms_X12_refuse ⟨rfl, w4_119, w4_121, w0_21⟩ (ok_X12_refuse h31) (c_X12_refuse h31) rfl ⟨by omega, by omega⟩ (Nat.le_of_ble_eq_true rfl) (by decide) (by decide) rfl ?_
    refine r_isub dX12_cellar_60 ?_
    have hz := congrArg eI (Option.some.inj hf)
    exact r_ireturn dX12_cellar_61 rfl (Nat.le_of_ble_eq_true rfl) (Nat.le_of_ble_eq_true rfl) hz
set_option maxRecDepth 20000 in
theorem t_X12_cellar_20 {G : Gt} {l : Launch} (S : Mm) (l0 : Nat) (l1 : Int32) (l2 : Int32) (l3 : Int32) (T : (Int32 × Mm)) (hf : f_X12_cellar_20 S l0 l1 l2 l3 = some T) : Sat G l yX12_cellar cX12_cellar 9 (some .int) 3 0 0 0 0 20 [.ref l0, .int l1, .int l2, .int l3, .null, .null, .null, .null, .null] [] S (eI T) := by
  unfold f_X12_cellar_20 at hf
  refine r_iconst (v := (-1)) dX12_cellar_20 (by decide) ?_
  refine r_goto (tgt := 45) dX12_cellar_21 (by decide) ?_
  exact t_X12_cellar_45 _ _ _ _ _ _ _ hf
set_option maxRecDepth 20000 in
theorem ok_X12_cellar {S : Mm} {l0 : Nat} {l1 : Int32} {l2 : Int32} {l3 : Int32} {T : (Int32 × Mm)} (hf : f_X12_cellar S l0 l1 l2 l3 = some T) : okc S l0 11 = true := (oif hf).1
set_option maxRecDepth 20000 in
theorem c_X12_cellar {G : Gt} {l : Launch} {S : Mm} {l0 : Nat} {l1 : Int32} {l2 : Int32} {l3 : Int32} {T : (Int32 × Mm)} (hf : f_X12_cellar S l0 l1 l2 l3 = some T) : CC G l yX12_cellar cX12_cellar 9 (some .int) 3 0 0 [.ref l0, .int l1, .int l2, .int l3] S (eI T) := by
  unfold f_X12_cellar at hf
  replace hf := (oif hf).2
  refine r_body (by decide) rfl (Nat.le_of_ble_eq_true rfl) (by simp) ?_
  refine r_aload_n dX12_cellar_0 rfl ?_
  refine r_iconst (v := 0) dX12_cellar_1 (by decide) ?_
  obtain ⟨S1, h2, hf⟩ := bnd hf
  refine r_putI dX12_cellar_2 fs12_73_11 rfl h2 ?_
  refine r_aload_n dX12_cellar_5 rfl ?_
  refine r_iload_n dX12_cellar_6 rfl ?_
  obtain ⟨q3, h4, hf⟩ := bnd hf
  refine r_callVi (st := []) (as := [.int l1]) dX12_cellar_7 ms_X12_isHouse ⟨rfl, w4_168, w4_170, w0_30⟩ (ok_X12_isHouse h4) (c_X12_isHouse h4) rfl ⟨by omega, by omega⟩ (Nat.le_of_ble_eq_true rfl) (by decide) (by decide) rfl ?_
  refine r_if_eq (tgt := 20) dX12_cellar_10 (by decide) (fun c5 => ?_) (fun c5 => ?_)
  · replace hf := (if_pos c5).symm.trans hf
    exact t_X12_cellar_20 _ _ _ _ _ _ hf
  · replace hf := (if_neg c5).symm.trans hf
    refine r_iload_n dX12_cellar_13 rfl ?_
    obtain ⟨q6, h7, hf⟩ := bnd hf
    refine r_callSi (st := []) (as := [.int l2]) dX12_cellar_14 ms_X12_isGood ⟨w4_192, w4_193⟩ (c_X12_isGood h7) rfl ⟨by omega, by omega⟩ (Nat.le_of_ble_eq_true rfl) (by decide) (by decide) rfl ?_
    refine r_if_ne (tgt := 24) dX12_cellar_17 (by decide) (fun c8 => ?_) (fun c8 => ?_)
    · replace hf := (if_neg c8).symm.trans hf
      refine r_iload_n dX12_cellar_24 rfl ?_
      refine r_if_ge (tgt := 33) dX12_cellar_25 (by decide) (fun c9 => ?_) (fun c9 => ?_)
      · replace hf := (if_pos c9).symm.trans hf
        refine r_iload_n dX12_cellar_33 rfl ?_
        refine r_bipush (v := 9) dX12_cellar_34 (by decide) ?_
        refine r_icmp_le (tgt := 44) dX12_cellar_36 (by decide) (fun c10 => ?_) (fun c10 => ?_)
        · replace hf := (if_pos c10).symm.trans hf
          refine r_iconst (v := 0) dX12_cellar_44 (by decide) ?_
          exact t_X12_cellar_45 _ _ _ _ _ _ _ hf
        · replace hf := (if_neg c10).symm.trans hf
          refine r_bipush (v := (-6)) dX12_cellar_39 (by decide) ?_
          refine r_goto (tgt := 45) dX12_cellar_41 (by decide) ?_
          exact t_X12_cellar_45 _ _ _ _ _ _ _ hf
      · replace hf := (if_neg c9).symm.trans hf
        refine r_bipush (v := (-4)) dX12_cellar_28 (by decide) ?_
        refine r_goto (tgt := 45) dX12_cellar_30 (by decide) ?_
        exact t_X12_cellar_45 _ _ _ _ _ _ _ hf
    · replace hf := (if_pos c8).symm.trans hf
      exact t_X12_cellar_20 _ _ _ _ _ _ hf
def f_X12_isPath_77 (k22 : Mm → Nat → Int32 → Int32 → Int32 → Int32 → Int32 → Int32 → Int32 → Option (Int32 × Mm)) (S : Mm) (l0 : Nat) (l2 : Int32) (l3 : Int32) (l5 : Int32) (l7 : Int32) (l9 : Int32) (l10 : Int32) (s0 : Int32) : Option (Int32 × Mm) := k22 S l0 l2 l3 (l5 ||| (1 <<< (l10 &&& 31))) l10 l7 s0 (l9 + 1)
def f_X12_isPath_76 (k22 : Mm → Nat → Int32 → Int32 → Int32 → Int32 → Int32 → Int32 → Int32 → Option (Int32 × Mm)) (S : Mm) (l0 : Nat) (l2 : Int32) (l3 : Int32) (l5 : Int32) (l7 : Int32) (l9 : Int32) (l10 : Int32) : Option (Int32 × Mm) := f_X12_isPath_77 k22 S l0 l2 l3 l5 l7 l9 l10 0
def f_X12_isPath_118 (S : Mm) (s0 : Int32) : Option (Int32 × Mm) := (rB s0).bind fun x1 => some (x1, S)
def f_X12_isPath_117 (S : Mm)  : Option (Int32 × Mm) := f_X12_isPath_118 S 0
def f_X12_isPath_98 (S : Mm) (l0 : Nat) (l2 : Int32) (l6 : Int32) (l8 : Int32) : Option (Int32 × Mm) := (if l8 = 0 then f_X12_isPath_117 S else (f_X12_isLawful S l0 l6 l2).bind fun q2 => (if q2.1 = 0 then f_X12_isPath_117 q2.2 else f_X12_isPath_118 q2.2 1))
def f_X12_isPath_22 : Nat → Mm → Nat → Int32 → Int32 → Int32 → Int32 → Int32 → Int32 → Int32 → Option (Int32 × Mm)
  | 0, _, _, _, _, _, _, _, _, _ => none
  | n + 1, S, l0, l2, l3, l5, l6, l7, l8, l9 => (if l3 ≤ l9 then f_X12_isPath_98 S l0 l2 l6 l8 else (if l8 = 0 then f_X12_isPath_98 S l0 l2 l6 l8 else (gI S 11 l0 0).bind fun x3 => (rM l7 x3).bind fun x5 => (gI S 11 l0 0).bind fun x7 => (dV l7 x7).bind fun x9 => (if ((l5 >>> (x5 &&& 31)) &&& 1) = 0 then (f_X12_isLawful S l0 l6 x5).bind fun q12 => (if q12.1 = 0 then f_X12_isPath_76 (f_X12_isPath_22 n) q12.2 l0 l2 l3 l5 x9 l9 x5 else f_X12_isPath_77 (f_X12_isPath_22 n) q12.2 l0 l2 l3 l5 x9 l9 x5 1) else f_X12_isPath_76 (f_X12_isPath_22 n) S l0 l2 l3 l5 x9 l9 x5)))
def f_X12_isPath (S : Mm) (l0 : Nat) (l1 : Int32) (l2 : Int32) (l3 : Int32) (l4 : Int32) : Option (Int32 × Mm) := if okc S l0 11 = true then f_X12_isPath_22 FU S l0 l2 l3 ((1 <<< (l1 &&& 31)) ||| (1 <<< (l2 &&& 31))) l1 l4 1 0 else none
set_option maxRecDepth 20000 in
theorem t_X12_isPath_77 {G : Gt} {l : Launch} (k22 : Mm → Nat → Int32 → Int32 → Int32 → Int32 → Int32 → Int32 → Int32 → Option (Int32 × Mm)) (hk22 : ∀ (S : Mm) (l0 : Nat) (l2 : Int32) (l3 : Int32) (l5 : Int32) (l6 : Int32) (l7 : Int32) (l8 : Int32) (l9 : Int32) (T : (Int32 × Mm)), k22 S l0 l2 l3 l5 l6 l7 l8 l9 = some T → Sat G l yX12_isPath cX12_isPath 11 (some .boolean) 2 0 0 0 0 22 [.ref l0, .null, .int l2, .int l3, .null, .int l5, .int l6, .int l7, .int l8, .int l9, .null] [] S (eI T)) (S : Mm) (l0 : Nat) (l2 : Int32) (l3 : Int32) (l5 : Int32) (l7 : Int32) (l9 : Int32) (l10 : Int32) (s0 : Int32) (T : (Int32 × Mm)) (hf : f_X12_isPath_77 k22 S l0 l2 l3 l5 l7 l9 l10 s0 = some T) : Sat G l yX12_isPath cX12_isPath 11 (some .boolean) 2 0 0 0 0 77 [.ref l0, .null, .int l2, .int l3, .null, .int l5, .null, .int l7, .null, .int l9, .int l10] [.int s0] S (eI T) := by
  unfold f_X12_isPath_77 at hf
  refine r_istore (lv' := [.ref l0, .null, .int l2, .int l3, .null, .int l5, .null, .int l7, .int s0, .int l9, .int l10]) dX12_isPath_77 (by decide) rfl rfl ?_
  refine r_iload dX12_isPath_79 rfl ?_
  refine r_iconst (v := 1) dX12_isPath_81 (by decide) ?_
  refine r_iload dX12_isPath_82 rfl ?_
  refine r_ishl dX12_isPath_84 ?_
  refine r_ior dX12_isPath_85 ?_
  refine r_istore (lv' := [.ref l0, .null, .int l2, .int l3, .null, .int (l5 ||| (1 <<< (l10 &&& 31))), .null, .int l7, .int s0, .int l9, .int l10]) dX12_isPath_86 (by decide) rfl rfl ?_
  refine r_iload dX12_isPath_88 rfl ?_
  refine r_istore (lv' := [.ref l0, .null, .int l2, .int l3, .null, .int (l5 ||| (1 <<< (l10 &&& 31))), .int l10, .int l7, .int s0, .int l9, .int l10]) dX12_isPath_90 (by decide) rfl rfl ?_
  refine r_iinc (v := 1) (lv' := [.ref l0, .null, .int l2, .int l3, .null, .int (l5 ||| (1 <<< (l10 &&& 31))), .int l10, .int l7, .int s0, .int (l9 + 1), .int l10]) dX12_isPath_92 rfl (by decide) (by decide) rfl rfl ?_
  refine r_goto (tgt := 22) dX12_isPath_95 (by decide) ?_
  refine r_lvs (lv' := [.ref l0, .null, .int l2, .int l3, .null, .int (l5 ||| (1 <<< (l10 &&& 31))), .int l10, .int l7, .int s0, .int (l9 + 1), .null]) ⟨Or.inl rfl, Or.inl rfl, Or.inl rfl, Or.inl rfl, Or.inl rfl, Or.inl rfl, Or.inl rfl, Or.inl rfl, Or.inl rfl, Or.inl rfl, Or.inr rfl, trivial⟩ ?_
  exact hk22 _ _ _ _ _ _ _ _ _ _ hf
set_option maxRecDepth 20000 in
theorem t_X12_isPath_76 {G : Gt} {l : Launch} (k22 : Mm → Nat → Int32 → Int32 → Int32 → Int32 → Int32 → Int32 → Int32 → Option (Int32 × Mm)) (hk22 : ∀ (S : Mm) (l0 : Nat) (l2 : Int32) (l3 : Int32) (l5 : Int32) (l6 : Int32) (l7 : Int32) (l8 : Int32) (l9 : Int32) (T : (Int32 × Mm)), k22 S l0 l2 l3 l5 l6 l7 l8 l9 = some T → Sat G l yX12_isPath cX12_isPath 11 (some .boolean) 2 0 0 0 0 22 [.ref l0, .null, .int l2, .int l3, .null, .int l5, .int l6, .int l7, .int l8, .int l9, .null] [] S (eI T)) (S : Mm) (l0 : Nat) (l2 : Int32) (l3 : Int32) (l5 : Int32) (l7 : Int32) (l9 : Int32) (l10 : Int32) (T : (Int32 × Mm)) (hf : f_X12_isPath_76 k22 S l0 l2 l3 l5 l7 l9 l10 = some T) : Sat G l yX12_isPath cX12_isPath 11 (some .boolean) 2 0 0 0 0 76 [.ref l0, .null, .int l2, .int l3, .null, .int l5, .null, .int l7, .null, .int l9, .int l10] [] S (eI T) := by
  unfold f_X12_isPath_76 at hf
  refine r_iconst (v := 0) dX12_isPath_76 (by decide) ?_
  exact t_X12_isPath_77 k22 hk22 _ _ _ _ _ _ _ _ _ _ hf
set_option maxRecDepth 20000 in
theorem t_X12_isPath_118 {G : Gt} {l : Launch} (S : Mm) (s0 : Int32) (T : (Int32 × Mm)) (hf : f_X12_isPath_118 S s0 = some T) : Sat G l yX12_isPath cX12_isPath 11 (some .boolean) 2 0 0 0 0 118 [.null, .null, .null, .null, .null, .null, .null, .null, .null, .null, .null] [.int s0] S (eI T) := by
  unfold f_X12_isPath_118 at hf
  obtain ⟨x1, h2, hf⟩ := bnd hf
  have hz := congrArg eI (Option.some.inj hf)
  exact r_zreturn dX12_isPath_118 rfl (Nat.le_of_ble_eq_true rfl) (Nat.le_of_ble_eq_true rfl) h2 hz
set_option maxRecDepth 20000 in
theorem t_X12_isPath_117 {G : Gt} {l : Launch} (S : Mm)  (T : (Int32 × Mm)) (hf : f_X12_isPath_117 S  = some T) : Sat G l yX12_isPath cX12_isPath 11 (some .boolean) 2 0 0 0 0 117 [.null, .null, .null, .null, .null, .null, .null, .null, .null, .null, .null] [] S (eI T) := by
  unfold f_X12_isPath_117 at hf
  refine r_iconst (v := 0) dX12_isPath_117 (by decide) ?_
  exact t_X12_isPath_118 _ _ _ hf
set_option maxRecDepth 20000 in
theorem t_X12_isPath_98 {G : Gt} {l : Launch} (S : Mm) (l0 : Nat) (l2 : Int32) (l6 : Int32) (l8 : Int32) (T : (Int32 × Mm)) (hf : f_X12_isPath_98 S l0 l2 l6 l8 = some T) : Sat G l yX12_isPath cX12_isPath 11 (some .boolean) 2 0 0 0 0 98 [.ref l0, .null, .int l2, .null, .null, .null, .int l6, .null, .int l8, .null, .null] [] S (eI T) := by
  unfold f_X12_isPath_98 at hf
  refine r_iload dX12_isPath_98 rfl ?_
  refine r_if_eq (tgt := 117) dX12_isPath_100 (by decide) (fun c1 => ?_) (fun c1 => ?_)
  · replace hf := (if_pos c1).symm.trans hf
    refine r_lvs (lv' := [.null, .null, .null, .null, .null, .null, .null, .null, .null, .null, .null]) ⟨Or.inr rfl, Or.inl rfl, Or.inr rfl, Or.inl rfl, Or.inl rfl, Or.inl rfl, Or.inr rfl, Or.inl rfl, Or.inr rfl, Or.inl rfl, Or.inl rfl, trivial⟩ ?_
    exact t_X12_isPath_117 _ _ hf
  · replace hf := (if_neg c1).symm.trans hf
    refine r_aload_n dX12_isPath_103 rfl ?_
    refine r_iload dX12_isPath_104 rfl ?_
    refine r_iload_n dX12_isPath_106 rfl ?_
    obtain ⟨q2, h3, hf⟩ := bnd hf
    refine r_callVi (st := []) (as := [.int l6, .int l2]) dX12_isPath_107 ms_X12_isLawful ⟨rfl, w4_208, w4_210, w0_34⟩ (ok_X12_isLawful h3) (c_X12_isLawful h3) rfl ⟨by omega, by omega⟩ (Nat.le_of_ble_eq_true rfl) (by decide) (by decide) rfl ?_
    refine r_if_eq (tgt := 117) dX12_isPath_110 (by decide) (fun c4 => ?_) (fun c4 => ?_)
    · replace hf := (if_pos c4).symm.trans hf
      refine r_lvs (lv' := [.null, .null, .null, .null, .null, .null, .null, .null, .null, .null, .null]) ⟨Or.inr rfl, Or.inl rfl, Or.inr rfl, Or.inl rfl, Or.inl rfl, Or.inl rfl, Or.inr rfl, Or.inl rfl, Or.inr rfl, Or.inl rfl, Or.inl rfl, trivial⟩ ?_
      exact t_X12_isPath_117 _ _ hf
    · replace hf := (if_neg c4).symm.trans hf
      refine r_iconst (v := 1) dX12_isPath_113 (by decide) ?_
      refine r_goto (tgt := 118) dX12_isPath_114 (by decide) ?_
      refine r_lvs (lv' := [.null, .null, .null, .null, .null, .null, .null, .null, .null, .null, .null]) ⟨Or.inr rfl, Or.inl rfl, Or.inr rfl, Or.inl rfl, Or.inl rfl, Or.inl rfl, Or.inr rfl, Or.inl rfl, Or.inr rfl, Or.inl rfl, Or.inl rfl, trivial⟩ ?_
      exact t_X12_isPath_118 _ _ _ hf
set_option maxRecDepth 20000 in
theorem t_X12_isPath_22 {G : Gt} {l : Launch} : ∀ (n : Nat) (S : Mm) (l0 : Nat) (l2 : Int32) (l3 : Int32) (l5 : Int32) (l6 : Int32) (l7 : Int32) (l8 : Int32) (l9 : Int32) (T : (Int32 × Mm)), f_X12_isPath_22 n S l0 l2 l3 l5 l6 l7 l8 l9 = some T → Sat G l yX12_isPath cX12_isPath 11 (some .boolean) 2 0 0 0 0 22 [.ref l0, .null, .int l2, .int l3, .null, .int l5, .int l6, .int l7, .int l8, .int l9, .null] [] S (eI T) := by
  intro n
  induction n with
  | zero =>
    intro S l0 l2 l3 l5 l6 l7 l8 l9 T hf
    rw [f_X12_isPath_22] at hf
    cases hf
  | succ n ih =>
    intro S l0 l2 l3 l5 l6 l7 l8 l9 T hf
    rw [f_X12_isPath_22] at hf
    refine r_iload dX12_isPath_22 rfl ?_
    refine r_iload_n dX12_isPath_24 rfl ?_
    refine r_icmp_ge (tgt := 98) dX12_isPath_25 (by decide) (fun c1 => ?_) (fun c1 => ?_)
    · replace hf := (if_pos c1).symm.trans hf
      refine r_lvs (lv' := [.ref l0, .null, .int l2, .null, .null, .null, .int l6, .null, .int l8, .null, .null]) ⟨Or.inl rfl, Or.inl rfl, Or.inl rfl, Or.inr rfl, Or.inl rfl, Or.inr rfl, Or.inl rfl, Or.inr rfl, Or.inl rfl, Or.inr rfl, Or.inl rfl, trivial⟩ ?_
      exact t_X12_isPath_98 _ _ _ _ _ _ hf
    · replace hf := (if_neg c1).symm.trans hf
      refine r_iload dX12_isPath_28 rfl ?_
      refine r_if_eq (tgt := 98) dX12_isPath_30 (by decide) (fun c2 => ?_) (fun c2 => ?_)
      · replace hf := (if_pos c2).symm.trans hf
        refine r_lvs (lv' := [.ref l0, .null, .int l2, .null, .null, .null, .int l6, .null, .int l8, .null, .null]) ⟨Or.inl rfl, Or.inl rfl, Or.inl rfl, Or.inr rfl, Or.inl rfl, Or.inr rfl, Or.inl rfl, Or.inr rfl, Or.inl rfl, Or.inr rfl, Or.inl rfl, trivial⟩ ?_
        exact t_X12_isPath_98 _ _ _ _ _ _ hf
      · replace hf := (if_neg c2).symm.trans hf
        refine r_iload dX12_isPath_33 rfl ?_
        refine r_aload_n dX12_isPath_35 rfl ?_
        obtain ⟨x3, h4, hf⟩ := bnd hf
        refine r_getI dX12_isPath_36 fs12_77_11 rfl h4 ?_
        obtain ⟨x5, h6, hf⟩ := bnd hf
        refine r_irem dX12_isPath_39 h6 ?_
        refine r_istore (lv' := [.ref l0, .null, .int l2, .int l3, .null, .int l5, .int l6, .int l7, .int l8, .int l9, .int x5]) dX12_isPath_40 (by decide) rfl rfl ?_
        refine r_iload dX12_isPath_42 rfl ?_
        refine r_aload_n dX12_isPath_44 rfl ?_
        obtain ⟨x7, h8, hf⟩ := bnd hf
        refine r_getI dX12_isPath_45 fs12_77_11 rfl h8 ?_
        obtain ⟨x9, h10, hf⟩ := bnd hf
        refine r_idiv dX12_isPath_48 h10 ?_
        refine r_istore (lv' := [.ref l0, .null, .int l2, .int l3, .null, .int l5, .int l6, .int x9, .int l8, .int l9, .int x5]) dX12_isPath_49 (by decide) rfl rfl ?_
        refine r_iload dX12_isPath_51 rfl ?_
        refine r_iload dX12_isPath_53 rfl ?_
        refine r_ishr dX12_isPath_55 ?_
        refine r_iconst (v := 1) dX12_isPath_56 (by decide) ?_
        refine r_iand dX12_isPath_57 ?_
        refine r_if_ne (tgt := 76) dX12_isPath_58 (by decide) (fun c11 => ?_) (fun c11 => ?_)
        · replace hf := (if_neg c11).symm.trans hf
          refine r_lvs (lv' := [.ref l0, .null, .int l2, .int l3, .null, .int l5, .null, .int x9, .null, .int l9, .int x5]) ⟨Or.inl rfl, Or.inl rfl, Or.inl rfl, Or.inl rfl, Or.inl rfl, Or.inl rfl, Or.inr rfl, Or.inl rfl, Or.inr rfl, Or.inl rfl, Or.inl rfl, trivial⟩ ?_
          exact t_X12_isPath_76 (f_X12_isPath_22 n) ih _ _ _ _ _ _ _ _ _ hf
        · replace hf := (if_pos c11).symm.trans hf
          refine r_aload_n dX12_isPath_61 rfl ?_
          refine r_iload dX12_isPath_62 rfl ?_
          refine r_iload dX12_isPath_64 rfl ?_
          obtain ⟨q12, h13, hf⟩ := bnd hf
          refine r_callVi (st := []) (as := [.int l6, .int x5]) dX12_isPath_66 ms_X12_isLawful ⟨rfl, w4_208, w4_210, w0_34⟩ (ok_X12_isLawful h13) (c_X12_isLawful h13) rfl ⟨by omega, by omega⟩ (Nat.le_of_ble_eq_true rfl) (by decide) (by decide) rfl ?_
          refine r_if_eq (tgt := 76) dX12_isPath_69 (by decide) (fun c14 => ?_) (fun c14 => ?_)
          · replace hf := (if_pos c14).symm.trans hf
            refine r_lvs (lv' := [.ref l0, .null, .int l2, .int l3, .null, .int l5, .null, .int x9, .null, .int l9, .int x5]) ⟨Or.inl rfl, Or.inl rfl, Or.inl rfl, Or.inl rfl, Or.inl rfl, Or.inl rfl, Or.inr rfl, Or.inl rfl, Or.inr rfl, Or.inl rfl, Or.inl rfl, trivial⟩ ?_
            exact t_X12_isPath_76 (f_X12_isPath_22 n) ih _ _ _ _ _ _ _ _ _ hf
          · replace hf := (if_neg c14).symm.trans hf
            refine r_iconst (v := 1) dX12_isPath_72 (by decide) ?_
            refine r_goto (tgt := 77) dX12_isPath_73 (by decide) ?_
            refine r_lvs (lv' := [.ref l0, .null, .int l2, .int l3, .null, .int l5, .null, .int x9, .null, .int l9, .int x5]) ⟨Or.inl rfl, Or.inl rfl, Or.inl rfl, Or.inl rfl, Or.inl rfl, Or.inl rfl, Or.inr rfl, Or.inl rfl, Or.inr rfl, Or.inl rfl, Or.inl rfl, trivial⟩ ?_
            exact t_X12_isPath_77 (f_X12_isPath_22 n) ih _ _ _ _ _ _ _ _ _ _ hf
set_option maxRecDepth 20000 in
theorem ok_X12_isPath {S : Mm} {l0 : Nat} {l1 : Int32} {l2 : Int32} {l3 : Int32} {l4 : Int32} {T : (Int32 × Mm)} (hf : f_X12_isPath S l0 l1 l2 l3 l4 = some T) : okc S l0 11 = true := (oif hf).1
set_option maxRecDepth 20000 in
theorem c_X12_isPath {G : Gt} {l : Launch} {S : Mm} {l0 : Nat} {l1 : Int32} {l2 : Int32} {l3 : Int32} {l4 : Int32} {T : (Int32 × Mm)} (hf : f_X12_isPath S l0 l1 l2 l3 l4 = some T) : CC G l yX12_isPath cX12_isPath 11 (some .boolean) 2 0 0 [.ref l0, .int l1, .int l2, .int l3, .int l4] S (eI T) := by
  unfold f_X12_isPath at hf
  replace hf := (oif hf).2
  refine r_body (by decide) rfl (Nat.le_of_ble_eq_true rfl) (by simp) ?_
  refine r_iconst (v := 1) dX12_isPath_0 (by decide) ?_
  refine r_iload_n dX12_isPath_1 rfl ?_
  refine r_ishl dX12_isPath_2 ?_
  refine r_iconst (v := 1) dX12_isPath_3 (by decide) ?_
  refine r_iload_n dX12_isPath_4 rfl ?_
  refine r_ishl dX12_isPath_5 ?_
  refine r_ior dX12_isPath_6 ?_
  refine r_istore (lv' := [.ref l0, .int l1, .int l2, .int l3, .int l4, .int ((1 <<< (l1 &&& 31)) ||| (1 <<< (l2 &&& 31))), .null, .null, .null, .null, .null]) dX12_isPath_7 (by decide) rfl rfl ?_
  refine r_iload_n dX12_isPath_9 rfl ?_
  refine r_istore (lv' := [.ref l0, .int l1, .int l2, .int l3, .int l4, .int ((1 <<< (l1 &&& 31)) ||| (1 <<< (l2 &&& 31))), .int l1, .null, .null, .null, .null]) dX12_isPath_10 (by decide) rfl rfl ?_
  refine r_iload dX12_isPath_12 rfl ?_
  refine r_istore (lv' := [.ref l0, .int l1, .int l2, .int l3, .int l4, .int ((1 <<< (l1 &&& 31)) ||| (1 <<< (l2 &&& 31))), .int l1, .int l4, .null, .null, .null]) dX12_isPath_14 (by decide) rfl rfl ?_
  refine r_iconst (v := 1) dX12_isPath_16 (by decide) ?_
  refine r_istore (lv' := [.ref l0, .int l1, .int l2, .int l3, .int l4, .int ((1 <<< (l1 &&& 31)) ||| (1 <<< (l2 &&& 31))), .int l1, .int l4, .int 1, .null, .null]) dX12_isPath_17 (by decide) rfl rfl ?_
  refine r_iconst (v := 0) dX12_isPath_19 (by decide) ?_
  refine r_istore (lv' := [.ref l0, .int l1, .int l2, .int l3, .int l4, .int ((1 <<< (l1 &&& 31)) ||| (1 <<< (l2 &&& 31))), .int l1, .int l4, .int 1, .int 0, .null]) dX12_isPath_20 (by decide) rfl rfl ?_
  refine r_lvs (lv' := [.ref l0, .null, .int l2, .int l3, .null, .int ((1 <<< (l1 &&& 31)) ||| (1 <<< (l2 &&& 31))), .int l1, .int l4, .int 1, .int 0, .null]) ⟨Or.inl rfl, Or.inr rfl, Or.inl rfl, Or.inl rfl, Or.inr rfl, Or.inl rfl, Or.inl rfl, Or.inl rfl, Or.inl rfl, Or.inl rfl, Or.inl rfl, trivial⟩ ?_
  exact t_X12_isPath_22 FU _ _ _ _ _ _ _ _ _ _ hf
def f_X12_paths_40 (S : Mm) (s0 : Nat) (s1 : Int32) : Option (Int32 × Mm) := (f_X12_refuse S s0 s1).bind fun q1 => some (q1.1, q1.2)
def f_X12_paths_24 (S : Mm) (l0 : Nat) (l1 : Int32) (l2 : Int32) : Option (Int32 × Mm) := (f_X12_areTwo S l0 l1 l2).bind fun q1 => (if q1.1 = 0 then f_X12_paths_40 q1.2 l0 (-1) else f_X12_paths_40 q1.2 l0 (-2))
def f_X12_paths_110 (k57 : Mm → Nat → Int32 → Int32 → Int32 → Int32 → Int32 → Int32 → Int32 → Option (Int32 × Mm)) (k71 : Mm → Nat → Int32 → Int32 → Int32 → Int32 → Int32 → Int32 → Int32 → Int32 → Option (Int32 × Mm)) (S : Mm) (l0 : Nat) (l1 : Int32) (l2 : Int32) (l3 : Int32) (l4 : Int32) (l5 : Int32) (l6 : Int32) (l7 : Int32) (l8 : Int32) : Option (Int32 × Mm) := k71 S l0 l1 l2 l3 l4 l5 l6 l7 (l8 + 1)
def f_X12_paths_108 (k57 : Mm → Nat → Int32 → Int32 → Int32 → Int32 → Int32 → Int32 → Int32 → Option (Int32 × Mm)) (k71 : Mm → Nat → Int32 → Int32 → Int32 → Int32 → Int32 → Int32 → Int32 → Int32 → Option (Int32 × Mm)) (S : Mm) (l0 : Nat) (l1 : Int32) (l2 : Int32) (l3 : Int32) (l4 : Int32) (l6 : Int32) (l7 : Int32) (l8 : Int32) (s0 : Int32) : Option (Int32 × Mm) := f_X12_paths_110 k57 k71 S l0 l1 l2 l3 l4 s0 l6 l7 l8
def f_X12_paths_71 (k57 : Mm → Nat → Int32 → Int32 → Int32 → Int32 → Int32 → Int32 → Int32 → Option (Int32 × Mm)) : Nat → Mm → Nat → Int32 → Int32 → Int32 → Int32 → Int32 → Int32 → Int32 → Int32 → Option (Int32 × Mm)
  | 0, _, _, _, _, _, _, _, _, _, _ => none
  | n + 1, S, l0, l1, l2, l3, l4, l5, l6, l7, l8 => (if l6 ≤ l8 then (gI S 11 l0 0).bind fun x2 => k57 S l0 l1 l2 l3 l4 l5 (l6 * x2) (l7 + 1) else (f_X12_isPath S l0 l1 l2 l7 l8).bind fun q4 => (if q4.1 = 0 then f_X12_paths_110 k57 (f_X12_paths_71 k57 n) q4.2 l0 l1 l2 l3 l4 l5 l6 l7 l8 else (if 0 ≤ l5 then f_X12_paths_108 k57 (f_X12_paths_71 k57 n) q4.2 l0 l1 l2 l3 (l4 + 1) l6 l7 l8 l5 else f_X12_paths_108 k57 (f_X12_paths_71 k57 n) q4.2 l0 l1 l2 l3 (l4 + 1) l6 l7 l8 (l7 + 1))))
def f_X12_paths_142 (S : Mm) (s0 : Int32) : Option (Int32 × Mm) := some (s0, S)
def f_X12_paths_57 : Nat → Mm → Nat → Int32 → Int32 → Int32 → Int32 → Int32 → Int32 → Int32 → Option (Int32 × Mm)
  | 0, _, _, _, _, _, _, _, _, _ => none
  | n + 1, S, l0, l1, l2, l3, l4, l5, l6, l7 => (gI S 11 l0 0).bind fun x1 => (if (x1 - 1) ≤ l7 then (if l3 = 0 then f_X12_paths_142 S l4 else f_X12_paths_142 S l5) else f_X12_paths_71 (f_X12_paths_57 n) FU S l0 l1 l2 l3 l4 l5 l6 l7 0)
def f_X12_paths (S : Mm) (l0 : Nat) (l1 : Int32) (l2 : Int32) (l3 : Int32) : Option (Int32 × Mm) := if okc S l0 11 = true then (pI S 11 l0 15 0).bind fun S1 => (f_X12_areTwo S1 l0 l1 l2).bind fun q3 => (if q3.1 = 0 then f_X12_paths_24 q3.2 l0 l1 l2 else (f_X12_in q3.2 l3.toInt64 0 1).bind fun q6 => (if q6.1 = 0 then f_X12_paths_24 q6.2 l0 l1 l2 else f_X12_paths_57 FU q6.2 l0 l1 l2 l3 0 (-9) 1 0)) else none
set_option maxRecDepth 20000 in
theorem t_X12_paths_40 {G : Gt} {l : Launch} (S : Mm) (s0 : Nat) (s1 : Int32) (T : (Int32 × Mm)) (hf : f_X12_paths_40 S s0 s1 = some T) : Sat G l yX12_paths cX12_paths 9 (some .int) 3 0 0 0 0 40 [.null, .null, .null, .null, .null, .null, .null, .null, .null] [.int s1, .ref s0] S (eI T) := by
  unfold f_X12_paths_40 at hf
  obtain ⟨q1, h2, hf⟩ := bnd hf
  refine r_callVi (st := []) (as := [.int s1]) dX12_paths_40 ms_X12_refuse ⟨rfl, w4_119, w4_121, w0_21⟩ (ok_X12_refuse h2) (c_X12_refuse h2) rfl ⟨by omega, by omega⟩ (Nat.le_of_ble_eq_true rfl) (by decide) (by decide) rfl ?_
  have hz := congrArg eI (Option.some.inj hf)
  exact r_ireturn dX12_paths_43 rfl (Nat.le_of_ble_eq_true rfl) (Nat.le_of_ble_eq_true rfl) hz
set_option maxRecDepth 20000 in
theorem t_X12_paths_24 {G : Gt} {l : Launch} (S : Mm) (l0 : Nat) (l1 : Int32) (l2 : Int32) (T : (Int32 × Mm)) (hf : f_X12_paths_24 S l0 l1 l2 = some T) : Sat G l yX12_paths cX12_paths 9 (some .int) 3 0 0 0 0 24 [.ref l0, .int l1, .int l2, .null, .null, .null, .null, .null, .null] [] S (eI T) := by
  unfold f_X12_paths_24 at hf
  refine r_aload_n dX12_paths_24 rfl ?_
  refine r_aload_n dX12_paths_25 rfl ?_
  refine r_iload_n dX12_paths_26 rfl ?_
  refine r_iload_n dX12_paths_27 rfl ?_
  obtain ⟨q1, h2, hf⟩ := bnd hf
  refine r_callVi (st := [.ref l0]) (as := [.int l1, .int l2]) dX12_paths_28 ms_X12_areTwo ⟨rfl, w4_164, w4_166, w0_29⟩ (ok_X12_areTwo h2) (c_X12_areTwo h2) rfl ⟨by omega, by omega⟩ (Nat.le_of_ble_eq_true rfl) (by decide) (by decide) rfl ?_
  refine r_if_eq (tgt := 39) dX12_paths_31 (by decide) (fun c3 => ?_) (fun c3 => ?_)
  · replace hf := (if_pos c3).symm.trans hf
    refine r_iconst (v := (-1)) dX12_paths_39 (by decide) ?_
    refine r_lvs (lv' := [.null, .null, .null, .null, .null, .null, .null, .null, .null]) ⟨Or.inr rfl, Or.inr rfl, Or.inr rfl, Or.inl rfl, Or.inl rfl, Or.inl rfl, Or.inl rfl, Or.inl rfl, Or.inl rfl, trivial⟩ ?_
    exact t_X12_paths_40 _ _ _ _ hf
  · replace hf := (if_neg c3).symm.trans hf
    refine r_bipush (v := (-2)) dX12_paths_34 (by decide) ?_
    refine r_goto (tgt := 40) dX12_paths_36 (by decide) ?_
    refine r_lvs (lv' := [.null, .null, .null, .null, .null, .null, .null, .null, .null]) ⟨Or.inr rfl, Or.inr rfl, Or.inr rfl, Or.inl rfl, Or.inl rfl, Or.inl rfl, Or.inl rfl, Or.inl rfl, Or.inl rfl, trivial⟩ ?_
    exact t_X12_paths_40 _ _ _ _ hf
set_option maxRecDepth 20000 in
theorem t_X12_paths_110 {G : Gt} {l : Launch} (k57 : Mm → Nat → Int32 → Int32 → Int32 → Int32 → Int32 → Int32 → Int32 → Option (Int32 × Mm)) (hk57 : ∀ (S : Mm) (l0 : Nat) (l1 : Int32) (l2 : Int32) (l3 : Int32) (l4 : Int32) (l5 : Int32) (l6 : Int32) (l7 : Int32) (T : (Int32 × Mm)), k57 S l0 l1 l2 l3 l4 l5 l6 l7 = some T → Sat G l yX12_paths cX12_paths 9 (some .int) 3 0 0 0 0 57 [.ref l0, .int l1, .int l2, .int l3, .int l4, .int l5, .int l6, .int l7, .null] [] S (eI T)) (k71 : Mm → Nat → Int32 → Int32 → Int32 → Int32 → Int32 → Int32 → Int32 → Int32 → Option (Int32 × Mm)) (hk71 : ∀ (S : Mm) (l0 : Nat) (l1 : Int32) (l2 : Int32) (l3 : Int32) (l4 : Int32) (l5 : Int32) (l6 : Int32) (l7 : Int32) (l8 : Int32) (T : (Int32 × Mm)), k71 S l0 l1 l2 l3 l4 l5 l6 l7 l8 = some T → Sat G l yX12_paths cX12_paths 9 (some .int) 3 0 0 0 0 71 [.ref l0, .int l1, .int l2, .int l3, .int l4, .int l5, .int l6, .int l7, .int l8] [] S (eI T)) (S : Mm) (l0 : Nat) (l1 : Int32) (l2 : Int32) (l3 : Int32) (l4 : Int32) (l5 : Int32) (l6 : Int32) (l7 : Int32) (l8 : Int32) (T : (Int32 × Mm)) (hf : f_X12_paths_110 k57 k71 S l0 l1 l2 l3 l4 l5 l6 l7 l8 = some T) : Sat G l yX12_paths cX12_paths 9 (some .int) 3 0 0 0 0 110 [.ref l0, .int l1, .int l2, .int l3, .int l4, .int l5, .int l6, .int l7, .int l8] [] S (eI T) := by
  unfold f_X12_paths_110 at hf
  refine r_iinc (v := 1) (lv' := [.ref l0, .int l1, .int l2, .int l3, .int l4, .int l5, .int l6, .int l7, .int (l8 + 1)]) dX12_paths_110 rfl (by decide) (by decide) rfl rfl ?_
  refine r_goto (tgt := 71) dX12_paths_113 (by decide) ?_
  exact hk71 _ _ _ _ _ _ _ _ _ _ _ hf
set_option maxRecDepth 20000 in
theorem t_X12_paths_108 {G : Gt} {l : Launch} (k57 : Mm → Nat → Int32 → Int32 → Int32 → Int32 → Int32 → Int32 → Int32 → Option (Int32 × Mm)) (hk57 : ∀ (S : Mm) (l0 : Nat) (l1 : Int32) (l2 : Int32) (l3 : Int32) (l4 : Int32) (l5 : Int32) (l6 : Int32) (l7 : Int32) (T : (Int32 × Mm)), k57 S l0 l1 l2 l3 l4 l5 l6 l7 = some T → Sat G l yX12_paths cX12_paths 9 (some .int) 3 0 0 0 0 57 [.ref l0, .int l1, .int l2, .int l3, .int l4, .int l5, .int l6, .int l7, .null] [] S (eI T)) (k71 : Mm → Nat → Int32 → Int32 → Int32 → Int32 → Int32 → Int32 → Int32 → Int32 → Option (Int32 × Mm)) (hk71 : ∀ (S : Mm) (l0 : Nat) (l1 : Int32) (l2 : Int32) (l3 : Int32) (l4 : Int32) (l5 : Int32) (l6 : Int32) (l7 : Int32) (l8 : Int32) (T : (Int32 × Mm)), k71 S l0 l1 l2 l3 l4 l5 l6 l7 l8 = some T → Sat G l yX12_paths cX12_paths 9 (some .int) 3 0 0 0 0 71 [.ref l0, .int l1, .int l2, .int l3, .int l4, .int l5, .int l6, .int l7, .int l8] [] S (eI T)) (S : Mm) (l0 : Nat) (l1 : Int32) (l2 : Int32) (l3 : Int32) (l4 : Int32) (l6 : Int32) (l7 : Int32) (l8 : Int32) (s0 : Int32) (T : (Int32 × Mm)) (hf : f_X12_paths_108 k57 k71 S l0 l1 l2 l3 l4 l6 l7 l8 s0 = some T) : Sat G l yX12_paths cX12_paths 9 (some .int) 3 0 0 0 0 108 [.ref l0, .int l1, .int l2, .int l3, .int l4, .null, .int l6, .int l7, .int l8] [.int s0] S (eI T) := by
  unfold f_X12_paths_108 at hf
  refine r_istore (lv' := [.ref l0, .int l1, .int l2, .int l3, .int l4, .int s0, .int l6, .int l7, .int l8]) dX12_paths_108 (by decide) rfl rfl ?_
  exact t_X12_paths_110 k57 hk57 k71 hk71 _ _ _ _ _ _ _ _ _ _ _ hf
set_option maxRecDepth 20000 in
theorem t_X12_paths_71 {G : Gt} {l : Launch} (k57 : Mm → Nat → Int32 → Int32 → Int32 → Int32 → Int32 → Int32 → Int32 → Option (Int32 × Mm)) (hk57 : ∀ (S : Mm) (l0 : Nat) (l1 : Int32) (l2 : Int32) (l3 : Int32) (l4 : Int32) (l5 : Int32) (l6 : Int32) (l7 : Int32) (T : (Int32 × Mm)), k57 S l0 l1 l2 l3 l4 l5 l6 l7 = some T → Sat G l yX12_paths cX12_paths 9 (some .int) 3 0 0 0 0 57 [.ref l0, .int l1, .int l2, .int l3, .int l4, .int l5, .int l6, .int l7, .null] [] S (eI T)) : ∀ (n : Nat) (S : Mm) (l0 : Nat) (l1 : Int32) (l2 : Int32) (l3 : Int32) (l4 : Int32) (l5 : Int32) (l6 : Int32) (l7 : Int32) (l8 : Int32) (T : (Int32 × Mm)), f_X12_paths_71 k57 n S l0 l1 l2 l3 l4 l5 l6 l7 l8 = some T → Sat G l yX12_paths cX12_paths 9 (some .int) 3 0 0 0 0 71 [.ref l0, .int l1, .int l2, .int l3, .int l4, .int l5, .int l6, .int l7, .int l8] [] S (eI T) := by
  intro n
  induction n with
  | zero =>
    intro S l0 l1 l2 l3 l4 l5 l6 l7 l8 T hf
    rw [f_X12_paths_71] at hf
    cases hf
  | succ n ih =>
    intro S l0 l1 l2 l3 l4 l5 l6 l7 l8 T hf
    rw [f_X12_paths_71] at hf
    refine r_iload dX12_paths_71 rfl ?_
    refine r_iload dX12_paths_73 rfl ?_
    refine r_icmp_ge (tgt := 116) dX12_paths_75 (by decide) (fun c1 => ?_) (fun c1 => ?_)
    · replace hf := (if_pos c1).symm.trans hf
      refine r_iload dX12_paths_116 rfl ?_
      refine r_aload_n dX12_paths_118 rfl ?_
      obtain ⟨x2, h3, hf⟩ := bnd hf
      refine r_getI dX12_paths_119 fs12_77_11 rfl h3 ?_
      refine r_imul dX12_paths_122 ?_
      refine r_istore (lv' := [.ref l0, .int l1, .int l2, .int l3, .int l4, .int l5, .int (l6 * x2), .int l7, .int l8]) dX12_paths_123 (by decide) rfl rfl ?_
      refine r_iinc (v := 1) (lv' := [.ref l0, .int l1, .int l2, .int l3, .int l4, .int l5, .int (l6 * x2), .int (l7 + 1), .int l8]) dX12_paths_125 rfl (by decide) (by decide) rfl rfl ?_
      refine r_goto (tgt := 57) dX12_paths_128 (by decide) ?_
      refine r_lvs (lv' := [.ref l0, .int l1, .int l2, .int l3, .int l4, .int l5, .int (l6 * x2), .int (l7 + 1), .null]) ⟨Or.inl rfl, Or.inl rfl, Or.inl rfl, Or.inl rfl, Or.inl rfl, Or.inl rfl, Or.inl rfl, Or.inl rfl, Or.inr rfl, trivial⟩ ?_
      exact hk57 _ _ _ _ _ _ _ _ _ _ hf
    · replace hf := (if_neg c1).symm.trans hf
      refine r_aload_n dX12_paths_78 rfl ?_
      refine r_iload_n dX12_paths_79 rfl ?_
      refine r_iload_n dX12_paths_80 rfl ?_
      refine r_iload dX12_paths_81 rfl ?_
      refine r_iload dX12_paths_83 rfl ?_
      obtain ⟨q4, h5, hf⟩ := bnd hf
      refine r_callVi (st := []) (as := [.int l1, .int l2, .int l7, .int l8]) dX12_paths_85 ms_X12_isPath ⟨rfl, w5_69, w5_71, w0_47⟩ (ok_X12_isPath h5) (c_X12_isPath h5) rfl ⟨by omega, by omega⟩ (Nat.le_of_ble_eq_true rfl) (by decide) (by decide) rfl ?_
      refine r_if_eq (tgt := 110) dX12_paths_88 (by decide) (fun c6 => ?_) (fun c6 => ?_)
      · replace hf := (if_pos c6).symm.trans hf
        exact t_X12_paths_110 k57 hk57 (f_X12_paths_71 k57 n) ih _ _ _ _ _ _ _ _ _ _ _ hf
      · replace hf := (if_neg c6).symm.trans hf
        refine r_iinc (v := 1) (lv' := [.ref l0, .int l1, .int l2, .int l3, .int (l4 + 1), .int l5, .int l6, .int l7, .int l8]) dX12_paths_91 rfl (by decide) (by decide) rfl rfl ?_
        refine r_iload dX12_paths_94 rfl ?_
        refine r_if_ge (tgt := 106) dX12_paths_96 (by decide) (fun c7 => ?_) (fun c7 => ?_)
        · replace hf := (if_pos c7).symm.trans hf
          refine r_iload dX12_paths_106 rfl ?_
          refine r_lvs (lv' := [.ref l0, .int l1, .int l2, .int l3, .int (l4 + 1), .null, .int l6, .int l7, .int l8]) ⟨Or.inl rfl, Or.inl rfl, Or.inl rfl, Or.inl rfl, Or.inl rfl, Or.inr rfl, Or.inl rfl, Or.inl rfl, Or.inl rfl, trivial⟩ ?_
          exact t_X12_paths_108 k57 hk57 (f_X12_paths_71 k57 n) ih _ _ _ _ _ _ _ _ _ _ _ hf
        · replace hf := (if_neg c7).symm.trans hf
          refine r_iload dX12_paths_99 rfl ?_
          refine r_iconst (v := 1) dX12_paths_101 (by decide) ?_
          refine r_iadd dX12_paths_102 ?_
          refine r_goto (tgt := 108) dX12_paths_103 (by decide) ?_
          refine r_lvs (lv' := [.ref l0, .int l1, .int l2, .int l3, .int (l4 + 1), .null, .int l6, .int l7, .int l8]) ⟨Or.inl rfl, Or.inl rfl, Or.inl rfl, Or.inl rfl, Or.inl rfl, Or.inr rfl, Or.inl rfl, Or.inl rfl, Or.inl rfl, trivial⟩ ?_
          exact t_X12_paths_108 k57 hk57 (f_X12_paths_71 k57 n) ih _ _ _ _ _ _ _ _ _ _ _ hf
set_option maxRecDepth 20000 in
theorem t_X12_paths_142 {G : Gt} {l : Launch} (S : Mm) (s0 : Int32) (T : (Int32 × Mm)) (hf : f_X12_paths_142 S s0 = some T) : Sat G l yX12_paths cX12_paths 9 (some .int) 3 0 0 0 0 142 [.null, .null, .null, .null, .null, .null, .null, .null, .null] [.int s0] S (eI T) := by
  unfold f_X12_paths_142 at hf
  have hz := congrArg eI (Option.some.inj hf)
  exact r_ireturn dX12_paths_142 rfl (Nat.le_of_ble_eq_true rfl) (Nat.le_of_ble_eq_true rfl) hz
set_option maxRecDepth 20000 in
theorem t_X12_paths_57 {G : Gt} {l : Launch} : ∀ (n : Nat) (S : Mm) (l0 : Nat) (l1 : Int32) (l2 : Int32) (l3 : Int32) (l4 : Int32) (l5 : Int32) (l6 : Int32) (l7 : Int32) (T : (Int32 × Mm)), f_X12_paths_57 n S l0 l1 l2 l3 l4 l5 l6 l7 = some T → Sat G l yX12_paths cX12_paths 9 (some .int) 3 0 0 0 0 57 [.ref l0, .int l1, .int l2, .int l3, .int l4, .int l5, .int l6, .int l7, .null] [] S (eI T) := by
  intro n
  induction n with
  | zero =>
    intro S l0 l1 l2 l3 l4 l5 l6 l7 T hf
    rw [f_X12_paths_57] at hf
    cases hf
  | succ n ih =>
    intro S l0 l1 l2 l3 l4 l5 l6 l7 T hf
    rw [f_X12_paths_57] at hf
    refine r_iload dX12_paths_57 rfl ?_
    refine r_aload_n dX12_paths_59 rfl ?_
    obtain ⟨x1, h2, hf⟩ := bnd hf
    refine r_getI dX12_paths_60 fs12_77_11 rfl h2 ?_
    refine r_iconst (v := 1) dX12_paths_63 (by decide) ?_
    refine r_isub dX12_paths_64 ?_
    refine r_icmp_ge (tgt := 131) dX12_paths_65 (by decide) (fun c3 => ?_) (fun c3 => ?_)
    · replace hf := (if_pos c3).symm.trans hf
      refine r_iload_n dX12_paths_131 rfl ?_
      refine r_if_ne (tgt := 140) dX12_paths_132 (by decide) (fun c4 => ?_) (fun c4 => ?_)
      · replace hf := (if_neg c4).symm.trans hf
        refine r_iload dX12_paths_140 rfl ?_
        refine r_lvs (lv' := [.null, .null, .null, .null, .null, .null, .null, .null, .null]) ⟨Or.inr rfl, Or.inr rfl, Or.inr rfl, Or.inr rfl, Or.inr rfl, Or.inr rfl, Or.inr rfl, Or.inr rfl, Or.inl rfl, trivial⟩ ?_
        exact t_X12_paths_142 _ _ _ hf
      · replace hf := (if_pos c4).symm.trans hf
        refine r_iload dX12_paths_135 rfl ?_
        refine r_goto (tgt := 142) dX12_paths_137 (by decide) ?_
        refine r_lvs (lv' := [.null, .null, .null, .null, .null, .null, .null, .null, .null]) ⟨Or.inr rfl, Or.inr rfl, Or.inr rfl, Or.inr rfl, Or.inr rfl, Or.inr rfl, Or.inr rfl, Or.inr rfl, Or.inl rfl, trivial⟩ ?_
        exact t_X12_paths_142 _ _ _ hf
    · replace hf := (if_neg c3).symm.trans hf
      refine r_iconst (v := 0) dX12_paths_68 (by decide) ?_
      refine r_istore (lv' := [.ref l0, .int l1, .int l2, .int l3, .int l4, .int l5, .int l6, .int l7, .int 0]) dX12_paths_69 (by decide) rfl rfl ?_
      exact t_X12_paths_71 (f_X12_paths_57 n) ih FU _ _ _ _ _ _ _ _ _ _ _ hf
set_option maxRecDepth 20000 in
theorem ok_X12_paths {S : Mm} {l0 : Nat} {l1 : Int32} {l2 : Int32} {l3 : Int32} {T : (Int32 × Mm)} (hf : f_X12_paths S l0 l1 l2 l3 = some T) : okc S l0 11 = true := (oif hf).1
set_option maxRecDepth 20000 in
theorem c_X12_paths {G : Gt} {l : Launch} {S : Mm} {l0 : Nat} {l1 : Int32} {l2 : Int32} {l3 : Int32} {T : (Int32 × Mm)} (hf : f_X12_paths S l0 l1 l2 l3 = some T) : CC G l yX12_paths cX12_paths 9 (some .int) 3 0 0 [.ref l0, .int l1, .int l2, .int l3] S (eI T) := by
  unfold f_X12_paths at hf
  replace hf := (oif hf).2
  refine r_body (by decide) rfl (Nat.le_of_ble_eq_true rfl) (by simp) ?_
  refine r_aload_n dX12_paths_0 rfl ?_
  refine r_iconst (v := 0) dX12_paths_1 (by decide) ?_
  obtain ⟨S1, h2, hf⟩ := bnd hf
  refine r_putI dX12_paths_2 fs12_73_11 rfl h2 ?_
  refine r_aload_n dX12_paths_5 rfl ?_
  refine r_iload_n dX12_paths_6 rfl ?_
  refine r_iload_n dX12_paths_7 rfl ?_
  obtain ⟨q3, h4, hf⟩ := bnd hf
  refine r_callVi (st := []) (as := [.int l1, .int l2]) dX12_paths_8 ms_X12_areTwo ⟨rfl, w4_164, w4_166, w0_29⟩ (ok_X12_areTwo h4) (c_X12_areTwo h4) rfl ⟨by omega, by omega⟩ (Nat.le_of_ble_eq_true rfl) (by decide) (by decide) rfl ?_
  refine r_if_eq (tgt := 24) dX12_paths_11 (by decide) (fun c5 => ?_) (fun c5 => ?_)
  · replace hf := (if_pos c5).symm.trans hf
    refine r_lvs (lv' := [.ref l0, .int l1, .int l2, .null, .null, .null, .null, .null, .null]) ⟨Or.inl rfl, Or.inl rfl, Or.inl rfl, Or.inr rfl, Or.inl rfl, Or.inl rfl, Or.inl rfl, Or.inl rfl, Or.inl rfl, trivial⟩ ?_
    exact t_X12_paths_24 _ _ _ _ _ hf
  · replace hf := (if_neg c5).symm.trans hf
    refine r_iload_n dX12_paths_14 rfl ?_
    refine r_i2l dX12_paths_15 ?_
    refine r_lconst (v := 0) dX12_paths_16 (by decide) ?_
    refine r_lconst (v := 1) dX12_paths_17 (by decide) ?_
    obtain ⟨q6, h7, hf⟩ := bnd hf
    refine r_callSi (st := []) (as := [.long l3.toInt64, .long 0, .long 1]) dX12_paths_18 ms_X12_in ⟨w4_145, w4_146⟩ (c_X12_in h7) rfl ⟨by omega, by omega⟩ (Nat.le_of_ble_eq_true rfl) (by decide) (by decide) rfl ?_
    refine r_if_ne (tgt := 44) dX12_paths_21 (by decide) (fun c8 => ?_) (fun c8 => ?_)
    · replace hf := (if_neg c8).symm.trans hf
      refine r_iconst (v := 0) dX12_paths_44 (by decide) ?_
      refine r_istore (lv' := [.ref l0, .int l1, .int l2, .int l3, .int 0, .null, .null, .null, .null]) dX12_paths_45 (by decide) rfl rfl ?_
      refine r_bipush (v := (-9)) dX12_paths_47 (by decide) ?_
      refine r_istore (lv' := [.ref l0, .int l1, .int l2, .int l3, .int 0, .int (-9), .null, .null, .null]) dX12_paths_49 (by decide) rfl rfl ?_
      refine r_iconst (v := 1) dX12_paths_51 (by decide) ?_
      refine r_istore (lv' := [.ref l0, .int l1, .int l2, .int l3, .int 0, .int (-9), .int 1, .null, .null]) dX12_paths_52 (by decide) rfl rfl ?_
      refine r_iconst (v := 0) dX12_paths_54 (by decide) ?_
      refine r_istore (lv' := [.ref l0, .int l1, .int l2, .int l3, .int 0, .int (-9), .int 1, .int 0, .null]) dX12_paths_55 (by decide) rfl rfl ?_
      exact t_X12_paths_57 FU _ _ _ _ _ _ _ _ _ _ hf
    · replace hf := (if_pos c8).symm.trans hf
      refine r_lvs (lv' := [.ref l0, .int l1, .int l2, .null, .null, .null, .null, .null, .null]) ⟨Or.inl rfl, Or.inl rfl, Or.inl rfl, Or.inr rfl, Or.inl rfl, Or.inl rfl, Or.inl rfl, Or.inl rfl, Or.inl rfl, trivial⟩ ?_
      exact t_X12_paths_24 _ _ _ _ _ hf
def f_X12_owed_26 : Nat → Mm → Nat → Int32 → Int32 → Int32 → Option (Int32 × Mm)
  | 0, _, _, _, _, _ => none
  | n + 1, S, l0, l1, l2, l3 => (gI S 11 l0 0).bind fun x1 => (if x1 ≤ l3 then some (l2, S) else (f_X12_debt S l0 l3 l1).bind fun q4 => (f_X12_debt q4.2 l0 l1 l3).bind fun q6 => (f_X12_owed_26 n) q6.2 l0 l1 (l2 + (q4.1 - q6.1)) (l3 + 1))
def f_X12_owed (S : Mm) (l0 : Nat) (l1 : Int32) : Option (Int32 × Mm) := if okc S l0 11 = true then (pI S 11 l0 15 0).bind fun S1 => (f_X12_isHouse S1 l0 l1).bind fun q3 => (if q3.1 = 0 then (f_X12_refuse q3.2 l0 (-1)).bind fun q6 => some ((1000000000 - q6.1), q6.2) else f_X12_owed_26 FU q3.2 l0 l1 0 0) else none
set_option maxRecDepth 20000 in
theorem t_X12_owed_26 {G : Gt} {l : Launch} : ∀ (n : Nat) (S : Mm) (l0 : Nat) (l1 : Int32) (l2 : Int32) (l3 : Int32) (T : (Int32 × Mm)), f_X12_owed_26 n S l0 l1 l2 l3 = some T → Sat G l yX12_owed cX12_owed 4 (some .int) 2 0 0 0 0 26 [.ref l0, .int l1, .int l2, .int l3] [] S (eI T) := by
  intro n
  induction n with
  | zero =>
    intro S l0 l1 l2 l3 T hf
    rw [f_X12_owed_26] at hf
    cases hf
  | succ n ih =>
    intro S l0 l1 l2 l3 T hf
    rw [f_X12_owed_26] at hf
    refine r_iload_n dX12_owed_26 rfl ?_
    refine r_aload_n dX12_owed_27 rfl ?_
    obtain ⟨x1, h2, hf⟩ := bnd hf
    refine r_getI dX12_owed_28 fs12_77_11 rfl h2 ?_
    refine r_icmp_ge (tgt := 56) dX12_owed_31 (by decide) (fun c3 => ?_) (fun c3 => ?_)
    · replace hf := (if_pos c3).symm.trans hf
      refine r_iload_n dX12_owed_56 rfl ?_
      have hz := congrArg eI (Option.some.inj hf)
      exact r_ireturn dX12_owed_57 rfl (Nat.le_of_ble_eq_true rfl) (Nat.le_of_ble_eq_true rfl) hz
    · replace hf := (if_neg c3).symm.trans hf
      refine r_iload_n dX12_owed_34 rfl ?_
      refine r_aload_n dX12_owed_35 rfl ?_
      refine r_iload_n dX12_owed_36 rfl ?_
      refine r_iload_n dX12_owed_37 rfl ?_
      obtain ⟨q4, h5, hf⟩ := bnd hf
      refine r_callVi (st := [.int l2]) (as := [.int l3, .int l1]) dX12_owed_38 ms_X12_debt ⟨rfl, w5_8, w5_10, w0_40⟩ (ok_X12_debt h5) (c_X12_debt h5) rfl ⟨by omega, by omega⟩ (Nat.le_of_ble_eq_true rfl) (by decide) (by decide) rfl ?_
      refine r_aload_n dX12_owed_41 rfl ?_
      refine r_iload_n dX12_owed_42 rfl ?_
      refine r_iload_n dX12_owed_43 rfl ?_
      obtain ⟨q6, h7, hf⟩ := bnd hf
      refine r_callVi (st := [.int q4.1, .int l2]) (as := [.int l1, .int l3]) dX12_owed_44 ms_X12_debt ⟨rfl, w5_8, w5_10, w0_40⟩ (ok_X12_debt h7) (c_X12_debt h7) rfl ⟨by omega, by omega⟩ (Nat.le_of_ble_eq_true rfl) (by decide) (by decide) rfl ?_
      refine r_isub dX12_owed_47 ?_
      refine r_iadd dX12_owed_48 ?_
      refine r_istore_n (lv' := [.ref l0, .int l1, .int (l2 + (q4.1 - q6.1)), .int l3]) dX12_owed_49 (by decide) rfl rfl ?_
      refine r_iinc (v := 1) (lv' := [.ref l0, .int l1, .int (l2 + (q4.1 - q6.1)), .int (l3 + 1)]) dX12_owed_50 rfl (by decide) (by decide) rfl rfl ?_
      refine r_goto (tgt := 26) dX12_owed_53 (by decide) ?_
      exact ih _ _ _ _ _ _ hf
set_option maxRecDepth 20000 in
theorem ok_X12_owed {S : Mm} {l0 : Nat} {l1 : Int32} {T : (Int32 × Mm)} (hf : f_X12_owed S l0 l1 = some T) : okc S l0 11 = true := (oif hf).1
set_option maxRecDepth 20000 in
theorem c_X12_owed {G : Gt} {l : Launch} {S : Mm} {l0 : Nat} {l1 : Int32} {T : (Int32 × Mm)} (hf : f_X12_owed S l0 l1 = some T) : CC G l yX12_owed cX12_owed 4 (some .int) 2 0 0 [.ref l0, .int l1] S (eI T) := by
  unfold f_X12_owed at hf
  replace hf := (oif hf).2
  refine r_body (by decide) rfl (Nat.le_of_ble_eq_true rfl) (by simp) ?_
  refine r_aload_n dX12_owed_0 rfl ?_
  refine r_iconst (v := 0) dX12_owed_1 (by decide) ?_
  obtain ⟨S1, h2, hf⟩ := bnd hf
  refine r_putI dX12_owed_2 fs12_73_11 rfl h2 ?_
  refine r_aload_n dX12_owed_5 rfl ?_
  refine r_iload_n dX12_owed_6 rfl ?_
  obtain ⟨q3, h4, hf⟩ := bnd hf
  refine r_callVi (st := []) (as := [.int l1]) dX12_owed_7 ms_X12_isHouse ⟨rfl, w4_168, w4_170, w0_30⟩ (ok_X12_isHouse h4) (c_X12_isHouse h4) rfl ⟨by omega, by omega⟩ (Nat.le_of_ble_eq_true rfl) (by decide) (by decide) rfl ?_
  refine r_if_ne (tgt := 22) dX12_owed_10 (by decide) (fun c5 => ?_) (fun c5 => ?_)
  · replace hf := (if_neg c5).symm.trans hf
    refine r_iconst (v := 0) dX12_owed_22 (by decide) ?_
    refine r_istore_n (lv' := [.ref l0, .int l1, .int 0, .null]) dX12_owed_23 (by decide) rfl rfl ?_
    refine r_iconst (v := 0) dX12_owed_24 (by decide) ?_
    refine r_istore_n (lv' := [.ref l0, .int l1, .int 0, .int 0]) dX12_owed_25 (by decide) rfl rfl ?_
    exact t_X12_owed_26 FU _ _ _ _ _ _ hf
  · replace hf := (if_pos c5).symm.trans hf
    refine r_ldc (v := 1000000000) dX12_owed_13 w5_64 ?_
    refine r_aload_n dX12_owed_15 rfl ?_
    refine r_iconst (v := (-1)) dX12_owed_16 (by decide) ?_
    obtain ⟨q6, h7, hf⟩ := bnd hf
    refine r_callVi (st := [.int 1000000000]) (as := [.int (-1)]) dX12_owed_17 ms_X12_refuse ⟨rfl, w4_119, w4_121, w0_21⟩ (ok_X12_refuse h7) (c_X12_refuse h7) rfl ⟨by omega, by omega⟩ (Nat.le_of_ble_eq_true rfl) (by decide) (by decide) rfl ?_
    refine r_isub dX12_owed_20 ?_
    have hz := congrArg eI (Option.some.inj hf)
    exact r_ireturn dX12_owed_21 rfl (Nat.le_of_ble_eq_true rfl) (Nat.le_of_ble_eq_true rfl) hz
def f_X12_rings_47 (S : Mm) (s0 : Int32) : Option (Int32 × Mm) := some (s0, S)
def f_X12_rings (S : Mm) (l0 : Nat) (l1 : Int32) : Option (Int32 × Mm) := if okc S l0 11 = true then (pI S 11 l0 15 0).bind fun S1 => (f_X12_in S1 l1.toInt64 0 1).bind fun q3 => (if q3.1 = 0 then (f_X12_refuse q3.2 l0 (-2)).bind fun q15 => some (q15.1, q15.2) else (f_X12_open q3.2 l0).bind fun q6 => (f_X12_strikeAll q6 l0).bind fun q8 => (f_X12_close q8.2 l0).bind fun q10 => (if l1 = 0 then f_X12_rings_47 q10 q8.1 else (gI q10 11 l0 19).bind fun x13 => f_X12_rings_47 q10 x13)) else none
set_option maxRecDepth 20000 in
theorem t_X12_rings_47 {G : Gt} {l : Launch} (S : Mm) (s0 : Int32) (T : (Int32 × Mm)) (hf : f_X12_rings_47 S s0 = some T) : Sat G l yX12_rings cX12_rings 3 (some .int) 4 0 0 0 0 47 [.null, .null, .null] [.int s0] S (eI T) := by
  unfold f_X12_rings_47 at hf
  have hz := congrArg eI (Option.some.inj hf)
  exact r_ireturn dX12_rings_47 rfl (Nat.le_of_ble_eq_true rfl) (Nat.le_of_ble_eq_true rfl) hz
set_option maxRecDepth 20000 in
theorem ok_X12_rings {S : Mm} {l0 : Nat} {l1 : Int32} {T : (Int32 × Mm)} (hf : f_X12_rings S l0 l1 = some T) : okc S l0 11 = true := (oif hf).1
set_option maxRecDepth 20000 in
theorem c_X12_rings {G : Gt} {l : Launch} {S : Mm} {l0 : Nat} {l1 : Int32} {T : (Int32 × Mm)} (hf : f_X12_rings S l0 l1 = some T) : CC G l yX12_rings cX12_rings 3 (some .int) 4 0 0 [.ref l0, .int l1] S (eI T) := by
  unfold f_X12_rings at hf
  replace hf := (oif hf).2
  refine r_body (by decide) rfl (Nat.le_of_ble_eq_true rfl) (by simp) ?_
  refine r_aload_n dX12_rings_0 rfl ?_
  refine r_iconst (v := 0) dX12_rings_1 (by decide) ?_
  obtain ⟨S1, h2, hf⟩ := bnd hf
  refine r_putI dX12_rings_2 fs12_73_11 rfl h2 ?_
  refine r_iload_n dX12_rings_5 rfl ?_
  refine r_i2l dX12_rings_6 ?_
  refine r_lconst (v := 0) dX12_rings_7 (by decide) ?_
  refine r_lconst (v := 1) dX12_rings_8 (by decide) ?_
  obtain ⟨q3, h4, hf⟩ := bnd hf
  refine r_callSi (st := []) (as := [.long l1.toInt64, .long 0, .long 1]) dX12_rings_9 ms_X12_in ⟨w4_145, w4_146⟩ (c_X12_in h4) rfl ⟨by omega, by omega⟩ (Nat.le_of_ble_eq_true rfl) (by decide) (by decide) rfl ?_
  refine r_if_ne (tgt := 22) dX12_rings_12 (by decide) (fun c5 => ?_) (fun c5 => ?_)
  · replace hf := (if_neg c5).symm.trans hf
    refine r_aload_n dX12_rings_22 rfl ?_
    obtain ⟨q6, h7, hf⟩ := bnd hf
    refine r_callVv (st := []) (as := []) dX12_rings_23 ms_X12_open ⟨rfl, w4_152, w4_154, w0_26⟩ (ok_X12_open h7) (c_X12_open h7) rfl ⟨by omega, by omega⟩ (Nat.le_of_ble_eq_true rfl) (by decide) (by decide) rfl ?_
    refine r_aload_n dX12_rings_26 rfl ?_
    obtain ⟨q8, h9, hf⟩ := bnd hf
    refine r_callVi (st := []) (as := []) dX12_rings_27 ms_X12_strikeAll ⟨rfl, w5_16, w5_18, w0_41⟩ (ok_X12_strikeAll h9) (c_X12_strikeAll h9) rfl ⟨by omega, by omega⟩ (Nat.le_of_ble_eq_true rfl) (by decide) (by decide) rfl ?_
    refine r_istore_n (lv' := [.ref l0, .int l1, .int q8.1]) dX12_rings_30 (by decide) rfl rfl ?_
    refine r_aload_n dX12_rings_31 rfl ?_
    obtain ⟨q10, h11, hf⟩ := bnd hf
    refine r_callVv (st := []) (as := []) dX12_rings_32 ms_X12_close ⟨rfl, w4_172, w4_174, w0_31⟩ (ok_X12_close h11) (c_X12_close h11) rfl ⟨by omega, by omega⟩ (Nat.le_of_ble_eq_true rfl) (by decide) (by decide) rfl ?_
    refine r_iload_n dX12_rings_35 rfl ?_
    refine r_if_ne (tgt := 43) dX12_rings_36 (by decide) (fun c12 => ?_) (fun c12 => ?_)
    · replace hf := (if_neg c12).symm.trans hf
      refine r_aload_n dX12_rings_43 rfl ?_
      obtain ⟨x13, h14, hf⟩ := bnd hf
      refine r_getI dX12_rings_44 fs12_133_11 rfl h14 ?_
      refine r_lvs (lv' := [.null, .null, .null]) ⟨Or.inr rfl, Or.inr rfl, Or.inr rfl, trivial⟩ ?_
      exact t_X12_rings_47 _ _ _ hf
    · replace hf := (if_pos c12).symm.trans hf
      refine r_iload_n dX12_rings_39 rfl ?_
      refine r_goto (tgt := 47) dX12_rings_40 (by decide) ?_
      refine r_lvs (lv' := [.null, .null, .null]) ⟨Or.inr rfl, Or.inr rfl, Or.inr rfl, trivial⟩ ?_
      exact t_X12_rings_47 _ _ _ hf
  · replace hf := (if_pos c5).symm.trans hf
    refine r_aload_n dX12_rings_15 rfl ?_
    refine r_bipush (v := (-2)) dX12_rings_16 (by decide) ?_
    obtain ⟨q15, h16, hf⟩ := bnd hf
    refine r_callVi (st := []) (as := [.int (-2)]) dX12_rings_18 ms_X12_refuse ⟨rfl, w4_119, w4_121, w0_21⟩ (ok_X12_refuse h16) (c_X12_refuse h16) rfl ⟨by omega, by omega⟩ (Nat.le_of_ble_eq_true rfl) (by decide) (by decide) rfl ?_
    have hz := congrArg eI (Option.some.inj hf)
    exact r_ireturn dX12_rings_21 rfl (Nat.le_of_ble_eq_true rfl) (Nat.le_of_ble_eq_true rfl) hz
def f_X12_votes_156 (k120 : Mm → Nat → Int32 → Int32 → Option (Int32 × Mm)) (S : Mm) (l0 : Nat) (l5 : Int32) (s0 : Int32) (s1 : Int32) : Option (Int32 × Mm) := k120 S l0 (s0 ||| s1) (l5 + 1)
def f_X12_votes_120 : Nat → Mm → Nat → Int32 → Int32 → Option (Int32 × Mm)
  | 0, _, _, _, _ => none
  | n + 1, S, l0, l4, l5 => (gI S 11 l0 0).bind fun x1 => (if x1 ≤ l5 then (f_X12_close S l0).bind fun q4 => some (l4, q4) else (gR S 11 l0 18).bind fun x6 => (aI S x6 l5).bind fun x8 => (gR S 11 l0 34).bind fun x10 => (aI S x10 l5).bind fun x12 => (if x8 ≤ x12 then f_X12_votes_156 (f_X12_votes_120 n) S l0 l5 l4 0 else f_X12_votes_156 (f_X12_votes_120 n) S l0 l5 l4 (1 <<< (l5 &&& 31))))
def f_X12_votes_68 : Nat → Mm → Nat → Int32 → Int32 → Int32 → Option (Int32 × Mm)
  | 0, _, _, _, _, _ => none
  | n + 1, S, l0, l1, l2, l4 => (if 6 ≤ l4 then (f_X12_close S l0).bind fun q2 => (f_X12_open q2 l0).bind fun q4 => (pI q4 11 l0 1 l1).bind fun S6 => (f_X12_servedIn S6 l0 l2).bind fun q8 => f_X12_votes_120 FU q8.2 l0 0 0 else (gR S 11 l0 34).bind fun x10 => (gR S 11 l0 18).bind fun x12 => (aI S x12 l4).bind fun x14 => (aS S x10 l4 x14).bind fun S16 => (f_X12_votes_68 n) S16 l0 l1 l2 (l4 + 1))
def f_X12_votes_44 (S : Mm) (l0 : Nat) (l1 : Int32) (l2 : Int32) (s0 : Int32) : Option (Int32 × Mm) := (if 0 ≤ s0 then (f_X12_open S l0).bind fun q2 => (f_X12_servedIn q2 l0 l2).bind fun q4 => f_X12_votes_68 FU q4.2 l0 l1 l2 0 else (f_X12_refuse S l0 s0).bind fun q6 => some (q6.1, q6.2))
def f_X12_votes (S : Mm) (l0 : Nat) (l1 : Int32) (l2 : Int32) : Option (Int32 × Mm) := if okc S l0 11 = true then (pI S 11 l0 15 0).bind fun S1 => (f_X12_in S1 l1.toInt64 0 2).bind fun q3 => (if q3.1 = 0 then f_X12_votes_44 q3.2 l0 l1 l2 (-2) else (if 1 ≤ l2 then (if l2 ≤ 30 then f_X12_votes_44 q3.2 l0 l1 l2 0 else f_X12_votes_44 q3.2 l0 l1 l2 (-6)) else f_X12_votes_44 q3.2 l0 l1 l2 (-4))) else none
set_option maxRecDepth 20000 in
theorem t_X12_votes_156 {G : Gt} {l : Launch} (k120 : Mm → Nat → Int32 → Int32 → Option (Int32 × Mm)) (hk120 : ∀ (S : Mm) (l0 : Nat) (l4 : Int32) (l5 : Int32) (T : (Int32 × Mm)), k120 S l0 l4 l5 = some T → Sat G l yX12_votes cX12_votes 6 (some .int) 6 0 0 0 0 120 [.ref l0, .null, .null, .null, .int l4, .int l5] [] S (eI T)) (S : Mm) (l0 : Nat) (l5 : Int32) (s0 : Int32) (s1 : Int32) (T : (Int32 × Mm)) (hf : f_X12_votes_156 k120 S l0 l5 s0 s1 = some T) : Sat G l yX12_votes cX12_votes 6 (some .int) 6 0 0 0 0 156 [.ref l0, .null, .null, .null, .null, .int l5] [.int s1, .int s0] S (eI T) := by
  unfold f_X12_votes_156 at hf
  refine r_ior dX12_votes_156 ?_
  refine r_istore (lv' := [.ref l0, .null, .null, .null, .int (s0 ||| s1), .int l5]) dX12_votes_157 (by decide) rfl rfl ?_
  refine r_iinc (v := 1) (lv' := [.ref l0, .null, .null, .null, .int (s0 ||| s1), .int (l5 + 1)]) dX12_votes_159 rfl (by decide) (by decide) rfl rfl ?_
  refine r_goto (tgt := 120) dX12_votes_162 (by decide) ?_
  exact hk120 _ _ _ _ _ hf
set_option maxRecDepth 20000 in
theorem t_X12_votes_120 {G : Gt} {l : Launch} : ∀ (n : Nat) (S : Mm) (l0 : Nat) (l4 : Int32) (l5 : Int32) (T : (Int32 × Mm)), f_X12_votes_120 n S l0 l4 l5 = some T → Sat G l yX12_votes cX12_votes 6 (some .int) 6 0 0 0 0 120 [.ref l0, .null, .null, .null, .int l4, .int l5] [] S (eI T) := by
  intro n
  induction n with
  | zero =>
    intro S l0 l4 l5 T hf
    rw [f_X12_votes_120] at hf
    cases hf
  | succ n ih =>
    intro S l0 l4 l5 T hf
    rw [f_X12_votes_120] at hf
    refine r_iload dX12_votes_120 rfl ?_
    refine r_aload_n dX12_votes_122 rfl ?_
    obtain ⟨x1, h2, hf⟩ := bnd hf
    refine r_getI dX12_votes_123 fs12_77_11 rfl h2 ?_
    refine r_icmp_ge (tgt := 165) dX12_votes_126 (by decide) (fun c3 => ?_) (fun c3 => ?_)
    · replace hf := (if_pos c3).symm.trans hf
      refine r_aload_n dX12_votes_165 rfl ?_
      obtain ⟨q4, h5, hf⟩ := bnd hf
      refine r_callVv (st := []) (as := []) dX12_votes_166 ms_X12_close ⟨rfl, w4_172, w4_174, w0_31⟩ (ok_X12_close h5) (c_X12_close h5) rfl ⟨by omega, by omega⟩ (Nat.le_of_ble_eq_true rfl) (by decide) (by decide) rfl ?_
      refine r_iload dX12_votes_169 rfl ?_
      have hz := congrArg eI (Option.some.inj hf)
      exact r_ireturn dX12_votes_171 rfl (Nat.le_of_ble_eq_true rfl) (Nat.le_of_ble_eq_true rfl) hz
    · replace hf := (if_neg c3).symm.trans hf
      refine r_iload dX12_votes_129 rfl ?_
      refine r_aload_n dX12_votes_131 rfl ?_
      obtain ⟨x6, h7, hf⟩ := bnd hf
      refine r_getR dX12_votes_132 fs12_46_11 rfl h7 ?_
      refine r_iload dX12_votes_135 rfl ?_
      obtain ⟨x8, h9, hf⟩ := bnd hf
      refine r_iaload dX12_votes_137 h9 ?_
      refine r_aload_n dX12_votes_138 rfl ?_
      obtain ⟨x10, h11, hf⟩ := bnd hf
      refine r_getR dX12_votes_139 fs12_67_11 rfl h11 ?_
      refine r_iload dX12_votes_142 rfl ?_
      obtain ⟨x12, h13, hf⟩ := bnd hf
      refine r_iaload dX12_votes_144 h13 ?_
      refine r_icmp_le (tgt := 155) dX12_votes_145 (by decide) (fun c14 => ?_) (fun c14 => ?_)
      · replace hf := (if_pos c14).symm.trans hf
        refine r_iconst (v := 0) dX12_votes_155 (by decide) ?_
        refine r_lvs (lv' := [.ref l0, .null, .null, .null, .null, .int l5]) ⟨Or.inl rfl, Or.inl rfl, Or.inl rfl, Or.inl rfl, Or.inr rfl, Or.inl rfl, trivial⟩ ?_
        exact t_X12_votes_156 (f_X12_votes_120 n) ih _ _ _ _ _ _ hf
      · replace hf := (if_neg c14).symm.trans hf
        refine r_iconst (v := 1) dX12_votes_148 (by decide) ?_
        refine r_iload dX12_votes_149 rfl ?_
        refine r_ishl dX12_votes_151 ?_
        refine r_goto (tgt := 156) dX12_votes_152 (by decide) ?_
        refine r_lvs (lv' := [.ref l0, .null, .null, .null, .null, .int l5]) ⟨Or.inl rfl, Or.inl rfl, Or.inl rfl, Or.inl rfl, Or.inr rfl, Or.inl rfl, trivial⟩ ?_
        exact t_X12_votes_156 (f_X12_votes_120 n) ih _ _ _ _ _ _ hf
set_option maxRecDepth 20000 in
theorem t_X12_votes_68 {G : Gt} {l : Launch} : ∀ (n : Nat) (S : Mm) (l0 : Nat) (l1 : Int32) (l2 : Int32) (l4 : Int32) (T : (Int32 × Mm)), f_X12_votes_68 n S l0 l1 l2 l4 = some T → Sat G l yX12_votes cX12_votes 6 (some .int) 6 0 0 0 0 68 [.ref l0, .int l1, .int l2, .null, .int l4, .null] [] S (eI T) := by
  intro n
  induction n with
  | zero =>
    intro S l0 l1 l2 l4 T hf
    rw [f_X12_votes_68] at hf
    cases hf
  | succ n ih =>
    intro S l0 l1 l2 l4 T hf
    rw [f_X12_votes_68] at hf
    refine r_iload dX12_votes_68 rfl ?_
    refine r_bipush (v := 6) dX12_votes_70 (by decide) ?_
    refine r_icmp_ge (tgt := 95) dX12_votes_72 (by decide) (fun c1 => ?_) (fun c1 => ?_)
    · replace hf := (if_pos c1).symm.trans hf
      refine r_aload_n dX12_votes_95 rfl ?_
      obtain ⟨q2, h3, hf⟩ := bnd hf
      refine r_callVv (st := []) (as := []) dX12_votes_96 ms_X12_close ⟨rfl, w4_172, w4_174, w0_31⟩ (ok_X12_close h3) (c_X12_close h3) rfl ⟨by omega, by omega⟩ (Nat.le_of_ble_eq_true rfl) (by decide) (by decide) rfl ?_
      refine r_aload_n dX12_votes_99 rfl ?_
      obtain ⟨q4, h5, hf⟩ := bnd hf
      refine r_callVv (st := []) (as := []) dX12_votes_100 ms_X12_open ⟨rfl, w4_152, w4_154, w0_26⟩ (ok_X12_open h5) (c_X12_open h5) rfl ⟨by omega, by omega⟩ (Nat.le_of_ble_eq_true rfl) (by decide) (by decide) rfl ?_
      refine r_aload_n dX12_votes_103 rfl ?_
      refine r_iload_n dX12_votes_104 rfl ?_
      obtain ⟨S6, h7, hf⟩ := bnd hf
      refine r_putI dX12_votes_105 fs12_97_11 rfl h7 ?_
      refine r_aload_n dX12_votes_108 rfl ?_
      refine r_iload_n dX12_votes_109 rfl ?_
      obtain ⟨q8, h9, hf⟩ := bnd hf
      refine r_callVi (st := []) (as := [.int l2]) dX12_votes_110 ms_X12_servedIn ⟨rfl, w5_32, w5_34, w0_44⟩ (ok_X12_servedIn h9) (c_X12_servedIn h9) rfl ⟨by omega, by omega⟩ (Nat.le_of_ble_eq_true rfl) (by decide) (by decide) rfl ?_
      refine r_pop dX12_votes_113 rfl ?_
      refine r_iconst (v := 0) dX12_votes_114 (by decide) ?_
      refine r_istore (lv' := [.ref l0, .int l1, .int l2, .null, .int 0, .null]) dX12_votes_115 (by decide) rfl rfl ?_
      refine r_iconst (v := 0) dX12_votes_117 (by decide) ?_
      refine r_istore (lv' := [.ref l0, .int l1, .int l2, .null, .int 0, .int 0]) dX12_votes_118 (by decide) rfl rfl ?_
      refine r_lvs (lv' := [.ref l0, .null, .null, .null, .int 0, .int 0]) ⟨Or.inl rfl, Or.inr rfl, Or.inr rfl, Or.inl rfl, Or.inl rfl, Or.inl rfl, trivial⟩ ?_
      exact t_X12_votes_120 FU _ _ _ _ _ hf
    · replace hf := (if_neg c1).symm.trans hf
      refine r_aload_n dX12_votes_75 rfl ?_
      obtain ⟨x10, h11, hf⟩ := bnd hf
      refine r_getR dX12_votes_76 fs12_67_11 rfl h11 ?_
      refine r_iload dX12_votes_79 rfl ?_
      refine r_aload_n dX12_votes_81 rfl ?_
      obtain ⟨x12, h13, hf⟩ := bnd hf
      refine r_getR dX12_votes_82 fs12_46_11 rfl h13 ?_
      refine r_iload dX12_votes_85 rfl ?_
      obtain ⟨x14, h15, hf⟩ := bnd hf
      refine r_iaload dX12_votes_87 h15 ?_
      obtain ⟨S16, h17, hf⟩ := bnd hf
      refine r_iastore dX12_votes_88 h17 ?_
      refine r_iinc (v := 1) (lv' := [.ref l0, .int l1, .int l2, .null, .int (l4 + 1), .null]) dX12_votes_89 rfl (by decide) (by decide) rfl rfl ?_
      refine r_goto (tgt := 68) dX12_votes_92 (by decide) ?_
      exact ih _ _ _ _ _ _ hf
set_option maxRecDepth 20000 in
theorem t_X12_votes_44 {G : Gt} {l : Launch} (S : Mm) (l0 : Nat) (l1 : Int32) (l2 : Int32) (s0 : Int32) (T : (Int32 × Mm)) (hf : f_X12_votes_44 S l0 l1 l2 s0 = some T) : Sat G l yX12_votes cX12_votes 6 (some .int) 6 0 0 0 0 44 [.ref l0, .int l1, .int l2, .null, .null, .null] [.int s0] S (eI T) := by
  unfold f_X12_votes_44 at hf
  refine r_istore_n (lv' := [.ref l0, .int l1, .int l2, .int s0, .null, .null]) dX12_votes_44 (by decide) rfl rfl ?_
  refine r_iload_n dX12_votes_45 rfl ?_
  refine r_if_ge (tgt := 55) dX12_votes_46 (by decide) (fun c1 => ?_) (fun c1 => ?_)
  · replace hf := (if_pos c1).symm.trans hf
    refine r_aload_n dX12_votes_55 rfl ?_
    obtain ⟨q2, h3, hf⟩ := bnd hf
    refine r_callVv (st := []) (as := []) dX12_votes_56 ms_X12_open ⟨rfl, w4_152, w4_154, w0_26⟩ (ok_X12_open h3) (c_X12_open h3) rfl ⟨by omega, by omega⟩ (Nat.le_of_ble_eq_true rfl) (by decide) (by decide) rfl ?_
    refine r_aload_n dX12_votes_59 rfl ?_
    refine r_iload_n dX12_votes_60 rfl ?_
    obtain ⟨q4, h5, hf⟩ := bnd hf
    refine r_callVi (st := []) (as := [.int l2]) dX12_votes_61 ms_X12_servedIn ⟨rfl, w5_32, w5_34, w0_44⟩ (ok_X12_servedIn h5) (c_X12_servedIn h5) rfl ⟨by omega, by omega⟩ (Nat.le_of_ble_eq_true rfl) (by decide) (by decide) rfl ?_
    refine r_pop dX12_votes_64 rfl ?_
    refine r_iconst (v := 0) dX12_votes_65 (by decide) ?_
    refine r_istore (lv' := [.ref l0, .int l1, .int l2, .int s0, .int 0, .null]) dX12_votes_66 (by decide) rfl rfl ?_
    refine r_lvs (lv' := [.ref l0, .int l1, .int l2, .null, .int 0, .null]) ⟨Or.inl rfl, Or.inl rfl, Or.inl rfl, Or.inr rfl, Or.inl rfl, Or.inl rfl, trivial⟩ ?_
    exact t_X12_votes_68 FU _ _ _ _ _ _ hf
  · replace hf := (if_neg c1).symm.trans hf
    refine r_aload_n dX12_votes_49 rfl ?_
    refine r_iload_n dX12_votes_50 rfl ?_
    obtain ⟨q6, h7, hf⟩ := bnd hf
    refine r_callVi (st := []) (as := [.int s0]) dX12_votes_51 ms_X12_refuse ⟨rfl, w4_119, w4_121, w0_21⟩ (ok_X12_refuse h7) (c_X12_refuse h7) rfl ⟨by omega, by omega⟩ (Nat.le_of_ble_eq_true rfl) (by decide) (by decide) rfl ?_
    have hz := congrArg eI (Option.some.inj hf)
    exact r_ireturn dX12_votes_54 rfl (Nat.le_of_ble_eq_true rfl) (Nat.le_of_ble_eq_true rfl) hz
set_option maxRecDepth 20000 in
theorem ok_X12_votes {S : Mm} {l0 : Nat} {l1 : Int32} {l2 : Int32} {T : (Int32 × Mm)} (hf : f_X12_votes S l0 l1 l2 = some T) : okc S l0 11 = true := (oif hf).1
set_option maxRecDepth 20000 in
theorem c_X12_votes {G : Gt} {l : Launch} {S : Mm} {l0 : Nat} {l1 : Int32} {l2 : Int32} {T : (Int32 × Mm)} (hf : f_X12_votes S l0 l1 l2 = some T) : CC G l yX12_votes cX12_votes 6 (some .int) 6 0 0 [.ref l0, .int l1, .int l2] S (eI T) := by
  unfold f_X12_votes at hf
  replace hf := (oif hf).2
  refine r_body (by decide) rfl (Nat.le_of_ble_eq_true rfl) (by simp) ?_
  refine r_aload_n dX12_votes_0 rfl ?_
  refine r_iconst (v := 0) dX12_votes_1 (by decide) ?_
  obtain ⟨S1, h2, hf⟩ := bnd hf
  refine r_putI dX12_votes_2 fs12_73_11 rfl h2 ?_
  refine r_iload_n dX12_votes_5 rfl ?_
  refine r_i2l dX12_votes_6 ?_
  refine r_lconst (v := 0) dX12_votes_7 (by decide) ?_
  refine r_ldc2 (v := 2) dX12_votes_8 w4_195 ?_
  obtain ⟨q3, h4, hf⟩ := bnd hf
  refine r_callSi (st := []) (as := [.long l1.toInt64, .long 0, .long 2]) dX12_votes_11 ms_X12_in ⟨w4_145, w4_146⟩ (c_X12_in h4) rfl ⟨by omega, by omega⟩ (Nat.le_of_ble_eq_true rfl) (by decide) (by decide) rfl ?_
  refine r_if_ne (tgt := 22) dX12_votes_14 (by decide) (fun c5 => ?_) (fun c5 => ?_)
  · replace hf := (if_neg c5).symm.trans hf
    refine r_iload_n dX12_votes_22 rfl ?_
    refine r_iconst (v := 1) dX12_votes_23 (by decide) ?_
    refine r_icmp_ge (tgt := 32) dX12_votes_24 (by decide) (fun c6 => ?_) (fun c6 => ?_)
    · replace hf := (if_pos c6).symm.trans hf
      refine r_iload_n dX12_votes_32 rfl ?_
      refine r_bipush (v := 30) dX12_votes_33 (by decide) ?_
      refine r_icmp_le (tgt := 43) dX12_votes_35 (by decide) (fun c7 => ?_) (fun c7 => ?_)
      · replace hf := (if_pos c7).symm.trans hf
        refine r_iconst (v := 0) dX12_votes_43 (by decide) ?_
        exact t_X12_votes_44 _ _ _ _ _ _ hf
      · replace hf := (if_neg c7).symm.trans hf
        refine r_bipush (v := (-6)) dX12_votes_38 (by decide) ?_
        refine r_goto (tgt := 44) dX12_votes_40 (by decide) ?_
        exact t_X12_votes_44 _ _ _ _ _ _ hf
    · replace hf := (if_neg c6).symm.trans hf
      refine r_bipush (v := (-4)) dX12_votes_27 (by decide) ?_
      refine r_goto (tgt := 44) dX12_votes_29 (by decide) ?_
      exact t_X12_votes_44 _ _ _ _ _ _ hf
  · replace hf := (if_pos c5).symm.trans hf
    refine r_bipush (v := (-2)) dX12_votes_17 (by decide) ?_
    refine r_goto (tgt := 44) dX12_votes_19 (by decide) ?_
    exact t_X12_votes_44 _ _ _ _ _ _ hf
def f_X12_row_32 (S : Mm) (l0 : Nat) : Option (Int32 × Mm) := (f_X12_refuse S l0 (-6)).bind fun q1 => some (q1.1, q1.2)
def f_X12_row (S : Mm) (l0 : Nat) (l1 : Int32) : Option (Int32 × Mm) := if okc S l0 11 = true then (pI S 11 l0 15 0).bind fun S1 => (if 0 ≤ l1 then (if 999 < l1 then f_X12_row_32 S1 l0 else (gI S1 11 l0 36).bind fun x5 => (if x5 = 8 then f_X12_row_32 S1 l0 else (gR S1 11 l0 35).bind fun x8 => (gI S1 11 l0 36).bind fun x10 => (aS S1 x8 x10 l1).bind fun S12 => (gI S12 11 l0 36).bind fun x14 => (pI S12 11 l0 36 (x14 + 1)).bind fun S16 => (gI S16 11 l0 36).bind fun x18 => some (x18, S16))) else (f_X12_refuse S1 l0 (-4)).bind fun q20 => some (q20.1, q20.2)) else none
set_option maxRecDepth 20000 in
theorem t_X12_row_32 {G : Gt} {l : Launch} (S : Mm) (l0 : Nat) (T : (Int32 × Mm)) (hf : f_X12_row_32 S l0 = some T) : Sat G l yX12_row cX12_row 2 (some .int) 1 0 0 0 0 32 [.ref l0, .null] [] S (eI T) := by
  unfold f_X12_row_32 at hf
  refine r_aload_n dX12_row_32 rfl ?_
  refine r_bipush (v := (-6)) dX12_row_33 (by decide) ?_
  obtain ⟨q1, h2, hf⟩ := bnd hf
  refine r_callVi (st := []) (as := [.int (-6)]) dX12_row_35 ms_X12_refuse ⟨rfl, w4_119, w4_121, w0_21⟩ (ok_X12_refuse h2) (c_X12_refuse h2) rfl ⟨by omega, by omega⟩ (Nat.le_of_ble_eq_true rfl) (by decide) (by decide) rfl ?_
  have hz := congrArg eI (Option.some.inj hf)
  exact r_ireturn dX12_row_38 rfl (Nat.le_of_ble_eq_true rfl) (Nat.le_of_ble_eq_true rfl) hz
set_option maxRecDepth 20000 in
theorem ok_X12_row {S : Mm} {l0 : Nat} {l1 : Int32} {T : (Int32 × Mm)} (hf : f_X12_row S l0 l1 = some T) : okc S l0 11 = true := (oif hf).1
set_option maxRecDepth 20000 in
theorem c_X12_row {G : Gt} {l : Launch} {S : Mm} {l0 : Nat} {l1 : Int32} {T : (Int32 × Mm)} (hf : f_X12_row S l0 l1 = some T) : CC G l yX12_row cX12_row 2 (some .int) 1 0 0 [.ref l0, .int l1] S (eI T) := by
  unfold f_X12_row at hf
  replace hf := (oif hf).2
  refine r_body (by decide) rfl (Nat.le_of_ble_eq_true rfl) (by simp) ?_
  refine r_aload_n dX12_row_0 rfl ?_
  refine r_iconst (v := 0) dX12_row_1 (by decide) ?_
  obtain ⟨S1, h2, hf⟩ := bnd hf
  refine r_putI dX12_row_2 fs12_73_11 rfl h2 ?_
  refine r_iload_n dX12_row_5 rfl ?_
  refine r_if_ge (tgt := 16) dX12_row_6 (by decide) (fun c3 => ?_) (fun c3 => ?_)
  · replace hf := (if_pos c3).symm.trans hf
    refine r_iload_n dX12_row_16 rfl ?_
    refine r_sipush (v := 999) dX12_row_17 (by decide) ?_
    refine r_icmp_gt (tgt := 32) dX12_row_20 (by decide) (fun c4 => ?_) (fun c4 => ?_)
    · replace hf := (if_pos c4).symm.trans hf
      refine r_lvs (lv' := [.ref l0, .null]) ⟨Or.inl rfl, Or.inr rfl, trivial⟩ ?_
      exact t_X12_row_32 _ _ _ hf
    · replace hf := (if_neg c4).symm.trans hf
      refine r_aload_n dX12_row_23 rfl ?_
      obtain ⟨x5, h6, hf⟩ := bnd hf
      refine r_getI dX12_row_24 fs12_233_11 rfl h6 ?_
      refine r_bipush (v := 8) dX12_row_27 (by decide) ?_
      refine r_icmp_ne (tgt := 39) dX12_row_29 (by decide) (fun c7 => ?_) (fun c7 => ?_)
      · replace hf := (if_neg c7).symm.trans hf
        refine r_aload_n dX12_row_39 rfl ?_
        obtain ⟨x8, h9, hf⟩ := bnd hf
        refine r_getR dX12_row_40 fs12_70_11 rfl h9 ?_
        refine r_aload_n dX12_row_43 rfl ?_
        obtain ⟨x10, h11, hf⟩ := bnd hf
        refine r_getI dX12_row_44 fs12_233_11 rfl h11 ?_
        refine r_iload_n dX12_row_47 rfl ?_
        obtain ⟨S12, h13, hf⟩ := bnd hf
        refine r_iastore dX12_row_48 h13 ?_
        refine r_aload_n dX12_row_49 rfl ?_
        refine r_dup dX12_row_50 rfl ?_
        obtain ⟨x14, h15, hf⟩ := bnd hf
        refine r_getI dX12_row_51 fs12_233_11 rfl h15 ?_
        refine r_iconst (v := 1) dX12_row_54 (by decide) ?_
        refine r_iadd dX12_row_55 ?_
        obtain ⟨S16, h17, hf⟩ := bnd hf
        refine r_putI dX12_row_56 fs12_233_11 rfl h17 ?_
        refine r_aload_n dX12_row_59 rfl ?_
        obtain ⟨x18, h19, hf⟩ := bnd hf
        refine r_getI dX12_row_60 fs12_233_11 rfl h19 ?_
        have hz := congrArg eI (Option.some.inj hf)
        exact r_ireturn dX12_row_63 rfl (Nat.le_of_ble_eq_true rfl) (Nat.le_of_ble_eq_true rfl) hz
      · replace hf := (if_pos c7).symm.trans hf
        refine r_lvs (lv' := [.ref l0, .null]) ⟨Or.inl rfl, Or.inr rfl, trivial⟩ ?_
        exact t_X12_row_32 _ _ _ hf
  · replace hf := (if_neg c3).symm.trans hf
    refine r_aload_n dX12_row_9 rfl ?_
    refine r_bipush (v := (-4)) dX12_row_10 (by decide) ?_
    obtain ⟨q20, h21, hf⟩ := bnd hf
    refine r_callVi (st := []) (as := [.int (-4)]) dX12_row_12 ms_X12_refuse ⟨rfl, w4_119, w4_121, w0_21⟩ (ok_X12_refuse h21) (c_X12_refuse h21) rfl ⟨by omega, by omega⟩ (Nat.le_of_ble_eq_true rfl) (by decide) (by decide) rfl ?_
    have hz := congrArg eI (Option.some.inj hf)
    exact r_ireturn dX12_row_15 rfl (Nat.le_of_ble_eq_true rfl) (Nat.le_of_ble_eq_true rfl) hz
def f_X12_isSold_45 (S : Mm) (l4 : Int32) : Option (Int32 × Mm) := (rB l4).bind fun x1 => some (x1, S)
def f_X12_isSold_31 (S : Mm) (l0 : Nat) (l1 : Int32) (l2 : Int32) (l3 : Int32) (s0 : Int32) : Option (Int32 × Mm) := (if s0 = 0 then f_X12_isSold_45 S s0 else (f_X12_sell S l0 l1 l2 l3).bind fun q2 => f_X12_isSold_45 q2 s0)
def f_X12_isSold_30 (S : Mm) (l0 : Nat) (l1 : Int32) (l2 : Int32) (l3 : Int32) : Option (Int32 × Mm) := f_X12_isSold_31 S l0 l1 l2 l3 0
def f_X12_isSold (S : Mm) (l0 : Nat) (l1 : Int32) (l2 : Int32) (l3 : Int32) : Option (Int32 × Mm) := if okc S l0 11 = true then (f_X12_areTwo S l0 l1 l2).bind fun q1 => (if q1.1 = 0 then f_X12_isSold_30 q1.2 l0 l1 l2 l3 else (f_X12_isGood q1.2 l3).bind fun q4 => (if q4.1 = 0 then f_X12_isSold_30 q4.2 l0 l1 l2 l3 else (f_X12_canSell q4.2 l0 l1 l2 l3).bind fun q7 => (if q7.1 = 0 then f_X12_isSold_30 q7.2 l0 l1 l2 l3 else f_X12_isSold_31 q7.2 l0 l1 l2 l3 1))) else none
set_option maxRecDepth 20000 in
theorem t_X12_isSold_45 {G : Gt} {l : Launch} (S : Mm) (l4 : Int32) (T : (Int32 × Mm)) (hf : f_X12_isSold_45 S l4 = some T) : Sat G l yX12_isSold cX12_isSold 5 (some .boolean) 3 0 0 0 0 45 [.null, .null, .null, .null, .int l4] [] S (eI T) := by
  unfold f_X12_isSold_45 at hf
  refine r_iload dX12_isSold_45 rfl ?_
  obtain ⟨x1, h2, hf⟩ := bnd hf
  have hz := congrArg eI (Option.some.inj hf)
  exact r_zreturn dX12_isSold_47 rfl (Nat.le_of_ble_eq_true rfl) (Nat.le_of_ble_eq_true rfl) h2 hz
set_option maxRecDepth 20000 in
theorem t_X12_isSold_31 {G : Gt} {l : Launch} (S : Mm) (l0 : Nat) (l1 : Int32) (l2 : Int32) (l3 : Int32) (s0 : Int32) (T : (Int32 × Mm)) (hf : f_X12_isSold_31 S l0 l1 l2 l3 s0 = some T) : Sat G l yX12_isSold cX12_isSold 5 (some .boolean) 3 0 0 0 0 31 [.ref l0, .int l1, .int l2, .int l3, .null] [.int s0] S (eI T) := by
  unfold f_X12_isSold_31 at hf
  refine r_istore (lv' := [.ref l0, .int l1, .int l2, .int l3, .int s0]) dX12_isSold_31 (by decide) rfl rfl ?_
  refine r_iload dX12_isSold_33 rfl ?_
  refine r_if_eq (tgt := 45) dX12_isSold_35 (by decide) (fun c1 => ?_) (fun c1 => ?_)
  · replace hf := (if_pos c1).symm.trans hf
    refine r_lvs (lv' := [.null, .null, .null, .null, .int s0]) ⟨Or.inr rfl, Or.inr rfl, Or.inr rfl, Or.inr rfl, Or.inl rfl, trivial⟩ ?_
    exact t_X12_isSold_45 _ _ _ hf
  · replace hf := (if_neg c1).symm.trans hf
    refine r_aload_n dX12_isSold_38 rfl ?_
    refine r_iload_n dX12_isSold_39 rfl ?_
    refine r_iload_n dX12_isSold_40 rfl ?_
    refine r_iload_n dX12_isSold_41 rfl ?_
    obtain ⟨q2, h3, hf⟩ := bnd hf
    refine r_callVv (st := []) (as := [.int l1, .int l2, .int l3]) dX12_isSold_42 ms_X12_sell ⟨rfl, w4_220, w4_222, w0_36⟩ (ok_X12_sell h3) (c_X12_sell h3) rfl ⟨by omega, by omega⟩ (Nat.le_of_ble_eq_true rfl) (by decide) (by decide) rfl ?_
    refine r_lvs (lv' := [.null, .null, .null, .null, .int s0]) ⟨Or.inr rfl, Or.inr rfl, Or.inr rfl, Or.inr rfl, Or.inl rfl, trivial⟩ ?_
    exact t_X12_isSold_45 _ _ _ hf
set_option maxRecDepth 20000 in
theorem t_X12_isSold_30 {G : Gt} {l : Launch} (S : Mm) (l0 : Nat) (l1 : Int32) (l2 : Int32) (l3 : Int32) (T : (Int32 × Mm)) (hf : f_X12_isSold_30 S l0 l1 l2 l3 = some T) : Sat G l yX12_isSold cX12_isSold 5 (some .boolean) 3 0 0 0 0 30 [.ref l0, .int l1, .int l2, .int l3, .null] [] S (eI T) := by
  unfold f_X12_isSold_30 at hf
  refine r_iconst (v := 0) dX12_isSold_30 (by decide) ?_
  exact t_X12_isSold_31 _ _ _ _ _ _ _ hf
set_option maxRecDepth 20000 in
theorem ok_X12_isSold {S : Mm} {l0 : Nat} {l1 : Int32} {l2 : Int32} {l3 : Int32} {T : (Int32 × Mm)} (hf : f_X12_isSold S l0 l1 l2 l3 = some T) : okc S l0 11 = true := (oif hf).1
set_option maxRecDepth 20000 in
theorem c_X12_isSold {G : Gt} {l : Launch} {S : Mm} {l0 : Nat} {l1 : Int32} {l2 : Int32} {l3 : Int32} {T : (Int32 × Mm)} (hf : f_X12_isSold S l0 l1 l2 l3 = some T) : CC G l yX12_isSold cX12_isSold 5 (some .boolean) 3 0 0 [.ref l0, .int l1, .int l2, .int l3] S (eI T) := by
  unfold f_X12_isSold at hf
  replace hf := (oif hf).2
  refine r_body (by decide) rfl (Nat.le_of_ble_eq_true rfl) (by simp) ?_
  refine r_aload_n dX12_isSold_0 rfl ?_
  refine r_iload_n dX12_isSold_1 rfl ?_
  refine r_iload_n dX12_isSold_2 rfl ?_
  obtain ⟨q1, h2, hf⟩ := bnd hf
  refine r_callVi (st := []) (as := [.int l1, .int l2]) dX12_isSold_3 ms_X12_areTwo ⟨rfl, w4_164, w4_166, w0_29⟩ (ok_X12_areTwo h2) (c_X12_areTwo h2) rfl ⟨by omega, by omega⟩ (Nat.le_of_ble_eq_true rfl) (by decide) (by decide) rfl ?_
  refine r_if_eq (tgt := 30) dX12_isSold_6 (by decide) (fun c3 => ?_) (fun c3 => ?_)
  · replace hf := (if_pos c3).symm.trans hf
    exact t_X12_isSold_30 _ _ _ _ _ _ hf
  · replace hf := (if_neg c3).symm.trans hf
    refine r_iload_n dX12_isSold_9 rfl ?_
    obtain ⟨q4, h5, hf⟩ := bnd hf
    refine r_callSi (st := []) (as := [.int l3]) dX12_isSold_10 ms_X12_isGood ⟨w4_192, w4_193⟩ (c_X12_isGood h5) rfl ⟨by omega, by omega⟩ (Nat.le_of_ble_eq_true rfl) (by decide) (by decide) rfl ?_
    refine r_if_eq (tgt := 30) dX12_isSold_13 (by decide) (fun c6 => ?_) (fun c6 => ?_)
    · replace hf := (if_pos c6).symm.trans hf
      exact t_X12_isSold_30 _ _ _ _ _ _ hf
    · replace hf := (if_neg c6).symm.trans hf
      refine r_aload_n dX12_isSold_16 rfl ?_
      refine r_iload_n dX12_isSold_17 rfl ?_
      refine r_iload_n dX12_isSold_18 rfl ?_
      refine r_iload_n dX12_isSold_19 rfl ?_
      obtain ⟨q7, h8, hf⟩ := bnd hf
      refine r_callVi (st := []) (as := [.int l1, .int l2, .int l3]) dX12_isSold_20 ms_X12_canSell ⟨rfl, w4_216, w4_218, w0_35⟩ (ok_X12_canSell h8) (c_X12_canSell h8) rfl ⟨by omega, by omega⟩ (Nat.le_of_ble_eq_true rfl) (by decide) (by decide) rfl ?_
      refine r_if_eq (tgt := 30) dX12_isSold_23 (by decide) (fun c9 => ?_) (fun c9 => ?_)
      · replace hf := (if_pos c9).symm.trans hf
        exact t_X12_isSold_30 _ _ _ _ _ _ hf
      · replace hf := (if_neg c9).symm.trans hf
        refine r_iconst (v := 1) dX12_isSold_26 (by decide) ?_
        refine r_goto (tgt := 31) dX12_isSold_27 (by decide) ?_
        exact t_X12_isSold_31 _ _ _ _ _ _ _ hf
def f_X12_judge_76 (k24 : Mm → Nat → Int32 → Int32 → Int32 → Option (Int32 × Mm)) (S : Mm) (l0 : Nat) (l1 : Int32) (l3 : Int32) (s0 : Int32) : Option (Int32 × Mm) := k24 S l0 l1 s0 (l3 + 1)
def f_X12_judge_83 (S : Mm) (l0 : Nat) (l2 : Int32) : Option (Int32 × Mm) := (f_X12_close S l0).bind fun q1 => some (l2, q1)
def f_X12_judge_24 : Nat → Mm → Nat → Int32 → Int32 → Int32 → Option (Int32 × Mm)
  | 0, _, _, _, _, _ => none
  | n + 1, S, l0, l1, l2, l3 => (if l1 ≤ l3 then f_X12_judge_83 S l0 l2 else (if 0 ≤ l2 then f_X12_judge_83 S l0 l2 else (gR S 11 l0 35).bind fun x3 => (aI S x3 l3).bind fun x5 => (gR S 11 l0 35).bind fun x7 => (aI S x7 l3).bind fun x9 => (gR S 11 l0 35).bind fun x11 => (aI S x11 l3).bind fun x13 => (f_X12_isSold S l0 (x5 / 100) ((x9 / 10) - (x9 / 10) / 10 * 10) (x13 - x13 / 10 * 10)).bind fun q15 => (if q15.1 = 0 then f_X12_judge_76 (f_X12_judge_24 n) q15.2 l0 l1 l3 l3 else f_X12_judge_76 (f_X12_judge_24 n) q15.2 l0 l1 l3 (-9))))
def f_X12_judge (S : Mm) (l0 : Nat) : Option (Int32 × Mm) := if okc S l0 11 = true then (pI S 11 l0 15 0).bind fun S1 => (gI S1 11 l0 36).bind fun x3 => (pI S1 11 l0 36 0).bind fun S5 => (f_X12_open S5 l0).bind fun q7 => f_X12_judge_24 FU q7 l0 x3 (-9) 0 else none
set_option maxRecDepth 20000 in
theorem t_X12_judge_76 {G : Gt} {l : Launch} (k24 : Mm → Nat → Int32 → Int32 → Int32 → Option (Int32 × Mm)) (hk24 : ∀ (S : Mm) (l0 : Nat) (l1 : Int32) (l2 : Int32) (l3 : Int32) (T : (Int32 × Mm)), k24 S l0 l1 l2 l3 = some T → Sat G l yX12_judge cX12_judge 4 (some .int) 4 0 0 0 0 24 [.ref l0, .int l1, .int l2, .int l3] [] S (eI T)) (S : Mm) (l0 : Nat) (l1 : Int32) (l3 : Int32) (s0 : Int32) (T : (Int32 × Mm)) (hf : f_X12_judge_76 k24 S l0 l1 l3 s0 = some T) : Sat G l yX12_judge cX12_judge 4 (some .int) 4 0 0 0 0 76 [.ref l0, .int l1, .null, .int l3] [.int s0] S (eI T) := by
  unfold f_X12_judge_76 at hf
  refine r_istore_n (lv' := [.ref l0, .int l1, .int s0, .int l3]) dX12_judge_76 (by decide) rfl rfl ?_
  refine r_iinc (v := 1) (lv' := [.ref l0, .int l1, .int s0, .int (l3 + 1)]) dX12_judge_77 rfl (by decide) (by decide) rfl rfl ?_
  refine r_goto (tgt := 24) dX12_judge_80 (by decide) ?_
  exact hk24 _ _ _ _ _ _ hf
set_option maxRecDepth 20000 in
theorem t_X12_judge_83 {G : Gt} {l : Launch} (S : Mm) (l0 : Nat) (l2 : Int32) (T : (Int32 × Mm)) (hf : f_X12_judge_83 S l0 l2 = some T) : Sat G l yX12_judge cX12_judge 4 (some .int) 4 0 0 0 0 83 [.ref l0, .null, .int l2, .null] [] S (eI T) := by
  unfold f_X12_judge_83 at hf
  refine r_aload_n dX12_judge_83 rfl ?_
  obtain ⟨q1, h2, hf⟩ := bnd hf
  refine r_callVv (st := []) (as := []) dX12_judge_84 ms_X12_close ⟨rfl, w4_172, w4_174, w0_31⟩ (ok_X12_close h2) (c_X12_close h2) rfl ⟨by omega, by omega⟩ (Nat.le_of_ble_eq_true rfl) (by decide) (by decide) rfl ?_
  refine r_iload_n dX12_judge_87 rfl ?_
  have hz := congrArg eI (Option.some.inj hf)
  exact r_ireturn dX12_judge_88 rfl (Nat.le_of_ble_eq_true rfl) (Nat.le_of_ble_eq_true rfl) hz
set_option maxRecDepth 20000 in
theorem t_X12_judge_24 {G : Gt} {l : Launch} : ∀ (n : Nat) (S : Mm) (l0 : Nat) (l1 : Int32) (l2 : Int32) (l3 : Int32) (T : (Int32 × Mm)), f_X12_judge_24 n S l0 l1 l2 l3 = some T → Sat G l yX12_judge cX12_judge 4 (some .int) 4 0 0 0 0 24 [.ref l0, .int l1, .int l2, .int l3] [] S (eI T) := by
  intro n
  induction n with
  | zero =>
    intro S l0 l1 l2 l3 T hf
    rw [f_X12_judge_24] at hf
    cases hf
  | succ n ih =>
    intro S l0 l1 l2 l3 T hf
    rw [f_X12_judge_24] at hf
    refine r_iload_n dX12_judge_24 rfl ?_
    refine r_iload_n dX12_judge_25 rfl ?_
    refine r_icmp_ge (tgt := 83) dX12_judge_26 (by decide) (fun c1 => ?_) (fun c1 => ?_)
    · replace hf := (if_pos c1).symm.trans hf
      refine r_lvs (lv' := [.ref l0, .null, .int l2, .null]) ⟨Or.inl rfl, Or.inr rfl, Or.inl rfl, Or.inr rfl, trivial⟩ ?_
      exact t_X12_judge_83 _ _ _ _ hf
    · replace hf := (if_neg c1).symm.trans hf
      refine r_iload_n dX12_judge_29 rfl ?_
      refine r_if_ge (tgt := 83) dX12_judge_30 (by decide) (fun c2 => ?_) (fun c2 => ?_)
      · replace hf := (if_pos c2).symm.trans hf
        refine r_lvs (lv' := [.ref l0, .null, .int l2, .null]) ⟨Or.inl rfl, Or.inr rfl, Or.inl rfl, Or.inr rfl, trivial⟩ ?_
        exact t_X12_judge_83 _ _ _ _ hf
      · replace hf := (if_neg c2).symm.trans hf
        refine r_aload_n dX12_judge_33 rfl ?_
        refine r_aload_n dX12_judge_34 rfl ?_
        obtain ⟨x3, h4, hf⟩ := bnd hf
        refine r_getR dX12_judge_35 fs12_70_11 rfl h4 ?_
        refine r_iload_n dX12_judge_38 rfl ?_
        obtain ⟨x5, h6, hf⟩ := bnd hf
        refine r_iaload dX12_judge_39 h6 ?_
        refine r_bipush (v := 100) dX12_judge_40 (by decide) ?_
        refine r_idiv dX12_judge_42 (x := (x5 / 100)) rfl ?_
        refine r_aload_n dX12_judge_43 rfl ?_
        obtain ⟨x7, h8, hf⟩ := bnd hf
        refine r_getR dX12_judge_44 fs12_70_11 rfl h8 ?_
        refine r_iload_n dX12_judge_47 rfl ?_
        obtain ⟨x9, h10, hf⟩ := bnd hf
        refine r_iaload dX12_judge_48 h10 ?_
        refine r_bipush (v := 10) dX12_judge_49 (by decide) ?_
        refine r_idiv dX12_judge_51 (x := (x9 / 10)) rfl ?_
        refine r_bipush (v := 10) dX12_judge_52 (by decide) ?_
        refine r_irem dX12_judge_54 (x := ((x9 / 10) - (x9 / 10) / 10 * 10)) rfl ?_
        refine r_aload_n dX12_judge_55 rfl ?_
        obtain ⟨x11, h12, hf⟩ := bnd hf
        refine r_getR dX12_judge_56 fs12_70_11 rfl h12 ?_
        refine r_iload_n dX12_judge_59 rfl ?_
        obtain ⟨x13, h14, hf⟩ := bnd hf
        refine r_iaload dX12_judge_60 h14 ?_
        refine r_bipush (v := 10) dX12_judge_61 (by decide) ?_
        refine r_irem dX12_judge_63 (x := (x13 - x13 / 10 * 10)) rfl ?_
        obtain ⟨q15, h16, hf⟩ := bnd hf
        refine r_callVi (st := []) (as := [.int (x5 / 100), .int ((x9 / 10) - (x9 / 10) / 10 * 10), .int (x13 - x13 / 10 * 10)]) dX12_judge_64 ms_X12_isSold ⟨rfl, w5_93, w5_95, w0_48⟩ (ok_X12_isSold h16) (c_X12_isSold h16) rfl ⟨by omega, by omega⟩ (Nat.le_of_ble_eq_true rfl) (by decide) (by decide) rfl ?_
        refine r_if_eq (tgt := 75) dX12_judge_67 (by decide) (fun c17 => ?_) (fun c17 => ?_)
        · replace hf := (if_pos c17).symm.trans hf
          refine r_iload_n dX12_judge_75 rfl ?_
          refine r_lvs (lv' := [.ref l0, .int l1, .null, .int l3]) ⟨Or.inl rfl, Or.inl rfl, Or.inr rfl, Or.inl rfl, trivial⟩ ?_
          exact t_X12_judge_76 (f_X12_judge_24 n) ih _ _ _ _ _ _ hf
        · replace hf := (if_neg c17).symm.trans hf
          refine r_bipush (v := (-9)) dX12_judge_70 (by decide) ?_
          refine r_goto (tgt := 76) dX12_judge_72 (by decide) ?_
          refine r_lvs (lv' := [.ref l0, .int l1, .null, .int l3]) ⟨Or.inl rfl, Or.inl rfl, Or.inr rfl, Or.inl rfl, trivial⟩ ?_
          exact t_X12_judge_76 (f_X12_judge_24 n) ih _ _ _ _ _ _ hf
set_option maxRecDepth 20000 in
theorem ok_X12_judge {S : Mm} {l0 : Nat} {T : (Int32 × Mm)} (hf : f_X12_judge S l0 = some T) : okc S l0 11 = true := (oif hf).1
set_option maxRecDepth 20000 in
theorem c_X12_judge {G : Gt} {l : Launch} {S : Mm} {l0 : Nat} {T : (Int32 × Mm)} (hf : f_X12_judge S l0 = some T) : CC G l yX12_judge cX12_judge 4 (some .int) 4 0 0 [.ref l0] S (eI T) := by
  unfold f_X12_judge at hf
  replace hf := (oif hf).2
  refine r_body (by decide) rfl (Nat.le_of_ble_eq_true rfl) (by simp) ?_
  refine r_aload_n dX12_judge_0 rfl ?_
  refine r_iconst (v := 0) dX12_judge_1 (by decide) ?_
  obtain ⟨S1, h2, hf⟩ := bnd hf
  refine r_putI dX12_judge_2 fs12_73_11 rfl h2 ?_
  refine r_aload_n dX12_judge_5 rfl ?_
  obtain ⟨x3, h4, hf⟩ := bnd hf
  refine r_getI dX12_judge_6 fs12_233_11 rfl h4 ?_
  refine r_istore_n (lv' := [.ref l0, .int x3, .null, .null]) dX12_judge_9 (by decide) rfl rfl ?_
  refine r_aload_n dX12_judge_10 rfl ?_
  refine r_iconst (v := 0) dX12_judge_11 (by decide) ?_
  obtain ⟨S5, h6, hf⟩ := bnd hf
  refine r_putI dX12_judge_12 fs12_233_11 rfl h6 ?_
  refine r_aload_n dX12_judge_15 rfl ?_
  obtain ⟨q7, h8, hf⟩ := bnd hf
  refine r_callVv (st := []) (as := []) dX12_judge_16 ms_X12_open ⟨rfl, w4_152, w4_154, w0_26⟩ (ok_X12_open h8) (c_X12_open h8) rfl ⟨by omega, by omega⟩ (Nat.le_of_ble_eq_true rfl) (by decide) (by decide) rfl ?_
  refine r_bipush (v := (-9)) dX12_judge_19 (by decide) ?_
  refine r_istore_n (lv' := [.ref l0, .int x3, .int (-9), .null]) dX12_judge_21 (by decide) rfl rfl ?_
  refine r_iconst (v := 0) dX12_judge_22 (by decide) ?_
  refine r_istore_n (lv' := [.ref l0, .int x3, .int (-9), .int 0]) dX12_judge_23 (by decide) rfl rfl ?_
  exact t_X12_judge_24 FU _ _ _ _ _ _ hf
def f_X12_draw (S : Mm) (l0 : Nat) (l1 : Int32) : Option (Int32 × Mm) := if okc S l0 11 = true then (gI S 11 l0 37).bind fun x1 => (pI S 11 l0 37 ((x1 * 1103515245) + 12345)).bind fun S3 => (gI S3 11 l0 37).bind fun x5 => (rM ((x5 &&& 2147483647) / 65536) l1).bind fun x7 => some (x7, S3) else none
set_option maxRecDepth 20000 in
theorem ok_X12_draw {S : Mm} {l0 : Nat} {l1 : Int32} {T : (Int32 × Mm)} (hf : f_X12_draw S l0 l1 = some T) : okc S l0 11 = true := (oif hf).1
set_option maxRecDepth 20000 in
theorem c_X12_draw {G : Gt} {l : Launch} {S : Mm} {l0 : Nat} {l1 : Int32} {T : (Int32 × Mm)} (hf : f_X12_draw S l0 l1 = some T) : CC G l yX12_draw cX12_draw 2 (some .int) 0 0 0 [.ref l0, .int l1] S (eI T) := by
  unfold f_X12_draw at hf
  replace hf := (oif hf).2
  refine r_body (by decide) rfl (Nat.le_of_ble_eq_true rfl) (by simp) ?_
  refine r_aload_n dX12_draw_0 rfl ?_
  refine r_aload_n dX12_draw_1 rfl ?_
  obtain ⟨x1, h2, hf⟩ := bnd hf
  refine r_getI dX12_draw_2 fs12_239_11 rfl h2 ?_
  refine r_ldc (v := 1103515245) dX12_draw_5 w5_105 ?_
  refine r_imul dX12_draw_7 ?_
  refine r_sipush (v := 12345) dX12_draw_8 (by decide) ?_
  refine r_iadd dX12_draw_11 ?_
  obtain ⟨S3, h4, hf⟩ := bnd hf
  refine r_putI dX12_draw_12 fs12_239_11 rfl h4 ?_
  refine r_aload_n dX12_draw_15 rfl ?_
  obtain ⟨x5, h6, hf⟩ := bnd hf
  refine r_getI dX12_draw_16 fs12_239_11 rfl h6 ?_
  refine r_ldc (v := 2147483647) dX12_draw_19 w5_106 ?_
  refine r_iand dX12_draw_21 ?_
  refine r_ldc (v := 65536) dX12_draw_22 w5_107 ?_
  refine r_idiv dX12_draw_24 (x := ((x5 &&& 2147483647) / 65536)) rfl ?_
  refine r_iload_n dX12_draw_25 rfl ?_
  obtain ⟨x7, h8, hf⟩ := bnd hf
  refine r_irem dX12_draw_26 h8 ?_
  have hz := congrArg eI (Option.some.inj hf)
  exact r_ireturn dX12_draw_27 rfl (Nat.le_of_ble_eq_true rfl) (Nat.le_of_ble_eq_true rfl) hz
def f_X12_seeds_118 (k65 : Mm → Nat → Int32 → Int32 → Int32 → Option (Int32 × Mm)) (S : Mm) (l0 : Nat) (l1 : Int32) (l5 : Int32) (s0 : Int32) (s1 : Int32) : Option (Int32 × Mm) := k65 S l0 l1 (s0 + s1) (l5 + 1)
def f_X12_seeds_65 : Nat → Mm → Nat → Int32 → Int32 → Int32 → Option (Int32 × Mm)
  | 0, _, _, _, _, _ => none
  | n + 1, S, l0, l1, l4, l5 => (if l1 ≤ l5 then (f_X12_close S l0).bind fun q2 => some (l4, q2) else (gI S 11 l0 0).bind fun x4 => (f_X12_draw S l0 x4).bind fun q6 => (gI q6.2 11 l0 0).bind fun x8 => (f_X12_draw q6.2 l0 x8).bind fun q10 => (f_X12_draw q10.2 l0 3).bind fun q12 => (f_X12_isSold q12.2 l0 q6.1 q10.1 q12.1).bind fun q14 => (if q14.1 = 0 then f_X12_seeds_118 (f_X12_seeds_65 n) q14.2 l0 l1 l5 l4 0 else f_X12_seeds_118 (f_X12_seeds_65 n) q14.2 l0 l1 l5 l4 1))
def f_X12_seeds_39 (S : Mm) (l0 : Nat) (l1 : Int32) (l2 : Int32) (s0 : Int32) : Option (Int32 × Mm) := (if 0 ≤ s0 then (f_X12_open S l0).bind fun q2 => (pI q2 11 l0 37 l2).bind fun S4 => f_X12_seeds_65 FU S4 l0 l1 0 0 else (f_X12_refuse S l0 s0).bind fun q6 => some (q6.1, q6.2))
def f_X12_seeds (S : Mm) (l0 : Nat) (l1 : Int32) (l2 : Int32) : Option (Int32 × Mm) := if okc S l0 11 = true then (pI S 11 l0 15 0).bind fun S1 => (if 1 ≤ l1 then (if l1 ≤ 60 then (gI S1 11 l0 0).bind fun x5 => (if x5 = 0 then f_X12_seeds_39 S1 l0 l1 l2 (-3) else f_X12_seeds_39 S1 l0 l1 l2 0) else f_X12_seeds_39 S1 l0 l1 l2 (-6)) else f_X12_seeds_39 S1 l0 l1 l2 (-4)) else none
set_option maxRecDepth 20000 in
theorem t_X12_seeds_118 {G : Gt} {l : Launch} (k65 : Mm → Nat → Int32 → Int32 → Int32 → Option (Int32 × Mm)) (hk65 : ∀ (S : Mm) (l0 : Nat) (l1 : Int32) (l4 : Int32) (l5 : Int32) (T : (Int32 × Mm)), k65 S l0 l1 l4 l5 = some T → Sat G l yX12_seeds cX12_seeds 9 (some .int) 4 0 0 0 0 65 [.ref l0, .int l1, .null, .null, .int l4, .int l5, .null, .null, .null] [] S (eI T)) (S : Mm) (l0 : Nat) (l1 : Int32) (l5 : Int32) (s0 : Int32) (s1 : Int32) (T : (Int32 × Mm)) (hf : f_X12_seeds_118 k65 S l0 l1 l5 s0 s1 = some T) : Sat G l yX12_seeds cX12_seeds 9 (some .int) 4 0 0 0 0 118 [.ref l0, .int l1, .null, .null, .null, .int l5, .null, .null, .null] [.int s1, .int s0] S (eI T) := by
  unfold f_X12_seeds_118 at hf
  refine r_iadd dX12_seeds_118 ?_
  refine r_istore (lv' := [.ref l0, .int l1, .null, .null, .int (s0 + s1), .int l5, .null, .null, .null]) dX12_seeds_119 (by decide) rfl rfl ?_
  refine r_iinc (v := 1) (lv' := [.ref l0, .int l1, .null, .null, .int (s0 + s1), .int (l5 + 1), .null, .null, .null]) dX12_seeds_121 rfl (by decide) (by decide) rfl rfl ?_
  refine r_goto (tgt := 65) dX12_seeds_124 (by decide) ?_
  exact hk65 _ _ _ _ _ _ hf
set_option maxRecDepth 20000 in
theorem t_X12_seeds_65 {G : Gt} {l : Launch} : ∀ (n : Nat) (S : Mm) (l0 : Nat) (l1 : Int32) (l4 : Int32) (l5 : Int32) (T : (Int32 × Mm)), f_X12_seeds_65 n S l0 l1 l4 l5 = some T → Sat G l yX12_seeds cX12_seeds 9 (some .int) 4 0 0 0 0 65 [.ref l0, .int l1, .null, .null, .int l4, .int l5, .null, .null, .null] [] S (eI T) := by
  intro n
  induction n with
  | zero =>
    intro S l0 l1 l4 l5 T hf
    rw [f_X12_seeds_65] at hf
    cases hf
  | succ n ih =>
    intro S l0 l1 l4 l5 T hf
    rw [f_X12_seeds_65] at hf
    refine r_iload dX12_seeds_65 rfl ?_
    refine r_iload_n dX12_seeds_67 rfl ?_
    refine r_icmp_ge (tgt := 127) dX12_seeds_68 (by decide) (fun c1 => ?_) (fun c1 => ?_)
    · replace hf := (if_pos c1).symm.trans hf
      refine r_aload_n dX12_seeds_127 rfl ?_
      obtain ⟨q2, h3, hf⟩ := bnd hf
      refine r_callVv (st := []) (as := []) dX12_seeds_128 ms_X12_close ⟨rfl, w4_172, w4_174, w0_31⟩ (ok_X12_close h3) (c_X12_close h3) rfl ⟨by omega, by omega⟩ (Nat.le_of_ble_eq_true rfl) (by decide) (by decide) rfl ?_
      refine r_iload dX12_seeds_131 rfl ?_
      have hz := congrArg eI (Option.some.inj hf)
      exact r_ireturn dX12_seeds_133 rfl (Nat.le_of_ble_eq_true rfl) (Nat.le_of_ble_eq_true rfl) hz
    · replace hf := (if_neg c1).symm.trans hf
      refine r_aload_n dX12_seeds_71 rfl ?_
      refine r_aload_n dX12_seeds_72 rfl ?_
      obtain ⟨x4, h5, hf⟩ := bnd hf
      refine r_getI dX12_seeds_73 fs12_77_11 rfl h5 ?_
      obtain ⟨q6, h7, hf⟩ := bnd hf
      refine r_callVi (st := []) (as := [.int x4]) dX12_seeds_76 ms_X12_draw ⟨rfl, w5_101, w5_103, w0_49⟩ (ok_X12_draw h7) (c_X12_draw h7) rfl ⟨by omega, by omega⟩ (Nat.le_of_ble_eq_true rfl) (by decide) (by decide) rfl ?_
      refine r_istore (lv' := [.ref l0, .int l1, .null, .null, .int l4, .int l5, .int q6.1, .null, .null]) dX12_seeds_79 (by decide) rfl rfl ?_
      refine r_aload_n dX12_seeds_81 rfl ?_
      refine r_aload_n dX12_seeds_82 rfl ?_
      obtain ⟨x8, h9, hf⟩ := bnd hf
      refine r_getI dX12_seeds_83 fs12_77_11 rfl h9 ?_
      obtain ⟨q10, h11, hf⟩ := bnd hf
      refine r_callVi (st := []) (as := [.int x8]) dX12_seeds_86 ms_X12_draw ⟨rfl, w5_101, w5_103, w0_49⟩ (ok_X12_draw h11) (c_X12_draw h11) rfl ⟨by omega, by omega⟩ (Nat.le_of_ble_eq_true rfl) (by decide) (by decide) rfl ?_
      refine r_istore (lv' := [.ref l0, .int l1, .null, .null, .int l4, .int l5, .int q6.1, .int q10.1, .null]) dX12_seeds_89 (by decide) rfl rfl ?_
      refine r_aload_n dX12_seeds_91 rfl ?_
      refine r_iconst (v := 3) dX12_seeds_92 (by decide) ?_
      obtain ⟨q12, h13, hf⟩ := bnd hf
      refine r_callVi (st := []) (as := [.int 3]) dX12_seeds_93 ms_X12_draw ⟨rfl, w5_101, w5_103, w0_49⟩ (ok_X12_draw h13) (c_X12_draw h13) rfl ⟨by omega, by omega⟩ (Nat.le_of_ble_eq_true rfl) (by decide) (by decide) rfl ?_
      refine r_istore (lv' := [.ref l0, .int l1, .null, .null, .int l4, .int l5, .int q6.1, .int q10.1, .int q12.1]) dX12_seeds_96 (by decide) rfl rfl ?_
      refine r_iload dX12_seeds_98 rfl ?_
      refine r_aload_n dX12_seeds_100 rfl ?_
      refine r_iload dX12_seeds_101 rfl ?_
      refine r_iload dX12_seeds_103 rfl ?_
      refine r_iload dX12_seeds_105 rfl ?_
      obtain ⟨q14, h15, hf⟩ := bnd hf
      refine r_callVi (st := [.int l4]) (as := [.int q6.1, .int q10.1, .int q12.1]) dX12_seeds_107 ms_X12_isSold ⟨rfl, w5_93, w5_95, w0_48⟩ (ok_X12_isSold h15) (c_X12_isSold h15) rfl ⟨by omega, by omega⟩ (Nat.le_of_ble_eq_true rfl) (by decide) (by decide) rfl ?_
      refine r_if_eq (tgt := 117) dX12_seeds_110 (by decide) (fun c16 => ?_) (fun c16 => ?_)
      · replace hf := (if_pos c16).symm.trans hf
        refine r_iconst (v := 0) dX12_seeds_117 (by decide) ?_
        refine r_lvs (lv' := [.ref l0, .int l1, .null, .null, .null, .int l5, .null, .null, .null]) ⟨Or.inl rfl, Or.inl rfl, Or.inl rfl, Or.inl rfl, Or.inr rfl, Or.inl rfl, Or.inr rfl, Or.inr rfl, Or.inr rfl, trivial⟩ ?_
        exact t_X12_seeds_118 (f_X12_seeds_65 n) ih _ _ _ _ _ _ _ hf
      · replace hf := (if_neg c16).symm.trans hf
        refine r_iconst (v := 1) dX12_seeds_113 (by decide) ?_
        refine r_goto (tgt := 118) dX12_seeds_114 (by decide) ?_
        refine r_lvs (lv' := [.ref l0, .int l1, .null, .null, .null, .int l5, .null, .null, .null]) ⟨Or.inl rfl, Or.inl rfl, Or.inl rfl, Or.inl rfl, Or.inr rfl, Or.inl rfl, Or.inr rfl, Or.inr rfl, Or.inr rfl, trivial⟩ ?_
        exact t_X12_seeds_118 (f_X12_seeds_65 n) ih _ _ _ _ _ _ _ hf
set_option maxRecDepth 20000 in
theorem t_X12_seeds_39 {G : Gt} {l : Launch} (S : Mm) (l0 : Nat) (l1 : Int32) (l2 : Int32) (s0 : Int32) (T : (Int32 × Mm)) (hf : f_X12_seeds_39 S l0 l1 l2 s0 = some T) : Sat G l yX12_seeds cX12_seeds 9 (some .int) 4 0 0 0 0 39 [.ref l0, .int l1, .int l2, .null, .null, .null, .null, .null, .null] [.int s0] S (eI T) := by
  unfold f_X12_seeds_39 at hf
  refine r_istore_n (lv' := [.ref l0, .int l1, .int l2, .int s0, .null, .null, .null, .null, .null]) dX12_seeds_39 (by decide) rfl rfl ?_
  refine r_iload_n dX12_seeds_40 rfl ?_
  refine r_if_ge (tgt := 50) dX12_seeds_41 (by decide) (fun c1 => ?_) (fun c1 => ?_)
  · replace hf := (if_pos c1).symm.trans hf
    refine r_aload_n dX12_seeds_50 rfl ?_
    obtain ⟨q2, h3, hf⟩ := bnd hf
    refine r_callVv (st := []) (as := []) dX12_seeds_51 ms_X12_open ⟨rfl, w4_152, w4_154, w0_26⟩ (ok_X12_open h3) (c_X12_open h3) rfl ⟨by omega, by omega⟩ (Nat.le_of_ble_eq_true rfl) (by decide) (by decide) rfl ?_
    refine r_aload_n dX12_seeds_54 rfl ?_
    refine r_iload_n dX12_seeds_55 rfl ?_
    obtain ⟨S4, h5, hf⟩ := bnd hf
    refine r_putI dX12_seeds_56 fs12_239_11 rfl h5 ?_
    refine r_iconst (v := 0) dX12_seeds_59 (by decide) ?_
    refine r_istore (lv' := [.ref l0, .int l1, .int l2, .int s0, .int 0, .null, .null, .null, .null]) dX12_seeds_60 (by decide) rfl rfl ?_
    refine r_iconst (v := 0) dX12_seeds_62 (by decide) ?_
    refine r_istore (lv' := [.ref l0, .int l1, .int l2, .int s0, .int 0, .int 0, .null, .null, .null]) dX12_seeds_63 (by decide) rfl rfl ?_
    refine r_lvs (lv' := [.ref l0, .int l1, .null, .null, .int 0, .int 0, .null, .null, .null]) ⟨Or.inl rfl, Or.inl rfl, Or.inr rfl, Or.inr rfl, Or.inl rfl, Or.inl rfl, Or.inl rfl, Or.inl rfl, Or.inl rfl, trivial⟩ ?_
    exact t_X12_seeds_65 FU _ _ _ _ _ _ hf
  · replace hf := (if_neg c1).symm.trans hf
    refine r_aload_n dX12_seeds_44 rfl ?_
    refine r_iload_n dX12_seeds_45 rfl ?_
    obtain ⟨q6, h7, hf⟩ := bnd hf
    refine r_callVi (st := []) (as := [.int s0]) dX12_seeds_46 ms_X12_refuse ⟨rfl, w4_119, w4_121, w0_21⟩ (ok_X12_refuse h7) (c_X12_refuse h7) rfl ⟨by omega, by omega⟩ (Nat.le_of_ble_eq_true rfl) (by decide) (by decide) rfl ?_
    have hz := congrArg eI (Option.some.inj hf)
    exact r_ireturn dX12_seeds_49 rfl (Nat.le_of_ble_eq_true rfl) (Nat.le_of_ble_eq_true rfl) hz
set_option maxRecDepth 20000 in
theorem ok_X12_seeds {S : Mm} {l0 : Nat} {l1 : Int32} {l2 : Int32} {T : (Int32 × Mm)} (hf : f_X12_seeds S l0 l1 l2 = some T) : okc S l0 11 = true := (oif hf).1
set_option maxRecDepth 20000 in
theorem c_X12_seeds {G : Gt} {l : Launch} {S : Mm} {l0 : Nat} {l1 : Int32} {l2 : Int32} {T : (Int32 × Mm)} (hf : f_X12_seeds S l0 l1 l2 = some T) : CC G l yX12_seeds cX12_seeds 9 (some .int) 4 0 0 [.ref l0, .int l1, .int l2] S (eI T) := by
  unfold f_X12_seeds at hf
  replace hf := (oif hf).2
  refine r_body (by decide) rfl (Nat.le_of_ble_eq_true rfl) (by simp) ?_
  refine r_aload_n dX12_seeds_0 rfl ?_
  refine r_iconst (v := 0) dX12_seeds_1 (by decide) ?_
  obtain ⟨S1, h2, hf⟩ := bnd hf
  refine r_putI dX12_seeds_2 fs12_73_11 rfl h2 ?_
  refine r_iload_n dX12_seeds_5 rfl ?_
  refine r_iconst (v := 1) dX12_seeds_6 (by decide) ?_
  refine r_icmp_ge (tgt := 15) dX12_seeds_7 (by decide) (fun c3 => ?_) (fun c3 => ?_)
  · replace hf := (if_pos c3).symm.trans hf
    refine r_iload_n dX12_seeds_15 rfl ?_
    refine r_bipush (v := 60) dX12_seeds_16 (by decide) ?_
    refine r_icmp_le (tgt := 26) dX12_seeds_18 (by decide) (fun c4 => ?_) (fun c4 => ?_)
    · replace hf := (if_pos c4).symm.trans hf
      refine r_aload_n dX12_seeds_26 rfl ?_
      obtain ⟨x5, h6, hf⟩ := bnd hf
      refine r_getI dX12_seeds_27 fs12_77_11 rfl h6 ?_
      refine r_if_ne (tgt := 38) dX12_seeds_30 (by decide) (fun c7 => ?_) (fun c7 => ?_)
      · replace hf := (if_neg c7).symm.trans hf
        refine r_iconst (v := 0) dX12_seeds_38 (by decide) ?_
        exact t_X12_seeds_39 _ _ _ _ _ _ hf
      · replace hf := (if_pos c7).symm.trans hf
        refine r_bipush (v := (-3)) dX12_seeds_33 (by decide) ?_
        refine r_goto (tgt := 39) dX12_seeds_35 (by decide) ?_
        exact t_X12_seeds_39 _ _ _ _ _ _ hf
    · replace hf := (if_neg c4).symm.trans hf
      refine r_bipush (v := (-6)) dX12_seeds_21 (by decide) ?_
      refine r_goto (tgt := 39) dX12_seeds_23 (by decide) ?_
      exact t_X12_seeds_39 _ _ _ _ _ _ hf
  · replace hf := (if_neg c3).symm.trans hf
    refine r_bipush (v := (-4)) dX12_seeds_10 (by decide) ?_
    refine r_goto (tgt := 39) dX12_seeds_12 (by decide) ?_
    exact t_X12_seeds_39 _ _ _ _ _ _ hf
def f_X12_sumOf_5 : Nat → Mm → Nat → Int32 → Int32 → Int32 → Option (Int32 × Mm)
  | 0, _, _, _, _, _ => none
  | n + 1, S, l1, l2, l3, l4 => (if l2 ≤ l4 then some (l3, S) else (aI S l1 l4).bind fun x2 => (f_X12_sumOf_5 n) S l1 l2 (l3 + x2) (l4 + 1))
def f_X12_sumOf (S : Mm) (l0 : Nat) (l1 : Nat) (l2 : Int32) : Option (Int32 × Mm) := if okc S l0 11 = true then f_X12_sumOf_5 FU S l1 l2 0 0 else none
set_option maxRecDepth 20000 in
theorem t_X12_sumOf_5 {G : Gt} {l : Launch} : ∀ (n : Nat) (S : Mm) (l1 : Nat) (l2 : Int32) (l3 : Int32) (l4 : Int32) (T : (Int32 × Mm)), f_X12_sumOf_5 n S l1 l2 l3 l4 = some T → Sat G l yX12_sumOf cX12_sumOf 5 (some .int) 0 0 0 0 0 5 [.null, .ref l1, .int l2, .int l3, .int l4] [] S (eI T) := by
  intro n
  induction n with
  | zero =>
    intro S l1 l2 l3 l4 T hf
    rw [f_X12_sumOf_5] at hf
    cases hf
  | succ n ih =>
    intro S l1 l2 l3 l4 T hf
    rw [f_X12_sumOf_5] at hf
    refine r_iload dX12_sumOf_5 rfl ?_
    refine r_iload_n dX12_sumOf_7 rfl ?_
    refine r_icmp_ge (tgt := 24) dX12_sumOf_8 (by decide) (fun c1 => ?_) (fun c1 => ?_)
    · replace hf := (if_pos c1).symm.trans hf
      refine r_iload_n dX12_sumOf_24 rfl ?_
      have hz := congrArg eI (Option.some.inj hf)
      exact r_ireturn dX12_sumOf_25 rfl (Nat.le_of_ble_eq_true rfl) (Nat.le_of_ble_eq_true rfl) hz
    · replace hf := (if_neg c1).symm.trans hf
      refine r_iload_n dX12_sumOf_11 rfl ?_
      refine r_aload_n dX12_sumOf_12 rfl ?_
      refine r_iload dX12_sumOf_13 rfl ?_
      obtain ⟨x2, h3, hf⟩ := bnd hf
      refine r_iaload dX12_sumOf_15 h3 ?_
      refine r_iadd dX12_sumOf_16 ?_
      refine r_istore_n (lv' := [.null, .ref l1, .int l2, .int (l3 + x2), .int l4]) dX12_sumOf_17 (by decide) rfl rfl ?_
      refine r_iinc (v := 1) (lv' := [.null, .ref l1, .int l2, .int (l3 + x2), .int (l4 + 1)]) dX12_sumOf_18 rfl (by decide) (by decide) rfl rfl ?_
      refine r_goto (tgt := 5) dX12_sumOf_21 (by decide) ?_
      exact ih _ _ _ _ _ _ hf
set_option maxRecDepth 20000 in
theorem ok_X12_sumOf {S : Mm} {l0 : Nat} {l1 : Nat} {l2 : Int32} {T : (Int32 × Mm)} (hf : f_X12_sumOf S l0 l1 l2 = some T) : okc S l0 11 = true := (oif hf).1
set_option maxRecDepth 20000 in
theorem c_X12_sumOf {G : Gt} {l : Launch} {S : Mm} {l0 : Nat} {l1 : Nat} {l2 : Int32} {T : (Int32 × Mm)} (hf : f_X12_sumOf S l0 l1 l2 = some T) : CC G l yX12_sumOf cX12_sumOf 5 (some .int) 0 0 0 [.ref l0, .ref l1, .int l2] S (eI T) := by
  unfold f_X12_sumOf at hf
  replace hf := (oif hf).2
  refine r_body (by decide) rfl (Nat.le_of_ble_eq_true rfl) (by simp) ?_
  refine r_iconst (v := 0) dX12_sumOf_0 (by decide) ?_
  refine r_istore_n (lv' := [.ref l0, .ref l1, .int l2, .int 0, .null]) dX12_sumOf_1 (by decide) rfl rfl ?_
  refine r_iconst (v := 0) dX12_sumOf_2 (by decide) ?_
  refine r_istore (lv' := [.ref l0, .ref l1, .int l2, .int 0, .int 0]) dX12_sumOf_3 (by decide) rfl rfl ?_
  refine r_lvs (lv' := [.null, .ref l1, .int l2, .int 0, .int 0]) ⟨Or.inr rfl, Or.inl rfl, Or.inl rfl, Or.inl rfl, Or.inl rfl, trivial⟩ ?_
  exact t_X12_sumOf_5 FU _ _ _ _ _ _ hf
def f_X12_count_149 (S : Mm) (s0 : Int32) : Option (Int32 × Mm) := some (s0, S)
def f_X12_count_178 (S : Mm) (s0 : Int32) : Option (Int32 × Mm) := some (s0, S)
def f_X12_count (S : Mm) (l0 : Nat) (l1 : Int32) : Option (Int32 × Mm) := if okc S l0 11 = true then (pI S 11 l0 15 0).bind fun S1 => (if l1 = 0 then (gI S1 11 l0 0).bind fun x12 => some (x12, S1) else (if l1 = 1 then (gI S1 11 l0 2).bind fun x14 => some (x14, S1) else (if l1 = 2 then (gI S1 11 l0 1).bind fun x16 => some (x16, S1) else (if l1 = 3 then (gR S1 11 l0 11).bind fun x18 => (gI S1 11 l0 0).bind fun x20 => (f_X12_sumOf S1 l0 x18 x20).bind fun q22 => some (q22.1, q22.2) else (if l1 = 4 then (gR S1 11 l0 12).bind fun x24 => (gI S1 11 l0 0).bind fun x26 => (f_X12_sumOf S1 l0 x24 (3 * x26)).bind fun q28 => some (q28.1, q28.2) else (if l1 = 5 then (gR S1 11 l0 13).bind fun x30 => (gI S1 11 l0 0).bind fun x32 => (f_X12_sumOf S1 l0 x30 (6 * x32)).bind fun q34 => some (q34.1, q34.2) else (if l1 = 6 then (gI S1 11 l0 27).bind fun x36 => some (x36, S1) else (if l1 = 7 then (gI S1 11 l0 36).bind fun x38 => some (x38, S1) else (if l1 = 8 then (gI S1 11 l0 2).bind fun x40 => (gI S1 11 l0 3).bind fun x42 => (if x42 ≤ x40 then f_X12_count_149 S1 0 else (gI S1 11 l0 3).bind fun x45 => (gI S1 11 l0 2).bind fun x47 => f_X12_count_149 S1 (x45 - x47)) else (f_X12_in S1 l1.toInt64 11 16).bind fun q49 => (if q49.1 = 0 then f_X12_count_178 q49.2 (-9) else (gR q49.2 11 l0 16).bind fun x52 => (aI q49.2 x52 (l1 - 10)).bind fun x54 => f_X12_count_178 q49.2 x54)))))))))) else none
set_option maxRecDepth 20000 in
theorem t_X12_count_149 {G : Gt} {l : Launch} (S : Mm) (s0 : Int32) (T : (Int32 × Mm)) (hf : f_X12_count_149 S s0 = some T) : Sat G l yX12_count cX12_count 2 (some .int) 1 0 0 0 0 149 [.null, .null] [.int s0] S (eI T) := by
  unfold f_X12_count_149 at hf
  have hz := congrArg eI (Option.some.inj hf)
  exact r_ireturn dX12_count_149 rfl (Nat.le_of_ble_eq_true rfl) (Nat.le_of_ble_eq_true rfl) hz
set_option maxRecDepth 20000 in
theorem t_X12_count_178 {G : Gt} {l : Launch} (S : Mm) (s0 : Int32) (T : (Int32 × Mm)) (hf : f_X12_count_178 S s0 = some T) : Sat G l yX12_count cX12_count 2 (some .int) 1 0 0 0 0 178 [.null, .null] [.int s0] S (eI T) := by
  unfold f_X12_count_178 at hf
  have hz := congrArg eI (Option.some.inj hf)
  exact r_ireturn dX12_count_178 rfl (Nat.le_of_ble_eq_true rfl) (Nat.le_of_ble_eq_true rfl) hz
set_option maxRecDepth 20000 in
theorem ok_X12_count {S : Mm} {l0 : Nat} {l1 : Int32} {T : (Int32 × Mm)} (hf : f_X12_count S l0 l1 = some T) : okc S l0 11 = true := (oif hf).1
set_option maxRecDepth 20000 in
theorem c_X12_count {G : Gt} {l : Launch} {S : Mm} {l0 : Nat} {l1 : Int32} {T : (Int32 × Mm)} (hf : f_X12_count S l0 l1 = some T) : CC G l yX12_count cX12_count 2 (some .int) 1 0 0 [.ref l0, .int l1] S (eI T) := by
  unfold f_X12_count at hf
  replace hf := (oif hf).2
  refine r_body (by decide) rfl (Nat.le_of_ble_eq_true rfl) (by simp) ?_
  refine r_aload_n dX12_count_0 rfl ?_
  refine r_iconst (v := 0) dX12_count_1 (by decide) ?_
  obtain ⟨S1, h2, hf⟩ := bnd hf
  refine r_putI dX12_count_2 fs12_73_11 rfl h2 ?_
  refine r_iload_n dX12_count_5 rfl ?_
  by_cases c3 : l1 = 0
  · replace hf := (if_pos c3).symm.trans hf
    refine r_tsIn (k := 0) (tgt := 56) dX12_count_6 c3 (by decide) (by decide) (by rfl) (by decide) ?_
    refine r_aload_n dX12_count_56 rfl ?_
    obtain ⟨x12, h13, hf⟩ := bnd hf
    refine r_getI dX12_count_57 fs12_77_11 rfl h13 ?_
    have hz := congrArg eI (Option.some.inj hf)
    exact r_ireturn dX12_count_60 rfl (Nat.le_of_ble_eq_true rfl) (Nat.le_of_ble_eq_true rfl) hz
  replace hf := (if_neg c3).symm.trans hf
  by_cases c4 : l1 = 1
  · replace hf := (if_pos c4).symm.trans hf
    refine r_tsIn (k := 1) (tgt := 61) dX12_count_6 c4 (by decide) (by decide) (by rfl) (by decide) ?_
    refine r_aload_n dX12_count_61 rfl ?_
    obtain ⟨x14, h15, hf⟩ := bnd hf
    refine r_getI dX12_count_62 fs12_122_11 rfl h15 ?_
    have hz := congrArg eI (Option.some.inj hf)
    exact r_ireturn dX12_count_65 rfl (Nat.le_of_ble_eq_true rfl) (Nat.le_of_ble_eq_true rfl) hz
  replace hf := (if_neg c4).symm.trans hf
  by_cases c5 : l1 = 2
  · replace hf := (if_pos c5).symm.trans hf
    refine r_tsIn (k := 2) (tgt := 66) dX12_count_6 c5 (by decide) (by decide) (by rfl) (by decide) ?_
    refine r_aload_n dX12_count_66 rfl ?_
    obtain ⟨x16, h17, hf⟩ := bnd hf
    refine r_getI dX12_count_67 fs12_97_11 rfl h17 ?_
    have hz := congrArg eI (Option.some.inj hf)
    exact r_ireturn dX12_count_70 rfl (Nat.le_of_ble_eq_true rfl) (Nat.le_of_ble_eq_true rfl) hz
  replace hf := (if_neg c5).symm.trans hf
  by_cases c6 : l1 = 3
  · replace hf := (if_pos c6).symm.trans hf
    refine r_tsIn (k := 3) (tgt := 71) dX12_count_6 c6 (by decide) (by decide) (by rfl) (by decide) ?_
    refine r_aload_n dX12_count_71 rfl ?_
    refine r_aload_n dX12_count_72 rfl ?_
    obtain ⟨x18, h19, hf⟩ := bnd hf
    refine r_getR dX12_count_73 fs12_31_11 rfl h19 ?_
    refine r_aload_n dX12_count_76 rfl ?_
    obtain ⟨x20, h21, hf⟩ := bnd hf
    refine r_getI dX12_count_77 fs12_77_11 rfl h21 ?_
    obtain ⟨q22, h23, hf⟩ := bnd hf
    refine r_callVi (st := []) (as := [.ref x18, .int x20]) dX12_count_80 ms_X12_sumOf ⟨rfl, w5_112, w5_114, w0_50⟩ (ok_X12_sumOf h23) (c_X12_sumOf h23) rfl ⟨by omega, by omega⟩ (Nat.le_of_ble_eq_true rfl) (by decide) (by decide) rfl ?_
    have hz := congrArg eI (Option.some.inj hf)
    exact r_ireturn dX12_count_83 rfl (Nat.le_of_ble_eq_true rfl) (Nat.le_of_ble_eq_true rfl) hz
  replace hf := (if_neg c6).symm.trans hf
  by_cases c7 : l1 = 4
  · replace hf := (if_pos c7).symm.trans hf
    refine r_tsIn (k := 4) (tgt := 84) dX12_count_6 c7 (by decide) (by decide) (by rfl) (by decide) ?_
    refine r_aload_n dX12_count_84 rfl ?_
    refine r_aload_n dX12_count_85 rfl ?_
    obtain ⟨x24, h25, hf⟩ := bnd hf
    refine r_getR dX12_count_86 fs12_34_11 rfl h25 ?_
    refine r_iconst (v := 3) dX12_count_89 (by decide) ?_
    refine r_aload_n dX12_count_90 rfl ?_
    obtain ⟨x26, h27, hf⟩ := bnd hf
    refine r_getI dX12_count_91 fs12_77_11 rfl h27 ?_
    refine r_imul dX12_count_94 ?_
    obtain ⟨q28, h29, hf⟩ := bnd hf
    refine r_callVi (st := []) (as := [.ref x24, .int (3 * x26)]) dX12_count_95 ms_X12_sumOf ⟨rfl, w5_112, w5_114, w0_50⟩ (ok_X12_sumOf h29) (c_X12_sumOf h29) rfl ⟨by omega, by omega⟩ (Nat.le_of_ble_eq_true rfl) (by decide) (by decide) rfl ?_
    have hz := congrArg eI (Option.some.inj hf)
    exact r_ireturn dX12_count_98 rfl (Nat.le_of_ble_eq_true rfl) (Nat.le_of_ble_eq_true rfl) hz
  replace hf := (if_neg c7).symm.trans hf
  by_cases c8 : l1 = 5
  · replace hf := (if_pos c8).symm.trans hf
    refine r_tsIn (k := 5) (tgt := 99) dX12_count_6 c8 (by decide) (by decide) (by rfl) (by decide) ?_
    refine r_aload_n dX12_count_99 rfl ?_
    refine r_aload_n dX12_count_100 rfl ?_
    obtain ⟨x30, h31, hf⟩ := bnd hf
    refine r_getR dX12_count_101 fs12_37_11 rfl h31 ?_
    refine r_bipush (v := 6) dX12_count_104 (by decide) ?_
    refine r_aload_n dX12_count_106 rfl ?_
    obtain ⟨x32, h33, hf⟩ := bnd hf
    refine r_getI dX12_count_107 fs12_77_11 rfl h33 ?_
    refine r_imul dX12_count_110 ?_
    obtain ⟨q34, h35, hf⟩ := bnd hf
    refine r_callVi (st := []) (as := [.ref x30, .int (6 * x32)]) dX12_count_111 ms_X12_sumOf ⟨rfl, w5_112, w5_114, w0_50⟩ (ok_X12_sumOf h35) (c_X12_sumOf h35) rfl ⟨by omega, by omega⟩ (Nat.le_of_ble_eq_true rfl) (by decide) (by decide) rfl ?_
    have hz := congrArg eI (Option.some.inj hf)
    exact r_ireturn dX12_count_114 rfl (Nat.le_of_ble_eq_true rfl) (Nat.le_of_ble_eq_true rfl) hz
  replace hf := (if_neg c8).symm.trans hf
  by_cases c9 : l1 = 6
  · replace hf := (if_pos c9).symm.trans hf
    refine r_tsIn (k := 6) (tgt := 115) dX12_count_6 c9 (by decide) (by decide) (by rfl) (by decide) ?_
    refine r_aload_n dX12_count_115 rfl ?_
    obtain ⟨x36, h37, hf⟩ := bnd hf
    refine r_getI dX12_count_116 fs12_166_11 rfl h37 ?_
    have hz := congrArg eI (Option.some.inj hf)
    exact r_ireturn dX12_count_119 rfl (Nat.le_of_ble_eq_true rfl) (Nat.le_of_ble_eq_true rfl) hz
  replace hf := (if_neg c9).symm.trans hf
  by_cases c10 : l1 = 7
  · replace hf := (if_pos c10).symm.trans hf
    refine r_tsIn (k := 7) (tgt := 120) dX12_count_6 c10 (by decide) (by decide) (by rfl) (by decide) ?_
    refine r_aload_n dX12_count_120 rfl ?_
    obtain ⟨x38, h39, hf⟩ := bnd hf
    refine r_getI dX12_count_121 fs12_233_11 rfl h39 ?_
    have hz := congrArg eI (Option.some.inj hf)
    exact r_ireturn dX12_count_124 rfl (Nat.le_of_ble_eq_true rfl) (Nat.le_of_ble_eq_true rfl) hz
  replace hf := (if_neg c10).symm.trans hf
  by_cases c11 : l1 = 8
  · replace hf := (if_pos c11).symm.trans hf
    refine r_tsIn (k := 8) (tgt := 125) dX12_count_6 c11 (by decide) (by decide) (by rfl) (by decide) ?_
    refine r_aload_n dX12_count_125 rfl ?_
    obtain ⟨x40, h41, hf⟩ := bnd hf
    refine r_getI dX12_count_126 fs12_122_11 rfl h41 ?_
    refine r_aload_n dX12_count_129 rfl ?_
    obtain ⟨x42, h43, hf⟩ := bnd hf
    refine r_getI dX12_count_130 fs12_153_11 rfl h43 ?_
    refine r_icmp_ge (tgt := 148) dX12_count_133 (by decide) (fun c44 => ?_) (fun c44 => ?_)
    · replace hf := (if_pos c44).symm.trans hf
      refine r_iconst (v := 0) dX12_count_148 (by decide) ?_
      refine r_lvs (lv' := [.null, .null]) ⟨Or.inr rfl, Or.inr rfl, trivial⟩ ?_
      exact t_X12_count_149 _ _ _ hf
    · replace hf := (if_neg c44).symm.trans hf
      refine r_aload_n dX12_count_136 rfl ?_
      obtain ⟨x45, h46, hf⟩ := bnd hf
      refine r_getI dX12_count_137 fs12_153_11 rfl h46 ?_
      refine r_aload_n dX12_count_140 rfl ?_
      obtain ⟨x47, h48, hf⟩ := bnd hf
      refine r_getI dX12_count_141 fs12_122_11 rfl h48 ?_
      refine r_isub dX12_count_144 ?_
      refine r_goto (tgt := 149) dX12_count_145 (by decide) ?_
      refine r_lvs (lv' := [.null, .null]) ⟨Or.inr rfl, Or.inr rfl, trivial⟩ ?_
      exact t_X12_count_149 _ _ _ hf
  replace hf := (if_neg c11).symm.trans hf
  refine r_tsOut (ks := [0, 1, 2, 3, 4, 5, 6, 7, 8]) (n := 9) (tgt := 150) dX12_count_6 (by decide) (by decide) (by simp only [List.mem_cons, List.not_mem_nil, or_false, not_or]; exact ⟨c3, c4, c5, c6, c7, c8, c9, c10, c11⟩) (by decide) ?_
  refine r_iload_n dX12_count_150 rfl ?_
  refine r_i2l dX12_count_151 ?_
  refine r_ldc2 (v := 11) dX12_count_152 w5_116 ?_
  refine r_ldc2 (v := 16) dX12_count_155 w5_117 ?_
  obtain ⟨q49, h50, hf⟩ := bnd hf
  refine r_callSi (st := []) (as := [.long l1.toInt64, .long 11, .long 16]) dX12_count_158 ms_X12_in ⟨w4_145, w4_146⟩ (c_X12_in h50) rfl ⟨by omega, by omega⟩ (Nat.le_of_ble_eq_true rfl) (by decide) (by decide) rfl ?_
  refine r_if_eq (tgt := 176) dX12_count_161 (by decide) (fun c51 => ?_) (fun c51 => ?_)
  · replace hf := (if_pos c51).symm.trans hf
    refine r_bipush (v := (-9)) dX12_count_176 (by decide) ?_
    refine r_lvs (lv' := [.null, .null]) ⟨Or.inr rfl, Or.inr rfl, trivial⟩ ?_
    exact t_X12_count_178 _ _ _ hf
  · replace hf := (if_neg c51).symm.trans hf
    refine r_aload_n dX12_count_164 rfl ?_
    obtain ⟨x52, h53, hf⟩ := bnd hf
    refine r_getR dX12_count_165 fs12_43_11 rfl h53 ?_
    refine r_iload_n dX12_count_168 rfl ?_
    refine r_bipush (v := 10) dX12_count_169 (by decide) ?_
    refine r_isub dX12_count_171 ?_
    obtain ⟨x54, h55, hf⟩ := bnd hf
    refine r_iaload dX12_count_172 h55 ?_
    refine r_goto (tgt := 178) dX12_count_173 (by decide) ?_
    refine r_lvs (lv' := [.null, .null]) ⟨Or.inr rfl, Or.inr rfl, trivial⟩ ?_
    exact t_X12_count_178 _ _ _ hf
