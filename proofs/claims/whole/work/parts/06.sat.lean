def R_law : String := "GoodsDownhillLaw"
def lw_P (b : Addr) (xs : List Int32) (args : Array Value) (s : State) : Prop := args = #[.ref b] ∧ s.IntsAt b xs ∧ xs.length ≤ 2048 ∧ (Jvm.Cond.and given_1 narrow_1).before args s = true
def lw_Q (_ : Array Value) (s : State) (o : Outcome) (t : State) : Prop := o = .returned (some (.int 1)) ∧ Framed s o t [] 600000 7302250
def lw_Z (below : List Frame) (a : Array Value) (s : State) : State → Prop := fun t => ∃ o, t.status = .running ∧ Ended t below o ∧ lw_Q a s o t
/-- the law's own end, with 1 on the stack, nothing written that was there before, its room as the claim has it -/
theorem lw_ret {p : Program} {l : Launch} {e : Env} {s : State} {m : MethodId} {below : List Frame} {meth : Method} {c : Code} {b : Nat} (hx : p.tables.exec = Jvm.exec) (hb : c.code = code) (hr : meth.sig.returnType = ret) (hlocks : meth.locks = false) {pc : Nat} {H : Heap} {ls : Array Slot} (hdg : decode code pc = .ok (.ireturn, 1)) : W p l e room_1 s m #[Value.ref b] below meth c H [] 600000 7302250 (lw_Z below #[Value.ref b] s) (F0 m pc ls [.int 1]) := by
  intro T hT X
  obtain ⟨fs, hret, hrun, hended, hW, hframe⟩ := X.leave (v := some (.int 1)) (hlocks := hlocks) (fun h => by rw [hr] at h; cases h)
  have hmeth' : T.vm.method? m = some meth := X.method'
  refine ⟨T.setFrames fs, ?_, .returned (some (.int 1)), hrun, hended, rfl, ⟨_, rfl⟩, hW, hframe⟩
  jvm_step X.here [X.here.top, hx, hb, hdg, hmeth', hr, ret, narrow_b1]
  (try refine ⟨rfl, ?_⟩); (try refine ⟨rfl, ?_⟩)
  first | (intro acts; rw [hret _ acts rfl rfl rfl]) | rw [hret _ _ rfl rfl rfl]
  exact Steps.refl _
/-- what holds at the law's entry: the machine, the code, the tables' words (any of lw_tbl by 'hts w (by decide +kernel)'), the script of L ints xs at the cell b, what the Statement gives of the start (any of its parts by flat_of_before) -/
def lw_At (p : Program) (s : State) (m : MethodId) (meth : Method) (c : Code) (b L : Nat) (xs : Nat → Int32) : Prop :=
  p.tables.exec = Jvm.exec ∧ c.code = code ∧ meth.sig.returnType = ret ∧ c.maxLocals = 4 ∧ s.vm.findClass R_law = some m.cls ∧ (∀ w ∈ lw_tbl, w.before #[Value.ref b] s = true) ∧ va_X b L xs s s.heap ∧ b < s.heap.size ∧ meth.locks = false ∧ (Jvm.Cond.and given_1 narrow_1).before #[Value.ref b] s = true
/-! the words: all good ones of the tables -/
def gtb : List Cond := lw_tbl.filter goodWord
theorem gtb_in {w : Cond} (h : w ∈ lw_tbl) (hg : goodWord w = true) : w ∈ gtb := List.mem_filter.mpr ⟨h, hg⟩
theorem gtb_good {w : Cond} (hc : w ∈ gtb) : GoodIn gtb (w :: gtb) := by
  intro x hx
  have hx : x ∈ gtb := by
    rcases List.mem_cons.mp hx with rfl | h
    · exact hc
    · exact h
  exact ⟨hx, good_of_word (List.mem_filter.mp hx).2⟩
set_option maxRecDepth 20000 in
theorem uin_0 : (u_ws RX0 TX0 6).all (fun w => decide (w ∈ lw_tbl) && goodWord w) = true := by decide +kernel
set_option maxRecDepth 20000 in
theorem uin_1 : (u_ws RX1 TX1 1).all (fun w => decide (w ∈ lw_tbl) && goodWord w) = true := by decide +kernel
set_option maxRecDepth 20000 in
theorem uin_2 : (u_ws RX2 TX2 6).all (fun w => decide (w ∈ lw_tbl) && goodWord w) = true := by decide +kernel
set_option maxRecDepth 20000 in
theorem uin_3 : (u_ws RX3 TX3 6).all (fun w => decide (w ∈ lw_tbl) && goodWord w) = true := by decide +kernel
set_option maxRecDepth 20000 in
theorem uin_4 : (u_ws RX4 TX4 6).all (fun w => decide (w ∈ lw_tbl) && goodWord w) = true := by decide +kernel
set_option maxRecDepth 20000 in
theorem uin_5 : (u_ws RX5 TX5 6).all (fun w => decide (w ∈ lw_tbl) && goodWord w) = true := by decide +kernel
set_option maxRecDepth 20000 in
theorem uin_6 : (u_ws RX6 TX6 9).all (fun w => decide (w ∈ lw_tbl) && goodWord w) = true := by decide +kernel
set_option maxRecDepth 20000 in
theorem uin_7 : (u_ws RX7 TX7 2).all (fun w => decide (w ∈ lw_tbl) && goodWord w) = true := by decide +kernel
set_option maxRecDepth 20000 in
theorem uin_8 : (u_ws RX8 TX8 6).all (fun w => decide (w ∈ lw_tbl) && goodWord w) = true := by decide +kernel
set_option maxRecDepth 20000 in
theorem uin_9 : (u_ws RX9 TX9 4).all (fun w => decide (w ∈ lw_tbl) && goodWord w) = true := by decide +kernel
set_option maxRecDepth 20000 in
theorem uin_11 : (u_ws RX11 TX11 10).all (fun w => decide (w ∈ lw_tbl) && goodWord w) = true := by decide +kernel
set_option maxRecDepth 20000 in
theorem uin_12 : (u_ws RX12 TX12 38).all (fun w => decide (w ∈ lw_tbl) && goodWord w) = true := by decide +kernel
theorem uin_g {ws : List Cond} (h : ws.all (fun w => decide (w ∈ lw_tbl) && goodWord w) = true) : ∀ w ∈ ws, w ∈ gtb := by
  intro w hw
  have h1 := List.all_eq_true.mp h w hw
  simp only [Bool.and_eq_true, decide_eq_true_eq] at h1
  exact gtb_in h1.1 h1.2
theorem uin {ci : Nat} {q : vw_C} (h : vwCl[ci]? = some q) : ∀ w ∈ u_ws q.1 q.2.1 q.2.2, w ∈ gtb := by
  match ci, h with
  | 0, h => cases h; exact uin_g uin_0
  | 1, h => cases h; exact uin_g uin_1
  | 2, h => cases h; exact uin_g uin_2
  | 3, h => cases h; exact uin_g uin_3
  | 4, h => cases h; exact uin_g uin_4
  | 5, h => cases h; exact uin_g uin_5
  | 6, h => cases h; exact uin_g uin_6
  | 7, h => cases h; exact uin_g uin_7
  | 8, h => cases h; exact uin_g uin_8
  | 9, h => cases h; exact uin_g uin_9
  | 10, h => cases h; exact uin_g uin_11
  | 11, h => cases h; exact uin_g uin_12
  | k + 12, h => simp [vwCl] at h
/-- the types of a class's fields -/
def tyO : Nat → Nat → FieldType
  | 0 => tyX0
  | 1 => tyX1
  | 2 => tyX2
  | 3 => tyX3
  | 4 => tyX4
  | 5 => tyX5
  | 6 => tyX6
  | 7 => tyX7
  | 8 => tyX8
  | 9 => tyX9
  | 10 => tyX11
  | _ => tyX12
theorem tyO_ok {ci : Nat} {q : vw_C} (h : vwCl[ci]? = some q) : (∀ k, k < q.2.2 → parseFieldDescriptor (q.2.1 k).2.2.1 = some (tyO ci k)) ∧ (∀ a, a < q.2.2 → ∀ b, b < q.2.2 → a ≠ b → (q.2.1 a).2.1 ≠ (q.2.1 b).2.1) := by
  match ci, h with
  | 0, h => cases h; exact ⟨tyX0_ok, nmX0⟩
  | 1, h => cases h; exact ⟨tyX1_ok, nmX1⟩
  | 2, h => cases h; exact ⟨tyX2_ok, nmX2⟩
  | 3, h => cases h; exact ⟨tyX3_ok, nmX3⟩
  | 4, h => cases h; exact ⟨tyX4_ok, nmX4⟩
  | 5, h => cases h; exact ⟨tyX5_ok, nmX5⟩
  | 6, h => cases h; exact ⟨tyX6_ok, nmX6⟩
  | 7, h => cases h; exact ⟨tyX7_ok, nmX7⟩
  | 8, h => cases h; exact ⟨tyX8_ok, nmX8⟩
  | 9, h => cases h; exact ⟨tyX9_ok, nmX9⟩
  | 10, h => cases h; exact ⟨tyX11_ok, nmX11⟩
  | 11, h => cases h; exact ⟨tyX12_ok, nmX12⟩
  | k + 12, h => simp [vwCl] at h
theorem fT_len {ci : Nat} {q : vw_C} (h : vwCl[ci]? = some q) : (fT ci).length = q.2.2 := by
  match ci, h with
  | 0, h => cases h; rfl
  | 1, h => cases h; rfl
  | 2, h => cases h; rfl
  | 3, h => cases h; rfl
  | 4, h => cases h; rfl
  | 5, h => cases h; rfl
  | 6, h => cases h; rfl
  | 7, h => cases h; rfl
  | 8, h => cases h; rfl
  | 9, h => cases h; rfl
  | 10, h => cases h; rfl
  | 11, h => cases h; rfl
  | k + 12, h => simp [vwCl] at h
/-- what the machine's tables say that is no good word -/
def nwM : List (String × Nat × MethodName) := [("GoodsDownhill$Land", 29, ⟨"GoodsDownhill$Debts", "<init>", "()V"⟩), ("GoodsDownhill", 24, ⟨"GoodsDownhill$Tally", "<init>", "()V"⟩), ("GoodsDownhill", 34, ⟨"GoodsDownhill$Letters", "<init>", "()V"⟩), ("GoodsDownhill$Letters", 61, ⟨"GoodsDownhill", "isGood", "(I)Z"⟩), ("GoodsDownhill$Letters", 94, ⟨"GoodsDownhill", "isLaw", "(I)Z"⟩), ("GoodsDownhill$Debts", 21, ⟨"GoodsDownhill", "sumOf", "([I)I"⟩), ("GoodsDownhill$Land", 83, ⟨"GoodsDownhill", "isGood", "(I)Z"⟩)]
def nwC : List String := ["GoodsDownhill$Cellared", "GoodsDownhill$Joined", "GoodsDownhill$Hermit", "GoodsDownhill$Market", "GoodsDownhill$Feigned"]
def NX (U : State) : Prop := (∀ q ∈ nwM, va_Nw (.methodLinkNest q.1 q.2.1 q.2.2 "GoodsDownhill") U) ∧ (∀ C ∈ nwC, va_Nw (.castable C "GoodsDownhill$House") U) ∧ va_AO "GoodsDownhill$House" U
theorem NX.warm {s U : State} (hW : s.WarmedH U.vm) (h : NX s) : NX U := ⟨fun q hq => va_Nw.warmM hW (h.1 q hq), fun C hC => va_Nw.warmC hW (h.2.1 C hC), h.2.2.moved hW.alike⟩
theorem NX.calls {U : State} (h : NX U) (g : JFrame) (mk : MethodId) (a : Array Value) : NX (U.calling g mk a) := ⟨fun q hq => va_Nw.same rfl rfl (h.1 q hq), fun C hC => va_Nw.same rfl rfl (h.2.1 C hC), va_AO.moved (u := U) (Vm.Alike.refl U.vm) h.2.2⟩
def tyG (G : Gt) : List (ClassId × FieldType) := [(G.2.2.1, .int), (G.2.2.2, .object "GoodsDownhill$House")]
def rmm (t mc ms : Nat) : Room := { frames := t, cells := mc, slots := ms, locals := 41 * t + 32 }
/-- where a frame goes: a method's end, or the law's (its script's cell, length, ints) -/
abbrev TG : Type := (Option Value × Mm) ⊕ (Nat × Nat × (Nat → Int32))
def XT (G : Gt) (T : TG) (s : State) (args : Array Value) : Prop := match T with
  | .inl _ => True
  | .inr q => args = #[Value.ref q.1] ∧ va_X q.1 q.2.1 q.2.2 s s.heap ∧ q.1 < s.heap.size ∧ s.heap.size = G.1
/-- the machine, the method's code, the words -/
def Cx (G : Gt) (y : MethodName) (cc : ByteArray) (nL : Nat) (rt : Option FieldType) (T : TG) (p : Program) (s : State) (m : MethodId) (args : Array Value) (meth : Method) (c : Code) : Prop :=
  p.tables.exec = Jvm.exec ∧ c.code = cc ∧ meth.sig.returnType = rt ∧ c.maxLocals = nL ∧ s.vm.findClass y.cls = some m.cls ∧ (∀ w ∈ gtb, w.before args s = true) ∧ meth.locks = false ∧ (y.name = "<init>" → meth.name = "<init>") ∧ va_K G.2.1 vwCl (tyG G) s ∧ NX s ∧ G.1 ≤ s.heap.size ∧ XT G T s args
def Hx (G : Gt) (S : Mm) (s : State) (H : Heap) (locs : List Loc) : Prop := va_P G.2.1 vwCl (cW G S) H ∧ H.size = G.1 + mX S ∧ va_S (fun q => G.1 ≤ q) s.heap H locs
def Lx (z : Nat) (ls : Array Slot) (nL : Nat) (lv : List Value) : Prop := ls.size = nL ∧ lv_wf ls ∧ ∀ (k : Nat) (v : Value), lv[k]? = some v → v ≠ .null → ls[k]? = some (.val (cv z v))
/-- how a method ends -/
def Qm (G : Gt) (T : Option Value × Mm) : Array Value → State → Outcome → State → Prop := fun _ st o t => (o = .returned (T.1.map (cv G.1)) ∧ va_P G.2.1 vwCl (cW G T.2) t.heap ∧ t.heap.size = G.1 + mX T.2) ∧ va_F (fun q => G.1 ≤ q) st t
def QT (G : Gt) (T : TG) (mc ms : Nat) (below : List Frame) (args : Array Value) (s : State) : State → Prop := match T with
  | .inl T => MQ below (Qm G T) args s mc ms (fun q => G.1 ≤ q)
  | .inr _ => lw_Z below args s
/-- a frame at pc with these locals, this stack, this memory comes to the method's end T -/
def Sat (G : Gt) (l : Launch) (y : MethodName) (cc : ByteArray) (nL : Nat) (rt : Option FieldType) (t mc ms ce sl pc : Nat) (lv st : List Value) (S : Mm) (T : TG) : Prop :=
  ∀ (p : Program) (e : Env) (s : State) (m : MethodId) (args : Array Value) (below : List Frame) (meth : Method) (c : Code) (H : Heap) (locs : List Loc) (ls : Array Slot), Cx G y cc nL rt T p s m args meth c → Hx G S s H locs → Lx G.1 ls nL lv →
    W p l e (rmm t mc ms) s m args below meth c H locs ce sl (QT G T mc ms below args s) (F0 m pc ls (st.map (cv G.1)))
/-- a method's contract: with these arguments and this memory it comes to T -/
def CC (G : Gt) (l : Launch) (y : MethodName) (cc : ByteArray) (nL : Nat) (rt : Option FieldType) (t mc ms : Nat) (as : List Value) (S : Mm) (T : TG) : Prop := ∃ R, T = .inl R ∧
  Met l y (Cond.code y cc nL rt :: gtb) (rmm t mc ms) (va_Pc (as.map (cv G.1)) (fun U => va_P G.2.1 vwCl (cW G S) U.heap ∧ U.heap.size = G.1 + mX S ∧ va_K G.2.1 vwCl (tyG G) U ∧ NX U)) (Qm G R) mc ms (fun q => G.1 ≤ q)
/-- the locals with which a method begins -/
def lvA : Nat → List Value → List Value
  | n, [] => List.replicate n .null
  | n, v :: vs => if v.category = 2 then v :: .null :: lvA (n - 2) vs else v :: lvA (n - 1) vs
section
variable {G : Gt} {l : Launch} {y : MethodName} {cc : ByteArray} {nL : Nat} {rt : Option FieldType} {t mc ms ce sl pc : Nat} {lv st : List Value} {S : Mm} {T : TG}
theorem r_iload {k : Nat} {x : Int32} (hd : decode cc pc = .ok (.iload k, 2)) (hl : lv[k]? = some (.int x)) (K : Sat G l y cc nL rt t mc ms ce sl (pc + 2) lv (.int x :: st) S T) : Sat G l y cc nL rt t mc ms ce sl pc lv st S T :=
  fun p e s m args below meth c H locs ls hC hH hL => lv_iload hC.1 hC.2.1 hd (hL.2.2 k _ hl (by simp)) (K p e s m args below meth c H locs ls hC hH hL)
theorem r_iload_n {k : Fin 4} {x : Int32} (hd : decode cc pc = .ok (.iload_n k, 1)) (hl : lv[(k : Nat)]? = some (.int x)) (K : Sat G l y cc nL rt t mc ms ce sl (pc + 1) lv (.int x :: st) S T) : Sat G l y cc nL rt t mc ms ce sl pc lv st S T :=
  fun p e s m args below meth c H locs ls hC hH hL => lv_iload_n hC.1 hC.2.1 hd rfl (hL.2.2 k _ hl (by simp)) (K p e s m args below meth c H locs ls hC hH hL)
theorem r_aload {k : Nat} {x : Nat} (hd : decode cc pc = .ok (.aload k, 2)) (hl : lv[k]? = some (.ref x)) (K : Sat G l y cc nL rt t mc ms ce sl (pc + 2) lv (.ref x :: st) S T) : Sat G l y cc nL rt t mc ms ce sl pc lv st S T :=
  fun p e s m args below meth c H locs ls hC hH hL => lv_aload hC.1 hC.2.1 hd (hL.2.2 k _ hl (by simp)) (K p e s m args below meth c H locs ls hC hH hL)
theorem r_aload_n {k : Fin 4} {x : Nat} (hd : decode cc pc = .ok (.aload_n k, 1)) (hl : lv[(k : Nat)]? = some (.ref x)) (K : Sat G l y cc nL rt t mc ms ce sl (pc + 1) lv (.ref x :: st) S T) : Sat G l y cc nL rt t mc ms ce sl pc lv st S T :=
  fun p e s m args below meth c H locs ls hC hH hL => lv_aload_n hC.1 hC.2.1 hd rfl (hL.2.2 k _ hl (by simp)) (K p e s m args below meth c H locs ls hC hH hL)
theorem r_lload {k : Nat} {x : Int64} (hd : decode cc pc = .ok (.lload k, 2)) (hl : lv[k]? = some (.long x)) (K : Sat G l y cc nL rt t mc ms ce sl (pc + 2) lv (.long x :: st) S T) : Sat G l y cc nL rt t mc ms ce sl pc lv st S T :=
  fun p e s m args below meth c H locs ls hC hH hL => lv_lload hC.1 hC.2.1 hd (hL.2.2 k _ hl (by simp)) (K p e s m args below meth c H locs ls hC hH hL)
theorem r_lload_n {k : Fin 4} {x : Int64} (hd : decode cc pc = .ok (.lload_n k, 1)) (hl : lv[(k : Nat)]? = some (.long x)) (K : Sat G l y cc nL rt t mc ms ce sl (pc + 1) lv (.long x :: st) S T) : Sat G l y cc nL rt t mc ms ce sl pc lv st S T :=
  fun p e s m args below meth c H locs ls hC hH hL => lv_lload_n hC.1 hC.2.1 hd rfl (hL.2.2 k _ hl (by simp)) (K p e s m args below meth c H locs ls hC hH hL)
theorem r_iconst {n : Int} {v : Int32} (hd : decode cc pc = .ok (.iconst n, 1)) (hv : Int32.ofInt n = v) (K : Sat G l y cc nL rt t mc ms ce sl (pc + 1) lv (.int v :: st) S T) : Sat G l y cc nL rt t mc ms ce sl pc lv st S T :=
  fun p e s m args below meth c H locs ls hC hH hL => lv_iconst hC.1 hC.2.1 hd hv (K p e s m args below meth c H locs ls hC hH hL)
theorem r_bipush {n : Int} {v : Int32} (hd : decode cc pc = .ok (.bipush n, 2)) (hv : (Int8.ofInt n).toInt32 = v) (K : Sat G l y cc nL rt t mc ms ce sl (pc + 2) lv (.int v :: st) S T) : Sat G l y cc nL rt t mc ms ce sl pc lv st S T :=
  fun p e s m args below meth c H locs ls hC hH hL => lv_bipush hC.1 hC.2.1 hd hv (K p e s m args below meth c H locs ls hC hH hL)
theorem r_sipush {n : Int} {v : Int32} (hd : decode cc pc = .ok (.sipush n, 3)) (hv : (Int16.ofInt n).toInt32 = v) (K : Sat G l y cc nL rt t mc ms ce sl (pc + 3) lv (.int v :: st) S T) : Sat G l y cc nL rt t mc ms ce sl pc lv st S T :=
  fun p e s m args below meth c H locs ls hC hH hL => lv_sipush hC.1 hC.2.1 hd hv (K p e s m args below meth c H locs ls hC hH hL)
theorem r_lconst {n : Fin 2} {v : Int64} (hd : decode cc pc = .ok (.lconst n, 1)) (hv : Int64.ofNat (n : Nat) = v) (K : Sat G l y cc nL rt t mc ms ce sl (pc + 1) lv (.long v :: st) S T) : Sat G l y cc nL rt t mc ms ce sl pc lv st S T :=
  fun p e s m args below meth c H locs ls hC hH hL => lv_lconst hC.1 hC.2.1 hd hv (K p e s m args below meth c H locs ls hC hH hL)
theorem r_ldc {ix : Nat} {v : Int32} (hd : decode cc pc = .ok (.ldc ix, 2)) (hw : Cond.constant y.cls ix v ∈ gtb) (K : Sat G l y cc nL rt t mc ms ce sl (pc + 2) lv (.int v :: st) S T) : Sat G l y cc nL rt t mc ms ce sl pc lv st S T :=
  fun p e s m args below meth c H locs ls hC hH hL => lv_ldc hC.1 hC.2.1 hC.2.2.2.2.1 (hC.2.2.2.2.2.1 _ hw) hd (K p e s m args below meth c H locs ls hC hH hL)
theorem r_ldc2 {ix : Nat} {v : Int64} (hd : decode cc pc = .ok (.ldc2_w ix, 3)) (hw : Cond.constantLong y.cls ix v ∈ gtb) (K : Sat G l y cc nL rt t mc ms ce sl (pc + 3) lv (.long v :: st) S T) : Sat G l y cc nL rt t mc ms ce sl pc lv st S T :=
  fun p e s m args below meth c H locs ls hC hH hL => lv_ldc2 hC.1 hC.2.1 hC.2.2.2.2.1 (hC.2.2.2.2.2.1 _ hw) hd (K p e s m args below meth c H locs ls hC hH hL)
theorem r_iadd {a b : Int32} (hd : decode cc pc = .ok (.iadd, 1)) (K : Sat G l y cc nL rt t mc ms ce sl (pc + 1) lv (.int (a + b) :: st) S T) : Sat G l y cc nL rt t mc ms ce sl pc lv (.int b :: .int a :: st) S T :=
  fun p e s m args below meth c H locs ls hC hH hL => lv_iadd hC.1 hC.2.1 hd (K p e s m args below meth c H locs ls hC hH hL)
theorem r_isub {a b : Int32} (hd : decode cc pc = .ok (.isub, 1)) (K : Sat G l y cc nL rt t mc ms ce sl (pc + 1) lv (.int (a - b) :: st) S T) : Sat G l y cc nL rt t mc ms ce sl pc lv (.int b :: .int a :: st) S T :=
  fun p e s m args below meth c H locs ls hC hH hL => lv_isub hC.1 hC.2.1 hd (K p e s m args below meth c H locs ls hC hH hL)
theorem r_imul {a b : Int32} (hd : decode cc pc = .ok (.imul, 1)) (K : Sat G l y cc nL rt t mc ms ce sl (pc + 1) lv (.int (a * b) :: st) S T) : Sat G l y cc nL rt t mc ms ce sl pc lv (.int b :: .int a :: st) S T :=
  fun p e s m args below meth c H locs ls hC hH hL => lv_imul hC.1 hC.2.1 hd (K p e s m args below meth c H locs ls hC hH hL)
theorem r_iand {a b : Int32} (hd : decode cc pc = .ok (.iand, 1)) (K : Sat G l y cc nL rt t mc ms ce sl (pc + 1) lv (.int (a &&& b) :: st) S T) : Sat G l y cc nL rt t mc ms ce sl pc lv (.int b :: .int a :: st) S T :=
  fun p e s m args below meth c H locs ls hC hH hL => lv_iand hC.1 hC.2.1 hd (K p e s m args below meth c H locs ls hC hH hL)
theorem r_ior {a b : Int32} (hd : decode cc pc = .ok (.ior, 1)) (K : Sat G l y cc nL rt t mc ms ce sl (pc + 1) lv (.int (a ||| b) :: st) S T) : Sat G l y cc nL rt t mc ms ce sl pc lv (.int b :: .int a :: st) S T :=
  fun p e s m args below meth c H locs ls hC hH hL => lv_ior hC.1 hC.2.1 hd (K p e s m args below meth c H locs ls hC hH hL)
theorem r_ishl {a b : Int32} (hd : decode cc pc = .ok (.ishl, 1)) (K : Sat G l y cc nL rt t mc ms ce sl (pc + 1) lv (.int (a <<< (b &&& 31)) :: st) S T) : Sat G l y cc nL rt t mc ms ce sl pc lv (.int b :: .int a :: st) S T :=
  fun p e s m args below meth c H locs ls hC hH hL => lv_ishl hC.1 hC.2.1 hd (K p e s m args below meth c H locs ls hC hH hL)
theorem r_ishr {a b : Int32} (hd : decode cc pc = .ok (.ishr, 1)) (K : Sat G l y cc nL rt t mc ms ce sl (pc + 1) lv (.int (a >>> (b &&& 31)) :: st) S T) : Sat G l y cc nL rt t mc ms ce sl pc lv (.int b :: .int a :: st) S T :=
  fun p e s m args below meth c H locs ls hC hH hL => lv_ishr hC.1 hC.2.1 hd (K p e s m args below meth c H locs ls hC hH hL)
theorem r_ineg {a : Int32} (hd : decode cc pc = .ok (.ineg, 1)) (K : Sat G l y cc nL rt t mc ms ce sl (pc + 1) lv (.int (-a) :: st) S T) : Sat G l y cc nL rt t mc ms ce sl pc lv (.int a :: st) S T :=
  fun p e s m args below meth c H locs ls hC hH hL => lv_ineg hC.1 hC.2.1 hd (K p e s m args below meth c H locs ls hC hH hL)
theorem r_idiv {a b x : Int32} (hd : decode cc pc = .ok (.idiv, 1)) (h : dV a b = some x) (K : Sat G l y cc nL rt t mc ms ce sl (pc + 1) lv (.int x :: st) S T) : Sat G l y cc nL rt t mc ms ce sl pc lv (.int b :: .int a :: st) S T := by
  unfold dV at h
  split at h
  · cases h
  · next hn =>
    cases h
    exact fun p e s m args below meth c H locs ls hC hH hL => lv_idiv hC.1 hC.2.1 hd hn (K p e s m args below meth c H locs ls hC hH hL)
theorem r_irem {a b x : Int32} (hd : decode cc pc = .ok (.irem, 1)) (h : rM a b = some x) (K : Sat G l y cc nL rt t mc ms ce sl (pc + 1) lv (.int x :: st) S T) : Sat G l y cc nL rt t mc ms ce sl pc lv (.int b :: .int a :: st) S T := by
  unfold rM at h
  split at h
  · cases h
  · next hn =>
    cases h
    exact fun p e s m args below meth c H locs ls hC hH hL => lv_irem hC.1 hC.2.1 hd hn (K p e s m args below meth c H locs ls hC hH hL)
theorem r_i2l {a : Int32} (hd : decode cc pc = .ok (.i2l, 1)) (K : Sat G l y cc nL rt t mc ms ce sl (pc + 1) lv (.long a.toInt64 :: st) S T) : Sat G l y cc nL rt t mc ms ce sl pc lv (.int a :: st) S T :=
  fun p e s m args below meth c H locs ls hC hH hL => lv_i2l hC.1 hC.2.1 hd rfl (K p e s m args below meth c H locs ls hC hH hL)
theorem r_lcmp {a b : Int64} (hd : decode cc pc = .ok (.lcmp, 1)) (K : Sat G l y cc nL rt t mc ms ce sl (pc + 1) lv (.int (lg_cmp a b) :: st) S T) : Sat G l y cc nL rt t mc ms ce sl pc lv (.long b :: .long a :: st) S T :=
  fun p e s m args below meth c H locs ls hC hH hL => W.lcmp hC.1 hC.2.1 hd (K p e s m args below meth c H locs ls hC hH hL)
theorem cv_cat {z : Nat} (v : Value) : (cv z v).category = v.category := by cases v <;> rfl
theorem r_dup {v : Value} (hd : decode cc pc = .ok (.dup, 1)) (hv : v.category = 1) (K : Sat G l y cc nL rt t mc ms ce sl (pc + 1) lv (v :: v :: st) S T) : Sat G l y cc nL rt t mc ms ce sl pc lv (v :: st) S T :=
  fun p e s m args below meth c H locs ls hC hH hL => lv_dup hC.1 hC.2.1 hd (by rw [cv_cat]; exact hv) (K p e s m args below meth c H locs ls hC hH hL)
theorem r_dup2 {v w : Value} (hd : decode cc pc = .ok (.dup2, 1)) (hv : v.category = 1) (hw : w.category = 1) (K : Sat G l y cc nL rt t mc ms ce sl (pc + 1) lv (v :: w :: v :: w :: st) S T) : Sat G l y cc nL rt t mc ms ce sl pc lv (v :: w :: st) S T :=
  fun p e s m args below meth c H locs ls hC hH hL => lv_dup2_11 hC.1 hC.2.1 hd (by rw [cv_cat]; exact hv) (by rw [cv_cat]; exact hw) (K p e s m args below meth c H locs ls hC hH hL)
theorem r_pop {v : Value} (hd : decode cc pc = .ok (.pop, 1)) (hv : v.category = 1) (K : Sat G l y cc nL rt t mc ms ce sl (pc + 1) lv st S T) : Sat G l y cc nL rt t mc ms ce sl pc lv (v :: st) S T :=
  fun p e s m args below meth c H locs ls hC hH hL => lv_pop hC.1 hC.2.1 hd (by rw [cv_cat]; exact hv) (K p e s m args below meth c H locs ls hC hH hL)
theorem r_goto {off : Int} {tgt : Nat} (hd : decode cc pc = .ok (.goto off, 3)) (ht : (pc : Int) + off = (tgt : Int)) (K : Sat G l y cc nL rt t mc ms ce sl tgt lv st S T) : Sat G l y cc nL rt t mc ms ce sl pc lv st S T :=
  fun p e s m args below meth c H locs ls hC hH hL => lv_goto hC.1 hC.2.1 hd ht (K p e s m args below meth c H locs ls hC hH hL)
theorem r_if_eq {a : Int32} {off : Int} {tgt : Nat} (hd : decode cc pc = .ok (.ifCond .eq off, 3)) (ht : (pc : Int) + off = (tgt : Int)) (K1 : a = 0 → Sat G l y cc nL rt t mc ms ce sl tgt lv st S T) (K2 : ¬ a = 0 → Sat G l y cc nL rt t mc ms ce sl (pc + 3) lv st S T) : Sat G l y cc nL rt t mc ms ce sl pc lv (.int a :: st) S T :=
  fun p e s m args below meth c H locs ls hC hH hL => lv_if_eq hC.1 hC.2.1 hd ht (fun h => K1 h p e s m args below meth c H locs ls hC hH hL) (fun h => K2 h p e s m args below meth c H locs ls hC hH hL)
theorem r_if_ne {a : Int32} {off : Int} {tgt : Nat} (hd : decode cc pc = .ok (.ifCond .ne off, 3)) (ht : (pc : Int) + off = (tgt : Int)) (K1 : ¬ a = 0 → Sat G l y cc nL rt t mc ms ce sl tgt lv st S T) (K2 : a = 0 → Sat G l y cc nL rt t mc ms ce sl (pc + 3) lv st S T) : Sat G l y cc nL rt t mc ms ce sl pc lv (.int a :: st) S T :=
  fun p e s m args below meth c H locs ls hC hH hL => lv_if_ne hC.1 hC.2.1 hd ht (fun h => K1 h p e s m args below meth c H locs ls hC hH hL) (fun h => K2 h p e s m args below meth c H locs ls hC hH hL)
theorem r_if_lt {a : Int32} {off : Int} {tgt : Nat} (hd : decode cc pc = .ok (.ifCond .lt off, 3)) (ht : (pc : Int) + off = (tgt : Int)) (K1 : a < 0 → Sat G l y cc nL rt t mc ms ce sl tgt lv st S T) (K2 : ¬ a < 0 → Sat G l y cc nL rt t mc ms ce sl (pc + 3) lv st S T) : Sat G l y cc nL rt t mc ms ce sl pc lv (.int a :: st) S T :=
  fun p e s m args below meth c H locs ls hC hH hL => lv_if_lt hC.1 hC.2.1 hd ht (fun h => K1 h p e s m args below meth c H locs ls hC hH hL) (fun h => K2 h p e s m args below meth c H locs ls hC hH hL)
theorem r_if_ge {a : Int32} {off : Int} {tgt : Nat} (hd : decode cc pc = .ok (.ifCond .ge off, 3)) (ht : (pc : Int) + off = (tgt : Int)) (K1 : 0 ≤ a → Sat G l y cc nL rt t mc ms ce sl tgt lv st S T) (K2 : ¬ 0 ≤ a → Sat G l y cc nL rt t mc ms ce sl (pc + 3) lv st S T) : Sat G l y cc nL rt t mc ms ce sl pc lv (.int a :: st) S T :=
  fun p e s m args below meth c H locs ls hC hH hL => lv_if_ge hC.1 hC.2.1 hd ht (fun h => K1 h p e s m args below meth c H locs ls hC hH hL) (fun h => K2 h p e s m args below meth c H locs ls hC hH hL)
theorem r_if_gt {a : Int32} {off : Int} {tgt : Nat} (hd : decode cc pc = .ok (.ifCond .gt off, 3)) (ht : (pc : Int) + off = (tgt : Int)) (K1 : 0 < a → Sat G l y cc nL rt t mc ms ce sl tgt lv st S T) (K2 : ¬ 0 < a → Sat G l y cc nL rt t mc ms ce sl (pc + 3) lv st S T) : Sat G l y cc nL rt t mc ms ce sl pc lv (.int a :: st) S T :=
  fun p e s m args below meth c H locs ls hC hH hL => lv_if_gt hC.1 hC.2.1 hd ht (fun h => K1 h p e s m args below meth c H locs ls hC hH hL) (fun h => K2 h p e s m args below meth c H locs ls hC hH hL)
theorem r_if_le {a : Int32} {off : Int} {tgt : Nat} (hd : decode cc pc = .ok (.ifCond .le off, 3)) (ht : (pc : Int) + off = (tgt : Int)) (K1 : a ≤ 0 → Sat G l y cc nL rt t mc ms ce sl tgt lv st S T) (K2 : ¬ a ≤ 0 → Sat G l y cc nL rt t mc ms ce sl (pc + 3) lv st S T) : Sat G l y cc nL rt t mc ms ce sl pc lv (.int a :: st) S T :=
  fun p e s m args below meth c H locs ls hC hH hL => lv_if_le hC.1 hC.2.1 hd ht (fun h => K1 h p e s m args below meth c H locs ls hC hH hL) (fun h => K2 h p e s m args below meth c H locs ls hC hH hL)
theorem r_icmp_eq {a b : Int32} {off : Int} {tgt : Nat} (hd : decode cc pc = .ok (.if_icmp .eq off, 3)) (ht : (pc : Int) + off = (tgt : Int)) (K1 : a = b → Sat G l y cc nL rt t mc ms ce sl tgt lv st S T) (K2 : ¬ a = b → Sat G l y cc nL rt t mc ms ce sl (pc + 3) lv st S T) : Sat G l y cc nL rt t mc ms ce sl pc lv (.int b :: .int a :: st) S T :=
  fun p e s m args below meth c H locs ls hC hH hL => lv_icmp_eq hC.1 hC.2.1 hd ht (fun h => K1 h p e s m args below meth c H locs ls hC hH hL) (fun h => K2 h p e s m args below meth c H locs ls hC hH hL)
theorem r_icmp_ne {a b : Int32} {off : Int} {tgt : Nat} (hd : decode cc pc = .ok (.if_icmp .ne off, 3)) (ht : (pc : Int) + off = (tgt : Int)) (K1 : ¬ a = b → Sat G l y cc nL rt t mc ms ce sl tgt lv st S T) (K2 : a = b → Sat G l y cc nL rt t mc ms ce sl (pc + 3) lv st S T) : Sat G l y cc nL rt t mc ms ce sl pc lv (.int b :: .int a :: st) S T :=
  fun p e s m args below meth c H locs ls hC hH hL => lv_icmp_ne hC.1 hC.2.1 hd ht (fun h => K1 h p e s m args below meth c H locs ls hC hH hL) (fun h => K2 h p e s m args below meth c H locs ls hC hH hL)
theorem r_icmp_lt {a b : Int32} {off : Int} {tgt : Nat} (hd : decode cc pc = .ok (.if_icmp .lt off, 3)) (ht : (pc : Int) + off = (tgt : Int)) (K1 : a < b → Sat G l y cc nL rt t mc ms ce sl tgt lv st S T) (K2 : ¬ a < b → Sat G l y cc nL rt t mc ms ce sl (pc + 3) lv st S T) : Sat G l y cc nL rt t mc ms ce sl pc lv (.int b :: .int a :: st) S T :=
  fun p e s m args below meth c H locs ls hC hH hL => lv_icmp_lt hC.1 hC.2.1 hd ht (fun h => K1 h p e s m args below meth c H locs ls hC hH hL) (fun h => K2 h p e s m args below meth c H locs ls hC hH hL)
theorem r_icmp_ge {a b : Int32} {off : Int} {tgt : Nat} (hd : decode cc pc = .ok (.if_icmp .ge off, 3)) (ht : (pc : Int) + off = (tgt : Int)) (K1 : b ≤ a → Sat G l y cc nL rt t mc ms ce sl tgt lv st S T) (K2 : ¬ b ≤ a → Sat G l y cc nL rt t mc ms ce sl (pc + 3) lv st S T) : Sat G l y cc nL rt t mc ms ce sl pc lv (.int b :: .int a :: st) S T :=
  fun p e s m args below meth c H locs ls hC hH hL => lv_icmp_ge hC.1 hC.2.1 hd ht (fun h => K1 h p e s m args below meth c H locs ls hC hH hL) (fun h => K2 h p e s m args below meth c H locs ls hC hH hL)
theorem r_icmp_gt {a b : Int32} {off : Int} {tgt : Nat} (hd : decode cc pc = .ok (.if_icmp .gt off, 3)) (ht : (pc : Int) + off = (tgt : Int)) (K1 : b < a → Sat G l y cc nL rt t mc ms ce sl tgt lv st S T) (K2 : ¬ b < a → Sat G l y cc nL rt t mc ms ce sl (pc + 3) lv st S T) : Sat G l y cc nL rt t mc ms ce sl pc lv (.int b :: .int a :: st) S T :=
  fun p e s m args below meth c H locs ls hC hH hL => lv_icmp_gt hC.1 hC.2.1 hd ht (fun h => K1 h p e s m args below meth c H locs ls hC hH hL) (fun h => K2 h p e s m args below meth c H locs ls hC hH hL)
theorem r_icmp_le {a b : Int32} {off : Int} {tgt : Nat} (hd : decode cc pc = .ok (.if_icmp .le off, 3)) (ht : (pc : Int) + off = (tgt : Int)) (K1 : a ≤ b → Sat G l y cc nL rt t mc ms ce sl tgt lv st S T) (K2 : ¬ a ≤ b → Sat G l y cc nL rt t mc ms ce sl (pc + 3) lv st S T) : Sat G l y cc nL rt t mc ms ce sl pc lv (.int b :: .int a :: st) S T :=
  fun p e s m args below meth c H locs ls hC hH hL => lv_icmp_le hC.1 hC.2.1 hd ht (fun h => K1 h p e s m args below meth c H locs ls hC hH hL) (fun h => K2 h p e s m args below meth c H locs ls hC hH hL)
end
