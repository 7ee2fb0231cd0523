/-! the abstract memory: ints by cell and place, references by cell and place, kinds, lengths, how many cells -/
abbrev Mm : Type := (Nat → Nat → Int32) × (Nat → Nat → Option Nat) × (Nat → Nat) × (Nat → Nat) × Nat
def mI (S : Mm) : Nat → Nat → Int32 := S.1
def mR (S : Mm) : Nat → Nat → Option Nat := S.2.1
def mC (S : Mm) : Nat → Nat := S.2.2.1
def mN (S : Mm) : Nat → Nat := S.2.2.2.1
def mX (S : Mm) : Nat := S.2.2.2.2
def u2 {α : Type} (f : Nat → Nat → α) (a j : Nat) (v : α) : Nat → Nat → α := fun b k => if b = a ∧ k = j then v else f b k
def sI (S : Mm) (a j : Nat) (v : Int32) : Mm := (u2 S.1 a j v, S.2)
def sR (S : Mm) (a j : Nat) (r : Option Nat) : Mm := (S.1, u2 S.2.1 a j r, S.2.2)
def sW (S : Mm) (a : Nat) (f : Nat → Int32) : Mm := (va_up S.1 a f, S.2)
def nC (S : Mm) (ci n : Nat) : Mm := (va_up S.1 (mX S) (fun _ => 0), va_up S.2.1 (mX S) (fun _ => none), va_up S.2.2.1 (mX S) ci, va_up S.2.2.2.1 (mX S) n, mX S + 1)
def fT : Nat → List Bool
  | 1 => [true]
  | 6 => [true, false, true, true, true, true, false, false, false]
  | 7 => [true, false]
  | 9 => [false, false, false, true]
  | 10 => [true, true, true, false, true, true, true, true, false, true]
  | 11 => [false, false, false, false, true, true, true, true, true, true, true, true, true, true, true, false, true, false, true, false, true, true, false, false, false, true, true, false, false, false, false, true, true, true, true, true, false, false]
  | _ => [false, false, false, false, false, false]
/-- the kinds that are houses -/
def isF (c : Nat) : Bool := c == 0 || c == 2 || c == 3 || c == 4 || c == 5 || c == 8
def okc (S : Mm) (a ci : Nat) : Bool := decide (a < mX S) && decide (mC S a = ci)
def okF (S : Mm) (a : Nat) : Bool := decide (a < mX S) && isF (mC S a)
def inb (i : Int32) (n : Nat) : Bool := decide (0 ≤ i) && decide (i.toNatClampNeg < n)
def gI (S : Mm) (ci a j : Nat) : Option Int32 := if okc S a ci = true then some (mI S a j) else none
def gR (S : Mm) (ci a j : Nat) : Option Nat := if okc S a ci = true then mR S a j else none
def gF (S : Mm) (a j : Nat) : Option Int32 := if okF S a = true then some (mI S a j) else none
def pI (S : Mm) (ci a j : Nat) (v : Int32) : Option Mm := if okc S a ci = true then some (sI S a j v) else none
def pB (S : Mm) (ci a j : Nat) (v : Int32) : Option Mm := if (okc S a ci && (v == 0 || v == 1)) = true then some (sI S a j v) else none
def pR (S : Mm) (ci a j r : Nat) : Option Mm := if okc S a ci = true then some (sR S a j (some r)) else none
def pF (S : Mm) (a j : Nat) (v : Int32) : Option Mm := if okF S a = true then some (sI S a j v) else none
def aI (S : Mm) (a : Nat) (i : Int32) : Option Int32 := if (okc S a 100 && inb i (mN S a)) = true then some (mI S a i.toNatClampNeg) else none
def aR (S : Mm) (a : Nat) (i : Int32) : Option Nat := if (okc S a 101 && inb i (mN S a)) = true then mR S a i.toNatClampNeg else none
def aL (S : Mm) (ci a : Nat) : Option Int32 := if okc S a ci = true then some (Int32.ofNat (mN S a)) else none
def aS (S : Mm) (a : Nat) (i v : Int32) : Option Mm := if (okc S a 100 && inb i (mN S a)) = true then some (sI S a i.toNatClampNeg v) else none
def aQ (S : Mm) (a : Nat) (i : Int32) (r : Nat) : Option Mm := if (okc S a 101 && inb i (mN S a) && okF S r) = true then some (sR S a i.toNatClampNeg (some r)) else none
def aC (S : Mm) (a : Nat) (sp : Int32) (b : Nat) (dp n : Int32) : Option Mm := if (okc S a 100 && okc S b 100 && decide (0 ≤ sp) && decide (0 ≤ dp) && decide (0 ≤ n) && decide (sp.toNatClampNeg + n.toNatClampNeg ≤ mN S a) && decide (dp.toNatClampNeg + n.toNatClampNeg ≤ mN S b)) = true then some (sW S b (va_cpy (mI S a) (mI S b) sp.toNatClampNeg dp.toNatClampNeg n.toNatClampNeg)) else none
def dV (x y : Int32) : Option Int32 := if y = 0 then none else some (x / y)
def rM (x y : Int32) : Option Int32 := if y = 0 then none else some (x - x / y * y)
def rB (x : Int32) : Option Int32 := if (x == 0 || x == 1) = true then some x else none
def mnI (x y : Int32) : Int32 := if y < x then y else x
def mxI (x y : Int32) : Int32 := if x < y then y else x
theorem bnd {α β : Type} {o : Option α} {f : α → Option β} {t : β} (h : o.bind f = some t) : ∃ x, o = some x ∧ f x = some t := Option.bind_eq_some_iff.mp h
theorem oif {α : Type} {b : Prop} [Decidable b] {x : Option α} {t : α} (h : (if b then x else none) = some t) : b ∧ x = some t := by
  by_cases hb : b
  · rw [if_pos hb] at h; exact ⟨hb, h⟩
  · rw [if_neg hb] at h; cases h
/-! what a memory is on the machine -/
abbrev Gt : Type := Nat × va_G × ClassId × ClassId
def cv (z : Nat) : Value → Value
  | .ref k => .ref (z + k)
  | .retAddr b => .ref b
  | v => v
def cS (z : Nat) (S : Mm) (k : Nat) (t : Bool) (j : Nat) : Value := if t = true then va_rf ((mR S k j).map (fun r => z + r)) else .int (mI S k j)
def cO (z : Nat) (S : Mm) (k : Nat) : Nat → List Bool → List Value
  | _, [] => []
  | j, t :: ts => cS z S k t j :: cO z S k (j + 1) ts
def cE (G : Gt) (S : Mm) (k : Nat) : va_E := if mC S k = 100 then .inl (G.2.2.1, mN S k, .inl (mI S k)) else if mC S k = 101 then .inl (G.2.2.2, mN S k, .inr (.inr (.inr (.inr (fun j => (mR S k j).map (fun r => G.1 + r)))))) else .inr (mC S k, cO G.1 S k 0 (fT (mC S k)))
def cW (G : Gt) (S : Mm) : va_W := (List.range (mX S)).map (fun k => (G.1 + k, cE G S k))
theorem cW_at {G : Gt} {S : Mm} {k : Nat} (h : k < mX S) : (cW G S)[k]? = some (G.1 + k, cE G S k) := by
  simp [cW, h]
theorem cW_lt {G : Gt} {S : Mm} {k : Nat} {q : Nat × va_E} (h : (cW G S)[k]? = some q) : k < mX S ∧ q = (G.1 + k, cE G S k) := by
  have hk : k < mX S := by
    have := (List.getElem?_eq_some_iff.mp h).1
    simpa [cW] using this
  rw [cW_at hk] at h
  exact ⟨hk, (Option.some.inj h).symm⟩
theorem cW_D {G : Gt} {S : Mm} : va_D (fun q => G.1 ≤ q) (cW G S) := by
  refine ⟨fun i j p q hi hj h => ?_, fun k q hk => ?_⟩
  · obtain ⟨-, rfl⟩ := cW_lt hi
    obtain ⟨-, rfl⟩ := cW_lt hj
    exact Nat.add_left_cancel h
  · obtain ⟨-, rfl⟩ := cW_lt hk
    exact Nat.le_add_right _ _
theorem cW_set {G : Gt} {S S' : Mm} {a : Nat} {E : va_E} (hX : mX S' = mX S) (ho : ∀ k, k ≠ a → cE G S' k = cE G S k) (ha : cE G S' a = E) : (cW G S).set a (G.1 + a, E) = cW G S' := by
  apply List.ext_getElem?
  intro k
  by_cases hk : k < mX S
  · rw [cW_at (S := S') (by rw [hX]; exact hk)]
    by_cases hka : k = a
    · subst hka
      rw [List.getElem?_set_self (by simpa [cW] using hk), ha]
    · rw [List.getElem?_set_ne (Ne.symm hka), cW_at hk, ho k hka]
  · have h1 : ((cW G S).set a (G.1 + a, E))[k]? = none := by simp [cW]; omega
    have h2 : (cW G S')[k]? = none := by simp [cW, hX]; omega
    rw [h1, h2]
theorem cO_at {z : Nat} {S : Mm} {k : Nat} : ∀ (ts : List Bool) (i j : Nat), (cO z S k i ts)[j]? = ts[j]?.map (fun t => cS z S k t (i + j))
  | [], i, j => by simp [cO]
  | t :: ts, i, 0 => by simp [cO]
  | t :: ts, i, j + 1 => by
    rw [cO, List.getElem?_cons_succ, List.getElem?_cons_succ, cO_at ts (i + 1) j, show i + 1 + j = i + (j + 1) by omega]
theorem cO_len {z : Nat} {S : Mm} {k : Nat} : ∀ (ts : List Bool) (i : Nat), (cO z S k i ts).length = ts.length
  | [], i => rfl
  | t :: ts, i => by rw [cO, List.length_cons, List.length_cons, cO_len ts (i + 1)]
theorem cO_congr {z : Nat} {S S' : Mm} {k : Nat} : ∀ (ts : List Bool) (i : Nat), (∀ j, i ≤ j → mI S' k j = mI S k j) → (∀ j, i ≤ j → mR S' k j = mR S k j) → cO z S' k i ts = cO z S k i ts
  | [], i, _, _ => rfl
  | t :: ts, i, h1, h2 => by
    rw [cO, cO, cO_congr ts (i + 1) (fun j hj => h1 j (by omega)) (fun j hj => h2 j (by omega))]
    rw [cS, cS, h1 i (Nat.le_refl i), h2 i (Nat.le_refl i)]
theorem cE_congr {G : Gt} {S S' : Mm} {k : Nat} (hI : mI S' k = mI S k) (hR : mR S' k = mR S k) (hC : mC S' k = mC S k) (hN : mN S' k = mN S k) : cE G S' k = cE G S k := by
  unfold cE
  rw [hC, hN, hI, hR, cO_congr (S := S) (S' := S') (fT (mC S k)) 0 (fun j _ => by rw [hI]) (fun j _ => by rw [hR])]
