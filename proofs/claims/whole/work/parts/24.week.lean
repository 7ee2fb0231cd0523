/-! bounds of a value -/
def Bd (V : Vw) (n : Nat) : Prop := n ≤ 6 ∧ V 0 0 = nI n ∧ (∃ q, q < 3 ∧ V 0 1 = nI q) ∧ bdr V 1 6 5 ∧ bdr V 2 6 9 ∧ bdr V 3 6 99 ∧ bdr V 4 6 2 ∧ bdr V 5 6 9 ∧ bdr V 6 6 2 ∧ bdr V 7 6 9 ∧ bdr V 8 6 9999 ∧ bdr V 9 18 99 ∧ bdr V 10 36 99 ∧ (∀ k, k < 3 → ∃ q, 1 ≤ q ∧ q ≤ 9 ∧ V 11 k = nI q) ∧ (∀ h, n ≤ h → h < 6 → V 8 h = 0 ∧ ∀ g, g < 3 → V 9 (3 * h + g) = 0) ∧ (∀ a b, a < 6 → b < 6 → (n ≤ a ∨ n ≤ b) → V 10 (6 * a + b) = 0)
section
variable {V : Vw} {n : Nat}
theorem Bd.le (h : Bd V n) : n ≤ 6 := h.1
theorem Bd.sz (h : Bd V n) : V 0 0 = nI n := h.2.1
theorem Bd.lw (h : Bd V n) : ∃ q, q < 3 ∧ V 0 1 = nI q := h.2.2.1
theorem Bd.r1 (h : Bd V n) : bdr V 1 6 5 := h.2.2.2.1
theorem Bd.r2 (h : Bd V n) : bdr V 2 6 9 := h.2.2.2.2.1
theorem Bd.r3 (h : Bd V n) : bdr V 3 6 99 := h.2.2.2.2.2.1
theorem Bd.r4 (h : Bd V n) : bdr V 4 6 2 := h.2.2.2.2.2.2.1
theorem Bd.r5 (h : Bd V n) : bdr V 5 6 9 := h.2.2.2.2.2.2.2.1
theorem Bd.r6 (h : Bd V n) : bdr V 6 6 2 := h.2.2.2.2.2.2.2.2.1
theorem Bd.r7 (h : Bd V n) : bdr V 7 6 9 := h.2.2.2.2.2.2.2.2.2.1
theorem Bd.r8 (h : Bd V n) : bdr V 8 6 9999 := h.2.2.2.2.2.2.2.2.2.2.1
theorem Bd.r9 (h : Bd V n) : bdr V 9 18 99 := h.2.2.2.2.2.2.2.2.2.2.2.1
theorem Bd.r10 (h : Bd V n) : bdr V 10 36 99 := h.2.2.2.2.2.2.2.2.2.2.2.2.1
theorem Bd.r11 (h : Bd V n) : ∀ k, k < 3 → ∃ q, 1 ≤ q ∧ q ≤ 9 ∧ V 11 k = nI q := h.2.2.2.2.2.2.2.2.2.2.2.2.2.1
theorem Bd.z9 (h : Bd V n) : ∀ h, n ≤ h → h < 6 → V 8 h = 0 ∧ ∀ g, g < 3 → V 9 (3 * h + g) = 0 := h.2.2.2.2.2.2.2.2.2.2.2.2.2.2.1
theorem Bd.z10 (h : Bd V n) : ∀ a b, a < 6 → b < 6 → (n ≤ a ∨ n ≤ b) → V 10 (6 * a + b) = 0 := h.2.2.2.2.2.2.2.2.2.2.2.2.2.2.2
theorem Bd.u8 (hB : Bd V n) {h q : Nat} (hh : h < n) (hq : q ≤ 9999) : Bd (u2 V 8 h (nI q)) n := by
  have n0 : ∀ k, ¬ (0 = 8 ∧ k = h) := fun k q => by omega
  refine ⟨hB.le, by rw [u2_ne (n0 0)]; exact hB.sz, by rw [u2_ne (n0 1)]; exact hB.lw, hB.r1.set (by omega), hB.r2.set (by omega), hB.r3.set (by omega), hB.r4.set (by omega), hB.r5.set (by omega), hB.r6.set (by omega), hB.r7.set (by omega), hB.r8.set (fun _ => hq), hB.r9.set (by omega), hB.r10.set (by omega), fun k hk => by rw [u2_ne (by omega)]; exact hB.r11 k hk, fun a h1 h2 => ?_, fun a b h1 h2 h3 => by rw [u2_ne (by omega)]; exact hB.z10 a b h1 h2 h3⟩
  rw [u2_ne (by omega)]
  exact ⟨(hB.z9 a h1 h2).1, fun g hg => by rw [u2_ne (by omega)]; exact (hB.z9 a h1 h2).2 g hg⟩
theorem Bd.u9 (hB : Bd V n) {h g q : Nat} (hh : h < n) (hg : g < 3) (hq : q ≤ 99) : Bd (u2 V 9 (3 * h + g) (nI q)) n := by
  refine ⟨hB.le, by rw [u2_ne (by omega)]; exact hB.sz, by rw [u2_ne (by omega)]; exact hB.lw, hB.r1.set (by omega), hB.r2.set (by omega), hB.r3.set (by omega), hB.r4.set (by omega), hB.r5.set (by omega), hB.r6.set (by omega), hB.r7.set (by omega), hB.r8.set (by omega), hB.r9.set (fun _ => hq), hB.r10.set (by omega), fun k hk => by rw [u2_ne (by omega)]; exact hB.r11 k hk, fun a h1 h2 => ?_, fun a b h1 h2 h3 => by rw [u2_ne (by omega)]; exact hB.z10 a b h1 h2 h3⟩
  rw [u2_ne (by omega)]
  exact ⟨(hB.z9 a h1 h2).1, fun g hg => by rw [u2_ne (by omega)]; exact (hB.z9 a h1 h2).2 g hg⟩
theorem Bd.u10 (hB : Bd V n) {c d q : Nat} (hc : c < n) (hd : d < n) (hq : q ≤ 99) : Bd (u2 V 10 (6 * c + d) (nI q)) n := by
  have := hB.le
  refine ⟨hB.le, by rw [u2_ne (by omega)]; exact hB.sz, by rw [u2_ne (by omega)]; exact hB.lw, hB.r1.set (by omega), hB.r2.set (by omega), hB.r3.set (by omega), hB.r4.set (by omega), hB.r5.set (by omega), hB.r6.set (by omega), hB.r7.set (by omega), hB.r8.set (by omega), hB.r9.set (by omega), hB.r10.set (fun _ => hq), fun k hk => by rw [u2_ne (by omega)]; exact hB.r11 k hk, fun a h1 h2 => ?_, fun a b h1 h2 h3 => by rw [u2_ne (by omega)]; exact hB.z10 a b h1 h2 h3⟩
  rw [u2_ne (by omega)]
  exact ⟨(hB.z9 a h1 h2).1, fun g hg => by rw [u2_ne (by omega)]; exact (hB.z9 a h1 h2).2 g hg⟩
theorem Bd.u11 (hB : Bd V n) {c q : Nat} (h1 : 1 ≤ q) (hq : q ≤ 9) : Bd (u2 V 11 c (nI q)) n := by
  refine ⟨hB.le, by rw [u2_ne (by omega)]; exact hB.sz, by rw [u2_ne (by omega)]; exact hB.lw, hB.r1.set (by omega), hB.r2.set (by omega), hB.r3.set (by omega), hB.r4.set (by omega), hB.r5.set (by omega), hB.r6.set (by omega), hB.r7.set (by omega), hB.r8.set (by omega), hB.r9.set (by omega), hB.r10.set (by omega), fun k hk => ?_, fun a h1 h2 => ?_, fun a b h1 h2 h3 => by rw [u2_ne (by omega)]; exact hB.z10 a b h1 h2 h3⟩
  · by_cases hc : k = c
    · subst hc
      exact ⟨q, h1, hq, u2_eq⟩
    · rw [u2_ne (by omega)]; exact hB.r11 k hk
  · rw [u2_ne (by omega)]
    exact ⟨(hB.z9 a h1 h2).1, fun g hg => by rw [u2_ne (by omega)]; exact (hB.z9 a h1 h2).2 g hg⟩
theorem bdr.set0 {r m b k : Nat} {v : Int32} (h : bdr V r m b) (hr : r ≠ 0) : bdr (u2 V 0 k v) r m b := fun j hj => by
  obtain ⟨q, h1, h2⟩ := h j hj
  exact ⟨q, h1, by rw [u2_ne (by omega)]; exact h2⟩
theorem Bd.u0 (hB : Bd V n) {k : Nat} {v : Int32} (hk : 2 ≤ k) : Bd (u2 V 0 k v) n := by
  refine ⟨hB.le, by rw [u2_ne (by omega)]; exact hB.sz, by rw [u2_ne (by omega)]; exact hB.lw, hB.r1.set0 (by omega), hB.r2.set0 (by omega), hB.r3.set0 (by omega), hB.r4.set0 (by omega), hB.r5.set0 (by omega), hB.r6.set0 (by omega), hB.r7.set0 (by omega), hB.r8.set0 (by omega), hB.r9.set0 (by omega), hB.r10.set0 (by omega), fun k hk => by rw [u2_ne (by omega)]; exact hB.r11 k hk, fun a h1 h2 => ?_, fun a b h1 h2 h3 => by rw [u2_ne (by omega)]; exact hB.z10 a b h1 h2 h3⟩
  rw [u2_ne (by omega)]
  exact ⟨(hB.z9 a h1 h2).1, fun g hg => by rw [u2_ne (by omega)]; exact (hB.z9 a h1 h2).2 g hg⟩
theorem Bd.u01 (hB : Bd V n) {q : Nat} (hq : q < 3) : Bd (u2 V 0 1 (nI q)) n := by
  refine ⟨hB.le, by rw [u2_ne (by omega)]; exact hB.sz, ⟨q, hq, u2_eq⟩, hB.r1.set0 (by omega), hB.r2.set0 (by omega), hB.r3.set0 (by omega), hB.r4.set0 (by omega), hB.r5.set0 (by omega), hB.r6.set0 (by omega), hB.r7.set0 (by omega), hB.r8.set0 (by omega), hB.r9.set0 (by omega), hB.r10.set0 (by omega), fun k hk => by rw [u2_ne (by omega)]; exact hB.r11 k hk, fun a h1 h2 => ?_, fun a b h1 h2 h3 => by rw [u2_ne (by omega)]; exact hB.z10 a b h1 h2 h3⟩
  rw [u2_ne (by omega)]
  exact ⟨(hB.z9 a h1 h2).1, fun g hg => by rw [u2_ne (by omega)]; exact (hB.z9 a h1 h2).2 g hg⟩
/-! numbers -/
theorem nI_lti {a b : Nat} (ha : a < 2 ^ 30) (hb : b < 2 ^ 30) : (nI a < nI b) ↔ a < b := nI_ltI (by omega) (by omega)
theorem nI_lei {a b : Nat} (ha : a < 2 ^ 30) (hb : b < 2 ^ 30) : (nI a ≤ nI b) ↔ a ≤ b := nI_leI (by omega) (by omega)
theorem Bd.mv (hB : Bd V n) {a b g : Nat} (ha : a < n) (hb : b < n) (hg : g < 3) (hc : canV V a b g = true) : Bd (mvV V a b g) n ∧ a ≠ b := by
  have h6 := hB.le
  simp only [canV, lawV, meanV, Bool.and_eq_true, decide_eq_true_eq] at hc
  obtain ⟨⟨hab, -⟩, ⟨⟨h1, h2⟩, h3⟩, h4⟩ := hc
  obtain ⟨sa, l1, e1⟩ := hB.r9 (3 * a + g) (by omega)
  obtain ⟨sb, l2, e2⟩ := hB.r9 (3 * b + g) (by omega)
  obtain ⟨ca, l3, e3⟩ := hB.r8 a (by omega)
  obtain ⟨cb, l4, e4⟩ := hB.r8 b (by omega)
  obtain ⟨p, l5, l6, e5⟩ := hB.r11 g hg
  rw [e1, show (0 : Int32) = nI 0 from rfl, nI_lti (by omega) (by omega)] at h1
  rw [e5, e4, nI_lei (by omega) (by omega)] at h2
  rw [e2, show (99 : Int32) = nI 99 from rfl, nI_lti (by omega) (by omega)] at h3
  rw [e3, e5, nI_add, show (9999 : Int32) = nI 9999 from rfl, nI_lei (by omega) (by omega)] at h4
  refine ⟨?_, hab⟩
  unfold mvV
  rw [e1, e2, e3, e4, e5, show (1 : Int32) = nI 1 from rfl, pk_sub h1, nI_add, nI_add, pk_sub h2]
  exact (((hB.u9 ha hg (by omega)).u9 hb hg (by omega)).u8 ha (by omega)).u8 hb (by omega)
end
/-! weeks: the spec -/
def mk1 (V : Vw) (h : Nat) : Vw := u2 V 9 (3 * h + gd V 4 h) (if V 9 (3 * h + gd V 4 h) + V 5 h ≤ 99 then V 9 (3 * h + gd V 4 h) + V 5 h else 99)
def makeV : Nat → Nat → Vw → Vw
  | 0, _, V => V
  | c + 1, h, V => makeV c (h + 1) (mk1 V h)
def best1 (V : Vw) (b g a : Nat) (f : Int32) : Int32 := if (!wantV V a g && canV V a b g && (decide (f < 0) || decide (V 9 (3 * f.toNatClampNeg + g) < V 9 (3 * a + g)))) = true then nI a else f
def bestV (V : Vw) (b g : Nat) : Nat → Nat → Int32 → Int32
  | 0, _, f => f
  | c + 1, a, f => bestV V b g c (a + 1) (best1 V b g a f)
def buyS (n : Nat) : Nat → Vw → Nat → Nat → Vw × Nat
  | 0, V, _, _ => (V, 0)
  | f + 1, V, b, g => if V 9 (3 * b + g) < V 7 b then (if bestV V b g n 0 (-1) < 0 then (V, 0) else ((buyS n f (mvV V (bestV V b g n 0 (-1)).toNatClampNeg b g) b g).1, (buyS n f (mvV V (bestV V b g n 0 (-1)).toNatClampNeg b g) b g).2 + 1)) else (V, 0)
def buyA (n : Nat) : Nat → Nat → Vw × Nat → Vw × Nat
  | 0, _, q => q
  | c + 1, b, q => buyA n c (b + 1) ((buyS n 10 q.1 b (gd q.1 6 b)).1, q.2 + (buyS n 10 q.1 b (gd q.1 6 b)).2)
def usd (V : Vw) (h : Nat) : Int32 := if V 7 h ≤ V 9 (3 * h + gd V 6 h) then V 7 h else V 9 (3 * h + gd V 6 h)
def use1 (V : Vw) (h : Nat) : Vw := u2 V 9 (3 * h + gd V 6 h) (V 9 (3 * h + gd V 6 h) - usd V h)
/-- the value, what each house was served, all of it, what was lacking -/
abbrev Us : Type := Vw × (Nat → Int32) × Int32 × Int32
def useS : Nat → Nat → Us → Us
  | 0, _, q => q
  | c + 1, h, q => useS c (h + 1) (use1 q.1 h, upd q.2.1 h (q.2.1 h + usd q.1 h), q.2.2.1 + usd q.1 h, q.2.2.2 + (q.1 7 h - usd q.1 h))
/-- a week: before the use; the sales in it; all -/
def midV (n : Nat) (V : Vw) : Vw × Nat := buyA n n 0 (makeV n 0 V, 0)
def weekU (n : Nat) (V : Vw) (sv : Nat → Int32) (t : Int32) : Us := useS n 0 ((midV n V).1, sv, t, 0)
def weekV (n : Nat) (V : Vw) : Vw := u2 (weekU n V (fun _ => 0) 0).1 0 2 ((weekU n V (fun _ => 0) 0).1 0 2 + 1)
