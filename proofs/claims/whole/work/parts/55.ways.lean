/-! ways: sets of houses as numbers below 64 -/
theorem bt : ∀ k, k < 64 → ∀ h, h < 6 → decide (((nI k >>> (nI h &&& 31)) &&& 1) = 0) = !k.testBit h := by decide +kernel
theorem bt1 : ∀ k, k < 64 → ∀ h, h < 6 → decide (((nI k >>> (nI h &&& 31)) &&& 1) = 1) = k.testBit h := by decide +kernel
theorem bor : ∀ k, k < 64 → ∀ h, h < 6 → nI k ||| (1 <<< (nI h &&& 31)) = nI (k ||| 2 ^ h) := by decide +kernel
theorem blt : ∀ k, k < 64 → ∀ h, h < 6 → k ||| 2 ^ h < 64 := by decide +kernel
theorem bsh : ∀ h, h < 6 → (1 : Int32) <<< (nI h &&& 31) = nI (2 ^ h) ∧ 2 ^ h < 64 := by decide +kernel
theorem bt_0 {k h : Nat} (hk : k < 64) (hh : h < 6) : (((nI k >>> (nI h &&& 31)) &&& 1) = 0) = (k.testBit h = false) := by
  have := bt k hk h hh
  cases hb : k.testBit h
  · rw [hb] at this
    simpa using this
  · rw [hb] at this
    simpa using this
/-! sums of sums -/
theorem sm_sum {f g : Nat → Int32} : ∀ c : Nat, sm (fun h => f h + g h) c 0 0 = sm f c 0 0 + sm g c 0 0
  | 0 => rfl
  | c + 1 => by
    rw [sm_last, sm_last, sm_last, sm_sum c]
    ac_rfl
theorem sm_blk {f : Nat → Nat → Int32} {n M : Nat} : ∀ (c : Nat) (a : Int32), c ≤ n → sm (fun i => f (i % n) (i / n)) c (n * M) a = a + sm (fun h => f h M) c 0 0
  | 0, a, _ => (Int32.add_zero a).symm
  | c + 1, a, hc => by
    have h1 := sm_blk (f := f) (n := n) (M := M) c a (by omega)
    rw [sm_add c 1, h1, sm_last]
    show a + sm (fun h => f h M) c 0 0 + f ((n * M + c) % n) ((n * M + c) / n) = _
    rw [Nat.mul_add_mod, Nat.mod_eq_of_lt (by omega), Nat.mul_add_div (by omega), Nat.div_eq_of_lt (by omega), Nat.add_zero, Int32.add_assoc]
theorem sm_dm {f : Nat → Nat → Int32} {n : Nat} : ∀ M : Nat, sm (fun i => f (i % n) (i / n)) (n * M) 0 0 = sm (fun h => sm (f h) M 0 0) n 0 0
  | 0 => by
    rw [Nat.mul_zero]
    exact (sm_z n 0 0 (fun k _ _ => rfl)).symm
  | M + 1 => by
    rw [Nat.mul_succ, sm_add (n * M) n, Nat.zero_add, sm_dm M, sm_blk n _ (Nat.le_refl n), ← sm_sum]
    refine sm_c n 0 0 (fun h _ _ => ?_)
    show _ = sm (f h) (M + 1) 0 0
    rw [sm_last]
theorem sm_swap {f : Nat → Nat → Int32} {n : Nat} : ∀ M : Nat, sm (fun k => sm (f k) n 0 0) M 0 0 = sm (fun h => sm (fun k => f k h) M 0 0) n 0 0
  | 0 => (sm_z n 0 0 (fun k _ _ => rfl)).symm
  | M + 1 => by
    rw [sm_last, sm_swap M, ← sm_sum]
    refine sm_c n 0 0 (fun h _ _ => ?_)
    show _ = sm (fun k => f k h) (M + 1) 0 0
    rw [sm_last]
theorem sm_one {f g : Nat → Int32} {b : Nat} : ∀ n : Nat, (∀ h, h < n → h ≠ b → f h = g h) → g b = 0 → sm f n 0 0 = sm g n 0 0 + (if b < n then f b else 0)
  | 0, _, _ => by rw [if_neg (Nat.not_lt_zero b), Int32.add_zero]; rfl
  | n + 1, h, hg => by
    have ih := sm_one n (fun k hk hb => h k (by omega) hb) hg
    rw [sm_last, sm_last, ih]
    by_cases hbn : b = n
    · subst hbn
      rw [if_neg (by omega), if_pos (by omega), hg, Int32.add_zero, Int32.add_zero]
    · rw [h n (by omega) (by omega)]
      by_cases hlt : b < n
      · rw [if_pos hlt, if_pos (by omega)]
        ac_rfl
      · rw [if_neg hlt, if_neg (by omega), Int32.add_zero, Int32.add_zero]
/-! the ways of the class, and the reference's paths by their numbers -/
section
variable (G : Nat → Nat → Bool) (n b : Nat)
def wyS : Nat → Nat → Nat → Int32
  | 0, cur, _ => if cur = b then 1 else 0
  | s + 1, cur, mk => if cur = b then 1 else sm (fun h => if (!mk.testBit h && G cur h) = true then wyS s h (mk ||| 2 ^ h) else 0) n 0 0
def ipS : Nat → Nat → Nat → Nat → Bool
  | 0, _, cur, _ => G cur b
  | k + 1, code, cur, mk => (!mk.testBit (code % n) && G cur (code % n)) && ipS k (code / n) (code % n) (mk ||| 2 ^ (code % n))
def ptS (k cur mk : Nat) : Int32 := sm (fun c => if ipS G n b k c cur mk = true then 1 else 0) (n ^ k) 0 0
theorem ptS_0 {cur mk : Nat} : ptS G n b 0 cur mk = if G cur b = true then 1 else 0 := by
  unfold ptS
  rw [Nat.pow_zero]
  show (0 : Int32) + _ = _
  rw [Int32.zero_add]
  rfl
theorem ptS_s {k cur mk : Nat} : ptS G n b (k + 1) cur mk = sm (fun h => if (!mk.testBit h && G cur h) = true then ptS G n b k h (mk ||| 2 ^ h) else 0) n 0 0 := by
  have h := sm_dm (f := fun h c => if ((!mk.testBit h && G cur h) && ipS G n b k c h (mk ||| 2 ^ h)) = true then 1 else 0) (n := n) (n ^ k)
  unfold ptS
  rw [Nat.pow_succ, Nat.mul_comm]
  refine Eq.trans h (sm_c n 0 0 (fun i _ _ => ?_))
  cases hc : (!mk.testBit i && G cur i)
  · simp only [Bool.false_and, Bool.false_eq_true, if_false]
    exact sm_z _ 0 0 (fun _ _ _ => rfl)
  · simp only [Bool.true_and, if_true]
theorem wy_pt (hb : b < n) : ∀ (s cur mk : Nat), cur ≠ b → mk.testBit b = false → wyS G n b s cur mk = sm (fun k => ptS G n b k cur (mk ||| 2 ^ b)) s 0 0
  | 0, cur, mk, hc, _ => by rw [wyS, if_neg hc]; rfl
  | s + 1, cur, mk, hc, hm => by
    rw [wyS, if_neg hc]
    have hr : sm (fun k => ptS G n b k cur (mk ||| 2 ^ b)) (s + 1) 0 0 = (if G cur b = true then 1 else 0) + sm (fun k => ptS G n b (k + 1) cur (mk ||| 2 ^ b)) s 0 0 := by
      have aux : ∀ (f : Nat → Int32) (c : Nat), sm f (c + 1) 0 0 = f 0 + sm (fun k => f (k + 1)) c 0 0 := fun f c => by
        induction c with
        | zero => rw [sm_last]; exact Int32.add_comm _ _
        | succ c ih => rw [sm_last, ih, sm_last, Int32.add_assoc]
      rw [aux, ptS_0]
    rw [hr]
    have hs : sm (fun k => ptS G n b (k + 1) cur (mk ||| 2 ^ b)) s 0 0 = sm (fun h => if (!(mk ||| 2 ^ b).testBit h && G cur h) = true then sm (fun k => ptS G n b k h (mk ||| 2 ^ b ||| 2 ^ h)) s 0 0 else 0) n 0 0 := by
      rw [sm_c (g := fun k => sm (fun h => if (!(mk ||| 2 ^ b).testBit h && G cur h) = true then ptS G n b k h (mk ||| 2 ^ b ||| 2 ^ h) else 0) n 0 0) s 0 0 (fun k _ _ => ptS_s G n b), sm_swap]
      refine sm_c n 0 0 (fun h _ _ => ?_)
      split
      · rfl
      · exact sm_z _ 0 0 (fun _ _ _ => rfl)
    rw [hs, Int32.add_comm, sm_one (b := b) (g := fun h => if (!(mk ||| 2 ^ b).testBit h && G cur h) = true then sm (fun k => ptS G n b k h (mk ||| 2 ^ b ||| 2 ^ h)) s 0 0 else 0) n (fun h hh hne => ?_) ?_]
    · rw [if_pos hb, hm]
      congr 1
      simp only [Bool.not_false, Bool.true_and]
      split
      · cases s <;> simp [wyS]
      · rfl
    · have e1 : (mk ||| 2 ^ b).testBit h = mk.testBit h := by
        rw [Nat.testBit_or, Nat.testBit_two_pow_of_ne (by omega), Bool.or_false]
      rw [e1]
      split
      · rw [wy_pt hb s h (mk ||| 2 ^ h) hne (by rw [Nat.testBit_or, hm, Nat.testBit_two_pow_of_ne (by omega)]; rfl), Nat.or_right_comm]
      · rfl
    · rw [if_neg]
      rw [Nat.testBit_or, Nat.testBit_two_pow_self, Bool.or_true]
      simp
end
