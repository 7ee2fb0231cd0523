/-! ways: sets of houses as numbers below 64 -/
theorem bt : ∀ k, k < 64 → ∀ h, h < 6 → decide (((nI k >>> (nI h &&& 31)) &&& 1) = 0) = !k.testBit h := by decide +kernel
theorem bt1 : ∀ k, k < 64 → ∀ h, h < 6 → decide (((nI k >>> (nI h &&& 31)) &&& 1) = 1) = k.testBit h := by decide +kernel
theorem bor : ∀ k, k < 64 → ∀ h, h < 6 → nI k ||| (1 <<< (nI h &&& 31)) = nI (k ||| 2 ^ h) := by decide +kernel
theorem blt : ∀ k, k < 64 → ∀ h, h < 6 → k ||| 2 ^ h < 64 := by decide +kernel
theorem bsh : ∀ h, h < 6 → (1 : Int32) <<< (nI h &&& 31) = nI (2 ^ h) ∧ 2 ^ h < 64 := by decide +kernel
theorem bt_0 {k h : Nat} (hk : k < 64) (hh : h < 6) : (((nI k >>> (nI h &&& 31)) &&& 1) = 0) = (k.testBit h = false) := by
  have := bt k hk h hh
  cases hb : k.testBit h
  · rw [hb] at this
    simpa using this
  · rw [hb] at this
    simpa using this
theorem bt_1 {k h : Nat} (hk : k < 64) (hh : h < 6) : (((nI k >>> (nI h &&& 31)) &&& 1) = 1) = (k.testBit h = true) := by
  have := bt1 k hk h hh
  cases hb : k.testBit h
  · rw [hb] at this
    simpa using this
  · rw [hb] at this
    simpa using this
/-! sums of sums -/
theorem sm_t {f : Nat → Int32} : ∀ (c i : Nat) (a : Int32), sm f c i a = a + sm f c i 0
  | 0, _, a => (Int32.add_zero a).symm
  | c + 1, i, a => by
    show sm f c (i + 1) (a + f i) = a + sm f c (i + 1) (0 + f i)
    rw [sm_t c (i + 1) (a + f i), sm_t c (i + 1) (0 + f i), Int32.zero_add, Int32.add_assoc]
theorem sm_sum {f g : Nat → Int32} : ∀ c : Nat, sm (fun h => f h + g h) c 0 0 = sm f c 0 0 + sm g c 0 0
  | 0 => rfl
  | c + 1 => by
    rw [sm_last, sm_last, sm_last, sm_sum c]
    ac_rfl
theorem sm_blk {f : Nat → Nat → Int32} {n M : Nat} : ∀ (c : Nat) (a : Int32), c ≤ n → sm (fun i => f (i % n) (i / n)) c (n * M) a = a + sm (fun h => f h M) c 0 0
  | 0, a, _ => (Int32.add_zero a).symm
  | c + 1, a, hc => by
    have h1 := sm_blk (f := f) (n := n) (M := M) c a (by omega)
    rw [sm_add c 1, h1, sm_last]
    show a + sm (fun h => f h M) c 0 0 + f ((n * M + c) % n) ((n * M + c) / n) = _
    rw [Nat.mul_add_mod, Nat.mod_eq_of_lt (by omega), Nat.mul_add_div (by omega), Nat.div_eq_of_lt (by omega), Nat.add_zero, Int32.add_assoc]
theorem sm_dm {f : Nat → Nat → Int32} {n : Nat} : ∀ M : Nat, sm (fun i => f (i % n) (i / n)) (n * M) 0 0 = sm (fun h => sm (f h) M 0 0) n 0 0
  | 0 => by
    rw [Nat.mul_zero]
    exact (sm_z n 0 0 (fun k _ _ => rfl)).symm
  | M + 1 => by
    rw [Nat.mul_succ, sm_add (n * M) n, Nat.zero_add, sm_dm M, sm_blk n _ (Nat.le_refl n), ← sm_sum]
    refine sm_c n 0 0 (fun h _ _ => ?_)
    show _ = sm (f h) (M + 1) 0 0
    rw [sm_last]
theorem sm_swap {f : Nat → Nat → Int32} {n : Nat} : ∀ M : Nat, sm (fun k => sm (f k) n 0 0) M 0 0 = sm (fun h => sm (fun k => f k h) M 0 0) n 0 0
  | 0 => (sm_z n 0 0 (fun k _ _ => rfl)).symm
  | M + 1 => by
    rw [sm_last, sm_swap M, ← sm_sum]
    refine sm_c n 0 0 (fun h _ _ => ?_)
    show _ = sm (fun k => f k h) (M + 1) 0 0
    rw [sm_last]
theorem sm_one {f g : Nat → Int32} {b : Nat} : ∀ n : Nat, (∀ h, h < n → h ≠ b → f h = g h) → g b = 0 → sm f n 0 0 = sm g n 0 0 + (if b < n then f b else 0)
  | 0, _, _ => by rw [if_neg (Nat.not_lt_zero b), Int32.add_zero]; rfl
  | n + 1, h, hg => by
    have ih := sm_one n (fun k hk hb => h k (by omega) hb) hg
    rw [sm_last, sm_last, ih]
    by_cases hbn : b = n
    · subst hbn
      rw [if_neg (by omega), if_pos (by omega), hg, Int32.add_zero]
    · rw [h n (by omega) (by omega)]
      by_cases hlt : b < n
      · rw [if_pos hlt, if_pos (by omega)]
        ac_rfl
      · rw [if_neg hlt, if_neg (by omega), Int32.add_zero, Int32.add_zero]
/-! the ways of the class, and the reference's paths by their numbers -/
section
variable (G : Nat → Nat → Bool) (n b : Nat)
def wyS : Nat → Nat → Nat → Int32
  | 0, cur, _ => if cur = b then 1 else 0
  | s + 1, cur, ms => if cur = b then 1 else sm (fun h => if (!ms.testBit h && G cur h) = true then wyS s h (ms ||| 2 ^ h) else 0) n 0 0
def ipS : Nat → Nat → Nat → Nat → Bool
  | 0, _, cur, _ => G cur b
  | k + 1, code, cur, ms => (!ms.testBit (code % n) && G cur (code % n)) && ipS k (code / n) (code % n) (ms ||| 2 ^ (code % n))
def ptS (k cur ms : Nat) : Int32 := sm (fun c => if ipS G n b k c cur ms = true then 1 else 0) (n ^ k) 0 0
theorem ptS_0 {cur ms : Nat} : ptS G n b 0 cur ms = if G cur b = true then 1 else 0 := by
  unfold ptS
  rw [Nat.pow_zero]
  show (0 : Int32) + _ = _
  rw [Int32.zero_add]
  rfl
theorem ptS_s {k cur ms : Nat} : ptS G n b (k + 1) cur ms = sm (fun h => if (!ms.testBit h && G cur h) = true then ptS G n b k h (ms ||| 2 ^ h) else 0) n 0 0 := by
  have h := sm_dm (f := fun h c => if ((!ms.testBit h && G cur h) && ipS G n b k c h (ms ||| 2 ^ h)) = true then 1 else 0) (n := n) (n ^ k)
  unfold ptS
  rw [Nat.pow_succ, Nat.mul_comm]
  refine Eq.trans h (sm_c n 0 0 (fun i _ _ => ?_))
  cases hc : (!ms.testBit i && G cur i)
  · simp only [Bool.false_and, Bool.false_eq_true, if_false]
    exact sm_z _ 0 0 (fun _ _ _ => rfl)
  · simp only [Bool.true_and, if_true]
theorem wy_pt (hb : b < n) : ∀ (s cur ms : Nat), cur ≠ b → ms.testBit b = false → wyS G n b s cur ms = sm (fun k => ptS G n b k cur (ms ||| 2 ^ b)) s 0 0
  | 0, cur, ms, hc, _ => by rw [wyS, if_neg hc]; rfl
  | s + 1, cur, ms, hc, hm => by
    rw [wyS, if_neg hc]
    have hr : sm (fun k => ptS G n b k cur (ms ||| 2 ^ b)) (s + 1) 0 0 = (if G cur b = true then 1 else 0) + sm (fun k => ptS G n b (k + 1) cur (ms ||| 2 ^ b)) s 0 0 := by
      have aux : ∀ (f : Nat → Int32) (c : Nat), sm f (c + 1) 0 0 = f 0 + sm (fun k => f (k + 1)) c 0 0 := fun f c => by
        induction c with
        | zero => rw [sm_last]; exact Int32.add_comm _ _
        | succ c ih => rw [sm_last, ih, sm_last, Int32.add_assoc]
      rw [aux, ptS_0]
    rw [hr]
    have hs : sm (fun k => ptS G n b (k + 1) cur (ms ||| 2 ^ b)) s 0 0 = sm (fun h => if (!(ms ||| 2 ^ b).testBit h && G cur h) = true then sm (fun k => ptS G n b k h (ms ||| 2 ^ b ||| 2 ^ h)) s 0 0 else 0) n 0 0 := by
      rw [sm_c (g := fun k => sm (fun h => if (!(ms ||| 2 ^ b).testBit h && G cur h) = true then ptS G n b k h (ms ||| 2 ^ b ||| 2 ^ h) else 0) n 0 0) s 0 0 (fun k _ _ => ptS_s G n b), sm_swap]
      refine sm_c n 0 0 (fun h _ _ => ?_)
      split
      · rfl
      · exact sm_z _ 0 0 (fun _ _ _ => rfl)
    rw [hs, Int32.add_comm, sm_one (b := b) (g := fun h => if (!(ms ||| 2 ^ b).testBit h && G cur h) = true then sm (fun k => ptS G n b k h (ms ||| 2 ^ b ||| 2 ^ h)) s 0 0 else 0) n (fun h hh hne => ?_) ?_]
    · rw [if_pos hb, hm]
      congr 1
      simp only [Bool.not_false, Bool.true_and]
      split
      · cases s <;> simp [wyS]
      · rfl
    · rw [if_neg]
      rw [Nat.testBit_or, Nat.testBit_two_pow_self, Bool.or_true]
      simp
    · have e1 : (ms ||| 2 ^ b).testBit h = ms.testBit h := by
        rw [Nat.testBit_or, Nat.testBit_two_pow_of_ne (by omega), Bool.or_false]
      rw [e1]
      split
      · rw [wy_pt hb s h (ms ||| 2 ^ h) hne (by rw [Nat.testBit_or, hm, Nat.testBit_two_pow_of_ne (by omega)]; rfl), Nat.or_assoc ms, Nat.or_comm (2 ^ h), ← Nat.or_assoc]
      · rfl
/-- how many of n houses are not in a set -/
def frS (n ms : Nat) : Nat := (List.range n).countP (fun h => !ms.testBit h)
theorem frS_o : ∀ n, n ≤ 6 → ∀ ms, ms < 64 → ∀ h, h < n → ms.testBit h = false → frS n (ms ||| 2 ^ h) + 1 = frS n ms := by decide +kernel
theorem frS_2 : ∀ n, n ≤ 6 → ∀ a, a < n → ∀ b, b < n → a ≠ b → frS n (2 ^ a ||| 2 ^ b) + 2 = n ∧ 2 ^ a ||| 2 ^ b < 64 := by decide +kernel
theorem ip_fr (h6 : n ≤ 6) (h0 : 0 < n) : ∀ (k c cur ms : Nat), ms < 64 → ipS G n b k c cur ms = true → k ≤ frS n ms
  | 0, _, _, _, _, _ => Nat.zero_le _
  | k + 1, c, cur, ms, hm, h => by
    rw [ipS] at h
    simp only [Bool.and_eq_true, Bool.not_eq_true'] at h
    have hl := Nat.mod_lt c h0
    have h1 := ip_fr h6 h0 k _ _ _ (blt ms hm _ (by omega)) h.2
    have h2 := frS_o n h6 ms hm _ hl h.1.1
    omega
theorem pt_z (h6 : n ≤ 6) (h0 : 0 < n) {k cur ms : Nat} (hm : ms < 64) (hk : frS n ms < k) : ptS G n b k cur ms = 0 := by
  unfold ptS
  refine sm_z _ 0 0 (fun c _ _ => ?_)
  rw [if_neg]
  intro h
  have := ip_fr G n b h6 h0 k c cur ms hm h
  omega
theorem wy_all (h6 : n ≤ 6) {a : Nat} (ha : a < n) (hb : b < n) (hab : a ≠ b) : wyS G n b 6 a (2 ^ a) = sm (fun k => ptS G n b k a (2 ^ a ||| 2 ^ b)) (n - 1) 0 0 := by
  obtain ⟨f1, f2⟩ := frS_2 n h6 a ha b hb hab
  rw [wy_pt G n b hb 6 a _ hab (Nat.testBit_two_pow_of_ne (by omega))]
  exact sm_cut (by omega) (fun k h1 h2 => pt_z G n b h6 (by omega) f2 (by omega))
/-! sets of houses reached by so many sales -/
def rcS (a : Nat) : Nat → Nat → Prop
  | 0, h => h = a
  | t + 1, h => rcS a t h ∨ ∃ g, g < n ∧ rcS a t g ∧ G g h = true
theorem rc_up {a : Nat} : ∀ {t : Nat} (d : Nat) {h : Nat}, rcS G n a t h → rcS G n a (t + d) h
  | _, 0, _, h => h
  | _, d + 1, _, h => Or.inl (rc_up d h)
theorem rc_le {a t u h : Nat} (htu : t ≤ u) (hr : rcS G n a t h) : rcS G n a u h := by
  have := rc_up G n (u - t) hr
  rwa [show t + (u - t) = u by omega] at this
theorem ip_rc (h0 : 0 < n) {a : Nat} : ∀ (k c cur ms t : Nat), cur < n → rcS G n a t cur → ipS G n b k c cur ms = true → rcS G n a (t + k + 1) b
  | 0, _, cur, _, _, hc, hr, h => Or.inr ⟨cur, hc, hr, h⟩
  | k + 1, c, cur, ms, t, hc, hr, h => by
    rw [ipS] at h
    simp only [Bool.and_eq_true, Bool.not_eq_true'] at h
    have := ip_rc h0 k _ _ _ (t + 1) (Nat.mod_lt c h0) (Or.inr ⟨cur, hc, hr, h.1.2⟩) h.2
    rwa [show t + 1 + k + 1 = t + (k + 1) + 1 by omega] at this
theorem rc_ip {a s : Nat} (hr : rcS G n a (s + 1) b) (hn : ∀ t, t ≤ s → ¬ rcS G n a t b) : ∀ k t : Nat, t + k = s → ∃ y, y < n ∧ rcS G n a t y ∧ (∀ u, u < t → ¬ rcS G n a u y) ∧ ∀ ms, (∀ h, ms.testBit h = true → h = b ∨ rcS G n a t h) → ∃ c, c < n ^ k ∧ ipS G n b k c y ms = true := by
  intro k
  induction k with
  | zero =>
    intro t ht
    rw [Nat.add_zero] at ht
    subst ht
    rcases hr with hr | ⟨g, hg, h1, h2⟩
    · exact absurd hr (hn t (Nat.le_refl t))
    · exact ⟨g, hg, h1, fun u hu hq => hn (u + 1) (by omega) (Or.inr ⟨g, hg, hq, h2⟩), fun ms _ => ⟨0, Nat.one_pos, h2⟩⟩
  | succ k ih =>
    intro t ht
    obtain ⟨y, hy, h1, h2, h3⟩ := ih (t + 1) (by omega)
    rcases h1 with h1 | ⟨g, hg, h4, h5⟩
    · exact absurd h1 (h2 t (by omega))
    · refine ⟨g, hg, h4, fun u hu hq => h2 (u + 1) (by omega) (Or.inr ⟨g, hg, hq, h5⟩), fun ms hms => ?_⟩
      obtain ⟨c, hc, h6⟩ := h3 (ms ||| 2 ^ y) (fun h hb => by
        rw [Nat.testBit_or, Bool.or_eq_true] at hb
        rcases hb with hb | hb
        · exact (hms h hb).imp id Or.inl
        · by_cases e : y = h
          · subst e
            exact Or.inr (Or.inr ⟨g, hg, h4, h5⟩)
          · rw [Nat.testBit_two_pow_of_ne e] at hb
            exact absurd hb (by simp))
      have e1 : (n * c + y) % n = y := by rw [Nat.mul_add_mod, Nat.mod_eq_of_lt hy]
      have e2 : (n * c + y) / n = c := by rw [Nat.mul_add_div (by omega), Nat.div_eq_of_lt hy, Nat.add_zero]
      refine ⟨n * c + y, ?_, ?_⟩
      · have : n * (c + 1) ≤ n * n ^ k := Nat.mul_le_mul (Nat.le_refl n) hc
        rw [Nat.pow_succ, Nat.mul_comm (n ^ k)]
        rw [Nat.mul_succ] at this
        omega
      · rw [ipS, e1, e2, h5, h6]
        have : ms.testBit y = false := by
          cases hb : ms.testBit y
          · rfl
          · exfalso
            rcases hms y hb with e | e
            · subst e
              exact hn (t + 1) (by omega) (Or.inr ⟨g, hg, h4, h5⟩)
            · exact h2 t (by omega) e
        rw [this]
        rfl
theorem rc_path {a s : Nat} (hr : rcS G n a (s + 1) b) (hn : ∀ t, t ≤ s → ¬ rcS G n a t b) : ∃ c, c < n ^ s ∧ ipS G n b s c a (2 ^ a ||| 2 ^ b) = true := by
  obtain ⟨y, hy, h1, _, h3⟩ := rc_ip G n b hr hn s 0 (Nat.zero_add s)
  have e : y = a := h1
  subst e
  exact h3 _ (fun h hb => by
    rw [Nat.testBit_or, Bool.or_eq_true] at hb
    rcases hb with hb | hb
    · by_cases e : y = h
      · exact Or.inr e.symm
      · rw [Nat.testBit_two_pow_of_ne e] at hb
        exact absurd hb (by simp)
    · by_cases e : b = h
      · exact Or.inl e.symm
      · rw [Nat.testBit_two_pow_of_ne e] at hb
        exact absurd hb (by simp))
/-! the reference's first number of sales -/
def l5S (f : Nat → Bool) (k : Nat) : Nat → Nat → Int32 → Int32
  | 0, _, v => v
  | c + 1, i, v => l5S f k c (i + 1) (if f i = true then (if 0 ≤ v then v else nI (k + 1)) else v)
theorem l5_n {f : Nat → Bool} {k : Nat} : ∀ (c i : Nat) (v : Int32), (∀ j, i ≤ j → j < i + c → f j = false) → l5S f k c i v = v
  | 0, _, _, _ => rfl
  | c + 1, i, v, h => by
    rw [l5S, h i (by omega) (by omega)]
    exact l5_n c (i + 1) v (fun j h1 h2 => h j (by omega) (by omega))
theorem l5_p {f : Nat → Bool} {k : Nat} {v : Int32} (hv : 0 ≤ v) : ∀ (c i : Nat), l5S f k c i v = v
  | 0, _ => rfl
  | c + 1, i => by
    rw [l5S, if_pos hv, ite_self]
    exact l5_p hv c (i + 1)
theorem l5_s {f : Nat → Bool} {k : Nat} (hk : 0 ≤ nI (k + 1)) : ∀ (c i : Nat), (∃ j, i ≤ j ∧ j < i + c ∧ f j = true) → l5S f k c i (-9) = nI (k + 1)
  | 0, i, ⟨j, h1, h2, _⟩ => by omega
  | c + 1, i, ⟨j, h1, h2, h3⟩ => by
    rw [l5S, if_neg (show ¬ (0 : Int32) ≤ -9 by decide)]
    cases hf : f i
    · rw [if_neg (by simp)]
      refine l5_s hk c (i + 1) ⟨j, ?_, by omega, h3⟩
      rcases Nat.lt_or_ge i j with h | h
      · exact h
      · have : i = j := by omega
        subst this
        rw [hf] at h3
        cases h3
    · rw [if_pos rfl]
      exact l5_p hk c (i + 1)
def oS (a ms : Nat) : Nat → Nat → Int32 → Int32
  | 0, _, v => v
  | c + 1, k, v => oS a ms c (k + 1) (l5S (fun i => ipS G n b k i a ms) k (n ^ k) 0 v)
theorem o_p {a ms : Nat} {v : Int32} (hv : 0 ≤ v) : ∀ (c k : Nat), oS G n b a ms c k v = v
  | 0, _ => rfl
  | c + 1, k => by
    rw [oS, l5_p hv]
    exact o_p hv c (k + 1)
theorem o_n {a ms : Nat} : ∀ (c k : Nat) (v : Int32), (∀ K, k ≤ K → K < k + c → ∀ i, i < n ^ K → ipS G n b K i a ms = false) → oS G n b a ms c k v = v
  | 0, _, _, _ => rfl
  | c + 1, k, v, h => by
    rw [oS, l5_n _ _ _ (fun j _ h2 => h k (by omega) (by omega) j (by omega))]
    exact o_n c (k + 1) v (fun K h1 h2 => h K (by omega) (by omega))
theorem o_s {a ms K : Nat} (hK : 0 ≤ nI (K + 1)) (hs : ∃ i, i < n ^ K ∧ ipS G n b K i a ms = true) : ∀ (c k : Nat), k ≤ K → K < k + c → (∀ k', k ≤ k' → k' < K → ∀ i, i < n ^ k' → ipS G n b k' i a ms = false) → oS G n b a ms c k (-9) = nI (K + 1)
  | 0, k, h1, h2, _ => by omega
  | c + 1, k, h1, h2, h => by
    rw [oS]
    by_cases e : k = K
    · subst e
      obtain ⟨i, hi, h3⟩ := hs
      rw [l5_s hK _ 0 ⟨i, by omega, by omega, h3⟩]
      exact o_p G n b hK c (k + 1)
    · rw [l5_n _ _ _ (fun j _ h2 => h k (by omega) (by omega) j (by omega))]
      exact o_s hK hs c (k + 1) (by omega) (by omega) (fun k' h3 h4 => h k' (by omega) h4)
/-- the class's answer is the reference's -/
theorem few_o (h6 : n ≤ 6) {a : Nat} (ha : a < n) (hb : b < n) (hab : a ≠ b) {v : Int32} (hv : (v = -9 ∧ ∀ u, u ≤ 5 → ¬ rcS G n a u b) ∨ ∃ s, s < 5 ∧ v = nI (s + 1) ∧ rcS G n a (s + 1) b ∧ ∀ u, u ≤ s → ¬ rcS G n a u b) : oS G n b a (2 ^ a ||| 2 ^ b) (n - 1) 0 (-9) = v := by
  obtain ⟨f1, f2⟩ := frS_2 n h6 a ha b hb hab
  rcases hv with ⟨rfl, hv⟩ | ⟨s, hs, rfl, h1, h2⟩
  · refine o_n G n b _ _ _ (fun K _ hK i _ => ?_)
    cases hi : ipS G n b K i a (2 ^ a ||| 2 ^ b)
    · rfl
    · exfalso
      have := ip_rc G n b (by omega) K i a _ 0 ha rfl hi
      exact hv (0 + K + 1) (by omega) this
  · obtain ⟨c, hc, h3⟩ := rc_path G n b h1 h2
    have h4 := ip_fr G n b h6 (by omega) s c a _ f2 h3
    have hp : ∀ s, s < 5 → 0 ≤ nI (s + 1) := by decide
    refine o_s G n b (hp s hs) ⟨c, hc, h3⟩ _ 0 (by omega) (by omega) (fun k' _ hk i _ => ?_)
    cases hi : ipS G n b k' i a (2 ^ a ||| 2 ^ b)
    · rfl
    · exfalso
      have := ip_rc G n b (by omega) k' i a _ 0 ha rfl hi
      exact h2 (0 + k' + 1) (by omega) this
/-! one sale behind -/
def obI (m g : Nat) : Nat → Nat → Nat → Nat
  | 0, _, q => q
  | c + 1, h, q => obI m g c (h + 1) (if (m.testBit g && G g h) = true then q ||| 2 ^ h else q)
def obO (m : Nat) : Nat → Nat → Nat → Nat
  | 0, _, q => q
  | c + 1, g, q => obO m c (g + 1) (obI G m g n 0 q)
theorem tb_o {q h x : Nat} : (q ||| 2 ^ h).testBit x = true ↔ q.testBit x = true ∨ x = h := by
  rw [Nat.testBit_or, Bool.or_eq_true]
  by_cases e : h = x
  · subst e
    simp [Nat.testBit_two_pow_self]
  · rw [Nat.testBit_two_pow_of_ne e]
    constructor
    · rintro (h | h)
      · exact Or.inl h
      · cases h
    · rintro (h | h)
      · exact Or.inl h
      · exact absurd h.symm e
theorem obI_ok {m g : Nat} : ∀ (c h q : Nat), h + c ≤ 6 → q < 64 → obI G m g c h q < 64 ∧ ∀ x, (obI G m g c h q).testBit x = true ↔ (q.testBit x = true ∨ (h ≤ x ∧ x < h + c ∧ m.testBit g = true ∧ G g x = true))
  | 0, h, q, _, hq => ⟨hq, fun x => ⟨Or.inl, fun h => h.elim id (fun h => by omega)⟩⟩
  | c + 1, h, q, hc, hq => by
    rw [obI]
    cases hb : (m.testBit g && G g h)
    · rw [if_neg (by simp)]
      obtain ⟨h1, h2⟩ := obI_ok c (h + 1) q (by omega) hq
      refine ⟨h1, fun x => (h2 x).trans (or_congr Iff.rfl ?_)⟩
      constructor
      · rintro ⟨a1, a2, a3, a4⟩
        exact ⟨by omega, by omega, a3, a4⟩
      · rintro ⟨a1, a2, a3, a4⟩
        have : x ≠ h := by
          intro e
          subst e
          rw [a3, a4] at hb
          cases hb
        exact ⟨by omega, by omega, a3, a4⟩
    · rw [if_pos rfl]
      obtain ⟨h1, h2⟩ := obI_ok c (h + 1) _ (by omega) (blt q hq h (by omega))
      refine ⟨h1, fun x => (h2 x).trans ?_⟩
      rw [tb_o]
      rw [Bool.and_eq_true] at hb
      constructor
      · rintro ((a1 | a1) | ⟨a1, a2, a3, a4⟩)
        · exact Or.inl a1
        · subst a1
          exact Or.inr ⟨by omega, by omega, hb.1, hb.2⟩
        · exact Or.inr ⟨by omega, by omega, a3, a4⟩
      · rintro (a1 | ⟨a1, a2, a3, a4⟩)
        · exact Or.inl (Or.inl a1)
        · by_cases e : x = h
          · exact Or.inl (Or.inr e)
          · exact Or.inr ⟨by omega, by omega, a3, a4⟩
theorem obO_ok (h6 : n ≤ 6) {m : Nat} : ∀ (c g q : Nat), q < 64 → obO G n m c g q < 64 ∧ ∀ x, (obO G n m c g q).testBit x = true ↔ (q.testBit x = true ∨ ∃ g', g ≤ g' ∧ g' < g + c ∧ x < n ∧ m.testBit g' = true ∧ G g' x = true)
  | 0, g, q, hq => ⟨hq, fun x => ⟨Or.inl, fun h => h.elim id (fun ⟨g', h1, h2, _⟩ => by omega)⟩⟩
  | c + 1, g, q, hq => by
    rw [obO]
    obtain ⟨k1, k2⟩ := obI_ok G (m := m) (g := g) n 0 q (by omega) hq
    obtain ⟨h1, h2⟩ := obO_ok h6 (m := m) c (g + 1) _ k1
    refine ⟨h1, fun x => (h2 x).trans ?_⟩
    rw [k2]
    constructor
    · rintro ((a1 | ⟨_, a1, a2, a3⟩) | ⟨g', a1, a2, a3, a4, a5⟩)
      · exact Or.inl a1
      · exact Or.inr ⟨g, by omega, by omega, by omega, a2, a3⟩
      · exact Or.inr ⟨g', by omega, by omega, a3, a4, a5⟩
    · rintro (a1 | ⟨g', a1, a2, a3, a4, a5⟩)
      · exact Or.inl (Or.inl a1)
      · by_cases e : g' = g
        · subst e
          exact Or.inl (Or.inr ⟨by omega, by omega, a4, a5⟩)
        · exact Or.inr ⟨g', by omega, by omega, a3, a4, a5⟩
theorem ob_rc (h6 : n ≤ 6) {a m t : Nat} (hm : m < 64) (hr : ∀ x, x < n → (m.testBit x = true ↔ rcS G n a t x)) : m ||| obO G n m n 0 0 < 64 ∧ ∀ x, x < n → ((m ||| obO G n m n 0 0).testBit x = true ↔ rcS G n a (t + 1) x) := by
  obtain ⟨h1, h2⟩ := obO_ok G n h6 (m := m) n 0 0 (by omega)
  refine ⟨Nat.or_lt_two_pow (n := 6) hm h1, fun x hx => ?_⟩
  rw [Nat.testBit_or, Bool.or_eq_true, h2 x, hr x hx]
  constructor
  · rintro (a1 | (a1 | ⟨g, _, a2, a3, a4, a5⟩))
    · exact Or.inl a1
    · rw [Nat.zero_testBit] at a1
      cases a1
    · exact Or.inr ⟨g, by omega, (hr g (by omega)).mp a4, a5⟩
  · rintro (a1 | ⟨g, a2, a3, a4⟩)
    · exact Or.inl a1
    · exact Or.inr (Or.inr ⟨g, by omega, by omega, hx, (hr g a2).mpr a3, a4⟩)
end
theorem dmq : ∀ n, n < 7 → 0 < n → ∀ c, c < 1300 → nI c / nI n = nI (c / n) ∧ nI c - nI (c / n) * nI n = nI (c % n) := fun n hn h0 c hc => by
  have h1 : nI c / nI n = nI (c / n) := (Int32.ofNat_div (by omega) (by omega)).symm
  refine ⟨h1, ?_⟩
  rw [pk_mul, pk_sub (Nat.div_mul_le_self c n), Nat.mod_eq_sub_div_mul]
theorem bor2 : ∀ k, k < 64 → ∀ h, h < 64 → nI k ||| nI h = nI (k ||| h) := by decide +kernel
