/-! ===== who wears what ===== -/
def popN (s : Nat) : Nat → Nat
  | 0 => 0
  | k + 1 => popN s k + s / 2 ^ k % 2
theorem popN_le (s k : Nat) : popN s k ≤ k := by
  induction k with
  | zero => simp [popN]
  | succ k ih => unfold popN; have := Nat.mod_lt (s / 2 ^ k) (show 0 < 2 by omega); omega
theorem wset_bit (f : Nat → Int) (who : Int) (n i : Nat) : wset f who n / 2 ^ i % 2 = if i < n ∧ f i = who then 1 else 0 := by
  induction n with
  | zero => simp [wset]
  | succ n ih =>
    have tb : ∀ s : Nat, s / 2 ^ i % 2 = if s.testBit i = true then 1 else 0 := by
      intro s
      rw [Nat.testBit_eq_decide_div_mod_eq]
      have := Nat.mod_lt (s / 2 ^ i) (show 0 < 2 by omega)
      split
      · rename_i h; simpa using h
      · rename_i h; have : ¬ s / 2 ^ i % 2 = 1 := by simpa using h
        omega
    have hlt := wset_lt f who n
    unfold wset
    by_cases hn : f n = who
    · rw [if_pos hn, Nat.add_comm]
      by_cases hi : i < n
      · rw [tb, Nat.testBit_two_pow_add_gt hi, ← tb, ih]
        have h1 : (i < n ∧ f i = who) ↔ (i < n + 1 ∧ f i = who) := by omega
        simp only [h1]
      · by_cases hi2 : i = n
        · subst hi2
          rw [tb, Nat.testBit_two_pow_add_eq, Nat.testBit_lt_two_pow hlt]
          simp [hn]
        · have : 2 ^ n + wset f who n < 2 ^ i := by
            have h2 : 2 ^ (n + 1) ≤ 2 ^ i := Nat.pow_le_pow_right (by omega) (by omega)
            rw [Nat.pow_succ] at h2
            omega
          rw [Nat.div_eq_of_lt this, if_neg (by omega)]
    · rw [if_neg hn, Nat.add_zero, ih]
      by_cases hi : i = n
      · subst hi
        rw [if_neg (by omega), if_neg (by simp [hn])]
      · have h1 : (i < n ∧ f i = who) ↔ (i < n + 1 ∧ f i = who) := by omega
        simp only [h1]
theorem pop_wset (f : Nat → Int) (who : Int) (n k : Nat) (h : k ≤ n) : popN (wset f who n) k = wcnt f who k := by
  induction k with
  | zero => rfl
  | succ k ih =>
    unfold popN wcnt
    rw [ih (by omega), wset_bit]
    have h1 : (k < n ∧ f k = who) ↔ f k = who := by omega
    simp only [h1]
theorem wset_trunc {f : Nat → Int} {who : Int} {n : Nat} (h : ∀ e, n ≤ e → e < 8 → f e ≠ who) (k : Nat) (hk : n ≤ k) (h8 : k ≤ 8) : wset f who k = wset f who n := by
  induction k with
  | zero => have : n = 0 := by omega
            subst this; rfl
  | succ k ih =>
    by_cases hkn : n = k + 1
    · rw [hkn]
    · rw [show wset f who (k + 1) = wset f who k + (if f k = who then 2 ^ k else 0) from rfl, if_neg (h k (by omega) (by omega)), ih (by omega) (by omega), Nat.add_zero]
theorem wcnt_trunc {f : Nat → Int} {who : Int} {n : Nat} (h : ∀ e, n ≤ e → e < 8 → f e ≠ who) (k : Nat) (hk : n ≤ k) (h8 : k ≤ 8) : wcnt f who k = wcnt f who n := by
  induction k with
  | zero => have : n = 0 := by omega
            subst this; rfl
  | succ k ih =>
    by_cases hkn : n = k + 1
    · rw [hkn]
    · rw [show wcnt f who (k + 1) = wcnt f who k + (if f k = who then 1 else 0) from rfl, if_neg (h k (by omega) (by omega)), ih (by omega) (by omega), Nat.add_zero]
theorem pop_hi (s k : Nat) (hs : s < 2 ^ k) (n : Nat) (hn : k ≤ n) : popN s n = popN s k := by
  induction n with
  | zero => have : k = 0 := by omega
            subst this; rfl
  | succ n ih =>
    by_cases hk : k = n + 1
    · rw [hk]
    · have : s < 2 ^ n := Nat.lt_of_lt_of_le hs (Nat.pow_le_pow_right (by omega) (by omega))
      rw [show popN s (n + 1) = popN s n + s / 2 ^ n % 2 from rfl, Nat.div_eq_of_lt this, ih (by omega), Nat.zero_mod, Nat.add_zero]
theorem wset_cong {f g : Nat → Int} {who : Int} (n : Nat) (h : ∀ e, e < n → f e = g e) : wset f who n = wset g who n := by
  induction n with
  | zero => rfl
  | succ n ih => unfold wset; rw [ih (fun e he => h e (by omega)), h n (by omega)]
theorem wcnt_cong {f g : Nat → Int} {who : Int} (n : Nat) (h : ∀ e, e < n → f e = g e) : wcnt f who n = wcnt g who n := by
  induction n with
  | zero => rfl
  | succ n ih => unfold wcnt; rw [ih (fun e he => h e (by omega)), h n (by omega)]
/-- of two or more, the first two -/
theorem two_first {f : Nat → Int} {who : Int} (n : Nat) : (wcnt f who n = 0 ∧ ∀ a, a < n → f a ≠ who) ∨ (wcnt f who n = 1 ∧ ∃ i, i < n ∧ f i = who ∧ ∀ a, a < n → a ≠ i → f a ≠ who) ∨ (2 ≤ wcnt f who n ∧ ∃ i j, i < j ∧ j < n ∧ f i = who ∧ f j = who ∧ ∀ a, a < j → a ≠ i → f a ≠ who) := by
  induction n with
  | zero => exact Or.inl ⟨rfl, fun a ha => absurd ha (by omega)⟩
  | succ n ih =>
    unfold wcnt
    by_cases hn : f n = who
    · rw [if_pos hn]
      rcases ih with ⟨h1, h2⟩ | ⟨h1, i, h2, h3, h4⟩ | ⟨h1, i, j, h2, h3, h4⟩
      · exact Or.inr (Or.inl ⟨by omega, n, by omega, hn, fun a ha hne => h2 a (by omega)⟩)
      · exact Or.inr (Or.inr ⟨by omega, i, n, h2, by omega, h3, hn, fun a ha hne => h4 a ha hne⟩)
      · exact Or.inr (Or.inr ⟨by omega, i, j, h2, by omega, h4⟩)
    · rw [if_neg hn]
      rcases ih with ⟨h1, h2⟩ | ⟨h1, i, h2, h3, h4⟩ | ⟨h1, i, j, h2, h3, h4⟩
      · exact Or.inl ⟨by omega, fun a ha => by
          by_cases h : a = n
          · rw [h]; exact hn
          · exact h2 a (by omega)⟩
      · exact Or.inr (Or.inl ⟨by omega, i, by omega, h3, fun a ha hne => by
          by_cases h : a = n
          · rw [h]; exact hn
          · exact h4 a (by omega) hne⟩)
      · exact Or.inr (Or.inr ⟨by omega, i, j, h2, by omega, h4⟩)
/-- at how many of the first n places two differ -/
def dif (f g : Nat → Int) : Nat → Int
  | 0 => 0
  | n + 1 => dif f g n + if f n = g n then 0 else 1
theorem xor_nib (p p' q : Nat) : (p ^^^ p') / 2 ^ (4 * q) % 16 = 0 ↔ p / 2 ^ (4 * q) % 16 = p' / 2 ^ (4 * q) % 16 := by
  have e1 : (p ^^^ p') / 2 ^ (4 * q) % 2 ^ 4 = (p / 2 ^ (4 * q) % 2 ^ 4) ^^^ (p' / 2 ^ (4 * q) % 2 ^ 4) := by
    rw [← Nat.shiftRight_eq_div_pow, ← Nat.shiftRight_eq_div_pow, ← Nat.shiftRight_eq_div_pow, Nat.shiftRight_xor_distrib, Nat.xor_mod_two_pow]
  rw [show (16 : Nat) = 2 ^ 4 from rfl, e1]
  generalize p / 2 ^ (4 * q) % 2 ^ 4 = a
  generalize p' / 2 ^ (4 * q) % 2 ^ 4 = b
  constructor
  · intro h
    have h2 : a ^^^ b ^^^ b = 0 ^^^ b := by rw [h]
    rw [Nat.xor_assoc, Nat.xor_self, Nat.xor_zero, Nat.zero_xor] at h2
    exact h2
  · intro h
    rw [h, Nat.xor_self]
def bcE (x0 : Int) : Int := (iand (((iand (((iand (x0 - (iand (iushr x0 1) 1431655765)) 858993459) + (iand (iushr (x0 - (iand (iushr x0 1) 1431655765)) 2) 858993459)) + (iushr ((iand (x0 - (iand (iushr x0 1) 1431655765)) 858993459) + (iand (iushr (x0 - (iand (iushr x0 1) 1431655765)) 2) 858993459)) 4)) 252645135) + (iushr (iand (((iand (x0 - (iand (iushr x0 1) 1431655765)) 858993459) + (iand (iushr (x0 - (iand (iushr x0 1) 1431655765)) 2) 858993459)) + (iushr ((iand (x0 - (iand (iushr x0 1) 1431655765)) 858993459) + (iand (iushr (x0 - (iand (iushr x0 1) 1431655765)) 2) 858993459)) 4)) 252645135) 8)) + (iushr ((iand (((iand (x0 - (iand (iushr x0 1) 1431655765)) 858993459) + (iand (iushr (x0 - (iand (iushr x0 1) 1431655765)) 2) 858993459)) + (iushr ((iand (x0 - (iand (iushr x0 1) 1431655765)) 858993459) + (iand (iushr (x0 - (iand (iushr x0 1) 1431655765)) 2) 858993459)) 4)) 252645135) + (iushr (iand (((iand (x0 - (iand (iushr x0 1) 1431655765)) 858993459) + (iand (iushr (x0 - (iand (iushr x0 1) 1431655765)) 2) 858993459)) + (iushr ((iand (x0 - (iand (iushr x0 1) 1431655765)) 858993459) + (iand (iushr (x0 - (iand (iushr x0 1) 1431655765)) 2) 858993459)) 4)) 252645135) 8)) 16)) 63)
set_option maxRecDepth 100000 in
theorem bc_all : ∀ s, s < 256 → bcE ((s : Nat) : Int) = ((popN s 8 : Nat) : Int) := by decide +kernel
section Worn
variable {G : GG} {d : Nat} {m : MM}
theorem c_bitCount {k : Int → MM → Prop} {x0 : Int} (s : Nat) (e : x0 = (s : Int)) (hs : s < 256) (h : k ((popN s 8 : Nat) : Int) m) : N G d mi_J6_bitCount_0f7a4 0 [some (vi x0)] [] m (RI k) := by
  subst e
  refine g_J6_bitCount_0f7a4_0 _ ?_
  have := bc_all s hs
  unfold bcE at this
  rw [this]
  exact h
theorem c_bits {k : Int → MM → Prop} {x0 : Int} (s : Nat) (e : x0 = (s : Int)) (hs : s < 2147483648) (h : k ((popN s 8 : Nat) : Int) m) : N G d mi_X8_bits 0 [some (vi x0), none, none] [] m (RI k) := by
  subst e
  have loop : ∀ (n q : Nat) (x1 x2 : Int), q + n = 8 → x1 = ((popN s q : Nat) : Int) → x2 = (q : Int) → N G d mi_X8_bits 4 [some (vi (s : Int)), some (vi x1), some (vi x2)] [] m (RI k) := by
    intro n
    induction n with
    | zero =>
      intro q x1 x2 hq h1 h2
      have : q = 8 := by omega
      subst this
      subst h1
      exact g_X8_bits_4 _ _ _ (leT (by omega) h)
    | succ n ih =>
      intro q x1 x2 hq h1 h2
      refine g_X8_bits_4 _ _ _ (leF (by omega) ?_)
      refine ih (q + 1) _ _ (by omega) ?_ (by omega)
      rw [h1, h2, bit_n hs (by omega)]
      rfl
  exact g_X8_bits_0 _ (loop 8 0 _ _ rfl rfl rfl)
theorem c_has {k : Int → MM → Prop} {x0 x1 : Int} (s i : Nat) (e : x0 = (s : Int)) (e1 : x1 = (i : Int)) (hs : s < 2147483648) (hi : i < 31) (hy : s / 2 ^ i % 2 = 1 → k 1 m) (hn : s / 2 ^ i % 2 = 0 → k 0 m) : N G d mi_X8_has 0 [some (vi x0), some (vi x1)] [] m (RI k) := by
  subst e e1
  have h2 := Nat.mod_lt (s / 2 ^ i) (show 0 < 2 by omega)
  refine g_X8_has_0 _ _ (eqI (by rw [bit_n hs (by omega)]; omega) (fun q => hy ?_) (fun q => hn ?_))
  · rw [bit_n hs (by omega)] at q; omega
  · rw [bit_n hs (by omega)] at q; omega
theorem c_wornBy {k : Int → MM → Prop} {x1 : Int} (n : Nat) (hx : rng x1) (h1 : m 305 1 = (n : Int)) (hn : n ≤ 8) (hr : ∀ e, e < 8 → rng (m 305 (20 + 8 * e + 2))) (h : k ((wset (fun e => m 305 (20 + 8 * e + 2)) x1 n : Nat) : Int) m) : N G (d + 1) mi_X8_wornBy 0 [some (vr 304), some (vi x1), none, none] [] m (RI k) := by
  have loop : ∀ (r q : Nat) (x2 x3 : Int), q + r = n → x2 = ((wset (fun e => m 305 (20 + 8 * e + 2)) x1 q : Nat) : Int) → x3 = (q : Int) → N G (d + 1) mi_X8_wornBy 4 [some (vr 304), some (vi x1), some (vi x2), some (vi x3)] [] m (RI k) := by
    intro r
    induction r with
    | zero =>
      intro q x2 x3 hq h2 h3
      have : q = n := by omega
      subst this
      subst h2
      exact g_X8_wornBy_4 _ _ _ (leT (by omega) h)
    | succ r ih =>
      intro q x2 x3 hq h2 h3
      refine g_X8_wornBy_4 _ _ _ (leF (by omega) (c_get (20 + 8 * q + 2) (by omega) (by omega) (eqI ⟨hr q (by omega), hx⟩ (fun z => ?_) (fun z => ?_))))
      · refine ih (q + 1) _ _ (by omega) ?_ (by omega)
        rw [h2, h3, ior_hi (wset_lt _ _ _) (by omega), wset, if_pos z]
      · refine ih (q + 1) _ _ (by omega) ?_ (by omega)
        have := wset_lt (fun e => m 305 (20 + 8 * e + 2)) x1 q
        have h8 : 2 ^ q ≤ 2 ^ 8 := Nat.pow_le_pow_right (by omega) (by omega)
        rw [h2, ior_0 _ (by omega), wset, if_neg z]
        rfl
  exact g_X8_wornBy_0 _ (loop n 0 _ _ (by omega) rfl rfl)
end Worn
