/-! ===== text: the reference's next token ===== -/
def Tp (b : Nat → Int) (L : Nat) (m : MM) : Prop := m 304 6 = (L : Int) ∧ L ≤ 300 ∧ ∀ j, j < L → (0 ≤ b j ∧ b j < 256) ∧ m 309 j = b j
def FrN (m m' : MM) : Prop := (∀ c, c ≠ 304 → m' c = m c) ∧ ∀ j, (j < 9 ∨ 13 < j) → m' 304 j = m 304 j
theorem FrN.rf (m : MM) : FrN m m := ⟨fun _ _ => rfl, fun _ _ => rfl⟩
theorem FrN.tr {a b c : MM} (h : FrN a b) (h2 : FrN b c) : FrN a c := ⟨fun x hx => (h2.1 x hx).trans (h.1 x hx), fun j hj => (h2.2 j hj).trans (h.2 j hj)⟩
theorem FrN.up {m m' : MM} {k : Nat} {z : Int} (h : FrN m m') (hk : 9 ≤ k ∧ k ≤ 13) : FrN m (upm m' 304 k z) := ⟨fun x hx => by rw [upm_c hx]; exact h.1 x hx, fun j hj => by rw [upm_j _ _ (by omega)]; exact h.2 j hj⟩
theorem Tp.fr {b : Nat → Int} {L : Nat} {m m' : MM} (h : Tp b L m) (f : FrN m m') : Tp b L m' := ⟨by rw [f.2 6 (by omega)]; exact h.1, h.2.1, fun j hj => by rw [f.1 309 (by omega)]; exact h.2.2 j hj⟩
def RT (b : Nat → Int) (L : Nat) (m : MM) (i : Nat) : Prop := m 304 9 = (ps b L (i + 1) : Int) ∧ m 304 10 = (plI b L i : Int) ∧ RTk (tkI b L i) (m 304 11) (m 304 13) ∧ (tkI b L i = 35 → NmR (nbI b L i) (m 304 12))
def bA (b : Nat → Int) (L p : Nat) : Int := if p < L then b p else -1
theorem pck_bd {b : Nat → Int} {q : Nat} : ∀ n, (∀ j, j < n → 0 ≤ b (q + j) ∧ b (q + j) < 256) → 0 ≤ pck b q n ∧ pck b q n < ((256 ^ n : Nat) : Int) := by
  intro n
  induction n with
  | zero => intro _; unfold pck; exact ⟨Int.le_refl 0, by decide⟩
  | succ n ih =>
    intro h
    have i1 := ih (fun j hj => h j (by omega))
    have i2 := h n (by omega)
    rw [pck, Nat.pow_succ]
    have e : (((256 ^ n * 256 : Nat)) : Int) = ((256 ^ n : Nat) : Int) * 256 := by simp
    rw [e]
    omega
section Lex2
variable {G : GG} {d : Nat} {m : MM}
theorem c_byteAt {k : Int → MM → Prop} {x1 : Int} {b : Nat → Int} {L : Nat} (ht : Tp b L m) (p : Nat) (e1 : x1 = (p : Int)) (hp : p ≤ L) (h : k (bA b L p) m) : N G d mi_X8_byteAt 0 [some (vr 304), some (vi x1)] [] m (RI k) := by
  obtain ⟨h1, h2, h3⟩ := ht
  unfold bA at h
  refine g_X8_byteAt_0 _ (leI (by omega) (fun z => ?_) (fun z => ⟨p, by omega, ?_⟩))
  · rw [if_neg (by omega)] at h; exact h
  · rw [if_pos (by omega)] at h; rw [(h3 p (by omega)).2]; exact h
theorem c8_isDigit {k : Int → MM → Prop} {x0 : Int} (hx : rng x0) (hy : isDg x0 → k 1 m) (hn : ¬ isDg x0 → k 0 m) : N G (d + 1) mi_X8_isDigit 0 [some (vi x0)] [] m (RI k) :=
  g_X8_isDigit_0 _ (c_isIn (by omega) (fun z => ⟨by omega, hy z⟩) (fun z => ⟨by omega, hn z⟩))
theorem c8_isLetter {k : Int → MM → Prop} {x0 : Int} (hx : rng x0) (hy : isLt x0 → k 1 m) (hn : ¬ isLt x0 → k 0 m) : N G (d + 1) mi_X8_isLetter 0 [some (vi x0)] [] m (RI k) :=
  g_X8_isLetter_0 _ (c_isIn (by omega) (fun z => eqF (by omega) (hy (by omega))) (fun z => eqT (by omega) (c_isIn (by omega) (fun z2 => eqF (by omega) (hy (by omega))) (fun z2 => eqT (by omega) (hn (by omega))))))
theorem bA_rng {b : Nat → Int} {L : Nat} (ht : Tp b L m) (p : Nat) : rng (bA b L p) := by
  unfold bA
  split
  · rename_i h; have := (ht.2.2 p h).1; omega
  · omega
theorem c_nx85 {Q : MM → Prop} {m0 : MM} {b : Nat → Int} {L q : Nat} (ht : Tp b L m0) : ∀ (n p : Nat) (m : MM), p + n = L → q ≤ p → (∀ j, q ≤ j → j < p → isDg (b j)) → FrN m0 m → m 304 9 = (p : Int) → m 304 12 = nmR b q (p - q) →
    (∀ m', FrN m0 m' → m' 304 9 = (runD b n p : Int) → m' 304 12 = nmR b q (runD b n p - q) → m' 304 10 = m 304 10 → m' 304 11 = m 304 11 → Q m') → N G (d + 2) mi_X8_nextToken 85 [some (vr 304), none, none] [] m (RV Q) := by
  intro n
  induction n with
  | zero =>
    intro p m hp hq hall hf h9 h12 next
    have htm := ht.fr hf
    refine g_X8_nextToken_85 (c_byteAt htm p h9 (by omega) (c8_isDigit (bA_rng htm p) (fun z => ?_) (fun z => eqT (by omega) (next m hf h9 h12 rfl rfl))))
    unfold bA at z
    rw [if_neg (by omega)] at z
    omega
  | succ n ih =>
    intro p m hp hq hall hf h9 h12 next
    have htm := ht.fr hf
    have eb : bA b L p = b p := by unfold bA; rw [if_pos (by omega)]
    have nr := (nm_rel b q (p - q) (fun j h1 h2 => hall j h1 (by omega))).2.2.2
    refine g_X8_nextToken_85 (c_byteAt htm p h9 (by omega) (c8_isDigit (bA_rng htm p) (fun z => eqF (by omega) ?_) (fun z => eqT (by omega) ?_)))
    · rw [eb] at z
      have er : runD b (n + 1) p = runD b n (p + 1) := by rw [runD, if_pos z]
      rw [er] at next
      have ep : p + 1 - q = (p - q) + 1 := by omega
      have eq' : q + (p - q) = p := by omega
      have hall' : ∀ j, q ≤ j → j < p + 1 → isDg (b j) := fun j h1 h2 => by
        by_cases e : j = p
        · rw [e]; exact z
        · exact hall j h1 (by omega)
      rw [h12]
      refine leI (by omega) (fun z2 m5 q5 => ?_) (fun z2 => c_byteAt htm p h9 (by omega) (fun m8 q8 m9 q9 => ?_))
      · refine ih (p + 1) m5 (by omega) (by omega) hall' (by rw [q5]; exact hf.up (by omega)) (by rw [q5, upm_at, h9]; omega) (by rw [q5, upm_j _ _ (by omega), h12, ep, nmR, if_neg (by omega)]) (fun m' f a b c e => next m' f a b (by rw [c, q5, upm_j _ _ (by omega)]) (by rw [e, q5, upm_j _ _ (by omega)]))
      · rw [eb] at q8
        refine ih (p + 1) m9 (by omega) (by omega) hall' (by rw [q9, q8]; exact (hf.up (by omega)).up (by omega)) (by rw [q9, upm_at, q8, upm_j _ _ (by omega), h9]; omega) (by rw [q9, upm_j _ _ (by omega), q8, upm_at, ep, nmR, if_pos (by omega), eq']) (fun m' f a b c e => next m' f a b (by rw [c, q9, upm_j _ _ (by omega), q8, upm_j _ _ (by omega)]) (by rw [e, q9, upm_j _ _ (by omega), q8, upm_j _ _ (by omega)]))
    · rw [eb] at z
      have er : runD b (n + 1) p = p := by rw [runD, if_neg z]
      rw [er] at next
      exact next m hf h9 h12 rfl rfl
theorem c_nx161 {Q : MM → Prop} {m0 : MM} {b : Nat → Int} {L q : Nat} (ht : Tp b L m0) : ∀ (n p : Nat) (m : MM), p + n = L → q ≤ p → FrN m0 m → m 304 9 = (p : Int) → m 304 10 = (q : Int) → m 304 13 = pck b q (if p - q ≤ 7 then p - q else 7) →
    (∀ m', FrN m0 m' → m' 304 9 = (runL b n p : Int) → m' 304 10 = (q : Int) → m' 304 13 = wdv b q (runL b n p) → m' 304 11 = m 304 11 → Q m') → N G (d + 2) mi_X8_nextToken 161 [some (vr 304), none, none] [] m (RV Q) := by
  have fin : ∀ (p : Nat) (m : MM), p ≤ L → q ≤ p → FrN m0 m → m 304 9 = (p : Int) → m 304 10 = (q : Int) → m 304 13 = pck b q (if p - q ≤ 7 then p - q else 7) → (∀ m', FrN m0 m' → m' 304 9 = (p : Int) → m' 304 10 = (q : Int) → m' 304 13 = wdv b q p → m' 304 11 = m 304 11 → Q m') → bLE (m 304 9 - m 304 10) 7 (Q m) (∀ m5, m5 = upm m 304 13 0 → Q m5) := by
    intro p m hp hq hf h9 h10 h13 next
    have := ht.2.1
    refine leI (by omega) (fun z => next m hf h9 h10 ?_ rfl) (fun z m5 q5 => next m5 (by rw [q5]; exact hf.up (by omega)) (by rw [q5, upm_j _ _ (by omega)]; exact h9) (by rw [q5, upm_j _ _ (by omega)]; exact h10) ?_ (by rw [q5, upm_j _ _ (by omega)]))
    · rw [h13]; unfold wdv; rw [if_pos (by omega), if_pos (by omega)]
    · rw [q5, upm_at]; unfold wdv; rw [if_neg (by omega)]
  intro n
  induction n with
  | zero =>
    intro p m hp hq hf h9 h10 h13 next
    have htm := ht.fr hf
    refine g_X8_nextToken_161 (c_byteAt htm p h9 (by omega) (c8_isLetter (bA_rng htm p) (fun z => ?_) (fun z => eqT (by omega) (fin p m (by omega) hq hf h9 h10 h13 next))))
    unfold bA at z
    rw [if_neg (by omega)] at z
    omega
  | succ n ih =>
    intro p m hp hq hf h9 h10 h13 next
    have htm := ht.fr hf
    have hL := ht.2.1
    have eb : bA b L p = b p := by unfold bA; rw [if_pos (by omega)]
    have hbp := (ht.2.2 p (by omega)).1
    refine g_X8_nextToken_161 (c_byteAt htm p h9 (by omega) (c8_isLetter (bA_rng htm p) (fun z => eqF (by omega) ?_) (fun z => eqT (by omega) ?_)))
    · rw [eb] at z
      have er : runL b (n + 1) p = runL b n (p + 1) := by rw [runL, if_pos z]
      rw [er] at next
      refine leI (by omega) (fun z2 m6 q6 => ?_) (fun z2 => c_byteAt htm p h9 (by omega) ⟨by rw [eb]; omega, fun m9 q9 m10 q10 => ?_⟩)
      · refine ih (p + 1) m6 (by omega) (by omega) (by rw [q6]; exact hf.up (by omega)) (by rw [q6, upm_at, h9]; omega) (by rw [q6, upm_j _ _ (by omega)]; exact h10) ?_ (fun m' f a b c e => next m' f a b c (by rw [e, q6, upm_j _ _ (by omega)]))
        rw [q6, upm_j _ _ (by omega), h13, if_neg (show ¬ p + 1 - q ≤ 7 by omega)]
        split
        · rw [show p - q = 7 by omega]
        · rfl
      · rw [eb, h13, if_pos (show p - q ≤ 7 by omega)] at q9
        have pb := pck_bd (b := b) (q := q) (p - q) (fun j hj => (ht.2.2 (q + j) (by omega)).1)
        have p6 : 256 ^ (p - q) ≤ 256 ^ 6 := Nat.pow_le_pow_right (by decide) (by omega)
        have p6' : ((256 ^ (p - q) : Nat) : Int) ≤ 281474976710656 := by
          have : (256 ^ 6 : Nat) = 281474976710656 := by decide
          omega
        obtain ⟨wn, hwn⟩ : ∃ wn : Nat, pck b q (p - q) = (wn : Int) := ⟨(pck b q (p - q)).toNat, by omega⟩
        obtain ⟨zn, hzn⟩ : ∃ zn : Nat, b p = (zn : Int) := ⟨(b p).toNat, by omega⟩
        have ep : lorr (lshl (pck b q (p - q)) 8) (b p) = pck b q (p + 1 - q) := by
          rw [show p + 1 - q = (p - q) + 1 by omega, pck, show q + (p - q) = p by omega, hwn, hzn, l_pack (by omega) (by omega)]
          omega
        rw [ep] at q9
        refine ih (p + 1) m10 (by omega) (by omega) (by rw [q10, q9]; exact (hf.up (by omega)).up (by omega)) (by rw [q10, upm_at, q9, upm_j _ _ (by omega), h9]; omega) (by rw [q10, upm_j _ _ (by omega), q9, upm_j _ _ (by omega)]; exact h10) ?_ (fun m' f a b c e => next m' f a b c (by rw [e, q10, upm_j _ _ (by omega), q9, upm_j _ _ (by omega)]))
        rw [q10, upm_j _ _ (by omega), q9, upm_at, if_pos (by omega)]
    · rw [eb] at z
      have er : runL b (n + 1) p = p := by rw [runL, if_neg z]
      rw [er] at next
      exact fin p m (by omega) hq hf h9 h10 h13 next
end Lex2
