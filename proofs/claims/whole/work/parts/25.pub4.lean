theorem i2b_2 (x : Int) : i2b (i2b x) = i2b x := by
  have h := and255 x
  have e := i2b_and x
  have e2 := i2b_and (i2b x)
  have hb : -128 ≤ i2b x ∧ i2b x < 128 := by rw [e]; split <;> omega
  have h3 : iand (i2b x) 255 = (i2b x) % 256 := by
    have h1 : iand (i2b x) 255 = ((i32 (i2b x)).toBitVec.toNat % 256 : Nat) := by
      unfold iand
      rw [pk_and (i32 (i2b x)) (m := i32 255) 8 (by decide +kernel), nI_toInt (by omega)]
    have h4 : (i32 (i2b x)).toInt = i2b x := i32_toInt (by omega)
    have h5 : (i32 (i2b x)).toInt = if 2 * (i32 (i2b x)).toBitVec.toNat < 2 ^ 32 then ((i32 (i2b x)).toBitVec.toNat : Int) else ((i32 (i2b x)).toBitVec.toNat : Int) - (2 ^ 32 : Nat) := BitVec.toInt_eq_toNat_cond _
    rw [h4] at h5
    rw [h1]
    split at h5 <;> omega
  rw [e2, h3]
  split <;> omega
theorem i2b_sby (x : Int) : i2b x = sby (iand x 255) := i2b_and x
/-- a byte of a word -/
def byt (v : Int) (i : Nat) : Int := iand (ishr v (24 - 8 * (i : Int))) 255
/-- the tape moves, nothing else that is told -/
theorem Rel.tape {m m2 : MM} (h : Rel m m) (cc : ∀ c, c ≠ 0 → c ≠ 1 → c ≠ 304 → c ≠ 309 → m2 c = m c) (c0 : ∀ b, b ≠ 2 → m2 0 b = m 0 b) (r0 : ∀ b, b ≠ 6 → m2 304 b = m 304 b) (e : m2 0 2 = m2 304 6) (hb : 0 ≤ m2 304 6 ∧ m2 304 6 ≤ 300) (ht : ∀ j : Nat, (j : Int) < m2 304 6 → (0 ≤ m2 309 j ∧ m2 309 j < 256) ∧ m2 1 j = sby (m2 309 j)) : Rel m2 m2 := by
  obtain ⟨C, h1, h2, h3', h4, h5, h6, h7, h8, h9, h10, h11, h12, h13, h14, h15⟩ := h
  have g5 := cc 305 (by omega) (by omega) (by omega) (by omega)
  have g6 := cc 306 (by omega) (by omega) (by omega) (by omega)
  have g8 := cc 308 (by omega) (by omega) (by omega) (by omega)
  have g2 := cc 2 (by omega) (by omega) (by omega) (by omega)
  refine ⟨C, h1, by rw [c0 0 (by omega)]; exact h2, by rw [r0 3 (by omega)]; exact h3', by rw [g5]; exact h4.kept (fun j _ _ => cc j (by omega) (by omega) (by omega) (by omega)), by rw [g6]; exact h5.kept (fun j _ _ => cc j (by omega) (by omega) (by omega) (by omega)), by rw [g5]; exact h6, by rw [g6]; exact h7, by rw [g5, g6]; exact h8, fun t ht => ?_, e, hb, ht, by rw [g2, r0 7 (by omega)]; exact h13, by rw [g2, r0 8 (by omega)]; exact h14, by rw [r0 7 (by omega)]; exact h15.1, by rw [r0 8 (by omega)]; exact h15.2⟩
  rw [g5] at ht
  rw [g8]
  exact ⟨(h9 t ht).1.kept (fun j _ _ => cc j (by omega) (by omega) (by have := h6.2.2.1; omega) (by have := h6.2.2.1; omega)), (h9 t ht).2⟩
section Pub4
variable {G : GG} {d : Nat} {m : MM}
theorem P_end {k : Int → Int → MM → Prop} {x : Int} (hx : rng x) (h : Rel m m) (hk : ∀ z m', Rel m' m' → k z z m') : PR G d mi_X7_end mi_X8_end [some (vr 0), some (vi x)] [some (vr 304), some (vi x)] m k := by
  have hR := h
  obtain ⟨C, h1, h2, h3', h4, h5, h6, h7, h8, h9, h10, h11, h12, -⟩ := h
  refine g_X7_end_0 _ (ltI (by omega) (fun q => ?_) (fun q => leI (by omega) (fun q2 m1 e1 => ?_) (fun q2 => ?_)))
  · exact g_X8_end_0 _ (c_isIn (by omega) (fun q2 => absurd q2 (by omega)) (fun q2 => eqT (by omega) (hk _ _ hR)))
  · have g4 : m1 304 = m 304 := by rw [e1, upm_c (by omega)]
    refine g_X8_end_0 _ (c_isIn ⟨hx, by omega, by rw [g4]; omega⟩ (fun q3 => eqF (by omega) (fun m3 e3 => hk _ _ ?_)) (fun q3 => absurd q3 (by rw [g4]; omega)))
    have e6 : m3 304 6 = x := by rw [e3]; simp [upm]
    refine hR.tape (fun c a1 a2 a3 a4 => by rw [e3, upm_c a3, e1, upm_c a1]) (fun b hb => by rw [e3, upm_c (by omega), e1]; simp [upm, hb]) (fun b hb => by rw [e3, e1]; simp [upm, hb]) ?_ (by omega) (fun j hj => ?_)
    · rw [e6, e3, e1]; simp [upm]
    · rw [e3, upm_c (by omega), upm_c (by omega), e1, upm_c (by omega), upm_c (by omega)]
      exact h12 j (by omega)
  · exact g_X8_end_0 _ (c_isIn (by omega) (fun q3 => absurd q3 (by omega)) (fun q3 => eqT (by omega) (hk _ _ hR)))
/-- four bytes come behind the tape -/
theorem c_four {k : MM → Prop} {v : Int} (L : Nat) (hL : m 304 6 = (L : Int)) (h4 : L + 4 ≤ 300) (h : ∀ m', (∀ c, c ≠ 304 → c ≠ 309 → m' c = m c) → (∀ b, b ≠ 6 → m' 304 b = m 304 b) → m' 304 6 = (L : Int) + 4 → (∀ j, m' 309 j = if L ≤ j ∧ j < L + 4 then byt v (j - L) else m 309 j) → k m') : N G d mi_X8_four 0 [some (vr 304), some (vi v), none] [] m (RV k) := by
  have loop : ∀ (n i : Nat) (x2 : Int) (m' : MM), i + n = 4 → x2 = 24 - 8 * (i : Int) → (∀ c, c ≠ 304 → c ≠ 309 → m' c = m c) → (∀ b, b ≠ 6 → m' 304 b = m 304 b) → m' 304 6 = (L : Int) + i → (∀ j, m' 309 j = if L ≤ j ∧ j < L + i then byt v (j - L) else m 309 j) → N G d mi_X8_four 3 [some (vr 304), some (vi v), some (vi x2)] [] m' (RV k) := by
    intro n
    induction n with
    | zero =>
      intro i x2 m' hi hx a1 a2 a3 a4
      have : i = 4 := by omega
      subst this
      exact g_X8_four_3 _ _ (ltT (by omega) (h m' a1 a2 a3 a4))
    | succ n ih =>
      intro i x2 m' hi hx a1 a2 a3 a4
      refine g_X8_four_3 _ _ (ltF (by omega) ⟨L + i, by omega, fun m1 e1 m3 e3 => ?_⟩)
      refine ih (i + 1) _ m3 (by omega) (by omega) (fun c b1 b2 => by rw [e3, upm_c b1, e1, upm_c b2]; exact a1 c b1 b2) (fun b hb => ?_) ?_ (fun j => ?_)
      · rw [e3, e1]; simpa [upm, hb] using a2 b hb
      · rw [e3, e1]; simp [upm]; omega
      · rw [e3, upm_c (by omega), e1]
        by_cases hj : j = L + i
        · subst hj
          rw [if_pos (by omega)]
          have : upm m' 309 (L + i) (iand (ishr v x2) 255) 309 (L + i) = iand (ishr v x2) 255 := by simp [upm]
          rw [this, hx, show L + i - L = i by omega]
          rfl
        · have : upm m' 309 (L + i) (iand (ishr v x2) 255) 309 j = m' 309 j := by simp [upm, hj]
          rw [this, a4 j]
          split <;> split <;> first | rfl | (exfalso; omega)
  exact g_X8_four_0 _ (loop 4 0 _ m rfl (by omega) (fun _ _ _ => rfl) (fun _ _ => rfl) (by omega) (fun j => by rw [if_neg (by omega)]))
theorem c7_four {k : MM → Prop} {v : Int} (L : Nat) (hL : m 0 2 = (L : Int)) (h4 : L + 4 ≤ 300) (h : ∀ m', (∀ c, c ≠ 0 → c ≠ 1 → m' c = m c) → (∀ b, b ≠ 2 → m' 0 b = m 0 b) → m' 0 2 = (L : Int) + 4 → (∀ j, m' 1 j = if L ≤ j ∧ j < L + 4 then sby (byt v (j - L)) else m 1 j) → k m') : N G d mi_X7_addFourBytes 0 [some (vr 0), some (vi v), none] [] m (RV k) := by
  have loop : ∀ (n i : Nat) (x2 : Int) (m' : MM), i + n = 4 → x2 = 24 - 8 * (i : Int) → (∀ c, c ≠ 0 → c ≠ 1 → m' c = m c) → (∀ b, b ≠ 2 → m' 0 b = m 0 b) → m' 0 2 = (L : Int) + i → (∀ j, m' 1 j = if L ≤ j ∧ j < L + i then sby (byt v (j - L)) else m 1 j) → N G d mi_X7_addFourBytes 3 [some (vr 0), some (vi v), some (vi x2)] [] m' (RV k) := by
    intro n
    induction n with
    | zero =>
      intro i x2 m' hi hx a1 a2 a3 a4
      have : i = 4 := by omega
      subst this
      exact g_X7_addFourBytes_3 _ _ (ltT (by omega) (h m' a1 a2 a3 a4))
    | succ n ih =>
      intro i x2 m' hi hx a1 a2 a3 a4
      refine g_X7_addFourBytes_3 _ _ (ltF (by omega) (leF (by omega) ⟨L + i, by omega, fun m1 e1 m3 e3 => ?_⟩))
      refine ih (i + 1) _ m3 (by omega) (by omega) (fun c b1 b2 => by rw [e3, upm_c b1, e1, upm_c b2]; exact a1 c b1 b2) (fun b hb => ?_) ?_ (fun j => ?_)
      · rw [e3, e1]; simpa [upm, hb] using a2 b hb
      · rw [e3, e1]; simp [upm]; omega
      · rw [e3, upm_c (by omega), e1]
        by_cases hj : j = L + i
        · subst hj
          rw [if_pos (by omega)]
          have : upm m' 1 (L + i) (i2b (i2b (ishr v x2))) 1 (L + i) = i2b (i2b (ishr v x2)) := by simp [upm]
          rw [this, i2b_2, i2b_sby, hx, show L + i - L = i by omega]
          rfl
        · have : upm m' 1 (L + i) (i2b (i2b (ishr v x2))) 1 j = m' 1 j := by simp [upm, hj]
          rw [this, a4 j]
          split <;> split <;> first | rfl | (exfalso; omega)
  exact g_X7_addFourBytes_0 _ (loop 4 0 _ m rfl (by omega) (fun _ _ _ => rfl) (fun _ _ => rfl) (by omega) (fun j => by rw [if_neg (by omega)]))
/-- byte j of the twenty -/
def by20 (a b c d e : Int) (j : Nat) : Int := if j < 4 then byt a j else if j < 8 then byt b (j - 4) else if j < 12 then byt c (j - 8) else if j < 16 then byt d (j - 12) else byt e (j - 16)
theorem by20_in (a b c d e : Int) (j : Nat) : 0 ≤ by20 a b c d e j ∧ by20 a b c d e j < 256 := by
  unfold by20 byt
  split
  · exact and255 _
  · split
    · exact and255 _
    · split
      · exact and255 _
      · split
        · exact and255 _
        · exact and255 _
theorem by20_chain {F0 F1 F2 F3 F4 F5 : Nat → Int} (g : Int → Int) {L : Nat} {a b c e f : Int} (d1 : ∀ j, F1 j = if L ≤ j ∧ j < L + 4 then g (byt a (j - L)) else F0 j) (d2 : ∀ j, F2 j = if L + 4 ≤ j ∧ j < L + 4 + 4 then g (byt b (j - (L + 4))) else F1 j) (d3 : ∀ j, F3 j = if L + 8 ≤ j ∧ j < L + 8 + 4 then g (byt c (j - (L + 8))) else F2 j) (d4 : ∀ j, F4 j = if L + 12 ≤ j ∧ j < L + 12 + 4 then g (byt e (j - (L + 12))) else F3 j) (d5 : ∀ j, F5 j = if L + 16 ≤ j ∧ j < L + 16 + 4 then g (byt f (j - (L + 16))) else F4 j) (j : Nat) : F5 j = if L ≤ j ∧ j < L + 20 then g (by20 a b c e f (j - L)) else F0 j := by
  rw [d5, d4, d3, d2, d1]
  clear d1 d2 d3 d4 d5
  unfold by20
  by_cases h : L ≤ j ∧ j < L + 20
  · rw [if_pos h]
    by_cases g5 : L + 16 ≤ j
    · rw [if_pos (by omega), if_neg (by omega), if_neg (by omega), if_neg (by omega), if_neg (by omega), show j - L - 16 = j - (L + 16) by omega]
    · rw [if_neg (by omega)]
      by_cases g4 : L + 12 ≤ j
      · rw [if_pos (by omega), if_neg (by omega), if_neg (by omega), if_neg (by omega), if_pos (by omega), show j - L - 12 = j - (L + 12) by omega]
      · rw [if_neg (by omega)]
        by_cases g3 : L + 8 ≤ j
        · rw [if_pos (by omega), if_neg (by omega), if_neg (by omega), if_pos (by omega), show j - L - 8 = j - (L + 8) by omega]
        · rw [if_neg (by omega)]
          by_cases g2 : L + 4 ≤ j
          · rw [if_pos (by omega), if_neg (by omega), if_pos (by omega), show j - L - 4 = j - (L + 4) by omega]
          · rw [if_neg (by omega), if_pos (by omega), if_pos (by omega)]
  · rw [if_neg h, if_neg (by omega), if_neg (by omega), if_neg (by omega), if_neg (by omega), if_neg (by omega)]
theorem c_feed {k : Int → MM → Prop} {a b c e f : Int} (L : Nat) (hL : m 304 6 = (L : Int)) (h20 : L + 20 ≤ 300) (h : ∀ m', (∀ c, c ≠ 304 → c ≠ 309 → m' c = m c) → (∀ b, b ≠ 6 → m' 304 b = m 304 b) → m' 304 6 = (L : Int) + 20 → (∀ j, m' 309 j = if L ≤ j ∧ j < L + 20 then by20 a b c e f (j - L) else m 309 j) → k ((L : Int) + 20) m') : N G (d + 1) mi_X8_feed 0 [some (vr 304), some (vi a), some (vi b), some (vi c), some (vi e), some (vi f)] [] m (RI k) := by
  refine g_X8_feed_0 _ _ _ _ _ (leT (by omega) ?_)
  refine c_four L (by omega) (by omega) (fun n1 p1 q1 r1 s1 => ?_)
  refine c_four (L + 4) (by omega) (by omega) (fun n2 p2 q2 r2 s2 => ?_)
  refine c_four (L + 8) (by omega) (by omega) (fun n3 p3 q3 r3 s3 => ?_)
  refine c_four (L + 12) (by omega) (by omega) (fun n4 p4 q4 r4 s4 => ?_)
  refine c_four (L + 16) (by omega) (by omega) (fun n5 p5 q5 r5 s5 => ?_)
  have r6 : n5 304 6 = (L : Int) + 20 := by omega
  rw [r6]
  refine h n5 (fun c g1 g2 => by rw [p5 c g1 g2, p4 c g1 g2, p3 c g1 g2, p2 c g1 g2, p1 c g1 g2]) (fun q g => by rw [q5 q g, q4 q g, q3 q g, q2 q g, q1 q g]) r6 ?_
  exact by20_chain (g := fun z => z) s1 s2 s3 s4 s5
theorem c7_feed {k : Int → MM → Prop} {a b c e f : Int} (L : Nat) (hL : m 0 2 = (L : Int)) (h20 : L + 20 ≤ 300) (h : ∀ m', (∀ c, c ≠ 0 → c ≠ 1 → m' c = m c) → (∀ b, b ≠ 2 → m' 0 b = m 0 b) → m' 0 2 = (L : Int) + 20 → (∀ j, m' 1 j = if L ≤ j ∧ j < L + 20 then sby (by20 a b c e f (j - L)) else m 1 j) → k ((L : Int) + 20) m') : N G (d + 1) mi_X7_feed 0 [some (vr 0), some (vi a), some (vi b), some (vi c), some (vi e), some (vi f)] [] m (RI k) := by
  refine g_X7_feed_0 _ _ _ _ _ (leT (by omega) ?_)
  refine c7_four L (by omega) (by omega) (fun n1 p1 q1 r1 s1 => ?_)
  refine c7_four (L + 4) (by omega) (by omega) (fun n2 p2 q2 r2 s2 => ?_)
  refine c7_four (L + 8) (by omega) (by omega) (fun n3 p3 q3 r3 s3 => ?_)
  refine c7_four (L + 12) (by omega) (by omega) (fun n4 p4 q4 r4 s4 => ?_)
  refine c7_four (L + 16) (by omega) (by omega) (fun n5 p5 q5 r5 s5 => ?_)
  have r6 : n5 0 2 = (L : Int) + 20 := by omega
  rw [r6]
  refine h n5 (fun c g1 g2 => by rw [p5 c g1 g2, p4 c g1 g2, p3 c g1 g2, p2 c g1 g2, p1 c g1 g2]) (fun q g => by rw [q5 q g, q4 q g, q3 q g, q2 q g, q1 q g]) r6 ?_
  exact by20_chain (g := sby) s1 s2 s3 s4 s5
theorem P_feed {k : Int → Int → MM → Prop} {a b c e f : Int} (h : Rel m m) (hk : ∀ z m', Rel m' m' → k z z m') : PR G d mi_X7_feed mi_X8_feed [some (vr 0), some (vi a), some (vi b), some (vi c), some (vi e), some (vi f)] [some (vr 304), some (vi a), some (vi b), some (vi c), some (vi e), some (vi f)] m k := by
  have hR := h
  obtain ⟨C, -, -, -, -, -, -, -, -, -, h10, h11, h12, -⟩ := h
  obtain ⟨L, hL⟩ : ∃ L : Nat, m 304 6 = (L : Int) := ⟨(m 304 6).toNat, by omega⟩
  by_cases h20 : L + 20 ≤ 300
  · refine c7_feed L (by omega) h20 (fun m5 A B E D => ?_)
    have g4 := A 304 (by omega) (by omega)
    refine c_feed L (by rw [g4]; exact hL) h20 (fun n5 P Q R S => ?_)
    refine hk _ _ (hR.tape (fun c g1 g2 g3 g4 => by rw [P c g3 g4, A c g1 g2]) (fun q g => by rw [P 0 (by omega) (by omega), B q g]) (fun q g => by rw [Q q g, g4]) ?_ (by omega) (fun j hj => ?_))
    · rw [P 0 (by omega) (by omega), R, E]
    · rw [P 1 (by omega) (by omega), S j, D j, A 309 (by omega) (by omega)]
      by_cases g : L ≤ j ∧ j < L + 20
      · rw [if_pos g, if_pos g]
        exact ⟨by20_in _ _ _ _ _ _, rfl⟩
      · rw [if_neg g, if_neg g]
        exact h12 j (by omega)
  · refine g_X7_feed_0 _ _ _ _ _ (leF (by omega) ?_)
    exact g_X8_feed_0 _ _ _ _ _ (leF (by omega) (hk _ _ hR))
end Pub4
