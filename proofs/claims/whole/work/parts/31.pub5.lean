/-- out of the relation, once and for all: what a reader needs -/
theorem Rel.now {m : MM} (h : Rel m m) : ∃ C : Int, (1 ≤ C ∧ C ≤ 6) ∧ m 0 0 = C ∧ m 304 3 = C ∧ Std m 12 (m 305) ∧ WfS C (m 305) ∧ m 0 2 = m 304 6 ∧ (0 ≤ m 304 6 ∧ m 304 6 ≤ 300) := by
  obtain ⟨C, h1, h2, h3', h4, h5, h6, h7, h8, h9, h10, h11, -⟩ := h
  exact ⟨C, h1, h2, h3', h4, h6, h10, h11⟩
theorem WfS.worn {C : Int} {S : Nat → Int} (h : WfS C S) {e : Nat} (he : e < 8) : -1 ≤ S (20 + 8 * e + 2) ∧ S (20 + 8 * e + 2) < C := by
  have := h.2.2.2.2.2.2.2.2.2.1.2.2.1 e he
  exact ⟨this.1, this.2.1⟩
theorem WfS.out {C : Int} {S : Nat → Int} (h : WfS C S) {e : Nat} (he : e < 8) (hn : S 1 ≤ (e : Int)) : eye0 (nowW S e) := h.2.2.2.2.2.2.2.2.2.1.2.2.2.1 e he hn
theorem WfS.know {C : Int} {S : Nat → Int} (h : WfS C S) {e : Nat} (he : e < 8) {q : Nat} (hq : q < 4) : th (S (20 + 8 * e + 4 + q)) := by
  have := h.2.2.2.2.2.2.2.2.2.1.2.2.1 e he
  unfold eyeOK nowW at this
  have h4 : q = 0 ∨ q = 1 ∨ q = 2 ∨ q = 3 := by omega
  rcases h4 with rfl | rfl | rfl | rfl
  · exact this.2.2.2.2.1
  · exact this.2.2.2.2.2.1
  · exact this.2.2.2.2.2.2.1
  · exact this.2.2.2.2.2.2.2
section Pub5
variable {G : GG} {d : Nat} {m : MM}
theorem P_about {k : Int → Int → MM → Prop} {x : Int} (hx : rng x) (h : Rel m m) (hk : ∀ z m', Rel m' m' → k z z m') : PR G d mi_X7_about mi_X8_about [some (vr 0), some (vi x)] [some (vr 304), some (vi x)] m k := by
  obtain ⟨C, hC, h0, h3, hS, hw, ht, ht2⟩ := h.now
  have hkk : ∀ z, k z z m := fun z => hk z m h
  have w0 := hw.1
  have w1 := hw.2.1
  obtain ⟨s0, s1, s3, s4, s6, s8, s7, s9, sr, sp⟩ := hS
  -- neither a thing nor a courtier
  have neither : ∀ z : Int, ¬ (10 ≤ x ∧ x ≤ 9 + m 305 0) → ¬ (20 ≤ x ∧ x ≤ 19 + C) → ((x = 0 ∧ z = C) ∨ (1 ≤ x ∧ x ≤ 7 ∧ ∃ j : Nat, x - 1 = (j : Int) ∧ z = m 305 j) ∨ (x = 8 ∧ z = m 304 6) ∨ (¬ (0 ≤ x ∧ x ≤ 8) ∧ z = -2)) → N G (d + 60) mi_X8_about 0 [some (vr 304), some (vi x)] [] m (RI fun z' m2 => k z z' m2) := by
    intro z n1 n2 hz
    refine g_X8_about_0 _ (c_isIn (by omega) (fun q => absurd q (by omega)) (fun q => eqT (by omega) (c_isIn (by omega) (fun q2 => absurd q2 (by omega)) (fun q2 => eqT (by omega) ?_))))
    rcases hz with ⟨e1, e2⟩ | ⟨e1, e2, j, e3, e4⟩ | ⟨e1, e2⟩ | ⟨e1, e2⟩
    · refine eqT (by omega) ?_
      rw [e2, ← h3]; exact hkk _
    · refine eqF (by omega) (c_isIn (by omega) (fun q3 => eqF (by omega) ⟨j, by omega, ?_⟩) (fun q3 => absurd q3 (by omega)))
      rw [e4]; exact hkk _
    · refine eqF (by omega) (c_isIn (by omega) (fun q3 => absurd q3 (by omega)) (fun q3 => eqT (by omega) (eqT (by omega) ?_)))
      rw [e2]; exact hkk _
    · refine eqF (by omega) (c_isIn (by omega) (fun q3 => absurd q3 (by omega)) (fun q3 => eqT (by omega) (eqF (by omega) ?_)))
      rw [e2]; exact hkk _
  refine g_X7_about_0 _ (ltI (by omega) (fun q => ltI (by omega) (fun q2 => ?_) (fun q2 => ?_)) (fun q => ?_))
  · refine ⟨hx, fun e => ?_, fun e => ?_, fun e => ?_, fun e => ?_, fun e => ?_, fun e => ?_, fun e => ?_, fun e => ?_, fun e => ?_, fun e => ?_⟩
    · exact neither _ (by omega) (by omega) (Or.inl ⟨e, h0⟩)
    · exact neither _ (by omega) (by omega) (Or.inr (Or.inl ⟨by omega, by omega, 0, by omega, s0⟩))
    · exact neither _ (by omega) (by omega) (Or.inr (Or.inl ⟨by omega, by omega, 1, by omega, s1⟩))
    · exact neither _ (by omega) (by omega) (Or.inr (Or.inl ⟨by omega, by omega, 2, by omega, sr.1⟩))
    · exact neither _ (by omega) (by omega) (Or.inr (Or.inl ⟨by omega, by omega, 3, by omega, s3⟩))
    · exact neither _ (by omega) (by omega) (Or.inr (Or.inl ⟨by omega, by omega, 4, by omega, s4⟩))
    · exact neither _ (by omega) (by omega) (Or.inr (Or.inl ⟨by omega, by omega, 5, by omega, sp.1⟩))
    · exact neither _ (by omega) (by omega) (Or.inr (Or.inl ⟨by omega, by omega, 6, by omega, s6⟩))
    · exact neither _ (by omega) (by omega) (Or.inr (Or.inr (Or.inl ⟨e, ht⟩)))
    · exact neither _ (by omega) (by omega) (Or.inr (Or.inr (Or.inr ⟨by omega, rfl⟩)))
  · refine c7_isThing (by omega) (fun q3 => ?_) (fun q3 => ?_)
    · obtain ⟨j, hj⟩ : ∃ j : Nat, x - 10 = (j : Int) := ⟨(x - 10).toNat, by omega⟩
      refine eqF (by omega) ⟨j, by omega, ?_⟩
      refine g_X8_about_0 _ (c_isIn (by omega) (fun q4 => eqF (by omega) ⟨8 + j, by omega, ?_⟩) (fun q4 => absurd q4 (by omega)))
      rw [show m 13 j = m 305 (8 + j) from s7 j (by omega)]
      exact hkk _
    · exact eqT (by omega) (neither _ (by omega) (by omega) (Or.inr (Or.inr (Or.inr ⟨by omega, rfl⟩))))
  · refine c7_isCourtier (by omega) (fun q3 => ?_) (fun q3 => ?_)
    · refine eqF (by omega) (c0_wornSet 16 sh_16 (by omega) (fun e he => ?_) ?_)
      · have := (sr.2 e he).1
        have h5 := hw.worn he
        have : m 17 e = m 305 (20 + 8 * e + 2) := this
        show rng (m 17 e)
        omega
      · obtain ⟨n, hn⟩ : ∃ n : Nat, m 305 1 = (n : Int) := ⟨(m 305 1).toNat, by omega⟩
        have e1 : wset (m (16 + 1)) (x - 20) 8 = wset (fun e => m 305 (20 + 8 * e + 2)) (x - 20) n := by
          rw [wset_cong (g := fun e => m 305 (20 + 8 * e + 2)) 8 (fun e he => (sr.2 e he).1)]
          refine wset_trunc (fun e h1 h2 => ?_) 8 (by omega) (by omega)
          have := (hw.out h2 (by omega)).1
          have : m 305 (20 + 8 * e + 2) = -1 := this
          omega
        rw [e1]
        refine g_X8_about_0 _ (c_isIn (by omega) (fun q4 => absurd q4 (by omega)) (fun q4 => eqT (by omega) (c_isIn (by omega) (fun q5 => eqF (by omega) ?_) (fun q5 => absurd q5 (by omega)))))
        refine c_wornBy n (by omega) hn (by omega) (fun e he => ?_) (hkk _)
        have := hw.worn he
        omega
    · exact eqT (by omega) (neither _ (by omega) (by omega) (Or.inr (Or.inr (Or.inr ⟨by omega, rfl⟩))))
theorem c0_unlike {k : Int → MM → Prop} {x0 x1 a b c e a' b' c' e' : Int} (e0 : x0 = pk a b c e) (e1 : x1 = pk a' b' c' e') (ha : th a) (hb : th b) (hc : th c) (he : th e) (ha' : th a') (hb' : th b') (hc' : th c') (he' : th e') (h : k (dif (pl a b c e) (pl a' b' c' e') 4) m) : N G (d + 1) mi_X0_unlikePlaces 0 [some (vi x0), some (vi x1)] [] m (RI k) := by
  obtain ⟨p, hp, hp2⟩ := pk_nat ha hb hc he
  obtain ⟨p', hp', hp2'⟩ := pk_nat ha' hb' hc' he'
  have hx : (p ^^^ p') < 65536 := Nat.xor_lt_two_pow (n := 16) hp2 hp2'
  refine g_X0_unlikePlaces_0 _ _ (c0_howMuch (p ^^^ p') (by rw [e0, e1, hp, hp', ixor_n (by omega)]) hx ?_)
  obtain ⟨q1, q2, q3, q4⟩ := pk_p ha hb hc he hp
  obtain ⟨r1, r2, r3, r4⟩ := pk_p ha' hb' hc' he' hp'
  have ee : cntP (p ^^^ p') 4 = dif (pl a b c e) (pl a' b' c' e') 4 := by
    simp only [cntP, dif, pl, xor_nib]
    have t1 : (p / 2 ^ (4 * 0) % 16 = p' / 2 ^ (4 * 0) % 16) ↔ a = a' := by
      show (p / 1 % 16 = p' / 1 % 16) ↔ _
      rw [Nat.div_one, Nat.div_one]; omega
    have t2 : (p / 2 ^ (4 * (0 + 1)) % 16 = p' / 2 ^ (4 * (0 + 1)) % 16) ↔ b = b' := by
      show (p / 16 % 16 = p' / 16 % 16) ↔ _
      omega
    have t3 : (p / 2 ^ (4 * (0 + 1 + 1)) % 16 = p' / 2 ^ (4 * (0 + 1 + 1)) % 16) ↔ c = c' := by
      show (p / 256 % 16 = p' / 256 % 16) ↔ _
      omega
    have t4 : (p / 2 ^ (4 * (0 + 1 + 1 + 1)) % 16 = p' / 2 ^ (4 * (0 + 1 + 1 + 1)) % 16) ↔ e = e' := by
      show (p / 4096 % 16 = p' / 4096 % 16) ↔ _
      omega
    simp only [t1, t2, t3, t4]
  rw [ee]
  exact h
theorem P_quarrel {k : Int → Int → MM → Prop} {x : Int} (hx : rng x) (h : Rel m m) (hk : ∀ z m', Rel m' m' → k z z m') : PR G d mi_X7_quarrel mi_X8_quarrel [some (vr 0), some (vi x), none, none] [some (vr 304), some (vi x), none, none, none, none, none] m k := by
  obtain ⟨C, hC, h0, h3, hS, hw, ht, ht2⟩ := h.now
  have hkk : ∀ z, k z z m := fun z => hk z m h
  have w1 := hw.2.1
  obtain ⟨s0, s1, s3, s4, s6, s8, s7, s9, sr, sp⟩ := hS
  obtain ⟨n, hn⟩ : ∃ n : Nat, m 305 1 = (n : Int) := ⟨(m 305 1).toNat, by omega⟩
  have hf : ∀ e, e < 8 → m 17 e = m 305 (20 + 8 * e + 2) := fun e he => (sr.2 e he).1
  have hrg : ∀ e, e < 8 → rng (m 305 (20 + 8 * e + 2)) := fun e he => by have := hw.worn he; omega
  generalize hfd : (fun e => m 305 (20 + 8 * e + 2)) = f
  have ff : ∀ e, m 305 (20 + 8 * e + 2) = f e := fun e => by rw [← hfd]
  refine g_X7_quarrel_0 _ (c7_isCourtier (by omega) (fun q => eqF (by omega) ?_) (fun q => eqT (by omega) ?_))
  · -- the reference, told by its answer
    have ref : ∀ z : Int, ((wcnt f x n < 2 ∧ z = 0) ∨ (∃ i j, i < j ∧ j < n ∧ f i = x ∧ f j = x ∧ (∀ a, a < j → a ≠ i → f a ≠ x) ∧ 2 ≤ wcnt f x n ∧ z = dif (fun q => m 305 (20 + 8 * i + 4 + q)) (fun q => m 305 (20 + 8 * j + 4 + q)) 4)) → N G (d + 60) mi_X8_quarrel 0 [some (vr 304), some (vi x), none, none, none, none, none] [] m (RI fun z' m2 => k z z' m2) := by
      intro z hz
      have hlt := wset_lt f x n
      have h8 : 2 ^ n ≤ 2 ^ 8 := Nat.pow_le_pow_right (by omega) (by omega)
      have hpop : popN (wset f x n) 8 = wcnt f x n := by
        rw [pop_hi _ n hlt 8 (by omega), pop_wset _ _ _ _ (Nat.le_refl n)]
      refine g_X8_quarrel_0 _ (c_isOne (by omega) (fun _ => eqF (by omega) (c_wornBy n hx hn (by omega) hrg ?_)) (fun q2 => absurd q2 (by omega)))
      rw [hfd]
      refine c_bits (wset f x n) rfl (by omega) ?_
      rw [hpop]
      have hb : wcnt f x n ≤ 8 := by
        have := popN_le (wset f x n) 8
        omega
      rcases hz with ⟨hz1, hz2⟩ | ⟨i, j, hij, hjn, fi, fj, fo, h2, hz2⟩
      · refine leF (by omega) ?_
        rw [hz2]
        exact hkk 0
      · refine leT (by omega) ?_
        -- count the differing places
        have last : ∀ (r t : Nat) (x5 x6 : Int), t + r = 4 → x5 = dif (fun q => m 305 (20 + 8 * i + 4 + q)) (fun q => m 305 (20 + 8 * j + 4 + q)) t → x6 = (t : Int) → N G (d + 60) mi_X8_quarrel 68 [some (vr 304), none, none, some (vi (i : Int)), some (vi (j : Int)), some (vi x5), some (vi x6)] [] m (RI fun z' m2 => k z z' m2) := by
          intro r
          induction r with
          | zero =>
            intro t x5 x6 ht h5 h6
            have : t = 4 := by omega
            subst this
            refine g_X8_quarrel_68 _ _ _ _ (leT (by omega) ?_)
            rw [h5, hz2]
            exact hkk _
          | succ r ih =>
            intro t x5 x6 ht h5 h6
            refine g_X8_quarrel_68 _ _ _ _ (leF (by omega) (c_get (20 + 8 * i + 4 + t) (by omega) (by omega) (c_get (20 + 8 * j + 4 + t) (by omega) (by omega) ?_)))
            have k1 := hw.know (e := i) (by omega) (q := t) (by omega)
            have k2 := hw.know (e := j) (by omega) (q := t) (by omega)
            refine eqI (by omega) (fun z => ?_) (fun z => ?_)
            · exact ih (t + 1) _ _ (by omega) (by rw [h5, dif, if_pos z]) (by omega)
            · exact ih (t + 1) _ _ (by omega) (by rw [h5, dif, if_neg z]) (by omega)
        have second : ∀ (r a : Nat) (x4 : Int), a + r = j → i < a → x4 = (a : Int) → N G (d + 60) mi_X8_quarrel 47 [some (vr 304), none, some (vi ((wset f x n : Nat) : Int)), some (vi (i : Int)), some (vi x4), none, none] [] m (RI fun z' m2 => k z z' m2) := by
          intro r
          induction r with
          | zero =>
            intro a x4 ha hia h4
            have : a = j := by omega
            subst this
            have hb := wset_bit f x n a
            rw [if_pos ⟨hjn, fj⟩] at hb
            subst h4
            refine g_X8_quarrel_47 _ _ _ (c_has (wset f x n) a rfl rfl (by omega) (by omega) (fun _ => eqF (by omega) (last 4 0 _ _ rfl rfl rfl)) (fun q => absurd q (by omega)))
          | succ r ih =>
            intro a x4 ha hia h4
            have hb := wset_bit f x n a
            rw [if_neg (fun q => fo a (by omega) (by omega) q.2)] at hb
            subst h4
            refine g_X8_quarrel_47 _ _ _ (c_has (wset f x n) a rfl rfl (by omega) (by omega) (fun q => absurd q (by omega)) (fun _ => eqT (by omega) (ih (a + 1) _ (by omega) (by omega) (by omega))))
        have first : ∀ (r a : Nat) (x3 : Int), a + r = i → x3 = (a : Int) → N G (d + 60) mi_X8_quarrel 28 [some (vr 304), none, some (vi ((wset f x n : Nat) : Int)), some (vi x3), none, none, none] [] m (RI fun z' m2 => k z z' m2) := by
          intro r
          induction r with
          | zero =>
            intro a x3 ha h4
            have : a = i := by omega
            subst this
            have hb := wset_bit f x n a
            rw [if_pos ⟨by omega, fi⟩] at hb
            subst h4
            refine g_X8_quarrel_28 _ _ (c_has (wset f x n) a rfl rfl (by omega) (by omega) (fun _ => eqF (by omega) (second (j - (a + 1)) (a + 1) _ (by omega) (by omega) (by omega))) (fun q => absurd q (by omega)))
          | succ r ih =>
            intro a x3 ha h4
            have hb := wset_bit f x n a
            rw [if_neg (fun q => fo a (by omega) (by omega) q.2)] at hb
            subst h4
            refine g_X8_quarrel_28 _ _ (c_has (wset f x n) a rfl rfl (by omega) (by omega) (fun q => absurd q (by omega)) (fun _ => eqT (by omega) (ih (a + 1) _ (by omega) (by omega))))
        exact first i 0 _ (by omega) rfl
    -- the class
    have loop : ∀ (r a : Nat) (x2 x3 : Int), a + r = n → x3 = (a : Int) → ((x2 = -1 ∧ (∀ b, b < a → f b ≠ x)) ∨ (∃ i : Nat, x2 = (i : Int) ∧ i < a ∧ f i = x ∧ ∀ b, b < a → b ≠ i → f b ≠ x)) → N G (d + 60) mi_X7_quarrel 14 [some (vr 0), some (vi x), some (vi x2), some (vi x3)] [] m (RI fun z m1 => N G (d + 60) mi_X8_quarrel 0 [some (vr 304), some (vi x), none, none, none, none, none] [] m1 (RI fun z' m2 => k z z' m2)) := by
      intro r
      induction r with
      | zero =>
        intro a x2 x3 ha h3 hi
        have : a = n := by omega
        subst this
        refine g_X7_quarrel_14 _ _ _ (leT (by omega) (ref 0 (Or.inl ⟨?_, rfl⟩)))
        rcases two_first (f := f) (who := x) a with ⟨h1, -⟩ | ⟨h1, -⟩ | ⟨h1, i', j', g1, g2, g3, g4, g5⟩
        · omega
        · omega
        · exfalso
          rcases hi with ⟨-, hb⟩ | ⟨i, -, -, -, hb⟩
          · exact hb i' (by omega) g3
          · by_cases h : i' = i
            · exact hb j' g2 (by omega) g4
            · exact hb i' (by omega) h g3
      | succ r ih =>
        intro a x2 x3 ha h3 hi
        have ea : m 17 a = f a := (hf a (by omega)).trans (ff a)
        have ra : rng (f a) := by rw [← ff a]; exact hrg a (by omega)
        refine g_X7_quarrel_14 _ _ _ (leF (by omega) ⟨a, by omega, eqI (by rw [ea]; exact ⟨ra, hx⟩) (fun z => ?_) (fun z => ?_)⟩)
        · rw [ea] at z
          rcases hi with ⟨hx2, hb⟩ | ⟨i, hx2, hia, fi, hb⟩
          · refine eqT (by omega) (ih (a + 1) _ _ (by omega) (by omega) (Or.inr ⟨a, by omega, by omega, z, fun b hb1 hb2 => hb b (by omega)⟩))
          · refine eqF (by omega) ⟨i, by omega, a, by omega, ?_⟩
            refine c0_unlike (sr.2 i (by omega)).2.2 (sr.2 a (by omega)).2.2 (hw.know (e := i) (by omega) (q := 0) (by omega)) (hw.know (e := i) (by omega) (q := 1) (by omega)) (hw.know (e := i) (by omega) (q := 2) (by omega)) (hw.know (e := i) (by omega) (q := 3) (by omega)) (hw.know (e := a) (by omega) (q := 0) (by omega)) (hw.know (e := a) (by omega) (q := 1) (by omega)) (hw.know (e := a) (by omega) (q := 2) (by omega)) (hw.know (e := a) (by omega) (q := 3) (by omega)) ?_
            refine ref _ (Or.inr ⟨i, a, hia, by omega, fi, z, hb, ?_, ?_⟩)
            · rcases two_first (f := f) (who := x) n with ⟨-, g⟩ | ⟨-, i', g1, g2, g3⟩ | ⟨h1, -⟩
              · exact absurd fi (g i (by omega))
              · exfalso
                by_cases h : i = i'
                · exact g3 a (by omega) (by omega) z
                · exact g3 i (by omega) h fi
              · exact h1
            · simp only [dif, pl, nowW]
        · rw [ea] at z
          refine ih (a + 1) _ _ (by omega) (by omega) ?_
          rcases hi with ⟨hx2, hb⟩ | ⟨i, hx2, hia, fi, hb⟩
          · refine Or.inl ⟨hx2, fun b hb1 => ?_⟩
            by_cases h : b = a
            · rw [h]; exact z
            · exact hb b (by omega)
          · refine Or.inr ⟨i, hx2, by omega, fi, fun b hb1 hb2 => ?_⟩
            by_cases h : b = a
            · rw [h]; exact z
            · exact hb b (by omega) hb2
    exact loop n 0 _ _ (by omega) rfl (Or.inl ⟨rfl, fun b hb => absurd hb (by omega)⟩)
  · exact g_X8_quarrel_0 _ (c_isOne (by omega) (fun q2 => absurd q2 (by omega)) (fun _ => eqT (by omega) (hkk _)))
end Pub5
