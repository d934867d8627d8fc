/-! ===== verdict ===== -/
theorem two_bits : ∀ x, x < 16 → 2 ≤ popN x 8 → ∃ i, i < 4 ∧ ∃ j, j < i ∧ x / 2 ^ i % 2 = 1 ∧ x / 2 ^ j % 2 = 1 := by decide +kernel
theorem few_bits : ∀ x, x < 16 → ∀ i, i < 4 → ∀ j, j < i → x / 2 ^ i % 2 = 1 → x / 2 ^ j % 2 = 1 → 2 ≤ popN x 8 := by decide +kernel
theorem bit_lt {x T i : Nat} (hx : x < 2 ^ T) (hb : x / 2 ^ i % 2 = 1) : i < T := by
  by_cases h : i < T
  · exact h
  · have h1 : 2 ^ T ≤ 2 ^ i := Nat.pow_le_pow_right (by decide) (by omega)
    have h2 : x / 2 ^ i = 0 := Nat.div_eq_of_lt (by omega)
    omega
theorem empty_not {U : Nat → Nat → Nat → Int} {x T n : Nat} (hx : x < 2 ^ T) (hT : T ≤ 4) (h2 : 2 ≤ popN x 8) : ¬ apP U x T n 0 := by
  intro h
  have h16 : 2 ^ T ≤ 2 ^ 4 := Nat.pow_le_pow_right (by decide) hT
  obtain ⟨i, hi, j, hj, b1, b2⟩ := two_bits x (by omega) h2
  obtain ⟨e, e1, e2, -⟩ := h i j hj (bit_lt hx b1) b1 b2
  rw [Nat.zero_div] at e2
  omega
theorem prc_0 (P : Nat → Int) (n : Nat) : prc P 0 n = 0 := by
  induction n with
  | zero => rfl
  | succ n ih => rw [prc, ih, Nat.zero_div]; rfl
theorem few_best {U : Nat → Nat → Nat → Int} {P : Nat → Int} {x T n : Nat} (hx : x < 16) (hT : T ≤ 4) (h2 : popN x 8 < 2) (hP : ∀ e, e < n → 0 ≤ P e ∧ P e ≤ 99) : Bst (apP U x T n) P n 0 (2 ^ n) 0 := by
  refine ⟨Nat.le_refl 0, Nat.pow_pos (by decide), fun i j h1 h3 b1 b2 => ?_, fun s _ _ _ => ⟨?_, fun _ => Nat.zero_le _⟩⟩
  · have := few_bits x hx i (by omega) j h1 b1 b2
    omega
  · have p := prc_bd (s := s) n hP
    unfold le3
    rw [prc_0, show popN 0 8 = 0 by decide]
    omega
theorem Bst.ext {Q : Nat → Prop} {P : Nat → Int} {n hi z : Nat} (h : Bst Q P n 1 hi z) (h0 : ¬ Q 0) : Bst Q P n 0 hi z := by
  refine ⟨Nat.zero_le _, h.2.1, h.2.2.1, fun s h1 h2 h3 => ?_⟩
  by_cases e : s = 0
  · subst e; exact absurd h3 h0
  · exact h.2.2.2 s (by omega) h2 h3
section Verdict
variable {G : GG} {d : Nat} {m : MM}
theorem P_verdict {k : Int → Int → MM → Prop} {x1 : Int} (hx1 : rng x1) (h : Rel m m) (hk : ∀ z m', Rel m' m' → k z z m') : PR G d mi_X7_verdict mi_X8_verdict [some (vr 0), some (vi x1), none, none, none] [some (vr 304), some (vi x1), none, none, none, none, none] m k := by
  have hR := h
  have hask := h.asks
  obtain ⟨C, hC, h2, h3', h4, h5, hw, h7, h8, h9, -⟩ := hR
  have w0 := hw.1
  have w1 := hw.2.1
  have w3 := hw.2.2.1
  have hv := hw.2.2.2.2.2.2.2.2.2.1
  obtain ⟨s0, s1, s3, s4, s6, s8, s7, sc', scr, sp⟩ := h4
  obtain ⟨n, hn1⟩ : ∃ n : Nat, m 305 1 = (n : Int) := ⟨(m 305 1).toNat, by omega⟩
  obtain ⟨T, hT⟩ : ∃ T : Nat, m 305 3 = (T : Int) := ⟨(m 305 3).toNat, by omega⟩
  have hkk : ∀ z, k z z m := fun z => hk z m h
  have h16 : 2 ^ T ≤ 16 := by
    have : 2 ^ T ≤ 2 ^ 4 := Nat.pow_le_pow_right (by decide) (by omega)
    omega
  have h256 : 2 ^ n ≤ 256 := by
    have : 2 ^ n ≤ 2 ^ 8 := Nat.pow_le_pow_right (by decide) (by omega)
    omega
  have hpos : 0 < 2 ^ n := Nat.pow_pos (by decide)
  have hpT : 0 < 2 ^ T := Nat.pow_pos (by decide)
  generalize hSS : m 305 = S at *
  generalize hXX : m 308 = X at *
  have e5 : m 12 5 = (T : Int) := by rw [← hT]; exact s3
  have e2 : m 12 2 = (n : Int) := by rw [← hn1]; exact s1
  have hP9 : ∀ e, e < n → 0 ≤ prP S X e ∧ prP S X e ≤ 99 := fun e _ => prP_bd S X e
  have hth : ∀ t e q, e < 8 → q < 4 → th (tdU S X C t e q) := by
    intro t e q he hq
    have okv := tl_ok (S := S) (X := X) (t := t) hC.1 w0 w1 (X (680 * t)).toNat 0 _ _ hv
    have ie := okv.2.2.1 e he
    unfold eyeOK at ie
    have : q = 0 ∨ q = 1 ∨ q = 2 ∨ q = 3 := by omega
    rcases this with rfl | rfl | rfl | rfl
    · exact ie.2.2.2.2.1
    · exact ie.2.2.2.2.2.1
    · exact ie.2.2.2.2.2.2.1
    · exact ie.2.2.2.2.2.2.2
  by_cases hin : 0 ≤ x1 ∧ x1 < ((2 ^ T : Nat) : Int)
  · obtain ⟨x, hxx⟩ : ∃ x : Nat, x1 = (x : Int) := ⟨x1.toNat, by omega⟩
    have hx : x < 2 ^ T := by omega
    -- the reference behind the class
    have ref : ∀ (z : Int) (m1 : MM), (∀ c, c < 272 ∨ 284 ≤ c → m1 c = m c) → ((z = -1 ∧ ∀ s, s < 2 ^ n → ¬ apP (tdU S X C) x T n s) ∨ (∃ b : Nat, z = (b : Int) ∧ Bst (apP (tdU S X C) x T n) (prP S X) n 0 (2 ^ n) b)) → N G (d + 60) mi_X8_verdict 0 [some (vr 304), some (vi x1), none, none, none, none, none] [] m1 (RI fun z' m2 => k z z' m2) := by
      intro z m1 f1 hz
      have g5 : m1 305 = S := (f1 305 (by omega)).trans hSS
      have g8 : m1 308 = X := (f1 308 (by omega)).trans hXX
      have g4 := f1 304 (by omega)
      refine c_verdict (S := S) (X := X) (C := C) (fun j _ => by rw [g5]) hw g8 (fun t ht => (h9 t ht).2) (by rw [g4]; exact h3') hC x n T hxx hT hn1 hx (fun no m2 f2 eq => ?_) (fun b hb m2 f2 eq => ?_)
      · have hrel := h.work f1 f2.frR (fun j hj => by rw [eq j hj, hSS])
        rcases hz with ⟨a1, a2⟩ | ⟨b, a1, a2⟩
        · rw [a1]; exact hk _ _ hrel
        · exact absurd a2.2.2.1 (no b a2.2.1)
      · have hrel := h.work f1 f2.frR (fun j hj => by rw [eq j hj, hSS])
        rcases hz with ⟨a1, a2⟩ | ⟨b', a1, a2⟩
        · exact absurd hb.2.2.1 (a2 b hb.2.1)
        · rw [a1, a2.uq hb]; exact hk _ _ hrel
    refine g_X7_verdict_0 _ (ltF (by omega) ?_)
    rw [e5, ishl_1 (by omega)]
    refine ltT (by omega) (c_bitCount x hxx (by omega) ?_)
    have qp := popN_le x 8
    refine leI (by omega) (fun q => ?_) (fun q => ref 0 m (fun _ _ => rfl) (Or.inr ⟨0, rfl, few_best (by omega) (by omega) (by omega) hP9⟩))
    refine c7_tellAll (S := S) (X := X) (C := C) hw hC hask h2 s0 s1 scr x T hxx (by omega) hT (fun m1 f1 u1 => ?_)
    have g12 : m1 12 = m 12 := f1 12 (by omega)
    have hU1 : ∀ t, t < T → x / 2 ^ t % 2 = 1 → ∀ e, e < 8 → m1 282 (8 * t + e) = pk (tdU S X C t e 0) (tdU S X C t e 1) (tdU S X C t e 2) (tdU S X C t e 3) ∧ ∀ q, q < 4 → th (tdU S X C t e q) := fun t ht hb e he => ⟨u1 t ht hb e he, fun q hq => hth t e q he hq⟩
    rw [g12, e2, ishl_1 (by omega)]
    have ea : ((2 ^ n : Nat) : Int) - 1 = ((2 ^ n - 1 : Nat) : Int) := by omega
    rw [ea]
    refine c7_tellsApart (U := tdU S X C) x (2 ^ n - 1) n T rfl (by omega) hxx (by omega) (by rw [g12]; exact e2) (by omega) (by rw [g12]; exact e5) (by omega) hU1 (fun ap => eqF (by omega) ?_) (fun ap => eqT (by omega) (ref (-1) m1 f1 (Or.inl ⟨rfl, fun s _ hq => ap (apP_all (by omega) hq)⟩)))
    have n0 := empty_not (U := tdU S X C) (n := n) hx (by omega) (by omega)
    -- the prices
    have price : ∀ (r e : Nat) (x3 : Int) (m2 : MM), e + r = n → x3 = (e : Int) → (∀ c, c < 272 ∨ 284 ≤ c → m2 c = m c) → m2 282 = m1 282 → (∀ e', e' < e → m2 283 e' = prP S X e') → N G (d + 60) mi_X7_verdict 59 [some (vr 0), some (vi x1), some (vi ((2 ^ n - 1 : Nat) : Int)), some (vi x3), none] [] m2 (RI fun z m1 => N G (d + 60) mi_X8_verdict 0 [some (vr 304), some (vi x1), none, none, none, none, none] [] m1 (RI fun z' m2 => k z z' m2)) := by
      intro r
      induction r with
      | zero =>
        intro e x3 m2 he h3 f2 e282 hp
        have en : e = n := by omega
        subst en
        have g122 : m2 12 = m 12 := f2 12 (by omega)
        refine g_X7_verdict_59 _ _ _ ?_
        rw [g122, e2]
        refine leT (by omega) ?_
        have last : Bst (apP (tdU S X C) x T e) (prP S X) e (2 ^ e - 1) (2 ^ e) (2 ^ e - 1) := ⟨Nat.le_refl _, by omega, ap, fun s h1 h2 h3 => by
          have es : s = 2 ^ e - 1 := by omega
          rw [es]
          exact ⟨Or.inr ⟨rfl, Nat.le_refl _⟩, fun _ => Nat.le_refl _⟩⟩
        have hne : 2 ^ e - 1 ≠ 0 := fun z => n0 (by rw [← z]; exact ap)
        refine c7_verdict_94 (U := tdU S X C) (P := prP S X) x e T hxx (by omega) (by rw [g122]; exact e2) (by omega) (by rw [g122]; exact e5) (by omega) (by rw [e282]; exact hU1) (fun e' he' => hp e' he') hP9 (fun z hz => ref _ m2 f2 (Or.inr ⟨z, rfl, hz.ext n0⟩)) (2 ^ e - 1 - 1) (2 ^ e - 1) _ _ rfl (by omega) (by rw [show 2 ^ e - 1 - 1 + 1 = 2 ^ e - 1 by omega]; exact last)
      | succ r ih =>
        intro e x3 m2 he h3 f2 e282 hp
        have g122 : m2 12 = m 12 := f2 12 (by omega)
        have ie := hv.2.2.1 e (by omega)
        unfold eyeOK at ie
        have hh := hv.1
        have hh2 := hv.2.1
        have cr2 : Crt m2 16 (S 2) (nowW S) := Crt.kept scr (f2 _ (by omega)) (f2 _ (by omega)) (f2 _ (by omega)) (f2 _ (by omega))
        refine g_X7_verdict_59 _ _ _ ?_
        rw [g122, e2]
        refine leF (by omega) (c7_rubsOf hw (hask.fr (fun c hc => f2 c (by omega)) (by omega)) cr2 e h3 (by omega) ie.2.2.2.2 (by omega) (by omega) (fun m3 f3 => ⟨e, by omega, fun m4 q4 => ?_⟩))
        refine ih (e + 1) _ m4 (by omega) (by omega) (fun c hc => ?_) ?_ (fun e' he' => ?_)
        · rw [q4, upm_c (by omega), f3 c (by omega) (by omega), f2 c hc]
        · rw [q4, upm_c (by omega), f3 282 (by omega) (by omega), e282]
        · rw [q4]
          by_cases ee : e' = e
          · subst ee
            simp [upm]
            rfl
          · have : upm m3 283 e (rubF X (S 4) (nmv S e (S 2) (nowW S e 1) (cmy (nowW S) e) 0 0)) 283 e' = m3 283 e' := by simp [upm, ee]
            rw [this, f3 283 (by omega) (by omega)]
            exact hp e' (by omega)
    exact price n 0 0 m1 (by omega) rfl f1 rfl (fun e' he' => absurd he' (by omega))
  · have ref : N G (d + 60) mi_X8_verdict 0 [some (vr 304), some (vi x1), none, none, none, none, none] [] m (RI fun z' m2 => k (-1) z' m2) := by
      refine g_X8_verdict_0 _ ?_
      rw [hSS, hT, ishl_1 (by omega)]
      exact c_isIn (by omega) (fun z => absurd z (by omega)) (fun z => eqT (by omega) (hkk _))
    refine g_X7_verdict_0 _ (ltI (by omega) (fun _ => ref) (fun q => ?_))
    rw [e5, ishl_1 (by omega)]
    exact ltF (by omega) ref
end Verdict
