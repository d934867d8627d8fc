/-! ===== text: the reference's next token, whole ===== -/
section Lex3
variable {G : GG} {d : Nat} {m : MM}
theorem RTk.sign {t rt w : Int} (h : 22 ≤ t ∧ t ≤ 36) (e : rt = rtc t) : RTk t rt w := Or.inr (Or.inr ⟨h, e⟩)
theorem c_nx352 {Q : MM → Prop} {m0 : MM} {b : Nat → Int} {L q : Nat} {x1 : Int} (ht : Tp b L m0) (hf : FrN m0 m) (hq : q < L) (h9 : m 304 9 = ((q + 1 : Nat) : Int)) (h10 : m 304 10 = (q : Int)) (e1 : x1 = b q) (h11 : m 304 11 = b q) (hc : b q = 60 ∨ b q = 62)
    (next : ∀ m', FrN m0 m' → m' 304 9 = (en b L q : Int) → m' 304 10 = (q : Int) → m' 304 11 = rtc (tkB b L q) → Q m') : N G (d + 2) mi_X8_nextToken 352 [some (vr 304), some (vi x1), none] [] m (RV Q) := by
  have htm := ht.fr hf
  have hbq := (ht.2.2 q hq).1
  have br := bA_rng htm (q + 1)
  have nl : ¬ isLt (b q) := by omega
  have nd : ¬ isDg (b q) := by omega
  have een : en b L q = if q + 1 < L ∧ b (q + 1) = 61 then q + 2 else q + 1 := by
    unfold en
    rw [if_neg nl, if_neg nd]
    by_cases z : q + 1 < L ∧ b (q + 1) = 61
    · rw [if_pos ⟨hc, z⟩, if_pos z]
    · rw [if_neg (fun w => z w.2), if_neg z]
  have etk : tkB b L q = if b q = 60 then (if en b L q = q + 2 then 23 else 22) else (if en b L q = q + 2 then 25 else 24) := by
    unfold tkB
    rw [if_neg nl, if_neg nd]
    by_cases z : b q = 60
    · rw [if_pos z, if_pos z]
    · rw [if_neg z, if_neg z, if_pos (by omega)]
  refine g_X8_nextToken_352 _ (c_byteAt htm (q + 1) h9 (by omega) (eqI (by omega) (fun z m3 q3 => ?_) (fun z => ?_)))
  · have z2 : q + 1 < L ∧ b (q + 1) = 61 := by
      unfold bA at z
      split at z
      · exact ⟨by assumption, z⟩
      · omega
    rw [if_pos z2] at een
    rw [een] at next etk
    rw [if_pos rfl, if_pos rfl] at etk
    refine eqI (by omega) (fun z3 m5 q5 => ?_) (fun z3 m5 q5 => ?_)
    · rw [if_pos (by omega)] at etk
      refine next m5 (by rw [q5, q3]; exact (hf.up (by omega)).up (by omega)) (by rw [q5, upm_j _ _ (by omega), q3, upm_at, h9]; omega) (by rw [q5, upm_j _ _ (by omega), q3, upm_j _ _ (by omega)]; exact h10) (by rw [q5, upm_at, etk]; rfl)
    · rw [if_neg (by omega)] at etk
      refine next m5 (by rw [q5, q3]; exact (hf.up (by omega)).up (by omega)) (by rw [q5, upm_j _ _ (by omega), q3, upm_at, h9]; omega) (by rw [q5, upm_j _ _ (by omega), q3, upm_j _ _ (by omega)]; exact h10) (by rw [q5, upm_at, etk]; rfl)
  · have z2 : ¬ (q + 1 < L ∧ b (q + 1) = 61) := by
      intro w
      unfold bA at z
      rw [if_pos w.1] at z
      exact z w.2
    rw [if_neg z2] at een
    rw [een] at next etk
    rw [if_neg (show ¬ q + 1 = q + 2 by omega), if_neg (show ¬ q + 1 = q + 2 by omega)] at etk
    refine next m hf h9 h10 ?_
    rw [h11, etk]
    rcases hc with hc | hc
    · rw [if_pos hc, hc]; rfl
    · rw [if_neg (by omega), hc]; rfl
theorem c_nextToken {Q : MM → Prop} {b : Nat → Int} {L i : Nat} (ht : Tp b L m) (h9 : m 304 9 = (ps b L i : Int)) (next : ∀ m', FrN m m' → RT b L m' i → Q m') : N G (d + 2) mi_X8_nextToken 0 [some (vr 304), none, none] [] m (RV Q) := by
  have hL := ht.2.1
  have hps := ps_le b L i
  have loop : ∀ (n p : Nat) (m1 : MM), p + n = L → FrN m m1 → m1 304 9 = (p : Int) → skp b n p = plI b L i → N G (d + 2) mi_X8_nextToken 0 [some (vr 304), none, none] [] m1 (RV Q) := by
    intro n
    induction n with
    | zero =>
      intro p m1 hp hf h9 hs
      have htm := ht.fr hf
      have eb : bA b L p = -1 := by unfold bA; rw [if_neg (by omega)]
      have epl : plI b L i = p := hs.symm
      have etk : tkI b L i = 36 := by unfold tkI; rw [if_neg (by omega)]
      have eps : ps b L (i + 1) = p := by rw [ps_s, if_neg (by omega)]; exact epl
      refine g_X8_nextToken_0 (c_byteAt htm p h9 (by omega) ?_)
      rw [eb]
      refine eqF (by omega) (c_byteAt htm p h9 (by omega) ?_)
      rw [eb]
      refine eqF (by omega) (fun m6 q6 => ?_)
      have f6 : FrN m m6 := by rw [q6]; exact hf.up (by omega)
      have h69 : m6 304 9 = (p : Int) := by rw [q6, upm_j _ _ (by omega)]; exact h9
      refine c_byteAt (ht.fr f6) p h69 (by omega) ?_
      rw [eb]
      refine leF (by omega) (fun m18 q18 => next m18 (by rw [q18]; exact f6.up (by omega)) ⟨?_, ?_, ?_, fun z => absurd z (by omega)⟩)
      · rw [q18, upm_j _ _ (by omega), h69, eps]
      · rw [q18, upm_j _ _ (by omega), q6, upm_at, h9, epl]
      · rw [etk]
        exact RTk.sign (by omega) (by rw [q18, upm_at]; rfl)
    | succ n ih =>
      intro p m1 hp hf h9 hs
      have htm := ht.fr hf
      have hbp := (ht.2.2 p (by omega)).1
      have eb : bA b L p = b p := by unfold bA; rw [if_pos (by omega)]
      refine g_X8_nextToken_0 (c_byteAt htm p h9 (by omega) ?_)
      rw [eb]
      refine eqI (by omega) (fun z m3 q3 => ?_) (fun z => c_byteAt htm p h9 (by omega) ?_)
      · exact ih (p + 1) m3 (by omega) (by rw [q3]; exact hf.up (by omega)) (by rw [q3, upm_at, h9]; omega) (by rw [← hs, skp, if_pos (Or.inl z)])
      rw [eb]
      refine eqI (by omega) (fun z2 m3 q3 => ?_) (fun z2 m6 q6 => ?_)
      · exact ih (p + 1) m3 (by omega) (by rw [q3]; exact hf.up (by omega)) (by rw [q3, upm_at, h9]; omega) (by rw [← hs, skp, if_pos (Or.inr z2)])
      have epl : plI b L i = p := by rw [← hs, skp, if_neg (by omega)]
      have etk : tkI b L i = tkB b L p := by unfold tkI; rw [epl, if_pos (by omega)]
      have enb : nbI b L i = nbB b L p := by unfold nbI; rw [epl]
      have eps : ps b L (i + 1) = en b L p := by rw [ps_s, epl, if_pos (by omega)]
      have f6 : FrN m m6 := by rw [q6]; exact hf.up (by omega)
      have h69 : m6 304 9 = (p : Int) := by rw [q6, upm_j _ _ (by omega)]; exact h9
      have h610 : m6 304 10 = (p : Int) := by rw [q6, upm_at]; exact h9
      refine c_byteAt (ht.fr f6) p h69 (by omega) ?_
      rw [eb]
      refine leT (by omega) (c8_isDigit (by omega) (fun z3 => eqF (by omega) (fun m16 q16 m17 q17 => ?_)) (fun z3 => eqT (by omega) (c8_isLetter (by omega) (fun z4 => eqF (by omega) (fun m14 q14 m15 q15 => ?_)) (fun z4 => eqT (by omega) (fun m13 q13 => ?_)))))
      · -- a number
        have een : en b L p = runD b (n + 1) p := by
          unfold en
          rw [if_neg (by omega), if_pos z3, runD, if_pos z3, show L - (p + 1) = n by omega]
        have et : tkB b L p = 35 := by unfold tkB; rw [if_neg (by omega), if_pos z3]
        refine c_nx85 (q := p) ht (n + 1) p m17 (by omega) (by omega) (fun j h1 h2 => absurd h2 (by omega)) (by rw [q17, q16]; exact (f6.up (by omega)).up (by omega)) (by rw [q17, upm_j _ _ (by omega), q16, upm_j _ _ (by omega)]; exact h69) (by rw [q17, upm_at, Nat.sub_self]; rfl) (fun m' f a b' c e => next m' f ⟨?_, ?_, ?_, fun _ => ?_⟩)
        · rw [a, eps, een]
        · rw [c, q17, upm_j _ _ (by omega), q16, upm_j _ _ (by omega), h610, epl]
        · rw [etk, et, e, q17, upm_j _ _ (by omega), q16, upm_at]
          exact RTk.sign (by omega) (by decide)
        · rw [enb, b']
          unfold nbB
          rw [if_pos z3, een]
          have rb := runD_bd b (n + 1) p
          exact nm_rel b p _ (fun j h1 h2 => runD_all b (n + 1) p j h1 (by omega))
      · -- a word
        have een : en b L p = runL b (n + 1) p := by
          unfold en
          rw [if_pos z4, runL, if_pos z4, show L - (p + 1) = n by omega]
        have et : tkB b L p = tw (wdv b p (en b L p)) := by unfold tkB; rw [if_pos z4]
        refine c_nx161 (q := p) ht (n + 1) p m15 (by omega) (by omega) (by rw [q15, q14]; exact (f6.up (by omega)).up (by omega)) (by rw [q15, upm_j _ _ (by omega), q14, upm_j _ _ (by omega)]; exact h69) (by rw [q15, upm_j _ _ (by omega), q14, upm_j _ _ (by omega)]; exact h610) (by rw [q15, upm_at, Nat.sub_self]; rfl) (fun m' f a b' c e => next m' f ⟨?_, ?_, ?_, fun z => ?_⟩)
        · rw [a, eps, een]
        · rw [b', epl]
        · rw [etk, et, c, e, q15, upm_j _ _ (by omega), q14, upm_at, een]
          refine Or.inl ⟨rfl, rfl, ?_⟩
          unfold wdv
          split
          · rename_i h7
            have rb := runL_bd b (n + 1) p
            have pb := pck_bd (b := b) (q := p) (runL b (n + 1) p - p) (fun j hj => (ht.2.2 (p + j) (by omega)).1)
            have p6 : 256 ^ (runL b (n + 1) p - p) ≤ 256 ^ 7 := Nat.pow_le_pow_right (by decide) h7
            have p7 : (256 ^ 7 : Nat) = 72057594037927936 := by decide
            omega
          · omega
        · rw [etk, et] at z
          have := tw_rng (wdv b p (en b L p))
          omega
      · -- a sign
        have f13 : FrN m m13 := by rw [q13]; exact f6.up (by omega)
        have h139 : m13 304 9 = ((p + 1 : Nat) : Int) := by rw [q13, upm_at, h69]; omega
        have h1310 : m13 304 10 = (p : Int) := by rw [q13, upm_j _ _ (by omega)]; exact h610
        have fin : ∀ m', FrN m m' → m' 304 9 = (en b L p : Int) → m' 304 10 = (p : Int) → (22 ≤ tkB b L p ∧ tkB b L p ≤ 34 ∧ m' 304 11 = rtc (tkB b L p) ∨ tkB b L p = 37 ∧ m' 304 11 = 3) → Q m' := by
          intro m' f a b' c
          refine next m' f ⟨by rw [a, eps], by rw [b', epl], ?_, fun z => ?_⟩
          · rw [etk]
            rcases c with c | c
            · exact RTk.sign (by omega) c.2.2
            · exact Or.inr (Or.inl c)
          · rw [etk] at z; omega
        have sgn : ∀ (s0 : Int), (s0 = 1 → 22 ≤ tkB b L p ∧ tkB b L p ≤ 34 ∧ (b p ≠ 60 → b p ≠ 62 → b p = rtc (tkB b L p))) → (s0 = 0 → tkB b L p = 37 ∧ b p ≠ 60 ∧ b p ≠ 62) → (s0 = 0 ∨ s0 = 1) → N G (d + 2) mi_X8_nextToken 326 [some (vr 304), some (vi (b p)), none] [vi s0] m13 (RV Q) := by
          intro s0 s1 s2 s3
          refine g_X8_nextToken_326 _ _ (eqI (by omega) (fun y => g_X8_nextToken_337 _ _ (fun m1 q1 => ?_)) (fun y => g_X8_nextToken_337 _ _ (fun m1 q1 => ?_)))
          · obtain ⟨u1, u2, u3⟩ := s2 y
            have een : en b L p = p + 1 := by unfold en; rw [if_neg z4, if_neg z3, if_neg (by omega)]
            exact eqF (by omega) (eqF (by omega) (fin m1 (by rw [q1]; exact f13.up (by omega)) (by rw [q1, upm_j _ _ (by omega), h139, een]) (by rw [q1, upm_j _ _ (by omega)]; exact h1310) (Or.inr ⟨u1, by rw [q1, upm_at]⟩)))
          · obtain ⟨u1, u2, u3⟩ := s1 (by omega)
            have f1 : FrN m m1 := by rw [q1]; exact f13.up (by omega)
            have a9 : m1 304 9 = ((p + 1 : Nat) : Int) := by rw [q1, upm_j _ _ (by omega)]; exact h139
            have a10 : m1 304 10 = (p : Int) := by rw [q1, upm_j _ _ (by omega)]; exact h1310
            have a11 : m1 304 11 = b p := by rw [q1, upm_at]
            refine eqI (by omega) (fun y2 => c_nx352 ht f1 (by omega) a9 a10 rfl a11 (by omega) (fun m' f a b' c => fin m' f a b' (Or.inl ⟨u1, u2, c⟩))) (fun y2 => eqI (by omega) (fun y3 => c_nx352 ht f1 (by omega) a9 a10 rfl a11 (by omega) (fun m' f a b' c => fin m' f a b' (Or.inl ⟨u1, u2, c⟩))) (fun y3 => ?_))
            have een : en b L p = p + 1 := by unfold en; rw [if_neg z4, if_neg z3, if_neg (by omega)]
            exact fin m1 f1 (by rw [a9, een]) a10 (Or.inl ⟨u1, u2, by rw [a11]; exact u3 y2 y3⟩)
        have tB : tkB b L p = if b p = 60 then (if en b L p = p + 2 then 23 else 22) else if b p = 62 then (if en b L p = p + 2 then 25 else 24) else if b p = 61 then 26 else if b p = 35 then 27 else if b p = 43 then 28 else if b p = 45 then 29 else if b p = 42 then 30 else if b p = 47 then 31 else if b p = 40 then 32 else if b p = 41 then 33 else if b p = 59 then 34 else 37 := by unfold tkB; rw [if_neg z4, if_neg z3]
        refine eqI (by omega) (fun y => sgn 1 (fun _ => ?_) (fun e => absurd e (by omega)) (by omega)) (fun y1 => ?_)
        · rw [if_pos y] at tB; rw [tB]; split <;> exact ⟨by omega, by omega, fun e => absurd y e⟩
        rw [if_neg y1] at tB
        refine eqI (by omega) (fun y => sgn 1 (fun _ => ?_) (fun e => absurd e (by omega)) (by omega)) (fun y2 => ?_)
        · rw [if_pos y] at tB; rw [tB]; split <;> exact ⟨by omega, by omega, fun _ e => absurd y e⟩
        rw [if_neg y2] at tB
        refine eqI (by omega) (fun y => sgn 1 (fun _ => ?_) (fun e => absurd e (by omega)) (by omega)) (fun y3 => ?_)
        · rw [if_pos y] at tB; rw [tB, y]; exact ⟨by omega, by omega, fun _ _ => by decide⟩
        rw [if_neg y3] at tB
        refine eqI (by omega) (fun y => sgn 1 (fun _ => ?_) (fun e => absurd e (by omega)) (by omega)) (fun y4 => ?_)
        · rw [if_pos y] at tB; rw [tB, y]; exact ⟨by omega, by omega, fun _ _ => by decide⟩
        rw [if_neg y4] at tB
        refine eqI (by omega) (fun y => sgn 1 (fun _ => ?_) (fun e => absurd e (by omega)) (by omega)) (fun y5 => ?_)
        · rw [if_pos y] at tB; rw [tB, y]; exact ⟨by omega, by omega, fun _ _ => by decide⟩
        rw [if_neg y5] at tB
        refine eqI (by omega) (fun y => sgn 1 (fun _ => ?_) (fun e => absurd e (by omega)) (by omega)) (fun y6 => ?_)
        · rw [if_pos y] at tB; rw [tB, y]; exact ⟨by omega, by omega, fun _ _ => by decide⟩
        rw [if_neg y6] at tB
        refine eqI (by omega) (fun y => sgn 1 (fun _ => ?_) (fun e => absurd e (by omega)) (by omega)) (fun y7 => ?_)
        · rw [if_pos y] at tB; rw [tB, y]; exact ⟨by omega, by omega, fun _ _ => by decide⟩
        rw [if_neg y7] at tB
        refine eqI (by omega) (fun y => sgn 1 (fun _ => ?_) (fun e => absurd e (by omega)) (by omega)) (fun y8 => ?_)
        · rw [if_pos y] at tB; rw [tB, y]; exact ⟨by omega, by omega, fun _ _ => by decide⟩
        rw [if_neg y8] at tB
        refine eqI (by omega) (fun y => sgn 1 (fun _ => ?_) (fun e => absurd e (by omega)) (by omega)) (fun y9 => ?_)
        · rw [if_pos y] at tB; rw [tB, y]; exact ⟨by omega, by omega, fun _ _ => by decide⟩
        rw [if_neg y9] at tB
        refine eqI (by omega) (fun y => sgn 1 (fun _ => ?_) (fun e => absurd e (by omega)) (by omega)) (fun y10 => ?_)
        · rw [if_pos y] at tB; rw [tB, y]; exact ⟨by omega, by omega, fun _ _ => by decide⟩
        rw [if_neg y10] at tB
        refine eqI (by omega) (fun y => sgn 1 (fun _ => ?_) (fun e => absurd e (by omega)) (by omega)) (fun y11 => sgn 0 (fun e => absurd e (by omega)) (fun _ => ?_) (by omega))
        · rw [if_pos y] at tB; rw [tB, y]; exact ⟨by omega, by omega, fun _ _ => by decide⟩
        · rw [if_neg y11] at tB; exact ⟨tB, y1, y2⟩
  exact loop (L - ps b L i) (ps b L i) m (by omega) (FrN.rf m) h9 rfl
end Lex3
