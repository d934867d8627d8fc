/-! ===== text: the reference reads sums, by what both read ===== -/
def opsW (wt : Int) : List Int := if wt = -1 then [] else [wt - 25]
theorem flu_ops (wt : Int) : flu wt = wts (opsW wt) := by unfold flu opsW; split <;> rfl
theorem wts_len (pd : List Int) : (wts pd).length = pd.length := by unfold wts; simp
theorem wts_app (a c : List Int) : wts (a ++ c) = wts a ++ wts c := by unfold wts; simp
theorem app_rep0 (c : Cde) : c ++ List.replicate 0 ((2, 0) : Int × Int) = c := by rw [List.replicate_zero, List.append_nil]
theorem ES.place {mB m : MM} {b : Nat → Int} {L i w o : Nat} {X : Nat → Int} {l : List Int} (h : ES mB b L m i w X o l) : m 304 10 = (plI b L i : Int) := h.2.1.2.1
/-- a one: piled minuses are written behind it -/
def R1 (G : GG) (D : Nat) (mB : MM) (b : Nat → Int) (L E t0 : Nat) (k : Int → MM → Prop) (o : Nat) (one : Nat → Outc) : Prop := ∀ (i w j : Nat) (X : Nat → Int) (l0 : List Int) (m : MM), i ≤ E → w + j ≤ i → j ≤ o → topN 2 l0 → LOK l0 → j + l0.length ≤ 3 * o + 2 → ES mB b L m i w X o (List.replicate j 2 ++ l0) → m 304 21 = 0 →
  (∀ ft jx, one i = .inl (ft, jx) → ∀ m', FrZ mB m' → m' 304 10 = (plI b L jx : Int) → k ft m') →
  (∀ i' c, one i = .inr (i', c) → ∀ m', ES mB b L m' i' (w + (c.length + j)) (wrX t0 X w (c ++ List.replicate j (2, 0))) (o - j) l0 → m' 304 21 = 1 → N G D mi_X8_summed 10 [some (vr 304), none] [] m' (RI k)) →
  N G D mi_X8_summed 10 [some (vr 304), none] [] m (RI k)
/-- behind a sum, signs may wait yet -/
def SOk (G : GG) (D : Nat) (mB : MM) (b : Nat → Int) (L t0 : Nat) (k : Int → MM → Prop) (o w : Nat) (X : Nat → Int) (l1 : List Int) (i' : Nat) (c' : Cde) : Prop := ∀ (m' : MM) (cr : Cde) (pd : List Int), c' = cr ++ wts pd → (∀ p ∈ pd, 3 ≤ p ∧ p < 40) → pd.length ≤ 2 → ES mB b L m' i' (w + cr.length) (wrX t0 X w cr) o (pd ++ l1) → m' 304 21 = 1 → ¬ (28 ≤ tkI b L i' ∧ tkI b L i' ≤ 31) → N G D mi_X8_summed 10 [some (vr 304), none] [] m' (RI k)
section RRead3
variable {G : GG} {d : Nat} {m mB : MM} {b : Nat → Int} {L E t0 i w o : Nat} {X : Nat → Int} {l : List Int} {ln : Int}
/-- a sign of reckoning behind a one -/
theorem e_behindOp {k : Int → MM → Prop} {pd l0 : List Int} (rb : RB mB b L t0) (hop : 28 ≤ tkI b L i ∧ tkI b L i ≤ 31) (h : ES mB b L m i w X o (pd ++ l0)) (hp : ∀ p ∈ pd, (if tkI b L i ≤ 29 then 3 else 5) ≤ p ∧ p < 40) (h0 : topS (if tkI b L i ≤ 29 then 3 else 5) l0) (hw : w + pd.length ≤ 301) (hl : pd.length + l0.length < 160) (next : ∀ m', ES mB b L m' (i + 1) (w + pd.length) (wrX t0 X w (wts pd)) o ((tkI b L i - 25) :: l0) → m' 304 21 = 0 → k 0 m') : N G (d + 3) mi_X8_behindOne 0 [some (vr 304), none] [] m (RI k) := by
  have rt := h.2.1.2.2.1
  have r := rt.rng
  have i28 := rt.is (t0 := 28) (by omega)
  have i29 := rt.is (t0 := 29) (by omega)
  have i30 := rt.is (t0 := 30) (by omega)
  have i31 := rt.is (t0 := 31) (by omega)
  rw [show rtc 28 = 43 by decide] at i28
  rw [show rtc 29 = 45 by decide] at i29
  rw [show rtc 30 = 42 by decide] at i30
  rw [show rtc 31 = 47 by decide] at i31
  have p34 : ∀ (s0 : Int) (m2 : MM), s0 = tkI b L i - 25 → ES mB b L m2 i (w + pd.length) (wrX t0 X w (wts pd)) o l0 → N G (d + 3) mi_X8_behindOne 34 [some (vr 304), none] [vi s0, vr 304] m2 (RI k) := by
    intro s0 m2 hs h2
    refine g_X8_behindOne_34 _ (e_push h2 (by omega) (fun m3 h3 e3 m4 q4 => g_X8_behindOne_115 ?_))
    have h4 := h3.whole q4
    refine e_next rb h4.1 (fun m5 h5 e5 => next m5 ?_ (by rw [e5]; exact h4.2))
    rw [hs] at h5; exact h5
  have p75 : ∀ (s0 : Int) (m2 : MM), s0 = tkI b L i - 25 → ES mB b L m2 i (w + pd.length) (wrX t0 X w (wts pd)) o l0 → N G (d + 3) mi_X8_behindOne 75 [some (vr 304), none] [vi s0, vr 304] m2 (RI k) := by
    intro s0 m2 hs h2
    refine g_X8_behindOne_75 _ (e_push h2 (by omega) (fun m3 h3 e3 m4 q4 => g_X8_behindOne_115 ?_))
    have h4 := h3.whole q4
    refine e_next rb h4.1 (fun m5 h5 e5 => next m5 ?_ (by rw [e5]; exact h4.2))
    rw [hs] at h5; exact h5
  by_cases hs : tkI b L i ≤ 29
  · rw [if_pos hs] at hp h0
    have p17 : N G (d + 3) mi_X8_behindOne 17 [some (vr 304), some (vi (m 304 11))] [] m (RI k) := by
      refine g_X8_behindOne_17 _ (e_settle (by omega) rb h0 pd w X m hp h hw (by omega) (fun m2 h2 e2 => ?_))
      exact eqI (by omega) (fun z => p34 3 m2 (by omega) h2) (fun z => p34 4 m2 (by omega) h2)
    exact g_X8_behindOne_0 (eqI (by omega) (fun _ => p17) (fun z => eqT (by omega) p17))
  · rw [if_neg hs] at hp h0
    have p57 : N G (d + 3) mi_X8_behindOne 57 [some (vr 304), some (vi (m 304 11))] [] m (RI k) := by
      refine g_X8_behindOne_57 _ (e_settle (by omega) rb h0 pd w X m hp h hw (by omega) (fun m2 h2 e2 => ?_))
      exact eqI (by omega) (fun z => p75 5 m2 (by omega) h2) (fun z => p75 6 m2 (by omega) h2)
    exact g_X8_behindOne_0 (eqF (by omega) (eqF (by omega) (eqI (by omega) (fun _ => p57) (fun z => eqT (by omega) p57))))
theorem e_behindClose {k : Int → MM → Prop} {pd l0 : List Int} (rb : RB mB b L t0) (j : Nat) (hop : tkI b L i = 33) (h : ES mB b L m i w X o (pd ++ 40 :: (List.replicate j 2 ++ l0))) (hp : ∀ p ∈ pd, 3 ≤ p ∧ p < 40) (h0 : topN 2 l0) (ho : j + 1 ≤ o) (hw : w + pd.length + j ≤ 301) (hl : pd.length + (j + l0.length) + 1 < 160) (next : ∀ m', ES mB b L m' (i + 1) (w + pd.length + j) (wrX t0 X w (wts pd ++ List.replicate j (2, 0))) (o - 1 - j) l0 → m' 304 21 = 1 → k 0 m') : N G (d + 3) mi_X8_behindOne 0 [some (vr 304), none] [] m (RI k) := by
  have rt := h.2.1.2.2.1
  have r := rt.rng
  have i28 := rt.is (t0 := 28) (by omega)
  have i29 := rt.is (t0 := 29) (by omega)
  have i30 := rt.is (t0 := 30) (by omega)
  have i31 := rt.is (t0 := 31) (by omega)
  rw [show rtc 28 = 43 by decide] at i28
  rw [show rtc 29 = 45 by decide] at i29
  rw [show rtc 30 = 42 by decide] at i30
  rw [show rtc 31 = 47 by decide] at i31
  have len : (40 :: (List.replicate j (2 : Int) ++ l0)).length = j + l0.length + 1 := by simp
  refine g_X8_behindOne_0 (eqF (by omega) (eqF (by omega) (eqF (by omega) (eqF (by omega) (e_settle (by omega) rb (l0 := 40 :: (List.replicate j 2 ++ l0)) ⟨Or.inl (by omega), by omega, by omega⟩ pd w X m hp h (by omega) (by omega) (fun m2 h2 e2 m3 q3 m4 q4 => ?_))))))
  have h3 := h2.pop q3
  have e20 : m3 304 20 = (o : Int) := h3.1.2.2.2.2.1
  have h4 := h3.1.opens (o' := o - 1) q4 (by rw [e20]; omega)
  refine e_whole rb h0 j h4.1 (by omega) (by omega) (by omega) (fun m6 h6 e6 => g_X8_behindOne_115 (e_next rb h6 (fun m7 h7 e7 => next m7 ?_ (by rw [e7]; exact e6))))
  rw [wrX_app, wts_len]
  exact h7
theorem e_tl {k : Int → MM → Prop} {one : Nat → Outc} {r : Nat} (rb : RB mB b L t0) (hE : tkI b L E = 36) (hE3 : E ≤ 300) (ho8 : o ≤ 8) (h1 : ∀ i, i ≤ E → Gd E i (VS (2 * r + 1) ln) (one i)) (hr : R1 G (d + 4) mB b L E t0 k o one) {l1 : List Int} (hl1 : l1 = [] ∨ ∃ l', l1 = 40 :: l') (hlo : LOK l1) (hlen : l1.length ≤ 3 * o) :
    ∀ (n i : Nat) (wt : Int) (c cr : Cde) (mul : List Int) (m : MM), i ≤ E → 300 ≤ n + i → (wt = -1 ∨ (28 ≤ wt ∧ wt ≤ 29)) → (mul = [] ∨ ∃ x, mul = [x] ∧ (x = 5 ∨ x = 6)) → c = cr ++ wts mul → w + c.length + (flu wt).length ≤ i → ES mB b L m i (w + cr.length) (wrX t0 X w cr) o (mul ++ (opsW wt ++ l1)) → m 304 21 = 1 →
    (∀ ft jx, pTl one (tkI b L) n i wt c = .inl (ft, jx) → ∀ m', FrZ mB m' → m' 304 10 = (plI b L jx : Int) → k ft m') →
    (∀ i' c', pTl one (tkI b L) n i wt c = .inr (i', c') → SOk G (d + 4) mB b L t0 k o w X l1 i' c') →
    N G (d + 4) mi_X8_summed 10 [some (vr 304), none] [] m (RI k) := by
  have top2 : ∀ (x : Int) (l' : List Int), 3 ≤ x → x ≤ 40 → topN 2 (x :: l') := fun x l' h1 h2 => ⟨by omega, by omega, h2⟩
  have mulF : ∀ {mul : List Int}, (mul = [] ∨ ∃ x, mul = [x] ∧ (x = 5 ∨ x = 6)) → (∀ p ∈ mul, 5 ≤ p ∧ p < 40) ∧ mul.length ≤ 1 := by
    rintro mul (rfl | ⟨x, rfl, hx⟩)
    · exact ⟨fun p hp => (by cases hp), by simp⟩
    · refine ⟨fun p hp => ?_, by simp⟩
      rw [List.mem_singleton] at hp
      omega
  have opsF : ∀ {wt : Int}, (wt = -1 ∨ (28 ≤ wt ∧ wt ≤ 29)) → (∀ p ∈ opsW wt, 3 ≤ p ∧ p < 5) ∧ (opsW wt).length ≤ 1 ∧ (opsW wt).length = (flu wt).length := by
    intro wt hw
    rw [flu_ops, wts_len]
    refine ⟨fun p hp => ?_, ?_, rfl⟩
    · unfold opsW at hp
      split at hp
      · cases hp
      · rw [List.mem_singleton] at hp; omega
    · unfold opsW; split <;> simp
  intro n
  -- the end
  have fin : ∀ (i : Nat) (wt : Int) (c cr : Cde) (mul : List Int) (m : MM), (wt = -1 ∨ (28 ≤ wt ∧ wt ≤ 29)) → (mul = [] ∨ ∃ x, mul = [x] ∧ (x = 5 ∨ x = 6)) → c = cr ++ wts mul → ES mB b L m i (w + cr.length) (wrX t0 X w cr) o (mul ++ (opsW wt ++ l1)) → m 304 21 = 1 → ¬ (28 ≤ tkI b L i ∧ tkI b L i ≤ 31) → SOk G (d + 4) mB b L t0 k o w X l1 i (c ++ flu wt) → N G (d + 4) mi_X8_summed 10 [some (vr 304), none] [] m (RI k) := by
    intro i wt c cr mul m hw hm hc h h21 hno ok
    have f1 := mulF hm
    have f2 := opsF hw
    refine ok m cr (mul ++ opsW wt) (by rw [hc, flu_ops, wts_app, List.append_assoc]) (fun p hp => ?_) (by rw [List.length_append]; omega) (by rw [List.append_assoc]; exact h) h21 hno
    rcases List.mem_append.mp hp with q | q
    · have := f1.1 p q; omega
    · have := f2.1 p q; omega
  induction n with
  | zero =>
    intro i wt c cr mul m hi hn hw hm hc hl h h21 hbad hok
    have iE : i = E := by omega
    exact fin i wt c cr mul m hw hm hc h h21 (by rw [iE, hE]; omega) (hok _ _ rfl)
  | succ n ih =>
    intro i wt c cr mul m hi hn hw hm hc hl h h21 hbad hok
    rw [pTl] at hbad hok
    by_cases hop : 28 ≤ tkI b L i ∧ tkI b L i ≤ 31
    · rw [if_pos hop] at hbad hok
      have hiE : i < E := by
        by_cases e : i = E
        · rw [e, hE] at hop; omega
        · omega
      have g := h1 (i + 1) (by omega)
      have f1 := mulF hm
      have f2 := opsF hw
      have lenA : (mul ++ (opsW wt ++ l1)).length = mul.length + ((opsW wt).length + l1.length) := by simp [List.length_append]
      have clen : c.length = cr.length + mul.length := by rw [hc, List.length_append, wts_len]
      have lokA : LOK (mul ++ (opsW wt ++ l1)) := fun x hx => by
        rcases List.mem_append.mp hx with q | q
        · have := f1.1 x q; omega
        · rcases List.mem_append.mp q with q | q
          · have := f2.1 x q; omega
          · exact hlo x q
      refine g_X8_summed_10 (eqF (by omega) (e_goesOn h lokA (by omega) (fun _ => eqF (by omega) (g_X8_summed_24 (eqF (by omega) ?_))) (fun z => absurd (Or.inl hop) z)))
      by_cases hs : tkI b L i ≤ 29
      · -- plus or minus: all that waits is written
        rw [← List.append_assoc] at h
        have hpd : (mul ++ opsW wt).length = mul.length + (opsW wt).length := List.length_append
        refine e_behindOp rb hop h (fun p hp => ?_) ?_ (by omega) (by omega) (fun m4 h4 e4 => eqT (by omega) ?_)
        · rw [if_pos hs]
          rcases List.mem_append.mp hp with q | q
          · have := f1.1 p q; omega
          · have := f2.1 p q; omega
        · rw [if_pos hs]
          rcases hl1 with e | ⟨l', e⟩
          · rw [e]; trivial
          · rw [e]; exact ⟨Or.inl (by omega), by omega, by omega⟩
        have ec : c ++ flu wt = cr ++ wts (mul ++ opsW wt) := by rw [hc, flu_ops, wts_app, List.append_assoc]
        have h4' : ES mB b L m4 (i + 1) (w + (c ++ flu wt).length) (wrX t0 X w (c ++ flu wt)) o (List.replicate 0 2 ++ ((tkI b L i - 25) :: l1)) := by
          rw [ec, wrX_app, List.length_append, wts_len, ← Nat.add_assoc]
          exact h4
        have clen2 : (c ++ flu wt).length = c.length + (flu wt).length := List.length_append
        refine hr (i + 1) (w + (c ++ flu wt).length) 0 _ ((tkI b L i - 25) :: l1) m4 (by omega) (by omega) (by omega) (top2 _ _ (by omega) (by omega)) (fun x hx => ?_) (by show 0 + (l1.length + 1) ≤ _; omega) h4' e4 (fun ft jx e => ?_) (fun i' c' e => ?_)
        · rcases List.mem_cons.mp hx with q | q
          · omega
          · exact hlo x q
        · rw [e] at hbad; exact hbad ft jx rfl
        · intro m5 h5 e5
          rw [e] at g hbad hok
          obtain ⟨g1, g2, g3, g4, g5⟩ := g
          dsimp only at hbad hok
          rw [if_neg (by omega)] at hbad hok
          rw [app_rep0 c', ← wrX_app, Nat.add_zero, Nat.add_assoc, ← List.length_append, List.append_assoc] at h5
          refine ih i' (tkI b L i) (c ++ (flu wt ++ c')) (c ++ (flu wt ++ c')) [] m5 g2 (by omega) (Or.inr (by omega)) (Or.inl rfl) (by rw [show wts [] = [] from rfl, List.append_nil]) ?_ ?_ e5 hbad hok
          · rw [flu_len, if_neg (by omega)]
            simp only [List.length_append]
            omega
          · have : opsW (tkI b L i) = [tkI b L i - 25] := by unfold opsW; rw [if_neg (by omega)]
            rw [this]
            exact h5
      · -- times or over: only such as it are written
        refine e_behindOp rb hop h (fun p hp => ?_) ?_ (by omega) (by rw [List.length_append]; omega) (fun m4 h4 e4 => eqT (by omega) ?_)
        · rw [if_neg hs]; exact f1.1 p hp
        · rw [if_neg hs]
          unfold opsW
          split
          · rcases hl1 with e | ⟨l', e⟩
            · rw [e]; trivial
            · rw [e]; exact ⟨Or.inl (by omega), by omega, by omega⟩
          · exact ⟨Or.inr (by omega), by omega, by omega⟩
        have h4' : ES mB b L m4 (i + 1) (w + c.length) (wrX t0 X w c) o (List.replicate 0 2 ++ ((tkI b L i - 25) :: (opsW wt ++ l1))) := by
          rw [hc, wrX_app, List.length_append, wts_len, ← Nat.add_assoc]
          exact h4
        have lenB : (opsW wt ++ l1).length = (opsW wt).length + l1.length := List.length_append
        refine hr (i + 1) (w + c.length) 0 _ ((tkI b L i - 25) :: (opsW wt ++ l1)) m4 (by omega) (by omega) (by omega) (top2 _ _ (by omega) (by omega)) (fun x hx => ?_) (by show 0 + ((opsW wt ++ l1).length + 1) ≤ _; omega) h4' e4 (fun ft jx e => ?_) (fun i' c' e => ?_)
        · rcases List.mem_cons.mp hx with q | q
          · omega
          · exact lokA x (List.mem_append_right _ q)
        · rw [e] at hbad; exact hbad ft jx rfl
        · intro m5 h5 e5
          rw [e] at g hbad hok
          obtain ⟨g1, g2, g3, g4, g5⟩ := g
          dsimp only at hbad hok
          rw [if_pos (by omega)] at hbad hok
          rw [app_rep0 c', ← wrX_app, Nat.add_zero, Nat.add_assoc, ← List.length_append] at h5
          refine ih i' wt (c ++ (c' ++ [(tkI b L i - 25, 0)])) (c ++ c') [tkI b L i - 25] m5 g2 (by omega) hw (Or.inr ⟨_, rfl, by omega⟩) (by rw [List.append_assoc]; rfl) ?_ h5 e5 hbad hok
          simp only [List.length_append, List.length_singleton]
          omega
    · rw [if_neg hop] at hok
      exact fin i wt c cr mul m hw hm hc h h21 hop (hok _ _ rfl)
end RRead3
