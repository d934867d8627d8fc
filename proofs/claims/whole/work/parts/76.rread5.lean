/-! ===== text: the reference reads asks and laws ===== -/
section RRead5
variable {G : GG} {d : Nat} {m mB : MM} {b : Nat → Int} {L E t0 i w o : Nat} {X : Nat → Int} {l : List Int} {ln : Int}
theorem e_compareOf {k : Int → MM → Prop} {t : Int} (h : RTk t (m 304 11) (m 304 13)) (hy : 22 ≤ t ∧ t ≤ 27 → k (t - 12) m) (hn : ¬ (22 ≤ t ∧ t ≤ 27) → k (-1) m) : N G d mi_X8_compareOf 0 [some (vr 304)] [] m (RI k) := by
  have r := h.rng
  have i22 := h.is (t0 := 22) (by omega)
  have i23 := h.is (t0 := 23) (by omega)
  have i24 := h.is (t0 := 24) (by omega)
  have i25 := h.is (t0 := 25) (by omega)
  have i26 := h.is (t0 := 26) (by omega)
  have i27 := h.is (t0 := 27) (by omega)
  rw [show rtc 22 = 60 by decide] at i22
  rw [show rtc 23 = 4 by decide] at i23
  rw [show rtc 24 = 62 by decide] at i24
  rw [show rtc 25 = 5 by decide] at i25
  rw [show rtc 26 = 61 by decide] at i26
  rw [show rtc 27 = 35 by decide] at i27
  have go : ∀ (t1 v : Int), t = t1 → v = t1 - 12 → 22 ≤ t1 ∧ t1 ≤ 27 → k v m := fun t1 v e1 e2 e3 => by
    have := hy (by omega)
    rw [e2, ← e1]; exact this
  refine g_X8_compareOf_0 (eqI (by omega) (fun z => go 22 10 (i22.mp z) (by omega) (by omega)) (fun z1 => eqI (by omega) (fun z => go 23 11 (i23.mp z) (by omega) (by omega)) (fun z2 => eqI (by omega) (fun z => go 24 12 (i24.mp z) (by omega) (by omega)) (fun z3 => eqI (by omega) (fun z => go 25 13 (i25.mp z) (by omega) (by omega)) (fun z4 => eqI (by omega) (fun z => go 26 14 (i26.mp z) (by omega) (by omega)) (fun z5 => eqI (by omega) (fun z => go 27 15 (i27.mp z) (by omega) (by omega)) (fun z6 => hn (by omega))))))))
theorem e_nots {k : Int → MM → Prop} (rb : RB mB b L t0) (nt : Nat) (hnt : nt ≤ 8) {x1 : Int} (e1 : x1 = (nt : Int)) : ∀ (r q w : Nat) (X : Nat → Int) (x4 : Int) (m : MM), q + r = nt → x4 = (q : Int) → w + r ≤ 301 → ES mB b L m i w X o l → (∀ m', ES mB b L m' i (w + r) (wrX t0 X w (List.replicate r (20, 0))) o l → k 0 m') → N G (d + 1) mi_X8_asks 105 [some (vr 304), some (vi x1), none, none, some (vi x4)] [] m (RI k) := by
  intro r
  induction r with
  | zero =>
    intro q w X x4 m hq h4 hw h next
    exact g_X8_asks_105 _ _ (leT (by omega) (next m h))
  | succ r ih =>
    intro q w X x4 m hq h4 hw h next
    · refine g_X8_asks_105 _ _ (leF (by omega) (e_emit rb h (by omega) (fun m1 h1 _ => ih (q + 1) (w + 1) _ _ m1 (by omega) (by omega) (by omega) h1 (fun m' h' => next m' ?_))))
      have e : wrX t0 (wrX t0 X w [(20, 0)]) (w + 1) (List.replicate r (20, 0)) = wrX t0 X w (List.replicate (r + 1) (20, 0)) := by
        rw [List.replicate_succ, show ((20, 0) : Int × Int) :: List.replicate r (20, 0) = [(20, 0)] ++ List.replicate r (20, 0) from rfl, wrX_app]
        rfl
      rw [e, show w + 1 + r = w + (r + 1) by omega] at h'
      exact h'
theorem e_asks {k : Int → MM → Prop} (rb : RB mB b L t0) (hE : tkI b L E = 36) (hE3 : E ≤ 300) (hnb : ∀ i, i < E → tkI b L i = 35 → 0 ≤ nbI b L i) (hln : (ln = 18 ∧ mB 304 22 = 1) ∨ (ln = 21 ∧ mB 304 22 = 0)) : ∀ (r i w nt : Nat) (X : Nat → Int) (x1 : Int) (m : MM), r ≤ 8 → i ≤ E → w + nt ≤ i → nt ≤ 8 - r → x1 = (nt : Int) → EW mB b L m i w X (8 - r) →
    (∀ ft jx, pAsk (tkI b L) (nbI b L) ln r i = .inl (ft, jx) → ∀ m', FrZ mB m' → m' 304 10 = (plI b L jx : Int) → k ft m') →
    (∀ i' c, pAsk (tkI b L) (nbI b L) ln r i = .inr (i', c) → ∀ m', ES mB b L m' i' (w + (c.length + nt)) (wrX t0 X w (c ++ List.replicate nt (20, 0))) (8 - r - nt) [] → k 0 m') →
    N G (d + 6) mi_X8_asks 2 [some (vr 304), some (vi x1), none, none, none] [] m (RI k) := by
  -- no 'not'
  have cmp : ∀ (r i w nt : Nat) (X : Nat → Int) (x1 : Int) (m : MM), r ≤ 8 → i ≤ E → w + nt ≤ i → nt ≤ 8 - r → x1 = (nt : Int) → EW mB b L m i w X (8 - r) → tkI b L i ≠ 12 →
      (∀ ft jx, pCm (pSm (pOne (tkI b L) (nbI b L) ln r) (tkI b L)) (tkI b L) i = .inl (ft, jx) → ∀ m', FrZ mB m' → m' 304 10 = (plI b L jx : Int) → k ft m') →
      (∀ i' c, pCm (pSm (pOne (tkI b L) (nbI b L) ln r) (tkI b L)) (tkI b L) i = .inr (i', c) → ∀ m', ES mB b L m' i' (w + (c.length + nt)) (wrX t0 X w (c ++ List.replicate nt (20, 0))) (8 - r - nt) [] → k 0 m') →
      N G (d + 6) mi_X8_asks 2 [some (vr 304), some (vi x1), none, none, none] [] m (RI k) := by
    intro r i w nt X x1 m hr hi hw hnt hx1 h h12 hbad hok
    have gs := pSm_gd hE (fun j hj => pOne_gd (ln := ln) hE hnb r j hj)
    refine g_X8_asks_2 _ (g_X8_w3_0 _ _ _ ⟨by omega, by omega, by omega, ?_⟩)
    rw [show lorr (lshl (lorr (lshl 110 8) 111) 8) 116 = 7237492 by decide +kernel]
    refine e_isWord 12 (by omega) h.2.1.2.2.1 (by decide +kernel) (by omega) (fun q => absurd q h12) (fun _ => eqT (by omega) ?_)
    unfold pCm at hbad hok
    refine e_summed rb hE hE3 hnb hln r hr hi (by omega) h (fun ft jx e m' f' p' => ?_) (fun i1 c1 e m6 h6 => eqT (by omega) ?_)
    · have g := gs i hi
      rw [e] at g hbad
      have g : (1 ≤ ft ∧ ft ≤ 6) ∧ jx ≤ E := g
      exact eqF (by omega) (hbad ft jx rfl m' f' p')
    · have g := gs i hi
      rw [e] at g hbad hok
      obtain ⟨g1, g2, g3, g4, g5⟩ := g
      dsimp only at hbad hok
      refine e_compareOf h6.2.1.2.2.1 (fun z => ?_) (fun z => ?_)
      · rw [if_pos z] at hbad hok
        have hi1 : i1 < E := by
          by_cases e : i1 = E
          · rw [e, hE] at z; omega
          · omega
        refine leT (by omega) (e_next rb h6 (fun m10 h10 _ => ?_))
        refine e_summed rb hE hE3 hnb hln r hr (by omega) (by omega) h10.ew (fun ft jx e2 m' f' p' => ?_) (fun i2 c2 e2 m12 h12' => eqT (by omega) ?_)
        · have g' := gs (i1 + 1) (by omega)
          rw [e2] at g' hbad
          have g' : (1 ≤ ft ∧ ft ≤ 6) ∧ jx ≤ E := g'
          exact eqF (by omega) (hbad ft jx rfl m' f' p')
        · have g' := gs (i1 + 1) (by omega)
          rw [e2] at g' hbad hok
          obtain ⟨k1, k2, k3, k4, k5⟩ := g'
          have cl : (c1 ++ (c2 ++ [((tkI b L i1 - 12, 0) : Int × Int)])).length = c1.length + (c2.length + 1) := by simp
          refine e_emit rb h12' (by omega) (fun m14 h14 _ m15 q15 => ?_)
          have e20 : m14 304 20 = ((8 - r : Nat) : Int) := h14.2.2.2.2.1
          have h15 := h14.opens (o' := 8 - r - nt) q15 (by rw [e20]; omega)
          refine e_nots rb nt (by omega) hx1 nt 0 _ _ _ m15 (by omega) rfl (by omega) h15.1 (fun m' h' => hok _ _ rfl m' ?_)
          have ee : wrX t0 X w (c1 ++ (c2 ++ [((tkI b L i1 - 12, 0) : Int × Int)]) ++ List.replicate nt (20, 0)) = wrX t0 (wrX t0 (wrX t0 (wrX t0 X w c1) (w + c1.length) c2) (w + c1.length + c2.length) [(tkI b L i1 - 12, 0)]) (w + c1.length + c2.length + 1) (List.replicate nt (20, 0)) := by
            rw [wrX_app, wrX_app, wrX_app, cl, show w + (c1.length + (c2.length + 1)) = w + c1.length + c2.length + 1 by omega]
          rw [ee, cl, show w + (c1.length + (c2.length + 1) + nt) = w + c1.length + c2.length + 1 + nt by omega]
          exact h'
      · rw [if_neg z] at hbad
        exact leF (by omega) (hbad _ _ rfl m6 h6.1 h6.place)
  intro r
  induction r with
  | zero =>
    intro i w nt X x1 m hr hi hw hnt hx1 h hbad hok
    rw [pAsk] at hbad hok
    by_cases z : tkI b L i = 12
    · simp only [if_pos z] at hbad
      refine g_X8_asks_2 _ (g_X8_w3_0 _ _ _ ⟨by omega, by omega, by omega, ?_⟩)
      rw [show lorr (lshl (lorr (lshl 110 8) 111) 8) 116 = 7237492 by decide +kernel]
      refine e_isWord 12 (by omega) h.2.1.2.2.1 (by decide +kernel) (by omega) (fun _ => eqF (by omega) ?_) (fun q => absurd z q)
      have e20 : m 304 20 = 8 := h.2.2.2.2.1
      exact eqT (by omega) (hbad _ _ rfl m h.1 h.place)
    · simp only [if_neg z] at hbad hok
      exact cmp 0 i w nt X x1 m hr hi hw hnt hx1 h z hbad hok
  | succ r ih =>
    intro i w nt X x1 m hr hi hw hnt hx1 h hbad hok
    rw [pAsk] at hbad hok
    by_cases z : tkI b L i = 12
    · simp only [if_pos z] at hbad hok
      have hiE : i < E := by
        by_cases e : i = E
        · rw [e, hE] at z; omega
        · omega
      refine g_X8_asks_2 _ (g_X8_w3_0 _ _ _ ⟨by omega, by omega, by omega, ?_⟩)
      rw [show lorr (lshl (lorr (lshl 110 8) 111) 8) 116 = 7237492 by decide +kernel]
      refine e_isWord 12 (by omega) h.2.1.2.2.1 (by decide +kernel) (by omega) (fun _ => eqF (by omega) ?_) (fun q => absurd z q)
      have e20 : m 304 20 = ((8 - (r + 1) : Nat) : Int) := h.2.2.2.2.1
      refine eqF (by omega) (fun m16 q16 => ?_)
      have h16 := h.opens (o' := 8 - r) q16 (by rw [e20]; omega)
      refine w_next rb h16 (fun m18 h18 => ih (i + 1) w (nt + 1) X _ m18 (by omega) (by omega) (by omega) (by omega) (by omega) h18 (fun ft jx e => ?_) (fun i' c e m' h' => ?_))
      · rw [e] at hbad; exact hbad ft jx rfl
      · rw [e] at hok
        refine hok _ _ rfl m' ?_
        have e1 : c ++ [((20, 0) : Int × Int)] ++ List.replicate nt (20, 0) = c ++ List.replicate (nt + 1) (20, 0) := by
          rw [List.append_assoc, List.replicate_succ]; rfl
        rw [e1, List.length_append, List.length_singleton, show w + (c.length + 1 + nt) = w + (c.length + (nt + 1)) by omega, show 8 - (r + 1) - nt = 8 - r - (nt + 1) by omega]
        exact h'
    · simp only [if_neg z] at hbad hok
      exact cmp (r + 1) i w nt X x1 m hr hi hw hnt hx1 h z hbad hok
theorem e_ask0 {k : Int → MM → Prop} (rb : RB mB b L t0) (hE : tkI b L E = 36) (hE3 : E ≤ 300) (hnb : ∀ i, i < E → tkI b L i = 35 → 0 ≤ nbI b L i) (hs : mB 304 22 = 0) (hi : i ≤ E) (hw : w ≤ i) (h : EW mB b L m i w X 0) (hbad : ∀ ft jx, pAsk (tkI b L) (nbI b L) 21 8 i = .inl (ft, jx) → ∀ m', FrZ mB m' → m' 304 10 = (plI b L jx : Int) → k ft m') (hok : ∀ i' c, pAsk (tkI b L) (nbI b L) 21 8 i = .inr (i', c) → ∀ m', ES mB b L m' i' (w + c.length) (wrX t0 X w c) 0 [] → k 0 m') : N G (d + 6) mi_X8_asks 0 [some (vr 304), none, none, none, none] [] m (RI k) := by
  refine g_X8_asks_0 (e_asks rb hE hE3 hnb (Or.inr ⟨rfl, hs⟩) 8 i w 0 X 0 m (by omega) hi (by omega) (by omega) rfl h hbad (fun i' c e m' h' => hok i' c e m' ?_))
  rw [show List.replicate 0 ((20, 0) : Int × Int) = [] from rfl, List.append_nil, Nat.add_zero] at h'
  exact h'
theorem e_se {k : Int → MM → Prop} (rb : RB mB b L t0) (hE : tkI b L E = 36) (hE3 : E ≤ 300) (hnb : ∀ i, i < E → tkI b L i = 35 → 0 ≤ nbI b L i) (hs : mB 304 22 = 0) : ∀ (n i : Nat) (wt : Bool) (c : Cde) (l : List Int) (x2 : Int) (m : MM), i ≤ E → 300 ≤ n + i → x2 = (if wt then 1 else 0) → w + c.length + (orW wt).length ≤ i → ES mB b L m i (w + c.length) (wrX t0 X w c) 0 l →
    (∀ ft jx, pSe (pAsk (tkI b L) (nbI b L) 21 8) (tkI b L) n i wt c = .inl (ft, jx) → ∀ m', FrZ mB m' → m' 304 10 = (plI b L jx : Int) → k ft m') →
    (∀ i' c', pSe (pAsk (tkI b L) (nbI b L) 21 8) (tkI b L) n i wt c = .inr (i', c') → ∀ m' l', ES mB b L m' i' (w + c'.length) (wrX t0 X w c') 0 l' → k 0 m') →
    N G (d + 7) mi_X8_either 35 [some (vr 304), none, some (vi x2), none, none, none] [] m (RI k) := by
  -- which word stands there
  have word : ∀ (i : Nat) (wt : Bool) (c : Cde) (l : List Int) (x2 : Int) (m : MM), ES mB b L m i (w + c.length) (wrX t0 X w c) 0 l → (∀ x1 s0 : Int, (x1 = 1 ∧ s0 = 0 ∧ tkI b L i = 11) ∨ (x1 = 0 ∧ s0 = 1 ∧ tkI b L i = 10) ∨ (x1 = 0 ∧ s0 = 0 ∧ tkI b L i ≠ 11 ∧ tkI b L i ≠ 10) → N G (d + 7) mi_X8_either 73 [some (vr 304), some (vi x1), some (vi x2), none, none, none] [vi s0] m (RI k)) → N G (d + 7) mi_X8_either 35 [some (vr 304), none, some (vi x2), none, none, none] [] m (RI k) := by
    intro i wt c l x2 m h nx
    have rt := h.2.1.2.2.1
    have rg := rt.rng
    have tl : ∀ z3 : Int, (z3 = 1 ∧ tkI b L i = 11 ∨ z3 = 0 ∧ tkI b L i ≠ 11) → bEQ (m 304 11) 2 ((rnl (m 304 13) ∧ rnl 28530) ∧ bEQ (lcm (m 304 13) 28530) 0 (N G (d + 7) mi_X8_either 73 [some (vr 304), some (vi z3), some (vi x2), none, none, none] [vi 1] m (RI k)) (N G (d + 7) mi_X8_either 73 [some (vr 304), some (vi z3), some (vi x2), none, none, none] [vi 0] m (RI k))) (N G (d + 7) mi_X8_either 73 [some (vr 304), some (vi z3), some (vi x2), none, none, none] [vi 0] m (RI k)) := by
      intro z3 hz3
      rcases rt.word with ⟨h1, h2, h3, h4⟩ | ⟨h1, h2⟩
      · have ti := tw_iff (w := m 304 13) (k := 10) (by omega)
        rw [← h2, show cwL.getD 10 0 = 28530 by decide +kernel] at ti
        refine eqT (by omega) ⟨⟨by omega, by omega⟩, eqI ⟨lcm_rng _ _, by omega⟩ (fun z => ?_) (fun z => ?_)⟩
        · have := ti.mpr ((lcm_0 _ _).mp z)
          exact nx z3 1 (by omega)
        · have : tkI b L i ≠ 10 := fun q => z ((lcm_0 _ _).mpr (ti.mp q))
          exact nx z3 0 (by omega)
      · exact eqF (by omega) (nx z3 0 (by omega))
    refine g_X8_either_35 _ (g_X8_w3_0 _ _ _ ⟨by omega, by omega, by omega, ?_⟩)
    rw [show lorr (lshl (lorr (lshl 97 8) 110) 8) 100 = 6385252 by decide +kernel]
    exact e_isWord 11 (by omega) rt (by decide +kernel) (by omega) (fun q => tl 1 (Or.inl ⟨rfl, q⟩)) (fun q => tl 0 (Or.inr ⟨rfl, q⟩))
  have fin : ∀ (i : Nat) (wt : Bool) (c : Cde) (l : List Int) (x2 : Int) (m : MM), i ≤ E → x2 = (if wt then 1 else 0) → w + c.length + (orW wt).length ≤ i → ES mB b L m i (w + c.length) (wrX t0 X w c) 0 l → tkI b L i ≠ 11 → tkI b L i ≠ 10 → (∀ m' l', ES mB b L m' i (w + (c ++ orW wt).length) (wrX t0 X w (c ++ orW wt)) 0 l' → k 0 m') → N G (d + 7) mi_X8_either 35 [some (vr 304), none, some (vi x2), none, none, none] [] m (RI k) := by
    intro i wt c l x2 m hi h2 hl h n11 n10 nx
    refine word i wt c l x2 m h (fun x1 s0 hc => ?_)
    have hx : x1 = 0 ∧ s0 = 0 := by omega
    obtain ⟨hx1, hs0⟩ := hx
    have p93 : ∀ (m' : MM), k 0 m' → N G (d + 7) mi_X8_either 93 [some (vr 304), some (vi x1), some (vi s0), none, none, some (vi s0)] [] m' (RI k) := fun m' hk => g_X8_either_93 _ _ _ (eqT (by omega) (eqT (by omega) (g_X8_either_107 _ _ _ (eqT (by omega) (g_X8_either_6 _ _ _ (eqT (by omega) hk))))))
    cases wt with
    | false =>
      have h2 : x2 = 0 := h2
      rw [show orW false = [] from rfl, List.append_nil] at nx
      exact g_X8_either_73 _ _ _ (eqT (by omega) (eqT (by omega) (p93 m (nx m l h))))
    | true =>
      have h2 : x2 = 1 := h2
      have hl : w + c.length + 1 ≤ i := hl
      refine g_X8_either_73 _ _ _ (eqT (by omega) (eqF (by omega) (e_emit rb h (by omega) (fun m1 h1 _ => p93 m1 (nx m1 l ?_)))))
      rw [wrX_app, List.length_append, ← Nat.add_assoc]
      exact h1
  intro n
  induction n with
  | zero =>
    intro i wt c l x2 m hi hn h2 hl h hbad hok
    have iE : i = E := by omega
    exact fin i wt c l x2 m hi h2 hl h (by rw [iE, hE]; omega) (by rw [iE, hE]; omega) (fun m' l' h' => hok _ _ rfl m' l' h')
  | succ n ih =>
    intro i wt c l x2 m hi hn h2 hl h hbad hok
    have lt : tkI b L i ≠ 36 → i < E := fun z => by
      by_cases e : i = E
      · rw [e] at z; exact absurd hE z
      · omega
    have ow : (orW wt).length ≤ 1 := by rw [orW_len]; cases wt <;> decide
    have x201 : x2 = 0 ∨ x2 = 1 := by cases wt <;> simp at h2 <;> omega
    rw [pSe] at hbad hok
    -- the ask behind the word
    have go : ∀ (x1 y2 : Int) (wt' : Bool) (c2 : Cde) (m2 : MM), y2 = (if wt' then 1 else 0) → (x1 = 1 ∧ tkI b L i = 11 ∧ wt' = wt ∧ c2 = c ∨ x1 = 0 ∧ tkI b L i = 10 ∧ wt' = true ∧ c2 = c ++ orW wt) → ES mB b L m2 i (w + c2.length) (wrX t0 X w c2) 0 l → N G (d + 7) mi_X8_either 107 [some (vr 304), some (vi x1), some (vi y2), none, none, none] [vi 1] m2 (RI k) := by
      intro x1 y2 wt' c2 m2 hy2 hc h2'
      have hiE := lt (by omega)
      have y201 : y2 = 0 ∨ y2 = 1 := by cases wt' <;> simp at hy2 <;> omega
      have hc3 : w + c2.length ≤ i := by
        rcases hc with ⟨p1, p2, p3, p4⟩ | ⟨p1, p2, p3, p4⟩
        · rw [p4]; omega
        · rw [p4, List.length_append]; omega
      have g := pAsk_gd (ln := 21) hE hnb 8 (i + 1) (by omega)
      refine g_X8_either_107 _ _ _ (eqF (by omega) (e_next rb h2' (fun m3 h3 _ => g_X8_either_6 _ _ _ (eqF (by omega) ?_))))
      refine e_ask0 rb hE hE3 hnb hs (by omega) (by omega) h3.ew (fun ft jx e m' f' p' => ?_) (fun i' c' e m4 h4 => eqT (by omega) ?_)
      · rw [e] at g
        have g : (1 ≤ ft ∧ ft ≤ 6) ∧ jx ≤ E := g
        refine eqF (by omega) (hbad ft jx ?_ m' f' p')
        rcases hc with ⟨p1, p2, p3, p4⟩ | ⟨p1, p2, p3, p4⟩
        · rw [if_pos p2, e]
        · rw [if_neg (by omega), if_pos p2, e]
      · rw [e] at g
        obtain ⟨g1, g2, g3, g4, g5⟩ := g
        rw [← wrX_app, Nat.add_assoc, ← List.length_append] at h4
        rcases hc with ⟨p1, p2, p3, p4⟩ | ⟨p1, p2, p3, p4⟩
        · rw [if_pos p2, e] at hbad hok
          dsimp only at hbad hok
          subst p3 p4
          have cl : (c2 ++ c').length = c2.length + c'.length := List.length_append
          refine eqF (by omega) (e_emit rb h4 (by omega) (fun m5 h5 _ => ih i' wt' (c2 ++ (c' ++ [(21, 0)])) [] _ m5 g2 (by omega) hy2 (by simp only [List.length_append, List.length_singleton]; omega) ?_ hbad hok))
          rw [← List.append_assoc, wrX_app, List.length_append, List.length_singleton, ← Nat.add_assoc]
          exact h5
        · rw [if_neg (by omega), if_pos p2, e] at hbad hok
          dsimp only at hbad hok
          subst p3 p4
          refine eqT (by omega) (ih i' true (c ++ (orW wt ++ c')) [] _ m4 g2 (by omega) hy2 ?_ ?_ hbad hok)
          · show w + (c ++ (orW wt ++ c')).length + 1 ≤ i'
            rw [List.length_append] at hc3
            simp only [List.length_append]
            omega
          · rw [← List.append_assoc]; exact h4
    by_cases z11 : tkI b L i = 11
    · refine word i wt c l x2 m h (fun x1 s0 hc => ?_)
      have hx : x1 = 1 ∧ s0 = 0 := by omega
      obtain ⟨hx1, hs0⟩ := hx
      exact g_X8_either_73 _ _ _ (eqF (by omega) (g_X8_either_93 _ _ _ (eqF (by omega) (go x1 x2 wt c m h2 (Or.inl ⟨hx1, z11, rfl, rfl⟩) h))))
    · by_cases z10 : tkI b L i = 10
      · refine word i wt c l x2 m h (fun x1 s0 hc => ?_)
        have hx : x1 = 0 ∧ s0 = 1 := by omega
        obtain ⟨hx1, hs0⟩ := hx
        cases wt with
        | false =>
          have h2 : x2 = 0 := h2
          exact g_X8_either_73 _ _ _ (eqT (by omega) (eqT (by omega) (g_X8_either_93 _ _ _ (eqT (by omega) (eqF (by omega) (go x1 s0 true c m hs0 (Or.inr ⟨hx1, z10, rfl, by rw [show orW false = [] from rfl, List.append_nil]⟩) h))))))
        | true =>
          have h2 : x2 = 1 := h2
          have hl : w + c.length + 1 ≤ i := hl
          refine g_X8_either_73 _ _ _ (eqT (by omega) (eqF (by omega) (e_emit rb h (by omega) (fun m1 h1 _ => g_X8_either_93 _ _ _ (eqT (by omega) (eqF (by omega) (go x1 s0 true (c ++ orW true) m1 hs0 (Or.inr ⟨hx1, z10, rfl, rfl⟩) ?_)))))))
          rw [wrX_app, List.length_append, ← Nat.add_assoc]
          exact h1
      · rw [if_neg z11, if_neg z10] at hok
        exact fin i wt c l x2 m hi h2 hl h z11 z10 (fun m' l' h' => hok _ _ rfl m' l' h')
theorem e_either {k : Int → MM → Prop} (rb : RB mB b L t0) (hE : tkI b L E = 36) (hE3 : E ≤ 300) (hnb : ∀ i, i < E → tkI b L i = 35 → 0 ≤ nbI b L i) (hs : mB 304 22 = 0) (hi : i ≤ E) (hw : w ≤ i) (h : EW mB b L m i w X 0) (hbad : ∀ ft jx, pSees (tkI b L) (nbI b L) i = .inl (ft, jx) → ∀ m', FrZ mB m' → m' 304 10 = (plI b L jx : Int) → k ft m') (hok : ∀ i' c, pSees (tkI b L) (nbI b L) i = .inr (i', c) → ∀ m' l', ES mB b L m' i' (w + c.length) (wrX t0 X w c) 0 l' → k 0 m') : N G (d + 7) mi_X8_either 0 [some (vr 304), none, none, none, none, none] [] m (RI k) := by
  have g := pAsk_gd (ln := 21) hE hnb 8 i hi
  unfold pSees at hbad hok
  refine g_X8_either_0 (g_X8_either_6 _ _ _ (eqF (by omega) (e_ask0 rb hE hE3 hnb hs hi hw h (fun ft jx e m' f' p' => ?_) (fun i' c e m2 h2 => eqT (by omega) (eqT (by omega) ?_)))))
  · rw [e] at g hbad
    have g : (1 ≤ ft ∧ ft ≤ 6) ∧ jx ≤ E := g
    exact eqF (by omega) (hbad ft jx rfl m' f' p')
  · rw [e] at g hbad hok
    obtain ⟨g1, g2, g3, g4, g5⟩ := g
    exact e_se rb hE hE3 hnb hs 300 i' false c [] _ m2 g2 (by omega) rfl (by show w + c.length + 0 ≤ i'; omega) h2 hbad hok
end RRead5
