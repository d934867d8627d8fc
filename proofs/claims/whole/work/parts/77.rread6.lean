/-! ===== text: the reference reads clauses ===== -/
section RRead6
variable {G : GG} {d : Nat} {m mB : MM} {b : Nat → Int} {L E t0 i w o : Nat} {X : Nat → Int}
theorem e_sortOf {k : Int → MM → Prop} {t : Int} (ht : 0 ≤ t) (h : RTk t (m 304 11) (m 304 13)) (hy : t ≤ 6 → k t m) (hn : ¬ t ≤ 6 → k (-1) m) : N G (d + 3) mi_X8_sortOf 0 [some (vr 304)] [] m (RI k) := by
  have go : ∀ j : Int, t = j → j ≤ 6 → k j m := fun j e1 e2 => by
    have := hy (by omega)
    rw [← e1]; exact this
  refine g_X8_sortOf_0 ?_
  refine g_X8_w4_0 _ _ _ _ (g_X8_w3_0 _ _ _ ⟨by omega, by omega, by omega, by omega, ?_⟩)
  rw [show lorr (lshl (lorr (lshl (lorr (lshl 115 8) 101) 8) 101) 8) 115 = 1936024947 by decide +kernel]
  refine e_isWord 0 (by omega) h (by decide +kernel) (by omega) (fun e => eqF (by omega) (go 0 e (by omega))) (fun e0 => eqT (by omega) ?_)
  refine g_X8_w4_0 _ _ _ _ (g_X8_w3_0 _ _ _ ⟨by omega, by omega, by omega, by omega, ?_⟩)
  rw [show lorr (lshl (lorr (lshl (lorr (lshl 114 8) 117) 8) 98) 8) 115 = 1920295539 by decide +kernel]
  refine e_isWord 1 (by omega) h (by decide +kernel) (by omega) (fun e => eqF (by omega) (go 1 e (by omega))) (fun e1 => eqT (by omega) ?_)
  refine g_X8_w5_0 _ _ _ _ _ (g_X8_w3_0 _ _ _ ⟨by omega, by omega, by omega, by omega, by omega, ?_⟩)
  rw [show lorr (lshl (lorr (lshl (lorr (lshl (lorr (lshl 116 8) 111) 8) 117) 8) 99) 8) 104 = 500086170472 by decide +kernel]
  refine e_isWord 2 (by omega) h (by decide +kernel) (by omega) (fun e => eqF (by omega) (go 2 e (by omega))) (fun e2 => eqT (by omega) ?_)
  refine g_X8_w3_0 _ _ _ ⟨by omega, by omega, by omega, ?_⟩
  rw [show lorr (lshl (lorr (lshl 112 8) 117) 8) 116 = 7370100 by decide +kernel]
  refine e_isWord 3 (by omega) h (by decide +kernel) (by omega) (fun e => eqF (by omega) (go 3 e (by omega))) (fun e3 => eqT (by omega) ?_)
  refine g_X8_w6_0 _ _ _ _ _ _ (g_X8_w5_0 _ _ _ _ _ (g_X8_w3_0 _ _ _ ⟨by omega, by omega, by omega, by omega, by omega, by omega, ?_⟩))
  rw [show lorr (lshl (lorr (lshl (lorr (lshl (lorr (lshl (lorr (lshl 100 8) 114) 8) 97) 8) 119) 8) 101) 8) 114 = 110442424264050 by decide +kernel]
  refine e_isWord 4 (by omega) h (by decide +kernel) (by omega) (fun e => eqF (by omega) (go 4 e (by omega))) (fun e4 => eqT (by omega) ?_)
  refine g_X8_w4_0 _ _ _ _ (g_X8_w3_0 _ _ _ ⟨by omega, by omega, by omega, by omega, ?_⟩)
  rw [show lorr (lshl (lorr (lshl (lorr (lshl 115 8) 119) 8) 97) 8) 112 = 1937203568 by decide +kernel]
  refine e_isWord 5 (by omega) h (by decide +kernel) (by omega) (fun e => eqF (by omega) (go 5 e (by omega))) (fun e5 => eqT (by omega) ?_)
  refine g_X8_w6_0 _ _ _ _ _ _ (g_X8_w5_0 _ _ _ _ _ (g_X8_w3_0 _ _ _ ⟨by omega, by omega, by omega, by omega, by omega, by omega, ?_⟩))
  rw [show lorr (lshl (lorr (lshl (lorr (lshl (lorr (lshl (lorr (lshl 112 8) 111) 8) 108) 8) 105) 8) 115) 8) 104 = 123623862530920 by decide +kernel]
  refine e_isWord 6 (by omega) h (by decide +kernel) (by omega) (fun e => eqF (by omega) (go 6 e (by omega))) (fun e6 => eqT (by omega) ?_)
  exact hn (by omega)
theorem w_figure {k : Int → MM → Prop} {x1 x2 : Int} (rb : RB mB b L t0) (xi : Nat) (e1 : x1 = (xi : Int)) (hxt : t0 ≤ xi) (hx : xi < 2720) (h2 : 0 ≤ x2 ∧ x2 ≤ 9999) (h : EW mB b L m i w X o) (hbad : ∀ ft jx, pNum (tkI b L) (nbI b L) x2 i = .inl (ft, jx) → ∀ m', FrZ mB m' → m' 304 10 = (plI b L jx : Int) → k ft m') (hok : ∀ v, pNum (tkI b L) (nbI b L) x2 i = .inr v → ∀ m', EW mB b L m' (i + 1) w (up X xi v) o → k 0 m') : N G (d + 3) mi_X8_figure 0 [some (vr 304), some (vi x1), some (vi x2)] [] m (RI k) := by
  have rt := h.2.1.2.2.1
  have rg := rt.rng
  have i35 := rt.is (t0 := 35) (by omega)
  rw [show rtc 35 = 1 by decide] at i35
  unfold pNum at hbad hok
  have b14 := rb.2.1
  refine g_X8_figure_0 _ _ (eqI (by omega) (fun z => ?_) (fun z => ?_))
  · have z35 := i35.mp z
    rw [if_pos z35] at hbad hok
    obtain ⟨n1, n2, n3, n4, n5⟩ := h.2.1.2.2.2 z35
    refine leI (by omega) (fun z2 => ⟨xi, by omega, fun m1 q1 => ?_⟩) (fun z2 => ?_)
    · have zn : nbI b L i ≤ x2 := by omega
      rw [if_pos zn] at hok
      obtain ⟨h1, h2', h3, h4, h5, -⟩ := h
      have hm1 : EW mB b L m1 i w (up X xi (nbI b L i)) o := by
        refine ⟨by rw [q1]; exact h1.upx (by omega), h2'.as (fun j _ _ => by rw [q1, upm_c (by omega)]), by rw [q1, upm_c (by omega)]; exact h3, ?_, by rw [q1, upm_c (by omega)]; exact h5, trivial⟩
        rw [q1, upm_sc, sc_at, h4, n2 (by omega)]
      exact w_next rb hm1 (fun m' h' => hok _ rfl m' h')
    · have zn : ¬ nbI b L i ≤ x2 := fun q => by
        have := n2 (by omega)
        omega
      rw [if_neg zn] at hbad
      exact hbad _ _ rfl m h.1 h.place
  · have z35 : ¬ tkI b L i = 35 := fun q => z (i35.mpr q)
    rw [if_neg z35] at hbad
    exact hbad _ _ rfl m h.1 h.place
theorem e_between {k : Int → MM → Prop} {x1 : Int} {t link : Int} (h : RTk t (m 304 11) (m 304 13)) (hl : (x1 = 2 ∧ link = 7) ∨ (x1 = 3 ∧ link = 8) ∨ (x1 = 5 ∧ link = 9)) (hy : t = link → k 1 m) (hn : t ≠ link → k 0 m) : N G (d + 2) mi_X8_isBetween 0 [some (vr 304), some (vi x1)] [] m (RI k) := by
  have rg := h.rng
  have two : ∀ (c : Int) (t0 : Nat), t0 < 22 → link = (t0 : Int) → c = cwL.getD t0 0 → rnl c → bEQ (m 304 11) 2 ((rnl (m 304 13) ∧ rnl c) ∧ bEQ (lcm (m 304 13) c) 0 (k 1 m) (k 0 m)) (k 0 m) := by
    intro c t0 ht hlk hc hr
    rcases h.word with ⟨h1, h2, h3, h4⟩ | ⟨h1, h2⟩
    · have ti := tw_iff (w := m 304 13) ht
      rw [← h2, ← hc] at ti
      exact eqT (by omega) ⟨⟨by omega, hr⟩, eqI ⟨lcm_rng _ _, by omega⟩ (fun z => hy (by rw [hlk]; exact ti.mpr ((lcm_0 _ _).mp z))) (fun z => hn (fun q => z ((lcm_0 _ _).mpr (ti.mp (by rw [← hlk]; exact q)))))⟩
    · exact eqF (by omega) (hn (by omega))
  refine g_X8_isBetween_0 _ (eqI (by omega) (fun z => two 25209 7 (by omega) (by omega) (by decide +kernel) (by omega)) (fun z => eqI (by omega) (fun z2 => two 28526 8 (by omega) (by omega) (by decide +kernel) (by omega)) (fun z2 => ?_)))
  refine g_X8_w4_0 _ _ _ _ (g_X8_w3_0 _ _ _ ⟨by omega, by omega, by omega, by omega, ?_⟩)
  rw [show lorr (lshl (lorr (lshl (lorr (lshl 119 8) 105) 8) 116) 8) 104 = 2003399784 by decide +kernel]
  exact e_isWord 9 (by omega) h (by decide +kernel) (by omega) (fun q => ⟨by omega, hy (by omega)⟩) (fun q => ⟨by omega, hn (by omega)⟩)
/-- a deed's clause -/
theorem e_line {k : Int → MM → Prop} {x1 x2 : Int} (rb : RB mB b L t0) (hE : tkI b L E = 36) (hnb : ∀ i, i < E → tkI b L i = 35 → 0 ≤ nbI b L i) (xi n : Nat) (e2 : x2 = (xi : Int)) (hxt : t0 ≤ xi) (hx : xi + 2 < 2720) (hs : 2 ≤ x1 ∧ x1 ≤ 6) (hi : i ≤ E) (h : EW mB b L m i w X o)
    (hbad : ∀ ft jx, pBody (tkI b L) (nbI b L) x1 n i = .inl (ft, jx) → ∀ m', FrZ mB m' → m' 304 10 = (plI b L jx : Int) → k ft m')
    (hok : ∀ i' e c, pBody (tkI b L) (nbI b L) x1 n i = .inr (i', e, c) → c = [] → ∀ m' X', EW mB b L m' i' w X' o → (∀ j, j ≠ xi + 1 → j ≠ xi + 2 → X' j = X j) → X' (xi + 1) = e.2.1 → (x1 ≠ 4 → x1 ≠ 6 → X' (xi + 2) = e.2.2) → k 0 m') : N G (d + 4) mi_X8_line 0 [some (vr 304), some (vi x1), some (vi x2), none] [] m (RI k) := by
  have two : ∀ (link top : Int), ((x1 = 2 ∧ link = 7) ∨ (x1 = 3 ∧ link = 8) ∨ (x1 = 5 ∧ link = 9)) → (top = if x1 = 5 then 7 else 5) → pBody (tkI b L) (nbI b L) x1 n i = pDeed (tkI b L) (nbI b L) x1 link top i → N G (d + 4) mi_X8_line 0 [some (vr 304), some (vi x1), some (vi x2), none] [] m (RI k) := by
    intro link top hl ht eb
    have ht2 : 0 ≤ top ∧ top ≤ 9999 := by rw [ht]; split <;> omega
    have g1 := pNum_gd hE hnb (top := 7) hi
    rw [eb] at hbad hok
    unfold pDeed at hbad hok
    refine g_X8_line_0 _ _ (w_figure rb (xi + 1) (by omega) (by omega) (by omega) (by omega) h (fun ft jx e m' f' p' => ?_) (fun v e m2 h2 => eqT (by omega) (eqF (by omega) (eqF (by omega) ?_))))
    · rw [e] at g1 hbad
      have g1 : (1 ≤ ft ∧ ft ≤ 6) ∧ jx ≤ E := g1
      exact eqF (by omega) (hbad ft jx rfl m' f' p')
    · rw [e] at g1 hbad hok
      dsimp only at hbad hok
      have g1 : i < E ∧ 0 ≤ v ∧ v ≤ 7 := g1
      refine e_between h2.2.1.2.2.1 hl (fun z => eqF (by omega) ?_) (fun z => eqT (by omega) ?_)
      · rw [if_pos z] at hbad hok
        have hi1 : i + 1 < E := by
          by_cases e : i + 1 = E
          · rw [e, hE] at z; omega
          · omega
        refine w_next rb h2 (fun m6 h6 => ?_)
        have fg : N G (d + 3) mi_X8_figure 0 [some (vr 304), some (vi (x2 + 2)), some (vi top)] [] m6 (RI fun z7 m8 => k z7 m8) := by
          refine w_figure rb (xi + 2) (by omega) (by omega) (by omega) ht2 h6 (fun ft jx e m' f' p' => ?_) (fun v2 e m' h' => ?_)
          · rw [e] at hbad; exact hbad ft jx rfl m' f' p'
          · rw [e] at hok
            refine hok _ _ _ rfl rfl m' _ h' (fun j j1 j2 => by rw [up_ne _ _ j2, up_ne _ _ j1]) (by rw [up_ne _ _ (by omega), up_at]) (fun _ _ => by rw [up_at])
        refine eqI (by omega) (fun z5 => ?_) (fun z5 => ?_)
        · rw [if_pos z5] at ht; rw [ht] at fg; exact fg
        · rw [if_neg z5] at ht; rw [ht] at fg; exact fg
      · rw [if_neg z] at hbad
        exact hbad _ _ rfl m2 h2.1 h2.place
  have one : (x1 = 4 ∨ x1 = 6) → pBody (tkI b L) (nbI b L) x1 n i = pSingle (tkI b L) (nbI b L) x1 i → N G (d + 4) mi_X8_line 0 [some (vr 304), some (vi x1), some (vi x2), none] [] m (RI k) := by
    intro h46 eb
    have g1 := pNum_gd hE hnb (top := 7) hi
    rw [eb] at hbad hok
    unfold pSingle at hbad hok
    refine g_X8_line_0 _ _ (w_figure rb (xi + 1) (by omega) (by omega) (by omega) (by omega) h (fun ft jx e m' f' p' => ?_) (fun v e m2 h2 => eqT (by omega) ?_))
    · rw [e] at g1 hbad
      have g1 : (1 ≤ ft ∧ ft ≤ 6) ∧ jx ≤ E := g1
      exact eqF (by omega) (hbad ft jx rfl m' f' p')
    · rw [e] at hok
      have fin : k 0 m2 := hok _ _ _ rfl rfl m2 _ h2 (fun j j1 j2 => by rw [up_ne _ _ j1]) (by rw [up_at]) (fun a1 a2 => by omega)
      exact eqI (by omega) (fun _ => fin) (fun _ => eqT (by omega) fin)
  have : x1 = 2 ∨ x1 = 3 ∨ x1 = 4 ∨ x1 = 5 ∨ x1 = 6 := by omega
  rcases this with e | e | e | e | e
  · exact two 7 5 (Or.inl ⟨e, rfl⟩) (by rw [if_neg (by omega)]) (by unfold pBody; rw [if_neg (by omega), if_neg (by omega), if_pos e, e])
  · exact two 8 5 (Or.inr (Or.inl ⟨e, rfl⟩)) (by rw [if_neg (by omega)]) (by unfold pBody; rw [if_neg (by omega), if_neg (by omega), if_neg (by omega), if_pos e, e])
  · exact one (Or.inl e) (by unfold pBody; rw [if_neg (by omega), if_neg (by omega), if_neg (by omega), if_neg (by omega), if_neg (by omega)])
  · exact two 9 7 (Or.inr (Or.inr ⟨e, rfl⟩)) (by rw [if_pos e]) (by unfold pBody; rw [if_neg (by omega), if_neg (by omega), if_neg (by omega), if_neg (by omega), if_pos e, e])
  · exact one (Or.inr e) (by unfold pBody; rw [if_neg (by omega), if_neg (by omega), if_neg (by omega), if_neg (by omega), if_neg (by omega)])
end RRead6
