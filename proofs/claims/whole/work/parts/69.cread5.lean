/-! ===== text: the class reads a clause ===== -/
section CRead5
variable {G : GG} {d : Nat} {m m0 : MM} {cc E : Nat} {tk nb : Nat → Int} {ln : Int}
theorem r_head {k : Int → MM → Prop} {x : Rds} {mB : MM} {f0 : Nat → Int} (hB : RC mB cc E tk nb ln) (hx : RdOK E x) (hs : SCl mB cc f0 m x) {x1 : Int} (e1 : x1 = tk x.1) (h : k (pHead tk x) m) : N G d mi_X2_flawOfHead 0 [some (vr 2), some (vi x1)] [] m (RI k) := by
  have rc := hs.rc hB hx.2.1
  have t := rc.2.2.2.2.2.2.2.2.1 x.1 hx.1
  have e8 : m 2 8 = (cc : Int) := rc.2.2.1
  obtain ⟨-, -, -, -, -, -, -, c0, c1, c2, c3, c4, c5⟩ := hs
  have hlen := hx.2.1
  unfold pHead at h
  have p41 : ¬ 6 < tk x.1 → ¬ (tk x.1 = 0 ∧ x.2.2.2.1 = true ∨ tk x.1 = 1 ∧ x.2.2.2.2 = true) → N G d mi_X2_flawOfHead 41 [some (vr 2), none] [] m (RI k) := by
    intro z1 z2
    rw [if_neg z1, if_neg z2] at h
    refine g_X2_flawOfHead_41 ⟨cc, ⟨e8, rc.1⟩, ?_⟩
    rw [c0]
    refine ltI (by omega) (fun z => ?_) (fun z => ?_)
    · rw [if_neg (by omega)] at h; exact h
    · rw [if_pos (by omega)] at h; exact h
  have p23 : ¬ 6 < tk x.1 → ¬ (tk x.1 = 0 ∧ x.2.2.2.1 = true) → N G d mi_X2_flawOfHead 23 [some (vr 2), some (vi x1)] [] m (RI k) := by
    intro z1 z2
    refine g_X2_flawOfHead_23 _ (eqI (by omega) (fun z => ⟨cc, ⟨e8, rc.1⟩, ?_⟩) (fun z => p41 z1 (fun q => by
      rcases q with q | q
      · exact z2 q
      · exact z (by rw [e1]; exact q.1))))
    cases hb : x.2.2.2.2 with
    | false =>
      rw [c4 hb]
      exact eqT (by omega) (p41 z1 (by rw [hb]; intro q; rcases q with q | q; exact z2 q; exact absurd q.2 (by decide)))
    | true =>
      have := c5 hb
      rw [if_neg z1, if_pos (Or.inr ⟨by omega, hb⟩)] at h
      exact eqF (by omega) h
  refine g_X2_flawOfHead_0 _ (leI (by omega) (fun z => eqI (by omega) (fun z2 => ⟨cc, ⟨e8, rc.1⟩, ?_⟩) (fun z2 => p23 (by omega) (by omega))) (fun z => ?_))
  · cases hb : x.2.2.2.1 with
    | false =>
      rw [c2 hb]
      exact eqT (by omega) (p23 (by omega) (by rw [hb]; intro q; exact absurd q.2 (by decide)))
    | true =>
      have := c3 hb
      rw [if_neg (by omega), if_pos (Or.inl ⟨by omega, hb⟩)] at h
      exact eqF (by omega) h
  · rw [if_pos (by omega)] at h; exact h
theorem r_deed {Q : MM → Prop} {x1 x2 x3 : Int} {i L : Nat} {f : Nat → Int} (rc : RC m0 cc E tk nb ln) (n : Nat) (hn : m0 cc 0 = (n : Int)) (h24 : n < 24) (hi : i ≤ E) (hL : L ≤ 300) (h2 : rng x2 ∧ x2 ≠ 36) (h3 : rng x3) (hbad : ∀ ft j, pDeed tk nb x1 x2 x3 i = .inl (ft, j) → ∀ m', FdM m0 cc E ft (m0 4 j) m' → Q m') (hok : ∀ i' e c, pDeed tk nb x1 x2 x3 i = .inr (i', e, c) → Q (cst (adC m0 cc n x1 e.2.1 e.2.2) cc (i' : Int) (L : Int) f)) : N G (d + 2) mi_X2_readDeed 0 [some (vr 2), some (vi x1), some (vi x2), some (vi x3), none, none] [] (cst m0 cc (i : Int) (L : Int) f) (RV Q) := by
  have hcc := rc.2.1
  unfold pDeed pNum at hbad hok
  -- failed on the way
  have bad3 : ∀ ft j m', (∀ m'', FdM m0 cc E ft (m0 4 j) m'' → Q m'') → FdM m0 cc E ft (m0 4 j) m' → ∀ z1 z5 : Int, ∃ t7 : Nat, (m' 2 8 = (t7 : Int) ∧ SH t7 = .inr 5) ∧ N G (d + 1) mi_X5_addClause 0 [some (vr t7), some (vi x1), some (vi z1), some (vi z5)] [] m' (RV fun m9 => Q m9) := fun ft j m' nx hm z1 z5 => ⟨cc, ⟨(hm.tok rc).2.2.2, rc.1⟩, f_clause rc hm nx⟩
  have bad1 : ∀ ft j m', (∀ m'', FdM m0 cc E ft (m0 4 j) m'' → Q m'') → FdM m0 cc E ft (m0 4 j) m' → ∀ z1 : Int, N G (d + 1) mi_X2_take 0 [some (vr 2), some (vi x2)] [] m' (RV fun m4 => N G (d + 1) mi_X2_takeNumber 0 [some (vr 2), some (vi x3), none] [] m4 (RI fun z5 m6 => ∃ t7 : Nat, (m6 2 8 = (t7 : Int) ∧ SH t7 = .inr 5) ∧ N G (d + 1) mi_X5_addClause 0 [some (vr t7), some (vi x1), some (vi z1), some (vi z5)] [] m6 (RV fun m9 => Q m9))) := fun ft j m' nx hm z1 => f_take rc hm h2 (fun m2 hm2 => f_takeNumber rc hm2 (fun m3 hm3 => bad3 ft j m3 nx hm3 _ _))
  refine g_X2_readDeed_0 _ _ _ (r_num rc hi hL (by omega) (fun z1 z2 => ?_) (fun z1 z2 m' hm => ?_) (fun z1 m' hm => ?_))
  · rw [if_pos z1, if_pos z2] at hbad hok
    dsimp only at hbad hok
    have hl := rc.lt hi (by omega)
    refine r_take rc (i := i + 1) (by omega) hL h2.1 (fun z3 => ?_) (fun z3 m' hm => ?_)
    · rw [if_pos z3] at hbad hok
      have hl2 := rc.lt (i := i + 1) (by omega) (by rw [z3]; exact h2.2)
      refine r_num rc (i := i + 2) (by omega) hL h3 (fun z4 z5 => ?_) (fun z4 z5 m' hm => ?_) (fun z4 m' hm => ?_)
      · rw [if_pos z4, if_pos z5] at hok
        dsimp only at hok
        have hl3 := rc.lt (i := i + 2) (by omega) (by omega)
        refine ⟨cc, ⟨(rc.at (i := i + 2 + 1) (by omega) (L : Int) f).2.2.2.1, rc.1⟩, r_clause n rc.1 hcc hn h24 ?_⟩
        exact hok _ _ _ rfl
      · rw [if_pos z4, if_neg z5] at hbad
        exact bad3 _ _ m' (hbad _ _ rfl) hm _ _
      · rw [if_neg z4] at hbad
        exact bad3 _ _ m' (hbad _ _ rfl) hm _ _
    · rw [if_neg z3] at hbad
      exact f_takeNumber rc hm (fun m3 hm3 => bad3 _ _ m3 (hbad _ _ rfl) hm3 _ _)
  · rw [if_pos z1, if_neg z2] at hbad
    exact bad1 _ _ m' (hbad _ _ rfl) hm _
  · rw [if_neg z1] at hbad
    exact bad1 _ _ m' (hbad _ _ rfl) hm _
/-- a law's loop -/
theorem r_se {Q : MM → Prop} (rc : RC m0 cc E tk nb 21) {L : Nat} {f : Nat → Int} : ∀ (n i : Nat) (w : Bool) (c : Cde) (x1 x2 : Int), n + x2.toNat = 300 → 0 ≤ x2 → x1 = (if w then 1 else 0) → i ≤ E → L + c.length + (orW w).length ≤ i → (∀ ft j, pSe (pAsk tk nb 21 8) tk n i w c = .inl (ft, j) → ∀ m', FdM m0 cc E ft (m0 4 j) m' → N G (d + 21) mi_X2_readSees 162 [some (vr 2), none, none, none] [] m' (RV Q)) → (∀ i' c', pSe (pAsk tk nb 21 8) tk n i w c = .inr (i', c') → N G (d + 21) mi_X2_readSees 162 [some (vr 2), none, none, none] [] (cs m0 cc i' L f c') (RV Q)) → N G (d + 21) mi_X2_readSees 29 [some (vr 2), some (vi x1), some (vi x2), none] [] (cs m0 cc i L f c) (RV Q) := by
  have hE300 : E ≤ 300 := rc.2.2.2.2.2.1
  have h36 : tk E = 36 := rc.2.2.2.2.2.2.2.2.2.2.2.1
  have hnb : ∀ i, i < E → tk i = 35 → 0 ≤ nb i := fun i hi _ => (rc.2.2.2.2.2.2.2.2.2.1 i hi).2.1
  have ask : HAs G (d + 20) 0 m0 cc E (pAsk tk nb 21 8) := r_ask rc (Or.inr rfl) 8 d 0 (by omega) rfl
  -- failed
  have fl29 : ∀ (ft pl x1 x2 : Int) (m' : MM), (x1 = 0 ∨ x1 = 1) → rng x2 → FdM m0 cc E ft pl m' → (∀ m'', FdM m0 cc E ft pl m'' → N G (d + 21) mi_X2_readSees 162 [some (vr 2), none, none, none] [] m'' (RV Q)) → N G (d + 21) mi_X2_readSees 29 [some (vr 2), some (vi x1), some (vi x2), none] [] m' (RV Q) := by
    intro ft pl x1 x2 m' hx1 hx2 hm nx
    obtain ⟨t1, t2, t3, t4⟩ := hm.tok rc
    have f149 : N G (d + 21) mi_X2_readSees 149 [some (vr 2), some (vi x1), none, none] [] m' (RV Q) := g_X2_readSees_149 _ (eqI (by omega) (fun _ => nx m' hm) (fun _ => ⟨cc, ⟨t4, rc.1⟩, f_sign rc hm nx⟩))
    refine g_X2_readSees_29 _ _ (leI (by omega) (fun _ => f149) (fun _ => ⟨E, by omega, ?_⟩))
    rw [t1]
    refine eqF (by omega) ⟨E, by omega, ?_⟩
    rw [t1]
    exact eqF (by omega) f149
  have fin : ∀ (i : Nat) (w : Bool) (c : Cde) (x1 : Int), x1 = (if w then 1 else 0) → i ≤ E → L + c.length + (orW w).length ≤ i → N G (d + 21) mi_X2_readSees 162 [some (vr 2), none, none, none] [] (cs m0 cc i L f (c ++ orW w)) (RV Q) → N G (d + 21) mi_X2_readSees 149 [some (vr 2), some (vi x1), none, none] [] (cs m0 cc i L f c) (RV Q) := by
    intro i w c x1 h1 hi hl hq
    cases w with
    | false =>
      have h1 : x1 = 0 := h1
      rw [show orW false = [] from rfl, List.append_nil] at hq
      exact g_X2_readSees_149 _ (eqT (by omega) hq)
    | true =>
      have h1 : x1 = 1 := h1
      have hl : L + c.length + 1 ≤ i := hl
      exact g_X2_readSees_149 _ (eqF (by omega) ⟨cc, ⟨(rc.at hi _ _).2.2.2.1, rc.1⟩, r_sign (o := 22) (w := 0) c rc (by omega) (by decide) hq⟩)
  intro n
  induction n with
  | zero =>
    intro i w c x1 x2 hn h2 h1 hi hl hbad hok
    exact g_X2_readSees_29 _ _ (leT (by omega) (fin i w c x1 h1 hi hl (hok _ _ rfl)))
  | succ n ih =>
    intro i w c x1 x2 hn h2 h1 hi hl hbad hok
    obtain ⟨a1, a2, a3, a4, a5, a6⟩ := rc.at hi ((L + c.length : Nat) : Int) (wrt f L c)
    have e3 : cs m0 cc i L f c 3 i = tk i := a3
    have hx1 : x1 = 0 ∨ x1 = 1 := by cases w <;> simp at h1 <;> omega
    rw [pSe] at hbad hok
    -- the ask behind the word
    have go : ∀ (s0 x3 : Int) (w' : Bool) (c2 : Cde), s0 = (if w' then 1 else 0) → (tk i = 11 ∨ tk i = 10) → (x3 = 1 ∧ tk i = 11 ∧ w' = w ∧ c2 = c ∨ x3 = 0 ∧ tk i = 10 ∧ w' = true ∧ c2 = c ++ orW w) → N G (d + 21) mi_X2_readSees 114 [some (vr 2), none, some (vi x2), some (vi x3)] [vi s0] (cs m0 cc i L f c2) (RV Q) := by
      intro s0 x3 w' c2 hs0 hab hy
      have hl' := rc.lt hi (by omega)
      have hs01 : s0 = 0 ∨ s0 = 1 := by cases w' <;> simp at hs0 <;> omega
      have hc3 : L + c2.length ≤ i + 1 := by
        rcases hy with ⟨p1, p2, p3, p4⟩ | ⟨p1, p2, p3, p4⟩
        · rw [p4]; omega
        · rw [p4, List.length_append]; omega
      refine g_X2_readSees_114 _ _ _ (fun m1 q1 => ?_)
      have q1' : m1 = cst m0 cc ((i + 1 : Nat) : Int) ((L + c2.length : Nat) : Int) (wrt f L c2) := by
        rw [q1]
        unfold cs
        rw [cst_26, up_i]
        rfl
      rw [q1']
      have g := pAsk_gd (ln := 21) h36 hnb 8 (i + 1) (by omega)
      refine ask (i + 1) (L + c2.length) (wrt f L c2) _ (by omega) hc3 (fun ft j e m' hm => ?_) (fun i' c' e => ?_)
      · have nx : ∀ m'', FdM m0 cc E ft (m0 4 j) m'' → N G (d + 21) mi_X2_readSees 162 [some (vr 2), none, none, none] [] m'' (RV Q) := by
          refine hbad ft j ?_
          rcases hab with z | z
          · rw [if_pos z, e]
          · rw [if_neg (by omega), if_pos z, e]
        refine eqI (by omega) (fun _ => fl29 ft _ s0 _ m' hs01 (by omega) hm nx) (fun _ => ⟨cc, ⟨(hm.tok rc).2.2.2, rc.1⟩, f_sign rc hm (fun m2 hm2 => fl29 ft _ s0 _ m2 hs01 (by omega) hm2 nx)⟩)
      · rw [cs_app]
        rw [e] at g
        obtain ⟨g1, g2, g3, g4, g5⟩ := g
        rcases hy with ⟨p1, p2, p3, p4⟩ | ⟨p1, p2, p3, p4⟩
        · rw [if_pos p2, e] at hbad hok
          dsimp only at hbad hok
          subst p3 p4
          refine eqF (by omega) ⟨cc, ⟨(rc.at g2 _ _).2.2.2.1, rc.1⟩, r_sign (o := 21) (w := 0) (c2 ++ c') rc (by rw [List.length_append]; omega) (by decide) ?_⟩
          rw [List.append_assoc]
          exact ih i' w' _ _ _ (by omega) (by omega) hs0 g2 (by simp only [List.length_append, List.length_singleton]; omega) hbad hok
        · rw [if_neg (by omega), if_pos p2, e] at hbad hok
          dsimp only at hbad hok
          subst p3 p4
          rw [List.append_assoc]
          refine eqT (by omega) (ih i' true _ _ _ (by omega) (by omega) hs0 g2 ?_ hbad hok)
          show L + (c ++ (orW w ++ c')).length + 1 ≤ i'
          rw [List.length_append] at hc3
          simp only [List.length_append]
          omega
    have at64 : tk i = 11 ∨ tk i = 10 → N G (d + 21) mi_X2_readSees 64 [some (vr 2), some (vi x1), some (vi x2), none] [] (cs m0 cc i L f c) (RV Q) := by
      intro hab
      refine g_X2_readSees_64 _ _ ⟨i, ⟨a1, a2⟩, ?_⟩
      rw [e3]
      refine eqI (by omega) (fun z => g_X2_readSees_83 _ _ _ (eqF (by omega) (g_X2_readSees_101 _ _ _ ?_))) (fun z => g_X2_readSees_83 _ _ _ (eqT (by omega) ?_))
      · cases w with
        | false =>
          have h1 : x1 = 0 := h1
          exact eqT (by omega) (eqF (by omega) (go 0 1 false c rfl hab (Or.inl ⟨rfl, z, rfl, rfl⟩)))
        | true =>
          have h1 : x1 = 1 := h1
          exact eqF (by omega) (go 1 1 true c rfl hab (Or.inl ⟨rfl, z, rfl, rfl⟩))
      · cases w with
        | false =>
          have h1 : x1 = 0 := h1
          exact eqT (by omega) (g_X2_readSees_101 _ _ _ (eqT (by omega) (eqT (by omega) (go 1 0 true c rfl hab (Or.inr ⟨rfl, by omega, rfl, by rw [show orW false = [] from rfl, List.append_nil]⟩)))))
        | true =>
          have h1 : x1 = 1 := h1
          have hl : L + c.length + 1 ≤ i := hl
          refine eqF (by omega) ⟨cc, ⟨a4, rc.1⟩, r_sign (o := 22) (w := 0) c rc (by omega) (by decide) (g_X2_readSees_101 _ _ _ (eqF (by omega) ?_))⟩
          exact go 1 0 true (c ++ [(22, 0)]) rfl hab (Or.inr ⟨rfl, by omega, rfl, rfl⟩)
    refine g_X2_readSees_29 _ _ (leF (by omega) ⟨i, ⟨a1, a2⟩, ?_⟩)
    rw [e3]
    refine eqI (by omega) (fun z => at64 (Or.inl z)) (fun z => ⟨i, ⟨a1, a2⟩, ?_⟩)
    rw [e3]
    refine eqI (by omega) (fun z2 => at64 (Or.inr z2)) (fun z2 => ?_)
    rw [if_neg z, if_neg z2] at hok
    exact fin i w c x1 h1 hi hl (hok _ _ rfl)
end CRead5
