/-! ===== text: the reference reads ones and sums ===== -/
section RRead4
variable {G : GG} {d : Nat} {m mB : MM} {b : Nat → Int} {L E t0 i w o : Nat} {X : Nat → Int} {l : List Int} {ln : Int}
theorem e_sum {k : Int → MM → Prop} {one : Nat → Outc} {r : Nat} (rb : RB mB b L t0) (hE : tkI b L E = 36) (hE3 : E ≤ 300) (ho8 : o ≤ 8) (h1 : ∀ i, i ≤ E → Gd E i (VS (2 * r + 1) ln) (one i)) (hr : R1 G (d + 4) mB b L E t0 k o one) {l1 : List Int} (hl1 : l1 = [] ∨ ∃ l', l1 = 40 :: l') (hlo : LOK l1) (hlen : l1.length ≤ 3 * o) (hi : i ≤ E) (hw : w ≤ i) (h : ES mB b L m i w X o l1) (h21 : m 304 21 = 0)
    (hbad : ∀ ft jx, pSm one (tkI b L) i = .inl (ft, jx) → ∀ m', FrZ mB m' → m' 304 10 = (plI b L jx : Int) → k ft m')
    (hok : ∀ i' c', pSm one (tkI b L) i = .inr (i', c') → SOk G (d + 4) mB b L t0 k o w X l1 i' c') :
    N G (d + 4) mi_X8_summed 10 [some (vr 304), none] [] m (RI k) := by
  have tn : topN 2 l1 := by
    rcases hl1 with e | ⟨l', e⟩
    · rw [e]; trivial
    · rw [e]; exact ⟨by omega, by omega, by omega⟩
  unfold pSm at hbad hok
  have g := h1 i hi
  refine hr i w 0 X l1 m hi (by omega) (by omega) tn hlo (by omega) h h21 (fun ft jx e => ?_) (fun i' c e m' h' e' => ?_)
  · rw [e] at hbad; exact hbad ft jx rfl
  · rw [e] at g hbad hok
    obtain ⟨g1, g2, g3, g4, g5⟩ := g
    dsimp only at hbad hok
    rw [app_rep0, Nat.add_zero, Nat.sub_zero] at h'
    exact e_tl rb hE hE3 ho8 h1 hr hl1 hlo hlen 300 i' (-1) c c [] m' g2 (by omega) (Or.inl rfl) (Or.inl rfl) (by rw [show wts [] = [] from rfl, List.append_nil]) (by rw [flu_len, if_pos rfl]; omega) h' e' hbad hok
theorem e_one {k : Int → MM → Prop} (rb : RB mB b L t0) (hE : tkI b L E = 36) (hE3 : E ≤ 300) (hnb : ∀ i, i < E → tkI b L i = 35 → 0 ≤ nbI b L i) (hln : (ln = 18 ∧ mB 304 22 = 1) ∨ (ln = 21 ∧ mB 304 22 = 0)) : ∀ r, r ≤ 8 → R1 G (d + 5) mB b L E t0 k (8 - r) (pOne (tkI b L) (nbI b L) ln r) := by
  -- what a one begins with
  have base : ∀ (o : Nat) (deep : Nat → Outc), (∀ (i w j : Nat) (X : Nat → Int) (l0 : List Int) (m : MM), i < E → w + j ≤ i → j ≤ o → topN 2 l0 → LOK l0 → j + l0.length ≤ 3 * o + 2 → (tkI b L i = 32 ∨ tkI b L i = 29) → ES mB b L m i w X o (List.replicate j 2 ++ l0) → m 304 21 = 0 →
      (∀ ft jx, deep i = .inl (ft, jx) → ∀ m', FrZ mB m' → m' 304 10 = (plI b L jx : Int) → k ft m') →
      (∀ i' c, deep i = .inr (i', c) → ∀ m', ES mB b L m' i' (w + (c.length + j)) (wrX t0 X w (c ++ List.replicate j (2, 0))) (o - j) l0 → m' 304 21 = 1 → N G (d + 5) mi_X8_summed 10 [some (vr 304), none] [] m' (RI k)) →
      N G (d + 4) mi_X8_beginOne 106 [some (vr 304), none] [vi (if tkI b L i = 32 then 40 else 2)] m (RI fun z1 m2 => bEQ z1 0 (N G (d + 5) mi_X8_summed 10 [some (vr 304), none] [] m2 (RI k)) (k z1 m2))) → o ≤ 8 → R1 G (d + 5) mB b L E t0 k o (pO1 (tkI b L) (nbI b L) ln deep) := by
    intro o deep hd ho i w j X l0 m hi hw hj h0 hlo hlen h h21 hbad hok
    have rt := h.2.1.2.2.1
    have rg := rt.rng
    have i35 := rt.is (t0 := 35) (by omega)
    have i32 := rt.is (t0 := 32) (by omega)
    have i29 := rt.is (t0 := 29) (by omega)
    rw [show rtc 35 = 1 by decide] at i35
    rw [show rtc 32 = 40 by decide] at i32
    rw [show rtc 29 = 45 by decide] at i29
    have lt : tkI b L i ≠ 36 → i < E := fun z => by
      by_cases e : i = E
      · rw [e] at z; exact absurd hE z
      · omega
    have fr := h.1
    have pl := h.place
    have e22 : m 304 22 = mB 304 22 := fr.2.1 22 (by omega)
    unfold pO1 at hbad hok
    refine g_X8_summed_10 (eqT (by omega) (g_X8_summed_24 (eqT (by omega) ?_)))
    by_cases z35 : tkI b L i = 35
    · rw [if_pos z35] at hbad hok
      have hl := lt (by omega)
      have nr := h.2.1.2.2.2 z35
      obtain ⟨n1, n2, n3, n4, n5⟩ := nr
      refine g_X8_beginOne_0 (eqT (by omega) (leI (by omega) (fun z => ?_) (fun z => ?_)))
      · have zn : nbI b L i ≤ 9999 := by omega
        rw [if_pos zn] at hok
        rw [n2 zn]
        refine e_emit rb h (by omega) (fun m1 h1 e1 => e_next rb h1 (fun m2 h2 e2 => e_whole rb h0 j h2 hj (by omega) (by omega) (fun m3 h3 e3 => eqT (by omega) ?_)))
        refine hok _ _ rfl m3 ?_ e3
        rw [wrX_app, show w + (([((0, nbI b L i) : Int × Int)]).length + j) = w + 1 + j by simp; omega]
        exact h3
      · have zn : ¬ nbI b L i ≤ 9999 := fun q => by have := n2 q; omega
        rw [if_neg zn] at hbad
        exact eqF (by omega) (hbad _ _ rfl m fr pl)
    · rw [if_neg z35] at hbad hok
      refine g_X8_beginOne_0 (eqF (by omega) (e_nameOf rt (fun zn => ?_) (fun zn => ?_)))
      · rw [if_pos zn] at hbad hok
        have hl := lt (by omega)
        refine ltF (by omega) (e_nameOf rt (fun _ => ?_) (fun q => absurd zn q))
        have bar : ∀ K : Int → MM → Prop, (tkI b L i ≤ ln → K 0 m) → (¬ tkI b L i ≤ ln → K 1 m) → N G (d + 3) mi_X8_isBarred 0 [some (vr 304), some (vi (tkI b L i - 13))] [] m (RI K) := by
          intro K k0 k1
          refine g_X8_isBarred_0 _ (leI (by omega) (fun q => k0 (by omega)) (fun q => ?_))
          rw [e22]
          rcases hln with ⟨a1, a2⟩ | ⟨a1, a2⟩
          · exact eqT (by omega) (k1 (by omega))
          · exact eqF (by omega) (k0 (by omega))
        refine bar _ (fun q => eqT (by omega) (e_nameOf rt (fun _ => ?_) (fun q => absurd zn q))) (fun q => eqF (by omega) ?_)
        · rw [if_pos q] at hok
          refine e_emit rb h (by omega) (fun m1 h1 e1 => e_next rb h1 (fun m2 h2 e2 => e_whole rb h0 j h2 hj (by omega) (by omega) (fun m3 h3 e3 => eqT (by omega) ?_)))
          refine hok _ _ rfl m3 ?_ e3
          rw [wrX_app, show w + (([((1, tkI b L i - 13) : Int × Int)]).length + j) = w + 1 + j by simp; omega]
          exact h3
        · rw [if_neg q] at hbad
          exact eqF (by omega) (hbad _ _ rfl m fr pl)
      · rw [if_neg zn] at hbad hok
        refine ltT (by omega) ?_
        by_cases zp : tkI b L i = 32 ∨ tkI b L i = 29
        · rw [if_pos zp] at hbad hok
          have hl := lt (by omega)
          have := hd i w j X l0 m hl hw hj h0 hlo hlen zp h h21 hbad hok
          rcases zp with z | z
          · rw [if_pos z] at this
            exact eqT (by omega) this
          · rw [if_neg (by omega)] at this
            exact eqF (by omega) (eqT (by omega) this)
        · rw [if_neg zp] at hbad
          exact eqF (by omega) (eqF (by omega) (g_X8_beginOne_106 _ (eqT (by omega) (eqF (by omega) (hbad _ _ rfl m fr pl)))))
  intro r
  induction r with
  | zero =>
    intro _
    refine base (8 - 0) (fun i => .inl (3, i)) (fun i w j X l0 m hi hw hj h0 hlo hlen hz h h21 hbad hok => ?_) (by omega)
    have e20 : m 304 20 = ((8 - 0 : Nat) : Int) := h.2.2.2.2.1
    have pl := h.place
    refine g_X8_beginOne_106 _ (eqF ⟨?_, ?_⟩ (eqT (by omega) (eqF (by omega) (hbad _ _ rfl m h.1 pl))))
    · split <;> omega
    · split <;> omega
  | succ r ih =>
    intro hr8
    refine base (8 - (r + 1)) _ (fun i w j X l0 m hi hw hj h0 hlo hlen hz h h21 hbad hok => ?_) (by omega)
    have ih' := ih (by omega)
    have g1 : ∀ i, i ≤ E → Gd E i (VS (2 * r + 1) ln) (pOne (tkI b L) (nbI b L) ln r i) := fun i hi => pOne_gd hE hnb r i hi
    have e20 : m 304 20 = ((8 - (r + 1) : Nat) : Int) := h.2.2.2.2.1
    have lenl : (List.replicate j (2 : Int) ++ l0).length = j + l0.length := by simp
    refine g_X8_beginOne_106 _ (eqF ⟨?_, ?_⟩ (eqF (by omega) (fun m1 q1 => ?_)))
    · split <;> omega
    · split <;> omega
    have h1 := h.opens (o' := 8 - r) q1 (by rw [e20]; omega)
    refine e_push h1.1 (by omega) (fun m3 h3 e3 => e_next rb h3 (fun m5 h5 e5 => eqT (by omega) ?_))
    have e521 : m5 304 21 = 0 := by rw [e5, e3, h1.2]; exact h21
    by_cases zp : tkI b L i = 32
    · simp only [if_pos zp] at hbad hok
      rw [if_pos zp] at h5
      refine e_sum (d := d + 1) rb hE hE3 (by omega) g1 ih' (l1 := 40 :: (List.replicate j 2 ++ l0)) (Or.inr ⟨_, rfl⟩) (fun x hx => ?_) (by rw [List.length_cons]; omega) (by omega) (by omega) h5 e521 (fun ft jx e => ?_) (fun i' c' e => ?_)
      · rcases List.mem_cons.mp hx with q | q
        · omega
        · rcases List.mem_append.mp q with q | q
          · have := List.eq_of_mem_replicate q; omega
          · exact hlo x q
      · rw [e] at hbad; exact hbad ft jx rfl
      · have g := pSm_gd hE g1 (i + 1) (by omega)
        rw [e] at g hbad hok
        obtain ⟨k1, k2, k3, k4, k5⟩ := g
        dsimp only at hbad hok
        intro m' cr pd ec hpd hp2 h' h21' hno
        have lenp : (pd ++ 40 :: (List.replicate j (2 : Int) ++ l0)).length = pd.length + (j + l0.length + 1) := by simp
        have lokA : LOK (pd ++ 40 :: (List.replicate j 2 ++ l0)) := fun x hx => by
          rcases List.mem_append.mp hx with q | q
          · have := hpd x q; omega
          · rcases List.mem_cons.mp q with q | q
            · omega
            · rcases List.mem_append.mp q with q | q
              · have := List.eq_of_mem_replicate q; omega
              · exact hlo x q
        have mem40 : (40 : Int) ∈ pd ++ 40 :: (List.replicate j 2 ++ l0) := List.mem_append_right _ (List.mem_cons_self)
        have clen : c'.length = cr.length + pd.length := by rw [ec, List.length_append, wts_len]
        by_cases z33 : tkI b L i' = 33
        · rw [if_pos z33] at hok
          have hi' : i' < E := by
            by_cases e : i' = E
            · rw [e, hE] at z33; omega
            · omega
          refine g_X8_summed_10 (eqF (by omega) (e_goesOn h' lokA (by omega) (fun _ => eqF (by omega) (g_X8_summed_24 (eqF (by omega) ?_))) (fun q => absurd (Or.inr ⟨z33, mem40⟩) q)))
          refine e_behindClose rb j z33 h' hpd h0 (by omega) (by omega) (by omega) (fun m6 h6 e6 => eqT (by omega) (hok _ _ rfl m6 ?_ e6))
          rw [ec, List.append_assoc, wrX_app, List.length_append, wts_len, show w + (cr.length + pd.length + j) = w + cr.length + pd.length + j by omega, show 8 - (r + 1) - j = 8 - r - 1 - j by omega]
          exact h6
        · rw [if_neg z33] at hbad
          refine g_X8_summed_10 (eqF (by omega) (e_goesOn h' lokA (by omega) (fun q => ?_) (fun _ => eqT (by omega) ?_)))
          · rcases q with q | q
            · exact absurd q hno
            · exact absurd q.1 z33
          refine e_settle (by omega) rb (l0 := 40 :: (List.replicate j 2 ++ l0)) ⟨Or.inl (by omega), by omega, by omega⟩ pd _ _ m' hpd h' (by omega) (by rw [List.length_cons]; omega) (fun m6 h6 e6 => ?_)
          have e19 : m6 304 19 = (((List.replicate j (2 : Int) ++ l0).length + 1 : Nat) : Int) := h6.2.2.2.2.2.1
          exact leF (by omega) (hbad _ _ rfl m6 h6.1 h6.place)
    · have z29 : tkI b L i = 29 := by omega
      simp only [if_neg zp] at hbad hok
      rw [if_neg zp] at h5
      have h5' : ES mB b L m5 (i + 1) w X (8 - r) (List.replicate (j + 1) 2 ++ l0) := by
        rw [List.replicate_succ, List.cons_append]; exact h5
      refine ih' (i + 1) w (j + 1) X l0 m5 (by omega) (by omega) (by omega) h0 hlo (by omega) h5' e521 (fun ft jx e => ?_) (fun i' c' e m' h' e' => ?_)
      · rw [e] at hbad; exact hbad ft jx rfl
      · rw [e] at hok
        refine hok _ _ rfl m' ?_ e'
        have e1 : c' ++ [((2, 0) : Int × Int)] ++ List.replicate j (2, 0) = c' ++ List.replicate (j + 1) (2, 0) := by
          rw [List.append_assoc, List.replicate_succ]; rfl
        rw [e1, List.length_append, List.length_singleton, show w + (c'.length + 1 + j) = w + (c'.length + (j + 1)) by omega, show 8 - (r + 1) - j = 8 - r - (j + 1) by omega]
        exact h'
/-- the same, whatever lies on the pile -/
def EW (mB : MM) (b : Nat → Int) (L : Nat) (m : MM) (i w : Nat) (X : Nat → Int) (o : Nat) : Prop := FrZ mB m ∧ RT b L m i ∧ m 304 16 = (w : Int) ∧ m 308 = X ∧ m 304 20 = (o : Int) ∧ True
theorem ES.ew (h : ES mB b L m i w X o l) : EW mB b L m i w X o := ⟨h.1, h.2.1, h.2.2.1, h.2.2.2.1, h.2.2.2.2.1, trivial⟩
theorem EW.place (h : EW mB b L m i w X o) : m 304 10 = (plI b L i : Int) := h.2.1.2.1
theorem EW.opens {z : Int} {o' : Nat} {m1 : MM} (h : EW mB b L m i w X o) (q : m1 = upm m 304 20 z) (hz : z = (o' : Int)) : EW mB b L m1 i w X o' := by
  obtain ⟨h1, h2, h3, h4, h5, -⟩ := h
  exact ⟨by rw [q]; exact h1.up (by omega), h2.as (fun j _ _ => by rw [q, upm_j _ _ (by omega)]), by rw [q, upm_j _ _ (by omega)]; exact h3, by rw [q, upm_c (by omega)]; exact h4, by rw [q, upm_at]; exact hz, trivial⟩
theorem w_next {Q : MM → Prop} (rb : RB mB b L t0) (h : EW mB b L m i w X o) (next : ∀ m', EW mB b L m' (i + 1) w X o → Q m') : N G (d + 2) mi_X8_nextToken 0 [some (vr 304), none, none] [] m (RV Q) := by
  obtain ⟨h1, h2, h3, h4, h5, -⟩ := h
  refine c_nextToken (i := i + 1) (h1.tp rb) h2.1 (fun m' f r => next m' ⟨⟨fun c c1 c2 c3 => (f.1 c c1).trans (h1.1 c c1 c2 c3), fun j hj => (f.2 j (by omega)).trans (h1.2.1 j hj), fun j hj => by rw [f.1 308 (by omega)]; exact h1.2.2 j hj⟩, r, ?_, ?_, ?_, trivial⟩)
  · rw [f.2 16 (by omega)]; exact h3
  · rw [f.1 308 (by omega)]; exact h4
  · rw [f.2 20 (by omega)]; exact h5
/-- a sum alone -/
theorem e_summed {k : Int → MM → Prop} (rb : RB mB b L t0) (hE : tkI b L E = 36) (hE3 : E ≤ 300) (hnb : ∀ i, i < E → tkI b L i = 35 → 0 ≤ nbI b L i) (hln : (ln = 18 ∧ mB 304 22 = 1) ∨ (ln = 21 ∧ mB 304 22 = 0)) (r : Nat) (hr : r ≤ 8) (hi : i ≤ E) (hw : w ≤ i) (h : EW mB b L m i w X (8 - r))
    (hbad : ∀ ft jx, pSm (pOne (tkI b L) (nbI b L) ln r) (tkI b L) i = .inl (ft, jx) → ∀ m', FrZ mB m' → m' 304 10 = (plI b L jx : Int) → k ft m')
    (hok : ∀ i' c, pSm (pOne (tkI b L) (nbI b L) ln r) (tkI b L) i = .inr (i', c) → ∀ m', ES mB b L m' i' (w + c.length) (wrX t0 X w c) (8 - r) [] → k 0 m') : N G (d + 5) mi_X8_summed 0 [some (vr 304), none] [] m (RI k) := by
  have g1 : ∀ i, i ≤ E → Gd E i (VS (2 * r + 1) ln) (pOne (tkI b L) (nbI b L) ln r i) := fun i hi => pOne_gd hE hnb r i hi
  refine g_X8_summed_0 (fun m1 q1 m2 q2 => ?_)
  have h1 : ES mB b L m1 i w X (8 - r) [] := by
    obtain ⟨a1, a2, a3, a4, a5, -⟩ := h
    exact ⟨by rw [q1]; exact a1.up (by omega), a2.as (fun j _ _ => by rw [q1, upm_j _ _ (by omega)]), by rw [q1, upm_j _ _ (by omega)]; exact a3, by rw [q1, upm_c (by omega)]; exact a4, by rw [q1, upm_j _ _ (by omega)]; exact a5, by rw [q1, upm_at]; rfl, trivial⟩
  have h2 := h1.whole q2
  refine e_sum (d := d + 1) rb hE hE3 (by omega) g1 (e_one rb hE hE3 hnb hln r hr) (l1 := []) (Or.inl rfl) (fun x hx => (by cases hx)) (by simp) hi hw h2.1 h2.2 hbad (fun i' c' e => ?_)
  have g := pSm_gd hE g1 i hi
  rw [e] at g
  obtain ⟨k1, k2, k3, k4, k5⟩ := g
  intro m' cr pd ec hpd hp2 h' h21' hno
  rw [List.append_nil] at h'
  have clen : c'.length = cr.length + pd.length := by rw [ec, List.length_append, wts_len]
  refine g_X8_summed_10 (eqF (by omega) (e_goesOn h' (fun x hx => by have := hpd x hx; omega) (by omega) (fun q => ?_) (fun _ => eqT (by omega) ?_)))
  · rcases q with q | q
    · exact absurd q hno
    · have := hpd 40 q.2; omega
  refine e_settle (by omega) rb (l0 := []) trivial pd _ _ m' hpd (by rw [List.append_nil]; exact h') (by omega) (by simp; omega) (fun m6 h6 e6 => ?_)
  have e19 : m6 304 19 = 0 := h6.2.2.2.2.2.1
  refine leT (by omega) (hok _ _ e m6 ?_)
  rw [ec, wrX_app, List.length_append, wts_len, ← Nat.add_assoc]
  exact h6
end RRead4
