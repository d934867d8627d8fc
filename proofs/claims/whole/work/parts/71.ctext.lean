/-! ===== text: the class ===== -/
theorem tkB_rng (b : Nat → Int) (L q : Nat) : (0 ≤ tkB b L q ∧ tkB b L q ≤ 37) ∧ tkB b L q ≠ 36 := by
  unfold tkB
  by_cases h1 : isLt (b q)
  · rw [if_pos h1]
    rcases tw_rng (wdv b q (en b L q)) with h | h <;> omega
  · rw [if_neg h1]
    by_cases h2 : isDg (b q)
    · rw [if_pos h2]; omega
    · rw [if_neg h2]
      generalize b q = z
      generalize en b L q = w
      repeat' split
      all_goals omega
theorem tkI_rng (b : Nat → Int) (L i : Nat) : 0 ≤ tkI b L i ∧ tkI b L i ≤ 37 := by
  unfold tkI
  by_cases h : plI b L i < L
  · rw [if_pos h]; exact (tkB_rng b L _).1
  · rw [if_neg h]; omega
theorem tkB_36 (b : Nat → Int) (L q : Nat) : tkB b L q ≠ 36 := (tkB_rng b L q).2
theorem nbI_rng (b : Nat → Int) (L i : Nat) (hp : plI b L i < L) : 0 ≤ nbI b L i ∧ nbI b L i ≤ 10000 := by
  unfold nbI nbB
  split
  · rename_i h
    have := (nm_rel b (plI b L i) (en b L (plI b L i) - plI b L i) (fun j h1 h2 => by
      by_cases ej : j = plI b L i
      · rw [ej]; exact h
      · have hb := en_bd b hp
        refine runD_all b (L - (plI b L i + 1)) (plI b L i + 1) j (by omega) ?_
        have e : en b L (plI b L i) = runD b (L - (plI b L i + 1)) (plI b L i + 1) := by
          unfold en
          rw [if_neg (by omega), if_pos h]
        omega)).1
    exact this
  · omega
def x0 : Rds := (0, [], [], false, false)
theorem x0_ok (E : Nat) : RdOK E x0 := ⟨Nat.zero_le _, by decide, by decide, fun e he => (by cases he), ⟨fun h => (by cases h), fun ⟨e, he, _⟩ => (by cases he)⟩, ⟨fun h => (by cases h), fun ⟨e, he, _⟩ => (by cases he)⟩⟩
section CText
variable {G : GG} {d : Nat} {m : MM}
/-- the class's memory behind a text -/
def FrX (cc : Nat) (m m' : MM) : Prop := (∀ c, c ≠ 0 → c ≠ 2 → c ≠ 3 → c ≠ 4 → c ≠ 5 → c ≠ 12 → (c < cc ∨ cc + 5 ≤ c) → m' c = m c) ∧ (∀ b, b ≠ 2 → m' 0 b = m 0 b) ∧ (∀ b, b ≠ 5 → m' 12 b = m 12 b) ∧ m' 0 2 = 0
theorem c7_text {k : Int → MM → Prop} {b : Nat → Int} {L T : Nat} (ht : TpC b L m) (eL : m 0 2 = (L : Int)) (eT : m 12 5 = (T : Int)) (hT : T < 4)
    (hbad : ∀ ft j, pTx (tkI b L) (nbI b L) 300 x0 = .inl (ft, j) → ∀ m', FrX (284 + 5 * T) m m' → m' 12 5 = (T : Int) → m' 2 0 = ft → m' 2 1 = (plI b L j : Int) → (1 ≤ ft ∧ ft ≤ 6) → k (-1) m')
    (hok : ∀ y, pTx (tkI b L) (nbI b L) 300 x0 = .inr y → ∀ m' f0, FrX (284 + 5 * T) m m' → m' 12 5 = (T : Int) + 1 → m' 2 0 = 0 → m' 2 1 = -1 → ClC m' (284 + 5 * T) y → m' (284 + 5 * T + 4) = wrt f0 0 y.2.2.1 → (∃ E, E ≤ 300 ∧ RdOK E y ∧ tkI b L y.1 = 36) → k (T : Int) m') : N G (d + 24) mi_X7_text 0 [some (vr 0), none] [] m (RI k) := by
  generalize hcc : 284 + 5 * T = cc at *
  generalize hR : pTx (tkI b L) (nbI b L) 300 x0 = R at *
  have h5 : SH cc = .inr 5 := by rw [← hcc]; exact sh_scr hT
  have hL := ht.1
  refine g_X7_text_0 ?_
  rw [eT]
  refine ltT (by omega) ⟨T, by omega, ?_⟩
  rw [hcc, eL]
  refine g_X2_begin_0 cc h5 _ (fun m1 q1 m2 q2 m3 q3 => ⟨cc, ⟨by rw [q3, upm_at], h5⟩, ?_⟩)
  refine g_X5_clear_0 cc h5 (fun m4 q4 m5 q5 m6 q6 m7 q7 => ⟨by omega, ?_⟩)
  have o7 : ∀ c, c ≠ 2 → c ≠ cc → m7 c = m c := fun c c2 c3 => by rw [q7, upm_c c3, q6, upm_c c3, q5, upm_c c3, q4, upm_c c3, q3, upm_c c2, q2, upm_c c2, q1, upm_c c2]
  have t7 : TpC b L m7 := ⟨hL, fun j hj => by rw [o7 1 (by omega) (by omega)]; exact ht.2 j hj⟩
  have z2 : ∀ j, m7 2 j = m3 2 j := fun j => by rw [q7, upm_c (by omega), q6, upm_c (by omega), q5, upm_c (by omega), q4, upm_c (by omega)]
  have eim : imin (L : Int) 300 = (L : Int) := by unfold imin; split <;> omega
  rw [eim]
  refine c2_scan t7 rfl (fun m8 E f8 g8 lx m9 q9 => ?_)
  obtain ⟨l1, l2, l3, l4⟩ := lx
  -- the beginning
  have o9 : ∀ c, c ≠ 2 → c ≠ 3 → c ≠ 4 → c ≠ 5 → c ≠ cc → m9 c = m c := fun c c2 c3 c4 c5 c6 => by rw [q9, upm_c c2, f8 c c2 c3 c4 c5, o7 c c2 c6]
  have c9 : ∀ bb, m9 cc bb = m7 cc bb := fun bb => by rw [q9, upm_c (by omega), f8 cc (by omega) (by omega) (by omega) (by omega)]
  have d9 : ∀ bb, bb ≠ 5 → bb ≠ 6 → m9 2 bb = m3 2 bb := fun bb b5 b6 => by rw [q9, upm_j _ _ b6, g8 bb b5, z2]
  have e20 : m9 2 0 = 0 := by rw [d9 0 (by omega) (by omega), q3, upm_j _ _ (by omega), q2, upm_j _ _ (by omega), q1, upm_at]
  have e21 : m9 2 1 = -1 := by rw [d9 1 (by omega) (by omega), q3, upm_j _ _ (by omega), q2, upm_at]
  have e28 : m9 2 8 = (cc : Int) := by rw [d9 8 (by omega) (by omega), q3, upm_at]
  have e25 : m9 2 5 = (E : Int) := by rw [q9, upm_j _ _ (by omega)]; exact l1
  have a0 : m9 cc 0 = 0 := by rw [c9, q7, upm_j _ _ (by omega), q6, upm_j _ _ (by omega), q5, upm_j _ _ (by omega), q4, upm_at]
  have a5 : m9 cc 5 = 0 := by rw [c9, q7, upm_j _ _ (by omega), q6, upm_j _ _ (by omega), q5, upm_at]
  have a6 : m9 cc 6 = -1 := by rw [c9, q7, upm_j _ _ (by omega), q6, upm_at]
  have a8 : m9 cc 8 = -1 := by rw [c9, q7, upm_at]
  have tE : tkI b L E = 36 := by unfold tkI; rw [if_neg (by omega)]
  have rc : RC m9 cc E (tkI b L) (nbI b L) (m9 2 7) := by
    refine ⟨h5, by omega, e28, e20, e25, l2, rfl, rfl, fun j hj => ?_, fun j hj => ?_, by omega, tE, fun j hj => ?_⟩
    · refine ⟨?_, tkI_rng b L j⟩
      rw [q9, upm_c (by omega)]; exact (l4 j hj).1
    · have := (l4 j (by omega)).2.2 hj
      refine ⟨?_, nbI_rng b L j this.2⟩
      rw [q9, upm_c (by omega)]; exact this.1
    · have := (l4 j (by omega)).2.2 hj
      unfold tkI
      rw [if_pos this.2]
      exact tkB_36 _ _ _
  have pl9 : ∀ j, j ≤ E → m9 4 j = (plI b L j : Int) := fun j hj => by rw [q9, upm_c (by omega)]; exact (l4 j hj).2.1
  have sc0 : SCl m9 cc (m9 (cc + 4)) m9 x0 := ⟨fun _ _ _ => rfl, fun _ _ _ _ _ => rfl, e20, e21, by rw [q9, upm_at]; rfl, a5, rfl, a0, fun q hq => absurd hq (by show ¬ q < 0; omega), fun _ => a6, fun h => (by cases h), fun _ => a8, fun h => (by cases h)⟩
  have hnb : ∀ i, i < E → tkI b L i = 35 → 0 ≤ nbI b L i := fun i hi _ => (rc.2.2.2.2.2.2.2.2.2.1 i hi).2.1
  have h0 : ∀ i, i ≤ E → 0 ≤ tkI b L i := fun i hi => (tkI_rng b L i).1
  -- the ends
  have endB : ∀ (ft : Int) (j : Nat) (m' : MM), (R = .inl (ft, j)) → j ≤ E → FdM m9 cc E ft (m9 4 j) m' → N G (d + 24) mi_X7_text 72 [some (vr 0), none] [] m' (RI k) := by
    intro ft j m' e hj hm
    obtain ⟨u1, u2, u3, u4, u5, u6, u7, u8⟩ := hm
    refine g_X7_text_72 (fun n1 p1 => ?_)
    have p0 : n1 2 0 = ft := by rw [p1, upm_c (by omega)]; exact u2
    have fr : FrX cc m n1 := ⟨fun c c0 c2 c3 c4 c5 c12 cx => by rw [p1, upm_c c0, u7 c c2 cx, o9 c c2 c3 c4 c5 (by omega)], fun bb hb => by rw [p1, upm_j _ _ hb, u7 0 (by omega) (by omega), o9 0 (by omega) (by omega) (by omega) (by omega) (by omega)], fun bb _ => by rw [p1, upm_c (by omega), u7 12 (by omega) (by omega), o9 12 (by omega) (by omega) (by omega) (by omega) (by omega)], by rw [p1, upm_at]⟩
    refine eqF (by omega) (hbad ft j e n1 fr ?_ p0 ?_ u1)
    · rw [p1, upm_c (by omega), u7 12 (by omega) (by omega), o9 12 (by omega) (by omega) (by omega) (by omega) (by omega)]; exact eT
    · rw [p1, upm_c (by omega), u3]; exact pl9 j hj
  have loop : ∀ (n : Nat) (x : Rds) (x1 : Int) (m' : MM), n + x1.toNat = 300 → 0 ≤ x1 → 300 ≤ n + x.1 → RdOK E x → SCl m9 cc (m9 (cc + 4)) m' x → R = pTx (tkI b L) (nbI b L) n x → N G (d + 24) mi_X7_text 42 [some (vr 0), some (vi x1)] [] m' (RI k) := by
    intro n
    have endO : ∀ (x : Rds) (m' : MM), RdOK E x → tkI b L x.1 = 36 → SCl m9 cc (m9 (cc + 4)) m' x → R = .inr x → N G (d + 24) mi_X7_text 72 [some (vr 0), none] [] m' (RI k) := by
      intro x m' hx h36 hs e
      obtain ⟨s1, s2, s3, s4, s5, s6, s7, s8⟩ := hs
      have g12 : m' 12 5 = (T : Int) := by rw [s1 12 (by omega) (by omega), o9 12 (by omega) (by omega) (by omega) (by omega) (by omega)]; exact eT
      refine g_X7_text_72 (fun n1 p1 => eqT ⟨?_, ?_⟩ (fun n2 p2 => ?_))
      · rw [p1, upm_c (by omega), s3]; omega
      · rw [p1, upm_c (by omega)]; exact s3
      · have e12 : n2 12 5 = (T : Int) + 1 := by rw [p2, upm_at, p1, upm_c (by omega), g12]
        have eo : ∀ c, c ≠ 0 → c ≠ 12 → n2 c = m' c := fun c c0 c12 => by rw [p2, upm_c c12, p1, upm_c c0]
        rw [e12, show (T : Int) + 1 - 1 = (T : Int) by omega]
        refine hok x e n2 (m9 (cc + 4)) ⟨fun c c0 c2 c3 c4 c5 c12 cx => by rw [eo c c0 c12, s1 c c2 cx, o9 c c2 c3 c4 c5 (by omega)], fun bb hb => by rw [p2, upm_c (by omega), p1, upm_j _ _ hb, s1 0 (by omega) (by omega), o9 0 (by omega) (by omega) (by omega) (by omega) (by omega)], fun bb hb => by rw [p2, upm_j _ _ hb, p1, upm_c (by omega), s1 12 (by omega) (by omega), o9 12 (by omega) (by omega) (by omega) (by omega) (by omega)], by rw [p2, upm_c (by omega), p1, upm_at]⟩ e12 (by rw [eo 2 (by omega) (by omega)]; exact s3) (by rw [eo 2 (by omega) (by omega)]; exact s4) ?_ (by rw [eo _ (by omega) (by omega)]; exact s7) ⟨E, l2, hx, h36⟩
        unfold ClC at s8 ⊢
        rw [eo cc (by omega) (by omega), eo (cc + 1) (by omega) (by omega), eo (cc + 2) (by omega) (by omega), eo (cc + 3) (by omega) (by omega)]
        exact s8
    induction n with
    | zero =>
      intro x x1 m' hn h1 hx1 hx hs e
      have : x.1 = E := by have := hx.1; omega
      exact g_X7_text_42 _ (leT (by omega) (endO x m' hx (by rw [this]; exact tE) hs e))
    | succ n ih =>
      intro x x1 m' hn h1 hx1 hx hs e
      have s2 := hs.2.1
      have s5 := hs.2.2.2.2.1
      have g5 : m' 2 5 = (E : Int) := by rw [s2 5 (by omega) (by omega) (by omega) (by omega)]; exact e25
      have hxE := hx.1
      refine g_X7_text_42 _ (leF (by omega) (g_X2_hasMore_0 ?_))
      rw [g5, s5]
      rw [pTx] at e
      refine leI (by omega) (fun z => eqT (by omega) ?_) (fun z => eqF (by omega) ?_)
      · have xe : x.1 = E := by omega
        rw [if_pos (by rw [xe]; exact tE)] at e
        exact endO x m' hx (by rw [xe]; exact tE) hs e
      · have h36 : tkI b L x.1 ≠ 36 := rc.2.2.2.2.2.2.2.2.2.2.2.2 x.1 (by omega)
        rw [if_neg h36] at e
        have g := pCl_gd tE hnb h0 hx
        refine r_readClause rc hx hs (fun ft j ec m2 hm => ?_) (fun y ec m2 hs2 => ?_)
        · rw [ec] at g e
          have hj : j ≤ E := g.2
          -- failed: nothing more is read
          have u := hm.tok rc
          have u5 : m2 2 5 = (E : Int) := by rw [hm.2.2.2.2.2.2.2 5 (by omega) (by omega) (by omega) (by omega)]; exact e25
          refine g_X7_text_42 _ (leI (by omega) (fun _ => endB ft j m2 e hj hm) (fun _ => g_X2_hasMore_0 ?_))
          rw [u5, u.2.1]
          exact leT (by omega) (eqT (by omega) (endB ft j m2 e hj hm))
        · rw [ec] at g e
          have hy : RdOK E y := g.1
          have hlt : x.1 < y.1 := g.2
          exact ih y _ m2 (by omega) (by omega) (by omega) hy hs2 e
  exact loop 300 x0 0 m9 rfl (by omega) (by show 300 ≤ 300 + 0; omega) (x0_ok E) sc0 hR.symm
end CText
