/-! ===== text: the reference reads a clause, whole ===== -/
def c0d : Int × Int := (0, 0)
theorem wrX_out (t0 : Nat) : ∀ (c : Cde) (X : Nat → Int) (w j : Nat), (j < t0 + 75 + 2 * w ∨ t0 + 75 + 2 * (w + c.length) ≤ j) → wrX t0 X w c j = X j := by
  intro c
  induction c with
  | nil => intro X w j _; rfl
  | cons x c ih =>
    intro X w j h
    obtain ⟨o, v⟩ := x
    rw [List.length_cons] at h
    rw [wrX, ih _ _ _ (by omega), up_ne _ _ (by omega), up_ne _ _ (by omega)]
theorem wrX_at (t0 : Nat) : ∀ (c : Cde) (X : Nat → Int) (w q : Nat), q < c.length → wrX t0 X w c (t0 + 75 + 2 * (w + q)) = (c.getD q c0d).1 ∧ wrX t0 X w c (t0 + 75 + 2 * (w + q) + 1) = (c.getD q c0d).2 := by
  intro c
  induction c with
  | nil => intro X w q h; exact absurd h (Nat.not_lt_zero q)
  | cons x c ih =>
    intro X w q h
    obtain ⟨o, v⟩ := x
    rw [List.length_cons] at h
    rw [wrX]
    cases q with
    | zero =>
      show wrX t0 _ (w + 1) c (t0 + 75 + 2 * w) = o ∧ wrX t0 _ (w + 1) c (t0 + 75 + 2 * w + 1) = v
      rw [wrX_out _ _ _ _ _ (by omega), wrX_out _ _ _ _ _ (by omega), up_ne _ _ (by omega), up_at, up_at]
      exact ⟨rfl, rfl⟩
    | succ q =>
      have := ih (up (up X (t0 + 75 + 2 * w) o) (t0 + 75 + 2 * w + 1) v) (w + 1) q (by omega)
      rw [show w + 1 + q = w + (q + 1) by omega] at this
      exact this
/-- the reference's row of what has been read -/
def XR (X0 : Nat → Int) (t0 : Nat) (X : Nat → Int) (x : Rds) : Prop := (∀ j, j < t0 ∨ t0 + 680 ≤ j → X j = X0 j) ∧ X t0 = (x.2.1.length : Int) ∧ (∀ q, q < x.2.1.length → X (t0 + 1 + 3 * q) = (x.2.1.getD q d0).1 ∧ X (t0 + 2 + 3 * q) = (x.2.1.getD q d0).2.1 ∧ ((x.2.1.getD q d0).1 ≠ 4 → (x.2.1.getD q d0).1 ≠ 6 → X (t0 + 3 + 3 * q) = (x.2.1.getD q d0).2.2)) ∧ ∀ q, q < x.2.2.1.length → X (t0 + 75 + 2 * q) = (x.2.2.1.getD q c0d).1 ∧ X (t0 + 75 + 2 * q + 1) = (x.2.2.1.getD q c0d).2
theorem XR.ext {X0 X X' : Nat → Int} {t0 : Nat} {x : Rds} (h : XR X0 t0 X x) (hn : x.2.1.length < 24) (e : Int × Int × Int) (c : Cde) (i' : Nat) (b1 b2 : Bool) (hk : ∀ j, (j < t0 ∨ (t0 < j ∧ j < t0 + 1 + 3 * x.2.1.length) ∨ (t0 + 75 ≤ j ∧ j < t0 + 75 + 2 * x.2.2.1.length) ∨ t0 + 680 ≤ j) → X' j = X j) (h0 : X' t0 = (x.2.1.length : Int) + 1) (h1 : X' (t0 + 1 + 3 * x.2.1.length) = e.1) (h2 : X' (t0 + 2 + 3 * x.2.1.length) = e.2.1) (h3 : e.1 ≠ 4 → e.1 ≠ 6 → X' (t0 + 3 + 3 * x.2.1.length) = e.2.2) (hc : ∀ q, q < c.length → X' (t0 + 75 + 2 * (x.2.2.1.length + q)) = (c.getD q c0d).1 ∧ X' (t0 + 75 + 2 * (x.2.2.1.length + q) + 1) = (c.getD q c0d).2) : XR X0 t0 X' (i', x.2.1 ++ [e], x.2.2.1 ++ c, b1, b2) := by
  obtain ⟨a1, a2, a3, a4⟩ := h
  refine ⟨fun j hj => (hk j (by omega)).trans (a1 j hj), ?_, fun q hq => ?_, fun q hq => ?_⟩
  · show X' t0 = (((x.2.1 ++ [e]).length : Nat) : Int)
    rw [h0, List.length_append, List.length_singleton]; omega
  · have hq : q < (x.2.1 ++ [e]).length := hq
    rw [List.length_append, List.length_singleton] at hq
    show X' (t0 + 1 + 3 * q) = ((x.2.1 ++ [e]).getD q d0).1 ∧ X' (t0 + 2 + 3 * q) = ((x.2.1 ++ [e]).getD q d0).2.1 ∧ (((x.2.1 ++ [e]).getD q d0).1 ≠ 4 → ((x.2.1 ++ [e]).getD q d0).1 ≠ 6 → X' (t0 + 3 + 3 * q) = ((x.2.1 ++ [e]).getD q d0).2.2)
    by_cases eq : q = x.2.1.length
    · subst eq
      rw [getD_eq]
      exact ⟨h1, h2, h3⟩
    · have hq' : q < x.2.1.length := by omega
      rw [getD_lt hq', hk _ (by omega), hk _ (by omega), hk _ (by omega)]
      exact a3 q hq'
  · have hq : q < (x.2.2.1 ++ c).length := hq
    rw [List.length_append] at hq
    show X' (t0 + 75 + 2 * q) = ((x.2.2.1 ++ c).getD q c0d).1 ∧ X' (t0 + 75 + 2 * q + 1) = ((x.2.2.1 ++ c).getD q c0d).2
    by_cases hq' : q < x.2.2.1.length
    · rw [hk _ (by omega), hk _ (by omega), List.getD_eq_getElem?_getD, List.getElem?_append_left hq', ← List.getD_eq_getElem?_getD]
      exact a4 q hq'
    · have := hc (q - x.2.2.1.length) (by omega)
      rw [show x.2.2.1.length + (q - x.2.2.1.length) = q by omega] at this
      rw [List.getD_eq_getElem?_getD, List.getElem?_append_right (by omega), ← List.getD_eq_getElem?_getD]
      exact this
def FrY (t0 : Nat) (mT m : MM) : Prop := (∀ c, c ≠ 304 → c ≠ 308 → c ≠ 310 → m c = mT c) ∧ (∀ j, (j < 9 ∨ 24 ≤ j) → m 304 j = mT 304 j) ∧ ∀ j, j < t0 → m 308 j = mT 308 j
def onc (x : Rds) : Int := (if x.2.2.2.1 then 1 else 0) + (if x.2.2.2.2 then 2 else 0)
def CLs (mT : MM) (b : Nat → Int) (L t0 : Nat) (X0 : Nat → Int) (m : MM) (x : Rds) : Prop := FrY t0 mT m ∧ RT b L m x.1 ∧ m 304 14 = (t0 : Int) ∧ m 304 16 = (x.2.2.1.length : Int) ∧ m 304 20 = 0 ∧ m 304 23 = onc x ∧ XR X0 t0 (m 308) x
theorem FrZ.frY {t0 : Nat} {mT mB m : MM} (h : FrZ mB m) (hb : FrY t0 mT mB) (e14 : mB 304 14 = (t0 : Int)) : FrY t0 mT m := ⟨fun c c1 c2 c3 => (h.1 c c1 c2 c3).trans (hb.1 c c1 c2 c3), fun j hj => (h.2.1 j (by omega)).trans (hb.2.1 j hj), fun j hj => (h.2.2 j (by omega)).trans (hb.2.2 j hj)⟩
theorem FrY.up {t0 : Nat} {mT m : MM} {j : Nat} {z : Int} (h : FrY t0 mT m) (hj : 9 ≤ j ∧ j < 24) : FrY t0 mT (upm m 304 j z) := ⟨fun c h1 h2 h3 => by rw [upm_c h1]; exact h.1 c h1 h2 h3, fun q hq => by rw [upm_j _ _ (by omega)]; exact h.2.1 q hq, fun q hq => by rw [upm_c (by omega)]; exact h.2.2 q hq⟩
theorem onc_rng (x : Rds) : 0 ≤ onc x ∧ onc x ≤ 3 := by unfold onc; cases x.2.2.2.1 <;> cases x.2.2.2.2 <;> simp
theorem onc_b0 (x : Rds) : iand (ishr (onc x) 0) 1 = if x.2.2.2.1 then 1 else 0 := by
  unfold onc
  cases x.2.2.2.1 <;> cases x.2.2.2.2 <;> decide +kernel
theorem onc_b1 (x : Rds) : iand (ishr (onc x) 1) 1 = if x.2.2.2.2 then 1 else 0 := by
  unfold onc
  cases x.2.2.2.1 <;> cases x.2.2.2.2 <;> decide +kernel
theorem or_b0 (p q : Bool) : ior ((if p = true then 1 else 0) + if q = true then 2 else 0) (ishl 1 0) = (if (p || decide ((0 : Int) = 0)) = true then 1 else 0) + if (q || decide ((0 : Int) = 1)) = true then 2 else 0 := by cases p <;> cases q <;> decide +kernel
theorem or_b1 (p q : Bool) : ior ((if p = true then 1 else 0) + if q = true then 2 else 0) (ishl 1 1) = (if (p || decide ((1 : Int) = 0)) = true then 1 else 0) + if (q || decide ((1 : Int) = 1)) = true then 2 else 0 := by cases p <;> cases q <;> decide +kernel
theorem onc_or (x : Rds) (s : Int) (hs : s = 0 ∨ s = 1) (i' : Nat) (cl : Cls) (cd : Cde) : ior (onc x) (ishl 1 s) = onc (i', cl, cd, x.2.2.2.1 || decide (s = 0), x.2.2.2.2 || decide (s = 1)) := by
  unfold onc
  dsimp only
  rcases hs with rfl | rfl
  · exact or_b0 _ _
  · exact or_b1 _ _
section RRead7
variable {G : GG} {d : Nat} {m mT : MM} {b : Nat → Int} {L E t0 : Nat} {X0 : Nat → Int}
theorem e_clause {k : Int → MM → Prop} {x : Rds} (ht : Tp b L mT) (ht0 : t0 ≤ 2040) (hE : tkI b L E = 36) (hE3 : E ≤ 300) (hnb : ∀ i, i < E → tkI b L i = 35 → 0 ≤ nbI b L i) (hx : RdOK E x) (h : CLs mT b L t0 X0 m x)
    (hbad : ∀ ft jx, pCl (tkI b L) (nbI b L) x = .inl (ft, jx) → ∀ m', FrY t0 mT m' → m' 304 10 = (plI b L jx : Int) → k ft m')
    (hok : ∀ y, pCl (tkI b L) (nbI b L) x = .inr y → ∀ m', CLs mT b L t0 X0 m' y → k 0 m') : N G (d + 8) mi_X8_clause 0 [some (vr 304), none, none, none, none, none] [] m (RI k) := by
  obtain ⟨h1, h2, h3, h4, h5, h6, h7⟩ := h
  have rt := h2.2.2.1
  have t0' := (tkI_rng b L x.1).1
  have hi := hx.1
  have hcl := hx.2.2.1
  have hlen := hx.2.1
  have orr := onc_rng x
  have hX0 : m 308 t0 = (x.2.1.length : Int) := h7.2.1
  unfold pCl at hbad hok
  have hhr := pHead_rng (tk := tkI b L) x
  have bad0 : ∀ z, pHead (tkI b L) x = z → z ≠ 0 → k z m := fun z e hz => by
    rw [if_pos (by rw [e]; exact hz), e] at hbad
    exact hbad z x.1 rfl m h1 h2.2.1
  refine g_X8_clause_0 (e_sortOf t0' rt (fun z6 => leT (by omega) ?_) (fun z6 => leF (by omega) (bad0 1 (by unfold pHead; rw [if_pos (by omega)]) (by omega))))
  have hiE : x.1 < E := by
    by_cases e : x.1 = E
    · rw [e, hE] at z6; omega
    · omega
  -- no second law
  have p30 : ¬ (tkI b L x.1 = 0 ∧ x.2.2.2.1 = true ∨ tkI b L x.1 = 1 ∧ x.2.2.2.2 = true) → N G (d + 8) mi_X8_clause 30 [some (vr 304), some (vi (tkI b L x.1)), none, none, none, none] [] m (RI k) := by
    intro n4
    refine g_X8_clause_30 _ ⟨t0, ⟨h3, by omega⟩, ?_⟩
    rw [hX0]
    refine eqI (by omega) (fun z => bad0 6 (by unfold pHead; rw [if_neg (by omega), if_neg n4, if_pos (by omega)]) (by omega)) (fun z24 => ?_)
    have hd0 : pHead (tkI b L) x = 0 := by unfold pHead; rw [if_neg (by omega), if_neg n4, if_neg (by omega)]
    rw [if_neg (by rw [hd0]; decide)] at hbad hok
    have g := pBody_gd hE hnb (s := tkI b L x.1) (n := x.2.2.1.length) (i := x.1 + 1) ⟨t0', by omega⟩ (by omega) x.2.2.1
    -- behind the body: its entry, the stop
    have p165 : ∀ (mm m' : MM) (i' : Nat) (e : Int × Int × Int) (c : Cde) (X' : Nat → Int), RB mm b L t0 → FrY t0 mT mm → mm 304 23 = onc (i' + 1, x.2.1 ++ [e], x.2.2.1 ++ c, x.2.2.2.1 || decide (tkI b L x.1 = 0), x.2.2.2.2 || decide (tkI b L x.1 = 1)) → pBody (tkI b L) (nbI b L) (tkI b L x.1) x.2.2.1.length (x.1 + 1) = .inr (i', e, c) → EW mm b L m' i' (x.2.2.1.length + c.length) X' 0 → X' t0 = (x.2.1.length : Int) → (∀ X2 : Nat → Int, (∀ j, j ≠ t0 → X2 j = X' j) → X2 t0 = (x.2.1.length : Int) + 1 → XR X0 t0 X2 (i' + 1, x.2.1 ++ [e], x.2.2.1 ++ c, x.2.2.2.1 || decide (tkI b L x.1 = 0), x.2.2.2.2 || decide (tkI b L x.1 = 1))) → N G (d + 8) mi_X8_clause 165 [some (vr 304), none, none, none, none, none] [] m' (RI k) := by
      intro mm m' i' e c X' rb fm e23 eb hw hXt hXR
      rw [eb] at hbad hok g
      obtain ⟨g1, g2, g3, g4, g5⟩ := g
      dsimp only at hbad hok
      obtain ⟨w1, w2, w3, w4, w5, -⟩ := hw
      have b14 := rb.2.1
      have e14 : m' 304 14 = (t0 : Int) := (w1.2.1 14 (by omega)).trans rb.2.1
      refine g_X8_clause_165 ⟨t0, ⟨e14, by omega⟩, t0, ⟨e14, by omega⟩, fun m2 q2 => ?_⟩
      have rt' := w2.2.2.1
      have rg := rt'.rng
      have i34 := rt'.is (t0 := 34) (by omega)
      rw [show rtc 34 = 59 by decide] at i34
      have e11 : m2 304 11 = m' 304 11 := by rw [q2, upm_c (by omega)]
      have e308 : m2 308 = up X' t0 ((x.2.1.length : Int) + 1) := by rw [q2, upm_sc, sc_at, w4, hXt]
      have hw2 : EW mm b L m2 i' (x.2.2.1.length + c.length) (up X' t0 ((x.2.1.length : Int) + 1)) 0 := ⟨by rw [q2]; exact w1.upx (by omega), w2.as (fun j _ _ => by rw [q2, upm_c (by omega)]), by rw [q2, upm_c (by omega)]; exact w3, e308, by rw [q2, upm_c (by omega)]; exact w5, trivial⟩
      rw [e11]
      refine eqI (by omega) (fun z => ?_) (fun z => ?_)
      · have z34 := i34.mp z
        rw [if_pos z34] at hok
        refine w_next rb hw2 (fun m5 h5' => hok _ rfl m5 ?_)
        obtain ⟨v1, v2, v3, v4, v5, -⟩ := h5'
        refine ⟨v1.frY fm rb.2.1, v2, (v1.2.1 14 (by omega)).trans rb.2.1, ?_, v5, (v1.2.1 23 (by omega)).trans e23, ?_⟩
        · rw [v3]
          show _ = (((x.2.2.1 ++ c).length : Nat) : Int)
          rw [List.length_append]
        · rw [v4]
          exact hXR _ (fun j hj => up_ne _ _ hj) (up_at _ _ _)
      · have z34 : ¬ tkI b L i' = 34 := fun q => z (i34.mpr q)
        rw [if_neg z34] at hbad
        exact hbad _ _ rfl m2 (hw2.1.frY fm rb.2.1) hw2.place
    -- the body
    have p66 : ∀ (m2 : MM), FrY t0 mT m2 → RT b L m2 x.1 → m2 304 14 = (t0 : Int) → m2 304 16 = (x.2.2.1.length : Int) → m2 304 20 = 0 → m2 308 = m 308 → (∀ (i' : Nat) (cl : Cls) (cd : Cde), m2 304 23 = onc (i', cl, cd, x.2.2.2.1 || decide (tkI b L x.1 = 0), x.2.2.2.2 || decide (tkI b L x.1 = 1))) → N G (d + 8) mi_X8_clause 66 [some (vr 304), some (vi (tkI b L x.1)), some (vi (x.2.1.length : Int)), none, none, none] [] m2 (RI k) := by
      intro m2 f2 r2 e14 e16 e20 e308 e23
      refine g_X8_clause_66 _ _ (fun m1 q1 => ?_)
      have fm : FrY t0 mT m1 := by rw [q1]; exact f2.up (by omega)
      have rb : RB m1 b L t0 := ⟨⟨by rw [fm.2.1 6 (by omega)]; exact ht.1, ht.2.1, fun j hj => by rw [fm.1 309 (by omega) (by omega) (by omega)]; exact ht.2.2 j hj⟩, by rw [q1, upm_j _ _ (by omega)]; exact e14, ht0⟩
      have b14 := rb.2.1
      have e22 : m1 304 22 = tkI b L x.1 := by rw [q1, upm_at]
      have e23' : ∀ (i' : Nat) (cl : Cls) (cd : Cde), m1 304 23 = onc (i', cl, cd, x.2.2.2.1 || decide (tkI b L x.1 = 0), x.2.2.2.2 || decide (tkI b L x.1 = 1)) := fun i' cl cd => by rw [q1, upm_j _ _ (by omega)]; exact e23 i' cl cd
      have w1 : EW m1 b L m1 x.1 x.2.2.1.length (m 308) 0 := ⟨⟨fun _ _ _ _ => rfl, fun _ _ => rfl, fun _ _ => rfl⟩, r2.as (fun j _ _ => by rw [q1, upm_j _ _ (by omega)]), by rw [q1, upm_j _ _ (by omega)]; exact e16, by rw [q1, upm_c (by omega)]; exact e308, by rw [q1, upm_j _ _ (by omega)]; exact e20, trivial⟩
      refine w_next rb w1 (fun m3 w3 => ?_)
      have g14 : m3 304 14 = (t0 : Int) := (w3.1.2.1 14 (by omega)).trans rb.2.1
      refine ⟨t0 + 1 + 3 * x.2.1.length, by omega, fun m4 q4 => ?_⟩
      have w4 : EW m1 b L m4 (x.1 + 1) x.2.2.1.length (up (m 308) (t0 + 1 + 3 * x.2.1.length) (tkI b L x.1)) 0 := by
        obtain ⟨v1, v2, v3, v4, v5, -⟩ := w3
        refine ⟨by rw [q4]; exact v1.upx (by omega), v2.as (fun j _ _ => by rw [q4, upm_c (by omega)]), by rw [q4, upm_c (by omega)]; exact v3, by rw [q4, upm_sc, sc_at, v4], by rw [q4, upm_c (by omega)]; exact v5, trivial⟩
      have x3e : m3 304 14 + 1 + 3 * (x.2.1.length : Int) = ((t0 + 1 + 3 * x.2.1.length : Nat) : Int) := by rw [g14]; omega
      have g16 : m4 304 16 = (x.2.2.1.length : Int) := w4.2.2.1
      rw [x3e, g16]
      -- failed in the body
      have bad128 : ∀ (ft : Int) (jx : Nat) (m' : MM), pBody (tkI b L) (nbI b L) (tkI b L x.1) x.2.2.1.length (x.1 + 1) = .inl (ft, jx) → FrZ m1 m' → m' 304 10 = (plI b L jx : Int) → ∀ x4 : Int, N G (d + 8) mi_X8_clause 128 [some (vr 304), some (vi (tkI b L x.1)), none, some (vi ((t0 + 1 + 3 * x.2.1.length : Nat) : Int)), some (vi x4), none] [vi ft] m' (RI k) := by
        intro ft jx m' eb f' p' x4
        rw [eb] at hbad g
        have g : (1 ≤ ft ∧ ft ≤ 6) ∧ jx ≤ E := g
        exact g_X8_clause_128 _ _ _ _ (eqF (by omega) (hbad ft jx rfl m' (f'.frY fm rb.2.1) p'))
      -- a law
      have law : ∀ (s : Nat) (i' : Nat) (c : Cde) (m' : MM), (s = 0 ∨ s = 1) → tkI b L x.1 = (s : Int) → pBody (tkI b L) (nbI b L) (tkI b L x.1) x.2.2.1.length (x.1 + 1) = .inr (i', ((s : Int), (x.2.2.1.length : Int), ((x.2.2.1.length + c.length : Nat) : Int)), c) → EW m1 b L m' i' (x.2.2.1.length + c.length) (wrX t0 (up (m 308) (t0 + 1 + 3 * x.2.1.length) (tkI b L x.1)) x.2.2.1.length c) 0 → N G (d + 8) mi_X8_clause 128 [some (vr 304), some (vi (tkI b L x.1)), none, some (vi ((t0 + 1 + 3 * x.2.1.length : Nat) : Int)), some (vi (x.2.2.1.length : Int)), none] [vi 0] m' (RI k) := by
        intro s i' c m' hs etk eb w'
        have gg := g
        rw [eb] at gg
        obtain ⟨g1, g2, g3, g4, g5⟩ := gg
        obtain ⟨v1, v2, v3, v4, v5, -⟩ := w'
        refine g_X8_clause_128 _ _ _ _ (eqT (by omega) (leF (by omega) ⟨t0 + 1 + 3 * x.2.1.length + 1, by omega, fun n1 p1 => ⟨t0 + 1 + 3 * x.2.1.length + 2, by omega, fun n3 p3 => ?_⟩⟩))
        have e16' : n1 304 16 = ((x.2.2.1.length + c.length : Nat) : Int) := by rw [p1, upm_c (by omega)]; exact v3
        have wn : EW m1 b L n3 i' (x.2.2.1.length + c.length) (up (up (wrX t0 (up (m 308) (t0 + 1 + 3 * x.2.1.length) (tkI b L x.1)) x.2.2.1.length c) (t0 + 1 + 3 * x.2.1.length + 1) (x.2.2.1.length : Int)) (t0 + 1 + 3 * x.2.1.length + 2) ((x.2.2.1.length + c.length : Nat) : Int)) 0 := by
          refine ⟨by rw [p3, p1]; exact (v1.upx (by omega)).upx (by omega), v2.as (fun j _ _ => by rw [p3, upm_c (by omega), p1, upm_c (by omega)]), by rw [p3, upm_c (by omega), p1, upm_c (by omega)]; exact v3, ?_, by rw [p3, upm_c (by omega), p1, upm_c (by omega)]; exact v5, trivial⟩
          rw [p3, upm_sc, sc_at, e16', p1, upm_sc, sc_at, v4]
        refine p165 m1 n3 i' _ c _ rb fm (e23' _ _ _) eb wn ?_ (fun X2 hX2 hX2t => ?_)
        · rw [up_ne _ _ (by omega), up_ne _ _ (by omega), wrX_out _ _ _ _ _ (by omega), up_ne _ _ (by omega)]; exact hX0
        · refine h7.ext (by omega) _ c _ _ _ (fun j hj => ?_) hX2t ?_ ?_ (fun _ _ => ?_) (fun q hq => ?_)
          · rw [hX2 j (by omega), up_ne _ _ (by omega), up_ne _ _ (by omega), wrX_out _ _ _ _ _ (by omega), up_ne _ _ (by omega)]
          · rw [hX2 _ (by omega), up_ne _ _ (by omega), up_ne _ _ (by omega), wrX_out _ _ _ _ _ (by omega), up_at]; exact etk
          · rw [hX2 _ (by omega), up_ne _ _ (by omega), show t0 + 2 + 3 * x.2.1.length = t0 + 1 + 3 * x.2.1.length + 1 by omega, up_at]
          · rw [hX2 _ (by omega), show t0 + 3 + 3 * x.2.1.length = t0 + 1 + 3 * x.2.1.length + 2 by omega, up_at]
          · have := wrX_at t0 c (up (m 308) (t0 + 1 + 3 * x.2.1.length) (tkI b L x.1)) x.2.2.1.length q hq
            rw [hX2 _ (by omega), hX2 _ (by omega), up_ne _ _ (by omega), up_ne _ _ (by omega), up_ne _ _ (by omega), up_ne _ _ (by omega)]
            exact this
      refine eqI (by omega) (fun z0 => ?_) (fun z0 => eqI (by omega) (fun z1 => ?_) (fun z1 => ?_))
      · have eb : pBody (tkI b L) (nbI b L) (tkI b L x.1) x.2.2.1.length (x.1 + 1) = pLaw 0 x.2.2.1.length (pSees (tkI b L) (nbI b L) (x.1 + 1)) := by unfold pBody; rw [if_pos z0]
        exact e_either rb hE hE3 hnb (by rw [e22]; exact z0) (by omega) (by omega) w4 (fun ft jx e m' f' p' => bad128 ft jx m' (by rw [eb, e]; rfl) f' p' _) (fun i' c e m' l' h' => law 0 i' c m' (Or.inl rfl) z0 (by rw [eb, e]; rfl) h'.ew)
      · have eb : pBody (tkI b L) (nbI b L) (tkI b L x.1) x.2.2.1.length (x.1 + 1) = pLaw 1 x.2.2.1.length (pSm (pOne (tkI b L) (nbI b L) 18 8) (tkI b L) (x.1 + 1)) := by unfold pBody; rw [if_neg z0, if_pos z1]
        exact e_summed rb hE hE3 hnb (Or.inl ⟨rfl, by rw [e22]; exact z1⟩) 8 (by omega) (by omega) (by omega) w4 (fun ft jx e m' f' p' => bad128 ft jx m' (by rw [eb, e]; rfl) f' p' _) (fun i' c e m' h' => law 1 i' c m' (Or.inr rfl) z1 (by rw [eb, e]; rfl) h'.ew)
      · refine e_line rb hE hnb (t0 + 1 + 3 * x.2.1.length) x.2.2.1.length rfl (by omega) (by omega) (by omega) (by omega) w4 (fun ft jx e m' f' p' => bad128 ft jx m' e f' p' _) (fun i' e c eb ec m' X' w' hj hv hw' => ?_)
        subst ec
        have gg := g
        rw [eb] at gg
        obtain ⟨g1, g2, g3, g4, g5⟩ := gg
        refine g_X8_clause_128 _ _ _ _ (eqT (by omega) (leT (by omega) (p165 m1 m' i' e [] X' rb fm (e23' _ _ _) eb w' ?_ (fun X2 hX2 hX2t => ?_))))
        · rw [hj _ (by omega) (by omega), up_ne _ _ (by omega)]; exact hX0
        · refine h7.ext (by omega) e [] _ _ _ (fun j hj' => ?_) hX2t ?_ ?_ (fun n4' n6' => ?_) (fun q hq => absurd hq (Nat.not_lt_zero q))
          · rw [hX2 j (by omega), hj _ (by omega) (by omega), up_ne _ _ (by omega)]
          · rw [hX2 _ (by omega), hj _ (by omega) (by omega), up_at, g4]
          · rw [hX2 _ (by omega), show t0 + 2 + 3 * x.2.1.length = t0 + 1 + 3 * x.2.1.length + 1 by omega]; exact hv
          · rw [hX2 _ (by omega), show t0 + 3 + 3 * x.2.1.length = t0 + 1 + 3 * x.2.1.length + 2 by omega]; exact hw' (by rw [← g4]; exact n4') (by rw [← g4]; exact n6')
    refine leI (by omega) (fun z2 => ?_) (fun z2 m2 q2 => ?_)
    · refine p66 m h1 h2 h3 h4 h5 rfl (fun i' cl cd => ?_)
      rw [h6]
      unfold onc
      rw [show decide (tkI b L x.1 = 0) = false from decide_eq_false (by omega), show decide (tkI b L x.1 = 1) = false from decide_eq_false (by omega), Bool.or_false, Bool.or_false]
    · refine p66 m2 (by rw [q2]; exact h1.up (by omega)) (h2.as (fun j _ _ => by rw [q2, upm_j _ _ (by omega)])) (by rw [q2, upm_j _ _ (by omega)]; exact h3) (by rw [q2, upm_j _ _ (by omega)]; exact h4) (by rw [q2, upm_j _ _ (by omega)]; exact h5) (by rw [q2, upm_c (by omega)]) (fun i' cl cd => ?_)
      rw [q2, upm_at, h6]
      exact onc_or x _ (by omega) i' cl cd
  refine leI (by omega) (fun z2 => p30 (by omega)) (fun z2 => ?_)
  rw [h6]
  have : tkI b L x.1 = 0 ∨ tkI b L x.1 = 1 := by omega
  rcases this with z | z
  · rw [z, onc_b0]
    rw [z] at p30
    cases hb : x.2.2.2.1 with
    | true => exact eqT (by rw [if_pos rfl]; omega) (bad0 4 (by unfold pHead; rw [if_neg (by omega), if_pos (Or.inl ⟨z, hb⟩)]) (by omega))
    | false => exact eqF (by rw [if_neg (by decide)]; omega) (p30 (by rw [hb]; intro q; rcases q with q | q; exact absurd q.2 (by decide); exact absurd q.1 (by decide)))
  · rw [z, onc_b1]
    rw [z] at p30
    cases hb : x.2.2.2.2 with
    | true => exact eqT (by rw [if_pos rfl]; omega) (bad0 4 (by unfold pHead; rw [if_neg (by omega), if_pos (Or.inr ⟨z, hb⟩)]) (by omega))
    | false => exact eqF (by rw [if_neg (by decide)]; omega) (p30 (by rw [hb]; intro q; rcases q with q | q; exact absurd q.1 (by decide); exact absurd q.2 (by decide)))
end RRead7
