/-! ===== text: the reference ===== -/
theorem lex_end (b : Nat → Int) (L : Nat) : ∃ E, E ≤ L ∧ plI b L E = L := by
  have key : ∀ i, (∀ j, j < i → plI b L j < L) → i ≤ ps b L i := by
    intro i
    induction i with
    | zero => intro _; exact Nat.zero_le _
    | succ i ih =>
      intro h
      have h1 := ih (fun j hj => h j (by omega))
      have h2 := h i (by omega)
      have h3 := pl_le b L i
      rw [ps_s, if_pos h2]
      have := en_bd b h2
      omega
  by_cases h : ∀ j, j < L + 1 → plI b L j < L
  · have h1 := key (L + 1) h
    have h2 := ps_le b L (L + 1)
    omega
  · have h' : ∃ j, j < L + 1 ∧ ¬ plI b L j < L := by
      apply Classical.byContradiction
      intro z
      exact h (fun j hj => Classical.byContradiction (fun w => z ⟨j, hj, w⟩))
    obtain ⟨j, h1, h2⟩ := h'
    have := pl_le b L j
    exact ⟨j, by omega, by omega⟩
section RText
variable {G : GG} {d : Nat} {m : MM} {b : Nat → Int} {L : Nat}
theorem e_readText {k : Int → MM → Prop} (ht : Tp b L m) (T : Nat) (eT : m 305 3 = (T : Int)) (hT : T < 4)
    (hbad : ∀ ft jx, pTx (tkI b L) (nbI b L) 300 x0 = .inl (ft, jx) → (1 ≤ ft ∧ ft ≤ 6) → jx ≤ 300 → ∀ m', FrY (680 * T) m m' → m' 304 10 = (plI b L jx : Int) → k ft m')
    (hok : ∀ y, pTx (tkI b L) (nbI b L) 300 x0 = .inr y → (∃ E, E ≤ 300 ∧ RdOK E y) → ∀ m', FrY (680 * T) m m' → XR (m 308) (680 * T) (m' 308) y → k 0 m') : N G (d + 9) mi_X8_readText 0 [some (vr 304), none] [] m (RI k) := by
  obtain ⟨E, hEL, hEp⟩ := lex_end b L
  have hL := ht.2.1
  have hE3 : E ≤ 300 := by omega
  have tE : tkI b L E = 36 := by unfold tkI; rw [if_neg (by omega)]
  have hnb : ∀ i, i < E → tkI b L i = 35 → 0 ≤ nbI b L i := fun i hi h35 => by
    have hp : plI b L i < L := by
      apply Classical.byContradiction
      intro z
      unfold tkI at h35
      rw [if_neg z] at h35
      omega
    exact (nbI_rng b L i hp).1
  have h0 : ∀ i, i ≤ E → 0 ≤ tkI b L i := fun i _ => (tkI_rng b L i).1
  generalize hR : pTx (tkI b L) (nbI b L) 300 x0 = R at *
  have loop : ∀ (n : Nat) (x : Rds) (m' : MM), 300 ≤ n + x.1 → RdOK E x → CLs m b L (680 * T) (m 308) m' x → R = pTx (tkI b L) (nbI b L) n x → N G (d + 9) mi_X8_readText 48 [some (vr 304), none] [] m' (RI k) := by
    have fin : ∀ (x : Rds) (m' : MM), RdOK E x → tkI b L x.1 = 36 → CLs m b L (680 * T) (m 308) m' x → R = .inr x → N G (d + 9) mi_X8_readText 48 [some (vr 304), none] [] m' (RI k) := by
      intro x m' hx h36 hc e
      have rt := hc.2.1.2.2.1
      have rg := rt.rng
      have i36 := rt.is (t0 := 36) (by omega)
      rw [show rtc 36 = 0 by decide] at i36
      have := i36.mpr h36
      exact g_X8_readText_48 (eqT (by omega) (hok x e ⟨E, hE3, hx⟩ m' hc.1 hc.2.2.2.2.2.2))
    intro n
    induction n with
    | zero =>
      intro x m' hn hx hc e
      have hx1 := hx.1
      have xe : x.1 = E := by omega
      exact fin x m' hx (by rw [xe]; exact tE) hc e
    | succ n ih =>
      intro x m' hn hx hc e
      rw [pTx] at e
      by_cases h36 : tkI b L x.1 = 36
      · rw [if_pos h36] at e
        exact fin x m' hx h36 hc e
      · rw [if_neg h36] at e
        have rt := hc.2.1.2.2.1
        have rg := rt.rng
        have i36 := rt.is (t0 := 36) (by omega)
        rw [show rtc 36 = 0 by decide] at i36
        have n36 : ¬ m' 304 11 = 0 := fun q => h36 (i36.mp q)
        have g := pCl_gd tE hnb h0 hx
        refine g_X8_readText_48 (eqF (by omega) (e_clause ht (by omega) tE hE3 hnb hx hc (fun ft jx ec m2 f2 p2 => ?_) (fun y ec m2 hc2 => eqT (by omega) ?_)))
        · rw [ec] at g e
          have g : (1 ≤ ft ∧ ft ≤ 6) ∧ jx ≤ E := g
          exact eqF (by omega) (hbad ft jx e g.1 (by omega) m2 f2 p2)
        · rw [ec] at g e
          have hy : RdOK E y := g.1
          have hlt : x.1 < y.1 := g.2
          exact ih y m2 (by omega) hy hc2 e
  refine g_X8_readText_0 (fun m1 q1 => ⟨680 * T, ⟨by rw [q1, upm_at, eT]; omega, by omega⟩, fun m2 q2 m4 q4 m5 q5 m6 q6 m7 q7 => ?_⟩)
  have o7 : ∀ c, c ≠ 304 → c ≠ 308 → m7 c = m c := fun c c1 c2 => by rw [q7, upm_c c1, q6, upm_c c1, q5, upm_c c1, q4, upm_c c1, q2, upm_c c2, q1, upm_c c1]
  have s7 : ∀ j, (j < 9 ∨ 24 ≤ j) → m7 304 j = m 304 j := fun j hj => by rw [q7, upm_j _ _ (by omega), q6, upm_j _ _ (by omega), q5, upm_j _ _ (by omega), q4, upm_j _ _ (by omega), q2, upm_c (by omega), q1, upm_j _ _ (by omega)]
  have x7 : m7 308 = up (m 308) (680 * T) 0 := by rw [q7, upm_c (by omega), q6, upm_c (by omega), q5, upm_c (by omega), q4, upm_c (by omega), q2, upm_sc, sc_at, q1, upm_c (by omega)]
  have t7 : Tp b L m7 := ⟨by rw [s7 6 (by omega)]; exact ht.1, hL, fun j hj => by rw [o7 309 (by omega) (by omega)]; exact ht.2.2 j hj⟩
  refine c_nextToken (i := 0) t7 (by rw [q7, upm_at]; rfl) (fun m9 f9 r9 => ?_)
  refine loop 300 x0 m9 (by show 300 ≤ 300 + 0; omega) (x0_ok E) ⟨⟨fun c c1 c2 c3 => (f9.1 c c1).trans (o7 c c1 c2), fun j hj => (f9.2 j (by omega)).trans (s7 j hj), fun j hj => by rw [f9.1 308 (by omega), x7, up_ne _ _ (by omega)]⟩, r9, ?_, ?_, ?_, ?_, ?_⟩ hR.symm
  · rw [f9.2 14 (by omega), q7, upm_j _ _ (by omega), q6, upm_j _ _ (by omega), q5, upm_j _ _ (by omega), q4, upm_j _ _ (by omega), q2, upm_c (by omega), q1, upm_at, eT]; omega
  · rw [f9.2 16 (by omega), q7, upm_j _ _ (by omega), q6, upm_j _ _ (by omega), q5, upm_j _ _ (by omega), q4, upm_at]; rfl
  · rw [f9.2 20 (by omega), q7, upm_j _ _ (by omega), q6, upm_j _ _ (by omega), q5, upm_at]
  · rw [f9.2 23 (by omega), q7, upm_j _ _ (by omega), q6, upm_at]; rfl
  · rw [f9.1 308 (by omega), x7]
    exact ⟨fun j hj => up_ne _ _ (by omega), up_at _ _ _, fun q hq => absurd hq (Nat.not_lt_zero q), fun q hq => absurd hq (Nat.not_lt_zero q)⟩
/-- the reference's memory behind a text -/
def FrW (t0 : Nat) (m m' : MM) : Prop := (∀ c, c ≠ 304 → c ≠ 305 → c ≠ 308 → c ≠ 310 → m' c = m c) ∧ (∀ j, j < 6 → m' 304 j = m 304 j) ∧ m' 304 6 = 0 ∧ ∀ j, j < t0 → m' 308 j = m 308 j
theorem c8_text {k : Int → MM → Prop} (ht : Tp b L m) (T : Nat) (eT : m 305 3 = (T : Int)) (hT : T < 4)
    (hbad : ∀ ft jx, pTx (tkI b L) (nbI b L) 300 x0 = .inl (ft, jx) → ∀ m', FrW (680 * T) m m' → m' 305 = m 305 → m' 304 7 = ft → m' 304 8 = (plI b L jx : Int) → k (-1) m')
    (hok : ∀ y, pTx (tkI b L) (nbI b L) 300 x0 = .inr y → (∃ E, E ≤ 300 ∧ RdOK E y) → ∀ m', FrW (680 * T) m m' → m' 305 = up (m 305) 3 ((T : Int) + 1) → m' 304 7 = 0 → m' 304 8 = -1 → XR (m 308) (680 * T) (m' 308) y → k (T : Int) m') : N G (d + 10) mi_X8_text 0 [some (vr 304)] [] m (RI k) := by
  refine g_X8_text_0 ?_
  rw [eT]
  refine eqF (by omega) (e_readText ht T eT hT (fun ft jx e hft hj m2 f2 p2 m3 q3 => ?_) (fun y e hy m2 f2 x2 m3 q3 => ?_))
  · have e7 : m3 304 7 = ft := by rw [q3, upm_at]
    rw [e7]
    refine eqF (by omega) (g_X8_text_36 _ (fun m4 q4 m5 q5 => ?_))
    have e57 : m5 304 7 = ft := by rw [q5, upm_j _ _ (by omega), q4, upm_j _ _ (by omega)]; exact e7
    have o : ∀ c, c ≠ 304 → m5 c = m2 c := fun c c1 => by rw [q5, upm_c c1, q4, upm_c c1, q3, upm_c c1]
    rw [e57]
    refine eqF (by omega) (hbad ft jx e m5 ⟨fun c c1 c2 c3 c4 => (o c c1).trans (f2.1 c c1 c3 c4), fun j hj => by rw [q5, upm_j _ _ (by omega), q4, upm_j _ _ (by omega), q3, upm_j _ _ (by omega)]; exact f2.2.1 j (by omega), by rw [q5, upm_at], fun j hj => by rw [o 308 (by omega)]; exact f2.2.2 j hj⟩ ?_ e57 ?_)
    · rw [o 305 (by omega)]; exact f2.1 305 (by omega) (by omega) (by omega)
    · rw [q5, upm_j _ _ (by omega), q4, upm_at, q3, upm_j _ _ (by omega)]; exact p2
  · have e7 : m3 304 7 = 0 := by rw [q3, upm_at]
    rw [e7]
    refine eqT (by omega) (g_X8_text_36 _ (fun m4 q4 m5 q5 => ?_))
    have e57 : m5 304 7 = 0 := by rw [q5, upm_j _ _ (by omega), q4, upm_j _ _ (by omega)]; exact e7
    have o : ∀ c, c ≠ 304 → m5 c = m2 c := fun c c1 => by rw [q5, upm_c c1, q4, upm_c c1, q3, upm_c c1]
    have e305 : m5 305 = m 305 := by rw [o 305 (by omega)]; exact f2.1 305 (by omega) (by omega) (by omega)
    rw [e57]
    refine eqT (by omega) (fun m6 q6 => ?_)
    have s63 : m6 305 3 = (T : Int) + 1 := by rw [q6, upm_at, e305, eT]
    rw [s63, show (T : Int) + 1 - 1 = (T : Int) by omega]
    refine hok y e hy m6 ⟨fun c c1 c2 c3 c4 => by rw [q6, upm_c c2, o c c1]; exact f2.1 c c1 c3 c4, fun j hj => by rw [q6, upm_c (by omega), q5, upm_j _ _ (by omega), q4, upm_j _ _ (by omega), q3, upm_j _ _ (by omega)]; exact f2.2.1 j (by omega), by rw [q6, upm_c (by omega), q5, upm_at], fun j hj => by rw [q6, upm_c (by omega), o 308 (by omega)]; exact f2.2.2 j hj⟩ ?_ ?_ ?_ ?_
    · rw [q6, upm_sc, sc_at, e305, eT]
    · rw [q6, upm_c (by omega)]; exact e57
    · rw [q6, upm_c (by omega), q5, upm_j _ _ (by omega), q4, upm_at]
    · rw [q6, upm_c (by omega), o 308 (by omega)]; exact x2
end RText
