/-! ===== how ===== -/
def kn0 (S : Nat → Int) (e : Nat) : K4 := (nowW S e 2, nowW S e 3, nowW S e 4, nowW S e 5)
def hwS (S X : Nat → Int) (C T e n : Nat) : Sm := if S 2 + (n : Int) ≤ 999 then smm S X C T e n 0 (kn0 S e) else none
def hwA (s : Sm) (n : Nat) (x3 : Int) : Int := if x3 = -1 then (cn s : Int) else if x3 = -2 then (match s with | none => 0 | some t => (t.2.2 : Int)) else match s with | none => -3 | some t => if (n : Int) ≤ x3 then -3 else (t.2.1 x3.toNat : Int)
theorem lft_0 (p : Nat → Nat) (s : Sm) : lft 0 1 0 p s = s := by
  cases s with
  | none => rfl
  | some t => simp [lft]
section How5
variable {G : GG} {d : Nat} {m : MM}
theorem c_how {k : Int → MM → Prop} {x1 x2 x3 : Int} {S X : Nat → Int} (C T e n : Nat) (hS : m 305 = S) (hX : m 308 = X) (hw : WfS (C : Int) S) (hCC : 1 ≤ C ∧ C ≤ 6) (hW : ∀ t : Nat, (t : Int) < S 3 → WfT X t) (e3 : m 304 3 = (C : Int)) (eT : S 0 = (T : Int)) (e1 : x1 = (e : Int)) (he : (e : Int) < S 1) (e2 : x2 = (n : Int)) (hn : n ≤ 3) (hx3 : rng x3) (h3 : -2 ≤ x3)
    (next : ∀ m', FrG m m' → k (hwA (hwS S X C T e n) n x3) m') : N G (d + 7) mi_X8_how 0 [some (vr 304), some (vi x1), some (vi x2), some (vi x3), none] [] m (RI k) := by
  have w1 := hw.2.1
  have hv := hw.2.2.2.2.2.2.2.2.2.1
  have hh := hv.1
  have hh2 := hv.2.1
  have ie := hv.2.2.1 e (by omega)
  unfold eyeOK at ie
  have hth : th4 (kn0 S e) := ie.2.2.2.2
  have g5 : m 305 1 = S 1 := by rw [hS]
  refine g_X8_how_0 _ _ _ (c_isEye (by omega) (fun _ => eqF (by omega) (c_isIn (by omega) (fun _ => eqF (by omega) (leT (by omega) (fun m5 q5 m6 q6 => ?_))) (fun z => absurd z (by omega)))) (fun z => absurd z (by omega)))
  have f6 : FrG m m6 := ⟨fun c h1 _ _ _ _ _ _ => by rw [q6, upm_c h1, q5, upm_c h1], fun b h1 h2 => by rw [q6, upm_j _ _ h2, q5, upm_j _ _ h1]⟩
  have A6 : ArR n m6 none := ⟨by rw [q6, upm_j _ _ (by omega), q5, upm_at], by rw [q6, upm_at]⟩
  have bound : cn (smm S X C T e n 0 (kn0 S e)) < 1000000 := by
    have h1 := smm_bd (S := S) (X := X) (T := T) (e := e) hCC.2 n 0 (kn0 S e)
    have h2 : 48 ^ n ≤ 48 ^ 3 := Nat.pow_le_pow_right (by decide) hn
    omega
  -- the answer
  have ans : ∀ (m' : MM) (s : Sm), FrG m m' → ArR n m' s → s = hwS S X C T e n → N G (d + 7) mi_X8_how 99 [some (vr 304), none, some (vi x2), some (vi x3), none] [] m' (RI k) := by
    intro m' s f A es
    have nx := next m' f
    rw [← es] at nx
    have cs : cn s < 1000000 := by rw [es]; unfold hwS; split; exact bound; exact (by decide : 0 < 1000000)
    refine g_X8_how_99 _ _ (eqI (by omega) (fun z => ?_) (fun z => eqI (by omega) (fun z2 => ?_) (fun z2 => ?_)))
    · cases s with
      | none => rw [A.1]; unfold hwA at nx; rw [if_pos z] at nx; exact nx
      | some t => rw [A.1]; unfold hwA at nx; rw [if_pos z] at nx; exact nx
    · cases s with
      | none => rw [A.2]; unfold hwA at nx; rw [if_neg z, if_pos z2] at nx; exact nx
      | some t => rw [A.2.2.1]; unfold hwA at nx; rw [if_neg z, if_pos z2] at nx; exact nx
    · unfold hwA at nx
      rw [if_neg z, if_neg z2] at nx
      cases s with
      | none => rw [A.1]; exact leT (by omega) nx
      | some t =>
        have ct : t.1 < 1000000 := cs
        obtain ⟨a1, a2, a3, a4, a5⟩ := A
        rw [a1]
        dsimp only at nx
        refine leF (by omega) (leI (by omega) (fun z3 => ?_) (fun z3 => ⟨x3.toNat, by omega, ?_⟩))
        · rw [if_pos (by omega)] at nx; exact nx
        · rw [if_neg (by omega)] at nx; rw [a5 _ (by omega)]; exact nx
  have loop : ∀ (r q : Nat) (x4 : Int) (m1 : MM), q + r = 4 → x4 = (q : Int) → FrG m m1 → ArR n m1 none → (∀ j, j < q → m1 316 j = nowW S e (2 + j)) → N G (d + 7) mi_X8_how 39 [some (vr 304), some (vi x1), some (vi x2), some (vi x3), some (vi x4)] [] m1 (RI k) := by
    intro r
    induction r with
    | succ r ih =>
      intro q x4 m1 hq h4 f1 A1 hk1
      have S1 : m1 305 = S := (f1.1 305 (by omega) (by omega) (by omega) (by omega) (by omega) (by omega) (by omega)).trans hS
      refine g_X8_how_39 _ _ _ _ (leF (by omega) (c_get (20 + 8 * e + 4 + q) (by omega) (by omega) ⟨q, by omega, fun m7 q7 => ?_⟩))
      refine ih (q + 1) _ m7 (by omega) (by omega) (by rw [q7]; exact f1.up (by omega)) (A1.fr (by rw [q7, upm_c (by omega)]) (by rw [q7, upm_c (by omega)]) (by rw [q7, upm_c (by omega)])) (fun j hj => ?_)
      rw [q7]
      by_cases ej : j = q
      · rw [ej, upm_at, S1]
        unfold nowW
        congr 1; omega
      · rw [upm_j _ _ ej]; exact hk1 j (by omega)
    | zero =>
      intro q x4 m1 hq h4 f1 A1 hk1
      have q4 : q = 4 := by omega
      subst q4
      have S1 : m1 305 = S := (f1.1 305 (by omega) (by omega) (by omega) (by omega) (by omega) (by omega) (by omega)).trans hS
      have X1 : m1 308 = X := (f1.1 308 (by omega) (by omega) (by omega) (by omega) (by omega) (by omega) (by omega)).trans hX
      have C1 : m1 304 3 = (C : Int) := (f1.2 3 (by omega) (by omega)).trans e3
      have K1 : Kn m1 (4 * 0) (kn0 S e) := ⟨hk1 0 (by omega), hk1 1 (by omega), hk1 2 (by omega), hk1 3 (by omega)⟩
      refine g_X8_how_39 _ _ _ _ (leT (by omega) (eqI (by omega) (fun z => ?_) (fun z => ?_)))
      · have n0 : n = 0 := by omega
        subst n0
        refine c_count S1 hw 0 rfl (by omega) (kn0 S e) K1 hth (fun _ => 0) (fun j hj => absurd hj (by omega)) (fun j hj => absurd hj (by omega)) none A1 (by decide) (fun m2 f2 _ _ A2 => ?_)
        refine ans m2 _ (f1.tr f2) A2 ?_
        show lft 0 1 0 (fun _ => 0) _ = _
        rw [lft_0, show hwS S X C T e 0 = smm S X C T e 0 0 (kn0 S e) by unfold hwS; exact if_pos (by omega)]
        rfl
      · rw [S1]
        refine ltI (by omega) (fun z2 => ?_) (fun z2 => ?_)
        · exact ans m1 none f1 A1 (by unfold hwS; rw [if_neg (by omega)])
        · obtain ⟨r, hr⟩ : ∃ r, n = r + 1 := ⟨n - 1, by omega⟩
          refine g_X8_goThrough_0 _ _ (fun m2 q2 => ?_)
          have f2 : FrG m1 m2 := by rw [q2]; exact (FrG.rf m1).up (by omega)
          have S2 : m2 305 = S := by rw [q2, upm_c (by omega)]; exact S1
          have X2 : m2 308 = X := by rw [q2, upm_c (by omega)]; exact X1
          have C2 : m2 304 3 = (C : Int) := by rw [q2, upm_c (by omega)]; exact C1
          have A2 : ArR n m2 none := A1.fr (by rw [q2, upm_c (by omega)]) (by rw [q2, upm_c (by omega)]) (by rw [q2, upm_c (by omega)])
          have efin : smj none (lft 0 1 (HP (fun _ => 0) 0) (fun _ => 0) (smm S X C T e (r + 1) 0 (kn0 S e))) = smm S X C T e n 0 (kn0 S e) := by
            rw [smj_nl, hr]
            exact lft_0 _ _
          refine c_goThrough_slot C T e n S2 X2 hw hCC hW C2 eT e1 (by omega) e2 (by omega) r 0 _ (fun _ => 0) (kn0 S e) none m2 (by omega) rfl (FrG.rf m2) (fun j hj => absurd hj (by omega)) (fun j hj => absurd hj (by omega)) (K1.fr (fun j _ _ => by rw [q2, upm_c (by omega)])) hth (by rw [q2, upm_at]) A2 (by rw [efin]; exact bound) (fun m3 x ex f3 _ _ A3 => ?_)
          refine g_X8_goThrough_9 _ _ _ (ltT (by omega) (ans m3 _ (f1.tr (f2.tr f3)) A3 ?_))
          rw [efin]
          unfold hwS
          rw [if_pos (by omega)]
  exact loop 4 0 0 m6 (by omega) rfl f6 A6 (fun j hj => absurd hj (by omega))
theorem c7_findRows {Q : MM → Prop} {x1 x2 : Int} {S X : Nat → Int} (C T e n : Nat) (hw : WfS (C : Int) S) (hC : 1 ≤ C ∧ C ≤ 6) (hask : Asks m S X) (e00 : m 0 0 = (C : Int)) (e0 : m 12 0 = S 0) (e8 : m 12 8 = pk4 (sh4 S)) (hcr : Crt m 16 (S 2) (nowW S)) (eT : S 0 = (T : Int)) (e1 : x1 = (e : Int)) (he : (e : Int) < S 1) (e2 : x2 = (n : Int)) (hn : n ≤ 3)
    (next : ∀ m', (∀ c, c < 272 ∨ 284 ≤ c → m' c = m c) → AcC n m' (hwS S X C T e n) → Q m') : N G (d + 15) mi_X7_findRows 0 [some (vr 0), some (vi x1), some (vi x2)] [] m (RV Q) := by
  have w1 := hw.2.1
  have w3 := hw.2.2.1
  have hv := hw.2.2.2.2.2.2.2.2.2.1
  have hh := hv.1
  have hh2 := hv.2.1
  have he8 : e < 8 := by omega
  have ie := hv.2.2.1 e he8
  unfold eyeOK at ie
  have hth : th4 (kn0 S e) := ie.2.2.2.2
  have wn : nowW S e 0 = S (20 + 8 * e + 2) := rfl
  refine g_X7_findRows_0 _ _ (c0_copyFrom 272 16 sh_272 sh_16 (by omega) (fun m2 cp2 f2 => ⟨e, by omega, ?_⟩))
  have cr2 : Crt m2 272 (S 2) (nowW S) := cp2 _ _ hcr
  have v0 : m2 0 0 = (C : Int) := by rw [f2 0 (by omega)]; exact e00
  have vw : m2 273 e = S (20 + 8 * e + 2) := (cr2.2 e he8).1
  rw [vw, v0]
  -- behind begin
  have go : ∀ (m5 : MM) (oth low : Nat), (∀ c, c ≠ 279 → m5 c = m2 c) → m5 279 0 = x1 → m5 279 1 = x2 → m5 279 2 = S (20 + 8 * e + 2) → m5 279 3 = (oth : Int) → m5 279 4 = (low : Int) → m5 279 5 = 0 → m5 279 6 = 63 → (if S (20 + 8 * e + 2) = -1 then oth = C ∧ low = 0 else if S (20 + 8 * e + 2) = 0 then oth = C - 1 ∧ low = 1 else oth = C - 1 ∧ low = 0) → bLT 999 (m5 272 0 + x2) (Q m5) (∃ j6 : Nat, (x1 = (j6 : Int) ∧ j6 < 8) ∧ N G (d + 14) mi_X7_goThroughRows 0 [some (vr 0), some (vi 0), some (vi (m5 275 j6)), some (vi 1), some (vi 0)] [] m5 (RV fun m8 => Q m8)) := by
    intro m5 oth low f5 u0 u1 u2 u3 u4 u5 u6 hsel
    have fa : ∀ c, c < 272 ∨ 284 ≤ c → m5 c = m c := fun c hc => (f5 c (by omega)).trans (f2 c (by omega))
    have cr5 : Crt m5 272 (S 2) (nowW S) := cr2.kept (f5 _ (by omega)) (f5 _ (by omega)) (f5 _ (by omega)) (f5 _ (by omega))
    have A5 : AcC n m5 none := ⟨u5, u6⟩
    rw [cr5.1]
    refine ltI (by omega) (fun z => next m5 fa (by unfold hwS; rw [if_neg (by omega)]; exact A5)) (fun z => ⟨e, by omega, ?_⟩)
    have bound : cn (smm S X C T e n 0 (kn0 S e)) < 1000000 := by
      have h1 := smm_bd (S := S) (X := X) (T := T) (e := e) hC.2 n 0 (kn0 S e)
      have h2 : 48 ^ n ≤ 48 ^ 3 := Nat.pow_le_pow_right (by decide) hn
      omega
    have crp : Crt m5 272 (S 2) (ptW (nowW S) e (kn0 S e)) := by
      refine ⟨cr5.1, fun e' he' => ?_⟩
      obtain ⟨b1, b2, b3⟩ := cr5.2 e' he'
      refine ⟨by rw [ptW_lo _ _ _ _ _ (by omega)]; exact b1, by rw [ptW_lo _ _ _ _ _ (by omega)]; exact b2, ?_⟩
      rw [b3]
      by_cases ee : e' = e
      · rw [ee, ptW_pk]; rfl
      · simp [pkW, ptW, ee]
    have cs : oth ≤ 6 ∧ low < 6 := by
      split at hsel
      · omega
      · split at hsel <;> omega
    have ctc : CtC m5 S X (nowW S) C T e n (S (20 + 8 * e + 2)).toNat oth low (S (20 + 8 * e + 2)) :=
      ⟨hw, hC, eT, he8, he, hn, by omega, hask.fr (fun c hc => fa c (by omega)) (by omega), by rw [fa 12 (by omega)]; exact e0, by rw [fa 12 (by omega)]; exact e8, by rw [fa 16 (by omega)]; exact hcr.1, by rw [u0]; exact e1, by rw [u1]; exact e2, u2, u3, u4, rfl, rfl, cs.1, cs.2, rfl, hsel⟩
    have efin : smj none (lft 0 1 (Hs (S (20 + 8 * e + 2)).toNat oth low 0) (fun _ => 0) (smm S X C T e n 0 (kn0 S e))) = smm S X C T e n 0 (kn0 S e) := by
      rw [smj_nl]
      have : Hs (S (20 + 8 * e + 2)).toNat oth low 0 = 0 := by simp [Hs]
      rw [this, lft_0]
    obtain ⟨dd, hdd⟩ : ∃ dd, d + 14 = dd + 2 * n + 6 := ⟨d + 8 - 2 * n, by omega⟩
    rw [hdd]
    refine c7_rows ctc n 0 _ _ _ _ (fun _ => 0) (kn0 S e) 1 0 none m5 _ (by omega) rfl ?_ rfl rfl (by omega) (by omega) ⟨fun _ _ => rfl, fun _ _ _ => rfl, _, _, crp⟩ (fun j hj => absurd hj (by omega)) hth (fun z => absurd z (by decide)) A5 (by rw [efin]; exact bound) (fun m' I _ A => next m' (fun c hc => (I.1 c hc).trans (fa c hc)) ?_)
    · exact (cr5.2 e he8).2.2
    · rw [efin] at A
      unfold hwS
      rw [if_pos (by omega)]
      exact A
  refine g_X4_begin_0 _ _ _ _ (fun m3 q3 m4 q4 m5 q5 => ?_)
  have o5 : ∀ c, c ≠ 279 → m5 c = m2 c := fun c hc => by rw [q5, upm_c hc, q4, upm_c hc, q3, upm_c hc]
  have a0 : m5 279 0 = x1 := by rw [q5, upm_j _ _ (by omega), q4, upm_j _ _ (by omega), q3, upm_at]
  have a1 : m5 279 1 = x2 := by rw [q5, upm_j _ _ (by omega), q4, upm_at]
  have a2 : m5 279 2 = S (20 + 8 * e + 2) := by rw [q5, upm_at]
  have fin : ∀ (oth low : Nat) (s0 : Int), s0 = (oth : Int) → (if S (20 + 8 * e + 2) = -1 then oth = C ∧ low = 0 else if S (20 + 8 * e + 2) = 0 then oth = C - 1 ∧ low = 1 else oth = C - 1 ∧ low = 0) → ∀ (m6 m7 m8 m9 : MM), m6 = upm m5 279 3 s0 → m7 = upm m6 279 4 (low : Int) → m8 = upm m7 279 5 0 → m9 = upm m8 279 6 63 → bLT 999 (m9 272 0 + x2) (Q m9) (∃ j6 : Nat, (x1 = (j6 : Int) ∧ j6 < 8) ∧ N G (d + 14) mi_X7_goThroughRows 0 [some (vr 0), some (vi 0), some (vi (m9 275 j6)), some (vi 1), some (vi 0)] [] m9 (RV fun m8 => Q m8)) := by
    intro oth low s0 es hsel m6 m7 m8 m9 q6 q7 q8 q9
    refine go m9 oth low (fun c hc => ?_) ?_ ?_ ?_ ?_ ?_ ?_ ?_ hsel
    · rw [q9, upm_c hc, q8, upm_c hc, q7, upm_c hc, q6, upm_c hc, o5 c hc]
    · rw [q9, upm_j _ _ (by omega), q8, upm_j _ _ (by omega), q7, upm_j _ _ (by omega), q6, upm_j _ _ (by omega), a0]
    · rw [q9, upm_j _ _ (by omega), q8, upm_j _ _ (by omega), q7, upm_j _ _ (by omega), q6, upm_j _ _ (by omega), a1]
    · rw [q9, upm_j _ _ (by omega), q8, upm_j _ _ (by omega), q7, upm_j _ _ (by omega), q6, upm_j _ _ (by omega), a2]
    · rw [q9, upm_j _ _ (by omega), q8, upm_j _ _ (by omega), q7, upm_j _ _ (by omega), q6, upm_at, es]
    · rw [q9, upm_j _ _ (by omega), q8, upm_j _ _ (by omega), q7, upm_at]
    · rw [q9, upm_j _ _ (by omega), q8, upm_at]
    · rw [q9, upm_at]
  refine eqI (by omega) (fun z => ?_) (fun z => ?_)
  · refine g_X4_begin_30 _ _ (fun m6 q6 => eqF (by omega) (fun m7 q7 m8 q8 m9 q9 => ?_))
    exact fin C 0 _ rfl (by rw [if_pos z]; exact ⟨rfl, rfl⟩) m6 m7 m8 m9 q6 q7 q8 q9
  · refine g_X4_begin_30 _ _ (fun m6 q6 => eqI (by omega) (fun z2 m7 q7 m8 q8 m9 q9 => ?_) (fun z2 m7 q7 m8 q8 m9 q9 => ?_))
    · exact fin (C - 1) 1 _ (by omega) (by rw [if_neg z, if_pos z2]; exact ⟨rfl, rfl⟩) m6 m7 m8 m9 q6 q7 q8 q9
    · exact fin (C - 1) 0 _ (by omega) (by rw [if_neg z, if_neg z2]; exact ⟨rfl, rfl⟩) m6 m7 m8 m9 q6 q7 q8 q9
theorem P_how {k : Int → Int → MM → Prop} {x1 x2 x3 : Int} (hx1 : rng x1) (hx2 : rng x2) (hx3 : rng x3) (h : Rel m m) (hk : ∀ z m', Rel m' m' → k z z m') : PR G d mi_X7_how mi_X8_how [some (vr 0), some (vi x1), some (vi x2), some (vi x3)] [some (vr 304), some (vi x1), some (vi x2), some (vi x3), none] m k := by
  have hR := h
  have hask := h.asks
  obtain ⟨C', hC, h2, h3', h4, h5, hw, h7, h8, h9, -⟩ := hR
  obtain ⟨C, hCC⟩ : ∃ C : Nat, C' = (C : Int) := ⟨C'.toNat, by omega⟩
  subst hCC
  have w0 := hw.1
  have w1 := hw.2.1
  obtain ⟨T, hT⟩ : ∃ T : Nat, m 305 0 = (T : Int) := ⟨(m 305 0).toNat, by omega⟩
  obtain ⟨s0, s1, s3, s4, s6, s8, s7, sc', scr, sp⟩ := h4
  -- the reference
  have ref : ∀ (z : Int) (m1 : MM), (∀ c, c < 272 ∨ 284 ≤ c → m1 c = m c) → (¬ ((0 ≤ x1 ∧ x1 < m 305 1) ∧ (0 ≤ x2 ∧ x2 ≤ 3) ∧ -2 ≤ x3) → z = -3) → (∀ e n : Nat, x1 = (e : Int) → (e : Int) < m 305 1 → x2 = (n : Int) → n ≤ 3 → -2 ≤ x3 → z = hwA (hwS (m 305) (m 308) C T e n) n x3) → N G (d + 60) mi_X8_how 0 [some (vr 304), some (vi x1), some (vi x2), some (vi x3), none] [] m1 (RI fun z' m2 => k z z' m2) := by
    intro z m1 f1 hno hyes
    have g5 : m1 305 = m 305 := f1 305 (by omega)
    have g8 : m1 308 = m 308 := f1 308 (by omega)
    have g4 := f1 304 (by omega)
    have idr : Rel m1 m1 := h.work f1 (FrR.rf m1) (fun j _ => by rw [g5])
    by_cases hall : (0 ≤ x1 ∧ x1 < m 305 1) ∧ (0 ≤ x2 ∧ x2 ≤ 3) ∧ -2 ≤ x3
    · obtain ⟨e, he⟩ : ∃ e : Nat, x1 = (e : Int) := ⟨x1.toNat, by omega⟩
      obtain ⟨n, hn⟩ : ∃ n : Nat, x2 = (n : Int) := ⟨x2.toNat, by omega⟩
      refine c_how (S := m 305) (X := m 308) C T e n g5 g8 hw (by omega) (fun t ht => (h9 t ht).2) (by rw [g4]; exact h3') hT he (by omega) hn (by omega) hx3 hall.2.2 (fun m2 f2 => ?_)
      rw [hyes e n he (by omega) hn (by omega) hall.2.2]
      exact hk _ _ (h.work f1 f2.frR (fun j _ => by rw [f2.1 305 (by omega) (by omega) (by omega) (by omega) (by omega) (by omega) (by omega), g5]))
    · rw [hno hall]
      have r1 : m1 305 1 = m 305 1 := by rw [g5]
      refine g_X8_how_0 _ _ _ (c_isEye (by omega) (fun a1 => eqF (by omega) (c_isIn (by omega) (fun a2 => eqF (by omega) (leF (by omega) (hk _ _ idr))) (fun _ => eqT (by omega) (hk _ _ idr)))) (fun _ => eqT (by omega) (hk _ _ idr)))
  have refN : ¬ ((0 ≤ x1 ∧ x1 < m 305 1) ∧ (0 ≤ x2 ∧ x2 ≤ 3) ∧ -2 ≤ x3) → N G (d + 60) mi_X8_how 0 [some (vr 304), some (vi x1), some (vi x2), some (vi x3), none] [] m (RI fun z' m2 => k (-3) z' m2) := fun no => ref (-3) m (fun _ _ => rfl) (fun _ => rfl) (fun e n a1 a2 a3 a4 a5 => absurd ⟨⟨by omega, by omega⟩, ⟨by omega, by omega⟩, a5⟩ no)
  refine g_X7_how_0 _ _ _ (c7_isEye (by omega) (fun a1 => eqF (by omega) (ltI (by omega) (fun a2 => refN (by omega)) (fun a2 => ltI (by omega) (fun a3 => refN (by omega)) (fun a3 => ltI (by omega) (fun a4 => refN (by omega)) (fun a4 => ltI (by omega) (fun a5 => ?_) (fun a5 => ?_)))))) (fun a1 => eqT (by omega) (refN (by omega))))
  · obtain ⟨e, he⟩ : ∃ e : Nat, x1 = (e : Int) := ⟨x1.toNat, by omega⟩
    obtain ⟨n, hn⟩ : ∃ n : Nat, x2 = (n : Int) := ⟨x2.toNat, by omega⟩
    refine c7_findRows (S := m 305) (X := m 308) C T e n hw (by omega) hask h2 s0 s8 scr hT he (by omega) hn (by omega) (fun m4 f4 A4 => ?_)
    have fin : ∀ z, z = hwA (hwS (m 305) (m 308) C T e n) n x3 → N G (d + 60) mi_X8_how 0 [some (vr 304), some (vi x1), some (vi x2), some (vi x3), none] [] m4 (RI fun z' m2 => k z z' m2) := fun z ez => ref z m4 f4 (fun no => absurd ⟨⟨by omega, by omega⟩, ⟨by omega, by omega⟩, by omega⟩ no) (fun e' n' b1 _ b3 _ _ => by
      have e1 : e' = e := by omega
      have e2 : n' = n := by omega
      rw [e1, e2]; exact ez)
    have bound : cn (hwS (m 305) (m 308) C T e n) < 1000000 := by
      have h1 := smm_bd (S := m 305) (X := m 308) (T := T) (e := e) (C := C) (by omega) n 0 (kn0 (m 305) e)
      have h2 : 48 ^ n ≤ 48 ^ 3 := Nat.pow_le_pow_right (by decide) (by omega)
      unfold hwS
      split
      · omega
      · exact (by decide : 0 < 1000000)
    generalize hwS (m 305) (m 308) C T e n = s at *
    refine eqI (by omega) (fun z => fin _ ?_) (fun z => eqI (by omega) (fun z2 => ?_) (fun z2 => ?_))
    · unfold hwA
      rw [if_pos z]
      cases s with
      | none => exact A4.1
      | some t => exact A4.1
    · cases s with
      | none =>
        have ha : hwA none n x3 = 0 := by unfold hwA; rw [if_neg z, if_pos z2]
        rw [A4.1]; exact leT (by omega) (fin _ ha.symm)
      | some t =>
        have ha : hwA (some t) n x3 = (t.2.2 : Int) := by unfold hwA; rw [if_neg z, if_pos z2]
        have ct : t.1 < 1000000 := bound
        have hp := A4.2.1
        rw [A4.1]
        refine leF (by omega) (fin _ ?_)
        rw [A4.2.2.1]; exact ha.symm
    · cases s with
      | none =>
        have ha : hwA none n x3 = -3 := by unfold hwA; rw [if_neg z, if_neg z2]
        rw [A4.1]; exact leT (by omega) (fin _ ha.symm)
      | some t =>
        have ha : hwA (some t) n x3 = (t.2.1 x3.toNat : Int) := by unfold hwA; rw [if_neg z, if_neg z2]; exact if_neg (by omega)
        have ct : t.1 < 1000000 := bound
        have hp := A4.2.1
        rw [A4.1]
        refine leF (by omega) ⟨x3.toNat, by omega, fin _ ?_⟩
        rw [A4.2.2.2.2 _ (by omega), ha]
  · refine ref (-3) m (fun _ _ => rfl) (fun _ => rfl) (fun e n b1 b2 b3 b4 b5 => ?_)
    unfold hwA
    rw [if_neg (by omega), if_neg (by omega)]
    split
    · rfl
    · rw [if_pos (by omega)]
end How5
