/-! ===== how: the reference's count and search ===== -/
section How2
variable {G : GG} {d : Nat} {m : MM}
theorem c_isShown {k : Int → MM → Prop} {x1 C : Int} {S : Nat → Int} (hS : m 305 = S) (hw : WfS C S) (n : Nat) (e1 : x1 = (n : Int)) (hn : n < 4) (K : K4) (hK : Kn m (4 * n) K) (hth : th4 K) (hy : K = sh4 S → k 1 m) (hno : ¬ K = sh4 S → k 0 m) : N G (d + 1) mi_X8_isShown 0 [some (vr 304), some (vi x1), none] [] m (RI k) := by
  have w6 := hw.2.2.2.2.2.1
  obtain ⟨k0, k1, k2, k3⟩ := hK
  obtain ⟨t0, t1, t2, t3⟩ := hth
  have h0 := shw_th hw (k := 0) (by omega)
  have h1 := shw_th hw (k := 1) (by omega)
  have h2 := shw_th hw (k := 2) (by omega)
  have h3 := shw_th hw (k := 3) (by omega)
  have r6 : rng (m 305 6) := by rw [hS]; omega
  refine g_X8_isShown_0 _ (g_X8_isShown_2 _ _ (leF (by omega) ⟨4 * n, by omega, c_shownAt 0 rfl (by omega) r6 ?_⟩))
  rw [hS, k0]
  refine eqI (by omega) (fun z0 => ?_) (fun z => hno (fun q => z (by rw [q]; rfl)))
  refine g_X8_isShown_2 _ _ (leF (by omega) ⟨4 * n + 1, by omega, c_shownAt 1 (by omega) (by omega) r6 ?_⟩)
  rw [hS, k1]
  refine eqI (by omega) (fun z1 => ?_) (fun z => hno (fun q => z (by rw [q]; rfl)))
  refine g_X8_isShown_2 _ _ (leF (by omega) ⟨4 * n + 2, by omega, c_shownAt 2 (by omega) (by omega) r6 ?_⟩)
  rw [hS, k2]
  refine eqI (by omega) (fun z2 => ?_) (fun z => hno (fun q => z (by rw [q]; rfl)))
  refine g_X8_isShown_2 _ _ (leF (by omega) ⟨4 * n + 3, by omega, c_shownAt 3 (by omega) (by omega) r6 ?_⟩)
  rw [hS, k3]
  refine eqI (by omega) (fun z3 => ?_) (fun z => hno (fun q => z (by rw [q]; rfl)))
  refine g_X8_isShown_2 _ _ (leT (by omega) (hy ?_))
  obtain ⟨a, b, c, e⟩ := K
  unfold sh4
  dsimp only at z0 z1 z2 z3
  rw [z0, z1, z2, z3]
theorem c_count {Q : MM → Prop} {x1 C : Int} {S : Nat → Int} (hS : m 305 = S) (hw : WfS C S) (n : Nat) (e1 : x1 = (n : Int)) (hn : n < 4) (K : K4) (hK : Kn m (4 * n) K) (hth : th4 K) (p : Nat → Nat) (hp : ∀ j, j < n → m 315 j = (p j : Int)) (hp48 : ∀ j, j < n → p j < 48) (a : Sm) (ha : ArR n m a) (hcn : cn a < 1000000)
    (next : ∀ m', FrG m m' → m' 315 = m 315 → m' 316 = m 316 → ArR n m' (smj a (lft n 1 (HP p n) p (if K = sh4 S then some (1, fun _ => 0, 0) else none))) → Q m') :
    N G (d + 2) mi_X8_count 0 [some (vr 304), some (vi x1), none, none] [] m (RV Q) := by
  refine g_X8_count_0 _ (c_isShown hS hw n e1 hn K hK hth (fun z => eqF (by omega) ?_) (fun z => eqT (by omega) (next m (FrG.rf m) rfl rfl (by rw [if_neg z]; show ArR n m (smj a none); rw [smj_n]; exact ha))))
  rw [if_pos z] at next
  have dv : ∀ j, j < n → idiv ((p j : Nat) : Int) 8 = ((p j / 8 : Nat) : Int) := fun j hj => by
    have := hp48 j hj
    exact idiv_n (a := p j) (b := 8) (by omega) (by omega) (by omega)
  have st : ∀ j, j < n → ior ((HP p j : Nat) : Int) (ishl 1 ((p j / 8 : Nat) : Int)) = ((HP p (j + 1) : Nat) : Int) := fun j hj => by
    have h1 := hp48 j hj
    have h2 := HP_lt (p := p) (j + 1) (fun i hi => hp48 i (by omega))
    rw [ishl_1 (by omega)]
    rw [HP] at h2 ⊢
    exact ior_n (by omega)
  cases a with
  | none =>
    have ha : m 304 31 = 0 ∧ m 304 32 = 0 := ha
    have loop : ∀ (r q : Nat) (x2 x3 : Int) (m1 : MM), q + r = n → x2 = ((HP p q : Nat) : Int) → x3 = (q : Int) → (∀ c, c ≠ 317 → m1 c = m c) → (∀ j, j < q → m1 317 j = (p j : Int)) → N G (d + 2) mi_X8_count 13 [some (vr 304), some (vi x1), some (vi x2), some (vi x3)] [] m1 (RV Q) := by
      intro r
      induction r with
      | zero =>
        intro q x2 x3 m1 hq h2 h3 f1 hf
        have qn : q = n := by omega
        subst qn
        have z31 : m1 304 31 = 0 := by rw [f1 304 (by omega)]; exact ha.1
        refine g_X8_count_13 _ _ _ (leT (by omega) (eqT (by omega) (fun m3 q3 m4 q4 => next m4 ⟨fun c h1 _ _ _ _ _ h7 => ?_, fun b h1 h2 => ?_⟩ ?_ ?_ ?_)))
        · rw [q4, upm_c h1, q3, upm_c h1, f1 c h7]
        · rw [q4, upm_j _ _ h1, q3, upm_j _ _ h2, f1 304 (by omega)]
        · rw [q4, upm_c (by omega), q3, upm_c (by omega), f1 315 (by omega)]
        · rw [q4, upm_c (by omega), q3, upm_c (by omega), f1 316 (by omega)]
        · have hl := HP_lt (p := p) q hp48
          have e317 : m4 317 = m1 317 := by rw [q4, upm_c (by omega), q3, upm_c (by omega)]
          have e3 : m3 304 31 = 0 := by rw [q3, upm_j _ _ (by omega)]; exact z31
          show m4 304 31 = ((1 * 1 : Nat) : Int) ∧ 0 < 1 * 1 ∧ m4 304 32 = ((HP p q ||| 0 : Nat) : Int) ∧ (HP p q ||| 0) < 64 ∧ ∀ j, j < q → m4 317 j = (((if j < q then p j else 0 : Nat)) : Int)
          refine ⟨by rw [q4, upm_at, e3]; rfl, by decide, by rw [q4, upm_j _ _ (by omega), q3, upm_at, h2, Nat.or_zero], by rw [Nat.or_zero]; exact hl, fun j hj => by rw [e317, if_pos hj]; exact hf j hj⟩
      | succ r ih =>
        intro q x2 x3 m1 hq h2 h3 f1 hf
        have z31 : m1 304 31 = 0 := by rw [f1 304 (by omega)]; exact ha.1
        have r5 : m1 315 q = (p q : Int) := by rw [f1 315 (by omega)]; exact hp q (by omega)
        refine g_X8_count_13 _ _ _ (leF (by omega) ⟨q, by omega, eqT (by omega) ⟨q, by omega, q, by omega, fun m2 q2 => ?_⟩⟩)
        rw [r5, dv q (by omega)]
        refine ih (q + 1) _ _ m2 (by omega) (by rw [h2]; exact st q (by omega)) (by omega) (fun c hc => by rw [q2, upm_c hc, f1 c hc]) (fun j hj => ?_)
        by_cases ej : j = q
        · rw [ej, q2, upm_at, r5]
        · rw [q2, upm_j _ _ ej]; exact hf j (by omega)
    exact loop n 0 0 0 m (by omega) rfl rfl (fun _ _ => rfl) (fun j hj => absurd hj (by omega))
  | some t =>
    obtain ⟨a1, a2, a3, a4, a5⟩ : m 304 31 = (t.1 : Int) ∧ 0 < t.1 ∧ m 304 32 = (t.2.2 : Int) ∧ t.2.2 < 64 ∧ ∀ j, j < n → m 317 j = (t.2.1 j : Int) := ha
    have ct : t.1 < 1000000 := hcn
    have loop : ∀ (r q : Nat) (x2 x3 : Int), q + r = n → x2 = ((HP p q : Nat) : Int) → x3 = (q : Int) → N G (d + 2) mi_X8_count 13 [some (vr 304), some (vi x1), some (vi x2), some (vi x3)] [] m (RV Q) := by
      intro r
      induction r with
      | zero =>
        intro q x2 x3 hq h2 h3
        have qn : q = n := by omega
        subst qn
        refine g_X8_count_13 _ _ _ (leT (by omega) (eqF (by omega) (fun m3 q3 m4 q4 => next m4 ⟨fun c h1 _ _ _ _ _ h7 => ?_, fun b h1 h2 => ?_⟩ ?_ ?_ ?_)))
        · rw [q4, upm_c h1, q3, upm_c h1]
        · rw [q4, upm_j _ _ h1, q3, upm_j _ _ h2]
        · rw [q4, upm_c (by omega), q3, upm_c (by omega)]
        · rw [q4, upm_c (by omega), q3, upm_c (by omega)]
        · have e317 : m4 317 = m 317 := by rw [q4, upm_c (by omega), q3, upm_c (by omega)]
          have e3 : m3 304 31 = (t.1 : Int) := by rw [q3, upm_j _ _ (by omega)]; exact a1
          have an : (t.2.2 &&& HP p q) ≤ t.2.2 := Nat.and_le_left
          have e4 : iand (t.2.2 : Int) ((HP p q : Nat) : Int) = ((t.2.2 &&& HP p q : Nat) : Int) := iand_n (by omega)
          show m4 304 31 = ((t.1 + 1 * 1 : Nat) : Int) ∧ 0 < t.1 + 1 * 1 ∧ m4 304 32 = ((t.2.2 &&& (HP p q ||| 0) : Nat) : Int) ∧ (t.2.2 &&& (HP p q ||| 0)) < 64 ∧ ∀ j, j < q → m4 317 j = (t.2.1 j : Int)
          refine ⟨by rw [q4, upm_at, e3]; omega, by omega, by rw [q4, upm_j _ _ (by omega), q3, upm_at, a3, h2, Nat.or_zero, e4], by rw [Nat.or_zero]; omega, fun j hj => by rw [e317]; exact a5 j hj⟩
      | succ r ih =>
        intro q x2 x3 hq h2 h3
        have r5 : m 315 q = (p q : Int) := hp q (by omega)
        refine g_X8_count_13 _ _ _ (leF (by omega) ⟨q, by omega, eqF (by omega) ?_⟩)
        rw [r5, dv q (by omega)]
        exact ih (q + 1) _ _ (by omega) (by rw [h2]; exact st q (by omega)) (by omega)
    exact loop n 0 0 0 (by omega) rfl rfl
theorem c_goThrough_slot {Q : MM → Prop} {m0 : MM} {x1 x2 : Int} {S X : Nat → Int} (C T e n : Nat) (hS : m0 305 = S) (hX : m0 308 = X) (hw : WfS (C : Int) S) (hCC : 1 ≤ C ∧ C ≤ 6) (hW : ∀ t : Nat, (t : Int) < S 3 → WfT X t) (e3 : m0 304 3 = (C : Int)) (eT : S 0 = (T : Int)) (e1 : x1 = (e : Int)) (he : e < 8) (e2 : x2 = (n : Int)) (hn : n < 4) :
    ∀ (r k : Nat) (x3 : Int) (p : Nat → Nat) (K : K4) (a : Sm) (m : MM), k + (r + 1) = n → x3 = (k : Int) → FrG m0 m → (∀ j, j < k → m 315 j = (p j : Int)) → (∀ j, j < k → p j < 48) → Kn m (4 * k) K → th4 K → m 315 k = -1 → ArR n m a → cn (smj a (lft k 1 (HP p k) p (smm S X C T e (r + 1) k K))) < 1000000 →
    (∀ (m' : MM) (x : Int), x = (k : Int) - 1 → FrG m0 m' → (∀ j, j < k → m' 315 j = (p j : Int)) → (∀ j, j < 4 * k + 4 → m' 316 j = m 316 j) → ArR n m' (smj a (lft k 1 (HP p k) p (smm S X C T e (r + 1) k K))) → N G (d + 5) mi_X8_goThrough 9 [some (vr 304), some (vi x1), some (vi x2), some (vi x)] [] m' (RV Q)) →
    N G (d + 5) mi_X8_goThrough 9 [some (vr 304), some (vi x1), some (vi x2), some (vi x3)] [] m (RV Q) := by
  intro r
  induction r with
  | zero =>
    intro k x3 p K a m hkn h3 hfr hp hp48 hK hth hrow hAr hcn next
    have w0 := hw.1
    have loop : ∀ (q c : Nat) (x3 : Int) (m1 : MM), c + q = 8 * C → x3 = (k : Int) → FrG m0 m1 → (∀ j, j < k → m1 315 j = (p j : Int)) → (∀ j, j < 4 * k + 4 → m1 316 j = m 316 j) → m1 315 k = (c : Int) - 1 → ArR n m1 (smj a (lft k 1 (HP p k) p (smf (fun c => if c % 8 < T then smt k c (2 ^ (c / 8)) (smm S X C T e 0 (k + 1) (stp S X e k c K)) else none) c))) → N G (d + 5) mi_X8_goThrough 9 [some (vr 304), some (vi x1), some (vi x2), some (vi x3)] [] m1 (RV Q) := by
      intro q
      induction q with
      | zero =>
        intro c x3 m1 hq h3 hf hp1 h6 hr1 hA
        have hc : c = 8 * C := by omega
        subst hc
        refine g_X8_goThrough_9 _ _ _ (ltF (by omega) ⟨k, by omega, k, by omega, fun m2 q2 => ⟨k, by omega, ?_⟩⟩)
        have f2 : FrG m0 m2 := by rw [q2]; exact hf.up (by omega)
        have v1 : m2 315 k = ((8 * C : Nat) : Int) := by rw [q2, upm_at, hr1]; omega
        have v2 : m2 304 3 = (C : Int) := (f2.2 3 (by omega) (by omega)).trans e3
        rw [v1, v2]
        refine ltF (by omega) (next m2 _ (by omega) f2 (fun j hj => by rw [q2, upm_j _ _ (by omega)]; exact hp1 j hj) (fun j hj => by rw [q2, upm_c (by omega)]; exact h6 j hj) ?_)
        exact hA.fr (by rw [q2, upm_c (by omega)]) (by rw [q2, upm_c (by omega)]) (by rw [q2, upm_c (by omega)])
      | succ q ih =>
        intro c x3 m1 hq h3 hf hp1 h6 hr1 hA
        refine g_X8_goThrough_9 _ _ _ (ltF (by omega) ⟨k, by omega, k, by omega, fun m2 q2 => ⟨k, by omega, ?_⟩⟩)
        have f2 : FrG m0 m2 := by rw [q2]; exact hf.up (by omega)
        have v1 : m2 315 k = (c : Int) := by rw [q2, upm_at, hr1]; omega
        have v2 : m2 304 3 = (C : Int) := (f2.2 3 (by omega) (by omega)).trans e3
        have v3 : m2 305 = S := (f2.1 305 (by omega) (by omega) (by omega) (by omega) (by omega) (by omega) (by omega)).trans hS
        have v4 : m2 308 = X := (f2.1 308 (by omega) (by omega) (by omega) (by omega) (by omega) (by omega) (by omega)).trans hX
        have p2 : ∀ j, j < k → m2 315 j = (p j : Int) := fun j hj => by rw [q2, upm_j _ _ (by omega)]; exact hp1 j hj
        have s2 : m2 316 = m1 316 := by rw [q2, upm_c (by omega)]
        have A2 : ArR n m2 _ := hA.fr (m' := m2) (by rw [q2, upm_c (by omega)]) (by rw [q2, upm_c (by omega)]) (by rw [q2, upm_c (by omega)])
        have ir : irem ((c : Nat) : Int) 8 = ((c % 8 : Nat) : Int) := irem_n (a := c) (b := 8) (by omega) (by omega) (by omega)
        rw [v1, v2]
        refine ltT (by omega) ⟨k, by omega, ?_⟩
        rw [v1, v3, ir, eT]
        refine ltI (by omega) (fun z => ?_) (fun z => ?_)
        · refine c_goOn v3 v4 hw (by omega) hW e k c e1 he h3 (by omega) v1 (by omega) K (hK.fr (fun j h1 h2 => by rw [s2]; exact h6 j (by omega))) hth (fun m7 f7 g7 kn7 => leT (by omega) ?_)
          have f7G : FrG m2 m7 := ⟨fun a _ h2 h3 h4 _ h6 _ => f7 a h2 h3 h4 h6, fun b _ _ => by rw [f7 304 (by omega) (by omega) (by omega) (by omega)]⟩
          have v7 : m7 305 = S := (f7 305 (by omega) (by omega) (by omega) (by omega)).trans v3
          have row7 : m7 315 = m2 315 := f7 315 (by omega) (by omega) (by omega) (by omega)
          have kn : k + 1 = n := by omega
          have hA7 : ArR n m7 _ := A2.fr (m' := m7) (by rw [f7 304 (by omega) (by omega) (by omega) (by omega)]) (by rw [f7 304 (by omega) (by omega) (by omega) (by omega)]) (f7 317 (by omega) (by omega) (by omega) (by omega))
          have po : ∀ j, j < n → m7 315 j = ((ov k c p j : Nat) : Int) := fun j hj => by
            rw [row7]
            unfold ov
            by_cases ej : j = k
            · rw [if_pos ej, ej]; exact v1
            · rw [if_neg ej]; exact p2 j (by omega)
          have po48 : ∀ j, j < n → ov k c p j < 48 := fun j hj => by
            unfold ov
            by_cases ej : j = k
            · rw [if_pos ej]; omega
            · rw [if_neg ej]; exact hp48 j (by omega)
          have hmono : cn (smj a (lft k 1 (HP p k) p (smf (fun c => if c % 8 < T then smt k c (2 ^ (c / 8)) (smm S X C T e 0 (k + 1) (stp S X e k c K)) else none) c))) < 1000000 := by
            rw [cn_j, cn_l] at hcn ⊢
            rw [smm] at hcn
            have := smf_mono (fun c => if c % 8 < T then smt k c (2 ^ (c / 8)) (smm S X C T e 0 (k + 1) (stp S X e k c K)) else none) c (8 * C) (by omega)
            omega
          refine c_count v7 hw n e2 hn (stp S X e k c K) (by rw [← kn, show 4 * (k + 1) = 4 * k + 4 by omega]; exact kn7) (stp_th hth) (ov k c p) po po48 _ hA7 hmono (fun m9 f9 r9 s9 A9 => ?_)
          refine ih (c + 1) _ m9 (by omega) h3 (f2.tr (f7G.tr f9)) (fun j hj => by rw [r9, row7]; exact p2 j hj) (fun j hj => by rw [s9, g7 j hj, s2]; exact h6 j hj) (by rw [r9, row7, v1]; omega) ?_
          rw [smf, lft_j, ← smj_as]
          have e9 : lft k 1 (HP p k) p (if c % 8 < T then smt k c (2 ^ (c / 8)) (smm S X C T e 0 (k + 1) (stp S X e k c K)) else none) = lft n 1 (HP (ov k c p) n) (ov k c p) (if stp S X e k c K = sh4 S then some (1, fun _ => 0, 0) else none) := by
            rw [if_pos (by omega), lft_t, ← HP_ov, kn]
            rfl
          rw [e9]
          exact A9
        · refine ih (c + 1) _ m2 (by omega) h3 f2 p2 (fun j hj => by rw [s2]; exact h6 j hj) (by rw [v1]; omega) ?_
          rw [smf, if_neg (by omega), smj_n]
          exact A2
    refine loop (8 * C) 0 x3 m (by omega) h3 hfr hp (fun _ _ => rfl) (by rw [hrow]; rfl) ?_
    show ArR n m (smj a none)
    rw [smj_n]
    exact hAr
  | succ r IH =>
    intro k x3 p K a m hkn h3 hfr hp hp48 hK hth hrow hAr hcn next
    have w0 := hw.1
    have loop : ∀ (q c : Nat) (x3 : Int) (m1 : MM), c + q = 8 * C → x3 = (k : Int) → FrG m0 m1 → (∀ j, j < k → m1 315 j = (p j : Int)) → (∀ j, j < 4 * k + 4 → m1 316 j = m 316 j) → m1 315 k = (c : Int) - 1 → ArR n m1 (smj a (lft k 1 (HP p k) p (smf (fun c => if c % 8 < T then smt k c (2 ^ (c / 8)) (smm S X C T e (r + 1) (k + 1) (stp S X e k c K)) else none) c))) → N G (d + 5) mi_X8_goThrough 9 [some (vr 304), some (vi x1), some (vi x2), some (vi x3)] [] m1 (RV Q) := by
      intro q
      induction q with
      | zero =>
        intro c x3 m1 hq h3 hf hp1 h6 hr1 hA
        have hc : c = 8 * C := by omega
        subst hc
        refine g_X8_goThrough_9 _ _ _ (ltF (by omega) ⟨k, by omega, k, by omega, fun m2 q2 => ⟨k, by omega, ?_⟩⟩)
        have f2 : FrG m0 m2 := by rw [q2]; exact hf.up (by omega)
        have v1 : m2 315 k = ((8 * C : Nat) : Int) := by rw [q2, upm_at, hr1]; omega
        have v2 : m2 304 3 = (C : Int) := (f2.2 3 (by omega) (by omega)).trans e3
        rw [v1, v2]
        refine ltF (by omega) (next m2 _ (by omega) f2 (fun j hj => by rw [q2, upm_j _ _ (by omega)]; exact hp1 j hj) (fun j hj => by rw [q2, upm_c (by omega)]; exact h6 j hj) ?_)
        exact hA.fr (by rw [q2, upm_c (by omega)]) (by rw [q2, upm_c (by omega)]) (by rw [q2, upm_c (by omega)])
      | succ q ih =>
        intro c x3 m1 hq h3 hf hp1 h6 hr1 hA
        refine g_X8_goThrough_9 _ _ _ (ltF (by omega) ⟨k, by omega, k, by omega, fun m2 q2 => ⟨k, by omega, ?_⟩⟩)
        have f2 : FrG m0 m2 := by rw [q2]; exact hf.up (by omega)
        have v1 : m2 315 k = (c : Int) := by rw [q2, upm_at, hr1]; omega
        have v2 : m2 304 3 = (C : Int) := (f2.2 3 (by omega) (by omega)).trans e3
        have v3 : m2 305 = S := (f2.1 305 (by omega) (by omega) (by omega) (by omega) (by omega) (by omega) (by omega)).trans hS
        have v4 : m2 308 = X := (f2.1 308 (by omega) (by omega) (by omega) (by omega) (by omega) (by omega) (by omega)).trans hX
        have p2 : ∀ j, j < k → m2 315 j = (p j : Int) := fun j hj => by rw [q2, upm_j _ _ (by omega)]; exact hp1 j hj
        have s2 : m2 316 = m1 316 := by rw [q2, upm_c (by omega)]
        have A2 : ArR n m2 _ := hA.fr (m' := m2) (by rw [q2, upm_c (by omega)]) (by rw [q2, upm_c (by omega)]) (by rw [q2, upm_c (by omega)])
        have ir : irem ((c : Nat) : Int) 8 = ((c % 8 : Nat) : Int) := irem_n (a := c) (b := 8) (by omega) (by omega) (by omega)
        rw [v1, v2]
        refine ltT (by omega) ⟨k, by omega, ?_⟩
        rw [v1, v3, ir, eT]
        refine ltI (by omega) (fun z => ?_) (fun z => ?_)
        · refine c_goOn v3 v4 hw (by omega) hW e k c e1 he h3 (by omega) v1 (by omega) K (hK.fr (fun j h1 h2 => by rw [s2]; exact h6 j (by omega))) hth (fun m7 f7 g7 kn7 => leF (by omega) ⟨k + 1, by omega, fun m10 q10 => ?_⟩)
          have f7G : FrG m2 m7 := ⟨fun a _ h2 h3 h4 _ h6 _ => f7 a h2 h3 h4 h6, fun b _ _ => by rw [f7 304 (by omega) (by omega) (by omega) (by omega)]⟩
          have row7 : m7 315 = m2 315 := f7 315 (by omega) (by omega) (by omega) (by omega)
          have hA7 : ArR n m7 _ := A2.fr (m' := m7) (by rw [f7 304 (by omega) (by omega) (by omega) (by omega)]) (by rw [f7 304 (by omega) (by omega) (by omega) (by omega)]) (f7 317 (by omega) (by omega) (by omega) (by omega))
          have hA10 : ArR n m10 _ := hA7.fr (m' := m10) (by rw [q10, upm_c (by omega)]) (by rw [q10, upm_c (by omega)]) (by rw [q10, upm_c (by omega)])
          have s10 : m10 316 = m7 316 := by rw [q10, upm_c (by omega)]
          have po : ∀ j, j < k + 1 → m10 315 j = ((ov k c p j : Nat) : Int) := fun j hj => by
            rw [q10, upm_j _ _ (by omega), row7]
            unfold ov
            by_cases ej : j = k
            · rw [if_pos ej, ej]; exact v1
            · rw [if_neg ej]; exact p2 j (by omega)
          have po48 : ∀ j, j < k + 1 → ov k c p j < 48 := fun j hj => by
            unfold ov
            by_cases ej : j = k
            · rw [if_pos ej]; omega
            · rw [if_neg ej]; exact hp48 j (by omega)
          have e9 : lft k 1 (HP p k) p (if c % 8 < T then smt k c (2 ^ (c / 8)) (smm S X C T e (r + 1) (k + 1) (stp S X e k c K)) else none) = lft (k + 1) 1 (HP (ov k c p) (k + 1)) (ov k c p) (smm S X C T e (r + 1) (k + 1) (stp S X e k c K)) := by
            rw [if_pos (by omega), lft_t, ← HP_ov]
          have ef : smj (smj a (lft k 1 (HP p k) p (smf (fun c => if c % 8 < T then smt k c (2 ^ (c / 8)) (smm S X C T e (r + 1) (k + 1) (stp S X e k c K)) else none) c))) (lft (k + 1) 1 (HP (ov k c p) (k + 1)) (ov k c p) (smm S X C T e (r + 1) (k + 1) (stp S X e k c K))) = smj a (lft k 1 (HP p k) p (smf (fun c => if c % 8 < T then smt k c (2 ^ (c / 8)) (smm S X C T e (r + 1) (k + 1) (stp S X e k c K)) else none) (c + 1))) := by
            rw [← e9, smj_as, ← lft_j]
            rfl
          refine IH (k + 1) _ (ov k c p) (stp S X e k c K) _ m10 (by omega) (by omega) ((f2.tr f7G).tr (by rw [q10]; exact (FrG.rf m7).up (by omega))) po po48 (by rw [show 4 * (k + 1) = 4 * k + 4 by omega]; exact kn7.fr (fun j _ _ => by rw [s10])) (stp_th hth) (by rw [q10, upm_at]) hA10 ?_ (fun m9 x ex f9 p9 s9 A9 => ?_)
          · rw [ef]
            rw [cn_j, cn_l] at hcn ⊢
            rw [smm] at hcn
            have := smf_mono (fun c => if c % 8 < T then smt k c (2 ^ (c / 8)) (smm S X C T e (r + 1) (k + 1) (stp S X e k c K)) else none) (c + 1) (8 * C) (by omega)
            omega
          · rw [ef] at A9
            refine ih (c + 1) x m9 (by omega) (by omega) f9 (fun j hj => by rw [p9 j (by omega)]; unfold ov; rw [if_neg (by omega)]) (fun j hj => by rw [s9 j (by omega), s10, g7 j hj, s2]; exact h6 j hj) (by rw [p9 k (by omega)]; unfold ov; rw [if_pos rfl]; omega) A9
        · refine ih (c + 1) _ m2 (by omega) h3 f2 p2 (fun j hj => by rw [s2]; exact h6 j hj) (by rw [v1]; omega) ?_
          rw [smf, if_neg (by omega), smj_n]
          exact A2
    refine loop (8 * C) 0 x3 m (by omega) h3 hfr hp (fun _ _ => rfl) (by rw [hrow]; rfl) ?_
    show ArR n m (smj a none)
    rw [smj_n]
    exact hAr
end How2
