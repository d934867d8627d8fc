/-! ===== how: the class's search ===== -/
theorem ior_h1 {hands : Nat} (h : hands < 4) : ior (hands : Int) 1 = ((hands ||| 1 : Nat) : Int) ∧ (hands ||| 1) < 4 ∧ (hands ||| 1) % 2 = 1 := by
  have : hands = 0 ∨ hands = 1 ∨ hands = 2 ∨ hands = 3 := by omega
  rcases this with rfl | rfl | rfl | rfl <;> decide +kernel
theorem ior_h2 {hands : Nat} (h : hands < 4) : ior (hands : Int) 2 = ((hands ||| 2 : Nat) : Int) ∧ (hands ||| 2) < 4 ∧ ((hands ||| 2) % 2 = 1 → hands % 2 = 1) := by
  have : hands = 0 ∨ hands = 1 ∨ hands = 2 ∨ hands = 3 := by omega
  rcases this with rfl | rfl | rfl | rfl <;> decide +kernel
theorem smm_split {S X : Nat → Int} {C T e r k : Nat} {K : K4} (hT : T ≤ 8) (hC : C ≤ 6) (hw : -1 ≤ S (20 + 8 * e + 2) ∧ S (20 + 8 * e + 2) < (C : Int)) :
    smm S X C T e (r + 1) k K = if S (20 + 8 * e + 2) = -1 then grp k 0 C T (smm S X C T e r (k + 1) K) else if S (20 + 8 * e + 2) = 0 then smj (smf (fun c => smt k c (2 ^ (c / 8)) (smm S X C T e r (k + 1) (stp S X e k c K))) T) (grp k 1 (C - 1) T (smm S X C T e r (k + 1) K)) else smj (grp k 0 (C - 1) T (smm S X C T e r (k + 1) K)) (smf (fun t => smt k (8 * (S (20 + 8 * e + 2)).toNat + t) (2 ^ ((8 * (S (20 + 8 * e + 2)).toNat + t) / 8)) (smm S X C T e r (k + 1) (stp S X e k (8 * (S (20 + 8 * e + 2)).toNat + t) K))) T) := by
  rw [smm]
  exact smf_split (B := fun c => smt k c (2 ^ (c / 8)) (smm S X C T e r (k + 1) (stp S X e k c K))) hT hC hw (fun c hc => by
    have : stp S X e k c K = K := by unfold stp; rw [if_neg (fun q => hc q.1.symm)]
    rw [this])
section How4
variable {G : GG} {d : Nat}
/-- what stands all along -/
def CtC (m0 : MM) (S X : Nat → Int) (W : Nat → Nat → Int) (C T e n w oth low : Nat) (wi : Int) : Prop :=
  WfS (C : Int) S ∧ (1 ≤ C ∧ C ≤ 6) ∧ S 0 = (T : Int) ∧ e < 8 ∧ (e : Int) < S 1 ∧ n ≤ 3 ∧ S 2 + (n : Int) ≤ 999 ∧ Asks m0 S X ∧ m0 12 0 = S 0 ∧ m0 12 8 = pk4 (sh4 S) ∧ m0 16 0 = S 2 ∧ m0 279 0 = (e : Int) ∧ m0 279 1 = (n : Int) ∧ m0 279 2 = wi ∧ m0 279 3 = (oth : Int) ∧ m0 279 4 = (low : Int) ∧ wi = S (20 + 8 * e + 2) ∧ w = wi.toNat ∧ oth ≤ 6 ∧ low < 6 ∧ W e 1 = S (20 + 8 * e + 3) ∧
  (if wi = -1 then oth = C ∧ low = 0 else if wi = 0 then oth = C - 1 ∧ low = 1 else oth = C - 1 ∧ low = 0)
theorem c7_rows {m0 : MM} {S X : Nat → Int} {W : Nat → Nat → Int} {C T e n w oth low : Nat} {wi : Int} (ct : CtC m0 S X W C T e n w oth low wi) :
    ∀ (r k : Nat) (x1 x2 x3 x4 : Int) (p : Nat → Nat) (K : K4) (al hands : Nat) (a : Sm) (m : MM) (Q : MM → Prop), k + r = n → x1 = (k : Int) → x2 = pk4 K → x3 = (al : Int) → x4 = (hands : Int) → hands < 4 → 0 < al → InC m0 W e m → (∀ j, j < k → m 280 j = (p j : Int)) → th4 K → (hands % 2 = 1 → wi = (w : Int)) → AcC n m a → cn (smj a (lft k al (Hs w oth low hands) p (smm S X C T e r k K))) < 1000000 →
    (∀ m', InC m0 W e m' → (∀ j, j < k → m' 280 j = (p j : Int)) → AcC n m' (smj a (lft k al (Hs w oth low hands) p (smm S X C T e r k K))) → Q m') →
    N G (d + 2 * r + 6) mi_X7_goThroughRows 0 [some (vr 0), some (vi x1), some (vi x2), some (vi x3), some (vi x4)] [] m (RV Q) := by
  obtain ⟨hw, hC, hT, he, he1, hn, hh, hask, z0, z8, z16, y0, y1, y2, y3, y4, ewi, ew, ho, hl, hW1, hsel⟩ := ct
  have w0 := hw.1
  have hv := hw.2.2.2.2.2.2.2.2.2.1
  have ie := hv.2.2.1 e he
  unfold eyeOK at ie
  have wn : nowW S e 0 = S (20 + 8 * e + 2) := rfl
  rw [wn] at ie
  have hh1 := hv.1
  have w6 : w < 6 := by omega
  have hT8 : T ≤ 8 := by omega
  have oT : oth * T ≤ 6 * 8 := Nat.mul_le_mul ho hT8
  have w3 := hw.2.2.1
  have w4 := hw.2.2.2.1
  have hch := (hw.2.2.2.2.2.2.2.2.1 e he).2
  intro r
  induction r with
  | zero =>
    intro k x1 x2 x3 x4 p K al hands a m Q hkn h1 h2 h3 h4 hha hal hin hp hth hwi hac hcn next
    have kn : k = n := by omega
    subst kn
    obtain ⟨i1, i2, hr, K', i3⟩ := hin
    have v1 : m 279 1 = (k : Int) := by rw [i2 1 (by omega) (by omega)]; exact y1
    have v8 : m 12 8 = pk4 (sh4 S) := by rw [i1 12 (by omega)]; exact z8
    have t0 := shw_th hw (k := 0) (by omega)
    have t1 := shw_th hw (k := 1) (by omega)
    have t2 := shw_th hw (k := 2) (by omega)
    have t3 := shw_th hw (k := 3) (by omega)
    obtain ⟨q0, hq0, hq0'⟩ := pk_nat hth.1 hth.2.1 hth.2.2.1 hth.2.2.2
    obtain ⟨q1, hq1, hq1'⟩ := pk_nat t0 t1 t2 t3
    refine g_X7_goThroughRows_0 _ _ _ _ ?_
    rw [v1, v8, h2]
    have inj : pk4 K = pk4 (sh4 S) ↔ K = sh4 S := by
      refine ⟨fun h => ?_, fun h => by rw [h]⟩
      have := (pk_inj hth.1 hth.2.1 hth.2.2.1 hth.2.2.2 t0 t1 t2 t3).mp h
      obtain ⟨a, b, c, e⟩ := K
      unfold sh4
      obtain ⟨u0, u1, u2, u3⟩ := this
      dsimp only at u0 u1 u2 u3
      rw [u0, u1, u2, u3]
    have rr : rng (pk4 K) ∧ rng (pk4 (sh4 S)) := by
      have e1 : pk4 K = (q0 : Int) := hq0
      have e2 : pk4 (sh4 S) = (q1 : Int) := hq1
      omega
    have ci : cn a < 1000000 := by rw [cn_j] at hcn; omega
    refine ltF (by omega) (eqI rr (fun z => ?_) (fun z => ?_))
    · have z' := inj.mp z
      rw [smm, if_pos z'] at next
      refine c4_found k al hands w oth low hn h3 h4 hha hal (i2 2 (by omega) (by omega) |>.trans y2) hwi w6 (i2 3 (by omega) (by omega) |>.trans y3) ho (i2 4 (by omega) (by omega) |>.trans y4) hl p hp a hac ci (fun m' f1 f2 A => next m' (InC.as ⟨i1, i2, hr, K', i3⟩ (fun c _ _ h7 _ h9 => f1 c h7 h9) f2) (fun j hj => by rw [f1 280 (by omega) (by omega)]; exact hp j hj) A)
    · have z' : ¬ K = sh4 S := fun q => z (inj.mpr q)
      rw [smm, if_neg z'] at next
      exact next m ⟨i1, i2, hr, K', i3⟩ hp (by show AcC k m (smj a none); rw [smj_n]; exact hac)
  | succ r IH =>
    intro k x1 x2 x3 x4 p K al hands a m Q hkn h1 h2 h3 h4 hha hal hin hp hth hwi hac hcn next
    rw [show d + 2 * (r + 1) + 6 = (d + 2 * r + 6) + 1 + 1 by omega]
    -- the others
    have others : ∀ (a : Sm) (m : MM) (Q : MM → Prop), InC m0 W e m → (∀ j, j < k → m 280 j = (p j : Int)) → AcC n m a → cn (smj a (lft k al (Hs w oth low hands) p (grp k low oth T (smm S X C T e r (k + 1) K)))) < 1000000 →
        (∀ m', InC m0 W e m' → (∀ j, j < k → m' 280 j = (p j : Int)) → AcC n m' (smj a (lft k al (Hs w oth low hands) p (grp k low oth T (smm S X C T e r (k + 1) K)))) → Q m') →
        N G ((d + 2 * r + 6) + 1) mi_X7_touchByOthers 0 [some (vr 0), some (vi x1), some (vi x2), some (vi x3), some (vi x4), none] [] m (RV Q) := by
      intro a m Q hin hp hac hcn next
      have i1 := hin.1
      have i2 := hin.2.1
      have v3 : m 279 3 = (oth : Int) := (i2 3 (by omega) (by omega)).trans y3
      have v4 : m 279 4 = (low : Int) := (i2 4 (by omega) (by omega)).trans y4
      have v0 : m 12 0 = (T : Int) := by rw [i1 12 (by omega), z0, hT]
      have eo : (oth : Int) * (T : Int) = ((oth * T : Nat) : Int) := by simp
      rw [lft_g] at hcn next
      refine g_X7_touchByOthers_0 _ _ _ _ ?_
      rw [v3, v4, v0, eo]
      refine leI (by omega) (fun z => ?_) (fun z => leF (by omega) ⟨k, by omega, fun m1 q1 => ?_⟩)
      · rw [if_pos (by omega)] at next
        exact next m hin hp (by rw [smj_n]; exact hac)
      · rw [if_neg (by omega)] at hcn next
        have o1 : ∀ c, c ≠ 280 → m1 c = m c := fun c hc => by rw [q1, upm_c hc]
        obtain ⟨g1, g2, g3⟩ := ior_h2 hha
        rw [← Hs_2 w oth low hha] at hcn next
        refine IH (k + 1) _ _ _ _ (ov k (8 * low) p) K (al * (oth * T)) (hands ||| 2) a m1 Q (by omega) (by omega) h2 (by rw [h3]; simp) (by rw [h4]; exact g1) g2 (Nat.mul_pos hal (by omega)) (hin.as (fun c _ _ _ h8 _ => o1 c h8) (fun b _ _ => by rw [o1 279 (by omega)])) (fun j hj => ?_) hth (fun q => hwi (g3 q)) (hac.fr (by rw [o1 279 (by omega)]) (by rw [o1 279 (by omega)]) (o1 281 (by omega))) hcn (fun m' I P A => next m' I (fun j hj => ?_) A)
        · rw [q1]
          unfold ov
          by_cases ej : j = k
          · rw [ej, upm_at, if_pos rfl]; omega
          · rw [upm_j _ _ ej, if_neg ej]; exact hp j (by omega)
        · rw [P j (by omega)]; unfold ov; rw [if_neg (by omega)]
    -- the wearer
    have wearer : wi = (w : Int) → ∀ (a : Sm) (m : MM) (Q : MM → Prop), InC m0 W e m → (∀ j, j < k → m 280 j = (p j : Int)) → AcC n m a → cn (smj a (lft k al (Hs w oth low hands) p (smf (fun t => smt k (8 * w + t) (2 ^ ((8 * w + t) / 8)) (smm S X C T e r (k + 1) (stp S X e k (8 * w + t) K))) T))) < 1000000 →
        (∀ m', InC m0 W e m' → (∀ j, j < k → m' 280 j = (p j : Int)) → AcC n m' (smj a (lft k al (Hs w oth low hands) p (smf (fun t => smt k (8 * w + t) (2 ^ ((8 * w + t) / 8)) (smm S X C T e r (k + 1) (stp S X e k (8 * w + t) K))) T))) → Q m') →
        N G ((d + 2 * r + 6) + 1) mi_X7_touchByWearer 0 [some (vr 0), some (vi x1), some (vi x2), some (vi x3), some (vi x4), none, none, none] [] m (RV Q) := by
      intro hwiw a m Q hin hp hac hcn next
      refine g_X7_touchByWearer_0 _ _ _ _ ?_
      have v16 : m 16 0 = S 2 := by rw [hin.1 16 (by omega)]; exact z16
      have e5 : m 16 0 + x1 + 1 = S 2 + (k : Int) + 1 := by rw [v16, h1]
      rw [e5]
      have loop : ∀ (q t : Nat) (x6 : Int) (m1 : MM), t + q = T → x6 = (t : Int) → InC m0 W e m1 → (∀ j, j < k → m1 280 j = (p j : Int)) → AcC n m1 (smj a (lft k al (Hs w oth low hands) p (smf (fun t => smt k (8 * w + t) (2 ^ ((8 * w + t) / 8)) (smm S X C T e r (k + 1) (stp S X e k (8 * w + t) K))) t))) → N G ((d + 2 * r + 6) + 1) mi_X7_touchByWearer 19 [some (vr 0), some (vi x1), some (vi x2), some (vi x3), some (vi x4), some (vi (S 2 + (k : Int) + 1)), some (vi x6), none] [] m1 (RV Q) := by
        intro q
        induction q with
        | zero =>
          intro t x6 m1 hq h6 hin1 hp1 hA
          have tT : t = T := by omega
          subst tT
          have v0 : m1 12 0 = (t : Int) := by rw [hin1.1 12 (by omega), z0, hT]
          refine g_X7_touchByWearer_19 _ _ _ _ _ _ ?_
          rw [v0]
          exact leT (by omega) (next m1 hin1 hp1 hA)
        | succ q ih =>
          intro t x6 m1 hq h6 hin1 hp1 hA
          obtain ⟨i1, i2, hr, K', i3⟩ := hin1
          have v0 : m1 12 0 = (T : Int) := by rw [i1 12 (by omega), z0, hT]
          refine g_X7_touchByWearer_19 _ _ _ _ _ _ ?_
          rw [v0]
          have u0 : m1 279 0 = (e : Int) := (i2 0 (by omega) (by omega)).trans y0
          have u2 : m1 279 2 = wi := (i2 2 (by omega) (by omega)).trans y2
          refine leF (by omega) (leF (by omega) (fun m2 q2 => ⟨e, ⟨by rw [q2, upm_c (by omega)]; exact u0, he⟩, fun m3 q3 => ?_⟩))
          have o3 : ∀ c, c ≠ 272 → c ≠ 275 → m3 c = m1 c := fun c c1 c2 => by rw [q3, upm_c c2, q2, upm_c c1]
          have cr3 : Crt m3 272 (S 2 + (k : Int) + 1) (ptW W e K) := by
            refine ⟨by rw [q3, upm_c (by omega), q2, upm_at], fun e' he' => ?_⟩
            obtain ⟨b1, b2, b3⟩ := i3.2 e' he'
            refine ⟨?_, ?_, ?_⟩
            · rw [o3 273 (by omega) (by omega), ptW_lo _ _ _ _ _ (by omega), ← ptW_lo W e K' _ _ (by omega)]; exact b1
            · rw [o3 274 (by omega) (by omega), ptW_lo _ _ _ _ _ (by omega), ← ptW_lo W e K' _ _ (by omega)]; exact b2
            · by_cases ee : e' = e
              · rw [ee, q3, ptW_pk]
                show upm m2 275 e x2 275 e = _
                rw [upm_at]; exact h2
              · rw [q3]
                show upm m2 275 e x2 275 e' = _
                rw [upm_j _ _ ee, q2, upm_c (by omega)]
                have : pkW (ptW W e K) e' = pkW (ptW W e K') e' := by simp [pkW, ptW, ee]
                rw [this]; exact b3
          have f3 : ∀ c, c < 272 ∨ 284 ≤ c → m3 c = m0 c := fun c hc => (o3 c (by omega) (by omega)).trans (i1 c hc)
          have g3 : ∀ b, b ≠ 5 → b ≠ 6 → m3 279 b = m0 279 b := fun b b5 b6 => by rw [o3 279 (by omega) (by omega)]; exact i2 b b5 b6
          have in3 : InC m0 W e m3 := ⟨f3, g3, _, K, cr3⟩
          have ask3 : Asks m3 S X := hask.fr (fun c hc => f3 c (by omega)) (by omega)
          have sn := hw.since he
          have es1 : ptW W e K e 1 = S (20 + 8 * e + 3) := by rw [ptW_lo _ _ _ _ _ (by omega)]; exact hW1
          rw [show m3 279 0 = (e : Int) by rw [o3 279 (by omega) (by omega)]; exact u0, show m3 279 2 = wi by rw [o3 279 (by omega) (by omega)]; exact u2]
          refine c7_isSeen hw ask3 272 sh_272 (by omega) cr3 e t rfl he h6 (by omega) (ptW_th hth) (by omega) (by rw [es1]; exact sn) (by omega) (fun m5 f5 => ⟨k, by omega, fun m6 q6 => ?_⟩)
          have c8 : (8 * w + t) / 8 = w := by omega
          have c9 : (8 * w + t) % 8 = t := by omega
          have est : stp S X e k (8 * w + t) K = if seeF X (S 4) (nmv S e (S 2 + (k : Int) + 1) (S (20 + 8 * e + 3)) (cm4 K) t wi) ≠ 0 then ch4 (S (20 + 8 * e + 1)) (t : Int) K else K := by
            unfold stp
            rw [c8, c9, ← hwiw, ewi]
            simp only [true_and]
          rw [es1, ptW_cm]
          have cb := cnt_bd (fun q => pl K.1 K.2.1 K.2.2.1 K.2.2.2 q) 4
          have sm9 := nmv_sm hw he (hr := S 2 + (k : Int) + 1) (sn := S (20 + 8 * e + 3)) (mny := cm4 K) (by omega) sn (by unfold cm4; omega) (th := t) (by omega) (who := wi) (by omega)
          have s01 := seeF_01 (X := X) (T := S 4) (fun h => (hask.2.2.2.2 _ (by omega)).2) sm9
          have o6 : ∀ c, c ≠ 277 → c ≠ 278 → c ≠ 280 → m6 c = m3 c := fun c h1 h2 h3 => by rw [q6, upm_c h3, f5 c h1 h2]
          have in6 : InC m0 W e m6 := in3.as (fun c h7 h8 _ h0 _ => o6 c h7 h8 h0) (fun b _ _ => by rw [o6 279 (by omega) (by omega) (by omega)])
          have A6 : AcC n m6 _ := hA.fr (m' := m6) (by rw [o6 279 (by omega) (by omega) (by omega), o3 279 (by omega) (by omega)]) (by rw [o6 279 (by omega) (by omega) (by omega), o3 279 (by omega) (by omega)]) (by rw [o6 281 (by omega) (by omega) (by omega), o3 281 (by omega) (by omega)])
          have p6 : ∀ j, j < k + 1 → m6 280 j = ((ov k (8 * w + t) p j : Nat) : Int) := fun j hj => by
            rw [q6]
            unfold ov
            by_cases ej : j = k
            · rw [ej, upm_at, if_pos rfl, f5 279 (by omega) (by omega), o3 279 (by omega) (by omega), u2]; omega
            · rw [upm_j _ _ ej, if_neg ej, f5 280 (by omega) (by omega), o3 280 (by omega) (by omega)]; exact hp1 j (by omega)
          obtain ⟨g1, g2, g4⟩ := ior_h1 hha
          have ef : smj (smj a (lft k al (Hs w oth low hands) p (smf (fun t => smt k (8 * w + t) (2 ^ ((8 * w + t) / 8)) (smm S X C T e r (k + 1) (stp S X e k (8 * w + t) K))) t))) (lft (k + 1) al (Hs w oth low (hands ||| 1)) (ov k (8 * w + t) p) (smm S X C T e r (k + 1) (stp S X e k (8 * w + t) K))) = smj a (lft k al (Hs w oth low hands) p (smf (fun t => smt k (8 * w + t) (2 ^ ((8 * w + t) / 8)) (smm S X C T e r (k + 1) (stp S X e k (8 * w + t) K))) (t + 1))) := by
            rw [Hs_1 w oth low hha, smj_as]
            have := lft_t k al (Hs w oth low hands) (8 * w + t) (2 ^ w) p (smm S X C T e r (k + 1) (stp S X e k (8 * w + t) K))
            rw [← this, ← lft_j, smf, c8]
          have go : ∀ (s0 s1 : Int) (m7 : MM), s0 = pk4 (stp S X e k (8 * w + t) K) → s1 = (k : Int) + 1 → m7 = m6 → N G ((d + 2 * r + 6) + 1) mi_X7_touchByWearer 136 [some (vr 0), some (vi x1), some (vi x2), some (vi x3), some (vi x4), some (vi (S 2 + (k : Int) + 1)), some (vi x6), none] [vi s0, vi s1, vr 0] m7 (RV Q) := by
            intro s0 s1 m7 es0 es1 em7
            rw [em7]
            refine g_X7_touchByWearer_136 _ _ _ _ _ _ _ _ (IH (k + 1) _ _ _ _ (ov k (8 * w + t) p) (stp S X e k (8 * w + t) K) al (hands ||| 1) _ m6 _ (by omega) (by omega) es0 h3 (by rw [h4]; exact g1) g2 hal in6 p6 (stp_th hth) (fun _ => hwiw) A6 ?_ (fun m' I P A => ih (t + 1) _ m' (by omega) (by omega) I (fun j hj => ?_) ?_))
            · rw [ef]
              rw [cn_j, cn_l] at hcn ⊢
              have h1 := smf_mono (fun t => smt k (8 * w + t) (2 ^ ((8 * w + t) / 8)) (smm S X C T e r (k + 1) (stp S X e k (8 * w + t) K))) (t + 1) T (by omega)
              have h2 := Nat.mul_le_mul_left al h1
              omega
            · rw [P j (by omega)]; unfold ov; rw [if_neg (by omega)]
            · rw [ef] at A; exact A
          refine eqI (by omega) (fun z => ?_) (fun z => ?_)
          · refine go _ _ m6 ?_ (by omega) rfl
            rw [est, if_neg (fun q => q z)]; exact h2
          · rw [if_pos z] at est
            have u6 : m6 279 0 = (e : Int) := (in6.2.1 0 (by omega) (by omega)).trans y0
            rw [u6]
            refine c7_learned (S := S) (W := ptW W e K) e (by rw [ptW_pk]; exact h2) rfl he (by omega) (ptW_th hth) ?_ hch ?_
            · rw [in6.1 15 (by omega)]; exact (hask.2.2.2.1 e he).2
            · refine go _ _ m6 ?_ (by omega) rfl
              rw [est]
              unfold ch4
              split
              · rw [ptW_ln2, h6]
              · rw [ptW_ln, h6]
      exact loop T 0 0 m (by omega) rfl hin hp (by show AcC n m (smj a none); rw [smj_n]; exact hac)
    have v1 : m 279 1 = (n : Int) := (hin.2.1 1 (by omega) (by omega)).trans y1
    have v2 : ∀ {m}, InC m0 W e m → m 279 2 = wi := fun {m} h => (h.2.1 2 (by omega) (by omega)).trans y2
    have spl := smm_split (X := X) (e := e) (r := r) (k := k) (K := K) hT8 hC.2 (by omega : -1 ≤ S (20 + 8 * e + 2) ∧ S (20 + 8 * e + 2) < (C : Int))
    rw [← ewi, ← ew] at spl
    by_cases c1 : wi = -1
    · rw [if_pos c1] at spl hsel
      have spl2 : smm S X C T e (r + 1) k K = grp k low oth T (smm S X C T e r (k + 1) K) := by rw [spl, hsel.1, hsel.2]
      rw [spl2] at hcn next
      refine g_X7_goThroughRows_0 _ _ _ _ ?_
      rw [v1, v2 hin]
      refine ltT (by omega) (eqF (by omega) (others a m _ hin hp hac hcn (fun m' I P A => ?_)))
      refine g_X7_goThroughRows_52 _ _ _ _ ?_
      rw [v2 I]
      refine eqT (by omega) (g_X7_goThroughRows_72 _ _ _ _ ?_)
      rw [v2 I]
      exact eqF (by omega) (next m' I P A)
    · have hww : wi = (w : Int) := by omega
      rw [if_neg c1] at spl hsel
      by_cases c2 : wi = 0
      · have w00 : w = 0 := by omega
        rw [if_pos c2] at spl hsel
        have ew0 : (fun t => smt k (8 * w + t) (2 ^ ((8 * w + t) / 8)) (smm S X C T e r (k + 1) (stp S X e k (8 * w + t) K))) = (fun c => smt k c (2 ^ (c / 8)) (smm S X C T e r (k + 1) (stp S X e k c K))) := by
          funext t
          rw [w00, Nat.mul_zero, Nat.zero_add]
        have spl2 : smm S X C T e (r + 1) k K = smj (smf (fun t => smt k (8 * w + t) (2 ^ ((8 * w + t) / 8)) (smm S X C T e r (k + 1) (stp S X e k (8 * w + t) K))) T) (grp k low oth T (smm S X C T e r (k + 1) K)) := by rw [spl, ew0, hsel.1, hsel.2]
        rw [spl2, lft_j, ← smj_as] at hcn next
        refine g_X7_goThroughRows_0 _ _ _ _ ?_
        rw [v1, v2 hin]
        refine ltT (by omega) (eqT (by omega) (g_X7_goThroughRows_52 _ _ _ _ ?_))
        rw [v2 hin]
        refine eqF (by omega) (wearer hww a m _ hin hp hac (by rw [cn_j] at hcn; omega) (fun m' I P A => g_X7_goThroughRows_72 _ _ _ _ ?_))
        rw [v2 I]
        exact eqT (by omega) (others _ m' _ I P A hcn (fun m2 I2 P2 A2 => next m2 I2 P2 A2))
      · rw [if_neg c2] at spl hsel
        have spl2 : smm S X C T e (r + 1) k K = smj (grp k low oth T (smm S X C T e r (k + 1) K)) (smf (fun t => smt k (8 * w + t) (2 ^ ((8 * w + t) / 8)) (smm S X C T e r (k + 1) (stp S X e k (8 * w + t) K))) T) := by rw [spl, hsel.1, hsel.2]
        rw [spl2, lft_j, ← smj_as] at hcn next
        refine g_X7_goThroughRows_0 _ _ _ _ ?_
        rw [v1, v2 hin]
        refine ltT (by omega) (eqF (by omega) (others a m _ hin hp hac (by rw [cn_j] at hcn; omega) (fun m' I P A => g_X7_goThroughRows_52 _ _ _ _ ?_)))
        rw [v2 I]
        refine eqF (by omega) (wearer hww _ m' _ I P A hcn (fun m2 I2 P2 A2 => g_X7_goThroughRows_72 _ _ _ _ ?_))
        rw [v2 I2]
        exact eqF (by omega) (next m2 I2 P2 A2)
end How4
