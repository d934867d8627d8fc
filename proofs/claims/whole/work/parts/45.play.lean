/-! ===== played ===== -/
def setF (S : Nat → Int) (hr : Int) (W : Nat → Nat → Int) : Nat → Int := fun j => if j = 2 then hr else if 20 ≤ j ∧ j < 84 ∧ 2 ≤ (j - 20) % 8 then W ((j - 20) / 8) ((j - 20) % 8 - 2) else S j
theorem setF_ok (S : Nat → Int) (hr : Int) (W : Nat → Nat → Int) : SetW S (setF S hr W) hr W := by
  refine ⟨if_pos rfl, fun e he q hq => ?_, fun e he => ⟨?_, ?_⟩, fun j hj => ?_⟩
  · unfold setF
    rw [if_neg (by omega), if_pos (by omega), show (20 + 8 * e + 2 + q - 20) / 8 = e by omega, show (20 + 8 * e + 2 + q - 20) % 8 - 2 = q by omega]
  · unfold setF
    rw [if_neg (by omega), if_neg (by omega)]
  · unfold setF
    rw [if_neg (by omega), if_neg (by omega)]
  · unfold setF
    rw [if_neg (by omega), if_neg (by omega)]
def kpF (S : Nat → Int) (n sh : Nat) : Nat → Int := fun j => if j = 5 then (n : Int) + 1 else if j < 84 then S j else if j = 84 + 50 * n then S 1 else if j = 84 + 50 * n + 1 then S 2 else if 84 + 50 * n + 2 ≤ j ∧ j < 84 + 50 * n + 50 then S (20 + 8 * ((j - (84 + 50 * n + 2)) / 6) + 2 + (j - (84 + 50 * n + 2)) % 6) else S (j + 50 * sh)
def keepF (S : Nat → Int) : Nat → Int := if S 5 = 30 then kpF S 29 1 else kpF S (S 5).toNat 0
theorem kpF_ok (S : Nat → Int) (n sh : Nat) (hn : n ≤ 29) (hs : (S 5 = (n : Int) ∧ sh = 0) ∨ (S 5 = 30 ∧ n = 29 ∧ sh = 1)) : KeepOf S (kpF S n sh) := by
  refine ⟨n, sh, hn, hs, if_pos rfl, fun j h1 h2 => ?_, ?_, ?_, fun e he q hq => ?_, fun k hk i hi => ?_⟩
  · unfold kpF
    rw [if_neg h2, if_pos h1]
  · unfold kpF
    rw [if_neg (by omega), if_neg (by omega), if_pos rfl]
  · unfold kpF
    rw [if_neg (by omega), if_neg (by omega), if_neg (by omega), if_pos rfl]
  · unfold kpF
    rw [if_neg (by omega), if_neg (by omega), if_neg (by omega), if_neg (by omega), if_pos (by omega), show (84 + 50 * n + 2 + 6 * e + q - (84 + 50 * n + 2)) / 6 = e by omega, show (84 + 50 * n + 2 + 6 * e + q - (84 + 50 * n + 2)) % 6 = q by omega]
  · unfold kpF
    rw [if_neg (by omega), if_neg (by omega), if_neg (by omega), if_neg (by omega), if_neg (by omega)]
    congr 1
    omega
theorem keepF_ok (S : Nat → Int) (h : 0 ≤ S 5 ∧ S 5 ≤ 30) : KeepOf S (keepF S) := by
  unfold keepF
  split
  · rename_i q
    exact kpF_ok S 29 1 (by omega) (Or.inr ⟨q, rfl, rfl⟩)
  · exact kpF_ok S (S 5).toNat 0 (by omega) (Or.inl ⟨by omega, rfl⟩)
def Eqv (A B : Nat → Int) : Prop := (∀ j, j < 84 → A j = B j) ∧ (∀ k : Nat, (k : Int) < A 5 → ∀ i, i < 50 → A (84 + 50 * k + i) = B (84 + 50 * k + i))
theorem Eqv.rf (A : Nat → Int) : Eqv A A := ⟨fun _ _ => rfl, fun _ _ _ _ => rfl⟩
theorem Eqv.keep {A B A' B' : Nat → Int} (h : Eqv A B) (ha : KeepOf A A') (hb : KeepOf B B') : Eqv A' B' := by
  obtain ⟨n, sh, hn, hs, k5, kl, k1, k2, ke, ko⟩ := ha
  obtain ⟨n', sh', hn', hs', k5', kl', k1', k2', ke', ko'⟩ := hb
  have e5 := h.1 5 (by omega)
  have en : n' = n := by omega
  have es : sh' = sh := by omega
  subst en es
  refine ⟨fun j hj => ?_, fun k hk i hi => ?_⟩
  · by_cases j5 : j = 5
    · rw [j5, k5, k5']
    · rw [kl j hj j5, kl' j hj j5]; exact h.1 j hj
  · rw [k5] at hk
    by_cases kn : k = n'
    · subst kn
      by_cases i0 : i = 0
      · subst i0
        rw [Nat.add_zero, k1, k1']; exact h.1 1 (by omega)
      · by_cases i1 : i = 1
        · subst i1
          rw [k2, k2']; exact h.1 2 (by omega)
        · have g := ke ((i - 2) / 6) (by omega) ((i - 2) % 6) (by omega)
          have g' := ke' ((i - 2) / 6) (by omega) ((i - 2) % 6) (by omega)
          have ei : 84 + 50 * k + 2 + 6 * ((i - 2) / 6) + (i - 2) % 6 = 84 + 50 * k + i := by omega
          rw [ei] at g g'
          rw [g, g']
          exact h.1 _ (by omega)
    · rw [ko k (by omega) i hi, ko' k (by omega) i hi]
      exact h.2 (k + sh') (by omega) i hi
theorem Eqv.set {A B A' B' : Nat → Int} {hr : Int} {W : Nat → Nat → Int} (h : Eqv A B) (ha : SetW A A' hr W) (hb : SetW B B' hr W) : Eqv A' B' := by
  refine ⟨fun j hj => ?_, fun k hk i hi => ?_⟩
  · by_cases j2 : j = 2
    · rw [j2, ha.1, hb.1]
    · by_cases j20 : j < 20
      · rw [ha.2.2.2 j (by omega), hb.2.2.2 j (by omega)]; exact h.1 j hj
      · by_cases r0 : (j - 20) % 8 = 0
        · have ej : j = 20 + 8 * ((j - 20) / 8) := by omega
          rw [ej, (ha.2.2.1 _ (by omega)).1, (hb.2.2.1 _ (by omega)).1]
          exact h.1 _ (by omega)
        · by_cases r1 : (j - 20) % 8 = 1
          · have ej : j = 20 + 8 * ((j - 20) / 8) + 1 := by omega
            rw [ej, (ha.2.2.1 _ (by omega)).2, (hb.2.2.1 _ (by omega)).2]
            exact h.1 _ (by omega)
          · have ej : j = 20 + 8 * ((j - 20) / 8) + 2 + ((j - 20) % 8 - 2) := by omega
            rw [ej, ha.2.1 _ (by omega) _ (by omega), hb.2.1 _ (by omega) _ (by omega)]
  · rw [ha.2.2.2 5 (by omega)] at hk
    rw [ha.2.2.2 _ (by omega), hb.2.2.2 _ (by omega)]
    exact h.2 k hk i hi
theorem Std.eqv {m : MM} {c : Nat} {A B : Nat → Int} (h : Std m c A) (e : Eqv A B) : Std m c B := by
  obtain ⟨s0, s1, s3, s4, s6, s8, s7, s9, sr, sp⟩ := h
  have e5 := e.1 5 (by omega)
  refine ⟨by rw [← e.1 0 (by omega)]; exact s0, by rw [← e.1 1 (by omega)]; exact s1, by rw [← e.1 3 (by omega)]; exact s3, by rw [← e.1 4 (by omega)]; exact s4, by rw [← e.1 6 (by omega)]; exact s6, ?_, fun j hj => by rw [← e.1 _ (by omega)]; exact s7 j hj, fun a ha => by rw [← e.1 _ (by omega), ← e.1 _ (by omega)]; exact s9 a ha, ?_, ?_⟩
  · have es : ∀ q, q < 4 → shw B q = shw A q := fun q hq => by
      unfold shw
      rw [e.1 6 (by omega), e.1 (16 + q) (by omega)]
    rw [es 0 (by omega), es 1 (by omega), es 2 (by omega), es 3 (by omega)]
    exact s8
  · rw [← e.1 2 (by omega)]
    exact sr.cong (fun a ha q hq => (e.1 _ (by omega)).symm)
  · obtain ⟨p1, nx, p2, p3, p4⟩ := sp
    refine ⟨p1.trans e5, nx, p2, p3, fun k hk r hr => ?_⟩
    rw [← e5] at hk hr
    have g1 := e.2 k hk 1 (by omega)
    rw [← g1]
    refine (p4 k hk r hr).cong (fun a ha q hq => ?_)
    have g := e.2 k hk (2 + 6 * a + q) (by omega)
    unfold stW
    rw [show 84 + 50 * k + 2 + 6 * a + q = 84 + 50 * k + (2 + 6 * a + q) by omega]
    exact g.symm
def plF (S X : Nat → Int) (C : Int) (t : Nat) : Nat → Nat → Int → (Nat → Nat → Int) → (Nat → Int) → Int × (Nat → Int)
  | 0, _, _, _, A => (-1, A)
  | n + 1, i, hr, W, A => if X (680 * t + 1 + 3 * i) < 2 then plF S X C t n (i + 1) hr W A else match dC S X C hr W t i with
    | none => ((i : Int), A)
    | some r => plF S X C t n (i + 1) r.2.1 r.2.2 (setF (keepF A) r.2.1 r.2.2)
section PlF
variable {S X A : Nat → Int} {C hr : Int} {W : Nat → Nat → Int} {t n i : Nat}
theorem pl_law (h : X (680 * t + 1 + 3 * i) < 2) : plF S X C t (n + 1) i hr W A = plF S X C t n (i + 1) hr W A := by
  rw [plF, if_pos h]
theorem pl_none (h : 2 ≤ X (680 * t + 1 + 3 * i)) (h2 : dC S X C hr W t i = none) : plF S X C t (n + 1) i hr W A = ((i : Int), A) := by
  rw [plF, if_neg (by omega)]
  simp only [h2]
theorem pl_some {a hr' : Int} {W' : Nat → Nat → Int} (h : 2 ≤ X (680 * t + 1 + 3 * i)) (h2 : dC S X C hr W t i = some (a, hr', W')) : plF S X C t (n + 1) i hr W A = plF S X C t n (i + 1) hr' W' (setF (keepF A) hr' W') := by
  rw [plF, if_neg (by omega)]
  simp only [h2]
end PlF
section Play
variable {G : GG} {d : Nat} {m : MM}
theorem c7_byHandA {k : Int → MM → Prop} {C hr x1 x2 x3 : Int} {S X A : Nat → Int} {W : Nat → Nat → Int} (hS : Std m 12 A) (hwA : WfS C A) (hwS : WfS C S) (hst : Sta S A) (hvw : Vw A hr W) (ha : Asks m S X) (e00 : m 0 0 = C) (hC : 1 ≤ C ∧ C ≤ 6) (hdd : x1 = 2 ∨ x1 = 3 ∨ x1 = 5 ∨ x1 = 6) (hx2 : rng x2) (hx3 : rng x3) (hn : dF S X C hr W x1 x2 x3 = none → k (-1) m)
    (hs : ∀ a hr' W', dF S X C hr W x1 x2 x3 = some (a, hr', W') → ∀ m2, FrC m m2 → Std m2 12 (setF (keepF A) hr' W') → k a m2) : N G (d + 5) mi_X7_byHand 0 [some (vr 0), some (vi x1), some (vi x2), some (vi x3)] [] m (RI k) := by
  have w0 := hwS.1
  have w1 := hwS.2.1
  have w3 := hwS.2.2.1
  have z0 := hst.1 0 (by omega) (by omega) (by omega)
  have z1 := hst.1 1 (by omega) (by omega) (by omega)
  have hv : WfV C (S 1) hr W := by rw [← z1]; exact hvw.wf hwA
  obtain ⟨s0, s1, s3, s4, s6, s8, s7, sc', scr, sp⟩ := hS
  have hcr : Crt m 16 hr W := by
    have : Crt m 16 (A 2) (nowW A) := scr
    rw [hvw.1] at this
    exact this.cong (fun a ha q hq => (hvw.2 a ha q hq).symm)
  refine g_X7_byHand_0 _ _ _ (c7_canBe (S := S) (X := X) 16 sh_16 hcr hv w0 w1 hC e00 (by rw [← z0]; exact s0) (by rw [← z1]; exact s1) hx2 hx3 hdd (fun q => eqT (by omega) (hn q)) (fun r q => eqF (by omega) ?_))
  obtain ⟨a, hr', W'⟩ := r
  refine c1_keep 20 16 sh_20 sh_16 (by omega) sp hwA.2.2.2.2.1 scr (fun m1 p1 f1 => ?_)
  have hcr1 : Crt m1 16 hr W := hcr.kept (f1 _ (by omega)) (f1 _ (by omega)) (f1 _ (by omega)) (f1 _ (by omega))
  refine c7_perform (S := S) (X := X) 16 sh_16 (by omega) hwS hC (ha.fr (fun c hc => f1 c (by omega)) (by omega)) (by rw [f1 12 (by omega), ← z1]; exact s1) hcr1 hv hdd q (fun m2 f2 hc2 => hs a hr' W' q m2 ?_ ?_)
  · exact fun c hc => (f2 c (by omega) (by omega) (by omega)).trans (f1 c (by omega))
  · have hk := keepF_ok A hwA.2.2.2.2.1
    have hset := setF_ok (keepF A) hr' W'
    have sta := hk.sta.tr hset.sta
    have g12 : m2 12 = m 12 := (f2 12 (by omega) (by omega) (by omega)).trans (f1 12 (by omega))
    have g13 : m2 13 = m 13 := (f2 13 (by omega) (by omega) (by omega)).trans (f1 13 (by omega))
    have g14 : m2 14 = m 14 := (f2 14 (by omega) (by omega) (by omega)).trans (f1 14 (by omega))
    have g15 : m2 15 = m 15 := (f2 15 (by omega) (by omega) (by omega)).trans (f1 15 (by omega))
    have e0 := sta.1 0 (by omega) (by omega) (by omega)
    have e1 := sta.1 1 (by omega) (by omega) (by omega)
    have e3 := sta.1 3 (by omega) (by omega) (by omega)
    have e4 := sta.1 4 (by omega) (by omega) (by omega)
    have e6 := sta.1 6 (by omega) (by omega) (by omega)
    refine ⟨by rw [g12, e0]; exact s0, by rw [g12, e1]; exact s1, by rw [g12, e3]; exact s3, by rw [g12, e4]; exact s4, by rw [g12, e6]; exact s6, ?_, fun j hj => by rw [g13, sta.1 _ (by omega) (by omega) (by omega)]; exact s7 j hj, fun e he => by rw [g14, g15, (sta.2 e he).1, (sta.2 e he).2]; exact sc' e he, ?_, ?_⟩
    · have es : ∀ q, q < 4 → shw (setF (keepF A) hr' W') q = shw A q := fun q hq => by
        unfold shw
        rw [e6, sta.1 (16 + q) (by omega) (by omega) (by omega)]
      rw [g12, es 0 (by omega), es 1 (by omega), es 2 (by omega), es 3 (by omega)]
      exact s8
    · rw [hset.1]
      exact hc2.cong (fun a ha q hq => hset.2.1 a ha q hq)
    · have p2 : Pst m2 20 (keepF A) := (p1 _ hk).kept (fun c h1 h2 => f2 c (by omega) (by omega) (by omega))
      exact p2.hi (fun j hj => hset.2.2.2 j (by omega)) (hset.2.2.2 5 (by omega))
theorem P_played {k : Int → Int → MM → Prop} {x1 : Int} (hx1 : rng x1) (h : Rel m m) (hk : ∀ z m', Rel m' m' → k z z m') : PR G d mi_X7_played mi_X8_played [some (vr 0), some (vi x1), none, none] [some (vr 304), some (vi x1), none] m k := by
  have hR := h
  have hask := h.asks
  obtain ⟨C, hC, h2, h3', h4, h5, hw, h7, h8, h9, -⟩ := hR
  have w0 := hw.1
  have w1 := hw.2.1
  have w3 := hw.2.2.1
  have hkk : ∀ z, k z z m := fun z => hk z m h
  by_cases hall : 0 ≤ x1 ∧ x1 < m 305 3
  · obtain ⟨t, ht⟩ : ∃ t : Nat, x1 = (t : Int) := ⟨x1.toNat, by omega⟩
    obtain ⟨hs, hWt⟩ := h9 t (by omega)
    obtain ⟨n, n1, n2, n3⟩ := hWt.cl
    have hc5 : SH (284 + 5 * t) = .inr 5 := sh_scr (by omega)
    obtain ⟨z1, z2, -⟩ := hs
    generalize hSS : m 305 = S at *
    generalize hXX : m 308 = X at *
    have loopC : ∀ (r i : Nat) (x3 hr : Int) (W : Nat → Nat → Int) (A : Nat → Int) (m1 : MM) (k' : Int → MM → Prop), i + r = n → x3 = (i : Int) → FrC m m1 → Std m1 12 A → WfS C A → Sta S A → Vw A hr W → (∀ m', FrC m m' → Std m' 12 (plF S X C t r i hr W A).2 → k' (plF S X C t r i hr W A).1 m') → N G (d + 60) mi_X7_played 20 [some (vr 0), none, some (vr (284 + 5 * t)), some (vi x3)] [] m1 (RI k') := by
      intro r
      induction r with
      | zero =>
        intro i x3 hr W A m1 k' hi h3 hf hS hwA hst hvw hk'
        refine g_X7_played_20 _ hc5 _ ?_
        rw [hf (284 + 5 * t) (by omega), z1, n2]
        exact leT (by omega) (hk' m1 hf hS)
      | succ r ih =>
        intro i x3 hr W A m1 k' hi h3 hf hS hwA hst hvw hk'
        have zi := z2 i (by omega)
        have wd := hWt.deed (i := i) (by omega)
        have f0 : m1 (284 + 5 * t) = m (284 + 5 * t) := hf _ (by omega)
        have f1 : m1 (284 + 5 * t + 1) = m (284 + 5 * t + 1) := hf _ (by omega)
        have f2 : m1 (284 + 5 * t + 2) = m (284 + 5 * t + 2) := hf _ (by omega)
        have f3 : m1 (284 + 5 * t + 3) = m (284 + 5 * t + 3) := hf _ (by omega)
        refine g_X7_played_20 _ hc5 _ ?_
        rw [f0, z1, n2]
        refine leF (by omega) (g_X5_isDeed_0 _ hc5 _ ⟨i, by omega, ?_⟩)
        rw [f1]
        by_cases hl : X (680 * t + 1 + 3 * i) < 2
        · rw [pl_law hl] at hk'
          have zi1 := zi.1
          rw [if_neg (by omega)] at zi1
          have go := ih (i + 1) (x3 + 1) hr W A m1 k' (by omega) (by omega) hf hS hwA hst hvw hk'
          rw [zi1]
          refine eqI (by omega) (fun q => eqT (by omega) go) (fun q => ⟨i, by omega, ?_⟩)
          try rw [f1]
          try rw [zi1]
          exact eqT (by omega) (eqT (by omega) go)
        · have zb := zi.2.1 (by omega)
          have zi1 := zi.1
          have c1 : m (284 + 5 * t + 1) i = 2 ∨ m (284 + 5 * t + 1) i = 3 ∨ m (284 + 5 * t + 1) i = 5 ∨ m (284 + 5 * t + 1) i = 6 := by
            rw [zi1]; split <;> omega
          have hx3 : rng (m (284 + 5 * t + 2) i) := by rw [zb.1]; have := (wd.2 (by omega)).1; omega
          have hx4 : rng (m (284 + 5 * t + 3) i) := by
            rw [zb.2]
            have := (wd.2 (by omega)).2
            split <;> omega
          have ed : dF S X C hr W (m (284 + 5 * t + 1) i) (m (284 + 5 * t + 2) i) (m (284 + 5 * t + 3) i) = dC S X C hr W t i := by
            unfold dC
            rw [zi1, zb.1, zb.2]
          refine eqF (by omega) ⟨i, by omega, ?_⟩
          refine eqF (by omega) (eqF (by omega) ⟨i, by omega, i, by omega, i, by omega, ?_⟩)
          try rw [f1]
          try rw [f2]
          try rw [f3]
          have st1 : Asks m1 S X := by
            have s1 := hS
            obtain ⟨q0, q1, q3, q4, q6, q8, q7, q9, -, -⟩ := s1
            refine ⟨by rw [← hst.1 3 (by omega) (by omega) (by omega)]; exact q3, by rw [← hst.1 4 (by omega) (by omega) (by omega)]; exact q4, fun j hj => by rw [← hst.1 (8 + j) (by omega) (by omega) (by omega)]; exact q7 j hj, fun a ha => by rw [← (hst.2 a ha).1, ← (hst.2 a ha).2]; exact q9 a ha, fun t' ht' => ⟨(h9 t' ht').1.kept (fun j h1 h2 => hf j (by omega)), (h9 t' ht').2⟩⟩
          refine c7_byHandA (S := S) (X := X) (A := A) (C := C) hS hwA hw hst hvw st1 (by rw [hf 0 (by omega)]; exact h2) hC c1 hx3 hx4 (fun q => ?_) (fun a hr' W' q m2 fm2 hS2 => ?_)
          · rw [ed] at q
            rw [pl_none (by omega) q] at hk'
            refine eqT (by omega) ?_
            rw [h3]
            exact hk' m1 hf hS
          · have z1' := hst.1 1 (by omega) (by omega) (by omega)
            have hv : WfV C (S 1) hr W := by rw [← z1']; exact hvw.wf hwA
            have ok := dF_ok hC.1 w0 w1 hv q
            rw [ed] at q
            rw [pl_some (by omega) q] at hk'
            have hkp := keepF_ok A hwA.2.2.2.2.1
            have hset := setF_ok (keepF A) hr' W'
            refine eqF (by omega) (ih (i + 1) _ hr' W' _ m2 k' (by omega) (by omega) (hf.tr fm2) hS2 ((hwA.keep hkp).setW hset ?_) (hst.tr (hkp.sta.tr hset.sta)) hset.vw hk')
            rw [hkp.sta.1 1 (by omega) (by omega) (by omega), z1']
            exact ok.1
    refine g_X7_played_0 _ (c7_isText (by have q : m 12 5 = S 3 := h4.2.2.1; omega) (fun _ => eqF (by omega) ⟨t, by omega, ?_⟩) (fun z => absurd z (by have q : m 12 5 = S 3 := h4.2.2.1; omega)))
    refine loopC n 0 0 (S 2) (nowW S) S m _ (by omega) rfl (FrC.rf _) h4 hw (Sta.rf _) (Vw.rf _) (fun m1 fm1 hS1 => ?_)
    have g4 := fm1 304 (by omega)
    have g5 : m1 305 = S := (fm1 305 (by omega)).trans hSS
    have g8 : m1 308 = X := (fm1 308 (by omega)).trans hXX
    have loopR : ∀ (r i : Nat) (x2 hr : Int) (W : Nat → Nat → Int) (A : Nat → Int) (m2 : MM) (k' : Int → MM → Prop), i + r = n → x2 = (i : Int) → FrD m1 m2 → Eqv A (m2 305) → WfS C A → WfS C (m2 305) → Sta S (m2 305) → Vw (m2 305) hr W → (∀ m', FrD m1 m' → Eqv (plF S X C t r i hr W A).2 (m' 305) → WfS C (m' 305) → Sta S (m' 305) → k' (plF S X C t r i hr W A).1 m') → N G (d + 60) mi_X8_played 13 [some (vr 304), some (vi x1), some (vi x2)] [] m2 (RI k') := by
      intro r
      induction r with
      | zero =>
        intro i x2 hr W A m2 k' hi h3 hf heq hwA hw2 hst hvw hk'
        refine g_X8_played_13 _ _ ⟨680 * t, by omega, ?_⟩
        rw [hf 308 (by omega) (by omega) (by omega) (by omega), g8, n2]
        exact leT (by omega) (hk' m2 hf heq hw2 hst)
      | succ r ih =>
        intro i x2 hr W A m2 k' hi h3 hf heq hwA hw2 hst hvw hk'
        have m28 : m2 308 = X := by rw [hf 308 (by omega) (by omega) (by omega) (by omega), g8]
        have m23 : m2 305 3 = S 3 := hst.1 3 (by omega) (by omega) (by omega)
        have m21 : m2 305 1 = S 1 := hst.1 1 (by omega) (by omega) (by omega)
        refine g_X8_played_13 _ _ ⟨680 * t, by omega, ?_⟩
        rw [m28, n2]
        refine leF (by omega) (c_isDone (S := S) (C := C) hst hvw hw2 m28 (fun t' ht' => (h9 t' (by omega)).2) (by rw [hf 304 (by omega) (by omega) (by omega) (by omega), g4]; exact h3') hC t i (by omega) (by omega) (by omega) (fun q => ?_) (fun q q2 => ?_) (fun q a hr' W' q2 S1 m3 k1 hs1 f3 => ?_))
        · rw [pl_law q] at hk'
          exact eqF (by omega) (ih (i + 1) _ hr W A m2 k' (by omega) (by omega) hf heq hwA hw2 hst hvw hk')
        · rw [pl_none q q2] at hk'
          refine eqT (by omega) ?_
          rw [h3]
          exact hk' m2 hf heq hw2 hst
        · have hv : WfV C (S 1) hr W := by rw [← m21]; exact hvw.wf hw2
          have ok := dF_ok hC.1 w0 w1 hv q2
          rw [pl_some q q2] at hk'
          have hkp := keepF_ok A hwA.2.2.2.2.1
          have hset := setF_ok (keepF A) hr' W'
          have a1 : A 1 = S 1 := (heq.1 1 (by omega)).trans m21
          refine eqF (by omega) (ih (i + 1) _ hr' W' _ m3 k' (by omega) (by omega) (hf.tr f3) ((heq.keep hkp k1).set hset hs1) ((hwA.keep hkp).setW hset ?_) ((hw2.keep k1).setW hs1 ?_) (hst.tr (k1.sta.tr hs1.sta)) hs1.vw hk')
          · rw [hkp.sta.1 1 (by omega) (by omega) (by omega), a1]; exact ok.1
          · rw [k1.sta.1 1 (by omega) (by omega) (by omega), m21]; exact ok.1
    refine g_X8_played_0 _ (c_isText (by rw [g5]; omega) (fun _ => eqF (by omega) ?_) (fun z => absurd z (by rw [g5]; omega)))
    refine loopR n 0 0 (S 2) (nowW S) S m1 _ (by omega) rfl (FrD.rf _) (by rw [g5]; exact Eqv.rf _) hw (by rw [g5]; exact hw) (by rw [g5]; exact Sta.rf _) (by rw [g5]; exact Vw.rf _) (fun m2 f2 heq hw2 hst2 => hk _ _ ?_)
    refine h.step (m1 := m1) fm1 f2.frR (hS1.eqv heq) (fun C2 _ _ hC2 _ => ?_) ?_
    · have e : C2 = C := hC2.symm.trans h3'
      subst e
      exact hw2
    · rw [hSS]; exact hst2.1 3 (by omega) (by omega) (by omega)
  · have ref : N G (d + 60) mi_X8_played 0 [some (vr 304), some (vi x1), none] [] m (RI fun z' m2 => k (-2) z' m2) := by
      refine g_X8_played_0 _ (c_isText (by omega) (fun z => absurd z (by omega)) (fun z => eqT (by omega) (hkk _)))
    refine g_X7_played_0 _ (c7_isText (by have q : m 12 5 = m 305 3 := h4.2.2.1; omega) (fun z => absurd z (by have q : m 12 5 = m 305 3 := h4.2.2.1; omega)) (fun z => eqT (by omega) ref))
end Play
