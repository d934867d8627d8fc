/-! ===== stories told ===== -/
def tlF (S X : Nat → Int) (C : Int) (t : Nat) : Nat → Nat → Int × (Nat → Nat → Int) → Int × (Nat → Nat → Int)
  | 0, _, p => p
  | n + 1, i, p => tlF S X C t n (i + 1) (if X (680 * t + 1 + 3 * i) < 2 then p else match dC S X C p.1 p.2 t i with | none => p | some r => (r.2.1, r.2.2))
theorem tl_law {S X : Nat → Int} {C hr : Int} {W : Nat → Nat → Int} {t n i : Nat} (h : X (680 * t + 1 + 3 * i) < 2) : tlF S X C t (n + 1) i (hr, W) = tlF S X C t n (i + 1) (hr, W) := by
  rw [tlF, if_pos h]
theorem tl_none {S X : Nat → Int} {C hr : Int} {W : Nat → Nat → Int} {t n i : Nat} (h : 2 ≤ X (680 * t + 1 + 3 * i)) (h2 : dC S X C hr W t i = none) : tlF S X C t (n + 1) i (hr, W) = tlF S X C t n (i + 1) (hr, W) := by
  rw [tlF, if_neg (by omega)]
  simp only [h2]
theorem tl_some {S X : Nat → Int} {C hr : Int} {W : Nat → Nat → Int} {t n i : Nat} {a hr' : Int} {W' : Nat → Nat → Int} (h : 2 ≤ X (680 * t + 1 + 3 * i)) (h2 : dC S X C hr W t i = some (a, hr', W')) : tlF S X C t (n + 1) i (hr, W) = tlF S X C t n (i + 1) (hr', W') := by
  rw [tlF, if_neg (by omega)]
  simp only [h2]
theorem tl_ok {S X : Nat → Int} {C : Int} {t : Nat} (hC : 1 ≤ C) (h0 : 0 ≤ S 0 ∧ S 0 ≤ 8) (h1 : 0 ≤ S 1 ∧ S 1 ≤ 8) : ∀ (n i : Nat) (hr : Int) (W : Nat → Nat → Int), WfV C (S 1) hr W → WfV C (S 1) (tlF S X C t n i (hr, W)).1 (tlF S X C t n i (hr, W)).2 := by
  intro n
  induction n with
  | zero => intro i hr W h; exact h
  | succ n ih =>
    intro i hr W h
    by_cases hl : X (680 * t + 1 + 3 * i) < 2
    · rw [tl_law hl]; exact ih _ _ _ h
    · cases hd : dC S X C hr W t i with
      | none => rw [tl_none (by omega) hd]; exact ih _ _ _ h
      | some r =>
        obtain ⟨a, hr', W'⟩ := r
        rw [tl_some (by omega) hd]
        exact ih _ _ _ (dF_ok hC h0 h1 h hd).1
section Tell
variable {G : GG} {d : Nat} {m : MM}
theorem c7_tell {k : MM → Prop} {C hr : Int} {S X : Nat → Int} {W : Nat → Nat → Int} (t : Nat) (ht : (t : Int) < S 3) (hw : WfS C S) (hCC : 1 ≤ C ∧ C ≤ 6) (ha : Asks m S X) (e00 : m 0 0 = C) (e0 : m 12 0 = S 0) (e12 : m 12 2 = S 1) (hC : Crt m 272 hr W) (hv : WfV C (S 1) hr W)
    (hk : ∀ m', FrP 272 m m' → Crt m' 272 (tlF S X C t (X (680 * t)).toNat 0 (hr, W)).1 (tlF S X C t (X (680 * t)).toNat 0 (hr, W)).2 → k m') : N G (d + 5) mi_X7_tell 0 [some (vr 0), some (vr (284 + 5 * t)), none] [] m (RV k) := by
  have w0 := hw.1
  have w1 := hw.2.1
  have w3 := hw.2.2.1
  obtain ⟨hs, hWt⟩ := ha.2.2.2.2 t ht
  obtain ⟨n, n1, n2, n3⟩ := hWt.cl
  have hc5 : SH (284 + 5 * t) = .inr 5 := sh_scr (by omega)
  obtain ⟨z1, z2, -⟩ := hs
  have loop : ∀ (r i : Nat) (x2 hr : Int) (W : Nat → Nat → Int) (m1 : MM), i + r = n → x2 = (i : Int) → FrP 272 m m1 → Crt m1 272 hr W → WfV C (S 1) hr W → (∀ m', FrP 272 m m' → Crt m' 272 (tlF S X C t r i (hr, W)).1 (tlF S X C t r i (hr, W)).2 → k m') → N G (d + 5) mi_X7_tell 2 [some (vr 0), some (vr (284 + 5 * t)), some (vi x2)] [] m1 (RV k) := by
    intro r
    induction r with
    | zero =>
      intro i x2 hr W m1 hi h2 hf hC hv hk
      refine g_X7_tell_2 _ hc5 _ ?_
      rw [hf (284 + 5 * t) (by omega) (by omega) (by omega), z1, n2]
      exact leT (by omega) (hk m1 hf hC)
    | succ r ih =>
      intro i x2 hr W m1 hi h2 hf hC hv hk
      have zi := z2 i (by omega)
      have wd := hWt.deed (i := i) (by omega)
      have f0 : m1 (284 + 5 * t) = m (284 + 5 * t) := hf _ (by omega) (by omega) (by omega)
      have f1 : m1 (284 + 5 * t + 1) = m (284 + 5 * t + 1) := hf _ (by omega) (by omega) (by omega)
      have f2 : m1 (284 + 5 * t + 2) = m (284 + 5 * t + 2) := hf _ (by omega) (by omega) (by omega)
      have f3 : m1 (284 + 5 * t + 3) = m (284 + 5 * t + 3) := hf _ (by omega) (by omega) (by omega)
      refine g_X7_tell_2 _ hc5 _ ?_
      rw [f0, z1, n2]
      refine leF (by omega) (g_X5_isDeed_0 _ hc5 _ ⟨i, by omega, ?_⟩)
      rw [f1]
      by_cases hl : X (680 * t + 1 + 3 * i) < 2
      · rw [tl_law hl] at hk
        have zi1 := zi.1
        rw [if_neg (by omega)] at zi1
        have go := ih (i + 1) (x2 + 1) hr W m1 (by omega) (by omega) hf hC hv hk
        rw [zi1]
        refine eqI (by omega) (fun q => eqT (by omega) go) (fun q => ⟨i, by omega, ?_⟩)
        try rw [f1]
        try rw [zi1]
        exact eqT (by omega) (eqT (by omega) go)
      · have zb := zi.2.1 (by omega)
        have zi1 := zi.1
        have c1 : m (284 + 5 * t + 1) i = 2 ∨ m (284 + 5 * t + 1) i = 3 ∨ m (284 + 5 * t + 1) i = 5 ∨ m (284 + 5 * t + 1) i = 6 := by
          rw [zi1]; split <;> omega
        have hx3 : rng (m (284 + 5 * t + 2) i) := by rw [zb.1]; have := (wd.2 (by omega)).1; omega
        have hx4 : rng (m (284 + 5 * t + 3) i) := by
          rw [zb.2]
          have := (wd.2 (by omega)).2
          split <;> omega
        have ed : dF S X C hr W (m (284 + 5 * t + 1) i) (m (284 + 5 * t + 2) i) (m (284 + 5 * t + 3) i) = dC S X C hr W t i := by
          unfold dC
          rw [zi1, zb.1, zb.2]
        refine eqF (by omega) ⟨i, by omega, ?_⟩
        refine eqF (by omega) (eqF (by omega) ⟨i, by omega, i, by omega, i, by omega, ?_⟩)
        try rw [f1]
        try rw [f2]
        try rw [f3]
        refine c7_canBe (S := S) (X := X) 272 sh_272 hC hv w0 w1 hCC (by rw [hf 0 (by omega) (by omega) (by omega)]; exact e00) (by rw [hf 12 (by omega) (by omega) (by omega)]; exact e0) (by rw [hf 12 (by omega) (by omega) (by omega)]; exact e12) hx3 hx4 c1 (fun q => ?_) (fun r2 q => ?_)
        · rw [ed] at q
          rw [tl_none (by omega) q] at hk
          exact eqT (by omega) (ih (i + 1) (x2 + 1) hr W m1 (by omega) (by omega) hf hC hv hk)
        · refine eqF (by omega) ⟨i, by omega, i, by omega, i, by omega, ?_⟩
          obtain ⟨a, hr', W'⟩ := r2
          try rw [f1]
          try rw [f2]
          try rw [f3]
          refine c7_perform (S := S) (X := X) 272 sh_272 (by omega) hw hCC (ha.fr (fun c hc => hf c (by omega) (by omega) (by omega)) (by omega)) (by rw [hf 12 (by omega) (by omega) (by omega)]; exact e12) hC hv c1 q (fun m2 g2 hc2 => ?_)
          have ok := dF_ok hCC.1 w0 w1 hv q
          rw [ed] at q
          rw [tl_some (by omega) q] at hk
          exact ih (i + 1) (x2 + 1) hr' W' m2 (by omega) (by omega) (hf.tr g2) hc2 ok.1 hk
  refine g_X7_tell_0 _ hc5 (loop n 0 0 hr W m (by omega) rfl (FrP.rf _ _) hC hv ?_)
  rw [n2, show ((n : Nat) : Int).toNat = n by omega] at hk
  exact hk
theorem c_tellOn {k : MM → Prop} {C hr x1 : Int} {S X : Nat → Int} {W : Nat → Nat → Int} (hst : Sta S (m 305)) (hvw : Vw (m 305) hr W) (hw : WfS C (m 305)) (hX : m 308 = X) (hW : ∀ t : Nat, (t : Int) < m 305 3 → WfT X t) (e3 : m 304 3 = C) (hCC : 1 ≤ C ∧ C ≤ 6) (t : Nat) (e1 : x1 = (t : Int)) (ht : (t : Int) < m 305 3)
    (hk : ∀ m', FrD m m' → Sta S (m' 305) → Vw (m' 305) (tlF S X C t (X (680 * t)).toNat 0 (hr, W)).1 (tlF S X C t (X (680 * t)).toNat 0 (hr, W)).2 → WfS C (m' 305) → k m') : N G (d + 6) mi_X8_tellOn 0 [some (vr 304), some (vi x1), none, none] [] m (RV k) := by
  have w0 := hw.1
  have w1 := hw.2.1
  have w3 := hw.2.2.1
  have s0 := hst.1 0 (by omega) (by omega) (by omega)
  have s1 := hst.1 1 (by omega) (by omega) (by omega)
  have s3 := hst.1 3 (by omega) (by omega) (by omega)
  obtain ⟨n, n1, n2, n3⟩ := (hW t ht).cl
  have loop : ∀ (r i : Nat) (x3 hr : Int) (W : Nat → Nat → Int) (m1 : MM), i + r = n → x3 = (i : Int) → FrD m m1 → Sta S (m1 305) → Vw (m1 305) hr W → WfS C (m1 305) → (∀ m', FrD m m' → Sta S (m' 305) → Vw (m' 305) (tlF S X C t r i (hr, W)).1 (tlF S X C t r i (hr, W)).2 → WfS C (m' 305) → k m') → N G (d + 6) mi_X8_tellOn 4 [some (vr 304), some (vi x1), none, some (vi x3)] [] m1 (RV k) := by
    intro r
    induction r with
    | zero =>
      intro i x3 hr W m1 hi h3 hf hst1 hvw1 hw1 hk
      refine g_X8_tellOn_4 _ _ ⟨680 * t, by omega, ?_⟩
      rw [hf 308 (by omega) (by omega) (by omega) (by omega), hX, n2]
      exact leT (by omega) (hk m1 hf hst1 hvw1 hw1)
    | succ r ih =>
      intro i x3 hr W m1 hi h3 hf hst1 hvw1 hw1 hk
      refine g_X8_tellOn_4 _ _ ⟨680 * t, by omega, ?_⟩
      have g8 : m1 308 = X := by rw [hf 308 (by omega) (by omega) (by omega) (by omega)]; exact hX
      have g3 : m1 305 3 = m 305 3 := by rw [hst1.1 3 (by omega) (by omega) (by omega), s3]
      rw [g8, n2]
      refine leF (by omega) (c_isDone (S := S) hst1 hvw1 hw1 g8 (fun t' ht' => hW t' (by omega)) (by rw [hf 304 (by omega) (by omega) (by omega) (by omega)]; exact e3) hCC t i (by omega) (by omega) (by omega) (fun q => ?_) (fun q q2 => ?_) (fun q a hr' W' q2 S1 m2 k1 hs1 f2 => ?_))
      · rw [tl_law q] at hk
        exact ih (i + 1) _ hr W m1 (by omega) (by omega) hf hst1 hvw1 hw1 hk
      · rw [tl_none q q2] at hk
        exact ih (i + 1) _ hr W m1 (by omega) (by omega) hf hst1 hvw1 hw1 hk
      · have hv := hvw1.wf hw1
        have s1' := hst1.1 1 (by omega) (by omega) (by omega)
        have ok := dF_ok hCC.1 (by omega) (by omega) (by rw [← s1']; exact hv) q2
        rw [tl_some q q2] at hk
        refine ih (i + 1) _ hr' W' m2 (by omega) (by omega) (hf.tr f2) (hst1.tr (k1.sta.tr hs1.sta)) hs1.vw ((hw1.keep k1).setW hs1 ?_) hk
        rw [k1.sta.1 1 (by omega) (by omega) (by omega), s1']
        exact ok.1
  refine g_X8_tellOn_0 _ (loop n 0 0 hr W m (by omega) rfl (FrD.rf _) hst hvw hw ?_)
  rw [n2, show ((n : Nat) : Int).toNat = n by omega] at hk
  exact hk
def FrT (m m' : MM) : Prop := ∀ c, c ≠ 305 → c ≠ 307 → c ≠ 311 → c ≠ 312 → c ≠ 313 → c ≠ 314 → m' c = m c
theorem c_tell {k : MM → Prop} {C hr x1 : Int} {S X : Nat → Int} {W : Nat → Nat → Int} (hst : Sta S (m 305)) (hvw : Vw (m 305) hr W) (hw : WfS C (m 305)) (hX : m 308 = X) (hW : ∀ t : Nat, (t : Int) < m 305 3 → WfT X t) (e3 : m 304 3 = C) (hCC : 1 ≤ C ∧ C ≤ 6) (t : Nat) (e1 : x1 = (t : Int)) (ht : (t : Int) < m 305 3)
    (hk : ∀ m', FrT m m' → (∀ j, j < 1584 → m' 305 j = m 305 j) → (∀ e, e < 8 → ∀ q, q < 4 → m' 314 (32 * t + 4 * e + q) = (tlF S X C t (X (680 * t)).toNat 0 (hr, W)).2 e (2 + q)) → (∀ j, (j < 32 * t ∨ 32 * t + 32 ≤ j) → m' 314 j = m 314 j) → k m') : N G (d + 7) mi_X8_tell 0 [some (vr 304), some (vi x1), none, none] [] m (RV k) := by
  have w3 := hw.2.2.1
  refine g_X8_tell_0 _ (c_copy 305 307 sh_305 sh_307 (by omega) ?_)
  have g5 : ∀ f, sc m 307 f 305 = m 305 := fun f => sc_ne _ _ (by decide)
  have g8 : ∀ f, sc m 307 f 308 = m 308 := fun f => sc_ne _ _ (by decide)
  have g4 : ∀ f, sc m 307 f 304 = m 304 := fun f => sc_ne _ _ (by decide)
  refine c_tellOn (S := S) (C := C) (hr := hr) (W := W) (X := X) (by rw [g5]; exact hst) (by rw [g5]; exact hvw) (by rw [g5]; exact hw) (by rw [g8]; exact hX) (fun t' ht' => hW t' (by rw [g5] at ht'; exact ht')) (by rw [g4]; exact e3) hCC t e1 (by rw [g5]; exact ht) (fun m2 f2 st2 vw2 wf2 => ?_)
  generalize (tlF S X C t (X (680 * t)).toNat 0 (hr, W)).2 = W' at *
  have kn : ∀ e, e < 8 → ∀ q, q < 4 → m2 305 (20 + 8 * e + 4 + q) = W' e (2 + q) := fun e he q hq => by
    have := vw2.2 e he (2 + q) (by omega)
    rw [← this]; congr 1; omega
  have outer : ∀ (r e : Nat) (x2 : Int) (F : Nat → Int), e + r = 8 → x2 = (e : Int) → (∀ e', e' < e → ∀ q, q < 4 → F (32 * t + 4 * e' + q) = W' e' (2 + q)) → (∀ j, (j < 32 * t ∨ 32 * t + 32 ≤ j) → F j = m 314 j) → N G (d + 7) mi_X8_tell 18 [some (vr 304), some (vi x1), some (vi x2), none] [] (sc m2 314 F) (RV k) := by
    intro r
    induction r with
    | zero =>
      intro e x2 F he h2 hF hF2
      have e8 : e = 8 := by omega
      subst e8
      refine g_X8_tell_18 _ _ (leT (by omega) (c_copy 307 305 sh_307 sh_305 (by omega) (hk _ (fun c h1 h2 h3 h4 h5 h6 => ?_) (fun j hj => ?_) (fun e' he' q hq => ?_) (fun j hj => ?_))))
      · rw [sc_ne _ _ h1, sc_ne _ _ h6, f2 c h1 h3 h4 h5, sc_ne _ _ h2]
      · rw [sc_at]
        try dsimp only
        rw [if_pos hj, sc_ne _ _ (by decide), f2 307 (by omega) (by omega) (by omega) (by omega), sc_at]
        exact if_pos hj
      · rw [sc_ne _ _ (by decide), sc_at]; exact hF e' he' q hq
      · rw [sc_ne _ _ (by decide), sc_at]; exact hF2 j hj
    | succ r ih =>
      intro e x2 F he h2 hF hF2
      refine g_X8_tell_18 _ _ (leF (by omega) ?_)
      have inner : ∀ (r' q : Nat) (x3 : Int) (F : Nat → Int), q + r' = 4 → x3 = (q : Int) → (∀ e', e' < e → ∀ q, q < 4 → F (32 * t + 4 * e' + q) = W' e' (2 + q)) → (∀ q', q' < q → F (32 * t + 4 * e + q') = W' e (2 + q')) → (∀ j, (j < 32 * t ∨ 32 * t + 32 ≤ j) → F j = m 314 j) → N G (d + 7) mi_X8_tell 26 [some (vr 304), some (vi x1), some (vi x2), some (vi x3)] [] (sc m2 314 F) (RV k) := by
        intro r'
        induction r' with
        | zero =>
          intro q x3 F hq h3 hF hFq hF2
          have q4 : q = 4 := by omega
          subst q4
          refine g_X8_tell_26 _ _ _ (leT (by omega) (ih (e + 1) _ F (by omega) (by omega) (fun e' he' q hq => ?_) hF2))
          by_cases ee : e' = e
          · subst ee; exact hFq q hq
          · exact hF e' (by omega) q hq
        | succ r' ih' =>
          intro q x3 F hq h3 hF hFq hF2
          refine g_X8_tell_26 _ _ _ (leF (by omega) (c_get (20 + 8 * e + 4 + q) (by omega) (by omega) ⟨32 * t + 4 * e + q, by omega, fun m3 q3 => ?_⟩))
          rw [q3, upm_sc, sc_sc, sc_at, show sc m2 314 F 305 = m2 305 from sc_ne _ _ (by decide), kn e (by omega) q (by omega)]
          refine ih' (q + 1) _ _ (by omega) (by omega) (fun e' he' q' hq' => by rw [up_ne _ _ (by omega)]; exact hF e' he' q' hq') (fun q' hq' => ?_) (fun j hj => by rw [up_ne _ _ (by omega)]; exact hF2 j hj)
          by_cases ee : q' = q
          · rw [ee, up_at]
          · rw [up_ne _ _ (by omega)]; exact hFq q' (by omega)
      exact inner 4 0 0 F (by omega) rfl hF (fun q' hq' => absurd hq' (by omega)) hF2
  have hm2 : m2 = sc m2 314 (m2 314) := (sc_id _ _).symm
  rw [hm2]
  refine outer 8 0 0 (m2 314) (by omega) rfl (fun e' he' => absurd he' (by omega)) (fun j hj => ?_)
  rw [f2 314 (by omega) (by omega) (by omega) (by omega), sc_ne _ _ (by decide)]
/-- nothing but working rows changed, on both sides -/
theorem Rel.work {m m1 m2 : MM} (h : Rel m m) (f1 : ∀ c, c < 272 ∨ 284 ≤ c → m1 c = m c) (f2 : FrR m1 m2) (e5 : ∀ j, j < 1584 → m2 305 j = m 305 j) : Rel m2 m2 := by
  have hR := h
  obtain ⟨C, hC, h2, h3', h4, h5, h6, -⟩ := hR
  refine h.step (m1 := m1) (fun c hc => f1 c (by omega)) f2 ?_ (fun C _ _ _ hw => hw.cong e5) (e5 3 (by omega))
  have h4' : Std m1 12 (m 305) := h4.kept (fun j h1 h2 => f1 j (by omega))
  exact h4'.cong h6.2.2.2.2.1 e5
theorem FrT.frR {m m' : MM} (h : FrT m m') : FrR m m' := ⟨fun c hc => h c (by omega) (by omega) (by omega) (by omega) (by omega) (by omega), h _ (by omega) (by omega) (by omega) (by omega) (by omega) (by omega), h _ (by omega) (by omega) (by omega) (by omega) (by omega) (by omega), h _ (by omega) (by omega) (by omega) (by omega) (by omega) (by omega), by rw [h 304 (by omega) (by omega) (by omega) (by omega) (by omega) (by omega)], by rw [h 304 (by omega) (by omega) (by omega) (by omega) (by omega) (by omega)], by rw [h 304 (by omega) (by omega) (by omega) (by omega) (by omega) (by omega)], by rw [h 304 (by omega) (by omega) (by omega) (by omega) (by omega) (by omega)]⟩
theorem P_told {k : Int → Int → MM → Prop} {x1 x2 x3 : Int} (hx1 : rng x1) (hx2 : rng x2) (hx3 : rng x3) (h : Rel m m) (hk : ∀ z m', Rel m' m' → k z z m') : PR G d mi_X7_told mi_X8_told [some (vr 0), some (vi x1), some (vi x2), some (vi x3)] [some (vr 304), some (vi x1), some (vi x2), some (vi x3)] m k := by
  have hR := h
  have hask := h.asks
  obtain ⟨C, hC, h2, h3', h4, h5, hw, h7, h8, h9, -⟩ := hR
  have w0 := hw.1
  have w1 := hw.2.1
  have w3 := hw.2.2.1
  obtain ⟨s0, s1, s3, s4, s6, s8, s7, sc', scr, sp⟩ := h4
  have hkk : ∀ z, k z z m := fun z => hk z m h
  have hv := hw.2.2.2.2.2.2.2.2.2.1
  by_cases hall : (0 ≤ x1 ∧ x1 < m 305 3) ∧ (0 ≤ x2 ∧ x2 < m 305 1) ∧ (0 ≤ x3 ∧ x3 ≤ 3)
  · obtain ⟨ha, hb, hc⟩ := hall
    obtain ⟨t, ht⟩ : ∃ t : Nat, x1 = (t : Int) := ⟨x1.toNat, by omega⟩
    obtain ⟨e, he⟩ : ∃ e : Nat, x2 = (e : Int) := ⟨x2.toNat, by omega⟩
    obtain ⟨q, hq⟩ : ∃ q : Nat, x3 = (q : Int) := ⟨x3.toNat, by omega⟩
    refine g_X7_told_0 _ _ _ (c7_isText (by omega) (fun _ => eqF (by omega) (c7_isEye (by omega) (fun _ => eqF (by omega) (ltF (by omega) (ltT (by omega) ?_))) (fun z => absurd z (by omega)))) (fun z => absurd z (by omega)))
    refine c0_copyFrom 272 16 sh_272 sh_16 (by omega) (fun m1 cp1 f1 => ⟨t, by omega, ?_⟩)
    have hcr : Crt m1 272 (m 305 2) (nowW (m 305)) := cp1 _ _ scr
    have fa : ∀ c, c < 272 ∨ 284 ≤ c → m1 c = m c := fun c hc => f1 c (by omega)
    refine c7_tell (S := m 305) (X := m 308) (C := C) t (by omega) hw hC (hask.fr (fun c hc => fa c (by omega)) (by omega)) (by rw [fa 0 (by omega)]; exact h2) (by rw [fa 12 (by omega)]; exact s0) (by rw [fa 12 (by omega)]; exact s1) hcr hv (fun m2 f2 hc2 => ⟨e, by omega, ?_⟩)
    have okv := tl_ok (S := m 305) (X := m 308) (t := t) hC.1 w0 w1 (m 308 (680 * t)).toNat 0 _ _ hv
    have ie := okv.2.2.1 e (by omega)
    unfold eyeOK at ie
    have fb : ∀ c, c < 272 ∨ 284 ≤ c → m2 c = m c := fun c hc => (f2 c (by omega) (by omega) (by omega)).trans (fa c hc)
    have c275 := (hc2.2 e (by omega)).2.2
    refine c0_atPlace c275 ie.2.2.2.2.1 ie.2.2.2.2.2.1 ie.2.2.2.2.2.2.1 ie.2.2.2.2.2.2.2 q hq (by omega) ?_
    have g4 := fb 304 (by omega)
    have g5 := fb 305 (by omega)
    have g8 := fb 308 (by omega)
    refine g_X8_told_0 _ _ _ (c_isText (by rw [g5]; omega) (fun _ => eqF (by omega) (c_isEye (by rw [g5]; omega) (fun _ => eqF (by omega) (c_isIn (by omega) (fun _ => eqF (by omega) ?_) (fun z => absurd z (by omega)))) (fun z => absurd z (by rw [g5]; omega)))) (fun z => absurd z (by rw [g5]; omega)))
    refine c_tell (S := m 305) (X := m 308) (C := C) (hr := m 305 2) (W := nowW (m 305)) (by rw [g5]; exact Sta.rf _) (by rw [g5]; exact Vw.rf _) (by rw [g5]; exact hw) g8 (fun t' ht' => (h9 t' (by rw [g5] at ht'; exact ht')).2) (by rw [g4]; exact h3') hC t ht (by rw [g5]; omega) (fun m3 f3 e5 wd wo => ⟨32 * t + 4 * e + q, by omega, ?_⟩)
    rw [wd e (by omega) q (by omega)]
    have epl : pl ((tlF (m 305) (m 308) C t (m 308 (680 * t)).toNat 0 (m 305 2, nowW (m 305))).2 e 2) ((tlF (m 305) (m 308) C t (m 308 (680 * t)).toNat 0 (m 305 2, nowW (m 305))).2 e 3) ((tlF (m 305) (m 308) C t (m 308 (680 * t)).toNat 0 (m 305 2, nowW (m 305))).2 e 4) ((tlF (m 305) (m 308) C t (m 308 (680 * t)).toNat 0 (m 305 2, nowW (m 305))).2 e 5) q = (tlF (m 305) (m 308) C t (m 308 (680 * t)).toNat 0 (m 305 2, nowW (m 305))).2 e (2 + q) := by
      have : q = 0 ∨ q = 1 ∨ q = 2 ∨ q = 3 := by omega
      rcases this with rfl | rfl | rfl | rfl <;> rfl
    rw [epl]
    exact hk _ _ (h.work fb f3.frR (fun j hj => by rw [e5 j hj, g5]))
  · have ref : N G (d + 60) mi_X8_told 0 [some (vr 304), some (vi x1), some (vi x2), some (vi x3)] [] m (RI fun z' m2 => k (-2) z' m2) := by
      refine g_X8_told_0 _ _ _ (c_isText (by omega) (fun _ => eqF (by omega) (c_isEye (by omega) (fun _ => eqF (by omega) (c_isIn (by omega) (fun z => absurd hall (by omega)) (fun z => eqT (by omega) (hkk _)))) (fun z => eqT (by omega) (hkk _)))) (fun z => eqT (by omega) (hkk _)))
    refine g_X7_told_0 _ _ _ (c7_isText (by omega) (fun _ => eqF (by omega) (c7_isEye (by omega) (fun _ => eqF (by omega) (ltI (by omega) (fun _ => ref) (fun _ => ltF (by omega) ref))) (fun z => eqT (by omega) ref))) (fun z => eqT (by omega) ref))
end Tell
