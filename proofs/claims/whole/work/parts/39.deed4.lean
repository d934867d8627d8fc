/-! ===== the reference's touch, put, swap, polish ===== -/
def Vw (S : Nat → Int) (hr : Int) (W : Nat → Nat → Int) : Prop := S 2 = hr ∧ ∀ e, e < 8 → ∀ q, q < 6 → S (20 + 8 * e + 2 + q) = W e q
theorem Vw.set {S S1 : Nat → Int} {hr : Int} {W : Nat → Nat → Int} (h : Vw S hr W) (hk : KeepOf S S1) : SetW S1 S1 hr W :=
  ⟨hk.now.1.trans h.1, fun e he q hq => (hk.now.2 e he q hq).trans (h.2 e he q hq), fun _ _ => ⟨rfl, rfl⟩, fun _ _ => rfl⟩
theorem SetW.vw {S S' : Nat → Int} {hr : Int} {W : Nat → Nat → Int} (h : SetW S S' hr W) : Vw S' hr W := ⟨h.1, h.2.1⟩
theorem Vw.wf {C hr : Int} {S : Nat → Int} {W : Nat → Nat → Int} (h : Vw S hr W) (hw : WfS C S) : WfV C (S 1) hr W := by
  have := hw.2.2.2.2.2.2.2.2.2.1
  rw [h.1] at this
  exact this.cong (fun a ha q hq => (h.2 a ha q hq).symm)
theorem cnt_cmy {f : Nat → Int} {W : Nat → Nat → Int} {e : Nat} (h : ∀ q, q < 4 → f q = W e (2 + q)) : cnt f 4 = cmy W e := by
  unfold cmy
  simp only [cnt, pl]
  rw [h 0 (by omega), h 1 (by omega), h 2 (by omega), h 3 (by omega)]
section Deed4
variable {G : GG} {d : Nat} {m : MM}
theorem c_touch {k : Int → MM → Prop} {C hr x1 x2 : Int} {S X : Nat → Int} {W : Nat → Nat → Int} (hst : Sta S (m 305)) (hvw : Vw (m 305) hr W) (hw : WfS C (m 305)) (hX : m 308 = X) (hW : ∀ t : Nat, (t : Int) < m 305 3 → WfT X t) (e3 : m 304 3 = C) (hCC : 1 ≤ C ∧ C ≤ 6) (hx1 : rng x1) (hx2 : rng x2) (hn : dF S X C hr W 2 x1 x2 = none → k (-1) m)
    (hs : ∀ a hr' W', dF S X C hr W 2 x1 x2 = some (a, hr', W') → ∀ S1 m', KeepOf (m 305) S1 → SetW S1 (m' 305) hr' W' → FrD m m' → k a m') : N G (d + 4) mi_X8_touch 0 [some (vr 304), some (vi x1), some (vi x2), none, none] [] m (RI k) := by
  have w0 := hw.1
  have w1 := hw.2.1
  have s0 := hst.1 0 (by omega) (by omega) (by omega)
  have s1 := hst.1 1 (by omega) (by omega) (by omega)
  have hv := hvw.wf hw
  have hv1 := hv.1
  have hv2 := hv.2.1
  have h2 := hvw.1
  unfold dF at hn hs
  simp only [if_true] at hn hs
  refine g_X8_touch_0 _ _ (c_isThing (by omega) (fun q => eqF (by omega) (c_isOne (by omega) (fun q2 => eqF (by omega) ?_) (fun q2 => eqT (by omega) (hn (if_neg (by omega)))))) (fun q => eqT (by omega) (hn (if_neg (by omega)))))
  refine eqI (by omega) (fun q3 => hn (if_neg (by omega))) (fun q3 => ?_)
  obtain ⟨t, ht⟩ : ∃ t : Nat, x1 = (t : Int) := ⟨x1.toNat, by omega⟩
  have htt : x1.toNat = t := by omega
  have hs' := hs _ _ _ (if_pos (by omega))
  rw [htt] at hs'
  refine c_keep hw.2.2.2.2.1 (fun S1 hk1 m2 q4 => ?_)
  have hset := hvw.set hk1
  have hsta := hst.tr hk1.sta
  have hvv : WfV C (S 1) (hr + 1) W := by rw [← s1]; exact hv.hour (by omega)
  have loop : ∀ (r n : Nat) (x3 x4 : Int) (m1 : MM), n + r = (S 1).toNat → FrD m m1 → SetW S1 (m1 305) (hr + 1) (flW S X (hr + 1) t x2 W n).2 → x3 = (flW S X (hr + 1) t x2 W n).1 → x4 = (n : Int) → N G (d + 4) mi_X8_touch 49 [some (vr 304), some (vi x1), some (vi x2), some (vi x3), some (vi x4)] [] m1 (RI k) := by
    intro r
    induction r with
    | zero =>
      intro n x3 x4 m1 hnr hf hset1 h3 h4
      refine g_X8_touch_49 _ _ _ _ ?_
      have e1 : m1 305 1 = S 1 := (hsta.tr hset1.sta).1 1 (by omega) (by omega) (by omega)
      rw [e1]
      have en : n = (S 1).toNat := by omega
      subst en
      refine leT (by omega) ?_
      rw [h3]
      exact hs' S1 m1 hk1 hset1 hf
    | succ r ih =>
      intro n x3 x4 m1 hnr hf hset1 h3 h4
      obtain ⟨i1, i2, i3, i4, i5⟩ := fl_ok S X t (by omega) x2 hvv n (by omega)
      have step : flW S X (hr + 1) t x2 W (n + 1) = if (flW S X (hr + 1) t x2 W n).2 n 0 = x2 ∧ seeW S X (hr + 1) (flW S X (hr + 1) t x2 W n).2 n t x2 ≠ 0 then ((flW S X (hr + 1) t x2 W n).1 + 1, if S (20 + 8 * n + 1) = 1 then lnW (lnW (flW S X (hr + 1) t x2 W n).2 n t) n t else lnW (flW S X (hr + 1) t x2 W n).2 n t) else flW S X (hr + 1) t x2 W n := rfl
      generalize flW S X (hr + 1) t x2 W n = p at *
      have ie := i1.2.2.1 n (by omega)
      unfold eyeOK at ie
      have st1 := hsta.tr hset1.sta
      have e1 : m1 305 1 = S 1 := st1.1 1 (by omega) (by omega) (by omega)
      have e2 : m1 305 2 = hr + 1 := hset1.1
      have e4 : m1 305 4 = S 4 := st1.1 4 (by omega) (by omega) (by omega)
      have e33 : m1 305 3 = m 305 3 := by rw [st1.1 3 (by omega) (by omega) (by omega), hst.1 3 (by omega) (by omega) (by omega)]
      have e8 : m1 308 = X := by rw [hf 308 (by omega) (by omega) (by omega) (by omega)]; exact hX
      have g0 := hset1.2.1 n (by omega) 0 (by omega)
      have g1 : m1 305 (20 + 8 * n + 3) = p.2 n 1 := hset1.2.1 n (by omega) 1 (by omega)
      rw [Nat.add_zero] at g0
      have ks1 : S1 1 = S 1 := hsta.1 1 (by omega) (by omega) (by omega)
      have w1' : WfS C (m1 305) := (hw.keep hk1).setW hset1 (by rw [ks1]; exact i1)
      refine g_X8_touch_49 _ _ _ _ ?_
      rw [e1]
      refine leF (by omega) (c_get (20 + 8 * n + 2) (by omega) (by omega) ?_)
      rw [g0]
      refine eqI (by omega) (fun q5 => ?_) (fun q5 => ?_)
      · have kn : ∀ q, q < 4 → m1 305 (20 + 8 * n + 4 + q) = p.2 n (2 + q) := fun q hq => by
          have := hset1.2.1 n (by omega) (2 + q) (by omega)
          rw [← this]; congr 1; omega
        have ecn : cnt (fun q => m1 305 (20 + 8 * n + 4 + q)) 4 = cmy p.2 n := cnt_cmy kn
        have hcm : 0 ≤ cmy p.2 n ∧ cmy p.2 n ≤ 4 := by have := cnt_bd (fun q => pl (p.2 n 2) (p.2 n 3) (p.2 n 4) (p.2 n 5) q) 4; unfold cmy; omega
        refine c_manyOf n h4 (by omega) (fun q hq => by have := w1'.know (e := n) (by omega) hq; omega) ?_
        rw [e2, ecn]
        refine c_sees w1' (fun t' ht' => by rw [e8]; exact hW t' (by omega)) n t h4 (by omega) ht (by omega) (by omega) hcm (by omega) (fun m3 f3 => ?_)
        rw [e8, e4, g1, nmv_cong st1 (by omega) (by omega)]
        have sm9 := nmv_sm (S := m1 305) w1' (e := n) (by omega) (hr := hr + 1) (sn := p.2 n 1) (mny := cmy p.2 n) (by omega) (by omega) hcm (th := t) (by omega) (who := x2) (by omega)
        rw [nmv_cong st1 (by omega) (by omega)] at sm9
        have w4 := w1'.2.2.2.1
        have s01 := seeF_01 (X := X) (T := S 4) (fun h => hW _ (by omega)) sm9
        have f3' := f3.frD
        have e35 : m3 305 = m1 305 := f3 305 (by omega) (by omega) (by omega)
        refine eqI (by omega) (fun q6 => ?_) (fun q6 => ?_)
        · rw [if_neg (fun z => z.2 q6)] at step
          exact ih (n + 1) _ _ m3 (by omega) (hf.tr f3') (by rw [step, e35]; exact hset1) (by rw [step]; exact h3) (by omega)
        · rw [if_pos ⟨q5, q6⟩] at step
          refine c_learn n h4 (by omega) (S0 := S1) (hr := hr + 1) (W := p.2) (by rw [e35]; exact hset1) (fun S2 hs2 => c_get (20 + 8 * n + 1) (by omega) (by omega) ?_)
          rw [sc_at, show S2 (20 + 8 * n + 1) = S (20 + 8 * n + 1) from ((hsta.tr hs2.sta).2 n (by omega)).2]
          have ch := (w1'.2.2.2.2.2.2.2.2.1 n (by omega)).2
          rw [(st1.2 n (by omega)).2] at ch
          refine eqI (by omega) (fun q7 => ?_) (fun q7 => ?_)
          · refine c_learn n h4 (by omega) (S0 := S1) (hr := hr + 1) (by rw [sc_at]; exact hs2) (fun S3 hs3 => ?_)
            rw [sc_sc]
            rw [if_pos q7] at step
            exact ih (n + 1) _ _ _ (by omega) (hf.tr (f3'.tr FrD.sc)) (by rw [step, sc_at, ← ht]; exact hs3) (by rw [step, h3]) (by omega)
          · rw [if_neg q7] at step
            exact ih (n + 1) _ _ _ (by omega) (hf.tr (f3'.tr FrD.sc)) (by rw [step, sc_at, ← ht]; exact hs2) (by rw [step, h3]) (by omega)
      · rw [if_neg (fun z => q5 z.1)] at step
        exact ih (n + 1) _ _ m1 (by omega) hf (by rw [step]; exact hset1) (by rw [step]; exact h3) (by omega)
  refine loop (S 1).toNat 0 0 0 m2 (by omega) ?_ ?_ rfl rfl
  · rw [q4]
    exact FrD.sc.tr (fun c h _ _ _ => upm_c h)
  · have em : m2 305 = up S1 2 (S1 2 + 1) := by rw [q4, upm_sc, sc_at, sc_at]
    rw [em]
    refine ⟨by rw [up_at, hset.1], fun e he q hq => by rw [up_ne _ _ (by omega)]; exact hset.2.1 e he q hq, fun e he => by rw [up_ne _ _ (by omega), up_ne _ _ (by omega)]; exact ⟨rfl, rfl⟩, fun j hj => by rw [up_ne _ _ (by omega)]⟩
theorem c_put {k : Int → MM → Prop} {C hr x1 x2 : Int} {S X : Nat → Int} {W : Nat → Nat → Int} (hst : Sta S (m 305)) (hvw : Vw (m 305) hr W) (hw : WfS C (m 305)) (e3 : m 304 3 = C) (hCC : 1 ≤ C ∧ C ≤ 6) (hx1 : rng x1) (hx2 : rng x2) (hn : dF S X C hr W 3 x1 x2 = none → k 0 m)
    (hs : ∀ a hr' W', dF S X C hr W 3 x1 x2 = some (a, hr', W') → ∀ S1 m', KeepOf (m 305) S1 → SetW S1 (m' 305) hr' W' → FrD m m' → k 1 m') : N G (d + 4) mi_X8_put 0 [some (vr 304), some (vi x1), some (vi x2)] [] m (RI k) := by
  have w1 := hw.2.1
  have s1 := hst.1 1 (by omega) (by omega) (by omega)
  have hv := hvw.wf hw
  unfold dF at hn hs
  simp only [show ¬ (3 : Int) = 2 by decide, if_false, if_true] at hn hs
  have go : (0 ≤ x1 ∧ x1 < m 305 1) → (x2 = -1 ∨ 0 ≤ x2 ∧ x2 < C) → N G (d + 4) mi_X8_put 21 [some (vr 304), some (vi x1), some (vi x2)] [] m (RI k) := by
    intro q q2
    obtain ⟨i, hi⟩ : ∃ i : Nat, x1 = (i : Int) := ⟨x1.toNat, by omega⟩
    have htt : x1.toNat = i := by omega
    rw [htt] at hn hs
    have g0 := hvw.2 i (by omega) 0 (by omega)
    rw [Nat.add_zero] at g0
    have ie := hv.2.2.1 i (by omega)
    unfold eyeOK at ie
    have put : W i 0 ≠ x2 → roomF C W x2 → N G (d + 4) mi_X8_put 49 [some (vr 304), some (vi x1), some (vi x2)] [] m (RI k) := by
      intro h1 h2
      refine g_X8_put_49 _ _ (c_keep hw.2.2.2.2.1 (fun S1 hk1 => ?_))
      refine c_place0 i hi (by omega) (S0 := S1) (hr := hr) (W := W) (by rw [sc_at]; exact hvw.set hk1) (fun S2 hs2 => ?_)
      rw [sc_sc]
      exact hs _ _ _ (if_pos ⟨by omega, h1, h2⟩) S1 _ hk1 (by rw [sc_at]; exact hs2) FrD.sc
    refine g_X8_put_21 _ _ (c_get (20 + 8 * i + 2) (by omega) (by omega) ?_)
    rw [g0]
    refine eqI (by omega) (fun q3 => hn (if_neg (fun z => z.2.1 q3))) (fun q3 => ltI (by omega) (fun q4 => put q3 (Or.inl (by omega))) (fun q4 => ?_))
    obtain ⟨n, hnn⟩ : ∃ n : Nat, m 305 1 = (n : Int) := ⟨(m 305 1).toNat, by omega⟩
    refine c_wornBy n hx2 hnn (by omega) (fun e he => by have := hw.worn he; omega) ?_
    have hlt := wset_lt (fun e => m 305 (20 + 8 * e + 2)) x2 n
    have h8 : 2 ^ n ≤ 2 ^ 8 := Nat.pow_le_pow_right (by omega) (by omega)
    refine c_bits _ rfl (by omega) ?_
    have hpop : popN (wset (fun e => m 305 (20 + 8 * e + 2)) x2 n) 8 = wcnt (fun e => W e 0) x2 8 := by
      rw [pop_hi _ n hlt 8 (by omega), pop_wset _ _ _ _ (Nat.le_refl n)]
      rw [← wcnt_trunc (n := n) (fun e h1 h2 => ?_) 8 (by omega) (by omega)]
      · exact wcnt_cong 8 (fun e he => by have := hvw.2 e he 0 (by omega); rw [Nat.add_zero] at this; exact this)
      · have := (hw.out h2 (by omega)).1
        have : m 305 (20 + 8 * e + 2) = -1 := this
        omega
    rw [hpop]
    have hle := hv.2.2.2.2 x2 (by omega)
    refine eqI (by omega) (fun q5 => hn (if_neg (fun z => by have := z.2.2; unfold roomF at this; omega))) (fun q5 => put q3 (Or.inr ⟨by omega, by omega⟩))
  refine g_X8_put_0 _ _ (c_isEye (by omega) (fun q => eqF (by omega) (eqI (by omega) (fun q2 => go q (Or.inl q2)) (fun q2 => c_isOne (by omega) (fun q3 => eqF (by omega) (go q (Or.inr (by omega)))) (fun q3 => eqT (by omega) (hn (if_neg (fun z => by have := z.2.2; unfold roomF at this; omega))))))) (fun q => eqT (by omega) (hn (if_neg (fun z => by omega)))))
theorem c_swap {k : Int → MM → Prop} {C hr x1 x2 : Int} {S X : Nat → Int} {W : Nat → Nat → Int} (hst : Sta S (m 305)) (hvw : Vw (m 305) hr W) (hw : WfS C (m 305)) (hx1 : rng x1) (hx2 : rng x2) (hn : dF S X C hr W 5 x1 x2 = none → k 0 m)
    (hs : ∀ a hr' W', dF S X C hr W 5 x1 x2 = some (a, hr', W') → ∀ S1 m', KeepOf (m 305) S1 → SetW S1 (m' 305) hr' W' → FrD m m' → k 1 m') : N G (d + 4) mi_X8_swap 0 [some (vr 304), some (vi x1), some (vi x2)] [] m (RI k) := by
  have w1 := hw.2.1
  have s1 := hst.1 1 (by omega) (by omega) (by omega)
  unfold dF at hn hs
  simp only [show ¬ (5 : Int) = 2 by decide, show ¬ (5 : Int) = 3 by decide, if_false, if_true] at hn hs
  refine g_X8_swap_0 _ _ (c_isEye (by omega) (fun q => eqF (by omega) (c_isEye (by omega) (fun q2 => eqF (by omega) (eqI (by omega) (fun q3 => hn (if_neg (by omega))) (fun q3 => ?_))) (fun q2 => eqT (by omega) (hn (if_neg (by omega)))))) (fun q => eqT (by omega) (hn (if_neg (by omega)))))
  refine c_keep hw.2.2.2.2.1 (fun S1 hk1 => ?_)
  refine c_exchange x1.toNat x2.toNat (by omega) (by omega) (by omega) (by omega) (S0 := S1) (hr := hr) (W := W) (by rw [sc_at]; exact hvw.set hk1) (fun S2 hs2 => ?_)
  rw [sc_sc]
  exact hs _ _ _ (if_pos (by omega)) S1 _ hk1 (by rw [sc_at]; exact hs2) FrD.sc
theorem c_polish {k : Int → MM → Prop} {C hr x1 x2 : Int} {S X : Nat → Int} {W : Nat → Nat → Int} (hst : Sta S (m 305)) (hvw : Vw (m 305) hr W) (hw : WfS C (m 305)) (hx1 : rng x1) (hn : dF S X C hr W 6 x1 x2 = none → k (-1) m)
    (hs : ∀ a hr' W', dF S X C hr W 6 x1 x2 = some (a, hr', W') → ∀ S1 m', KeepOf (m 305) S1 → SetW S1 (m' 305) hr' W' → FrD m m' → k a m') : N G (d + 4) mi_X8_polish 0 [some (vr 304), some (vi x1), none, none] [] m (RI k) := by
  have w1 := hw.2.1
  have s1 := hst.1 1 (by omega) (by omega) (by omega)
  unfold dF at hn hs
  simp only [show ¬ (6 : Int) = 2 by decide, show ¬ (6 : Int) = 3 by decide, show ¬ (6 : Int) = 5 by decide, if_false] at hn hs
  refine g_X8_polish_0 _ (c_isEye (by omega) (fun q => eqF (by omega) ?_) (fun q => eqT (by omega) (hn (if_neg (by omega)))))
  obtain ⟨i, hi⟩ : ∃ i : Nat, x1 = (i : Int) := ⟨x1.toNat, by omega⟩
  have htt : x1.toNat = i := by omega
  rw [htt] at hs
  refine c_keep hw.2.2.2.2.1 (fun S1 hk1 => ?_)
  have hset := hvw.set hk1
  have hw1 := hw.keep hk1
  have kn : ∀ q, q < 4 → S1 (20 + 8 * i + 4 + q) = W i (2 + q) := fun q hq => by
    have := hset.2.1 i (by omega) (2 + q) (by omega)
    rw [← this]; congr 1; omega
  refine c_manyOf i hi (by omega) (fun q hq => by rw [sc_at]; have := hw1.know (e := i) (by omega) hq; omega) ?_
  rw [sc_at, show cnt (fun q => S1 (20 + 8 * i + 4 + q)) 4 = cnt (fun q => W i (2 + q)) 4 from (cnt_cmy kn).trans (cnt_cmy (f := fun q => W i (2 + q)) (fun q _ => rfl)).symm]
  obtain ⟨u2, ue, uc, uo⟩ := hset
  have c4 := fun x2' (m' : MM) (k' : Int → MM → Prop) (h : k' x2' (sc m' 305 (up (up (up (up (m' 305) (20 + 8 * i + 4) (-1)) (20 + 8 * i + 5) (-1)) (20 + 8 * i + 6) (-1)) (20 + 8 * i + 7) (-1)))) => show N G (d + 4) mi_X8_polish 22 [some (vr 304), some (vi x1), some (vi x2'), some (vi 0)] [] m' (RI k') from by
    refine g_X8_polish_22 _ _ _ (leF (by omega) (c_set (20 + 8 * i + 4) (by omega) (by omega) ?_))
    refine g_X8_polish_22 _ _ _ (leF (by omega) (c_set (20 + 8 * i + 5) (by omega) (by omega) ?_))
    refine g_X8_polish_22 _ _ _ (leF (by omega) (c_set (20 + 8 * i + 6) (by omega) (by omega) ?_))
    refine g_X8_polish_22 _ _ _ (leF (by omega) (c_set (20 + 8 * i + 7) (by omega) (by omega) ?_))
    refine g_X8_polish_22 _ _ _ (leT (by omega) ?_)
    simp only [sc_sc, sc_at]
    exact h
  refine c4 _ _ _ ?_
  rw [sc_sc, sc_at]
  refine hs _ _ _ (if_pos (by omega)) S1 _ hk1 ?_ FrD.sc
  rw [sc_at]
  refine ⟨by simp (disch := omega) only [up_ne]; exact u2, fun a ha q hq => ?_, fun a ha => ⟨by simp (disch := omega) only [up_ne], by simp (disch := omega) only [up_ne]⟩, fun j hj => by simp (disch := omega) only [up_ne]⟩
  unfold fgW
  by_cases ea : a = i
  · subst ea
    by_cases q2 : 2 ≤ q
    · rw [if_pos ⟨rfl, q2⟩]
      have : q = 2 ∨ q = 3 ∨ q = 4 ∨ q = 5 := by omega
      rcases this with rfl | rfl | rfl | rfl
      · rw [up_ne _ _ (by omega), up_ne _ _ (by omega), up_ne _ _ (by omega), show 20 + 8 * a + 2 + 2 = 20 + 8 * a + 4 from rfl, up_at]
      · rw [up_ne _ _ (by omega), up_ne _ _ (by omega), show 20 + 8 * a + 2 + 3 = 20 + 8 * a + 5 from rfl, up_at]
      · rw [up_ne _ _ (by omega), show 20 + 8 * a + 2 + 4 = 20 + 8 * a + 6 from rfl, up_at]
      · rw [show 20 + 8 * a + 2 + 5 = 20 + 8 * a + 7 from rfl, up_at]
    · rw [if_neg (by omega)]
      simp (disch := omega) only [up_ne]
      exact ue a ha q hq
  · rw [if_neg (by omega)]
    simp (disch := omega) only [up_ne]
    exact ue a ha q hq
/-- a story's clause as a deed -/
def dC (S X : Nat → Int) (C hr : Int) (W : Nat → Nat → Int) (t i : Nat) : Option (Int × Int × (Nat → Nat → Int)) :=
  dF S X C hr W (if X (680 * t + 1 + 3 * i) = 4 then 3 else X (680 * t + 1 + 3 * i)) (X (680 * t + 2 + 3 * i)) (if X (680 * t + 1 + 3 * i) = 4 ∨ X (680 * t + 1 + 3 * i) = 6 then -1 else X (680 * t + 3 + 3 * i))
theorem WfT.deed {X : Nat → Int} {t : Nat} (h : WfT X t) {i : Nat} (hi : (i : Int) < X (680 * t)) : (0 ≤ X (680 * t + 1 + 3 * i) ∧ X (680 * t + 1 + 3 * i) ≤ 6) ∧ (2 ≤ X (680 * t + 1 + 3 * i) → (0 ≤ X (680 * t + 2 + 3 * i) ∧ X (680 * t + 2 + 3 * i) ≤ 7) ∧ (X (680 * t + 1 + 3 * i) ≠ 4 → X (680 * t + 1 + 3 * i) ≠ 6 → 0 ≤ X (680 * t + 3 + 3 * i) ∧ X (680 * t + 3 + 3 * i) ≤ 7)) := by
  obtain ⟨n, h1, h2, h3⟩ := h
  rcases h3 i (by omega) with q | q | q
  · have := q.1; exact ⟨by omega, fun _ => by omega⟩
  · have := q.1; exact ⟨by omega, fun _ => by omega⟩
  · exact ⟨by omega, fun _ => ⟨q.2.1, q.2.2⟩⟩
theorem c_isDone {k : Int → MM → Prop} {C hr x1 : Int} {S X : Nat → Int} {W : Nat → Nat → Int} (hst : Sta S (m 305)) (hvw : Vw (m 305) hr W) (hw : WfS C (m 305)) (hX : m 308 = X) (hW : ∀ t : Nat, (t : Int) < m 305 3 → WfT X t) (e3 : m 304 3 = C) (hCC : 1 ≤ C ∧ C ≤ 6) (t i : Nat) (ht : (t : Int) < m 305 3) (hi : (i : Int) < X (680 * t)) (e1 : x1 = 680 * (t : Int) + 1 + 3 * (i : Int)) (hl : X (680 * t + 1 + 3 * i) < 2 → k 1 m) (hn : 2 ≤ X (680 * t + 1 + 3 * i) → dC S X C hr W t i = none → k 0 m)
    (hs : 2 ≤ X (680 * t + 1 + 3 * i) → ∀ a hr' W', dC S X C hr W t i = some (a, hr', W') → ∀ S1 m', KeepOf (m 305) S1 → SetW S1 (m' 305) hr' W' → FrD m m' → k 1 m') : N G (d + 5) mi_X8_isDone 0 [some (vr 304), some (vi x1), none, none] [] m (RI k) := by
  have w0 := hw.1
  have w1 := hw.2.1
  have w3 := hw.2.2.1
  have wt := (hW t ht).deed hi
  have n24 : i < 24 := by obtain ⟨n, q1, q2, _⟩ := (hW t ht).cl; omega
  have s0 := hst.1 0 (by omega) (by omega) (by omega)
  have s1 := hst.1 1 (by omega) (by omega) (by omega)
  have ok : ∀ {deed one other a hr' W'}, dF S X C hr W deed one other = some (a, hr', W') → 0 ≤ a ∧ a ≤ 8 := fun h => (dF_ok hCC.1 (by omega) (by omega) (by rw [← s1]; exact hvw.wf hw) h).2
  unfold dC at hn hs
  refine g_X8_isDone_0 _ ⟨680 * t + 2 + 3 * i, by omega, 680 * t + 3 + 3 * i, by omega, 680 * t + 1 + 3 * i, by omega, ?_⟩
  rw [hX]
  generalize X (680 * t + 1 + 3 * i) = o at *
  generalize X (680 * t + 2 + 3 * i) = v at *
  generalize X (680 * t + 3 + 3 * i) = w at *
  refine ⟨by omega, fun e => ?_, fun e => ?_, fun e => ?_, fun e => ?_, fun e => ?_, fun e => hl (by omega)⟩
  · subst e
    simp only [show ¬ (2 : Int) = 4 by decide, show ¬ (2 : Int) = 6 by decide, if_false, or_self] at hn hs
    have := wt.2 (by omega)
    refine c_touch hst hvw hw hX hW e3 hCC (by omega) (by omega) (fun q => ltT (by omega) (hn (by omega) q)) (fun a hr' W' q S1 m' h1 h2 h3 => ?_)
    have := ok q
    exact ltF (by omega) (hs (by omega) a hr' W' q S1 m' h1 h2 h3)
  · subst e
    simp only [show ¬ (3 : Int) = 4 by decide, show ¬ (3 : Int) = 6 by decide, if_false, or_self] at hn hs
    have := wt.2 (by omega)
    exact c_put hst hvw hw e3 hCC (by omega) (by omega) (fun q => ⟨by omega, hn (by omega) q⟩) (fun a hr' W' q S1 m' h1 h2 h3 => ⟨by omega, hs (by omega) a hr' W' q S1 m' h1 h2 h3⟩)
  · subst e
    simp only [if_true, true_or] at hn hs
    have := wt.2 (by omega)
    exact c_put hst hvw hw e3 hCC (by omega) (by omega) (fun q => ⟨by omega, hn (by omega) q⟩) (fun a hr' W' q S1 m' h1 h2 h3 => ⟨by omega, hs (by omega) a hr' W' q S1 m' h1 h2 h3⟩)
  · subst e
    simp only [show ¬ (5 : Int) = 4 by decide, show ¬ (5 : Int) = 6 by decide, if_false, or_self] at hn hs
    have := wt.2 (by omega)
    exact c_swap hst hvw hw (by omega) (by omega) (fun q => ⟨by omega, hn (by omega) q⟩) (fun a hr' W' q S1 m' h1 h2 h3 => ⟨by omega, hs (by omega) a hr' W' q S1 m' h1 h2 h3⟩)
  · subst e
    simp only [show ¬ (6 : Int) = 4 by decide, if_false, or_true, if_true] at hn hs
    have := wt.2 (by omega)
    refine c_polish hst hvw hw (by omega) (fun q => ltT (by omega) (hn (by omega) q)) (fun a hr' W' q S1 m' h1 h2 h3 => ?_)
    have := ok q
    exact ltF (by omega) (hs (by omega) a hr' W' q S1 m' h1 h2 h3)
end Deed4
