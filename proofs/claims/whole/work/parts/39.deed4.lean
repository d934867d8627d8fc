/-! ===== the reference's touch, put, swap, polish ===== -/
def Vw (S : Nat → Int) (hr : Int) (W : Nat → Nat → Int) : Prop := S 2 = hr ∧ ∀ e, e < 8 → ∀ q, q < 6 → S (20 + 8 * e + 2 + q) = W e q
theorem Vw.set {S S1 : Nat → Int} {hr : Int} {W : Nat → Nat → Int} (h : Vw S hr W) (hk : KeepOf S S1) : SetW S1 S1 hr W :=
  ⟨hk.now.1.trans h.1, fun e he q hq => (hk.now.2 e he q hq).trans (h.2 e he q hq), fun _ _ => ⟨rfl, rfl⟩, fun _ _ => rfl⟩
theorem SetW.vw {S S' : Nat → Int} {hr : Int} {W : Nat → Nat → Int} (h : SetW S S' hr W) : Vw S' hr W := ⟨h.1, h.2.1⟩
theorem Vw.wf {C hr : Int} {S : Nat → Int} {W : Nat → Nat → Int} (h : Vw S hr W) (hw : WfS C S) : WfV C (S 1) hr W := by
  have := hw.2.2.2.2.2.2.2.2.2.1
  rw [h.1] at this
  exact this.cong (fun a ha q hq => (h.2 a ha q hq).symm)
theorem cnt_cmy {f : Nat → Int} {W : Nat → Nat → Int} {e : Nat} (h : ∀ q, q < 4 → f q = W e (2 + q)) : cnt f 4 = cmy W e := by
  unfold cmy
  simp only [cnt, pl]
  rw [h 0 (by omega), h 1 (by omega), h 2 (by omega), h 3 (by omega)]
section Deed4
variable {G : GG} {d : Nat} {m : MM}
theorem c_touch {k : Int → MM → Prop} {C hr x1 x2 : Int} {S X : Nat → Int} {W : Nat → Nat → Int} (hst : Sta S (m 305)) (hvw : Vw (m 305) hr W) (hw : WfS C (m 305)) (hX : m 308 = X) (hW : ∀ t : Nat, (t : Int) < m 305 3 → WfT X t) (e3 : m 304 3 = C) (hCC : 1 ≤ C ∧ C ≤ 6) (hx1 : rng x1) (hx2 : rng x2) (hn : dF S X C hr W 2 x1 x2 = none → k (-1) m)
    (hs : ∀ a hr' W', dF S X C hr W 2 x1 x2 = some (a, hr', W') → ∀ S1 m', KeepOf (m 305) S1 → SetW S1 (m' 305) hr' W' → FrD m m' → k a m') : N G (d + 4) mi_X8_touch 0 [some (vr 304), some (vi x1), some (vi x2), none, none] [] m (RI k) := by
  have w0 := hw.1
  have w1 := hw.2.1
  have s0 := hst.1 0 (by omega) (by omega) (by omega)
  have s1 := hst.1 1 (by omega) (by omega) (by omega)
  have hv := hvw.wf hw
  have hv1 := hv.1
  have hv2 := hv.2.1
  have h2 := hvw.1
  unfold dF at hn hs
  simp only [if_true] at hn hs
  refine g_X8_touch_0 _ _ (c_isThing (by omega) (fun q => eqF (by omega) (c_isOne (by omega) (fun q2 => eqF (by omega) ?_) (fun q2 => eqT (by omega) (hn (if_neg (by omega)))))) (fun q => eqT (by omega) (hn (if_neg (by omega)))))
  refine eqI (by omega) (fun q3 => hn (if_neg (by omega))) (fun q3 => ?_)
  obtain ⟨t, ht⟩ : ∃ t : Nat, x1 = (t : Int) := ⟨x1.toNat, by omega⟩
  have htt : x1.toNat = t := by omega
  have hs' := hs _ _ _ (if_pos (by omega))
  rw [htt] at hs'
  refine c_keep hw.2.2.2.2.1 (fun S1 hk1 m2 q4 => ?_)
  have hset := hvw.set hk1
  have hsta := hst.tr hk1.sta
  have hvv : WfV C (S 1) (hr + 1) W := by rw [← s1]; exact hv.hour (by omega)
  have loop : ∀ (r n : Nat) (x3 x4 : Int) (m1 : MM), n + r = (S 1).toNat → FrD m m1 → SetW S1 (m1 305) (hr + 1) (flW S X (hr + 1) t x2 W n).2 → x3 = (flW S X (hr + 1) t x2 W n).1 → x4 = (n : Int) → N G (d + 4) mi_X8_touch 49 [some (vr 304), some (vi x1), some (vi x2), some (vi x3), some (vi x4)] [] m1 (RI k) := by
    intro r
    induction r with
    | zero =>
      intro n x3 x4 m1 hnr hf hset1 h3 h4
      refine g_X8_touch_49 _ _ _ _ ?_
      have e1 : m1 305 1 = S 1 := (hsta.tr hset1.sta).1 1 (by omega) (by omega) (by omega)
      rw [e1]
      have en : n = (S 1).toNat := by omega
      subst en
      refine leT (by omega) ?_
      rw [h3]
      exact hs' S1 m1 hk1 hset1 hf
    | succ r ih =>
      intro n x3 x4 m1 hnr hf hset1 h3 h4
      obtain ⟨i1, i2, i3, i4, i5⟩ := fl_ok S X t (by omega) x2 hvv n (by omega)
      have step : flW S X (hr + 1) t x2 W (n + 1) = if (flW S X (hr + 1) t x2 W n).2 n 0 = x2 ∧ seeW S X (hr + 1) (flW S X (hr + 1) t x2 W n).2 n t x2 ≠ 0 then ((flW S X (hr + 1) t x2 W n).1 + 1, if S (20 + 8 * n + 1) = 1 then lnW (lnW (flW S X (hr + 1) t x2 W n).2 n t) n t else lnW (flW S X (hr + 1) t x2 W n).2 n t) else flW S X (hr + 1) t x2 W n := rfl
      generalize flW S X (hr + 1) t x2 W n = p at *
      have ie := i1.2.2.1 n (by omega)
      unfold eyeOK at ie
      have st1 := hsta.tr hset1.sta
      have e1 : m1 305 1 = S 1 := st1.1 1 (by omega) (by omega) (by omega)
      have e2 : m1 305 2 = hr + 1 := hset1.1
      have e4 : m1 305 4 = S 4 := st1.1 4 (by omega) (by omega) (by omega)
      have e33 : m1 305 3 = m 305 3 := by rw [st1.1 3 (by omega) (by omega) (by omega), hst.1 3 (by omega) (by omega) (by omega)]
      have e8 : m1 308 = X := by rw [hf 308 (by omega) (by omega) (by omega) (by omega)]; exact hX
      have g0 := hset1.2.1 n (by omega) 0 (by omega)
      have g1 : m1 305 (20 + 8 * n + 3) = p.2 n 1 := hset1.2.1 n (by omega) 1 (by omega)
      rw [Nat.add_zero] at g0
      have ks1 : S1 1 = S 1 := hsta.1 1 (by omega) (by omega) (by omega)
      have w1' : WfS C (m1 305) := (hw.keep hk1).setW hset1 (by rw [ks1]; exact i1)
      refine g_X8_touch_49 _ _ _ _ ?_
      rw [e1]
      refine leF (by omega) (c_get (20 + 8 * n + 2) (by omega) (by omega) ?_)
      rw [g0]
      refine eqI (by omega) (fun q5 => ?_) (fun q5 => ?_)
      · have kn : ∀ q, q < 4 → m1 305 (20 + 8 * n + 4 + q) = p.2 n (2 + q) := fun q hq => by
          have := hset1.2.1 n (by omega) (2 + q) (by omega)
          rw [← this]; congr 1; omega
        have ecn : cnt (fun q => m1 305 (20 + 8 * n + 4 + q)) 4 = cmy p.2 n := cnt_cmy kn
        have hcm : 0 ≤ cmy p.2 n ∧ cmy p.2 n ≤ 4 := by have := cnt_bd (fun q => pl (p.2 n 2) (p.2 n 3) (p.2 n 4) (p.2 n 5) q) 4; unfold cmy; omega
        refine c_manyOf n h4 (by omega) (fun q hq => by have := w1'.know (e := n) (by omega) hq; omega) ?_
        rw [e2, ecn]
        refine c_sees w1' (fun t' ht' => by rw [e8]; exact hW t' (by omega)) n t h4 (by omega) ht (by omega) (by omega) hcm (by omega) (fun m3 f3 => ?_)
        rw [e8, e4, g1, nmv_cong st1 (by omega) (by omega)]
        have sm9 := nmv_sm (S := m1 305) w1' (e := n) (by omega) (hr := hr + 1) (sn := p.2 n 1) (mny := cmy p.2 n) (by omega) (by omega) hcm (th := t) (by omega) (who := x2) (by omega)
        rw [nmv_cong st1 (by omega) (by omega)] at sm9
        have w4 := w1'.2.2.2.1
        have s01 := seeF_01 (X := X) (T := S 4) (fun h => hW _ (by omega)) sm9
        have f3' := f3.frD
        have e35 : m3 305 = m1 305 := f3 305 (by omega) (by omega) (by omega)
        refine eqI (by omega) (fun q6 => ?_) (fun q6 => ?_)
        · rw [if_neg (fun z => z.2 q6)] at step
          exact ih (n + 1) _ _ m3 (by omega) (hf.tr f3') (by rw [step, e35]; exact hset1) (by rw [step]; exact h3) (by omega)
        · rw [if_pos ⟨q5, q6⟩] at step
          refine c_learn n h4 (by omega) (S0 := S1) (hr := hr + 1) (W := p.2) (by rw [e35]; exact hset1) (fun S2 hs2 => c_get (20 + 8 * n + 1) (by omega) (by omega) ?_)
          rw [sc_at, show S2 (20 + 8 * n + 1) = S (20 + 8 * n + 1) from ((hsta.tr hs2.sta).2 n (by omega)).2]
          have ch := (w1'.2.2.2.2.2.2.2.2.1 n (by omega)).2
          rw [(st1.2 n (by omega)).2] at ch
          refine eqI (by omega) (fun q7 => ?_) (fun q7 => ?_)
          · refine c_learn n h4 (by omega) (S0 := S1) (hr := hr + 1) (by rw [sc_at]; exact hs2) (fun S3 hs3 => ?_)
            rw [sc_sc]
            rw [if_pos q7] at step
            exact ih (n + 1) _ _ _ (by omega) (hf.tr (f3'.tr FrD.sc)) (by rw [step, sc_at, ← ht]; exact hs3) (by rw [step, h3]) (by omega)
          · rw [if_neg q7] at step
            exact ih (n + 1) _ _ _ (by omega) (hf.tr (f3'.tr FrD.sc)) (by rw [step, sc_at, ← ht]; exact hs2) (by rw [step, h3]) (by omega)
      · rw [if_neg (fun z => q5 z.1)] at step
        exact ih (n + 1) _ _ m1 (by omega) hf (by rw [step]; exact hset1) (by rw [step]; exact h3) (by omega)
  refine loop (S 1).toNat 0 0 0 m2 (by omega) ?_ ?_ rfl rfl
  · rw [q4]
    exact FrD.sc.tr (fun c h _ _ _ => upm_c h)
  · have em : m2 305 = up S1 2 (S1 2 + 1) := by rw [q4, upm_sc, sc_at, sc_at]
    rw [em]
    refine ⟨by rw [up_at, hset.1], fun e he q hq => by rw [up_ne _ _ (by omega)]; exact hset.2.1 e he q hq, fun e he => by rw [up_ne _ _ (by omega), up_ne _ _ (by omega)]; exact ⟨rfl, rfl⟩, fun j hj => by rw [up_ne _ _ (by omega)]⟩
end Deed4
