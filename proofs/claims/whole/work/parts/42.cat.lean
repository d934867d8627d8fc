/-! ===== cat ===== -/
def nx1 (x : Nat) : Nat := (x * 211 + 83) % 30071
def ctF (hr : Int) (n : Nat) : Nat → Nat → Int → (Nat → Nat → Int) → Int × (Nat → Nat → Int)
  | 0, _, c, W => (c, W)
  | k + 1, x, c, W => if x % n = nx1 x % n then ctF hr n k (nx1 (nx1 x)) c W else ctF hr n k (nx1 (nx1 x)) (c + 1) (swW W hr (x % n) (nx1 x % n))
theorem nx1_lt (x : Nat) : nx1 x < 30071 := Nat.mod_lt _ (by decide)
theorem irem_nx {x : Nat} (h : x < 60000) : irem (((x : Nat) : Int) * 211 + 83) 30071 = ((nx1 x : Nat) : Int) := by
  have e : ((x : Nat) : Int) * 211 + 83 = ((x * 211 + 83 : Nat) : Int) := by omega
  rw [e, show (30071 : Int) = ((30071 : Nat) : Int) from rfl, irem_n (by omega) (by omega) (by omega)]
  rfl
theorem ct_ok {C n1 hr : Int} {n : Nat} (hn : 1 ≤ n) (hn8 : n ≤ 8) (hnn : (n : Int) = n1) : ∀ (k x : Nat) (c : Int) (W : Nat → Nat → Int), WfV C n1 hr W → WfV C n1 hr (ctF hr n k x c W).2 := by
  intro k
  induction k with
  | zero => intro x c W h; exact h
  | succ k ih =>
    intro x c W h
    have a1 := Nat.mod_lt x (show n > 0 by omega)
    have a2 := Nat.mod_lt (nx1 x) (show n > 0 by omega)
    rw [ctF]
    split
    · exact ih _ _ _ h
    · rename_i q
      exact ih _ _ _ (h.sw (by omega) (by omega) (by omega) (by omega) q)
section Cat
variable {G : GG} {d : Nat} {m : MM}
theorem P_cat {k : Int → Int → MM → Prop} {x1 x2 : Int} (hx1 : rng x1) (hx2 : rng x2) (h : Rel m m) (hk : ∀ z m', Rel m' m' → k z z m') : PR G d mi_X7_cat mi_X8_cat [some (vr 0), some (vi x1), some (vi x2), none, none, none, none, none] [some (vr 304), some (vi x1), some (vi x2), none, none, none, none, none] m k := by
  have hR := h
  obtain ⟨C, hC, h2, h3', h4, h5, hw, h7, h8, h9, -⟩ := hR
  have w1 := hw.2.1
  obtain ⟨s0, s1, s3, s4, s6, s8, s7, sc', scr, sp⟩ := h4
  have hkk : ∀ z, k z z m := fun z => hk z m h
  have hv := hw.2.2.2.2.2.2.2.2.2.1
  by_cases hall : (0 ≤ x1 ∧ x1 ≤ 9999) ∧ (1 ≤ x2 ∧ x2 ≤ 40) ∧ 1 ≤ m 305 1
  · obtain ⟨ha, hb, hc⟩ := hall
    obtain ⟨n, hn⟩ : ∃ n : Nat, m 305 1 = (n : Int) := ⟨(m 305 1).toNat, by omega⟩
    obtain ⟨b, hbb⟩ : ∃ b : Nat, x2 = (b : Int) := ⟨x2.toNat, by omega⟩
    obtain ⟨a, haa⟩ : ∃ a : Nat, x1 = (a : Int) := ⟨x1.toNat, by omega⟩
    refine g_X7_cat_0 _ _ (ltF (by omega) (ltF (by omega) (ltF (by omega) (ltF (by omega) (leT (by omega) ?_)))))
    refine c1_keep 20 16 sh_20 sh_16 (by omega) sp hw.2.2.2.2.1 scr (fun m1 p1 f1 => ?_)
    have g12 : m1 12 2 = (n : Int) := by rw [f1 12 (by omega)]; omega
    -- the class's loop
    have loopC : ∀ (r q : Nat) (x : Nat) (x3 x4 x5 : Int) (W : Nat → Nat → Int) (m2 : MM) (k' : Int → MM → Prop), q + r = b → x < 60000 → x3 = (x : Int) → x5 = (q : Int) → FrP 16 m1 m2 → Crt m2 16 (m 305 2) W → (∀ m', FrP 16 m1 m' → Crt m' 16 (m 305 2) (ctF (m 305 2) n r x x4 W).2 → k' (ctF (m 305 2) n r x x4 W).1 m') → N G (d + 60) mi_X7_cat 65 [some (vr 0), none, some (vi x2), some (vi x3), some (vi x4), some (vi x5), none, none] [] m2 (RI k') := by
      intro r
      induction r with
      | zero =>
        intro q x x3 x4 x5 W m2 k' hq hx h3 h5 hf hcr hk'
        exact g_X7_cat_65 _ _ _ _ (leT (by omega) (hk' m2 hf hcr))
      | succ r ih =>
        intro q x x3 x4 x5 W m2 k' hq hx h3 h5 hf hcr hk'
        have a1 := Nat.mod_lt x (show n > 0 by omega)
        have a2 := Nat.mod_lt (nx1 x) (show n > 0 by omega)
        have b1 := nx1_lt x
        have b2 := nx1_lt (nx1 x)
        have gg : m2 12 2 = (n : Int) := by rw [hf 12 (by omega) (by omega) (by omega)]; exact g12
        refine g_X7_cat_65 _ _ _ _ (leF (by omega) ⟨by omega, g_X7_drawnAfter_0 _ ?_⟩)
        rw [h3, irem_nx hx]
        refine ⟨by omega, g_X7_drawnAfter_0 _ ?_⟩
        rw [irem_nx (by omega), gg, irem_n (by omega) (by omega) (by omega), irem_n (by omega) (by omega) (by omega)]
        rw [ctF] at hk'
        refine eqI (by omega) (fun e => ?_) (fun e => ?_)
        · rw [if_pos (by omega)] at hk'
          exact ih (q + 1) _ _ _ _ W m2 k' (by omega) (by omega) rfl (by omega) hf hcr hk'
        · rw [if_neg (by omega)] at hk'
          refine c0_exchange 16 sh_16 (x % n) (nx1 x % n) rfl rfl (by omega) (by omega) (fun m3 q3 f3 => ?_)
          exact ih (q + 1) _ _ _ _ _ m3 k' (by omega) (by omega) rfl (by omega) (hf.tr (fun j h1 h2 h3 => f3 j (by omega) (by omega))) (q3 _ _ hcr) hk'
    refine loopC b 0 (a * 6 + 1) _ 0 0 (nowW (m 305)) m1 _ (by omega) (by omega) (by omega) rfl (FrP.rf _ _) (scr.kept (f1 _ (by omega)) (f1 _ (by omega)) (f1 _ (by omega)) (f1 _ (by omega))) (fun m2 f2 hc2 => ?_)
    have f1' : ∀ j, j < 20 ∨ 142 ≤ j → m1 j = m j := fun j hj => f1 j (by omega)
    obtain ⟨g4, g5, g8⟩ := deed_at f1' f2
    -- the reference
    refine g_X8_cat_0 _ _ (c_isIn (by omega) (fun _ => eqF (by omega) (c_isIn (by omega) (fun _ => eqF (by omega) ?_) (fun e => absurd e (by omega)))) (fun e => absurd e (by omega)))
    rw [g5]
    refine eqF (by omega) (c_keep (by rw [g5]; exact hw.2.2.2.2.1) (fun S1 hk1 => ?_))
    rw [g5] at hk1
    have ks : S1 1 = (n : Int) := by rw [hk1.sta.1 1 (by omega) (by omega) (by omega)]; exact hn
    have loopR : ∀ (r q : Nat) (x : Nat) (x3 x4 x5 : Int) (W : Nat → Nat → Int) (S2 : Nat → Int) (k' : Int → MM → Prop), q + r = b → x < 60000 → x3 = (x : Int) → x5 = (q : Int) → SetW S1 S2 (m 305 2) W → (∀ S3, SetW S1 S3 (m 305 2) (ctF (m 305 2) n r x x4 W).2 → k' (ctF (m 305 2) n r x x4 W).1 (sc m2 305 S3)) → N G (d + 60) mi_X8_cat 49 [some (vr 304), none, some (vi x2), some (vi x3), some (vi x4), some (vi x5), none, none] [] (sc m2 305 S2) (RI k') := by
      intro r
      induction r with
      | zero =>
        intro q x x3 x4 x5 W S2 k' hq hx h3 h5 hset hk'
        exact g_X8_cat_49 _ _ _ _ (leT (by omega) (hk' S2 hset))
      | succ r ih =>
        intro q x x3 x4 x5 W S2 k' hq hx h3 h5 hset hk'
        have a1 := Nat.mod_lt x (show n > 0 by omega)
        have a2 := Nat.mod_lt (nx1 x) (show n > 0 by omega)
        have b1 := nx1_lt x
        have b2 := nx1_lt (nx1 x)
        have gg : sc m2 305 S2 305 1 = (n : Int) := by rw [sc_at, hset.2.2.2 1 (by omega)]; exact ks
        refine g_X8_cat_49 _ _ _ _ (leF (by omega) ⟨by omega, by omega, ?_⟩)
        rw [h3, irem_nx hx, irem_nx (by omega), gg, irem_n (by omega) (by omega) (by omega), irem_n (by omega) (by omega) (by omega)]
        rw [ctF] at hk'
        refine eqI (by omega) (fun e => ?_) (fun e => ?_)
        · rw [if_pos (by omega)] at hk'
          exact ih (q + 1) _ _ _ _ W S2 k' (by omega) (by omega) rfl (by omega) hset hk'
        · rw [if_neg (by omega)] at hk'
          refine c_exchange (x % n) (nx1 x % n) rfl (by omega) rfl (by omega) (S0 := S1) (hr := m 305 2) (W := W) (by rw [sc_at]; exact hset) (fun S3 hs3 => ?_)
          rw [sc_sc]
          exact ih (q + 1) _ _ _ _ _ S3 k' (by omega) (by omega) rfl (by omega) hs3 hk'
    refine loopR b 0 (a * 6 + 1) _ 0 0 (nowW (m 305)) S1 _ (by omega) (by omega) (by omega) rfl ((Vw.rf _).set hk1) (fun S3 hs3 => hk _ _ ?_)
    exact h.deed h3' p1 f1' f2 hc2 (ct_ok (by omega) (by omega) hn.symm _ _ _ _ hv) hk1 (by rw [sc_at]; exact hs3) FrD.sc
  · have ref : N G (d + 60) mi_X8_cat 0 [some (vr 304), some (vi x1), some (vi x2), none, none, none, none, none] [] m (RI fun z' m2 => k (-1) z' m2) := by
      refine g_X8_cat_0 _ _ (c_isIn (by omega) (fun _ => eqF (by omega) (c_isIn (by omega) (fun _ => eqF (by omega) (eqT (by omega) (hkk _))) (fun e => eqT (by omega) (hkk _)))) (fun e => eqT (by omega) (hkk _)))
    refine g_X7_cat_0 _ _ (ltI (by omega) (fun _ => ref) (fun _ => ltI (by omega) (fun _ => ref) (fun _ => ltI (by omega) (fun _ => ref) (fun _ => ltI (by omega) (fun _ => ref) (fun _ => leF (by omega) ref)))))
end Cat
