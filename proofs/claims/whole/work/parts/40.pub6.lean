/-! ===== touch, put, swap, polish, played, cat, of ===== -/
/-- a deed done by both -/
theorem Rel.deed {m m1 m2 m3 : MM} {S1 : Nat → Int} {C hr' : Int} {W' : Nat → Nat → Int} (h : Rel m m) (hC3 : m 304 3 = C) (hk1 : ∀ S', KeepOf (m 305) S' → Pst m1 20 S') (f1 : ∀ j, j < 20 ∨ 142 ≤ j → m1 j = m j) (f2 : FrP 16 m1 m2) (hC : Crt m2 16 hr' W') (hv : WfV C (m 305 1) hr' W') (hk : KeepOf (m 305) S1) (hs : SetW S1 (m3 305) hr' W') (f3 : FrD m2 m3) : Rel m3 m3 := by
  have hR := h
  obtain ⟨C', hC', h2, h3', h4, h5, h6, -⟩ := h
  obtain ⟨s0, s1, s3, s4, s6, s8, s7, sc', scr, sp⟩ := h4
  have sta := hk.sta.tr hs.sta
  have g12 : m2 12 = m 12 := (f2 12 (by omega) (by omega) (by omega)).trans (f1 12 (by omega))
  have g13 : m2 13 = m 13 := (f2 13 (by omega) (by omega) (by omega)).trans (f1 13 (by omega))
  have g14 : m2 14 = m 14 := (f2 14 (by omega) (by omega) (by omega)).trans (f1 14 (by omega))
  have g15 : m2 15 = m 15 := (f2 15 (by omega) (by omega) (by omega)).trans (f1 15 (by omega))
  have e0 := sta.1 0 (by omega) (by omega) (by omega)
  have e1 := sta.1 1 (by omega) (by omega) (by omega)
  have e3 := sta.1 3 (by omega) (by omega) (by omega)
  have e4 := sta.1 4 (by omega) (by omega) (by omega)
  have e6 := sta.1 6 (by omega) (by omega) (by omega)
  refine hR.step (m1 := m2) (fun c hc => (f2 c (by omega) (by omega) (by omega)).trans (f1 c (by omega))) f3.frR ?_ (fun C2 _ _ hC2 hw => ?_) e3
  · refine ⟨by rw [g12, e0]; exact s0, by rw [g12, e1]; exact s1, by rw [g12, e3]; exact s3, by rw [g12, e4]; exact s4, by rw [g12, e6]; exact s6, ?_, fun j hj => by rw [g13, sta.1 _ (by omega) (by omega) (by omega)]; exact s7 j hj, fun e he => by rw [g14, g15, (sta.2 e he).1, (sta.2 e he).2]; exact sc' e he, ?_, ?_⟩
    · have es : ∀ q, q < 4 → shw (m3 305) q = shw (m 305) q := fun q hq => by
        unfold shw
        rw [e6, sta.1 (16 + q) (by omega) (by omega) (by omega)]
      rw [g12, es 0 (by omega), es 1 (by omega), es 2 (by omega), es 3 (by omega)]
      exact s8
    · rw [hs.1]
      exact hC.cong (fun a ha q hq => hs.2.1 a ha q hq)
    · have p1 := hk1 S1 hk
      have p2 : Pst m2 20 S1 := p1.kept (fun c h1 h2 => f2 c (by omega) (by omega) (by omega))
      exact p2.hi (fun j hj => hs.2.2.2 j (by omega)) (hs.2.2.2 5 (by omega))
  · have e : C2 = C := hC2.symm.trans hC3
    subst e
    refine (hw.keep hk).setW hs ?_
    rw [hk.sta.1 1 (by omega) (by omega) (by omega)]
    exact hv
theorem Rel.asks {m : MM} (h : Rel m m) : Asks m (m 305) (m 308) := by
  obtain ⟨C, hC, h2, h3', h4, h5, h6, h7, h8, h9, -⟩ := h
  exact ⟨h4.2.2.1, h4.2.2.2.1, h4.2.2.2.2.2.2.1, h4.2.2.2.2.2.2.2.1, h9⟩
section Pub6
variable {G : GG} {d : Nat} {m : MM}
theorem c7_byHand {k : Int → MM → Prop} {C x1 x2 x3 : Int} (h : Rel m m) (e3 : m 304 3 = C) (hdd : x1 = 2 ∨ x1 = 3 ∨ x1 = 5 ∨ x1 = 6) (hx2 : rng x2) (hx3 : rng x3) (hn : dF (m 305) (m 308) C (m 305 2) (nowW (m 305)) x1 x2 x3 = none → k (-1) m)
    (hs : ∀ a hr' W', dF (m 305) (m 308) C (m 305 2) (nowW (m 305)) x1 x2 x3 = some (a, hr', W') → ∀ m1 m2, (∀ S', KeepOf (m 305) S' → Pst m1 20 S') → (∀ j, j < 20 ∨ 142 ≤ j → m1 j = m j) → FrP 16 m1 m2 → Crt m2 16 hr' W' → k a m2) : N G (d + 5) mi_X7_byHand 0 [some (vr 0), some (vi x1), some (vi x2), some (vi x3)] [] m (RI k) := by
  have hask := h.asks
  obtain ⟨C', hC', h2, h3', h4, hw, -, -⟩ := h.now
  have e : C' = C := h3'.symm.trans e3
  subst e
  have w0 := hw.1
  have w1 := hw.2.1
  have w3 := hw.2.2.1
  have hv := hw.2.2.2.2.2.2.2.2.2.1
  have hcr : Crt m 16 (m 305 2) (nowW (m 305)) := h4.2.2.2.2.2.2.2.2.1
  have hps : Pst m 20 (m 305) := h4.2.2.2.2.2.2.2.2.2
  refine g_X7_byHand_0 _ _ _ (c7_canBe (S := m 305) (X := m 308) 16 sh_16 hcr hv w0 w1 hC' h2 h4.1 h4.2.1 hx2 hx3 hdd (fun q => eqT (by omega) (hn q)) (fun r q => eqF (by omega) ?_))
  obtain ⟨a, hr', W'⟩ := r
  refine c1_keep 20 16 sh_20 sh_16 (by omega) hps hw.2.2.2.2.1 hcr (fun m1 p1 f1 => ?_)
  have hcr1 : Crt m1 16 (m 305 2) (nowW (m 305)) := hcr.kept (f1 _ (by omega)) (f1 _ (by omega)) (f1 _ (by omega)) (f1 _ (by omega))
  have hask1 : Asks m1 (m 305) (m 308) := hask.fr (fun c hc => f1 c (by omega)) (by omega)
  refine c7_perform (S := m 305) (X := m 308) 16 sh_16 (by omega) hw hC' hask1 (by rw [f1 12 (by omega)]; exact h4.2.1) hcr1 hv hdd q (fun m2 f2 hc2 => ?_)
  exact hs a hr' W' q m1 m2 p1 (fun j hj => f1 j (by omega)) f2 hc2
/-- the reference right behind the class's deed: its cells are still the old ones -/
theorem deed_at {m m1 m2 : MM} (f1 : ∀ j, j < 20 ∨ 142 ≤ j → m1 j = m j) (f2 : FrP 16 m1 m2) : m2 304 = m 304 ∧ m2 305 = m 305 ∧ m2 308 = m 308 := by
  refine ⟨?_, ?_, ?_⟩
  · rw [f2 304 (by omega) (by omega) (by omega), f1 304 (by omega)]
  · rw [f2 305 (by omega) (by omega) (by omega), f1 305 (by omega)]
  · rw [f2 308 (by omega) (by omega) (by omega), f1 308 (by omega)]
theorem Vw.rf (S : Nat → Int) : Vw S (S 2) (nowW S) := ⟨rfl, fun _ _ _ _ => rfl⟩
theorem P_touch {k : Int → Int → MM → Prop} {x1 x2 : Int} (hx1 : rng x1) (hx2 : rng x2) (h : Rel m m) (hk : ∀ z m', Rel m' m' → k z z m') : PR G d mi_X7_touch mi_X8_touch [some (vr 0), some (vi x1), some (vi x2)] [some (vr 304), some (vi x1), some (vi x2), none, none] m k := by
  have hR := h
  obtain ⟨C, hC, h2, h3', h4, h5, h6, h7, h8, h9, -⟩ := hR
  refine g_X7_touch_0 _ _ (c7_byHand h h3' (by omega) hx1 hx2 (fun q => ?_) (fun a hr' W' q m1 m2 p1 f1 f2 hc2 => ?_))
  · refine c_touch (S := m 305) (X := m 308) (Sta.rf _) (Vw.rf _) h6 rfl (fun t ht => (h9 t ht).2) h3' hC hx1 hx2 (fun _ => hk _ _ h) (fun a hr' W' q2 => ?_)
    rw [q] at q2; cases q2
  · obtain ⟨g4, g5, g8⟩ := deed_at f1 f2
    refine c_touch (S := m 305) (X := m 308) (hr := m 305 2) (W := nowW (m 305)) (by rw [g5]; exact Sta.rf _) (by rw [g5]; exact Vw.rf _) (by rw [g5]; exact h6) g8 (fun t ht => (h9 t (by rw [g5] at ht; exact ht)).2) (by rw [g4]; exact h3') hC hx1 hx2 (fun q2 => ?_) (fun a2 hr2 W2 q2 S1 m3 k1 s1 f3 => ?_)
    · rw [q] at q2; cases q2
    · rw [q] at q2
      injection q2 with q2
      injection q2 with e1 q2
      injection q2 with e2 e3
      subst e1 e2 e3
      have ok := dF_ok hC.1 h6.1 h6.2.1 h6.2.2.2.2.2.2.2.2.2.1 q
      exact hk _ _ (h.deed h3' p1 f1 f2 hc2 ok.1 (by rw [← g5]; exact k1) s1 f3)
end Pub6
