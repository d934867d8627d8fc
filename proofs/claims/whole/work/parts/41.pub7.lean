section Pub7
variable {G : GG} {d : Nat} {m : MM}
theorem P_put {k : Int → Int → MM → Prop} {x1 x2 : Int} (hx1 : rng x1) (hx2 : rng x2) (h : Rel m m) (hk : ∀ z m', Rel m' m' → k z z m') : PR G d mi_X7_put mi_X8_put [some (vr 0), some (vi x1), some (vi x2)] [some (vr 304), some (vi x1), some (vi x2)] m k := by
  have hR := h
  obtain ⟨C, hC, h2, h3', h4, h5, h6, h7, h8, h9, -⟩ := hR
  refine g_X7_put_0 _ _ (c7_byHand h h3' (by omega) hx1 hx2 (fun q => ?_) (fun a hr' W' q m1 m2 p1 f1 f2 hc2 => ?_))
  · refine eqT (by omega) (c_put (S := m 305) (X := m 308) (Sta.rf _) (Vw.rf _) h6 h3' hC hx1 hx2 (fun _ => hk _ _ h) (fun a hr' W' q2 => ?_))
    rw [q] at q2; cases q2
  · obtain ⟨g4, g5, g8⟩ := deed_at f1 f2
    have ok := dF_ok hC.1 h6.1 h6.2.1 h6.2.2.2.2.2.2.2.2.2.1 q
    refine eqF (by omega) (c_put (S := m 305) (X := m 308) (hr := m 305 2) (W := nowW (m 305)) (by rw [g5]; exact Sta.rf _) (by rw [g5]; exact Vw.rf _) (by rw [g5]; exact h6) (by rw [g4]; exact h3') hC hx1 hx2 (fun q2 => ?_) (fun a2 hr2 W2 q2 S1 m3 k1 s1 f3 => ?_))
    · rw [q] at q2; cases q2
    · rw [q] at q2
      injection q2 with q2
      injection q2 with e1 q2
      injection q2 with e2 e3
      subst e1 e2 e3
      exact hk _ _ (h.deed h3' p1 f1 f2 hc2 ok.1 (by rw [← g5]; exact k1) s1 f3)
theorem P_swap {k : Int → Int → MM → Prop} {x1 x2 : Int} (hx1 : rng x1) (hx2 : rng x2) (h : Rel m m) (hk : ∀ z m', Rel m' m' → k z z m') : PR G d mi_X7_swap mi_X8_swap [some (vr 0), some (vi x1), some (vi x2)] [some (vr 304), some (vi x1), some (vi x2)] m k := by
  have hR := h
  obtain ⟨C, hC, h2, h3', h4, h5, h6, h7, h8, h9, -⟩ := hR
  refine g_X7_swap_0 _ _ (c7_byHand h h3' (by omega) hx1 hx2 (fun q => ?_) (fun a hr' W' q m1 m2 p1 f1 f2 hc2 => ?_))
  · refine eqT (by omega) (c_swap (S := m 305) (X := m 308) (C := C) (Sta.rf _) (Vw.rf _) h6 hx1 hx2 (fun _ => hk _ _ h) (fun a hr' W' q2 => ?_))
    rw [q] at q2; cases q2
  · obtain ⟨g4, g5, g8⟩ := deed_at f1 f2
    have ok := dF_ok hC.1 h6.1 h6.2.1 h6.2.2.2.2.2.2.2.2.2.1 q
    refine eqF (by omega) (c_swap (S := m 305) (X := m 308) (C := C) (hr := m 305 2) (W := nowW (m 305)) (by rw [g5]; exact Sta.rf _) (by rw [g5]; exact Vw.rf _) (by rw [g5]; exact h6) hx1 hx2 (fun q2 => ?_) (fun a2 hr2 W2 q2 S1 m3 k1 s1 f3 => ?_))
    · rw [q] at q2; cases q2
    · rw [q] at q2
      injection q2 with q2
      injection q2 with e1 q2
      injection q2 with e2 e3
      subst e1 e2 e3
      exact hk _ _ (h.deed h3' p1 f1 f2 hc2 ok.1 (by rw [← g5]; exact k1) s1 f3)
theorem P_polish {k : Int → Int → MM → Prop} {x1 : Int} (hx1 : rng x1) (h : Rel m m) (hk : ∀ z m', Rel m' m' → k z z m') : PR G d mi_X7_polish mi_X8_polish [some (vr 0), some (vi x1)] [some (vr 304), some (vi x1), none, none] m k := by
  have hR := h
  obtain ⟨C, hC, h2, h3', h4, h5, h6, h7, h8, h9, -⟩ := hR
  refine g_X7_polish_0 _ (c7_byHand h h3' (by omega) hx1 (by omega) (fun q => ?_) (fun a hr' W' q m1 m2 p1 f1 f2 hc2 => ?_))
  · refine c_polish (S := m 305) (X := m 308) (C := C) (x2 := -1) (Sta.rf _) (Vw.rf _) h6 hx1 (fun _ => hk _ _ h) (fun a hr' W' q2 => ?_)
    rw [q] at q2; cases q2
  · obtain ⟨g4, g5, g8⟩ := deed_at f1 f2
    have ok := dF_ok hC.1 h6.1 h6.2.1 h6.2.2.2.2.2.2.2.2.2.1 q
    refine c_polish (S := m 305) (X := m 308) (C := C) (x2 := -1) (hr := m 305 2) (W := nowW (m 305)) (by rw [g5]; exact Sta.rf _) (by rw [g5]; exact Vw.rf _) (by rw [g5]; exact h6) hx1 (fun q2 => ?_) (fun a2 hr2 W2 q2 S1 m3 k1 s1 f3 => ?_)
    · rw [q] at q2; cases q2
    · rw [q] at q2
      injection q2 with q2
      injection q2 with e1 q2
      injection q2 with e2 e3
      subst e1 e2 e3
      exact hk _ _ (h.deed h3' p1 f1 f2 hc2 ok.1 (by rw [← g5]; exact k1) s1 f3)
/-- only reckoning rows changed: the relation stays -/
theorem Rel.asked {m m1 m2 : MM} (h : Rel m m) (f1 : FrM m m1) (f2 : FrL m1 m2) : Rel m2 m2 := by
  have hR := h
  obtain ⟨C, hC, h2, h3', h4, -⟩ := hR
  have g5 : m2 305 = m 305 := (f2 305 (by omega) (by omega) (by omega)).trans (f1 305 (by omega) (by omega))
  refine h.step (m1 := m1) (fun c hc => f1 c (by omega) (by omega)) f2.frD.frR ?_ (fun C _ _ _ hw => by rw [g5]; exact hw) (by rw [g5])
  rw [g5]
  exact h4.kept (fun j h1 h2 => f1 j (by omega) (by omega))
theorem P_of {k : Int → Int → MM → Prop} {x1 x2 : Int} (hx1 : rng x1) (hx2 : rng x2) (h : Rel m m) (hk : ∀ z m', Rel m' m' → k z z m') : PR G d mi_X7_of mi_X8_of [some (vr 0), some (vi x1), some (vi x2)] [some (vr 304), some (vi x1), some (vi x2)] m k := by
  have hR := h
  have hask := h.asks
  obtain ⟨C, hC, h2, h3', h4, h5, hw, h7, h8, h9, -⟩ := hR
  have w1 := hw.2.1
  obtain ⟨s0, s1, s3, s4, s6, s8, s7, sc', scr, sp⟩ := h4
  have hkk : ∀ z, k z z m := fun z => hk z m h
  have no : ∀ z : Int, ¬ (0 ≤ x1 ∧ x1 < m 305 1) ∨ ¬ (0 ≤ x2 ∧ x2 ≤ 8) → z = -2 → N G (d + 60) mi_X8_of 0 [some (vr 304), some (vi x1), some (vi x2)] [] m (RI fun z' m2 => k z z' m2) := by
    intro z hz e
    rw [e]
    refine g_X8_of_0 _ _ (c_isEye (by omega) (fun q => eqF (by omega) (c_isIn (by omega) (fun q2 => absurd hz (by omega)) (fun q2 => eqT (by omega) (hkk _)))) (fun q => eqT (by omega) (hkk _)))
  refine g_X7_of_0 _ _ (c7_isEye (by omega) (fun q => eqF (by omega) ?_) (fun q => eqT (by omega) (no _ (Or.inl (by omega)) rfl)))
  obtain ⟨i, hi⟩ : ∃ i : Nat, x1 = (i : Int) := ⟨x1.toNat, by omega⟩
  have hv := hw.2.2.2.2.2.2.2.2.2.1
  have ie := hv.2.2.1 i (by omega)
  have cr := scr.2 i (by omega)
  have c17 : m 17 i = m 305 (20 + 8 * i + 2) := cr.1
  have c18 : m 18 i = m 305 (20 + 8 * i + 3) := cr.2.1
  have c19 : m 19 i = pkW (nowW (m 305)) i := cr.2.2
  have c14 := (sc' i (by omega)).1
  have c15 := (sc' i (by omega)).2
  -- the reference, where its answer is a number of the eye
  have get : ∀ (z : Int) (j : Nat), ((0 ≤ x2 ∧ x2 < 4 ∧ (j : Int) = 24 + 8 * i + x2) ∨ (x2 = 4 ∧ j = 20 + 8 * i + 2) ∨ (x2 = 5 ∧ j = 20 + 8 * i + 3) ∨ (x2 = 6 ∧ j = 20 + 8 * i) ∨ (x2 = 7 ∧ j = 20 + 8 * i + 1)) → z = m 305 j → N G (d + 60) mi_X8_of 0 [some (vr 304), some (vi x1), some (vi x2)] [] m (RI fun z' m2 => k z z' m2) := by
    intro z j hj e
    rw [e]
    refine g_X8_of_0 _ _ (c_isEye (by omega) (fun _ => eqF (by omega) (c_isIn (by omega) (fun q2 => eqF (by omega) ?_) (fun q2 => absurd q2 (by omega)))) (fun q2 => absurd q2 (by omega)))
    rcases hj with ⟨a1, a2, a3⟩ | ⟨a1, a3⟩ | ⟨a1, a3⟩ | ⟨a1, a3⟩ | ⟨a1, a3⟩
    · exact leF (by omega) (c_get j (by omega) (by omega) (hkk _))
    · exact leT (by omega) (eqF (by omega) (eqT (by omega) (c_get j (by omega) (by omega) (hkk _))))
    · exact leT (by omega) (eqF (by omega) (eqF (by omega) (eqT (by omega) (c_get j (by omega) (by omega) (hkk _)))))
    · exact leT (by omega) (eqF (by omega) (eqF (by omega) (eqF (by omega) (c_get j (by omega) (by omega) (hkk _)))))
    · exact leT (by omega) (eqF (by omega) (eqF (by omega) (eqF (by omega) (c_get j (by omega) (by omega) (hkk _)))))
  have rest : N G (d + 60) mi_X7_of 37 [some (vr 0), some (vi x1), some (vi x2)] [] m (RI fun z m1 => N G (d + 60) mi_X8_of 0 [some (vr 304), some (vi x1), some (vi x2)] [] m1 (RI fun z' m2 => k z z' m2)) ∨ (0 ≤ x2 ∧ x2 < 4) := by
    by_cases hlo : 0 ≤ x2 ∧ x2 < 4
    · exact Or.inr hlo
    · refine Or.inl (g_X7_of_37 _ _ ⟨by omega, fun e => ⟨i, by omega, ?_⟩, fun e => ⟨i, by omega, ?_⟩, fun e => ⟨i, by omega, ?_⟩, fun e => ⟨i, by omega, ?_⟩, fun e => ?_, fun e => no _ (Or.inr (by omega)) rfl⟩)
      · exact get _ (20 + 8 * i + 2) (by omega) c17
      · exact get _ (20 + 8 * i + 3) (by omega) c18
      · exact get _ (20 + 8 * i) (by omega) c14
      · exact get _ (20 + 8 * i + 1) (by omega) c15
      · have hh := hv.1
        have hh2 := hv.2.1
        unfold eyeOK at ie
        refine c7_rubsOf hw hask scr i hi (by omega) ie.2.2.2.2 (by omega) (by omega) (fun m1 f1 => ?_)
        have g5 : m1 305 = m 305 := f1 305 (by omega) (by omega)
        have g8 : m1 308 = m 308 := f1 308 (by omega) (by omega)
        refine g_X8_of_0 _ _ (c_isEye (by rw [g5]; omega) (fun _ => eqF (by omega) (c_isIn (by omega) (fun q2 => eqF (by omega) (leT (by omega) (eqT (by omega) ?_))) (fun q2 => absurd q2 (by omega)))) (fun q2 => absurd q2 (by rw [g5]; omega)))
        refine c_rubsOf (C := C) (by rw [g5]; exact hw) (fun t ht => by rw [g8]; exact (h9 t (by rw [g5] at ht; exact ht)).2) i hi (by omega) (fun m2 f2 => ?_)
        rw [g5, g8]
        have ec : cnt (fun q => m 305 (20 + 8 * i + 4 + q)) 4 = cmy (nowW (m 305)) i := cnt_cmy (fun q hq => by unfold nowW; congr 1; omega)
        rw [ec]
        exact hk _ _ (h.asked f1 f2)
  refine ltI (by omega) (fun q2 => ?_) (fun q2 => leI (by omega) (fun q3 => ?_) (fun q3 => ⟨i, by omega, ?_⟩))
  · exact rest.resolve_right (by omega)
  · exact rest.resolve_right (by omega)
  · obtain ⟨q', hq'⟩ : ∃ q' : Nat, x2 = (q' : Int) := ⟨x2.toNat, by omega⟩
    unfold eyeOK at ie
    refine c0_atPlace c19 ie.2.2.2.2.1 ie.2.2.2.2.2.1 ie.2.2.2.2.2.2.1 ie.2.2.2.2.2.2.2 q' hq' (by omega) (get _ (24 + 8 * i + q') (by omega) ?_)
    have : q' = 0 ∨ q' = 1 ∨ q' = 2 ∨ q' = 3 := by omega
    rcases this with rfl | rfl | rfl | rfl
    · show m 305 (20 + 8 * i + 2 + 2) = _; congr 1; omega
    · show m 305 (20 + 8 * i + 2 + 3) = _; congr 1; omega
    · show m 305 (20 + 8 * i + 2 + 4) = _; congr 1; omega
    · show m 305 (20 + 8 * i + 2 + 5) = _; congr 1; omega
end Pub7
