theorem WfS.cong {C : Int} {S S' : Nat → Int} (h : WfS C S) (e : ∀ j, j < 1584 → S' j = S j) : WfS C S' := by
  obtain ⟨h0, h1, h3, h4, h5, h6, h7, h8, h9, h10, h11⟩ := h
  refine ⟨by rw [e 0 (by omega)]; exact h0, by rw [e 1 (by omega)]; exact h1, by rw [e 3 (by omega)]; exact h3, by rw [e 3 (by omega), e 4 (by omega)]; exact h4, by rw [e 5 (by omega)]; exact h5, by rw [e 6 (by omega)]; exact h6, fun j hj => by rw [e _ (by omega)]; exact h7 j hj, fun k hk => by rw [e 6 (by omega), e _ (by omega), e 0 (by omega)]; exact h8 k hk, fun a ha => by rw [e _ (by omega), e _ (by omega)]; exact h9 a ha, ?_, fun k hk => ?_⟩
  · rw [e 1 (by omega), e 2 (by omega)]
    exact h10.cong (fun a ha q hq => e _ (by omega))
  · rw [e 5 (by omega)] at hk
    rw [e (84 + 50 * k) (by omega), e (84 + 50 * k + 1) (by omega), e 1 (by omega)]
    exact ⟨(h11 k hk).1, (h11 k hk).2.cong (fun a ha q hq => e _ (by omega))⟩
theorem Std.cong {m : MM} {c : Nat} {S S' : Nat → Int} (h : Std m c S) (h5 : 0 ≤ S 5 ∧ S 5 ≤ 30) (e : ∀ j, j < 1584 → S' j = S j) : Std m c S' := by
  obtain ⟨s0, s1, s3, s4, s6, s8, s7, s9, sr, sp⟩ := h
  have es : ∀ q, q < 4 → shw S' q = shw S q := fun q hq => by unfold shw; rw [e 6 (by omega), e (16 + q) (by omega)]
  refine ⟨by rw [e 0 (by omega)]; exact s0, by rw [e 1 (by omega)]; exact s1, by rw [e 3 (by omega)]; exact s3, by rw [e 4 (by omega)]; exact s4, by rw [e 6 (by omega)]; exact s6, by rw [es 0 (by omega), es 1 (by omega), es 2 (by omega), es 3 (by omega)]; exact s8, fun j hj => by rw [e _ (by omega)]; exact s7 j hj, fun a ha => by rw [e _ (by omega), e _ (by omega)]; exact s9 a ha, by rw [e 2 (by omega)]; exact sr.cong (fun a ha q hq => e _ (by omega)), ?_⟩
  obtain ⟨p1, nx, p2, p3, p4⟩ := sp
  refine ⟨by rw [e 5 (by omega)]; exact p1, nx, p2, p3, fun k hk r hr => ?_⟩
  rw [e 5 (by omega)] at hk hr
  rw [e _ (by omega)]
  exact (p4 k hk r hr).cong (fun a ha q hq => e _ (by omega))
section Image
variable {G : GG} {d : Nat} {m : MM}
theorem c1_copyFrom {k : MM → Prop} (p0 p1 : Nat) (h0 : SH p0 = .inr 1) (h1 : SH p1 = .inr 1) (ha : p0 + 122 ≤ p1 ∨ p1 + 122 ≤ p0) (h : ∀ m', (∀ S, 0 ≤ S 5 ∧ S 5 ≤ 30 → Pst m p1 S → Pst m' p0 S) → (∀ j, j < p0 ∨ p0 + 122 ≤ j → m' j = m j) → k m') : N G (d + 2) mi_X1_copyFrom 0 [some (vr p0), some (vr p1), none] [] m (RV k) := by
  have loop : ∀ (n i : Nat) (x2 : Int) (m' : MM), i + n = 30 → x2 = (i : Int) → (∀ r, r < i → ∀ hr W, Crt m (p1 + 2 + 4 * r) hr W → Crt m' (p0 + 2 + 4 * r) hr W) → (∀ j, j < p0 + 2 ∨ p0 + 2 + 4 * i ≤ j → m' j = m j) → N G (d + 2) mi_X1_copyFrom 2 [some (vr p0), some (vr p1), some (vi x2)] [] m' (RV k) := by
    intro n
    induction n with
    | zero =>
      intro i x2 m' hi hx a b
      have : i = 30 := by omega
      subst this
      refine g_X1_copyFrom_2 _ h0 _ h1 _ (leT (by omega) (fun m1 e1 m2 e2 => ?_))
      have f : ∀ j, j ≠ p0 → m2 j = m' j := fun j hj => by rw [e2, upm_c hj, e1, upm_c hj]
      refine h m2 (fun S h5 hP => ?_) (fun j hj => by rw [f j (by omega), b j (by omega)])
      obtain ⟨g1, nx, g2, g3, g4⟩ := hP
      have e21 : m2 p0 1 = m p1 1 := by rw [e2, e1]; simp [upm]; rw [b p1 (by omega)]
      have e22 : m2 p0 2 = m p1 2 := by
        rw [e2, e1]
        have hne : p1 ≠ p0 := by omega
        simp [upm, hne]
        rw [b p1 (by omega)]
      refine ⟨by rw [e22]; exact g1, nx, g2, by rw [e21]; exact g3, fun q hq r hr => ?_⟩
      have hr30 : r < 30 := by omega
      exact (a r hr30 _ _ (g4 q hq r hr)).kept (f _ (by omega)) (f _ (by omega)) (f _ (by omega)) (f _ (by omega))
    | succ n ih =>
      intro i x2 m' hi hx a b
      refine g_X1_copyFrom_2 _ h0 _ h1 _ (leF (by omega) ⟨i, by omega, i, by omega, ?_⟩)
      refine c0_copyFrom _ _ (pa_c h0 (by omega)) (pa_c h1 (by omega)) (by omega) (fun m6 a6 b6 => ?_)
      refine ih (i + 1) _ m6 (by omega) (by omega) (fun r hr hr' W hc => ?_) (fun j hj => by rw [b6 j (by omega), b j (by omega)])
      by_cases hri : r = i
      · subst hri
        exact a6 _ _ (hc.kept (b _ (by omega)) (b _ (by omega)) (b _ (by omega)) (b _ (by omega)))
      · exact (a r (by omega) _ _ hc).kept (b6 _ (by omega)) (b6 _ (by omega)) (b6 _ (by omega)) (b6 _ (by omega))
  exact g_X1_copyFrom_0 _ h0 _ h1 (loop 30 0 _ m rfl rfl (fun r hr => absurd hr (by omega)) (fun _ _ => rfl))
theorem c6_copyFrom {k : MM → Prop} (c0 c1 : Nat) (h0 : SH c0 = .inr 6) (h1 : SH c1 = .inr 6) (ha : c0 + 130 ≤ c1 ∨ c1 + 130 ≤ c0) (h : ∀ m', (∀ S, 0 ≤ S 5 ∧ S 5 ≤ 30 → Std m c1 S → Std m' c0 S) → (∀ j, j < c0 ∨ c0 + 130 ≤ j → m' j = m j) → k m') : N G (d + 3) mi_X6_copyFrom 0 [some (vr c0), some (vr c1)] [] m (RV k) := by
  refine g_X6_copyFrom_0 _ h0 _ h1 (fun m1 e1 m2 e2 m3 e3 m4 e4 m5 e5 m6 e6 m7 e7 m8 e8 m9 e9 => ?_)
  have hne : c1 ≠ c0 := by omega
  have f1 : ∀ j, j ≠ c0 → m1 j = m j := fun j hj => by rw [e1, upm_c hj]
  have f2 : ∀ j, j ≠ c0 → j ≠ c0 + 1 → m2 j = m j := fun j hj h => by rw [e2, cpm_c h, f1 j hj]
  have f3 : ∀ j, j ≠ c0 → j ≠ c0 + 1 → m3 j = m j := fun j hj h => by rw [e3, upm_c hj, f2 j hj h]
  have f4 : ∀ j, j ≠ c0 → j ≠ c0 + 1 → j ≠ c0 + 2 → m4 j = m j := fun j hj h h2 => by rw [e4, cpm_c h2, f3 j hj h]
  have f5 : ∀ j, j ≠ c0 → j ≠ c0 + 1 → j ≠ c0 + 2 → j ≠ c0 + 3 → m5 j = m j := fun j hj h h2 h3 => by rw [e5, cpm_c h3, f4 j hj h h2]
  have f9 : ∀ j, j ≠ c0 → m9 j = m5 j := fun j hj => by rw [e9, upm_c hj, e8, upm_c hj, e7, upm_c hj, e6, upm_c hj]
  have f95 : ∀ j, (j < c0 ∨ c0 + 4 ≤ j) → m9 j = m j := fun j hj => by rw [f9 j (by omega), f5 j (by omega) (by omega) (by omega) (by omega)]
  refine c0_copyFrom _ _ (kn6_4 h0) (kn6_4 h1) (by omega) (fun m11 a11 b11 => ?_)
  refine c1_copyFrom _ _ (kn6_8 h0) (kn6_8 h1) (by omega) (fun m13 a13 b13 => ?_)
  refine h m13 (fun S h5 hS => ?_) (fun j hj => by rw [b13 j (by omega), b11 j (by omega), f95 j (by omega)])
  obtain ⟨s0, s1, s3, s4, s6, s8, s7, s9, sr, sp⟩ := hS
  have low : ∀ j, j < c0 + 4 → m13 j = m9 j := fun j hj => by rw [b13 j (by omega), b11 j (by omega)]
  have q5 : m5 c1 = m c1 := f5 c1 hne (by omega) (by omega) (by omega)
  refine ⟨?_, ?_, ?_, ?_, ?_, ?_, fun j hj => ?_, fun e he => ⟨?_, ?_⟩, ?_, ?_⟩
  · rw [low c0 (by omega), e9, e8, e7, e6]
    simp [upm]
    rw [e5, cpm_c (by omega), e4, cpm_c (by omega), e3]
    simp [upm]
    rw [e2, cpm_c (by omega), e1]
    simp [upm]
    exact s0
  · rw [low c0 (by omega), e9, e8, e7, e6]
    simp [upm]
    rw [e5, cpm_c (by omega), e4, cpm_c (by omega), e3]
    simp [upm]
    rw [f2 c1 hne (by omega)]
    exact s1
  · rw [low c0 (by omega), e9, e8, e7, e6]
    simp [upm]
    rw [q5]
    exact s3
  · rw [low c0 (by omega), e9, e8, e7, e6]
    simp [upm, hne]
    rw [q5]
    exact s4
  · rw [low c0 (by omega), e9, e8, e7, e6]
    simp [upm, hne]
    rw [q5]
    exact s6
  · rw [low c0 (by omega), e9, e8, e7, e6]
    simp [upm, hne]
    rw [q5]
    exact s8
  · rw [low _ (by omega), f9 _ (by omega), e5, cpm_c (by omega), e4, cpm_c (by omega), e3, upm_c (by omega), e2]
    have : cpm m1 (c1 + 1) 0 (c0 + 1) 0 8 (c0 + 1) j = m1 (c1 + 1) j := by simp [cpm, hj]
    rw [this, f1 _ (by omega)]
    exact s7 j hj
  · rw [low _ (by omega), f9 _ (by omega), e5, cpm_c (by omega), e4]
    have : cpm m3 (c1 + 2) 0 (c0 + 2) 0 8 (c0 + 2) e = m3 (c1 + 2) e := by simp [cpm, he]
    rw [this, f3 _ (by omega) (by omega)]
    exact (s9 e he).1
  · rw [low _ (by omega), f9 _ (by omega), e5]
    have : cpm m4 (c1 + 3) 0 (c0 + 3) 0 8 (c0 + 3) e = m4 (c1 + 3) e := by simp [cpm, he]
    rw [this, f4 _ (by omega) (by omega) (by omega)]
    exact (s9 e he).2
  · have hc := a11 _ _ (sr.kept (f95 _ (by omega)) (f95 _ (by omega)) (f95 _ (by omega)) (f95 _ (by omega)))
    exact hc.kept (b13 _ (by omega)) (b13 _ (by omega)) (b13 _ (by omega)) (b13 _ (by omega))
  · exact a13 S h5 (sp.kept (fun j h1 h2 => by rw [b11 j (by omega), f95 j (by omega)]))
theorem P_image {k : Int → Int → MM → Prop} (h : Rel m m) (hk : ∀ z m', Rel m' m' → k z z m') : PR G d mi_X7_image mi_X8_image [some (vr 0)] [some (vr 304)] m k := by
  obtain ⟨C, h1, h2, h3', h4, h5, h6, h7, h8, h9, h10, h11, h12, h13, h14, h15⟩ := h
  refine g_X7_image_0 (c6_copyFrom 142 12 sh_142 sh_12 (by omega) (fun m1 a1 b1 => ?_))
  have w5 := h6.2.2.2.2.1
  have g5 : m1 305 = m 305 := b1 305 (by omega)
  have hh : m1 16 0 = m 305 2 := by rw [b1 16 (by omega)]; exact h4.2.2.2.2.2.2.2.2.1.1
  rw [hh]
  refine g_X8_image_0 (c_copy 305 306 sh_305 sh_306 (by omega) ?_)
  have e5 : ∀ f, sc m1 306 f 305 = m 305 := fun f => by rw [sc_ne _ _ (by omega), g5]
  rw [e5]
  have e6 : ∀ j, j < 1584 → (sc m1 306 (fun j => if j < 1584 then m1 305 j else m1 306 j)) 306 j = m 305 j := fun j hj => by rw [sc_at, if_pos hj, g5]
  have oth : ∀ c, c < 142 ∨ 272 ≤ c → c ≠ 306 → (sc m1 306 (fun j => if j < 1584 then m1 305 j else m1 306 j)) c = m c := fun c hc hc2 => by rw [sc_ne _ _ hc2, b1 c (by omega)]
  refine hk _ _ ⟨C, h1, by rw [oth 0 (by omega) (by omega)]; exact h2, by rw [oth 304 (by omega) (by omega)]; exact h3', ?_, ?_, by rw [e5]; exact h6, h6.cong e6, by rw [e6 3 (by omega), e5]; omega, fun t ht => ?_, by rw [oth 0 (by omega) (by omega), oth 304 (by omega) (by omega)]; exact h10, by rw [oth 304 (by omega) (by omega)]; exact h11, fun j hj => ?_, by rw [oth 2 (by omega) (by omega), oth 304 (by omega) (by omega)]; exact h13, by rw [oth 2 (by omega) (by omega), oth 304 (by omega) (by omega)]; exact h14, by rw [oth 304 (by omega) (by omega)]; exact h15⟩
  · rw [e5]
    exact h4.kept (fun j _ _ => oth j (by omega) (by omega))
  · refine Std.cong ?_ w5 e6
    exact (a1 _ w5 h4).kept (fun j _ _ => sc_ne _ _ (by omega))
  · rw [e5] at ht
    have w3 := h6.2.2.1
    rw [oth 308 (by omega) (by omega)]
    exact ⟨(h9 t ht).1.kept (fun j _ _ => oth j (by omega) (by omega)), (h9 t ht).2⟩
  · rw [oth 304 (by omega) (by omega)] at hj
    rw [oth 309 (by omega) (by omega), oth 1 (by omega) (by omega)]
    exact h12 j hj
theorem P_back {k : Int → Int → MM → Prop} (h : Rel m m) (hk : ∀ z m', Rel m' m' → k z z m') : PR G d mi_X7_back mi_X8_back [some (vr 0)] [some (vr 304)] m k := by
  obtain ⟨C, h1, h2, h3', h4, h5, h6, h7, h8, h9, h10, h11, h12, h13, h14, h15⟩ := h
  refine g_X7_back_0 (c6_copyFrom 12 142 sh_12 sh_142 (by omega) (fun m1 a1 b1 => ?_))
  have w5 := h7.2.2.2.2.1
  have g6 : m1 306 = m 306 := b1 306 (by omega)
  have hstd := a1 _ w5 h5
  have hh : m1 16 0 = m 306 2 := hstd.2.2.2.2.2.2.2.2.1.1
  rw [hh]
  refine g_X8_back_0 (c_copy 306 305 sh_306 sh_305 (by omega) ?_)
  have e6 : ∀ f, sc m1 305 f 306 = m 306 := fun f => by rw [sc_ne _ _ (by omega), g6]
  have e5 : ∀ j, j < 1584 → (sc m1 305 (fun j => if j < 1584 then m1 306 j else m1 305 j)) 305 j = m 306 j := fun j hj => by rw [sc_at, if_pos hj, g6]
  rw [e5 2 (by omega)]
  have oth : ∀ c, c < 12 ∨ 142 ≤ c → c ≠ 305 → (sc m1 305 (fun j => if j < 1584 then m1 306 j else m1 305 j)) c = m c := fun c hc hc2 => by rw [sc_ne _ _ hc2, b1 c (by omega)]
  refine hk _ _ ⟨C, h1, by rw [oth 0 (by omega) (by omega)]; exact h2, by rw [oth 304 (by omega) (by omega)]; exact h3', ?_, ?_, h7.cong e5, by rw [e6]; exact h7, by rw [e5 3 (by omega), e6]; omega, fun t ht => ?_, by rw [oth 0 (by omega) (by omega), oth 304 (by omega) (by omega)]; exact h10, by rw [oth 304 (by omega) (by omega)]; exact h11, fun j hj => ?_, by rw [oth 2 (by omega) (by omega), oth 304 (by omega) (by omega)]; exact h13, by rw [oth 2 (by omega) (by omega), oth 304 (by omega) (by omega)]; exact h14, by rw [oth 304 (by omega) (by omega)]; exact h15⟩
  · refine Std.cong ?_ w5 e5
    exact hstd.kept (fun j _ _ => sc_ne _ _ (by omega))
  · rw [e6]
    exact h5.kept (fun j _ _ => oth j (by omega) (by omega))
  · rw [e5 3 (by omega)] at ht
    have w3 := h6.2.2.1
    rw [oth 308 (by omega) (by omega)]
    have ht2 : (t : Int) < m 305 3 := by omega
    exact ⟨(h9 t ht2).1.kept (fun j _ _ => oth j (by omega) (by omega)), (h9 t ht2).2⟩
  · rw [oth 304 (by omega) (by omega)] at hj
    rw [oth 309 (by omega) (by omega), oth 1 (by omega) (by omega)]
    exact h12 j hj
end Image
