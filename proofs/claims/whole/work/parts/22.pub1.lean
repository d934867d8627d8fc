/-! ===== frames ===== -/
theorem upm_c {m : MM} {c k a : Nat} {z : Int} (h : a ≠ c) : upm m c k z a = m a := funext (upm_ne h)
def FrC (m m' : MM) : Prop := ∀ c, (c < 12 ∨ (142 ≤ c ∧ c < 272) ∨ 284 ≤ c) → m' c = m c
def FrR (m m' : MM) : Prop := (∀ c, c < 304 → m' c = m c) ∧ m' 306 = m 306 ∧ m' 308 = m 308 ∧ m' 309 = m 309 ∧ m' 304 3 = m 304 3 ∧ m' 304 6 = m 304 6 ∧ m' 304 7 = m 304 7 ∧ m' 304 8 = m 304 8
theorem FrC.rf (m : MM) : FrC m m := fun _ _ => rfl
theorem FrC.tr {a b c : MM} (h : FrC a b) (h2 : FrC b c) : FrC a c := fun j hj => (h2 j hj).trans (h j hj)
theorem FrR.rf (m : MM) : FrR m m := ⟨fun _ _ => rfl, rfl, rfl, rfl, rfl, rfl, rfl, rfl⟩
theorem FrR.tr {a b c : MM} (h : FrR a b) (h2 : FrR b c) : FrR a c := by
  obtain ⟨a1, a2, a3, a4, a5, a6, a7, a8⟩ := h
  obtain ⟨b1, b2, b3, b4, b5, b6, b7, b8⟩ := h2
  exact ⟨fun j hj => (b1 j hj).trans (a1 j hj), b2.trans a2, b3.trans a3, b4.trans a4, b5.trans a5, b6.trans a6, b7.trans a7, b8.trans a8⟩
theorem FrR.sc {m : MM} {f : Nat → Int} : FrR m (sc m 305 f) := ⟨fun c hc => sc_ne _ _ (by omega), sc_ne _ _ (by omega), sc_ne _ _ (by omega), sc_ne _ _ (by omega), by rw [sc_ne _ _ (by omega)], by rw [sc_ne _ _ (by omega)], by rw [sc_ne _ _ (by omega)], by rw [sc_ne _ _ (by omega)]⟩
theorem Rel.step {m m1 m2 : MM} (h : Rel m m) (f1 : FrC m m1) (f2 : FrR m1 m2) (hstd : Std m1 12 (m2 305)) (hwf : ∀ C, 1 ≤ C → C ≤ 6 → m 304 3 = C → WfS C (m 305) → WfS C (m2 305)) (h3 : m2 305 3 = m 305 3) : Rel m2 m2 := by
  obtain ⟨C, h1, h2, h3', h4, h5, h6, h7, h8, h9, h10, h11, h12, h13, h14, h15⟩ := h
  obtain ⟨b1, b2, b3, b4, b5, b6, b7, b8⟩ := f2
  have g304 : m1 304 = m 304 := f1 304 (by omega)
  have g306 : m2 306 = m 306 := b2.trans (f1 306 (by omega))
  have g308 : m2 308 = m 308 := b3.trans (f1 308 (by omega))
  have g309 : m2 309 = m 309 := b4.trans (f1 309 (by omega))
  rw [g304] at b5 b6 b7 b8
  have cc : ∀ c, (c < 12 ∨ (142 ≤ c ∧ c < 272) ∨ (284 ≤ c ∧ c < 304)) → m2 c = m c := fun c hc => (b1 c (by omega)).trans (f1 c (by omega))
  refine ⟨C, h1, by rw [cc 0 (by omega)]; exact h2, by rw [b5]; exact h3', hstd.kept (fun j _ _ => b1 j (by omega)), by rw [g306]; exact h5.kept (fun j _ _ => cc j (by omega)), hwf C h1.1 h1.2 h3' h6, by rw [g306]; exact h7, by rw [g306, h3]; exact h8, fun t ht => ?_, by rw [cc 0 (by omega), b6]; exact h10, by rw [b6]; exact h11, fun j hj => ?_, by rw [cc 2 (by omega), b7]; exact h13, by rw [cc 2 (by omega), b8]; exact h14, by rw [b7]; exact h15.1, by rw [b8]; exact h15.2⟩
  · rw [h3] at ht
    rw [g308]
    exact ⟨(h9 t ht).1.kept (fun j _ _ => cc j (by have := h6.2.2.1; omega)), (h9 t ht).2⟩
  · rw [b6] at hj
    rw [g309, cc 1 (by omega)]
    exact h12 j hj
theorem nowW_hi {S S' : Nat → Int} (h : ∀ j, 20 ≤ j → S' j = S j) : nowW S' = nowW S := by
  funext e q
  exact h _ (by omega)
theorem stW_hi {S S' : Nat → Int} (h : ∀ j, 84 ≤ j → S' j = S j) : stW S' = stW S := by
  funext k e q
  exact h _ (by omega)
theorem Pst.hi {m : MM} {p : Nat} {S S' : Nat → Int} (h : Pst m p S) (hi : ∀ j, 84 ≤ j → S' j = S j) (e5 : S' 5 = S 5) : Pst m p S' := by
  unfold Pst at h ⊢
  rw [stW_hi hi, e5]
  obtain ⟨h1, nx, h2, h3, h4⟩ := h
  exact ⟨h1, nx, h2, h3, fun k hk r hr => by rw [hi _ (by omega)]; exact h4 k hk r hr⟩
theorem WfS.lo {C : Int} {S S' : Nat → Int} (h : WfS C S) (hi : ∀ j, 20 ≤ j → S' j = S j) (e1 : S' 1 = S 1) (e2 : S' 2 = S 2) (e5 : S' 5 = S 5) (a0 : 0 ≤ S' 0 ∧ S' 0 ≤ 8) (a3 : 0 ≤ S' 3 ∧ S' 3 ≤ 4) (a4 : -1 ≤ S' 4 ∧ S' 4 < S' 3) (a6 : 0 ≤ S' 6 ∧ S' 6 ≤ 4) (a7 : ∀ j, j < 8 → 0 ≤ S' (8 + j) ∧ S' (8 + j) ≤ 3) (a8 : ∀ k : Nat, k < 4 → (k : Int) < S' 6 → 0 ≤ S' (16 + k) ∧ S' (16 + k) < S' 0) : WfS C S' := by
  obtain ⟨h0, h1, h3, h4, h5, h6, h7, h8, h9, h10, h11⟩ := h
  refine ⟨a0, by rw [e1]; exact h1, a3, a4, by rw [e5]; exact h5, a6, a7, a8, fun e he => by rw [hi _ (by omega), hi _ (by omega)]; exact h9 e he, by rw [e1, e2, nowW_hi hi]; exact h10, fun k hk => ?_⟩
  rw [e5] at hk
  rw [hi (84 + 50 * k) (by omega), hi (84 + 50 * k + 1) (by omega), e1, stW_hi (fun j hj => hi j (by omega))]
  exact h11 k hk
theorem Std.lo {m m' : MM} {c : Nat} {S S' : Nat → Int} (h : Std m c S) (hk : ∀ j, c + 2 ≤ j → j < c + 130 → m' j = m j) (hi : ∀ j, 20 ≤ j → S' j = S j) (e2 : S' 2 = S 2) (e5 : S' 5 = S 5) (a0 : m' c 0 = S' 0) (a1 : m' c 2 = S' 1) (a3 : m' c 5 = S' 3) (a4 : m' c 6 = S' 4) (a6 : m' c 7 = S' 6) (a8 : m' c 8 = pk (shw S' 0) (shw S' 1) (shw S' 2) (shw S' 3)) (a9 : ∀ j, j < 8 → m' (c + 1) j = S' (8 + j)) : Std m' c S' := by
  obtain ⟨h1, h2, h3, h4, h5, h6, h7, h8, h9, h10⟩ := h
  refine ⟨a0, a1, a3, a4, a6, a8, a9, fun e he => by rw [hk _ (by omega) (by omega), hk _ (by omega) (by omega), hi _ (by omega), hi _ (by omega)]; exact h8 e he, ?_, ?_⟩
  · rw [e2, nowW_hi hi]
    exact h9.kept (hk _ (by omega) (by omega)) (hk _ (by omega) (by omega)) (hk _ (by omega) (by omega)) (hk _ (by omega) (by omega))
  · exact (h10.kept (fun j _ _ => hk j (by omega) (by omega))).hi (fun j hj => hi j (by omega)) e5
section Pub1
variable {G : GG} {d : Nat} {m : MM}
/-- a pair of calls -/
abbrev PR (G : GG) (d : Nat) (mc mr : MI) (lc lr : List (Option PV)) (m : MM) (k : Int → Int → MM → Prop) : Prop := N G (d + 60) mc 0 lc [] m (RI fun z m1 => N G (d + 60) mr 0 lr [] m1 (RI fun z' m2 => k z z' m2))
theorem P_thing {k : Int → Int → MM → Prop} {x : Int} (hx : rng x) (h : Rel m m) (hk : ∀ z m', Rel m' m' → k z z m') : PR G d mi_X7_thing mi_X8_thing [some (vr 0), some (vi x)] [some (vr 304), some (vi x)] m k := by
  have hR := h
  obtain ⟨C, hC, h2, h3', h4, h5, h6, -⟩ := h
  have hS := h4
  obtain ⟨s0, s1, s3, s4, s6, s8, s7, -⟩ := h4
  have w0 := h6.1
  have no : ∀ m1, m1 = m → ¬ (0 ≤ x ∧ x ≤ 3 ∧ m 305 0 < 8) → N G (d + 60) mi_X8_thing 0 [some (vr 304), some (vi x)] [] m1 (RI fun z' m2 => k (-1) z' m2) := by
    rintro m1 rfl hn
    refine g_X8_thing_0 _ (c_isIn (by omega) (fun q => ?_) (fun q => eqT (by omega) (hk _ _ hR)))
    exact eqF (by omega) (eqT (by omega) (hk _ _ hR))
  refine g_X7_thing_0 _ (ltI (by omega) (fun q => no _ rfl (by omega)) (fun q => leI (by omega) (fun q2 => no _ rfl (by omega)) (fun q2 => ltI (by omega) (fun q3 => ?_) (fun q3 => no _ rfl (by omega)))))
  obtain ⟨T, hT⟩ : ∃ T : Nat, m 305 0 = (T : Int) := ⟨(m 305 0).toNat, by omega⟩
  refine ⟨T, by omega, fun m1 e1 m3 e3 => ?_⟩
  have f1 : FrC m m3 := fun c hc => by rw [e3, upm_c (by omega), e1, upm_c (by omega)]
  have g5 : m3 305 = m 305 := f1 305 (by omega)
  have ez : m3 12 0 - 1 = (T : Int) := by rw [e3, e1]; simp [upm]; omega
  rw [ez]
  refine g_X8_thing_0 _ (c_isIn (by omega) (fun q4 => eqF (by omega) (eqF ⟨by rw [g5]; omega, by rw [g5]; omega⟩ ⟨8 + T, by rw [g5]; omega, fun m4 e4 m5 e5 => ?_⟩)) (fun q4 => absurd q4 (by omega)))
  have e45 : m5 305 = up (up (m 305) (8 + T) x) 0 ((T : Int) + 1) := by
    rw [e5, upm_sc, sc_at, e4, upm_sc, sc_at, g5]
    congr 1
    rw [up_ne _ _ (by omega)]
    omega
  have ez2 : m5 305 0 - 1 = (T : Int) := by rw [e45]; simp [up]
  rw [ez2]
  refine hk _ _ (hR.step f1 (m1 := m3) ?_ ?_ ?_ ?_)
  · rw [e5, upm_sc, e4, upm_sc, sc_sc]
    exact FrR.sc
  · have hT8 : T < 8 := by omega
    rw [e45]
    refine hS.lo (fun j h1 h2 => ?_) (fun j hj => by rw [up_ne _ _ (by omega), up_ne _ _ (by omega)]) ?_ ?_ ?_ ?_ ?_ ?_ ?_ ?_ ?_
    · rw [e3, upm_c (by omega), e1, upm_c (by omega)]
    · rw [up_ne _ _ (by omega), up_ne _ _ (by omega)]
    · rw [up_ne _ _ (by omega), up_ne _ _ (by omega)]
    · rw [up_at, e3, e1]; simp [upm]; omega
    · rw [up_ne _ _ (by omega), up_ne _ _ (by omega), e3, e1]; simpa [upm] using s1
    · rw [up_ne _ _ (by omega), up_ne _ _ (by omega), e3, e1]; simpa [upm] using s3
    · rw [up_ne _ _ (by omega), up_ne _ _ (by omega), e3, e1]; simpa [upm] using s4
    · rw [up_ne _ _ (by omega), up_ne _ _ (by omega), e3, e1]; simpa [upm] using s6
    · have e : ∀ k, k < 4 → shw (up (up (m 305) (8 + T) x) 0 ((T : Int) + 1)) k = shw (m 305) k := by
        intro k hk
        unfold shw
        rw [up_ne _ _ (by omega), up_ne _ _ (by omega), up_ne _ _ (by omega), up_ne _ _ (by omega)]
      rw [e 0 (by omega), e 1 (by omega), e 2 (by omega), e 3 (by omega), e3, e1]
      simpa [upm] using s8
    · intro j hj
      rw [up_ne _ _ (by omega), e3, upm_c (by omega), e1]
      unfold up
      by_cases hjT : j = T
      · subst hjT; simp [upm]
      · rw [if_neg (by omega)]
        have := s7 j hj
        simpa [upm, hjT] using this
  · intro C' _ _ _ hw
    rw [e45]
    have hw' := hw
    obtain ⟨w0, w1, w3, w4, w5, w6, w7, w8, -⟩ := hw
    refine hw'.lo (fun j hj => ?_) ?_ ?_ ?_ ?_ ?_ ?_ ?_ ?_ ?_
    · simp (disch := omega) only [up_at, up_ne]
    · simp (disch := omega) only [up_at, up_ne]
    · simp (disch := omega) only [up_at, up_ne]
    · simp (disch := omega) only [up_at, up_ne]
    · simp (disch := omega) only [up_at, up_ne]; omega
    · simp (disch := omega) only [up_at, up_ne]; omega
    · simp (disch := omega) only [up_at, up_ne]; omega
    · simp (disch := omega) only [up_at, up_ne]; omega
    · intro j hj
      by_cases hjT : j = T
      · subst hjT
        simp (disch := omega) only [up_at, up_ne]
        omega
      · simp (disch := omega) only [up_at, up_ne]
        exact w7 j hj
    · intro q hq hq2
      simp (disch := omega) only [up_at, up_ne] at hq2 ⊢
      have := w8 q hq hq2
      omega
  · rw [e45, up_ne _ _ (by omega), up_ne _ _ (by omega)]
end Pub1
