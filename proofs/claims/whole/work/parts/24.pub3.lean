theorem shw_th {C : Int} {S : Nat → Int} (h : WfS C S) {k : Nat} (hk : k < 4) : th (shw S k) := by
  obtain ⟨w0, -, -, -, -, -, -, w8, -⟩ := h
  unfold shw
  split
  · rename_i q
    have := w8 k hk q
    omega
  · omega
section Pub3
variable {G : GG} {d : Nat} {m : MM}
theorem P_shown {k : Int → Int → MM → Prop} {x : Int} (hx : rng x) (h : Rel m m) (hk : ∀ z m', Rel m' m' → k z z m') : PR G d mi_X7_shown mi_X8_shown [some (vr 0), some (vi x)] [some (vr 304), some (vi x)] m k := by
  have hR := h
  obtain ⟨C, hC, h2, h3', h4, h5, h6, -⟩ := h
  have hS := h4
  obtain ⟨s0, s1, s3, s4, s6, s8, s7, -⟩ := h4
  have w0 := h6.1
  have w6 := h6.2.2.2.2.2.1
  have w8 := h6.2.2.2.2.2.2.2.1
  -- what both sides come to
  have fin : ∀ (m1 m2 : MM) (S' : Nat → Int), FrC m m1 → FrR m1 m2 → m2 305 = S' → (∀ j, 12 < j → j < 142 → m1 j = m j) → m1 12 0 = m 12 0 → m1 12 2 = m 12 2 → m1 12 5 = m 12 5 → m1 12 6 = m 12 6 → m1 12 7 = S' 6 → m1 12 8 = pk (shw S' 0) (shw S' 1) (shw S' 2) (shw S' 3) → (∀ j, j ≠ 6 → (j < 16 ∨ 20 ≤ j) → S' j = m 305 j) → (0 ≤ S' 6 ∧ S' 6 ≤ 4) → (∀ q : Nat, q < 4 → (q : Int) < S' 6 → 0 ≤ S' (16 + q) ∧ S' (16 + q) < m 305 0) → Rel m2 m2 := by
    intro m1 m2 S' f1 f2 e5 hc a0 a1 a3 a4 a6 a8 hj b6 b8
    subst e5
    refine hR.step f1 f2 ?_ ?_ (hj 3 (by omega) (by omega))
    · refine hS.lo (fun j h1 h2 => hc j (by omega) (by omega)) (fun j q => hj j (by omega) (by omega)) (hj 2 (by omega) (by omega)) (hj 5 (by omega) (by omega)) ?_ ?_ ?_ ?_ a6 a8 (fun j q => ?_)
      · rw [a0, hj 0 (by omega) (by omega)]; exact s0
      · rw [a1, hj 1 (by omega) (by omega)]; exact s1
      · rw [a3, hj 3 (by omega) (by omega)]; exact s3
      · rw [a4, hj 4 (by omega) (by omega)]; exact s4
      · rw [hc 13 (by omega) (by omega), hj _ (by omega) (by omega)]; exact s7 j q
    · intro C' _ _ _ hw
      have hw' := hw
      obtain ⟨w0, w1, w3, w4, w5, w6, w7, w8, -⟩ := hw
      refine hw'.lo (fun j q => hj j (by omega) (by omega)) (hj 1 (by omega) (by omega)) (hj 2 (by omega) (by omega)) (hj 5 (by omega) (by omega)) ?_ ?_ ?_ b6 (fun j q => ?_) (fun q h1 h2 => ?_)
      · rw [hj 0 (by omega) (by omega)]; exact w0
      · rw [hj 3 (by omega) (by omega)]; exact w3
      · rw [hj 3 (by omega) (by omega), hj 4 (by omega) (by omega)]; exact w4
      · rw [hj _ (by omega) (by omega)]; exact w7 j q
      · rw [hj 0 (by omega) (by omega)]; exact b8 q h1 h2
  refine g_X7_shown_0 _ (eqI (by omega) (fun q m7 e7 m8 e8 => ?_) (fun q => c7_isThing (by omega) (fun q2 => ?_) (fun q2 => ?_)))
  · have f1 : FrC m m8 := fun c hc => by rw [e8, upm_c (by omega), e7, upm_c (by omega)]
    refine g_X8_shown_0 _ (eqT (by omega) (fun m6 e6 => hk _ _ ?_))
    have e5 : m6 305 = up (m 305) 6 0 := by rw [e6, upm_sc, sc_at, f1 305 (by omega)]
    have es : ∀ q, shw (up (m 305) 6 0) q = -1 := by
      intro q
      unfold shw
      rw [up_at, if_neg (by omega)]
    refine fin m8 m6 _ f1 (by rw [e6, upm_sc]; exact FrR.sc) e5 (fun j h1 h2 => by rw [e8, upm_c (by omega), e7, upm_c (by omega)]) ?_ ?_ ?_ ?_ ?_ ?_ (fun j h1 h2 => up_ne _ _ h1) ?_ ?_
    · rw [e8, e7]; simp [upm]
    · rw [e8, e7]; simp [upm]
    · rw [e8, e7]; simp [upm]
    · rw [e8, e7]; simp [upm]
    · rw [e8, up_at]; simp [upm]
    · rw [es, es, es, es, pk_0, e8, e7]; simp [upm]
    · rw [up_at]; omega
    · intro q _ h; rw [up_at] at h; omega
  · refine eqF (by omega) (ltI (by omega) (fun q3 => ?_) (fun q3 => ?_))
    · refine g_X0_withPlace_0 _ _ _ (fun m5 e5 m6 e6 => ?_)
      obtain ⟨n, hn⟩ : ∃ n : Nat, m 305 6 = (n : Int) := ⟨(m 305 6).toNat, by omega⟩
      have hn4 : n < 4 := by omega
      have f1 : FrC m m6 := fun c hc => by rw [e6, upm_c (by omega), e5, upm_c (by omega)]
      have g5 : m6 305 = m 305 := f1 305 (by omega)
      have ez : m6 12 7 = (n : Int) + 1 := by rw [e6, e5]; simp [upm]; omega
      rw [ez]
      refine g_X8_shown_0 _ (eqF (by omega) (c_isThing ⟨by omega, by rw [g5]; omega⟩ (fun q4 => eqF (by omega) (eqF ⟨by rw [g5]; omega, by rw [g5]; omega⟩ ⟨16 + n, by rw [g5]; omega, fun m3 e3 m4 e4 => ?_⟩)) (fun q4 => absurd q4 (by rw [g5]; omega))))
      have e45 : m4 305 = up (up (m 305) (16 + n) x) 6 ((n : Int) + 1) := by
        rw [e4, upm_sc, sc_at, e3, upm_sc, sc_at, g5]
        congr 1
        rw [up_ne _ _ (by omega)]
        omega
      have ez2 : m4 305 6 = (n : Int) + 1 := by rw [e45, up_at]
      rw [ez2]
      refine hk _ _ (fin m6 m4 _ f1 (by rw [e4, upm_sc, e3, upm_sc, sc_sc]; exact FrR.sc) e45 (fun j h1 h2 => by rw [e6, upm_c (by omega), e5, upm_c (by omega)]) ?_ ?_ ?_ ?_ ?_ ?_ (fun j h1 h2 => by simp (disch := omega) only [up_ne]) ?_ ?_)
      · rw [e6, e5]; simp [upm]
      · rw [e6, e5]; simp [upm]
      · rw [e6, e5]; simp [upm]
      · rw [e6, e5]; simp [upm]
      · rw [ez, up_at]
      · have h8 : m6 12 8 = ior (m 12 8) (ishl (x + 1) (4 * (m 12 7))) := by rw [e6, e5]; simp [upm]
        have hp := pk_or (a := shw (m 305) 0) (b := shw (m 305) 1) (c := shw (m 305) 2) (t := x) n (shw_th h6 (by omega)) (shw_th h6 (by omega)) (shw_th h6 (by omega)) (by omega) hn4
        have o : ∀ q, q < 4 → (if q < n then shw (m 305) q else -1) = shw (m 305) q := by
          intro q hq
          split
          · rfl
          · unfold shw; rw [if_neg (by omega)]
        have o3 : shw (m 305) 3 = -1 := by unfold shw; rw [if_neg (by omega)]
        rw [o 0 (by omega), o 1 (by omega), o 2 (by omega)] at hp
        have s8' : m 12 8 = pk (shw (m 305) 0) (shw (m 305) 1) (shw (m 305) 2) (-1) := by rw [s8, o3]
        rw [h8, s8', s6, hn, hp]
        have r : ∀ q, q < 4 → shw (up (up (m 305) (16 + n) x) 6 ((n : Int) + 1)) q = if q < n then shw (m 305) q else if q = n then x else -1 := by
          intro q hq
          unfold shw
          rw [up_at]
          by_cases h1 : q < n
          · rw [if_pos (by omega), if_pos h1, if_pos (by omega), up_ne _ _ (by omega), up_ne _ _ (by omega)]
          · rw [if_neg h1]
            by_cases h2 : q = n
            · subst h2
              rw [if_pos (by omega), if_pos rfl, up_ne _ _ (by omega), up_at]
            · rw [if_neg (by omega), if_neg h2]
        rw [r 0 (by omega), r 1 (by omega), r 2 (by omega), r 3 (by omega)]
        congr 1
        by_cases h3 : 3 < n
        · omega
        · rw [if_neg h3]
      · rw [up_at]; omega
      · intro q h1 h2
        rw [up_at] at h2
        by_cases hq : q = n
        · subst hq
          rw [up_ne _ _ (by omega), up_at]; omega
        · rw [up_ne _ _ (by omega), up_ne _ _ (by omega)]
          exact w8 q h1 (by omega)
    · exact g_X8_shown_0 _ (eqF (by omega) (c_isThing (by omega) (fun q4 => eqF (by omega) (eqT (by omega) (hk _ _ hR))) (fun q4 => absurd q4 (by omega))))
  · refine eqT (by omega) ?_
    exact g_X8_shown_0 _ (eqF (by omega) (c_isThing (by omega) (fun q4 => absurd q4 (by omega)) (fun q4 => eqT (by omega) (hk _ _ hR))))
end Pub3
