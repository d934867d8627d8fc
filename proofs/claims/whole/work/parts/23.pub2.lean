theorem WfS.steps {C : Int} {S S' : Nat → Int} (h : WfS C S) (hi : ∀ j, 84 ≤ j → S' j = S j) (e5 : S' 5 = S 5) (e1 : S 1 ≤ S' 1) : ∀ k : Nat, (k : Int) < S' 5 → (0 ≤ S' (84 + 50 * k) ∧ S' (84 + 50 * k) ≤ S' 1) ∧ WfV C (S' (84 + 50 * k)) (S' (84 + 50 * k + 1)) (stW S' k) := by
  obtain ⟨-, -, -, -, -, -, -, -, -, -, h11⟩ := h
  intro k hk
  rw [e5] at hk
  rw [hi (84 + 50 * k) (by omega), hi (84 + 50 * k + 1) (by omega), stW_hi hi]
  exact ⟨⟨(h11 k hk).1.1, by have := (h11 k hk).1.2; omega⟩, (h11 k hk).2⟩
section Pub2
variable {G : GG} {d : Nat} {m : MM}
theorem c7_isThing {k : Int → MM → Prop} {x1 : Int} (r : rng x1 ∧ rng (m 12 0)) (hy : 0 ≤ x1 ∧ x1 < m 12 0 → k 1 m) (hn : ¬ (0 ≤ x1 ∧ x1 < m 12 0) → k 0 m) : N G d mi_X7_isThing 0 [some (vr 0), some (vi x1)] [] m (RI k) :=
  g_X7_isThing_0 _ (ltI (by omega) (fun q => hn (by omega)) (fun q => leI (by omega) (fun q2 => hn (by omega)) (fun q2 => hy (by omega))))
theorem c7_isEye {k : Int → MM → Prop} {x1 : Int} (r : rng x1 ∧ rng (m 12 2)) (hy : 0 ≤ x1 ∧ x1 < m 12 2 → k 1 m) (hn : ¬ (0 ≤ x1 ∧ x1 < m 12 2) → k 0 m) : N G d mi_X7_isEye 0 [some (vr 0), some (vi x1)] [] m (RI k) :=
  g_X7_isEye_0 _ (ltI (by omega) (fun q => hn (by omega)) (fun q => leI (by omega) (fun q2 => hn (by omega)) (fun q2 => hy (by omega))))
theorem c7_isText {k : Int → MM → Prop} {x1 : Int} (r : rng x1 ∧ rng (m 12 5)) (hy : 0 ≤ x1 ∧ x1 < m 12 5 → k 1 m) (hn : ¬ (0 ≤ x1 ∧ x1 < m 12 5) → k 0 m) : N G d mi_X7_isText 0 [some (vr 0), some (vi x1)] [] m (RI k) :=
  g_X7_isText_0 _ (ltI (by omega) (fun q => hn (by omega)) (fun q => leI (by omega) (fun q2 => hn (by omega)) (fun q2 => hy (by omega))))
theorem c7_isCourtier {k : Int → MM → Prop} {x1 : Int} (r : rng x1 ∧ rng (m 0 0)) (hy : 0 ≤ x1 ∧ x1 < m 0 0 → k 1 m) (hn : ¬ (0 ≤ x1 ∧ x1 < m 0 0) → k 0 m) : N G d mi_X7_isCourtier 0 [some (vr 0), some (vi x1)] [] m (RI k) :=
  g_X7_isCourtier_0 _ (ltI (by omega) (fun q => hn (by omega)) (fun q => leI (by omega) (fun q2 => hn (by omega)) (fun q2 => hy (by omega))))
theorem P_fault {k : Int → Int → MM → Prop} {x : Int} (hx : rng x) (h : Rel m m) (hk : ∀ z m', Rel m' m' → k z z m') : PR G d mi_X7_fault mi_X8_fault [some (vr 0), some (vi x)] [some (vr 304), some (vi x)] m k := by
  have hR := h
  obtain ⟨C, h1, h2, h3', h4, h5, h6, h7, h8, h9, h10, h11, h12, h13, h14, h15⟩ := h
  refine g_X7_fault_0 _ (eqI (by omega) (fun q => ?_) (fun q => eqI (by omega) (fun q2 => ?_) (fun q2 => ?_)))
  · exact g_X8_fault_0 _ (eqT (by omega) (by rw [h13]; exact hk _ _ hR))
  · exact g_X8_fault_0 _ (eqF (by omega) (eqT (by omega) (by rw [h14]; exact hk _ _ hR)))
  · exact g_X8_fault_0 _ (eqF (by omega) (eqF (by omega) (hk _ _ hR)))
theorem P_by {k : Int → Int → MM → Prop} {x : Int} (hx : rng x) (h : Rel m m) (hk : ∀ z m', Rel m' m' → k z z m') : PR G d mi_X7_by mi_X8_by [some (vr 0), some (vi x)] [some (vr 304), some (vi x)] m k := by
  have hR := h
  obtain ⟨C, hC, h2, h3', h4, h5, h6, -⟩ := h
  have hS := h4
  obtain ⟨s0, s1, s3, s4, s6, s8, s7, -⟩ := h4
  have w3 := h6.2.2.1
  have yes : -1 ≤ x → x < m 305 3 → ∀ m1, m1 = upm m 12 6 x → ∀ m2, m2 = upm m1 305 4 x → Rel m2 m2 := by
    intro hx1 hx2 m1 e1 m2 e2
    have f1 : FrC m m1 := fun c hc => by rw [e1, upm_c (by omega)]
    have g5 : m1 305 = m 305 := f1 305 (by omega)
    have e5 : m2 305 = up (m 305) 4 x := by rw [e2, upm_sc, sc_at, g5]
    refine hR.step f1 (m1 := m1) ?_ ?_ ?_ ?_
    · rw [e2, upm_sc]; exact FrR.sc
    · rw [e5]
      refine hS.lo (fun j h1 h2 => ?_) (fun j hj => ?_) ?_ ?_ ?_ ?_ ?_ ?_ ?_ ?_ ?_
      · rw [e1, upm_c (by omega)]
      · simp (disch := omega) only [up_ne]
      · simp (disch := omega) only [up_ne]
      · simp (disch := omega) only [up_ne]
      · simp (disch := omega) only [up_ne]; rw [e1]; simpa [upm] using s0
      · simp (disch := omega) only [up_ne]; rw [e1]; simpa [upm] using s1
      · simp (disch := omega) only [up_ne]; rw [e1]; simpa [upm] using s3
      · rw [up_at, e1]; simp [upm]
      · simp (disch := omega) only [up_ne]; rw [e1]; simpa [upm] using s6
      · have e : ∀ k, k < 4 → shw (up (m 305) 4 x) k = shw (m 305) k := by
          intro k hk
          unfold shw
          rw [up_ne _ _ (by omega), up_ne _ _ (by omega)]
        rw [e 0 (by omega), e 1 (by omega), e 2 (by omega), e 3 (by omega), e1]
        simpa [upm] using s8
      · intro j hj
        rw [up_ne _ _ (by omega), e1, upm_c (by omega)]
        exact s7 j hj
    · intro C' _ _ _ hw
      rw [e5]
      have hw' := hw
      obtain ⟨w0, w1, w3, w4, w5, w6, w7, w8, -⟩ := hw
      refine hw'.lo (fun j hj => ?_) ?_ ?_ ?_ ?_ ?_ ?_ ?_ (fun j hj => ?_) (fun q hq hq2 => ?_)
      · simp (disch := omega) only [up_ne]
      · simp (disch := omega) only [up_ne]
      · simp (disch := omega) only [up_ne]
      · simp (disch := omega) only [up_ne]
      · simp (disch := omega) only [up_ne]; omega
      · simp (disch := omega) only [up_ne]; omega
      · simp (disch := omega) only [up_ne, up_at]; omega
      · simp (disch := omega) only [up_ne]; omega
      · simp (disch := omega) only [up_ne]; exact w7 j hj
      · simp (disch := omega) only [up_ne] at hq2 ⊢
        exact w8 q hq hq2
    · rw [e5, up_ne _ _ (by omega)]
  refine g_X7_by_0 _ (eqI (by omega) (fun q m1 e1 => ?_) (fun q => c7_isText (by omega) (fun q2 => ?_) (fun q2 => ?_)))
  · exact g_X8_by_0 _ (eqT (by omega) (fun m2 e2 => hk _ _ (yes (by omega) (by omega) m1 e1 m2 e2)))
  · refine eqF (by omega) (fun m1 e1 => ?_)
    have g5 : m1 305 = m 305 := by rw [e1, upm_c (by omega)]
    refine g_X8_by_0 _ (eqF (by omega) (c_isText ⟨by omega, by rw [g5]; omega⟩ (fun q3 => eqF (by omega) (fun m2 e2 => hk _ _ (yes (by omega) (by omega) m1 e1 m2 e2))) (fun q3 => absurd q3 ?_)))
    rw [g5]; omega
  · refine eqT (by omega) ?_
    exact g_X8_by_0 _ (eqF (by omega) (c_isText (by omega) (fun q3 => absurd q3 (by omega)) (fun q3 => eqT (by omega) (hk _ _ hR))))
theorem pk_or {a b c t : Int} (q : Nat) (ha : th a) (hb : th b) (hc : th c) (ht : th t) (hq : q < 4) : ior (pk (if 0 < q then a else -1) (if 1 < q then b else -1) (if 2 < q then c else -1) (-1)) (ishl (t + 1) (4 * (q : Int))) = pk (if 0 < q then a else if 0 = q then t else -1) (if 1 < q then b else if 1 = q then t else -1) (if 2 < q then c else if 2 = q then t else -1) (if 3 = q then t else -1) := by
  obtain ⟨u, hu⟩ : ∃ u : Nat, t + 1 = (u : Int) := ⟨(t + 1).toNat, by omega⟩
  have go : ∀ (p : Nat), p < 2 ^ (4 * q) → ior (p : Int) (ishl (t + 1) (4 * (q : Int))) = ((p + 2 ^ (4 * q) * u : Nat) : Int) := by
    intro p hp
    have e1 : (4 * (q : Int)) = ((4 * q : Nat) : Int) := by omega
    have hb2 : 2 ^ (4 * q) ≤ 4096 := by
      have h4 : q = 0 ∨ q = 1 ∨ q = 2 ∨ q = 3 := by omega
      rcases h4 with rfl | rfl | rfl | rfl <;> decide
    have hb3 : u * 2 ^ (4 * q) ≤ 8 * 4096 := Nat.mul_le_mul (by omega) hb2
    have e2 : ishl (u : Int) ((4 * q : Nat) : Int) = ((u * 2 ^ (4 * q) : Nat) : Int) := ishl_n (by omega) (by omega)
    have e3 : (p ||| u * 2 ^ (4 * q)) = p + 2 ^ (4 * q) * u := by
      have := Nat.two_pow_add_eq_or_of_lt hp u
      rw [Nat.or_comm, Nat.mul_comm u, ← this, Nat.add_comm]
    rw [hu, e1, e2, ior_n (by rw [e3, Nat.mul_comm]; omega), e3]
  have h4 : q = 0 ∨ q = 1 ∨ q = 2 ∨ q = 3 := by omega
  rcases h4 with rfl | rfl | rfl | rfl
  · have := go 0 (by decide)
    simp [pk] at this ⊢
    rw [this]
    omega
  · obtain ⟨p, hp⟩ : ∃ p : Nat, a + 1 = (p : Int) := ⟨(a + 1).toNat, by omega⟩
    have := go p (by omega)
    simp [pk] at this ⊢
    rw [hp, this]
    omega
  · obtain ⟨p, hp⟩ : ∃ p : Nat, a + 1 + 16 * (b + 1) = (p : Int) := ⟨(a + 1 + 16 * (b + 1)).toNat, by omega⟩
    have := go p (by omega)
    simp [pk] at this ⊢
    rw [hp, this]
    omega
  · obtain ⟨p, hp⟩ : ∃ p : Nat, a + 1 + 16 * (b + 1) + 256 * (c + 1) = (p : Int) := ⟨(a + 1 + 16 * (b + 1) + 256 * (c + 1)).toNat, by omega⟩
    have := go p (by omega)
    simp [pk] at this ⊢
    rw [hp, this]
    omega
end Pub2
