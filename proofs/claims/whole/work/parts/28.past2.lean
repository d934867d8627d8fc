def UndoOf (S S' : Nat → Int) (n : Nat) : Prop := S' 5 = (n : Int) ∧ S' 2 = S (84 + 50 * n + 1) ∧ (∀ e, e < 8 → ∀ q, q < 6 → S' (20 + 8 * e + 2 + q) = S (84 + 50 * n + 2 + 6 * e + q)) ∧ (∀ j, (j < 20 ∧ j ≠ 2 ∧ j ≠ 5) ∨ 84 ≤ j → S' j = S j) ∧ (∀ e, e < 8 → S' (20 + 8 * e) = S (20 + 8 * e) ∧ S' (20 + 8 * e + 1) = S (20 + 8 * e + 1))
theorem WfS.undo {C : Int} {S S' : Nat → Int} {n : Nat} (h : WfS C S) (h5 : S 5 = (n : Int) + 1) (hu : UndoOf S S' n) : WfS C S' := by
  obtain ⟨u5, u2, ue, uo, uc⟩ := hu
  obtain ⟨h0, h1, h3, h4, h5', h6, h7, h8, h9, h10, h11⟩ := h
  refine ⟨by rw [uo 0 (by omega)]; exact h0, by rw [uo 1 (by omega)]; exact h1, by rw [uo 3 (by omega)]; exact h3, by rw [uo 3 (by omega), uo 4 (by omega)]; exact h4, by rw [u5]; omega, by rw [uo 6 (by omega)]; exact h6, fun j hj => by rw [uo _ (by omega)]; exact h7 j hj, fun k hk => by rw [uo 6 (by omega), uo _ (by omega), uo 0 (by omega)]; exact h8 k hk, fun e he => by rw [(uc e he).1, (uc e he).2]; exact h9 e he, ?_, fun k hk => ?_⟩
  · rw [uo 1 (by omega), u2]
    have hh := h11 n (by omega)
    obtain ⟨a1, a2, a3, a4, a5⟩ := hh.2
    have hv : WfV C (S 1) (S (84 + 50 * n + 1)) (stW S n) := ⟨a1, a2, a3, fun e he hle => a4 e he (by have := hh.1.2; omega), a5⟩
    refine hv.cong (fun a ha q hq => ?_)
    unfold nowW stW
    exact ue a ha q hq
  · rw [u5] at hk
    rw [uo 1 (by omega), uo (84 + 50 * k) (by omega), uo (84 + 50 * k + 1) (by omega), stW_hi (fun j hj => uo j (by omega))]
    exact h11 k (by omega)
section Past2
variable {G : GG} {d : Nat} {m : MM}
theorem c1_takeBack {k : Int → MM → Prop} (p c : Nat) (hp : SH p = .inr 1) (hc : SH c = .inr 0) (ha : c + 4 ≤ p) {S : Nat → Int} (n : Nat) (hP : Pst m p S) (h5 : S 5 = (n : Int) + 1) (hn : n < 30) (h : ∀ m', Crt m' c (S (84 + 50 * n + 1)) (stW S n) → (∀ S', S' 5 = (n : Int) → (∀ j, 84 ≤ j → S' j = S j) → Pst m' p S') → m' p 2 = (n : Int) → (∀ j, (j < c ∨ c + 4 ≤ j) → j ≠ p → m' j = m j) → k 1 m') : N G (d + 2) mi_X1_takeBack 0 [some (vr p), some (vr c)] [] m (RI k) := by
  obtain ⟨h2, nx, hnx, h1, hr⟩ := hP
  refine g_X1_takeBack_0 _ hp _ hc (eqF (by omega) (fun m1 e1 m2 e2 => ?_))
  have e21 : m2 p 1 = (((nx + 29) % 30 : Nat) : Int) := by
    rw [e2, e1]
    simp only [upm, and_self, if_true]
    simp [h1]
    rw [show ((nx : Int) + 30 - 1) = ((nx + 29 : Nat) : Int) by omega]
    exact irem_n (a := nx + 29) (b := 30) (by omega) (by omega) (by omega)
  have e22 : m2 p 2 = (n : Int) := by
    rw [e2, e1]
    simp [upm]
    omega
  have f2 : ∀ j, j ≠ p → m2 j = m j := fun j hj => by rw [e2, upm_c hj, e1, upm_c hj]
  have hlt : (nx + 29) % 30 < 30 := Nat.mod_lt _ (by omega)
  refine ⟨(nx + 29) % 30, ⟨e21, hlt⟩, ?_⟩
  refine c0_copyFrom c _ hc (pa_c hp hlt) (by omega) (fun m5 a5 b5 => ?_)
  have hcr : Crt m2 (p + 2 + 4 * ((nx + 29) % 30)) (S (84 + 50 * n + 1)) (stW S n) := (hr n (by omega) _ (by omega)).kept (f2 _ (by omega)) (f2 _ (by omega)) (f2 _ (by omega)) (f2 _ (by omega))
  refine h m5 (a5 _ _ hcr) (fun S' g5 gh => ?_) (by rw [b5 p (by omega)]; exact e22) (fun j h1 h2 => by rw [b5 j (by omega), f2 j h2])
  refine ⟨by rw [b5 p (by omega), e22, g5], (nx + 29) % 30, hlt, by rw [b5 p (by omega)]; exact e21, fun q hq r hr2 => ?_⟩
  rw [g5] at hq hr2
  rw [gh _ (by omega), stW_hi gh]
  have hh := hr q (by omega) r (by omega)
  have far : ∀ i, i < 4 → m5 (p + 2 + 4 * r + i) = m (p + 2 + 4 * r + i) := fun i hi => by rw [b5 _ (by omega), f2 _ (by omega)]
  exact hh.kept (far 0 (by omega)) (far 1 (by omega)) (far 2 (by omega)) (far 3 (by omega))
theorem c_undo {k : Int → MM → Prop} (n : Nat) (h5 : m 305 5 = (n : Int) + 1) (hn : n < 30) (hx : 0 ≤ m 305 (84 + 50 * n) ∧ m 305 (84 + 50 * n) ≤ 8) (hd0 : ∀ e : Nat, e < 8 → m 305 (84 + 50 * n) ≤ (e : Int) → eye0 (stW (m 305) n e)) (h : ∀ S', UndoOf (m 305) S' n → k (n : Int) (sc m 305 S')) : N G (d + 2) mi_X8_undo 0 [some (vr 304), none, none, none] [] m (RI k) := by
  have outer : ∀ (nn e : Nat) (x2 : Int) (U : Nat → Int), e + nn = 8 → x2 = (e : Int) → U 5 = (n : Int) → U 2 = m 305 (84 + 50 * n + 1) → (∀ j, (j < 20 ∧ j ≠ 2 ∧ j ≠ 5) ∨ 84 ≤ j → U j = m 305 j) → (∀ a, a < 8 → U (20 + 8 * a) = m 305 (20 + 8 * a) ∧ U (20 + 8 * a + 1) = m 305 (20 + 8 * a + 1)) → (∀ a, a < e → ∀ q, q < 6 → U (20 + 8 * a + 2 + q) = m 305 (84 + 50 * n + 2 + 6 * a + q)) → N G (d + 2) mi_X8_undo 50 [some (vr 304), some (vi (84 + 50 * (n : Int))), some (vi x2), none] [] (sc m 305 U) (RI k) := by
    intro nn
    induction nn with
    | zero =>
      intro e x2 U he hx2 u5 u2 uo uc ue
      refine g_X8_undo_50 _ _ (leT (by omega) ?_)
      rw [sc_at, u5]
      exact h U ⟨u5, u2, fun a ha => ue a (by omega), uo, uc⟩
    | succ nn ih =>
      intro e x2 U he hx2 u5 u2 uo uc ue
      refine g_X8_undo_50 _ _ (leF (by omega) ?_)
      have inner : ∀ (M q : Nat) (x3 : Int) (U : Nat → Int), q + M = 6 → x3 = (q : Int) → U 5 = (n : Int) → U 2 = m 305 (84 + 50 * n + 1) → (∀ j, (j < 20 ∧ j ≠ 2 ∧ j ≠ 5) ∨ 84 ≤ j → U j = m 305 j) → (∀ a, a < 8 → U (20 + 8 * a) = m 305 (20 + 8 * a) ∧ U (20 + 8 * a + 1) = m 305 (20 + 8 * a + 1)) → (∀ a, a < e → ∀ q, q < 6 → U (20 + 8 * a + 2 + q) = m 305 (84 + 50 * n + 2 + 6 * a + q)) → (∀ t, t < q → U (20 + 8 * e + 2 + t) = m 305 (84 + 50 * n + 2 + 6 * e + t)) → N G (d + 2) mi_X8_undo 58 [some (vr 304), some (vi (84 + 50 * (n : Int))), some (vi x2), some (vi x3)] [] (sc m 305 U) (RI k) := by
        intro M
        induction M with
        | zero =>
          intro q x3 U hq hx3 u5 u2 uo uc ue ut
          have ex : (sc m 305 U) 305 (84 + 50 * n) = m 305 (84 + 50 * n) := by rw [sc_at]; exact uo _ (by omega)
          have ue' : ∀ a, a < e + 1 → ∀ q, q < 6 → U (20 + 8 * a + 2 + q) = m 305 (84 + 50 * n + 2 + 6 * a + q) := fun a ha t ht => by
            by_cases hae : a = e
            · subst hae; exact ut t (by omega)
            · exact ue a (by omega) t ht
          refine g_X8_undo_58 _ _ _ (leT (by omega) ⟨84 + 50 * n, by omega, ltI (by rw [ex]; omega) (fun _ => ?_) (fun hge => ?_)⟩)
          · exact ih (e + 1) _ U (by omega) (by omega) u5 u2 uo uc ue'
          · rw [ex] at hge
            refine c_clear e (by omega) (by omega) ?_
            rw [sc_sc, sc_at]
            have e0 := hd0 e (by omega) (by omega)
            unfold eye0 stW at e0
            have hU : clS U e = U := by
              funext j
              unfold clS
              split
              · rename_i hj
                subst hj
                have := ut 1 (by omega)
                rw [show 20 + 8 * e + 2 + 1 = 20 + 8 * e + 3 by omega] at this
                rw [this]
                exact e0.2.1.symm
              · split
                · rename_i h1 h2
                  obtain ⟨t, ht⟩ : ∃ t, j = 20 + 8 * e + 2 + t := ⟨j - (20 + 8 * e + 2), by omega⟩
                  subst ht
                  rw [ut t (by omega)]
                  have ht6 : t = 0 ∨ t = 2 ∨ t = 3 ∨ t = 4 ∨ t = 5 := by omega
                  rcases ht6 with rfl | rfl | rfl | rfl | rfl
                  · exact e0.1.symm
                  · exact e0.2.2.1.symm
                  · exact e0.2.2.2.1.symm
                  · exact e0.2.2.2.2.1.symm
                  · exact e0.2.2.2.2.2.symm
                · rfl
            rw [hU]
            exact ih (e + 1) _ U (by omega) (by omega) u5 u2 uo uc ue'
        | succ M ihM =>
          intro q x3 U hq hx3 u5 u2 uo uc ue ut
          refine g_X8_undo_58 _ _ _ (leF (by omega) ⟨84 + 50 * n + 2 + 6 * e + q, by omega, ?_⟩)
          refine c_set (20 + 8 * e + 2 + q) (by omega) (by omega) ?_
          rw [sc_sc, sc_at, uo _ (by omega)]
          refine ihM (q + 1) _ _ (by omega) (by omega) (by rw [up_ne _ _ (by omega)]; exact u5) (by rw [up_ne _ _ (by omega)]; exact u2) (fun j hj => by rw [up_ne _ _ (by omega)]; exact uo j hj) (fun a ha => by rw [up_ne _ _ (by omega), up_ne _ _ (by omega)]; exact uc a ha) (fun a ha t ht => by rw [up_ne _ _ (by omega)]; exact ue a ha t ht) (fun t ht => ?_)
          by_cases htq : t = q
          · subst htq; rw [up_at]
          · rw [up_ne _ _ (by omega)]; exact ut t (by omega)
      exact inner 6 0 _ U rfl rfl u5 u2 uo uc ue (fun t ht => absurd ht (by omega))
  refine g_X8_undo_0 (eqF (by omega) (fun m1 e1 => ?_))
  have e15 : m1 305 5 = (n : Int) := by rw [e1]; simp [upm]; omega
  refine ⟨84 + 50 * n + 1, by rw [e15]; omega, fun m3 e3 => ?_⟩
  rw [e15]
  have e13 : m3 = sc m 305 (up (up (m 305) 5 (n : Int)) 2 (m 305 (84 + 50 * n + 1))) := by
    rw [e3, upm_sc, e1, upm_sc, sc_sc, sc_at, up_ne _ _ (by omega)]
    congr 3
    omega
  rw [e13]
  exact outer 8 0 _ _ rfl rfl (by rw [up_ne _ _ (by omega), up_at]) (by rw [up_at]) (fun j hj => by rw [up_ne _ _ (by omega), up_ne _ _ (by omega)]) (fun a ha => ⟨by rw [up_ne _ _ (by omega), up_ne _ _ (by omega)], by rw [up_ne _ _ (by omega), up_ne _ _ (by omega)]⟩) (fun a ha => absurd ha (by omega))
theorem P_undo {k : Int → Int → MM → Prop} (h : Rel m m) (hk : ∀ z m', Rel m' m' → k z z m') : PR G d mi_X7_undo mi_X8_undo [some (vr 0)] [some (vr 304), none, none, none] m k := by
  have hR := h
  obtain ⟨C, hC, h2, h3', h4, h5, h6, -⟩ := h
  have w5 := h6.2.2.2.2.1
  obtain ⟨s0, s1, s3, s4, s6, s8, s7, sc', scr, sp⟩ := h4
  by_cases h0 : m 305 5 = 0
  · refine g_X7_undo_0 (g_X1_takeBack_0 _ sh_20 _ sh_16 (eqT (by have q : m 20 2 = m 305 5 := sp.1; omega) (eqT (by omega) ?_)))
    exact g_X8_undo_0 (eqT (by omega) (hk _ _ hR))
  · obtain ⟨n, hn⟩ : ∃ n : Nat, m 305 5 = (n : Int) + 1 := ⟨(m 305 5 - 1).toNat, by omega⟩
    have h11 := h6.2.2.2.2.2.2.2.2.2.2 n (by omega)
    refine g_X7_undo_0 (c1_takeBack 20 16 sh_20 sh_16 (by omega) n sp hn (by omega) (fun m1 a1 b1 c1 f1 => eqF (by omega) ?_))
    rw [c1]
    have g5 : m1 305 = m 305 := f1 305 (by omega) (by omega)
    refine c_undo n (by rw [g5]; exact hn) (by omega) (by rw [g5]; have := h6.2.1; omega) (fun e he hle => by rw [g5] at hle ⊢; exact h11.2.2.2.2.1 e he hle) (fun S' hu => hk _ _ ?_)
    rw [g5] at hu
    have e305 : (sc m1 305 S') 305 = S' := sc_at _ _ _
    refine hR.step (m1 := m1) (fun c hc => f1 c (by omega) (by omega)) FrR.sc ?_ (fun C' _ _ _ hw => by rw [e305]; exact hw.undo hn hu) ?_
    · rw [e305]
      obtain ⟨u5, u2, ue, uo, uc⟩ := hu
      have g12 : m1 12 = m 12 := f1 12 (by omega) (by omega)
      refine ⟨by rw [g12, uo 0 (by omega)]; exact s0, by rw [g12, uo 1 (by omega)]; exact s1, by rw [g12, uo 3 (by omega)]; exact s3, by rw [g12, uo 4 (by omega)]; exact s4, by rw [g12, uo 6 (by omega)]; exact s6, ?_, fun j hj => by rw [f1 13 (by omega) (by omega), uo _ (by omega)]; exact s7 j hj, fun e he => by rw [f1 14 (by omega) (by omega), f1 15 (by omega) (by omega), (uc e he).1, (uc e he).2]; exact sc' e he, ?_, b1 _ u5 (fun j hj => uo j (by omega))⟩
      · have es : ∀ q, q < 4 → shw S' q = shw (m 305) q := fun q hq => by
          unfold shw
          rw [uo 6 (by omega), uo (16 + q) (by omega)]
        rw [g12, es 0 (by omega), es 1 (by omega), es 2 (by omega), es 3 (by omega)]
        exact s8
      · rw [u2]
        exact a1.cong (fun a ha q hq => ue a ha q hq)
    · rw [e305]; exact hu.2.2.2.1 3 (by omega)
end Past2
