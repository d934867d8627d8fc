/-! ===== the reference does a deed ===== -/
/-- the hour and the eyes are these now, all else is as it was -/
def SetW (S S' : Nat → Int) (hr : Int) (W : Nat → Nat → Int) : Prop := S' 2 = hr ∧ (∀ e, e < 8 → ∀ q, q < 6 → S' (20 + 8 * e + 2 + q) = W e q) ∧ (∀ e, e < 8 → S' (20 + 8 * e) = S (20 + 8 * e) ∧ S' (20 + 8 * e + 1) = S (20 + 8 * e + 1)) ∧ (∀ j, (j < 20 ∧ j ≠ 2) ∨ 84 ≤ j → S' j = S j)
theorem SetW.rf (S : Nat → Int) : SetW S S (S 2) (nowW S) := ⟨rfl, fun _ _ _ _ => rfl, fun _ _ => ⟨rfl, rfl⟩, fun _ _ => rfl⟩
theorem SetW.tr {S S1 S2 : Nat → Int} {hr hr' : Int} {W W' : Nat → Nat → Int} (h : SetW S S1 hr W) (h2 : SetW S1 S2 hr' W') : SetW S S2 hr' W' :=
  ⟨h2.1, h2.2.1, fun e he => ⟨(h2.2.2.1 e he).1.trans (h.2.2.1 e he).1, (h2.2.2.1 e he).2.trans (h.2.2.1 e he).2⟩, fun j hj => (h2.2.2.2 j hj).trans (h.2.2.2 j hj)⟩
theorem SetW.cong {S S1 : Nat → Int} {hr : Int} {W W' : Nat → Nat → Int} (h : SetW S S1 hr W) (e : ∀ a, a < 8 → ∀ q, q < 6 → W' a q = W a q) : SetW S S1 hr W' :=
  ⟨h.1, fun a ha q hq => (h.2.1 a ha q hq).trans (e a ha q hq).symm, h.2.2⟩
theorem WfS.setW {C hr : Int} {S S' : Nat → Int} {W : Nat → Nat → Int} (h : WfS C S) (hs : SetW S S' hr W) (hv : WfV C (S 1) hr W) : WfS C S' := by
  obtain ⟨u2, ue, uc, uo⟩ := hs
  obtain ⟨h0, h1, h3, h4, h5, h6, h7, h8, h9, h10, h11⟩ := h
  refine ⟨by rw [uo 0 (by omega)]; exact h0, by rw [uo 1 (by omega)]; exact h1, by rw [uo 3 (by omega)]; exact h3, by rw [uo 4 (by omega), uo 3 (by omega)]; exact h4, by rw [uo 5 (by omega)]; exact h5, by rw [uo 6 (by omega)]; exact h6, fun j hj => by rw [uo _ (by omega)]; exact h7 j hj, fun k hk => by rw [uo 6 (by omega), uo _ (by omega), uo 0 (by omega)]; exact h8 k hk, fun e he => by rw [(uc e he).1, (uc e he).2]; exact h9 e he, ?_, fun k hk => ?_⟩
  · rw [uo 1 (by omega), u2]
    exact hv.cong (fun a ha q hq => ue a ha q hq)
  · rw [uo 5 (by omega)] at hk
    rw [uo _ (by omega), uo 1 (by omega), uo _ (by omega)]
    refine ⟨(h11 k hk).1, (h11 k hk).2.cong (fun a ha q hq => ?_)⟩
    unfold stW
    exact uo _ (by omega)
/-- the standing's outer things: things, eyes, texts, the law, kinds, colours, chips -/
def Sta (S S' : Nat → Int) : Prop := (∀ j, j < 20 → j ≠ 2 → j ≠ 5 → S' j = S j) ∧ ∀ e, e < 8 → S' (20 + 8 * e) = S (20 + 8 * e) ∧ S' (20 + 8 * e + 1) = S (20 + 8 * e + 1)
theorem Sta.rf (S : Nat → Int) : Sta S S := ⟨fun _ _ _ _ => rfl, fun _ _ => ⟨rfl, rfl⟩⟩
theorem Sta.tr {S S1 S2 : Nat → Int} (h : Sta S S1) (h2 : Sta S1 S2) : Sta S S2 := ⟨fun j a b c => (h2.1 j a b c).trans (h.1 j a b c), fun e he => ⟨(h2.2 e he).1.trans (h.2 e he).1, (h2.2 e he).2.trans (h.2 e he).2⟩⟩
theorem Sta.sy {S S1 : Nat → Int} (h : Sta S S1) : Sta S1 S := ⟨fun j a b c => (h.1 j a b c).symm, fun e he => ⟨(h.2 e he).1.symm, (h.2 e he).2.symm⟩⟩
theorem SetW.sta {S S' : Nat → Int} {hr : Int} {W : Nat → Nat → Int} (h : SetW S S' hr W) : Sta S S' := ⟨fun j a b _ => h.2.2.2 j (by omega), h.2.2.1⟩
theorem KeepOf.sta {S S' : Nat → Int} (h : KeepOf S S') : Sta S S' := by
  obtain ⟨n, sh, hn, hs, k5, kl, -⟩ := h
  exact ⟨fun j a _ c => kl j (by omega) c, fun e he => ⟨kl _ (by omega) (by omega), kl _ (by omega) (by omega)⟩⟩
theorem KeepOf.now {S S' : Nat → Int} (h : KeepOf S S') : S' 2 = S 2 ∧ ∀ e, e < 8 → ∀ q, q < 6 → S' (20 + 8 * e + 2 + q) = nowW S e q := by
  obtain ⟨n, sh, hn, hs, k5, kl, -⟩ := h
  exact ⟨kl _ (by omega) (by omega), fun e he q hq => kl _ (by omega) (by omega)⟩
theorem nmv_cong {S S' : Nat → Int} {e th' : Nat} (h : Sta S S') (he : e < 8) (ht : th' < 8) (a b c w : Int) : nmv S' e a b c th' w = nmv S e a b c th' w := by
  have h1 := (h.2 e he).1
  have h2 := (h.2 e he).2
  have h3 := h.1 (8 + th') (by omega) (by omega) (by omega)
  funext j
  unfold nmv
  split <;> first | rfl | assumption
def FrD (m m' : MM) : Prop := ∀ c, c ≠ 305 → c ≠ 311 → c ≠ 312 → c ≠ 313 → m' c = m c
theorem FrD.rf (m : MM) : FrD m m := fun _ _ _ _ _ => rfl
theorem FrD.tr {a b c : MM} (h : FrD a b) (h2 : FrD b c) : FrD a c := fun j h1 h3 h4 h5 => (h2 j h1 h3 h4 h5).trans (h j h1 h3 h4 h5)
theorem FrD.sc {m : MM} {f : Nat → Int} : FrD m (sc m 305 f) := fun _ h _ _ _ => sc_ne _ _ h
theorem FrL.frD {m m' : MM} (h : FrL m m') : FrD m m' := fun c _ h2 h3 h4 => h c h2 h3 h4
theorem FrD.frR {m m' : MM} (h : FrD m m') : FrR m m' := ⟨fun c hc => h c (by omega) (by omega) (by omega) (by omega), h _ (by omega) (by omega) (by omega) (by omega), h _ (by omega) (by omega) (by omega) (by omega), h _ (by omega) (by omega) (by omega) (by omega), by rw [h 304 (by omega) (by omega) (by omega) (by omega)], by rw [h 304 (by omega) (by omega) (by omega) (by omega)], by rw [h 304 (by omega) (by omega) (by omega) (by omega)], by rw [h 304 (by omega) (by omega) (by omega) (by omega)]⟩
section Deed3
variable {G : GG} {d : Nat} {m : MM}
theorem c_learn {k : MM → Prop} {x1 x2 hr : Int} {S0 : Nat → Int} {W : Nat → Nat → Int} (e : Nat) (e1 : x1 = (e : Int)) (he : e < 8) (hs : SetW S0 (m 305) hr W) (h : ∀ S', SetW S0 S' hr (lnW W e x2) → k (sc m 305 S')) : N G (d + 1) mi_X8_learn 0 [some (vr 304), some (vi x1), some (vi x2), none] [] m (RV k) := by
  refine g_X8_learn_0 _ _ (g_X8_learn_2 _ _ _ (leF (by omega) (c_get (20 + 8 * e + 6) (by omega) (by omega) (c_set (20 + 8 * e + 7) (by omega) (by omega) ?_))))
  refine g_X8_learn_2 _ _ _ (leF (by omega) (c_get (20 + 8 * e + 5) (by omega) (by omega) (c_set (20 + 8 * e + 6) (by omega) (by omega) ?_)))
  refine g_X8_learn_2 _ _ _ (leF (by omega) (c_get (20 + 8 * e + 4) (by omega) (by omega) (c_set (20 + 8 * e + 5) (by omega) (by omega) ?_)))
  refine g_X8_learn_2 _ _ _ (leT (by omega) (c_set (20 + 8 * e + 4) (by omega) (by omega) ?_))
  simp only [sc_sc, sc_at]
  simp (disch := omega) only [up_ne]
  obtain ⟨u2, ue, uc, uo⟩ := hs
  refine h _ ⟨by simp (disch := omega) only [up_ne]; exact u2, fun a ha q hq => ?_, fun a ha => by simp (disch := omega) only [up_ne]; exact uc a ha, fun j hj => by simp (disch := omega) only [up_ne]; exact uo j hj⟩
  have g2 := ue e he 2 (by omega)
  have g3 := ue e he 3 (by omega)
  have g4 := ue e he 4 (by omega)
  by_cases ea : a = e
  · subst ea
    have g := ue a ha q hq
    have : q = 0 ∨ q = 1 ∨ q = 2 ∨ q = 3 ∨ q = 4 ∨ q = 5 := by omega
    rcases this with rfl | rfl | rfl | rfl | rfl | rfl
    · simp (disch := omega) only [up_ne]; rw [lnW_0 _ _ _ (by omega)]; exact g
    · simp (disch := omega) only [up_ne]; rw [lnW_0 _ _ _ (by omega)]; exact g
    · rw [show 20 + 8 * a + 2 + 2 = 20 + 8 * a + 4 from rfl, up_at]; simp [lnW]
    · rw [show 20 + 8 * a + 2 + 3 = 20 + 8 * a + 5 from rfl, up_ne _ _ (by omega), up_at]; simp [lnW]; exact g2
    · rw [show 20 + 8 * a + 2 + 4 = 20 + 8 * a + 6 from rfl, up_ne _ _ (by omega), up_ne _ _ (by omega), up_at]; simp [lnW]; exact g3
    · rw [show 20 + 8 * a + 2 + 5 = 20 + 8 * a + 7 from rfl, up_ne _ _ (by omega), up_ne _ _ (by omega), up_ne _ _ (by omega), up_at]; simp [lnW]; exact g4
  · rw [lnW_ne _ _ ea]
    simp (disch := omega) only [up_ne]
    exact ue a ha q hq
theorem c_place0 {k : MM → Prop} {x1 x2 hr : Int} {S0 : Nat → Int} {W : Nat → Nat → Int} (e : Nat) (e1 : x1 = (e : Int)) (he : e < 8) (hs : SetW S0 (m 305) hr W) (h : ∀ S', SetW S0 S' hr (mvW W e x2 hr) → k (sc m 305 S')) : N G (d + 1) mi_X8_place0 0 [some (vr 304), some (vi x1), some (vi x2)] [] m (RV k) := by
  obtain ⟨u2, ue, uc, uo⟩ := hs
  refine g_X8_place0_0 _ _ (c_set (20 + 8 * e + 2) (by omega) (by omega) (c_set (20 + 8 * e + 3) (by omega) (by omega) ?_))
  simp only [sc_sc, sc_at]
  rw [up_ne _ _ (show 2 ≠ 20 + 8 * e + 2 by omega), u2]
  refine h _ ⟨by simp (disch := omega) only [up_ne]; exact u2, fun a ha q hq => ?_, fun a ha => by simp (disch := omega) only [up_ne]; exact uc a ha, fun j hj => by simp (disch := omega) only [up_ne]; exact uo j hj⟩
  unfold mvW
  by_cases ea : a = e
  · subst ea
    by_cases q0 : q = 0
    · subst q0
      rw [if_pos ⟨rfl, rfl⟩, up_ne _ _ (by omega), Nat.add_zero, up_at]
    · by_cases q1 : q = 1
      · subst q1
        rw [if_neg (by omega), if_pos ⟨rfl, rfl⟩, show 20 + 8 * a + 2 + 1 = 20 + 8 * a + 3 from rfl, up_at]
      · rw [if_neg (by omega), if_neg (by omega), up_ne _ _ (by omega), up_ne _ _ (by omega)]
        exact ue a ha q hq
  · rw [if_neg (by omega), if_neg (by omega), up_ne _ _ (by omega), up_ne _ _ (by omega)]
    exact ue a ha q hq
theorem c_exchange {k : MM → Prop} {x1 x2 hr : Int} {S0 : Nat → Int} {W : Nat → Nat → Int} (i j : Nat) (e1 : x1 = (i : Int)) (hi : i < 8) (e2 : x2 = (j : Int)) (hj : j < 8) (hs : SetW S0 (m 305) hr W) (h : ∀ S', SetW S0 S' hr (swW W hr i j) → k (sc m 305 S')) : N G (d + 2) mi_X8_exchange 0 [some (vr 304), some (vi x1), some (vi x2), none] [] m (RV k) := by
  have g1 := hs.2.1 i hi 0 (by omega)
  have g2 := hs.2.1 j hj 0 (by omega)
  rw [Nat.add_zero] at g1 g2
  refine g_X8_exchange_0 _ _ (c_get (20 + 8 * i + 2) (by omega) (by omega) (c_get (20 + 8 * j + 2) (by omega) (by omega) ?_))
  rw [g1, g2]
  refine c_place0 i e1 hi hs (fun S1 hs1 => c_place0 j e2 hj (S0 := S0) (hr := hr) (by rw [sc_at]; exact hs1) (fun S2 hs2 => ?_))
  rw [sc_sc]
  exact h S2 hs2
end Deed3
