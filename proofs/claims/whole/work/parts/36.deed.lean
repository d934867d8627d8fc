/-! ===== deeds: what both sides do to the eyes ===== -/
def lnW (W : Nat → Nat → Int) (e : Nat) (z : Int) : Nat → Nat → Int := fun e' q => if e' = e then (if q = 2 then z else if q = 3 then W e 2 else if q = 4 then W e 3 else if q = 5 then W e 4 else W e q) else W e' q
def seeW (S X : Nat → Int) (hr : Int) (W : Nat → Nat → Int) (e th : Nat) (who : Int) : Int := seeF X (S 4) (nmv S e hr (W e 1) (cmy W e) th who)
/-- how many of the first n eyes see a touch, and what they know behind it -/
def flW (S X : Nat → Int) (hr : Int) (th : Nat) (who : Int) (W : Nat → Nat → Int) : Nat → Int × (Nat → Nat → Int)
  | 0 => (0, W)
  | n + 1 => if (flW S X hr th who W n).2 n 0 = who ∧ seeW S X hr (flW S X hr th who W n).2 n th who ≠ 0 then ((flW S X hr th who W n).1 + 1, if S (20 + 8 * n + 1) = 1 then lnW (lnW (flW S X hr th who W n).2 n th) n th else lnW (flW S X hr th who W n).2 n th) else flW S X hr th who W n
abbrev roomF (C : Int) (W : Nat → Nat → Int) (who : Int) : Prop := who = -1 ∨ ((0 ≤ who ∧ who < C) ∧ wcnt (fun e => W e 0) who 8 < 2)
/-- a deed: nothing if it can't be; its answer, the hour and the eyes behind it -/
def dF (S X : Nat → Int) (C hr : Int) (W : Nat → Nat → Int) (deed one other : Int) : Option (Int × Int × (Nat → Nat → Int)) :=
  if deed = 2 then (if (0 ≤ one ∧ one < S 0) ∧ (0 ≤ other ∧ other < C) ∧ hr < 999 then some ((flW S X (hr + 1) one.toNat other W (S 1).toNat).1, hr + 1, (flW S X (hr + 1) one.toNat other W (S 1).toNat).2) else none)
  else if deed = 3 then (if (0 ≤ one ∧ one < S 1) ∧ W one.toNat 0 ≠ other ∧ roomF C W other then some (0, hr, mvW W one.toNat other hr) else none)
  else if deed = 5 then (if (0 ≤ one ∧ one < S 1) ∧ (0 ≤ other ∧ other < S 1) ∧ one ≠ other then some (0, hr, swW W hr one.toNat other.toNat) else none)
  else (if 0 ≤ one ∧ one < S 1 then some (cnt (fun q => W one.toNat (2 + q)) 4, hr, fgW W one.toNat) else none)
/-! the eyes stay well -/
theorem wcnt_up {f : Nat → Int} {i : Nat} {x w : Int} : ∀ n, i < n → wcnt (fun e => if e = i then x else f e) w n + (if f i = w then 1 else 0) = wcnt f w n + (if x = w then 1 else 0) := by
  intro n
  induction n with
  | zero => intro h; omega
  | succ n ih =>
    intro h
    by_cases e : i = n
    · subst e
      have := wcnt_cong (f := fun e => if e = i then x else f e) (g := f) (who := w) i (fun a ha => if_neg (by omega))
      rw [wcnt, wcnt, this, if_pos rfl]
      omega
    · rw [wcnt, wcnt, show (if n = i then x else f n) = f n from if_neg (fun q => e q.symm)]
      have := ih (by omega)
      omega
theorem WfV.mv {C n hr who : Int} {W : Nat → Nat → Int} (h : WfV C n hr W) {i : Nat} (hi : (i : Int) < n) (hi8 : i < 8) (hw : -1 ≤ who ∧ who < C) (hc : ∀ w, 0 ≤ w → wcnt (fun e => mvW W i who hr e 0) w 8 ≤ 2) : WfV C n hr (mvW W i who hr) := by
  obtain ⟨h1, h2, h3, h4, h5⟩ := h
  refine ⟨h1, h2, fun e he => ?_, fun e he hn => ?_, hc⟩
  · have q := h3 e he
    by_cases e1 : e = i
    · subst e1
      unfold eyeOK mvW at *
      simp
      exact ⟨hw.1, hw.2, h1, h2, q.2.2.2.2⟩
    · unfold eyeOK mvW at *
      simp [e1]
      exact q
  · have q := h4 e he hn
    have e1 : e ≠ i := by omega
    unfold eye0 mvW at *
    simp [e1]
    exact q
theorem mv_fun (W : Nat → Nat → Int) (i : Nat) (who hr : Int) : (fun e => mvW W i who hr e 0) = fun e => if e = i then who else W e 0 := by
  funext e
  unfold mvW
  by_cases h : e = i <;> simp [h]
theorem WfV.put {C n hr who : Int} {W : Nat → Nat → Int} (h : WfV C n hr W) {i : Nat} (hi : (i : Int) < n) (hi8 : i < 8) (hne : W i 0 ≠ who) (hr' : roomF C W who) (hC : 1 ≤ C) : WfV C n hr (mvW W i who hr) := by
  refine h.mv hi hi8 (by rcases hr' with q | q <;> omega) (fun w hw => ?_)
  rw [mv_fun]
  have q := wcnt_up (f := fun e => W e 0) (i := i) (x := who) (w := w) 8 hi8
  have q2 := h.2.2.2.2 w hw
  by_cases e : who = w
  · subst e
    rw [if_pos rfl] at q
    rcases hr' with q3 | q3
    · omega
    · have := q3.2
      omega
  · rw [if_neg e] at q
    omega
theorem WfV.sw {C n hr : Int} {W : Nat → Nat → Int} (h : WfV C n hr W) {i j : Nat} (hi : (i : Int) < n) (hi8 : i < 8) (hj : (j : Int) < n) (hj8 : j < 8) (hij : i ≠ j) : WfV C n hr (swW W hr i j) := by
  have w1 := h.2.2.1 i hi8
  have w2 := h.2.2.1 j hj8
  have base : ∀ w, wcnt (fun e => mvW W i (W j 0) hr e 0) w 8 + (if W i 0 = w then 1 else 0) = wcnt (fun e => W e 0) w 8 + (if W j 0 = w then 1 else 0) := by
    intro w
    rw [mv_fun]
    exact wcnt_up (f := fun e => W e 0) (i := i) (x := W j 0) (w := w) 8 hi8
  obtain ⟨h1, h2, h3, h4, h5⟩ := h
  refine ⟨h1, h2, fun e he => ?_, fun e he hn => ?_, fun w hw => ?_⟩
  · have q := h3 e he
    unfold eyeOK at *
    unfold swW mvW
    by_cases e1 : e = j
    · subst e1
      simp
      exact ⟨w1.1, w1.2.1, h1, h2, q.2.2.2.2⟩
    · by_cases e2 : e = i
      · subst e2
        simp [e1]
        exact ⟨w2.1, w2.2.1, h1, h2, q.2.2.2.2⟩
      · simp [e1, e2]
        exact q
  · have q := h4 e he hn
    have e1 : e ≠ i := by omega
    have e2 : e ≠ j := by omega
    unfold eye0 swW mvW at *
    simp [e1, e2]
    exact q
  · have q := base w
    have q2 := h5 w hw
    unfold swW
    rw [mv_fun]
    have q3 := wcnt_up (f := fun e => mvW W i (W j 0) hr e 0) (i := j) (x := W i 0) (w := w) 8 hj8
    rw [show mvW W i (W j 0) hr j 0 = W j 0 by unfold mvW; simp [Ne.symm hij]] at q3
    omega
theorem WfV.fg {C n hr : Int} {W : Nat → Nat → Int} (h : WfV C n hr W) (i : Nat) (hi : (i : Int) < n) : WfV C n hr (fgW W i) := by
  obtain ⟨h1, h2, h3, h4, h5⟩ := h
  refine ⟨h1, h2, fun e he => ?_, fun e he hn => ?_, by rw [show (fun e => fgW W i e 0) = fun e => W e 0 from by funext e; unfold fgW; simp]; exact h5⟩
  · have q := h3 e he
    unfold eyeOK fgW at *
    by_cases e1 : e = i
    · simp [e1]; rw [← e1]; omega
    · simp [e1]; exact q
  · have q := h4 e he hn
    have e1 : e ≠ i := by omega
    unfold eye0 fgW at *
    simp [e1]
    exact q
theorem WfV.ln {C n hr : Int} {W : Nat → Nat → Int} (h : WfV C n hr W) (i : Nat) (hi : (i : Int) < n) {z : Int} (hz : th z) : WfV C n hr (lnW W i z) := by
  obtain ⟨h1, h2, h3, h4, h5⟩ := h
  have e0 : (fun e => lnW W i z e 0) = fun e => W e 0 := by
    funext e
    unfold lnW
    by_cases q : e = i <;> simp [q]
  refine ⟨h1, h2, fun e he => ?_, fun e he hn => ?_, by rw [e0]; exact h5⟩
  · have q := h3 e he
    unfold eyeOK lnW at *
    by_cases e1 : e = i
    · subst e1; simp; exact ⟨q.1, q.2.1, q.2.2.1, q.2.2.2.1, hz, q.2.2.2.2.1, q.2.2.2.2.2.1, q.2.2.2.2.2.2.1⟩
    · simp [e1]; exact q
  · have q := h4 e he hn
    have e1 : e ≠ i := by omega
    unfold eye0 lnW at *
    simp [e1]
    exact q
theorem fl_ok {C n1 hr : Int} {W : Nat → Nat → Int} (S X : Nat → Int) (th' : Nat) (ht : th' < 8) (who : Int) (h : WfV C n1 hr W) : ∀ n : Nat, (n : Int) ≤ n1 → WfV C n1 hr (flW S X hr th' who W n).2 ∧ (∀ e q, q < 2 → (flW S X hr th' who W n).2 e q = W e q) ∧ 0 ≤ (flW S X hr th' who W n).1 ∧ (flW S X hr th' who W n).1 ≤ (n : Int) ∧ (∀ e, n ≤ e → ∀ q, (flW S X hr th' who W n).2 e q = W e q) := by
  intro n
  induction n with
  | zero => intro _; exact ⟨h, fun _ _ _ => rfl, Int.le_refl 0, Int.le_refl 0, fun _ _ _ => rfl⟩
  | succ n ih =>
    intro hn
    obtain ⟨i1, i2, i3, i4, i5⟩ := ih (by omega)
    rw [flW]
    split
    · have tz : th (th' : Int) := by omega
      have l2 : ∀ (V : Nat → Nat → Int) (e q : Nat), q < 2 → lnW V n th' e q = V e q := by
        intro V e q hq
        unfold lnW
        by_cases e1 : e = n
        · rw [if_pos e1, if_neg (by omega), if_neg (by omega), if_neg (by omega), if_neg (by omega), e1]
        · rw [if_neg e1]
      have l3 : ∀ (V : Nat → Nat → Int) (e q : Nat), e ≠ n → lnW V n th' e q = V e q := fun V e q hq => by unfold lnW; rw [if_neg hq]
      split
      · exact ⟨(i1.ln n (by omega) tz).ln n (by omega) tz, fun e q hq => by dsimp only; rw [l2 _ _ _ hq, l2 _ _ _ hq]; exact i2 e q hq, by show 0 ≤ _ + 1; omega, by show _ + 1 ≤ _; omega, fun e he q => by dsimp only; rw [l3 _ _ _ (by omega), l3 _ _ _ (by omega)]; exact i5 e (by omega) q⟩
      · exact ⟨i1.ln n (by omega) tz, fun e q hq => by dsimp only; rw [l2 _ _ _ hq]; exact i2 e q hq, by show 0 ≤ _ + 1; omega, by show _ + 1 ≤ _; omega, fun e he q => by dsimp only; rw [l3 _ _ _ (by omega)]; exact i5 e (by omega) q⟩
    · exact ⟨i1, i2, i3, by omega, fun e he q => i5 e (by omega) q⟩
theorem WfV.hour {C n hr hr' : Int} {W : Nat → Nat → Int} (h : WfV C n hr W) (h' : 0 ≤ hr' ∧ hr' ≤ 999) : WfV C n hr' W := ⟨h'.1, h'.2, h.2.2.1, h.2.2.2.1, h.2.2.2.2⟩
theorem dF_ok {S X : Nat → Int} {C hr : Int} {W : Nat → Nat → Int} {deed one other a hr' : Int} {W' : Nat → Nat → Int} (hC : 1 ≤ C) (h0 : 0 ≤ S 0 ∧ S 0 ≤ 8) (h1 : 0 ≤ S 1 ∧ S 1 ≤ 8) (hv : WfV C (S 1) hr W) (h : dF S X C hr W deed one other = some (a, hr', W')) : WfV C (S 1) hr' W' ∧ 0 ≤ a ∧ a ≤ 8 := by
  unfold dF at h
  have hh := hv.1
  split at h
  · split at h
    · rename_i q
      injection h with h
      injection h with e1 h
      injection h with e2 e3
      subst e1 e2 e3
      have := fl_ok S X one.toNat (by omega) other (hv.hour (hr' := hr + 1) (by omega)) (S 1).toNat (by omega)
      exact ⟨this.1, this.2.2.1, by have := this.2.2.2.1; omega⟩
    · cases h
  · split at h
    · split at h
      · rename_i q
        injection h with h
        injection h with e1 h
        injection h with e2 e3
        subst e1 e2 e3
        exact ⟨hv.put (by omega) (by omega) q.2.1 q.2.2 hC, by omega, by omega⟩
      · cases h
    · split at h
      · split at h
        · rename_i q
          injection h with h
          injection h with e1 h
          injection h with e2 e3
          subst e1 e2 e3
          exact ⟨hv.sw (by omega) (by omega) (by omega) (by omega) (by omega), by omega, by omega⟩
        · cases h
      · split at h
        · rename_i q
          injection h with h
          injection h with e1 h
          injection h with e2 e3
          subst e1 e2 e3
          have := cnt_bd (fun q => W one.toNat (2 + q)) 4
          exact ⟨hv.fg _ (by omega), by omega, by omega⟩
        · cases h
section Deed
variable {G : GG} {d : Nat} {m : MM}
theorem c7_hasRoom {k : Int → MM → Prop} {C n hr x2 : Int} {W : Nat → Nat → Int} (c : Nat) (h0 : SH c = .inr 0) (hC : Crt m c hr W) (hv : WfV C n hr W) (hCC : 1 ≤ C ∧ C ≤ 6) (e00 : m 0 0 = C) (hx : rng x2) (hy : roomF C W x2 → k 1 m) (hn : ¬ roomF C W x2 → k 0 m) : N G (d + 2) mi_X7_hasRoom 0 [some (vr 0), some (vr c), some (vi x2)] [] m (RI k) := by
  have hW : ∀ e, e < 8 → m (c + 1) e = W e 0 := fun e he => (hC.2 e he).1
  have hlt := wset_lt (fun e => W e 0) x2 8
  have hpop : popN (wset (fun e => W e 0) x2 8) 8 = wcnt (fun e => W e 0) x2 8 := pop_wset _ _ _ _ (Nat.le_refl 8)
  refine g_X7_hasRoom_0 c h0 _ (eqI (by omega) (fun q => hy (Or.inl q)) (fun q => c7_isCourtier (by omega) (fun q2 => eqF (by omega) (c0_wornSet c h0 hx (fun e he => ?_) ?_)) (fun q2 => eqT (by omega) (hn (by unfold roomF; omega)))))
  · rw [hW e he]
    have := hv.2.2.1 e he
    unfold eyeOK at this
    omega
  · rw [wset_cong 8 hW]
    refine c_bitCount _ rfl (by omega) ?_
    rw [hpop]
    have hb := popN_le (wset (fun e => W e 0) x2 8) 8
    refine leI (by omega) (fun q3 => hn (by unfold roomF; omega)) (fun q3 => hy (Or.inr ⟨by omega, by omega⟩))
theorem c7_canBe {k : Int → MM → Prop} {C hr x2 x3 x4 : Int} {S X : Nat → Int} {W : Nat → Nat → Int} (c : Nat) (h0 : SH c = .inr 0) (hC : Crt m c hr W) (hv : WfV C (S 1) hr W) (hS0 : 0 ≤ S 0 ∧ S 0 ≤ 8) (hS1 : 0 ≤ S 1 ∧ S 1 ≤ 8) (hCC : 1 ≤ C ∧ C ≤ 6) (e00 : m 0 0 = C) (e0 : m 12 0 = S 0) (e2 : m 12 2 = S 1) (hx3 : rng x3) (hx4 : rng x4) (hdd : x2 = 2 ∨ x2 = 3 ∨ x2 = 5 ∨ x2 = 6) (hn : dF S X C hr W x2 x3 x4 = none → k 0 m) (hy : ∀ r, dF S X C hr W x2 x3 x4 = some r → k 1 m) : N G (d + 3) mi_X7_canBe 0 [some (vr 0), some (vr c), some (vi x2), some (vi x3), some (vi x4)] [] m (RI k) := by
  unfold dF at hn hy
  have hC0 := hC.1
  have hv1 := hv.1
  have hv2 := hv.2.1
  refine g_X7_canBe_0 c h0 _ _ _ ⟨by omega, fun e => ?_, fun e => ?_, fun e => absurd e (by omega), fun e => ?_, fun e => ?_⟩
  · subst e
    simp only [if_true] at hn hy
    refine c7_isThing (by omega) (fun q => eqF (by omega) (c7_isCourtier (by omega) (fun q2 => eqF (by omega) (leI (by omega) (fun q3 => hn (if_neg (by omega))) (fun q3 => hy _ (if_pos (by omega))))) (fun q2 => eqT (by omega) (hn (if_neg (by omega)))))) (fun q => eqT (by omega) (hn (if_neg (by omega))))
  · subst e
    simp only [show ¬ (3 : Int) = 2 by decide, if_false, if_true] at hn hy
    refine c7_isEye (by omega) (fun q => eqF (by omega) ⟨x3.toNat, by omega, ?_⟩) (fun q => eqT (by omega) (hn (if_neg (fun z => by omega))))
    have hW : m (c + 1) x3.toNat = W x3.toNat 0 := (hC.2 x3.toNat (by omega)).1
    have hwd := hv.2.2.1 x3.toNat (by omega)
    rw [hW]
    unfold eyeOK at hwd
    refine eqI (by omega) (fun q2 => hn (if_neg (fun z => z.2.1 q2))) (fun q2 => c7_hasRoom c h0 hC hv hCC e00 hx4 (fun q3 => eqF (by omega) (hy _ (if_pos ⟨by omega, q2, q3⟩))) (fun q3 => eqT (by omega) (hn (if_neg (fun z => q3 z.2.2)))))
  · subst e
    simp only [show ¬ (5 : Int) = 2 by decide, show ¬ (5 : Int) = 3 by decide, if_false, if_true] at hn hy
    refine c7_isEye (by omega) (fun q => eqF (by omega) (c7_isEye (by omega) (fun q2 => eqF (by omega) (eqI (by omega) (fun q3 => hn (if_neg (by omega))) (fun q3 => hy _ (if_pos (by omega))))) (fun q2 => eqT (by omega) (hn (if_neg (by omega)))))) (fun q => eqT (by omega) (hn (if_neg (by omega))))
  · have e6 : x2 = 6 := by omega
    subst e6
    simp only [show ¬ (6 : Int) = 2 by decide, show ¬ (6 : Int) = 3 by decide, show ¬ (6 : Int) = 5 by decide, if_false] at hn hy
    refine g_X7_canBe_129 _ (c7_isEye (by omega) (fun q => ⟨by omega, hy _ (if_pos (by omega))⟩) (fun q => ⟨by omega, hn (if_neg (by omega))⟩))
end Deed
