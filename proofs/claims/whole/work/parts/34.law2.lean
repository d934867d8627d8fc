/-! ===== the laws' reckoning: the two loops ===== -/
section Law2
variable {G : GG} {d : Nat} {m : MM}
theorem c3_ask {k : Int → MM → Prop} {x1 x2 o : Int} (ho : 10 ≤ o ∧ o ≤ 15) (h1 : sm x1) (h3 : sm x2) (h : k (askI o x1 x2) m) : N G d mi_X3_joined 0 [some (vi (tok o)), some (vi x1), some (vi x2)] [] m (RJG k) := by
  have h4 : o = 10 ∨ o = 11 ∨ o = 12 ∨ o = 13 ∨ o = 14 ∨ o = 15 := by omega
  refine g_X3_joined_0 _ _ _ ?_
  rcases h4 with rfl | rfl | rfl | rfl | rfl | rfl
  · rw [show tok 10 = 22 by decide]
    refine ⟨by omega, ?_⟩
    repeat' apply And.intro
    all_goals intro e
    all_goals first | exact absurd e (by omega) | skip
    refine leI (by omega) (fun q => ?_) (fun q => ?_)
    · rw [show askI 10 x1 x2 = 0 by simp [askI]; omega] at h; exact h
    · rw [show askI 10 x1 x2 = 1 by simp [askI]; omega] at h; exact h
  · rw [show tok 11 = 23 by decide]
    refine ⟨by omega, ?_⟩
    repeat' apply And.intro
    all_goals intro e
    all_goals first | exact absurd e (by omega) | skip
    refine ltI (by omega) (fun q => ?_) (fun q => ?_)
    · rw [show askI 11 x1 x2 = 0 by simp [askI]; omega] at h; exact h
    · rw [show askI 11 x1 x2 = 1 by simp [askI]; omega] at h; exact h
  · rw [show tok 12 = 24 by decide]
    refine ⟨by omega, ?_⟩
    repeat' apply And.intro
    all_goals intro e
    all_goals first | exact absurd e (by omega) | skip
    refine leI (by omega) (fun q => ?_) (fun q => ?_)
    · rw [show askI 12 x1 x2 = 0 by simp [askI]; omega] at h; exact h
    · rw [show askI 12 x1 x2 = 1 by simp [askI]; omega] at h; exact h
  · rw [show tok 13 = 25 by decide]
    refine ⟨by omega, ?_⟩
    repeat' apply And.intro
    all_goals intro e
    all_goals first | exact absurd e (by omega) | skip
    refine ltI (by omega) (fun q => ?_) (fun q => ?_)
    · rw [show askI 13 x1 x2 = 0 by simp [askI]; omega] at h; exact h
    · rw [show askI 13 x1 x2 = 1 by simp [askI]; omega] at h; exact h
  · rw [show tok 14 = 26 by decide]
    refine ⟨by omega, ?_⟩
    repeat' apply And.intro
    all_goals intro e
    all_goals first | exact absurd e (by omega) | skip
    refine eqI (by omega) (fun q => ?_) (fun q => ?_)
    · rw [show askI 14 x1 x2 = 1 by simp [askI]; omega] at h; exact h
    · rw [show askI 14 x1 x2 = 0 by simp [askI]; omega] at h; exact h
  · rw [show tok 15 = 27 by decide]
    refine ⟨by omega, ?_⟩
    repeat' apply And.intro
    all_goals intro e
    all_goals first | exact absurd e (by omega) | skip
    refine g_X3_joined_198 _ _ (eqI (by omega) (fun q => ?_) (fun q => ?_))
    · rw [show askI 15 x1 x2 = 0 by simp [askI]; omega] at h; exact h
    · rw [show askI 15 x1 x2 = 1 by simp [askI]; omega] at h; exact h
abbrev b01 (z : Int) : Prop := z = 0 ∨ z = 1
def bo2 (o x y : Int) : Int := if o = 21 then (if x = 0 then 0 else y) else (if x = 0 then y else 1)
theorem bo2_01 {o x y : Int} (hy : b01 y) : b01 (bo2 o x y) := by
  unfold bo2
  split <;> split <;> first | exact hy | exact Or.inl rfl | exact Or.inr rfl
theorem c3_bool {k : Int → MM → Prop} {x1 x2 o : Int} (ho : o = 21 ∨ o = 22) (h1 : b01 x1) (h3 : b01 x2) (h : k (bo2 o x1 x2) m) : N G d mi_X3_joined 0 [some (vi (tok o)), some (vi x1), some (vi x2)] [] m (RJG k) := by
  refine g_X3_joined_0 _ _ _ ?_
  rcases ho with rfl | rfl
  · rw [show tok 21 = 11 by decide]
    refine ⟨by omega, ?_⟩
    have e2 : iand x1 x2 = bo2 21 x1 x2 := by rcases h1 with rfl | rfl <;> rcases h3 with rfl | rfl <;> decide
    have e3 := bo2_01 (o := 21) (x := x1) h3
    repeat' apply And.intro
    all_goals try intro e
    all_goals first | exact absurd e (by omega) | skip
    rw [e2]
    exact ⟨by omega, h⟩
  · rw [show tok 22 = 10 by decide]
    refine ⟨by omega, ?_⟩
    have e2 : ior x1 x2 = bo2 22 x1 x2 := by rcases h1 with rfl | rfl <;> rcases h3 with rfl | rfl <;> decide
    have e3 := bo2_01 (o := 22) (x := x1) h3
    repeat' apply And.intro
    all_goals try intro e
    all_goals first | exact absurd e (by omega) | skip
    rw [e2]
    exact ⟨by omega, h⟩
theorem i2z_01 {z : Int} (h : b01 z) : i2z z = z := by rcases h with rfl | rfl <;> decide
/-! ev, case by case -/
section Ev
variable {X : Nat → Int} {b n i t v : Nat} {nm vs ts : Nat → Int}
theorem ev_0 (h : X (b + 75 + 2 * i) = 0) : ev X b nm (n + 1) i t v vs ts = ev X b nm n (i + 1) t (v + 1) (up vs v (X (b + 75 + 2 * i + 1))) ts := by
  rw [ev]; exact if_pos h
theorem ev_1 (h : X (b + 75 + 2 * i) = 1) : ev X b nm (n + 1) i t v vs ts = ev X b nm n (i + 1) t (v + 1) (up vs v (nm (X (b + 75 + 2 * i + 1)).toNat)) ts := by
  rw [ev]; exact (if_neg (by omega)).trans (if_pos h)
theorem ev_2 (h : X (b + 75 + 2 * i) = 2) : ev X b nm (n + 1) i t v vs ts = ev X b nm n (i + 1) t v (up vs (v - 1) (-(vs (v - 1)))) ts := by
  rw [ev]; exact (if_neg (by omega)).trans ((if_neg (by omega)).trans (if_pos h))
theorem ev_3 (h : 3 ≤ X (b + 75 + 2 * i) ∧ X (b + 75 + 2 * i) ≤ 6) : ev X b nm (n + 1) i t v vs ts = ev X b nm n (i + 1) t (v - 1) (up vs (v - 2) (ar2 (X (b + 75 + 2 * i)) (vs (v - 2)) (vs (v - 1)))) ts := by
  rw [ev]; exact (if_neg (by omega)).trans ((if_neg (by omega)).trans ((if_neg (by omega)).trans (if_pos (by omega))))
theorem ev_10 (h : 10 ≤ X (b + 75 + 2 * i) ∧ X (b + 75 + 2 * i) ≤ 15) : ev X b nm (n + 1) i t v vs ts = ev X b nm n (i + 1) (t + 1) 0 vs (up ts t (askI (X (b + 75 + 2 * i)) (vs 0) (vs 1))) := by
  rw [ev]; exact (if_neg (by omega)).trans ((if_neg (by omega)).trans ((if_neg (by omega)).trans ((if_neg (by omega)).trans (if_pos (by omega)))))
theorem ev_20 (h : X (b + 75 + 2 * i) = 20) : ev X b nm (n + 1) i t v vs ts = ev X b nm n (i + 1) t 0 vs (up ts (t - 1) (1 - ts (t - 1))) := by
  rw [ev]; exact (if_neg (by omega)).trans ((if_neg (by omega)).trans ((if_neg (by omega)).trans ((if_neg (by omega)).trans ((if_neg (by omega)).trans (if_pos (by omega))))))
theorem ev_21 (h : X (b + 75 + 2 * i) = 21 ∨ X (b + 75 + 2 * i) = 22) : ev X b nm (n + 1) i t v vs ts = ev X b nm n (i + 1) (t - 1) 0 vs (up ts (t - 2) (bo2 (X (b + 75 + 2 * i)) (ts (t - 2)) (ts (t - 1)))) := by
  rcases h with h | h
  · rw [ev]
    refine (if_neg (by omega)).trans ((if_neg (by omega)).trans ((if_neg (by omega)).trans ((if_neg (by omega)).trans ((if_neg (by omega)).trans ((if_neg (by omega)).trans ((if_pos (by omega)).trans ?_))))))
    rw [h]
    simp only [bo2, if_true]
  · rw [ev]
    refine (if_neg (by omega)).trans ((if_neg (by omega)).trans ((if_neg (by omega)).trans ((if_neg (by omega)).trans ((if_neg (by omega)).trans ((if_neg (by omega)).trans ((if_neg (by omega)).trans ?_))))))
    rw [h]
    rfl
end Ev
theorem up_all {P : Int → Prop} {f : Nat → Int} {n k : Nat} {z : Int} (hf : ∀ j, j < n → j ≠ k → P (f j)) (hz : P z) : ∀ j, j < n → P (up f k z j) := by
  intro j hj
  by_cases e : j = k
  · rw [e, up_at]; exact hz
  · rw [up_ne _ _ e]; exact hf j hj e
theorem c_work_loop {k : MM → Prop} {x2 x3 : Int} {X nm : Nat → Int} {b E i0 L : Nat} {r : Nat × Nat} (hb : b + 680 ≤ 2720) (jx : Nat) (e2 : x2 + 2 = (jx : Int)) (h2 : jx < 2720) (hX : m 308 = X) (hE : X jx = (E : Int)) (hE3 : E ≤ 300) (e3 : x3 = (b : Int) + 75) (hL9 : L ≤ 9) (hn1 : ∀ j, j < L → m 311 j = nm j) (hnm : ∀ j, j < L → sm (nm j)) (hL : ∀ q, i0 ≤ q → q < E → X (b + 75 + 2 * q) = 1 → X (b + 75 + 2 * q + 1) < (L : Int)) :
    ∀ (n i t v : Nat) (x4 x5 x6 : Int) (vs ts : Nat → Int), i0 ≤ i → i + n = E → x4 = (v : Int) → x5 = (t : Int) → x6 = (i : Int) → chk X b n i t v = some r → (∀ j, j < v → sm (vs j)) → (∀ j, j < t → b01 (ts j)) →
    k (sc (sc m 312 (ev X b nm n i t v vs ts).1) 313 (ev X b nm n i t v vs ts).2) → N G (d + 2) mi_X8_work 47 [some (vr 304), none, some (vi x2), some (vi x3), some (vi x4), some (vi x5), some (vi x6), none, none] [] (sc (sc m 312 vs) 313 ts) (RV k) := by
  intro n
  induction n with
  | zero =>
    intro i t v x4 x5 x6 vs ts h0 hi h4 h5 h6 hc hv ht hk
    refine g_X8_work_47 _ _ _ _ _ ⟨jx, ⟨e2, h2⟩, ?_⟩
    rw [show sc (sc m 312 vs) 313 ts 308 jx = (E : Int) by rw [sc_ne _ _ (by decide), sc_ne _ _ (by decide), hX, hE]]
    exact leT (by omega) hk
  | succ n ih =>
    intro i t v x4 x5 x6 vs ts h0 hi h4 h5 h6 hc hv ht hk
    have r308 : ∀ j, sc (sc m 312 vs) 313 ts 308 j = X j := fun j => by rw [sc_ne _ _ (by decide), sc_ne _ _ (by decide), hX]
    have r311 : ∀ j, sc (sc m 312 vs) 313 ts 311 j = m 311 j := fun j => by rw [sc_ne _ _ (by decide), sc_ne _ _ (by decide)]
    have r312 : ∀ j, sc (sc m 312 vs) 313 ts 312 j = vs j := fun j => by rw [sc_ne _ _ (by decide), sc_at]
    have r313 : ∀ j, sc (sc m 312 vs) 313 ts 313 j = ts j := fun j => by rw [sc_at]
    have u312 : ∀ j z, upm (sc (sc m 312 vs) 313 ts) 312 j z = sc (sc m 312 (up vs j z)) 313 ts := fun j z => by
      rw [upm_sc]; funext a c; unfold sc; by_cases h : a = 312 <;> by_cases h' : a = 313 <;> simp [h, h'] <;> omega
    have u313 : ∀ j z, upm (sc (sc m 312 vs) 313 ts) 313 j z = sc (sc m 312 vs) 313 (up ts j z) := fun j z => by
      rw [upm_sc, sc_sc, sc_at]
    replace hc := chk_inv hc
    obtain ⟨h32, hc⟩ := hc
    refine g_X8_work_47 _ _ _ _ _ ⟨jx, ⟨e2, h2⟩, ?_⟩
    rw [r308, hE]
    refine leF (by omega) ⟨b + 75 + 2 * i, by omega, b + 75 + 2 * i + 1, by omega, ?_⟩
    rw [r308, r308]
    simp only [r308, r311, r312, r313, u312, u313]
    rcases hc with ⟨ho, hw, h33, hc⟩ | ⟨ho, hw, h33, hc⟩ | ⟨ho, hv1, hc⟩ | ⟨ho, hv1, hc⟩ | ⟨ho, hv1, hc⟩ | ⟨ho, hv1, hc⟩ | ⟨ho, hv1, hc⟩
    · rw [ev_0 ho] at hk
      refine ltF (by omega) (eqT (by omega) ⟨by omega, v, by omega, fun m1 e1 => ?_⟩)
      rw [e1]
      exact ih (i + 1) t (v + 1) _ _ _ _ _ (by omega) (by omega) (by omega) h5 (by omega) hc (up_all (fun j hj hne => hv j (by omega)) (by omega)) ht hk
    · rw [ev_1 ho] at hk
      have hLi := hL i h0 (by omega) ho
      refine ltF (by omega) (eqF (by omega) ⟨(X (b + 75 + 2 * i + 1)).toNat, by omega, ?_, v, by omega, fun m1 e1 => ?_⟩)
      · have := hnm (X (b + 75 + 2 * i + 1)).toNat (by omega)
        rw [hn1 _ (by omega)]
        omega
      · rw [e1, hn1 _ (by omega)]
        exact ih (i + 1) t (v + 1) _ _ _ _ _ (by omega) (by omega) (by omega) h5 (by omega) hc (up_all (fun j hj hne => hv j (by omega)) (hnm _ (by omega))) ht hk
    · rw [ev_2 ho] at hk
      refine ltT (by omega) (eqT (by omega) ⟨v - 1, by omega, v - 1, by omega, fun m1 e1 => ?_⟩)
      rw [e1]
      have := hv (v - 1) (by omega)
      exact ih (i + 1) t v _ _ _ _ _ (by omega) (by omega) (by omega) h5 (by omega) hc (up_all (fun j hj hne => hv j (by omega)) (by omega)) ht hk
    · rw [ev_3 ho] at hk
      refine ltT (by omega) (eqF (by omega) (leF (by omega) ⟨v - 2, by omega, v - 1, by omega, c_two ho (hv _ (by omega)) (hv _ (by omega)) ⟨v - 2, by omega, fun m1 e1 => ?_⟩⟩))
      rw [e1, u312]
      exact ih (i + 1) t (v - 1) _ _ _ _ _ (by omega) (by omega) (by omega) h5 (by omega) hc (up_all (fun j hj hne => hv j (by omega)) (ar2_sm _ _ _)) ht hk
    · subst hv1
      rw [ev_10 ho] at hk
      refine ltT (by omega) (eqF (by omega) (leT (by omega) (leF (by omega) ⟨0, by omega, 1, by omega, c_isAsked ho (hv _ (by omega)) (hv _ (by omega)) ⟨t, by omega, fun m1 e1 => ?_⟩⟩)))
      rw [e1, u313, i2z_01 (askI_01 _ _ _)]
      exact ih (i + 1) (t + 1) 0 _ _ _ _ _ (by omega) (by omega) (by omega) (by omega) (by omega) hc (fun j hj => absurd hj (by omega)) (up_all (fun j hj hne => ht j (by omega)) (askI_01 _ _ _)) hk
    · obtain ⟨hv1, rfl⟩ := hv1
      rw [ev_20 ho] at hk
      have h01 := ht (t - 1) (by omega)
      refine ltT (by omega) (eqF (by omega) (leT (by omega) (leT (by omega) (eqT (by omega) ⟨t - 1, by omega, eqI (by omega) (fun q => ⟨t - 1, by omega, fun m1 e1 => ?_⟩) (fun q => ⟨t - 1, by omega, fun m1 e1 => ?_⟩)⟩))))
      · rw [e1, i2z_01 (Or.inr rfl)]
        rw [q] at hk
        exact ih (i + 1) t 0 _ _ _ _ _ (by omega) (by omega) (by omega) (by omega) (by omega) hc hv (up_all (fun j hj hne => ht j (by omega)) (Or.inr rfl)) hk
      · rw [e1, i2z_01 (Or.inl rfl)]
        rw [show ts (t - 1) = 1 by omega] at hk
        exact ih (i + 1) t 0 _ _ _ _ _ (by omega) (by omega) (by omega) (by omega) (by omega) hc hv (up_all (fun j hj hne => ht j (by omega)) (Or.inl rfl)) hk
    · obtain ⟨hv1, rfl⟩ := hv1
      rw [ev_21 ho] at hk
      have h01 := ht (t - 1) (by omega)
      have h02 := ht (t - 2) (by omega)
      have fin : ∀ z m1, b01 z → z = bo2 (X (b + 75 + 2 * i)) (ts (t - 2)) (ts (t - 1)) → m1 = sc (sc m 312 vs) 313 (up ts (t - 2) (i2z z)) → N G (d + 2) mi_X8_work 47 [some (vr 304), none, some (vi x2), some (vi x3), some (vi x4), some (vi (x5 + (-1))), some (vi (x6 + 1)), none, none] [] m1 (RV k) := by
        intro z m1 hz ez e1
        rw [e1, i2z_01 hz]
        rw [← ez] at hk
        exact ih (i + 1) (t - 1) 0 _ _ _ _ _ (by omega) (by omega) (by omega) (by omega) (by omega) hc hv (up_all (fun j hj hne => ht j (by omega)) hz) hk
      refine ltT (by omega) (eqF (by omega) (leT (by omega) (leT (by omega) (eqF (by omega) ?_))))
      rcases ho with ho | ho
      · rw [ho] at fin
        refine eqT (by omega) ⟨t - 2, by omega, eqI (by omega) (fun q => ⟨t - 2, by omega, fun m1 e1 => ?_⟩) (fun q => ⟨t - 1, by omega, eqI (by omega) (fun q2 => ⟨t - 2, by omega, fun m1 e1 => ?_⟩) (fun q2 => ⟨t - 2, by omega, fun m1 e1 => ?_⟩)⟩)⟩
        · exact fin 0 m1 (Or.inl rfl) (by simp [bo2, q]) e1
        · exact fin 0 m1 (Or.inl rfl) (by simp [bo2, q2]) e1
        · exact fin 1 m1 (Or.inr rfl) (by simp [bo2, q]; omega) e1
      · rw [ho] at fin
        refine eqF (by omega) ⟨t - 2, by omega, eqI (by omega) (fun q => ⟨t - 1, by omega, eqI (by omega) (fun q2 => ⟨t - 2, by omega, fun m1 e1 => ?_⟩) (fun q2 => ⟨t - 2, by omega, fun m1 e1 => ?_⟩)⟩) (fun q => ⟨t - 2, by omega, fun m1 e1 => ?_⟩)⟩
        · exact fin 0 m1 (Or.inl rfl) (by simp [bo2, q, q2]) e1
        · exact fin 1 m1 (Or.inr rfl) (by simp [bo2, q]; omega) e1
        · exact fin 1 m1 (Or.inr rfl) (by simp [bo2, q]) e1
/-- the class: one stack, the truths under the numbers -/
def Stk (st ts vs : Nat → Int) (t v : Nat) : Prop := (∀ j, j < t → st j = ts j) ∧ (∀ j, j < v → st (t + j) = vs j)
theorem Stk.push {st ts vs : Nat → Int} {t v : Nat} (h : Stk st ts vs t v) (z : Int) : Stk (up st (t + v) z) ts (up vs v z) t (v + 1) := by
  refine ⟨fun j hj => by rw [up_ne _ _ (by omega)]; exact h.1 j hj, fun j hj => ?_⟩
  by_cases e : j = v
  · rw [e, up_at, up_at]
  · rw [up_ne _ _ (by omega), up_ne _ _ e]; exact h.2 j (by omega)
theorem Stk.top {st ts vs : Nat → Int} {t v : Nat} (h : Stk st ts vs t v) (hv : 1 ≤ v) (z : Int) : Stk (up st (t + v - 1) z) ts (up vs (v - 1) z) t v := by
  refine ⟨fun j hj => by rw [up_ne _ _ (by omega)]; exact h.1 j hj, fun j hj => ?_⟩
  by_cases e : j = v - 1
  · rw [show t + j = t + v - 1 by omega, up_at, e, up_at]
  · rw [up_ne _ _ (by omega), up_ne _ _ e]; exact h.2 j (by omega)
theorem Stk.two {st ts vs : Nat → Int} {t v : Nat} (h : Stk st ts vs t v) (hv : 2 ≤ v) (z : Int) : Stk (up st (t + v - 2) z) ts (up vs (v - 2) z) t (v - 1) := by
  refine ⟨fun j hj => by rw [up_ne _ _ (by omega)]; exact h.1 j hj, fun j hj => ?_⟩
  by_cases e : j = v - 2
  · rw [show t + j = t + v - 2 by omega, up_at, e, up_at]
  · rw [up_ne _ _ (by omega), up_ne _ _ e]; exact h.2 j (by omega)
theorem Stk.bit {st ts vs : Nat → Int} {t t' v i : Nat} (h : Stk st ts vs t v) (hi : t' ≤ i + 1) (ht : i ≤ t) (z : Int) : Stk (up st i z) (up ts i z) vs t' 0 := by
  refine ⟨fun j hj => ?_, fun j hj => absurd hj (by omega)⟩
  by_cases e : j = i
  · rw [e, up_at, up_at]
  · rw [up_ne _ _ e, up_ne _ _ e]; exact h.1 j (by omega)
theorem tok_a {o : Int} (h : 3 ≤ o ∧ o ≤ 6) : tok o = 25 + o := by
  have : o = 3 ∨ o = 4 ∨ o = 5 ∨ o = 6 := by omega
  rcases this with rfl | rfl | rfl | rfl <;> decide
theorem tok_q {o : Int} (h : 10 ≤ o ∧ o ≤ 15) : tok o = 12 + o := by
  have : o = 10 ∨ o = 11 ∨ o = 12 ∨ o = 13 ∨ o = 14 ∨ o = 15 := by omega
  rcases this with rfl | rfl | rfl | rfl | rfl | rfl <;> decide
theorem enc_tok {o w : Int} (h0 : o ≠ 0) (h1 : o ≠ 1) : enc o w = -1 - tok o := by
  have e : enc o w = enc o 0 := by unfold enc; rw [if_neg h0, if_neg h1, if_neg h0, if_neg h1]
  rw [e]; unfold tok; omega
theorem clip_id {z : Int} (h : sm z) : clipI z = z := by unfold clipI; rw [if_neg (by omega), if_neg (by omega)]
theorem c3_reckon_loop {k : Int → MM → Prop} {x3 : Int} {X nm : Nat → Int} {b i0 E L : Nat} {r : Nat × Nat} (c1 : Nat) (h1 : SH c1 = .inl (.int, 300)) (hc8 : c1 ≠ 278) (hm : ∀ q, i0 ≤ q → q < E → m c1 q = enc (X (b + 75 + 2 * q)) (X (b + 75 + 2 * q + 1))) (hE : E ≤ 300) (e3 : x3 = (E : Int)) (hL9 : L ≤ 9) (hn7 : ∀ j, j < L → m 277 j = nm j) (hnm : ∀ j, j < L → sm (nm j)) (hL : ∀ q, i0 ≤ q → q < E → X (b + 75 + 2 * q) = 1 → X (b + 75 + 2 * q + 1) < (L : Int)) (hr : 1 ≤ r.1 + r.2 ∧ r.1 + r.2 ≤ 32) :
    ∀ (n i t v : Nat) (x4 x5 : Int) (vs ts st : Nat → Int), i0 ≤ i → i + n = E → x4 = ((t + v : Nat) : Int) → x5 = (i : Int) → chk X b n i t v = some r → Stk st ts vs t v → (∀ j, j < v → sm (vs j)) → (∀ j, j < t → b01 (ts j)) →
    (∀ st', Stk st' (ev X b nm n i t v vs ts).2 (ev X b nm n i t v vs ts).1 r.1 r.2 → k (st' (r.1 + r.2 - 1)) (sc m 278 st')) → N G (d + 1) mi_X3_reckon 10 [some (vr 276), some (vr c1), none, some (vi x3), some (vi x4), some (vi x5), none, none] [] (sc m 278 st) (RI k) := by
  intro n
  induction n with
  | zero =>
    intro i t v x4 x5 vs ts st h0 hi h4 h5 hc hst hv ht hk
    have er : (t, v) = r := Option.some.inj hc
    subst er
    have hr : 1 ≤ t + v ∧ t + v ≤ 32 := hr
    refine g_X3_reckon_10 c1 h1 _ _ _ (leT (by omega) (g_X3_reckon_218 _ (ltF (by omega) ⟨t + v - 1, by omega, ?_⟩)))
    rw [sc_at]
    exact hk st hst
  | succ n ih =>
    intro i t v x4 x5 vs ts st h0 hi h4 h5 hc hst hv ht hk
    have rc1 : ∀ j, sc m 278 st c1 j = m c1 j := fun j => by rw [sc_ne _ _ hc8]
    have r277 : ∀ j, sc m 278 st 277 j = m 277 j := fun j => by rw [sc_ne _ _ (by decide)]
    have r278 : ∀ j, sc m 278 st 278 j = st j := fun j => by rw [sc_at]
    have u278 : ∀ j z, upm (sc m 278 st) 278 j z = sc m 278 (up st j z) := fun j z => by rw [upm_sc, sc_sc, sc_at]
    replace hc := chk_inv hc
    obtain ⟨h32, hc⟩ := hc
    have hmi := hm i h0 (by omega)
    refine g_X3_reckon_10 c1 h1 _ _ _ (leF (by omega) (leF (by omega) ⟨i, by omega, ?_⟩))
    rw [rc1, hmi]
    -- two values joined
    have jn : ∀ (o res : Int), o = X (b + 75 + 2 * i) → (tok o = 10 ∨ tok o = 11 ∨ (22 ≤ tok o ∧ tok o ≤ 31)) → o ≠ 0 → o ≠ 1 → 2 ≤ t + v → 
        (∀ k', (∀ z, rnl z → clipI z = res → k' z (sc m 278 st)) → N G d mi_X3_joined 0 [some (vi (tok o)), some (vi (st (t + v - 2))), some (vi (st (t + v - 1)))] [] (sc m 278 st) (RJG k')) →
        N G (d + 1) mi_X3_reckon 10 [some (vr 276), some (vr c1), none, some (vi x3), some (vi (x4 + (-1))), some (vi (x5 + 1)), none, none] [] (sc m 278 (up st (t + v - 2) res)) (RI k) →
        bLT ((-1) - enc (X (b + 75 + 2 * i)) (X (b + 75 + 2 * i + 1))) 13 (N G (d + 1) mi_X3_reckon 50 [some (vr 276), some (vr c1), none, some (vi x3), some (vi x4), some (vi x5), some (vi ((-1) - enc (X (b + 75 + 2 * i)) (X (b + 75 + 2 * i + 1)))), none] [vi 0] (sc m 278 st) (RI k)) (bLT 21 ((-1) - enc (X (b + 75 + 2 * i)) (X (b + 75 + 2 * i + 1))) (N G (d + 1) mi_X3_reckon 50 [some (vr 276), some (vr c1), none, some (vi x3), some (vi x4), some (vi x5), some (vi ((-1) - enc (X (b + 75 + 2 * i)) (X (b + 75 + 2 * i + 1)))), none] [vi 0] (sc m 278 st) (RI k)) (N G (d + 1) mi_X3_reckon 50 [some (vr 276), some (vr c1), none, some (vi x3), some (vi x4), some (vi x5), some (vi ((-1) - enc (X (b + 75 + 2 * i)) (X (b + 75 + 2 * i + 1)))), none] [vi 1] (sc m 278 st) (RI k))) := by
      intro o res eo htk ho0 ho1 h2 hj hres
      rw [← eo, enc_tok ho0 ho1, show -1 - (-1 - tok o) = tok o by omega]
      have go : N G (d + 1) mi_X3_reckon 50 [some (vr 276), some (vr c1), none, some (vi x3), some (vi x4), some (vi x5), some (vi (tok o)), none] [vi 0] (sc m 278 st) (RI k) := by
        refine g_X3_reckon_50 c1 h1 _ _ _ _ _ (ltF (by omega) (eqT (by omega) (eqF (by omega) (eqF (by omega) (ltF (by omega) ⟨t + v - 2, by omega, t + v - 1, by omega, ?_⟩)))))
        rw [r278, r278]
        refine hj _ (fun z hz ez => c3_within hz ⟨t + v - 2, by omega, fun m1 e1 => ?_⟩)
        rw [e1, u278, ez]
        exact hres
      rcases htk with q | q | q
      · exact ltT (by omega) go
      · exact ltT (by omega) go
      · exact ltF (by omega) (ltT (by omega) go)
    rcases hc with ⟨ho, hw, h33, hc⟩ | ⟨ho, hw, h33, hc⟩ | ⟨ho, hv1, hc⟩ | ⟨ho, hv1, hc⟩ | ⟨ho, hv1, hc⟩ | ⟨ho, hv1, hc⟩ | ⟨ho, hv1, hc⟩
    · rw [ev_0 ho] at hk
      rw [ho, show enc 0 (X (b + 75 + 2 * i + 1)) = X (b + 75 + 2 * i + 1) by unfold enc; exact if_pos rfl] at hmi ⊢
      refine ltT (by omega) (g_X3_reckon_50 c1 h1 _ _ _ _ _ (ltT (by omega) (g_X3_reckon_62 c1 h1 _ _ _ _ _ (leF (by omega) (eqT (by omega) ⟨i, by omega, t + v, by omega, fun m1 e1 => ?_⟩)))))
      rw [e1, u278, rc1, hmi]
      exact ih (i + 1) t (v + 1) _ _ _ _ _ (by omega) (by omega) (by omega) (by omega) hc (hst.push _) (up_all (fun j hj hne => hv j (by omega)) (by omega)) ht hk
    · rw [ev_1 ho] at hk
      rw [ho, show enc 1 (X (b + 75 + 2 * i + 1)) = -14 - X (b + 75 + 2 * i + 1) by unfold enc; exact (if_neg (by decide)).trans (if_pos rfl)]
      have hLi := hL i h0 (by omega) ho
      have hw9 : (X (b + 75 + 2 * i + 1)).toNat < L := by omega
      refine ltF (by omega) (ltF (by omega) (g_X3_reckon_50 c1 h1 _ _ _ _ _ (ltF (by omega) (eqF (by omega) (g_X3_reckon_62 c1 h1 _ _ _ _ _ (leF (by omega) (eqF (by omega) ⟨(X (b + 75 + 2 * i + 1)).toNat, by omega, t + v, by omega, fun m1 e1 => ?_⟩)))))))
      rw [e1, u278, r277, hn7 _ hw9]
      exact ih (i + 1) t (v + 1) _ _ _ _ _ (by omega) (by omega) (by omega) (by omega) hc (hst.push _) (up_all (fun j hj hne => hv j (by omega)) (hnm _ hw9)) ht hk
    · rw [ev_2 ho] at hk
      rw [ho, show enc 2 (X (b + 75 + 2 * i + 1)) = -39 from rfl]
      refine ltF (by omega) (ltT (by omega) (g_X3_reckon_50 c1 h1 _ _ _ _ _ (ltF (by omega) (eqT (by omega) (eqT (by omega) (g_X3_reckon_121 c1 h1 _ _ _ _ (ltF (by omega) (eqT (by omega) ⟨t + v - 1, by omega, t + v - 1, by omega, fun m1 e1 => ?_⟩))))))))
      have es : st (t + v - 1) = vs (v - 1) := by rw [← hst.2 (v - 1) (by omega), show t + (v - 1) = t + v - 1 by omega]
      rw [e1, u278, r278, es]
      have := hv (v - 1) (by omega)
      exact ih (i + 1) t v _ _ _ _ _ (by omega) (by omega) h4 (by omega) hc (hst.top hv1 _) (up_all (fun j hj hne => hv j (by omega)) (by omega)) ht hk
    · rw [ev_3 ho] at hk
      refine jn _ (ar2 (X (b + 75 + 2 * i)) (vs (v - 2)) (vs (v - 1))) rfl (by rw [tok_a ho]; omega) (by omega) (by omega) (by omega) (fun k' hk' => ?_) ?_
      · have es : st (t + v - 1) = vs (v - 1) := by rw [← hst.2 (v - 1) (by omega), show t + (v - 1) = t + v - 1 by omega]
        have es2 : st (t + v - 2) = vs (v - 2) := by rw [← hst.2 (v - 2) (by omega), show t + (v - 2) = t + v - 2 by omega]
        rw [es, es2]
        exact c3_arith ho (hv _ (by omega)) (hv _ (by omega)) hk'
      · exact ih (i + 1) t (v - 1) _ _ _ _ _ (by omega) (by omega) (by omega) (by omega) hc (hst.two hv1 _) (up_all (fun j hj hne => hv j (by omega)) (ar2_sm _ _ _)) ht hk
    · subst hv1
      rw [ev_10 ho] at hk
      have h01 := askI_01 (X (b + 75 + 2 * i)) (vs 0) (vs 1)
      refine jn _ (askI (X (b + 75 + 2 * i)) (vs 0) (vs 1)) rfl (by rw [tok_q ho]; omega) (by omega) (by omega) (by omega) (fun k' hk' => ?_) ?_
      · have es : st (t + 2 - 1) = vs 1 := hst.2 1 (by omega)
        have es2 : st (t + 2 - 2) = vs 0 := hst.2 0 (by omega)
        rw [es, es2]
        exact c3_ask ho (hv _ (by omega)) (hv _ (by omega)) (hk' _ (by omega) (clip_id (by omega)))
      · exact ih (i + 1) (t + 1) 0 _ _ _ _ _ (by omega) (by omega) (by omega) (by omega) hc (hst.bit (i := t) (by omega) (by omega) _) (fun j hj => absurd hj (by omega)) (up_all (fun j hj hne => ht j (by omega)) h01) hk
    · obtain ⟨hv1, rfl⟩ := hv1
      rw [ev_20 ho] at hk
      rw [ho, show enc 20 (X (b + 75 + 2 * i + 1)) = -13 from rfl]
      have h01 := ht (t - 1) (by omega)
      refine ltT (by omega) (g_X3_reckon_50 c1 h1 _ _ _ _ _ (ltF (by omega) (eqT (by omega) (eqF (by omega) (eqT (by omega) (g_X3_reckon_121 c1 h1 _ _ _ _ (ltF (by omega) (eqF (by omega) ⟨t - 1, by omega, t - 1, by omega, fun m1 e1 => ?_⟩))))))))
      rw [e1, u278, r278, hst.1 (t - 1) (by omega)]
      exact ih (i + 1) t 0 _ _ _ _ _ (by omega) (by omega) h4 (by omega) hc (hst.bit (i := t - 1) (by omega) (by omega) _) hv (up_all (fun j hj hne => ht j (by omega)) (by omega)) hk
    · obtain ⟨hv1, rfl⟩ := hv1
      rw [ev_21 ho] at hk
      have h01 := ht (t - 1) (by omega)
      have h02 := ht (t - 2) (by omega)
      have h03 := bo2_01 (o := X (b + 75 + 2 * i)) (x := ts (t - 2)) h01
      refine jn _ (bo2 (X (b + 75 + 2 * i)) (ts (t - 2)) (ts (t - 1))) rfl ?_ (by omega) (by omega) (by omega) (fun k' hk' => ?_) ?_
      · rcases ho with ho | ho
        · rw [ho]; exact Or.inr (Or.inl (by decide))
        · rw [ho]; exact Or.inl (by decide)
      · have es : st (t + 0 - 1) = ts (t - 1) := hst.1 (t - 1) (by omega)
        have es2 : st (t + 0 - 2) = ts (t - 2) := hst.1 (t - 2) (by omega)
        rw [es, es2]
        exact c3_bool ho h02 h01 (hk' _ (by omega) (clip_id (by omega)))
      · exact ih (i + 1) (t - 1) 0 _ _ _ _ _ (by omega) (by omega) (by omega) (by omega) hc (hst.bit (i := t - 2) (by omega) (by omega) _) hv (up_all (fun j hj hne => ht j (by omega)) h03) hk
end Law2
