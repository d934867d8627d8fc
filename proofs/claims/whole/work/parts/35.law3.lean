/-! ===== laws: what both sides answer ===== -/
theorem ev_inv {X nm : Nat → Int} {b L i0 E : Nat} {r : Nat × Nat} (hnm : ∀ j, j < L → sm (nm j)) (hL : ∀ q, i0 ≤ q → q < E → X (b + 75 + 2 * q) = 1 → X (b + 75 + 2 * q + 1) < (L : Int)) :
    ∀ (n i t v : Nat) (vs ts vs' ts' : Nat → Int), i0 ≤ i → i + n = E → chk X b n i t v = some r → (∀ j, j < v → vs j = vs' j ∧ sm (vs j)) → (∀ j, j < t → ts j = ts' j ∧ b01 (ts j)) →
    (∀ j, j < r.2 → (ev X b nm n i t v vs ts).1 j = (ev X b nm n i t v vs' ts').1 j ∧ sm ((ev X b nm n i t v vs ts).1 j)) ∧ (∀ j, j < r.1 → (ev X b nm n i t v vs ts).2 j = (ev X b nm n i t v vs' ts').2 j ∧ b01 ((ev X b nm n i t v vs ts).2 j)) := by
  intro n
  induction n with
  | zero =>
    intro i t v vs ts vs' ts' h0 hi hc hv ht
    have er : (t, v) = r := Option.some.inj hc
    subst er
    exact ⟨hv, ht⟩
  | succ n ih =>
    intro i t v vs ts vs' ts' h0 hi hc hv ht
    replace hc := chk_inv hc
    obtain ⟨h32, hc⟩ := hc
    have upp : ∀ {P : Int → Prop} {f g : Nat → Int} {n' q : Nat} {z z' : Int}, (∀ j, j < n' → j ≠ q → f j = g j ∧ P (f j)) → z = z' → P z → ∀ j, j < n' → up f q z j = up g q z' j ∧ P (up f q z j) := by
      intro P f g n' q z z' hf hz hp j hj
      by_cases e : j = q
      · rw [e, up_at, up_at]; exact ⟨hz, hp⟩
      · rw [up_ne _ _ e, up_ne _ _ e]; exact hf j hj e
    rcases hc with ⟨ho, hw, h33, hc⟩ | ⟨ho, hw, h33, hc⟩ | ⟨ho, hv1, hc⟩ | ⟨ho, hv1, hc⟩ | ⟨ho, hv1, hc⟩ | ⟨ho, hv1, hc⟩ | ⟨ho, hv1, hc⟩
    · rw [ev_0 ho, ev_0 ho]
      exact ih (i + 1) t (v + 1) _ _ _ _ (by omega) (by omega) hc (upp (fun j hj hne => hv j (by omega)) rfl (by omega)) ht
    · rw [ev_1 ho, ev_1 ho]
      have hLi := hL i h0 (by omega) ho
      exact ih (i + 1) t (v + 1) _ _ _ _ (by omega) (by omega) hc (upp (fun j hj hne => hv j (by omega)) rfl (hnm _ (by omega))) ht
    · rw [ev_2 ho, ev_2 ho]
      have q := hv (v - 1) (by omega)
      exact ih (i + 1) t v _ _ _ _ (by omega) (by omega) hc (upp (fun j hj hne => hv j (by omega)) (by rw [q.1]) (by omega)) ht
    · rw [ev_3 ho, ev_3 ho]
      have q := hv (v - 1) (by omega)
      have q2 := hv (v - 2) (by omega)
      exact ih (i + 1) t (v - 1) _ _ _ _ (by omega) (by omega) hc (upp (fun j hj hne => hv j (by omega)) (by rw [q.1, q2.1]) (ar2_sm _ _ _)) ht
    · subst hv1
      rw [ev_10 ho, ev_10 ho]
      have q := hv 0 (by omega)
      have q2 := hv 1 (by omega)
      exact ih (i + 1) (t + 1) 0 _ _ _ _ (by omega) (by omega) hc (fun j hj => absurd hj (by omega)) (upp (fun j hj hne => ht j (by omega)) (by rw [q.1, q2.1]) (askI_01 _ _ _))
    · obtain ⟨hv1, rfl⟩ := hv1
      rw [ev_20 ho, ev_20 ho]
      have q := ht (t - 1) (by omega)
      exact ih (i + 1) t 0 _ _ _ _ (by omega) (by omega) hc hv (upp (fun j hj hne => ht j (by omega)) (by rw [q.1]) (by omega))
    · obtain ⟨hv1, rfl⟩ := hv1
      rw [ev_21 ho, ev_21 ho]
      have q := ht (t - 1) (by omega)
      have q2 := ht (t - 2) (by omega)
      exact ih (i + 1) (t - 1) 0 _ _ _ _ (by omega) (by omega) hc hv (upp (fun j hj hne => ht j (by omega)) (by rw [q.1, q2.1]) (bo2_01 q.2))
/-- the names that a law may use -/
def nmv (S : Nat → Int) (e : Nat) (hr sn mny : Int) (th : Nat) (who : Int) : Nat → Int
  | 0 => (e : Int)
  | 1 => S (20 + 8 * e)
  | 2 => S (20 + 8 * e + 1)
  | 3 => hr
  | 4 => hr - sn
  | 5 => mny
  | 6 => (th : Int)
  | 7 => S (8 + th)
  | _ => who
/-- the first clause of a sort -/
def clF (X : Nat → Int) (T : Nat) (s : Int) : Nat → Nat → Option Nat
  | 0, _ => none
  | n + 1, i => if X (680 * T + 1 + 3 * i) = s then some i else clF X T s n (i + 1)
def lawF (X : Nat → Int) (T : Int) (s : Int) : Option Nat := if T < 0 then none else clF X T.toNat s (X (680 * T.toNat)).toNat 0
theorem clF_some {X : Nat → Int} {T : Nat} {s : Int} : ∀ {n i j : Nat}, clF X T s n i = some j → i ≤ j ∧ j < i + n ∧ X (680 * T + 1 + 3 * j) = s := by
  intro n
  induction n with
  | zero => intro i j h; cases h
  | succ n ih =>
    intro i j h
    rw [clF] at h
    split at h
    · rename_i q
      have := Option.some.inj h
      subst this
      exact ⟨by omega, by omega, q⟩
    · have := ih h
      exact ⟨by omega, by omega, this.2.2⟩
theorem clF_none {X : Nat → Int} {T : Nat} {s : Int} : ∀ {n i : Nat}, clF X T s n i = none → ∀ j, i ≤ j → j < i + n → X (680 * T + 1 + 3 * j) ≠ s := by
  intro n
  induction n with
  | zero => intro i h j h1 h2; omega
  | succ n ih =>
    intro i h j h1 h2
    rw [clF] at h
    split at h
    · cases h
    · rename_i q
      by_cases e : j = i
      · rw [e]; exact q
      · exact ih h j (by omega) (by omega)
/-- a law reckoned: truths and numbers behind it -/
def evF (X : Nat → Int) (T i : Nat) (nm : Nat → Int) : (Nat → Int) × (Nat → Int) := ev X (680 * T) nm (X (680 * T + 3 + 3 * i) - X (680 * T + 2 + 3 * i)).toNat (X (680 * T + 2 + 3 * i)).toNat 0 0 (fun _ => 0) (fun _ => 0)
def seeF (X : Nat → Int) (T : Int) (nm : Nat → Int) : Int := match lawF X T 0 with | none => 1 | some i => (evF X T.toNat i nm).2 0
def rub9 (z : Int) : Int := if z < 0 then 0 else if 99 < z then 99 else z
def rubF (X : Nat → Int) (T : Int) (nm : Nat → Int) : Int := match lawF X T 1 with | none => 1 | some i => rub9 ((evF X T.toNat i nm).1 0)
section Law3
variable {G : GG} {d : Nat} {m : MM}
theorem c_work {k : MM → Prop} {x1 : Int} {X nm : Nat → Int} {T i L : Nat} {r : Nat × Nat} (hT : T < 4) (eT : m 305 4 = (T : Int)) (hX : m 308 = X) (e1 : x1 = (i : Int)) (hi : i < 24) (hl : lawOK X (680 * T) (X (680 * T + 2 + 3 * i)) (X (680 * T + 3 + 3 * i)) r) (hL9 : L ≤ 9) (hn1 : ∀ j, j < L → m 311 j = nm j) (hnm : ∀ j, j < L → sm (nm j)) (hL : ∀ q : Nat, X (680 * T + 2 + 3 * i) ≤ (q : Int) → (q : Int) < X (680 * T + 3 + 3 * i) → X (680 * T + 75 + 2 * q) = 1 → X (680 * T + 75 + 2 * q + 1) < (L : Int))
    (hk : ∀ vs ts, (∀ j, j < r.2 → vs j = (evF X T i nm).1 j ∧ sm (vs j)) → (∀ j, j < r.1 → ts j = (evF X T i nm).2 j ∧ b01 (ts j)) → k (sc (sc m 312 vs) 313 ts)) : N G (d + 2) mi_X8_work 0 [some (vr 304), some (vi x1), none, none, none, none, none, none, none] [] m (RV k) := by
  obtain ⟨i0, n, f1, f2, f3, f4, f5⟩ := hl
  refine g_X8_work_0 _ ⟨680 * T + 2 + 3 * i, by omega, ?_⟩
  rw [hX, f1]
  have hm : m = sc (sc m 312 (m 312)) 313 (m 313) := by rw [sc_id, sc_id]
  have hL' : ∀ q, i0 ≤ q → q < i0 + n → X (680 * T + 75 + 2 * q) = 1 → X (680 * T + 75 + 2 * q + 1) < (L : Int) := fun q h1 h2 => hL q (by omega) (by omega)
  have key := @c_work_loop G d m k (680 * m 305 4 + 1 + 3 * x1) (680 * m 305 4 + 75) X nm (680 * T) (i0 + n) i0 L r (by omega) (680 * T + 3 + 3 * i) (by omega) (by omega) hX f2 f3 (by omega) hL9 hn1 hnm hL' n i0 0 0 0 0 (i0 : Int) (m 312) (m 313) (by omega) rfl rfl rfl rfl f5 (fun j hj => absurd hj (by omega)) (fun j hj => absurd hj (by omega)) ?_
  · rw [← hm] at key
    exact key
  · have inv := ev_inv hnm hL' n i0 0 0 (m 312) (m 313) (fun _ => 0) (fun _ => 0) (by omega) rfl f5 (fun j hj => absurd hj (by omega)) (fun j hj => absurd hj (by omega))
    have ee : evF X T i nm = ev X (680 * T) nm n i0 0 0 (fun _ => 0) (fun _ => 0) := by
      unfold evF
      rw [f1, f2, show (((i0 + n : Nat) : Int) - (i0 : Int)).toNat = n by omega, show ((i0 : Nat) : Int).toNat = i0 by omega]
    rw [ee] at hk
    exact hk _ _ inv.1 inv.2
theorem c_clauseOf {k : Int → MM → Prop} {x1 T : Int} {X : Nat → Int} (hx : rng x1) (eT : m 305 4 = T) (hT : -1 ≤ T ∧ T < 4) (hX : m 308 = X) (hW : 0 ≤ T → ∃ n : Nat, n ≤ 24 ∧ X (680 * T.toNat) = (n : Int) ∧ ∀ i, i < n → rng (X (680 * T.toNat + 1 + 3 * i))) (hn : lawF X T x1 = none → k (-1) m) (hs : ∀ i : Nat, lawF X T x1 = some i → k (i : Int) m) : N G d mi_X8_clauseOf 0 [some (vr 304), some (vi x1), none] [] m (RI k) := by
  unfold lawF at hn hs
  by_cases h0 : T < 0
  · rw [if_pos h0] at hn
    refine g_X8_clauseOf_0 _ (g_X8_clauseOf_2 _ _ ?_)
    rw [eT]
    exact ltT (by omega) (hn rfl)
  · rw [if_neg h0] at hn
    simp only [if_neg h0] at hs
    obtain ⟨n, hn4, hXn, hr⟩ := hW (by omega)
    obtain ⟨t, ht⟩ : ∃ t : Nat, T = (t : Int) := ⟨T.toNat, by omega⟩
    subst ht
    rw [show ((t : Nat) : Int).toNat = t by omega] at *
    rw [hXn, show ((n : Nat) : Int).toNat = n by omega] at hn
    simp only [hXn, show ((n : Nat) : Int).toNat = n by omega] at hs
    refine g_X8_clauseOf_0 _ ?_
    have loop : ∀ (q i : Nat) (x2 : Int), i + q = n → x2 = (i : Int) → (clF X t x1 q i = none → k (-1) m) → (∀ j : Nat, clF X t x1 q i = some j → k (j : Int) m) → N G d mi_X8_clauseOf 2 [some (vr 304), some (vi x1), some (vi x2)] [] m (RI k) := by
      intro q
      induction q with
      | zero =>
        intro i x2 hi h2 hn hs
        refine g_X8_clauseOf_2 _ _ ?_
        rw [eT]
        refine ltF (by omega) ⟨680 * t, by omega, ?_⟩
        rw [hX, hXn]
        exact leT (by omega) (hn rfl)
      | succ q ih =>
        intro i x2 hi h2 hn hs
        refine g_X8_clauseOf_2 _ _ ?_
        rw [eT]
        refine ltF (by omega) ⟨680 * t, by omega, ?_⟩
        rw [hX, hXn]
        refine leF (by omega) ⟨680 * t + 1 + 3 * i, by omega, ?_⟩
        have := hr i (by omega)
        refine eqI (by omega) (fun e => ?_) (fun e => ?_)
        · rw [h2]
          exact hs i (by rw [clF, if_pos e])
        · refine ih (i + 1) _ (by omega) (by omega) (fun h => hn (by rw [clF, if_neg e]; exact h)) (fun j h => hs j (by rw [clF, if_neg e]; exact h))
    exact loop n 0 0 (by omega) rfl hn hs
/-- only the reckoning's own rows have changed -/
def FrL (m m' : MM) : Prop := ∀ c, c ≠ 311 → c ≠ 312 → c ≠ 313 → m' c = m c
def FrM (m m' : MM) : Prop := ∀ c, c ≠ 277 → c ≠ 278 → m' c = m c
theorem nmv_lo (S : Nat → Int) (e : Nat) (hr sn mny : Int) (th : Nat) (who : Int) {j : Nat} (hj : j < 6) : nmv S e hr sn mny th who j = nmv S e hr sn mny 0 0 j := by
  have : j = 0 ∨ j = 1 ∨ j = 2 ∨ j = 3 ∨ j = 4 ∨ j = 5 := by omega
  rcases this with rfl | rfl | rfl | rfl | rfl | rfl <;> rfl
theorem nmv_sm {C : Int} {S : Nat → Int} (hw : WfS C S) {e : Nat} (he : e < 8) {hr sn mny : Int} (h1 : 0 ≤ hr ∧ hr ≤ 9999) (h2 : 0 ≤ sn ∧ sn ≤ 999) (h3 : 0 ≤ mny ∧ mny ≤ 4) {th : Nat} (ht : th < 8) {who : Int} (hwho : -100 ≤ who ∧ who ≤ 100) : ∀ j, j < 9 → sm (nmv S e hr sn mny th who j) := by
  intro j hj
  have q1 := hw.2.2.2.2.2.2.2.2.1 e he
  have q2 := hw.2.2.2.2.2.2.1 th ht
  have : j = 0 ∨ j = 1 ∨ j = 2 ∨ j = 3 ∨ j = 4 ∨ j = 5 ∨ j = 6 ∨ j = 7 ∨ j = 8 := by omega
  rcases this with rfl | rfl | rfl | rfl | rfl | rfl | rfl | rfl | rfl
  · show sm (e : Int); omega
  · show sm (S (20 + 8 * e)); omega
  · show sm (S (20 + 8 * e + 1)); omega
  · show sm hr; omega
  · show sm (hr - sn); omega
  · show sm mny; omega
  · show sm (th : Int); omega
  · show sm (S (8 + th)); omega
  · show sm who; omega
theorem WfS.since {C : Int} {S : Nat → Int} (h : WfS C S) {e : Nat} (he : e < 8) : 0 ≤ S (20 + 8 * e + 3) ∧ S (20 + 8 * e + 3) ≤ 999 := by
  have := h.2.2.2.2.2.2.2.2.2.1.2.2.1 e he
  exact ⟨this.2.2.1, this.2.2.2.1⟩
theorem WfT.cl {X : Nat → Int} {t : Nat} (h : WfT X t) : ∃ n : Nat, n ≤ 24 ∧ X (680 * t) = (n : Int) ∧ ∀ i, i < n → rng (X (680 * t + 1 + 3 * i)) := by
  obtain ⟨n, h1, h2, h3⟩ := h
  refine ⟨n, h1, h2, fun i hi => ?_⟩
  rcases h3 i hi with q | q | q
  · have := q.1; omega
  · have := q.1; omega
  · have := q.1; omega
theorem c_name {k : MM → Prop} {x1 x2 x3 : Int} (e : Nat) (e1 : x1 = (e : Int)) (he : e < 8) (hk : ∀ f, (∀ j, j < 6 → f j = nmv (m 305) e x2 (m 305 (20 + 8 * e + 3)) x3 0 0 j) → k (sc m 311 f)) : N G (d + 1) mi_X8_name 0 [some (vr 304), some (vi x1), some (vi x2), some (vi x3)] [] m (RV k) := by
  refine g_X8_name_0 _ _ _ (fun m1 q1 => c_get (20 + 8 * e) (by omega) (by omega) (fun m4 q4 => c_get (20 + 8 * e + 1) (by omega) (by omega) (fun m7 q7 m8 q8 => c_get (20 + 8 * e + 3) (by omega) (by omega) (fun m11 q11 m12 q12 => ?_))))
  have g1 : m1 305 = m 305 := by rw [q1, upm_sc, sc_ne _ _ (by decide)]
  have g4 : m4 305 = m 305 := by rw [q4, upm_sc, sc_ne _ _ (by decide), g1]
  have g7 : m7 305 = m 305 := by rw [q7, upm_sc, sc_ne _ _ (by decide), g4]
  have g8 : m8 305 = m 305 := by rw [q8, upm_sc, sc_ne _ _ (by decide), g7]
  rw [q12, q11, q8, q7, q4, q1]
  simp only [upm_sc, sc_sc, sc_at]
  refine hk _ (fun j hj => ?_)
  have : j = 0 ∨ j = 1 ∨ j = 2 ∨ j = 3 ∨ j = 4 ∨ j = 5 := by omega
  have g1' : ∀ (f : Nat → Int), sc m 311 f 305 = m 305 := fun f => by rw [sc_ne _ _ (by decide)]
  rcases this with rfl | rfl | rfl | rfl | rfl | rfl
  all_goals simp only [up, nmv, g1', g1, g4, g7, g8]
  all_goals simp
  all_goals first | exact e1 | skip
theorem sees_law {X : Nat → Int} {T : Nat} (h : WfT X T) {i : Nat} (hi : (i : Int) < X (680 * T)) : (X (680 * T + 1 + 3 * i) = 0 → lawOK X (680 * T) (X (680 * T + 2 + 3 * i)) (X (680 * T + 3 + 3 * i)) (1, 0)) ∧ (X (680 * T + 1 + 3 * i) = 1 → lawOK X (680 * T) (X (680 * T + 2 + 3 * i)) (X (680 * T + 3 + 3 * i)) (0, 1) ∧ ∀ q : Nat, X (680 * T + 2 + 3 * i) ≤ (q : Int) → (q : Int) < X (680 * T + 3 + 3 * i) → X (680 * T + 75 + 2 * q) = 1 → X (680 * T + 75 + 2 * q + 1) ≤ 5) := by
  obtain ⟨n, h1, h2, h3⟩ := h
  rcases h3 i (by omega) with q | q | q
  · exact ⟨fun _ => q.2, fun e => absurd e (by have := q.1; omega)⟩
  · exact ⟨fun e => absurd e (by have := q.1; omega), fun _ => q.2⟩
  · exact ⟨fun e => absurd e (by have := q.1; omega), fun e => absurd e (by have := q.1; omega)⟩
/-- names in a law are at most 8 -/
theorem chk_name {X : Nat → Int} {b : Nat} {r : Nat × Nat} : ∀ (n i t v : Nat), chk X b n i t v = some r → ∀ q, i ≤ q → q < i + n → X (b + 75 + 2 * q) = 1 → X (b + 75 + 2 * q + 1) < 9 := by
  intro n
  induction n with
  | zero => intro i t v _ q h1 h2; omega
  | succ n ih =>
    intro i t v hc q h1 h2 h3
    replace hc := (chk_inv hc).2
    by_cases e : q = i
    · subst e
      rcases hc with ⟨ho, hw, h33, hc⟩ | ⟨ho, hw, h33, hc⟩ | ⟨ho, hv1, hc⟩ | ⟨ho, hv1, hc⟩ | ⟨ho, hv1, hc⟩ | ⟨ho, hv1, hc⟩ | ⟨ho, hv1, hc⟩ <;> omega
    · rcases hc with ⟨ho, hw, h33, hc⟩ | ⟨ho, hw, h33, hc⟩ | ⟨ho, hv1, hc⟩ | ⟨ho, hv1, hc⟩ | ⟨ho, hv1, hc⟩ | ⟨ho, hv1, hc⟩ | ⟨ho, hv1, hc⟩ <;> exact ih _ _ _ hc q (by omega) (by omega) h3
theorem lawOK_name {X : Nat → Int} {b : Nat} {f t : Int} {r : Nat × Nat} (h : lawOK X b f t r) : ∀ q : Nat, f ≤ (q : Int) → (q : Int) < t → X (b + 75 + 2 * q) = 1 → X (b + 75 + 2 * q + 1) < ((9 : Nat) : Int) := by
  obtain ⟨i, n, f1, f2, f3, f4, f5⟩ := h
  intro q h1 h2 h3
  exact chk_name n i 0 0 f5 q (by omega) (by omega) h3
theorem lawF_some {X : Nat → Int} {T s : Int} {i : Nat} (h : lawF X T s = some i) (hX : 0 ≤ T → 0 ≤ X (680 * T.toNat)) : 0 ≤ T ∧ (i : Int) < X (680 * T.toNat) ∧ X (680 * T.toNat + 1 + 3 * i) = s := by
  unfold lawF at h
  split at h
  · cases h
  · rename_i q
    have := hX (by omega)
    have w := clF_some h
    exact ⟨by omega, by omega, w.2.2⟩
theorem c_sees {k : Int → MM → Prop} {C x1 x2 x3 x4 x5 : Int} (hw : WfS C (m 305)) (hW : ∀ t : Nat, (t : Int) < m 305 3 → WfT (m 308) t) (e th : Nat) (e1 : x1 = (e : Int)) (he : e < 8) (e4 : x4 = (th : Int)) (ht : th < 8) (h2 : 0 ≤ x2 ∧ x2 ≤ 9999) (h3 : 0 ≤ x3 ∧ x3 ≤ 4) (h5 : -100 ≤ x5 ∧ x5 ≤ 100)
    (hk : ∀ m', FrL m m' → k (seeF (m 308) (m 305 4) (nmv (m 305) e x2 (m 305 (20 + 8 * e + 3)) x3 th x5)) m') : N G (d + 3) mi_X8_sees 0 [some (vr 304), some (vi x1), some (vi x2), some (vi x3), some (vi x4), some (vi x5), none] [] m (RI k) := by
  have w3 := hw.2.2.1
  have w4 := hw.2.2.2.1
  unfold seeF at hk
  have hWc : 0 ≤ m 305 4 → WfT (m 308) (m 305 4).toNat := fun h => hW _ (by omega)
  refine g_X8_sees_0 _ _ _ _ _ (c_clauseOf (T := m 305 4) (X := m 308) (by omega) rfl (by omega) rfl (fun h => (hWc h).cl) (fun hn => ?_) (fun i hs => ?_))
  · refine leF (by omega) ?_
    rw [hn] at hk
    exact hk m (fun c _ _ _ => rfl)
  · simp only [hs] at hk
    obtain ⟨g0, gi, gs⟩ := lawF_some hs (fun h => by obtain ⟨n, _, q, _⟩ := (hWc h).cl; omega)
    obtain ⟨T, hT⟩ : ∃ T : Nat, m 305 4 = (T : Int) := ⟨(m 305 4).toNat, by omega⟩
    have hTt : (m 305 4).toNat = T := by omega
    have hWt := hWc g0
    rw [hTt] at hk gi gs hWt
    have hi24 : i < 24 := by obtain ⟨n, q1, q2, _⟩ := hWt.cl; omega
    have lw := (sees_law hWt gi).1 gs
    refine leT (by omega) (c_name e e1 he (fun f hf m5 q5 => ⟨8 + th, by omega, fun m7 q7 m8 q8 => ?_⟩))
    have r5 : m5 305 = m 305 := by rw [q5, upm_sc, sc_sc, sc_ne _ _ (by decide)]
    have em : m8 = sc m 311 (up (up (up f 6 x4) 7 (m 305 (8 + th))) 8 x5) := by
      rw [q8, q7, r5, q5]
      simp only [upm_sc, sc_sc, sc_at]
    have z305 : m8 305 = m 305 := by rw [em, sc_ne _ _ (by decide)]
    have z308 : m8 308 = m 308 := by rw [em, sc_ne _ _ (by decide)]
    have sn := hw.since he
    refine c_work (T := T) (i := i) (L := 9) (X := m 308) (nm := nmv (m 305) e x2 (m 305 (20 + 8 * e + 3)) x3 th x5) (r := (1, 0)) (by omega) (by rw [z305]; exact hT) z308 rfl hi24 lw (by omega) (fun j hj => ?_) (nmv_sm hw he h2 sn h3 ht h5) (lawOK_name lw) (fun vs ts q1 q2 => ?_)
    · rw [em, sc_at]
      by_cases j6 : j < 6
      · rw [up_ne _ _ (by omega), up_ne _ _ (by omega), up_ne _ _ (by omega), hf j j6, nmv_lo _ _ _ _ _ th x5 j6]
      · have : j = 6 ∨ j = 7 ∨ j = 8 := by omega
        rcases this with rfl | rfl | rfl
        · rw [up_ne _ _ (by omega), up_ne _ _ (by omega), up_at]; exact e4
        · rw [up_ne _ _ (by omega), up_at]; rfl
        · rw [up_at]; rfl
    · have w := q2 0 (by omega)
      rw [sc_at]
      refine ⟨w.2, ?_⟩
      rw [w.1]
      refine hk _ (fun c h1 h2 h3 => ?_)
      rw [sc_ne _ _ h3, sc_ne _ _ h2, em, sc_ne _ _ h1]
theorem c_rubsOf {k : Int → MM → Prop} {C x1 : Int} (hw : WfS C (m 305)) (hW : ∀ t : Nat, (t : Int) < m 305 3 → WfT (m 308) t) (e : Nat) (e1 : x1 = (e : Int)) (he : e < 8)
    (hk : ∀ m', FrL m m' → k (rubF (m 308) (m 305 4) (nmv (m 305) e (m 305 2) (m 305 (20 + 8 * e + 3)) (cnt (fun q => m 305 (20 + 8 * e + 4 + q)) 4) 0 0)) m') : N G (d + 3) mi_X8_rubsOf 0 [some (vr 304), some (vi x1), none] [] m (RI k) := by
  have w3 := hw.2.2.1
  have w4 := hw.2.2.2.1
  unfold rubF at hk
  have hWc : 0 ≤ m 305 4 → WfT (m 308) (m 305 4).toNat := fun h => hW _ (by omega)
  refine g_X8_rubsOf_0 _ (c_clauseOf (T := m 305 4) (X := m 308) (by omega) rfl (by omega) rfl (fun h => (hWc h).cl) (fun hn => ?_) (fun i hs => ?_))
  · refine leF (by omega) ?_
    rw [hn] at hk
    exact hk m (fun c _ _ _ => rfl)
  · simp only [hs] at hk
    obtain ⟨g0, gi, gs⟩ := lawF_some hs (fun h => by obtain ⟨n, _, q, _⟩ := (hWc h).cl; omega)
    obtain ⟨T, hT⟩ : ∃ T : Nat, m 305 4 = (T : Int) := ⟨(m 305 4).toNat, by omega⟩
    have hTt : (m 305 4).toNat = T := by omega
    have hWt := hWc g0
    rw [hTt] at hk gi gs hWt
    have hi24 : i < 24 := by obtain ⟨n, q1, q2, _⟩ := hWt.cl; omega
    have lw := (sees_law hWt gi).2 gs
    have hr := hw.2.2.2.2.2.2.2.2.2.1
    have hr1 := hr.1
    have hr2 := hr.2.1
    have sn := hw.since he
    refine leT (by omega) (c_manyOf e e1 he (fun q hq => by have := hw.know he hq; omega) (c_name e e1 he (fun f hf => ?_)))
    have z305 : sc m 311 f 305 = m 305 := by rw [sc_ne _ _ (by decide)]
    have z308 : sc m 311 f 308 = m 308 := by rw [sc_ne _ _ (by decide)]
    have hm4 := cnt_bd (fun q => m 305 (20 + 8 * e + 4 + q)) 4
    refine c_work (T := T) (i := i) (L := 6) (X := m 308) (nm := nmv (m 305) e (m 305 2) (m 305 (20 + 8 * e + 3)) (cnt (fun q => m 305 (20 + 8 * e + 4 + q)) 4) 0 0) (r := (0, 1)) (by omega) (by rw [z305]; exact hT) z308 rfl hi24 lw.1 (by omega) (fun j hj => by rw [sc_at]; exact hf j hj) (fun j hj => nmv_sm hw he (by omega) sn (by omega) (by omega) (by omega) j (by omega)) (fun q h1 h2 h3 => by have := lw.2 q h1 h2 h3; omega) (fun vs ts q1 q2 => ?_)
    have w := q1 0 (by omega)
    rw [sc_ne _ _ (by decide), sc_at]
    rw [← w.1] at hk
    have fr : FrL m (sc (sc (sc m 311 f) 312 vs) 313 ts) := fun c h1 h2 h3 => by rw [sc_ne _ _ h3, sc_ne _ _ h2, sc_ne _ _ h1]
    have hkk := hk _ fr
    unfold rub9 at hkk
    have hv := w.2
    refine ⟨by omega, ?_⟩
    rcases lcm_3 (vs 0) 0 with ⟨h1, h2⟩ | ⟨h1, h2⟩ | ⟨h1, h2⟩
    · rw [if_pos h1] at hkk
      exact leF (by omega) hkk
    · rw [if_neg (by omega), if_neg (by omega)] at hkk
      refine leT (by omega) ⟨by omega, ?_⟩
      rcases lcm_3 (vs 0) 99 with ⟨h3, h4⟩ | ⟨h3, h4⟩ | ⟨h3, h4⟩
      · exact leT (by omega) hkk
      · exact leT (by omega) hkk
      · omega
    · rw [if_neg (by omega)] at hkk
      refine leT (by omega) ⟨by omega, ?_⟩
      rcases lcm_3 (vs 0) 99 with ⟨h3, h4⟩ | ⟨h3, h4⟩ | ⟨h3, h4⟩
      · rw [if_neg (by omega)] at hkk
        exact leT (by omega) hkk
      · rw [if_neg (by omega)] at hkk
        exact leT (by omega) hkk
      · rw [if_pos (by omega)] at hkk
        exact leF (by omega) hkk
theorem c3_reckon {k : Int → MM → Prop} {x2 x3 : Int} {X nm : Nat → Int} {T i L : Nat} {r : Nat × Nat} (hT : T < 4) (hl : lawOK X (680 * T) (X (680 * T + 2 + 3 * i)) (X (680 * T + 3 + 3 * i)) r) (hr : r = (1, 0) ∨ r = (0, 1)) (e2 : x2 = X (680 * T + 2 + 3 * i)) (e3 : x3 = X (680 * T + 3 + 3 * i)) (hm : ∀ q : Nat, X (680 * T + 2 + 3 * i) ≤ (q : Int) → (q : Int) < X (680 * T + 3 + 3 * i) → m (284 + 5 * T + 4) q = enc (X (680 * T + 75 + 2 * q)) (X (680 * T + 75 + 2 * q + 1))) (hL9 : L ≤ 9) (hn7 : ∀ j, j < L → m 277 j = nm j) (hnm : ∀ j, j < L → sm (nm j)) (hL : ∀ q : Nat, X (680 * T + 2 + 3 * i) ≤ (q : Int) → (q : Int) < X (680 * T + 3 + 3 * i) → X (680 * T + 75 + 2 * q) = 1 → X (680 * T + 75 + 2 * q + 1) < (L : Int))
    (hk : ∀ z st, (r = (1, 0) → z = (evF X T i nm).2 0 ∧ b01 z) → (r = (0, 1) → z = (evF X T i nm).1 0 ∧ sm z) → k z (sc m 278 st)) : N G (d + 1) mi_X3_reckon 0 [some (vr 276), some (vr (284 + 5 * T + 4)), some (vi x2), some (vi x3), none, none, none, none] [] m (RI k) := by
  obtain ⟨i0, n, f1, f2, f3, f4, f5⟩ := hl
  have shc : SH (284 + 5 * T + 4) = .inl (.int, 300) := by
    have h2 : ∀ j, j < 4 → SH (284 + 5 * j + 4) = .inl (.int, 300) := by decide +kernel
    exact h2 T hT
  refine g_X3_reckon_0 _ shc _ _ ⟨by omega, ?_⟩
  have ei : imax 0 x2 = (i0 : Int) := by unfold imax; split <;> omega
  rw [ei]
  have hL' : ∀ q, i0 ≤ q → q < i0 + n → X (680 * T + 75 + 2 * q) = 1 → X (680 * T + 75 + 2 * q + 1) < (L : Int) := fun q h1 h2 => hL q (by omega) (by omega)
  have inv := ev_inv hnm hL' n i0 0 0 (fun _ => 0) (fun _ => 0) (fun _ => 0) (fun _ => 0) (by omega) rfl f5 (fun j hj => absurd hj (by omega)) (fun j hj => absurd hj (by omega))
  have ee : evF X T i nm = ev X (680 * T) nm n i0 0 0 (fun _ => 0) (fun _ => 0) := by
    unfold evF
    rw [f1, f2, show (((i0 + n : Nat) : Int) - (i0 : Int)).toNat = n by omega, show ((i0 : Nat) : Int).toNat = i0 by omega]
  rw [ee] at hk
  have key := @c3_reckon_loop G d m k x3 X nm (680 * T) i0 (i0 + n) L r (284 + 5 * T + 4) shc (by omega) (fun q h1 h2 => hm q (by omega) (by omega)) f3 (by omega) hL9 hn7 hnm hL' (by rcases hr with rfl | rfl <;> decide) n i0 0 0 0 (i0 : Int) (fun _ => 0) (fun _ => 0) (m 278) (by omega) rfl rfl rfl f5 ⟨fun j hj => absurd hj (by omega), fun j hj => absurd hj (by omega)⟩ (fun j hj => absurd hj (by omega)) (fun j hj => absurd hj (by omega)) (fun st' hst => ?_)
  · rw [sc_id] at key
    exact key
  · refine hk _ _ (fun e => ?_) (fun e => ?_)
    · subst e
      have w := inv.2 0 (by decide)
      have w1 : st' 0 = _ := hst.1 0 (by decide)
      exact ⟨w1, by rw [show ((1 : Nat), (0 : Nat)).fst + ((1 : Nat), (0 : Nat)).snd - 1 = 0 from rfl, w1]; exact w.2⟩
    · subst e
      have w := inv.1 0 (by decide)
      have w1 : st' (0 + 0) = _ := hst.2 0 (by decide)
      exact ⟨w1, by rw [show ((0 : Nat), (1 : Nat)).fst + ((0 : Nat), (1 : Nat)).snd - 1 = 0 + 0 from rfl, w1]; exact w.2⟩
/-- a court of the class, and what it knows of one eye -/
def cmy (W : Nat → Nat → Int) (e : Nat) : Int := cnt (fun q => pl (W e 2) (W e 3) (W e 4) (W e 5) q) 4
theorem c7_nameEye {k : MM → Prop} {S : Nat → Int} {W : Nat → Nat → Int} {hr x2 : Int} (c : Nat) (hc : SH c = .inr 0) (hn : c ≠ 277 ∧ c + 1 ≠ 277 ∧ c + 2 ≠ 277 ∧ c + 3 ≠ 277) (hS : ∀ e, e < 8 → m 14 e = S (20 + 8 * e) ∧ m 15 e = S (20 + 8 * e + 1)) (hC : Crt m c hr W) (e : Nat) (e2 : x2 = (e : Int)) (he : e < 8) (hth : th (W e 2) ∧ th (W e 3) ∧ th (W e 4) ∧ th (W e 5))
    (hk : ∀ f, (∀ j, j < 6 → f j = nmv S e hr (W e 1) (cmy W e) 0 0 j) → k (sc m 277 f)) : N G (d + 1) mi_X7_nameEye 0 [some (vr 0), some (vr c), some (vi x2)] [] m (RV k) := by
  have he2 := hS e he
  have hCe := hC.2 e he
  refine g_X7_nameEye_0 c hc _ ⟨e, ⟨e2, he⟩, e, ⟨e2, he⟩, g_X3_nameEye_0 _ _ _ (fun m1 q1 m2 q2 m3 q3 => ⟨e, ⟨e2, he⟩, e, ⟨e2, he⟩, ?_⟩)⟩
  have em : m3 = sc m 277 (up (up (up (m 277) 0 x2) 1 (m 14 e)) 2 (m 15 e)) := by
    rw [q3, q2, q1]
    simp only [upm_sc, sc_sc, sc_at]
  have z0 : m3 c 0 = hr := by rw [em, sc_ne _ _ (by omega)]; exact hC.1
  have z2 : m3 (c + 2) e = W e 1 := by rw [em, sc_ne _ _ (by omega)]; exact hCe.2.1
  have z3 : m3 (c + 3) e = pkW W e := by rw [em, sc_ne _ _ (by omega)]; exact hCe.2.2
  rw [z0, z2, z3]
  refine c0_many rfl hth.1 hth.2.1 hth.2.2.1 hth.2.2.2 (g_X3_nameTimes_0 _ _ _ (fun m4 q4 m5 q5 m6 q6 => ?_))
  have em2 : m6 = sc m 277 (up (up (up (up (up (up (m 277) 0 x2) 1 (m 14 e)) 2 (m 15 e)) 3 hr) 4 (hr - W e 1)) 5 (cmy W e)) := by
    rw [q6, q5, q4, em]
    simp only [upm_sc, sc_sc, sc_at]
    rfl
  rw [em2]
  refine hk _ (fun j hj => ?_)
  have : j = 0 ∨ j = 1 ∨ j = 2 ∨ j = 3 ∨ j = 4 ∨ j = 5 := by omega
  rcases this with rfl | rfl | rfl | rfl | rfl | rfl
  all_goals simp only [up, nmv]
  all_goals simp
  · exact e2
  · exact he2.1
  · exact he2.2
/-- what the class needs of its standing and its scripts to ask the law -/
def Asks (m : MM) (S X : Nat → Int) : Prop := m 12 5 = S 3 ∧ m 12 6 = S 4 ∧ (∀ j, j < 8 → m 13 j = S (8 + j)) ∧ (∀ e, e < 8 → m 14 e = S (20 + 8 * e) ∧ m 15 e = S (20 + 8 * e + 1)) ∧ (∀ t : Nat, (t : Int) < S 3 → Scr m (284 + 5 * t) X t ∧ WfT X t)
theorem Asks.fr {m m' : MM} {S X : Nat → Int} (h : Asks m S X) (f : ∀ c, (c = 12 ∨ c = 13 ∨ c = 14 ∨ c = 15 ∨ 284 ≤ c ∧ c < 304) → m' c = m c) (h3 : S 3 ≤ 4) : Asks m' S X := by
  obtain ⟨h1, h2, h4, h5, h6⟩ := h
  have f12 := f 12 (by omega)
  have f13 := f 13 (by omega)
  have f14 := f 14 (by omega)
  have f15 := f 15 (by omega)
  refine ⟨by rw [f12]; exact h1, by rw [f12]; exact h2, by rw [f13]; exact h4, by rw [f14, f15]; exact h5, fun t ht => ⟨(h6 t ht).1.kept (fun j q1 q2 => f j (by omega)), (h6 t ht).2⟩⟩
theorem c7_isSeen {k : Int → MM → Prop} {C hr x2 x3 x4 : Int} {S X : Nat → Int} {W : Nat → Nat → Int} (hw : WfS C S) (ha : Asks m S X) (c : Nat) (hc : SH c = .inr 0) (hn : c ≠ 277 ∧ c + 1 ≠ 277 ∧ c + 2 ≠ 277 ∧ c + 3 ≠ 277) (hC : Crt m c hr W) (e th' : Nat) (e2 : x2 = (e : Int)) (he : e < 8) (e3 : x3 = (th' : Int)) (ht' : th' < 8) (hth : th (W e 2) ∧ th (W e 3) ∧ th (W e 4) ∧ th (W e 5)) (h1 : 0 ≤ hr ∧ hr ≤ 9999) (h2 : 0 ≤ W e 1 ∧ W e 1 ≤ 999) (h5 : -100 ≤ x4 ∧ x4 ≤ 100)
    (hk : ∀ m', FrM m m' → k (seeF X (S 4) (nmv S e hr (W e 1) (cmy W e) th' x4)) m') : N G (d + 2) mi_X7_isSeen 0 [some (vr 0), some (vr c), some (vi x2), some (vi x3), some (vi x4), none] [] m (RI k) := by
  obtain ⟨a5, a6, a13, a14, aT⟩ := ha
  have w3 := hw.2.2.1
  have w4 := hw.2.2.2.1
  unfold seeF at hk
  refine g_X7_isSeen_0 c hc _ _ _ (c7_isText (by omega) (fun q => ?_) (fun q => ?_))
  · obtain ⟨T, hT⟩ : ∃ T : Nat, S 4 = (T : Int) := ⟨(S 4).toNat, by omega⟩
    have hTt : (S 4).toNat = T := by omega
    obtain ⟨hs, hWt⟩ := aT T (by omega)
    obtain ⟨s1, s2, s3, s4, s5⟩ := hs
    obtain ⟨n, n1, n2, n3⟩ := hWt.cl
    refine eqF (by omega) ⟨T, by omega, ?_⟩
    cases hl : lawF X (S 4) 0 with
    | none =>
      rw [hl] at hk
      have : m (284 + 5 * T) 6 = -1 := by
        refine s3 (fun i hi => ?_)
        unfold lawF at hl
        rw [if_neg (by omega), hTt] at hl
        exact clF_none hl i (by omega) (by omega)
      exact eqT (by omega) (hk m (fun c _ _ => rfl))
    | some i =>
      rw [hl] at hk
      simp only at hk
      obtain ⟨g0, gi, gs⟩ := lawF_some hl (fun h => by rw [hTt]; omega)
      rw [hTt] at gi gs hk
      have lw := (sees_law hWt gi).1 gs
      obtain ⟨f6, f7⟩ := (s2 i gi).2.2.1 gs
      obtain ⟨l0, ln, l1, l2, l3, l4, l5⟩ := lw
      have lw := (sees_law hWt gi).1 gs
      refine eqF (by omega) (c7_nameEye c hc hn a14 hC e e2 he hth (fun f hf => ⟨th', ⟨e3, ht'⟩, g_X3_nameTouch_0 _ _ _ (fun m1 q1 m2 q2 m3 q3 => ?_)⟩))
      have em : m3 = sc m 277 (up (up (up f 6 x3) 7 (m 13 th')) 8 x4) := by
        rw [q3, q2, q1, show sc m 277 f 13 th' = m 13 th' by rw [sc_ne _ _ (by decide)]]
        simp only [upm_sc, sc_sc, sc_at]
      have zz : ∀ c, c ≠ 277 → m3 c = m c := fun c h => by rw [em, sc_ne _ _ h]
      rw [zz (284 + 5 * T) (by omega)]
      refine c3_reckon (T := T) (i := i) (L := 9) (X := X) (nm := nmv S e hr (W e 1) (cmy W e) th' x4) (r := (1, 0)) (by omega) lw (Or.inl rfl) f6 f7 (fun q h1 h2 => ?_) (by omega) (fun j hj => ?_) (nmv_sm hw he h1 h2 (by have := cnt_bd (fun q => pl (W e 2) (W e 3) (W e 4) (W e 5) q) 4; unfold cmy; omega) ht' h5) (lawOK_name lw) (fun z st q1 q2 => ?_)
      · rw [zz _ (by omega)]
        exact s5 i gi (by omega) q h1 h2
      · rw [em, sc_at]
        by_cases j6 : j < 6
        · rw [up_ne _ _ (by omega), up_ne _ _ (by omega), up_ne _ _ (by omega), hf j j6, nmv_lo _ _ _ _ _ th' x4 j6]
        · have : j = 6 ∨ j = 7 ∨ j = 8 := by omega
          rcases this with rfl | rfl | rfl
          · rw [up_ne _ _ (by omega), up_ne _ _ (by omega), up_at]; exact e3
          · rw [up_ne _ _ (by omega), up_at]; exact a13 th' ht'
          · rw [up_at]; rfl
      · obtain ⟨w1, w2⟩ := q1 rfl
        have fr : FrM m (sc m3 278 st) := fun c h1 h2 => by rw [sc_ne _ _ h2, zz _ h1]
        have hkk := hk _ fr
        rw [← w1] at hkk
        refine eqI (by omega) (fun q => ?_) (fun q => ?_)
        · rw [q] at hkk; exact hkk
        · rw [show z = 1 by omega] at hkk; exact hkk
  · have : lawF X (S 4) 0 = none := by unfold lawF; exact if_pos (by omega)
    rw [this] at hk
    exact eqT (by omega) (hk m (fun c _ _ => rfl))
theorem c7_rubsOf {k : Int → MM → Prop} {C hr x1 : Int} {S X : Nat → Int} {W : Nat → Nat → Int} (hw : WfS C S) (ha : Asks m S X) (hC : Crt m 16 hr W) (e : Nat) (e2 : x1 = (e : Int)) (he : e < 8) (hth : th (W e 2) ∧ th (W e 3) ∧ th (W e 4) ∧ th (W e 5)) (h1 : 0 ≤ hr ∧ hr ≤ 9999) (h2 : 0 ≤ W e 1 ∧ W e 1 ≤ 999)
    (hk : ∀ m', FrM m m' → k (rubF X (S 4) (nmv S e hr (W e 1) (cmy W e) 0 0)) m') : N G (d + 2) mi_X7_rubsOf 0 [some (vr 0), some (vi x1), none, none] [] m (RI k) := by
  obtain ⟨a5, a6, a13, a14, aT⟩ := ha
  have w3 := hw.2.2.1
  have w4 := hw.2.2.2.1
  unfold rubF at hk
  refine g_X7_rubsOf_0 _ (c7_isText (by omega) (fun q => ?_) (fun q => ?_))
  · obtain ⟨T, hT⟩ : ∃ T : Nat, S 4 = (T : Int) := ⟨(S 4).toNat, by omega⟩
    have hTt : (S 4).toNat = T := by omega
    obtain ⟨hs, hWt⟩ := aT T (by omega)
    obtain ⟨s1, s2, s3, s4, s5⟩ := hs
    obtain ⟨n, n1, n2, n3⟩ := hWt.cl
    refine eqF (by omega) ⟨T, by omega, ?_⟩
    cases hl : lawF X (S 4) 1 with
    | none =>
      rw [hl] at hk
      have : m (284 + 5 * T) 8 = -1 := by
        refine s4 (fun i hi => ?_)
        unfold lawF at hl
        rw [if_neg (by omega), hTt] at hl
        exact clF_none hl i (by omega) (by omega)
      exact eqT (by omega) (hk m (fun c _ _ => rfl))
    | some i =>
      rw [hl] at hk
      simp only at hk
      obtain ⟨g0, gi, gs⟩ := lawF_some hl (fun h => by rw [hTt]; omega)
      rw [hTt] at gi gs hk
      have lw := (sees_law hWt gi).2 gs
      obtain ⟨f6, f7⟩ := (s2 i gi).2.2.2 gs
      obtain ⟨⟨l0, ln, l1, l2, l3, l4, l5⟩, -⟩ := lw
      have lw := (sees_law hWt gi).2 gs
      refine eqF (by omega) (c7_nameEye 16 sh_16 (by omega) a14 hC e e2 he hth (fun f hf => ?_))
      have zz : ∀ c, c ≠ 277 → sc m 277 f c = m c := fun c h => by rw [sc_ne _ _ h]
      rw [zz (284 + 5 * T) (by omega)]
      refine c3_reckon (T := T) (i := i) (L := 6) (X := X) (nm := nmv S e hr (W e 1) (cmy W e) 0 0) (r := (0, 1)) (by omega) lw.1 (Or.inr rfl) f6 f7 (fun q h1 h2 => ?_) (by omega) (fun j hj => by rw [sc_at]; exact hf j hj) (fun j hj => nmv_sm hw he h1 h2 (by have := cnt_bd (fun q => pl (W e 2) (W e 3) (W e 4) (W e 5) q) 4; unfold cmy; omega) (by omega) (by omega) j (by omega)) (fun q h1 h2 h3 => by have := lw.2 q h1 h2 h3; omega) (fun z st q1 q2 => ?_)
      · rw [zz _ (by omega)]
        exact s5 i gi (by omega) q h1 h2
      · obtain ⟨w1, w2⟩ := q2 rfl
        have fr : FrM m (sc (sc m 277 f) 278 st) := fun c h1 h2 => by rw [sc_ne _ _ h2, zz _ h1]
        have hkk := hk _ fr
        rw [← w1] at hkk
        have e9 : imin 99 z = (if 99 < z then 99 else z) := by unfold imin; split <;> split <;> omega
        have e0 : imax 0 (imin 99 z) = rub9 z := by rw [e9]; unfold imax rub9; split <;> split <;> (try split) <;> omega
        refine ⟨by omega, ⟨by omega, ?_⟩, ?_⟩
        · rw [e9]; split <;> omega
        · rw [e0]; exact hkk
  · have : lawF X (S 4) 1 = none := by unfold lawF; exact if_pos (by omega)
    rw [this] at hk
    exact eqT (by omega) (hk m (fun c _ _ => rfl))
end Law3
