/-! ===== laws: what both sides answer ===== -/
theorem ev_inv {X nm : Nat → Int} {b L i0 E : Nat} {r : Nat × Nat} (hnm : ∀ j, j < L → sm (nm j)) (hL : ∀ q, i0 ≤ q → q < E → X (b + 75 + 2 * q) = 1 → X (b + 75 + 2 * q + 1) < (L : Int)) :
    ∀ (n i t v : Nat) (vs ts vs' ts' : Nat → Int), i0 ≤ i → i + n = E → chk X b n i t v = some r → (∀ j, j < v → vs j = vs' j ∧ sm (vs j)) → (∀ j, j < t → ts j = ts' j ∧ b01 (ts j)) →
    (∀ j, j < r.2 → (ev X b nm n i t v vs ts).1 j = (ev X b nm n i t v vs' ts').1 j ∧ sm ((ev X b nm n i t v vs ts).1 j)) ∧ (∀ j, j < r.1 → (ev X b nm n i t v vs ts).2 j = (ev X b nm n i t v vs' ts').2 j ∧ b01 ((ev X b nm n i t v vs ts).2 j)) := by
  intro n
  induction n with
  | zero =>
    intro i t v vs ts vs' ts' h0 hi hc hv ht
    have er : (t, v) = r := Option.some.inj hc
    subst er
    exact ⟨hv, ht⟩
  | succ n ih =>
    intro i t v vs ts vs' ts' h0 hi hc hv ht
    replace hc := chk_inv hc
    obtain ⟨h32, hc⟩ := hc
    have upp : ∀ {P : Int → Prop} {f g : Nat → Int} {n' q : Nat} {z z' : Int}, (∀ j, j < n' → j ≠ q → f j = g j ∧ P (f j)) → z = z' → P z → ∀ j, j < n' → up f q z j = up g q z' j ∧ P (up f q z j) := by
      intro P f g n' q z z' hf hz hp j hj
      by_cases e : j = q
      · rw [e, up_at, up_at]; exact ⟨hz, hp⟩
      · rw [up_ne _ _ e, up_ne _ _ e]; exact hf j hj e
    rcases hc with ⟨ho, hw, h33, hc⟩ | ⟨ho, hw, h33, hc⟩ | ⟨ho, hv1, hc⟩ | ⟨ho, hv1, hc⟩ | ⟨ho, hv1, hc⟩ | ⟨ho, hv1, hc⟩ | ⟨ho, hv1, hc⟩
    · rw [ev_0 ho, ev_0 ho]
      exact ih (i + 1) t (v + 1) _ _ _ _ (by omega) (by omega) hc (upp (fun j hj hne => hv j (by omega)) rfl (by omega)) ht
    · rw [ev_1 ho, ev_1 ho]
      have hLi := hL i h0 (by omega) ho
      exact ih (i + 1) t (v + 1) _ _ _ _ (by omega) (by omega) hc (upp (fun j hj hne => hv j (by omega)) rfl (hnm _ (by omega))) ht
    · rw [ev_2 ho, ev_2 ho]
      have q := hv (v - 1) (by omega)
      exact ih (i + 1) t v _ _ _ _ (by omega) (by omega) hc (upp (fun j hj hne => hv j (by omega)) (by rw [q.1]) (by omega)) ht
    · rw [ev_3 ho, ev_3 ho]
      have q := hv (v - 1) (by omega)
      have q2 := hv (v - 2) (by omega)
      exact ih (i + 1) t (v - 1) _ _ _ _ (by omega) (by omega) hc (upp (fun j hj hne => hv j (by omega)) (by rw [q.1, q2.1]) (ar2_sm _ _ _)) ht
    · subst hv1
      rw [ev_10 ho, ev_10 ho]
      have q := hv 0 (by omega)
      have q2 := hv 1 (by omega)
      exact ih (i + 1) (t + 1) 0 _ _ _ _ (by omega) (by omega) hc (fun j hj => absurd hj (by omega)) (upp (fun j hj hne => ht j (by omega)) (by rw [q.1, q2.1]) (askI_01 _ _ _))
    · obtain ⟨hv1, rfl⟩ := hv1
      rw [ev_20 ho, ev_20 ho]
      have q := ht (t - 1) (by omega)
      exact ih (i + 1) t 0 _ _ _ _ (by omega) (by omega) hc hv (upp (fun j hj hne => ht j (by omega)) (by rw [q.1]) (by omega))
    · obtain ⟨hv1, rfl⟩ := hv1
      rw [ev_21 ho, ev_21 ho]
      have q := ht (t - 1) (by omega)
      have q2 := ht (t - 2) (by omega)
      exact ih (i + 1) (t - 1) 0 _ _ _ _ (by omega) (by omega) hc hv (upp (fun j hj hne => ht j (by omega)) (by rw [q.1, q2.1]) (bo2_01 q.2))
/-- the names that a law may use -/
def nmv (S : Nat → Int) (e : Nat) (hr sn mny : Int) (th : Nat) (who : Int) : Nat → Int
  | 0 => (e : Int)
  | 1 => S (20 + 8 * e)
  | 2 => S (20 + 8 * e + 1)
  | 3 => hr
  | 4 => hr - sn
  | 5 => mny
  | 6 => (th : Int)
  | 7 => S (8 + th)
  | _ => who
/-- the first clause of a sort -/
def clF (X : Nat → Int) (T : Nat) (s : Int) : Nat → Nat → Option Nat
  | 0, _ => none
  | n + 1, i => if X (680 * T + 1 + 3 * i) = s then some i else clF X T s n (i + 1)
def lawF (X : Nat → Int) (T : Int) (s : Int) : Option Nat := if T < 0 then none else clF X T.toNat s (X (680 * T.toNat)).toNat 0
theorem clF_some {X : Nat → Int} {T : Nat} {s : Int} : ∀ {n i j : Nat}, clF X T s n i = some j → i ≤ j ∧ j < i + n ∧ X (680 * T + 1 + 3 * j) = s := by
  intro n
  induction n with
  | zero => intro i j h; cases h
  | succ n ih =>
    intro i j h
    rw [clF] at h
    split at h
    · rename_i q
      have := Option.some.inj h
      subst this
      exact ⟨by omega, by omega, q⟩
    · have := ih h
      exact ⟨by omega, by omega, this.2.2⟩
theorem clF_none {X : Nat → Int} {T : Nat} {s : Int} : ∀ {n i : Nat}, clF X T s n i = none → ∀ j, i ≤ j → j < i + n → X (680 * T + 1 + 3 * j) ≠ s := by
  intro n
  induction n with
  | zero => intro i h j h1 h2; omega
  | succ n ih =>
    intro i h j h1 h2
    rw [clF] at h
    split at h
    · cases h
    · rename_i q
      by_cases e : j = i
      · rw [e]; exact q
      · exact ih h j (by omega) (by omega)
/-- a law reckoned: truths and numbers behind it -/
def evF (X : Nat → Int) (T i : Nat) (nm : Nat → Int) : (Nat → Int) × (Nat → Int) := ev X (680 * T) nm (X (680 * T + 3 + 3 * i) - X (680 * T + 2 + 3 * i)).toNat (X (680 * T + 2 + 3 * i)).toNat 0 0 (fun _ => 0) (fun _ => 0)
def seeF (X : Nat → Int) (T : Int) (nm : Nat → Int) : Int := match lawF X T 0 with | none => 1 | some i => (evF X T.toNat i nm).2 0
def rub9 (z : Int) : Int := if z < 0 then 0 else if 99 < z then 99 else z
def rubF (X : Nat → Int) (T : Int) (nm : Nat → Int) : Int := match lawF X T 1 with | none => 1 | some i => rub9 ((evF X T.toNat i nm).1 0)
section Law3
variable {G : GG} {d : Nat} {m : MM}
theorem c_work {k : MM → Prop} {x1 : Int} {X nm : Nat → Int} {T i L : Nat} {r : Nat × Nat} (hT : T < 4) (eT : m 305 4 = (T : Int)) (hX : m 308 = X) (e1 : x1 = (i : Int)) (hi : i < 24) (hl : lawOK X (680 * T) (X (680 * T + 2 + 3 * i)) (X (680 * T + 3 + 3 * i)) r) (hL9 : L ≤ 9) (hn1 : ∀ j, j < L → m 311 j = nm j) (hnm : ∀ j, j < L → sm (nm j)) (hL : ∀ q : Nat, X (680 * T + 2 + 3 * i) ≤ (q : Int) → (q : Int) < X (680 * T + 3 + 3 * i) → X (680 * T + 75 + 2 * q) = 1 → X (680 * T + 75 + 2 * q + 1) < (L : Int))
    (hk : ∀ vs ts, (∀ j, j < r.2 → vs j = (evF X T i nm).1 j ∧ sm (vs j)) → (∀ j, j < r.1 → ts j = (evF X T i nm).2 j ∧ b01 (ts j)) → k (sc (sc m 312 vs) 313 ts)) : N G (d + 2) mi_X8_work 0 [some (vr 304), some (vi x1), none, none, none, none, none, none, none] [] m (RV k) := by
  obtain ⟨i0, n, f1, f2, f3, f4, f5⟩ := hl
  refine g_X8_work_0 _ ⟨680 * T + 2 + 3 * i, by omega, ?_⟩
  rw [hX, f1]
  have hm : m = sc (sc m 312 (m 312)) 313 (m 313) := by rw [sc_id, sc_id]
  have hL' : ∀ q, i0 ≤ q → q < i0 + n → X (680 * T + 75 + 2 * q) = 1 → X (680 * T + 75 + 2 * q + 1) < (L : Int) := fun q h1 h2 => hL q (by omega) (by omega)
  have key := @c_work_loop G d m k (680 * m 305 4 + 1 + 3 * x1) (680 * m 305 4 + 75) X nm (680 * T) (i0 + n) i0 L r (by omega) (680 * T + 3 + 3 * i) (by omega) (by omega) hX f2 f3 (by omega) hL9 hn1 hnm hL' n i0 0 0 0 0 (i0 : Int) (m 312) (m 313) (by omega) rfl rfl rfl rfl f5 (fun j hj => absurd hj (by omega)) (fun j hj => absurd hj (by omega)) ?_
  · rw [← hm] at key
    exact key
  · have inv := ev_inv hnm hL' n i0 0 0 (m 312) (m 313) (fun _ => 0) (fun _ => 0) (by omega) rfl f5 (fun j hj => absurd hj (by omega)) (fun j hj => absurd hj (by omega))
    have ee : evF X T i nm = ev X (680 * T) nm n i0 0 0 (fun _ => 0) (fun _ => 0) := by
      unfold evF
      rw [f1, f2, show (((i0 + n : Nat) : Int) - (i0 : Int)).toNat = n by omega, show ((i0 : Nat) : Int).toNat = i0 by omega]
    rw [ee] at hk
    exact hk _ _ inv.1 inv.2
theorem c_clauseOf {k : Int → MM → Prop} {x1 T : Int} {X : Nat → Int} (hx : rng x1) (eT : m 305 4 = T) (hT : -1 ≤ T ∧ T < 4) (hX : m 308 = X) (hW : 0 ≤ T → ∃ n : Nat, n ≤ 24 ∧ X (680 * T.toNat) = (n : Int) ∧ ∀ i, i < n → rng (X (680 * T.toNat + 1 + 3 * i))) (hn : lawF X T x1 = none → k (-1) m) (hs : ∀ i : Nat, lawF X T x1 = some i → k (i : Int) m) : N G d mi_X8_clauseOf 0 [some (vr 304), some (vi x1), none] [] m (RI k) := by
  unfold lawF at hn hs
  by_cases h0 : T < 0
  · rw [if_pos h0] at hn
    refine g_X8_clauseOf_0 _ (g_X8_clauseOf_2 _ _ ?_)
    rw [eT]
    exact ltT (by omega) (hn rfl)
  · rw [if_neg h0] at hn
    simp only [if_neg h0] at hs
    obtain ⟨n, hn4, hXn, hr⟩ := hW (by omega)
    obtain ⟨t, ht⟩ : ∃ t : Nat, T = (t : Int) := ⟨T.toNat, by omega⟩
    subst ht
    rw [show ((t : Nat) : Int).toNat = t by omega] at *
    rw [hXn, show ((n : Nat) : Int).toNat = n by omega] at hn
    simp only [hXn, show ((n : Nat) : Int).toNat = n by omega] at hs
    refine g_X8_clauseOf_0 _ ?_
    have loop : ∀ (q i : Nat) (x2 : Int), i + q = n → x2 = (i : Int) → (clF X t x1 q i = none → k (-1) m) → (∀ j : Nat, clF X t x1 q i = some j → k (j : Int) m) → N G d mi_X8_clauseOf 2 [some (vr 304), some (vi x1), some (vi x2)] [] m (RI k) := by
      intro q
      induction q with
      | zero =>
        intro i x2 hi h2 hn hs
        refine g_X8_clauseOf_2 _ _ ?_
        rw [eT]
        refine ltF (by omega) ⟨680 * t, by omega, ?_⟩
        rw [hX, hXn]
        exact leT (by omega) (hn rfl)
      | succ q ih =>
        intro i x2 hi h2 hn hs
        refine g_X8_clauseOf_2 _ _ ?_
        rw [eT]
        refine ltF (by omega) ⟨680 * t, by omega, ?_⟩
        rw [hX, hXn]
        refine leF (by omega) ⟨680 * t + 1 + 3 * i, by omega, ?_⟩
        have := hr i (by omega)
        refine eqI (by omega) (fun e => ?_) (fun e => ?_)
        · rw [h2]
          exact hs i (by rw [clF, if_pos e])
        · refine ih (i + 1) _ (by omega) (by omega) (fun h => hn (by rw [clF, if_neg e]; exact h)) (fun j h => hs j (by rw [clF, if_neg e]; exact h))
    exact loop n 0 0 (by omega) rfl hn hs
end Law3
