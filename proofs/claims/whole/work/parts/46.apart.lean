/-! ===== sets of eyes that tell stories apart ===== -/
def apt (U : Nat → Nat → Nat → Int) (i j s n : Nat) : Prop := ∃ e, e < n ∧ s / 2 ^ e % 2 = 1 ∧ ∃ q, q < 4 ∧ U i e q ≠ U j e q
def apP (U : Nat → Nat → Nat → Int) (x T n s : Nat) : Prop := ∀ i j, j < i → i < T → x / 2 ^ i % 2 = 1 → x / 2 ^ j % 2 = 1 → apt U i j s n
theorem apt_sy {U : Nat → Nat → Nat → Int} {i j s n : Nat} (h : apt U i j s n) : apt U j i s n := by
  obtain ⟨e, h1, h2, q, h3, h4⟩ := h
  exact ⟨e, h1, h2, q, h3, fun z => h4 z.symm⟩
section Apart
variable {G : GG} {d : Nat} {m : MM}
theorem c_isApart {k : Int → MM → Prop} {x1 x2 x3 : Int} {U : Nat → Nat → Nat → Int} (i j s n : Nat) (e1 : x1 = (i : Int)) (hi : i < 4) (e2 : x2 = (j : Int)) (hj : j < 4) (e3 : x3 = (s : Int)) (hs : s < 256) (hn1 : m 305 1 = (n : Int)) (hn8 : n ≤ 8) (hU : ∀ t, t = i ∨ t = j → ∀ e, e < 8 → ∀ q, q < 4 → m 314 (32 * t + 4 * e + q) = U t e q ∧ th (U t e q)) (hy : apt U i j s n → k 1 m) (hn : ¬ apt U i j s n → k 0 m) : N G (d + 1) mi_X8_isApart 0 [some (vr 304), some (vi x1), some (vi x2), some (vi x3), none, none] [] m (RI k) := by
  have out : ∀ (r e : Nat) (x4 : Int), e + r = n → x4 = (e : Int) → (∀ e', e' < e → s / 2 ^ e' % 2 = 1 → ∀ q, q < 4 → U i e' q = U j e' q) → N G (d + 1) mi_X8_isApart 3 [some (vr 304), some (vi x1), some (vi x2), some (vi x3), some (vi x4), none] [] m (RI k) := by
    intro r
    induction r with
    | zero =>
      intro e x4 he h4 hal
      refine g_X8_isApart_3 _ _ _ _ (leT (by omega) (hn ?_))
      rintro ⟨e', a1, a2, q, a3, a4⟩
      exact a4 (hal e' (by omega) a2 q a3)
    | succ r ih =>
      intro e x4 he h4 hal
      refine g_X8_isApart_3 _ _ _ _ (leF (by omega) ?_)
      have inn : ∀ (r' q : Nat) (x5 : Int), q + r' = 4 → x5 = (q : Int) → (s / 2 ^ e % 2 = 1 → ∀ q', q' < q → U i e q' = U j e q') → N G (d + 1) mi_X8_isApart 17 [some (vr 304), some (vi x1), some (vi x2), some (vi x3), some (vi x4), some (vi x5)] [] m (RI k) := by
        intro r'
        induction r' with
        | zero =>
          intro q x5 hq h5 hal2
          refine g_X8_isApart_17 _ _ _ _ _ (leT (by omega) (ih (e + 1) _ (by omega) (by omega) (fun e' he' hb q' hq' => ?_)))
          by_cases ee : e' = e
          · subst ee; exact hal2 hb q' (by omega)
          · exact hal e' (by omega) hb q' hq'
        | succ r' ih' =>
          intro q x5 hq h5 hal2
          refine g_X8_isApart_17 _ _ _ _ _ (leF (by omega) (c_has s e e3 h4 (by omega) (by omega) (fun hb => eqF (by omega) ?_) (fun hb => eqT (by omega) (ih' (q + 1) _ (by omega) (by omega) (fun hb' => absurd hb' (by omega))))))
          have u1 := hU i (Or.inl rfl) e (by omega) q (by omega)
          have u2 := hU j (Or.inr rfl) e (by omega) q (by omega)
          refine ⟨32 * i + 4 * e + q, by omega, 32 * j + 4 * e + q, by omega, ?_⟩
          rw [u1.1, u2.1]
          refine eqI (by omega) (fun z => ih' (q + 1) _ (by omega) (by omega) (fun _ q' hq' => ?_)) (fun z => hy ⟨e, by omega, hb, q, by omega, z⟩)
          by_cases ee : q' = q
          · rw [ee]; exact z
          · exact hal2 hb q' (by omega)
      exact inn 4 0 0 (by omega) rfl (fun _ q' hq' => absurd hq' (by omega))
  exact g_X8_isApart_0 _ _ _ (out n 0 0 (by omega) rfl (fun e' he' => absurd he' (by omega)))
theorem c_areApart {k : Int → MM → Prop} {x1 x2 : Int} {U : Nat → Nat → Nat → Int} (x s n T : Nat) (e1 : x1 = (x : Int)) (hx : x < 256) (e2 : x2 = (s : Int)) (hs : s < 256) (hn1 : m 305 1 = (n : Int)) (hn8 : n ≤ 8) (hT1 : m 305 3 = (T : Int)) (hT4 : T ≤ 4) (hU : ∀ t, t < T → x / 2 ^ t % 2 = 1 → ∀ e, e < 8 → ∀ q, q < 4 → m 314 (32 * t + 4 * e + q) = U t e q ∧ th (U t e q)) (hy : apP U x T n s → k 1 m) (hn : ¬ apP U x T n s → k 0 m) : N G (d + 2) mi_X8_areApart 0 [some (vr 304), some (vi x1), some (vi x2), none, none] [] m (RI k) := by
  have out : ∀ (r i : Nat) (x3 : Int), i + r = T → x3 = (i : Int) → (∀ i' j, j < i' → i' < i → x / 2 ^ i' % 2 = 1 → x / 2 ^ j % 2 = 1 → apt U i' j s n) → N G (d + 2) mi_X8_areApart 2 [some (vr 304), some (vi x1), some (vi x2), some (vi x3), none] [] m (RI k) := by
    intro r
    induction r with
    | zero =>
      intro i x3 hi h3 hal
      exact g_X8_areApart_2 _ _ _ (leT (by omega) (hy (fun i' j h1 h2 => hal i' j h1 (by omega))))
    | succ r ih =>
      intro i x3 hi h3 hal
      refine g_X8_areApart_2 _ _ _ (leF (by omega) ?_)
      have inn : ∀ (r' j : Nat) (x4 : Int), j + r' = i → x4 = (j : Int) → (∀ j', j' < j → x / 2 ^ i % 2 = 1 → x / 2 ^ j' % 2 = 1 → apt U i j' s n) → N G (d + 2) mi_X8_areApart 15 [some (vr 304), some (vi x1), some (vi x2), some (vi x3), some (vi x4)] [] m (RI k) := by
        intro r'
        induction r' with
        | zero =>
          intro j x4 hj h4 hal2
          refine g_X8_areApart_15 _ _ _ _ (leT (by omega) (ih (i + 1) _ (by omega) (by omega) (fun i' j' h1 h2 b1 b2 => ?_)))
          by_cases ee : i' = i
          · subst ee; exact hal2 j' (by omega) b1 b2
          · exact hal i' j' h1 (by omega) b1 b2
        | succ r' ih' =>
          intro j x4 hj h4 hal2
          refine g_X8_areApart_15 _ _ _ _ (leF (by omega) (c_has x i e1 h3 (by omega) (by omega) (fun b1 => eqF (by omega) (c_has x j e1 h4 (by omega) (by omega) (fun b2 => eqF (by omega) ?_) (fun b2 => eqT (by omega) (ih' (j + 1) _ (by omega) (by omega) (fun j' hj' c1 c2 => ?_))))) (fun b1 => eqT (by omega) (ih' (j + 1) _ (by omega) (by omega) (fun j' hj' c1 => absurd c1 (by omega))))))
          · refine c_isApart i j s n h3 (by omega) h4 (by omega) e2 hs hn1 hn8 (fun t ht => ?_) (fun ap => eqF (by omega) (ih' (j + 1) _ (by omega) (by omega) (fun j' hj' c1 c2 => ?_))) (fun ap => eqT (by omega) (hn (fun q => ap (q i j (by omega) (by omega) b1 b2))))
            · rcases ht with rfl | rfl
              · exact hU _ (by omega) b1
              · exact hU _ (by omega) b2
            · by_cases ee : j' = j
              · subst ee; exact ap
              · exact hal2 j' (by omega) c1 c2
          · by_cases ee : j' = j
            · subst ee; omega
            · exact hal2 j' (by omega) c1 c2
      exact inn i 0 0 (by omega) rfl (fun j' hj' => absurd hj' (by omega))
  exact g_X8_areApart_0 _ _ (out T 0 0 (by omega) rfl (fun i' j h1 h2 => absurd h2 (by omega)))
theorem c7_differ {k : Int → MM → Prop} {x1 x2 x3 : Int} {U : Nat → Nat → Nat → Int} (i j s n : Nat) (e1 : x1 = (s : Int)) (hs : s < 256) (e2 : x2 = 8 * (i : Int)) (hi : i < 4) (e3 : x3 = 8 * (j : Int)) (hj : j < 4) (hn1 : m 12 2 = (n : Int)) (hn8 : n ≤ 8) (hU : ∀ t, t = i ∨ t = j → ∀ e, e < 8 → m 282 (8 * t + e) = pk (U t e 0) (U t e 1) (U t e 2) (U t e 3) ∧ ∀ q, q < 4 → th (U t e q)) (hy : apt U i j s n → k 1 m) (hn : ¬ apt U i j s n → k 0 m) : N G d mi_X7_differ 0 [some (vr 0), some (vi x1), some (vi x2), some (vi x3), none] [] m (RI k) := by
  have out : ∀ (r e : Nat) (x4 : Int), e + r = n → x4 = (e : Int) → (∀ e', e' < e → s / 2 ^ e' % 2 = 1 → ∀ q, q < 4 → U i e' q = U j e' q) → N G d mi_X7_differ 3 [some (vr 0), some (vi x1), some (vi x2), some (vi x3), some (vi x4)] [] m (RI k) := by
    intro r
    induction r with
    | zero =>
      intro e x4 he h4 hal
      refine g_X7_differ_3 _ _ _ _ (leT (by omega) (hn ?_))
      rintro ⟨e', a1, a2, q, a3, a4⟩
      exact a4 (hal e' (by omega) a2 q a3)
    | succ r ih =>
      intro e x4 he h4 hal
      refine g_X7_differ_3 _ _ _ _ (leF (by omega) ?_)
      rw [e1, h4, bit_n (by omega) (by omega), ← e1, ← h4]
      have u1 := hU i (Or.inl rfl) e (by omega)
      have u2 := hU j (Or.inr rfl) e (by omega)
      have v1 := u1.2
      have v2 := u2.2
      obtain ⟨p1, hp1, hp1'⟩ := pk_nat (v1 0 (by omega)) (v1 1 (by omega)) (v1 2 (by omega)) (v1 3 (by omega))
      obtain ⟨p2, hp2, hp2'⟩ := pk_nat (v2 0 (by omega)) (v2 1 (by omega)) (v2 2 (by omega)) (v2 3 (by omega))
      have inj := pk_inj (v1 0 (by omega)) (v1 1 (by omega)) (v1 2 (by omega)) (v1 3 (by omega)) (v2 0 (by omega)) (v2 1 (by omega)) (v2 2 (by omega)) (v2 3 (by omega))
      refine eqI (by omega) (fun hb => ⟨8 * i + e, by omega, 8 * j + e, by omega, ?_⟩) (fun hb => ih (e + 1) _ (by omega) (by omega) (fun e' he' hb' q' hq' => ?_))
      · rw [u1.1, u2.1]
        refine eqI (by omega) (fun z => ih (e + 1) _ (by omega) (by omega) (fun e' he' hb' q' hq' => ?_)) (fun z => hy ⟨e, by omega, by omega, ?_⟩)
        · by_cases ee : e' = e
          · subst ee
            have w := inj.mp z
            have : q' = 0 ∨ q' = 1 ∨ q' = 2 ∨ q' = 3 := by omega
            rcases this with rfl | rfl | rfl | rfl
            · exact w.1
            · exact w.2.1
            · exact w.2.2.1
            · exact w.2.2.2
          · exact hal e' (by omega) hb' q' hq'
        · by_cases a0 : U i e 0 = U j e 0
          · by_cases a1 : U i e 1 = U j e 1
            · by_cases a2 : U i e 2 = U j e 2
              · exact ⟨3, by omega, fun a3 => z (inj.mpr ⟨a0, a1, a2, a3⟩)⟩
              · exact ⟨2, by omega, a2⟩
            · exact ⟨1, by omega, a1⟩
          · exact ⟨0, by omega, a0⟩
      · by_cases ee : e' = e
        · subst ee; omega
        · exact hal e' (by omega) hb' q' hq'
  exact g_X7_differ_0 _ _ _ (out n 0 0 (by omega) rfl (fun e' he' => absurd he' (by omega)))
end Apart
