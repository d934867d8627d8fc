/-! ===== the class's choice: apart, prices ===== -/
theorem both_bits : ∀ x, x < 16 → ∀ i, i < 4 → ∀ j, j < 4 → (((x / 2 ^ i &&& x / 2 ^ j) % 2 = 1) ↔ (x / 2 ^ i % 2 = 1 ∧ x / 2 ^ j % 2 = 1)) := by decide +kernel
theorem both_n {x i j : Nat} (hx : x < 16) (hi : i < 4) (hj : j < 4) : iand (iand (ishr (x : Int) (i : Int)) (ishr (x : Int) (j : Int))) 1 = (((x / 2 ^ i &&& x / 2 ^ j) % 2 : Nat) : Int) := by
  have h1 : x / 2 ^ i ≤ x := Nat.div_le_self _ _
  have h3 : (x / 2 ^ i &&& x / 2 ^ j) ≤ x / 2 ^ i := Nat.and_le_left
  rw [ishr_n (by omega) (by omega), ishr_n (by omega) (by omega), iand_n (by omega), show (1 : Int) = ((1 : Nat) : Int) from rfl, iand_mask (k := 1) (by omega) (by decide)]
def prc (P : Nat → Int) (s : Nat) : Nat → Int
  | 0 => 0
  | n + 1 => prc P s n + (if s / 2 ^ n % 2 = 1 then P n else 0)
theorem prc_bd {P : Nat → Int} {s : Nat} : ∀ n, (∀ e, e < n → 0 ≤ P e ∧ P e ≤ 99) → 0 ≤ prc P s n ∧ prc P s n ≤ 99 * (n : Int) := by
  intro n
  induction n with
  | zero => intro _; exact ⟨Int.le_refl 0, by show (0 : Int) ≤ 99 * 0; omega⟩
  | succ n ih =>
    intro h
    have i1 := ih (fun e he => h e (by omega))
    have i2 := h n (by omega)
    rw [prc]
    split <;> omega
def le3 (P : Nat → Int) (n s b : Nat) : Prop := prc P s n < prc P b n ∨ (prc P s n = prc P b n ∧ popN s 8 ≤ popN b 8)
section Price
variable {G : GG} {d : Nat} {m : MM}
theorem c7_tellsApart {k : Int → MM → Prop} {x1 x2 : Int} {U : Nat → Nat → Nat → Int} (x s n T : Nat) (e1 : x1 = (s : Int)) (hs : s < 256) (e2 : x2 = (x : Int)) (hx : x < 16) (hn1 : m 12 2 = (n : Int)) (hn8 : n ≤ 8) (hT1 : m 12 5 = (T : Int)) (hT4 : T ≤ 4) (hU : ∀ t, t < T → x / 2 ^ t % 2 = 1 → ∀ e, e < 8 → m 282 (8 * t + e) = pk (U t e 0) (U t e 1) (U t e 2) (U t e 3) ∧ ∀ q, q < 4 → th (U t e q)) (hy : apP U x T n s → k 1 m) (hn : ¬ apP U x T n s → k 0 m) : N G (d + 1) mi_X7_tellsApart 0 [some (vr 0), some (vi x1), some (vi x2), none, none, none] [] m (RI k) := by
  have out : ∀ (r i : Nat) (x3 : Int), i + r = T → x3 = (i : Int) → (∀ i' j, i' < i → i' < j → j < T → x / 2 ^ i' % 2 = 1 → x / 2 ^ j % 2 = 1 → apt U i' j s n) → N G (d + 1) mi_X7_tellsApart 2 [some (vr 0), some (vi x1), some (vi x2), some (vi x3), none, none] [] m (RI k) := by
    intro r
    induction r with
    | zero =>
      intro i x3 hi h3 hal
      exact g_X7_tellsApart_2 _ _ _ (leT (by omega) (hy (fun i' j h1 h2 b1 b2 => apt_sy (hal j i' (by omega) h1 h2 b2 b1))))
    | succ r ih =>
      intro i x3 hi h3 hal
      refine g_X7_tellsApart_2 _ _ _ (leF (by omega) ?_)
      have inn : ∀ (r' j : Nat) (x4 : Int), j + r' = T → i < j → x4 = (j : Int) → (∀ j', i < j' → j' < j → x / 2 ^ i % 2 = 1 → x / 2 ^ j' % 2 = 1 → apt U i j' s n) → N G (d + 1) mi_X7_tellsApart 18 [some (vr 0), some (vi x1), some (vi x2), some (vi x3), some (vi x4), none] [] m (RI k) := by
        intro r'
        induction r' with
        | zero =>
          intro j x4 hj hij h4 hal2
          refine g_X7_tellsApart_18 _ _ _ _ (leT (by omega) (ih (i + 1) _ (by omega) (by omega) (fun i' j' h1 h2 h3 b1 b2 => ?_)))
          by_cases ee : i' = i
          · subst ee; exact hal2 j' h2 (by omega) b1 b2
          · exact hal i' j' (by omega) h2 h3 b1 b2
        | succ r' ih' =>
          intro j x4 hj hij h4 hal2
          have bb := both_bits x hx i (by omega) j (by omega)
          refine g_X7_tellsApart_18 _ _ _ _ (leF (by omega) ?_)
          rw [e2, h3, h4, both_n hx (by omega) (by omega), ← e2, ← h3, ← h4]
          refine eqI (by omega) (fun hb => ?_) (fun hb => ?_)
          · have hb' := bb.mp (by omega)
            refine g_X7_tellsApart_49 _ _ _ _ _ (eqF (by omega) (c7_differ i j s n e1 hs (by omega) (by omega) (by omega) (by omega) hn1 hn8 (fun t ht => ?_) (fun ap => eqF (by omega) (ih' (j + 1) _ (by omega) (by omega) (by omega) (fun j' h1 h2 c1 c2 => ?_))) (fun ap => eqT (by omega) (hn (fun q => ap (apt_sy (q j i hij (by omega) hb'.2 hb'.1)))))))
            · rcases ht with rfl | rfl
              · exact hU _ (by omega) hb'.1
              · exact hU _ (by omega) hb'.2
            · by_cases ee : j' = j
              · subst ee; exact ap
              · exact hal2 j' h1 (by omega) c1 c2
          · refine g_X7_tellsApart_49 _ _ _ _ _ (eqT (by omega) (ih' (j + 1) _ (by omega) (by omega) (by omega) (fun j' h1 h2 c1 c2 => ?_)))
            by_cases ee : j' = j
            · subst ee
              exact absurd (bb.mpr ⟨c1, c2⟩) (by omega)
            · exact hal2 j' h1 (by omega) c1 c2
      exact inn (T - (i + 1)) (i + 1) _ (by omega) (by omega) (by omega) (fun j' h1 h2 => absurd h2 (by omega))
  exact g_X7_tellsApart_0 _ _ (out T 0 0 (by omega) rfl (fun i' j h1 => absurd h1 (by omega)))
theorem c7_priceOf {k : Int → MM → Prop} {x1 : Int} {P : Nat → Int} (s n : Nat) (e1 : x1 = (s : Int)) (hs : s < 256) (hn1 : m 12 2 = (n : Int)) (hn8 : n ≤ 8) (hP : ∀ e, e < n → m 283 e = P e) (h : k (prc P s n) m) : N G d mi_X7_priceOf 0 [some (vr 0), some (vi x1), none, none] [] m (RI k) := by
  have loop : ∀ (r e : Nat) (x2 x3 : Int), e + r = n → x2 = prc P s e → x3 = (e : Int) → N G d mi_X7_priceOf 4 [some (vr 0), some (vi x1), some (vi x2), some (vi x3)] [] m (RI k) := by
    intro r
    induction r with
    | zero =>
      intro e x2 x3 he h2 h3
      have en : e = n := by omega
      subst en
      refine g_X7_priceOf_4 _ _ _ (leT (by omega) ?_)
      rw [h2]; exact h
    | succ r ih =>
      intro e x2 x3 he h2 h3
      refine g_X7_priceOf_4 _ _ _ (leF (by omega) ⟨e, by omega, ?_⟩)
      refine ih (e + 1) _ _ (by omega) ?_ (by omega)
      rw [e1, h3, bit_n (by omega) (by omega), hP e (by omega), prc, h2]
      have hb : s / 2 ^ e % 2 = 0 ∨ s / 2 ^ e % 2 = 1 := by omega
      rcases hb with hb | hb
      · rw [hb, if_neg (by omega)]; simp
      · rw [hb, if_pos rfl]; simp
  exact g_X7_priceOf_0 _ (loop n 0 0 0 (by omega) rfl rfl)
theorem c7_isNoWorse {k : Int → MM → Prop} {x1 x2 : Int} {P : Nat → Int} (s b n : Nat) (e1 : x1 = (s : Int)) (hs : s < 256) (e2 : x2 = (b : Int)) (hb : b < 256) (hn1 : m 12 2 = (n : Int)) (hn8 : n ≤ 8) (hP : ∀ e, e < n → m 283 e = P e) (hP9 : ∀ e, e < n → 0 ≤ P e ∧ P e ≤ 99) (hy : le3 P n s b → k 1 m) (hn : ¬ le3 P n s b → k 0 m) : N G (d + 1) mi_X7_isNoWorse 0 [some (vr 0), some (vi x1), some (vi x2), none] [] m (RI k) := by
  have p1 := prc_bd (s := s) n hP9
  have p2 := prc_bd (s := b) n hP9
  have q1 := popN_le s 8
  have q2 := popN_le b 8
  unfold le3 at hy hn
  refine g_X7_isNoWorse_0 _ _ (c7_priceOf b n e2 hb hn1 hn8 hP (c7_priceOf s n e1 hs hn1 hn8 hP ?_))
  refine ltI (by omega) (fun z => hy (by omega)) (fun z => eqI (by omega) (fun z2 => c_bitCount s e1 hs (c_bitCount b e2 hb (ltI (by omega) (fun z3 => hn (by omega)) (fun z3 => hy (by omega))))) (fun z2 => hn (by omega)))
end Price
