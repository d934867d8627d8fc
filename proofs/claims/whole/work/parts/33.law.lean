/-! ===== the laws' reckoning ===== -/
def clipI (z : Int) : Int := if 1000000 < z then 1000000 else if z < -1000000 then -1000000 else z
abbrev sm (z : Int) : Prop := -1000000 ≤ z ∧ z ≤ 1000000
theorem clipI_sm (z : Int) : sm (clipI z) := by unfold clipI; split <;> (try split) <;> omega
def ar2 (o x y : Int) : Int := if o = 3 then clipI (x + y) else if o = 4 then clipI (x - y) else if o = 5 then clipI (x * y) else if y = 0 then 0 else clipI (x.tdiv y)
theorem ar2_sm (o x y : Int) : sm (ar2 o x y) := by
  unfold ar2
  split
  · exact clipI_sm _
  · split
    · exact clipI_sm _
    · split
      · exact clipI_sm _
      · split
        · omega
        · exact clipI_sm _
def askI (o x y : Int) : Int := if o = 10 then (if x < y then 1 else 0) else if o = 11 then (if x ≤ y then 1 else 0) else if o = 12 then (if y < x then 1 else 0) else if o = 13 then (if y ≤ x then 1 else 0) else if o = 14 then (if x = y then 1 else 0) else (if x = y then 0 else 1)
theorem askI_01 (o x y : Int) : askI o x y = 0 ∨ askI o x y = 1 := by
  unfold askI
  repeat' split
  all_goals first | exact Or.inl rfl | exact Or.inr rfl
/-- behind the signs from i on, n of them: the numbers, the truths -/
def ev (X : Nat → Int) (b : Nat) (nm : Nat → Int) : Nat → Nat → Nat → Nat → (Nat → Int) → (Nat → Int) → (Nat → Int) × (Nat → Int)
  | 0, _, _, _, vs, ts => (vs, ts)
  | n + 1, i, t, v, vs, ts =>
    let o := X (b + 75 + 2 * i)
    let w := X (b + 75 + 2 * i + 1)
    if o = 0 then ev X b nm n (i + 1) t (v + 1) (up vs v w) ts
    else if o = 1 then ev X b nm n (i + 1) t (v + 1) (up vs v (nm w.toNat)) ts
    else if o = 2 then ev X b nm n (i + 1) t v (up vs (v - 1) (-(vs (v - 1)))) ts
    else if o ≤ 6 then ev X b nm n (i + 1) t (v - 1) (up vs (v - 2) (ar2 o (vs (v - 2)) (vs (v - 1)))) ts
    else if o ≤ 15 then ev X b nm n (i + 1) (t + 1) 0 vs (up ts t (askI o (vs 0) (vs 1)))
    else if o = 20 then ev X b nm n (i + 1) t 0 vs (up ts (t - 1) (1 - ts (t - 1)))
    else if o = 21 then ev X b nm n (i + 1) (t - 1) 0 vs (up ts (t - 2) (if ts (t - 2) = 0 then 0 else ts (t - 1)))
    else ev X b nm n (i + 1) (t - 1) 0 vs (up ts (t - 2) (if ts (t - 2) = 0 then ts (t - 1) else 1))
theorem chk_inv {X : Nat → Int} {b n i t v : Nat} {r : Nat × Nat} (h : chk X b (n + 1) i t v = some r) :
    t + v ≤ 32 ∧ ((X (b + 75 + 2 * i) = 0 ∧ (0 ≤ X (b + 75 + 2 * i + 1) ∧ X (b + 75 + 2 * i + 1) ≤ 9999) ∧ t + v < 32 ∧ chk X b n (i + 1) t (v + 1) = some r) ∨
    (X (b + 75 + 2 * i) = 1 ∧ (0 ≤ X (b + 75 + 2 * i + 1) ∧ X (b + 75 + 2 * i + 1) ≤ 8) ∧ t + v < 32 ∧ chk X b n (i + 1) t (v + 1) = some r) ∨
    (X (b + 75 + 2 * i) = 2 ∧ 1 ≤ v ∧ chk X b n (i + 1) t v = some r) ∨
    ((3 ≤ X (b + 75 + 2 * i) ∧ X (b + 75 + 2 * i) ≤ 6) ∧ 2 ≤ v ∧ chk X b n (i + 1) t (v - 1) = some r) ∨
    ((10 ≤ X (b + 75 + 2 * i) ∧ X (b + 75 + 2 * i) ≤ 15) ∧ v = 2 ∧ chk X b n (i + 1) (t + 1) 0 = some r) ∨
    (X (b + 75 + 2 * i) = 20 ∧ (1 ≤ t ∧ v = 0) ∧ chk X b n (i + 1) t 0 = some r) ∨
    ((X (b + 75 + 2 * i) = 21 ∨ X (b + 75 + 2 * i) = 22) ∧ (2 ≤ t ∧ v = 0) ∧ chk X b n (i + 1) (t - 1) 0 = some r)) := by
  rw [chk] at h
  split at h
  · cases h
  · rename_i h32
    refine ⟨by omega, ?_⟩
    split at h
    · rename_i ho
      split at h
      · rename_i hc
        exact Or.inl ⟨ho, ⟨hc.1, hc.2.1⟩, hc.2.2, h⟩
      · cases h
    · split at h
      · rename_i ho
        split at h
        · rename_i hc
          exact Or.inr (Or.inl ⟨ho, ⟨hc.1, hc.2.1⟩, hc.2.2, h⟩)
        · cases h
      · split at h
        · rename_i ho
          split at h
          · rename_i hc
            exact Or.inr (Or.inr (Or.inl ⟨ho, hc, h⟩))
          · cases h
        · split at h
          · rename_i ho
            split at h
            · rename_i hc
              exact Or.inr (Or.inr (Or.inr (Or.inl ⟨by omega, hc, h⟩)))
            · cases h
          · split at h
            · rename_i ho
              split at h
              · rename_i hc
                exact Or.inr (Or.inr (Or.inr (Or.inr (Or.inl ⟨by omega, hc, h⟩))))
              · cases h
            · split at h
              · rename_i ho
                split at h
                · rename_i hc
                  exact Or.inr (Or.inr (Or.inr (Or.inr (Or.inr (Or.inl ⟨ho, hc, h⟩)))))
                · cases h
              · split at h
                · rename_i ho
                  split at h
                  · rename_i hc
                    exact Or.inr (Or.inr (Or.inr (Or.inr (Or.inr (Or.inr ⟨ho, hc, h⟩)))))
                  · cases h
                · cases h
theorem lcm_3 (a b : Int) : (a < b ∧ lcm a b = -1) ∨ (a = b ∧ lcm a b = 0) ∨ (b < a ∧ lcm a b = 1) := by
  unfold lcm
  split
  · omega
  · split <;> omega
theorem ldiv_t {a b : Int} (ha : sm a) (hb : sm b) : ldiv a b = a.tdiv b := by
  unfold ldiv
  rw [Int64.toInt_div_of_ne_left]
  · rw [i64_toInt (by omega), i64_toInt (by omega)]
  · intro q
    have := congrArg Int64.toInt q
    rw [i64_toInt (by omega), Int64.toInt_minValue] at this
    omega
theorem idiv_t {a b : Int} (ha : sm a) (hb : sm b) : idiv a b = a.tdiv b := by
  unfold idiv
  rw [Int32.toInt_div_of_ne_left]
  · rw [i32_toInt (by omega), i32_toInt (by omega)]
  · intro q
    have := congrArg Int32.toInt q
    rw [i32_toInt (by omega), Int32.toInt_minValue] at this
    omega
theorem mul_sm {a b : Int} (ha : sm a) (hb : sm b) : -1000000000000 ≤ a * b ∧ a * b ≤ 1000000000000 := by
  have h1 : (a * b).natAbs = a.natAbs * b.natAbs := Int.natAbs_mul a b
  have h2 : a.natAbs * b.natAbs ≤ 1000000 * 1000000 := Nat.mul_le_mul (by omega) (by omega)
  omega
section Law
variable {G : GG} {d : Nat} {m : MM}
theorem c_clip {k : Int → MM → Prop} {x0 : Int} (hx : rnl x0) (h : k (clipI x0) m) : N G d mi_X8_clip 0 [some (vl x0), none] [] m (RJG k) := by
  unfold clipI at h
  refine g_X8_clip_0 _ ⟨⟨hx, by omega⟩, ?_⟩
  rcases lcm_3 x0 1000000 with ⟨h1, h2⟩ | ⟨h1, h2⟩ | ⟨h1, h2⟩
  · rw [if_neg (by omega)] at h
    refine leT (by omega) ⟨⟨hx, by omega⟩, ?_⟩
    rcases lcm_3 x0 (-1000000) with ⟨h3, h4⟩ | ⟨h3, h4⟩ | ⟨h3, h4⟩
    · rw [if_pos (by omega)] at h
      exact leF (by omega) h
    · rw [if_neg (by omega)] at h
      exact leT (by omega) h
    · rw [if_neg (by omega)] at h
      exact leT (by omega) h
  · rw [if_neg (by omega), if_neg (by omega)] at h
    refine leT (by omega) ⟨⟨hx, by omega⟩, ?_⟩
    rcases lcm_3 x0 (-1000000) with ⟨h3, h4⟩ | ⟨h3, h4⟩ | ⟨h3, h4⟩
    · omega
    · omega
    · exact leT (by omega) h
  · rw [if_pos (by omega)] at h
    exact leF (by omega) h
theorem c3_within {k : Int → MM → Prop} {x0 : Int} (hx : rnl x0) (h : k (clipI x0) m) : N G d mi_X3_within 0 [some (vl x0), none] [] m (RI k) := by
  unfold clipI at h
  refine g_X3_within_0 _ ⟨⟨hx, by omega⟩, ?_⟩
  rcases lcm_3 x0 1000000 with ⟨h1, h2⟩ | ⟨h1, h2⟩ | ⟨h1, h2⟩
  · rw [if_neg (by omega)] at h
    refine leT (by omega) ⟨⟨hx, by omega⟩, ?_⟩
    rcases lcm_3 x0 (-1000000) with ⟨h3, h4⟩ | ⟨h3, h4⟩ | ⟨h3, h4⟩
    · rw [if_pos (by omega)] at h
      exact leF (by omega) h
    · rw [if_neg (by omega)] at h
      exact leT (by omega) h
    · rw [if_neg (by omega)] at h
      exact leT (by omega) h
  · rw [if_neg (by omega), if_neg (by omega)] at h
    refine leT (by omega) ⟨⟨hx, by omega⟩, ?_⟩
    rcases lcm_3 x0 (-1000000) with ⟨h3, h4⟩ | ⟨h3, h4⟩ | ⟨h3, h4⟩
    · omega
    · omega
    · exact leT (by omega) h
  · rw [if_pos (by omega)] at h
    exact leF (by omega) h
theorem ldiv_rnl (a b : Int) : rnl (ldiv a b) := by
  unfold ldiv
  have h1 := (i64 a / i64 b).le_toInt
  have h2 := (i64 a / i64 b).toInt_lt
  omega
theorem idiv_rng (a b : Int) : rng (idiv a b) := i32_rng _
theorem c_two {k : Int → MM → Prop} {x0 x1 x3 : Int} (ho : 3 ≤ x0 ∧ x0 ≤ 6) (h1 : sm x1) (h3 : sm x3) (h : k (ar2 x0 x1 x3) m) : N G (d + 1) mi_X8_two 0 [some (vi x0), some (vl x1), none, some (vl x3), none] [] m (RJG k) := by
  have hm := mul_sm h1 h3
  unfold ar2 at h
  refine g_X8_two_0 _ _ _ ⟨by omega, fun e => ?_, fun e => ?_, fun e => ?_, fun e => ?_⟩
  · rw [if_pos e] at h
    exact c_clip (by omega) h
  · rw [if_neg (by omega), if_pos e] at h
    exact c_clip (by omega) h
  · rw [if_neg (by omega), if_neg (by omega), if_pos e] at h
    exact c_clip (by omega) h
  · rw [if_neg (by omega), if_neg (by omega), if_neg (by omega)] at h
    refine ⟨by omega, ?_⟩
    rcases lcm_3 x3 0 with ⟨h4, h5⟩ | ⟨h4, h5⟩ | ⟨h4, h5⟩
    · rw [if_neg (by omega)] at h
      exact eqF (by omega) ⟨by omega, c_clip (ldiv_rnl _ _) (by rw [ldiv_t h1 h3]; exact h)⟩
    · rw [if_pos h4] at h
      exact eqT (by omega) h
    · rw [if_neg (by omega)] at h
      exact eqF (by omega) ⟨by omega, c_clip (ldiv_rnl _ _) (by rw [ldiv_t h1 h3]; exact h)⟩
theorem c_isAsked {k : Int → MM → Prop} {x0 x1 x3 : Int} (ho : 10 ≤ x0 ∧ x0 ≤ 15) (h1 : sm x1) (h3 : sm x3) (h : k (askI x0 x1 x3) m) : N G d mi_X8_isAsked 0 [some (vi x0), some (vl x1), none, some (vl x3), none] [] m (RI k) := by
  unfold askI at h
  have l3 := lcm_3 x1 x3
  refine g_X8_isAsked_0 _ _ _ (eqI (by omega) (fun e => ⟨by omega, ?_⟩) (fun e => eqI (by omega) (fun e2 => ⟨by omega, ?_⟩) (fun e2 => eqI (by omega) (fun e3 => ⟨by omega, ?_⟩) (fun e3 => eqI (by omega) (fun e4 => ⟨by omega, ?_⟩) (fun e4 => eqI (by omega) (fun e5 => ⟨by omega, ?_⟩) (fun e5 => ⟨by omega, ?_⟩))))))
  · rw [if_pos e] at h
    refine leI (by omega) (fun q => ?_) (fun q => ?_)
    · rw [if_neg (by omega)] at h; exact h
    · rw [if_pos (by omega)] at h; exact h
  · rw [if_neg e, if_pos e2] at h
    refine ltI (by omega) (fun q => ?_) (fun q => ?_)
    · rw [if_neg (by omega)] at h; exact h
    · rw [if_pos (by omega)] at h; exact h
  · rw [if_neg e, if_neg e2, if_pos e3] at h
    refine leI (by omega) (fun q => ?_) (fun q => ?_)
    · rw [if_neg (by omega)] at h; exact h
    · rw [if_pos (by omega)] at h; exact h
  · rw [if_neg e, if_neg e2, if_neg e3, if_pos e4] at h
    refine ltI (by omega) (fun q => ?_) (fun q => ?_)
    · rw [if_neg (by omega)] at h; exact h
    · rw [if_pos (by omega)] at h; exact h
  · rw [if_neg e, if_neg e2, if_neg e3, if_neg e4, if_pos e5] at h
    refine eqI (by omega) (fun q => ?_) (fun q => ?_)
    · rw [if_pos (by omega)] at h; exact h
    · rw [if_neg (by omega)] at h; exact h
  · rw [if_neg e, if_neg e2, if_neg e3, if_neg e4, if_neg e5] at h
    refine eqI (by omega) (fun q => ?_) (fun q => ?_)
    · rw [if_pos (by omega)] at h; exact h
    · rw [if_neg (by omega)] at h; exact h
/-- the class's joining: its token of the reference's sign -/
def tok (o : Int) : Int := -1 - enc o 0
theorem c3_arith {k : Int → MM → Prop} {x1 x2 o : Int} (ho : 3 ≤ o ∧ o ≤ 6) (h1 : sm x1) (h3 : sm x2) (h : ∀ z, rnl z → clipI z = ar2 o x1 x2 → k z m) : N G d mi_X3_joined 0 [some (vi (tok o)), some (vi x1), some (vi x2)] [] m (RJG k) := by
  have hm := mul_sm h1 h3
  have h4 : o = 3 ∨ o = 4 ∨ o = 5 ∨ o = 6 := by omega
  have c0 : clipI 0 = 0 := by decide
  refine g_X3_joined_0 _ _ _ ?_
  rcases h4 with rfl | rfl | rfl | rfl
  · rw [show tok 3 = 28 by decide]
    refine ⟨by omega, fun e => absurd e (by omega), fun e => absurd e (by omega), fun e => absurd e (by omega), fun e => absurd e (by omega), fun e => absurd e (by omega), fun e => absurd e (by omega), fun e => absurd e (by omega), fun e => absurd e (by omega), fun e => absurd e (by omega), fun e => absurd e (by omega), fun e => absurd e (by omega), fun e => absurd e (by omega), fun e => absurd e (by omega), fun e => absurd e (by omega), fun e => absurd e (by omega), fun e => absurd e (by omega), fun e => absurd e (by omega), fun e => absurd e (by omega), fun e => ?_, fun e => absurd e (by omega), fun e => absurd e (by omega), fun e => absurd e (by omega), fun e => absurd e (by omega)⟩
    exact ⟨by omega, h _ (by omega) (by simp [ar2])⟩
  · rw [show tok 4 = 29 by decide]
    refine ⟨by omega, fun e => absurd e (by omega), fun e => absurd e (by omega), fun e => absurd e (by omega), fun e => absurd e (by omega), fun e => absurd e (by omega), fun e => absurd e (by omega), fun e => absurd e (by omega), fun e => absurd e (by omega), fun e => absurd e (by omega), fun e => absurd e (by omega), fun e => absurd e (by omega), fun e => absurd e (by omega), fun e => absurd e (by omega), fun e => absurd e (by omega), fun e => absurd e (by omega), fun e => absurd e (by omega), fun e => absurd e (by omega), fun e => absurd e (by omega), fun e => absurd e (by omega), fun e => ?_, fun e => absurd e (by omega), fun e => absurd e (by omega), fun e => absurd e (by omega)⟩
    exact ⟨by omega, h _ (by omega) (by simp [ar2])⟩
  · rw [show tok 5 = 30 by decide]
    refine ⟨by omega, fun e => absurd e (by omega), fun e => absurd e (by omega), fun e => absurd e (by omega), fun e => absurd e (by omega), fun e => absurd e (by omega), fun e => absurd e (by omega), fun e => absurd e (by omega), fun e => absurd e (by omega), fun e => absurd e (by omega), fun e => absurd e (by omega), fun e => absurd e (by omega), fun e => absurd e (by omega), fun e => absurd e (by omega), fun e => absurd e (by omega), fun e => absurd e (by omega), fun e => absurd e (by omega), fun e => absurd e (by omega), fun e => absurd e (by omega), fun e => absurd e (by omega), fun e => absurd e (by omega), fun e => ?_, fun e => absurd e (by omega), fun e => absurd e (by omega)⟩
    exact ⟨by omega, by omega, h _ (by omega) (by simp [ar2])⟩
  · rw [show tok 6 = 31 by decide]
    refine ⟨by omega, fun e => absurd e (by omega), fun e => absurd e (by omega), fun e => absurd e (by omega), fun e => absurd e (by omega), fun e => absurd e (by omega), fun e => absurd e (by omega), fun e => absurd e (by omega), fun e => absurd e (by omega), fun e => absurd e (by omega), fun e => absurd e (by omega), fun e => absurd e (by omega), fun e => absurd e (by omega), fun e => absurd e (by omega), fun e => absurd e (by omega), fun e => absurd e (by omega), fun e => absurd e (by omega), fun e => absurd e (by omega), fun e => absurd e (by omega), fun e => absurd e (by omega), fun e => absurd e (by omega), fun e => absurd e (by omega), fun e => ?_, fun e => absurd e (by omega)⟩
    refine eqI (by omega) (fun q => h 0 (by omega) (by simp [ar2, q, c0])) (fun q => ⟨by omega, idiv_rng _ _, h _ (by have := idiv_rng x1 x2; omega) ?_⟩)
    rw [idiv_t h1 h3]
    simp [ar2, q]
end Law
