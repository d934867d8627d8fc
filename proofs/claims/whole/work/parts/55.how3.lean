/-! ===== how: the class ===== -/
abbrev pk4 (K : K4) : Int := pk K.1 K.2.1 K.2.2.1 K.2.2.2
def ptW (W : Nat → Nat → Int) (e : Nat) (K : K4) : Nat → Nat → Int := fun e' q => if e' = e then (if q = 2 then K.1 else if q = 3 then K.2.1 else if q = 4 then K.2.2.1 else if q = 5 then K.2.2.2 else W e q) else W e' q
theorem ptW_pk (W : Nat → Nat → Int) (e : Nat) (K : K4) : pkW (ptW W e K) e = pk4 K := by simp [pkW, ptW]
theorem ptW_cm (W : Nat → Nat → Int) (e : Nat) (K : K4) : cmy (ptW W e K) e = cm4 K := by simp [cmy, ptW, cm4]
theorem ptW_ln (W : Nat → Nat → Int) (e : Nat) (K : K4) (z : Int) : pkW (lnW (ptW W e K) e z) e = pk4 (ln4 z K) := by simp [pkW, lnW, ptW, ln4]
theorem ptW_ln2 (W : Nat → Nat → Int) (e : Nat) (K : K4) (z : Int) : pkW (lnW (lnW (ptW W e K) e z) e z) e = pk4 (ln4 z (ln4 z K)) := by simp [pkW, lnW, ptW, ln4]
theorem ptW_lo (W : Nat → Nat → Int) (e : Nat) (K : K4) (e' q : Nat) (hq : q < 2) : ptW W e K e' q = W e' q := by
  unfold ptW
  split
  · rename_i h
    rw [if_neg (by omega), if_neg (by omega), if_neg (by omega), if_neg (by omega), h]
  · rfl
theorem ptW_th {W : Nat → Nat → Int} {e : Nat} {K : K4} (h : th4 K) : th (ptW W e K e 2) ∧ th (ptW W e K e 3) ∧ th (ptW W e K e 4) ∧ th (ptW W e K e 5) := by
  have e2 : ptW W e K e 2 = K.1 := by simp [ptW]
  have e3 : ptW W e K e 3 = K.2.1 := by simp [ptW]
  have e4 : ptW W e K e 4 = K.2.2.1 := by simp [ptW]
  have e5 : ptW W e K e 5 = K.2.2.2 := by simp [ptW]
  rw [e2, e3, e4, e5]
  exact h
/-- whose hands were surely in it -/
def Hs (w oth low hands : Nat) : Nat := (if hands % 2 = 1 then 2 ^ w else 0) ||| (if hands / 2 = 1 ∧ oth = 1 then 2 ^ low else 0)
theorem Hs_1 (w oth low : Nat) {hands : Nat} (h : hands < 4) : Hs w oth low (hands ||| 1) = Hs w oth low hands ||| 2 ^ w := by
  have : hands = 0 ∨ hands = 1 ∨ hands = 2 ∨ hands = 3 := by omega
  rcases this with rfl | rfl | rfl | rfl
  · simp [Hs]
  · simp [Hs]
  · simp [Hs]; rw [Nat.or_comm]
  · simp [Hs]; rw [Nat.or_comm, Nat.or_assoc, Nat.or_self]
theorem Hs_2 (w oth low : Nat) {hands : Nat} (h : hands < 4) : Hs w oth low (hands ||| 2) = Hs w oth low hands ||| (if oth = 1 then 2 ^ low else 0) := by
  have : hands = 0 ∨ hands = 1 ∨ hands = 2 ∨ hands = 3 := by omega
  rcases this with rfl | rfl | rfl | rfl
  · simp [Hs]
  · simp [Hs]
  · simp [Hs]
  · simp [Hs]; rw [Nat.or_assoc, Nat.or_self]
theorem Hs_lt {w oth low hands : Nat} (hw : w < 6) (hl : low < 6) : Hs w oth low hands < 64 := by
  have h1 : 2 ^ w < 2 ^ 6 := Nat.pow_lt_pow_right (by decide) hw
  have h2 : 2 ^ low < 2 ^ 6 := Nat.pow_lt_pow_right (by decide) hl
  unfold Hs
  refine Nat.or_lt_two_pow (n := 6) ?_ ?_
  · split
    · exact h1
    · decide
  · split
    · exact h2
    · decide
/-- what the class has found so far -/
def AcC (n : Nat) (m : MM) (a : Sm) : Prop := match a with
  | none => m 279 5 = 0 ∧ m 279 6 = 63
  | some t => m 279 5 = (t.1 : Int) ∧ 0 < t.1 ∧ m 279 6 = (t.2.2 : Int) ∧ t.2.2 < 64 ∧ ∀ j, j < n → m 281 j = (t.2.1 j : Int)
theorem AcC.fr {n : Nat} {m m' : MM} {a : Sm} (h : AcC n m a) (e1 : m' 279 5 = m 279 5) (e2 : m' 279 6 = m 279 6) (e3 : m' 281 = m 281) : AcC n m' a := by
  cases a with
  | none =>
    have h : m 279 5 = 0 ∧ m 279 6 = 63 := h
    show m' 279 5 = 0 ∧ m' 279 6 = 63
    rw [e1, e2]; exact h
  | some t =>
    unfold AcC at h ⊢
    dsimp only at h ⊢
    rw [e1, e2, e3]; exact h
/-- what the class's search keeps: m0 is how it began -/
def InC (m0 : MM) (W : Nat → Nat → Int) (e : Nat) (m : MM) : Prop := (∀ c, c < 272 ∨ 284 ≤ c → m c = m0 c) ∧ (∀ b, b ≠ 5 → b ≠ 6 → m 279 b = m0 279 b) ∧ ∃ (hr : Int) (K : K4), Crt m 272 hr (ptW W e K)
theorem InC.as {m0 m m' : MM} {W : Nat → Nat → Int} {e : Nat} (h : InC m0 W e m) (f : ∀ c, c ≠ 277 → c ≠ 278 → c ≠ 279 → c ≠ 280 → c ≠ 281 → m' c = m c) (f2 : ∀ b, b ≠ 5 → b ≠ 6 → m' 279 b = m 279 b) : InC m0 W e m' := by
  obtain ⟨h1, h2, hr, K, h3⟩ := h
  exact ⟨fun c hc => (f c (by omega) (by omega) (by omega) (by omega) (by omega)).trans (h1 c hc), fun b q1 q2 => (f2 b q1 q2).trans (h2 b q1 q2), hr, K, h3.kept (f _ (by omega) (by omega) (by omega) (by omega) (by omega)) (f _ (by omega) (by omega) (by omega) (by omega) (by omega)) (f _ (by omega) (by omega) (by omega) (by omega) (by omega)) (f _ (by omega) (by omega) (by omega) (by omega) (by omega))⟩
theorem iand_63 : ∀ x : Nat, x < 64 → (63 &&& x) = x := by decide +kernel
section How3
variable {G : GG} {d : Nat} {m : MM}
theorem c4_found {Q : MM → Prop} {x1 x2 wi : Int} (n al hands w oth low : Nat) (hn : n ≤ 3) (e1 : x1 = (al : Int)) (e2 : x2 = (hands : Int)) (hh : hands < 4) (hal : 0 < al) (ew : m 279 2 = wi) (hwi : hands % 2 = 1 → wi = (w : Int)) (hw : w < 6) (eo : m 279 3 = (oth : Int)) (ho : oth ≤ 6) (el : m 279 4 = (low : Int)) (hl : low < 6) (p : Nat → Nat) (hp : ∀ j, j < n → m 280 j = (p j : Int)) (a : Sm) (ha : AcC n m a) (hcn : cn a < 1000000)
    (next : ∀ m', (∀ c, c ≠ 279 → c ≠ 281 → m' c = m c) → (∀ b, b ≠ 5 → b ≠ 6 → m' 279 b = m 279 b) → AcC n m' (smj a (lft n al (Hs w oth low hands) p (some (1, fun _ => 0, 0)))) → Q m') :
    N G (d + 1) mi_X4_found 0 [some (vr 279), some (vi x1), some (vi x2), none] [] m (RV Q) := by
  have hHs := Hs_lt (oth := oth) (hands := hands) hw hl
  -- behind the row
  have tail : ∀ (m1 : MM) (c0 s0 : Nat), m1 279 5 = (c0 : Int) → m1 279 6 = (s0 : Int) → s0 < 64 → (∀ b, b ≠ 5 → b ≠ 6 → m1 279 b = m 279 b) → (∀ m', (∀ c, c ≠ 279 → m' c = m1 c) → (∀ b, b ≠ 5 → b ≠ 6 → m' 279 b = m 279 b) → m' 279 5 = ((c0 + al : Nat) : Int) → m' 279 6 = ((s0 &&& Hs w oth low hands : Nat) : Int) → Q m') → N G (d + 1) mi_X4_found 21 [some (vr 279), some (vi x1), some (vi x2), none] [] m1 (RV Q) := by
    intro m1 c0 s0 h5 h6 hs fo nx
    refine g_X4_found_21 _ _ (fun m2 q2 => ?_)
    have f2 : ∀ b, b ≠ 5 → m2 279 b = m1 279 b := fun b hb => by rw [q2, upm_j _ _ hb]
    have o2 : ∀ c, c ≠ 279 → m2 c = m1 c := fun c hc => by rw [q2, upm_c hc]
    have v5 : m2 279 5 = ((c0 + al : Nat) : Int) := by rw [q2, upm_at, h5]; omega
    have v6 : m2 279 6 = (s0 : Int) := by rw [f2 6 (by omega)]; exact h6
    have v2 : m2 279 2 = wi := by rw [f2 2 (by omega), fo 2 (by omega) (by omega)]; exact ew
    have v3 : m2 279 3 = (oth : Int) := by rw [f2 3 (by omega), fo 3 (by omega) (by omega)]; exact eo
    have v4 : m2 279 4 = (low : Int) := by rw [f2 4 (by omega), fo 4 (by omega) (by omega)]; exact el
    have h1 : 2 ^ w < 2 ^ 6 := Nat.pow_lt_pow_right (by decide) hw
    have h2 : 2 ^ low < 2 ^ 6 := Nat.pow_lt_pow_right (by decide) hl
    -- the second half
    have half : ∀ (s1 : Nat), s1 < 64 → s1 = (if hands % 2 = 1 then 2 ^ w else 0) → N G (d + 1) mi_X4_found 48 [some (vr 279), none, some (vi x2), none] [vi (s1 : Int)] m2 (RV Q) := by
      intro s1 hs1 es1
      have fin : ∀ (z : Nat) (m3 : MM), z = Hs w oth low hands → m3 = upm m2 279 6 (iand (s0 : Int) (z : Int)) → Q m3 := by
        intro z m3 ez q3
        have an : (s0 &&& z) ≤ s0 := Nat.and_le_left
        rw [iand_n (by omega)] at q3
        refine nx m3 (fun c hc => by rw [q3, upm_c hc]; exact o2 c hc) (fun b b5 b6 => by rw [q3, upm_j _ _ b6, f2 b b5, fo b b5 b6]) (by rw [q3, upm_j _ _ (by omega)]; exact v5) (by rw [q3, upm_at, ez])
      have i2 : iand x2 2 = if hands / 2 = 1 then 2 else 0 := by
        rw [e2]
        have : hands = 0 ∨ hands = 1 ∨ hands = 2 ∨ hands = 3 := by omega
        rcases this with rfl | rfl | rfl | rfl <;> decide +kernel
      refine g_X4_found_48 _ _ ?_
      rw [i2, v6, v3, v4]
      by_cases hb : hands / 2 = 1
      · rw [if_pos hb]
        refine eqT (by omega) (eqI (by omega) (fun z m3 q3 => ?_) (fun z m3 q3 => ?_))
        · rw [ishl_1 (by omega), ior_n (by have := Nat.or_lt_two_pow (n := 6) hs1 h2; omega)] at q3
          exact fin _ m3 (by unfold Hs; rw [es1, if_pos (show hands / 2 = 1 ∧ oth = 1 from ⟨hb, by omega⟩)]) q3
        · exact fin s1 m3 (by unfold Hs; rw [es1, if_neg (show ¬ (hands / 2 = 1 ∧ oth = 1) by omega), Nat.or_zero]) q3
      · rw [if_neg hb]
        exact eqF (by omega) (fun m3 q3 => fin s1 m3 (by unfold Hs; rw [es1, if_neg (show ¬ (hands / 2 = 1 ∧ oth = 1) by omega), Nat.or_zero]) q3)
    have i1 : iand x2 1 = if hands % 2 = 1 then 1 else 0 := by
      rw [e2]
      have : hands = 0 ∨ hands = 1 ∨ hands = 2 ∨ hands = 3 := by omega
      rcases this with rfl | rfl | rfl | rfl <;> decide +kernel
    rw [i1]
    by_cases hb : hands % 2 = 1
    · rw [if_pos hb]
      refine eqT (by omega) ?_
      rw [v2, hwi hb, ishl_1 (by omega)]
      exact half _ h1 (if_pos hb).symm
    · rw [if_neg hb]
      exact eqF (by omega) (half 0 (by omega) (if_neg hb).symm)
  cases a with
  | none =>
    obtain ⟨a1, a2⟩ : m 279 5 = 0 ∧ m 279 6 = 63 := ha
    refine g_X4_found_0 _ _ (eqT (by omega) (fun m1 q1 => tail m1 0 63 (by rw [q1, cpm_c (by omega)]; exact a1) (by rw [q1, cpm_c (by omega)]; exact a2) (by omega) (fun b _ _ => by rw [q1, cpm_c (by omega)]) (fun m2 f2 g2 v5 v6 => next m2 (fun c h1 h2 => ?_) g2 ?_)))
    · rw [f2 c h1, q1, cpm_c h2]
    · show m2 279 5 = ((al * 1 : Nat) : Int) ∧ 0 < al * 1 ∧ m2 279 6 = ((Hs w oth low hands ||| 0 : Nat) : Int) ∧ (Hs w oth low hands ||| 0) < 64 ∧ ∀ j, j < n → m2 281 j = (((if j < n then p j else 0 : Nat)) : Int)
      refine ⟨by rw [v5]; simp, by omega, by rw [v6, iand_63 _ hHs, Nat.or_zero], by rw [Nat.or_zero]; exact hHs, fun j hj => ?_⟩
      rw [f2 281 (by omega), if_pos hj, q1, ← hp j hj]
      simp [cpm, show j < 3 by omega]
  | some t =>
    obtain ⟨a1, a2, a3, a4, a5⟩ : m 279 5 = (t.1 : Int) ∧ 0 < t.1 ∧ m 279 6 = (t.2.2 : Int) ∧ t.2.2 < 64 ∧ ∀ j, j < n → m 281 j = (t.2.1 j : Int) := ha
    have ct : t.1 < 1000000 := hcn
    refine g_X4_found_0 _ _ (eqF (by omega) (tail m t.1 t.2.2 a1 a3 a4 (fun _ _ _ => rfl) (fun m2 f2 g2 v5 v6 => next m2 (fun c h1 h2 => f2 c h1) g2 ?_)))
    have an : (t.2.2 &&& Hs w oth low hands) ≤ t.2.2 := Nat.and_le_left
    show m2 279 5 = ((t.1 + al * 1 : Nat) : Int) ∧ 0 < t.1 + al * 1 ∧ m2 279 6 = ((t.2.2 &&& (Hs w oth low hands ||| 0) : Nat) : Int) ∧ (t.2.2 &&& (Hs w oth low hands ||| 0)) < 64 ∧ ∀ j, j < n → m2 281 j = (t.2.1 j : Int)
    refine ⟨by rw [v5, Nat.mul_one], by omega, by rw [v6, Nat.or_zero], by rw [Nat.or_zero]; omega, fun j hj => by rw [f2 281 (by omega)]; exact a5 j hj⟩
end How3
