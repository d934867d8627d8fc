/-! ===== memory by cells ===== -/
def sc (m : MM) (c : Nat) (f : Nat → Int) : MM := fun a b => if a = c then f b else m a b
def up (f : Nat → Int) (k : Nat) (z : Int) : Nat → Int := fun j => if j = k then z else f j
theorem upm_sc (m : MM) (c k : Nat) (z : Int) : upm m c k z = sc m c (up (m c) k z) := by
  funext a b
  unfold upm sc up
  by_cases h : a = c
  · subst h; by_cases h2 : b = k <;> simp [h2]
  · simp [h]
theorem sc_at (m : MM) (c : Nat) (f : Nat → Int) : sc m c f c = f := by funext b; simp [sc]
theorem sc_ne (m : MM) {a c : Nat} (f : Nat → Int) (h : a ≠ c) : sc m c f a = m a := by funext b; simp [sc, h]
theorem sc_sc (m : MM) (c : Nat) (f g : Nat → Int) : sc (sc m c f) c g = sc m c g := by funext a b; by_cases h : a = c <;> simp [sc, h]
theorem sc_id (m : MM) (c : Nat) : sc m c (m c) = m := by funext a b; by_cases h : a = c <;> simp [sc, h]
theorem up_at (f : Nat → Int) (k : Nat) (z : Int) : up f k z k = z := by simp [up]
theorem up_ne (f : Nat → Int) {j k : Nat} (z : Int) (h : j ≠ k) : up f k z j = f j := by simp [up, h]
/-! ===== the reference's small methods ===== -/
section Ref1
variable {G : GG} {d : Nat} {m : MM}
theorem c_isIn {k : Int → MM → Prop} {x0 x1 x2 : Int} (r : rng x0 ∧ rng x1 ∧ rng x2) (hy : x1 ≤ x0 ∧ x0 ≤ x2 → k 1 m) (hn : ¬ (x1 ≤ x0 ∧ x0 ≤ x2) → k 0 m) : N G d mi_X8_isIn 0 [some (vi x0), some (vi x1), some (vi x2)] [] m (RI k) := by
  refine g_X8_isIn_0 _ _ _ (ltI ⟨r.1, r.2.1⟩ (fun h => hn (by omega)) (fun h => ltI ⟨r.2.2, r.1⟩ (fun h2 => hn (by omega)) (fun h2 => hy (by omega))))
theorem c_isThing {k : Int → MM → Prop} {x1 : Int} (r : rng x1 ∧ rng (m 305 0 - 1)) (hy : 0 ≤ x1 ∧ x1 < m 305 0 → k 1 m) (hn : ¬ (0 ≤ x1 ∧ x1 < m 305 0) → k 0 m) : N G (d + 1) mi_X8_isThing 0 [some (vr 304), some (vi x1)] [] m (RI k) :=
  g_X8_isThing_0 _ (c_isIn ⟨r.1, by omega, r.2⟩ (fun h => ⟨by omega, hy (by omega)⟩) (fun h => ⟨by omega, hn (by omega)⟩))
theorem c_isEye {k : Int → MM → Prop} {x1 : Int} (r : rng x1 ∧ rng (m 305 1 - 1)) (hy : 0 ≤ x1 ∧ x1 < m 305 1 → k 1 m) (hn : ¬ (0 ≤ x1 ∧ x1 < m 305 1) → k 0 m) : N G (d + 1) mi_X8_isEye 0 [some (vr 304), some (vi x1)] [] m (RI k) :=
  g_X8_isEye_0 _ (c_isIn ⟨r.1, by omega, r.2⟩ (fun h => ⟨by omega, hy (by omega)⟩) (fun h => ⟨by omega, hn (by omega)⟩))
theorem c_isOne {k : Int → MM → Prop} {x1 : Int} (r : rng x1 ∧ rng (m 304 3 - 1)) (hy : 0 ≤ x1 ∧ x1 < m 304 3 → k 1 m) (hn : ¬ (0 ≤ x1 ∧ x1 < m 304 3) → k 0 m) : N G (d + 1) mi_X8_isOne 0 [some (vr 304), some (vi x1)] [] m (RI k) :=
  g_X8_isOne_0 _ (c_isIn ⟨r.1, by omega, r.2⟩ (fun h => ⟨by omega, hy (by omega)⟩) (fun h => ⟨by omega, hn (by omega)⟩))
theorem c_isText {k : Int → MM → Prop} {x1 : Int} (r : rng x1 ∧ rng (m 305 3 - 1)) (hy : 0 ≤ x1 ∧ x1 < m 305 3 → k 1 m) (hn : ¬ (0 ≤ x1 ∧ x1 < m 305 3) → k 0 m) : N G (d + 1) mi_X8_isText 0 [some (vr 304), some (vi x1)] [] m (RI k) :=
  g_X8_isText_0 _ (c_isIn ⟨r.1, by omega, r.2⟩ (fun h => ⟨by omega, hy (by omega)⟩) (fun h => ⟨by omega, hn (by omega)⟩))
theorem c_get {k : Int → MM → Prop} {x1 x2 : Int} (j : Nat) (e : 20 + 8 * x1 + x2 = (j : Int)) (hj : j < 1584) (h : k (m 305 j) m) : N G d mi_X8_get 0 [some (vr 304), some (vi x1), some (vi x2)] [] m (RI k) := g_X8_get_0 _ _ ⟨j, ⟨e, hj⟩, h⟩
theorem c_set {k : MM → Prop} {x1 x2 x3 : Int} (j : Nat) (e : 20 + 8 * x1 + x2 = (j : Int)) (hj : j < 1584) (h : k (sc m 305 (up (m 305) j x3))) : N G d mi_X8_set 0 [some (vr 304), some (vi x1), some (vi x2), some (vi x3)] [] m (RV k) :=
  g_X8_set_0 _ _ _ ⟨j, ⟨e, hj⟩, fun m1 e1 => by rw [e1, upm_sc]; exact h⟩
/-- an eye in the drawer, since 0, knowing nothing -/
def clS (S : Nat → Int) (i : Nat) : Nat → Int := fun j => if j = 20 + 8 * i + 3 then 0 else if 20 + 8 * i + 2 ≤ j ∧ j ≤ 20 + 8 * i + 7 then -1 else S j
theorem c_clear {k : MM → Prop} {x1 : Int} (i : Nat) (e : x1 = (i : Int)) (hi : i < 8) (h : k (sc m 305 (clS (m 305) i))) : N G (d + 1) mi_X8_clear 0 [some (vr 304), some (vi x1), none] [] m (RV k) := by
  have loop : ∀ (n q : Nat) (x2 : Int) (S : Nat → Int), q + n = 4 → x2 = (q : Int) → (∀ j, S j = if j = 20 + 8 * i + 3 then 0 else if 20 + 8 * i + 2 ≤ j ∧ j < 20 + 8 * i + 4 + q then -1 else m 305 j) → N G (d + 1) mi_X8_clear 16 [some (vr 304), some (vi x1), some (vi x2)] [] (sc m 305 S) (RV k) := by
    intro n
    induction n with
    | zero =>
      intro q x2 S hq hx hS
      refine g_X8_clear_16 _ _ (leT (by omega) ?_)
      have e2 : S = clS (m 305) i := by
        funext j
        rw [hS j]
        unfold clS
        have : q = 4 := by omega
        subst this
        split
        · rfl
        · split <;> split <;> first | rfl | (exfalso; omega)
      rw [e2]
      exact h
    | succ n ih =>
      intro q x2 S hq hx hS
      refine g_X8_clear_16 _ _ (leF (by omega) ?_)
      refine c_set (20 + 8 * i + 4 + q) (by omega) (by omega) ?_
      rw [sc_sc, sc_at]
      refine ih (q + 1) _ _ (by omega) (by omega) (fun j => ?_)
      unfold up
      rw [hS j]
      split
      · split
        · exfalso; omega
        · split
          · rfl
          · exfalso; omega
      · split
        · rfl
        · split <;> split <;> first | rfl | (exfalso; omega)
  refine g_X8_clear_0 _ (c_set (20 + 8 * i + 2) (by omega) (by omega) ?_)
  refine c_set (20 + 8 * i + 3) (by omega) (by omega) ?_
  rw [sc_sc, sc_at]
  refine loop 4 0 _ _ rfl rfl (fun j => ?_)
  unfold up
  split
  · rfl
  · split
    · split <;> first | rfl | (exfalso; omega)
    · split <;> first | rfl | (exfalso; omega)
/-- how many places of the first n hold something -/
def cnt (f : Nat → Int) : Nat → Int
  | 0 => 0
  | n + 1 => cnt f n + if f n < 0 then 0 else 1
theorem cnt_bd (f : Nat → Int) (n : Nat) : 0 ≤ cnt f n ∧ cnt f n ≤ n := by
  induction n with
  | zero => simp [cnt]
  | succ n ih => unfold cnt; split <;> omega
theorem c_manyOf {k : Int → MM → Prop} {x1 : Int} (i : Nat) (e : x1 = (i : Int)) (hi : i < 8) (hr : ∀ q, q < 4 → rng (m 305 (20 + 8 * i + 4 + q))) (h : k (cnt (fun q => m 305 (20 + 8 * i + 4 + q)) 4) m) : N G (d + 1) mi_X8_manyOf 0 [some (vr 304), some (vi x1), none, none] [] m (RI k) := by
  have loop : ∀ (n q : Nat) (x2 x3 : Int), q + n = 4 → x2 = cnt (fun q => m 305 (20 + 8 * i + 4 + q)) q → x3 = (q : Int) → N G (d + 1) mi_X8_manyOf 4 [some (vr 304), some (vi x1), some (vi x2), some (vi x3)] [] m (RI k) := by
    intro n
    induction n with
    | zero =>
      intro q x2 x3 hq h2 h3
      have : q = 4 := by omega
      subst this
      subst h2
      exact g_X8_manyOf_4 _ _ _ (leT (by omega) h)
    | succ n ih =>
      intro q x2 x3 hq h2 h3
      refine g_X8_manyOf_4 _ _ _ (leF (by omega) ?_)
      refine c_get (20 + 8 * i + 4 + q) (by omega) (by omega) ?_
      refine ltI ⟨hr q (by omega), by omega⟩ (fun hz => ?_) (fun hz => ?_)
      · exact ih (q + 1) _ _ (by omega) (by rw [h2, cnt, if_pos hz]) (by omega)
      · exact ih (q + 1) _ _ (by omega) (by rw [h2, cnt, if_neg hz]) (by omega)
  exact g_X8_manyOf_0 _ (loop 4 0 _ _ rfl rfl rfl)
theorem c_copy {k : MM → Prop} (c0 c1 : Nat) (h0 : SH c0 = .inl (.int, 1584)) (h1 : SH c1 = .inl (.int, 1584)) (hne : c0 ≠ c1) (h : k (sc m c1 (fun j => if j < 1584 then m c0 j else m c1 j))) : N G d mi_X8_copy 0 [some (vr c0), some (vr c1), none] [] m (RV k) := by
  have loop : ∀ (n q : Nat) (x2 : Int) (f : Nat → Int), q + n = 1584 → x2 = (q : Int) → (∀ j, f j = if j < q then m c0 j else m c1 j) → N G d mi_X8_copy 2 [some (vr c0), some (vr c1), some (vi x2)] [] (sc m c1 f) (RV k) := by
    intro n
    induction n with
    | zero =>
      intro q x2 f hq hx hf
      refine g_X8_copy_2 _ h0 _ h1 _ (leT (by omega) ?_)
      have : q = 1584 := by omega
      subst this
      rw [show f = _ from funext hf]
      exact h
    | succ n ih =>
      intro q x2 f hq hx hf
      refine g_X8_copy_2 _ h0 _ h1 _ (leF (by omega) ⟨q, ⟨hx, by omega⟩, q, ⟨hx, by omega⟩, fun m2 e2 => ?_⟩)
      rw [e2, upm_sc, sc_sc, sc_at, sc_ne _ _ hne]
      refine ih (q + 1) _ _ (by omega) (by omega) (fun j => ?_)
      unfold up
      rw [hf j]
      split
      · rename_i hj
        subst hj
        rw [if_pos (by omega)]
      · split <;> split <;> first | rfl | (exfalso; omega)
  have := loop 1584 0 0 (m c1) rfl rfl (fun j => by simp)
  rw [sc_id] at this
  exact g_X8_copy_0 _ h0 _ h1 this
end Ref1
