/-! ===== text: the class reads ===== -/
/-- a reading memory: where the reader stands, how many signs are written, which -/
def cst (m0 : MM) (cc : Nat) (i L : Int) (f : Nat → Int) : MM := fun a b => if a = 2 ∧ b = 6 then i else if a = cc ∧ b = 5 then L else if a = cc + 4 then f b else m0 a b
def wrt (f : Nat → Int) (L : Nat) : Cde → Nat → Int
  | [] => f
  | (o, w) :: l => wrt (up f L (enc o w)) (L + 1) l
theorem wrt_app (a : Cde) : ∀ (f : Nat → Int) (L : Nat) (b : Cde), wrt f L (a ++ b) = wrt (wrt f L a) (L + a.length) b := by
  induction a with
  | nil => intro f L b; rfl
  | cons x a ih =>
    intro f L b
    obtain ⟨o, w⟩ := x
    rw [List.cons_append, wrt, wrt, ih, List.length_cons, show L + 1 + a.length = L + (a.length + 1) by omega]
/-- the memory with signs c behind the first L -/
def cs (m0 : MM) (cc i L : Nat) (f : Nat → Int) (c : Cde) : MM := cst m0 cc (i : Int) ((L + c.length : Nat) : Int) (wrt f L c)
theorem cs_app (m0 : MM) (cc i L : Nat) (f : Nat → Int) (a b : Cde) : cs m0 cc i (L + a.length) (wrt f L a) b = cs m0 cc i L f (a ++ b) := by
  unfold cs
  rw [wrt_app, List.length_append, Nat.add_assoc]
/-- what the reader begins with -/
def RC (m0 : MM) (cc E : Nat) (tk nb : Nat → Int) (ln : Int) : Prop := SH cc = .inr 5 ∧ 284 ≤ cc ∧ m0 2 8 = (cc : Int) ∧ m0 2 0 = 0 ∧ m0 2 5 = (E : Int) ∧ E ≤ 300 ∧ m0 2 7 = ln ∧ ln = ln ∧ (∀ j, j ≤ E → m0 3 j = tk j ∧ 0 ≤ tk j ∧ tk j ≤ 37) ∧ (∀ j, j < E → m0 5 j = nb j ∧ 0 ≤ nb j ∧ nb j ≤ 10000) ∧ (0 ≤ m0 cc 0 ∧ m0 cc 0 ≤ 24) ∧ tk E = 36 ∧ ∀ j, j < E → tk j ≠ 36
/-- a memory in which the reading has failed -/
def FdM (m0 : MM) (cc E : Nat) (ft pl : Int) (m : MM) : Prop := (1 ≤ ft ∧ ft ≤ 6) ∧ m 2 0 = ft ∧ m 2 1 = pl ∧ m 2 6 = (E : Int) ∧ (0 ≤ m cc 5 ∧ m cc 5 ≤ 300) ∧ (0 ≤ m cc 0 ∧ m cc 0 ≤ 24) ∧ (∀ c, c ≠ 2 → (c < cc ∨ cc + 5 ≤ c) → m c = m0 c) ∧ ∀ b, b ≠ 0 → b ≠ 1 → b ≠ 6 → b ≠ 7 → m 2 b = m0 2 b
section CRead
variable {m0 : MM} {cc : Nat} {i L : Int} {f : Nat → Int}
theorem cst_26 : cst m0 cc i L f 2 6 = i := by simp [cst]
theorem cst_2 (hc : 284 ≤ cc) {b : Nat} (hb : b ≠ 6) : cst m0 cc i L f 2 b = m0 2 b := by
  unfold cst
  rw [if_neg (by omega), if_neg (by omega), if_neg (by omega)]
theorem cst_o {a : Nat} (h2 : a ≠ 2) (h3 : a ≠ cc) (h4 : a ≠ cc + 4) : cst m0 cc i L f a = m0 a := by
  funext b
  unfold cst
  rw [if_neg (by omega), if_neg (by omega), if_neg (by omega)]
theorem cst_c5 (hc : 284 ≤ cc) : cst m0 cc i L f cc 5 = L := by
  unfold cst
  rw [if_neg (by omega), if_pos ⟨rfl, rfl⟩]
theorem cst_c (hc : 284 ≤ cc) {b : Nat} (hb : b ≠ 5) : cst m0 cc i L f cc b = m0 cc b := by
  unfold cst
  rw [if_neg (by omega), if_neg (by omega), if_neg (by omega)]
theorem cst_c4 (hc : 284 ≤ cc) : cst m0 cc i L f (cc + 4) = f := by
  funext b
  unfold cst
  rw [if_neg (by omega), if_neg (by omega), if_pos rfl]
theorem up_i (z : Int) : upm (cst m0 cc i L f) 2 6 z = cst m0 cc z L f := by
  funext a b
  unfold upm cst
  by_cases h : a = 2 ∧ b = 6
  · rw [if_pos h, if_pos h]
  · rw [if_neg h, if_neg h, if_neg h]
theorem up_L (hc : 284 ≤ cc) (z : Int) : upm (cst m0 cc i L f) cc 5 z = cst m0 cc i z f := by
  funext a b
  unfold upm cst
  by_cases h : a = 2 ∧ b = 6
  · rw [if_neg (by omega), if_pos h, if_pos h]
  · by_cases h2 : a = cc ∧ b = 5
    · rw [if_pos h2, if_neg h, if_pos h2]
    · rw [if_neg h2, if_neg h, if_neg h2, if_neg h, if_neg h2]
theorem up_f (hc : 284 ≤ cc) (j : Nat) (z : Int) : upm (cst m0 cc i L f) (cc + 4) j z = cst m0 cc i L (up f j z) := by
  funext a b
  unfold upm cst up
  by_cases h : a = 2 ∧ b = 6
  · rw [if_neg (by omega), if_pos h, if_pos h]
  · by_cases h2 : a = cc ∧ b = 5
    · rw [if_neg (by omega), if_neg h, if_pos h2, if_neg h, if_pos h2]
    · by_cases h3 : a = cc + 4
      · by_cases h4 : b = j
        · rw [if_pos ⟨h3, h4⟩, if_neg h, if_neg h2, if_pos h3, if_pos h4]
        · rw [if_neg (by omega), if_neg h, if_neg h2, if_pos h3, if_neg h, if_neg h2, if_pos h3, if_neg h4]
      · rw [if_neg (by omega), if_neg h, if_neg h2, if_neg h3, if_neg h, if_neg h2, if_neg h3]
/-- elsewhere -/
theorem up_b {a b : Nat} (z : Int) (h1 : ¬ (a = 2 ∧ b = 6)) (h2 : ¬ (a = cc ∧ b = 5)) (h3 : a ≠ cc + 4) : upm (cst m0 cc i L f) a b z = cst (upm m0 a b z) cc i L f := by
  funext x y
  unfold upm cst
  by_cases e : x = a ∧ y = b
  · rw [if_pos e, if_neg (by omega), if_neg (by omega), if_neg (by omega)]
    exact (if_pos e).symm
  · rw [if_neg e]
    by_cases h : x = 2 ∧ y = 6
    · rw [if_pos h, if_pos h]
    · rw [if_neg h, if_neg h]
      by_cases h4 : x = cc ∧ y = 5
      · rw [if_pos h4, if_pos h4]
      · rw [if_neg h4, if_neg h4]
        by_cases h5 : x = cc + 4
        · rw [if_pos h5, if_pos h5]
        · rw [if_neg h5, if_neg h5]
          exact (if_neg e).symm
end CRead
section CFail
variable {G : GG} {d : Nat} {m m0 : MM} {cc E : Nat} {tk nb : Nat → Int} {ln ft pl : Int}
theorem f_fail {Q : MM → Prop} {x1 : Int} (rc : RC m0 cc E tk nb ln) (h : FdM m0 cc E ft pl m) (next : ∀ m', FdM m0 cc E ft pl m' → Q m') : N G d mi_X2_fail 0 [some (vr 2), some (vi x1)] [] m (RV Q) := by
  obtain ⟨h1, h2, h3, h4, h5, h6, h7, h8⟩ := h
  obtain ⟨r1, r2, r3, r4, r5, r6, r7, -⟩ := rc
  have e5 : m 2 5 = (E : Int) := by rw [h8 5 (by omega) (by omega) (by omega) (by omega)]; exact r5
  refine g_X2_fail_0 _ (eqF (by omega) (fun m1 q1 => next m1 ⟨h1, ?_, ?_, ?_, ?_, ?_, fun c c2 c3 => ?_, fun b b0 b1 b6 b7 => ?_⟩))
  · rw [q1, upm_j _ _ (by omega)]; exact h2
  · rw [q1, upm_j _ _ (by omega)]; exact h3
  · rw [q1, upm_at]; exact e5
  · rw [q1, upm_c (by omega)]; exact h5
  · rw [q1, upm_c (by omega)]; exact h6
  · rw [q1, upm_c c2]; exact h7 c c2 c3
  · rw [q1, upm_j _ _ b6]; exact h8 b b0 b1 b6 b7
theorem FdM.tok (rc : RC m0 cc E tk nb ln) (h : FdM m0 cc E ft pl m) : m 3 E = 36 ∧ m 2 6 = (E : Int) ∧ E < 301 ∧ m 2 8 = (cc : Int) := by
  obtain ⟨h1, h2, h3, h4, h5, h6, h7, h8⟩ := h
  obtain ⟨r1, r2, r3, r4, r5, r6, r7, r8, r9, r10, r11, r12, r13⟩ := rc
  refine ⟨?_, h4, by omega, by rw [h8 8 (by omega) (by omega) (by omega) (by omega)]; exact r3⟩
  rw [h7 3 (by omega) (by omega), (r9 E (by omega)).1]; exact r12
theorem f_take {Q : MM → Prop} {x1 : Int} (rc : RC m0 cc E tk nb ln) (h : FdM m0 cc E ft pl m) (hx : rng x1 ∧ x1 ≠ 36) (next : ∀ m', FdM m0 cc E ft pl m' → Q m') : N G (d + 1) mi_X2_take 0 [some (vr 2), some (vi x1)] [] m (RV Q) := by
  obtain ⟨t1, t2, t3, t4⟩ := h.tok rc
  refine g_X2_take_0 _ ⟨E, by omega, ?_⟩
  rw [t1]
  exact eqF (by omega) (f_fail rc h next)
theorem f_takeNumber {k : Int → MM → Prop} {x1 : Int} (rc : RC m0 cc E tk nb ln) (h : FdM m0 cc E ft pl m) (next : ∀ m', FdM m0 cc E ft pl m' → k 0 m') : N G (d + 1) mi_X2_takeNumber 0 [some (vr 2), some (vi x1), none] [] m (RI k) := by
  obtain ⟨t1, t2, t3, t4⟩ := h.tok rc
  refine g_X2_takeNumber_0 _ ⟨E, by omega, E, by omega, ?_⟩
  rw [t1]
  exact eqF (by omega) (f_fail rc h next)
theorem f_add {Q : MM → Prop} {x1 : Int} (rc : RC m0 cc E tk nb ln) (h : FdM m0 cc E ft pl m) (next : ∀ m', FdM m0 cc E ft pl m' → Q m') : N G d mi_X5_addNumber 0 [some (vr cc), some (vi x1)] [] m (RV Q) := by
  have h' := h
  obtain ⟨h1, h2, h3, h4, h5, h6, h7, h8⟩ := h
  have rcc := rc.2.1
  refine g_X5_addNumber_0 cc rc.1 _ (leI (by omega) (fun z => next m h') (fun z => ⟨(m cc 5).toNat, by omega, fun m1 q1 m3 q3 => next m3 ⟨h1, ?_, ?_, ?_, ?_, ?_, fun c c2 c3 => ?_, fun b b0 b1 b6 b7 => ?_⟩⟩))
  · rw [q3, upm_c (by omega), q1, upm_c (by omega)]; exact h2
  · rw [q3, upm_c (by omega), q1, upm_c (by omega)]; exact h3
  · rw [q3, upm_c (by omega), q1, upm_c (by omega)]; exact h4
  · rw [q3, upm_at, q1, upm_c (by omega)]; omega
  · rw [q3, upm_j _ _ (by omega), q1, upm_c (by omega)]; exact h6
  · rw [q3, upm_c (by omega), q1, upm_c (by omega)]; exact h7 c c2 c3
  · rw [q3, upm_c (by omega), q1, upm_c (by omega)]; exact h8 b b0 b1 b6 b7
theorem f_sign {Q : MM → Prop} {x1 : Int} (rc : RC m0 cc E tk nb ln) (h : FdM m0 cc E ft pl m) (next : ∀ m', FdM m0 cc E ft pl m' → Q m') : N G (d + 1) mi_X5_addSign 0 [some (vr cc), some (vi x1)] [] m (RV Q) := g_X5_addSign_0 cc rc.1 _ (f_add rc h next)
theorem f_clause {Q : MM → Prop} {x1 x2 x3 : Int} (rc : RC m0 cc E tk nb ln) (h : FdM m0 cc E ft pl m) (next : ∀ m', FdM m0 cc E ft pl m' → Q m') : N G d mi_X5_addClause 0 [some (vr cc), some (vi x1), some (vi x2), some (vi x3)] [] m (RV Q) := by
  have h' := h
  obtain ⟨h1, h2, h3, h4, h5, h6, h7, h8⟩ := h
  have rcc := rc.2.1
  refine g_X5_addClause_0 cc rc.1 _ _ _ (leI (by omega) (fun z => next m h') (fun z => ⟨(m cc 0).toNat, by omega, fun m1 q1 => ?_⟩))
  have e1 : m1 cc 0 = m cc 0 := by rw [q1, upm_c (by omega)]
  refine ⟨(m cc 0).toNat, by omega, fun m3 q3 => ?_⟩
  have e3 : m3 cc 0 = m cc 0 := by rw [q3, upm_c (by omega)]; exact e1
  refine ⟨(m cc 0).toNat, by omega, fun m5 q5 m7 q7 => next m7 ⟨h1, ?_, ?_, ?_, ?_, ?_, fun c c2 c3 => ?_, fun b b0 b1 b6 b7 => ?_⟩⟩
  · rw [q7, upm_c (by omega), q5, upm_c (by omega), q3, upm_c (by omega), q1, upm_c (by omega)]; exact h2
  · rw [q7, upm_c (by omega), q5, upm_c (by omega), q3, upm_c (by omega), q1, upm_c (by omega)]; exact h3
  · rw [q7, upm_c (by omega), q5, upm_c (by omega), q3, upm_c (by omega), q1, upm_c (by omega)]; exact h4
  · rw [q7, upm_j _ _ (by omega), q5, upm_c (by omega), q3, upm_c (by omega), q1, upm_c (by omega)]; exact h5
  · rw [q7, upm_at, q5, upm_c (by omega), e3]; omega
  · rw [q7, upm_c (by omega), q5, upm_c (by omega), q3, upm_c (by omega), q1, upm_c (by omega)]; exact h7 c c2 c3
  · rw [q7, upm_c (by omega), q5, upm_c (by omega), q3, upm_c (by omega), q1, upm_c (by omega)]; exact h8 b b0 b1 b6 b7
theorem f_one {Q : MM → Prop} {x1 : Int} (rc : RC m0 cc E tk nb ln) (h : FdM m0 cc E ft pl m) (next : ∀ m', FdM m0 cc E ft pl m' → Q m') : N G (d + 2) mi_X2_readOne 0 [some (vr 2), some (vi x1), none] [] m (RV Q) := by
  obtain ⟨t1, t2, t3, t4⟩ := h.tok rc
  refine g_X2_readOne_0 _ ⟨E, by omega, ?_⟩
  rw [t1]
  exact eqF (by omega) (ltF (by omega) (ltT (by omega) (g_X2_readOne_80 _ _ (eqF (by omega) (eqF (by omega) (f_fail rc h next))))))
theorem f_sum9 {Q : MM → Prop} {x1 x2 x3 : Int} (rc : RC m0 cc E tk nb ln) (h : FdM m0 cc E ft pl m) (hx2 : rng x2) (hx3 : rng x3) (next : ∀ m', FdM m0 cc E ft pl m' → Q m') : N G (d + 3) mi_X2_readSum 9 [some (vr 2), some (vi x1), some (vi x2), some (vi x3), none, none] [] m (RV Q) := by
  obtain ⟨t1, t2, t3, t4⟩ := h.tok rc
  have fin : N G (d + 3) mi_X2_readSum 132 [some (vr 2), none, some (vi x2), none, none, none] [] m (RV Q) := g_X2_readSum_132 _ (eqI (by omega) (fun _ => next m h) (fun _ => ⟨cc, ⟨t4, rc.1⟩, f_sign rc h next⟩))
  refine g_X2_readSum_9 _ _ _ (leI (by omega) (fun _ => fin) (fun _ => ⟨E, by omega, ?_⟩))
  rw [t1]
  refine ltF (by omega) ⟨E, by omega, ?_⟩
  rw [t1]
  exact ltT (by omega) fin
theorem f_sum {Q : MM → Prop} {x1 : Int} (rc : RC m0 cc E tk nb ln) (h : FdM m0 cc E ft pl m) (next : ∀ m', FdM m0 cc E ft pl m' → Q m') : N G (d + 3) mi_X2_readSum 0 [some (vr 2), some (vi x1), none, none, none, none] [] m (RV Q) :=
  g_X2_readSum_0 _ (f_one rc h (fun m' h' => f_sum9 rc h' (by omega) (by omega) next))
theorem f_ask {Q : MM → Prop} {x1 : Int} (rc : RC m0 cc E tk nb ln) (h : FdM m0 cc E ft pl m) (next : ∀ m', FdM m0 cc E ft pl m' → Q m') : N G (d + 4) mi_X2_readAsk 0 [some (vr 2), some (vi x1), none] [] m (RV Q) := by
  obtain ⟨t1, t2, t3, t4⟩ := h.tok rc
  refine g_X2_readAsk_0 _ ⟨E, by omega, ?_⟩
  rw [t1]
  refine eqF (by omega) (f_sum rc h (fun m' h' => ?_))
  obtain ⟨u1, u2, u3, u4⟩ := h'.tok rc
  refine ⟨E, by omega, ?_⟩
  rw [u1]
  exact ltF (by omega) (leF (by omega) (g_X2_readAsk_80 (f_fail rc h' next)))
end CFail
