/-! ===== text: the class reads clauses ===== -/
def dd (s : Int) : Int := if s = 4 then 3 else s
/-- the class's script of what has been read -/
def ClC (m : MM) (cc : Nat) (x : Rds) : Prop := m cc 0 = (x.2.1.length : Int) ∧
  (∀ q, q < x.2.1.length → m (cc + 1) q = dd (x.2.1.getD q d0).1 ∧ (2 ≤ (x.2.1.getD q d0).1 → m (cc + 2) q = (x.2.1.getD q d0).2.1 ∧ m (cc + 3) q = (if (x.2.1.getD q d0).1 = 4 ∨ (x.2.1.getD q d0).1 = 6 then -1 else (x.2.1.getD q d0).2.2)) ∧ ((x.2.1.getD q d0).1 = 0 → m cc 6 = (x.2.1.getD q d0).2.1 ∧ m cc 7 = (x.2.1.getD q d0).2.2) ∧ ((x.2.1.getD q d0).1 = 1 → m cc 8 = (x.2.1.getD q d0).2.1 ∧ m cc 9 = (x.2.1.getD q d0).2.2)) ∧
  (x.2.2.2.1 = false → m cc 6 = -1) ∧ (x.2.2.2.1 = true → 0 ≤ m cc 6 ∧ m cc 6 ≤ 300) ∧ (x.2.2.2.2 = false → m cc 8 = -1) ∧ (x.2.2.2.2 = true → 0 ≤ m cc 8 ∧ m cc 8 ≤ 300)
def SCl (mB : MM) (cc : Nat) (f0 : Nat → Int) (m : MM) (x : Rds) : Prop := (∀ c, c ≠ 2 → (c < cc ∨ cc + 5 ≤ c) → m c = mB c) ∧ (∀ b, b ≠ 0 → b ≠ 1 → b ≠ 6 → b ≠ 7 → m 2 b = mB 2 b) ∧ m 2 0 = 0 ∧ m 2 1 = -1 ∧ m 2 6 = (x.1 : Int) ∧ m cc 5 = (x.2.2.1.length : Int) ∧ m (cc + 4) = wrt f0 0 x.2.2.1 ∧ ClC m cc x
theorem cst_self {m : MM} {cc : Nat} {i L : Int} {f : Nat → Int} (hi : m 2 6 = i) (hL : m cc 5 = L) (hf : m (cc + 4) = f) : cst m cc i L f = m := by
  funext a b
  unfold cst
  split
  · rename_i h; rw [h.1, h.2]; exact hi.symm
  · split
    · rename_i h; rw [h.1, h.2]; exact hL.symm
    · split
      · rename_i h; rw [h, hf]
      · rfl
theorem FdM.rb {m0 mB m' : MM} {cc E : Nat} {ft pl : Int} (h : FdM m0 cc E ft pl m') (h1 : ∀ c, c ≠ 2 → (c < cc ∨ cc + 5 ≤ c) → m0 c = mB c) (h2 : ∀ b, b ≠ 0 → b ≠ 1 → b ≠ 6 → b ≠ 7 → m0 2 b = mB 2 b) : FdM mB cc E ft pl m' := by
  obtain ⟨a1, a2, a3, a4, a5, a6, a7, a8⟩ := h
  exact ⟨a1, a2, a3, a4, a5, a6, fun c c2 c3 => (a7 c c2 c3).trans (h1 c c2 c3), fun b b0 b1 b6 b7 => (a8 b b0 b1 b6 b7).trans (h2 b b0 b1 b6 b7)⟩
theorem SCl.rc {mB m : MM} {cc E : Nat} {f0 : Nat → Int} {tk nb : Nat → Int} {ln : Int} {x : Rds} (h : SCl mB cc f0 m x) (rc : RC mB cc E tk nb ln) (hx : x.2.1.length ≤ 24) : RC m cc E tk nb (m 2 7) := by
  obtain ⟨r1, r2, r3, r4, r5, r6, r7, r8, r9, r10, r11, r12, r13⟩ := rc
  obtain ⟨s1, s2, s3, s4, s5, s6, s7, s8⟩ := h
  refine ⟨r1, r2, by rw [s2 8 (by omega) (by omega) (by omega) (by omega)]; exact r3, s3, by rw [s2 5 (by omega) (by omega) (by omega) (by omega)]; exact r5, r6, rfl, rfl, fun j hj => by rw [s1 3 (by omega) (by omega)]; exact r9 j hj, fun j hj => by rw [s1 5 (by omega) (by omega)]; exact r10 j hj, by rw [s8.1]; omega, r12, r13⟩
def adC (m : MM) (cc n : Nat) (x1 x2 x3 : Int) : MM := upm (upm (upm (upm m (cc + 1) n x1) (cc + 2) n x2) (cc + 3) n x3) cc 0 ((n : Int) + 1)
theorem getD_lt {cl : Cls} {e : Int × Int × Int} {q : Nat} (h : q < cl.length) : (cl ++ [e]).getD q d0 = cl.getD q d0 := by
  rw [List.getD_eq_getElem?_getD, List.getD_eq_getElem?_getD, List.getElem?_append_left h]
theorem getD_eq (cl : Cls) (e : Int × Int × Int) : (cl ++ [e]).getD cl.length d0 = e := by
  rw [List.getD_eq_getElem?_getD, List.getElem?_append_right (Nat.le_refl _)]
  simp
/-- an entry more -/
theorem SCl.ext {mB m m1 : MM} {cc i' : Nat} {f0 : Nat → Int} {x : Rds} (hcc : 284 ≤ cc) (h : SCl mB cc f0 m x) (e : Int × Int × Int) (c : Cde) (y2 y3 : Int)
    (hfr : ∀ a, a ≠ 2 → a ≠ cc → a ≠ cc + 1 → a ≠ cc + 2 → a ≠ cc + 3 → m1 a = m a) (h2 : ∀ b, b ≠ 7 → m1 2 b = m 2 b) (h0 : m1 cc 0 = (x.2.1.length : Int) + 1)
    (hd1 : ∀ q, m1 (cc + 1) q = if q = x.2.1.length then dd e.1 else m (cc + 1) q) (hd2 : ∀ q, m1 (cc + 2) q = if q = x.2.1.length then y2 else m (cc + 2) q) (hd3 : ∀ q, m1 (cc + 3) q = if q = x.2.1.length then y3 else m (cc + 3) q)
    (hy : 2 ≤ e.1 → y2 = e.2.1 ∧ y3 = if e.1 = 4 ∨ e.1 = 6 then -1 else e.2.2)
    (hs : if e.1 = 0 then x.2.2.2.1 = false ∧ (∀ e' ∈ x.2.1, e'.1 ≠ 0) ∧ m1 cc 6 = e.2.1 ∧ m1 cc 7 = e.2.2 ∧ 0 ≤ e.2.1 ∧ e.2.1 ≤ 300 else m1 cc 6 = m cc 6 ∧ m1 cc 7 = m cc 7)
    (hr : if e.1 = 1 then x.2.2.2.2 = false ∧ (∀ e' ∈ x.2.1, e'.1 ≠ 1) ∧ m1 cc 8 = e.2.1 ∧ m1 cc 9 = e.2.2 ∧ 0 ≤ e.2.1 ∧ e.2.1 ≤ 300 else m1 cc 8 = m cc 8 ∧ m1 cc 9 = m cc 9) :
    SCl mB cc f0 (cst m1 cc ((i' + 1 : Nat) : Int) (((x.2.2.1 ++ c).length : Nat) : Int) (wrt f0 0 (x.2.2.1 ++ c))) (i' + 1, x.2.1 ++ [e], x.2.2.1 ++ c, x.2.2.2.1 || decide (e.1 = 0), x.2.2.2.2 || decide (e.1 = 1)) := by
  obtain ⟨s1, s2, s3, s4, s5, s6, s7, t0, t1, t2, t3, t4, t5⟩ := h
  have cc0 : ∀ b, b ≠ 5 → cst m1 cc ((i' + 1 : Nat) : Int) (((x.2.2.1 ++ c).length : Nat) : Int) (wrt f0 0 (x.2.2.1 ++ c)) cc b = m1 cc b := fun b hb => cst_c hcc hb
  have c22 : ∀ b, b ≠ 6 → cst m1 cc ((i' + 1 : Nat) : Int) (((x.2.2.1 ++ c).length : Nat) : Int) (wrt f0 0 (x.2.2.1 ++ c)) 2 b = m1 2 b := fun b hb => cst_2 hcc hb
  refine ⟨fun a a2 a3 => ?_, fun b b0 b1 b6 b7 => ?_, ?_, ?_, cst_26, cst_c5 hcc, cst_c4 hcc, ?_, fun q hq => ?_, ?_, ?_, ?_, ?_⟩
  · rw [cst_o a2 (by omega) (by omega), hfr a a2 (by omega) (by omega) (by omega) (by omega)]; exact s1 a a2 a3
  · rw [c22 b b6, h2 b b7]; exact s2 b b0 b1 b6 b7
  · rw [c22 0 (by omega), h2 0 (by omega)]; exact s3
  · rw [c22 1 (by omega), h2 1 (by omega)]; exact s4
  · rw [cc0 0 (by omega), h0]
    show _ = (((x.2.1 ++ [e]).length : Nat) : Int)
    rw [List.length_append, List.length_singleton]
    omega
  · have hq : q < (x.2.1 ++ [e]).length := hq
    rw [List.length_append, List.length_singleton] at hq
    show cst m1 cc _ _ _ (cc + 1) q = dd ((x.2.1 ++ [e]).getD q d0).1 ∧ (2 ≤ ((x.2.1 ++ [e]).getD q d0).1 → cst m1 cc _ _ _ (cc + 2) q = ((x.2.1 ++ [e]).getD q d0).2.1 ∧ cst m1 cc _ _ _ (cc + 3) q = (if ((x.2.1 ++ [e]).getD q d0).1 = 4 ∨ ((x.2.1 ++ [e]).getD q d0).1 = 6 then -1 else ((x.2.1 ++ [e]).getD q d0).2.2)) ∧ (((x.2.1 ++ [e]).getD q d0).1 = 0 → cst m1 cc _ _ _ cc 6 = ((x.2.1 ++ [e]).getD q d0).2.1 ∧ cst m1 cc _ _ _ cc 7 = ((x.2.1 ++ [e]).getD q d0).2.2) ∧ (((x.2.1 ++ [e]).getD q d0).1 = 1 → cst m1 cc _ _ _ cc 8 = ((x.2.1 ++ [e]).getD q d0).2.1 ∧ cst m1 cc _ _ _ cc 9 = ((x.2.1 ++ [e]).getD q d0).2.2)
    rw [cst_o (by omega) (by omega) (by omega), cst_o (by omega) (by omega) (by omega), cst_o (by omega) (by omega) (by omega), cc0 6 (by omega), cc0 7 (by omega), cc0 8 (by omega), cc0 9 (by omega), hd1 q, hd2 q, hd3 q]
    by_cases eq : q = x.2.1.length
    · subst eq
      rw [getD_eq, if_pos rfl, if_pos rfl, if_pos rfl]
      refine ⟨rfl, hy, fun z => ?_, fun z => ?_⟩
      · rw [if_pos z] at hs; exact ⟨hs.2.2.1, hs.2.2.2.1⟩
      · rw [if_pos z] at hr; exact ⟨hr.2.2.1, hr.2.2.2.1⟩
    · have hq' : q < x.2.1.length := by omega
      obtain ⟨u1, u2, u3, u4⟩ := t1 q hq'
      rw [getD_lt hq', if_neg eq, if_neg eq, if_neg eq]
      have hm : x.2.1.getD q d0 ∈ x.2.1 := by
        rw [List.getD_eq_getElem?_getD, List.getElem?_eq_getElem hq']
        exact List.getElem_mem hq'
      refine ⟨u1, u2, fun z => ?_, fun z => ?_⟩
      · split at hs
        · exact absurd z (hs.2.1 _ hm)
        · rw [hs.1, hs.2]; exact u3 z
      · split at hr
        · exact absurd z (hr.2.1 _ hm)
        · rw [hr.1, hr.2]; exact u4 z
  · intro z
    have z : (x.2.2.2.1 || decide (e.1 = 0)) = false := z
    rw [Bool.or_eq_false_iff, decide_eq_false_iff_not] at z
    rw [if_neg z.2] at hs
    rw [cc0 6 (by omega), hs.1]; exact t2 z.1
  · intro z
    have z : (x.2.2.2.1 || decide (e.1 = 0)) = true := z
    rw [Bool.or_eq_true, decide_eq_true_eq] at z
    rw [cc0 6 (by omega)]
    split at hs
    · rw [hs.2.2.1]; exact hs.2.2.2.2
    · rename_i hne
      rw [hs.1]
      rcases z with z | z
      · exact t3 z
      · exact absurd z hne
  · intro z
    have z : (x.2.2.2.2 || decide (e.1 = 1)) = false := z
    rw [Bool.or_eq_false_iff, decide_eq_false_iff_not] at z
    rw [if_neg z.2] at hr
    rw [cc0 8 (by omega), hr.1]; exact t4 z.1
  · intro z
    have z : (x.2.2.2.2 || decide (e.1 = 1)) = true := z
    rw [Bool.or_eq_true, decide_eq_true_eq] at z
    rw [cc0 8 (by omega)]
    split at hr
    · rw [hr.2.2.1]; exact hr.2.2.2.2
    · rename_i hne
      rw [hr.1]
      rcases z with z | z
      · exact t5 z
      · exact absurd z hne
section CRead4
variable {G : GG} {d : Nat} {m0 : MM} {cc E : Nat} {tk nb : Nat → Int} {ln : Int}
theorem r_clause {Q : MM → Prop} {x1 x2 x3 i L : Int} {f : Nat → Int} (n : Nat) (h5 : SH cc = .inr 5) (hcc : 284 ≤ cc) (hn : m0 cc 0 = (n : Int)) (h24 : n < 24) (h : Q (cst (adC m0 cc n x1 x2 x3) cc i L f)) : N G d mi_X5_addClause 0 [some (vr cc), some (vi x1), some (vi x2), some (vi x3)] [] (cst m0 cc i L f) (RV Q) := by
  have e0 : cst m0 cc i L f cc 0 = (n : Int) := by rw [cst_c hcc (by omega)]; exact hn
  refine g_X5_addClause_0 cc h5 _ _ _ ?_
  rw [e0]
  refine leF (by omega) ⟨n, by omega, fun m1 q1 => ?_⟩
  rw [up_b _ (by omega) (by omega) (by omega)] at q1
  have e1 : m1 cc 0 = (n : Int) := by rw [q1, cst_c hcc (by omega), upm_c (by omega)]; exact hn
  refine ⟨n, ⟨e1, h24⟩, fun m3 q3 => ?_⟩
  rw [q1, up_b _ (by omega) (by omega) (by omega)] at q3
  have e3 : m3 cc 0 = (n : Int) := by rw [q3, cst_c hcc (by omega), upm_c (by omega), upm_c (by omega)]; exact hn
  refine ⟨n, ⟨e3, h24⟩, fun m5 q5 m7 q7 => ?_⟩
  rw [q3, up_b _ (by omega) (by omega) (by omega)] at q5
  have e5 : m5 cc 0 = (n : Int) := by rw [q5, cst_c hcc (by omega), upm_c (by omega), upm_c (by omega), upm_c (by omega)]; exact hn
  rw [e5, q5, up_b _ (by omega) (by omega) (by omega)] at q7
  rw [q7]
  exact h
theorem adC_d1 (m : MM) (cc n : Nat) (x1 x2 x3 : Int) (q : Nat) : adC m cc n x1 x2 x3 (cc + 1) q = if q = n then x1 else m (cc + 1) q := by
  unfold adC
  rw [upm_c (by omega), upm_c (by omega), upm_c (by omega)]
  by_cases h : q = n
  · rw [if_pos h, h, upm_at]
  · rw [if_neg h, upm_j _ _ h]
theorem adC_d2 (m : MM) (cc n : Nat) (x1 x2 x3 : Int) (q : Nat) : adC m cc n x1 x2 x3 (cc + 2) q = if q = n then x2 else m (cc + 2) q := by
  unfold adC
  rw [upm_c (by omega), upm_c (by omega)]
  by_cases h : q = n
  · rw [if_pos h, h, upm_at]
  · rw [if_neg h, upm_j _ _ h, upm_c (by omega)]
theorem adC_d3 (m : MM) (cc n : Nat) (x1 x2 x3 : Int) (q : Nat) : adC m cc n x1 x2 x3 (cc + 3) q = if q = n then x3 else m (cc + 3) q := by
  unfold adC
  rw [upm_c (by omega)]
  by_cases h : q = n
  · rw [if_pos h, h, upm_at]
  · rw [if_neg h, upm_j _ _ h, upm_c (by omega), upm_c (by omega)]
theorem adC_0 (m : MM) (cc n : Nat) (x1 x2 x3 : Int) : adC m cc n x1 x2 x3 cc 0 = (n : Int) + 1 := upm_at _ _ _ _
theorem adC_c (m : MM) (cc n : Nat) (x1 x2 x3 : Int) {b : Nat} (hb : b ≠ 0) : adC m cc n x1 x2 x3 cc b = m cc b := by
  unfold adC
  rw [upm_j _ _ hb, upm_c (by omega), upm_c (by omega), upm_c (by omega)]
theorem adC_o (m : MM) (cc n : Nat) (x1 x2 x3 : Int) {a : Nat} (h0 : a ≠ cc) (h1 : a ≠ cc + 1) (h2 : a ≠ cc + 2) (h3 : a ≠ cc + 3) : adC m cc n x1 x2 x3 a = m a := by
  unfold adC
  rw [upm_c h0, upm_c h3, upm_c h2, upm_c h1]
end CRead4
