/-! ===== text: the reference reads sums ===== -/
theorem lcm_0 (a b : Int) : lcm a b = 0 ↔ a = b := by
  have := lcm_3 a b
  constructor <;> intro h <;> omega
theorem lcm_rng (a b : Int) : rng (lcm a b) := by have := lcm_3 a b; omega
theorem PLs.mem {f : Nat → Int} {x : Int} : ∀ {l : List Int}, PLs f l → (x ∈ l ↔ ∃ j, j < l.length ∧ f j = x) := by
  intro l
  induction l with
  | nil => intro _; constructor
           · intro h; cases h
           · rintro ⟨j, h, _⟩; exact absurd h (Nat.not_lt_zero j)
  | cons y l ih =>
    intro h
    rw [List.mem_cons, ih h.2]
    constructor
    · rintro (e | ⟨j, h1, h2⟩)
      · exact ⟨l.length, Nat.lt_succ_self _, by rw [h.1, e]⟩
      · exact ⟨j, Nat.lt_succ_of_lt h1, h2⟩
    · rintro ⟨j, h1, h2⟩
      have h1 : j < l.length + 1 := h1
      by_cases e : j = l.length
      · rw [e, h.1] at h2; exact Or.inl h2.symm
      · exact Or.inr ⟨j, by omega, h2⟩
abbrev LOK (l : List Int) : Prop := ∀ x ∈ l, 0 ≤ x ∧ x ≤ 40
section RRead2
variable {G : GG} {d : Nat} {m mB : MM} {b : Nat → Int} {L t0 i w o : Nat} {X : Nat → Int} {l : List Int}
theorem e_hasParen {k : Int → MM → Prop} (h : PL m l) (hl : LOK l) (hn : l.length ≤ 160) (hy : (40 : Int) ∈ l → k 1 m) (hno : ¬ (40 : Int) ∈ l → k 0 m) : N G d mi_X8_hasParen 0 [some (vr 304), none] [] m (RI k) := by
  obtain ⟨h1, h2⟩ := h
  have loop : ∀ (r j : Nat) (x1 : Int), j + r = l.length → x1 = (j : Int) → (∀ q, q < j → m 310 q ≠ 40) → N G d mi_X8_hasParen 2 [some (vr 304), some (vi x1)] [] m (RI k) := by
    intro r
    induction r with
    | zero =>
      intro j x1 hj e1 hq
      refine g_X8_hasParen_2 _ (leT (by omega) (hno (fun z => ?_)))
      obtain ⟨q, q1, q2⟩ := (h2.mem).mp z
      exact hq q (by omega) q2
    | succ r ih =>
      intro j x1 hj e1 hq
      have hm : m 310 j ∈ l := h2.mem.mpr ⟨j, by omega, rfl⟩
      have hr := hl _ hm
      refine g_X8_hasParen_2 _ (leF (by omega) ⟨j, by omega, eqI (by omega) (fun z => hy (h2.mem.mpr ⟨j, by omega, z⟩)) (fun z => ih (j + 1) _ (by omega) (by omega) (fun q hq' => ?_))⟩)
      by_cases e : q = j
      · rw [e]; exact z
      · exact hq q (by omega)
  exact g_X8_hasParen_0 (loop l.length 0 0 (by omega) rfl (fun q hq => absurd hq (by omega)))
theorem e_goesOn {k : Int → MM → Prop} (h : ES mB b L m i w X o l) (hl : LOK l) (hn : l.length ≤ 160) (hy : (28 ≤ tkI b L i ∧ tkI b L i ≤ 31) ∨ (tkI b L i = 33 ∧ (40 : Int) ∈ l) → k 1 m) (hno : ¬ ((28 ≤ tkI b L i ∧ tkI b L i ≤ 31) ∨ (tkI b L i = 33 ∧ (40 : Int) ∈ l)) → k 0 m) : N G (d + 1) mi_X8_goesOn 0 [some (vr 304)] [] m (RI k) := by
  have rt := h.2.1.2.2.1
  have r := rt.rng
  have i28 := rt.is (t0 := 28) (by omega)
  have i29 := rt.is (t0 := 29) (by omega)
  have i30 := rt.is (t0 := 30) (by omega)
  have i31 := rt.is (t0 := 31) (by omega)
  have i33 := rt.is (t0 := 33) (by omega)
  rw [show rtc 28 = 43 by decide] at i28
  rw [show rtc 29 = 45 by decide] at i29
  rw [show rtc 30 = 42 by decide] at i30
  rw [show rtc 31 = 47 by decide] at i31
  rw [show rtc 33 = 41 by decide] at i33
  refine g_X8_goesOn_0 (eqI (by omega) (fun z => hy (Or.inl (by omega))) (fun z1 => eqI (by omega) (fun z => hy (Or.inl (by omega))) (fun z2 => eqI (by omega) (fun z => hy (Or.inl (by omega))) (fun z3 => eqI (by omega) (fun z => hy (Or.inl (by omega))) (fun z4 => eqI (by omega) (fun z => ?_) (fun z5 => hno (by omega)))))))
  exact e_hasParen h.2.2.2.2.2 hl hn (fun q => eqF (by omega) (hy (Or.inr ⟨by omega, q⟩))) (fun q => eqT (by omega) (hno (fun y => by rcases y with y | y; omega; exact q y.2)))
theorem e_isWord {k : Int → MM → Prop} {x1 t : Int} (t0 : Nat) (ht : t0 < 22) (h : RTk t (m 304 11) (m 304 13)) (hx : x1 = cwL.getD t0 0) (hr : rnl x1) (hy : t = (t0 : Int) → k 1 m) (hn : t ≠ (t0 : Int) → k 0 m) : N G d mi_X8_isWord 0 [some (vr 304), some (vl x1), none] [] m (RI k) := by
  have r := h.rng
  rcases h.word with ⟨h1, h2, h3, h4⟩ | ⟨h1, h2⟩
  · have ti := tw_iff (w := m 304 13) ht
    rw [← h2, ← hx] at ti
    refine g_X8_isWord_0 _ (eqT (by omega) ⟨⟨by omega, hr⟩, eqI ⟨lcm_rng _ _, by omega⟩ (fun z => hy (ti.mpr ((lcm_0 _ _).mp z))) (fun z => hn (fun q => z ((lcm_0 _ _).mpr (ti.mp q))))⟩)
  · exact g_X8_isWord_0 _ (eqF (by omega) (hn (by omega)))
theorem e_nameOf {k : Int → MM → Prop} {t : Int} (h : RTk t (m 304 11) (m 304 13)) (hy : 13 ≤ t ∧ t ≤ 21 → k (t - 13) m) (hn : ¬ (13 ≤ t ∧ t ≤ 21) → k (-1) m) : N G (d + 3) mi_X8_nameOf 0 [some (vr 304)] [] m (RI k) := by
  have r := h.rng
  rcases h.word with ⟨h1, h2, h3, h4⟩ | ⟨h1, h2⟩
  · have hr : rnl (m 304 13) := by omega
    have cmp : ∀ (z : Int) (A B : Prop) (j : Nat), j < 9 → z = cwL.getD (13 + j) 0 → rnl z → (t = 13 + (j : Int) → A) → (t ≠ 13 + (j : Int) → B) → (rnl (m 304 13) ∧ rnl z) ∧ bEQ (lcm (m 304 13) z) 0 A B := by
      intro z A B j hj hz hzr hA hB
      have ti := tw_iff (w := m 304 13) (k := 13 + j) (by omega)
      rw [← h2, ← hz] at ti
      exact ⟨⟨hr, hzr⟩, eqI ⟨lcm_rng _ _, by omega⟩ (fun q => hA (by rw [ti.mpr ((lcm_0 _ _).mp q)]; omega)) (fun q => hB (fun e => q ((lcm_0 _ _).mpr (ti.mp (by rw [e]; omega)))))⟩
    refine g_X8_nameOf_0 (eqT (by omega) ?_)
    refine g_X8_w3_0 _ _ _ ⟨by omega, by omega, by omega, ?_⟩
    rw [show lorr (lshl (lorr (lshl 101 8) 121) 8) 101 = 6650213 by decide +kernel]
    refine cmp 6650213 _ _ 0 (by omega) (by decide +kernel) (by omega) (fun e => ?_) (fun e0 => ?_)
    · have := hy (by omega)
      rw [e] at this; exact this
    refine g_X8_w6_0 _ _ _ _ _ _ (g_X8_w5_0 _ _ _ _ _ (g_X8_w3_0 _ _ _ ⟨by omega, by omega, by omega, by omega, by omega, by omega, ?_⟩))
    rw [show lorr (lshl (lorr (lshl (lorr (lshl (lorr (lshl (lorr (lshl 99 8) 111) 8) 108) 8) 111) 8) 117) 8) 114 = 109330211763570 by decide +kernel]
    refine cmp 109330211763570 _ _ 1 (by omega) (by decide +kernel) (by omega) (fun e => ?_) (fun e1 => ?_)
    · have := hy (by omega)
      rw [e] at this; exact this
    refine g_X8_w3_0 _ _ _ ⟨by omega, by omega, by omega, g_X8_w4_0 _ _ _ _ (g_X8_w3_0 _ _ _ ⟨by omega, by omega, by omega, by omega, ?_⟩)⟩
    rw [show lorr (lshl (lorr (lshl (lorr (lshl 99 8) 104) 8) 105) 32) (lorr (lshl (lorr (lshl (lorr (lshl 112 8) 112) 8) 101) 8) 100) = 27980824761623908 by decide +kernel]
    refine cmp 27980824761623908 _ _ 2 (by omega) (by decide +kernel) (by omega) (fun e => ?_) (fun e2 => ?_)
    · have := hy (by omega)
      rw [e] at this; exact this
    refine g_X8_w4_0 _ _ _ _ (g_X8_w3_0 _ _ _ ⟨by omega, by omega, by omega, by omega, ?_⟩)
    rw [show lorr (lshl (lorr (lshl (lorr (lshl 104 8) 111) 8) 117) 8) 114 = 1752135026 by decide +kernel]
    refine cmp 1752135026 _ _ 3 (by omega) (by decide +kernel) (by omega) (fun e => ?_) (fun e3 => ?_)
    · have := hy (by omega)
      rw [e] at this; exact this
    refine g_X8_w5_0 _ _ _ _ _ (g_X8_w3_0 _ _ _ ⟨by omega, by omega, by omega, by omega, by omega, ?_⟩)
    rw [show lorr (lshl (lorr (lshl (lorr (lshl (lorr (lshl 115 8) 105) 8) 110) 8) 99) 8) 101 = 495690081125 by decide +kernel]
    refine cmp 495690081125 _ _ 4 (by omega) (by decide +kernel) (by omega) (fun e => ?_) (fun e4 => ?_)
    · have := hy (by omega)
      rw [e] at this; exact this
    refine g_X8_w4_0 _ _ _ _ (g_X8_w3_0 _ _ _ ⟨by omega, by omega, by omega, by omega, ?_⟩)
    rw [show lorr (lshl (lorr (lshl (lorr (lshl 109 8) 97) 8) 110) 8) 121 = 1835101817 by decide +kernel]
    refine cmp 1835101817 _ _ 5 (by omega) (by decide +kernel) (by omega) (fun e => ?_) (fun e5 => ?_)
    · have := hy (by omega)
      rw [e] at this; exact this
    refine g_X8_w5_0 _ _ _ _ _ (g_X8_w3_0 _ _ _ ⟨by omega, by omega, by omega, by omega, by omega, ?_⟩)
    rw [show lorr (lshl (lorr (lshl (lorr (lshl (lorr (lshl 116 8) 104) 8) 105) 8) 110) 8) 103 = 499967946343 by decide +kernel]
    refine cmp 499967946343 _ _ 6 (by omega) (by decide +kernel) (by omega) (fun e => ?_) (fun e6 => ?_)
    · have := hy (by omega)
      rw [e] at this; exact this
    refine g_X8_w4_0 _ _ _ _ (g_X8_w3_0 _ _ _ ⟨by omega, by omega, by omega, by omega, ?_⟩)
    rw [show lorr (lshl (lorr (lshl (lorr (lshl 107 8) 105) 8) 110) 8) 100 = 1802071652 by decide +kernel]
    refine cmp 1802071652 _ _ 7 (by omega) (by decide +kernel) (by omega) (fun e => ?_) (fun e7 => ?_)
    · have := hy (by omega)
      rw [e] at this; exact this
    refine g_X8_w3_0 _ _ _ ⟨by omega, by omega, by omega, ?_⟩
    rw [show lorr (lshl (lorr (lshl 119 8) 104) 8) 111 = 7825519 by decide +kernel]
    refine cmp 7825519 _ _ 8 (by omega) (by decide +kernel) (by omega) (fun e => ?_) (fun e8 => ?_)
    · have := hy (by omega)
      rw [e] at this; exact this
    exact hn (by omega)
  · exact g_X8_nameOf_0 (eqF (by omega) (hn (by omega)))
end RRead2
