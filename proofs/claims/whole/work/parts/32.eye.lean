theorem WfS.eye {C : Int} {S T : Nat → Int} {n : Nat} {x b : Int} (h : WfS C S) (hn : S 1 = (n : Int)) (h8 : n < 8) (hx : 0 ≤ x ∧ x ≤ 3) (hb : b = 0 ∨ b = 1) (val : ∀ j, T j = if j = 1 then (n : Int) + 1 else if j = 20 + 8 * n then x else if j = 20 + 8 * n + 1 then b else S j) : WfS C T := by
  have lo : ∀ j, j ≠ 1 → j < 20 → T j = S j := fun j h1 h2 => by rw [val, if_neg h1, if_neg (by omega), if_neg (by omega)]
  have hi : ∀ j, 84 ≤ j → T j = S j := fun j h1 => by rw [val, if_neg (by omega), if_neg (by omega), if_neg (by omega)]
  have t1 : T 1 = (n : Int) + 1 := by rw [val, if_pos rfl]
  have st := h.steps hi (lo 5 (by omega) (by omega)) (by rw [t1, hn]; omega)
  obtain ⟨h0, h1, h3, h4, h5, h6, h7, h8', h9, h10, h11⟩ := h
  refine ⟨by rw [lo 0 (by omega) (by omega)]; exact h0, by rw [t1]; omega, by rw [lo 3 (by omega) (by omega)]; exact h3, by rw [lo 3 (by omega) (by omega), lo 4 (by omega) (by omega)]; exact h4, by rw [lo 5 (by omega) (by omega)]; exact h5, by rw [lo 6 (by omega) (by omega)]; exact h6, fun j hj => by rw [lo _ (by omega) (by omega)]; exact h7 j hj, fun k hk => by rw [lo 6 (by omega) (by omega), lo _ (by omega) (by omega), lo 0 (by omega) (by omega)]; exact h8' k hk, fun e he => ?_, ?_, st⟩
  · have g := h9 e he
    by_cases hen : e = n
    · subst hen
      rw [val, if_neg (by omega), if_pos rfl, val, if_neg (by omega), if_neg (by omega), if_pos rfl]
      exact ⟨hx, hb⟩
    · rw [val (20 + 8 * e), if_neg (by omega), if_neg (by omega), if_neg (by omega), val (20 + 8 * e + 1), if_neg (by omega), if_neg (by omega), if_neg (by omega)]
      exact g
  · obtain ⟨a1, a2, a3, a4, a5⟩ := h10
    have e2 : T 2 = S 2 := lo 2 (by omega) (by omega)
    have hv : WfV C ((n : Int) + 1) (S 2) (nowW S) := ⟨a1, a2, a3, fun e he hle => a4 e he (by omega), a5⟩
    rw [t1, e2]
    refine hv.cong (fun a ha q hq => ?_)
    unfold nowW
    rw [val, if_neg (by omega), if_neg (by omega), if_neg (by omega)]
theorem Std.eye {C : Int} {m m' : MM} {S T : Nat → Int} {n : Nat} {x b : Int} (h : Std m 12 S) (hw : WfS C S) (hn : S 1 = (n : Int)) (h8 : n < 8) (hk : ∀ j, 16 ≤ j → j < 142 → m' j = m j) (a0 : m' 12 0 = m 12 0) (a1 : m' 12 2 = (n : Int) + 1) (a3 : m' 12 5 = m 12 5) (a4 : m' 12 6 = m 12 6) (a6 : m' 12 7 = m 12 7) (a8 : m' 12 8 = m 12 8) (b1 : m' 13 = m 13) (b2 : ∀ j, m' 14 j = if j = n then x else m 14 j) (b3 : ∀ j, m' 15 j = if j = n then b else m 15 j) (val : ∀ j, T j = if j = 1 then (n : Int) + 1 else if j = 20 + 8 * n then x else if j = 20 + 8 * n + 1 then b else S j) : Std m' 12 T := by
  have lo : ∀ j, j ≠ 1 → j < 20 → T j = S j := fun j h1 h2 => by rw [val, if_neg h1, if_neg (by omega), if_neg (by omega)]
  have hi : ∀ j, 84 ≤ j → T j = S j := fun j h1 => by rw [val, if_neg (by omega), if_neg (by omega), if_neg (by omega)]
  obtain ⟨s0, s1, s3, s4, s6, s8, s7, s9, sr, sp⟩ := h
  have es : ∀ q, q < 4 → shw T q = shw S q := fun q hq => by unfold shw; rw [lo 6 (by omega) (by omega), lo (16 + q) (by omega) (by omega)]
  refine ⟨by rw [a0, lo 0 (by omega) (by omega)]; exact s0, by rw [a1, val, if_pos rfl], by rw [a3, lo 3 (by omega) (by omega)]; exact s3, by rw [a4, lo 4 (by omega) (by omega)]; exact s4, by rw [a6, lo 6 (by omega) (by omega)]; exact s6, by rw [a8, es 0 (by omega), es 1 (by omega), es 2 (by omega), es 3 (by omega)]; exact s8, fun j hj => by rw [b1, lo _ (by omega) (by omega)]; exact s7 j hj, fun e he => ?_, ?_, ?_⟩
  · have g := s9 e he
    show m' 14 e = _ ∧ m' 15 e = _
    rw [b2, b3]
    by_cases hen : e = n
    · subst hen
      rw [if_pos rfl, if_pos rfl, val, if_neg (by omega), if_pos rfl, val, if_neg (by omega), if_neg (by omega), if_pos rfl]
      exact ⟨rfl, rfl⟩
    · rw [if_neg hen, if_neg hen, val (20 + 8 * e), if_neg (by omega), if_neg (by omega), if_neg (by omega), val (20 + 8 * e + 1), if_neg (by omega), if_neg (by omega), if_neg (by omega)]
      exact g
  · rw [lo 2 (by omega) (by omega)]
    refine (sr.kept (hk _ (by omega) (by omega)) (hk _ (by omega) (by omega)) (hk _ (by omega) (by omega)) (hk _ (by omega) (by omega))).cong (fun a ha q hq => ?_)
    unfold nowW
    rw [val, if_neg (by omega), if_neg (by omega), if_neg (by omega)]
  · exact (sp.kept (fun j _ _ => hk j (by omega) (by omega))).hi hi (lo 5 (by omega) (by omega))
section PubEye
variable {G : GG} {d : Nat} {m : MM}
theorem P_eye {k : Int → Int → MM → Prop} {x b : Int} (hx : rng x) (hb : b = 0 ∨ b = 1) (h : Rel m m) (hk : ∀ z m', Rel m' m' → k z z m') : PR G d mi_X7_eye mi_X8_eye [some (vr 0), some (vi x), some (vi b)] [some (vr 304), some (vi x), some (vi b), none] m k := by
  have hR := h
  obtain ⟨C, hC, h0, h3, hS, hw, -, -⟩ := h.now
  have w1 := hw.2.1
  have hS' := hS
  obtain ⟨s0, s1, s3, s4, s6, s8, s7, s9, sr, sp⟩ := hS
  have no : ¬ (0 ≤ x ∧ x ≤ 3 ∧ m 305 1 < 8) → N G (d + 60) mi_X8_eye 0 [some (vr 304), some (vi x), some (vi b), none] [] m (RI fun z' m2 => k (-1) z' m2) := by
    intro hn
    refine g_X8_eye_0 _ _ (c_isIn (by omega) (fun q => ?_) (fun q => eqT (by omega) (hk _ _ hR)))
    exact eqF (by omega) (eqT (by omega) (hk _ _ hR))
  obtain ⟨n, hn⟩ : ∃ n : Nat, m 305 1 = (n : Int) := ⟨(m 305 1).toNat, by omega⟩
  refine g_X7_eye_0 _ _ (ltI (by omega) (fun q => no (by omega)) (fun q => leI (by omega) (fun q2 => no (by omega)) (fun q2 => ltI (by omega) (fun q3 => ?_) (fun q3 => no (by omega)))))
  refine ⟨n, by omega, fun m1 e1 => ?_⟩
  have e12 : m1 12 2 = (n : Int) := by rw [e1, upm_c (by omega)]; omega
  -- the class's end, the chip being b
  have fin : N G (d + 60) mi_X7_eye 62 [some (vr 0), none, none] [vi b, vi (m1 12 2), vr 15] m1 (RI fun z m1 => N G (d + 60) mi_X8_eye 0 [some (vr 304), some (vi x), some (vi b), none] [] m1 (RI fun z' m2 => k z z' m2)) := by
    refine g_X7_eye_62 _ _ ⟨n, by omega, fun m2 e2 m3 e3 => ?_⟩
    have f1 : FrC m m3 := fun c hc => by rw [e3, upm_c (by omega), e2, upm_c (by omega), e1, upm_c (by omega)]
    have g5 : m3 305 = m 305 := f1 305 (by omega)
    have ez : m3 12 2 - 1 = (n : Int) := by
      rw [e3, e2]
      simp [upm]
      omega
    rw [ez]
    refine g_X8_eye_0 _ _ (c_isIn (by omega) (fun _ => eqF (by omega) (eqF ⟨by rw [g5]; omega, by rw [g5]; omega⟩ ?_)) (fun q4 => absurd q4 (by omega)))
    rw [g5]
    refine c_set (20 + 8 * n) (by omega) (by omega) ?_
    have tail : N G (d + 60) mi_X8_eye 48 [some (vr 304), none, none, some (vi (m 305 1))] [vi b, vi 1, vi (m 305 1), vr 304] (sc m3 305 (up (m3 305) (20 + 8 * n) x)) (RI fun z' m2 => k (n : Int) z' m2) := by
      refine g_X8_eye_48 _ _ _ _ (c_set (20 + 8 * n + 1) (by omega) (by omega) (c_clear n (by omega) (by omega) (fun m5 e5 => ?_)))
      rw [hn]
      have e5' : m5 = sc m3 305 (up (clS (up (up (m 305) (20 + 8 * n) x) (20 + 8 * n + 1) b) n) 1 ((n : Int) + 1)) := by
        rw [e5, upm_sc, sc_sc, sc_at, sc_sc, sc_at, sc_sc, sc_at, g5]
        congr 2
        unfold clS up
        rw [if_neg (by omega), if_neg (by omega), if_neg (by omega), if_neg (by omega), hn]
      have e305 : m5 305 = up (clS (up (up (m 305) (20 + 8 * n) x) (20 + 8 * n + 1) b) n) 1 ((n : Int) + 1) := by rw [e5', sc_at]
      have val : ∀ j, m5 305 j = if j = 1 then (n : Int) + 1 else if j = 20 + 8 * n then x else if j = 20 + 8 * n + 1 then b else m 305 j := by
        intro j
        rw [e305]
        unfold up clS
        have z := hw.out (e := n) (by omega) (by omega)
        unfold eye0 nowW at z
        by_cases j1 : j = 1
        · simp [j1]
        · rw [if_neg j1, if_neg j1]
          by_cases j3 : j = 20 + 8 * n + 3
          · rw [if_pos j3, if_neg (by omega), if_neg (by omega), j3]
            exact z.2.1.symm
          · rw [if_neg j3]
            by_cases jr : 20 + 8 * n + 2 ≤ j ∧ j ≤ 20 + 8 * n + 7
            · rw [if_pos jr, if_neg (by omega), if_neg (by omega)]
              obtain ⟨t, ht⟩ : ∃ t, j = 20 + 8 * n + 2 + t := ⟨j - (20 + 8 * n + 2), by omega⟩
              subst ht
              have ht6 : t = 0 ∨ t = 2 ∨ t = 3 ∨ t = 4 ∨ t = 5 := by omega
              rcases ht6 with rfl | rfl | rfl | rfl | rfl
              · exact z.1.symm
              · exact z.2.2.1.symm
              · exact z.2.2.2.1.symm
              · exact z.2.2.2.2.1.symm
              · exact z.2.2.2.2.2.symm
            · rw [if_neg jr]
              by_cases ja : j = 20 + 8 * n + 1
              · dsimp only
                rw [if_pos ja, if_neg (by omega), if_pos ja]
              · dsimp only
                rw [if_neg ja, if_neg ja]
      refine hk _ _ (hR.step (m1 := m3) f1 (by rw [e5']; exact FrR.sc) ?_ (fun C' _ _ _ hw' => hw'.eye hn (by omega) (by omega) hb val) ?_)
      · refine hS'.eye hw hn (by omega) (fun j a1 a2 => ?_) ?_ ?_ ?_ ?_ ?_ ?_ ?_ ?_ ?_ val
        · rw [e3, upm_c (by omega), e2, upm_c (by omega), e1, upm_c (by omega)]
        · rw [e3, e2, e1]; simp [upm]
        · rw [e3, e2]; simp [upm]; omega
        · rw [e3, e2, e1]; simp [upm]
        · rw [e3, e2, e1]; simp [upm]
        · rw [e3, e2, e1]; simp [upm]
        · rw [e3, e2, e1]; simp [upm]
        · rw [e3, upm_c (by omega), e2, upm_c (by omega), e1, upm_c (by omega)]
        · intro j; rw [e3, upm_c (by omega), e2, upm_c (by omega), e1]; simp [upm]
        · intro j; rw [e3, upm_c (by omega), e2]
          by_cases hj : j = n
          · simp [upm, hj]
          · rw [if_neg hj, upm, if_neg (by omega), e1, upm_c (by omega)]
      · rw [val 3]; rw [if_neg (by omega), if_neg (by omega), if_neg (by omega)]
    refine eqI (by omega) (fun q4 => ?_) (fun q4 => ?_)
    · have : b = 0 := q4
      rw [this] at tail
      exact tail
    · have : b = 1 := by omega
      rw [this] at tail
      exact tail
  refine eqI (by omega) (fun q4 => ?_) (fun q4 => ?_)
  · have : b = 0 := q4
    rw [this] at fin ⊢
    exact fin
  · have : b = 1 := by omega
    rw [this] at fin ⊢
    exact fin
end PubEye
