/-! ===== both fresh: they stand alike ===== -/
theorem s0_std {m : MM} {M : Mem} {c : Nat} {S : Nat → Int} (hc : 3 ≤ c) (hS : ∀ j, j < 1584 → S j = S0 8 j) (h : SdF M c) (hm : ∀ j, c ≤ j → j < c + 130 → m j = M.1 j) : Std m c S := by
  obtain ⟨⟨n0, n2, n5, n6, n7, n8⟩, -, hz, ⟨c0, -, -, -, hw⟩, ⟨⟨-, p1, p2⟩, -⟩⟩ := h
  have e0 := hm c (by omega) (by omega)
  refine ⟨?_, ?_, ?_, ?_, ?_, ?_, fun j hj => ?_, fun e he => ⟨?_, ?_⟩, ⟨?_, fun e he => ⟨?_, ?_, ?_⟩⟩, ⟨?_, 0, by omega, ?_, fun k hk => ?_⟩⟩
  · rw [e0, n0, hS 0 (by omega)]; rfl
  · rw [e0, n2, hS 1 (by omega)]; rfl
  · rw [e0, n5, hS 3 (by omega)]; rfl
  · rw [e0, n6, hS 4 (by omega)]; rfl
  · rw [e0, n7, hS 6 (by omega)]; rfl
  · rw [e0, n8]
    have e : ∀ k, shw S k = -1 := fun k => by
      unfold shw
      rw [if_neg]
      rw [hS 6 (by omega), show S0 8 6 = 0 from rfl]
      omega
    rw [e, e, e, e]
    decide +kernel
  · rw [hm _ (by omega) (by omega), (hz j).1, hS _ (by omega)]
    have : ∀ j, j < 8 → (0 : Int) = S0 8 (8 + j) := by decide +kernel
    exact this j hj
  · rw [hm _ (by omega) (by omega), (hz e).2.1, hS _ (by omega)]
    have : ∀ j, j < 8 → (0 : Int) = S0 8 (20 + 8 * j) := by decide +kernel
    exact this e he
  · rw [hm _ (by omega) (by omega), (hz e).2.2, hS _ (by omega)]
    have : ∀ j, j < 8 → (0 : Int) = S0 8 (20 + 8 * j + 1) := by decide +kernel
    exact this e he
  · rw [hm _ (by omega) (by omega), c0, hS _ (by omega)]; rfl
  · rw [hm _ (by omega) (by omega), (hw e he).1]
    unfold nowW
    rw [hS _ (by omega)]
    have : ∀ j, j < 8 → (-1 : Int) = S0 8 (20 + 8 * j + 2 + 0) := by decide +kernel
    exact this e he
  · rw [hm _ (by omega) (by omega), (hw e he).2.1]
    unfold nowW
    rw [hS _ (by omega)]
    have : ∀ j, j < 8 → (0 : Int) = S0 8 (20 + 8 * j + 2 + 1) := by decide +kernel
    exact this e he
  · rw [hm _ (by omega) (by omega), (hw e he).2.2]
    unfold pkW nowW
    rw [hS _ (by omega), hS _ (by omega), hS _ (by omega), hS _ (by omega)]
    have : ∀ j, j < 8 → (0 : Int) = pk (S0 8 (20 + 8 * j + 2 + 2)) (S0 8 (20 + 8 * j + 2 + 3)) (S0 8 (20 + 8 * j + 2 + 4)) (S0 8 (20 + 8 * j + 2 + 5)) := by decide +kernel
    exact this e he
  · rw [hm _ (by omega) (by omega), p2, hS _ (by omega)]; rfl
  · rw [hm _ (by omega) (by omega), p1]; rfl
  · rw [hS 5 (by omega), show S0 8 5 = 0 from rfl] at hk
    omega
theorem s0_eye (e : Nat) (he : e < 8) : S0 8 (20 + 8 * e) = 0 ∧ S0 8 (20 + 8 * e + 1) = 0 ∧ S0 8 (20 + 8 * e + 2 + 0) = -1 ∧ S0 8 (20 + 8 * e + 2 + 1) = 0 ∧ S0 8 (20 + 8 * e + 2 + 2) = -1 ∧ S0 8 (20 + 8 * e + 2 + 3) = -1 ∧ S0 8 (20 + 8 * e + 2 + 4) = -1 ∧ S0 8 (20 + 8 * e + 2 + 5) = -1 := by
  have : ∀ e, e < 8 → S0 8 (20 + 8 * e) = 0 ∧ S0 8 (20 + 8 * e + 1) = 0 ∧ S0 8 (20 + 8 * e + 2 + 0) = -1 ∧ S0 8 (20 + 8 * e + 2 + 1) = 0 ∧ S0 8 (20 + 8 * e + 2 + 2) = -1 ∧ S0 8 (20 + 8 * e + 2 + 3) = -1 ∧ S0 8 (20 + 8 * e + 2 + 4) = -1 ∧ S0 8 (20 + 8 * e + 2 + 5) = -1 := by decide +kernel
  exact this e he
theorem wcnt_0 {f : Nat → Int} {who : Int} (n : Nat) (h : ∀ e, e < n → f e ≠ who) : wcnt f who n = 0 := by
  induction n with
  | zero => rfl
  | succ n ih =>
    show wcnt f who n + (if f n = who then 1 else 0) = 0
    rw [ih (fun e he => h e (by omega)), if_neg (h n (by omega))]
theorem s0_wf {C : Int} {S : Nat → Int} (h1 : 1 ≤ C) (hS : ∀ j, j < 1584 → S j = S0 8 j) : WfS C S := by
  have v0 : S 0 = 0 := hS 0 (by omega)
  have v1 : S 1 = 0 := hS 1 (by omega)
  have v2 : S 2 = 0 := hS 2 (by omega)
  have v3 : S 3 = 0 := hS 3 (by omega)
  have v4 : S 4 = -1 := hS 4 (by omega)
  have v5 : S 5 = 0 := hS 5 (by omega)
  have v6 : S 6 = 0 := hS 6 (by omega)
  have ey : ∀ e, e < 8 → eye0 (nowW S e) := by
    intro e he
    obtain ⟨-, -, e2, e3, e4, e5, e6, e7⟩ := s0_eye e he
    unfold nowW
    exact ⟨(hS _ (by omega)).trans e2, (hS _ (by omega)).trans e3, (hS _ (by omega)).trans e4, (hS _ (by omega)).trans e5, (hS _ (by omega)).trans e6, (hS _ (by omega)).trans e7⟩
  refine ⟨by omega, by omega, by omega, by omega, by omega, by omega, fun j hj => ?_, fun k _ hk => absurd hk (by omega), fun e he => ⟨?_, Or.inl ?_⟩, ⟨by omega, by omega, fun e he => ?_, fun e he _ => ey e he, fun who hw => ?_⟩, fun k hk => absurd hk (by omega)⟩
  · rw [hS _ (by omega)]
    have : ∀ j, j < 8 → 0 ≤ S0 8 (8 + j) ∧ S0 8 (8 + j) ≤ 3 := by decide +kernel
    exact this j hj
  · rw [hS _ (by omega), (s0_eye e he).1]; omega
  · rw [hS _ (by omega), (s0_eye e he).2.1]
  · obtain ⟨e0, e1, e2, e3, e4, e5⟩ := ey e he
    unfold eyeOK th
    rw [e0, e1, e2, e3, e4, e5]
    omega
  · rw [wcnt_0 8 (fun e he => by rw [(ey e he).1]; omega)]
    omega
theorem cl6_b (x : Int) : 1 ≤ cl6 x ∧ cl6 x ≤ 6 := by
  unfold cl6 imax imin
  split <;> split <;> omega
theorem rel_0 {M : Mem} {x : Int} {m : MM} {LS : List Nat} (h : I7 M 304 LS [(0, cl6 x), (2, 0)]) (h8 : M8 M x m) : Rel m m := by
  obtain ⟨-, -, hn, h2, hs1, hs2⟩ := h
  obtain ⟨g0, g1, g2, g3, g4, g5, g6⟩ := h8
  have e305 : ∀ j, j < 1584 → m 305 j = S0 8 j := fun j _ => by rw [g5]
  have ec : ∀ j, j < 304 → j ≠ 2 → m j = M.1 j := fun j hj h2 => by rw [g0 j hj, upm_c h2]
  have v3 : m 305 3 = 0 := e305 3 (by omega)
  have w3 : m 306 3 = 0 := g6 3 (by omega)
  have c0 : m 0 0 = cl6 x := by rw [ec 0 (by omega) (by omega)]; exact hn (0, cl6 x) (by simp)
  have c2 : m 0 2 = 0 := by rw [ec 0 (by omega) (by omega)]; exact hn (2, 0) (by simp)
  have r0 : m 2 0 = -1 := by rw [g0 2 (by omega), upm_j _ _ (by omega)]; exact (h2 (by omega)).1
  have r1 : m 2 1 = -1 := by rw [g0 2 (by omega), upm_j _ _ (by omega)]; exact (h2 (by omega)).2
  refine ⟨cl6 x, cl6_b x, c0, g1, s0_std (by omega) e305 (hs1 (by omega)) (fun j a1 a2 => ec j (by omega) (by omega)), s0_std (by omega) g6 (hs2 (by omega)) (fun j a1 a2 => ec j (by omega) (by omega)), s0_wf (cl6_b x).1 e305, s0_wf (cl6_b x).1 g6, by omega, fun t ht => absurd ht (by omega), by omega, by omega, fun j hj => absurd hj (by omega), by omega, by omega, ?_, ?_⟩
  · rw [g3]; decide
  · rw [g4]; decide
theorem i7_all {M : Mem} {LN : List (Nat × Int)} (h : I7 M 304 [11, 10, 9, 8, 7, 6, 5, 4, 3, 1] LN) (h11 : ∀ q, q < 4 → M.2 11 q = some (284 + 5 * q)) : ∀ j, j < 304 → RfC M j := by
  intro j hj
  by_cases e0 : j = 0
  · subst e0
    refine rfc_o sh_0 (fun q hq hr => h.2.1 q ?_)
    have hq4 : q < 12 := hq
    have all : ∀ q, q < 12 → isR (TYF 7 q) = true → q ∈ [11, 10, 9, 8, 7, 6, 5, 4, 3, 1] := by decide
    exact all q hq4 hr
  · by_cases e1 : j = 11
    · subst e1
      exact rfc_q sh_11 (fun q hq => (h11 q hq).trans rfl)
    · exact h.1 j (by omega) hj e1
