/-! ===== makings: the references in place; GlassEyes ===== -/
def Q6 : MM := fun _ _ => 6
def RfC (M : Mem) (j : Nat) : Prop := match SH j with
  | .inl (ty, n) => isQ ty = true → ∀ q, q < n → M.2 j q = SR Q6 j q
  | .inr ci => ∀ q, q < NF ci → isR (TYF ci q) = true → M.2 j q = SR Q6 j q
theorem RfC.fr {M M' : Mem} {j : Nat} (h : RfC M j) (e : M'.2 j = M.2 j) : RfC M' j := by
  unfold RfC at h ⊢
  rw [e]
  exact h
theorem rfc_a {M : Mem} {j n : Nat} {ty : FieldType} (hs : SH j = .inl (ty, n)) (ht : isQ ty = false) : RfC M j := by
  unfold RfC
  rw [hs]
  intro h
  rw [ht] at h
  cases h
theorem rfc_q {M : Mem} {j n : Nat} {ty : FieldType} (hs : SH j = .inl (ty, n)) (h : ∀ q, q < n → M.2 j q = SR Q6 j q) : RfC M j := by
  unfold RfC
  rw [hs]
  intro _
  exact h
theorem rfc_o {M : Mem} {j ci : Nat} (hs : SH j = .inr ci) (h : ∀ q, q < NF ci → isR (TYF ci q) = true → M.2 j q = SR Q6 j q) : RfC M j := by
  unfold RfC
  rw [hs]
  exact h
theorem CtF.rf {M : Mem} {c : Nat} (h0 : SH c = .inr 0) (h : CtF M c) : ∀ j, c ≤ j → j < c + 4 → RfC M j := by
  intro j a1 a2
  obtain rfl | rfl | rfl | rfl : j = c ∨ j = c + 1 ∨ j = c + 2 ∨ j = c + 3 := by omega
  · refine rfc_o h0 (fun q hq hr => ?_)
    have hq4 : q < 4 := hq
    have hne : ¬ (j = 2 ∧ q = 8) := by omega
    obtain rfl | rfl | rfl | rfl : q = 0 ∨ q = 1 ∨ q = 2 ∨ q = 3 := by omega
    · exact absurd hr (by decide)
    · exact h.2.1.trans (SR_o h0 rfl hne).symm
    · exact h.2.2.1.trans (SR_o h0 rfl hne).symm
    · exact h.2.2.2.1.trans (SR_o h0 rfl hne).symm
  · exact rfc_a (kn0_1 h0) rfl
  · exact rfc_a (kn0_2 h0) rfl
  · exact rfc_a (kn0_3 h0) rfl
theorem PaF.rf {M : Mem} {p : Nat} (hp : p = 20 ∨ p = 150) (h0 : SH p = .inr 1) (h : PaF M p) : ∀ j, p ≤ j → j < p + 122 → RfC M j := by
  intro j a1 a2
  by_cases e0 : j = p
  · subst e0
    refine rfc_o h0 (fun q hq hr => ?_)
    have hq4 : q < 3 := hq
    have hne : ¬ (j = 2 ∧ q = 8) := by omega
    obtain rfl | rfl | rfl : q = 0 ∨ q = 1 ∨ q = 2 := by omega
    · exact h.1.1.trans (SR_o h0 rfl hne).symm
    · exact absurd hr (by decide)
    · exact absurd hr (by decide)
  · by_cases e1 : j = p + 1
    · subst e1
      refine rfc_q (kn1_1 h0) (fun q hq => ?_)
      rw [(h.2 q hq).1]
      obtain rfl | rfl := hp
      · rfl
      · rfl
    · have hq : (j - (p + 2)) / 4 < 30 := by omega
      exact (h.2 _ hq).2.rf (pa_c h0 hq) j (by omega) (by omega)
theorem ScF.rf {M : Mem} {c : Nat} (h0 : SH c = .inr 5) (h : ScF M c) : ∀ j, c ≤ j → j < c + 5 → RfC M j := by
  intro j a1 a2
  obtain ⟨-, ⟨r1, r2, r3, r4⟩, -⟩ := h
  obtain rfl | rfl | rfl | rfl | rfl : j = c ∨ j = c + 1 ∨ j = c + 2 ∨ j = c + 3 ∨ j = c + 4 := by omega
  · refine rfc_o h0 (fun q hq hr => ?_)
    have hq4 : q < 10 := hq
    have hne : j ≠ 2 := fun z => by rw [z, sh2] at h0; cases h0
    obtain rfl | rfl | rfl | rfl | rfl | rfl | rfl | rfl | rfl | rfl : q = 0 ∨ q = 1 ∨ q = 2 ∨ q = 3 ∨ q = 4 ∨ q = 5 ∨ q = 6 ∨ q = 7 ∨ q = 8 ∨ q = 9 := by omega
    · exact absurd hr (by decide)
    · exact r1.trans (SR_o h0 rfl (by omega)).symm
    · exact r2.trans (SR_o h0 rfl (by omega)).symm
    · exact r3.trans (SR_o h0 rfl (by omega)).symm
    · exact r4.trans (SR_o h0 rfl (by omega)).symm
    · exact absurd hr (by decide)
    · exact absurd hr (by decide)
    · exact absurd hr (by decide)
    · exact absurd hr (by decide)
    · exact absurd hr (by decide)
  · exact rfc_a (kn5_1 h0) rfl
  · exact rfc_a (kn5_2 h0) rfl
  · exact rfc_a (kn5_3 h0) rfl
  · exact rfc_a (kn5_4 h0) rfl
theorem SdF.rf {M : Mem} {c : Nat} (hp : c = 12 ∨ c = 142) (h0 : SH c = .inr 6) (h : SdF M c) : ∀ j, c ≤ j → j < c + 130 → RfC M j := by
  intro j a1 a2
  obtain ⟨-, ⟨r1, r3, r4, r9, r10⟩, -, h4, h5⟩ := h
  by_cases e8 : c + 8 ≤ j
  · exact h5.rf (by omega) (kn6_8 h0) j e8 (by omega)
  by_cases e4 : c + 4 ≤ j
  · exact h4.rf (kn6_4 h0) j e4 (by omega)
  obtain rfl | rfl | rfl | rfl : j = c ∨ j = c + 1 ∨ j = c + 2 ∨ j = c + 3 := by omega
  · refine rfc_o h0 (fun q hq hr => ?_)
    have hq4 : q < 11 := hq
    obtain rfl | rfl | rfl | rfl | rfl | rfl | rfl | rfl | rfl | rfl | rfl : q = 0 ∨ q = 1 ∨ q = 2 ∨ q = 3 ∨ q = 4 ∨ q = 5 ∨ q = 6 ∨ q = 7 ∨ q = 8 ∨ q = 9 ∨ q = 10 := by omega
    · exact absurd hr (by decide)
    · exact r1.trans (SR_o h0 rfl (by omega)).symm
    · exact absurd hr (by decide)
    · exact r3.trans (SR_o h0 rfl (by omega)).symm
    · exact r4.trans (SR_o h0 rfl (by omega)).symm
    · exact absurd hr (by decide)
    · exact absurd hr (by decide)
    · exact absurd hr (by decide)
    · exact absurd hr (by decide)
    · exact r9.trans (SR_o h0 rfl (by omega)).symm
    · exact r10.trans (SR_o h0 rfl (by omega)).symm
  · exact rfc_a (kn6_1 h0) rfl
  · exact rfc_a (kn6_2 h0) rfl
  · exact rfc_a (kn6_3 h0) rfl
theorem ReF.rf {M : Mem} (h : ReF M) : ∀ j, 2 ≤ j → j < 11 → RfC M j := by
  intro j a1 a2
  obtain ⟨-, ⟨r2, r3, r4, r8⟩, -, h6⟩ := h
  by_cases e6 : 6 ≤ j
  · exact h6.rf sh_6 j e6 (by omega)
  obtain rfl | rfl | rfl | rfl : j = 2 ∨ j = 3 ∨ j = 4 ∨ j = 5 := by omega
  · refine rfc_o sh2 (fun q hq hr => ?_)
    have hq4 : q < 9 := hq
    obtain rfl | rfl | rfl | rfl | rfl | rfl | rfl | rfl | rfl : q = 0 ∨ q = 1 ∨ q = 2 ∨ q = 3 ∨ q = 4 ∨ q = 5 ∨ q = 6 ∨ q = 7 ∨ q = 8 := by omega
    · exact absurd hr (by decide)
    · exact absurd hr (by decide)
    · exact r2
    · exact r3
    · exact r4
    · exact absurd hr (by decide)
    · exact absurd hr (by decide)
    · exact absurd hr (by decide)
    · exact r8
  · exact rfc_a sh_3 rfl
  · exact rfc_a sh_4 rfl
  · exact rfc_a sh_5 rfl
/-- how far GlassEyes is made -/
def I7 (M : Mem) (K : Nat) (LS : List Nat) (LN : List (Nat × Int)) : Prop :=
  (∀ j, 1 ≤ j → j < K → j ≠ 11 → RfC M j) ∧ (∀ b, b ∈ LS → M.2 0 b = SR Q6 0 b) ∧ (∀ p, p ∈ LN → M.1 0 p.1 = p.2) ∧ (11 ≤ K → M.1 2 0 = -1 ∧ M.1 2 1 = -1) ∧ (142 ≤ K → SdF M 12) ∧ (272 ≤ K → SdF M 142)
theorem I7.z {M : Mem} : I7 M 1 [] [] := by
  refine ⟨fun j h1 h2 => absurd h1 (by omega), fun b hb => ?_, fun b hb => ?_, fun h => absurd h (by omega), fun h => absurd h (by omega), fun h => absurd h (by omega)⟩
  · simp at hb
  · simp at hb
theorem I7.new {M M' : Mem} {K k : Nat} {LS : List Nat} {LN : List (Nat × Int)} (h : I7 M K LS LN) (n : NewAt M M' K 0 k) (hK : 1 ≤ K) (hr : K ≠ 11 → RfC M' K) (hk : some K = SR Q6 0 k) (h1 : K ≠ 10) (h2 : K ≠ 141) (h3 : K ≠ 271) : I7 M' (K + 1) (k :: LS) LN := by
  obtain ⟨a1, a2, a3, a4, a5, a6⟩ := h
  have hm : Mid 1 K M M' := n.mid (by omega)
  refine ⟨fun j b1 b2 b3 => ?_, fun b hb => ?_, fun p hp => by rw [n.2.1]; exact a3 p hp, fun b => ?_, fun b => ?_, fun b => ?_⟩
  · by_cases e : j = K
    · subst e; exact hr b3
    · exact (a1 j b1 (by omega) b3).fr (hm j b1 (by omega)).2
  · by_cases e : b = k
    · subst e; rw [n.2.2.2.1]; exact hk
    · rw [n.2.2.1 b e]; exact a2 b (by simpa [e] using hb)
  · rw [(hm 2 (by omega) (by omega)).1]; exact a4 (by omega)
  · exact (a5 (by omega)).fr (fun j c1 c2 => hm j (by omega) (by omega))
  · exact (a6 (by omega)).fr (fun j c1 c2 => hm j (by omega) (by omega))
theorem I7.ref {M M' : Mem} {K k t : Nat} {LS : List Nat} {LN : List (Nat × Int)} (h : I7 M K LS LN) (n : RefAt M M' 0 k t) (hk : some t = SR Q6 0 k) : I7 M' K (k :: LS) LN := by
  obtain ⟨a1, a2, a3, a4, a5, a6⟩ := h
  have hm : Mid 1 K M M' := n.mid (by omega)
  refine ⟨fun j b1 b2 b3 => (a1 j b1 b2 b3).fr (hm j b1 b2).2, fun b hb => ?_, fun p hp => by rw [n.1]; exact a3 p hp, fun b => by rw [n.1]; exact a4 b, fun b => (a5 b).fr (fun j c1 c2 => hm j (by omega) (by omega)), fun b => (a6 b).fr (fun j c1 c2 => hm j (by omega) (by omega))⟩
  by_cases e : b = k
  · subst e; rw [n.2.2.2]; exact hk
  · rw [n.2.2.1 b e]; exact a2 b (by simpa [e] using hb)
theorem I7.put {M M' : Mem} {K k : Nat} {z : Int} {LS : List Nat} {LN : List (Nat × Int)} (h : I7 M K LS LN) (n : PutAt M M' 0 k z) (hk : ∀ p, p ∈ LN → p.1 ≠ k) : I7 M' K LS ((k, z) :: LN) := by
  obtain ⟨a1, a2, a3, a4, a5, a6⟩ := h
  have hm : Mid 1 K M M' := n.mid (by omega)
  refine ⟨fun j b1 b2 b3 => (a1 j b1 b2 b3).fr (hm j b1 b2).2, fun b hb => by rw [n.1]; exact a2 b hb, fun p hp => ?_, fun b => by rw [n.2.1 2 (by omega)]; exact a4 b, fun b => (a5 b).fr (fun j c1 c2 => hm j (by omega) (by omega)), fun b => (a6 b).fr (fun j c1 c2 => hm j (by omega) (by omega))⟩
  rcases List.mem_cons.mp hp with e | e
  · subst e; exact n.2.2.2
  · rw [n.2.2.1 _ (hk p e)]; exact a3 p e
theorem I7.lo {M M' : Mem} {K K' : Nat} {LS : List Nat} {LN : List (Nat × Int)} (h : I7 M K LS LN) (l : Lo K M M') (hK : 1 ≤ K) (hc : ∀ j, K ≤ j → j < K' → RfC M' j) (h1 : 11 ≤ K' → 11 ≤ K ∨ M'.1 2 0 = -1 ∧ M'.1 2 1 = -1) (h2 : 142 ≤ K' → 142 ≤ K ∨ SdF M' 12) (h3 : 272 ≤ K' → 272 ≤ K ∨ SdF M' 142) : I7 M' K' LS LN := by
  obtain ⟨a1, a2, a3, a4, a5, a6⟩ := h
  refine ⟨fun j b1 b2 b3 => ?_, fun b hb => by rw [(l 0 (by omega)).2]; exact a2 b hb, fun p hp => by rw [(l 0 (by omega)).1]; exact a3 p hp, fun b => ?_, fun b => ?_, fun b => ?_⟩
  · by_cases e : j < K
    · exact (a1 j b1 e b3).fr (l j e).2
    · exact hc j (by omega) b2
  · rcases h1 b with q | q
    · rw [(l 2 (by omega)).1]; exact a4 q
    · exact q
  · rcases h2 b with q | q
    · exact (a5 q).fr (fun j c1 c2 => l j (by omega))
    · exact q
  · rcases h3 b with q | q
    · exact (a6 q).fr (fun j c1 c2 => l j (by omega))
    · exact q
theorem I7.arr {M : Mem} {K k : Nat} {t : Option Nat} {LS : List Nat} {LN : List (Nat × Int)} (h : I7 M K LS LN) : I7 (M.1, upr M.2 11 k t) K LS LN := by
  obtain ⟨a1, a2, a3, a4, a5, a6⟩ := h
  have e : ∀ j, j ≠ 11 → upr M.2 11 k t j = M.2 j := fun j hj => by funext b; exact upr_ne hj b
  exact ⟨fun j b1 b2 b3 => (a1 j b1 b2 b3).fr (e j b3), fun b hb => by rw [show (M.1, upr M.2 11 k t).2 0 = M.2 0 from e 0 (by omega)]; exact a2 b hb, a3, a4, fun b => (a5 b).fr (fun j c1 c2 => ⟨rfl, e j (by omega)⟩), fun b => (a6 b).fr (fun j c1 c2 => ⟨rfl, e j (by omega)⟩)⟩
