/-! ===== how: what rows of touches come to ===== -/
/-- rows found, the first of them by slot, the courtiers in all of them -/
abbrev Sm := Nat × (Nat → Int) × Nat
def sm0 : Sm := (0, fun _ => 0, 0)
def smj (a b : Sm) : Sm := (a.1 + b.1, if a.1 = 0 then b.2.1 else a.2.1, if a.1 = 0 then b.2.2 else if b.1 = 0 then a.2.2 else a.2.2 &&& b.2.2)
/-- touch number c at slot k, by those of the set g, in front of rows -/
def smt (k : Nat) (c : Int) (g : Nat) (a : Sm) : Sm := (a.1, fun j => if j = k then c else a.2.1 j, g ||| a.2.2)
/-- alike from slot k to n, where it is looked at -/
def SmE (k n : Nat) (a b : Sm) : Prop := a.1 = b.1 ∧ (a.1 ≠ 0 → a.2.2 = b.2.2 ∧ ∀ j, k ≤ j → j < n → a.2.1 j = b.2.1 j)
theorem SmE.rf (k n : Nat) (a : Sm) : SmE k n a a := ⟨rfl, fun _ => ⟨rfl, fun _ _ _ => rfl⟩⟩
theorem SmE.sy {k n : Nat} {a b : Sm} (h : SmE k n a b) : SmE k n b a := ⟨h.1.symm, fun z => ⟨(h.2 (by rw [h.1]; exact z)).1.symm, fun j h1 h2 => ((h.2 (by rw [h.1]; exact z)).2 j h1 h2).symm⟩⟩
theorem SmE.tr {k n : Nat} {a b c : Sm} (h : SmE k n a b) (h2 : SmE k n b c) : SmE k n a c := ⟨h.1.trans h2.1, fun z => ⟨(h.2 z).1.trans (h2.2 (by rw [← h.1]; exact z)).1, fun j q1 q2 => ((h.2 z).2 j q1 q2).trans ((h2.2 (by rw [← h.1]; exact z)).2 j q1 q2)⟩⟩
theorem smj_0l (a : Sm) : smj sm0 a = a := by
  unfold smj sm0
  simp
theorem smj_E {k n : Nat} {a a' b b' : Sm} (h : SmE k n a a') (h2 : SmE k n b b') : SmE k n (smj a b) (smj a' b') := by
  have e1 := h.1
  have e2 := h2.1
  refine ⟨by unfold smj; dsimp only; omega, fun z => ?_⟩
  unfold smj at *
  dsimp only at *
  by_cases a0 : a.1 = 0
  · have b0 : b.1 ≠ 0 := by omega
    rw [if_pos a0, if_pos a0, if_pos (by omega), if_pos (by omega)]
    exact h2.2 b0
  · have a0' : ¬ a'.1 = 0 := by omega
    have ha := h.2 a0
    simp only [if_neg a0, if_neg a0']
    refine ⟨?_, ha.2⟩
    by_cases b0 : b.1 = 0
    · have b0' : b'.1 = 0 := by omega
      simp only [if_pos b0, if_pos b0']
      exact ha.1
    · have b0' : ¬ b'.1 = 0 := by omega
      simp only [if_neg b0, if_neg b0']
      rw [ha.1, (h2.2 b0).1]
theorem smj_as (a b c : Sm) : smj (smj a b) c = smj a (smj b c) := by
  unfold smj
  by_cases a0 : a.1 = 0 <;> by_cases b0 : b.1 = 0 <;> by_cases c0 : c.1 = 0 <;> simp [a0, b0, c0, Nat.add_assoc, Nat.and_assoc]
theorem smt_E {k n : Nat} {c : Int} {g : Nat} {a b : Sm} (h : SmE (k + 1) n a b) : SmE k n (smt k c g a) (smt k c g b) := by
  refine ⟨h.1, fun z => ⟨by unfold smt; dsimp only; rw [(h.2 z).1], fun j h1 h2 => ?_⟩⟩
  unfold smt
  dsimp only
  by_cases e : j = k
  · rw [if_pos e, if_pos e]
  · rw [if_neg e, if_neg e]
    exact (h.2 z).2 j (by omega) h2
