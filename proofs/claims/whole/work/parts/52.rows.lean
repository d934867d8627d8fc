/-! ===== how: what rows of touches come to ===== -/
/-- rows found, the first of them by slot, the courtiers in all of them -/
abbrev Sm := Option (Nat × (Nat → Nat) × Nat)
def smj : Sm → Sm → Sm
  | none, b => b
  | some a, none => some a
  | some a, some b => some (a.1 + b.1, a.2.1, a.2.2 &&& b.2.2)
theorem smj_nl (a : Sm) : smj none a = a := rfl
theorem smj_n (a : Sm) : smj a none = a := by cases a <;> rfl
theorem smj_as (a b c : Sm) : smj (smj a b) c = smj a (smj b c) := by
  cases a <;> cases b <;> cases c <;> simp [smj, Nat.add_assoc, Nat.and_assoc]
def cn : Sm → Nat
  | none => 0
  | some a => a.1
theorem cn_j (a b : Sm) : cn (smj a b) = cn a + cn b := by
  cases a <;> cases b <;> simp [smj, cn]
def ov (k c : Nat) (f : Nat → Nat) : Nat → Nat := fun j => if j = k then c else f j
/-- touch number c at slot k, by those of the set g, in front of rows -/
def smt (k c g : Nat) (a : Sm) : Sm := a.map fun t => (t.1, ov k c t.2.1, g ||| t.2.2)
theorem cn_t (k c g : Nat) (a : Sm) : cn (smt k c g a) = cn a := by cases a <;> rfl
def smf (f : Nat → Sm) : Nat → Sm
  | 0 => none
  | n + 1 => smj (smf f n) (f n)
theorem smf_add (f : Nat → Sm) (a : Nat) : ∀ b, smf f (a + b) = smj (smf f a) (smf (fun t => f (a + t)) b) := by
  intro b
  induction b with
  | zero => exact (smj_n _).symm
  | succ b ih =>
    show smj (smf f (a + b)) (f (a + b)) = smj (smf f a) (smj (smf (fun t => f (a + t)) b) (f (a + b)))
    rw [ih, smj_as]
theorem smf_cong {f g : Nat → Sm} : ∀ n, (∀ t, t < n → f t = g t) → smf f n = smf g n := by
  intro n
  induction n with
  | zero => intro _; rfl
  | succ n ih =>
    intro h
    rw [smf, smf, ih (fun t ht => h t (by omega)), h n (by omega)]
theorem smf_none : ∀ n, smf (fun _ => none) n = none := by
  intro n
  induction n with
  | zero => rfl
  | succ n ih => rw [smf, ih]; rfl
theorem smf_mono (f : Nat → Sm) (a b : Nat) (h : a ≤ b) : cn (smf f a) ≤ cn (smf f b) := by
  obtain ⟨c, rfl⟩ : ∃ c, b = a + c := ⟨b - a, by omega⟩
  rw [smf_add, cn_j]
  omega
theorem smf_bd {f : Nat → Sm} {B : Nat} : ∀ n, (∀ t, t < n → cn (f t) ≤ B) → cn (smf f n) ≤ n * B := by
  intro n
  induction n with
  | zero => intro _; exact Nat.zero_le _
  | succ n ih =>
    intro h
    rw [smf, cn_j, Nat.succ_mul]
    have := ih (fun t ht => h t (by omega))
    have := h n (by omega)
    omega
/-- in front of rows from slot k on: what stands in the slots before, how many times, whose hands -/
def lft (k al H : Nat) (p : Nat → Nat) (a : Sm) : Sm := a.map fun t => (al * t.1, fun j => if j < k then p j else t.2.1 j, H ||| t.2.2)
theorem cn_l (k al H : Nat) (p : Nat → Nat) (a : Sm) : cn (lft k al H p a) = al * cn a := by
  cases a
  · simp [lft, cn]
  · rfl
theorem lft_j (k al H : Nat) (p : Nat → Nat) (a b : Sm) : lft k al H p (smj a b) = smj (lft k al H p a) (lft k al H p b) := by
  cases a <;> cases b <;> simp [smj, lft, Nat.mul_add, Nat.or_and_distrib_left]
theorem lft_t (k al H c g : Nat) (p : Nat → Nat) (a : Sm) : lft k al H p (smt k c g a) = lft (k + 1) al (H ||| g) (ov k c p) a := by
  cases a with
  | none => rfl
  | some t =>
    show some (al * t.1, (fun j => if j < k then p j else ov k c t.2.1 j), H ||| (g ||| t.2.2)) = some (al * t.1, (fun j => if j < k + 1 then ov k c p j else t.2.1 j), H ||| g ||| t.2.2)
    have e : (fun j => if j < k then p j else ov k c t.2.1 j) = (fun j => if j < k + 1 then ov k c p j else t.2.1 j) := by
      funext j
      unfold ov
      by_cases h1 : j < k
      · rw [if_pos h1, if_pos (by omega), if_neg (by omega)]
      · by_cases h2 : j = k
        · rw [if_neg h1, if_pos h2, if_pos (by omega), if_pos h2]
        · rw [if_neg h1, if_neg h2, if_neg (by omega)]
    rw [e, Nat.or_assoc]
/-- touches that change nothing, by as many others, the lowest of whom is l -/
def grp (k l oth T : Nat) (a : Sm) : Sm := if oth * T = 0 then none else a.map fun t => (oth * T * t.1, ov k (8 * l) t.2.1, (if oth = 1 then 2 ^ l else 0) ||| t.2.2)
theorem grp_n (k l oth T : Nat) : grp k l oth T none = none := by unfold grp; split <;> rfl
theorem lft_g (k al H l oth T : Nat) (p : Nat → Nat) (a : Sm) : lft k al H p (grp k l oth T a) = if oth * T = 0 then none else lft (k + 1) (al * (oth * T)) (H ||| (if oth = 1 then 2 ^ l else 0)) (ov k (8 * l) p) a := by
  unfold grp
  split
  · rfl
  · have := lft_t k al H (8 * l) (if oth = 1 then 2 ^ l else 0) p (a.map fun t => (oth * T * t.1, t.2.1, t.2.2))
    cases a with
    | none => rfl
    | some t =>
      have e : smt k (8 * l) (if oth = 1 then 2 ^ l else 0) ((some t).map fun t => (oth * T * t.1, t.2.1, t.2.2)) = (some t).map fun t => (oth * T * t.1, ov k (8 * l) t.2.1, (if oth = 1 then 2 ^ l else 0) ||| t.2.2) := rfl
      rw [e] at this
      rw [this]
      show some (al * (oth * T * t.1), _, _) = some (al * (oth * T) * t.1, _, _)
      rw [Nat.mul_assoc al]
theorem two_and : ∀ a, a < 6 → ∀ b, b < 6 → a ≠ b → (2 ^ a &&& 2 ^ b) = 0 := by decide
theorem or_two {a b i : Nat} (ha : a < 6) (hb : b < 6) (h : a ≠ b) : ((2 ^ a ||| i) &&& (2 ^ b ||| i)) = i := by
  rw [← Nat.or_and_distrib_right, two_and a ha b hb h, Nat.zero_or]
theorem or_abs (x i : Nat) : (i &&& (x ||| i)) = i := by
  apply Nat.eq_of_testBit_eq
  intro q
  rw [Nat.testBit_and, Nat.testBit_or]
  cases i.testBit q <;> simp
/-- the others, one after the other -/
theorem grp_all (k v0 T : Nat) (a : Sm) : ∀ n, v0 + n ≤ 6 → smf (fun v => grp k (v0 + v) 1 T a) n = grp k v0 n T a := by
  intro n
  induction n with
  | zero => intro _; unfold grp; simp [smf]
  | succ n ih =>
    intro h
    rw [smf, ih (by omega)]
    by_cases hT : T = 0
    · subst hT; simp [grp, smj]
    · cases a with
      | none => simp only [grp_n]; rfl
      | some t =>
        by_cases hn : n = 0
        · subst hn; unfold grp; simp [hT, smj]
        · have z1 : ¬ n * T = 0 := by rw [Nat.mul_eq_zero]; omega
          have z2 : ¬ 1 * T = 0 := by omega
          have z3 : ¬ (n + 1) * T = 0 := by rw [Nat.mul_eq_zero]; omega
          unfold grp
          rw [if_neg z1, if_neg z2, if_neg z3]
          show some (n * T * t.1 + 1 * T * t.1, ov k (8 * v0) t.2.1, ((if n = 1 then 2 ^ v0 else 0) ||| t.2.2) &&& ((if 1 = 1 then 2 ^ (v0 + n) else 0) ||| t.2.2)) = some ((n + 1) * T * t.1, ov k (8 * v0) t.2.1, (if n + 1 = 1 then 2 ^ v0 else 0) ||| t.2.2)
          have e1 : n * T * t.1 + 1 * T * t.1 = (n + 1) * T * t.1 := by rw [← Nat.add_mul, ← Nat.add_mul]
          have e2 : ((if n = 1 then 2 ^ v0 else 0) ||| t.2.2) &&& ((if 1 = 1 then 2 ^ (v0 + n) else 0) ||| t.2.2) = (if n + 1 = 1 then 2 ^ v0 else 0) ||| t.2.2 := by
            rw [if_pos rfl, if_neg (show ¬ n + 1 = 1 by omega), Nat.zero_or]
            split
            · exact or_two (by omega) (by omega) (by omega)
            · rw [Nat.zero_or]; exact or_abs _ _
          rw [e1, e2]
theorem smf_blocks (F : Nat → Sm) : ∀ C, smf F (8 * C) = smf (fun w => smf (fun t => F (8 * w + t)) 8) C := by
  intro C
  induction C with
  | zero => rfl
  | succ C ih => rw [Nat.mul_succ, smf_add, ih]; rfl
theorem blk_cut (B : Nat → Sm) {T : Nat} (hT : T ≤ 8) (b : Nat) : smf (fun t => if (8 * b + t) % 8 < T then B (8 * b + t) else none) 8 = smf (fun t => B (8 * b + t)) T := by
  obtain ⟨r, hr⟩ : ∃ r, 8 = T + r := ⟨8 - T, by omega⟩
  rw [show smf (fun t => if (8 * b + t) % 8 < T then B (8 * b + t) else none) 8 = smf (fun t => if (8 * b + t) % 8 < T then B (8 * b + t) else none) (T + r) by rw [← hr], smf_add]
  have e1 : smf (fun t => (fun t => if (8 * b + t) % 8 < T then B (8 * b + t) else none) (T + t)) r = none := by
    rw [smf_cong (g := fun _ => none) r (fun t ht => if_neg (by omega))]
    exact smf_none r
  rw [e1, smj_n]
  exact smf_cong T (fun t ht => if_pos (by omega))
theorem blk_oth (k b T : Nat) (g : Nat) (a : Sm) : ∀ n, n ≤ T → smf (fun t => smt k (b + t) g a) n = if n = 0 then none else a.map fun t => (n * t.1, ov k b t.2.1, g ||| t.2.2) := by
  intro n
  induction n with
  | zero => intro _; rfl
  | succ n ih =>
    intro h
    rw [smf, ih (by omega), if_neg (show ¬ n + 1 = 0 by omega)]
    cases a with
    | none => split <;> rfl
    | some t =>
      by_cases hn : n = 0
      · subst hn; simp [smj, smt]
      · rw [if_neg hn]
        show some (n * t.1 + t.1, ov k b t.2.1, (g ||| t.2.2) &&& (g ||| t.2.2)) = some ((n + 1) * t.1, ov k b t.2.1, g ||| t.2.2)
        rw [Nat.and_self, Nat.succ_mul]
theorem smj_swap (a b w : Sm) (h : a = none → b = none) : smj a (smj w b) = smj (smj a b) w := by
  cases a with
  | none =>
    rw [h rfl]
    cases w <;> rfl
  | some a =>
    cases b with
    | none => cases w <;> rfl
    | some b =>
      cases w with
      | none => rfl
      | some w =>
        show some (a.1 + (w.1 + b.1), a.2.1, a.2.2 &&& (w.2.2 &&& b.2.2)) = some (a.1 + b.1 + w.1, a.2.1, a.2.2 &&& b.2.2 &&& w.2.2)
        rw [Nat.and_assoc, Nat.and_comm w.2.2, Nat.add_assoc, Nat.add_comm w.1]
/-- all touches at a slot: the wearer's and the others' -/
theorem smf_split {k C T : Nat} {w : Int} {B : Nat → Sm} {a : Sm} (hT : T ≤ 8) (hC : C ≤ 6) (hw : -1 ≤ w ∧ w < (C : Int)) (hB : ∀ c, ((c / 8 : Nat) : Int) ≠ w → B c = smt k c (2 ^ (c / 8)) a) :
    smf (fun c => if c % 8 < T then B c else none) (8 * C) = if w = -1 then grp k 0 C T a else if w = 0 then smj (smf B T) (grp k 1 (C - 1) T a) else smj (grp k 0 (C - 1) T a) (smf (fun t => B (8 * w.toNat + t)) T) := by
  rw [smf_blocks]
  have e1 : smf (fun w => smf (fun t => (fun c => if c % 8 < T then B c else none) (8 * w + t)) 8) C = smf (fun v => smf (fun t => B (8 * v + t)) T) C := smf_cong C (fun v _ => blk_cut B hT v)
  rw [e1]
  have e2 : ∀ v : Nat, (v : Int) ≠ w → smf (fun t => B (8 * v + t)) T = grp k v 1 T a := by
    intro v hv
    have : smf (fun t => B (8 * v + t)) T = smf (fun t => smt k (8 * v + t) (2 ^ v) a) T := smf_cong T (fun t ht => by
      have e3 : (8 * v + t) / 8 = v := by omega
      have := hB (8 * v + t) (by rw [e3]; exact hv)
      rw [e3] at this
      exact this)
    rw [this, blk_oth k (8 * v) T (2 ^ v) a T (Nat.le_refl T)]
    unfold grp
    rw [Nat.one_mul, if_pos rfl]
  have e3 : ∀ v0 n : Nat, v0 + n ≤ 6 → (∀ v : Nat, v0 ≤ v → v < v0 + n → (v : Int) ≠ w) → smf (fun v => smf (fun t => B (8 * (v0 + v) + t)) T) n = grp k v0 n T a := by
    intro v0 n h1 h2
    rw [← grp_all k v0 T a n h1]
    exact smf_cong n (fun v hv => e2 _ (h2 _ (by omega) (by omega)))
  by_cases h1 : w = -1
  · rw [if_pos h1]
    have := e3 0 C (by omega) (fun v _ _ => by omega)
    simp only [Nat.zero_add] at this
    exact this
  · rw [if_neg h1]
    obtain ⟨v, hv⟩ : ∃ v : Nat, w = (v : Int) := ⟨w.toNat, by omega⟩
    have ht : w.toNat = v := by omega
    rw [ht]
    obtain ⟨r, hr⟩ : ∃ r, C = v + (1 + r) := ⟨C - v - 1, by omega⟩
    have hf : smf (fun v => smf (fun t => B (8 * v + t)) T) C = smj (grp k 0 v T a) (smj (smf (fun t => B (8 * v + t)) T) (grp k (v + 1) r T a)) := by
      rw [hr, smf_add, smf_add]
      have q1 := e3 0 v (by omega) (fun v' _ _ => by omega)
      simp only [Nat.zero_add] at q1
      have q2 := e3 (v + 1) r (by omega) (fun v' _ _ => by omega)
      rw [q1]
      congr 1
      have q3 : smf (fun t => (fun v => smf (fun t => B (8 * v + t)) T) (v + t)) 1 = smf (fun t => B (8 * v + t)) T := rfl
      rw [q3]
      congr 1
      rw [← q2]
      exact smf_cong r (fun t _ => by
        rw [show v + (1 + t) = v + 1 + t by omega])
    rw [hf]
    by_cases h2 : w = 0
    · rw [if_pos h2]
      have v0 : v = 0 := by omega
      subst v0
      have q : grp k 0 0 T a = none := by unfold grp; simp
      rw [q, smj_nl, show C - 1 = r by omega]
      simp only [Nat.mul_zero, Nat.zero_add]
    · rw [if_neg h2]
      have e4 : smj (grp k 0 v T a) (grp k (v + 1) r T a) = grp k 0 (C - 1) T a := by
        by_cases hv1 : C - 1 = v
        · have r0 : r = 0 := by omega
          rw [hv1, r0]
          have q : grp k (v + 1) 0 T a = none := by unfold grp; simp
          rw [q, smj_n]
        · by_cases hT0 : T = 0
          · subst hT0; simp [grp, smj]
          · cases a with
            | none => simp only [grp_n]; rfl
            | some t =>
              have z1 : ¬ v * T = 0 := by rw [Nat.mul_eq_zero]; omega
              have z2 : ¬ r * T = 0 := by rw [Nat.mul_eq_zero]; omega
              have z3 : ¬ (C - 1) * T = 0 := by rw [Nat.mul_eq_zero]; omega
              unfold grp
              rw [if_neg z1, if_neg z2, if_neg z3]
              show some (v * T * t.1 + r * T * t.1, ov k (8 * 0) t.2.1, ((if v = 1 then 2 ^ 0 else 0) ||| t.2.2) &&& ((if r = 1 then 2 ^ (v + 1) else 0) ||| t.2.2)) = some ((C - 1) * T * t.1, ov k (8 * 0) t.2.1, (if C - 1 = 1 then 2 ^ 0 else 0) ||| t.2.2)
              have e5 : v * T * t.1 + r * T * t.1 = (C - 1) * T * t.1 := by rw [← Nat.add_mul, ← Nat.add_mul, show v + r = C - 1 by omega]
              have e6 : ((if v = 1 then 2 ^ 0 else 0) ||| t.2.2) &&& ((if r = 1 then 2 ^ (v + 1) else 0) ||| t.2.2) = (if C - 1 = 1 then 2 ^ 0 else 0) ||| t.2.2 := by
                rw [if_neg (show ¬ C - 1 = 1 by omega), Nat.zero_or]
                split <;> split
                · exact or_two (by omega) (by omega) (by omega)
                · rw [Nat.zero_or, Nat.and_comm]; exact or_abs _ _
                · rw [Nat.zero_or]; exact or_abs _ _
                · rw [Nat.zero_or, Nat.and_self]
              rw [e5, e6]
      rw [← e4]
      refine smj_swap _ _ _ (fun hn => ?_)
      unfold grp at hn ⊢
      by_cases hT0 : T = 0
      · subst hT0; simp
      · have z1 : ¬ v * T = 0 := by rw [Nat.mul_eq_zero]; omega
        rw [if_neg z1] at hn
        cases a with
        | none => split <;> rfl
        | some t => cases hn
