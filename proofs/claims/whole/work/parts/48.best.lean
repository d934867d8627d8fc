/-! ===== the best set ===== -/
def Bst (Q : Nat → Prop) (P : Nat → Int) (n lo hi z : Nat) : Prop := lo ≤ z ∧ z < hi ∧ Q z ∧ ∀ s, lo ≤ s → s < hi → Q s → le3 P n z s ∧ (le3 P n s z → z ≤ s)
theorem Bst.uq {Q : Nat → Prop} {P : Nat → Int} {n lo hi z z' : Nat} (h : Bst Q P n lo hi z) (h' : Bst Q P n lo hi z') : z = z' := by
  have a := h.2.2.2 z' h'.1 h'.2.1 h'.2.2.1
  have b := h'.2.2.2 z h.1 h.2.1 h.2.2.1
  have c := a.2 b.1
  have e := b.2 a.1
  omega
/-- going down: the lower one is taken -/
theorem Bst.down {Q : Nat → Prop} {P : Nat → Int} {n hi b c : Nat} (h : Bst Q P n (c + 1) hi b) (hq : Q c) (hl : le3 P n c b) : Bst Q P n c hi c := by
  refine ⟨Nat.le_refl c, by have := h.1; have := h.2.1; omega, hq, fun s h1 h2 h3 => ?_⟩
  by_cases e : s = c
  · subst e
    exact ⟨Or.inr ⟨rfl, Nat.le_refl _⟩, fun _ => Nat.le_refl _⟩
  · have w := (h.2.2.2 s (by omega) h2 h3).1
    refine ⟨?_, fun _ => h1⟩
    unfold le3 at *
    omega
theorem Bst.stay {Q : Nat → Prop} {P : Nat → Int} {n hi b c : Nat} (h : Bst Q P n (c + 1) hi b) (hq : ¬ (Q c ∧ le3 P n c b)) : Bst Q P n c hi b := by
  refine ⟨by have := h.1; omega, h.2.1, h.2.2.1, fun s h1 h2 h3 => ?_⟩
  by_cases e : s = c
  · subst e
    have hl : ¬ le3 P n s b := fun q => hq ⟨h3, q⟩
    refine ⟨?_, fun q => absurd q hl⟩
    unfold le3 at *
    omega
  · exact h.2.2.2 s (by omega) h2 h3
/-- going up -/
theorem Bst.first {Q : Nat → Prop} {P : Nat → Int} {n c : Nat} (h : ∀ s, s < c → ¬ Q s) (hq : Q c) : Bst Q P n 0 (c + 1) c := by
  refine ⟨Nat.zero_le _, Nat.lt_succ_self _, hq, fun s h1 h2 h3 => ?_⟩
  by_cases e : s = c
  · subst e
    exact ⟨Or.inr ⟨rfl, Nat.le_refl _⟩, fun _ => Nat.le_refl _⟩
  · exact absurd h3 (h s (by omega))
theorem Bst.up {Q : Nat → Prop} {P : Nat → Int} {n b c : Nat} (h : Bst Q P n 0 c b) (hq : Q c) (hl : prc P c n < prc P b n ∨ (prc P c n = prc P b n ∧ popN c 8 < popN b 8)) : Bst Q P n 0 (c + 1) c := by
  refine ⟨Nat.zero_le _, Nat.lt_succ_self _, hq, fun s h1 h2 h3 => ?_⟩
  by_cases e : s = c
  · subst e
    exact ⟨Or.inr ⟨rfl, Nat.le_refl _⟩, fun _ => Nat.le_refl _⟩
  · have w := (h.2.2.2 s h1 (by omega) h3).1
    unfold le3 at *
    omega
theorem Bst.keep {Q : Nat → Prop} {P : Nat → Int} {n b c : Nat} (h : Bst Q P n 0 c b) (hq : ¬ (Q c ∧ (prc P c n < prc P b n ∨ (prc P c n = prc P b n ∧ popN c 8 < popN b 8)))) : Bst Q P n 0 (c + 1) b := by
  refine ⟨h.1, by have := h.2.1; omega, h.2.2.1, fun s h1 h2 h3 => ?_⟩
  by_cases e : s = c
  · subst e
    have hl : ¬ (prc P s n < prc P b n ∨ (prc P s n = prc P b n ∧ popN s 8 < popN b 8)) := fun q => hq ⟨h3, q⟩
    have := h.2.1
    unfold le3
    omega
  · exact h.2.2.2 s h1 (by omega) h3
/-- more eyes tell more apart -/
theorem all_bit {n e : Nat} (he : e < n) (hn : n ≤ 8) : (2 ^ n - 1) / 2 ^ e % 2 = 1 := by
  have h : ∀ n, n ≤ 8 → ∀ e, e < n → (2 ^ n - 1) / 2 ^ e % 2 = 1 := by decide +kernel
  exact h n hn e he
theorem apP_all {U : Nat → Nat → Nat → Int} {x T n s : Nat} (hn : n ≤ 8) (h : apP U x T n s) : apP U x T n (2 ^ n - 1) := by
  intro i j h1 h2 b1 b2
  obtain ⟨e, e1, e2, e3⟩ := h i j h1 h2 b1 b2
  exact ⟨e, e1, all_bit e1 hn, e3⟩
section Best
variable {G : GG} {d : Nat} {m : MM}
/-- the class's walk down -/
theorem c7_verdict_94 {k : Int → MM → Prop} {x1 : Int} {U : Nat → Nat → Nat → Int} {P : Nat → Int} (x n T : Nat) (e1 : x1 = (x : Int)) (hx : x < 16) (hn1 : m 12 2 = (n : Int)) (hn8 : n ≤ 8) (hT1 : m 12 5 = (T : Int)) (hT4 : T ≤ 4) (hU : ∀ t, t < T → x / 2 ^ t % 2 = 1 → ∀ e, e < 8 → m 282 (8 * t + e) = pk (U t e 0) (U t e 1) (U t e 2) (U t e 3) ∧ ∀ q, q < 4 → th (U t e q)) (hP : ∀ e, e < n → m 283 e = P e) (hP9 : ∀ e, e < n → 0 ≤ P e ∧ P e ≤ 99) (hk : ∀ z : Nat, Bst (apP U x T n) P n 1 (2 ^ n) z → k (z : Int) m) :
    ∀ (c b : Nat) (x3 x4 : Int), x3 = (b : Int) → x4 = (c : Int) → Bst (apP U x T n) P n (c + 1) (2 ^ n) b → N G (d + 2) mi_X7_verdict 94 [some (vr 0), some (vi x1), none, some (vi x3), some (vi x4)] [] m (RI k) := by
  have h256 : 2 ^ n ≤ 256 := by
    have : 2 ^ n ≤ 2 ^ 8 := Nat.pow_le_pow_right (by decide) hn8
    omega
  intro c
  induction c with
  | zero =>
    intro b x3 x4 h3 h4 hb
    refine g_X7_verdict_94 _ _ _ (leT (by omega) ?_)
    rw [h3]
    exact hk b hb
  | succ c ih =>
    intro b x3 x4 h3 h4 hb
    have b1 := hb.1
    have b2 := hb.2.1
    refine g_X7_verdict_94 _ _ _ (leF (by omega) (c7_isNoWorse (P := P) (c + 1) b n h4 (by omega) h3 (by omega) hn1 hn8 hP hP9 (fun hl => eqF (by omega) ?_) (fun hl => eqT (by omega) (ih b _ _ h3 (by omega) (hb.stay (fun q => hl q.2))))))
    refine c7_tellsApart (U := U) x (c + 1) n T h4 (by omega) e1 hx hn1 hn8 hT1 hT4 hU (fun ap => eqF (by omega) (ih (c + 1) _ _ h4 (by omega) (hb.down ap hl))) (fun ap => eqT (by omega) (ih b _ _ h3 (by omega) (hb.stay (fun q => ap q.1))))
end Best
