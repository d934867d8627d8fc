/-! ===== text: the class's tokens ===== -/
def wcL : List Int := [115, 101, 101, 115, 32, 114, 117, 98, 115, 32, 116, 111, 117, 99, 104, 32, 112, 117, 116, 32, 100, 114, 97, 119, 101, 114, 32, 115, 119, 97, 112, 32, 112, 111, 108, 105, 115, 104, 32, 98, 121, 32, 111, 110, 32, 119, 105, 116, 104, 32, 111, 114, 32, 97, 110, 100, 32, 110, 111, 116, 32, 101, 121, 101, 32, 99, 111, 108, 111, 117, 114, 32, 99, 104, 105, 112, 112, 101, 100, 32, 104, 111, 117, 114, 32, 115, 105, 110, 99, 101, 32, 109, 97, 110, 121, 32, 116, 104, 105, 110, 103, 32, 107, 105, 110, 100, 32, 119, 104, 111, 32]
def wsL : List Nat := [0, 5, 10, 16, 20, 27, 32, 39, 42, 45, 50, 53, 57, 61, 65, 72, 80, 85, 91, 96, 102, 107, 111]
def wnL : List Nat := [4, 4, 5, 3, 6, 4, 6, 2, 2, 4, 2, 3, 3, 3, 6, 7, 4, 5, 4, 5, 4, 3]
def wc (j : Nat) : Int := wcL.getD j 0
theorem wc_tab : ∀ j, j < 111 → i2c (iand (WB.getD j 0).toInt 255) = wc j := by decide +kernel
theorem wc_rng : ∀ j, j < 111 → 0 ≤ wc j ∧ wc j < 128 := by decide +kernel
theorem wd_tab : ∀ t, t < 22 → wsL.getD t 0 + wnL.getD t 0 < 111 ∧ wsL.getD (t + 1) 0 = wsL.getD t 0 + wnL.getD t 0 + 1 ∧ wc (wsL.getD t 0 + wnL.getD t 0) = 32 ∧ (∀ j, j < wnL.getD t 0 → 65 ≤ wc (wsL.getD t 0 + j) ∧ wc (wsL.getD t 0 + j) ≤ 122) ∧ pck wc (wsL.getD t 0) (wnL.getD t 0) = cwL.getD t 0 ∧ wnL.getD t 0 ≤ 7 ∧ 1 ≤ wnL.getD t 0 := by decide +kernel
theorem pck_inj {b c : Nat → Int} {q s : Nat} : ∀ n k, (∀ j, j < n → 0 < b (q + j) ∧ b (q + j) < 256) → (∀ j, j < k → 0 < c (s + j) ∧ c (s + j) < 256) → pck b q n = pck c s k → n = k ∧ ∀ j, j < n → b (q + j) = c (s + j) := by
  intro n
  induction n with
  | zero =>
    intro k _ hc h
    cases k with
    | zero => exact ⟨rfl, fun j hj => absurd hj (by omega)⟩
    | succ k =>
      exfalso
      rw [pck, pck] at h
      have h1 := hc k (by omega)
      have h2 := (pck_bd (b := c) (q := s) k (fun j hj => by have := hc j (by omega); omega)).1
      omega
  | succ n ih =>
    intro k hb hc h
    cases k with
    | zero =>
      exfalso
      rw [pck, pck] at h
      have h1 := hb n (by omega)
      have h2 := (pck_bd (b := b) (q := q) n (fun j hj => by have := hb j (by omega); omega)).1
      omega
    | succ k =>
      rw [pck, pck] at h
      have h1 := hb n (by omega)
      have h2 := hc k (by omega)
      have h3 : pck b q n = pck c s k := by omega
      obtain ⟨e1, e2⟩ := ih k (fun j hj => hb j (by omega)) (fun j hj => hc j (by omega)) h3
      subst e1
      refine ⟨rfl, fun j hj => ?_⟩
      by_cases e : j = n
      · rw [e]; omega
      · exact e2 j (by omega)
theorem pck_cong {b c : Nat → Int} {q s : Nat} : ∀ n, (∀ j, j < n → b (q + j) = c (s + j)) → pck b q n = pck c s n := by
  intro n
  induction n with
  | zero => intro _; rfl
  | succ n ih => intro h; rw [pck, pck, ih (fun j hj => h j (by omega)), h n (by omega)]
/-- a run of letters is word number t -/
theorem word_iff {b : Nat → Int} {q e t : Nat} (ht : t < 22) (hq : q < e) (hl : ∀ j, q ≤ j → j < e → isLt (b j)) : wdv b q e = cwL.getD t 0 ↔ (wnL.getD t 0 = e - q ∧ ∀ j, j < e - q → b (q + j) = wc (wsL.getD t 0 + j)) := by
  obtain ⟨a1, a2, a3, a4, a5, a6, a7⟩ := wd_tab t ht
  have hb : ∀ j, j < e - q → 0 < b (q + j) ∧ b (q + j) < 256 := fun j hj => by have := hl (q + j) (by omega) (by omega); omega
  have hc : ∀ j, j < wnL.getD t 0 → 0 < wc (wsL.getD t 0 + j) ∧ wc (wsL.getD t 0 + j) < 256 := fun j hj => by have := a4 j hj; omega
  constructor
  · intro h
    unfold wdv at h
    split at h
    · rw [← a5] at h
      obtain ⟨e1, e2⟩ := pck_inj _ _ hb hc h
      exact ⟨e1.symm, e2⟩
    · exfalso
      rw [← a5] at h
      have := pck_inj (b := wc) (c := wc) (q := wsL.getD t 0) (s := wsL.getD t 0) _ 0 hc (fun j hj => absurd hj (by omega)) h.symm
      omega
  · rintro ⟨h1, h2⟩
    unfold wdv
    rw [if_pos (by omega), ← a5, h1]
    exact pck_cong _ h2
section Lex4
variable {G : GG} {d : Nat} {m : MM}
theorem c_charAt {k : Int → MM → Prop} {x1 : Int} (j : Nat) (e1 : x1 = (j : Int)) (hj : j < 111) (h : k (wc j) m) : N G (d + 4) mi_J0_charAt_5068e 0 [some (vr 999999), some (vi x1)] [] m (RI k) := by
  have hr := wc_rng j hj
  have ck : ∀ (w : PV) (k' : Int → MM → Prop), k' x1 m → N G (d + 1) mi_J3_checkIndex_8e157 0 [some (vi x1), some (vi 111), some w] [] m (RI k') := fun w k' h' => g_J3_checkIndex_8e157_0 w _ _ (ltF (by omega) (ltT (by omega) h'))
  refine g_J0_charAt_5068e_0 _ (g_J0_isLatin1_aae02_0 (eqF (by omega) (eqT (by omega) (eqF (by omega) ?_))))
  refine g_J1_charAt_3b067_0 _ (g_J0_checkIndex_df160_0 _ _ ?_)
  have body : ∃ j3 : Nat, (x1 = (j3 : Int) ∧ j3 < 111) ∧ (0 ≤ i2c (iand (WB.getD j3 0).toInt 255) ∧ i2c (iand (WB.getD j3 0).toInt 255) < 65536) ∧ (0 ≤ i2c (iand (WB.getD j3 0).toInt 255) ∧ i2c (iand (WB.getD j3 0).toInt 255) < 65536) ∧ k (i2c (iand (WB.getD j3 0).toInt 255)) m := by
    refine ⟨j, ⟨e1, hj⟩, ?_⟩
    rw [wc_tab j hj]
    exact ⟨by omega, by omega, h⟩
  exact ⟨ck _ _ body, ck _ _ body⟩
theorem c_length {k : Int → MM → Prop} (h : k 111 m) : N G (d + 4) mi_J0_length_8abf5 0 [some (vr 999999)] [] m (RI k) := by
  refine g_J0_length_8abf5_0 (g_J0_coder_7d493_0 (eqF (by omega) ?_))
  rw [show ishr 111 0 = 111 by decide +kernel]
  exact h
theorem c2_isDigit {k : Int → MM → Prop} {x0 : Int} (hx : rng x0) (hy : isDg x0 → k 1 m) (hn : ¬ isDg x0 → k 0 m) : N G d mi_X2_isDigit 0 [some (vi x0)] [] m (RI k) :=
  g_X2_isDigit_0 _ (ltI (by omega) (fun z => hn (by omega)) (fun z => ltI (by omega) (fun z2 => hn (by omega)) (fun z2 => hy (by omega))))
theorem c2_isLetter {k : Int → MM → Prop} {x0 : Int} (hx : rng x0) (hy : isLt x0 → k 1 m) (hn : ¬ isLt x0 → k 0 m) : N G d mi_X2_isLetter 0 [some (vi x0)] [] m (RI k) := by
  have t : ¬ (97 ≤ x0 ∧ x0 ≤ 122) → N G d mi_X2_isLetter 12 [some (vi x0)] [] m (RI k) := fun z => g_X2_isLetter_12 _ (ltI (by omega) (fun z => hn (by omega)) (fun z => ltI (by omega) (fun z2 => hn (by omega)) (fun z2 => hy (by omega))))
  exact g_X2_isLetter_0 _ (ltI (by omega) (fun z => t (by omega)) (fun z => leI (by omega) (fun z2 => hy (by omega)) (fun z2 => t (by omega))))
/-- the class's tape -/
def TpC (b : Nat → Int) (L : Nat) (m : MM) : Prop := L ≤ 300 ∧ ∀ j, j < L → (0 ≤ b j ∧ b j < 256) ∧ m 1 j = sby (b j)
theorem sby_rng {z : Int} (h : 0 ≤ z ∧ z < 256) : rng (sby z) := by unfold sby; split <;> omega
theorem c2_runEnd {k : Int → MM → Prop} {x1 x2 : Int} {b : Nat → Int} {L : Nat} (ht : TpC b L m) (q : Nat) (e1 : x1 = (q : Int)) (hq : q < L) (e2 : x2 = (L : Int)) (h : k (en b L q : Int) m) : N G (d + 1) mi_X2_runEnd 0 [some (vr 1), some (vi x1), some (vi x2), none] [] m (RI k) := by
  obtain ⟨hL, hb⟩ := ht
  have hq1 := (hb q hq).1
  have hq2 := (hb q hq).2
  have loopL : ∀ (n p : Nat) (x3 : Int), p + n = L → x3 = (p : Int) → k (runL b n p : Int) m → N G (d + 1) mi_X2_runEnd 13 [some (vr 1), none, some (vi x2), some (vi x3)] [] m (RI k) := by
    intro n
    induction n with
    | zero => intro p x3 hp h3 hk; rw [h3]; exact g_X2_runEnd_13 _ _ (leT (by omega) hk)
    | succ n ih =>
      intro p x3 hp h3 hk
      have b1 := (hb p (by omega)).1
      refine g_X2_runEnd_13 _ _ (leF (by omega) ⟨p, by omega, ?_⟩)
      rw [(hb p (by omega)).2]
      refine c2_isLetter (sby_rng b1) (fun z => eqF (by omega) ?_) (fun z => eqT (by omega) ?_)
      · rw [sby_lt b1] at z
        rw [runL, if_pos z] at hk
        exact ih (p + 1) _ (by omega) (by omega) hk
      · rw [sby_lt b1] at z
        rw [runL, if_neg z] at hk
        rw [h3]; exact hk
  have loopD : ∀ (n p : Nat) (x3 : Int), p + n = L → x3 = (p : Int) → k (runD b n p : Int) m → N G (d + 1) mi_X2_runEnd 42 [some (vr 1), none, some (vi x2), some (vi x3)] [] m (RI k) := by
    intro n
    induction n with
    | zero => intro p x3 hp h3 hk; rw [h3]; exact g_X2_runEnd_42 _ _ (leT (by omega) hk)
    | succ n ih =>
      intro p x3 hp h3 hk
      have b1 := (hb p (by omega)).1
      refine g_X2_runEnd_42 _ _ (leF (by omega) ⟨p, by omega, ?_⟩)
      rw [(hb p (by omega)).2]
      refine c2_isDigit (sby_rng b1) (fun z => eqF (by omega) ?_) (fun z => eqT (by omega) ?_)
      · rw [sby_dg b1] at z
        rw [runD, if_pos z] at hk
        exact ih (p + 1) _ (by omega) (by omega) hk
      · rw [sby_dg b1] at z
        rw [runD, if_neg z] at hk
        rw [h3]; exact hk
  have sgn : ¬ isLt (b q) → ¬ isDg (b q) → (b q = 60 ∨ b q = 62) → N G (d + 1) mi_X2_runEnd 78 [some (vr 1), none, some (vi x2), some (vi (x1 + 1))] [] m (RI k) := by
    intro n1 n2 hc
    have een : en b L q = if q + 1 < L ∧ b (q + 1) = 61 then q + 2 else q + 1 := by
      unfold en
      rw [if_neg n1, if_neg n2]
      by_cases z : q + 1 < L ∧ b (q + 1) = 61
      · rw [if_pos ⟨hc, z⟩, if_pos z]
      · rw [if_neg (fun w => z w.2), if_neg z]
    rw [een] at h
    refine g_X2_runEnd_78 _ _ (leI (by omega) (fun z => ?_) (fun z => ⟨q + 1, by omega, ?_⟩))
    · rw [if_neg (by omega)] at h
      rw [show x1 + 1 = ((q + 1 : Nat) : Int) by omega]; exact h
    · have b1 := (hb (q + 1) (by omega)).1
      rw [(hb (q + 1) (by omega)).2]
      refine eqI ⟨sby_rng b1, by omega⟩ (fun z2 => ?_) (fun z2 => ?_)
      · rw [sby_eq b1 (by omega)] at z2
        rw [if_pos ⟨by omega, z2⟩] at h
        rw [show x1 + 1 + 1 = ((q + 2 : Nat) : Int) by omega]; exact h
      · rw [sby_eq b1 (by omega)] at z2
        rw [if_neg (fun w => z2 w.2)] at h
        rw [show x1 + 1 = ((q + 1 : Nat) : Int) by omega]; exact h
  refine g_X2_runEnd_0 _ _ ⟨q, by omega, ?_⟩
  rw [hq2]
  refine c2_isLetter (sby_rng hq1) (fun z => eqF (by omega) ?_) (fun z => eqT (by omega) ⟨q, by omega, ?_⟩)
  · rw [sby_lt hq1] at z
    unfold en at h
    rw [if_pos z] at h
    exact loopL (L - (q + 1)) (q + 1) _ (by omega) (by omega) h
  · rw [sby_lt hq1] at z
    rw [hq2]
    refine c2_isDigit (sby_rng hq1) (fun z2 => eqF (by omega) ?_) (fun z2 => eqT (by omega) ⟨q, by omega, ?_⟩)
    · rw [sby_dg hq1] at z2
      unfold en at h
      rw [if_neg z, if_pos z2] at h
      exact loopD (L - (q + 1)) (q + 1) _ (by omega) (by omega) h
    · rw [sby_dg hq1] at z2
      rw [hq2]
      refine eqI ⟨sby_rng hq1, by omega⟩ (fun z3 => sgn z z2 (Or.inl ((sby_eq hq1 (by omega)).mp z3))) (fun z3 => ⟨q, by omega, ?_⟩)
      rw [sby_eq hq1 (by omega)] at z3
      rw [hq2]
      refine eqI ⟨sby_rng hq1, by omega⟩ (fun z4 => sgn z z2 (Or.inr ((sby_eq hq1 (by omega)).mp z4))) (fun z4 => ?_)
      rw [sby_eq hq1 (by omega)] at z4
      unfold en at h
      rw [if_neg z, if_neg z2, if_neg (by omega)] at h
      rw [show x1 + 1 = ((q + 1 : Nat) : Int) by omega]; exact h
theorem c2_numberOf {k : Int → MM → Prop} {x1 x2 : Int} {b : Nat → Int} {L : Nat} (ht : TpC b L m) (q e : Nat) (e1 : x1 = (q : Int)) (hq : q ≤ e) (he : e ≤ L) (e2 : x2 = (e : Int)) (hd : ∀ j, q ≤ j → j < e → isDg (b j)) (h : k (nmC b q (e - q)) m) : N G (d + 1) mi_X2_numberOf 0 [some (vr 1), some (vi x1), some (vi x2), none, none] [] m (RI k) := by
  obtain ⟨hL, hb⟩ := ht
  have loop : ∀ (n p : Nat) (x3 x4 : Int), p + n = e → q ≤ p → x4 = (p : Int) → x3 = nmC b q (p - q) → N G (d + 1) mi_X2_numberOf 5 [some (vr 1), none, some (vi x2), some (vi x3), some (vi x4)] [] m (RI k) := by
    intro n
    induction n with
    | zero =>
      intro p x3 x4 hp hqp h4 h3
      have pe : p = e := by omega
      subst pe
      rw [h3]
      exact g_X2_numberOf_5 _ _ _ (leT (by omega) h)
    | succ n ih =>
      intro p x3 x4 hp hqp h4 h3
      have b1 := (hb p (by omega)).1
      have dg := hd p hqp (by omega)
      have nr := (nm_rel b q (p - q) (fun j h1 h2 => hd j h1 (by omega))).1
      have es : sby (b p) = b p := by unfold sby; rw [if_pos (by omega)]
      refine g_X2_numberOf_5 _ _ _ (leF (by omega) ⟨p, by omega, ?_⟩)
      rw [(hb p (by omega)).2, es, h3]
      refine ⟨by omega, ih (p + 1) _ _ (by omega) (by omega) (by omega) ?_⟩
      rw [show p + 1 - q = (p - q) + 1 by omega, nmC, show q + (p - q) = p by omega]
  exact g_X2_numberOf_0 _ _ (loop (e - q) q _ _ (by omega) (by omega) e1 (by rw [Nat.sub_self]; rfl))
theorem c2_isWord {k : Int → MM → Prop} {x1 x2 x3 : Int} {b : Nat → Int} {L : Nat} (ht : TpC b L m) (q e s : Nat) (e1 : x1 = (q : Int)) (hq : q ≤ e) (he : e ≤ L) (e2 : x2 = (e : Int)) (e3 : x3 = (s : Int)) (hs : s + (e - q) ≤ 111) (hy : (∀ j, j < e - q → b (q + j) = wc (s + j)) → k 1 m) (hn : ¬ (∀ j, j < e - q → b (q + j) = wc (s + j)) → k 0 m) : N G (d + 5) mi_X2_isWord 0 [some (vr 1), some (vi x1), some (vi x2), some (vi x3), none] [] m (RI k) := by
  obtain ⟨hL, hb⟩ := ht
  have loop : ∀ (n p : Nat) (x4 : Int), p + n = e → q ≤ p → x4 = (p : Int) → (∀ j, j < p - q → b (q + j) = wc (s + j)) → N G (d + 5) mi_X2_isWord 3 [some (vr 1), some (vi x1), some (vi x2), some (vi x3), some (vi x4)] [] m (RI k) := by
    intro n
    induction n with
    | zero =>
      intro p x4 hp hqp h4 hal
      have pe : p = e := by omega
      subst pe
      exact g_X2_isWord_3 _ _ _ _ (leT (by omega) (hy hal))
    | succ n ih =>
      intro p x4 hp hqp h4 hal
      have b1 := (hb p (by omega)).1
      have wr := wc_rng (s + (p - q)) (by omega)
      refine g_X2_isWord_3 _ _ _ _ (leF (by omega) ⟨p, by omega, c_charAt (s + (p - q)) (by omega) (by omega) ?_⟩)
      rw [(hb p (by omega)).2]
      refine eqI ⟨sby_rng b1, by omega⟩ (fun z => ?_) (fun z => ?_)
      · rw [sby_eq b1 wr] at z
        refine ih (p + 1) _ (by omega) (by omega) (by omega) (fun j hj => ?_)
        by_cases ej : j = p - q
        · rw [ej, show q + (p - q) = p by omega]; exact z
        · exact hal j (by omega)
      · rw [sby_eq b1 wr] at z
        refine hn (fun w => z ?_)
        have := w (p - q) (by omega)
        rw [show q + (p - q) = p by omega] at this
        exact this
  exact g_X2_isWord_0 _ _ _ (loop (e - q) q _ (by omega) (by omega) e1 (fun j hj => absurd hj (by omega)))
theorem c2_wordToken {k : Int → MM → Prop} {x1 x2 : Int} {b : Nat → Int} {L : Nat} (ht : TpC b L m) (q e : Nat) (e1 : x1 = (q : Int)) (hq : q < e) (he : e ≤ L) (e2 : x2 = (e : Int)) (hl : ∀ j, q ≤ j → j < e → isLt (b j)) (h : k (tw (wdv b q e)) m) : N G (d + 6) mi_X2_wordToken 0 [some (vr 1), some (vi x1), some (vi x2), none, none, none] [] m (RI k) := by
  have hL := ht.1
  have loop : ∀ (r i t : Nat) (x3 x4 x5 : Int), i + r = 111 → t ≤ 22 → x3 = (t : Int) → x4 = (wsL.getD t 0 : Int) → x5 = (i : Int) → wsL.getD t 0 ≤ i → (t < 22 → i ≤ wsL.getD t 0 + wnL.getD t 0) → (∀ s, s < t → wdv b q e ≠ cwL.getD s 0) → N G (d + 6) mi_X2_wordToken 8 [some (vr 1), some (vi x1), some (vi x2), some (vi x3), some (vi x4), some (vi x5)] [] m (RI k) := by
    intro r
    induction r with
    | zero =>
      intro i t x3 x4 x5 hi ht22 h3 h4 h5 hst hle hno
      have t22 : t = 22 := by
        by_cases z : t < 22
        · have := (wd_tab t z).1
          have := hle z
          omega
        · omega
      subst t22
      refine g_X2_wordToken_8 _ _ _ _ _ (c_length (leT (by omega) ?_))
      have e37 : tw (wdv b q e) = 37 := by
        rcases tw_rng (wdv b q e) with z | z
        · exfalso
          obtain ⟨s, hs⟩ : ∃ s : Nat, tw (wdv b q e) = (s : Int) := ⟨(tw (wdv b q e)).toNat, by omega⟩
          exact hno s (by omega) ((tw_iff (by omega)).mp hs)
        · exact z
      rw [← e37]
      exact h
    | succ r ih =>
      intro i t x3 x4 x5 hi ht22 h3 h4 h5 hst hle hno
      have tl : t < 22 := by
        by_cases z : t < 22
        · exact z
        · exfalso
          have : t = 22 := by omega
          subst this
          have : wsL.getD 22 0 = 111 := rfl
          omega
      obtain ⟨a1, a2, a3, a4, a5, a6, a7⟩ := wd_tab t tl
      have hle' := hle tl
      have wr := wc_rng i (by omega)
      refine g_X2_wordToken_8 _ _ _ _ _ (c_length (leF (by omega) (c_charAt i h5 (by omega) ?_)))
      by_cases z : i = wsL.getD t 0 + wnL.getD t 0
      · rw [z, a3]
        have nxt : wdv b q e ≠ cwL.getD t 0 → ∀ y3 y4 y5 : Int, y3 = x3 + 1 → y4 = x5 + 1 → y5 = x5 + 1 → N G (d + 6) mi_X2_wordToken 8 [some (vr 1), some (vi x1), some (vi x2), some (vi y3), some (vi y4), some (vi y5)] [] m (RI k) := by
          intro hne y3 y4 y5 g3 g4 g5
          refine ih (i + 1) (t + 1) _ _ _ (by omega) (by omega) (by omega) (by omega) (by omega) (by omega) (fun z2 => ?_) (fun s hs => ?_)
          · have := (wd_tab (t + 1) z2).2.2.2.2.2.2
            omega
          · by_cases es : s = t
            · rw [es]; exact hne
            · exact hno s (by omega)
        refine eqT (by omega) (eqI (by omega) (fun z2 => ?_) (fun z2 => ?_))
        · refine c2_isWord ht q e (wsL.getD t 0) e1 (by omega) he e2 h4 (by omega) (fun w => eqF (by omega) ?_) (fun w => eqT (by omega) (nxt (fun ww => w ((word_iff tl hq hl).mp ww).2) _ _ _ rfl rfl rfl))
          have : tw (wdv b q e) = (t : Int) := (tw_iff tl).mpr ((word_iff tl hq hl).mpr ⟨by omega, w⟩)
          rw [h3, ← this]
          exact h
        · refine nxt (fun ww => ?_) _ _ _ rfl rfl rfl
          have := ((word_iff tl hq hl).mp ww).1
          omega
      · have := a4 (i - wsL.getD t 0) (by omega)
        rw [show wsL.getD t 0 + (i - wsL.getD t 0) = i by omega] at this
        exact eqF (by omega) (ih (i + 1) t _ _ _ (by omega) ht22 h3 h4 (by omega) (by omega) (fun _ => by omega) hno)
  exact g_X2_wordToken_0 _ _ (loop 111 0 0 _ _ _ rfl (by omega) rfl rfl rfl (by decide) (fun _ => by omega) (fun s hs => absurd hs (by omega)))
end Lex4
