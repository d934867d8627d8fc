/-! ===== text: the reference reads ===== -/
def PLs (f : Nat → Int) : List Int → Prop
  | [] => True
  | x :: l => f l.length = x ∧ PLs f l
theorem PLs.up {f : Nat → Int} {k : Nat} {z : Int} : ∀ {l : List Int}, l.length ≤ k → PLs f l → PLs (up f k z) l := by
  intro l
  induction l with
  | nil => intro _ _; trivial
  | cons x l ih =>
    intro h1 h2
    have h1 : l.length + 1 ≤ k := h1
    exact ⟨by rw [up_ne _ _ (by omega)]; exact h2.1, ih (by omega) h2.2⟩
/-- the pile, its top first -/
def PL (m : MM) (l : List Int) : Prop := m 304 19 = (l.length : Int) ∧ PLs (m 310) l
def wrX (t0 : Nat) (X : Nat → Int) (w : Nat) : Cde → Nat → Int
  | [] => X
  | (o, v) :: l => wrX t0 (up (up X (t0 + 75 + 2 * w) o) (t0 + 75 + 2 * w + 1) v) (w + 1) l
theorem wrX_app (t0 : Nat) (a : Cde) : ∀ (X : Nat → Int) (w : Nat) (b : Cde), wrX t0 X w (a ++ b) = wrX t0 (wrX t0 X w a) (w + a.length) b := by
  induction a with
  | nil => intro X w b; rfl
  | cons x a ih =>
    intro X w b
    obtain ⟨o, v⟩ := x
    rw [List.cons_append, wrX, wrX, ih, List.length_cons, show w + 1 + a.length = w + (a.length + 1) by omega]
def FrZ (mB m : MM) : Prop := (∀ c, c ≠ 304 → c ≠ 308 → c ≠ 310 → m c = mB c) ∧ (∀ j, (j < 9 ∨ j = 14 ∨ 22 ≤ j) → m 304 j = mB 304 j) ∧ ∀ j : Nat, (j : Int) < mB 304 14 → m 308 j = mB 308 j
/-- a memory of the reference within a law: token i, w signs written, o opens, the pile -/
def ES (mB : MM) (b : Nat → Int) (L : Nat) (m : MM) (i w : Nat) (X : Nat → Int) (o : Nat) (l : List Int) : Prop := FrZ mB m ∧ RT b L m i ∧ m 304 16 = (w : Int) ∧ m 308 = X ∧ m 304 20 = (o : Int) ∧ PL m l
/-- what the reading stands on -/
def RB (mB : MM) (b : Nat → Int) (L t0 : Nat) : Prop := Tp b L mB ∧ mB 304 14 = (t0 : Int) ∧ t0 ≤ 2040
theorem rtc_inj : ∀ a, a < 15 → ∀ c, c < 15 → rtc (22 + (a : Nat)) = rtc (22 + (c : Nat)) → a = c := by decide
theorem rtc_no : ∀ a, a < 15 → rtc (22 + (a : Nat)) ≠ 2 ∧ rtc (22 + (a : Nat)) ≠ 3 ∧ 0 ≤ rtc (22 + (a : Nat)) ∧ rtc (22 + (a : Nat)) ≤ 62 := by decide
theorem RTk.is {t rt w t0 : Int} (h : RTk t rt w) (h0 : 22 ≤ t0 ∧ t0 ≤ 36) : rt = rtc t0 ↔ t = t0 := by
  obtain ⟨a, ha⟩ : ∃ a : Nat, t0 = 22 + (a : Int) := ⟨(t0 - 22).toNat, by omega⟩
  have n := rtc_no a (by omega)
  rcases h with ⟨h1, h2, -⟩ | ⟨h1, h2⟩ | ⟨h1, h2⟩
  · have := tw_rng w
    rw [ha, h1]
    constructor
    · intro q; exact absurd q.symm n.1
    · intro q; omega
  · rw [ha, h2]
    constructor
    · intro q; exact absurd q.symm n.2.1
    · intro q; omega
  · obtain ⟨c, hc⟩ : ∃ c : Nat, t = 22 + (c : Int) := ⟨(t - 22).toNat, by omega⟩
    rw [h2, ha, hc]
    constructor
    · intro q
      have := rtc_inj c (by omega) a (by omega) q
      omega
    · intro q; rw [q]
theorem RTk.rng {t rt w : Int} (h : RTk t rt w) : 0 ≤ rt ∧ rt ≤ 62 := by
  rcases h with ⟨h1, h2, -⟩ | ⟨h1, h2⟩ | ⟨h1, h2⟩
  · omega
  · omega
  · obtain ⟨c, hc⟩ : ∃ c : Nat, t = 22 + (c : Int) := ⟨(t - 22).toNat, by omega⟩
    have := rtc_no c (by omega)
    rw [h2, hc]; omega
theorem RTk.word {t rt w : Int} (h : RTk t rt w) : (rt = 2 ∧ t = tw w ∧ 0 ≤ w ∧ w < 72057594037927936) ∨ (rt ≠ 2 ∧ 22 ≤ t) := by
  rcases h with h | ⟨h1, h2⟩ | ⟨h1, h2⟩
  · exact Or.inl h
  · exact Or.inr (by omega)
  · obtain ⟨c, hc⟩ : ∃ c : Nat, t = 22 + (c : Int) := ⟨(t - 22).toNat, by omega⟩
    have := rtc_no c (by omega)
    refine Or.inr ⟨?_, h1.1⟩
    rw [h2, hc]; exact this.1
section RRead1
variable {G : GG} {d : Nat} {m mB : MM} {b : Nat → Int} {L t0 i w o : Nat} {X : Nat → Int} {l : List Int}
theorem FrZ.up {j : Nat} {z : Int} (h : FrZ mB m) (hj : ¬ (j < 9 ∨ j = 14 ∨ 22 ≤ j)) : FrZ mB (upm m 304 j z) := ⟨fun c h1 h2 h3 => by rw [upm_c h1]; exact h.1 c h1 h2 h3, fun q hq => by rw [upm_j _ _ (by intro e; rw [e] at hq; exact hj hq)]; exact h.2.1 q hq, fun q hq => by rw [upm_c (by omega)]; exact h.2.2 q hq⟩
theorem FrZ.upx {c j : Nat} {z : Int} (h : FrZ mB m) (hc : (c = 308 ∧ mB 304 14 ≤ (j : Int)) ∨ c = 310) : FrZ mB (upm m c j z) := ⟨fun c' h1 h2 h3 => by rw [upm_c (by omega)]; exact h.1 c' h1 h2 h3, fun q hq => by rw [upm_c (by omega)]; exact h.2.1 q hq, fun q hq => by
  rcases hc with ⟨e, hc⟩ | e
  · rw [e, upm_j _ _ (by omega)]; exact h.2.2 q hq
  · rw [upm_c (by omega)]; exact h.2.2 q hq⟩
theorem RT.as {m m' : MM} (h : RT b L m i) (e : ∀ j, 9 ≤ j → j ≤ 13 → m' 304 j = m 304 j) : RT b L m' i := by
  unfold RT at h ⊢
  rw [e 9 (by omega) (by omega), e 10 (by omega) (by omega), e 11 (by omega) (by omega), e 12 (by omega) (by omega), e 13 (by omega) (by omega)]
  exact h
theorem FrZ.tp (h : FrZ mB m) (rb : RB mB b L t0) : Tp b L m := ⟨by rw [h.2.1 6 (by omega)]; exact rb.1.1, rb.1.2.1, fun j hj => by rw [h.1 309 (by omega) (by omega) (by omega)]; exact rb.1.2.2 j hj⟩
theorem e_emit {Q : MM → Prop} {x1 x2 : Int} (rb : RB mB b L t0) (h : ES mB b L m i w X o l) (hw : w ≤ 300) (next : ∀ m', ES mB b L m' i (w + 1) (wrX t0 X w [(x1, x2)]) o l → m' 304 21 = m 304 21 → Q m') : N G d mi_X8_emit 0 [some (vr 304), some (vi x1), some (vi x2)] [] m (RV Q) := by
  obtain ⟨h1, h2, h3, h4, h5, h6, h7⟩ := h
  have b14 := rb.2.1
  have e14 : m 304 14 = (t0 : Int) := by rw [h1.2.1 14 (by omega)]; exact rb.2.1
  have ht := rb.2.2
  refine g_X8_emit_0 _ _ ⟨t0 + 75 + 2 * w, by omega, fun m1 q1 => ⟨t0 + 75 + 2 * w + 1, ?_, fun m3 q3 m5 q5 => next m5 ⟨?_, ?_, ?_, ?_, ?_, ?_, ?_⟩ ?_⟩⟩
  · rw [q1, upm_c (by omega)]; omega
  · rw [q5, q3, q1]; exact ((h1.upx (by omega)).upx (by omega)).up (by omega)
  · exact h2.as (fun j hj1 hj2 => by rw [q5, upm_j _ _ (by omega), q3, upm_c (by omega), q1, upm_c (by omega)])
  · rw [q5, upm_at, q3, upm_c (by omega), q1, upm_c (by omega), h3]; omega
  · rw [q5, upm_c (by omega), q3, upm_sc, sc_at, q1, upm_sc, sc_at, h4]; rfl
  · rw [q5, upm_j _ _ (by omega), q3, upm_c (by omega), q1, upm_c (by omega)]; exact h5
  · rw [q5, upm_j _ _ (by omega), q3, upm_c (by omega), q1, upm_c (by omega)]; exact h6
  · rw [q5, upm_c (by omega), q3, upm_c (by omega), q1, upm_c (by omega)]; exact h7
  · rw [q5, upm_j _ _ (by omega), q3, upm_c (by omega), q1, upm_c (by omega)]
theorem e_next {Q : MM → Prop} (rb : RB mB b L t0) (h : ES mB b L m i w X o l) (next : ∀ m', ES mB b L m' (i + 1) w X o l → m' 304 21 = m 304 21 → Q m') : N G (d + 2) mi_X8_nextToken 0 [some (vr 304), none, none] [] m (RV Q) := by
  obtain ⟨h1, h2, h3, h4, h5, h6, h7⟩ := h
  refine c_nextToken (i := i + 1) (h1.tp rb) h2.1 (fun m' f r => next m' ⟨⟨fun c c1 c2 c3 => (f.1 c c1).trans (h1.1 c c1 c2 c3), fun j hj => (f.2 j (by omega)).trans (h1.2.1 j hj), fun j hj => by rw [f.1 308 (by omega)]; exact h1.2.2 j hj⟩, r, ?_, ?_, ?_, ?_, ?_⟩ (f.2 21 (by omega)))
  · rw [f.2 16 (by omega)]; exact h3
  · rw [f.1 308 (by omega)]; exact h4
  · rw [f.2 20 (by omega)]; exact h5
  · rw [f.2 19 (by omega)]; exact h6
  · rw [f.1 310 (by omega)]; exact h7
theorem e_push {Q : MM → Prop} {x1 : Int} (h : ES mB b L m i w X o l) (hl : l.length < 160) (next : ∀ m', ES mB b L m' i w X o (x1 :: l) → m' 304 21 = m 304 21 → Q m') : N G d mi_X8_push 0 [some (vr 304), some (vi x1)] [] m (RV Q) := by
  obtain ⟨h1, h2, h3, h4, h5, h6, h7⟩ := h
  refine g_X8_push_0 _ ⟨l.length, ⟨h6, hl⟩, fun m1 q1 m3 q3 => next m3 ⟨?_, ?_, ?_, ?_, ?_, ?_, ?_, ?_⟩ ?_⟩
  · rw [q3, q1]; exact (h1.upx (by omega)).up (by omega)
  · exact h2.as (fun j hj1 hj2 => by rw [q3, upm_j _ _ (by omega), q1, upm_c (by omega)])
  · rw [q3, upm_j _ _ (by omega), q1, upm_c (by omega)]; exact h3
  · rw [q3, upm_c (by omega), q1, upm_c (by omega)]; exact h4
  · rw [q3, upm_j _ _ (by omega), q1, upm_c (by omega)]; exact h5
  · rw [q3, upm_at, q1, upm_c (by omega), h6]; rfl
  · rw [q3, upm_c (by omega), q1, upm_at]
  · rw [q3, upm_c (by omega), q1, upm_sc, sc_at]; exact PLs.up (Nat.le_refl _) h7
  · rw [q3, upm_j _ _ (by omega), q1, upm_c (by omega)]
/-- one sign off the pile -/
theorem ES.pop {x : Int} {m1 : MM} (h : ES mB b L m i w X o (x :: l)) (q : m1 = upm m 304 19 (m 304 19 - 1)) : ES mB b L m1 i w X o l ∧ m1 304 21 = m 304 21 ∧ m1 310 = m 310 := by
  obtain ⟨h1, h2, h3, h4, h5, h6, h7⟩ := h
  have h6 : m 304 19 = ((l.length + 1 : Nat) : Int) := h6
  refine ⟨⟨by rw [q]; exact h1.up (by omega), h2.as (fun j _ _ => by rw [q, upm_j _ _ (by omega)]), by rw [q, upm_j _ _ (by omega)]; exact h3, by rw [q, upm_c (by omega)]; exact h4, by rw [q, upm_j _ _ (by omega)]; exact h5, by rw [q, upm_at, h6]; omega, by rw [q, upm_c (by omega)]; exact h7.2⟩, by rw [q, upm_j _ _ (by omega)], by rw [q, upm_c (by omega)]⟩
theorem ES.opens {z : Int} {o' : Nat} {m1 : MM} (h : ES mB b L m i w X o l) (q : m1 = upm m 304 20 z) (hz : z = (o' : Int)) : ES mB b L m1 i w X o' l ∧ m1 304 21 = m 304 21 := by
  obtain ⟨h1, h2, h3, h4, h5, h6, h7⟩ := h
  refine ⟨⟨by rw [q]; exact h1.up (by omega), h2.as (fun j _ _ => by rw [q, upm_j _ _ (by omega)]), by rw [q, upm_j _ _ (by omega)]; exact h3, by rw [q, upm_c (by omega)]; exact h4, by rw [q, upm_at]; exact hz, by rw [q, upm_j _ _ (by omega)]; exact h6, by rw [q, upm_c (by omega)]; exact h7⟩, by rw [q, upm_j _ _ (by omega)]⟩
theorem ES.whole {z : Int} {m1 : MM} (h : ES mB b L m i w X o l) (q : m1 = upm m 304 21 z) : ES mB b L m1 i w X o l ∧ m1 304 21 = z := by
  obtain ⟨h1, h2, h3, h4, h5, h6, h7⟩ := h
  exact ⟨⟨by rw [q]; exact h1.up (by omega), h2.as (fun j _ _ => by rw [q, upm_j _ _ (by omega)]), by rw [q, upm_j _ _ (by omega)]; exact h3, by rw [q, upm_c (by omega)]; exact h4, by rw [q, upm_j _ _ (by omega)]; exact h5, by rw [q, upm_j _ _ (by omega)]; exact h6, by rw [q, upm_c (by omega)]; exact h7⟩, by rw [q, upm_at]⟩
/-- what is not a minus lies on top -/
def topN (x : Int) : List Int → Prop
  | [] => True
  | y :: _ => y ≠ x ∧ 0 ≤ y ∧ y ≤ 40
theorem e_whole5 {Q : MM → Prop} (rb : RB mB b L t0) {l0 : List Int} (h0 : topN 2 l0) : ∀ (j w o : Nat) (X : Nat → Int) (m : MM), ES mB b L m i w X o (List.replicate j 2 ++ l0) → m 304 21 = 1 → j ≤ o → w + j ≤ 301 → j + l0.length ≤ 160 → (∀ m', ES mB b L m' i (w + j) (wrX t0 X w (List.replicate j (2, 0))) (o - j) l0 → m' 304 21 = 1 → Q m') → N G (d + 1) mi_X8_whole 5 [some (vr 304)] [] m (RV Q) := by
  intro j
  induction j with
  | zero =>
    intro w o X m h h1 hj hw hl next
    have hn : Q m := next m h h1
    have h : ES mB b L m i w X o l0 := h
    obtain ⟨a1, a2, a3, a4, a5, a6, a7⟩ := h
    cases l0 with
    | nil =>
      have a6 : m 304 19 = 0 := a6
      exact g_X8_whole_5 (leT (by omega) hn)
    | cons y l0 =>
      have a6 : m 304 19 = ((l0.length + 1 : Nat) : Int) := a6
      have hl : 0 + (l0.length + 1) ≤ 160 := hl
      refine g_X8_whole_5 (leF (by omega) ⟨l0.length, by omega, ?_⟩)
      rw [a7.1]
      have := h0.2
      exact eqF ⟨by omega, h0.1⟩ hn
  | succ j ih =>
    intro w o X m h h1 hj hw hl next
    have h' := h
    rw [List.replicate_succ, List.cons_append] at h
    obtain ⟨a1, a2, a3, a4, a5, a6, a7⟩ := h
    have a6 : m 304 19 = (((List.replicate j 2 ++ l0).length + 1 : Nat) : Int) := a6
    have len : (List.replicate j (2 : Int) ++ l0).length = j + l0.length := by simp
    refine g_X8_whole_5 (leF (by omega) ⟨(List.replicate j 2 ++ l0).length, by omega, ?_⟩)
    rw [a7.1]
    refine eqT (by omega) (fun m2 q2 m3 q3 => ?_)
    have p2 := ES.pop (x := 2) (l := List.replicate j 2 ++ l0) ⟨a1, a2, a3, a4, a5, a6, a7⟩ q2
    have e20 : m2 304 20 = (o : Int) := p2.1.2.2.2.2.1
    have p3 := p2.1.opens (o' := o - 1) q3 (by rw [e20]; omega)
    refine e_emit rb p3.1 (by omega) (fun m5 h5 e5 => ?_)
    refine ih (w + 1) (o - 1) _ m5 h5 (by rw [e5, p3.2, p2.2.1]; exact h1) (by omega) (by omega) (by omega) (fun m' h6 e6 => next m' ?_ e6)
    have e1 : wrX t0 (wrX t0 X w [(2, 0)]) (w + 1) (List.replicate j (2, 0)) = wrX t0 X w (List.replicate (j + 1) (2, 0)) := by
      rw [List.replicate_succ, show ((2, 0) : Int × Int) :: List.replicate j (2, 0) = [(2, 0)] ++ List.replicate j (2, 0) from rfl, wrX_app]
      rfl
    rw [e1, show w + 1 + j = w + (j + 1) by omega, show o - 1 - j = o - (j + 1) by omega] at h6
    exact h6
theorem e_whole {Q : MM → Prop} (rb : RB mB b L t0) {l0 : List Int} (h0 : topN 2 l0) (j : Nat) (h : ES mB b L m i w X o (List.replicate j 2 ++ l0)) (hj : j ≤ o) (hw : w + j ≤ 301) (hl : j + l0.length ≤ 160) (next : ∀ m', ES mB b L m' i (w + j) (wrX t0 X w (List.replicate j (2, 0))) (o - j) l0 → m' 304 21 = 1 → Q m') : N G (d + 1) mi_X8_whole 0 [some (vr 304)] [] m (RV Q) :=
  g_X8_whole_0 (fun m1 q1 => e_whole5 rb h0 j w o X m1 (h.whole q1).1 (h.whole q1).2 hj hw hl next)
/-- signs that wait, as they will be written -/
def wts (pd : List Int) : Cde := pd.map fun p => (p, 0)
def topS (least : Int) : List Int → Prop
  | [] => True
  | y :: _ => (40 ≤ y ∨ y < least) ∧ 0 ≤ y ∧ y ≤ 40
theorem e_settle {Q : MM → Prop} {least : Int} (hle : 0 ≤ least ∧ least ≤ 40) (rb : RB mB b L t0) {l0 : List Int} (h0 : topS least l0) : ∀ (pd : List Int) (w : Nat) (X : Nat → Int) (m : MM), (∀ p ∈ pd, least ≤ p ∧ p < 40) → ES mB b L m i w X o (pd ++ l0) → w + pd.length ≤ 301 → pd.length + l0.length ≤ 160 → (∀ m', ES mB b L m' i (w + pd.length) (wrX t0 X w (wts pd)) o l0 → m' 304 21 = m 304 21 → Q m') → N G (d + 1) mi_X8_settle 0 [some (vr 304), some (vi least)] [] m (RV Q) := by
  intro pd
  induction pd with
  | nil =>
    intro w X m _ h hw hl next
    have hn := next m h rfl
    have h : ES mB b L m i w X o l0 := h
    obtain ⟨a1, a2, a3, a4, a5, a6, a7⟩ := h
    cases l0 with
    | nil =>
      have a6 : m 304 19 = 0 := a6
      exact g_X8_settle_0 _ (leT (by omega) hn)
    | cons y l0 =>
      have a6 : m 304 19 = ((l0.length + 1 : Nat) : Int) := a6
      have hl : 0 + (l0.length + 1) ≤ 160 := hl
      have h02 := h0.2
      refine g_X8_settle_0 _ (leF (by omega) ⟨l0.length, by omega, ?_⟩)
      rw [a7.1]
      refine leI (by omega) (fun _ => hn) (fun z => ⟨l0.length, by omega, ?_⟩)
      rw [a7.1]
      have := h0.1
      exact ltT (by omega) hn
  | cons p pd ih =>
    intro w X m hp h hw hl next
    obtain ⟨p1, p2⟩ := hp p (List.mem_cons_self)
    rw [List.cons_append] at h
    obtain ⟨a1, a2, a3, a4, a5, a6, a7⟩ := h
    have a6' : m 304 19 = (((pd ++ l0).length + 1 : Nat) : Int) := a6
    have len : (pd ++ l0).length = pd.length + l0.length := List.length_append
    have hl : pd.length + 1 + l0.length ≤ 160 := hl
    have hw : w + (pd.length + 1) ≤ 301 := hw
    refine g_X8_settle_0 _ (leF (by omega) ⟨(pd ++ l0).length, by omega, ?_⟩)
    rw [a7.1]
    refine leF (by omega) ⟨(pd ++ l0).length, by omega, ?_⟩
    rw [a7.1]
    refine ltF (by omega) (fun m3 q3 => ?_)
    have pp := ES.pop (x := p) (l := pd ++ l0) ⟨a1, a2, a3, a4, a5, a6, a7⟩ q3
    refine ⟨(pd ++ l0).length, ⟨pp.1.2.2.2.2.2.1, by omega⟩, ?_⟩
    rw [pp.2.2, a7.1]
    refine e_emit rb pp.1 (by omega) (fun m6 h6 e6 => ?_)
    refine ih (w + 1) _ m6 (fun q hq => hp q (List.mem_cons_of_mem _ hq)) h6 (by omega) (by omega) (fun m' h7 e7 => next m' ?_ (by rw [e7, e6, pp.2.1]))
    have e1 : wrX t0 (wrX t0 X w [(p, 0)]) (w + 1) (wts pd) = wrX t0 X w (wts (p :: pd)) := by
      rw [show wts (p :: pd) = [(p, 0)] ++ wts pd from rfl, wrX_app]
      rfl
    rw [e1, show w + 1 + pd.length = w + (pd.length + 1) by omega] at h7
    exact h7
end RRead1
