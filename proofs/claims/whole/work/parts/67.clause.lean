/-! ===== text: clauses ===== -/
abbrev Cls := List (Int × Int × Int)
def pNum (tk nb : Nat → Int) (top : Int) (i : Nat) : (Int × Nat) ⊕ Int := if tk i = 35 then (if nb i ≤ top then .inr (nb i) else .inl (2, i)) else .inl (1, i)
abbrev OutB := (Int × Nat) ⊕ (Nat × (Int × Int × Int) × Cde)
def pDeed (tk nb : Nat → Int) (s link top : Int) (i : Nat) : OutB := match pNum tk nb 7 i with
  | .inl f => .inl f
  | .inr v => if tk (i + 1) = link then (match pNum tk nb top (i + 2) with
      | .inl f => .inl f
      | .inr w => .inr (i + 3, (s, v, w), []))
    else .inl (1, i + 1)
def pSingle (tk nb : Nat → Int) (s : Int) (i : Nat) : OutB := match pNum tk nb 7 i with
  | .inl f => .inl f
  | .inr v => .inr (i + 1, (s, v, 0), [])
def pLaw (s : Int) (n : Nat) (o : Outc) : OutB := match o with
  | .inl f => .inl f
  | .inr (i', c) => .inr (i', (s, (n : Int), ((n + c.length : Nat) : Int)), c)
/-- behind the first token s of a clause -/
def pBody (tk nb : Nat → Int) (s : Int) (n i : Nat) : OutB :=
  if s = 0 then pLaw 0 n (pSees tk nb i) else if s = 1 then pLaw 1 n (pSm (pOne tk nb 18 8) tk i) else if s = 2 then pDeed tk nb 2 7 5 i else if s = 3 then pDeed tk nb 3 8 5 i else if s = 5 then pDeed tk nb 5 9 7 i else pSingle tk nb s i
/-- what has been read: the next token, clauses, signs, whether there are laws -/
abbrev Rds := Nat × Cls × Cde × Bool × Bool
def pHead (tk : Nat → Int) (x : Rds) : Int := if 6 < tk x.1 then 1 else if tk x.1 = 0 ∧ x.2.2.2.1 = true ∨ tk x.1 = 1 ∧ x.2.2.2.2 = true then 4 else if 24 ≤ x.2.1.length then 6 else 0
def pCl (tk nb : Nat → Int) (x : Rds) : (Int × Nat) ⊕ Rds :=
  if pHead tk x ≠ 0 then .inl (pHead tk x, x.1) else (match pBody tk nb (tk x.1) x.2.2.1.length (x.1 + 1) with
    | .inl f => .inl f
    | .inr (i', e, c) => if tk i' = 34 then .inr (i' + 1, x.2.1 ++ [e], x.2.2.1 ++ c, x.2.2.2.1 || decide (tk x.1 = 0), x.2.2.2.2 || decide (tk x.1 = 1)) else .inl (1, i'))
def pTx (tk nb : Nat → Int) : Nat → Rds → (Int × Nat) ⊕ Rds
  | 0, x => .inr x
  | n + 1, x => if tk x.1 = 36 then .inr x else (match pCl tk nb x with
    | .inl f => .inl f
    | .inr y => pTx tk nb n y)
def d0 : Int × Int × Int := (0, 0, 0)
/-- an entry as it must be -/
def EnOK (code : Cde) (e : Int × Int × Int) : Prop :=
  (e.1 = 0 ∧ ∃ a c b, code = a ++ (c ++ b) ∧ e.2.1 = (a.length : Int) ∧ e.2.2 = ((a.length + c.length : Nat) : Int) ∧ 1 ≤ c.length ∧ ckL c 0 0 = some (1, 0)) ∨
  (e.1 = 1 ∧ ∃ a c b, code = a ++ (c ++ b) ∧ e.2.1 = (a.length : Int) ∧ e.2.2 = ((a.length + c.length : Nat) : Int) ∧ 1 ≤ c.length ∧ ckL c 0 0 = some (0, 1) ∧ ∀ x ∈ c, x.1 = 1 → x.2 ≤ 5) ∨
  ((2 ≤ e.1 ∧ e.1 ≤ 6) ∧ (0 ≤ e.2.1 ∧ e.2.1 ≤ 7) ∧ (0 ≤ e.2.2 ∧ e.2.2 ≤ 7))
theorem EnOK.mono {code : Cde} {e : Int × Int × Int} (b : Cde) (h : EnOK code e) : EnOK (code ++ b) e := by
  rcases h with ⟨h1, a, c, b', h2, h3⟩ | ⟨h1, a, c, b', h2, h3⟩ | h
  · exact Or.inl ⟨h1, a, c, b' ++ b, by rw [h2]; simp, h3⟩
  · exact Or.inr (Or.inl ⟨h1, a, c, b' ++ b, by rw [h2]; simp, h3⟩)
  · exact Or.inr (Or.inr h)
/-- readings as they must be -/
def RdOK (E : Nat) (x : Rds) : Prop := x.1 ≤ E ∧ x.2.1.length ≤ 24 ∧ x.2.2.1.length ≤ x.1 ∧ (∀ e ∈ x.2.1, EnOK x.2.2.1 e) ∧ (x.2.2.2.1 = true ↔ ∃ e ∈ x.2.1, e.1 = 0) ∧ (x.2.2.2.2 = true ↔ ∃ e ∈ x.2.1, e.1 = 1)
def GdB (E i n : Nat) (s : Int) (code : Cde) (o : OutB) : Prop := match o with
  | .inl (f, j) => (1 ≤ f ∧ f ≤ 6) ∧ j ≤ E
  | .inr (i', e, c) => i < i' ∧ i' ≤ E ∧ c.length ≤ i' - i ∧ e.1 = s ∧ (n = code.length → EnOK (code ++ c) e)
def GdN (E i : Nat) (top : Int) (o : (Int × Nat) ⊕ Int) : Prop := match o with
  | .inl (f, j) => (1 ≤ f ∧ f ≤ 6) ∧ j ≤ E
  | .inr v => i < E ∧ 0 ≤ v ∧ v ≤ top
def GdC (E : Nat) (x : Rds) (o : (Int × Nat) ⊕ Rds) : Prop := match o with
  | .inl (f, j) => (1 ≤ f ∧ f ≤ 6) ∧ j ≤ E
  | .inr y => RdOK E y ∧ x.1 < y.1
section Clause
variable {tk nb : Nat → Int} {E : Nat}
theorem pNum_gd (hE : tk E = 36) (hnb : ∀ i, i < E → tk i = 35 → 0 ≤ nb i) {top : Int} {i : Nat} (hi : i ≤ E) : GdN E i top (pNum tk nb top i) := by
  unfold pNum
  split
  · rename_i h
    have hl : i < E := by
      by_cases e : i = E
      · rw [e, hE] at h; omega
      · omega
    split
    · exact ⟨hl, hnb i hl h, by assumption⟩
    · exact ⟨by omega, hi⟩
  · exact ⟨by omega, hi⟩
theorem pDeed_gd (hE : tk E = 36) (hnb : ∀ i, i < E → tk i = 35 → 0 ≤ nb i) {s link top : Int} (hs : 2 ≤ s ∧ s ≤ 6) (hl : link ≠ 36) (ht : top ≤ 7) {i n : Nat} (hi : i ≤ E) (code : Cde) : GdB E i n s code (pDeed tk nb s link top i) := by
  have g := pNum_gd hE hnb (top := 7) hi
  unfold pDeed
  revert g
  cases pNum tk nb 7 i with
  | inl f => exact fun g => g
  | inr v =>
    intro g
    have g : i < E ∧ 0 ≤ v ∧ v ≤ 7 := g
    dsimp only
    split
    · rename_i hk
      have h2 : i + 1 < E := by
        by_cases e : i + 1 = E
        · rw [e, hE] at hk; exact absurd hk.symm hl
        · omega
      have g' := pNum_gd hE hnb (top := top) (i := i + 2) (by omega)
      revert g'
      cases pNum tk nb top (i + 2) with
      | inl f => exact fun g => g
      | inr w =>
        intro g'
        have g' : i + 2 < E ∧ 0 ≤ w ∧ w ≤ top := g'
        exact ⟨by omega, by omega, by simp, rfl, fun _ => Or.inr (Or.inr ⟨hs, by show 0 ≤ v ∧ v ≤ 7; omega, by show 0 ≤ w ∧ w ≤ 7; omega⟩)⟩
    · exact ⟨by omega, by omega⟩
theorem pSingle_gd (hE : tk E = 36) (hnb : ∀ i, i < E → tk i = 35 → 0 ≤ nb i) {s : Int} (hs : 2 ≤ s ∧ s ≤ 6) {i n : Nat} (hi : i ≤ E) (code : Cde) : GdB E i n s code (pSingle tk nb s i) := by
  have g := pNum_gd hE hnb (top := 7) hi
  unfold pSingle
  revert g
  cases pNum tk nb 7 i with
  | inl f => exact fun g => g
  | inr v =>
    intro g
    have g : i < E ∧ 0 ≤ v ∧ v ≤ 7 := g
    exact ⟨by omega, by omega, by simp, rfl, fun _ => Or.inr (Or.inr ⟨hs, by show 0 ≤ v ∧ v ≤ 7; omega, by show (0 : Int) ≤ 0 ∧ (0 : Int) ≤ 7; omega⟩)⟩
theorem ckL_ne {c : Cde} {t v : Nat} (h : ckL c 0 0 = some (t, v)) (h2 : 1 ≤ t + v) : 1 ≤ c.length := by
  cases c with
  | nil => unfold ckL at h; injection h with h; injection h with h3 h4; omega
  | cons x l => simp
theorem pBody_gd (hE : tk E = 36) (hnb : ∀ i, i < E → tk i = 35 → 0 ≤ nb i) {s : Int} (hs : 0 ≤ s ∧ s ≤ 6) {i n : Nat} (hi : i ≤ E) (code : Cde) : GdB E i n s code (pBody tk nb s n i) := by
  unfold pBody
  split
  · rename_i h0
    have g := pSees_gd hE hnb i hi
    unfold pLaw
    revert g
    cases pSees tk nb i with
    | inl f => exact fun g => g
    | inr y =>
      intro g
      obtain ⟨i', c⟩ := y
      obtain ⟨g1, g2, g3, g4⟩ := g
      refine ⟨g1, g2, g3, h0.symm, fun hn => Or.inl ⟨rfl, code, c, [], by simp, by rw [hn], by rw [hn], ckL_ne g4 (by omega), g4⟩⟩
  · split
    · rename_i h1
      have g := pSm_gd (ln := 18) hE (fun j hj => pOne_gd (ln := 18) hE hnb 8 j hj) i hi
      unfold pLaw
      revert g
      cases pSm (pOne tk nb 18 8) tk i with
      | inl f => exact fun g => g
      | inr y =>
        intro g
        obtain ⟨i', c⟩ := y
        obtain ⟨g1, g2, g3, g4, g5⟩ := g
        have g6 := g4 0 0 (by omega)
        refine ⟨g1, g2, g3, h1.symm, fun hn => Or.inr (Or.inl ⟨rfl, code, c, [], by simp, by rw [hn], by rw [hn], ckL_ne g6 (by omega), g6, fun x hx e => by have := g5 x hx e; omega⟩)⟩
    · split
      · rename_i h; rw [h]; exact pDeed_gd hE hnb (by omega) (by omega) (by omega) hi code
      · split
        · rename_i h; rw [h]; exact pDeed_gd hE hnb (by omega) (by omega) (by omega) hi code
        · split
          · rename_i h; rw [h]; exact pDeed_gd hE hnb (by omega) (by omega) (by omega) hi code
          · exact pSingle_gd hE hnb (by omega) hi code
theorem pHead_rng (x : Rds) : 0 ≤ pHead tk x ∧ pHead tk x ≤ 6 := by
  unfold pHead
  repeat' split
  all_goals omega
theorem pCl_gd (hE : tk E = 36) (hnb : ∀ i, i < E → tk i = 35 → 0 ≤ nb i) (h0 : ∀ i, i ≤ E → 0 ≤ tk i) {x : Rds} (hx : RdOK E x) : GdC E x (pCl tk nb x) := by
  obtain ⟨x1, x2, x3, x4, x5, x6⟩ := hx
  have hr := pHead_rng (tk := tk) x
  have t0 := h0 x.1 x1
  unfold pCl
  split
  · exact ⟨by omega, x1⟩
  · rename_i hh
    have hh0 : pHead tk x = 0 := by omega
    unfold pHead at hh0
    split at hh0
    · omega
    rename_i h6
    split at hh0
    · omega
    rename_i h4
    split at hh0
    · omega
    rename_i h24
    have hl : x.1 < E := by
      by_cases e : x.1 = E
      · rw [e, hE] at h6; omega
      · omega
    have g := pBody_gd hE hnb (s := tk x.1) (n := x.2.2.1.length) (i := x.1 + 1) ⟨t0, by omega⟩ (by omega) x.2.2.1
    revert g
    cases pBody tk nb (tk x.1) x.2.2.1.length (x.1 + 1) with
    | inl f => exact fun g => g
    | inr y =>
      obtain ⟨i', e, c⟩ := y
      intro g
      obtain ⟨g1, g2, g3, g4, g5⟩ := g
      dsimp only
      split
      · rename_i h34
        have hl' : i' < E := by
          by_cases e : i' = E
          · rw [e, hE] at h34; omega
          · omega
        refine ⟨⟨by show i' + 1 ≤ E; omega, by show (x.2.1 ++ [e]).length ≤ 24; simp; omega, by show (x.2.2.1 ++ c).length ≤ i' + 1; simp; omega, fun e' he' => ?_, ?_, ?_⟩, by show x.1 < i' + 1; omega⟩
        · rcases List.mem_append.mp he' with h | h
          · exact (x4 e' h).mono c
          · rw [List.mem_singleton.mp h]; exact g5 rfl
        · show (x.2.2.2.1 || decide (tk x.1 = 0)) = true ↔ ∃ e' ∈ x.2.1 ++ [e], e'.1 = 0
          rw [Bool.or_eq_true, decide_eq_true_eq, x5]
          constructor
          · rintro (⟨e', h1, h2⟩ | h)
            · exact ⟨e', List.mem_append_left _ h1, h2⟩
            · exact ⟨e, List.mem_append_right _ (List.mem_singleton.mpr rfl), by rw [g4]; exact h⟩
          · rintro ⟨e', h1, h2⟩
            rcases List.mem_append.mp h1 with h | h
            · exact Or.inl ⟨e', h, h2⟩
            · rw [List.mem_singleton.mp h, g4] at h2; exact Or.inr h2
        · show (x.2.2.2.2 || decide (tk x.1 = 1)) = true ↔ ∃ e' ∈ x.2.1 ++ [e], e'.1 = 1
          rw [Bool.or_eq_true, decide_eq_true_eq, x6]
          constructor
          · rintro (⟨e', h1, h2⟩ | h)
            · exact ⟨e', List.mem_append_left _ h1, h2⟩
            · exact ⟨e, List.mem_append_right _ (List.mem_singleton.mpr rfl), by rw [g4]; exact h⟩
          · rintro ⟨e', h1, h2⟩
            rcases List.mem_append.mp h1 with h | h
            · exact Or.inl ⟨e', h, h2⟩
            · rw [List.mem_singleton.mp h, g4] at h2; exact Or.inr h2
      · exact ⟨by omega, g2⟩
end Clause
