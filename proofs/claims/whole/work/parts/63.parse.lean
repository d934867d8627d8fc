/-! ===== text: what both readers read ===== -/
abbrev Cde := List (Int × Int)
/-- a fault and the token at which it stands; or the token behind, and signs -/
abbrev Outc := (Int × Nat) ⊕ (Nat × Cde)
def flu (w : Int) : Cde := if w = -1 then [] else [(w - 25, 0)]
def pTl (one : Nat → Outc) (tk : Nat → Int) : Nat → Nat → Int → Cde → Outc
  | 0, i, w, c => .inr (i, c ++ flu w)
  | n + 1, i, w, c => if 28 ≤ tk i ∧ tk i ≤ 31 then (match one (i + 1) with
      | .inl f => .inl f
      | .inr (i', c') => if 30 ≤ tk i then pTl one tk n i' w (c ++ (c' ++ [(tk i - 25, 0)])) else pTl one tk n i' (tk i) (c ++ (flu w ++ c')))
    else .inr (i, c ++ flu w)
def pSm (one : Nat → Outc) (tk : Nat → Int) (i : Nat) : Outc := match one i with
  | .inl f => .inl f
  | .inr (i', c) => pTl one tk 300 i' (-1) c
def pO1 (tk nb : Nat → Int) (ln : Int) (deep : Nat → Outc) (i : Nat) : Outc :=
  if tk i = 35 then (if nb i ≤ 9999 then .inr (i + 1, [(0, nb i)]) else .inl (2, i))
  else if 13 ≤ tk i ∧ tk i ≤ 21 then (if tk i ≤ ln then .inr (i + 1, [(1, tk i - 13)]) else .inl (5, i))
  else if tk i = 32 ∨ tk i = 29 then deep i
  else .inl (1, i)
def pOne (tk nb : Nat → Int) (ln : Int) : Nat → Nat → Outc
  | 0 => pO1 tk nb ln (fun i => .inl (3, i))
  | r + 1 => pO1 tk nb ln (fun i => if tk i = 32 then (match pSm (pOne tk nb ln r) tk (i + 1) with
      | .inl f => .inl f
      | .inr (i', c) => if tk i' = 33 then .inr (i' + 1, c) else .inl (1, i'))
    else (match pOne tk nb ln r (i + 1) with
      | .inl f => .inl f
      | .inr (i', c) => .inr (i', c ++ [(2, 0)])))
def pCm (sum : Nat → Outc) (tk : Nat → Int) (i : Nat) : Outc := match sum i with
  | .inl f => .inl f
  | .inr (i1, c1) => if 22 ≤ tk i1 ∧ tk i1 ≤ 27 then (match sum (i1 + 1) with
      | .inl f => .inl f
      | .inr (i2, c2) => .inr (i2, c1 ++ (c2 ++ [(tk i1 - 12, 0)])))
    else .inl (1, i1)
def pAsk (tk nb : Nat → Int) (ln : Int) : Nat → Nat → Outc
  | 0 => fun i => if tk i = 12 then .inl (3, i) else pCm (pSm (pOne tk nb ln 0) tk) tk i
  | r + 1 => fun i => if tk i = 12 then (match pAsk tk nb ln r (i + 1) with
      | .inl f => .inl f
      | .inr (i', c) => .inr (i', c ++ [(20, 0)]))
    else pCm (pSm (pOne tk nb ln (r + 1)) tk) tk i
def orW (w : Bool) : Cde := if w then [(22, 0)] else []
def pSe (ask : Nat → Outc) (tk : Nat → Int) : Nat → Nat → Bool → Cde → Outc
  | 0, i, w, c => .inr (i, c ++ orW w)
  | n + 1, i, w, c => if tk i = 11 then (match ask (i + 1) with
      | .inl f => .inl f
      | .inr (i', c') => pSe ask tk n i' w (c ++ (c' ++ [(21, 0)])))
    else if tk i = 10 then (match ask (i + 1) with
      | .inl f => .inl f
      | .inr (i', c') => pSe ask tk n i' true (c ++ (orW w ++ c')))
    else .inr (i, c ++ orW w)
def pSees (tk nb : Nat → Int) (i : Nat) : Outc := match pAsk tk nb 21 8 i with
  | .inl f => .inl f
  | .inr (i', c) => pSe (pAsk tk nb 21 8) tk 300 i' false c
/-! heights of what is written -/
def ckL : Cde → Nat → Nat → Option (Nat × Nat)
  | [], t, v => some (t, v)
  | (o, w) :: l, t, v =>
    if 32 < t + v then none
    else if o = 0 then (if 0 ≤ w ∧ w ≤ 9999 ∧ t + v < 32 then ckL l t (v + 1) else none)
    else if o = 1 then (if 0 ≤ w ∧ w ≤ 8 ∧ t + v < 32 then ckL l t (v + 1) else none)
    else if o = 2 then (if 1 ≤ v then ckL l t v else none)
    else if o = 3 ∨ o = 4 ∨ o = 5 ∨ o = 6 then (if 2 ≤ v then ckL l t (v - 1) else none)
    else if o = 10 ∨ o = 11 ∨ o = 12 ∨ o = 13 ∨ o = 14 ∨ o = 15 then (if v = 2 then ckL l (t + 1) 0 else none)
    else if o = 20 then (if 1 ≤ t ∧ v = 0 then ckL l t 0 else none)
    else if o = 21 ∨ o = 22 then (if 2 ≤ t ∧ v = 0 then ckL l (t - 1) 0 else none)
    else none
theorem ckL_app : ∀ (a b : Cde) (t v t' v' : Nat), ckL a t v = some (t', v') → ckL (a ++ b) t v = ckL b t' v' := by
  intro a
  induction a with
  | nil =>
    intro b t v t' v' h
    unfold ckL at h
    cases h
    rfl
  | cons x a ih =>
    intro b t v t' v' h
    obtain ⟨o, w⟩ := x
    rw [List.cons_append]
    rw [ckL] at h ⊢
    split at h
    · cases h
    rename_i h32
    rw [if_neg h32]
    split at h
    · rename_i ho
      rw [if_pos ho]
      split at h
      · rename_i hc; rw [if_pos hc]; exact ih b _ _ _ _ h
      · cases h
    rename_i ho; rw [if_neg ho]
    split at h
    · rename_i ho
      rw [if_pos ho]
      split at h
      · rename_i hc; rw [if_pos hc]; exact ih b _ _ _ _ h
      · cases h
    rename_i ho; rw [if_neg ho]
    split at h
    · rename_i ho
      rw [if_pos ho]
      split at h
      · rename_i hc; rw [if_pos hc]; exact ih b _ _ _ _ h
      · cases h
    rename_i ho; rw [if_neg ho]
    split at h
    · rename_i ho
      rw [if_pos ho]
      split at h
      · rename_i hc; rw [if_pos hc]; exact ih b _ _ _ _ h
      · cases h
    rename_i ho; rw [if_neg ho]
    split at h
    · rename_i ho
      rw [if_pos ho]
      split at h
      · rename_i hc; rw [if_pos hc]; exact ih b _ _ _ _ h
      · cases h
    rename_i ho; rw [if_neg ho]
    split at h
    · rename_i ho
      rw [if_pos ho]
      split at h
      · rename_i hc; rw [if_pos hc]; exact ih b _ _ _ _ h
      · cases h
    rename_i ho; rw [if_neg ho]
    split at h
    · rename_i ho
      rw [if_pos ho]
      split at h
      · rename_i hc; rw [if_pos hc]; exact ih b _ _ _ _ h
      · cases h
    · cases h
theorem ck_num {w : Int} {t v : Nat} (hw : 0 ≤ w ∧ w ≤ 9999) (h : t + v < 32) : ckL [(0, w)] t v = some (t, v + 1) := by
  rw [ckL, if_neg (by omega), if_pos rfl, if_pos ⟨hw.1, hw.2, h⟩]; rfl
theorem ck_nam {w : Int} {t v : Nat} (hw : 0 ≤ w ∧ w ≤ 8) (h : t + v < 32) : ckL [(1, w)] t v = some (t, v + 1) := by
  rw [ckL, if_neg (by omega), if_neg (by decide), if_pos rfl, if_pos ⟨hw.1, hw.2, h⟩]; rfl
theorem ck_neg {t v : Nat} (hv : 1 ≤ v) (h : t + v ≤ 32) : ckL [(2, 0)] t v = some (t, v) := by
  rw [ckL, if_neg (by omega), if_neg (by decide), if_neg (by decide), if_pos rfl, if_pos hv]; rfl
theorem ck_ar {o w : Int} {t v : Nat} (ho : 3 ≤ o ∧ o ≤ 6) (hv : 2 ≤ v) (h : t + v ≤ 32) : ckL [(o, w)] t v = some (t, v - 1) := by
  rw [ckL, if_neg (by omega), if_neg (by omega), if_neg (by omega), if_neg (by omega), if_pos (by omega), if_pos hv]; rfl
theorem ck_as {o w : Int} {t : Nat} (ho : 10 ≤ o ∧ o ≤ 15) (h : t + 2 ≤ 32) : ckL [(o, w)] t 2 = some (t + 1, 0) := by
  rw [ckL, if_neg (by omega), if_neg (by omega), if_neg (by omega), if_neg (by omega), if_neg (by omega), if_pos (by omega), if_pos rfl]; rfl
theorem ck_not {t : Nat} (ht : 1 ≤ t) (h : t ≤ 32) : ckL [(20, 0)] t 0 = some (t, 0) := by
  rw [ckL, if_neg (by omega), if_neg (by decide), if_neg (by decide), if_neg (by decide), if_neg (by decide), if_neg (by decide), if_pos rfl, if_pos ⟨ht, rfl⟩]; rfl
theorem ck_bo {o : Int} {t : Nat} (ho : o = 21 ∨ o = 22) (ht : 2 ≤ t) (h : t ≤ 32) : ckL [(o, 0)] t 0 = some (t - 1, 0) := by
  rw [ckL, if_neg (by omega), if_neg (by omega), if_neg (by omega), if_neg (by omega), if_neg (by omega), if_neg (by omega), if_neg (by omega), if_pos ho, if_pos ⟨ht, rfl⟩]; rfl
/-- signs that put one number on the pile; all names among the first -/
def VS (h : Nat) (ln : Int) (c : Cde) : Prop := (∀ t v, t + v + h ≤ 32 → ckL c t v = some (t, v + 1)) ∧ ∀ x ∈ c, x.1 = 1 → x.2 ≤ ln - 13
def VQ (h : Nat) (ln : Int) (c : Cde) : Prop := (∀ t, t + h ≤ 32 → ckL c t 0 = some (t + 1, 0)) ∧ ∀ x ∈ c, x.1 = 1 → x.2 ≤ ln - 13
def Gd (E i : Nat) (V : Cde → Prop) (o : Outc) : Prop := match o with
  | .inl (f, j) => (1 ≤ f ∧ f ≤ 6) ∧ j ≤ E
  | .inr (i', c) => i < i' ∧ i' ≤ E ∧ c.length ≤ i' - i ∧ V c
theorem mem_app {P : Int × Int → Prop} {a b : Cde} (ha : ∀ x ∈ a, P x) (hb : ∀ x ∈ b, P x) : ∀ x ∈ a ++ b, P x := fun x hx => by
  rcases List.mem_append.mp hx with h | h
  · exact ha x h
  · exact hb x h
theorem nam_sg {ln o w : Int} (h : o ≠ 1) : ∀ x ∈ [((o, w) : Int × Int)], x.1 = 1 → x.2 ≤ ln - 13 := fun x hx e => by
  rw [List.mem_singleton] at hx
  rw [hx] at e
  exact absurd e h
section Parse
variable {tk nb : Nat → Int} {ln : Int} {E : Nat}
theorem flu_len (w : Int) : (flu w).length = if w = -1 then 0 else 1 := by unfold flu; split <;> rfl
theorem pTl_gd {one : Nat → Outc} {r : Nat} (hE : tk E = 36) (h1 : ∀ i, i ≤ E → Gd E i (VS (2 * r + 1) ln) (one i)) : ∀ (n i : Nat) (w : Int) (c : Cde) (i0 : Nat), i ≤ E → i0 < i → c.length + (flu w).length ≤ i - i0 → (w = -1 ∨ (28 ≤ w ∧ w ≤ 29)) → (∀ t v, t + v + (2 * r + 3) ≤ 32 → ckL c t v = some (t, v + 1 + (flu w).length)) → (∀ x ∈ c, x.1 = 1 → x.2 ≤ ln - 13) → Gd E i0 (VS (2 * r + 3) ln) (pTl one tk n i w c) := by
  intro n
  have fin : ∀ (i : Nat) (w : Int) (c : Cde) (i0 : Nat), i ≤ E → i0 < i → c.length + (flu w).length ≤ i - i0 → (w = -1 ∨ (28 ≤ w ∧ w ≤ 29)) → (∀ t v, t + v + (2 * r + 3) ≤ 32 → ckL c t v = some (t, v + 1 + (flu w).length)) → (∀ x ∈ c, x.1 = 1 → x.2 ≤ ln - 13) → Gd E i0 (VS (2 * r + 3) ln) (.inr (i, c ++ flu w)) := by
    intro i w c i0 hi h0 hl hw hc hn
    refine ⟨h0, hi, by rw [List.length_append]; exact hl, fun t v htv => ?_, ?_⟩
    · rw [ckL_app _ _ _ _ _ _ (hc t v htv)]
      unfold flu
      rcases hw with hw | hw
      · rw [if_pos hw]; rfl
      · rw [if_neg (by omega)]
        exact ck_ar (by omega) (by show 2 ≤ v + 1 + 1; omega) (by show t + (v + 1 + 1) ≤ 32; omega)
    · refine mem_app hn ?_
      unfold flu
      split
      · intro x hx; cases hx
      · exact nam_sg (by omega)
  induction n with
  | zero => intro i w c i0 hi h0 hl hw hc hn; exact fin i w c i0 hi h0 hl hw hc hn
  | succ n ih =>
    intro i w c i0 hi h0 hl hw hc hn
    rw [pTl]
    split
    · rename_i ht
      have hiE : i < E := by
        by_cases e : i = E
        · rw [e, hE] at ht; omega
        · omega
      have g := h1 (i + 1) (by omega)
      cases ho : one (i + 1) with
      | inl f => rw [ho] at g; exact g
      | inr y =>
        obtain ⟨i', c'⟩ := y
        rw [ho] at g
        obtain ⟨g1, g2, g3, g4, g5⟩ := g
        dsimp only
        split
        · rename_i h30
          refine ih i' w _ i0 g2 (by omega) (by simp only [List.length_append, List.length_singleton]; omega) hw (fun t v htv => ?_) (mem_app hn (mem_app g5 (nam_sg (by omega))))
          have fl1 : (flu w).length ≤ 1 := by rw [flu_len]; split <;> omega
          rw [ckL_app _ _ _ _ _ _ (hc t v htv), ckL_app _ _ _ _ _ _ (g4 t (v + 1 + (flu w).length) (by omega)), ck_ar (by omega) (by omega) (by omega)]
          congr 2
        · rename_i h30
          refine ih i' (tk i) _ i0 g2 (by omega) ?_ (Or.inr (by omega)) (fun t v htv => ?_) ?_
          · rw [flu_len (tk i), if_neg (by omega)]
            simp only [List.length_append]; omega
          · rw [ckL_app _ _ _ _ _ _ (hc t v htv), flu_len (tk i), if_neg (show ¬ tk i = -1 by omega)]
            rcases hw with hw | hw
            · have : flu w = [] := by unfold flu; rw [if_pos hw]
              rw [this, List.nil_append]
              exact g4 t (v + 1) (by omega)
            · have e1 : flu w = [(w - 25, 0)] := by unfold flu; rw [if_neg (by omega)]
              rw [e1]
              have e2 := ck_ar (o := w - 25) (w := 0) (t := t) (v := v + 1 + 1) (by omega) (by omega) (by omega)
              rw [show ([((w - 25, 0) : Int × Int)]).length = 1 from rfl, ckL_app _ _ _ _ _ _ e2]
              exact g4 t (v + 1 + 1 - 1) (by omega)
          · refine mem_app hn (mem_app ?_ g5)
            unfold flu
            split
            · intro x hx; cases hx
            · exact nam_sg (by omega)
    · exact fin i w c i0 hi h0 hl hw hc hn
theorem pSm_gd {one : Nat → Outc} {r : Nat} (hE : tk E = 36) (h1 : ∀ i, i ≤ E → Gd E i (VS (2 * r + 1) ln) (one i)) : ∀ i, i ≤ E → Gd E i (VS (2 * r + 3) ln) (pSm one tk i) := by
  intro i hi
  have g := h1 i hi
  unfold pSm
  cases ho : one i with
  | inl f => rw [ho] at g; exact g
  | inr y =>
    obtain ⟨i', c'⟩ := y
    rw [ho] at g
    obtain ⟨g1, g2, g3, g4, g5⟩ := g
    exact pTl_gd hE h1 300 i' (-1) c' i g2 g1 (by rw [flu_len, if_pos rfl]; omega) (Or.inl rfl) (fun t v htv => by rw [flu_len, if_pos rfl]; exact g4 t v (by omega)) g5
theorem pO1_gd {deep : Nat → Outc} {h : Nat} (hh : 1 ≤ h) (hE : tk E = 36) (hnb : ∀ i, i < E → tk i = 35 → 0 ≤ nb i) (hd : ∀ i, i < E → (tk i = 32 ∨ tk i = 29) → Gd E i (VS h ln) (deep i)) : ∀ i, i ≤ E → Gd E i (VS h ln) (pO1 tk nb ln deep i) := by
  intro i hi
  have lt : tk i ≠ 36 → i < E := fun z => by
    by_cases e : i = E
    · rw [e] at z; exact absurd hE z
    · omega
  unfold pO1
  split
  · rename_i h35
    have hl := lt (by omega)
    split
    · refine ⟨by omega, by omega, by show 1 ≤ _; omega, fun t v htv => ck_num ⟨hnb i hl h35, by assumption⟩ (by omega), nam_sg (by omega)⟩
    · exact ⟨by omega, hi⟩
  · split
    · have hl := lt (by omega)
      split
      · refine ⟨by omega, by omega, by show 1 ≤ _; omega, fun t v htv => ck_nam (by omega) (by omega), fun x hx _ => ?_⟩
        rw [List.mem_singleton] at hx
        rw [hx]
        show tk i - 13 ≤ ln - 13
        omega
      · exact ⟨by omega, hi⟩
    · split
      · rename_i hd'
        exact hd i (lt (by omega)) hd'
      · exact ⟨by omega, hi⟩
theorem pOne_gd (hE : tk E = 36) (hnb : ∀ i, i < E → tk i = 35 → 0 ≤ nb i) : ∀ r i, i ≤ E → Gd E i (VS (2 * r + 1) ln) (pOne tk nb ln r i) := by
  intro r
  induction r with
  | zero => exact pO1_gd (by omega) hE hnb (fun i hi _ => ⟨by omega, by omega⟩)
  | succ r ih =>
    refine pO1_gd (by omega) hE hnb (fun i hi hd => ?_)
    split
    · have g := pSm_gd hE ih (i + 1) (by omega)
      cases ho : pSm (pOne tk nb ln r) tk (i + 1) with
      | inl f => rw [ho] at g; exact g
      | inr y =>
        obtain ⟨i', c'⟩ := y
        rw [ho] at g
        obtain ⟨g1, g2, g3, g4, g5⟩ := g
        dsimp only
        split
        · rename_i h33
          have : i' < E := by
            by_cases e : i' = E
            · rw [e, hE] at h33; omega
            · omega
          exact ⟨by omega, by omega, by omega, fun t v htv => g4 t v (by omega), g5⟩
        · exact ⟨by omega, g2⟩
    · have g := ih (i + 1) (by omega)
      cases ho : pOne tk nb ln r (i + 1) with
      | inl f => rw [ho] at g; exact g
      | inr y =>
        obtain ⟨i', c'⟩ := y
        rw [ho] at g
        obtain ⟨g1, g2, g3, g4, g5⟩ := g
        refine ⟨by omega, g2, by simp only [List.length_append, List.length_singleton]; omega, fun t v htv => ?_, mem_app g5 (nam_sg (by omega))⟩
        rw [ckL_app _ _ _ _ _ _ (g4 t v (by omega))]
        exact ck_neg (by omega) (by omega)
theorem pCm_gd {sum : Nat → Outc} {h : Nat} (hh : 1 ≤ h) (hE : tk E = 36) (hs : ∀ i, i ≤ E → Gd E i (VS h ln) (sum i)) : ∀ i, i ≤ E → Gd E i (VQ (h + 1) ln) (pCm sum tk i) := by
  intro i hi
  have g := hs i hi
  unfold pCm
  cases ho : sum i with
  | inl f => rw [ho] at g; exact g
  | inr y =>
    obtain ⟨i1, c1⟩ := y
    rw [ho] at g
    obtain ⟨g1, g2, g3, g4, g5⟩ := g
    dsimp only
    split
    · rename_i hc
      have hl : i1 < E := by
        by_cases e : i1 = E
        · rw [e, hE] at hc; omega
        · omega
      have k := hs (i1 + 1) (by omega)
      cases ho2 : sum (i1 + 1) with
      | inl f => rw [ho2] at k; exact k
      | inr y =>
        obtain ⟨i2, c2⟩ := y
        rw [ho2] at k
        obtain ⟨k1, k2, k3, k4, k5⟩ := k
        refine ⟨by omega, k2, by simp only [List.length_append, List.length_singleton]; omega, fun t ht => ?_, mem_app g5 (mem_app k5 (nam_sg (by omega)))⟩
        rw [ckL_app _ _ _ _ _ _ (g4 t 0 (by omega)), ckL_app _ _ _ _ _ _ (k4 t (0 + 1) (by omega))]
        exact ck_as (by omega) (by omega)
    · exact ⟨by omega, g2⟩
theorem pAsk_gd (hE : tk E = 36) (hnb : ∀ i, i < E → tk i = 35 → 0 ≤ nb i) : ∀ r i, i ≤ E → Gd E i (VQ (2 * r + 4) ln) (pAsk tk nb ln r i) := by
  intro r
  induction r with
  | zero =>
    intro i hi
    rw [pAsk]
    dsimp only
    split
    · exact ⟨by omega, hi⟩
    · exact pCm_gd (by omega) hE (pSm_gd hE (pOne_gd hE hnb 0)) i hi
  | succ r ih =>
    intro i hi
    rw [pAsk]
    dsimp only
    split
    · rename_i h12
      have hl : i < E := by
        by_cases e : i = E
        · rw [e, hE] at h12; omega
        · omega
      have g := ih (i + 1) (by omega)
      cases ho : pAsk tk nb ln r (i + 1) with
      | inl f => rw [ho] at g; exact g
      | inr y =>
        obtain ⟨i', c'⟩ := y
        rw [ho] at g
        obtain ⟨g1, g2, g3, g4, g5⟩ := g
        refine ⟨by omega, g2, by simp only [List.length_append, List.length_singleton]; omega, fun t ht => ?_, mem_app g5 (nam_sg (by omega))⟩
        rw [ckL_app _ _ _ _ _ _ (g4 t (by omega))]
        exact ck_not (by omega) (by omega)
    · exact pCm_gd (by omega) hE (pSm_gd hE (pOne_gd hE hnb (r + 1))) i hi
theorem orW_len (w : Bool) : (orW w).length = if w then 1 else 0 := by cases w <;> rfl
theorem orW_nam (w : Bool) : ∀ x ∈ orW w, x.1 = 1 → x.2 ≤ ln - 13 := by
  cases w
  · intro x hx; cases hx
  · exact nam_sg (by omega)
theorem pSe_gd {ask : Nat → Outc} (hE : tk E = 36) (ha : ∀ i, i ≤ E → Gd E i (VQ 20 ln) (ask i)) : ∀ (n i : Nat) (w : Bool) (c : Cde) (i0 : Nat), i ≤ E → i0 < i → c.length + (orW w).length ≤ i - i0 → ckL c 0 0 = some (1 + (orW w).length, 0) → (∀ x ∈ c, x.1 = 1 → x.2 ≤ ln - 13) → Gd E i0 (fun c => ckL c 0 0 = some (1, 0) ∧ ∀ x ∈ c, x.1 = 1 → x.2 ≤ ln - 13) (pSe ask tk n i w c) := by
  have fin : ∀ (i : Nat) (w : Bool) (c : Cde) (i0 : Nat), i ≤ E → i0 < i → c.length + (orW w).length ≤ i - i0 → ckL c 0 0 = some (1 + (orW w).length, 0) → (∀ x ∈ c, x.1 = 1 → x.2 ≤ ln - 13) → Gd E i0 (fun c => ckL c 0 0 = some (1, 0) ∧ ∀ x ∈ c, x.1 = 1 → x.2 ≤ ln - 13) (.inr (i, c ++ orW w)) := by
    intro i w c i0 hi h0 hl hc hn
    refine ⟨h0, hi, by rw [List.length_append]; exact hl, ?_, mem_app hn (orW_nam w)⟩
    rw [ckL_app _ _ _ _ _ _ hc]
    cases w
    · rfl
    · exact ck_bo (Or.inr rfl) (by decide) (by decide)
  intro n
  induction n with
  | zero => intro i w c i0 hi h0 hl hc hn; exact fin i w c i0 hi h0 hl hc hn
  | succ n ih =>
    intro i w c i0 hi h0 hl hc hn
    have ow : (orW w).length ≤ 1 := by rw [orW_len]; cases w <;> decide
    have lt : tk i ≠ 36 → i < E := fun z => by
      by_cases e : i = E
      · rw [e] at z; exact absurd hE z
      · omega
    rw [pSe]
    split
    · have hl' := lt (by omega)
      have g := ha (i + 1) (by omega)
      cases ho : ask (i + 1) with
      | inl f => rw [ho] at g; exact g
      | inr y =>
        obtain ⟨i', c'⟩ := y
        rw [ho] at g
        obtain ⟨g1, g2, g3, g4, g5⟩ := g
        refine ih i' w _ i0 g2 (by omega) (by simp only [List.length_append, List.length_singleton]; omega) ?_ (mem_app hn (mem_app g5 (nam_sg (by omega))))
        rw [ckL_app _ _ _ _ _ _ hc, ckL_app _ _ _ _ _ _ (g4 _ (by omega)), ck_bo (Or.inl rfl) (by omega) (by omega)]
        congr 2
    · split
      · have hl' := lt (by omega)
        have g := ha (i + 1) (by omega)
        cases ho : ask (i + 1) with
        | inl f => rw [ho] at g; exact g
        | inr y =>
          obtain ⟨i', c'⟩ := y
          rw [ho] at g
          obtain ⟨g1, g2, g3, g4, g5⟩ := g
          refine ih i' true _ i0 g2 (by omega) (by simp only [List.length_append]; rw [show (orW true).length = 1 from rfl]; omega) ?_ (mem_app hn (mem_app (orW_nam w) g5))
          rw [ckL_app _ _ _ _ _ _ hc]
          cases w
          · show ckL c' 1 0 = some (2, 0)
            exact g4 1 (by omega)
          · show ckL ([(22, 0)] ++ c') 2 0 = some (2, 0)
            rw [ckL_app _ _ _ _ _ _ (ck_bo (Or.inr rfl) (by omega) (by omega))]
            exact g4 1 (by omega)
      · exact fin i w c i0 hi h0 hl hc hn
theorem pSees_gd (hE : tk E = 36) (hnb : ∀ i, i < E → tk i = 35 → 0 ≤ nb i) : ∀ i, i ≤ E → Gd E i (fun c => ckL c 0 0 = some (1, 0)) (pSees tk nb i) := by
  intro i hi
  have g := pAsk_gd (ln := 21) hE hnb 8 i hi
  unfold pSees
  cases ho : pAsk tk nb 21 8 i with
  | inl f => rw [ho] at g; exact g
  | inr y =>
    obtain ⟨i', c'⟩ := y
    rw [ho] at g
    obtain ⟨g1, g2, g3, g4, g5⟩ := g
    have r := pSe_gd (ln := 21) hE (fun i hi => pAsk_gd (ln := 21) hE hnb 8 i hi) 300 i' false c' i g2 g1 (by show _ + 0 ≤ _; omega) (by exact g4 0 (by omega)) g5
    dsimp only
    revert r
    cases pSe (pAsk tk nb 21 8) tk 300 i' false c' with
    | inl f => exact fun r => r
    | inr y => exact fun r => ⟨r.1, r.2.1, r.2.2.1, r.2.2.2.1⟩
end Parse
