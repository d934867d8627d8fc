/-! ===== text: the class reads sums and asks ===== -/
theorem enc_ar {t : Int} (h : 28 ≤ t ∧ t ≤ 31) : enc (t - 25) 0 = -1 - t := by
  have : t = 28 ∨ t = 29 ∨ t = 30 ∨ t = 31 := by omega
  rcases this with rfl | rfl | rfl | rfl <;> decide
theorem enc_as {t : Int} (h : 22 ≤ t ∧ t ≤ 27) : enc (t - 12) 0 = -1 - t := by
  have : t = 22 ∨ t = 23 ∨ t = 24 ∨ t = 25 ∨ t = 26 ∨ t = 27 := by omega
  rcases this with rfl | rfl | rfl | rfl | rfl | rfl <;> decide
theorem enc_0 (w : Int) : enc 0 w = w := by unfold enc; exact if_pos rfl
theorem enc_1 (w : Int) : enc 1 w = -14 - w := by unfold enc; exact (if_neg (by decide)).trans (if_pos rfl)
section CRead2
variable {G : GG} {d : Nat} {m0 : MM} {cc E : Nat} {tk nb : Nat → Int} {ln : Int}
theorem r_fail {Q : MM → Prop} {x1 : Int} {i L : Nat} {f : Nat → Int} (rc : RC m0 cc E tk nb ln) (hi : i ≤ E) (hL : L ≤ 300) (hx : 1 ≤ x1 ∧ x1 ≤ 6) (next : ∀ m', FdM m0 cc E x1 (m0 4 i) m' → Q m') : N G d mi_X2_fail 0 [some (vr 2), some (vi x1)] [] (cst m0 cc (i : Int) (L : Int) f) (RV Q) := by
  obtain ⟨r1, r2, r3, r4, r5, r6, r7, r8, r9, r10, r11, r12, r13⟩ := rc
  have z0 : cst m0 cc (i : Int) (L : Int) f 2 0 = 0 := by rw [cst_2 r2 (by omega)]; exact r4
  refine g_X2_fail_0 _ (eqT (by omega) (fun m2 q2 => ⟨i, ⟨by rw [q2, upm_j _ _ (by omega), cst_26], by omega⟩, fun m4 q4 m5 q5 => next m5 ⟨hx, ?_, ?_, ?_, ?_, ?_, fun c c2 c3 => ?_, fun b b0 b1 b6 b7 => ?_⟩⟩))
  · rw [q5, upm_j _ _ (by omega), q4, upm_j _ _ (by omega), q2, upm_at]
  · rw [q5, upm_j _ _ (by omega), q4, upm_at, q2, upm_c (by omega), cst_o (by omega) (by omega) (by omega)]
  · rw [q5, upm_at, q4, upm_j _ _ (by omega), q2, upm_j _ _ (by omega), cst_2 r2 (by omega)]; exact r5
  · rw [q5, upm_c (by omega), q4, upm_c (by omega), q2, upm_c (by omega), cst_c5 r2]; omega
  · rw [q5, upm_c (by omega), q4, upm_c (by omega), q2, upm_c (by omega), cst_c r2 (by omega)]; exact r11
  · rw [q5, upm_c c2, q4, upm_c c2, q2, upm_c c2, cst_o c2 (by omega) (by omega)]
  · rw [q5, upm_j _ _ b6, q4, upm_j _ _ b1, q2, upm_j _ _ b0, cst_2 r2 b6]
theorem RC.at (rc : RC m0 cc E tk nb ln) {i : Nat} (hi : i ≤ E) (L : Int) (f : Nat → Int) : cst m0 cc (i : Int) L f 2 6 = (i : Int) ∧ i < 301 ∧ cst m0 cc (i : Int) L f 3 i = tk i ∧ cst m0 cc (i : Int) L f 2 8 = (cc : Int) ∧ 0 ≤ tk i ∧ tk i ≤ 37 := by
  obtain ⟨r1, r2, r3, r4, r5, r6, r7, r8, r9, r10, r11, r12, r13⟩ := rc
  have := r9 i hi
  refine ⟨cst_26, by omega, by rw [cst_o (by omega) (by omega) (by omega)]; exact this.1, by rw [cst_2 r2 (by omega)]; exact r3, this.2.1, this.2.2⟩
theorem RC.lt (rc : RC m0 cc E tk nb ln) {i : Nat} (hi : i ≤ E) (h : tk i ≠ 36) : i < E := by
  by_cases e : i = E
  · rw [e] at h; exact absurd rc.2.2.2.2.2.2.2.2.2.2.2.1 h
  · omega
theorem r_take {Q : MM → Prop} {x1 : Int} {i L : Nat} {f : Nat → Int} (rc : RC m0 cc E tk nb ln) (hi : i ≤ E) (hL : L ≤ 300) (hx : rng x1) (hy : tk i = x1 → Q (cst m0 cc ((i + 1 : Nat) : Int) (L : Int) f)) (hn : tk i ≠ x1 → ∀ m', FdM m0 cc E 1 (m0 4 i) m' → Q m') : N G (d + 1) mi_X2_take 0 [some (vr 2), some (vi x1)] [] (cst m0 cc (i : Int) (L : Int) f) (RV Q) := by
  obtain ⟨a1, a2, a3, a4, a5, a6⟩ := rc.at hi (L : Int) f
  refine g_X2_take_0 _ ⟨i, ⟨a1, a2⟩, ?_⟩
  rw [a3]
  refine eqI (by omega) (fun z m4 q4 => ?_) (fun z => r_fail rc hi hL (by omega) (hn z))
  rw [a1, up_i] at q4
  rw [q4]
  exact hy z
theorem r_num {k : Int → MM → Prop} {x1 : Int} {i L : Nat} {f : Nat → Int} (rc : RC m0 cc E tk nb ln) (hi : i ≤ E) (hL : L ≤ 300) (hx : rng x1) (hy : tk i = 35 → nb i ≤ x1 → k (nb i) (cst m0 cc ((i + 1 : Nat) : Int) (L : Int) f)) (h2 : tk i = 35 → ¬ nb i ≤ x1 → ∀ m', FdM m0 cc E 2 (m0 4 i) m' → k 0 m') (hn : tk i ≠ 35 → ∀ m', FdM m0 cc E 1 (m0 4 i) m' → k 0 m') : N G (d + 1) mi_X2_takeNumber 0 [some (vr 2), some (vi x1), none] [] (cst m0 cc (i : Int) (L : Int) f) (RI k) := by
  obtain ⟨a1, a2, a3, a4, a5, a6⟩ := rc.at hi (L : Int) f
  refine g_X2_takeNumber_0 _ ⟨i, ⟨a1, a2⟩, i, ⟨a1, a2⟩, ?_⟩
  rw [a3]
  refine eqI (by omega) (fun z => ?_) (fun z => r_fail rc hi hL (by omega) (hn z))
  have hl := rc.lt hi (by omega)
  have rc' := rc
  obtain ⟨r1, r2, r3, r4, r5, r6, r7, r8, r9, r10, r11, r12, r13⟩ := rc
  obtain ⟨b1, b2, b3⟩ := r10 i hl
  have e5 : cst m0 cc (i : Int) (L : Int) f 5 i = nb i := by rw [cst_o (by omega) (by omega) (by omega)]; exact b1
  rw [e5]
  refine leI (by omega) (fun z2 m3 q3 => ?_) (fun z2 => r_fail rc' hi hL (by omega) (h2 z z2))
  rw [a1, up_i] at q3
  rw [q3]
  exact hy z z2
/-- a sign written behind others -/
theorem r_add {Q : MM → Prop} {x1 o w : Int} {i L : Nat} {f : Nat → Int} (c : Cde) (rc : RC m0 cc E tk nb ln) (hL : L + c.length < 300) (hx : x1 = enc o w) (h : Q (cs m0 cc i L f (c ++ [(o, w)]))) : N G d mi_X5_addNumber 0 [some (vr cc), some (vi x1)] [] (cs m0 cc i L f c) (RV Q) := by
  have r2 := rc.2.1
  unfold cs at h ⊢
  have e5 := cst_c5 (m0 := m0) (i := (i : Int)) (L := ((L + c.length : Nat) : Int)) (f := wrt f L c) r2
  refine g_X5_addNumber_0 cc rc.1 _ ?_
  rw [e5]
  refine leF (by omega) ⟨L + c.length, by omega, fun m1 q1 m3 q3 => ?_⟩
  rw [up_f r2] at q1
  rw [q1, cst_c5 r2, up_L r2] at q3
  rw [q3]
  rw [wrt_app, List.length_append, List.length_singleton] at h
  rw [hx]
  have e1 : ((L + c.length : Nat) : Int) + 1 = ((L + (c.length + 1) : Nat) : Int) := by omega
  rw [e1]
  exact h
theorem r_sign {Q : MM → Prop} {x1 o w : Int} {i L : Nat} {f : Nat → Int} (c : Cde) (rc : RC m0 cc E tk nb ln) (hL : L + c.length < 300) (hx : -1 - x1 = enc o w) (h : Q (cs m0 cc i L f (c ++ [(o, w)]))) : N G (d + 1) mi_X5_addSign 0 [some (vr cc), some (vi x1)] [] (cs m0 cc i L f c) (RV Q) := g_X5_addSign_0 cc rc.1 _ (r_add c rc hL hx h)
theorem cs_nil (m0 : MM) (cc i L : Nat) (f : Nat → Int) : cs m0 cc i L f [] = cst m0 cc (i : Int) (L : Int) f := rfl
/-- what a reading method does, by what it reads -/
def HRd (G : GG) (D : Nat) (mi : MI) (lv : List (Option PV)) (m0 : MM) (cc E : Nat) (one : Nat → Outc) : Prop := ∀ (i L : Nat) (f : Nat → Int) (Q : MM → Prop), i ≤ E → L ≤ i → (∀ ft j, one i = .inl (ft, j) → ∀ m', FdM m0 cc E ft (m0 4 j) m' → Q m') → (∀ i' c, one i = .inr (i', c) → Q (cs m0 cc i' L f c)) → N G D mi 0 lv [] (cst m0 cc (i : Int) (L : Int) f) (RV Q)
abbrev HOn (G : GG) (D : Nat) (x1 : Int) (m0 : MM) (cc E : Nat) (one : Nat → Outc) : Prop := HRd G D mi_X2_readOne [some (vr 2), some (vi x1), none] m0 cc E one
theorem r_tl {x1 : Int} {one : Nat → Outc} {r : Nat} (rc : RC m0 cc E tk nb ln) (h1 : ∀ i, i ≤ E → Gd E i (VS (2 * r + 1) ln) (one i)) (ho : HOn G (d + 2) x1 m0 cc E one) {L : Nat} {f : Nat → Int} {Q : MM → Prop} : ∀ (n i : Nat) (w : Int) (c : Cde) (x2 x3 : Int), n + x3.toNat = 300 → 0 ≤ x3 → x2 = w → (w = -1 ∨ (28 ≤ w ∧ w ≤ 29)) → i ≤ E → L + c.length + (flu w).length ≤ i → (∀ ft j, pTl one tk n i w c = .inl (ft, j) → ∀ m', FdM m0 cc E ft (m0 4 j) m' → Q m') → (∀ i' c', pTl one tk n i w c = .inr (i', c') → Q (cs m0 cc i' L f c')) → N G (d + 3) mi_X2_readSum 9 [some (vr 2), some (vi x1), some (vi x2), some (vi x3), none, none] [] (cs m0 cc i L f c) (RV Q) := by
  have hE300 : E ≤ 300 := rc.2.2.2.2.2.1
  -- the end
  have fin : ∀ (i : Nat) (w : Int) (c : Cde) (x2 : Int), x2 = w → (w = -1 ∨ (28 ≤ w ∧ w ≤ 29)) → i ≤ E → L + c.length + (flu w).length ≤ i → Q (cs m0 cc i L f (c ++ flu w)) → N G (d + 3) mi_X2_readSum 132 [some (vr 2), none, some (vi x2), none, none, none] [] (cs m0 cc i L f c) (RV Q) := by
    intro i w c x2 h2 hw hi hl hq
    rcases hw with hw | hw
    · have : flu w = [] := by unfold flu; rw [if_pos hw]
      rw [this, List.append_nil] at hq
      exact g_X2_readSum_132 _ (eqT (by omega) hq)
    · have e : flu w = [(w - 25, 0)] := by unfold flu; rw [if_neg (by omega)]
      rw [e] at hq hl
      have hl1 : ([((w - 25, 0) : Int × Int)]).length = 1 := rfl
      refine g_X2_readSum_132 _ (eqF (by omega) ⟨cc, ⟨(rc.at hi _ _).2.2.2.1, rc.1⟩, r_sign c rc (by omega) ?_ hq⟩)
      rw [h2, enc_ar (by omega)]
  intro n
  induction n with
  | zero =>
    intro i w c x2 x3 hn h3 h2 hw hi hl hbad hok
    exact g_X2_readSum_9 _ _ _ (leT (by omega) (fin i w c x2 h2 hw hi hl (hok _ _ rfl)))
  | succ n ih =>
    intro i w c x2 x3 hn h3 h2 hw hi hl hbad hok
    obtain ⟨a1, a2, a3, a4, a5, a6⟩ := rc.at hi ((L + c.length : Nat) : Int) (wrt f L c)
    have e9 : cs m0 cc i L f c 2 6 = (i : Int) := a1
    have e3 : cs m0 cc i L f c 3 i = tk i := a3
    rw [pTl] at hbad hok
    refine g_X2_readSum_9 _ _ _ (leF (by omega) ⟨i, ⟨a1, a2⟩, ?_⟩)
    rw [e3]
    by_cases hop : 28 ≤ tk i ∧ tk i ≤ 31
    · rw [if_pos hop] at hbad hok
      have hl' := rc.lt hi (by omega)
      have g := h1 (i + 1) (by omega)
      refine ltF (by omega) ⟨i, ⟨a1, a2⟩, ?_⟩
      rw [e3]
      refine ltF (by omega) ⟨i, ⟨a1, a2⟩, ?_⟩
      rw [e3]
      have fl1 := flu_len w
      -- behind the sign
      have go : ∀ (y2 y5 : Int) (w' : Int) (c2 : Cde), y2 = w' → (w' = -1 ∨ (28 ≤ w' ∧ w' ≤ 29)) → (y5 = 1 ∧ 30 ≤ tk i ∧ w' = w ∧ c2 = c ∨ y5 = 0 ∧ ¬ 30 ≤ tk i ∧ w' = tk i ∧ c2 = c ++ flu w) → N G (d + 3) mi_X2_readSum 97 [some (vr 2), some (vi x1), some (vi y2), some (vi x3), some (vi (tk i)), some (vi y5)] [] (cs m0 cc i L f c2) (RV Q) := by
        intro y2 y5 w' c2 hy2 hw' hy
        have hc2 : L + c2.length + (flu w').length ≤ i + (if y5 = 0 then 1 else 0) := by
          rcases hy with ⟨p1, p2, p3, p4⟩ | ⟨p1, p2, p3, p4⟩
          · rw [p3, p4, p1]; simp; omega
          · have := flu_len w'
            rw [if_neg (by omega)] at this
            rw [p4, List.length_append, p1]; simp; omega
        have hc3 : L + c2.length ≤ i + 1 := by
          rcases hy with ⟨p1, p2, p3, p4⟩ | ⟨p1, p2, p3, p4⟩
          · rw [p4]; omega
          · rw [p4, List.length_append]; omega
        refine g_X2_readSum_97 _ _ _ _ _ (fun m1 q1 => ?_)
        have q1' : m1 = cst m0 cc ((i + 1 : Nat) : Int) ((L + c2.length : Nat) : Int) (wrt f L c2) := by
          rw [q1]
          unfold cs
          rw [cst_26, up_i]
          rfl
        rw [q1']
        refine ho (i + 1) (L + c2.length) (wrt f L c2) _ (by omega) hc3 (fun ft j e m' hm => ?_) (fun i' c' e => ?_)
        · -- failed
          have hm2 := hm.tok rc
          have nxt : ∀ m'', FdM m0 cc E ft (m0 4 j) m'' → Q m'' := hbad ft j (by rw [e])
          refine eqI (by omega) (fun _ => f_sum9 rc hm (by omega) (by omega) nxt) (fun _ => ⟨cc, ⟨hm2.2.2.2, rc.1⟩, f_sign rc hm (fun m'' hm' => f_sum9 rc hm' (by omega) (by omega) nxt)⟩)
        · rw [cs_app]
          rw [e] at g hbad hok
          obtain ⟨g1, g2, g3, g4, g5⟩ := g
          dsimp only at hbad hok
          rcases hy with ⟨p1, p2, p3, p4⟩ | ⟨p1, p2, p3, p4⟩
          · rw [if_pos p2] at hbad hok
            subst p3 p4
            rw [p1] at hc2
            have hc2' : L + c2.length + (flu w').length ≤ i := by simpa using hc2
            refine eqF (by omega) ⟨cc, ⟨(rc.at g2 _ _).2.2.2.1, rc.1⟩, r_sign (o := tk i - 25) (w := 0) (c2 ++ c') rc (by rw [List.length_append]; omega) (by rw [enc_ar hop]) ?_⟩
            rw [List.append_assoc]
            exact ih i' w' _ _ _ (by omega) (by omega) hy2 hw' g2 (by simp only [List.length_append, List.length_singleton]; omega) hbad hok
          · rw [if_neg p2] at hbad hok
            subst p3 p4
            rw [p1] at hc2
            have hc2' : L + (c ++ flu w).length + (flu (tk i)).length ≤ i + 1 := by simpa using hc2
            rw [List.append_assoc]
            refine eqT (by omega) (ih i' (tk i) _ _ _ (by omega) (by omega) hy2 hw' g2 ?_ hbad hok)
            rw [List.length_append] at hc2'
            simp only [List.length_append]
            omega
      have at74 : ∀ s0 : Int, (s0 = 1 ∧ 30 ≤ tk i ∨ s0 = 0 ∧ ¬ 30 ≤ tk i) → N G (d + 3) mi_X2_readSum 74 [some (vr 2), some (vi x1), some (vi x2), some (vi x3), some (vi (tk i)), none] [vi s0] (cs m0 cc i L f c) (RV Q) := by
        intro s0 hs
        refine g_X2_readSum_74 _ _ _ _ _ (eqI (by omega) (fun z => eqI (by omega) (fun z2 => ?_) (fun z2 => ?_)) (fun z => ?_))
        · have e0 : flu w = [] := by unfold flu; rw [if_pos (by omega)]
          refine go _ _ (tk i) c rfl (Or.inr (by omega)) (Or.inr ⟨z, by omega, rfl, by rw [e0, List.append_nil]⟩)
        · have e0 : flu w = [(w - 25, 0)] := by unfold flu; rw [if_neg (by omega)]
          have hl1 : (flu w).length = 1 := by rw [e0]; rfl
          refine ⟨cc, ⟨a4, rc.1⟩, r_sign (o := w - 25) (w := 0) c rc (by omega) (by rw [h2, enc_ar (by omega)]) ?_⟩
          exact go _ _ (tk i) (c ++ [(w - 25, 0)]) rfl (Or.inr (by omega)) (Or.inr ⟨z, by omega, rfl, by rw [e0]⟩)
        · exact go _ _ w c h2 hw (Or.inl ⟨by omega, by omega, rfl, rfl⟩)
      refine eqI (by omega) (fun z => at74 1 (Or.inl ⟨rfl, by omega⟩)) (fun z => eqI (by omega) (fun z2 => at74 1 (Or.inl ⟨rfl, by omega⟩)) (fun z2 => at74 0 (Or.inr ⟨rfl, by omega⟩)))
    · rw [if_neg hop] at hbad hok
      have f' := fin i w c x2 h2 hw hi hl (hok _ _ rfl)
      refine ltI (by omega) (fun _ => f') (fun z => ⟨i, ⟨a1, a2⟩, ?_⟩)
      rw [e3]
      exact ltT (by omega) f'
theorem r_sum {x1 : Int} {one : Nat → Outc} {r : Nat} (rc : RC m0 cc E tk nb ln) (h1 : ∀ i, i ≤ E → Gd E i (VS (2 * r + 1) ln) (one i)) (ho : HOn G (d + 2) x1 m0 cc E one) : HRd G (d + 3) mi_X2_readSum [some (vr 2), some (vi x1), none, none, none, none] m0 cc E (pSm one tk) := by
  intro i L f Q hi hL hbad hok
  unfold pSm at hbad hok
  refine g_X2_readSum_0 _ (ho i L f _ hi hL (fun ft j e m' hm => ?_) (fun i' c e => ?_))
  · rw [e] at hbad
    exact f_sum9 rc hm (by omega) (by omega) (hbad ft j rfl)
  · have g := h1 i hi
    rw [e] at g hbad hok
    obtain ⟨g1, g2, g3, g4, g5⟩ := g
    exact r_tl rc h1 ho 300 i' (-1) c _ _ rfl (by omega) rfl (Or.inl rfl) g2 (by rw [flu_len, if_pos rfl]; omega) hbad hok
end CRead2
