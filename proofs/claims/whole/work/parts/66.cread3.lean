/-! ===== text: the class reads ones, asks, laws ===== -/
section CRead3
variable {G : GG} {d : Nat} {m0 : MM} {cc E : Nat} {tk nb : Nat → Int} {ln : Int}
theorem r_o1 {x1 : Int} {deep : Nat → Outc} (rc : RC m0 cc E tk nb ln) (hln : ln = 18 ∨ ln = 21)
    (hd : ∀ (i L : Nat) (f : Nat → Int) (Q : MM → Prop), i < E → L ≤ i → (tk i = 32 ∨ tk i = 29) → (∀ ft j, deep i = .inl (ft, j) → ∀ m', FdM m0 cc E ft (m0 4 j) m' → Q m') → (∀ i' c, deep i = .inr (i', c) → Q (cs m0 cc i' L f c)) → N G (d + 2) mi_X2_readOne 100 [some (vr 2), some (vi x1), some (vi (tk i))] [] (cst m0 cc (i : Int) (L : Int) f) (RV Q)) :
    HOn G (d + 2) x1 m0 cc E (pO1 tk nb ln deep) := by
  intro i L f Q hi hL hbad hok
  have hE := rc.2.2.2.2.2.1
  obtain ⟨a1, a2, a3, a4, a5, a6⟩ := rc.at hi (L : Int) f
  refine g_X2_readOne_0 _ ⟨i, ⟨a1, a2⟩, ?_⟩
  rw [a3]
  unfold pO1 at hbad hok
  refine eqI (by omega) (fun z => ⟨cc, ⟨a4, rc.1⟩, ?_⟩) (fun z => ?_)
  · rw [if_pos z] at hbad hok
    have hl := rc.lt hi (by omega)
    refine r_num rc hi (by omega) (by omega) (fun _ z2 => ?_) (fun _ z2 m' hm => ?_) (fun z2 => absurd z z2)
    · rw [if_pos z2] at hok
      exact r_add (o := 0) (w := nb i) [] rc (by show L + 0 < 300; omega) (enc_0 _).symm (hok _ _ rfl)
    · rw [if_neg z2] at hbad
      exact f_add rc hm (hbad _ _ rfl)
  · rw [if_neg z] at hbad hok
    have e7 : cst m0 cc (i : Int) (L : Int) f 2 7 = ln := by rw [cst_2 rc.2.1 (by omega)]; exact rc.2.2.2.2.2.2.1
    -- neither number nor name
    have rest : ¬ (13 ≤ tk i ∧ tk i ≤ 21) → N G (d + 2) mi_X2_readOne 80 [some (vr 2), some (vi x1), some (vi (tk i))] [] (cst m0 cc (i : Int) (L : Int) f) (RV Q) := by
      intro zn
      rw [if_neg zn] at hbad hok
      refine g_X2_readOne_80 _ _ (eqI (by omega) (fun z2 => ?_) (fun z2 => eqI (by omega) (fun z3 => ?_) (fun z3 => ?_)))
      · rw [if_pos (Or.inl z2)] at hbad hok
        exact hd i L f Q (rc.lt hi (by omega)) hL (Or.inl z2) hbad hok
      · rw [if_pos (Or.inr z3)] at hbad hok
        exact hd i L f Q (rc.lt hi (by omega)) hL (Or.inr z3) hbad hok
      · rw [if_neg (by omega)] at hbad
        exact r_fail rc hi (by omega) (by omega) (hbad _ _ rfl)
    refine ltI (by omega) (fun z2 => rest (by omega)) (fun z2 => ltI (by omega) (fun z3 => rest (by omega)) (fun z3 => ?_))
    rw [if_pos (by omega)] at hbad hok
    have hl := rc.lt hi (by omega)
    rw [e7]
    refine leI (by omega) (fun z4 => ⟨cc, ⟨a4, rc.1⟩, ?_⟩) (fun z4 => ?_)
    · rw [if_pos z4] at hok
      refine r_sign (o := 1) (w := tk i - 13) (i := i) (L := L) (f := f) [] rc (by show L + 0 < 300; omega) (by rw [enc_1]; omega) (fun m5 q5 => ?_)
      have q5' : m5 = cs m0 cc (i + 1) L f [(1, tk i - 13)] := by
        rw [q5]
        unfold cs
        rw [cst_26, up_i]
        rfl
      rw [q5']
      exact hok _ _ rfl
    · rw [if_neg z4] at hbad
      exact r_fail rc hi (by omega) (by omega) (hbad _ _ rfl)
theorem r_one (rc : RC m0 cc E tk nb ln) (hln : ln = 18 ∨ ln = 21) : ∀ (r : Nat) (d : Nat) (x1 : Int), r ≤ 8 → x1 = 8 - (r : Int) → HOn G (d + 2 * r + 2) x1 m0 cc E (pOne tk nb ln r) := by
  have hE := rc.2.2.2.2.2.1
  have h36 : tk E = 36 := rc.2.2.2.2.2.2.2.2.2.2.2.1
  have hnb : ∀ i, i < E → tk i = 35 → 0 ≤ nb i := fun i hi _ => (rc.2.2.2.2.2.2.2.2.2.1 i hi).2.1
  intro r
  induction r with
  | zero =>
    intro d x1 _ hx
    exact r_o1 rc hln (fun i L f Q hi hL _ hbad hok => g_X2_readOne_100 _ _ (ltF (by omega) (r_fail rc (by omega) (by omega) (by omega) (hbad _ _ rfl))))
  | succ r ih =>
    intro d x1 hr hx
    refine r_o1 (d := d + 2 * (r + 1)) rc hln (fun i L f Q hi hL htk hbad hok => ?_)
    obtain ⟨a1, a2, a3, a4, a5, a6⟩ := rc.at (i := i) (by omega) (L : Int) f
    rw [show d + 2 * (r + 1) + 2 = (d + 2 * r + 3) + 1 by omega]
    refine g_X2_readOne_100 _ _ (ltT (by omega) (eqI (by omega) (fun z m7 q7 => ?_) (fun z m1 q1 => ?_)))
    · simp only [if_pos z] at hbad hok
      have q7' : m7 = cst m0 cc ((i + 1 : Nat) : Int) (L : Int) f := by rw [q7, cst_26, up_i]; rfl
      rw [q7']
      have g := pSm_gd h36 (fun j hj => pOne_gd (ln := ln) h36 hnb r j hj) (i + 1) (by omega)
      refine r_sum (d := d + 2 * r) rc (fun j hj => pOne_gd h36 hnb r j hj) (ih d (x1 + 1) (by omega) (by omega)) (i + 1) L f _ (by omega) (by omega) (fun ft j e m' hm => ?_) (fun i' c e => ?_)
      · rw [e] at hbad
        exact f_take rc hm (by omega) (hbad _ _ rfl)
      · rw [e] at g hbad hok
        obtain ⟨g1, g2, g3, g4, g5⟩ := g
        dsimp only at hbad hok
        refine r_take (f := wrt f L c) (L := L + c.length) rc g2 (by omega) (by omega) (fun z2 => ?_) (fun z2 m' hm => ?_)
        · rw [if_pos z2] at hok
          exact hok _ _ rfl
        · rw [if_neg z2] at hbad
          exact hbad _ _ rfl m' hm
    · simp only [if_neg z] at hbad hok
      have q1' : m1 = cst m0 cc ((i + 1 : Nat) : Int) (L : Int) f := by rw [q1, cst_26, up_i]; rfl
      rw [q1']
      have g := pOne_gd (ln := ln) h36 hnb r (i + 1) (by omega)
      refine ih (d + 1) (x1 + 1) (by omega) (by omega) (i + 1) L f _ (by omega) (by omega) (fun ft j e m' hm => ?_) (fun i' c e => ?_) |> cast (by rw [show d + 1 + 2 * r + 2 = d + 2 * r + 3 by omega])
      · rw [e] at hbad
        exact ⟨cc, ⟨(hm.tok rc).2.2.2, rc.1⟩, f_sign rc hm (hbad _ _ rfl)⟩
      · rw [e] at g hbad hok
        obtain ⟨g1, g2, g3, g4, g5⟩ := g
        exact ⟨cc, ⟨(rc.at g2 _ _).2.2.2.1, rc.1⟩, r_sign (o := 2) (w := 0) c rc (by omega) (by decide) (hok _ _ rfl)⟩
abbrev HAs (G : GG) (D : Nat) (x1 : Int) (m0 : MM) (cc E : Nat) (ask : Nat → Outc) : Prop := HRd G D mi_X2_readAsk [some (vr 2), some (vi x1), none] m0 cc E ask
theorem r_ask (rc : RC m0 cc E tk nb ln) (hln : ln = 18 ∨ ln = 21) : ∀ (r : Nat) (d : Nat) (x1 : Int), r ≤ 8 → x1 = 8 - (r : Int) → HAs G (d + 2 * r + 4) x1 m0 cc E (pAsk tk nb ln r) := by
  have hE := rc.2.2.2.2.2.1
  have h36 : tk E = 36 := rc.2.2.2.2.2.2.2.2.2.2.2.1
  have hnb : ∀ i, i < E → tk i = 35 → 0 ≤ nb i := fun i hi _ => (rc.2.2.2.2.2.2.2.2.2.1 i hi).2.1
  -- no 'not'
  have cmp : ∀ (r d : Nat) (x1 : Int) (i L : Nat) (f : Nat → Int) (Q : MM → Prop), r ≤ 8 → x1 = 8 - (r : Int) → i ≤ E → L ≤ i → tk i ≠ 12 → (∀ ft j, pCm (pSm (pOne tk nb ln r) tk) tk i = .inl (ft, j) → ∀ m', FdM m0 cc E ft (m0 4 j) m' → Q m') → (∀ i' c, pCm (pSm (pOne tk nb ln r) tk) tk i = .inr (i', c) → Q (cs m0 cc i' L f c)) → N G (d + 2 * r + 4) mi_X2_readAsk 0 [some (vr 2), some (vi x1), none] [] (cst m0 cc (i : Int) (L : Int) f) (RV Q) := by
    intro r d x1 i L f Q hr hx hi hL h12 hbad hok
    obtain ⟨a1, a2, a3, a4, a5, a6⟩ := rc.at hi (L : Int) f
    have sm := r_sum (d := d + 2 * r) rc (fun j hj => pOne_gd h36 hnb r j hj) (r_one (G := G) rc hln r d x1 hr hx)
    have gs := pSm_gd h36 (fun j hj => pOne_gd (ln := ln) h36 hnb r j hj)
    unfold pCm at hbad hok
    refine g_X2_readAsk_0 _ ⟨i, ⟨a1, a2⟩, ?_⟩
    rw [a3]
    refine eqF (by omega) (sm i L f _ hi hL (fun ft j e m' hm => ?_) (fun i1 c1 e => ?_))
    · rw [e] at hbad
      obtain ⟨u1, u2, u3, u4⟩ := hm.tok rc
      refine ⟨E, by omega, ?_⟩
      rw [u1]
      exact ltF (by omega) (leF (by omega) (g_X2_readAsk_80 (f_fail rc hm (hbad _ _ rfl))))
    · have g := gs i hi
      rw [e] at g hbad hok
      obtain ⟨g1, g2, g3, g4, g5⟩ := g
      dsimp only at hbad hok
      obtain ⟨b1, b2, b3, b4, b5, b6⟩ := rc.at g2 ((L + c1.length : Nat) : Int) (wrt f L c1)
      have b3' : cs m0 cc i1 L f c1 3 i1 = tk i1 := b3
      refine ⟨i1, ⟨b1, b2⟩, ?_⟩
      rw [b3']
      have bad : ¬ (22 ≤ tk i1 ∧ tk i1 ≤ 27) → N G (d + 2 * r + 4) mi_X2_readAsk 80 [some (vr 2), none, none] [] (cs m0 cc i1 L f c1) (RV Q) := by
        intro z
        rw [if_neg z] at hbad
        exact g_X2_readAsk_80 (r_fail (f := wrt f L c1) (L := L + c1.length) rc g2 (by omega) (by omega) (hbad _ _ rfl))
      refine ltI (by omega) (fun z => bad (by omega)) (fun z => leI (by omega) (fun z2 m5 q5 => ?_) (fun z2 => bad (by omega)))
      rw [if_pos (by omega)] at hbad hok
      have hl := rc.lt g2 (by omega)
      have q5' : m5 = cst m0 cc ((i1 + 1 : Nat) : Int) ((L + c1.length : Nat) : Int) (wrt f L c1) := by
        rw [q5]
        unfold cs
        rw [cst_26, up_i]
        rfl
      rw [q5']
      have g' := gs (i1 + 1) (by omega)
      refine sm (i1 + 1) (L + c1.length) (wrt f L c1) _ (by omega) (by omega) (fun ft j e2 m' hm => ?_) (fun i2 c2 e2 => ?_)
      · rw [e2] at hbad
        exact ⟨cc, ⟨(hm.tok rc).2.2.2, rc.1⟩, f_sign rc hm (hbad _ _ rfl)⟩
      · rw [cs_app]
        rw [e2] at g' hbad hok
        obtain ⟨k1, k2, k3, k4, k5⟩ := g'
        refine ⟨cc, ⟨(rc.at k2 _ _).2.2.2.1, rc.1⟩, r_sign (o := tk i1 - 12) (w := 0) (c1 ++ c2) rc (by rw [List.length_append]; omega) (by rw [enc_as (by omega)]) ?_⟩
        rw [List.append_assoc]
        exact hok _ _ rfl
  intro r
  induction r with
  | zero =>
    intro d x1 _ hx i L f Q hi hL hbad hok
    rw [pAsk] at hbad hok
    by_cases z : tk i = 12
    · obtain ⟨a1, a2, a3, a4, a5, a6⟩ := rc.at hi (L : Int) f
      simp only [if_pos z] at hbad
      refine g_X2_readAsk_0 _ ⟨i, ⟨a1, a2⟩, ?_⟩
      rw [a3]
      exact eqT (by omega) (ltF (by omega) (r_fail rc hi (by omega) (by omega) (hbad _ _ rfl)))
    · simp only [if_neg z] at hbad hok
      exact cmp 0 d x1 i L f Q (by omega) hx hi hL z hbad hok
  | succ r ih =>
    intro d x1 hr hx i L f Q hi hL hbad hok
    rw [pAsk] at hbad hok
    by_cases z : tk i = 12
    · obtain ⟨a1, a2, a3, a4, a5, a6⟩ := rc.at hi (L : Int) f
      simp only [if_pos z] at hbad hok
      have hl := rc.lt hi (by omega)
      rw [show d + 2 * (r + 1) + 4 = (d + 1 + 2 * r + 4) + 1 by omega]
      refine g_X2_readAsk_0 _ ⟨i, ⟨a1, a2⟩, ?_⟩
      rw [a3]
      refine eqT (by omega) (ltT (by omega) (fun m11 q11 => ?_))
      have q11' : m11 = cst m0 cc ((i + 1 : Nat) : Int) (L : Int) f := by rw [q11, cst_26, up_i]; rfl
      rw [q11']
      have g := pAsk_gd (ln := ln) h36 hnb r (i + 1) (by omega)
      refine ih (d + 1) (x1 + 1) (by omega) (by omega) (i + 1) L f _ (by omega) (by omega) (fun ft j e m' hm => ?_) (fun i' c e => ?_)
      · rw [e] at hbad
        exact ⟨cc, ⟨(hm.tok rc).2.2.2, rc.1⟩, f_sign rc hm (hbad _ _ rfl)⟩
      · rw [e] at g hbad hok
        obtain ⟨g1, g2, g3, g4, g5⟩ := g
        exact ⟨cc, ⟨(rc.at g2 _ _).2.2.2.1, rc.1⟩, r_sign (o := 20) (w := 0) c rc (by omega) (by decide) (hok _ _ rfl)⟩
    · simp only [if_neg z] at hbad hok
      exact cmp (r + 1) d x1 i L f Q hr hx hi hL z hbad hok
end CRead3
