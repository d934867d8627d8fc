/-! ===== text: the class reads a clause, whole ===== -/
section CRead6
variable {G : GG} {d : Nat} {m m0 : MM} {cc E : Nat} {tk nb : Nat → Int} {ln : Int}
theorem RC.set {b : Nat} {z ln' : Int} (rc : RC m0 cc E tk nb ln) (hb : b ≠ 0) (h7 : m0 2 7 = ln') : RC (upm m0 cc b z) cc E tk nb ln' := by
  obtain ⟨r1, r2, r3, r4, r5, r6, r7, r8, r9, r10, r11, r12, r13⟩ := rc
  exact ⟨r1, r2, by rw [upm_c (by omega)]; exact r3, by rw [upm_c (by omega)]; exact r4, by rw [upm_c (by omega)]; exact r5, r6, by rw [upm_c (by omega)]; exact h7, rfl, fun j hj => by rw [upm_c (by omega)]; exact r9 j hj, fun j hj => by rw [upm_c (by omega)]; exact r10 j hj, by rw [upm_j _ _ (Ne.symm hb)]; exact r11, r12, r13⟩
theorem RC.set7 {z : Int} (rc : RC m0 cc E tk nb ln) : RC (upm m0 2 7 z) cc E tk nb z := by
  obtain ⟨r1, r2, r3, r4, r5, r6, r7, r8, r9, r10, r11, r12, r13⟩ := rc
  exact ⟨r1, r2, by rw [upm_j _ _ (by omega)]; exact r3, by rw [upm_j _ _ (by omega)]; exact r4, by rw [upm_j _ _ (by omega)]; exact r5, r6, upm_at _ _ _ _, rfl, fun j hj => by rw [upm_c (by omega)]; exact r9 j hj, fun j hj => by rw [upm_c (by omega)]; exact r10 j hj, by rw [upm_c (by omega)]; exact r11, r12, r13⟩
/-- behind the law: where it ends, and its entry -/
def lwM (m0 : MM) (cc n : Nat) (ln : Int) (s : Nat) (L T : Int) : MM := adC (upm (upm (upm m0 2 7 ln) cc (6 + 2 * s) L) cc (7 + 2 * s) T) cc n (s : Int) (-1) (-1)
theorem r_sees {Q : MM → Prop} {i L : Nat} {f : Nat → Int} (rc : RC m0 cc E tk nb ln) (n : Nat) (hn : m0 cc 0 = (n : Int)) (h24 : n < 24) (hi : i ≤ E) (hL : L ≤ i) (hbad : ∀ ft j, pSees tk nb i = .inl (ft, j) → ∀ m', FdM (upm (upm m0 2 7 21) cc 6 (L : Int)) cc E ft (m0 4 j) m' → Q m') (hok : ∀ i' c, pSees tk nb i = .inr (i', c) → Q (cst (lwM m0 cc n 21 0 (L : Int) ((L + c.length : Nat) : Int)) cc (i' : Int) ((L + c.length : Nat) : Int) (wrt f L c))) : N G (d + 21) mi_X2_readSees 0 [some (vr 2), none, none, none] [] (cst m0 cc (i : Int) (L : Int) f) (RV Q) := by
  have hcc := rc.2.1
  have h36 : tk E = 36 := rc.2.2.2.2.2.2.2.2.2.2.2.1
  have hnb : ∀ i, i < E → tk i = 35 → 0 ≤ nb i := fun i hi _ => (rc.2.2.2.2.2.2.2.2.2.1 i hi).2.1
  have rc2 : RC (upm (upm m0 2 7 21) cc 6 (L : Int)) cc E tk nb 21 := rc.set7.set (by omega) (upm_at _ _ _ _)
  have h4 : ∀ j, upm (upm m0 2 7 21) cc 6 (L : Int) 4 j = m0 4 j := fun j => by rw [upm_c (by omega), upm_c (by omega)]
  have bad162 : ∀ ft j m', (∀ m'', FdM (upm (upm m0 2 7 21) cc 6 (L : Int)) cc E ft (m0 4 j) m'' → Q m'') → FdM (upm (upm m0 2 7 21) cc 6 (L : Int)) cc E ft (m0 4 j) m' → N G (d + 21) mi_X2_readSees 162 [some (vr 2), none, none, none] [] m' (RV Q) := by
    intro ft j m' nx hm
    have t4 := (hm.tok rc2).2.2.2
    refine g_X2_readSees_162 ⟨cc, ⟨t4, rc.1⟩, cc, ⟨t4, rc.1⟩, fun m3 q3 => ?_⟩
    obtain ⟨a1, a2, a3, a4, a5, a6, a7, a8⟩ := hm
    have hm3 : FdM (upm (upm m0 2 7 21) cc 6 (L : Int)) cc E ft (m0 4 j) m3 := by
      refine ⟨a1, by rw [q3, upm_c (by omega)]; exact a2, by rw [q3, upm_c (by omega)]; exact a3, by rw [q3, upm_c (by omega)]; exact a4, by rw [q3, upm_j _ _ (by omega)]; exact a5, by rw [q3, upm_j _ _ (by omega)]; exact a6, fun c c2 c3 => by rw [q3, upm_c (by omega)]; exact a7 c c2 c3, fun b b0 b1 b6 b7 => by rw [q3, upm_c (by omega)]; exact a8 b b0 b1 b6 b7⟩
    exact ⟨cc, ⟨(hm3.tok rc2).2.2.2, rc.1⟩, f_clause rc2 hm3 nx⟩
  refine g_X2_readSees_0 (fun m1 q1 => ?_)
  rw [up_b _ (by omega) (by omega) (by omega)] at q1
  have e8 : m1 2 8 = (cc : Int) := by rw [q1, cst_2 hcc (by omega), upm_j _ _ (by omega)]; exact rc.2.2.1
  refine ⟨cc, ⟨e8, rc.1⟩, cc, ⟨e8, rc.1⟩, fun m4 q4 => ?_⟩
  rw [q1, cst_c5 hcc, up_b _ (by omega) (by omega) (by omega)] at q4
  rw [q4]
  unfold pSees at hbad hok
  have g := pAsk_gd (ln := 21) h36 hnb 8 i hi
  refine r_ask (G := G) rc2 (Or.inr rfl) 8 d 0 (by omega) rfl i L f _ hi hL (fun ft j e m' hm => ?_) (fun i' c e => ?_)
  · rw [e] at hbad
    rw [h4 j] at hm
    have nx := hbad ft j rfl
    have nx2 := fun m'' (h : FdM (upm (upm m0 2 7 21) cc 6 (L : Int)) cc E ft (m0 4 j) m'') => bad162 ft j m'' nx h
    obtain ⟨t1, t2, t3, t4⟩ := hm.tok rc2
    refine g_X2_readSees_29 _ _ (leF (by omega) ⟨E, by omega, ?_⟩)
    rw [t1]
    refine eqF (by omega) ⟨E, by omega, ?_⟩
    rw [t1]
    exact eqF (by omega) (g_X2_readSees_149 _ (eqT (by omega) (nx2 m' hm)))
  · rw [e] at g hbad hok
    obtain ⟨g1, g2, g3, g4, g5⟩ := g
    dsimp only at hbad hok
    refine r_se rc2 300 i' false c _ _ rfl (by omega) rfl g2 (by show L + c.length + 0 ≤ i'; omega) (fun ft j e2 m' hm => ?_) (fun i2 c2 e2 => ?_)
    · rw [h4 j] at hm
      exact bad162 ft j m' (hbad ft j e2) hm
    · have nx := hok i2 c2 e2
      have e82 : cs (upm (upm m0 2 7 21) cc 6 (L : Int)) cc i2 L f c2 2 8 = (cc : Int) := by unfold cs; rw [cst_2 hcc (by omega)]; exact rc2.2.2.1
      refine g_X2_readSees_162 ⟨cc, ⟨e82, rc.1⟩, cc, ⟨e82, rc.1⟩, fun m3 q3 => ?_⟩
      unfold cs at q3
      rw [cst_c5 hcc, up_b _ (by omega) (by omega) (by omega)] at q3
      rw [q3]
      refine ⟨cc, ⟨by rw [cst_2 hcc (by omega), upm_c (by omega)]; exact rc2.2.2.1, rc.1⟩, r_clause n rc.1 hcc (by rw [upm_j _ _ (by omega), upm_j _ _ (by omega), upm_c (by omega)]; exact hn) h24 ?_⟩
      exact nx
theorem r_rubs {Q : MM → Prop} {i L : Nat} {f : Nat → Int} (rc : RC m0 cc E tk nb ln) (n : Nat) (hn : m0 cc 0 = (n : Int)) (h24 : n < 24) (hi : i ≤ E) (hL : L ≤ i) (hbad : ∀ ft j, pSm (pOne tk nb 18 8) tk i = .inl (ft, j) → ∀ m', FdM (upm (upm m0 2 7 18) cc 8 (L : Int)) cc E ft (m0 4 j) m' → Q m') (hok : ∀ i' c, pSm (pOne tk nb 18 8) tk i = .inr (i', c) → Q (cst (lwM m0 cc n 18 1 (L : Int) ((L + c.length : Nat) : Int)) cc (i' : Int) ((L + c.length : Nat) : Int) (wrt f L c))) : N G (d + 21) mi_X2_readRubs 0 [some (vr 2)] [] (cst m0 cc (i : Int) (L : Int) f) (RV Q) := by
  have hcc := rc.2.1
  have h36 : tk E = 36 := rc.2.2.2.2.2.2.2.2.2.2.2.1
  have hnb : ∀ i, i < E → tk i = 35 → 0 ≤ nb i := fun i hi _ => (rc.2.2.2.2.2.2.2.2.2.1 i hi).2.1
  have rc2 : RC (upm (upm m0 2 7 18) cc 8 (L : Int)) cc E tk nb 18 := rc.set7.set (by omega) (upm_at _ _ _ _)
  have h4 : ∀ j, upm (upm m0 2 7 18) cc 8 (L : Int) 4 j = m0 4 j := fun j => by rw [upm_c (by omega), upm_c (by omega)]
  refine g_X2_readRubs_0 (fun m1 q1 => ?_)
  rw [up_b _ (by omega) (by omega) (by omega)] at q1
  have e8 : m1 2 8 = (cc : Int) := by rw [q1, cst_2 hcc (by omega), upm_j _ _ (by omega)]; exact rc.2.2.1
  refine ⟨cc, ⟨e8, rc.1⟩, cc, ⟨e8, rc.1⟩, fun m4 q4 => ?_⟩
  rw [q1, cst_c5 hcc, up_b _ (by omega) (by omega) (by omega)] at q4
  rw [q4]
  have sm := r_sum (d := d + 17) rc2 (fun j hj => pOne_gd h36 hnb 8 j hj) (r_one (G := G) rc2 (Or.inl rfl) 8 (d + 1) 0 (by omega) rfl)
  refine sm i L f _ hi hL (fun ft j e m' hm => ?_) (fun i' c e => ?_)
  · rw [h4 j] at hm
    have nx := hbad ft j e
    have t4 := (hm.tok rc2).2.2.2
    refine ⟨cc, ⟨t4, rc.1⟩, cc, ⟨t4, rc.1⟩, fun m9 q9 => ?_⟩
    obtain ⟨a1, a2, a3, a4, a5, a6, a7, a8⟩ := hm
    have hm3 : FdM (upm (upm m0 2 7 18) cc 8 (L : Int)) cc E ft (m0 4 j) m9 := by
      refine ⟨a1, by rw [q9, upm_c (by omega)]; exact a2, by rw [q9, upm_c (by omega)]; exact a3, by rw [q9, upm_c (by omega)]; exact a4, by rw [q9, upm_j _ _ (by omega)]; exact a5, by rw [q9, upm_j _ _ (by omega)]; exact a6, fun c c2 c3 => by rw [q9, upm_c (by omega)]; exact a7 c c2 c3, fun b b0 b1 b6 b7 => by rw [q9, upm_c (by omega)]; exact a8 b b0 b1 b6 b7⟩
    exact ⟨cc, ⟨(hm3.tok rc2).2.2.2, rc.1⟩, f_clause rc2 hm3 nx⟩
  · have nx := hok i' c e
    have e82 : cs (upm (upm m0 2 7 18) cc 8 (L : Int)) cc i' L f c 2 8 = (cc : Int) := by unfold cs; rw [cst_2 hcc (by omega)]; exact rc2.2.2.1
    refine ⟨cc, ⟨e82, rc.1⟩, cc, ⟨e82, rc.1⟩, fun m9 q9 => ?_⟩
    unfold cs at q9
    rw [cst_c5 hcc, up_b _ (by omega) (by omega) (by omega)] at q9
    rw [q9]
    refine ⟨cc, ⟨by rw [cst_2 hcc (by omega), upm_c (by omega)]; exact rc2.2.2.1, rc.1⟩, r_clause n rc.1 hcc (by rw [upm_j _ _ (by omega), upm_j _ _ (by omega), upm_c (by omega)]; exact hn) h24 ?_⟩
    exact nx
theorem r_readClause {Q : MM → Prop} {x : Rds} {mB : MM} {f0 : Nat → Int} (hB : RC mB cc E tk nb ln) (hx : RdOK E x) (hs : SCl mB cc f0 m x) (hbad : ∀ ft j, pCl tk nb x = .inl (ft, j) → ∀ m', FdM mB cc E ft (mB 4 j) m' → Q m') (hok : ∀ y, pCl tk nb x = .inr y → ∀ m', SCl mB cc f0 m' y → Q m') : N G (d + 22) mi_X2_readClause 0 [some (vr 2), none, none] [] m (RV Q) := by
  have rc := hs.rc hB hx.2.1
  have hcc := rc.2.1
  have hE300 : E ≤ 300 := rc.2.2.2.2.2.1
  have h36 : tk E = 36 := rc.2.2.2.2.2.2.2.2.2.2.2.1
  have hnb : ∀ i, i < E → tk i = 35 → 0 ≤ nb i := fun i hi _ => (rc.2.2.2.2.2.2.2.2.2.1 i hi).2.1
  have t := rc.2.2.2.2.2.2.2.2.1 x.1 hx.1
  obtain ⟨s1, s2, s3, s4, s5, s6, s7, s8⟩ := hs
  have hs : SCl mB cc f0 m x := ⟨s1, s2, s3, s4, s5, s6, s7, s8⟩
  have hlen := hx.2.1
  have hcl := hx.2.2.1
  have hself : cst m cc (x.1 : Int) (x.2.2.1.length : Int) (wrt f0 0 x.2.2.1) = m := cst_self s5 s6 s7
  have f4 : ∀ j, m 4 j = mB 4 j := fun j => by rw [s1 4 (by omega) (by omega)]
  have hi := hx.1
  refine g_X2_readClause_0 ⟨x.1, ⟨s5, by omega⟩, ?_⟩
  rw [t.1]
  refine r_head hB hx hs rfl ?_
  have hr := pHead_rng (tk := tk) x
  unfold pCl at hbad hok
  refine eqI (by omega) (fun z m4 q4 => ?_) (fun z => ?_)
  · rw [if_neg (by omega)] at hbad hok
    have q4' : m4 = cst m cc ((x.1 + 1 : Nat) : Int) (x.2.2.1.length : Int) (wrt f0 0 x.2.2.1) := by
      rw [q4]
      have := up_i (m0 := m) (cc := cc) (i := (x.1 : Int)) (L := (x.2.2.1.length : Int)) (f := wrt f0 0 x.2.2.1) (m 2 6 + 1)
      rw [hself] at this
      rw [this, s5]
      rfl
    -- the head is a clause's
    have hz := z
    unfold pHead at hz
    split at hz
    · omega
    rename_i h6
    split at hz
    · omega
    rename_i h4
    split at hz
    · omega
    rename_i h24
    have hl : x.1 < E := rc.lt hi (by omega)
    have g := pBody_gd h36 hnb (s := tk x.1) (n := x.2.2.1.length) (i := x.1 + 1) ⟨t.2.1, by omega⟩ (by omega) x.2.2.1
    -- the end of the clause
    have stop : ∀ (m1 : MM) (e : Int × Int × Int) (i' : Nat) (c : Cde) (y2 y3 : Int), pBody tk nb (tk x.1) x.2.2.1.length (x.1 + 1) = .inr (i', e, c) → RC m1 cc E tk nb (m1 2 7) → (∀ a, a ≠ 2 → a ≠ cc → a ≠ cc + 1 → a ≠ cc + 2 → a ≠ cc + 3 → m1 a = m a) → (∀ b, b ≠ 7 → m1 2 b = m 2 b) → m1 cc 0 = (x.2.1.length : Int) + 1 → (∀ q, m1 (cc + 1) q = if q = x.2.1.length then dd e.1 else m (cc + 1) q) → (∀ q, m1 (cc + 2) q = if q = x.2.1.length then y2 else m (cc + 2) q) → (∀ q, m1 (cc + 3) q = if q = x.2.1.length then y3 else m (cc + 3) q) → (2 ≤ e.1 → y2 = e.2.1 ∧ y3 = if e.1 = 4 ∨ e.1 = 6 then -1 else e.2.2) → (if e.1 = 0 then m1 cc 6 = e.2.1 ∧ m1 cc 7 = e.2.2 ∧ 0 ≤ e.2.1 ∧ e.2.1 ≤ 300 else m1 cc 6 = m cc 6 ∧ m1 cc 7 = m cc 7) → (if e.1 = 1 then m1 cc 8 = e.2.1 ∧ m1 cc 9 = e.2.2 ∧ 0 ≤ e.2.1 ∧ e.2.1 ≤ 300 else m1 cc 8 = m cc 8 ∧ m1 cc 9 = m cc 9) →
        N G (d + 22) mi_X2_readClause 149 [some (vr 2), none, none] [] (cst m1 cc (i' : Int) (((x.2.2.1 ++ c).length : Nat) : Int) (wrt f0 0 (x.2.2.1 ++ c))) (RV Q) := by
      intro m1 e i' c y2 y3 eb rc1 hfr h2 h0 hd1 hd2 hd3 hy hse hru
      rw [eb] at g hbad hok
      obtain ⟨g1, g2, g3, g4, g5⟩ := g
      dsimp only at hbad hok
      refine g_X2_readClause_149 (r_take rc1 g2 (by rw [List.length_append]; omega) (by omega) (fun z2 => ?_) (fun z2 m' hm => ?_))
      · rw [if_pos z2] at hok
        have ext := SCl.ext (i' := i') hcc hs e c y2 y3 hfr h2 h0 hd1 hd2 hd3 hy (by
          by_cases q : e.1 = 0
          · rw [if_pos q] at hse ⊢
            have hsf : x.2.2.2.1 = false := by
              cases hb : x.2.2.2.1 with
              | false => rfl
              | true => exact absurd (Or.inl ⟨by rw [← g4]; exact q, hb⟩) h4
            refine ⟨hsf, fun e' he' q' => ?_, hse⟩
            have := hx.2.2.2.2.1.mpr ⟨e', he', q'⟩
            rw [hsf] at this; cases this
          · rw [if_neg q] at hse ⊢; exact hse) (by
          by_cases q : e.1 = 1
          · rw [if_pos q] at hru ⊢
            have hsf : x.2.2.2.2 = false := by
              cases hb : x.2.2.2.2 with
              | false => rfl
              | true => exact absurd (Or.inr ⟨by rw [← g4]; exact q, hb⟩) h4
            refine ⟨hsf, fun e' he' q' => ?_, hru⟩
            have := hx.2.2.2.2.2.mpr ⟨e', he', q'⟩
            rw [hsf] at this; cases this
          · rw [if_neg q] at hru ⊢; exact hru)
        rw [g4] at ext
        exact hok _ rfl _ ext
      · rw [if_neg z2] at hbad
        have e4 : m1 4 i' = mB 4 i' := by rw [hfr 4 (by omega) (by omega) (by omega) (by omega) (by omega)]; exact f4 i'
        rw [e4] at hm
        refine hbad _ _ rfl m' (hm.rb (fun c' c2 c3 => ?_) (fun b b0 b1 b6 b7 => ?_))
        · rw [hfr c' c2 (by omega) (by omega) (by omega) (by omega)]; exact s1 c' c2 c3
        · rw [h2 b b7]; exact s2 b b0 b1 b6 b7
    -- failed in the body
    have badT : ∀ (mm m' : MM) (ft : Int) (j : Nat), pBody tk nb (tk x.1) x.2.2.1.length (x.1 + 1) = .inl (ft, j) → RC mm cc E tk nb (mm 2 7) → (∀ c, c ≠ 2 → (c < cc ∨ cc + 5 ≤ c) → mm c = m c) → (∀ b, b ≠ 7 → mm 2 b = m 2 b) → FdM mm cc E ft (m 4 j) m' → N G (d + 22) mi_X2_readClause 149 [some (vr 2), none, none] [] m' (RV Q) := by
      intro mm m' ft j eb rc1 hfr h2 hm
      rw [eb] at hbad
      refine g_X2_readClause_149 (f_take rc1 hm (by omega) (fun m2 hm2 => hbad ft j rfl m2 ?_))
      rw [← f4 j]
      exact hm2.rb (fun c c2 c3 => (hfr c c2 c3).trans (s1 c c2 c3)) (fun b b0 b1 b6 b7 => (h2 b b7).trans (s2 b b0 b1 b6 b7))
    have hnil : x.2.2.1 ++ ([] : Cde) = x.2.2.1 := List.append_nil _
    -- a deed of two numbers
    have deed : ∀ (link top : Int), (rng link ∧ link ≠ 36) → rng top → pBody tk nb (tk x.1) x.2.2.1.length (x.1 + 1) = pDeed tk nb (tk x.1) link top (x.1 + 1) → 2 ≤ tk x.1 → tk x.1 ≠ 4 → tk x.1 ≠ 6 → N G (d + 21) mi_X2_readDeed 0 [some (vr 2), some (vi (tk x.1)), some (vi link), some (vi top), none, none] [] m4 (RV fun m6 => N G (d + 22) mi_X2_readClause 149 [some (vr 2), none, none] [] m6 (RV Q)) := by
      intro link top hk ht eb ge2 n4 n6
      rw [q4']
      refine r_deed rc x.2.1.length s8.1 (by omega) (by omega) (by omega) hk ht (fun ft j e m' hm => badT m m' ft j (eb.trans e) rc (fun _ _ _ => rfl) (fun _ _ => rfl) hm) (fun i' e c ed => ?_)
      have e1 : e.1 = tk x.1 := by
        rw [eb, ed] at g
        exact g.2.2.2.1
      have ec : c = [] := by
        unfold pDeed at ed
        split at ed
        · cases ed
        · split at ed
          · split at ed
            · cases ed
            · cases ed; rfl
          · cases ed
      subst ec
      have := stop (adC m cc x.2.1.length (tk x.1) e.2.1 e.2.2) e i' [] e.2.1 e.2.2 (eb.trans ed) ?_ (fun a a2 a3 a4 a5 a6 => adC_o _ _ _ _ _ _ a3 a4 a5 a6) (fun b _ => by rw [adC_o _ _ _ _ _ _ (by omega) (by omega) (by omega) (by omega)]) (adC_0 _ _ _ _ _ _) (fun q => by rw [adC_d1, e1]; unfold dd; rw [if_neg n4]) (fun q => adC_d2 _ _ _ _ _ _ q) (fun q => adC_d3 _ _ _ _ _ _ q) (fun _ => ⟨rfl, by rw [if_neg (by omega)]⟩) (by rw [if_neg (by omega), adC_c _ _ _ _ _ _ (by omega), adC_c _ _ _ _ _ _ (by omega)]; exact ⟨rfl, rfl⟩) (by rw [if_neg (by omega), adC_c _ _ _ _ _ _ (by omega), adC_c _ _ _ _ _ _ (by omega)]; exact ⟨rfl, rfl⟩)
      · rw [hnil] at this
        exact this
      · obtain ⟨r1, r2, r3, r4, r5, r6, r7, r8, r9, r10, r11, r12, r13⟩ := rc
        have o : ∀ a, a < 284 → adC m cc x.2.1.length (tk x.1) e.2.1 e.2.2 a = m a := fun a ha => adC_o _ _ _ _ _ _ (by omega) (by omega) (by omega) (by omega)
        exact ⟨r1, r2, by rw [o 2 (by omega)]; exact r3, by rw [o 2 (by omega)]; exact r4, by rw [o 2 (by omega)]; exact r5, r6, rfl, rfl, fun j hj => by rw [o 3 (by omega)]; exact r9 j hj, fun j hj => by rw [o 5 (by omega)]; exact r10 j hj, by rw [adC_0]; omega, r12, r13⟩
    -- one number
    have single : (tk x.1 = 4 ∨ tk x.1 = 6) → N G (d + 22) mi_X2_readClause 124 [some (vr 2), some (vi (tk x.1)), none] [] m4 (RV Q) := by
      intro h46
      have eb : pBody tk nb (tk x.1) x.2.2.1.length (x.1 + 1) = pSingle tk nb (tk x.1) (x.1 + 1) := by
        unfold pBody
        rw [if_neg (by omega), if_neg (by omega), if_neg (by omega), if_neg (by omega), if_neg (by omega)]
      have e8 : m4 2 8 = (cc : Int) := by rw [q4', cst_2 hcc (by omega)]; exact rc.2.2.1
      have at139 : ∀ s0 : Int, s0 = dd (tk x.1) → N G (d + 22) mi_X2_readClause 139 [some (vr 2), none, none] [vi s0, vr cc] m4 (RV Q) := by
        intro s0 hs0
        rw [q4']
        unfold pSingle pNum at eb
        refine g_X2_readClause_139 s0 cc rc.1 (r_num rc (i := x.1 + 1) (by omega) (by omega) (by omega) (fun z1 z2 => ?_) (fun z1 z2 m' hm => ?_) (fun z1 m' hm => ?_))
        · rw [if_pos z1, if_pos z2] at eb
          dsimp only at eb
          refine r_clause x.2.1.length rc.1 hcc s8.1 (by omega) ?_
          have := stop (adC m cc x.2.1.length s0 (nb (x.1 + 1)) (-1)) (tk x.1, nb (x.1 + 1), 0) (x.1 + 1 + 1) [] (nb (x.1 + 1)) (-1) eb ?_ (fun a a2 a3 a4 a5 a6 => adC_o _ _ _ _ _ _ a3 a4 a5 a6) (fun b _ => by rw [adC_o _ _ _ _ _ _ (by omega) (by omega) (by omega) (by omega)]) (adC_0 _ _ _ _ _ _) (fun q => by rw [adC_d1, hs0]) (fun q => adC_d2 _ _ _ _ _ _ q) (fun q => adC_d3 _ _ _ _ _ _ q) (fun _ => ⟨rfl, by rw [if_pos h46]⟩) (by rw [if_neg (show ¬ tk x.1 = 0 by omega), adC_c _ _ _ _ _ _ (by omega), adC_c _ _ _ _ _ _ (by omega)]; exact ⟨rfl, rfl⟩) (by rw [if_neg (show ¬ tk x.1 = 1 by omega), adC_c _ _ _ _ _ _ (by omega), adC_c _ _ _ _ _ _ (by omega)]; exact ⟨rfl, rfl⟩)
          · rw [hnil] at this
            exact this
          · obtain ⟨r1, r2, r3, r4, r5, r6, r7, r8, r9, r10, r11, r12, r13⟩ := rc
            have o : ∀ a, a < 284 → adC m cc x.2.1.length s0 (nb (x.1 + 1)) (-1) a = m a := fun a ha => adC_o _ _ _ _ _ _ (by omega) (by omega) (by omega) (by omega)
            exact ⟨r1, r2, by rw [o 2 (by omega)]; exact r3, by rw [o 2 (by omega)]; exact r4, by rw [o 2 (by omega)]; exact r5, r6, rfl, rfl, fun j hj => by rw [o 3 (by omega)]; exact r9 j hj, fun j hj => by rw [o 5 (by omega)]; exact r10 j hj, by rw [adC_0]; omega, r12, r13⟩
        · rw [if_pos z1, if_neg z2] at eb
          exact f_clause rc hm (fun m2 hm2 => badT m m2 _ _ eb rc (fun _ _ _ => rfl) (fun _ _ => rfl) hm2)
        · rw [if_neg z1] at eb
          exact f_clause rc hm (fun m2 hm2 => badT m m2 _ _ eb rc (fun _ _ _ => rfl) (fun _ _ => rfl) hm2)
      refine g_X2_readClause_124 _ ⟨cc, ⟨e8, rc.1⟩, eqI (by omega) (fun z2 => at139 3 (by unfold dd; rw [if_pos z2])) (fun z2 => at139 6 (by unfold dd; rw [if_neg z2]; omega))⟩
    -- a law's memory
    have lawRC : ∀ (lnn : Int) (s : Nat) (Lx Tx : Int), RC (lwM m cc x.2.1.length lnn s Lx Tx) cc E tk nb (lwM m cc x.2.1.length lnn s Lx Tx 2 7) := by
      intro lnn s Lx Tx
      obtain ⟨r1, r2, r3, r4, r5, r6, r7, r8, r9, r10, r11, r12, r13⟩ := rc
      have o : ∀ a, a < 284 → a ≠ 2 → lwM m cc x.2.1.length lnn s Lx Tx a = m a := fun a ha h2 => by unfold lwM; rw [adC_o _ _ _ _ _ _ (by omega) (by omega) (by omega) (by omega), upm_c (by omega), upm_c (by omega), upm_c h2]
      have o2 : ∀ b, b ≠ 7 → lwM m cc x.2.1.length lnn s Lx Tx 2 b = m 2 b := fun b hb => by unfold lwM; rw [adC_o _ _ _ _ _ _ (by omega) (by omega) (by omega) (by omega), upm_c (by omega), upm_c (by omega), upm_j _ _ hb]
      exact ⟨r1, r2, by rw [o2 8 (by omega)]; exact r3, by rw [o2 0 (by omega)]; exact r4, by rw [o2 5 (by omega)]; exact r5, r6, rfl, rfl, fun j hj => by rw [o 3 (by omega) (by omega)]; exact r9 j hj, fun j hj => by rw [o 5 (by omega) (by omega)]; exact r10 j hj, by unfold lwM; rw [adC_0]; omega, r12, r13⟩
    have law : ∀ (lnn : Int) (s : Nat) (i' : Nat) (c : Cde), (s = 0 ∨ s = 1) → tk x.1 = (s : Int) → pBody tk nb (tk x.1) x.2.2.1.length (x.1 + 1) = .inr (i', ((s : Int), (x.2.2.1.length : Int), ((x.2.2.1.length + c.length : Nat) : Int)), c) → N G (d + 22) mi_X2_readClause 149 [some (vr 2), none, none] [] (cst (lwM m cc x.2.1.length lnn s (x.2.2.1.length : Int) ((x.2.2.1.length + c.length : Nat) : Int)) cc (i' : Int) ((x.2.2.1.length + c.length : Nat) : Int) (wrt (wrt f0 0 x.2.2.1) x.2.2.1.length c)) (RV Q) := by
      intro lnn s i' c hs01 etk eb
      have cell : ∀ b, b ≠ 0 → lwM m cc x.2.1.length lnn s (x.2.2.1.length : Int) ((x.2.2.1.length + c.length : Nat) : Int) cc b = if b = 7 + 2 * s then ((x.2.2.1.length + c.length : Nat) : Int) else if b = 6 + 2 * s then (x.2.2.1.length : Int) else m cc b := by
        intro b hb
        unfold lwM
        rw [adC_c _ _ _ _ _ _ hb]
        by_cases q : b = 7 + 2 * s
        · rw [if_pos q, q, upm_at]
        · rw [if_neg q, upm_j _ _ q]
          by_cases q2 : b = 6 + 2 * s
          · rw [if_pos q2, q2, upm_at]
          · rw [if_neg q2, upm_j _ _ q2, upm_c (by omega)]
      have := stop (lwM m cc x.2.1.length lnn s (x.2.2.1.length : Int) ((x.2.2.1.length + c.length : Nat) : Int)) _ i' c (-1) (-1) eb (lawRC lnn s _ _) (fun a a2 a3 a4 a5 a6 => by unfold lwM; rw [adC_o _ _ _ _ _ _ a3 a4 a5 a6, upm_c a3, upm_c a3, upm_c a2]) (fun b hb => by unfold lwM; rw [adC_o _ _ _ _ _ _ (by omega) (by omega) (by omega) (by omega), upm_c (by omega), upm_c (by omega), upm_j _ _ hb]) (by unfold lwM; rw [adC_0]) (fun q => by unfold lwM; rw [adC_d1, upm_c (by omega), upm_c (by omega), upm_c (by omega)]; unfold dd; rw [if_neg (show ¬ (s : Int) = 4 by omega)]) (fun q => by unfold lwM; rw [adC_d2, upm_c (by omega), upm_c (by omega), upm_c (by omega)]) (fun q => by unfold lwM; rw [adC_d3, upm_c (by omega), upm_c (by omega), upm_c (by omega)]) (fun h => by exfalso; have h : 2 ≤ (s : Int) := h; omega) ?_ ?_
      · rw [List.length_append, wrt_app, Nat.zero_add] at this
        exact this
      · rw [cell 6 (by omega), cell 7 (by omega)]
        rcases hs01 with rfl | rfl
        · rw [if_pos rfl]
          exact ⟨rfl, rfl, by show (0 : Int) ≤ (x.2.2.1.length : Int); omega, by show (x.2.2.1.length : Int) ≤ 300; omega⟩
        · rw [if_neg (by show ¬ (1 : Int) = 0; omega)]
          exact ⟨rfl, rfl⟩
      · rw [cell 8 (by omega), cell 9 (by omega)]
        rcases hs01 with rfl | rfl
        · rw [if_neg (by show ¬ (0 : Int) = 1; omega)]
          exact ⟨rfl, rfl⟩
        · rw [if_pos rfl]
          exact ⟨rfl, rfl, by show (0 : Int) ≤ (x.2.2.1.length : Int); omega, by show (x.2.2.1.length : Int) ≤ 300; omega⟩
    refine ⟨by omega, fun e => ?_, fun e => ?_, fun e => ?_, fun e => ?_, fun e => single (Or.inl e), fun e => ?_, fun e => single (by omega)⟩
    · have eb : pBody tk nb (tk x.1) x.2.2.1.length (x.1 + 1) = pLaw 0 x.2.2.1.length (pSees tk nb (x.1 + 1)) := by unfold pBody; rw [if_pos e]
      rw [q4']
      refine r_sees rc x.2.1.length s8.1 (by omega) (by omega) (by omega) (fun ft j e2 m' hm => ?_) (fun i' c e2 => law 21 0 i' c (Or.inl rfl) e (by rw [eb, e2]; rfl))
      refine badT _ m' ft j (by rw [eb, e2]; rfl) (rc.set7.set (by omega) (congrFun (upm_c (by omega)) 7).symm) (fun c c2 c3 => by rw [upm_c (by omega), upm_c c2]) (fun b hb => by rw [upm_c (by omega), upm_j _ _ hb]) hm |> fun h => h
    · have eb : pBody tk nb (tk x.1) x.2.2.1.length (x.1 + 1) = pLaw 1 x.2.2.1.length (pSm (pOne tk nb 18 8) tk (x.1 + 1)) := by unfold pBody; rw [if_neg (by omega), if_pos e]
      rw [q4']
      refine r_rubs rc x.2.1.length s8.1 (by omega) (by omega) (by omega) (fun ft j e2 m' hm => ?_) (fun i' c e2 => law 18 1 i' c (Or.inr rfl) e (by rw [eb, e2]; rfl))
      refine badT _ m' ft j (by rw [eb, e2]; rfl) (rc.set7.set (by omega) (congrFun (upm_c (by omega)) 7).symm) (fun c c2 c3 => by rw [upm_c (by omega), upm_c c2]) (fun b hb => by rw [upm_c (by omega), upm_j _ _ hb]) hm |> fun h => h
    · have := deed 7 5 (by omega) (by omega) (by unfold pBody; rw [if_neg (by omega), if_neg (by omega), if_pos e, e]) (by omega) (by omega) (by omega)
      rw [e] at this; exact this
    · have := deed 8 5 (by omega) (by omega) (by unfold pBody; rw [if_neg (by omega), if_neg (by omega), if_neg (by omega), if_pos e, e]) (by omega) (by omega) (by omega)
      rw [e] at this; exact this
    · have := deed 9 7 (by omega) (by omega) (by unfold pBody; rw [if_neg (by omega), if_neg (by omega), if_neg (by omega), if_neg (by omega), if_pos e, e]) (by omega) (by omega) (by omega)
      rw [e] at this; exact this
  · rw [if_pos (by omega)] at hbad
    have hb := hbad _ _ rfl
    rw [← hself]
    refine r_fail rc hi (by omega) (by omega) (fun m' hm => hb m' ?_)
    rw [← f4]
    exact hm.rb s1 s2
end CRead6
