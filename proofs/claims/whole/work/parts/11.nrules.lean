/-! ===== the everyday judgement: both objects stand, nothing is made ===== -/
abbrev MM : Type := Nat → Nat → Int
abbrev N (G : GG) (d : Nat) (mi : MI) (pc : Nat) (lv : List (Option PV)) (st : List PV) (m : MM) (Q : Option PV → Nat → Mem → Prop) : Prop := V G d (64 * d) 0 0 mi pc lv st KK (m, SR m) (ZQ G Q)
def RI (k : Int → MM → Prop) : Option PV → Nat → Mem → Prop := fun r K M => ∃ (z : Int) (m : MM), r = some (vi z) ∧ K = KK ∧ M = (m, SR m) ∧ k z m
def RJG (k : Int → MM → Prop) : Option PV → Nat → Mem → Prop := fun r K M => ∃ (z : Int) (m : MM), r = some (vl z) ∧ K = KK ∧ M = (m, SR m) ∧ k z m
def RV (k : MM → Prop) : Option PV → Nat → Mem → Prop := fun r K M => ∃ m : MM, r = none ∧ K = KK ∧ M = (m, SR m) ∧ k m
theorem shL_len : shL.length = 318 := by decide +kernel
theorem sh_o {o ci : Nat} (h : SH o = .inr ci) : o < KK := by
  by_cases q : o < KK
  · exact q
  · unfold SH at h
    rw [List.getElem?_eq_none (by rw [shL_len]; exact Nat.not_lt.mp q)] at h
    cases h
theorem sh_a {o n : Nat} {ty : FieldType} (h : SH o = .inl (ty, n)) (hn : 0 < n) : o < KK := by
  by_cases q : o < KK
  · exact q
  · unfold SH at h
    rw [List.getElem?_eq_none (by rw [shL_len]; exact Nat.not_lt.mp q)] at h
    cases h
    omega
theorem sh2 : SH 2 = .inr 2 := by decide +kernel
theorem sh11 : SH 11 = .inl (.object "GlassEyes$Script", 4) := by decide +kernel
theorem sh21 : SH 21 = .inl (.object "GlassEyes$Court", 30) := by decide +kernel
theorem sh151 : SH 151 = .inl (.object "GlassEyes$Court", 30) := by decide +kernel
theorem SR_up {m : MM} {c k : Nat} {z : Int} (h : ¬ (c = 2 ∧ k = 8)) : SR (upm m c k z) = SR m := by
  funext a b
  unfold SR
  have e : upm m c k z 2 8 = m 2 8 := by
    unfold upm
    rw [if_neg (fun q => h ⟨q.1.symm, q.2.symm⟩)]
  rw [e]
theorem SR_cp {m : MM} {c0 sp c1 dp n : Nat} (h : c1 ≠ 2) : SR (cpm m c0 sp c1 dp n) = SR m := by
  funext a b
  unfold SR
  have e : cpm m c0 sp c1 dp n 2 8 = m 2 8 := by
    unfold cpm
    rw [if_neg (fun q => h q.1.symm)]
  rw [e]
theorem ne_o {o ci k : Nat} (hs : SH o = .inr ci) (ht : isR (TYF ci k) = false) : ¬ (o = 2 ∧ k = 8) := by
  rintro ⟨rfl, rfl⟩
  rw [sh2] at hs
  cases hs
  cases ht
theorem ne_a {o k n : Nat} {ty : FieldType} (hs : SH o = .inl (ty, n)) : ¬ (o = 2 ∧ k = 8) := by
  rintro ⟨rfl, -⟩
  rw [sh2] at hs
  cases hs
theorem SR_o {m : MM} {c ci k o : Nat} (hs : SH c = .inr ci) (ho : OFF ci k = some o) (hn : ¬ (c = 2 ∧ k = 8)) : SR m c k = some (c + o) := by
  unfold SR
  rw [if_neg (fun q => by rw [q, sh11] at hs; cases hs), if_neg (fun q => by rw [q, sh21] at hs; cases hs), if_neg (fun q => by rw [q, sh151] at hs; cases hs), if_neg hn, hs]
  show (OFF ci k).map (c + ·) = _
  rw [ho]
  rfl
/-- the memory may be told otherwise where no cell looks -/
theorem Rep.as {G : GG} {K : Nat} {M M' : Mem} {H : Heap} (h : Rep G K M H) (e : ∀ j, cellE G M' j = cellE G M j) : Rep G K M' H := by
  have e1 : cw G K M' = cw G K M := by
    unfold cw
    apply List.map_congr_left
    intro j _
    rw [e j]
  exact ⟨h.1, by rw [e1]; exact h.2⟩
theorem V.as {G : GG} {fr lo bc bs : Nat} {mi : MI} {pc : Nat} {lv : List (Option PV)} {st : List PV} {K : Nat} {M M' : Mem} {Z : ZZ} (e : ∀ j, cellE G M' j = cellE G M j) (h : V G fr lo bc bs mi pc lv st K M' Z) : V G fr lo bc bs mi pc lv st K M Z :=
  fun p e' s m args below meth c mc ms H locs ls cells slots C hR hS hL hE h1 h2 => h p e' s m args below meth c mc ms H locs ls cells slots C (hR.as e) hS hL hE h1 h2
section GeN
variable {G : GG} {d : Nat} {mi : MI} {pc : Nat} {lv : List (Option PV)} {st : List PV} {m : MM} {Q : Option PV → Nat → Mem → Prop}
theorem n_geti {i ci k o : Nat} (hd : decode mi.2.1 pc = .ok (.getfield i, 3)) (hf : fldOK mi.1.cls i ci k) (hs : SH o = .inr ci) (ht : isI (TYF ci k) = true) (kk : N G d mi (pc + 3) lv (vi (m o k) :: st) m Q) : N G d mi pc lv (vr o :: st) m Q := v_geti hd hf hs (sh_o hs) ht kk
theorem n_getl {i ci k o : Nat} (hd : decode mi.2.1 pc = .ok (.getfield i, 3)) (hf : fldOK mi.1.cls i ci k) (hs : SH o = .inr ci) (ht : TYF ci k = .long) (kk : N G d mi (pc + 3) lv (vl (m o k) :: st) m Q) : N G d mi pc lv (vr o :: st) m Q := v_getl hd hf hs (sh_o hs) ht kk
theorem n_getr {i ci k o t : Nat} (hd : decode mi.2.1 pc = .ok (.getfield i, 3)) (hf : fldOK mi.1.cls i ci k) (hs : SH o = .inr ci) (ht : isR (TYF ci k) = true) (hr : SR m o k = some t) (kk : N G d mi (pc + 3) lv (vr t :: st) m Q) : N G d mi pc lv (vr o :: st) m Q := v_getr hd hf hs (sh_o hs) ht hr kk
theorem n_puti {i ci k o : Nat} {z : Int} (hd : decode mi.2.1 pc = .ok (.putfield i, 3)) (hf : fldW mi.1.cls i ci k) (hs : SH o = .inr ci) (ht : TYF ci k = .int) (kk : N G d mi (pc + 3) lv st (upm m o k z) Q) : N G d mi pc lv (vi z :: vr o :: st) m Q := by
  refine v_puti hd hf hs (sh_o hs) ht ?_
  have h : V G d (64 * d) 0 0 mi (pc + 3) lv st KK (upm m o k z, SR (upm m o k z)) (ZQ G Q) := kk
  rw [SR_up (ne_o hs (by rw [ht]; rfl))] at h
  exact h
theorem n_putz {i ci k o : Nat} {z : Int} (hd : decode mi.2.1 pc = .ok (.putfield i, 3)) (hf : fldW mi.1.cls i ci k) (hs : SH o = .inr ci) (ht : TYF ci k = .boolean) (hz : z = 0 ∨ z = 1) (kk : N G d mi (pc + 3) lv st (upm m o k z) Q) : N G d mi pc lv (vi z :: vr o :: st) m Q := by
  refine v_putz hd hf hs (sh_o hs) ht hz ?_
  have h : V G d (64 * d) 0 0 mi (pc + 3) lv st KK (upm m o k z, SR (upm m o k z)) (ZQ G Q) := kk
  rw [SR_up (ne_o hs (by rw [ht]; rfl))] at h
  exact h
theorem n_putl {i ci k o : Nat} {z : Int} (hd : decode mi.2.1 pc = .ok (.putfield i, 3)) (hf : fldW mi.1.cls i ci k) (hs : SH o = .inr ci) (ht : TYF ci k = .long) (kk : N G d mi (pc + 3) lv st (upm m o k z) Q) : N G d mi pc lv (vl z :: vr o :: st) m Q := by
  refine v_putl hd hf hs (sh_o hs) ht ?_
  have h : V G d (64 * d) 0 0 mi (pc + 3) lv st KK (upm m o k z, SR (upm m o k z)) (ZQ G Q) := kk
  rw [SR_up (ne_o hs (by rw [ht]; rfl))] at h
  exact h
/-- Reader.script -/
theorem n_puts {i t : Nat} (hd : decode mi.2.1 pc = .ok (.putfield i, 3)) (hf : fldW mi.1.cls i 2 8) (kk : N G d mi (pc + 3) lv st (upm m 2 8 (t : Int)) Q) : N G d mi pc lv (vr t :: vr 2 :: st) m Q := by
  refine v_putr hd hf sh2 (by decide) rfl ?_
  refine V.as (fun j => ?_) kk
  by_cases hj : j = 2
  · subst hj
    unfold cellE
    rw [sh2]
    show Sum.inr (2, _) = Sum.inr (2, _)
    congr 2
  · refine cell_ne (fun b => by simp [upm, hj]) (fun b => ?_)
    show SR (upm m 2 8 (t : Int)) j b = upr (SR m) 2 8 (some t) j b
    simp [SR, upr, hj]
theorem n_iald {o n j : Nat} {z : Int} (hd : decode mi.2.1 pc = .ok (.iaload, 1)) (hs : SH o = .inl (.int, n)) (hz : z = (j : Int)) (hj : j < n) (kk : N G d mi (pc + 1) lv (vi (m o j) :: st) m Q) : N G d mi pc lv (vi z :: vr o :: st) m Q := v_iald hd hs (sh_a hs (by omega)) hz hj kk
theorem n_bald {o n j : Nat} {z : Int} (hd : decode mi.2.1 pc = .ok (.baload, 1)) (hs : SH o = .inl (.byte, n)) (hz : z = (j : Int)) (hj : j < n) (kk : N G d mi (pc + 1) lv (vi (m o j) :: st) m Q) : N G d mi pc lv (vi z :: vr o :: st) m Q := v_bald hd hs (sh_a hs (by omega)) hz hj kk
theorem n_zald {o n j : Nat} {z : Int} (hd : decode mi.2.1 pc = .ok (.baload, 1)) (hs : SH o = .inl (.boolean, n)) (hz : z = (j : Int)) (hj : j < n) (kk : N G d mi (pc + 1) lv (vi (m o j) :: st) m Q) : N G d mi pc lv (vi z :: vr o :: st) m Q := v_zald hd hs (sh_a hs (by omega)) hz hj kk
theorem n_lald {o n j : Nat} {z : Int} (hd : decode mi.2.1 pc = .ok (.laload, 1)) (hs : SH o = .inl (.long, n)) (hz : z = (j : Int)) (hj : j < n) (kk : N G d mi (pc + 1) lv (vl (m o j) :: st) m Q) : N G d mi pc lv (vi z :: vr o :: st) m Q := v_lald hd hs (sh_a hs (by omega)) hz hj kk
theorem n_aald4 {o n j t : Nat} {z : Int} (hd : decode mi.2.1 pc = .ok (.aaload, 1)) (hs : SH o = .inl (.object "GlassEyes$Court", n)) (hz : z = (j : Int)) (hj : j < n) (hr : SR m o j = some t) (kk : N G d mi (pc + 1) lv (vr t :: st) m Q) : N G d mi pc lv (vi z :: vr o :: st) m Q := v_aald4 hd hs (sh_a hs (by omega)) hz hj hr kk
theorem n_aald5 {o n j t : Nat} {z : Int} (hd : decode mi.2.1 pc = .ok (.aaload, 1)) (hs : SH o = .inl (.object "GlassEyes$Script", n)) (hz : z = (j : Int)) (hj : j < n) (hr : SR m o j = some t) (kk : N G d mi (pc + 1) lv (vr t :: st) m Q) : N G d mi pc lv (vi z :: vr o :: st) m Q := v_aald5 hd hs (sh_a hs (by omega)) hz hj hr kk
theorem n_iast {o n j : Nat} {x z : Int} (hd : decode mi.2.1 pc = .ok (.iastore, 1)) (hs : SH o = .inl (.int, n)) (hz : z = (j : Int)) (hj : j < n) (kk : N G d mi (pc + 1) lv st (upm m o j x) Q) : N G d mi pc lv (vi x :: vi z :: vr o :: st) m Q := by
  refine v_iast hd hs (sh_a hs (by omega)) hz hj ?_
  have h : V G d (64 * d) 0 0 mi (pc + 1) lv st KK (upm m o j x, SR (upm m o j x)) (ZQ G Q) := kk
  rw [SR_up (ne_a hs)] at h
  exact h
theorem n_bast {o n j : Nat} {x z : Int} (hd : decode mi.2.1 pc = .ok (.bastore, 1)) (hs : SH o = .inl (.byte, n)) (hz : z = (j : Int)) (hj : j < n) (kk : N G d mi (pc + 1) lv st (upm m o j (i2b x)) Q) : N G d mi pc lv (vi x :: vi z :: vr o :: st) m Q := by
  refine v_bast hd hs (sh_a hs (by omega)) hz hj ?_
  have h : V G d (64 * d) 0 0 mi (pc + 1) lv st KK (upm m o j (i2b x), SR (upm m o j (i2b x))) (ZQ G Q) := kk
  rw [SR_up (ne_a hs)] at h
  exact h
theorem n_zast {o n j : Nat} {x z : Int} (hd : decode mi.2.1 pc = .ok (.bastore, 1)) (hs : SH o = .inl (.boolean, n)) (hz : z = (j : Int)) (hj : j < n) (kk : N G d mi (pc + 1) lv st (upm m o j (i2z x)) Q) : N G d mi pc lv (vi x :: vi z :: vr o :: st) m Q := by
  refine v_zast hd hs (sh_a hs (by omega)) hz hj ?_
  have h : V G d (64 * d) 0 0 mi (pc + 1) lv st KK (upm m o j (i2z x), SR (upm m o j (i2z x))) (ZQ G Q) := kk
  rw [SR_up (ne_a hs)] at h
  exact h
theorem n_last {o n j : Nat} {x z : Int} (hd : decode mi.2.1 pc = .ok (.lastore, 1)) (hs : SH o = .inl (.long, n)) (hz : z = (j : Int)) (hj : j < n) (kk : N G d mi (pc + 1) lv st (upm m o j x) Q) : N G d mi pc lv (vl x :: vi z :: vr o :: st) m Q := by
  refine v_last hd hs (sh_a hs (by omega)) hz hj ?_
  have h : V G d (64 * d) 0 0 mi (pc + 1) lv st KK (upm m o j x, SR (upm m o j x)) (ZQ G Q) := kk
  rw [SR_up (ne_a hs)] at h
  exact h
theorem n_alen {o n : Nat} (hd : decode mi.2.1 pc = .ok (.arraylength, 1)) (hs : SH o = .inl (.int, n)) (hn : 0 < n) (kk : N G d mi (pc + 1) lv (vi (n : Int) :: st) m Q) : N G d mi pc lv (vr o :: st) m Q := v_alen0 hd hs (sh_a hs hn) kk
theorem n_alenb {o n : Nat} (hd : decode mi.2.1 pc = .ok (.arraylength, 1)) (hs : SH o = .inl (.byte, n)) (hn : 0 < n) (kk : N G d mi (pc + 1) lv (vi (n : Int) :: st) m Q) : N G d mi pc lv (vr o :: st) m Q := v_alen1 hd hs (sh_a hs hn) kk
theorem n_copy {i o0 o1 n0 n1 sp dp n : Nat} {zs zd zn : Int} (hd : decode mi.2.1 pc = .ok (.invokestatic i, 3)) (hm : Cond.methodLink mi.1.cls i arraycopyName ∈ gtb) (hw : Cond.native arraycopyName ∈ gtb ∧ Cond.static arraycopyName ∈ gtb ∧ Cond.initialized "java/lang/System" ∈ gtb) (hs0 : SH o0 = .inl (.int, n0)) (hs1 : SH o1 = .inl (.int, n1)) (p0 : 0 < n0) (p1 : 0 < n1) (es : zs = (sp : Int)) (ed : zd = (dp : Int)) (en : zn = (n : Int)) (b0 : sp + n ≤ n0) (b1 : dp + n ≤ n1) (kk : N G (d + 1) mi (pc + 3) lv [] (cpm m o0 sp o1 dp n) Q) : N G (d + 1) mi pc lv [vi zn, vi zd, vr o1, vi zs, vr o0] m Q := by
  refine v_copy hd hm hw hs0 hs1 (sh_a hs0 p0) (sh_a hs1 p1) es ed en b0 b1 (by omega) ?_ ?_
  · have e : nativeFrameWords "java/lang/System" "arraycopy" 5 + 11 ≤ 64 := by decide +kernel
    show 0 + (nativeFrameWords "java/lang/System" "arraycopy" 5 + 11) ≤ 64 * (d + 1)
    omega
  have h : V G (d + 1) (64 * (d + 1)) 0 0 mi (pc + 3) lv [] KK (cpm m o0 sp o1 dp n, SR (cpm m o0 sp o1 dp n)) (ZQ G Q) := kk
  rw [SR_cp (fun q => ne_a (k := 8) hs1 ⟨q, rfl⟩)] at h
  exact h
/-! ends -/
theorem n_retI {z : Int} {k : Int → MM → Prop} (hd : decode mi.2.1 pc = .ok (.ireturn, 1)) (hr : mi.2.2.2 = some .int) (h : k z m) : N G d mi pc lv [vi z] m (RI k) := v_ireturn hd hr ⟨z, m, rfl, rfl, rfl, h⟩
theorem n_retZ {z : Int} {k : Int → MM → Prop} (hd : decode mi.2.1 pc = .ok (.ireturn, 1)) (hr : mi.2.2.2 = some .boolean) (hz : z = 0 ∨ z = 1) (h : k z m) : N G d mi pc lv [vi z] m (RI k) := v_zreturn hd hr (by rcases hz with rfl | rfl <;> rfl) ⟨z, m, rfl, rfl, rfl, h⟩
theorem n_retL {z : Int} {k : Int → MM → Prop} (hd : decode mi.2.1 pc = .ok (.lreturn, 1)) (hr : mi.2.2.2 = some .long) (h : k z m) : N G d mi pc lv [vl z] m (RJG k) := v_lreturn hd hr ⟨z, m, rfl, rfl, rfl, h⟩
theorem n_retV {k : MM → Prop} (hd : decode mi.2.1 pc = .ok (.return_, 1)) (hr : mi.2.2.2 = none) (h : k m) : N G d mi pc lv [] m (RV k) := v_return hd hr ⟨m, rfl, rfl, rfl, h⟩
/-! calls -/
theorem n_callSI {i : Nat} {mi' : MI} {As st0 : List PV} {lv' : List (Option PV)} {k : Int → MM → Prop} (hd : decode mi.2.1 pc = .ok (.invokestatic i, 3)) (hl : Cond.methodLink mi.1.cls i mi'.1 ∈ gtb) (hM : metOK mi' As.length) (hst : Cond.static mi'.1 ∈ gtb) (e0 : st0 = As.reverse ++ st) (hlv : entL As mi'.2.2.1 = lv') (hlen : (lg_sl (As.map (tv G))).length ≤ mi'.2.2.1) (hw : (st.map pcat).sum ≤ 8) (h45 : mi'.2.2.1 ≤ 45)
    (hc : N G d mi' 0 lv' [] m (RI k)) (kk : ∀ (z : Int) (m' : MM), k z m' → N G (d + 1) mi (pc + 3) lv (vi z :: st) m' Q) : N G (d + 1) mi pc lv st0 m Q :=
  v_callS (bc := 0) (bs := 0) (bc' := 0) (bs' := 0) hd hl hM hst e0 hlv hlen hw (Nat.le_refl _) (by omega) hc (fun r M' hq => by
    obtain ⟨z, m', rfl, -, rfl, h⟩ := hq
    exact kk z m' h)
theorem n_callSL {i : Nat} {mi' : MI} {As st0 : List PV} {lv' : List (Option PV)} {k : Int → MM → Prop} (hd : decode mi.2.1 pc = .ok (.invokestatic i, 3)) (hl : Cond.methodLink mi.1.cls i mi'.1 ∈ gtb) (hM : metOK mi' As.length) (hst : Cond.static mi'.1 ∈ gtb) (e0 : st0 = As.reverse ++ st) (hlv : entL As mi'.2.2.1 = lv') (hlen : (lg_sl (As.map (tv G))).length ≤ mi'.2.2.1) (hw : (st.map pcat).sum ≤ 8) (h45 : mi'.2.2.1 ≤ 45)
    (hc : N G d mi' 0 lv' [] m (RJG k)) (kk : ∀ (z : Int) (m' : MM), k z m' → N G (d + 1) mi (pc + 3) lv (vl z :: st) m' Q) : N G (d + 1) mi pc lv st0 m Q :=
  v_callS (bc := 0) (bs := 0) (bc' := 0) (bs' := 0) hd hl hM hst e0 hlv hlen hw (Nat.le_refl _) (by omega) hc (fun r M' hq => by
    obtain ⟨z, m', rfl, -, rfl, h⟩ := hq
    exact kk z m' h)
theorem n_callSV {i : Nat} {mi' : MI} {As st0 : List PV} {lv' : List (Option PV)} {k : MM → Prop} (hd : decode mi.2.1 pc = .ok (.invokestatic i, 3)) (hl : Cond.methodLink mi.1.cls i mi'.1 ∈ gtb) (hM : metOK mi' As.length) (hst : Cond.static mi'.1 ∈ gtb) (e0 : st0 = As.reverse ++ st) (hlv : entL As mi'.2.2.1 = lv') (hlen : (lg_sl (As.map (tv G))).length ≤ mi'.2.2.1) (hw : (st.map pcat).sum ≤ 8) (h45 : mi'.2.2.1 ≤ 45)
    (hc : N G d mi' 0 lv' [] m (RV k)) (kk : ∀ (m' : MM), k m' → N G (d + 1) mi (pc + 3) lv st m' Q) : N G (d + 1) mi pc lv st0 m Q :=
  v_callS (bc := 0) (bs := 0) (bc' := 0) (bs' := 0) hd hl hM hst e0 hlv hlen hw (Nat.le_refl _) (by omega) hc (fun r M' hq => by
    obtain ⟨m', rfl, -, rfl, h⟩ := hq
    exact kk m' h)
theorem n_callVI {i o ci : Nat} {rc : vw_C} {mi' : MI} {As st0 : List PV} {lv' : List (Option PV)} {k : Int → MM → Prop} (hd : decode mi.2.1 pc = .ok (.invokevirtual i, 3)) (hl : Cond.methodLink mi.1.cls i mi'.1 ∈ gtb) (hM : metOK mi' As.length) (hst : Cond.instanceMethod mi'.1 ∈ gtb ∧ Cond.selects mi'.1.cls mi'.1 mi'.1 ∈ gtb) (hs : SH o = .inr ci) (hrc : vwCl[ci]? = some rc) (hrn : rc.1 = mi'.1.cls) (e0 : st0 = As.reverse ++ vr o :: st) (hlv : entL (vr o :: As) mi'.2.2.1 = lv') (hlen : (lg_sl ((vr o :: As).map (tv G))).length ≤ mi'.2.2.1) (hw : (st.map pcat).sum ≤ 8) (h45 : mi'.2.2.1 ≤ 45)
    (hc : N G d mi' 0 lv' [] m (RI k)) (kk : ∀ (z : Int) (m' : MM), k z m' → N G (d + 1) mi (pc + 3) lv (vi z :: st) m' Q) : N G (d + 1) mi pc lv st0 m Q :=
  v_callV (bc := 0) (bs := 0) (bc' := 0) (bs' := 0) hd hl hM hst hs (sh_o hs) hrc hrn e0 hlv hlen hw (Nat.le_refl _) (by omega) hc (fun r M' hq => by
    obtain ⟨z, m', rfl, -, rfl, h⟩ := hq
    exact kk z m' h)
theorem n_callVV {i o ci : Nat} {rc : vw_C} {mi' : MI} {As st0 : List PV} {lv' : List (Option PV)} {k : MM → Prop} (hd : decode mi.2.1 pc = .ok (.invokevirtual i, 3)) (hl : Cond.methodLink mi.1.cls i mi'.1 ∈ gtb) (hM : metOK mi' As.length) (hst : Cond.instanceMethod mi'.1 ∈ gtb ∧ Cond.selects mi'.1.cls mi'.1 mi'.1 ∈ gtb) (hs : SH o = .inr ci) (hrc : vwCl[ci]? = some rc) (hrn : rc.1 = mi'.1.cls) (e0 : st0 = As.reverse ++ vr o :: st) (hlv : entL (vr o :: As) mi'.2.2.1 = lv') (hlen : (lg_sl ((vr o :: As).map (tv G))).length ≤ mi'.2.2.1) (hw : (st.map pcat).sum ≤ 8) (h45 : mi'.2.2.1 ≤ 45)
    (hc : N G d mi' 0 lv' [] m (RV k)) (kk : ∀ (m' : MM), k m' → N G (d + 1) mi (pc + 3) lv st m' Q) : N G (d + 1) mi pc lv st0 m Q :=
  v_callV (bc := 0) (bs := 0) (bc' := 0) (bs' := 0) hd hl hM hst hs (sh_o hs) hrc hrn e0 hlv hlen hw (Nat.le_refl _) (by omega) hc (fun r M' hq => by
    obtain ⟨m', rfl, -, rfl, h⟩ := hq
    exact kk m' h)
theorem n_callTI {i : Nat} {mi' : MI} {As st0 : List PV} {lv' : List (Option PV)} {k : Int → MM → Prop} (hd : decode mi.2.1 pc = .ok (.invokevirtual i, 3)) (hl : Cond.methodLink mi.1.cls i mi'.1 ∈ gtb) (hM : metOK mi' As.length) (hst : Cond.instanceMethod mi'.1 ∈ gtb ∧ Cond.selects mi'.1.cls mi'.1 mi'.1 ∈ gtb) (hrn : mi'.1.cls = "java/lang/String") (e0 : st0 = As.reverse ++ vr 999999 :: st) (hlv : entL (vr 999999 :: As) mi'.2.2.1 = lv') (hlen : (lg_sl ((vr 999999 :: As).map (tv G))).length ≤ mi'.2.2.1) (hw : (st.map pcat).sum ≤ 8) (h45 : mi'.2.2.1 ≤ 45)
    (hc : N G d mi' 0 lv' [] m (RI k)) (kk : ∀ (z : Int) (m' : MM), k z m' → N G (d + 1) mi (pc + 3) lv (vi z :: st) m' Q) : N G (d + 1) mi pc lv st0 m Q :=
  v_callT (bc := 0) (bs := 0) (bc' := 0) (bs' := 0) hd hl hM hst hrn e0 hlv hlen hw (Nat.le_refl _) (by omega) hc (fun r M' hq => by
    obtain ⟨z, m', rfl, -, rfl, h⟩ := hq
    exact kk z m' h)
/-- locals that nobody asks for any more -/
theorem n_weak {lv' : List (Option PV)} (h : ∀ (k : Nat) (v : PV), lv'[k]? = some (some v) → lv[k]? = some (some v)) (kk : N G d mi pc lv' st m Q) : N G d mi pc lv st m Q :=
  fun p e s m args below meth c mc ms H locs ls cells slots C hR hS hL hE h1 h2 => kk p e s m args below meth c mc ms H locs ls cells slots C hR hS (ge_sub hL (fun k v hk => (las_mem lv 0 _).mpr ⟨k, v, h k v hk, by rw [Nat.zero_add]⟩)) hE h1 h2
end GeN
theorem wk_nil {lv : List (Option PV)} : ∀ (k : Nat) (v : PV), ([] : List (Option PV))[k]? = some (some v) → lv[k]? = some (some v) := fun k v h => by simp at h
theorem wk_n {x : Option PV} {l l' : List (Option PV)} (h : ∀ (k : Nat) (v : PV), l'[k]? = some (some v) → l[k]? = some (some v)) : ∀ (k : Nat) (v : PV), (none :: l')[k]? = some (some v) → (x :: l)[k]? = some (some v) := fun k v q => by
  cases k with
  | zero => simp at q
  | succ k => simpa using h k v (by simpa using q)
theorem wk_s {x : Option PV} {l l' : List (Option PV)} (h : ∀ (k : Nat) (v : PV), l'[k]? = some (some v) → l[k]? = some (some v)) : ∀ (k : Nat) (v : PV), (x :: l')[k]? = some (some v) → (x :: l)[k]? = some (some v) := fun k v q => by
  cases k with
  | zero => simpa using q
  | succ k => simpa using h k v (by simpa using q)
/-! a contract's end may be weakened -/
theorem QC.mono {G : GG} {mc : Nat} {Q Q' : Option PV → Nat → Mem → Prop} (h : ∀ r K M, Q r K M → Q' r K M) {a : Array Value} {st : State} {o : Outcome} {t : State} (q : QC G mc Q a st o t) : QC G mc Q' a st o t := by
  obtain ⟨⟨r, K, M, h1, h2, h3⟩, h4⟩ := q
  exact ⟨⟨r, K, M, h1, h r K M h2, h3⟩, h4⟩
theorem V.mono {G : GG} {fr lo bc bs : Nat} {mi : MI} {pc : Nat} {lv : List (Option PV)} {st : List PV} {K : Nat} {M : Mem} {Q Q' : Option PV → Nat → Mem → Prop} (h : ∀ r K M, Q r K M → Q' r K M) (v : V G fr lo bc bs mi pc lv st K M (ZQ G Q)) : V G fr lo bc bs mi pc lv st K M (ZQ G Q') :=
  fun p e s m args below meth c mc ms H locs ls cells slots C hR hS hL hE h1 h2 T hT X => by
    obtain ⟨t, a1, o, b1, b2, b3, b4⟩ := v p e s m args below meth c mc ms H locs ls cells slots C hR hS hL hE h1 h2 T hT X
    exact ⟨t, a1, o, b1, b2, QC.mono h b3, b4⟩
theorem RI.mono {k k' : Int → MM → Prop} (h : ∀ z m, k z m → k' z m) (r : Option PV) (K : Nat) (M : Mem) (q : RI k r K M) : RI k' r K M := by
  obtain ⟨z, m, h1, h2, h3, h4⟩ := q
  exact ⟨z, m, h1, h2, h3, h z m h4⟩
theorem RV.mono {k k' : MM → Prop} (h : ∀ m, k m → k' m) (r : Option PV) (K : Nat) (M : Mem) (q : RV k r K M) : RV k' r K M := by
  obtain ⟨m, h1, h2, h3, h4⟩ := q
  exact ⟨m, h1, h2, h3, h m h4⟩
/-! branches, as the walks print them -/
def bLT (a b : Int) (A B : Prop) : Prop := (rng a ∧ rng b) ∧ (a < b → A) ∧ (¬ a < b → B)
def bLE (a b : Int) (A B : Prop) : Prop := (rng a ∧ rng b) ∧ (a ≤ b → A) ∧ (¬ a ≤ b → B)
def bEQ (a b : Int) (A B : Prop) : Prop := (rng a ∧ rng b) ∧ (a = b → A) ∧ (¬ a = b → B)
theorem ltI {a b : Int} {A B : Prop} (r : rng a ∧ rng b) (h1 : a < b → A) (h2 : ¬ a < b → B) : bLT a b A B := ⟨r, h1, h2⟩
theorem leI {a b : Int} {A B : Prop} (r : rng a ∧ rng b) (h1 : a ≤ b → A) (h2 : ¬ a ≤ b → B) : bLE a b A B := ⟨r, h1, h2⟩
theorem eqI {a b : Int} {A B : Prop} (r : rng a ∧ rng b) (h1 : a = b → A) (h2 : ¬ a = b → B) : bEQ a b A B := ⟨r, h1, h2⟩
theorem ltT {a b : Int} {A B : Prop} (r : (rng a ∧ rng b) ∧ a < b) (h : A) : bLT a b A B := ⟨r.1, fun _ => h, fun q => absurd r.2 q⟩
theorem ltF {a b : Int} {A B : Prop} (r : (rng a ∧ rng b) ∧ ¬ a < b) (h : B) : bLT a b A B := ⟨r.1, fun q => absurd q r.2, fun _ => h⟩
theorem leT {a b : Int} {A B : Prop} (r : (rng a ∧ rng b) ∧ a ≤ b) (h : A) : bLE a b A B := ⟨r.1, fun _ => h, fun q => absurd r.2 q⟩
theorem leF {a b : Int} {A B : Prop} (r : (rng a ∧ rng b) ∧ ¬ a ≤ b) (h : B) : bLE a b A B := ⟨r.1, fun q => absurd q r.2, fun _ => h⟩
theorem eqT {a b : Int} {A B : Prop} (r : (rng a ∧ rng b) ∧ a = b) (h : A) : bEQ a b A B := ⟨r.1, fun _ => h, fun q => absurd r.2 q⟩
theorem eqF {a b : Int} {A B : Prop} (r : (rng a ∧ rng b) ∧ ¬ a = b) (h : B) : bEQ a b A B := ⟨r.1, fun q => absurd q r.2, fun _ => h⟩
