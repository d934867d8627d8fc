theorem shL_small : shL.all (fun s => match s with | .inl q => decide (q.2 < 100000) | .inr _ => true) = true := by decide +kernel
theorem sh_small {o n : Nat} {ty : FieldType} (h : SH o = .inl (ty, n)) : n < 2147483648 := by
  unfold SH at h
  cases hs : shL[o]? with
  | none =>
    rw [hs] at h
    cases h
    omega
  | some x =>
    rw [hs] at h
    have hx : x = .inl (ty, n) := h
    subst hx
    have h2 := List.all_eq_true.mp shL_small _ (List.mem_of_getElem? hs)
    have h3 : n < 100000 := of_decide_eq_true h2
    omega
section GeMem
variable {G : GG} {fr lo bc bs : Nat} {mi : MI} {pc : Nat} {lv : List (Option PV)} {st : List PV} {K : Nat} {M : Mem} {Z : ZZ}
theorem v_geti {i ci k o : Nat} (hd : decode mi.2.1 pc = .ok (.getfield i, 3)) (hf : fldOK mi.1.cls i ci k) (hs : SH o = .inr ci) (hc : o < K) (ht : isI (TYF ci k) = true) (kk : V G fr lo bc bs mi (pc + 3) lv (vi (M.1 o k) :: st) K M Z) : V G fr lo bc bs mi pc lv (vr o :: st) K M Z := by
  intro p e s m args below meth c mc ms H locs ls cells slots C hR hS hL hE h1 h2
  obtain ⟨C', T, ⟨q1, q2, -⟩, q5, q6⟩ := hf
  rw [st_r hc hR.1]
  exact va_get (D := gD G) (ci := ci) (v := .int (i32 (M.1 o k))) C.1 C.2.1 C.2.2.2.2.2.1 q2 C.2.2.2.2.1 C.2.2.2.2.2.2.2.2.1 hR.2 o (cell_o hs hc) q1 k q5 (C.2.2.2.2.2.1 _ q6) (fun _ h => h) (by rw [rng_get _ q5]; rw [fv_I ht]) hd (kk p e s m args below meth c mc ms H locs ls cells slots C hR hS hL hE h1 h2)
theorem v_getl {i ci k o : Nat} (hd : decode mi.2.1 pc = .ok (.getfield i, 3)) (hf : fldOK mi.1.cls i ci k) (hs : SH o = .inr ci) (hc : o < K) (ht : TYF ci k = .long) (kk : V G fr lo bc bs mi (pc + 3) lv (vl (M.1 o k) :: st) K M Z) : V G fr lo bc bs mi pc lv (vr o :: st) K M Z := by
  intro p e s m args below meth c mc ms H locs ls cells slots C hR hS hL hE h1 h2
  obtain ⟨C', T, ⟨q1, q2, -⟩, q5, q6⟩ := hf
  rw [st_r hc hR.1]
  exact va_get (D := gD G) (ci := ci) (v := .long (i64 (M.1 o k))) C.1 C.2.1 C.2.2.2.2.2.1 q2 C.2.2.2.2.1 C.2.2.2.2.2.2.2.2.1 hR.2 o (cell_o hs hc) q1 k q5 (C.2.2.2.2.2.1 _ q6) (fun _ h => h) (by rw [rng_get _ q5]; rw [ht]; rfl) hd (kk p e s m args below meth c mc ms H locs ls cells slots C hR hS hL hE h1 h2)
theorem v_getr {i ci k o : Nat} (hd : decode mi.2.1 pc = .ok (.getfield i, 3)) (hf : fldOK mi.1.cls i ci k) (hs : SH o = .inr ci) (hc : o < K) {t : Nat} (ht : isR (TYF ci k) = true) (hr : M.2 o k = some t) (kk : V G fr lo bc bs mi (pc + 3) lv (vr t :: st) K M Z) : V G fr lo bc bs mi pc lv (vr o :: st) K M Z := by
  intro p e s m args below meth c mc ms H locs ls cells slots C hR hS hL hE h1 h2
  obtain ⟨C', T, ⟨q1, q2, -⟩, q5, q6⟩ := hf
  rw [st_r hc hR.1]
  exact va_get (D := gD G) (ci := ci) (v := .ref (rf G t)) C.1 C.2.1 C.2.2.2.2.2.1 q2 C.2.2.2.2.1 C.2.2.2.2.2.2.2.2.1 hR.2 o (cell_o hs hc) q1 k q5 (C.2.2.2.2.2.1 _ q6) (fun _ h => h) (by rw [rng_get _ q5]; rw [fv_R ht, hr]; rfl) hd (kk p e s m args below meth c mc ms H locs ls cells slots C hR hS hL hE h1 h2)
theorem v_puti {i ci k o : Nat} {z : Int} (hd : decode mi.2.1 pc = .ok (.putfield i, 3)) (hf : fldW mi.1.cls i ci k) (hs : SH o = .inr ci) (hc : o < K) (ht : TYF ci k = .int) (kk : V G fr lo bc bs mi (pc + 3) lv st K (upm M.1 o k z, M.2) Z) : V G fr lo bc bs mi pc lv (vi z :: vr o :: st) K M Z := by
  intro p e s m args below meth c mc ms H locs ls cells slots C hR hS hL hE h1 h2
  obtain ⟨C', T, ⟨q1, q2, q3, q4, -⟩, q5, q6, q7⟩ := hf
  rw [show (vi z :: vr o :: st).map (tv G) = .int (i32 z) :: Value.ref (gB G + o) :: st.map (tv G) from by rw [List.map_cons, st_r hc hR.1]; rfl]
  refine va_put (D := gD G) (ci := ci) (v := .int (i32 z)) (ty := TYF ci k) C.1 C.2.1 C.2.2.2.2.2.1 q2 (TYF ci) q3 q4 C.2.2.2.2.1 C.2.2.2.2.2.2.2.2.1 hR.2 cw_D hS o (cell_o hs hc) q1 k q5 (C.2.2.2.2.2.1 _ q6) (fun _ h => h) q7 (q3 k q5) (by rw [ht]; rfl) (by rw [ht]; rfl) (by simpa using q5) hd (fun H1 locs1 hP1 _ hS1 => kk p e s m args below meth c mc ms H1 locs1 ls cells slots C ⟨hR.1, ?_⟩ hS1 hL hE h1 h2)
  rw [cw_set (G := G) (K := K) (M := M) (M' := (upm M.1 o k z, M.2)) (e := .inr (ci, ((List.range (NF ci)).map (fun j => fv G M o j (TYF ci j))).set k (.int (i32 z)))) (put_cell hs (by rw [ht]; rfl)) (fun j hj => cell_ne (upm_ne hj) (fun _ => rfl))] at hP1
  exact hP1
theorem v_putr {i ci k o : Nat} {t : Nat} (hd : decode mi.2.1 pc = .ok (.putfield i, 3)) (hf : fldW mi.1.cls i ci k) (hs : SH o = .inr ci) (hc : o < K) (ht : isR (TYF ci k) = true) (kk : V G fr lo bc bs mi (pc + 3) lv st K (M.1, upr M.2 o k (some t)) Z) : V G fr lo bc bs mi pc lv (vr t :: vr o :: st) K M Z := by
  intro p e s m args below meth c mc ms H locs ls cells slots C hR hS hL hE h1 h2
  obtain ⟨C', T, ⟨q1, q2, q3, q4, -⟩, q5, q6, q7⟩ := hf
  rw [show (vr t :: vr o :: st).map (tv G) = .ref (rf G t) :: Value.ref (gB G + o) :: st.map (tv G) from by rw [List.map_cons, st_r hc hR.1]; rfl]
  refine va_put (D := gD G) (ci := ci) (v := .ref (rf G t)) (ty := TYF ci k) C.1 C.2.1 C.2.2.2.2.2.1 q2 (TYF ci) q3 q4 C.2.2.2.2.1 C.2.2.2.2.2.2.2.2.1 hR.2 cw_D hS o (cell_o hs hc) q1 k q5 (C.2.2.2.2.2.1 _ q6) (fun _ h => h) q7 (q3 k q5) (by cases hq : TYF ci k <;> first | rfl | (rw [hq] at ht; cases ht)) (by cases hq : TYF ci k <;> first | rfl | (rw [hq] at ht; cases ht)) (by simpa using q5) hd (fun H1 locs1 hP1 _ hS1 => kk p e s m args below meth c mc ms H1 locs1 ls cells slots C ⟨hR.1, ?_⟩ hS1 hL hE h1 h2)
  rw [cw_set (G := G) (K := K) (M := M) (M' := (M.1, upr M.2 o k (some t))) (e := .inr (ci, ((List.range (NF ci)).map (fun j => fv G M o j (TYF ci j))).set k (.ref (rf G t)))) (put_cellR (z := some t) hs ht) (fun j hj => cell_ne (fun _ => rfl) (upr_ne hj))] at hP1
  exact hP1
theorem v_putFi {i ci k o : Nat} {z : Int} (hd : decode mi.2.1 pc = .ok (.putfield i, 3)) (hf : fldF mi.1.cls i ci k) (hs : SH o = .inr ci) (hc : o < K) (hnm : mi.1.name = "<init>") (ht : TYF ci k = .int) (kk : V G fr lo bc bs mi (pc + 3) lv st K (upm M.1 o k z, M.2) Z) : V G fr lo bc bs mi pc lv (vi z :: vr o :: st) K M Z := by
  intro p e s m args below meth c mc ms H locs ls cells slots C hR hS hL hE h1 h2
  obtain ⟨C', T, ⟨q1, q2, q3, q4, -⟩, q5, q6, q7, q8⟩ := hf
  rw [show (vi z :: vr o :: st).map (tv G) = .int (i32 z) :: Value.ref (gB G + o) :: st.map (tv G) from by rw [List.map_cons, st_r hc hR.1]; rfl]
  refine va_putF (D := gD G) (ci := ci) (v := .int (i32 z)) (ty := TYF ci k) C.1 C.2.1 C.2.2.2.2.2.1 q2 (TYF ci) q3 q4 C.2.2.2.2.1 C.2.2.2.2.2.2.2.2.1 hR.2 cw_D hS o (cell_o hs hc) q1 k q5 (C.2.2.2.2.2.1 _ q6) (fun _ h => h) q7 (C.2.2.2.2.2.2.2.1 hnm) q8 (q3 k q5) (by rw [ht]; rfl) (by rw [ht]; rfl) (by simpa using q5) hd (fun H1 locs1 hP1 _ hS1 => kk p e s m args below meth c mc ms H1 locs1 ls cells slots C ⟨hR.1, ?_⟩ hS1 hL hE h1 h2)
  rw [cw_set (G := G) (K := K) (M := M) (M' := (upm M.1 o k z, M.2)) (e := .inr (ci, ((List.range (NF ci)).map (fun j => fv G M o j (TYF ci j))).set k (.int (i32 z)))) (put_cell hs (by rw [ht]; rfl)) (fun j hj => cell_ne (upm_ne hj) (fun _ => rfl))] at hP1
  exact hP1
theorem v_putFr {i ci k o : Nat} {t : Nat} (hd : decode mi.2.1 pc = .ok (.putfield i, 3)) (hf : fldF mi.1.cls i ci k) (hs : SH o = .inr ci) (hc : o < K) (hnm : mi.1.name = "<init>") (ht : isR (TYF ci k) = true) (kk : V G fr lo bc bs mi (pc + 3) lv st K (M.1, upr M.2 o k (some t)) Z) : V G fr lo bc bs mi pc lv (vr t :: vr o :: st) K M Z := by
  intro p e s m args below meth c mc ms H locs ls cells slots C hR hS hL hE h1 h2
  obtain ⟨C', T, ⟨q1, q2, q3, q4, -⟩, q5, q6, q7, q8⟩ := hf
  rw [show (vr t :: vr o :: st).map (tv G) = .ref (rf G t) :: Value.ref (gB G + o) :: st.map (tv G) from by rw [List.map_cons, st_r hc hR.1]; rfl]
  refine va_putF (D := gD G) (ci := ci) (v := .ref (rf G t)) (ty := TYF ci k) C.1 C.2.1 C.2.2.2.2.2.1 q2 (TYF ci) q3 q4 C.2.2.2.2.1 C.2.2.2.2.2.2.2.2.1 hR.2 cw_D hS o (cell_o hs hc) q1 k q5 (C.2.2.2.2.2.1 _ q6) (fun _ h => h) q7 (C.2.2.2.2.2.2.2.1 hnm) q8 (q3 k q5) (by cases hq : TYF ci k <;> first | rfl | (rw [hq] at ht; cases ht)) (by cases hq : TYF ci k <;> first | rfl | (rw [hq] at ht; cases ht)) (by simpa using q5) hd (fun H1 locs1 hP1 _ hS1 => kk p e s m args below meth c mc ms H1 locs1 ls cells slots C ⟨hR.1, ?_⟩ hS1 hL hE h1 h2)
  rw [cw_set (G := G) (K := K) (M := M) (M' := (M.1, upr M.2 o k (some t))) (e := .inr (ci, ((List.range (NF ci)).map (fun j => fv G M o j (TYF ci j))).set k (.ref (rf G t)))) (put_cellR (z := some t) hs ht) (fun j hj => cell_ne (fun _ => rfl) (upr_ne hj))] at hP1
  exact hP1
theorem v_putl {i ci k o : Nat} {z : Int} (hd : decode mi.2.1 pc = .ok (.putfield i, 3)) (hf : fldW mi.1.cls i ci k) (hs : SH o = .inr ci) (hc : o < K) (ht : TYF ci k = .long) (kk : V G fr lo bc bs mi (pc + 3) lv st K (upm M.1 o k z, M.2) Z) : V G fr lo bc bs mi pc lv (vl z :: vr o :: st) K M Z := by
  intro p e s m args below meth c mc ms H locs ls cells slots C hR hS hL hE h1 h2
  obtain ⟨C', T, ⟨q1, q2, q3, q4, -⟩, q5, q6, q7⟩ := hf
  rw [show (vl z :: vr o :: st).map (tv G) = .long (i64 z) :: Value.ref (gB G + o) :: st.map (tv G) from by rw [List.map_cons, st_r hc hR.1]; rfl]
  refine va_put (D := gD G) (ci := ci) (v := .long (i64 z)) (ty := TYF ci k) C.1 C.2.1 C.2.2.2.2.2.1 q2 (TYF ci) q3 q4 C.2.2.2.2.1 C.2.2.2.2.2.2.2.2.1 hR.2 cw_D hS o (cell_o hs hc) q1 k q5 (C.2.2.2.2.2.1 _ q6) (fun _ h => h) q7 (q3 k q5) (by rw [ht]; rfl) (by rw [ht]; rfl) (by simpa using q5) hd (fun H1 locs1 hP1 _ hS1 => kk p e s m args below meth c mc ms H1 locs1 ls cells slots C ⟨hR.1, ?_⟩ hS1 hL hE h1 h2)
  rw [cw_set (G := G) (K := K) (M := M) (M' := (upm M.1 o k z, M.2)) (e := .inr (ci, ((List.range (NF ci)).map (fun j => fv G M o j (TYF ci j))).set k (.long (i64 z)))) (put_cellL hs ht) (fun j hj => cell_ne (upm_ne hj) (fun _ => rfl))] at hP1
  exact hP1
theorem v_putz {i ci k o : Nat} {z : Int} (hd : decode mi.2.1 pc = .ok (.putfield i, 3)) (hf : fldW mi.1.cls i ci k) (hs : SH o = .inr ci) (hc : o < K) (ht : TYF ci k = .boolean) (hz : z = 0 ∨ z = 1) (kk : V G fr lo bc bs mi (pc + 3) lv st K (upm M.1 o k z, M.2) Z) : V G fr lo bc bs mi pc lv (vi z :: vr o :: st) K M Z := by
  intro p e s m args below meth c mc ms H locs ls cells slots C hR hS hL hE h1 h2
  obtain ⟨C', T, ⟨q1, q2, q3, q4, -⟩, q5, q6, q7⟩ := hf
  rw [show (vi z :: vr o :: st).map (tv G) = .int (i32 z) :: Value.ref (gB G + o) :: st.map (tv G) from by rw [List.map_cons, st_r hc hR.1]; rfl]
  refine va_put (D := gD G) (ci := ci) (v := .int (i32 z)) (ty := TYF ci k) C.1 C.2.1 C.2.2.2.2.2.1 q2 (TYF ci) q3 q4 C.2.2.2.2.1 C.2.2.2.2.2.2.2.2.1 hR.2 cw_D hS o (cell_o hs hc) q1 k q5 (C.2.2.2.2.2.1 _ q6) (fun _ h => h) q7 (q3 k q5) (by rw [ht]; rcases hz with rfl | rfl <;> rfl) (by rw [ht]; rcases hz with rfl | rfl <;> rfl) (by simpa using q5) hd (fun H1 locs1 hP1 _ hS1 => kk p e s m args below meth c mc ms H1 locs1 ls cells slots C ⟨hR.1, ?_⟩ hS1 hL hE h1 h2)
  rw [cw_set (G := G) (K := K) (M := M) (M' := (upm M.1 o k z, M.2)) (e := .inr (ci, ((List.range (NF ci)).map (fun j => fv G M o j (TYF ci j))).set k (.int (i32 z)))) (put_cell hs (by rw [ht]; rfl)) (fun j hj => cell_ne (upm_ne hj) (fun _ => rfl))] at hP1
  exact hP1
theorem v_iald {o n j : Nat} {z : Int} (hd : decode mi.2.1 pc = .ok (.iaload, 1)) (hs : SH o = .inl (.int, n)) (hc : o < K) (hz : z = (j : Int)) (hj : j < n) (kk : V G fr lo bc bs mi (pc + 1) lv (vi (M.1 o j) :: st) K M Z) : V G fr lo bc bs mi pc lv (vi z :: vr o :: st) K M Z := by
  intro p e s m args below meth c mc ms H locs ls cells slots C hR hS hL hE h1 h2
  subst hz
  have hn := sh_small hs
  rw [List.map_cons, st_r hc hR.1]
  refine va_iald (D := gD G) C.1 C.2.1 C.2.2.2.2.2.2.2.2.1 hR.2 o 0 (cell_a hs hc) rfl (i32_in hj hn) hd ?_
  have h := kk p e s m args below meth c mc ms H locs ls cells slots C hR hS hL hE h1 h2
  rw [i32_nat (by omega)]
  exact h
theorem v_bald {o n j : Nat} {z : Int} (hd : decode mi.2.1 pc = .ok (.baload, 1)) (hs : SH o = .inl (.byte, n)) (hc : o < K) (hz : z = (j : Int)) (hj : j < n) (kk : V G fr lo bc bs mi (pc + 1) lv (vi (M.1 o j) :: st) K M Z) : V G fr lo bc bs mi pc lv (vi z :: vr o :: st) K M Z := by
  intro p e s m args below meth c mc ms H locs ls cells slots C hR hS hL hE h1 h2
  subst hz
  have hn := sh_small hs
  rw [List.map_cons, st_r hc hR.1]
  refine va_bald (D := gD G) C.1 C.2.1 C.2.2.2.2.2.2.2.2.1 hR.2 o 1 (cell_a hs hc) rfl (i32_in hj hn) hd ?_
  have h := kk p e s m args below meth c mc ms H locs ls cells slots C hR hS hL hE h1 h2
  rw [i32_nat (by omega)]
  exact h
theorem v_lald {o n j : Nat} {z : Int} (hd : decode mi.2.1 pc = .ok (.laload, 1)) (hs : SH o = .inl (.long, n)) (hc : o < K) (hz : z = (j : Int)) (hj : j < n) (kk : V G fr lo bc bs mi (pc + 1) lv (vl (M.1 o j) :: st) K M Z) : V G fr lo bc bs mi pc lv (vi z :: vr o :: st) K M Z := by
  intro p e s m args below meth c mc ms H locs ls cells slots C hR hS hL hE h1 h2
  subst hz
  have hn := sh_small hs
  rw [List.map_cons, st_r hc hR.1]
  refine va_lald (D := gD G) C.1 C.2.1 C.2.2.2.2.2.2.2.2.1 hR.2 o 2 (cell_a hs hc) rfl (i32_in hj hn) hd ?_
  have h := kk p e s m args below meth c mc ms H locs ls cells slots C hR hS hL hE h1 h2
  rw [i32_nat (by omega)]
  exact h
theorem v_zald {o n j : Nat} {z : Int} (hd : decode mi.2.1 pc = .ok (.baload, 1)) (hs : SH o = .inl (.boolean, n)) (hc : o < K) (hz : z = (j : Int)) (hj : j < n) (kk : V G fr lo bc bs mi (pc + 1) lv (vi (M.1 o j) :: st) K M Z) : V G fr lo bc bs mi pc lv (vi z :: vr o :: st) K M Z := by
  intro p e s m args below meth c mc ms H locs ls cells slots C hR hS hL hE h1 h2
  subst hz
  have hn := sh_small hs
  rw [List.map_cons, st_r hc hR.1]
  refine va_zald (D := gD G) C.1 C.2.1 C.2.2.2.2.2.2.2.2.1 hR.2 o 3 (cell_a hs hc) rfl (i32_in hj hn) hd ?_
  have h := kk p e s m args below meth c mc ms H locs ls cells slots C hR hS hL hE h1 h2
  rw [i32_nat (by omega)]
  exact h
theorem v_aald4 {o n j t : Nat} {z : Int} (hd : decode mi.2.1 pc = .ok (.aaload, 1)) (hs : SH o = .inl (.object "GlassEyes$Court", n)) (hc : o < K) (hz : z = (j : Int)) (hj : j < n) (hr : M.2 o j = some t) (kk : V G fr lo bc bs mi (pc + 1) lv (vr t :: st) K M Z) : V G fr lo bc bs mi pc lv (vi z :: vr o :: st) K M Z := by
  intro p e s m args below meth c mc ms H locs ls cells slots C hR hS hL hE h1 h2
  subst hz
  have hn := sh_small hs
  rw [List.map_cons, st_r hc hR.1]
  refine va_aldq (D := gD G) (C := "GlassEyes$Court") C.1 C.2.1 C.2.2.2.2.2.2.2.2.1 hR.2 o 4 (cell_a hs hc) rfl (i32_in hj hn) hd ?_
  have h := kk p e s m args below meth c mc ms H locs ls cells slots C hR hS hL hE h1 h2
  rw [i32_nat (by omega)]
  show W _ _ _ _ _ _ _ _ _ _ _ _ _ _ _ (F0 m (pc + 1) ls (va_rf ((M.2 o j).map (rf G)) :: st.map (tv G)))
  rw [hr]
  exact h
theorem v_aald5 {o n j t : Nat} {z : Int} (hd : decode mi.2.1 pc = .ok (.aaload, 1)) (hs : SH o = .inl (.object "GlassEyes$Script", n)) (hc : o < K) (hz : z = (j : Int)) (hj : j < n) (hr : M.2 o j = some t) (kk : V G fr lo bc bs mi (pc + 1) lv (vr t :: st) K M Z) : V G fr lo bc bs mi pc lv (vi z :: vr o :: st) K M Z := by
  intro p e s m args below meth c mc ms H locs ls cells slots C hR hS hL hE h1 h2
  subst hz
  have hn := sh_small hs
  rw [List.map_cons, st_r hc hR.1]
  refine va_aldq (D := gD G) (C := "GlassEyes$Script") C.1 C.2.1 C.2.2.2.2.2.2.2.2.1 hR.2 o 5 (cell_a hs hc) rfl (i32_in hj hn) hd ?_
  have h := kk p e s m args below meth c mc ms H locs ls cells slots C hR hS hL hE h1 h2
  rw [i32_nat (by omega)]
  show W _ _ _ _ _ _ _ _ _ _ _ _ _ _ _ (F0 m (pc + 1) ls (va_rf ((M.2 o j).map (rf G)) :: st.map (tv G)))
  rw [hr]
  exact h
theorem v_iast {o n j : Nat} {x z : Int} (hd : decode mi.2.1 pc = .ok (.iastore, 1)) (hs : SH o = .inl (.int, n)) (hc : o < K) (hz : z = (j : Int)) (hj : j < n) (kk : V G fr lo bc bs mi (pc + 1) lv st K (upm M.1 o j (x), M.2) Z) : V G fr lo bc bs mi pc lv (vi x :: vi z :: vr o :: st) K M Z := by
  intro p e s m args below meth c mc ms H locs ls cells slots C hR hS hL hE h1 h2
  subst hz
  have hn := sh_small hs
  rw [List.map_cons, List.map_cons, st_r hc hR.1]
  refine va_iast (D := gD G) C.1 C.2.1 C.2.2.2.2.2.2.2.2.1 hR.2 cw_D hS o 0 (cell_a hs hc) rfl (i32_in hj hn) hd (fun H1 locs1 hP1 _ hS1 => kk p e s m args below meth c mc ms H1 locs1 ls cells slots C ⟨hR.1, ?_⟩ hS1 hL hE h1 h2)
  rw [i32_nat (by omega), cw_set (G := G) (K := K) (M := M) (M' := (upm M.1 o j (x), M.2)) (arr_cell hs rfl rfl) (fun j hj => cell_ne (upm_ne hj) (fun _ => rfl))] at hP1
  exact hP1
theorem v_bast {o n j : Nat} {x z : Int} (hd : decode mi.2.1 pc = .ok (.bastore, 1)) (hs : SH o = .inl (.byte, n)) (hc : o < K) (hz : z = (j : Int)) (hj : j < n) (kk : V G fr lo bc bs mi (pc + 1) lv st K (upm M.1 o j (i2b x), M.2) Z) : V G fr lo bc bs mi pc lv (vi x :: vi z :: vr o :: st) K M Z := by
  intro p e s m args below meth c mc ms H locs ls cells slots C hR hS hL hE h1 h2
  subst hz
  have hn := sh_small hs
  rw [List.map_cons, List.map_cons, st_r hc hR.1]
  refine va_bast (D := gD G) C.1 C.2.1 C.2.2.2.2.2.2.2.2.1 hR.2 cw_D hS o 1 (cell_a hs hc) rfl (i32_in hj hn) hd (fun H1 locs1 hP1 _ hS1 => kk p e s m args below meth c mc ms H1 locs1 ls cells slots C ⟨hR.1, ?_⟩ hS1 hL hE h1 h2)
  rw [i32_nat (by omega), cw_set (G := G) (K := K) (M := M) (M' := (upm M.1 o j (i2b x), M.2)) (arr_cell hs rfl (by rw [vp_nar_byte, i2b, i32_of])) (fun j hj => cell_ne (upm_ne hj) (fun _ => rfl))] at hP1
  exact hP1
theorem v_zast {o n j : Nat} {x z : Int} (hd : decode mi.2.1 pc = .ok (.bastore, 1)) (hs : SH o = .inl (.boolean, n)) (hc : o < K) (hz : z = (j : Int)) (hj : j < n) (kk : V G fr lo bc bs mi (pc + 1) lv st K (upm M.1 o j (i2z x), M.2) Z) : V G fr lo bc bs mi pc lv (vi x :: vi z :: vr o :: st) K M Z := by
  intro p e s m args below meth c mc ms H locs ls cells slots C hR hS hL hE h1 h2
  subst hz
  have hn := sh_small hs
  rw [List.map_cons, List.map_cons, st_r hc hR.1]
  refine va_zast (D := gD G) C.1 C.2.1 C.2.2.2.2.2.2.2.2.1 hR.2 cw_D hS o 3 (cell_a hs hc) rfl (i32_in hj hn) hd (fun H1 locs1 hP1 _ hS1 => kk p e s m args below meth c mc ms H1 locs1 ls cells slots C ⟨hR.1, ?_⟩ hS1 hL hE h1 h2)
  rw [i32_nat (by omega), cw_set (G := G) (K := K) (M := M) (M' := (upm M.1 o j (i2z x), M.2)) (arr_cell hs rfl (by rw [i2z, i32_of])) (fun j hj => cell_ne (upm_ne hj) (fun _ => rfl))] at hP1
  exact hP1
theorem v_last {o n j : Nat} {x z : Int} (hd : decode mi.2.1 pc = .ok (.lastore, 1)) (hs : SH o = .inl (.long, n)) (hc : o < K) (hz : z = (j : Int)) (hj : j < n) (kk : V G fr lo bc bs mi (pc + 1) lv st K (upm M.1 o j x, M.2) Z) : V G fr lo bc bs mi pc lv (vl x :: vi z :: vr o :: st) K M Z := by
  intro p e s m args below meth c mc ms H locs ls cells slots C hR hS hL hE h1 h2
  subst hz
  have hn := sh_small hs
  rw [List.map_cons, List.map_cons, st_r hc hR.1]
  refine va_last (D := gD G) C.1 C.2.1 C.2.2.2.2.2.2.2.2.1 hR.2 cw_D hS o 2 (cell_a hs hc) rfl (i32_in hj hn) hd (fun H1 locs1 hP1 _ hS1 => kk p e s m args below meth c mc ms H1 locs1 ls cells slots C ⟨hR.1, ?_⟩ hS1 hL hE h1 h2)
  rw [i32_nat (by omega), cw_set (G := G) (K := K) (M := M) (M' := (upm M.1 o j x, M.2)) (arr_cellL hs) (fun j hj => cell_ne (upm_ne hj) (fun _ => rfl))] at hP1
  exact hP1
theorem v_aast4 {o n j t ci : Nat} {z : Int} {r : vw_C} (hd : decode mi.2.1 pc = .ok (.aastore, 1)) (hs : SH o = .inl (.object "GlassEyes$Court", n)) (hc : o < K) (hz : z = (j : Int)) (hj : j < n) (hst : SH t = .inr ci) (htK : t < K) (hr : vwCl[ci]? = some r) (hr1 : r.1 = "GlassEyes$Court") (kk : V G fr lo bc bs mi (pc + 1) lv st K (M.1, upr M.2 o j (some t)) Z) : V G fr lo bc bs mi pc lv (vr t :: vi z :: vr o :: st) K M Z := by
  intro p e s m args below meth c mc ms H locs ls cells slots C hR hS hL hE h1 h2
  subst hz
  have hn := sh_small hs
  rw [st_r htK hR.1, List.map_cons, st_r hc hR.1]
  refine va_astq (D := gD G) C.1 C.2.1 C.2.2.2.2.2.2.2.2.1 hR.2 cw_D hS o 4 t ci (cell_a hs hc) (by rw [hr1]; rfl) (cell_o hst htK) hr (i32_in hj hn) hd (fun H1 locs1 hP1 _ hS1 => kk p e s m args below meth c mc ms H1 locs1 ls cells slots C ⟨hR.1, ?_⟩ hS1 hL hE h1 h2)
  rw [i32_nat (by omega), ← rf_cell htK hR.1, cw_set (G := G) (K := K) (M := M) (M' := (M.1, upr M.2 o j (some t))) (arr_cellR hs) (fun j hj => cell_ne (fun _ => rfl) (upr_ne hj))] at hP1
  exact hP1
theorem v_aast5 {o n j t ci : Nat} {z : Int} {r : vw_C} (hd : decode mi.2.1 pc = .ok (.aastore, 1)) (hs : SH o = .inl (.object "GlassEyes$Script", n)) (hc : o < K) (hz : z = (j : Int)) (hj : j < n) (hst : SH t = .inr ci) (htK : t < K) (hr : vwCl[ci]? = some r) (hr1 : r.1 = "GlassEyes$Script") (kk : V G fr lo bc bs mi (pc + 1) lv st K (M.1, upr M.2 o j (some t)) Z) : V G fr lo bc bs mi pc lv (vr t :: vi z :: vr o :: st) K M Z := by
  intro p e s m args below meth c mc ms H locs ls cells slots C hR hS hL hE h1 h2
  subst hz
  have hn := sh_small hs
  rw [st_r htK hR.1, List.map_cons, st_r hc hR.1]
  refine va_astq (D := gD G) C.1 C.2.1 C.2.2.2.2.2.2.2.2.1 hR.2 cw_D hS o 5 t ci (cell_a hs hc) (by rw [hr1]; rfl) (cell_o hst htK) hr (i32_in hj hn) hd (fun H1 locs1 hP1 _ hS1 => kk p e s m args below meth c mc ms H1 locs1 ls cells slots C ⟨hR.1, ?_⟩ hS1 hL hE h1 h2)
  rw [i32_nat (by omega), ← rf_cell htK hR.1, cw_set (G := G) (K := K) (M := M) (M' := (M.1, upr M.2 o j (some t))) (arr_cellR hs) (fun j hj => cell_ne (fun _ => rfl) (upr_ne hj))] at hP1
  exact hP1
theorem v_alen0 {o n : Nat} (hd : decode mi.2.1 pc = .ok (.arraylength, 1)) (hs : SH o = .inl (.int, n)) (hc : o < K) (kk : V G fr lo bc bs mi (pc + 1) lv (vi (n : Int) :: st) K M Z) : V G fr lo bc bs mi pc lv (vr o :: st) K M Z := by
  intro p e s m args below meth c mc ms H locs ls cells slots C hR hS hL hE h1 h2
  rw [st_r hc hR.1]
  exact va_alen (D := gD G) C.1 C.2.1 C.2.2.2.2.2.2.2.2.1 hR.2 o 0 (cell_a hs hc) rfl (v := i32 (n : Int)) (Int32.ofInt_eq_ofNat.symm) hd (kk p e s m args below meth c mc ms H locs ls cells slots C hR hS hL hE h1 h2)
theorem v_alen1 {o n : Nat} (hd : decode mi.2.1 pc = .ok (.arraylength, 1)) (hs : SH o = .inl (.byte, n)) (hc : o < K) (kk : V G fr lo bc bs mi (pc + 1) lv (vi (n : Int) :: st) K M Z) : V G fr lo bc bs mi pc lv (vr o :: st) K M Z := by
  intro p e s m args below meth c mc ms H locs ls cells slots C hR hS hL hE h1 h2
  rw [st_r hc hR.1]
  exact va_alen (D := gD G) C.1 C.2.1 C.2.2.2.2.2.2.2.2.1 hR.2 o 1 (cell_a hs hc) rfl (v := i32 (n : Int)) (Int32.ofInt_eq_ofNat.symm) hd (kk p e s m args below meth c mc ms H locs ls cells slots C hR hS hL hE h1 h2)
theorem v_alen2 {o n : Nat} (hd : decode mi.2.1 pc = .ok (.arraylength, 1)) (hs : SH o = .inl (.long, n)) (hc : o < K) (kk : V G fr lo bc bs mi (pc + 1) lv (vi (n : Int) :: st) K M Z) : V G fr lo bc bs mi pc lv (vr o :: st) K M Z := by
  intro p e s m args below meth c mc ms H locs ls cells slots C hR hS hL hE h1 h2
  rw [st_r hc hR.1]
  exact va_alen (D := gD G) C.1 C.2.1 C.2.2.2.2.2.2.2.2.1 hR.2 o 2 (cell_a hs hc) rfl (v := i32 (n : Int)) (Int32.ofInt_eq_ofNat.symm) hd (kk p e s m args below meth c mc ms H locs ls cells slots C hR hS hL hE h1 h2)
theorem v_alen3 {o n : Nat} (hd : decode mi.2.1 pc = .ok (.arraylength, 1)) (hs : SH o = .inl (.boolean, n)) (hc : o < K) (kk : V G fr lo bc bs mi (pc + 1) lv (vi (n : Int) :: st) K M Z) : V G fr lo bc bs mi pc lv (vr o :: st) K M Z := by
  intro p e s m args below meth c mc ms H locs ls cells slots C hR hS hL hE h1 h2
  rw [st_r hc hR.1]
  exact va_alen (D := gD G) C.1 C.2.1 C.2.2.2.2.2.2.2.2.1 hR.2 o 3 (cell_a hs hc) rfl (v := i32 (n : Int)) (Int32.ofInt_eq_ofNat.symm) hd (kk p e s m args below meth c mc ms H locs ls cells slots C hR hS hL hE h1 h2)
theorem v_copy {i o0 o1 n0 n1 sp dp n : Nat} {zs zd zn : Int} (hd : decode mi.2.1 pc = .ok (.invokestatic i, 3)) (hm : Cond.methodLink mi.1.cls i arraycopyName ∈ gtb) (hw : Cond.native arraycopyName ∈ gtb ∧ Cond.static arraycopyName ∈ gtb ∧ Cond.initialized "java/lang/System" ∈ gtb) (hs0 : SH o0 = .inl (.int, n0)) (hs1 : SH o1 = .inl (.int, n1)) (hc0 : o0 < K) (hc1 : o1 < K) (es : zs = (sp : Int)) (ed : zd = (dp : Int)) (en : zn = (n : Int)) (b0 : sp + n ≤ n0) (b1 : dp + n ≤ n1) (hfr : 1 ≤ fr) (hlo : (st.map fun v => (tv G v).category).sum + (nativeFrameWords "java/lang/System" "arraycopy" 5 + 11) ≤ lo) (kk : V G fr lo bc bs mi (pc + 3) lv st K (cpm M.1 o0 sp o1 dp n, M.2) Z) : V G fr lo bc bs mi pc lv (vi zn :: vi zd :: vr o1 :: vi zs :: vr o0 :: st) K M Z := by
  intro p e s m args below meth c mc ms H locs ls cells slots C hR hS hL hE h1 h2
  subst es ed en
  have g0 := sh_small hs0
  have g1 := sh_small hs1
  have nz : ∀ x : Nat, x < 2147483648 → ¬ i32 (x : Int) < 0 := fun x hx q => by
    rw [show (0 : Int32) = i32 0 from rfl, i32_lt (by omega) (by omega)] at q
    omega
  rw [List.map_cons, List.map_cons, st_r hc1 hR.1, List.map_cons, st_r hc0 hR.1]
  refine va_copyi (D := gD G) C.1 C.2.1 (C.2.2.2.1.trans hL.1.symm) C.2.2.2.2.1 (C.2.2.2.2.2.1 _ hm) (C.2.2.2.2.2.1 _ hw.1) (C.2.2.2.2.2.1 _ hw.2.1) (C.2.2.2.2.2.1 _ hw.2.2) C.2.2.2.2.2.2.2.2.1 hR.2 cw_D hS o0 o1 0 0 (ty := .int) (cell_a hs0 hc0) (cell_a hs1 hc1) rfl rfl rfl (nz sp (by omega)) (nz dp (by omega)) (nz n (by omega)) (by rw [i32_nat (by omega), i32_nat (by omega)]; exact b0) (by rw [i32_nat (by omega), i32_nat (by omega)]; exact b1) (fun _ _ => rfl) hfr (by rw [List.map_map]; exact hlo) hd (fun H1 locs1 hP1 _ hS1 => kk p e s m args below meth c mc ms H1 locs1 ls cells slots C ⟨hR.1, ?_⟩ hS1 hL hE h1 h2)
  rw [i32_nat (by omega), i32_nat (by omega), i32_nat (by omega), cw_set (G := G) (K := K) (M := M) (M' := (cpm M.1 o0 sp o1 dp n, M.2)) (cpy_cell hs1) (fun j hj => cell_ne (fun b => by simp [cpm, hj]) (fun _ => rfl))] at hP1
  exact hP1
end GeMem
