section GeRules
variable {G : GG} {fr lo bc bs : Nat} {mi : MI} {pc : Nat} {lv : List (Option PV)} {st : List PV} {K : Nat} {M : Mem} {Z : ZZ}
theorem v_iconst  {n : Int} (hd : decode mi.2.1 pc = .ok (.iconst n, 1)) (k : V G fr lo bc bs mi (pc + 1) lv (vi n :: st) K M Z) : V G fr lo bc bs mi pc lv st K M Z := by
  intro p e s m args below meth c mc ms H locs ls cells slots C hR hS hL hE h1 h2
  exact lv_iconst (v := i32 n) C.1 C.2.1 hd rfl (k p e s m args below meth c mc ms H locs ls cells slots C hR hS hL hE h1 h2)
theorem v_bipush  {n : Int} (hd : decode mi.2.1 pc = .ok (.bipush n, 2)) (hv : (Int8.ofInt n).toInt32 = i32 n) (k : V G fr lo bc bs mi (pc + 2) lv (vi n :: st) K M Z) : V G fr lo bc bs mi pc lv st K M Z := by
  intro p e s m args below meth c mc ms H locs ls cells slots C hR hS hL hE h1 h2
  exact lv_bipush (v := i32 n) C.1 C.2.1 hd hv (k p e s m args below meth c mc ms H locs ls cells slots C hR hS hL hE h1 h2)
theorem v_sipush  {n : Int} (hd : decode mi.2.1 pc = .ok (.sipush n, 3)) (hv : (Int16.ofInt n).toInt32 = i32 n) (k : V G fr lo bc bs mi (pc + 3) lv (vi n :: st) K M Z) : V G fr lo bc bs mi pc lv st K M Z := by
  intro p e s m args below meth c mc ms H locs ls cells slots C hR hS hL hE h1 h2
  exact lv_sipush (v := i32 n) C.1 C.2.1 hd hv (k p e s m args below meth c mc ms H locs ls cells slots C hR hS hL hE h1 h2)
theorem v_lconst  {n : Fin 2} {z : Int} (hd : decode mi.2.1 pc = .ok (.lconst n, 1)) (hz : Int64.ofNat (n : Nat) = i64 z) (k : V G fr lo bc bs mi (pc + 1) lv (vl z :: st) K M Z) : V G fr lo bc bs mi pc lv st K M Z := by
  intro p e s m args below meth c mc ms H locs ls cells slots C hR hS hL hE h1 h2
  exact lv_lconst (v := i64 z) C.1 C.2.1 hd hz (k p e s m args below meth c mc ms H locs ls cells slots C hR hS hL hE h1 h2)
theorem v_ldc  {i : Nat} {z : Int} (hd : decode mi.2.1 pc = .ok (.ldc i, 2)) (hc : Cond.constant mi.1.cls i (i32 z) ∈ gtb) (k : V G fr lo bc bs mi (pc + 2) lv (vi z :: st) K M Z) : V G fr lo bc bs mi pc lv st K M Z := by
  intro p e s m args below meth c mc ms H locs ls cells slots C hR hS hL hE h1 h2
  exact lv_ldc (v := i32 z) C.1 C.2.1 C.2.2.2.2.1 (C.2.2.2.2.2.1 _ hc) hd (k p e s m args below meth c mc ms H locs ls cells slots C hR hS hL hE h1 h2)
theorem v_ldc_w  {i : Nat} {z : Int} (hd : decode mi.2.1 pc = .ok (.ldc_w i, 3)) (hc : Cond.constant mi.1.cls i (i32 z) ∈ gtb) (k : V G fr lo bc bs mi (pc + 3) lv (vi z :: st) K M Z) : V G fr lo bc bs mi pc lv st K M Z := by
  intro p e s m args below meth c mc ms H locs ls cells slots C hR hS hL hE h1 h2
  exact lv_ldcw (v := i32 z) C.1 C.2.1 C.2.2.2.2.1 (C.2.2.2.2.2.1 _ hc) hd (k p e s m args below meth c mc ms H locs ls cells slots C hR hS hL hE h1 h2)
theorem v_ldc2  {i : Nat} {z : Int} (hd : decode mi.2.1 pc = .ok (.ldc2_w i, 3)) (hc : Cond.constantLong mi.1.cls i (i64 z) ∈ gtb) (k : V G fr lo bc bs mi (pc + 3) lv (vl z :: st) K M Z) : V G fr lo bc bs mi pc lv st K M Z := by
  intro p e s m args below meth c mc ms H locs ls cells slots C hR hS hL hE h1 h2
  exact lv_ldc2 (v := i64 z) C.1 C.2.1 C.2.2.2.2.1 (C.2.2.2.2.2.1 _ hc) hd (k p e s m args below meth c mc ms H locs ls cells slots C hR hS hL hE h1 h2)
theorem v_iload_n  {j : Fin 4} {i : Nat} {z : Int} (hd : decode mi.2.1 pc = .ok (.iload_n j, 1)) (hi : (j : Nat) = i) (hl : lv[i]? = some (some (vi z))) (k : V G fr lo bc bs mi (pc + 1) lv (vi z :: st) K M Z) : V G fr lo bc bs mi pc lv st K M Z := by
  intro p e s m args below meth c mc ms H locs ls cells slots C hR hS hL hE h1 h2
  exact lv_iload_n C.1 C.2.1 hd hi (ge_at hL hl) (k p e s m args below meth c mc ms H locs ls cells slots C hR hS hL hE h1 h2)
theorem v_iload  {i : Nat} {z : Int} (hd : decode mi.2.1 pc = .ok (.iload i, 2)) (hl : lv[i]? = some (some (vi z))) (k : V G fr lo bc bs mi (pc + 2) lv (vi z :: st) K M Z) : V G fr lo bc bs mi pc lv st K M Z := by
  intro p e s m args below meth c mc ms H locs ls cells slots C hR hS hL hE h1 h2
  exact lv_iload C.1 C.2.1 hd (ge_at hL hl) (k p e s m args below meth c mc ms H locs ls cells slots C hR hS hL hE h1 h2)
theorem v_lload_n  {j : Fin 4} {i : Nat} {z : Int} (hd : decode mi.2.1 pc = .ok (.lload_n j, 1)) (hi : (j : Nat) = i) (hl : lv[i]? = some (some (vl z))) (k : V G fr lo bc bs mi (pc + 1) lv (vl z :: st) K M Z) : V G fr lo bc bs mi pc lv st K M Z := by
  intro p e s m args below meth c mc ms H locs ls cells slots C hR hS hL hE h1 h2
  exact lv_lload_n C.1 C.2.1 hd hi (ge_at hL hl) (k p e s m args below meth c mc ms H locs ls cells slots C hR hS hL hE h1 h2)
theorem v_lload  {i : Nat} {z : Int} (hd : decode mi.2.1 pc = .ok (.lload i, 2)) (hl : lv[i]? = some (some (vl z))) (k : V G fr lo bc bs mi (pc + 2) lv (vl z :: st) K M Z) : V G fr lo bc bs mi pc lv st K M Z := by
  intro p e s m args below meth c mc ms H locs ls cells slots C hR hS hL hE h1 h2
  exact lv_lload C.1 C.2.1 hd (ge_at hL hl) (k p e s m args below meth c mc ms H locs ls cells slots C hR hS hL hE h1 h2)
theorem v_aload_n  {j : Fin 4} {i : Nat} {z : Nat} (hd : decode mi.2.1 pc = .ok (.aload_n j, 1)) (hi : (j : Nat) = i) (hl : lv[i]? = some (some (vr z))) (k : V G fr lo bc bs mi (pc + 1) lv (vr z :: st) K M Z) : V G fr lo bc bs mi pc lv st K M Z := by
  intro p e s m args below meth c mc ms H locs ls cells slots C hR hS hL hE h1 h2
  exact lv_aload_n C.1 C.2.1 hd hi (ge_at hL hl) (k p e s m args below meth c mc ms H locs ls cells slots C hR hS hL hE h1 h2)
theorem v_aload  {i : Nat} {z : Nat} (hd : decode mi.2.1 pc = .ok (.aload i, 2)) (hl : lv[i]? = some (some (vr z))) (k : V G fr lo bc bs mi (pc + 2) lv (vr z :: st) K M Z) : V G fr lo bc bs mi pc lv st K M Z := by
  intro p e s m args below meth c mc ms H locs ls cells slots C hR hS hL hE h1 h2
  exact lv_aload C.1 C.2.1 hd (ge_at hL hl) (k p e s m args below meth c mc ms H locs ls cells slots C hR hS hL hE h1 h2)
theorem v_istore_n  {j : Fin 4} {i : Nat} {z : Int} (hd : decode mi.2.1 pc = .ok (.istore_n j, 1)) (hi : (j : Nat) = i) (hn : i < mi.2.2.1) (k : V G fr lo bc bs mi (pc + 1) (stI lv i (vi z)) st K M Z) : V G fr lo bc bs mi pc lv (vi z :: st) K M Z := by
  intro p e s m args below meth c mc ms H locs ls cells slots C hR hS hL hE h1 h2
  exact lv_istore_n C.1 C.2.1 hd hi hL hn rfl (fun ls1 hL1 => k p e s m args below meth c mc ms H locs ls1 cells slots C hR hS (ge_stI (by rfl) hL1) hE h1 h2)
theorem v_istore  {i : Nat} {z : Int} (hd : decode mi.2.1 pc = .ok (.istore i, 2)) (hn : i < mi.2.2.1) (k : V G fr lo bc bs mi (pc + 2) (stI lv i (vi z)) st K M Z) : V G fr lo bc bs mi pc lv (vi z :: st) K M Z := by
  intro p e s m args below meth c mc ms H locs ls cells slots C hR hS hL hE h1 h2
  exact lv_istore C.1 C.2.1 hd hL hn rfl (fun ls1 hL1 => k p e s m args below meth c mc ms H locs ls1 cells slots C hR hS (ge_stI (by rfl) hL1) hE h1 h2)
theorem v_lstore_n  {j : Fin 4} {i : Nat} {z : Int} (hd : decode mi.2.1 pc = .ok (.lstore_n j, 1)) (hi : (j : Nat) = i) (hn : i + 1 < mi.2.2.1) (k : V G fr lo bc bs mi (pc + 1) (stL lv i (vl z)) st K M Z) : V G fr lo bc bs mi pc lv (vl z :: st) K M Z := by
  intro p e s m args below meth c mc ms H locs ls cells slots C hR hS hL hE h1 h2
  exact lv_lstore_n C.1 C.2.1 hd hi hL hn rfl (fun ls1 hL1 => k p e s m args below meth c mc ms H locs ls1 cells slots C hR hS (ge_stL hL1) hE h1 h2)
theorem v_lstore  {i : Nat} {z : Int} (hd : decode mi.2.1 pc = .ok (.lstore i, 2)) (hn : i + 1 < mi.2.2.1) (k : V G fr lo bc bs mi (pc + 2) (stL lv i (vl z)) st K M Z) : V G fr lo bc bs mi pc lv (vl z :: st) K M Z := by
  intro p e s m args below meth c mc ms H locs ls cells slots C hR hS hL hE h1 h2
  exact lv_lstore C.1 C.2.1 hd hL hn rfl (fun ls1 hL1 => k p e s m args below meth c mc ms H locs ls1 cells slots C hR hS (ge_stL hL1) hE h1 h2)
theorem v_astore_n  {j : Fin 4} {i : Nat} {z : Nat} (hd : decode mi.2.1 pc = .ok (.astore_n j, 1)) (hi : (j : Nat) = i) (hn : i < mi.2.2.1) (k : V G fr lo bc bs mi (pc + 1) (stI lv i (vr z)) st K M Z) : V G fr lo bc bs mi pc lv (vr z :: st) K M Z := by
  intro p e s m args below meth c mc ms H locs ls cells slots C hR hS hL hE h1 h2
  exact lv_astore_n C.1 C.2.1 hd hi hL hn rfl (fun ls1 hL1 => k p e s m args below meth c mc ms H locs ls1 cells slots C hR hS (ge_stI (by rfl) hL1) hE h1 h2)
theorem v_astore  {i : Nat} {z : Nat} (hd : decode mi.2.1 pc = .ok (.astore i, 2)) (hn : i < mi.2.2.1) (k : V G fr lo bc bs mi (pc + 2) (stI lv i (vr z)) st K M Z) : V G fr lo bc bs mi pc lv (vr z :: st) K M Z := by
  intro p e s m args below meth c mc ms H locs ls cells slots C hR hS hL hE h1 h2
  exact lv_astore C.1 C.2.1 hd hL hn rfl (fun ls1 hL1 => k p e s m args below meth c mc ms H locs ls1 cells slots C hR hS (ge_stI (by rfl) hL1) hE h1 h2)
theorem v_iinc {i : Nat} {z n : Int} (hd : decode mi.2.1 pc = .ok (.iinc i n, 3)) (hl : lv[i]? = some (some (vi z))) (hn : i < mi.2.2.1) (k : V G fr lo bc bs mi (pc + 3) (stI lv i (vi (z + n))) st K M Z) : V G fr lo bc bs mi pc lv st K M Z := by
  intro p e s m args below meth c mc ms H locs ls cells slots C hR hS hL hE h1 h2
  obtain ⟨j, hj⟩ := List.getElem?_of_mem ((las_mem (G := G) lv 0 (0 + i, tv G (vi z))).mpr ⟨i, vi z, hl, rfl⟩)
  rw [Nat.zero_add] at hj
  exact lv_iinc (v := i32 (z + n)) C.1 C.2.1 hd hL (k := j) hj (by rw [i32_add]; rfl) hn rfl (fun ls1 hL1 => k p e s m args below meth c mc ms H locs ls1 cells slots C hR hS (ge_stI (G := G) (v := vi (z + n)) (by rfl) hL1) hE h1 h2)
theorem v_iadd  {a b : Int} (hd : decode mi.2.1 pc = .ok (.iadd, 1)) (k : V G fr lo bc bs mi (pc + 1) lv (vi (a + b) :: st) K M Z) : V G fr lo bc bs mi pc lv (vi b :: vi a :: st) K M Z := by
  intro p e s m args below meth c mc ms H locs ls cells slots C hR hS hL hE h1 h2
  refine lv_iadd C.1 C.2.1 hd ?_
  have h := k p e s m args below meth c mc ms H locs ls cells slots C hR hS hL hE h1 h2
  rw [List.map_cons, show tv G (vi (a + b)) = .int (i32 (a + b)) from rfl, i32_add] at h
  exact h
theorem v_isub  {a b : Int} (hd : decode mi.2.1 pc = .ok (.isub, 1)) (k : V G fr lo bc bs mi (pc + 1) lv (vi (a - b) :: st) K M Z) : V G fr lo bc bs mi pc lv (vi b :: vi a :: st) K M Z := by
  intro p e s m args below meth c mc ms H locs ls cells slots C hR hS hL hE h1 h2
  refine lv_isub C.1 C.2.1 hd ?_
  have h := k p e s m args below meth c mc ms H locs ls cells slots C hR hS hL hE h1 h2
  rw [List.map_cons, show tv G (vi (a - b)) = .int (i32 (a - b)) from rfl, i32_sub] at h
  exact h
theorem v_imul  {a b : Int} (hd : decode mi.2.1 pc = .ok (.imul, 1)) (k : V G fr lo bc bs mi (pc + 1) lv (vi (a * b) :: st) K M Z) : V G fr lo bc bs mi pc lv (vi b :: vi a :: st) K M Z := by
  intro p e s m args below meth c mc ms H locs ls cells slots C hR hS hL hE h1 h2
  refine lv_imul C.1 C.2.1 hd ?_
  have h := k p e s m args below meth c mc ms H locs ls cells slots C hR hS hL hE h1 h2
  rw [List.map_cons, show tv G (vi (a * b)) = .int (i32 (a * b)) from rfl, i32_mul] at h
  exact h
theorem v_ladd  {a b : Int} (hd : decode mi.2.1 pc = .ok (.ladd, 1)) (k : V G fr lo bc bs mi (pc + 1) lv (vl (a + b) :: st) K M Z) : V G fr lo bc bs mi pc lv (vl b :: vl a :: st) K M Z := by
  intro p e s m args below meth c mc ms H locs ls cells slots C hR hS hL hE h1 h2
  refine lv_ladd C.1 C.2.1 hd ?_
  have h := k p e s m args below meth c mc ms H locs ls cells slots C hR hS hL hE h1 h2
  rw [List.map_cons, show tv G (vl (a + b)) = .long (i64 (a + b)) from rfl, i64_add] at h
  exact h
theorem v_lsub  {a b : Int} (hd : decode mi.2.1 pc = .ok (.lsub, 1)) (k : V G fr lo bc bs mi (pc + 1) lv (vl (a - b) :: st) K M Z) : V G fr lo bc bs mi pc lv (vl b :: vl a :: st) K M Z := by
  intro p e s m args below meth c mc ms H locs ls cells slots C hR hS hL hE h1 h2
  refine lv_lsub C.1 C.2.1 hd ?_
  have h := k p e s m args below meth c mc ms H locs ls cells slots C hR hS hL hE h1 h2
  rw [List.map_cons, show tv G (vl (a - b)) = .long (i64 (a - b)) from rfl, i64_sub] at h
  exact h
theorem v_lmul  {a b : Int} (hd : decode mi.2.1 pc = .ok (.lmul, 1)) (k : V G fr lo bc bs mi (pc + 1) lv (vl (a * b) :: st) K M Z) : V G fr lo bc bs mi pc lv (vl b :: vl a :: st) K M Z := by
  intro p e s m args below meth c mc ms H locs ls cells slots C hR hS hL hE h1 h2
  refine lv_lmul C.1 C.2.1 hd ?_
  have h := k p e s m args below meth c mc ms H locs ls cells slots C hR hS hL hE h1 h2
  rw [List.map_cons, show tv G (vl (a * b)) = .long (i64 (a * b)) from rfl, i64_mul] at h
  exact h
theorem v_iand  {a b : Int} (hd : decode mi.2.1 pc = .ok (.iand, 1)) (k : V G fr lo bc bs mi (pc + 1) lv (vi (iand a b) :: st) K M Z) : V G fr lo bc bs mi pc lv (vi b :: vi a :: st) K M Z := by
  intro p e s m args below meth c mc ms H locs ls cells slots C hR hS hL hE h1 h2
  refine lv_iand C.1 C.2.1 hd ?_
  have h := k p e s m args below meth c mc ms H locs ls cells slots C hR hS hL hE h1 h2
  rw [List.map_cons, show tv G (vi (iand a b)) = .int (i32 (iand a b)) from rfl, iand, i32_of] at h
  exact h
theorem v_ior  {a b : Int} (hd : decode mi.2.1 pc = .ok (.ior, 1)) (k : V G fr lo bc bs mi (pc + 1) lv (vi (ior a b) :: st) K M Z) : V G fr lo bc bs mi pc lv (vi b :: vi a :: st) K M Z := by
  intro p e s m args below meth c mc ms H locs ls cells slots C hR hS hL hE h1 h2
  refine lv_ior C.1 C.2.1 hd ?_
  have h := k p e s m args below meth c mc ms H locs ls cells slots C hR hS hL hE h1 h2
  rw [List.map_cons, show tv G (vi (ior a b)) = .int (i32 (ior a b)) from rfl, ior, i32_of] at h
  exact h
theorem v_ixor  {a b : Int} (hd : decode mi.2.1 pc = .ok (.ixor, 1)) (k : V G fr lo bc bs mi (pc + 1) lv (vi (ixor a b) :: st) K M Z) : V G fr lo bc bs mi pc lv (vi b :: vi a :: st) K M Z := by
  intro p e s m args below meth c mc ms H locs ls cells slots C hR hS hL hE h1 h2
  refine lv_ixor C.1 C.2.1 hd ?_
  have h := k p e s m args below meth c mc ms H locs ls cells slots C hR hS hL hE h1 h2
  rw [List.map_cons, show tv G (vi (ixor a b)) = .int (i32 (ixor a b)) from rfl, ixor, i32_of] at h
  exact h
theorem v_ishl  {a b : Int} (hd : decode mi.2.1 pc = .ok (.ishl, 1)) (k : V G fr lo bc bs mi (pc + 1) lv (vi (ishl a b) :: st) K M Z) : V G fr lo bc bs mi pc lv (vi b :: vi a :: st) K M Z := by
  intro p e s m args below meth c mc ms H locs ls cells slots C hR hS hL hE h1 h2
  refine lv_ishl C.1 C.2.1 hd ?_
  have h := k p e s m args below meth c mc ms H locs ls cells slots C hR hS hL hE h1 h2
  rw [List.map_cons, show tv G (vi (ishl a b)) = .int (i32 (ishl a b)) from rfl, ishl, i32_of] at h
  exact h
theorem v_ishr  {a b : Int} (hd : decode mi.2.1 pc = .ok (.ishr, 1)) (k : V G fr lo bc bs mi (pc + 1) lv (vi (ishr a b) :: st) K M Z) : V G fr lo bc bs mi pc lv (vi b :: vi a :: st) K M Z := by
  intro p e s m args below meth c mc ms H locs ls cells slots C hR hS hL hE h1 h2
  refine lv_ishr C.1 C.2.1 hd ?_
  have h := k p e s m args below meth c mc ms H locs ls cells slots C hR hS hL hE h1 h2
  rw [List.map_cons, show tv G (vi (ishr a b)) = .int (i32 (ishr a b)) from rfl, ishr, i32_of] at h
  exact h
theorem v_lor  {a b : Int} (hd : decode mi.2.1 pc = .ok (.lor, 1)) (k : V G fr lo bc bs mi (pc + 1) lv (vl (lorr a b) :: st) K M Z) : V G fr lo bc bs mi pc lv (vl b :: vl a :: st) K M Z := by
  intro p e s m args below meth c mc ms H locs ls cells slots C hR hS hL hE h1 h2
  refine lv_lor C.1 C.2.1 hd ?_
  have h := k p e s m args below meth c mc ms H locs ls cells slots C hR hS hL hE h1 h2
  rw [List.map_cons, show tv G (vl (lorr a b)) = .long (i64 (lorr a b)) from rfl, lorr, i64_of] at h
  exact h
theorem v_idiv  {a b : Int} (hd : decode mi.2.1 pc = .ok (.idiv, 1)) (hb : rng b) (h0 : b ≠ 0) (k : V G fr lo bc bs mi (pc + 1) lv (vi (idiv a b) :: st) K M Z) : V G fr lo bc bs mi pc lv (vi b :: vi a :: st) K M Z := by
  intro p e s m args below meth c mc ms H locs ls cells slots C hR hS hL hE h1 h2
  refine lv_idiv C.1 C.2.1 hd (fun z => h0 ((i32_eq hb (by omega)).mp z)) ?_
  have h := k p e s m args below meth c mc ms H locs ls cells slots C hR hS hL hE h1 h2
  rw [List.map_cons, show tv G (vi (idiv a b)) = .int (i32 (idiv a b)) from rfl, idiv, i32_of] at h
  exact h
theorem v_irem  {a b : Int} (hd : decode mi.2.1 pc = .ok (.irem, 1)) (hb : rng b) (h0 : b ≠ 0) (k : V G fr lo bc bs mi (pc + 1) lv (vi (a - idiv a b * b) :: st) K M Z) : V G fr lo bc bs mi pc lv (vi b :: vi a :: st) K M Z := by
  intro p e s m args below meth c mc ms H locs ls cells slots C hR hS hL hE h1 h2
  refine lv_irem C.1 C.2.1 hd (fun z => h0 ((i32_eq hb (by omega)).mp z)) ?_
  have h := k p e s m args below meth c mc ms H locs ls cells slots C hR hS hL hE h1 h2
  rw [List.map_cons, show tv G (vi (a - idiv a b * b)) = .int (i32 (a - idiv a b * b)) from rfl, i32_sub, i32_mul, idiv, i32_of] at h
  exact h
theorem v_ldiv  {a b : Int} (hd : decode mi.2.1 pc = .ok (.ldiv, 1)) (hb : rnl b) (h0 : b ≠ 0) (k : V G fr lo bc bs mi (pc + 1) lv (vl (ldiv a b) :: st) K M Z) : V G fr lo bc bs mi pc lv (vl b :: vl a :: st) K M Z := by
  intro p e s m args below meth c mc ms H locs ls cells slots C hR hS hL hE h1 h2
  refine lv_ldiv C.1 C.2.1 hd (fun z => h0 ((i64_eq hb (by omega)).mp z)) ?_
  have h := k p e s m args below meth c mc ms H locs ls cells slots C hR hS hL hE h1 h2
  rw [List.map_cons, show tv G (vl (ldiv a b)) = .long (i64 (ldiv a b)) from rfl, ldiv, i64_of] at h
  exact h
theorem v_iushr  {a b : Int} (hd : decode mi.2.1 pc = .ok (.iushr, 1)) (k : V G fr lo bc bs mi (pc + 1) lv (vi (iushr a b) :: st) K M Z) : V G fr lo bc bs mi pc lv (vi b :: vi a :: st) K M Z := by
  intro p e s m args below meth c mc ms H locs ls cells slots C hR hS hL hE h1 h2
  exact lv_iushr (v := i32 (iushr a b)) C.1 C.2.1 hd (by rw [iushr, i32_of]) (k p e s m args below meth c mc ms H locs ls cells slots C hR hS hL hE h1 h2)
theorem v_lshl  {a b : Int} (hd : decode mi.2.1 pc = .ok (.lshl, 1)) (k : V G fr lo bc bs mi (pc + 1) lv (vl (lshl a b) :: st) K M Z) : V G fr lo bc bs mi pc lv (vi b :: vl a :: st) K M Z := by
  intro p e s m args below meth c mc ms H locs ls cells slots C hR hS hL hE h1 h2
  exact lv_lshl (v := i64 (lshl a b)) C.1 C.2.1 hd (by rw [lshl, i64_of]) (k p e s m args below meth c mc ms H locs ls cells slots C hR hS hL hE h1 h2)
theorem v_ineg  {a : Int} (hd : decode mi.2.1 pc = .ok (.ineg, 1)) (k : V G fr lo bc bs mi (pc + 1) lv (vi (-a) :: st) K M Z) : V G fr lo bc bs mi pc lv (vi a :: st) K M Z := by
  intro p e s m args below meth c mc ms H locs ls cells slots C hR hS hL hE h1 h2
  refine lv_ineg C.1 C.2.1 hd ?_
  have h := k p e s m args below meth c mc ms H locs ls cells slots C hR hS hL hE h1 h2
  rw [List.map_cons, show tv G (vi (-a)) = .int (i32 (-a)) from rfl, i32_neg] at h
  exact h
theorem v_lneg  {a : Int} (hd : decode mi.2.1 pc = .ok (.lneg, 1)) (k : V G fr lo bc bs mi (pc + 1) lv (vl (-a) :: st) K M Z) : V G fr lo bc bs mi pc lv (vl a :: st) K M Z := by
  intro p e s m args below meth c mc ms H locs ls cells slots C hR hS hL hE h1 h2
  refine lv_lneg C.1 C.2.1 hd ?_
  have h := k p e s m args below meth c mc ms H locs ls cells slots C hR hS hL hE h1 h2
  rw [List.map_cons, show tv G (vl (-a)) = .long (i64 (-a)) from rfl, i64_neg] at h
  exact h
theorem v_i2l  {a : Int} (hd : decode mi.2.1 pc = .ok (.i2l, 1)) (ha : rng a) (k : V G fr lo bc bs mi (pc + 1) lv (vl a :: st) K M Z) : V G fr lo bc bs mi pc lv (vi a :: st) K M Z := by
  intro p e s m args below meth c mc ms H locs ls cells slots C hR hS hL hE h1 h2
  exact lv_i2l (v := i64 a) C.1 C.2.1 hd (by rw [← Int64.toInt_inj, Int32.toInt_toInt64, i32_toInt ha, i64_toInt (by omega)]) (k p e s m args below meth c mc ms H locs ls cells slots C hR hS hL hE h1 h2)
theorem v_l2i  {a : Int} (hd : decode mi.2.1 pc = .ok (.l2i, 1)) (k : V G fr lo bc bs mi (pc + 1) lv (vi a :: st) K M Z) : V G fr lo bc bs mi pc lv (vl a :: st) K M Z := by
  intro p e s m args below meth c mc ms H locs ls cells slots C hR hS hL hE h1 h2
  exact lv_l2i (v := i32 a) C.1 C.2.1 hd Int64.toInt32_ofInt (k p e s m args below meth c mc ms H locs ls cells slots C hR hS hL hE h1 h2)
theorem v_i2b  {a : Int} (hd : decode mi.2.1 pc = .ok (.i2b, 1)) (k : V G fr lo bc bs mi (pc + 1) lv (vi (i2b a) :: st) K M Z) : V G fr lo bc bs mi pc lv (vi a :: st) K M Z := by
  intro p e s m args below meth c mc ms H locs ls cells slots C hR hS hL hE h1 h2
  exact lv_i2b (v := i32 (i2b a)) C.1 C.2.1 hd (by rw [i2b, i32_of]) (k p e s m args below meth c mc ms H locs ls cells slots C hR hS hL hE h1 h2)
theorem v_i2c  {a : Int} (hd : decode mi.2.1 pc = .ok (.i2c, 1)) (k : V G fr lo bc bs mi (pc + 1) lv (vi (i2c a) :: st) K M Z) : V G fr lo bc bs mi pc lv (vi a :: st) K M Z := by
  intro p e s m args below meth c mc ms H locs ls cells slots C hR hS hL hE h1 h2
  exact lv_i2c (v := i32 (i2c a)) C.1 C.2.1 hd (by rw [i2c, i32_of]) (k p e s m args below meth c mc ms H locs ls cells slots C hR hS hL hE h1 h2)
theorem v_dupi  {a : Int} (hd : decode mi.2.1 pc = .ok (.dup, 1)) (k : V G fr lo bc bs mi (pc + 1) lv (vi a :: vi a :: st) K M Z) : V G fr lo bc bs mi pc lv (vi a :: st) K M Z := by
  intro p e s m args below meth c mc ms H locs ls cells slots C hR hS hL hE h1 h2
  exact lv_dup C.1 C.2.1 hd rfl (k p e s m args below meth c mc ms H locs ls cells slots C hR hS hL hE h1 h2)
theorem v_dupr  {a : Nat} (hd : decode mi.2.1 pc = .ok (.dup, 1)) (k : V G fr lo bc bs mi (pc + 1) lv (vr a :: vr a :: st) K M Z) : V G fr lo bc bs mi pc lv (vr a :: st) K M Z := by
  intro p e s m args below meth c mc ms H locs ls cells slots C hR hS hL hE h1 h2
  exact lv_dup C.1 C.2.1 hd rfl (k p e s m args below meth c mc ms H locs ls cells slots C hR hS hL hE h1 h2)
theorem v_popi  {a : Int} (hd : decode mi.2.1 pc = .ok (.pop, 1)) (k : V G fr lo bc bs mi (pc + 1) lv st K M Z) : V G fr lo bc bs mi pc lv (vi a :: st) K M Z := by
  intro p e s m args below meth c mc ms H locs ls cells slots C hR hS hL hE h1 h2
  exact lv_pop C.1 C.2.1 hd rfl (k p e s m args below meth c mc ms H locs ls cells slots C hR hS hL hE h1 h2)
theorem v_dup2ir  {a : Int} {b : Nat} (hd : decode mi.2.1 pc = .ok (.dup2, 1)) (k : V G fr lo bc bs mi (pc + 1) lv (vi a :: vr b :: vi a :: vr b :: st) K M Z) : V G fr lo bc bs mi pc lv (vi a :: vr b :: st) K M Z := by
  intro p e s m args below meth c mc ms H locs ls cells slots C hR hS hL hE h1 h2
  exact lv_dup2_11 C.1 C.2.1 hd rfl rfl (k p e s m args below meth c mc ms H locs ls cells slots C hR hS hL hE h1 h2)
theorem v_icmp_eq  {a b off : Int} {tgt : Nat} (hd : decode mi.2.1 pc = .ok (.if_icmp .eq off, 3)) (ht : (pc : Int) + off = (tgt : Int)) (ha : rng a) (hb : rng b) (kt : a = b → V G fr lo bc bs mi tgt lv st K M Z) (kf : ¬ (a = b) → V G fr lo bc bs mi (pc + 3) lv st K M Z) : V G fr lo bc bs mi pc lv (vi b :: vi a :: st) K M Z := by
  intro p e s m args below meth c mc ms H locs ls cells slots C hR hS hL hE h1 h2
  exact lv_icmp_eq C.1 C.2.1 hd ht (fun q => kt ((i32_eq ha hb).mp q) p e s m args below meth c mc ms H locs ls cells slots C hR hS hL hE h1 h2) (fun q => kf (fun z => q ((i32_eq ha hb).mpr z)) p e s m args below meth c mc ms H locs ls cells slots C hR hS hL hE h1 h2)
theorem v_if_eq  {a off : Int} {tgt : Nat} (hd : decode mi.2.1 pc = .ok (.ifCond .eq off, 3)) (ht : (pc : Int) + off = (tgt : Int)) (ha : rng a) (kt : a = 0 → V G fr lo bc bs mi tgt lv st K M Z) (kf : ¬ (a = 0) → V G fr lo bc bs mi (pc + 3) lv st K M Z) : V G fr lo bc bs mi pc lv (vi a :: st) K M Z := by
  intro p e s m args below meth c mc ms H locs ls cells slots C hR hS hL hE h1 h2
  exact lv_if_eq C.1 C.2.1 hd ht (fun q => kt ((i32_eq ha (by omega : rng 0)).mp q) p e s m args below meth c mc ms H locs ls cells slots C hR hS hL hE h1 h2) (fun q => kf (fun z => q ((i32_eq ha (by omega : rng 0)).mpr z)) p e s m args below meth c mc ms H locs ls cells slots C hR hS hL hE h1 h2)
theorem v_icmp_ne  {a b off : Int} {tgt : Nat} (hd : decode mi.2.1 pc = .ok (.if_icmp .ne off, 3)) (ht : (pc : Int) + off = (tgt : Int)) (ha : rng a) (hb : rng b) (kt : ¬ a = b → V G fr lo bc bs mi tgt lv st K M Z) (kf : a = b → V G fr lo bc bs mi (pc + 3) lv st K M Z) : V G fr lo bc bs mi pc lv (vi b :: vi a :: st) K M Z := by
  intro p e s m args below meth c mc ms H locs ls cells slots C hR hS hL hE h1 h2
  exact lv_icmp_ne C.1 C.2.1 hd ht (fun q => kt (fun z => q ((i32_eq ha hb).mpr z)) p e s m args below meth c mc ms H locs ls cells slots C hR hS hL hE h1 h2) (fun q => kf ((i32_eq ha hb).mp q) p e s m args below meth c mc ms H locs ls cells slots C hR hS hL hE h1 h2)
theorem v_if_ne  {a off : Int} {tgt : Nat} (hd : decode mi.2.1 pc = .ok (.ifCond .ne off, 3)) (ht : (pc : Int) + off = (tgt : Int)) (ha : rng a) (kt : ¬ a = 0 → V G fr lo bc bs mi tgt lv st K M Z) (kf : a = 0 → V G fr lo bc bs mi (pc + 3) lv st K M Z) : V G fr lo bc bs mi pc lv (vi a :: st) K M Z := by
  intro p e s m args below meth c mc ms H locs ls cells slots C hR hS hL hE h1 h2
  exact lv_if_ne C.1 C.2.1 hd ht (fun q => kt (fun z => q ((i32_eq ha (by omega : rng 0)).mpr z)) p e s m args below meth c mc ms H locs ls cells slots C hR hS hL hE h1 h2) (fun q => kf ((i32_eq ha (by omega : rng 0)).mp q) p e s m args below meth c mc ms H locs ls cells slots C hR hS hL hE h1 h2)
theorem v_icmp_lt  {a b off : Int} {tgt : Nat} (hd : decode mi.2.1 pc = .ok (.if_icmp .lt off, 3)) (ht : (pc : Int) + off = (tgt : Int)) (ha : rng a) (hb : rng b) (kt : a < b → V G fr lo bc bs mi tgt lv st K M Z) (kf : ¬ (a < b) → V G fr lo bc bs mi (pc + 3) lv st K M Z) : V G fr lo bc bs mi pc lv (vi b :: vi a :: st) K M Z := by
  intro p e s m args below meth c mc ms H locs ls cells slots C hR hS hL hE h1 h2
  exact lv_icmp_lt C.1 C.2.1 hd ht (fun q => kt ((i32_lt ha hb).mp q) p e s m args below meth c mc ms H locs ls cells slots C hR hS hL hE h1 h2) (fun q => kf (fun z => q ((i32_lt ha hb).mpr z)) p e s m args below meth c mc ms H locs ls cells slots C hR hS hL hE h1 h2)
theorem v_if_lt  {a off : Int} {tgt : Nat} (hd : decode mi.2.1 pc = .ok (.ifCond .lt off, 3)) (ht : (pc : Int) + off = (tgt : Int)) (ha : rng a) (kt : a < 0 → V G fr lo bc bs mi tgt lv st K M Z) (kf : ¬ (a < 0) → V G fr lo bc bs mi (pc + 3) lv st K M Z) : V G fr lo bc bs mi pc lv (vi a :: st) K M Z := by
  intro p e s m args below meth c mc ms H locs ls cells slots C hR hS hL hE h1 h2
  exact lv_if_lt C.1 C.2.1 hd ht (fun q => kt ((i32_lt ha (by omega : rng 0)).mp q) p e s m args below meth c mc ms H locs ls cells slots C hR hS hL hE h1 h2) (fun q => kf (fun z => q ((i32_lt ha (by omega : rng 0)).mpr z)) p e s m args below meth c mc ms H locs ls cells slots C hR hS hL hE h1 h2)
theorem v_icmp_ge  {a b off : Int} {tgt : Nat} (hd : decode mi.2.1 pc = .ok (.if_icmp .ge off, 3)) (ht : (pc : Int) + off = (tgt : Int)) (ha : rng a) (hb : rng b) (kt : b ≤ a → V G fr lo bc bs mi tgt lv st K M Z) (kf : ¬ (b ≤ a) → V G fr lo bc bs mi (pc + 3) lv st K M Z) : V G fr lo bc bs mi pc lv (vi b :: vi a :: st) K M Z := by
  intro p e s m args below meth c mc ms H locs ls cells slots C hR hS hL hE h1 h2
  exact lv_icmp_ge C.1 C.2.1 hd ht (fun q => kt ((i32_le hb ha).mp q) p e s m args below meth c mc ms H locs ls cells slots C hR hS hL hE h1 h2) (fun q => kf (fun z => q ((i32_le hb ha).mpr z)) p e s m args below meth c mc ms H locs ls cells slots C hR hS hL hE h1 h2)
theorem v_if_ge  {a off : Int} {tgt : Nat} (hd : decode mi.2.1 pc = .ok (.ifCond .ge off, 3)) (ht : (pc : Int) + off = (tgt : Int)) (ha : rng a) (kt : 0 ≤ a → V G fr lo bc bs mi tgt lv st K M Z) (kf : ¬ (0 ≤ a) → V G fr lo bc bs mi (pc + 3) lv st K M Z) : V G fr lo bc bs mi pc lv (vi a :: st) K M Z := by
  intro p e s m args below meth c mc ms H locs ls cells slots C hR hS hL hE h1 h2
  exact lv_if_ge C.1 C.2.1 hd ht (fun q => kt ((i32_le (by omega : rng 0) ha).mp q) p e s m args below meth c mc ms H locs ls cells slots C hR hS hL hE h1 h2) (fun q => kf (fun z => q ((i32_le (by omega : rng 0) ha).mpr z)) p e s m args below meth c mc ms H locs ls cells slots C hR hS hL hE h1 h2)
theorem v_icmp_gt  {a b off : Int} {tgt : Nat} (hd : decode mi.2.1 pc = .ok (.if_icmp .gt off, 3)) (ht : (pc : Int) + off = (tgt : Int)) (ha : rng a) (hb : rng b) (kt : b < a → V G fr lo bc bs mi tgt lv st K M Z) (kf : ¬ (b < a) → V G fr lo bc bs mi (pc + 3) lv st K M Z) : V G fr lo bc bs mi pc lv (vi b :: vi a :: st) K M Z := by
  intro p e s m args below meth c mc ms H locs ls cells slots C hR hS hL hE h1 h2
  exact lv_icmp_gt C.1 C.2.1 hd ht (fun q => kt ((i32_lt hb ha).mp q) p e s m args below meth c mc ms H locs ls cells slots C hR hS hL hE h1 h2) (fun q => kf (fun z => q ((i32_lt hb ha).mpr z)) p e s m args below meth c mc ms H locs ls cells slots C hR hS hL hE h1 h2)
theorem v_if_gt  {a off : Int} {tgt : Nat} (hd : decode mi.2.1 pc = .ok (.ifCond .gt off, 3)) (ht : (pc : Int) + off = (tgt : Int)) (ha : rng a) (kt : 0 < a → V G fr lo bc bs mi tgt lv st K M Z) (kf : ¬ (0 < a) → V G fr lo bc bs mi (pc + 3) lv st K M Z) : V G fr lo bc bs mi pc lv (vi a :: st) K M Z := by
  intro p e s m args below meth c mc ms H locs ls cells slots C hR hS hL hE h1 h2
  exact lv_if_gt C.1 C.2.1 hd ht (fun q => kt ((i32_lt (by omega : rng 0) ha).mp q) p e s m args below meth c mc ms H locs ls cells slots C hR hS hL hE h1 h2) (fun q => kf (fun z => q ((i32_lt (by omega : rng 0) ha).mpr z)) p e s m args below meth c mc ms H locs ls cells slots C hR hS hL hE h1 h2)
theorem v_icmp_le  {a b off : Int} {tgt : Nat} (hd : decode mi.2.1 pc = .ok (.if_icmp .le off, 3)) (ht : (pc : Int) + off = (tgt : Int)) (ha : rng a) (hb : rng b) (kt : a ≤ b → V G fr lo bc bs mi tgt lv st K M Z) (kf : ¬ (a ≤ b) → V G fr lo bc bs mi (pc + 3) lv st K M Z) : V G fr lo bc bs mi pc lv (vi b :: vi a :: st) K M Z := by
  intro p e s m args below meth c mc ms H locs ls cells slots C hR hS hL hE h1 h2
  exact lv_icmp_le C.1 C.2.1 hd ht (fun q => kt ((i32_le ha hb).mp q) p e s m args below meth c mc ms H locs ls cells slots C hR hS hL hE h1 h2) (fun q => kf (fun z => q ((i32_le ha hb).mpr z)) p e s m args below meth c mc ms H locs ls cells slots C hR hS hL hE h1 h2)
theorem v_if_le  {a off : Int} {tgt : Nat} (hd : decode mi.2.1 pc = .ok (.ifCond .le off, 3)) (ht : (pc : Int) + off = (tgt : Int)) (ha : rng a) (kt : a ≤ 0 → V G fr lo bc bs mi tgt lv st K M Z) (kf : ¬ (a ≤ 0) → V G fr lo bc bs mi (pc + 3) lv st K M Z) : V G fr lo bc bs mi pc lv (vi a :: st) K M Z := by
  intro p e s m args below meth c mc ms H locs ls cells slots C hR hS hL hE h1 h2
  exact lv_if_le C.1 C.2.1 hd ht (fun q => kt ((i32_le ha (by omega : rng 0)).mp q) p e s m args below meth c mc ms H locs ls cells slots C hR hS hL hE h1 h2) (fun q => kf (fun z => q ((i32_le ha (by omega : rng 0)).mpr z)) p e s m args below meth c mc ms H locs ls cells slots C hR hS hL hE h1 h2)
theorem v_goto  {off : Int} {tgt : Nat} (hd : decode mi.2.1 pc = .ok (.goto off, 3)) (ht : (pc : Int) + off = (tgt : Int)) (k : V G fr lo bc bs mi tgt lv st K M Z) : V G fr lo bc bs mi pc lv st K M Z := by
  intro p e s m args below meth c mc ms H locs ls cells slots C hR hS hL hE h1 h2
  exact lv_goto C.1 C.2.1 hd ht (k p e s m args below meth c mc ms H locs ls cells slots C hR hS hL hE h1 h2)
theorem v_tableOut  {dflt l h : Int} {offs : Array Int} {len tgt : Nat} {z : Int} (hd : decode mi.2.1 pc = .ok (.tableswitch dflt l h offs, len)) (hz : rng z) (q : z < l ∨ h < z) (ht : (pc : Int) + dflt = (tgt : Int)) (k : V G fr lo bc bs mi tgt lv st K M Z) : V G fr lo bc bs mi pc lv (vi z :: st) K M Z := by
  intro p e s m args below meth c mc ms H locs ls cells slots C hR hS hL hE h1 h2
  exact lv_tableOut C.1 C.2.1 hd (by rw [i32_toInt hz]; exact q) ht (k p e s m args below meth c mc ms H locs ls cells slots C hR hS hL hE h1 h2)
theorem v_tableIn  {dflt l h off : Int} {offs : Array Int} {len tgt : Nat} {z : Int} (hd : decode mi.2.1 pc = .ok (.tableswitch dflt l h offs, len)) (hz : rng z) (q1 : l ≤ z) (q2 : z ≤ h) (ho : offs[(z - l).toNat]? = some off) (ht : (pc : Int) + off = (tgt : Int)) (k : V G fr lo bc bs mi tgt lv st K M Z) : V G fr lo bc bs mi pc lv (vi z :: st) K M Z := by
  intro p e s m args below meth c mc ms H locs ls cells slots C hR hS hL hE h1 h2
  exact lv_tableIn C.1 C.2.1 hd (by rw [i32_toInt hz]; omega) (by rw [i32_toInt hz]; omega) (by rw [i32_toInt hz]; exact ho) ht (k p e s m args below meth c mc ms H locs ls cells slots C hR hS hL hE h1 h2)
end GeRules
