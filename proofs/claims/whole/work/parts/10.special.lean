/-! ===== makings ===== -/
def zM (M : Mem) (K : Nat) : Mem := (fun a b => if a = K then 0 else M.1 a b, fun a b => if a = K then none else M.2 a b)
theorem alloc_q {G : GG} {K q : Nat} {M : Mem} {e : va_E} {H : Heap} (hD : va_D (gO G) (cw G K M ++ [(q, e)])) (hP : va_P (gD G) vwCl (cw G K M ++ [(q, e)]) H) (hz : H.size ≤ gB G + K + 1) : q = gB G + K := by
  have g : (cw G K M ++ [(q, e)])[K]? = some (q, e) := by
    rw [List.getElem?_append_right (by rw [cw_len]; omega), cw_len, Nat.sub_self]; rfl
  have h1 : gB G ≤ q := hD.2 K (q, e) g
  have h2 : q < H.size := (hP K (q, e) g).lt
  by_cases h3 : q < gB G + K
  · have g2 : (cw G K M ++ [(q, e)])[q - gB G]? = some (gB G + (q - gB G), cellE G M (q - gB G)) := by
      rw [List.getElem?_append_left (by rw [cw_len]; omega), cw_get (by omega)]
    have := hD.1 (q - gB G) K _ _ g2 g (by show gB G + (q - gB G) = q; omega)
    omega
  · omega
theorem cw_push {G : GG} {K : Nat} {M M' : Mem} {e : va_E} (h1 : cellE G M' K = e) (h2 : ∀ j, j < K → cellE G M' j = cellE G M j) : cw G K M ++ [(gB G + K, e)] = cw G (K + 1) M' := by
  unfold cw
  rw [List.range_succ, List.map_append, h1.symm]
  congr 1
  apply List.map_congr_left
  intro j hj
  rw [h2 j (List.mem_range.mp hj)]
theorem zM_ne {G : GG} {M : Mem} {K j : Nat} (h : j < K) : cellE G (zM M K) j = cellE G M j := by
  have hj : j ≠ K := by omega
  exact cell_ne (fun b => by simp [zM, hj]) (fun b => by simp [zM, hj])
theorem zM_o {G : GG} {M : Mem} {K ci : Nat} (hs : SH K = .inr ci) : cellE G (zM M K) K = .inr (ci, (List.range (NF ci)).map (fun k => fv G (zM M K) K k (TYF ci k))) := by
  unfold cellE
  rw [hs]
  rfl
theorem fv_0 {G : GG} {M : Mem} {K k : Nat} {ty : FieldType} (h : okT ty = true) : fv G (zM M K) K k ty = defaultValue ty := by
  have e1 : (zM M K).1 K k = 0 := by simp [zM]
  have e2 : (zM M K).2 K k = none := by simp [zM]
  unfold fv
  rw [e1, e2]
  cases ty <;> first | rfl | cases h
section GeNew
variable {G : GG} {fr lo bc bs : Nat} {mi : MI} {pc : Nat} {lv : List (Option PV)} {st : List PV} {K : Nat} {M : Mem} {Z : ZZ}
theorem v_new {i ci : Nat} {C' : String} {T : u_T} (hd : decode mi.2.1 pc = .ok (.new i, 3)) (hcl : clsOK ci C' T) (hlk : Cond.classLink mi.1.cls i C' ∈ gtb) (hs : SH K = .inr ci) (hb : K + 1 ≤ 900000) (kk : V G fr lo bc bs mi (pc + 3) lv (vr K :: st) (K + 1) (zM M K) Z) : V G fr lo (bc + 1) (bs + NF ci) mi pc lv st K M Z := by
  intro p e s m args below meth c mc ms H locs ls cells slots C hR hS hL hE h1 h2
  obtain ⟨q1, q2, q3, q4, q5, q6, q7⟩ := hcl
  refine va_new (D := gD G) (ci := ci) (fs := (List.range (NF ci)).map (fun k => fv G (zM M K) K k (TYF ci k))) C.1 C.2.1 C.2.2.2.2.2.1 q2 (TYF ci) q3 C.2.2.2.2.1 (C.2.2.2.2.2.1 _ hlk) (C.2.2.2.2.2.1 _ q6) (C.2.2.2.2.2.1 _ q7) C.2.2.2.2.2.2.2.2.1 hR.2 cw_D hS (fun q hq => Nat.le_trans C.2.2.2.2.2.2.2.2.2.2 hq) q1 (fun j hj => ?_) (by show cells + 1 ≤ mc; omega) (by show slots + NF ci ≤ ms; omega) hd (fun q H1 hP1 hD1 hS1 => W.sized fun hsz => ?_)
  · unfold vp_V
    rw [List.getD_eq_getElem?_getD, rng_get _ hj]
    exact (fv_0 (q5 j hj)).symm
  · have hq := alloc_q hD1 hP1 (by omega)
    subst hq
    rw [cw_push (M' := zM M K) (zM_o hs) (fun j hj => zM_ne hj)] at hP1
    have h := kk p e s m args below meth c mc ms H1 locs ls (cells + 1) (slots + NF ci) C ⟨hb, hP1⟩ hS1 hL (by omega) (by omega) (by omega)
    rw [st_r (K := K + 1) (by omega) hb] at h
    exact h
theorem v_newa0 {n : Nat} {z : Int} (hd : decode mi.2.1 pc = .ok (.newarray .int, 2)) (hw : Cond.arrayClass .int ∈ gtb) (hs : SH K = .inl (.int, n)) (hz : z = (n : Int)) (hb : K + 1 ≤ 900000) (hn8 : n < 60000000) (kk : V G fr lo bc bs mi (pc + 2) lv (vr K :: st) (K + 1) (zM M K) Z) : V G fr lo (bc + 1) (bs + n) mi pc lv (vi z :: st) K M Z := by
  intro p e s m args below meth c mc ms H locs ls cells slots C hR hS hL hE h1 h2
  subst hz
  have hn := sh_small hs
  refine va_newa (D := gD G) (atype := .int) (ty := .int) (N' := n) (a0 := (n, .inl (fun _ => 0))) C.1 C.2.1 (C.2.2.2.2.2.1 _ hw) rfl C.2.2.2.2.2.2.2.2.1 hR.2 cw_D hS (fun q hq => Nat.le_trans C.2.2.2.2.2.2.2.2.2.2 hq) (fun cA => rfl) (fun q => by
    rw [show (0 : Int32) = i32 0 from rfl, i32_lt (by omega) (by omega)] at q
    omega) (i32_nat (by omega)) (by simp [componentBytes]; omega) (by show cells + 1 ≤ mc; omega) (by show slots + n ≤ ms; omega) hd (fun q cA H1 hK1 hP1 hD1 hS1 => W.sized fun hsz => ?_)
  have hq := alloc_q hD1 hP1 (by omega)
  subst hq
  have e1 : s.vm.findClass ("[" ++ (.int : FieldType).toString) = some cA := (hK1.2 6 (cA, .int) rfl).2
  have e2 : s.vm.findClass ("[" ++ (.int : FieldType).toString) = some (gA G .int) := (C.2.2.2.2.2.2.2.2.1.2 0 (gA G .int, .int) rfl).2
  have e3 : cA = gA G .int := Option.some.inj (e1.symm.trans e2)
  subst e3
  have hc : cellE G (zM M K) K = .inl (gA G .int, n, .inl (fun _ => 0)) := by
    unfold cellE
    rw [hs]
    simp [cellS, av, zM]
    rfl
  rw [cw_push (M' := zM M K) hc (fun j hj => zM_ne hj)] at hP1
  have h := kk p e s m args below meth c mc ms H1 locs ls (cells + 1) (slots + n) C ⟨hb, hP1⟩ hS1 hL (by omega) (by omega) (by omega)
  rw [st_r (K := K + 1) (by omega) hb] at h
  exact h
theorem v_newa1 {n : Nat} {z : Int} (hd : decode mi.2.1 pc = .ok (.newarray .byte, 2)) (hw : Cond.arrayClass .byte ∈ gtb) (hs : SH K = .inl (.byte, n)) (hz : z = (n : Int)) (hb : K + 1 ≤ 900000) (hn8 : n < 60000000) (kk : V G fr lo bc bs mi (pc + 2) lv (vr K :: st) (K + 1) (zM M K) Z) : V G fr lo (bc + 1) (bs + n) mi pc lv (vi z :: st) K M Z := by
  intro p e s m args below meth c mc ms H locs ls cells slots C hR hS hL hE h1 h2
  subst hz
  have hn := sh_small hs
  refine va_newa (D := gD G) (atype := .byte) (ty := .byte) (N' := n) (a0 := (n, .inl (fun _ => 0))) C.1 C.2.1 (C.2.2.2.2.2.1 _ hw) rfl C.2.2.2.2.2.2.2.2.1 hR.2 cw_D hS (fun q hq => Nat.le_trans C.2.2.2.2.2.2.2.2.2.2 hq) (fun cA => rfl) (fun q => by
    rw [show (0 : Int32) = i32 0 from rfl, i32_lt (by omega) (by omega)] at q
    omega) (i32_nat (by omega)) (by simp [componentBytes]; omega) (by show cells + 1 ≤ mc; omega) (by show slots + n ≤ ms; omega) hd (fun q cA H1 hK1 hP1 hD1 hS1 => W.sized fun hsz => ?_)
  have hq := alloc_q hD1 hP1 (by omega)
  subst hq
  have e1 : s.vm.findClass ("[" ++ (.byte : FieldType).toString) = some cA := (hK1.2 6 (cA, .byte) rfl).2
  have e2 : s.vm.findClass ("[" ++ (.byte : FieldType).toString) = some (gA G .byte) := (C.2.2.2.2.2.2.2.2.1.2 1 (gA G .byte, .byte) rfl).2
  have e3 : cA = gA G .byte := Option.some.inj (e1.symm.trans e2)
  subst e3
  have hc : cellE G (zM M K) K = .inl (gA G .byte, n, .inl (fun _ => 0)) := by
    unfold cellE
    rw [hs]
    simp [cellS, av, zM]
    rfl
  rw [cw_push (M' := zM M K) hc (fun j hj => zM_ne hj)] at hP1
  have h := kk p e s m args below meth c mc ms H1 locs ls (cells + 1) (slots + n) C ⟨hb, hP1⟩ hS1 hL (by omega) (by omega) (by omega)
  rw [st_r (K := K + 1) (by omega) hb] at h
  exact h
theorem v_newa2 {n : Nat} {z : Int} (hd : decode mi.2.1 pc = .ok (.newarray .long, 2)) (hw : Cond.arrayClass .long ∈ gtb) (hs : SH K = .inl (.long, n)) (hz : z = (n : Int)) (hb : K + 1 ≤ 900000) (hn8 : n < 60000000) (kk : V G fr lo bc bs mi (pc + 2) lv (vr K :: st) (K + 1) (zM M K) Z) : V G fr lo (bc + 1) (bs + n) mi pc lv (vi z :: st) K M Z := by
  intro p e s m args below meth c mc ms H locs ls cells slots C hR hS hL hE h1 h2
  subst hz
  have hn := sh_small hs
  refine va_newa (D := gD G) (atype := .long) (ty := .long) (N' := n) (a0 := (n, .inr (.inl (fun _ => 0)))) C.1 C.2.1 (C.2.2.2.2.2.1 _ hw) rfl C.2.2.2.2.2.2.2.2.1 hR.2 cw_D hS (fun q hq => Nat.le_trans C.2.2.2.2.2.2.2.2.2.2 hq) (fun cA => rfl) (fun q => by
    rw [show (0 : Int32) = i32 0 from rfl, i32_lt (by omega) (by omega)] at q
    omega) (i32_nat (by omega)) (by simp [componentBytes]; omega) (by show cells + 1 ≤ mc; omega) (by show slots + n ≤ ms; omega) hd (fun q cA H1 hK1 hP1 hD1 hS1 => W.sized fun hsz => ?_)
  have hq := alloc_q hD1 hP1 (by omega)
  subst hq
  have e1 : s.vm.findClass ("[" ++ (.long : FieldType).toString) = some cA := (hK1.2 6 (cA, .long) rfl).2
  have e2 : s.vm.findClass ("[" ++ (.long : FieldType).toString) = some (gA G .long) := (C.2.2.2.2.2.2.2.2.1.2 2 (gA G .long, .long) rfl).2
  have e3 : cA = gA G .long := Option.some.inj (e1.symm.trans e2)
  subst e3
  have hc : cellE G (zM M K) K = .inl (gA G .long, n, .inr (.inl (fun _ => 0))) := by
    unfold cellE
    rw [hs]
    simp [cellS, av, zM]
    rfl
  rw [cw_push (M' := zM M K) hc (fun j hj => zM_ne hj)] at hP1
  have h := kk p e s m args below meth c mc ms H1 locs ls (cells + 1) (slots + n) C ⟨hb, hP1⟩ hS1 hL (by omega) (by omega) (by omega)
  rw [st_r (K := K + 1) (by omega) hb] at h
  exact h
theorem v_newa3 {n : Nat} {z : Int} (hd : decode mi.2.1 pc = .ok (.newarray .boolean, 2)) (hw : Cond.arrayClass .boolean ∈ gtb) (hs : SH K = .inl (.boolean, n)) (hz : z = (n : Int)) (hb : K + 1 ≤ 900000) (hn8 : n < 60000000) (kk : V G fr lo bc bs mi (pc + 2) lv (vr K :: st) (K + 1) (zM M K) Z) : V G fr lo (bc + 1) (bs + n) mi pc lv (vi z :: st) K M Z := by
  intro p e s m args below meth c mc ms H locs ls cells slots C hR hS hL hE h1 h2
  subst hz
  have hn := sh_small hs
  refine va_newa (D := gD G) (atype := .boolean) (ty := .boolean) (N' := n) (a0 := (n, .inl (fun _ => 0))) C.1 C.2.1 (C.2.2.2.2.2.1 _ hw) rfl C.2.2.2.2.2.2.2.2.1 hR.2 cw_D hS (fun q hq => Nat.le_trans C.2.2.2.2.2.2.2.2.2.2 hq) (fun cA => rfl) (fun q => by
    rw [show (0 : Int32) = i32 0 from rfl, i32_lt (by omega) (by omega)] at q
    omega) (i32_nat (by omega)) (by simp [componentBytes]; omega) (by show cells + 1 ≤ mc; omega) (by show slots + n ≤ ms; omega) hd (fun q cA H1 hK1 hP1 hD1 hS1 => W.sized fun hsz => ?_)
  have hq := alloc_q hD1 hP1 (by omega)
  subst hq
  have e1 : s.vm.findClass ("[" ++ (.boolean : FieldType).toString) = some cA := (hK1.2 6 (cA, .boolean) rfl).2
  have e2 : s.vm.findClass ("[" ++ (.boolean : FieldType).toString) = some (gA G .boolean) := (C.2.2.2.2.2.2.2.2.1.2 3 (gA G .boolean, .boolean) rfl).2
  have e3 : cA = gA G .boolean := Option.some.inj (e1.symm.trans e2)
  subst e3
  have hc : cellE G (zM M K) K = .inl (gA G .boolean, n, .inl (fun _ => 0)) := by
    unfold cellE
    rw [hs]
    simp [cellS, av, zM]
    rfl
  rw [cw_push (M' := zM M K) hc (fun j hj => zM_ne hj)] at hP1
  have h := kk p e s m args below meth c mc ms H1 locs ls (cells + 1) (slots + n) C ⟨hb, hP1⟩ hS1 hL (by omega) (by omega) (by omega)
  rw [st_r (K := K + 1) (by omega) hb] at h
  exact h
theorem v_newq4 {i n : Nat} {z : Int} (hd : decode mi.2.1 pc = .ok (.anewarray i, 3)) (hlk : Cond.classLink mi.1.cls i "GlassEyes$Court" ∈ gtb) (hs : SH K = .inl (.object "GlassEyes$Court", n)) (hz : z = (n : Int)) (hb : K + 1 ≤ 900000) (hn8 : n < 60000000) (kk : V G fr lo bc bs mi (pc + 3) lv (vr K :: st) (K + 1) (zM M K) Z) : V G fr lo (bc + 1) (bs + n) mi pc lv (vi z :: st) K M Z := by
  intro p e s m args below meth c mc ms H locs ls cells slots C hR hS hL hE h1 h2
  subst hz
  have hn := sh_small hs
  refine va_newq (D := gD G) (C := "GlassEyes$Court") (N' := n) C.1 C.2.1 C.2.2.2.2.1 (C.2.2.2.2.2.1 _ hlk) C.2.2.2.2.2.2.2.2.2.1.2.2.2.2.2.2.1 C.2.2.2.2.2.2.2.2.1 hR.2 cw_D hS (fun q hq => Nat.le_trans C.2.2.2.2.2.2.2.2.2.2 hq) (fun q => by
    rw [show (0 : Int32) = i32 0 from rfl, i32_lt (by omega) (by omega)] at q
    omega) (i32_nat (by omega)) (by omega) (by show cells + 1 ≤ mc; omega) (by show slots + n ≤ ms; omega) hd (fun q cA H1 hK1 hP1 hD1 hS1 => W.sized fun hsz => ?_)
  have hq := alloc_q hD1 hP1 (by omega)
  subst hq
  obtain ⟨_, _, _, _, _, e1⟩ := (hK1.2 6 (cA, .object "GlassEyes$Court") rfl).2
  obtain ⟨_, _, _, _, _, e2⟩ := (C.2.2.2.2.2.2.2.2.1.2 4 (gA G (.object "GlassEyes$Court"), .object "GlassEyes$Court") rfl).2
  have e3 : cA = gA G (.object "GlassEyes$Court") := Option.some.inj (e1.symm.trans e2)
  subst e3
  have hc : cellE G (zM M K) K = .inl (gA G (.object "GlassEyes$Court"), n, .inr (.inr (.inr (.inr (fun _ => none))))) := by
    unfold cellE
    rw [hs]
    simp [cellS, av, zM]
  rw [cw_push (M' := zM M K) hc (fun j hj => zM_ne hj)] at hP1
  have h := kk p e s m args below meth c mc ms H1 locs ls (cells + 1) (slots + n) C ⟨hb, hP1⟩ hS1 hL (by omega) (by omega) (by omega)
  rw [st_r (K := K + 1) (by omega) hb] at h
  exact h
theorem v_newq5 {i n : Nat} {z : Int} (hd : decode mi.2.1 pc = .ok (.anewarray i, 3)) (hlk : Cond.classLink mi.1.cls i "GlassEyes$Script" ∈ gtb) (hs : SH K = .inl (.object "GlassEyes$Script", n)) (hz : z = (n : Int)) (hb : K + 1 ≤ 900000) (hn8 : n < 60000000) (kk : V G fr lo bc bs mi (pc + 3) lv (vr K :: st) (K + 1) (zM M K) Z) : V G fr lo (bc + 1) (bs + n) mi pc lv (vi z :: st) K M Z := by
  intro p e s m args below meth c mc ms H locs ls cells slots C hR hS hL hE h1 h2
  subst hz
  have hn := sh_small hs
  refine va_newq (D := gD G) (C := "GlassEyes$Script") (N' := n) C.1 C.2.1 C.2.2.2.2.1 (C.2.2.2.2.2.1 _ hlk) C.2.2.2.2.2.2.2.2.2.1.2.2.2.2.2.2.2 C.2.2.2.2.2.2.2.2.1 hR.2 cw_D hS (fun q hq => Nat.le_trans C.2.2.2.2.2.2.2.2.2.2 hq) (fun q => by
    rw [show (0 : Int32) = i32 0 from rfl, i32_lt (by omega) (by omega)] at q
    omega) (i32_nat (by omega)) (by omega) (by show cells + 1 ≤ mc; omega) (by show slots + n ≤ ms; omega) hd (fun q cA H1 hK1 hP1 hD1 hS1 => W.sized fun hsz => ?_)
  have hq := alloc_q hD1 hP1 (by omega)
  subst hq
  obtain ⟨_, _, _, _, _, e1⟩ := (hK1.2 6 (cA, .object "GlassEyes$Script") rfl).2
  obtain ⟨_, _, _, _, _, e2⟩ := (C.2.2.2.2.2.2.2.2.1.2 5 (gA G (.object "GlassEyes$Script"), .object "GlassEyes$Script") rfl).2
  have e3 : cA = gA G (.object "GlassEyes$Script") := Option.some.inj (e1.symm.trans e2)
  subst e3
  have hc : cellE G (zM M K) K = .inl (gA G (.object "GlassEyes$Script"), n, .inr (.inr (.inr (.inr (fun _ => none))))) := by
    unfold cellE
    rw [hs]
    simp [cellS, av, zM]
  rw [cw_push (M' := zM M K) hc (fun j hj => zM_ne hj)] at hP1
  have h := kk p e s m args below meth c mc ms H1 locs ls (cells + 1) (slots + n) C ⟨hb, hP1⟩ hS1 hL (by omega) (by omega) (by omega)
  rw [st_r (K := K + 1) (by omega) hb] at h
  exact h
theorem v_ldcT (hd : decode mi.2.1 pc = .ok (.ldc 77, 2)) (hcl : mi.1.cls = RX2) (k : V G fr lo bc bs mi (pc + 2) lv (vr 999999 :: st) K M Z) : V G fr lo bc bs mi pc lv st K M Z := by
  intro p e s m args below meth c mc ms H locs ls cells slots C hR hS hL hE h1 h2
  exact va_ldcS C.1 C.2.1 (own := RX2) (by rw [← hcl]; exact C.2.2.2.2.1) C.2.2.2.2.2.2.2.2.2.1.2.1 hd (k p e s m args below meth c mc ms H locs ls cells slots C hR hS hL hE h1 h2)
theorem v_Tval {i : Nat} (hd : decode mi.2.1 pc = .ok (.getfield i, 3)) (hl : Cond.fieldLink mi.1.cls i "java/lang/String" "value" "[B" ∈ gtb) (k : V G fr lo bc bs mi (pc + 3) lv (vr 999998 :: st) K M Z) : V G fr lo bc bs mi pc lv (vr 999999 :: st) K M Z := by
  intro p e s m args below meth c mc ms H locs ls cells slots C hR hS hL hE h1 h2
  exact vk_getf C.1 C.2.1 (C.2.2.2.2.2.2.2.2.2.1.2.2.1.1 0 (by omega)).2.2.1 hS C.2.2.2.2.1 (C.2.2.2.2.2.1 _ hl) (fun _ h => h) hd (k p e s m args below meth c mc ms H locs ls cells slots C hR hS hL hE h1 h2)
theorem v_Tcod {i : Nat} (hd : decode mi.2.1 pc = .ok (.getfield i, 3)) (hl : Cond.fieldLink mi.1.cls i "java/lang/String" "coder" "B" ∈ gtb) (k : V G fr lo bc bs mi (pc + 3) lv (vi 0 :: st) K M Z) : V G fr lo bc bs mi pc lv (vr 999999 :: st) K M Z := by
  intro p e s m args below meth c mc ms H locs ls cells slots C hR hS hL hE h1 h2
  exact vk_getf C.1 C.2.1 (C.2.2.2.2.2.2.2.2.2.1.2.2.1.1 0 (by omega)).2.1 hS C.2.2.2.2.1 (C.2.2.2.2.2.1 _ hl) (fun _ h => h) hd (k p e s m args below meth c mc ms H locs ls cells slots C hR hS hL hE h1 h2)
theorem v_Tsta {i : Nat} (hd : decode mi.2.1 pc = .ok (.getstatic i, 3)) (hl : Cond.fieldLink mi.1.cls i "java/lang/String" "COMPACT_STRINGS" "Z" ∈ gtb) (k : V G fr lo bc bs mi (pc + 3) lv (vi 1 :: st) K M Z) : V G fr lo bc bs mi pc lv st K M Z := by
  intro p e s m args below meth c mc ms H locs ls cells slots C hR hS hL hE h1 h2
  exact va_gets C.1 C.2.1 C.2.2.2.2.2.2.2.2.2.1.1.1 hS C.2.2.2.2.1 (C.2.2.2.2.2.1 _ hl) (fun _ h => h) hd (k p e s m args below meth c mc ms H locs ls cells slots C hR hS hL hE h1 h2)
theorem v_Tfmt {i : Nat} (hd : decode mi.2.1 pc = .ok (.getstatic i, 3)) (hl : Cond.fieldLink mi.1.cls i "jdk/internal/util/Preconditions" "SIOOBE_FORMATTER" "Ljava/util/function/BiFunction;" ∈ gtb) (k1 : V G fr lo bc bs mi (pc + 3) lv (vn :: st) K M Z) (k2 : V G fr lo bc bs mi (pc + 3) lv (vr 999996 :: st) K M Z) : V G fr lo bc bs mi pc lv st K M Z := by
  intro p e s m args below meth c mc ms H locs ls cells slots C hR hS hL hE h1 h2
  rcases C.2.2.2.2.2.2.2.2.2.1.1.2 with q | q
  · exact va_gets C.1 C.2.1 q hS C.2.2.2.2.1 (C.2.2.2.2.2.1 _ hl) (fun _ h => h) hd (k1 p e s m args below meth c mc ms H locs ls cells slots C hR hS hL hE h1 h2)
  · exact va_gets C.1 C.2.1 q hS C.2.2.2.2.1 (C.2.2.2.2.2.1 _ hl) (fun _ h => h) hd (k2 p e s m args below meth c mc ms H locs ls cells slots C hR hS hL hE h1 h2)
theorem v_Tlen (hd : decode mi.2.1 pc = .ok (.arraylength, 1)) (k : V G fr lo bc bs mi (pc + 1) lv (vi 111 :: st) K M Z) : V G fr lo bc bs mi pc lv (vr 999998 :: st) K M Z := by
  intro p e s m args below meth c mc ms H locs ls cells slots C hR hS hL hE h1 h2
  exact va_tlen C.1 C.2.1 (C.2.2.2.2.2.2.2.2.2.1.2.2.1.1 0 (by omega)).2.2.2 hS (v := i32 111) rfl hd (k p e s m args below meth c mc ms H locs ls cells slots C hR hS hL hE h1 h2)
theorem v_Tbal {j : Nat} {z : Int} (hd : decode mi.2.1 pc = .ok (.baload, 1)) (hz : z = (j : Int)) (hj : j < 111) (k : V G fr lo bc bs mi (pc + 1) lv (vi (WB.getD j 0).toInt :: st) K M Z) : V G fr lo bc bs mi pc lv (vi z :: vr 999998 :: st) K M Z := by
  intro p e s m args below meth c mc ms H locs ls cells slots C hR hS hL hE h1 h2
  subst hz
  refine va_tb C.1 C.2.1 (C.2.2.2.2.2.2.2.2.2.1.2.2.1.1 0 (by omega)).2.2.2 hS (i32_in hj (by show (111 : Nat) < _; omega)) (v := .int (i32 (WB.getD j 0).toInt)) ?_ hd (k p e s m args below meth c mc ms H locs ls cells slots C hR hS hL hE h1 h2)
  rw [i32_nat (by omega), i32_of]
  rfl
theorem v_slen (hd : decode mi.2.1 pc = .ok (.arraylength, 1)) (k : V G fr lo bc bs mi (pc + 1) lv (vi (gN G : Int) :: st) K M Z) : V G fr lo bc bs mi pc lv (vr 999997 :: st) K M Z := by
  intro p e s m args below meth c mc ms H locs ls cells slots C hR hS hL hE h1 h2
  have h := k p e s m args below meth c mc ms H locs ls cells slots C hR hS hL hE h1 h2
  rw [List.map_cons, show tv G (vi (gN G : Int)) = .int (Int32.ofNat (gN G)) from by show Value.int (Int32.ofInt (gN G : Int)) = _; rw [Int32.ofInt_eq_ofNat]] at h
  have hb := C.2.2.2.2.2.2.2.2.2.2
  have hc := C.2.2.2.2.2.2.2.2.2.1.2.2.2.2.1
  exact va_slen (b := gC G) C.1 C.2.1 C.2.2.2.2.2.2.2.2.2.1.2.2.2.1 (by omega) (by show ¬ gB G ≤ gC G; omega) hS hd h
theorem v_sld {j : Nat} {z : Int} (hd : decode mi.2.1 pc = .ok (.iaload, 1)) (hz : z = (j : Int)) (hj : j < gN G) (hN : gN G < 2147483648) (k : V G fr lo bc bs mi (pc + 1) lv (vi (gX G j).toInt :: st) K M Z) : V G fr lo bc bs mi pc lv (vi z :: vr 999997 :: st) K M Z := by
  intro p e s m args below meth c mc ms H locs ls cells slots C hR hS hL hE h1 h2
  subst hz
  have h := k p e s m args below meth c mc ms H locs ls cells slots C hR hS hL hE h1 h2
  rw [List.map_cons, show tv G (vi (gX G j).toInt) = .int (gX G j) from by show Value.int (i32 _) = _; rw [i32_of]] at h
  have hb := C.2.2.2.2.2.2.2.2.2.2
  have hc := C.2.2.2.2.2.2.2.2.2.1.2.2.2.2.1
  refine va_sld (b := gC G) C.1 C.2.1 C.2.2.2.2.2.2.2.2.2.1.2.2.2.1 (by omega) (by show ¬ gB G ≤ gC G; omega) hS (i32_in hj hN) hd ?_
  rw [i32_nat (by omega)]
  exact h
def lcm (a b : Int) : Int := if b < a then 1 else if a = b then 0 else -1
theorem v_lcmp {a b : Int} (hd : decode mi.2.1 pc = .ok (.lcmp, 1)) (ha : rnl a) (hb : rnl b) (k : V G fr lo bc bs mi (pc + 1) lv (vi (lcm a b) :: st) K M Z) : V G fr lo bc bs mi pc lv (vl b :: vl a :: st) K M Z := by
  intro p e s m args below meth c mc ms H locs ls cells slots C hR hS hL hE h1 h2
  have h := k p e s m args below meth c mc ms H locs ls cells slots C hR hS hL hE h1 h2
  refine W.lcmp C.1 C.2.1 hd ?_
  have e1 : lg_cmp (i64 a) (i64 b) = i32 (lcm a b) := by
    unfold lg_cmp lcm
    by_cases h3 : b < a
    · rw [if_pos ((i64_lt hb ha).mpr h3), if_pos h3]; rfl
    · rw [if_neg (fun z => h3 ((i64_lt hb ha).mp z)), if_neg h3]
      by_cases h4 : a = b
      · rw [if_pos ((i64_eq ha hb).mpr h4), if_pos h4]; rfl
      · rw [if_neg (fun z => h4 ((i64_eq ha hb).mp z)), if_neg h4]; rfl
  rw [e1]
  exact h
end GeNew
