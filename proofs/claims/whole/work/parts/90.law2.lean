/-! THE CLAIM OUT OF ONE WALK OF THE LAW'S BODY. Your part is whole_start (and what it stands on); all else here is the same for every law, but numbers. -/
def R_law : String := "GlassEyesLaw"
def lw_P (b : Addr) (xs : List Int32) (args : Array Value) (s : State) : Prop := args = #[.ref b] ∧ s.IntsAt b xs ∧ xs.length ≤ 3073 ∧ (Jvm.Cond.and given_1 narrow_1).before args s = true
def lw_Q (_ : Array Value) (s : State) (o : Outcome) (t : State) : Prop := o = .returned (some (.int 1)) ∧ Framed s o t [] 600000 7302250
def lw_Z (below : List Frame) (a : Array Value) (s : State) : State → Prop := fun t => ∃ o, t.status = .running ∧ Ended t below o ∧ lw_Q a s o t
/-- the law's own end, with 1 on the stack, nothing written that was there before, its room as the claim has it -/
theorem lw_ret {p : Program} {l : Launch} {e : Env} {s : State} {m : MethodId} {below : List Frame} {meth : Method} {c : Code} {b : Nat} (hx : p.tables.exec = Jvm.exec) (hb : c.code = code) (hr : meth.sig.returnType = ret) (hlocks : meth.locks = false) {pc : Nat} {H : Heap} {ls : Array Slot} (hdg : decode code pc = .ok (.ireturn, 1)) : W p l e room_1 s m #[Value.ref b] below meth c H [] 600000 7302250 (lw_Z below #[Value.ref b] s) (F0 m pc ls [.int 1]) := by
  intro T hT X
  obtain ⟨fs, hret, hrun, hended, hW, hframe⟩ := X.leave (v := some (.int 1)) (hlocks := hlocks) (fun h => by rw [hr] at h; cases h)
  have hmeth' : T.vm.method? m = some meth := X.method'
  refine ⟨T.setFrames fs, ?_, .returned (some (.int 1)), hrun, hended, rfl, ⟨_, rfl⟩, hW, hframe⟩
  jvm_step X.here [X.here.top, hx, hb, hdg, hmeth', hr, ret, narrow_b1]
  (try refine ⟨rfl, ?_⟩); (try refine ⟨rfl, ?_⟩)
  first | (intro acts; rw [hret _ acts rfl rfl rfl]) | rw [hret _ _ rfl rfl rfl]
  exact Steps.refl _
/-- what holds at the law's entry: the machine, the code, the tables' words (any of lw_tbl by 'hts w (by decide +kernel)'), the script of L ints xs at the cell b, what the Statement gives of the start (any of its parts by flat_of_before) -/
def lw_At (p : Program) (s : State) (m : MethodId) (meth : Method) (c : Code) (b L : Nat) (xs : Nat → Int32) : Prop :=
  p.tables.exec = Jvm.exec ∧ c.code = code ∧ meth.sig.returnType = ret ∧ c.maxLocals = 4 ∧ s.vm.findClass R_law = some m.cls ∧ (∀ w ∈ lw_tbl, w.before #[Value.ref b] s = true) ∧ va_X b L xs s s.heap ∧ b < s.heap.size ∧ meth.locks = false ∧ (Jvm.Cond.and given_1 narrow_1).before #[Value.ref b] s = true
/-! ===== the law as a whole, in the picture ===== -/
def lwZ (G : GG) : ZZ := fun below args s mc ms t => (args = #[Value.ref (gC G)] ∧ mc = 600000 ∧ ms = 7302250 ∧ s.heap.size = gB G) → lw_Z below args s t
theorem and31 (x : Int) : 0 ≤ iand x 31 ∧ iand x 31 < 32 := by
  have h1 : iand x 31 = ((i32 x).toBitVec.toNat % 32 : Nat) := by
    unfold iand
    rw [pk_and (i32 x) (m := i32 31) 5 (by decide +kernel), nI_toInt (by omega)]
  omega
section Law3
variable {G : GG}
theorem v_lawEnd {bc bs K : Nat} {M : Mem} {lv : List (Option PV)} : V G 2048 84000 bc bs mi_L_law 847 lv [vi 1] K M (lwZ G) := by
  intro p e s m args below meth c mc ms H locs ls cells slots C hR hS hL hE h1 h2
  by_cases hg : args = #[Value.ref (gC G)] ∧ mc = 600000 ∧ ms = 7302250 ∧ s.heap.size = gB G
  · obtain ⟨rfl, rfl, rfl, hs⟩ := hg
    have key : W p (gL G) e room_1 s m #[Value.ref (gC G)] below meth c H locs cells slots (lw_Z below #[Value.ref (gC G)] s) (F0 m 847 ls [.int 1]) := by
      refine va_forget (fun q hq => by rw [hs]; exact hS.2.2 q hq) ?_
      refine W.widen (k := 600000) (n := 7302250) (by omega) (by omega) ?_
      exact lw_ret C.1 C.2.1 C.2.2.1 C.2.2.2.2.2.2.1 dL_law_847
    intro T hT X
    obtain ⟨t, a, b⟩ := key T hT X
    exact ⟨t, a, fun _ => b⟩
  · intro T hT X
    exact ⟨_, Steps.refl _, fun h => absurd h hg⟩
theorem c_cell {d K : Nat} {M : Mem} {Q : Option PV → Nat → Mem → Prop} (hN : gN G < 2147483648) (hq : ∀ z, rng z → (z = if 0 < gN G then gI G 0 else 0) → Q (some (vi z)) K M) : V G d (64 * d) 0 0 mi_L_cell 0 [some (vr 999997), some (vi 0)] [] K M (ZQ G Q) := by
  refine v_iload_n dL_cell_0 rfl rfl ?_
  refine v_aload_n dL_cell_1 rfl rfl ?_
  refine v_slen dL_cell_2 ?_
  refine v_icmp_ge (tgt := 12) dL_cell_3 (by decide) (by omega) (by omega) (fun g => ?_) (fun g => ?_)
  · refine v_iconst dL_cell_12 ?_
    exact v_ireturn dL_cell_13 rfl (hq 0 (by omega) (by rw [if_neg (by omega)]))
  · refine v_aload_n dL_cell_6 rfl rfl ?_
    refine v_iload_n dL_cell_7 rfl rfl ?_
    refine v_sld (j := 0) dL_cell_8 rfl (by omega) hN ?_
    refine v_goto (tgt := 13) dL_cell_9 (by decide) ?_
    exact v_ireturn dL_cell_13 rfl (hq _ (i32_rng _) (by rw [if_pos (by omega)]))
theorem lw_loop {bc bs : Nat} (hN : gN G ≤ 3073) : ∀ (n i : Nat) (x : Int) (m : MM), gN G < i + n → x = (i : Int) → i ≤ 4000 → Rel m m → V G 2048 84000 bc bs mi_L_law 28 (lL x) [] KK (m, SR m) (lwZ G) := by
  intro n
  induction n with
  | zero =>
    intro i x m hn e hi h
    refine v_iload_n dL_law_28 rfl rfl ?_
    refine v_aload_n dL_law_29 rfl rfl ?_
    refine v_slen dL_law_30 ?_
    refine v_bipush dL_law_31 rfl ?_
    refine v_isub dL_law_33 ?_
    refine v_icmp_gt (tgt := 846) dL_law_34 (by decide) (by omega) (by omega) (fun _ => ?_) (fun z => absurd z (by omega))
    refine v_iconst dL_law_846 ?_
    exact v_lawEnd
  | succ n ih =>
    intro i x m hn e hi h
    refine v_iload_n dL_law_28 rfl rfl ?_
    refine v_aload_n dL_law_29 rfl rfl ?_
    refine v_slen dL_law_30 ?_
    refine v_bipush dL_law_31 rfl ?_
    refine v_isub dL_law_33 ?_
    refine v_icmp_gt (tgt := 846) dL_law_34 (by decide) (by omega) (by omega) (fun _ => ?_) (fun g => ?_)
    · refine v_iconst dL_law_846 ?_
      exact v_lawEnd
    · have h6 : i + 6 ≤ gN G := by omega
      have hN2 : gN G < 2147483648 := by omega
      have next : ∀ m', Rel m' m' → V G 2048 84000 bc bs mi_L_law 840 (lL x) [] KK (m', SR m') (lwZ G) := by
        intro m' hr
        refine v_iinc dL_law_840 rfl (by decide) ?_
        refine v_goto (tgt := 28) dL_law_843 (by decide) ?_
        exact ih (i + 6) (x + 6) m' (by omega) (by omega) (by omega) hr
      refine v_aload_n dL_law_37 rfl rfl ?_
      refine v_iload_n dL_law_38 rfl rfl ?_
      refine v_sld (j := i) dL_law_39 e (by omega) hN2 ?_
      refine v_bipush dL_law_40 rfl ?_
      refine v_iand dL_law_42 ?_
      have hr := and31 (gX G i).toInt
      generalize iand (gX G i).toInt 31 = op at hr ⊢
      by_cases ho : 23 < op
      · exact v_tableOut (tgt := 840) dL_law_43 (by omega) (Or.inr ho) (by decide) (next m h)
      · obtain ⟨o, rfl⟩ : ∃ o : Nat, op = (o : Int) := ⟨op.toNat, by omega⟩
        have ho2 : o < 24 := by omega
        clear hr ho
        match o, ho2 with
        | 0, _ => exact v_tableIn (off := 109) (tgt := 152) dL_law_43 (by decide) (by decide) (by decide) (by decide) (by decide) (lc_0 hN2 e h6 h next)
        | 1, _ => exact v_tableIn (off := 132) (tgt := 175) dL_law_43 (by decide) (by decide) (by decide) (by decide) (by decide) (lc_1 hN2 e h6 h next)
        | 2, _ => exact v_tableIn (off := 181) (tgt := 224) dL_law_43 (by decide) (by decide) (by decide) (by decide) (by decide) (lc_2 hN2 e h6 h next)
        | 3, _ => exact v_tableIn (off := 244) (tgt := 287) dL_law_43 (by decide) (by decide) (by decide) (by decide) (by decide) (lc_3 hN2 e h6 h next)
        | 4, _ => exact v_tableIn (off := 267) (tgt := 310) dL_law_43 (by decide) (by decide) (by decide) (by decide) (by decide) (lc_4 hN2 e h6 h next)
        | 5, _ => exact v_tableIn (off := 280) (tgt := 323) dL_law_43 (by decide) (by decide) (by decide) (by decide) (by decide) (lc_5 hN2 e h6 h next)
        | 6, _ => exact v_tableIn (off := 303) (tgt := 346) dL_law_43 (by decide) (by decide) (by decide) (by decide) (by decide) (lc_6 hN2 e h6 h next)
        | 7, _ => exact v_tableIn (off := 326) (tgt := 369) dL_law_43 (by decide) (by decide) (by decide) (by decide) (by decide) (lc_7 hN2 e h6 h next)
        | 8, _ => exact v_tableIn (off := 359) (tgt := 402) dL_law_43 (by decide) (by decide) (by decide) (by decide) (by decide) (lc_8 hN2 e h6 h next)
        | 9, _ => exact v_tableIn (off := 392) (tgt := 435) dL_law_43 (by decide) (by decide) (by decide) (by decide) (by decide) (lc_9 hN2 e h6 h next)
        | 10, _ => exact v_tableIn (off := 425) (tgt := 468) dL_law_43 (by decide) (by decide) (by decide) (by decide) (by decide) (lc_10 hN2 e h6 h next)
        | 11, _ => exact v_tableIn (off := 448) (tgt := 491) dL_law_43 (by decide) (by decide) (by decide) (by decide) (by decide) (lc_11 hN2 e h6 h next)
        | 12, _ => exact v_tableIn (off := 471) (tgt := 514) dL_law_43 (by decide) (by decide) (by decide) (by decide) (by decide) (lc_12 hN2 e h6 h next)
        | 13, _ => exact v_tableIn (off := 504) (tgt := 547) dL_law_43 (by decide) (by decide) (by decide) (by decide) (by decide) (lc_13 hN2 e h6 h next)
        | 14, _ => exact v_tableIn (off := 517) (tgt := 560) dL_law_43 (by decide) (by decide) (by decide) (by decide) (by decide) (lc_14 hN2 e h6 h next)
        | 15, _ => exact v_tableIn (off := 550) (tgt := 593) dL_law_43 (by decide) (by decide) (by decide) (by decide) (by decide) (lc_15 hN2 e h6 h next)
        | 16, _ => exact v_tableIn (off := 593) (tgt := 636) dL_law_43 (by decide) (by decide) (by decide) (by decide) (by decide) (lc_16 hN2 e h6 h next)
        | 17, _ => exact v_tableIn (off := 616) (tgt := 659) dL_law_43 (by decide) (by decide) (by decide) (by decide) (by decide) (lc_17 hN2 e h6 h next)
        | 18, _ => exact v_tableIn (off := 639) (tgt := 682) dL_law_43 (by decide) (by decide) (by decide) (by decide) (by decide) (lc_18 hN2 e h6 h next)
        | 19, _ => exact v_tableIn (off := 662) (tgt := 705) dL_law_43 (by decide) (by decide) (by decide) (by decide) (by decide) (lc_19 hN2 e h6 h next)
        | 20, _ => exact v_tableIn (off := 705) (tgt := 748) dL_law_43 (by decide) (by decide) (by decide) (by decide) (by decide) (lc_20 hN2 e h6 h next)
        | 21, _ => exact v_tableIn (off := 748) (tgt := 791) dL_law_43 (by decide) (by decide) (by decide) (by decide) (by decide) (lc_21 hN2 e h6 h next)
        | 22, _ => exact v_tableIn (off := 761) (tgt := 804) dL_law_43 (by decide) (by decide) (by decide) (by decide) (by decide) (lc_22 hN2 e h6 h next)
        | 23, _ => exact v_tableIn (off := 774) (tgt := 817) dL_law_43 (by decide) (by decide) (by decide) (by decide) (by decide) (lc_23 hN2 e h6 h next)
        | o + 24, ho2 => exact absurd ho2 (by omega)
theorem law_all {M : Mem} (hN : gN G ≤ 3073) : V G 2048 84000 600000 7302250 mi_L_law 0 [some (vr 999997), none, none, none] [] 0 M (lwZ G) := by
  have hN2 : gN G < 2147483648 := by omega
  refine v_bud (bc := 599999 + 1) (bs := 7302238 + NF 7) (by decide) (by decide) ?_
  refine v_new (ci := 7) dL_law_0 clX7 ck_L_7 sh_0 (by omega) ?_
  refine v_dupr dL_law_3 ?_
  refine v_aload_n dL_law_4 rfl rfl ?_
  refine v_iconst dL_law_5 ?_
  refine v_bud (bc := 0 + 599999) (bs := 0 + 7302238) (by decide) (by decide) ?_
  refine v_callS (d := 0) (bc' := 0) (bs' := 0) (As := [vr 999997, vi 0]) (st := [vr 0, vr 0]) dL_law_6 ml_L_9 mo_L_cell ms_L_cell rfl rfl (Nat.le_of_ble_eq_true rfl) (Nat.le_of_ble_eq_true rfl) (Nat.le_of_ble_eq_true rfl) (Nat.le_of_ble_eq_true rfl) (Q := fun r _ M' => ∃ z, r = some (vi z) ∧ rng z ∧ (z = if 0 < gN G then gI G 0 else 0)) (c_cell hN2 (fun z h1 h2 => ⟨z, rfl, h1, h2⟩)) (fun r M1 hr => ?_)
  obtain ⟨z, rfl, hz, ez⟩ := hr
  refine v_bud (bc := 303 + 599696) (bs := 5124 + 7297114) (by decide) (by decide) ?_
  refine v_callI (d := 0 + 4) (bc' := 303) (bs' := 5124) (o := 0) (As := [vi z]) (st := [vr 0]) dL_law_9 ml_L_15 mo_X7_init mn_X7_init rfl rfl rfl rfl (Nat.le_of_ble_eq_true rfl) (Nat.le_of_ble_eq_true rfl) (Nat.le_of_ble_eq_true rfl) (Nat.le_of_ble_eq_true rfl) (Q := fun r _ M' => r = none ∧ I7 M' 304 [11, 10, 9, 8, 7, 6, 5, 4, 3, 1] [(0, cl6 z), (2, 0)] ∧ ∀ q, q < 4 → M'.2 11 q = some (284 + 5 * q)) (k_glass hz (fun M' a1 a2 => ⟨rfl, a1, a2⟩)) (fun r M2 hr => ?_)
  obtain ⟨rfl, i2, a2⟩ := hr
  refine v_astore_n dL_law_12 rfl (by decide) ?_
  refine v_bud (bc := 599695 + 1) (bs := 7297081 + NF 8) (by decide) (by decide) ?_
  refine v_new (ci := 8) dL_law_13 clX8 ck_L_18 sh_304 (by omega) ?_
  have l3 : Lo 304 M2 (zM M2 304) := (Lo.rf 304 M2).z (Nat.le_refl _)
  have h6 : (zM M2 304).1 304 6 = 0 := by simp [zM]
  have i3 : I7 (zM M2 304) 304 [11, 10, 9, 8, 7, 6, 5, 4, 3, 1] [(0, cl6 z), (2, 0)] := i2.lo l3 (by omega) (fun j b1 b2 => absurd b1 (by omega)) (fun _ => Or.inl (by omega)) (fun _ => Or.inl (by omega)) (fun _ => Or.inl (by omega))
  have a3 : ∀ q, q < 4 → (zM M2 304).2 11 q = some (284 + 5 * q) := fun q hq => by rw [(l3 11 (by omega)).2]; exact a2 q hq
  show V G 2048 84000 599695 7297081 mi_L_law 16 [some (vr 999997), some (vr 0), none, none] [vr 304] 305 (zM M2 304) (lwZ G)
  generalize zM M2 304 = M3 at h6 i3 a3 ⊢
  refine v_dupr dL_law_16 ?_
  refine v_aload_n dL_law_17 rfl rfl ?_
  refine v_iconst dL_law_18 ?_
  refine v_bud (bc := 0 + 599695) (bs := 0 + 7297081) (by decide) (by decide) ?_
  refine v_callS (d := 0) (bc' := 0) (bs' := 0) (As := [vr 999997, vi 0]) (st := [vr 304, vr 304]) dL_law_19 ml_L_9 mo_L_cell ms_L_cell rfl rfl (Nat.le_of_ble_eq_true rfl) (Nat.le_of_ble_eq_true rfl) (Nat.le_of_ble_eq_true rfl) (Nat.le_of_ble_eq_true rfl) (Q := fun r _ M' => M' = M3 ∧ ∃ z, r = some (vi z) ∧ (z = if 0 < gN G then gI G 0 else 0)) (c_cell hN2 (fun z h1 h2 => ⟨rfl, z, rfl, h2⟩)) (fun r M4 hr => ?_)
  obtain ⟨rfl, z2, rfl, ez2⟩ := hr
  rw [← ez] at ez2
  subst ez2
  refine v_bud (bc := 13 + 599682) (bs := 8752 + 7288329) (by decide) (by decide) ?_
  refine v_callI (d := 0 + 2) (bc' := 13) (bs' := 8752) (o := 304) (As := [vi z2]) (st := [vr 304]) dL_law_22 ml_L_20 mo_X8_init mn_X8_init rfl rfl rfl rfl (Nat.le_of_ble_eq_true rfl) (Nat.le_of_ble_eq_true rfl) (Nat.le_of_ble_eq_true rfl) (Nat.le_of_ble_eq_true rfl) (Q := fun r _ M' => r = none ∧ ∃ m, M' = (m, SR m) ∧ Rel m m) (k_model hz h6 (i7_all i3 a3) (fun m h8 => ⟨rfl, m, rfl, rel_0 i3 h8⟩)) (fun r M5 hr => ?_)
  obtain ⟨rfl, m, rfl, hrel⟩ := hr
  refine v_astore_n dL_law_25 rfl (by decide) ?_
  refine v_iconst dL_law_26 ?_
  refine v_istore_n dL_law_27 rfl (by decide) ?_
  exact lw_loop hN (gN G) 1 1 m (by omega) rfl (by omega) hrel
end Law3
