theorem g_X8_copy_0 {G : GG} {d : Nat} {m : MM} {k : MM → Prop} (c0 : Nat) (h0 : SH c0 = .inl (.int, 1584)) (c1 : Nat) (h1 : SH c1 = .inl (.int, 1584))
    (hp : N G d mi_X8_copy 2 [some (vr c0), some (vr c1), some (vi 0)] [] m (RV k)) :
    N G d mi_X8_copy 0 [some (vr c0), some (vr c1), none] [] m (RV k) := by
  refine v_iconst dX8_copy_0 ?_
  refine v_istore_n dX8_copy_1 rfl (by decide) ?_
  exact hp
theorem g_X8_copy_2 {G : GG} {d : Nat} {m : MM} {k : MM → Prop} (c0 : Nat) (h0 : SH c0 = .inl (.int, 1584)) (c1 : Nat) (h1 : SH c1 = .inl (.int, 1584)) (x2 : Int)
    (hp : bLE 1584 x2 (k m) (∃ j1 : Nat, (x2 = (j1 : Int) ∧ j1 < 1584) ∧ (∃ j3 : Nat, (x2 = (j3 : Int) ∧ j3 < 1584) ∧ (∀ m2 : MM, m2 = upm m c1 j3 (m c0 j1) → (N G d mi_X8_copy 2 [some (vr c0), some (vr c1), some (vi (x2 + 1))] [] m2 (RV k)))))) :
    N G d mi_X8_copy 2 [some (vr c0), some (vr c1), some (vi x2)] [] m (RV k) := by
  refine v_iload_n dX8_copy_2 rfl rfl ?_
  refine v_sipush dX8_copy_3 rfl ?_
  obtain ⟨⟨r1, r2⟩, hA, hB⟩ := hp
  refine v_icmp_ge (tgt := 21) dX8_copy_6 (by decide) r2 r1 (fun q => ?_) (fun q => ?_)
  · have hp := hA q
    exact n_retV dX8_copy_21 rfl hp
  · have hp := hB q
    refine v_aload_n dX8_copy_9 rfl rfl ?_
    refine v_iload_n dX8_copy_10 rfl rfl ?_
    refine v_aload_n dX8_copy_11 rfl rfl ?_
    refine v_iload_n dX8_copy_12 rfl rfl ?_
    obtain ⟨j1, ⟨ej1, bj1⟩, hp⟩ := hp
    refine n_iald (j := j1) dX8_copy_13 h0 ej1 bj1 ?_
    obtain ⟨j3, ⟨ej3, bj3⟩, hp⟩ := hp
    refine w_iast (j := j3) dX8_copy_14 h1 ej3 bj3 (fun m2 em2 => ?_)
    have hp := hp m2 em2
    refine v_iinc dX8_copy_15 rfl (by decide) ?_
    refine v_goto (tgt := 2) dX8_copy_18 (by decide) ?_
    exact hp
theorem g_X8_isIn_0 {G : GG} {d : Nat} {m : MM} {k : Int → MM → Prop} (x0 : Int) (x1 : Int) (x2 : Int)
    (hp : bLT x0 x1 (k 0 m) (bLT x2 x0 (k 0 m) (k 1 m))) :
    N G d mi_X8_isIn 0 [some (vi x0), some (vi x1), some (vi x2)] [] m (RI k) := by
  refine v_iload_n dX8_isIn_0 rfl rfl ?_
  refine v_iload_n dX8_isIn_1 rfl rfl ?_
  obtain ⟨⟨r1, r2⟩, hA, hB⟩ := hp
  refine v_icmp_lt (tgt := 14) dX8_isIn_2 (by decide) r1 r2 (fun q => ?_) (fun q => ?_)
  · have hp := hA q
    refine v_iconst dX8_isIn_14 ?_
    exact n_retZ dX8_isIn_15 rfl (by decide) hp
  · have hp := hB q
    refine v_iload_n dX8_isIn_5 rfl rfl ?_
    refine v_iload_n dX8_isIn_6 rfl rfl ?_
    obtain ⟨⟨r1, r2⟩, hA, hB⟩ := hp
    refine v_icmp_gt (tgt := 14) dX8_isIn_7 (by decide) r2 r1 (fun q => ?_) (fun q => ?_)
    · have hp := hA q
      refine v_iconst dX8_isIn_14 ?_
      exact n_retZ dX8_isIn_15 rfl (by decide) hp
    · have hp := hB q
      refine v_iconst dX8_isIn_10 ?_
      refine v_goto (tgt := 15) dX8_isIn_11 (by decide) ?_
      exact n_retZ dX8_isIn_15 rfl (by decide) hp
theorem g_X8_has_0 {G : GG} {d : Nat} {m : MM} {k : Int → MM → Prop} (x0 : Int) (x1 : Int)
    (hp : bEQ (iand (ishr x0 x1) 1) 1 (k 1 m) (k 0 m)) :
    N G d mi_X8_has 0 [some (vi x0), some (vi x1)] [] m (RI k) := by
  refine v_iload_n dX8_has_0 rfl rfl ?_
  refine v_iload_n dX8_has_1 rfl rfl ?_
  refine v_ishr dX8_has_2 ?_
  refine v_iconst dX8_has_3 ?_
  refine v_iand dX8_has_4 ?_
  refine v_iconst dX8_has_5 ?_
  obtain ⟨⟨r1, r2⟩, hA, hB⟩ := hp
  refine v_icmp_ne (tgt := 13) dX8_has_6 (by decide) r1 r2 (fun q => ?_) (fun q => ?_)
  · have hp := hB q
    refine v_iconst dX8_has_13 ?_
    exact n_retZ dX8_has_14 rfl (by decide) hp
  · have hp := hA q
    refine v_iconst dX8_has_9 ?_
    refine v_goto (tgt := 14) dX8_has_10 (by decide) ?_
    exact n_retZ dX8_has_14 rfl (by decide) hp
theorem g_X8_bits_0 {G : GG} {d : Nat} {m : MM} {k : Int → MM → Prop} (x0 : Int)
    (hp : N G d mi_X8_bits 4 [some (vi x0), some (vi 0), some (vi 0)] [] m (RI k)) :
    N G d mi_X8_bits 0 [some (vi x0), none, none] [] m (RI k) := by
  refine v_iconst dX8_bits_0 ?_
  refine v_istore_n dX8_bits_1 rfl (by decide) ?_
  refine v_iconst dX8_bits_2 ?_
  refine v_istore_n dX8_bits_3 rfl (by decide) ?_
  exact hp
theorem g_X8_bits_4 {G : GG} {d : Nat} {m : MM} {k : Int → MM → Prop} (x0 : Int) (x1 : Int) (x2 : Int)
    (hp : bLE 8 x2 (k x1 m) (N G d mi_X8_bits 4 [some (vi x0), some (vi (x1 + (iand (ishr x0 x2) 1))), some (vi (x2 + 1))] [] m (RI k))) :
    N G d mi_X8_bits 4 [some (vi x0), some (vi x1), some (vi x2)] [] m (RI k) := by
  refine v_iload_n dX8_bits_4 rfl rfl ?_
  refine v_bipush dX8_bits_5 rfl ?_
  obtain ⟨⟨r1, r2⟩, hA, hB⟩ := hp
  refine v_icmp_ge (tgt := 24) dX8_bits_7 (by decide) r2 r1 (fun q => ?_) (fun q => ?_)
  · have hp := hA q
    refine v_iload_n dX8_bits_24 rfl rfl ?_
    exact n_retI dX8_bits_25 rfl hp
  · have hp := hB q
    refine v_iload_n dX8_bits_10 rfl rfl ?_
    refine v_iload_n dX8_bits_11 rfl rfl ?_
    refine v_iload_n dX8_bits_12 rfl rfl ?_
    refine v_ishr dX8_bits_13 ?_
    refine v_iconst dX8_bits_14 ?_
    refine v_iand dX8_bits_15 ?_
    refine v_iadd dX8_bits_16 ?_
    refine v_istore_n dX8_bits_17 rfl (by decide) ?_
    refine v_iinc dX8_bits_18 rfl (by decide) ?_
    refine v_goto (tgt := 4) dX8_bits_21 (by decide) ?_
    exact hp
theorem g_X8_isThing_0 {G : GG} {d : Nat} {m : MM} {k : Int → MM → Prop} (x1 : Int)
    (hp : N G d mi_X8_isIn 0 [some (vi x1), some (vi 0), some (vi ((m 305 0) - 1))] [] m (RI fun z1 m2 => (z1 = 0 ∨ z1 = 1) ∧ (k z1 m2))) :
    N G (d + 1) mi_X8_isThing 0 [some (vr 304), some (vi x1)] [] m (RI k) := by
  refine v_iload_n dX8_isThing_0 rfl rfl ?_
  refine v_iconst dX8_isThing_1 ?_
  refine v_aload_n dX8_isThing_2 rfl rfl ?_
  refine n_getr dX8_isThing_3 fo_X8_7 sh_304 rfl sr_304_0 ?_
  refine v_iconst dX8_isThing_6 ?_
  refine n_iald (j := 0) dX8_isThing_7 sh_305 rfl (by decide) ?_
  refine v_iconst dX8_isThing_8 ?_
  refine v_isub dX8_isThing_9 ?_
  refine n_callSI (As := [vi x1, vi 0, vi ((m 305 0) - 1)]) (st := []) dX8_isThing_10 ml_X8_69 mo_X8_isIn ms_X8_isIn rfl rfl (Nat.le_of_ble_eq_true rfl) (Nat.le_of_ble_eq_true rfl) (by decide) hp (fun z1 m2 hp => ?_)
  exact n_retZ dX8_isThing_13 rfl hp.1 hp.2
theorem g_X8_isEye_0 {G : GG} {d : Nat} {m : MM} {k : Int → MM → Prop} (x1 : Int)
    (hp : N G d mi_X8_isIn 0 [some (vi x1), some (vi 0), some (vi ((m 305 1) - 1))] [] m (RI fun z1 m2 => (z1 = 0 ∨ z1 = 1) ∧ (k z1 m2))) :
    N G (d + 1) mi_X8_isEye 0 [some (vr 304), some (vi x1)] [] m (RI k) := by
  refine v_iload_n dX8_isEye_0 rfl rfl ?_
  refine v_iconst dX8_isEye_1 ?_
  refine v_aload_n dX8_isEye_2 rfl rfl ?_
  refine n_getr dX8_isEye_3 fo_X8_7 sh_304 rfl sr_304_0 ?_
  refine v_iconst dX8_isEye_6 ?_
  refine n_iald (j := 1) dX8_isEye_7 sh_305 rfl (by decide) ?_
  refine v_iconst dX8_isEye_8 ?_
  refine v_isub dX8_isEye_9 ?_
  refine n_callSI (As := [vi x1, vi 0, vi ((m 305 1) - 1)]) (st := []) dX8_isEye_10 ml_X8_69 mo_X8_isIn ms_X8_isIn rfl rfl (Nat.le_of_ble_eq_true rfl) (Nat.le_of_ble_eq_true rfl) (by decide) hp (fun z1 m2 hp => ?_)
  exact n_retZ dX8_isEye_13 rfl hp.1 hp.2
theorem g_X8_isOne_0 {G : GG} {d : Nat} {m : MM} {k : Int → MM → Prop} (x1 : Int)
    (hp : N G d mi_X8_isIn 0 [some (vi x1), some (vi 0), some (vi ((m 304 3) - 1))] [] m (RI fun z1 m2 => (z1 = 0 ∨ z1 = 1) ∧ (k z1 m2))) :
    N G (d + 1) mi_X8_isOne 0 [some (vr 304), some (vi x1)] [] m (RI k) := by
  refine v_iload_n dX8_isOne_0 rfl rfl ?_
  refine v_iconst dX8_isOne_1 ?_
  refine v_aload_n dX8_isOne_2 rfl rfl ?_
  refine n_geti dX8_isOne_3 fo_X8_58 sh_304 rfl ?_
  refine v_iconst dX8_isOne_6 ?_
  refine v_isub dX8_isOne_7 ?_
  refine n_callSI (As := [vi x1, vi 0, vi ((m 304 3) - 1)]) (st := []) dX8_isOne_8 ml_X8_69 mo_X8_isIn ms_X8_isIn rfl rfl (Nat.le_of_ble_eq_true rfl) (Nat.le_of_ble_eq_true rfl) (by decide) hp (fun z1 m2 hp => ?_)
  exact n_retZ dX8_isOne_11 rfl hp.1 hp.2
theorem g_X8_get_0 {G : GG} {d : Nat} {m : MM} {k : Int → MM → Prop} (x1 : Int) (x2 : Int)
    (hp : ∃ j1 : Nat, (((20 + (8 * x1)) + x2) = (j1 : Int) ∧ j1 < 1584) ∧ (k (m 305 j1) m)) :
    N G d mi_X8_get 0 [some (vr 304), some (vi x1), some (vi x2)] [] m (RI k) := by
  refine v_aload_n dX8_get_0 rfl rfl ?_
  refine n_getr dX8_get_1 fo_X8_7 sh_304 rfl sr_304_0 ?_
  refine v_bipush dX8_get_4 rfl ?_
  refine v_bipush dX8_get_6 rfl ?_
  refine v_iload_n dX8_get_8 rfl rfl ?_
  refine v_imul dX8_get_9 ?_
  refine v_iadd dX8_get_10 ?_
  refine v_iload_n dX8_get_11 rfl rfl ?_
  refine v_iadd dX8_get_12 ?_
  obtain ⟨j1, ⟨ej1, bj1⟩, hp⟩ := hp
  refine n_iald (j := j1) dX8_get_13 sh_305 ej1 bj1 ?_
  exact n_retI dX8_get_14 rfl hp
theorem g_X8_set_0 {G : GG} {d : Nat} {m : MM} {k : MM → Prop} (x1 : Int) (x2 : Int) (x3 : Int)
    (hp : ∃ j2 : Nat, (((20 + (8 * x1)) + x2) = (j2 : Int) ∧ j2 < 1584) ∧ (∀ m1 : MM, m1 = upm m 305 j2 x3 → (k m1))) :
    N G d mi_X8_set 0 [some (vr 304), some (vi x1), some (vi x2), some (vi x3)] [] m (RV k) := by
  refine v_aload_n dX8_set_0 rfl rfl ?_
  refine n_getr dX8_set_1 fo_X8_7 sh_304 rfl sr_304_0 ?_
  refine v_bipush dX8_set_4 rfl ?_
  refine v_bipush dX8_set_6 rfl ?_
  refine v_iload_n dX8_set_8 rfl rfl ?_
  refine v_imul dX8_set_9 ?_
  refine v_iadd dX8_set_10 ?_
  refine v_iload_n dX8_set_11 rfl rfl ?_
  refine v_iadd dX8_set_12 ?_
  refine v_iload_n dX8_set_13 rfl rfl ?_
  obtain ⟨j2, ⟨ej2, bj2⟩, hp⟩ := hp
  refine w_iast (j := j2) dX8_set_14 sh_305 ej2 bj2 (fun m1 em1 => ?_)
  have hp := hp m1 em1
  exact n_retV dX8_set_15 rfl hp
theorem g_X8_clear_0 {G : GG} {d : Nat} {m : MM} {k : MM → Prop} (x1 : Int)
    (hp : N G d mi_X8_set 0 [some (vr 304), some (vi x1), some (vi 2), some (vi (-1))] [] m (RV fun m2 => N G d mi_X8_set 0 [some (vr 304), some (vi x1), some (vi 3), some (vi 0)] [] m2 (RV fun m4 => N G (d + 1) mi_X8_clear 16 [some (vr 304), some (vi x1), some (vi 0)] [] m4 (RV k)))) :
    N G (d + 1) mi_X8_clear 0 [some (vr 304), some (vi x1), none] [] m (RV k) := by
  refine v_aload_n dX8_clear_0 rfl rfl ?_
  refine v_iload_n dX8_clear_1 rfl rfl ?_
  refine v_iconst dX8_clear_2 ?_
  refine v_iconst dX8_clear_3 ?_
  refine n_callVV (As := [vi x1, vi 2, vi (-1)]) (st := []) dX8_clear_4 ml_X8_73 mo_X8_set mv_X8_set sh_304 rfl rfl rfl rfl (Nat.le_of_ble_eq_true rfl) (Nat.le_of_ble_eq_true rfl) (by decide) hp (fun m2 hp => ?_)
  refine v_aload_n dX8_clear_7 rfl rfl ?_
  refine v_iload_n dX8_clear_8 rfl rfl ?_
  refine v_iconst dX8_clear_9 ?_
  refine v_iconst dX8_clear_10 ?_
  refine n_callVV (As := [vi x1, vi 3, vi 0]) (st := []) dX8_clear_11 ml_X8_73 mo_X8_set mv_X8_set sh_304 rfl rfl rfl rfl (Nat.le_of_ble_eq_true rfl) (Nat.le_of_ble_eq_true rfl) (by decide) hp (fun m4 hp => ?_)
  refine v_iconst dX8_clear_14 ?_
  refine v_istore_n dX8_clear_15 rfl (by decide) ?_
  exact hp
theorem g_X8_clear_16 {G : GG} {d : Nat} {m : MM} {k : MM → Prop} (x1 : Int) (x2 : Int)
    (hp : bLE 4 x2 (k m) (N G d mi_X8_set 0 [some (vr 304), some (vi x1), some (vi (4 + x2)), some (vi (-1))] [] m (RV fun m2 => N G (d + 1) mi_X8_clear 16 [some (vr 304), some (vi x1), some (vi (x2 + 1))] [] m2 (RV k)))) :
    N G (d + 1) mi_X8_clear 16 [some (vr 304), some (vi x1), some (vi x2)] [] m (RV k) := by
  refine v_iload_n dX8_clear_16 rfl rfl ?_
  refine v_iconst dX8_clear_17 ?_
  obtain ⟨⟨r1, r2⟩, hA, hB⟩ := hp
  refine v_icmp_ge (tgt := 36) dX8_clear_18 (by decide) r2 r1 (fun q => ?_) (fun q => ?_)
  · have hp := hA q
    exact n_retV dX8_clear_36 rfl hp
  · have hp := hB q
    refine v_aload_n dX8_clear_21 rfl rfl ?_
    refine v_iload_n dX8_clear_22 rfl rfl ?_
    refine v_iconst dX8_clear_23 ?_
    refine v_iload_n dX8_clear_24 rfl rfl ?_
    refine v_iadd dX8_clear_25 ?_
    refine v_iconst dX8_clear_26 ?_
    refine n_callVV (As := [vi x1, vi (4 + x2), vi (-1)]) (st := []) dX8_clear_27 ml_X8_73 mo_X8_set mv_X8_set sh_304 rfl rfl rfl rfl (Nat.le_of_ble_eq_true rfl) (Nat.le_of_ble_eq_true rfl) (by decide) hp (fun m2 hp => ?_)
    refine v_iinc dX8_clear_30 rfl (by decide) ?_
    refine v_goto (tgt := 16) dX8_clear_33 (by decide) ?_
    exact hp
theorem g_X8_manyOf_0 {G : GG} {d : Nat} {m : MM} {k : Int → MM → Prop} (x1 : Int)
    (hp : N G (d + 1) mi_X8_manyOf 4 [some (vr 304), some (vi x1), some (vi 0), some (vi 0)] [] m (RI k)) :
    N G (d + 1) mi_X8_manyOf 0 [some (vr 304), some (vi x1), none, none] [] m (RI k) := by
  refine v_iconst dX8_manyOf_0 ?_
  refine v_istore_n dX8_manyOf_1 rfl (by decide) ?_
  refine v_iconst dX8_manyOf_2 ?_
  refine v_istore_n dX8_manyOf_3 rfl (by decide) ?_
  exact hp
theorem g_X8_manyOf_4 {G : GG} {d : Nat} {m : MM} {k : Int → MM → Prop} (x1 : Int) (x2 : Int) (x3 : Int)
    (hp : bLE 4 x3 (k x2 m) (N G d mi_X8_get 0 [some (vr 304), some (vi x1), some (vi (4 + x3))] [] m (RI fun z1 m2 => bLT z1 0 (N G (d + 1) mi_X8_manyOf 4 [some (vr 304), some (vi x1), some (vi (x2 + 0)), some (vi (x3 + 1))] [] m2 (RI k)) (N G (d + 1) mi_X8_manyOf 4 [some (vr 304), some (vi x1), some (vi (x2 + 1)), some (vi (x3 + 1))] [] m2 (RI k))))) :
    N G (d + 1) mi_X8_manyOf 4 [some (vr 304), some (vi x1), some (vi x2), some (vi x3)] [] m (RI k) := by
  refine v_iload_n dX8_manyOf_4 rfl rfl ?_
  refine v_iconst dX8_manyOf_5 ?_
  obtain ⟨⟨r1, r2⟩, hA, hB⟩ := hp
  refine v_icmp_ge (tgt := 34) dX8_manyOf_6 (by decide) r2 r1 (fun q => ?_) (fun q => ?_)
  · have hp := hA q
    refine v_iload_n dX8_manyOf_34 rfl rfl ?_
    exact n_retI dX8_manyOf_35 rfl hp
  · have hp := hB q
    refine v_iload_n dX8_manyOf_9 rfl rfl ?_
    refine v_aload_n dX8_manyOf_10 rfl rfl ?_
    refine v_iload_n dX8_manyOf_11 rfl rfl ?_
    refine v_iconst dX8_manyOf_12 ?_
    refine v_iload_n dX8_manyOf_13 rfl rfl ?_
    refine v_iadd dX8_manyOf_14 ?_
    refine n_callVI (As := [vi x1, vi (4 + x3)]) (st := [vi x2]) dX8_manyOf_15 ml_X8_77 mo_X8_get mv_X8_get sh_304 rfl rfl rfl rfl (Nat.le_of_ble_eq_true rfl) (Nat.le_of_ble_eq_true rfl) (by decide) hp (fun z1 m2 hp => ?_)
    obtain ⟨⟨r1, r2⟩, hA, hB⟩ := hp
    refine v_if_lt (tgt := 25) dX8_manyOf_18 (by decide) r1 (fun q => ?_) (fun q => ?_)
    · have hp := hA q
      refine v_iconst dX8_manyOf_25 ?_
      refine v_iadd dX8_manyOf_26 ?_
      refine v_istore_n dX8_manyOf_27 rfl (by decide) ?_
      refine v_iinc dX8_manyOf_28 rfl (by decide) ?_
      refine v_goto (tgt := 4) dX8_manyOf_31 (by decide) ?_
      exact hp
    · have hp := hB q
      refine v_iconst dX8_manyOf_21 ?_
      refine v_goto (tgt := 26) dX8_manyOf_22 (by decide) ?_
      refine v_iadd dX8_manyOf_26 ?_
      refine v_istore_n dX8_manyOf_27 rfl (by decide) ?_
      refine v_iinc dX8_manyOf_28 rfl (by decide) ?_
      refine v_goto (tgt := 4) dX8_manyOf_31 (by decide) ?_
      exact hp
theorem g_X8_wornBy_0 {G : GG} {d : Nat} {m : MM} {k : Int → MM → Prop} (x1 : Int)
    (hp : N G (d + 1) mi_X8_wornBy 4 [some (vr 304), some (vi x1), some (vi 0), some (vi 0)] [] m (RI k)) :
    N G (d + 1) mi_X8_wornBy 0 [some (vr 304), some (vi x1), none, none] [] m (RI k) := by
  refine v_iconst dX8_wornBy_0 ?_
  refine v_istore_n dX8_wornBy_1 rfl (by decide) ?_
  refine v_iconst dX8_wornBy_2 ?_
  refine v_istore_n dX8_wornBy_3 rfl (by decide) ?_
  exact hp
theorem g_X8_wornBy_4 {G : GG} {d : Nat} {m : MM} {k : Int → MM → Prop} (x1 : Int) (x2 : Int) (x3 : Int)
    (hp : bLE (m 305 1) x3 (k x2 m) (N G d mi_X8_get 0 [some (vr 304), some (vi x3), some (vi 2)] [] m (RI fun z1 m2 => bEQ z1 x1 (N G (d + 1) mi_X8_wornBy 4 [some (vr 304), some (vi x1), some (vi (ior x2 (ishl 1 x3))), some (vi (x3 + 1))] [] m2 (RI k)) (N G (d + 1) mi_X8_wornBy 4 [some (vr 304), some (vi x1), some (vi (ior x2 0)), some (vi (x3 + 1))] [] m2 (RI k))))) :
    N G (d + 1) mi_X8_wornBy 4 [some (vr 304), some (vi x1), some (vi x2), some (vi x3)] [] m (RI k) := by
  refine v_iload_n dX8_wornBy_4 rfl rfl ?_
  refine v_aload_n dX8_wornBy_5 rfl rfl ?_
  refine n_getr dX8_wornBy_6 fo_X8_7 sh_304 rfl sr_304_0 ?_
  refine v_iconst dX8_wornBy_9 ?_
  refine n_iald (j := 1) dX8_wornBy_10 sh_305 rfl (by decide) ?_
  obtain ⟨⟨r1, r2⟩, hA, hB⟩ := hp
  refine v_icmp_ge (tgt := 40) dX8_wornBy_11 (by decide) r2 r1 (fun q => ?_) (fun q => ?_)
  · have hp := hA q
    refine v_iload_n dX8_wornBy_40 rfl rfl ?_
    exact n_retI dX8_wornBy_41 rfl hp
  · have hp := hB q
    refine v_iload_n dX8_wornBy_14 rfl rfl ?_
    refine v_aload_n dX8_wornBy_15 rfl rfl ?_
    refine v_iload_n dX8_wornBy_16 rfl rfl ?_
    refine v_iconst dX8_wornBy_17 ?_
    refine n_callVI (As := [vi x3, vi 2]) (st := [vi x2]) dX8_wornBy_18 ml_X8_77 mo_X8_get mv_X8_get sh_304 rfl rfl rfl rfl (Nat.le_of_ble_eq_true rfl) (Nat.le_of_ble_eq_true rfl) (by decide) hp (fun z1 m2 hp => ?_)
    refine v_iload_n dX8_wornBy_21 rfl rfl ?_
    obtain ⟨⟨r1, r2⟩, hA, hB⟩ := hp
    refine v_icmp_ne (tgt := 31) dX8_wornBy_22 (by decide) r1 r2 (fun q => ?_) (fun q => ?_)
    · have hp := hB q
      refine v_iconst dX8_wornBy_31 ?_
      refine v_ior dX8_wornBy_32 ?_
      refine v_istore_n dX8_wornBy_33 rfl (by decide) ?_
      refine v_iinc dX8_wornBy_34 rfl (by decide) ?_
      refine v_goto (tgt := 4) dX8_wornBy_37 (by decide) ?_
      exact hp
    · have hp := hA q
      refine v_iconst dX8_wornBy_25 ?_
      refine v_iload_n dX8_wornBy_26 rfl rfl ?_
      refine v_ishl dX8_wornBy_27 ?_
      refine v_goto (tgt := 32) dX8_wornBy_28 (by decide) ?_
      refine v_ior dX8_wornBy_32 ?_
      refine v_istore_n dX8_wornBy_33 rfl (by decide) ?_
      refine v_iinc dX8_wornBy_34 rfl (by decide) ?_
      refine v_goto (tgt := 4) dX8_wornBy_37 (by decide) ?_
      exact hp
theorem g_X8_thing_0 {G : GG} {d : Nat} {m : MM} {k : Int → MM → Prop} (x1 : Int)
    (hp : N G d mi_X8_isIn 0 [some (vi x1), some (vi 0), some (vi 3)] [] m (RI fun z1 m2 => bEQ z1 0 (k (-1) m2) (bEQ (m2 305 0) 8 (k (-1) m2) (∃ j4 : Nat, ((8 + (m2 305 0)) = (j4 : Int) ∧ j4 < 1584) ∧ (∀ m3 : MM, m3 = upm m2 305 j4 x1 → (∀ m5 : MM, m5 = upm m3 305 0 ((m3 305 0) + 1) → (k ((m5 305 0) - 1) m5))))))) :
    N G (d + 1) mi_X8_thing 0 [some (vr 304), some (vi x1)] [] m (RI k) := by
  refine v_iload_n dX8_thing_0 rfl rfl ?_
  refine v_iconst dX8_thing_1 ?_
  refine v_iconst dX8_thing_2 ?_
  refine n_callSI (As := [vi x1, vi 0, vi 3]) (st := []) dX8_thing_3 ml_X8_69 mo_X8_isIn ms_X8_isIn rfl rfl (Nat.le_of_ble_eq_true rfl) (Nat.le_of_ble_eq_true rfl) (by decide) hp (fun z1 m2 hp => ?_)
  obtain ⟨⟨r1, r2⟩, hA, hB⟩ := hp
  refine v_if_eq (tgt := 20) dX8_thing_6 (by decide) r1 (fun q => ?_) (fun q => ?_)
  · have hp := hA q
    refine v_iconst dX8_thing_20 ?_
    exact n_retI dX8_thing_21 rfl hp
  · have hp := hB q
    refine v_aload_n dX8_thing_9 rfl rfl ?_
    refine n_getr dX8_thing_10 fo_X8_7 sh_304 rfl sr_304_0 ?_
    refine v_iconst dX8_thing_13 ?_
    refine n_iald (j := 0) dX8_thing_14 sh_305 rfl (by decide) ?_
    refine v_bipush dX8_thing_15 rfl ?_
    obtain ⟨⟨r1, r2⟩, hA, hB⟩ := hp
    refine v_icmp_ne (tgt := 22) dX8_thing_17 (by decide) r1 r2 (fun q => ?_) (fun q => ?_)
    · have hp := hB q
      refine v_aload_n dX8_thing_22 rfl rfl ?_
      refine n_getr dX8_thing_23 fo_X8_7 sh_304 rfl sr_304_0 ?_
      refine v_bipush dX8_thing_26 rfl ?_
      refine v_aload_n dX8_thing_28 rfl rfl ?_
      refine n_getr dX8_thing_29 fo_X8_7 sh_304 rfl sr_304_0 ?_
      refine v_iconst dX8_thing_32 ?_
      refine n_iald (j := 0) dX8_thing_33 sh_305 rfl (by decide) ?_
      refine v_iadd dX8_thing_34 ?_
      refine v_iload_n dX8_thing_35 rfl rfl ?_
      obtain ⟨j4, ⟨ej4, bj4⟩, hp⟩ := hp
      refine w_iast (j := j4) dX8_thing_36 sh_305 ej4 bj4 (fun m3 em3 => ?_)
      have hp := hp m3 em3
      refine v_aload_n dX8_thing_37 rfl rfl ?_
      refine n_getr dX8_thing_38 fo_X8_7 sh_304 rfl sr_304_0 ?_
      refine v_iconst dX8_thing_41 ?_
      refine v_dup2ir dX8_thing_42 ?_
      refine n_iald (j := 0) dX8_thing_43 sh_305 rfl (by decide) ?_
      refine v_iconst dX8_thing_44 ?_
      refine v_iadd dX8_thing_45 ?_
      refine w_iast (j := 0) dX8_thing_46 sh_305 rfl (by decide) (fun m5 em5 => ?_)
      have hp := hp m5 em5
      refine v_aload_n dX8_thing_47 rfl rfl ?_
      refine n_getr dX8_thing_48 fo_X8_7 sh_304 rfl sr_304_0 ?_
      refine v_iconst dX8_thing_51 ?_
      refine n_iald (j := 0) dX8_thing_52 sh_305 rfl (by decide) ?_
      refine v_iconst dX8_thing_53 ?_
      refine v_isub dX8_thing_54 ?_
      exact n_retI dX8_thing_55 rfl hp
    · have hp := hA q
      refine v_iconst dX8_thing_20 ?_
      exact n_retI dX8_thing_21 rfl hp
theorem g_X8_eye_0 {G : GG} {d : Nat} {m : MM} {k : Int → MM → Prop} (x1 : Int) (x2 : Int)
    (hp : N G d mi_X8_isIn 0 [some (vi x1), some (vi 0), some (vi 3)] [] m (RI fun z1 m2 => bEQ z1 0 (k (-1) m2) (bEQ (m2 305 1) 8 (k (-1) m2) (N G d mi_X8_set 0 [some (vr 304), some (vi (m2 305 1)), some (vi 0), some (vi x1)] [] m2 (RV fun m4 => bEQ x2 0 (N G (d + 1) mi_X8_eye 48 [some (vr 304), none, none, some (vi (m2 305 1))] [vi 0, vi 1, vi (m2 305 1), vr 304] m4 (RI k)) (N G (d + 1) mi_X8_eye 48 [some (vr 304), none, none, some (vi (m2 305 1))] [vi 1, vi 1, vi (m2 305 1), vr 304] m4 (RI k))))))) :
    N G (d + 1) mi_X8_eye 0 [some (vr 304), some (vi x1), some (vi x2), none] [] m (RI k) := by
  refine v_iload_n dX8_eye_0 rfl rfl ?_
  refine v_iconst dX8_eye_1 ?_
  refine v_iconst dX8_eye_2 ?_
  refine n_callSI (As := [vi x1, vi 0, vi 3]) (st := []) dX8_eye_3 ml_X8_69 mo_X8_isIn ms_X8_isIn rfl rfl (Nat.le_of_ble_eq_true rfl) (Nat.le_of_ble_eq_true rfl) (by decide) hp (fun z1 m2 hp => ?_)
  obtain ⟨⟨r1, r2⟩, hA, hB⟩ := hp
  refine v_if_eq (tgt := 20) dX8_eye_6 (by decide) r1 (fun q => ?_) (fun q => ?_)
  · have hp := hA q
    refine v_iconst dX8_eye_20 ?_
    exact n_retI dX8_eye_21 rfl hp
  · have hp := hB q
    refine v_aload_n dX8_eye_9 rfl rfl ?_
    refine n_getr dX8_eye_10 fo_X8_7 sh_304 rfl sr_304_0 ?_
    refine v_iconst dX8_eye_13 ?_
    refine n_iald (j := 1) dX8_eye_14 sh_305 rfl (by decide) ?_
    refine v_bipush dX8_eye_15 rfl ?_
    obtain ⟨⟨r1, r2⟩, hA, hB⟩ := hp
    refine v_icmp_ne (tgt := 22) dX8_eye_17 (by decide) r1 r2 (fun q => ?_) (fun q => ?_)
    · have hp := hB q
      refine v_aload_n dX8_eye_22 rfl rfl ?_
      refine n_getr dX8_eye_23 fo_X8_7 sh_304 rfl sr_304_0 ?_
      refine v_iconst dX8_eye_26 ?_
      refine n_iald (j := 1) dX8_eye_27 sh_305 rfl (by decide) ?_
      refine v_istore_n dX8_eye_28 rfl (by decide) ?_
      refine v_aload_n dX8_eye_29 rfl rfl ?_
      refine v_iload_n dX8_eye_30 rfl rfl ?_
      refine v_iconst dX8_eye_31 ?_
      refine v_iload_n dX8_eye_32 rfl rfl ?_
      refine n_callVV (As := [vi (m2 305 1), vi 0, vi x1]) (st := []) dX8_eye_33 ml_X8_73 mo_X8_set mv_X8_set sh_304 rfl rfl rfl rfl (Nat.le_of_ble_eq_true rfl) (Nat.le_of_ble_eq_true rfl) (by decide) hp (fun m4 hp => ?_)
      refine v_aload_n dX8_eye_36 rfl rfl ?_
      refine v_iload_n dX8_eye_37 rfl rfl ?_
      refine v_iconst dX8_eye_38 ?_
      refine v_iload_n dX8_eye_39 rfl rfl ?_
      obtain ⟨⟨r1, r2⟩, hA, hB⟩ := hp
      refine v_if_eq (tgt := 47) dX8_eye_40 (by decide) r1 (fun q => ?_) (fun q => ?_)
      · have hp := hA q
        refine v_iconst dX8_eye_47 ?_
        exact n_weak (wk_s (wk_n (wk_n (wk_s wk_nil)))) hp
      · have hp := hB q
        refine v_iconst dX8_eye_43 ?_
        refine v_goto (tgt := 48) dX8_eye_44 (by decide) ?_
        exact n_weak (wk_s (wk_n (wk_n (wk_s wk_nil)))) hp
    · have hp := hA q
      refine v_iconst dX8_eye_20 ?_
      exact n_retI dX8_eye_21 rfl hp
theorem g_X8_eye_48 {G : GG} {d : Nat} {m : MM} {k : Int → MM → Prop} (x3 : Int) (s0 : Int) (s1 : Int) (s2 : Int)
    (hp : N G d mi_X8_set 0 [some (vr 304), some (vi s2), some (vi s1), some (vi s0)] [] m (RV fun m2 => N G d mi_X8_clear 0 [some (vr 304), some (vi x3), none] [] m2 (RV fun m4 => ∀ m5 : MM, m5 = upm m4 305 1 ((m4 305 1) + 1) → (k x3 m5)))) :
    N G (d + 1) mi_X8_eye 48 [some (vr 304), none, none, some (vi x3)] [vi s0, vi s1, vi s2, vr 304] m (RI k) := by
  refine n_callVV (As := [vi s2, vi s1, vi s0]) (st := []) dX8_eye_48 ml_X8_73 mo_X8_set mv_X8_set sh_304 rfl rfl rfl rfl (Nat.le_of_ble_eq_true rfl) (Nat.le_of_ble_eq_true rfl) (by decide) hp (fun m2 hp => ?_)
  refine v_aload_n dX8_eye_51 rfl rfl ?_
  refine v_iload_n dX8_eye_52 rfl rfl ?_
  refine n_callVV (As := [vi x3]) (st := []) dX8_eye_53 ml_X8_61 mo_X8_clear mv_X8_clear sh_304 rfl rfl rfl rfl (Nat.le_of_ble_eq_true rfl) (Nat.le_of_ble_eq_true rfl) (by decide) hp (fun m4 hp => ?_)
  refine v_aload_n dX8_eye_56 rfl rfl ?_
  refine n_getr dX8_eye_57 fo_X8_7 sh_304 rfl sr_304_0 ?_
  refine v_iconst dX8_eye_60 ?_
  refine v_dup2ir dX8_eye_61 ?_
  refine n_iald (j := 1) dX8_eye_62 sh_305 rfl (by decide) ?_
  refine v_iconst dX8_eye_63 ?_
  refine v_iadd dX8_eye_64 ?_
  refine w_iast (j := 1) dX8_eye_65 sh_305 rfl (by decide) (fun m5 em5 => ?_)
  have hp := hp m5 em5
  refine v_iload_n dX8_eye_66 rfl rfl ?_
  exact n_retI dX8_eye_67 rfl hp
theorem g_X8_four_0 {G : GG} {d : Nat} {m : MM} {k : MM → Prop} (x1 : Int)
    (hp : N G d mi_X8_four 3 [some (vr 304), some (vi x1), some (vi 24)] [] m (RV k)) :
    N G d mi_X8_four 0 [some (vr 304), some (vi x1), none] [] m (RV k) := by
  refine v_bipush dX8_four_0 rfl ?_
  refine v_istore_n dX8_four_2 rfl (by decide) ?_
  exact hp
theorem g_X8_four_3 {G : GG} {d : Nat} {m : MM} {k : MM → Prop} (x1 : Int) (x2 : Int)
    (hp : bLT x2 0 (k m) (∃ j2 : Nat, ((m 304 6) = (j2 : Int) ∧ j2 < 300) ∧ (∀ m1 : MM, m1 = upm m 309 j2 (iand (ishr x1 x2) 255) → (∀ m3 : MM, m3 = upm m1 304 6 ((m1 304 6) + 1) → (N G d mi_X8_four 3 [some (vr 304), some (vi x1), some (vi (x2 + (-8)))] [] m3 (RV k)))))) :
    N G d mi_X8_four 3 [some (vr 304), some (vi x1), some (vi x2)] [] m (RV k) := by
  refine v_iload_n dX8_four_3 rfl rfl ?_
  obtain ⟨⟨r1, r2⟩, hA, hB⟩ := hp
  refine v_if_lt (tgt := 39) dX8_four_4 (by decide) r1 (fun q => ?_) (fun q => ?_)
  · have hp := hA q
    exact n_retV dX8_four_39 rfl hp
  · have hp := hB q
    refine v_aload_n dX8_four_7 rfl rfl ?_
    refine n_getr dX8_four_8 fo_X8_22 sh_304 rfl sr_304_5 ?_
    refine v_aload_n dX8_four_11 rfl rfl ?_
    refine n_geti dX8_four_12 fo_X8_81 sh_304 rfl ?_
    refine v_iload_n dX8_four_15 rfl rfl ?_
    refine v_iload_n dX8_four_16 rfl rfl ?_
    refine v_ishr dX8_four_17 ?_
    refine v_sipush dX8_four_18 rfl ?_
    refine v_iand dX8_four_21 ?_
    obtain ⟨j2, ⟨ej2, bj2⟩, hp⟩ := hp
    refine w_iast (j := j2) dX8_four_22 sh_309 ej2 bj2 (fun m1 em1 => ?_)
    have hp := hp m1 em1
    refine v_aload_n dX8_four_23 rfl rfl ?_
    refine v_dupr dX8_four_24 ?_
    refine n_geti dX8_four_25 fo_X8_81 sh_304 rfl ?_
    refine v_iconst dX8_four_28 ?_
    refine v_iadd dX8_four_29 ?_
    refine w_puti dX8_four_30 fw_X8_81 sh_304 rfl (fun m3 em3 => ?_)
    have hp := hp m3 em3
    refine v_iinc dX8_four_33 rfl (by decide) ?_
    refine v_goto (tgt := 3) dX8_four_36 (by decide) ?_
    exact hp
theorem g_X8_feed_0 {G : GG} {d : Nat} {m : MM} {k : Int → MM → Prop} (x1 : Int) (x2 : Int) (x3 : Int) (x4 : Int) (x5 : Int)
    (hp : bLE ((m 304 6) + 20) 300 (N G d mi_X8_four 0 [some (vr 304), some (vi x1), none] [] m (RV fun m2 => N G d mi_X8_four 0 [some (vr 304), some (vi x2), none] [] m2 (RV fun m4 => N G d mi_X8_four 0 [some (vr 304), some (vi x3), none] [] m4 (RV fun m6 => N G d mi_X8_four 0 [some (vr 304), some (vi x4), none] [] m6 (RV fun m8 => N G d mi_X8_four 0 [some (vr 304), some (vi x5), none] [] m8 (RV fun m10 => k (m10 304 6) m10)))))) (k (-1) m)) :
    N G (d + 1) mi_X8_feed 0 [some (vr 304), some (vi x1), some (vi x2), some (vi x3), some (vi x4), some (vi x5)] [] m (RI k) := by
  refine v_aload_n dX8_feed_0 rfl rfl ?_
  refine n_geti dX8_feed_1 fo_X8_81 sh_304 rfl ?_
  refine v_bipush dX8_feed_4 rfl ?_
  refine v_iadd dX8_feed_6 ?_
  refine v_sipush dX8_feed_7 rfl ?_
  obtain ⟨⟨r1, r2⟩, hA, hB⟩ := hp
  refine v_icmp_le (tgt := 15) dX8_feed_10 (by decide) r1 r2 (fun q => ?_) (fun q => ?_)
  · have hp := hA q
    refine v_aload_n dX8_feed_15 rfl rfl ?_
    refine v_iload_n dX8_feed_16 rfl rfl ?_
    refine n_callVV (As := [vi x1]) (st := []) dX8_feed_17 ml_X8_84 mo_X8_four mv_X8_four sh_304 rfl rfl rfl rfl (Nat.le_of_ble_eq_true rfl) (Nat.le_of_ble_eq_true rfl) (by decide) hp (fun m2 hp => ?_)
    refine v_aload_n dX8_feed_20 rfl rfl ?_
    refine v_iload_n dX8_feed_21 rfl rfl ?_
    refine n_callVV (As := [vi x2]) (st := []) dX8_feed_22 ml_X8_84 mo_X8_four mv_X8_four sh_304 rfl rfl rfl rfl (Nat.le_of_ble_eq_true rfl) (Nat.le_of_ble_eq_true rfl) (by decide) hp (fun m4 hp => ?_)
    refine v_aload_n dX8_feed_25 rfl rfl ?_
    refine v_iload_n dX8_feed_26 rfl rfl ?_
    refine n_callVV (As := [vi x3]) (st := []) dX8_feed_27 ml_X8_84 mo_X8_four mv_X8_four sh_304 rfl rfl rfl rfl (Nat.le_of_ble_eq_true rfl) (Nat.le_of_ble_eq_true rfl) (by decide) hp (fun m6 hp => ?_)
    refine v_aload_n dX8_feed_30 rfl rfl ?_
    refine v_iload dX8_feed_31 rfl ?_
    refine n_callVV (As := [vi x4]) (st := []) dX8_feed_33 ml_X8_84 mo_X8_four mv_X8_four sh_304 rfl rfl rfl rfl (Nat.le_of_ble_eq_true rfl) (Nat.le_of_ble_eq_true rfl) (by decide) hp (fun m8 hp => ?_)
    refine v_aload_n dX8_feed_36 rfl rfl ?_
    refine v_iload dX8_feed_37 rfl ?_
    refine n_callVV (As := [vi x5]) (st := []) dX8_feed_39 ml_X8_84 mo_X8_four mv_X8_four sh_304 rfl rfl rfl rfl (Nat.le_of_ble_eq_true rfl) (Nat.le_of_ble_eq_true rfl) (by decide) hp (fun m10 hp => ?_)
    refine v_aload_n dX8_feed_42 rfl rfl ?_
    refine n_geti dX8_feed_43 fo_X8_81 sh_304 rfl ?_
    exact n_retI dX8_feed_46 rfl hp
  · have hp := hB q
    refine v_iconst dX8_feed_13 ?_
    exact n_retI dX8_feed_14 rfl hp
theorem g_X8_end_0 {G : GG} {d : Nat} {m : MM} {k : Int → MM → Prop} (x1 : Int)
    (hp : N G d mi_X8_isIn 0 [some (vi x1), some (vi 0), some (vi (m 304 6))] [] m (RI fun z1 m2 => bEQ z1 0 (k (-1) m2) (∀ m3 : MM, m3 = upm m2 304 6 x1 → (k x1 m3)))) :
    N G (d + 1) mi_X8_end 0 [some (vr 304), some (vi x1)] [] m (RI k) := by
  refine v_iload_n dX8_end_0 rfl rfl ?_
  refine v_iconst dX8_end_1 ?_
  refine v_aload_n dX8_end_2 rfl rfl ?_
  refine n_geti dX8_end_3 fo_X8_81 sh_304 rfl ?_
  refine n_callSI (As := [vi x1, vi 0, vi (m 304 6)]) (st := []) dX8_end_6 ml_X8_69 mo_X8_isIn ms_X8_isIn rfl rfl (Nat.le_of_ble_eq_true rfl) (Nat.le_of_ble_eq_true rfl) (by decide) hp (fun z1 m2 hp => ?_)
  obtain ⟨⟨r1, r2⟩, hA, hB⟩ := hp
  refine v_if_ne (tgt := 14) dX8_end_9 (by decide) r1 (fun q => ?_) (fun q => ?_)
  · have hp := hB q
    refine v_aload_n dX8_end_14 rfl rfl ?_
    refine v_iload_n dX8_end_15 rfl rfl ?_
    refine w_puti dX8_end_16 fw_X8_81 sh_304 rfl (fun m3 em3 => ?_)
    have hp := hp m3 em3
    refine v_iload_n dX8_end_19 rfl rfl ?_
    exact n_retI dX8_end_20 rfl hp
  · have hp := hA q
    refine v_iconst dX8_end_12 ?_
    exact n_retI dX8_end_13 rfl hp
theorem g_X8_byteAt_0 {G : GG} {d : Nat} {m : MM} {k : Int → MM → Prop} (x1 : Int)
    (hp : bLE (m 304 6) x1 (k (-1) m) (∃ j1 : Nat, (x1 = (j1 : Int) ∧ j1 < 300) ∧ (k (m 309 j1) m))) :
    N G d mi_X8_byteAt 0 [some (vr 304), some (vi x1)] [] m (RI k) := by
  refine v_iload_n dX8_byteAt_0 rfl rfl ?_
  refine v_aload_n dX8_byteAt_1 rfl rfl ?_
  refine n_geti dX8_byteAt_2 fo_X8_81 sh_304 rfl ?_
  obtain ⟨⟨r1, r2⟩, hA, hB⟩ := hp
  refine v_icmp_ge (tgt := 17) dX8_byteAt_5 (by decide) r2 r1 (fun q => ?_) (fun q => ?_)
  · have hp := hA q
    refine v_iconst dX8_byteAt_17 ?_
    exact n_retI dX8_byteAt_18 rfl hp
  · have hp := hB q
    refine v_aload_n dX8_byteAt_8 rfl rfl ?_
    refine n_getr dX8_byteAt_9 fo_X8_22 sh_304 rfl sr_304_5 ?_
    refine v_iload_n dX8_byteAt_12 rfl rfl ?_
    obtain ⟨j1, ⟨ej1, bj1⟩, hp⟩ := hp
    refine n_iald (j := j1) dX8_byteAt_13 sh_309 ej1 bj1 ?_
    refine v_goto (tgt := 18) dX8_byteAt_14 (by decide) ?_
    exact n_retI dX8_byteAt_18 rfl hp
theorem g_X8_isLetter_0 {G : GG} {d : Nat} {m : MM} {k : Int → MM → Prop} (x0 : Int)
    (hp : N G d mi_X8_isIn 0 [some (vi x0), some (vi 97), some (vi 122)] [] m (RI fun z1 m2 => bEQ z1 0 (N G d mi_X8_isIn 0 [some (vi x0), some (vi 65), some (vi 90)] [] m2 (RI fun z3 m4 => bEQ z3 0 (k 0 m4) (k 1 m4))) (k 1 m2))) :
    N G (d + 1) mi_X8_isLetter 0 [some (vi x0)] [] m (RI k) := by
  refine v_iload_n dX8_isLetter_0 rfl rfl ?_
  refine v_bipush dX8_isLetter_1 rfl ?_
  refine v_bipush dX8_isLetter_3 rfl ?_
  refine n_callSI (As := [vi x0, vi 97, vi 122]) (st := []) dX8_isLetter_5 ml_X8_69 mo_X8_isIn ms_X8_isIn rfl rfl (Nat.le_of_ble_eq_true rfl) (Nat.le_of_ble_eq_true rfl) (by decide) hp (fun z1 m2 hp => ?_)
  obtain ⟨⟨r1, r2⟩, hA, hB⟩ := hp
  refine v_if_ne (tgt := 22) dX8_isLetter_8 (by decide) r1 (fun q => ?_) (fun q => ?_)
  · have hp := hB q
    refine v_iconst dX8_isLetter_22 ?_
    refine v_goto (tgt := 27) dX8_isLetter_23 (by decide) ?_
    exact n_retZ dX8_isLetter_27 rfl (by decide) hp
  · have hp := hA q
    refine v_iload_n dX8_isLetter_11 rfl rfl ?_
    refine v_bipush dX8_isLetter_12 rfl ?_
    refine v_bipush dX8_isLetter_14 rfl ?_
    refine n_callSI (As := [vi x0, vi 65, vi 90]) (st := []) dX8_isLetter_16 ml_X8_69 mo_X8_isIn ms_X8_isIn rfl rfl (Nat.le_of_ble_eq_true rfl) (Nat.le_of_ble_eq_true rfl) (by decide) hp (fun z3 m4 hp => ?_)
    obtain ⟨⟨r1, r2⟩, hA, hB⟩ := hp
    refine v_if_eq (tgt := 26) dX8_isLetter_19 (by decide) r1 (fun q => ?_) (fun q => ?_)
    · have hp := hA q
      refine v_iconst dX8_isLetter_26 ?_
      exact n_retZ dX8_isLetter_27 rfl (by decide) hp
    · have hp := hB q
      refine v_iconst dX8_isLetter_22 ?_
      refine v_goto (tgt := 27) dX8_isLetter_23 (by decide) ?_
      exact n_retZ dX8_isLetter_27 rfl (by decide) hp
theorem g_X8_isDigit_0 {G : GG} {d : Nat} {m : MM} {k : Int → MM → Prop} (x0 : Int)
    (hp : N G d mi_X8_isIn 0 [some (vi x0), some (vi 48), some (vi 57)] [] m (RI fun z1 m2 => (z1 = 0 ∨ z1 = 1) ∧ (k z1 m2))) :
    N G (d + 1) mi_X8_isDigit 0 [some (vi x0)] [] m (RI k) := by
  refine v_iload_n dX8_isDigit_0 rfl rfl ?_
  refine v_bipush dX8_isDigit_1 rfl ?_
  refine v_bipush dX8_isDigit_3 rfl ?_
  refine n_callSI (As := [vi x0, vi 48, vi 57]) (st := []) dX8_isDigit_5 ml_X8_69 mo_X8_isIn ms_X8_isIn rfl rfl (Nat.le_of_ble_eq_true rfl) (Nat.le_of_ble_eq_true rfl) (by decide) hp (fun z1 m2 hp => ?_)
  exact n_retZ dX8_isDigit_8 rfl hp.1 hp.2
theorem g_X8_nextToken_0 {G : GG} {d : Nat} {m : MM} {k : MM → Prop} 
    (hp : N G d mi_X8_byteAt 0 [some (vr 304), some (vi (m 304 9))] [] m (RI fun z1 m2 => bEQ z1 32 (∀ m3 : MM, m3 = upm m2 304 9 ((m2 304 9) + 1) → (N G (d + 1) mi_X8_nextToken 0 [some (vr 304), none, none] [] m3 (RV k))) (N G d mi_X8_byteAt 0 [some (vr 304), some (vi (m2 304 9))] [] m2 (RI fun z4 m5 => bEQ z4 10 (∀ m19 : MM, m19 = upm m5 304 9 ((m5 304 9) + 1) → (N G (d + 1) mi_X8_nextToken 0 [some (vr 304), none, none] [] m19 (RV k))) (∀ m6 : MM, m6 = upm m5 304 10 (m5 304 9) → (N G d mi_X8_byteAt 0 [some (vr 304), some (vi (m6 304 9))] [] m6 (RI fun z7 m8 => bLE 0 z7 (N G d mi_X8_isDigit 0 [some (vi z7)] [] m8 (RI fun z9 m10 => bEQ z9 0 (N G d mi_X8_isLetter 0 [some (vi z7)] [] m10 (RI fun z11 m12 => bEQ z11 0 (∀ m13 : MM, m13 = upm m12 304 9 ((m12 304 9) + 1) → (bEQ z7 60 (N G (d + 1) mi_X8_nextToken 326 [some (vr 304), some (vi z7), none] [vi 1] m13 (RV k)) (bEQ z7 62 (N G (d + 1) mi_X8_nextToken 326 [some (vr 304), some (vi z7), none] [vi 1] m13 (RV k)) (bEQ z7 61 (N G (d + 1) mi_X8_nextToken 326 [some (vr 304), some (vi z7), none] [vi 1] m13 (RV k)) (bEQ z7 35 (N G (d + 1) mi_X8_nextToken 326 [some (vr 304), some (vi z7), none] [vi 1] m13 (RV k)) (bEQ z7 43 (N G (d + 1) mi_X8_nextToken 326 [some (vr 304), some (vi z7), none] [vi 1] m13 (RV k)) (bEQ z7 45 (N G (d + 1) mi_X8_nextToken 326 [some (vr 304), some (vi z7), none] [vi 1] m13 (RV k)) (bEQ z7 42 (N G (d + 1) mi_X8_nextToken 326 [some (vr 304), some (vi z7), none] [vi 1] m13 (RV k)) (bEQ z7 47 (N G (d + 1) mi_X8_nextToken 326 [some (vr 304), some (vi z7), none] [vi 1] m13 (RV k)) (bEQ z7 40 (N G (d + 1) mi_X8_nextToken 326 [some (vr 304), some (vi z7), none] [vi 1] m13 (RV k)) (bEQ z7 41 (N G (d + 1) mi_X8_nextToken 326 [some (vr 304), some (vi z7), none] [vi 1] m13 (RV k)) (bEQ z7 59 (N G (d + 1) mi_X8_nextToken 326 [some (vr 304), some (vi z7), none] [vi 1] m13 (RV k)) (N G (d + 1) mi_X8_nextToken 326 [some (vr 304), some (vi z7), none] [vi 0] m13 (RV k)))))))))))))) (∀ m14 : MM, m14 = upm m12 304 11 2 → (∀ m15 : MM, m15 = upm m14 304 13 0 → (N G (d + 1) mi_X8_nextToken 161 [some (vr 304), none, none] [] m15 (RV k)))))) (∀ m16 : MM, m16 = upm m10 304 11 1 → (∀ m17 : MM, m17 = upm m16 304 12 0 → (N G (d + 1) mi_X8_nextToken 85 [some (vr 304), none, none] [] m17 (RV k)))))) (∀ m18 : MM, m18 = upm m8 304 11 0 → (k m18))))))))) :
    N G (d + 1) mi_X8_nextToken 0 [some (vr 304), none, none] [] m (RV k) := by
  refine v_aload_n dX8_nextToken_0 rfl rfl ?_
  refine v_aload_n dX8_nextToken_1 rfl rfl ?_
  refine n_geti dX8_nextToken_2 fo_X8_87 sh_304 rfl ?_
  refine n_callVI (As := [vi (m 304 9)]) (st := []) dX8_nextToken_5 ml_X8_90 mo_X8_byteAt mv_X8_byteAt sh_304 rfl rfl rfl rfl (Nat.le_of_ble_eq_true rfl) (Nat.le_of_ble_eq_true rfl) (by decide) hp (fun z1 m2 hp => ?_)
  refine v_bipush dX8_nextToken_8 rfl ?_
  obtain ⟨⟨r1, r2⟩, hA, hB⟩ := hp
  refine v_icmp_eq (tgt := 26) dX8_nextToken_10 (by decide) r1 r2 (fun q => ?_) (fun q => ?_)
  · have hp := hA q
    refine v_aload_n dX8_nextToken_26 rfl rfl ?_
    refine v_dupr dX8_nextToken_27 ?_
    refine n_geti dX8_nextToken_28 fo_X8_87 sh_304 rfl ?_
    refine v_iconst dX8_nextToken_31 ?_
    refine v_iadd dX8_nextToken_32 ?_
    refine w_puti dX8_nextToken_33 fw_X8_87 sh_304 rfl (fun m3 em3 => ?_)
    have hp := hp m3 em3
    refine v_goto (tgt := 0) dX8_nextToken_36 (by decide) ?_
    exact hp
  · have hp := hB q
    refine v_aload_n dX8_nextToken_13 rfl rfl ?_
    refine v_aload_n dX8_nextToken_14 rfl rfl ?_
    refine n_geti dX8_nextToken_15 fo_X8_87 sh_304 rfl ?_
    refine n_callVI (As := [vi (m2 304 9)]) (st := []) dX8_nextToken_18 ml_X8_90 mo_X8_byteAt mv_X8_byteAt sh_304 rfl rfl rfl rfl (Nat.le_of_ble_eq_true rfl) (Nat.le_of_ble_eq_true rfl) (by decide) hp (fun z4 m5 hp => ?_)
    refine v_bipush dX8_nextToken_21 rfl ?_
    obtain ⟨⟨r1, r2⟩, hA, hB⟩ := hp
    refine v_icmp_ne (tgt := 39) dX8_nextToken_23 (by decide) r1 r2 (fun q => ?_) (fun q => ?_)
    · have hp := hB q
      refine v_aload_n dX8_nextToken_39 rfl rfl ?_
      refine v_aload_n dX8_nextToken_40 rfl rfl ?_
      refine n_geti dX8_nextToken_41 fo_X8_87 sh_304 rfl ?_
      refine w_puti dX8_nextToken_44 fw_X8_94 sh_304 rfl (fun m6 em6 => ?_)
      have hp := hp m6 em6
      refine v_aload_n dX8_nextToken_47 rfl rfl ?_
      refine v_aload_n dX8_nextToken_48 rfl rfl ?_
      refine n_geti dX8_nextToken_49 fo_X8_87 sh_304 rfl ?_
      refine n_callVI (As := [vi (m6 304 9)]) (st := []) dX8_nextToken_52 ml_X8_90 mo_X8_byteAt mv_X8_byteAt sh_304 rfl rfl rfl rfl (Nat.le_of_ble_eq_true rfl) (Nat.le_of_ble_eq_true rfl) (by decide) hp (fun z7 m8 hp => ?_)
      refine v_istore_n dX8_nextToken_55 rfl (by decide) ?_
      refine v_iload_n dX8_nextToken_56 rfl rfl ?_
      obtain ⟨⟨r1, r2⟩, hA, hB⟩ := hp
      refine v_if_ge (tgt := 68) dX8_nextToken_57 (by decide) r2 (fun q => ?_) (fun q => ?_)
      · have hp := hA q
        refine v_iload_n dX8_nextToken_68 rfl rfl ?_
        refine n_callSI (As := [vi z7]) (st := []) dX8_nextToken_69 ml_X8_100 mo_X8_isDigit ms_X8_isDigit rfl rfl (Nat.le_of_ble_eq_true rfl) (Nat.le_of_ble_eq_true rfl) (by decide) hp (fun z9 m10 hp => ?_)
        obtain ⟨⟨r1, r2⟩, hA, hB⟩ := hp
        refine v_if_eq (tgt := 144) dX8_nextToken_72 (by decide) r1 (fun q => ?_) (fun q => ?_)
        · have hp := hA q
          refine v_iload_n dX8_nextToken_144 rfl rfl ?_
          refine n_callSI (As := [vi z7]) (st := []) dX8_nextToken_145 ml_X8_108 mo_X8_isLetter ms_X8_isLetter rfl rfl (Nat.le_of_ble_eq_true rfl) (Nat.le_of_ble_eq_true rfl) (by decide) hp (fun z11 m12 hp => ?_)
          obtain ⟨⟨r1, r2⟩, hA, hB⟩ := hp
          refine v_if_eq (tgt := 245) dX8_nextToken_148 (by decide) r1 (fun q => ?_) (fun q => ?_)
          · have hp := hA q
            refine v_aload_n dX8_nextToken_245 rfl rfl ?_
            refine v_dupr dX8_nextToken_246 ?_
            refine n_geti dX8_nextToken_247 fo_X8_87 sh_304 rfl ?_
            refine v_iconst dX8_nextToken_250 ?_
            refine v_iadd dX8_nextToken_251 ?_
            refine w_puti dX8_nextToken_252 fw_X8_87 sh_304 rfl (fun m13 em13 => ?_)
            have hp := hp m13 em13
            refine v_iload_n dX8_nextToken_255 rfl rfl ?_
            refine v_bipush dX8_nextToken_256 rfl ?_
            obtain ⟨⟨r1, r2⟩, hA, hB⟩ := hp
            refine v_icmp_eq (tgt := 321) dX8_nextToken_258 (by decide) r1 r2 (fun q => ?_) (fun q => ?_)
            · have hp := hA q
              refine v_iconst dX8_nextToken_321 ?_
              refine v_goto (tgt := 326) dX8_nextToken_322 (by decide) ?_
              exact hp
            · have hp := hB q
              refine v_iload_n dX8_nextToken_261 rfl rfl ?_
              refine v_bipush dX8_nextToken_262 rfl ?_
              obtain ⟨⟨r1, r2⟩, hA, hB⟩ := hp
              refine v_icmp_eq (tgt := 321) dX8_nextToken_264 (by decide) r1 r2 (fun q => ?_) (fun q => ?_)
              · have hp := hA q
                refine v_iconst dX8_nextToken_321 ?_
                refine v_goto (tgt := 326) dX8_nextToken_322 (by decide) ?_
                exact hp
              · have hp := hB q
                refine v_iload_n dX8_nextToken_267 rfl rfl ?_
                refine v_bipush dX8_nextToken_268 rfl ?_
                obtain ⟨⟨r1, r2⟩, hA, hB⟩ := hp
                refine v_icmp_eq (tgt := 321) dX8_nextToken_270 (by decide) r1 r2 (fun q => ?_) (fun q => ?_)
                · have hp := hA q
                  refine v_iconst dX8_nextToken_321 ?_
                  refine v_goto (tgt := 326) dX8_nextToken_322 (by decide) ?_
                  exact hp
                · have hp := hB q
                  refine v_iload_n dX8_nextToken_273 rfl rfl ?_
                  refine v_bipush dX8_nextToken_274 rfl ?_
                  obtain ⟨⟨r1, r2⟩, hA, hB⟩ := hp
                  refine v_icmp_eq (tgt := 321) dX8_nextToken_276 (by decide) r1 r2 (fun q => ?_) (fun q => ?_)
                  · have hp := hA q
                    refine v_iconst dX8_nextToken_321 ?_
                    refine v_goto (tgt := 326) dX8_nextToken_322 (by decide) ?_
                    exact hp
                  · have hp := hB q
                    refine v_iload_n dX8_nextToken_279 rfl rfl ?_
                    refine v_bipush dX8_nextToken_280 rfl ?_
                    obtain ⟨⟨r1, r2⟩, hA, hB⟩ := hp
                    refine v_icmp_eq (tgt := 321) dX8_nextToken_282 (by decide) r1 r2 (fun q => ?_) (fun q => ?_)
                    · have hp := hA q
                      refine v_iconst dX8_nextToken_321 ?_
                      refine v_goto (tgt := 326) dX8_nextToken_322 (by decide) ?_
                      exact hp
                    · have hp := hB q
                      refine v_iload_n dX8_nextToken_285 rfl rfl ?_
                      refine v_bipush dX8_nextToken_286 rfl ?_
                      obtain ⟨⟨r1, r2⟩, hA, hB⟩ := hp
                      refine v_icmp_eq (tgt := 321) dX8_nextToken_288 (by decide) r1 r2 (fun q => ?_) (fun q => ?_)
                      · have hp := hA q
                        refine v_iconst dX8_nextToken_321 ?_
                        refine v_goto (tgt := 326) dX8_nextToken_322 (by decide) ?_
                        exact hp
                      · have hp := hB q
                        refine v_iload_n dX8_nextToken_291 rfl rfl ?_
                        refine v_bipush dX8_nextToken_292 rfl ?_
                        obtain ⟨⟨r1, r2⟩, hA, hB⟩ := hp
                        refine v_icmp_eq (tgt := 321) dX8_nextToken_294 (by decide) r1 r2 (fun q => ?_) (fun q => ?_)
                        · have hp := hA q
                          refine v_iconst dX8_nextToken_321 ?_
                          refine v_goto (tgt := 326) dX8_nextToken_322 (by decide) ?_
                          exact hp
                        · have hp := hB q
                          refine v_iload_n dX8_nextToken_297 rfl rfl ?_
                          refine v_bipush dX8_nextToken_298 rfl ?_
                          obtain ⟨⟨r1, r2⟩, hA, hB⟩ := hp
                          refine v_icmp_eq (tgt := 321) dX8_nextToken_300 (by decide) r1 r2 (fun q => ?_) (fun q => ?_)
                          · have hp := hA q
                            refine v_iconst dX8_nextToken_321 ?_
                            refine v_goto (tgt := 326) dX8_nextToken_322 (by decide) ?_
                            exact hp
                          · have hp := hB q
                            refine v_iload_n dX8_nextToken_303 rfl rfl ?_
                            refine v_bipush dX8_nextToken_304 rfl ?_
                            obtain ⟨⟨r1, r2⟩, hA, hB⟩ := hp
                            refine v_icmp_eq (tgt := 321) dX8_nextToken_306 (by decide) r1 r2 (fun q => ?_) (fun q => ?_)
                            · have hp := hA q
                              refine v_iconst dX8_nextToken_321 ?_
                              refine v_goto (tgt := 326) dX8_nextToken_322 (by decide) ?_
                              exact hp
                            · have hp := hB q
                              refine v_iload_n dX8_nextToken_309 rfl rfl ?_
                              refine v_bipush dX8_nextToken_310 rfl ?_
                              obtain ⟨⟨r1, r2⟩, hA, hB⟩ := hp
                              refine v_icmp_eq (tgt := 321) dX8_nextToken_312 (by decide) r1 r2 (fun q => ?_) (fun q => ?_)
                              · have hp := hA q
                                refine v_iconst dX8_nextToken_321 ?_
                                refine v_goto (tgt := 326) dX8_nextToken_322 (by decide) ?_
                                exact hp
                              · have hp := hB q
                                refine v_iload_n dX8_nextToken_315 rfl rfl ?_
                                refine v_bipush dX8_nextToken_316 rfl ?_
                                obtain ⟨⟨r1, r2⟩, hA, hB⟩ := hp
                                refine v_icmp_ne (tgt := 325) dX8_nextToken_318 (by decide) r1 r2 (fun q => ?_) (fun q => ?_)
                                · have hp := hB q
                                  refine v_iconst dX8_nextToken_325 ?_
                                  exact hp
                                · have hp := hA q
                                  refine v_iconst dX8_nextToken_321 ?_
                                  refine v_goto (tgt := 326) dX8_nextToken_322 (by decide) ?_
                                  exact hp
          · have hp := hB q
            refine v_aload_n dX8_nextToken_151 rfl rfl ?_
            refine v_iconst dX8_nextToken_152 ?_
            refine w_puti dX8_nextToken_153 fw_X8_97 sh_304 rfl (fun m14 em14 => ?_)
            have hp := hp m14 em14
            refine v_aload_n dX8_nextToken_156 rfl rfl ?_
            refine v_lconst (z := 0) dX8_nextToken_157 rfl ?_
            refine w_putl dX8_nextToken_158 fw_X8_111 sh_304 rfl (fun m15 em15 => ?_)
            have hp := hp m15 em15
            exact n_weak (wk_s (wk_n (wk_s wk_nil))) hp
        · have hp := hB q
          refine v_aload_n dX8_nextToken_75 rfl rfl ?_
          refine v_iconst dX8_nextToken_76 ?_
          refine w_puti dX8_nextToken_77 fw_X8_97 sh_304 rfl (fun m16 em16 => ?_)
          have hp := hp m16 em16
          refine v_aload_n dX8_nextToken_80 rfl rfl ?_
          refine v_iconst dX8_nextToken_81 ?_
          refine w_puti dX8_nextToken_82 fw_X8_104 sh_304 rfl (fun m17 em17 => ?_)
          have hp := hp m17 em17
          exact n_weak (wk_s (wk_n (wk_s wk_nil))) hp
      · have hp := hB q
        refine v_aload_n dX8_nextToken_60 rfl rfl ?_
        refine v_iconst dX8_nextToken_61 ?_
        refine w_puti dX8_nextToken_62 fw_X8_97 sh_304 rfl (fun m18 em18 => ?_)
        have hp := hp m18 em18
        refine v_goto (tgt := 390) dX8_nextToken_65 (by decide) ?_
        exact n_retV dX8_nextToken_390 rfl hp
    · have hp := hA q
      refine v_aload_n dX8_nextToken_26 rfl rfl ?_
      refine v_dupr dX8_nextToken_27 ?_
      refine n_geti dX8_nextToken_28 fo_X8_87 sh_304 rfl ?_
      refine v_iconst dX8_nextToken_31 ?_
      refine v_iadd dX8_nextToken_32 ?_
      refine w_puti dX8_nextToken_33 fw_X8_87 sh_304 rfl (fun m19 em19 => ?_)
      have hp := hp m19 em19
      refine v_goto (tgt := 0) dX8_nextToken_36 (by decide) ?_
      exact hp
theorem g_X8_nextToken_85 {G : GG} {d : Nat} {m : MM} {k : MM → Prop} 
    (hp : N G d mi_X8_byteAt 0 [some (vr 304), some (vi (m 304 9))] [] m (RI fun z1 m2 => N G d mi_X8_isDigit 0 [some (vi z1)] [] m2 (RI fun z3 m4 => bEQ z3 0 (k m4) (bLE 100000 (m4 304 12) (∀ m5 : MM, m5 = upm m4 304 9 ((m4 304 9) + 1) → (N G (d + 1) mi_X8_nextToken 85 [some (vr 304), none, none] [] m5 (RV k))) (N G d mi_X8_byteAt 0 [some (vr 304), some (vi (m4 304 9))] [] m4 (RI fun z6 m7 => ∀ m8 : MM, m8 = upm m7 304 12 (((10 * (m4 304 12)) + z6) - 48) → (∀ m9 : MM, m9 = upm m8 304 9 ((m8 304 9) + 1) → (N G (d + 1) mi_X8_nextToken 85 [some (vr 304), none, none] [] m9 (RV k))))))))) :
    N G (d + 1) mi_X8_nextToken 85 [some (vr 304), none, none] [] m (RV k) := by
  refine v_aload_n dX8_nextToken_85 rfl rfl ?_
  refine v_aload_n dX8_nextToken_86 rfl rfl ?_
  refine n_geti dX8_nextToken_87 fo_X8_87 sh_304 rfl ?_
  refine n_callVI (As := [vi (m 304 9)]) (st := []) dX8_nextToken_90 ml_X8_90 mo_X8_byteAt mv_X8_byteAt sh_304 rfl rfl rfl rfl (Nat.le_of_ble_eq_true rfl) (Nat.le_of_ble_eq_true rfl) (by decide) hp (fun z1 m2 hp => ?_)
  refine n_callSI (As := [vi z1]) (st := []) dX8_nextToken_93 ml_X8_100 mo_X8_isDigit ms_X8_isDigit rfl rfl (Nat.le_of_ble_eq_true rfl) (Nat.le_of_ble_eq_true rfl) (by decide) hp (fun z3 m4 hp => ?_)
  obtain ⟨⟨r1, r2⟩, hA, hB⟩ := hp
  refine v_if_eq (tgt := 390) dX8_nextToken_96 (by decide) r1 (fun q => ?_) (fun q => ?_)
  · have hp := hA q
    exact n_retV dX8_nextToken_390 rfl hp
  · have hp := hB q
    refine v_aload_n dX8_nextToken_99 rfl rfl ?_
    refine n_geti dX8_nextToken_100 fo_X8_104 sh_304 rfl ?_
    refine v_ldc dX8_nextToken_103 co_X8_107 ?_
    obtain ⟨⟨r1, r2⟩, hA, hB⟩ := hp
    refine v_icmp_ge (tgt := 131) dX8_nextToken_105 (by decide) r2 r1 (fun q => ?_) (fun q => ?_)
    · have hp := hA q
      refine v_aload_n dX8_nextToken_131 rfl rfl ?_
      refine v_dupr dX8_nextToken_132 ?_
      refine n_geti dX8_nextToken_133 fo_X8_87 sh_304 rfl ?_
      refine v_iconst dX8_nextToken_136 ?_
      refine v_iadd dX8_nextToken_137 ?_
      refine w_puti dX8_nextToken_138 fw_X8_87 sh_304 rfl (fun m5 em5 => ?_)
      have hp := hp m5 em5
      refine v_goto (tgt := 85) dX8_nextToken_141 (by decide) ?_
      exact hp
    · have hp := hB q
      refine v_aload_n dX8_nextToken_108 rfl rfl ?_
      refine v_bipush dX8_nextToken_109 rfl ?_
      refine v_aload_n dX8_nextToken_111 rfl rfl ?_
      refine n_geti dX8_nextToken_112 fo_X8_104 sh_304 rfl ?_
      refine v_imul dX8_nextToken_115 ?_
      refine v_aload_n dX8_nextToken_116 rfl rfl ?_
      refine v_aload_n dX8_nextToken_117 rfl rfl ?_
      refine n_geti dX8_nextToken_118 fo_X8_87 sh_304 rfl ?_
      refine n_callVI (As := [vi (m4 304 9)]) (st := [vi (10 * (m4 304 12)), vr 304]) dX8_nextToken_121 ml_X8_90 mo_X8_byteAt mv_X8_byteAt sh_304 rfl rfl rfl rfl (Nat.le_of_ble_eq_true rfl) (Nat.le_of_ble_eq_true rfl) (by decide) hp (fun z6 m7 hp => ?_)
      refine v_iadd dX8_nextToken_124 ?_
      refine v_bipush dX8_nextToken_125 rfl ?_
      refine v_isub dX8_nextToken_127 ?_
      refine w_puti dX8_nextToken_128 fw_X8_104 sh_304 rfl (fun m8 em8 => ?_)
      have hp := hp m8 em8
      refine v_aload_n dX8_nextToken_131 rfl rfl ?_
      refine v_dupr dX8_nextToken_132 ?_
      refine n_geti dX8_nextToken_133 fo_X8_87 sh_304 rfl ?_
      refine v_iconst dX8_nextToken_136 ?_
      refine v_iadd dX8_nextToken_137 ?_
      refine w_puti dX8_nextToken_138 fw_X8_87 sh_304 rfl (fun m9 em9 => ?_)
      have hp := hp m9 em9
      refine v_goto (tgt := 85) dX8_nextToken_141 (by decide) ?_
      exact hp
theorem g_X8_nextToken_161 {G : GG} {d : Nat} {m : MM} {k : MM → Prop} 
    (hp : N G d mi_X8_byteAt 0 [some (vr 304), some (vi (m 304 9))] [] m (RI fun z1 m2 => N G d mi_X8_isLetter 0 [some (vi z1)] [] m2 (RI fun z3 m4 => bEQ z3 0 (bLE ((m4 304 9) - (m4 304 10)) 7 (k m4) (∀ m5 : MM, m5 = upm m4 304 13 0 → (k m5))) (bLE 7 ((m4 304 9) - (m4 304 10)) (∀ m6 : MM, m6 = upm m4 304 9 ((m4 304 9) + 1) → (N G (d + 1) mi_X8_nextToken 161 [some (vr 304), none, none] [] m6 (RV k))) (N G d mi_X8_byteAt 0 [some (vr 304), some (vi (m4 304 9))] [] m4 (RI fun z7 m8 => (rng z7) ∧ (∀ m9 : MM, m9 = upm m8 304 13 (lorr (lshl (m4 304 13) 8) z7) → (∀ m10 : MM, m10 = upm m9 304 9 ((m9 304 9) + 1) → (N G (d + 1) mi_X8_nextToken 161 [some (vr 304), none, none] [] m10 (RV k)))))))))) :
    N G (d + 1) mi_X8_nextToken 161 [some (vr 304), none, none] [] m (RV k) := by
  refine v_aload_n dX8_nextToken_161 rfl rfl ?_
  refine v_aload_n dX8_nextToken_162 rfl rfl ?_
  refine n_geti dX8_nextToken_163 fo_X8_87 sh_304 rfl ?_
  refine n_callVI (As := [vi (m 304 9)]) (st := []) dX8_nextToken_166 ml_X8_90 mo_X8_byteAt mv_X8_byteAt sh_304 rfl rfl rfl rfl (Nat.le_of_ble_eq_true rfl) (Nat.le_of_ble_eq_true rfl) (by decide) hp (fun z1 m2 hp => ?_)
  refine n_callSI (As := [vi z1]) (st := []) dX8_nextToken_169 ml_X8_108 mo_X8_isLetter ms_X8_isLetter rfl rfl (Nat.le_of_ble_eq_true rfl) (Nat.le_of_ble_eq_true rfl) (by decide) hp (fun z3 m4 hp => ?_)
  obtain ⟨⟨r1, r2⟩, hA, hB⟩ := hp
  refine v_if_eq (tgt := 223) dX8_nextToken_172 (by decide) r1 (fun q => ?_) (fun q => ?_)
  · have hp := hA q
    refine v_aload_n dX8_nextToken_223 rfl rfl ?_
    refine n_geti dX8_nextToken_224 fo_X8_87 sh_304 rfl ?_
    refine v_aload_n dX8_nextToken_227 rfl rfl ?_
    refine n_geti dX8_nextToken_228 fo_X8_94 sh_304 rfl ?_
    refine v_isub dX8_nextToken_231 ?_
    refine v_bipush dX8_nextToken_232 rfl ?_
    obtain ⟨⟨r1, r2⟩, hA, hB⟩ := hp
    refine v_icmp_le (tgt := 390) dX8_nextToken_234 (by decide) r1 r2 (fun q => ?_) (fun q => ?_)
    · have hp := hA q
      exact n_retV dX8_nextToken_390 rfl hp
    · have hp := hB q
      refine v_aload_n dX8_nextToken_237 rfl rfl ?_
      refine v_lconst (z := 0) dX8_nextToken_238 rfl ?_
      refine w_putl dX8_nextToken_239 fw_X8_111 sh_304 rfl (fun m5 em5 => ?_)
      have hp := hp m5 em5
      refine v_goto (tgt := 390) dX8_nextToken_242 (by decide) ?_
      exact n_retV dX8_nextToken_390 rfl hp
  · have hp := hB q
    refine v_aload_n dX8_nextToken_175 rfl rfl ?_
    refine n_geti dX8_nextToken_176 fo_X8_87 sh_304 rfl ?_
    refine v_aload_n dX8_nextToken_179 rfl rfl ?_
    refine n_geti dX8_nextToken_180 fo_X8_94 sh_304 rfl ?_
    refine v_isub dX8_nextToken_183 ?_
    refine v_bipush dX8_nextToken_184 rfl ?_
    obtain ⟨⟨r1, r2⟩, hA, hB⟩ := hp
    refine v_icmp_ge (tgt := 210) dX8_nextToken_186 (by decide) r2 r1 (fun q => ?_) (fun q => ?_)
    · have hp := hA q
      refine v_aload_n dX8_nextToken_210 rfl rfl ?_
      refine v_dupr dX8_nextToken_211 ?_
      refine n_geti dX8_nextToken_212 fo_X8_87 sh_304 rfl ?_
      refine v_iconst dX8_nextToken_215 ?_
      refine v_iadd dX8_nextToken_216 ?_
      refine w_puti dX8_nextToken_217 fw_X8_87 sh_304 rfl (fun m6 em6 => ?_)
      have hp := hp m6 em6
      refine v_goto (tgt := 161) dX8_nextToken_220 (by decide) ?_
      exact hp
    · have hp := hB q
      refine v_aload_n dX8_nextToken_189 rfl rfl ?_
      refine v_aload_n dX8_nextToken_190 rfl rfl ?_
      refine n_getl dX8_nextToken_191 fo_X8_111 sh_304 rfl ?_
      refine v_bipush dX8_nextToken_194 rfl ?_
      refine v_lshl dX8_nextToken_196 ?_
      refine v_aload_n dX8_nextToken_197 rfl rfl ?_
      refine v_aload_n dX8_nextToken_198 rfl rfl ?_
      refine n_geti dX8_nextToken_199 fo_X8_87 sh_304 rfl ?_
      refine n_callVI (As := [vi (m4 304 9)]) (st := [vl (lshl (m4 304 13) 8), vr 304]) dX8_nextToken_202 ml_X8_90 mo_X8_byteAt mv_X8_byteAt sh_304 rfl rfl rfl rfl (Nat.le_of_ble_eq_true rfl) (Nat.le_of_ble_eq_true rfl) (by decide) hp (fun z7 m8 hp => ?_)
      obtain ⟨hg, hp⟩ := hp
      refine v_i2l dX8_nextToken_205 hg ?_
      refine v_lor dX8_nextToken_206 ?_
      refine w_putl dX8_nextToken_207 fw_X8_111 sh_304 rfl (fun m9 em9 => ?_)
      have hp := hp m9 em9
      refine v_aload_n dX8_nextToken_210 rfl rfl ?_
      refine v_dupr dX8_nextToken_211 ?_
      refine n_geti dX8_nextToken_212 fo_X8_87 sh_304 rfl ?_
      refine v_iconst dX8_nextToken_215 ?_
      refine v_iadd dX8_nextToken_216 ?_
      refine w_puti dX8_nextToken_217 fw_X8_87 sh_304 rfl (fun m10 em10 => ?_)
      have hp := hp m10 em10
      refine v_goto (tgt := 161) dX8_nextToken_220 (by decide) ?_
      exact hp
theorem g_X8_nextToken_326 {G : GG} {d : Nat} {m : MM} {k : MM → Prop} (x1 : Int) (s0 : Int)
    (hp : bEQ s0 0 (N G (d + 1) mi_X8_nextToken 337 [some (vr 304), some (vi x1), none] [vi 3, vr 304] m (RV k)) (N G (d + 1) mi_X8_nextToken 337 [some (vr 304), some (vi x1), none] [vi x1, vr 304] m (RV k))) :
    N G (d + 1) mi_X8_nextToken 326 [some (vr 304), some (vi x1), none] [vi s0] m (RV k) := by
  refine v_istore_n dX8_nextToken_326 rfl (by decide) ?_
  refine v_aload_n dX8_nextToken_327 rfl rfl ?_
  refine v_iload_n dX8_nextToken_328 rfl rfl ?_
  obtain ⟨⟨r1, r2⟩, hA, hB⟩ := hp
  refine v_if_eq (tgt := 336) dX8_nextToken_329 (by decide) r1 (fun q => ?_) (fun q => ?_)
  · have hp := hA q
    refine v_iconst dX8_nextToken_336 ?_
    exact n_weak (wk_s (wk_s (wk_n wk_nil))) hp
  · have hp := hB q
    refine v_iload_n dX8_nextToken_332 rfl rfl ?_
    refine v_goto (tgt := 337) dX8_nextToken_333 (by decide) ?_
    exact n_weak (wk_s (wk_s (wk_n wk_nil))) hp
theorem g_X8_nextToken_337 {G : GG} {d : Nat} {m : MM} {k : MM → Prop} (x1 : Int) (s0 : Int)
    (hp : ∀ m1 : MM, m1 = upm m 304 11 s0 → (bEQ x1 60 (N G (d + 1) mi_X8_nextToken 352 [some (vr 304), some (vi x1), none] [] m1 (RV k)) (bEQ x1 62 (N G (d + 1) mi_X8_nextToken 352 [some (vr 304), some (vi x1), none] [] m1 (RV k)) (k m1)))) :
    N G (d + 1) mi_X8_nextToken 337 [some (vr 304), some (vi x1), none] [vi s0, vr 304] m (RV k) := by
  refine w_puti dX8_nextToken_337 fw_X8_97 sh_304 rfl (fun m1 em1 => ?_)
  have hp := hp m1 em1
  refine v_iload_n dX8_nextToken_340 rfl rfl ?_
  refine v_bipush dX8_nextToken_341 rfl ?_
  obtain ⟨⟨r1, r2⟩, hA, hB⟩ := hp
  refine v_icmp_eq (tgt := 352) dX8_nextToken_343 (by decide) r1 r2 (fun q => ?_) (fun q => ?_)
  · have hp := hA q
    exact hp
  · have hp := hB q
    refine v_iload_n dX8_nextToken_346 rfl rfl ?_
    refine v_bipush dX8_nextToken_347 rfl ?_
    obtain ⟨⟨r1, r2⟩, hA, hB⟩ := hp
    refine v_icmp_ne (tgt := 390) dX8_nextToken_349 (by decide) r1 r2 (fun q => ?_) (fun q => ?_)
    · have hp := hB q
      exact n_retV dX8_nextToken_390 rfl hp
    · have hp := hA q
      exact hp
theorem g_X8_nextToken_352 {G : GG} {d : Nat} {m : MM} {k : MM → Prop} (x1 : Int)
    (hp : N G d mi_X8_byteAt 0 [some (vr 304), some (vi (m 304 9))] [] m (RI fun z1 m2 => bEQ z1 61 (∀ m3 : MM, m3 = upm m2 304 9 ((m2 304 9) + 1) → (bEQ x1 60 (∀ m5 : MM, m5 = upm m3 304 11 4 → (k m5)) (∀ m4 : MM, m4 = upm m3 304 11 5 → (k m4)))) (k m2))) :
    N G (d + 1) mi_X8_nextToken 352 [some (vr 304), some (vi x1), none] [] m (RV k) := by
  refine v_aload_n dX8_nextToken_352 rfl rfl ?_
  refine v_aload_n dX8_nextToken_353 rfl rfl ?_
  refine n_geti dX8_nextToken_354 fo_X8_87 sh_304 rfl ?_
  refine n_callVI (As := [vi (m 304 9)]) (st := []) dX8_nextToken_357 ml_X8_90 mo_X8_byteAt mv_X8_byteAt sh_304 rfl rfl rfl rfl (Nat.le_of_ble_eq_true rfl) (Nat.le_of_ble_eq_true rfl) (by decide) hp (fun z1 m2 hp => ?_)
  refine v_bipush dX8_nextToken_360 rfl ?_
  obtain ⟨⟨r1, r2⟩, hA, hB⟩ := hp
  refine v_icmp_ne (tgt := 390) dX8_nextToken_362 (by decide) r1 r2 (fun q => ?_) (fun q => ?_)
  · have hp := hB q
    exact n_retV dX8_nextToken_390 rfl hp
  · have hp := hA q
    refine v_aload_n dX8_nextToken_365 rfl rfl ?_
    refine v_dupr dX8_nextToken_366 ?_
    refine n_geti dX8_nextToken_367 fo_X8_87 sh_304 rfl ?_
    refine v_iconst dX8_nextToken_370 ?_
    refine v_iadd dX8_nextToken_371 ?_
    refine w_puti dX8_nextToken_372 fw_X8_87 sh_304 rfl (fun m3 em3 => ?_)
    have hp := hp m3 em3
    refine v_aload_n dX8_nextToken_375 rfl rfl ?_
    refine v_iload_n dX8_nextToken_376 rfl rfl ?_
    refine v_bipush dX8_nextToken_377 rfl ?_
    obtain ⟨⟨r1, r2⟩, hA, hB⟩ := hp
    refine v_icmp_ne (tgt := 386) dX8_nextToken_379 (by decide) r1 r2 (fun q => ?_) (fun q => ?_)
    · have hp := hB q
      refine v_iconst dX8_nextToken_386 ?_
      refine w_puti dX8_nextToken_387 fw_X8_97 sh_304 rfl (fun m4 em4 => ?_)
      have hp := hp m4 em4
      exact n_retV dX8_nextToken_390 rfl hp
    · have hp := hA q
      refine v_iconst dX8_nextToken_382 ?_
      refine v_goto (tgt := 387) dX8_nextToken_383 (by decide) ?_
      refine w_puti dX8_nextToken_387 fw_X8_97 sh_304 rfl (fun m5 em5 => ?_)
      have hp := hp m5 em5
      exact n_retV dX8_nextToken_390 rfl hp
theorem g_X8_w3_0 {G : GG} {d : Nat} {m : MM} {k : Int → MM → Prop} (x0 : Int) (x1 : Int) (x2 : Int)
    (hp : (rng x0) ∧ ((rng x1) ∧ ((rng x2) ∧ (k (lorr (lshl (lorr (lshl x0 8) x1) 8) x2) m)))) :
    N G d mi_X8_w3 0 [some (vi x0), some (vi x1), some (vi x2)] [] m (RJG k) := by
  refine v_iload_n dX8_w3_0 rfl rfl ?_
  obtain ⟨hg, hp⟩ := hp
  refine v_i2l dX8_w3_1 hg ?_
  refine v_bipush dX8_w3_2 rfl ?_
  refine v_lshl dX8_w3_4 ?_
  refine v_iload_n dX8_w3_5 rfl rfl ?_
  obtain ⟨hg, hp⟩ := hp
  refine v_i2l dX8_w3_6 hg ?_
  refine v_lor dX8_w3_7 ?_
  refine v_bipush dX8_w3_8 rfl ?_
  refine v_lshl dX8_w3_10 ?_
  refine v_iload_n dX8_w3_11 rfl rfl ?_
  obtain ⟨hg, hp⟩ := hp
  refine v_i2l dX8_w3_12 hg ?_
  refine v_lor dX8_w3_13 ?_
  exact n_retL dX8_w3_14 rfl hp
theorem g_X8_w5_0 {G : GG} {d : Nat} {m : MM} {k : Int → MM → Prop} (x0 : Int) (x1 : Int) (x2 : Int) (x3 : Int) (x4 : Int)
    (hp : N G d mi_X8_w3 0 [some (vi x0), some (vi x1), some (vi x2)] [] m (RJG fun z1 m2 => (rng x3) ∧ ((rng x4) ∧ (k (lorr (lshl (lorr (lshl z1 8) x3) 8) x4) m2)))) :
    N G (d + 1) mi_X8_w5 0 [some (vi x0), some (vi x1), some (vi x2), some (vi x3), some (vi x4)] [] m (RJG k) := by
  refine v_iload_n dX8_w5_0 rfl rfl ?_
  refine v_iload_n dX8_w5_1 rfl rfl ?_
  refine v_iload_n dX8_w5_2 rfl rfl ?_
  refine n_callSL (As := [vi x0, vi x1, vi x2]) (st := []) dX8_w5_3 ml_X8_115 mo_X8_w3 ms_X8_w3 rfl rfl (Nat.le_of_ble_eq_true rfl) (Nat.le_of_ble_eq_true rfl) (by decide) hp (fun z1 m2 hp => ?_)
  refine v_bipush dX8_w5_6 rfl ?_
  refine v_lshl dX8_w5_8 ?_
  refine v_iload_n dX8_w5_9 rfl rfl ?_
  obtain ⟨hg, hp⟩ := hp
  refine v_i2l dX8_w5_10 hg ?_
  refine v_lor dX8_w5_11 ?_
  refine v_bipush dX8_w5_12 rfl ?_
  refine v_lshl dX8_w5_14 ?_
  refine v_iload dX8_w5_15 rfl ?_
  obtain ⟨hg, hp⟩ := hp
  refine v_i2l dX8_w5_17 hg ?_
  refine v_lor dX8_w5_18 ?_
  exact n_retL dX8_w5_19 rfl hp
theorem g_X8_w4_0 {G : GG} {d : Nat} {m : MM} {k : Int → MM → Prop} (x0 : Int) (x1 : Int) (x2 : Int) (x3 : Int)
    (hp : N G d mi_X8_w3 0 [some (vi x0), some (vi x1), some (vi x2)] [] m (RJG fun z1 m2 => (rng x3) ∧ (k (lorr (lshl z1 8) x3) m2))) :
    N G (d + 1) mi_X8_w4 0 [some (vi x0), some (vi x1), some (vi x2), some (vi x3)] [] m (RJG k) := by
  refine v_iload_n dX8_w4_0 rfl rfl ?_
  refine v_iload_n dX8_w4_1 rfl rfl ?_
  refine v_iload_n dX8_w4_2 rfl rfl ?_
  refine n_callSL (As := [vi x0, vi x1, vi x2]) (st := []) dX8_w4_3 ml_X8_115 mo_X8_w3 ms_X8_w3 rfl rfl (Nat.le_of_ble_eq_true rfl) (Nat.le_of_ble_eq_true rfl) (by decide) hp (fun z1 m2 hp => ?_)
  refine v_bipush dX8_w4_6 rfl ?_
  refine v_lshl dX8_w4_8 ?_
  refine v_iload_n dX8_w4_9 rfl rfl ?_
  obtain ⟨hg, hp⟩ := hp
  refine v_i2l dX8_w4_10 hg ?_
  refine v_lor dX8_w4_11 ?_
  exact n_retL dX8_w4_12 rfl hp
theorem g_X8_w6_0 {G : GG} {d : Nat} {m : MM} {k : Int → MM → Prop} (x0 : Int) (x1 : Int) (x2 : Int) (x3 : Int) (x4 : Int) (x5 : Int)
    (hp : N G d mi_X8_w5 0 [some (vi x0), some (vi x1), some (vi x2), some (vi x3), some (vi x4)] [] m (RJG fun z1 m2 => (rng x5) ∧ (k (lorr (lshl z1 8) x5) m2))) :
    N G (d + 1) mi_X8_w6 0 [some (vi x0), some (vi x1), some (vi x2), some (vi x3), some (vi x4), some (vi x5)] [] m (RJG k) := by
  refine v_iload_n dX8_w6_0 rfl rfl ?_
  refine v_iload_n dX8_w6_1 rfl rfl ?_
  refine v_iload_n dX8_w6_2 rfl rfl ?_
  refine v_iload_n dX8_w6_3 rfl rfl ?_
  refine v_iload dX8_w6_4 rfl ?_
  refine n_callSL (As := [vi x0, vi x1, vi x2, vi x3, vi x4]) (st := []) dX8_w6_6 ml_X8_119 mo_X8_w5 ms_X8_w5 rfl rfl (Nat.le_of_ble_eq_true rfl) (Nat.le_of_ble_eq_true rfl) (by decide) hp (fun z1 m2 hp => ?_)
  refine v_bipush dX8_w6_9 rfl ?_
  refine v_lshl dX8_w6_11 ?_
  refine v_iload dX8_w6_12 rfl ?_
  obtain ⟨hg, hp⟩ := hp
  refine v_i2l dX8_w6_14 hg ?_
  refine v_lor dX8_w6_15 ?_
  exact n_retL dX8_w6_16 rfl hp
theorem g_X8_isWord_0 {G : GG} {d : Nat} {m : MM} {k : Int → MM → Prop} (x1 : Int)
    (hp : bEQ (m 304 11) 2 ((rnl (m 304 13) ∧ rnl x1) ∧ (bEQ (lcm (m 304 13) x1) 0 (k 1 m) (k 0 m))) (k 0 m)) :
    N G d mi_X8_isWord 0 [some (vr 304), some (vl x1), none] [] m (RI k) := by
  refine v_aload_n dX8_isWord_0 rfl rfl ?_
  refine n_geti dX8_isWord_1 fo_X8_97 sh_304 rfl ?_
  refine v_iconst dX8_isWord_4 ?_
  obtain ⟨⟨r1, r2⟩, hA, hB⟩ := hp
  refine v_icmp_ne (tgt := 21) dX8_isWord_5 (by decide) r1 r2 (fun q => ?_) (fun q => ?_)
  · have hp := hB q
    refine v_iconst dX8_isWord_21 ?_
    exact n_retZ dX8_isWord_22 rfl (by decide) hp
  · have hp := hA q
    refine v_aload_n dX8_isWord_8 rfl rfl ?_
    refine n_getl dX8_isWord_9 fo_X8_111 sh_304 rfl ?_
    refine v_lload_n dX8_isWord_12 rfl rfl ?_
    obtain ⟨hg, hp⟩ := hp
    refine v_lcmp dX8_isWord_13 hg.1 hg.2 ?_
    obtain ⟨⟨r1, r2⟩, hA, hB⟩ := hp
    refine v_if_ne (tgt := 21) dX8_isWord_14 (by decide) r1 (fun q => ?_) (fun q => ?_)
    · have hp := hB q
      refine v_iconst dX8_isWord_21 ?_
      exact n_retZ dX8_isWord_22 rfl (by decide) hp
    · have hp := hA q
      refine v_iconst dX8_isWord_17 ?_
      refine v_goto (tgt := 22) dX8_isWord_18 (by decide) ?_
      exact n_retZ dX8_isWord_22 rfl (by decide) hp
theorem g_X8_emit_0 {G : GG} {d : Nat} {m : MM} {k : MM → Prop} (x1 : Int) (x2 : Int)
    (hp : ∃ j2 : Nat, ((((m 304 14) + 75) + (2 * (m 304 16))) = (j2 : Int) ∧ j2 < 2720) ∧ (∀ m1 : MM, m1 = upm m 308 j2 x1 → (∃ j4 : Nat, (((((m1 304 14) + 75) + (2 * (m1 304 16))) + 1) = (j4 : Int) ∧ j4 < 2720) ∧ (∀ m3 : MM, m3 = upm m1 308 j4 x2 → (∀ m5 : MM, m5 = upm m3 304 16 ((m3 304 16) + 1) → (k m5)))))) :
    N G d mi_X8_emit 0 [some (vr 304), some (vi x1), some (vi x2)] [] m (RV k) := by
  refine v_aload_n dX8_emit_0 rfl rfl ?_
  refine n_getr dX8_emit_1 fo_X8_19 sh_304 rfl sr_304_4 ?_
  refine v_aload_n dX8_emit_4 rfl rfl ?_
  refine n_geti dX8_emit_5 fo_X8_123 sh_304 rfl ?_
  refine v_bipush dX8_emit_8 rfl ?_
  refine v_iadd dX8_emit_10 ?_
  refine v_iconst dX8_emit_11 ?_
  refine v_aload_n dX8_emit_12 rfl rfl ?_
  refine n_geti dX8_emit_13 fo_X8_126 sh_304 rfl ?_
  refine v_imul dX8_emit_16 ?_
  refine v_iadd dX8_emit_17 ?_
  refine v_iload_n dX8_emit_18 rfl rfl ?_
  obtain ⟨j2, ⟨ej2, bj2⟩, hp⟩ := hp
  refine w_iast (j := j2) dX8_emit_19 sh_308 ej2 bj2 (fun m1 em1 => ?_)
  have hp := hp m1 em1
  refine v_aload_n dX8_emit_20 rfl rfl ?_
  refine n_getr dX8_emit_21 fo_X8_19 sh_304 rfl sr_304_4 ?_
  refine v_aload_n dX8_emit_24 rfl rfl ?_
  refine n_geti dX8_emit_25 fo_X8_123 sh_304 rfl ?_
  refine v_bipush dX8_emit_28 rfl ?_
  refine v_iadd dX8_emit_30 ?_
  refine v_iconst dX8_emit_31 ?_
  refine v_aload_n dX8_emit_32 rfl rfl ?_
  refine n_geti dX8_emit_33 fo_X8_126 sh_304 rfl ?_
  refine v_imul dX8_emit_36 ?_
  refine v_iadd dX8_emit_37 ?_
  refine v_iconst dX8_emit_38 ?_
  refine v_iadd dX8_emit_39 ?_
  refine v_iload_n dX8_emit_40 rfl rfl ?_
  obtain ⟨j4, ⟨ej4, bj4⟩, hp⟩ := hp
  refine w_iast (j := j4) dX8_emit_41 sh_308 ej4 bj4 (fun m3 em3 => ?_)
  have hp := hp m3 em3
  refine v_aload_n dX8_emit_42 rfl rfl ?_
  refine v_dupr dX8_emit_43 ?_
  refine n_geti dX8_emit_44 fo_X8_126 sh_304 rfl ?_
  refine v_iconst dX8_emit_47 ?_
  refine v_iadd dX8_emit_48 ?_
  refine w_puti dX8_emit_49 fw_X8_126 sh_304 rfl (fun m5 em5 => ?_)
  have hp := hp m5 em5
  exact n_retV dX8_emit_52 rfl hp
theorem g_X8_push_0 {G : GG} {d : Nat} {m : MM} {k : MM → Prop} (x1 : Int)
    (hp : ∃ j2 : Nat, ((m 304 19) = (j2 : Int) ∧ j2 < 160) ∧ (∀ m1 : MM, m1 = upm m 310 j2 x1 → (∀ m3 : MM, m3 = upm m1 304 19 ((m1 304 19) + 1) → (k m3)))) :
    N G d mi_X8_push 0 [some (vr 304), some (vi x1)] [] m (RV k) := by
  refine v_aload_n dX8_push_0 rfl rfl ?_
  refine n_getr dX8_push_1 fo_X8_32 sh_304 rfl sr_304_18 ?_
  refine v_aload_n dX8_push_4 rfl rfl ?_
  refine n_geti dX8_push_5 fo_X8_129 sh_304 rfl ?_
  refine v_iload_n dX8_push_8 rfl rfl ?_
  obtain ⟨j2, ⟨ej2, bj2⟩, hp⟩ := hp
  refine w_iast (j := j2) dX8_push_9 sh_310 ej2 bj2 (fun m1 em1 => ?_)
  have hp := hp m1 em1
  refine v_aload_n dX8_push_10 rfl rfl ?_
  refine v_dupr dX8_push_11 ?_
  refine n_geti dX8_push_12 fo_X8_129 sh_304 rfl ?_
  refine v_iconst dX8_push_15 ?_
  refine v_iadd dX8_push_16 ?_
  refine w_puti dX8_push_17 fw_X8_129 sh_304 rfl (fun m3 em3 => ?_)
  have hp := hp m3 em3
  exact n_retV dX8_push_20 rfl hp
theorem g_X8_whole_0 {G : GG} {d : Nat} {m : MM} {k : MM → Prop} 
    (hp : ∀ m1 : MM, m1 = upm m 304 21 1 → (N G (d + 1) mi_X8_whole 5 [some (vr 304)] [] m1 (RV k))) :
    N G (d + 1) mi_X8_whole 0 [some (vr 304)] [] m (RV k) := by
  refine v_aload_n dX8_whole_0 rfl rfl ?_
  refine v_iconst dX8_whole_1 ?_
  refine w_putz dX8_whole_2 fw_X8_132 sh_304 rfl (by decide) (fun m1 em1 => ?_)
  have hp := hp m1 em1
  exact hp
theorem g_X8_whole_5 {G : GG} {d : Nat} {m : MM} {k : MM → Prop} 
    (hp : bLE (m 304 19) 0 (k m) (∃ j1 : Nat, (((m 304 19) - 1) = (j1 : Int) ∧ j1 < 160) ∧ (bEQ (m 310 j1) 2 (∀ m2 : MM, m2 = upm m 304 19 ((m 304 19) - 1) → (∀ m3 : MM, m3 = upm m2 304 20 ((m2 304 20) - 1) → (N G d mi_X8_emit 0 [some (vr 304), some (vi 2), some (vi 0)] [] m3 (RV fun m5 => N G (d + 1) mi_X8_whole 5 [some (vr 304)] [] m5 (RV k))))) (k m)))) :
    N G (d + 1) mi_X8_whole 5 [some (vr 304)] [] m (RV k) := by
  refine v_aload_n dX8_whole_5 rfl rfl ?_
  refine n_geti dX8_whole_6 fo_X8_129 sh_304 rfl ?_
  obtain ⟨⟨r1, r2⟩, hA, hB⟩ := hp
  refine v_if_le (tgt := 56) dX8_whole_9 (by decide) r1 (fun q => ?_) (fun q => ?_)
  · have hp := hA q
    exact n_retV dX8_whole_56 rfl hp
  · have hp := hB q
    refine v_aload_n dX8_whole_12 rfl rfl ?_
    refine n_getr dX8_whole_13 fo_X8_32 sh_304 rfl sr_304_18 ?_
    refine v_aload_n dX8_whole_16 rfl rfl ?_
    refine n_geti dX8_whole_17 fo_X8_129 sh_304 rfl ?_
    refine v_iconst dX8_whole_20 ?_
    refine v_isub dX8_whole_21 ?_
    obtain ⟨j1, ⟨ej1, bj1⟩, hp⟩ := hp
    refine n_iald (j := j1) dX8_whole_22 sh_310 ej1 bj1 ?_
    refine v_iconst dX8_whole_23 ?_
    obtain ⟨⟨r1, r2⟩, hA, hB⟩ := hp
    refine v_icmp_ne (tgt := 56) dX8_whole_24 (by decide) r1 r2 (fun q => ?_) (fun q => ?_)
    · have hp := hB q
      exact n_retV dX8_whole_56 rfl hp
    · have hp := hA q
      refine v_aload_n dX8_whole_27 rfl rfl ?_
      refine v_dupr dX8_whole_28 ?_
      refine n_geti dX8_whole_29 fo_X8_129 sh_304 rfl ?_
      refine v_iconst dX8_whole_32 ?_
      refine v_isub dX8_whole_33 ?_
      refine w_puti dX8_whole_34 fw_X8_129 sh_304 rfl (fun m2 em2 => ?_)
      have hp := hp m2 em2
      refine v_aload_n dX8_whole_37 rfl rfl ?_
      refine v_dupr dX8_whole_38 ?_
      refine n_geti dX8_whole_39 fo_X8_136 sh_304 rfl ?_
      refine v_iconst dX8_whole_42 ?_
      refine v_isub dX8_whole_43 ?_
      refine w_puti dX8_whole_44 fw_X8_136 sh_304 rfl (fun m3 em3 => ?_)
      have hp := hp m3 em3
      refine v_aload_n dX8_whole_47 rfl rfl ?_
      refine v_iconst dX8_whole_48 ?_
      refine v_iconst dX8_whole_49 ?_
      refine n_callVV (As := [vi 2, vi 0]) (st := []) dX8_whole_50 ml_X8_139 mo_X8_emit mv_X8_emit sh_304 rfl rfl rfl rfl (Nat.le_of_ble_eq_true rfl) (Nat.le_of_ble_eq_true rfl) (by decide) hp (fun m5 hp => ?_)
      refine v_goto (tgt := 5) dX8_whole_53 (by decide) ?_
      exact hp
theorem g_X8_settle_0 {G : GG} {d : Nat} {m : MM} {k : MM → Prop} (x1 : Int)
    (hp : bLE (m 304 19) 0 (k m) (∃ j1 : Nat, (((m 304 19) - 1) = (j1 : Int) ∧ j1 < 160) ∧ (bLE 40 (m 310 j1) (k m) (∃ j2 : Nat, (((m 304 19) - 1) = (j2 : Int) ∧ j2 < 160) ∧ (bLT (m 310 j2) x1 (k m) (∀ m3 : MM, m3 = upm m 304 19 ((m 304 19) - 1) → (∃ j4 : Nat, ((m3 304 19) = (j4 : Int) ∧ j4 < 160) ∧ (N G d mi_X8_emit 0 [some (vr 304), some (vi (m3 310 j4)), some (vi 0)] [] m3 (RV fun m6 => N G (d + 1) mi_X8_settle 0 [some (vr 304), some (vi x1)] [] m6 (RV k)))))))))) :
    N G (d + 1) mi_X8_settle 0 [some (vr 304), some (vi x1)] [] m (RV k) := by
  refine v_aload_n dX8_settle_0 rfl rfl ?_
  refine n_geti dX8_settle_1 fo_X8_129 sh_304 rfl ?_
  obtain ⟨⟨r1, r2⟩, hA, hB⟩ := hp
  refine v_if_le (tgt := 65) dX8_settle_4 (by decide) r1 (fun q => ?_) (fun q => ?_)
  · have hp := hA q
    exact n_retV dX8_settle_65 rfl hp
  · have hp := hB q
    refine v_aload_n dX8_settle_7 rfl rfl ?_
    refine n_getr dX8_settle_8 fo_X8_32 sh_304 rfl sr_304_18 ?_
    refine v_aload_n dX8_settle_11 rfl rfl ?_
    refine n_geti dX8_settle_12 fo_X8_129 sh_304 rfl ?_
    refine v_iconst dX8_settle_15 ?_
    refine v_isub dX8_settle_16 ?_
    obtain ⟨j1, ⟨ej1, bj1⟩, hp⟩ := hp
    refine n_iald (j := j1) dX8_settle_17 sh_310 ej1 bj1 ?_
    refine v_bipush dX8_settle_18 rfl ?_
    obtain ⟨⟨r1, r2⟩, hA, hB⟩ := hp
    refine v_icmp_ge (tgt := 65) dX8_settle_20 (by decide) r2 r1 (fun q => ?_) (fun q => ?_)
    · have hp := hA q
      exact n_retV dX8_settle_65 rfl hp
    · have hp := hB q
      refine v_aload_n dX8_settle_23 rfl rfl ?_
      refine n_getr dX8_settle_24 fo_X8_32 sh_304 rfl sr_304_18 ?_
      refine v_aload_n dX8_settle_27 rfl rfl ?_
      refine n_geti dX8_settle_28 fo_X8_129 sh_304 rfl ?_
      refine v_iconst dX8_settle_31 ?_
      refine v_isub dX8_settle_32 ?_
      obtain ⟨j2, ⟨ej2, bj2⟩, hp⟩ := hp
      refine n_iald (j := j2) dX8_settle_33 sh_310 ej2 bj2 ?_
      refine v_iload_n dX8_settle_34 rfl rfl ?_
      obtain ⟨⟨r1, r2⟩, hA, hB⟩ := hp
      refine v_icmp_lt (tgt := 65) dX8_settle_35 (by decide) r1 r2 (fun q => ?_) (fun q => ?_)
      · have hp := hA q
        exact n_retV dX8_settle_65 rfl hp
      · have hp := hB q
        refine v_aload_n dX8_settle_38 rfl rfl ?_
        refine v_dupr dX8_settle_39 ?_
        refine n_geti dX8_settle_40 fo_X8_129 sh_304 rfl ?_
        refine v_iconst dX8_settle_43 ?_
        refine v_isub dX8_settle_44 ?_
        refine w_puti dX8_settle_45 fw_X8_129 sh_304 rfl (fun m3 em3 => ?_)
        have hp := hp m3 em3
        refine v_aload_n dX8_settle_48 rfl rfl ?_
        refine v_aload_n dX8_settle_49 rfl rfl ?_
        refine n_getr dX8_settle_50 fo_X8_32 sh_304 rfl sr_304_18 ?_
        refine v_aload_n dX8_settle_53 rfl rfl ?_
        refine n_geti dX8_settle_54 fo_X8_129 sh_304 rfl ?_
        obtain ⟨j4, ⟨ej4, bj4⟩, hp⟩ := hp
        refine n_iald (j := j4) dX8_settle_57 sh_310 ej4 bj4 ?_
        refine v_iconst dX8_settle_58 ?_
        refine n_callVV (As := [vi (m3 310 j4), vi 0]) (st := []) dX8_settle_59 ml_X8_139 mo_X8_emit mv_X8_emit sh_304 rfl rfl rfl rfl (Nat.le_of_ble_eq_true rfl) (Nat.le_of_ble_eq_true rfl) (by decide) hp (fun m6 hp => ?_)
        refine v_goto (tgt := 0) dX8_settle_62 (by decide) ?_
        exact hp
theorem g_X8_nameOf_0 {G : GG} {d : Nat} {m : MM} {k : Int → MM → Prop} 
    (hp : bEQ (m 304 11) 2 (N G d mi_X8_w3 0 [some (vi 101), some (vi 121), some (vi 101)] [] m (RJG fun z1 m2 => (rnl (m 304 13) ∧ rnl z1) ∧ (bEQ (lcm (m 304 13) z1) 0 (k 0 m2) (N G d mi_X8_w6 0 [some (vi 99), some (vi 111), some (vi 108), some (vi 111), some (vi 117), some (vi 114)] [] m2 (RJG fun z3 m4 => (rnl (m2 304 13) ∧ rnl z3) ∧ (bEQ (lcm (m2 304 13) z3) 0 (k 1 m4) (N G d mi_X8_w3 0 [some (vi 99), some (vi 104), some (vi 105)] [] m4 (RJG fun z5 m6 => N G d mi_X8_w4 0 [some (vi 112), some (vi 112), some (vi 101), some (vi 100)] [] m6 (RJG fun z7 m8 => (rnl (m4 304 13) ∧ rnl (lorr (lshl z5 32) z7)) ∧ (bEQ (lcm (m4 304 13) (lorr (lshl z5 32) z7)) 0 (k 2 m8) (N G d mi_X8_w4 0 [some (vi 104), some (vi 111), some (vi 117), some (vi 114)] [] m8 (RJG fun z9 m10 => (rnl (m8 304 13) ∧ rnl z9) ∧ (bEQ (lcm (m8 304 13) z9) 0 (k 3 m10) (N G d mi_X8_w5 0 [some (vi 115), some (vi 105), some (vi 110), some (vi 99), some (vi 101)] [] m10 (RJG fun z11 m12 => (rnl (m10 304 13) ∧ rnl z11) ∧ (bEQ (lcm (m10 304 13) z11) 0 (k 4 m12) (N G d mi_X8_w4 0 [some (vi 109), some (vi 97), some (vi 110), some (vi 121)] [] m12 (RJG fun z13 m14 => (rnl (m12 304 13) ∧ rnl z13) ∧ (bEQ (lcm (m12 304 13) z13) 0 (k 5 m14) (N G d mi_X8_w5 0 [some (vi 116), some (vi 104), some (vi 105), some (vi 110), some (vi 103)] [] m14 (RJG fun z15 m16 => (rnl (m14 304 13) ∧ rnl z15) ∧ (bEQ (lcm (m14 304 13) z15) 0 (k 6 m16) (N G d mi_X8_w4 0 [some (vi 107), some (vi 105), some (vi 110), some (vi 100)] [] m16 (RJG fun z17 m18 => (rnl (m16 304 13) ∧ rnl z17) ∧ (bEQ (lcm (m16 304 13) z17) 0 (k 7 m18) (N G d mi_X8_w3 0 [some (vi 119), some (vi 104), some (vi 111)] [] m18 (RJG fun z19 m20 => (rnl (m18 304 13) ∧ rnl z19) ∧ (bEQ (lcm (m18 304 13) z19) 0 (k 8 m20) (k (-1) m20))))))))))))))))))))))))))))) (k (-1) m)) :
    N G (d + 1) mi_X8_nameOf 0 [some (vr 304)] [] m (RI k) := by
  refine v_aload_n dX8_nameOf_0 rfl rfl ?_
  refine n_geti dX8_nameOf_1 fo_X8_97 sh_304 rfl ?_
  refine v_iconst dX8_nameOf_4 ?_
  obtain ⟨⟨r1, r2⟩, hA, hB⟩ := hp
  refine v_icmp_eq (tgt := 10) dX8_nameOf_5 (by decide) r1 r2 (fun q => ?_) (fun q => ?_)
  · have hp := hA q
    refine v_aload_n dX8_nameOf_10 rfl rfl ?_
    refine n_getl dX8_nameOf_11 fo_X8_111 sh_304 rfl ?_
    refine v_bipush dX8_nameOf_14 rfl ?_
    refine v_bipush dX8_nameOf_16 rfl ?_
    refine v_bipush dX8_nameOf_18 rfl ?_
    refine n_callSL (As := [vi 101, vi 121, vi 101]) (st := [vl (m 304 13)]) dX8_nameOf_20 ml_X8_115 mo_X8_w3 ms_X8_w3 rfl rfl (Nat.le_of_ble_eq_true rfl) (Nat.le_of_ble_eq_true rfl) (by decide) hp (fun z1 m2 hp => ?_)
    obtain ⟨hg, hp⟩ := hp
    refine v_lcmp dX8_nameOf_23 hg.1 hg.2 ?_
    obtain ⟨⟨r1, r2⟩, hA, hB⟩ := hp
    refine v_if_ne (tgt := 29) dX8_nameOf_24 (by decide) r1 (fun q => ?_) (fun q => ?_)
    · have hp := hB q
      refine v_aload_n dX8_nameOf_29 rfl rfl ?_
      refine n_getl dX8_nameOf_30 fo_X8_111 sh_304 rfl ?_
      refine v_bipush dX8_nameOf_33 rfl ?_
      refine v_bipush dX8_nameOf_35 rfl ?_
      refine v_bipush dX8_nameOf_37 rfl ?_
      refine v_bipush dX8_nameOf_39 rfl ?_
      refine v_bipush dX8_nameOf_41 rfl ?_
      refine v_bipush dX8_nameOf_43 rfl ?_
      refine n_callSL (As := [vi 99, vi 111, vi 108, vi 111, vi 117, vi 114]) (st := [vl (m2 304 13)]) dX8_nameOf_45 ml_X8_143 mo_X8_w6 ms_X8_w6 rfl rfl (Nat.le_of_ble_eq_true rfl) (Nat.le_of_ble_eq_true rfl) (by decide) hp (fun z3 m4 hp => ?_)
      obtain ⟨hg, hp⟩ := hp
      refine v_lcmp dX8_nameOf_48 hg.1 hg.2 ?_
      obtain ⟨⟨r1, r2⟩, hA, hB⟩ := hp
      refine v_if_ne (tgt := 54) dX8_nameOf_49 (by decide) r1 (fun q => ?_) (fun q => ?_)
      · have hp := hB q
        refine v_aload_n dX8_nameOf_54 rfl rfl ?_
        refine n_getl dX8_nameOf_55 fo_X8_111 sh_304 rfl ?_
        refine v_bipush dX8_nameOf_58 rfl ?_
        refine v_bipush dX8_nameOf_60 rfl ?_
        refine v_bipush dX8_nameOf_62 rfl ?_
        refine n_callSL (As := [vi 99, vi 104, vi 105]) (st := [vl (m4 304 13)]) dX8_nameOf_64 ml_X8_115 mo_X8_w3 ms_X8_w3 rfl rfl (Nat.le_of_ble_eq_true rfl) (Nat.le_of_ble_eq_true rfl) (by decide) hp (fun z5 m6 hp => ?_)
        refine v_bipush dX8_nameOf_67 rfl ?_
        refine v_lshl dX8_nameOf_69 ?_
        refine v_bipush dX8_nameOf_70 rfl ?_
        refine v_bipush dX8_nameOf_72 rfl ?_
        refine v_bipush dX8_nameOf_74 rfl ?_
        refine v_bipush dX8_nameOf_76 rfl ?_
        refine n_callSL (As := [vi 112, vi 112, vi 101, vi 100]) (st := [vl (lshl z5 32), vl (m4 304 13)]) dX8_nameOf_78 ml_X8_147 mo_X8_w4 ms_X8_w4 rfl rfl (Nat.le_of_ble_eq_true rfl) (Nat.le_of_ble_eq_true rfl) (by decide) hp (fun z7 m8 hp => ?_)
        refine v_lor dX8_nameOf_81 ?_
        obtain ⟨hg, hp⟩ := hp
        refine v_lcmp dX8_nameOf_82 hg.1 hg.2 ?_
        obtain ⟨⟨r1, r2⟩, hA, hB⟩ := hp
        refine v_if_ne (tgt := 88) dX8_nameOf_83 (by decide) r1 (fun q => ?_) (fun q => ?_)
        · have hp := hB q
          refine v_aload_n dX8_nameOf_88 rfl rfl ?_
          refine n_getl dX8_nameOf_89 fo_X8_111 sh_304 rfl ?_
          refine v_bipush dX8_nameOf_92 rfl ?_
          refine v_bipush dX8_nameOf_94 rfl ?_
          refine v_bipush dX8_nameOf_96 rfl ?_
          refine v_bipush dX8_nameOf_98 rfl ?_
          refine n_callSL (As := [vi 104, vi 111, vi 117, vi 114]) (st := [vl (m8 304 13)]) dX8_nameOf_100 ml_X8_147 mo_X8_w4 ms_X8_w4 rfl rfl (Nat.le_of_ble_eq_true rfl) (Nat.le_of_ble_eq_true rfl) (by decide) hp (fun z9 m10 hp => ?_)
          obtain ⟨hg, hp⟩ := hp
          refine v_lcmp dX8_nameOf_103 hg.1 hg.2 ?_
          obtain ⟨⟨r1, r2⟩, hA, hB⟩ := hp
          refine v_if_ne (tgt := 109) dX8_nameOf_104 (by decide) r1 (fun q => ?_) (fun q => ?_)
          · have hp := hB q
            refine v_aload_n dX8_nameOf_109 rfl rfl ?_
            refine n_getl dX8_nameOf_110 fo_X8_111 sh_304 rfl ?_
            refine v_bipush dX8_nameOf_113 rfl ?_
            refine v_bipush dX8_nameOf_115 rfl ?_
            refine v_bipush dX8_nameOf_117 rfl ?_
            refine v_bipush dX8_nameOf_119 rfl ?_
            refine v_bipush dX8_nameOf_121 rfl ?_
            refine n_callSL (As := [vi 115, vi 105, vi 110, vi 99, vi 101]) (st := [vl (m10 304 13)]) dX8_nameOf_123 ml_X8_119 mo_X8_w5 ms_X8_w5 rfl rfl (Nat.le_of_ble_eq_true rfl) (Nat.le_of_ble_eq_true rfl) (by decide) hp (fun z11 m12 hp => ?_)
            obtain ⟨hg, hp⟩ := hp
            refine v_lcmp dX8_nameOf_126 hg.1 hg.2 ?_
            obtain ⟨⟨r1, r2⟩, hA, hB⟩ := hp
            refine v_if_ne (tgt := 132) dX8_nameOf_127 (by decide) r1 (fun q => ?_) (fun q => ?_)
            · have hp := hB q
              refine v_aload_n dX8_nameOf_132 rfl rfl ?_
              refine n_getl dX8_nameOf_133 fo_X8_111 sh_304 rfl ?_
              refine v_bipush dX8_nameOf_136 rfl ?_
              refine v_bipush dX8_nameOf_138 rfl ?_
              refine v_bipush dX8_nameOf_140 rfl ?_
              refine v_bipush dX8_nameOf_142 rfl ?_
              refine n_callSL (As := [vi 109, vi 97, vi 110, vi 121]) (st := [vl (m12 304 13)]) dX8_nameOf_144 ml_X8_147 mo_X8_w4 ms_X8_w4 rfl rfl (Nat.le_of_ble_eq_true rfl) (Nat.le_of_ble_eq_true rfl) (by decide) hp (fun z13 m14 hp => ?_)
              obtain ⟨hg, hp⟩ := hp
              refine v_lcmp dX8_nameOf_147 hg.1 hg.2 ?_
              obtain ⟨⟨r1, r2⟩, hA, hB⟩ := hp
              refine v_if_ne (tgt := 153) dX8_nameOf_148 (by decide) r1 (fun q => ?_) (fun q => ?_)
              · have hp := hB q
                refine v_aload_n dX8_nameOf_153 rfl rfl ?_
                refine n_getl dX8_nameOf_154 fo_X8_111 sh_304 rfl ?_
                refine v_bipush dX8_nameOf_157 rfl ?_
                refine v_bipush dX8_nameOf_159 rfl ?_
                refine v_bipush dX8_nameOf_161 rfl ?_
                refine v_bipush dX8_nameOf_163 rfl ?_
                refine v_bipush dX8_nameOf_165 rfl ?_
                refine n_callSL (As := [vi 116, vi 104, vi 105, vi 110, vi 103]) (st := [vl (m14 304 13)]) dX8_nameOf_167 ml_X8_119 mo_X8_w5 ms_X8_w5 rfl rfl (Nat.le_of_ble_eq_true rfl) (Nat.le_of_ble_eq_true rfl) (by decide) hp (fun z15 m16 hp => ?_)
                obtain ⟨hg, hp⟩ := hp
                refine v_lcmp dX8_nameOf_170 hg.1 hg.2 ?_
                obtain ⟨⟨r1, r2⟩, hA, hB⟩ := hp
                refine v_if_ne (tgt := 177) dX8_nameOf_171 (by decide) r1 (fun q => ?_) (fun q => ?_)
                · have hp := hB q
                  refine v_aload_n dX8_nameOf_177 rfl rfl ?_
                  refine n_getl dX8_nameOf_178 fo_X8_111 sh_304 rfl ?_
                  refine v_bipush dX8_nameOf_181 rfl ?_
                  refine v_bipush dX8_nameOf_183 rfl ?_
                  refine v_bipush dX8_nameOf_185 rfl ?_
                  refine v_bipush dX8_nameOf_187 rfl ?_
                  refine n_callSL (As := [vi 107, vi 105, vi 110, vi 100]) (st := [vl (m16 304 13)]) dX8_nameOf_189 ml_X8_147 mo_X8_w4 ms_X8_w4 rfl rfl (Nat.le_of_ble_eq_true rfl) (Nat.le_of_ble_eq_true rfl) (by decide) hp (fun z17 m18 hp => ?_)
                  obtain ⟨hg, hp⟩ := hp
                  refine v_lcmp dX8_nameOf_192 hg.1 hg.2 ?_
                  obtain ⟨⟨r1, r2⟩, hA, hB⟩ := hp
                  refine v_if_ne (tgt := 201) dX8_nameOf_193 (by decide) r1 (fun q => ?_) (fun q => ?_)
                  · have hp := hB q
                    refine v_aload_n dX8_nameOf_201 rfl rfl ?_
                    refine n_getl dX8_nameOf_202 fo_X8_111 sh_304 rfl ?_
                    refine v_bipush dX8_nameOf_205 rfl ?_
                    refine v_bipush dX8_nameOf_207 rfl ?_
                    refine v_bipush dX8_nameOf_209 rfl ?_
                    refine n_callSL (As := [vi 119, vi 104, vi 111]) (st := [vl (m18 304 13)]) dX8_nameOf_211 ml_X8_115 mo_X8_w3 ms_X8_w3 rfl rfl (Nat.le_of_ble_eq_true rfl) (Nat.le_of_ble_eq_true rfl) (by decide) hp (fun z19 m20 hp => ?_)
                    obtain ⟨hg, hp⟩ := hp
                    refine v_lcmp dX8_nameOf_214 hg.1 hg.2 ?_
                    obtain ⟨⟨r1, r2⟩, hA, hB⟩ := hp
                    refine v_if_ne (tgt := 223) dX8_nameOf_215 (by decide) r1 (fun q => ?_) (fun q => ?_)
                    · have hp := hB q
                      refine v_iconst dX8_nameOf_223 ?_
                      exact n_retI dX8_nameOf_224 rfl hp
                    · have hp := hA q
                      refine v_bipush dX8_nameOf_218 rfl ?_
                      refine v_goto (tgt := 224) dX8_nameOf_220 (by decide) ?_
                      exact n_retI dX8_nameOf_224 rfl hp
                  · have hp := hA q
                    refine v_bipush dX8_nameOf_196 rfl ?_
                    refine v_goto (tgt := 224) dX8_nameOf_198 (by decide) ?_
                    exact n_retI dX8_nameOf_224 rfl hp
                · have hp := hA q
                  refine v_bipush dX8_nameOf_174 rfl ?_
                  exact n_retI dX8_nameOf_176 rfl hp
              · have hp := hA q
                refine v_iconst dX8_nameOf_151 ?_
                exact n_retI dX8_nameOf_152 rfl hp
            · have hp := hA q
              refine v_iconst dX8_nameOf_130 ?_
              exact n_retI dX8_nameOf_131 rfl hp
          · have hp := hA q
            refine v_iconst dX8_nameOf_107 ?_
            exact n_retI dX8_nameOf_108 rfl hp
        · have hp := hA q
          refine v_iconst dX8_nameOf_86 ?_
          exact n_retI dX8_nameOf_87 rfl hp
      · have hp := hA q
        refine v_iconst dX8_nameOf_52 ?_
        exact n_retI dX8_nameOf_53 rfl hp
    · have hp := hA q
      refine v_iconst dX8_nameOf_27 ?_
      exact n_retI dX8_nameOf_28 rfl hp
  · have hp := hB q
    refine v_iconst dX8_nameOf_8 ?_
    exact n_retI dX8_nameOf_9 rfl hp
theorem g_X8_isBarred_0 {G : GG} {d : Nat} {m : MM} {k : Int → MM → Prop} (x1 : Int)
    (hp : bLE x1 5 (k 0 m) (bEQ (m 304 22) 1 (k 1 m) (k 0 m))) :
    N G d mi_X8_isBarred 0 [some (vr 304), some (vi x1)] [] m (RI k) := by
  refine v_iload_n dX8_isBarred_0 rfl rfl ?_
  refine v_iconst dX8_isBarred_1 ?_
  obtain ⟨⟨r1, r2⟩, hA, hB⟩ := hp
  refine v_icmp_le (tgt := 17) dX8_isBarred_2 (by decide) r1 r2 (fun q => ?_) (fun q => ?_)
  · have hp := hA q
    refine v_iconst dX8_isBarred_17 ?_
    exact n_retZ dX8_isBarred_18 rfl (by decide) hp
  · have hp := hB q
    refine v_aload_n dX8_isBarred_5 rfl rfl ?_
    refine n_geti dX8_isBarred_6 fo_X8_151 sh_304 rfl ?_
    refine v_iconst dX8_isBarred_9 ?_
    obtain ⟨⟨r1, r2⟩, hA, hB⟩ := hp
    refine v_icmp_ne (tgt := 17) dX8_isBarred_10 (by decide) r1 r2 (fun q => ?_) (fun q => ?_)
    · have hp := hB q
      refine v_iconst dX8_isBarred_17 ?_
      exact n_retZ dX8_isBarred_18 rfl (by decide) hp
    · have hp := hA q
      refine v_iconst dX8_isBarred_13 ?_
      refine v_goto (tgt := 18) dX8_isBarred_14 (by decide) ?_
      exact n_retZ dX8_isBarred_18 rfl (by decide) hp
theorem g_X8_beginOne_0 {G : GG} {d : Nat} {m : MM} {k : Int → MM → Prop} 
    (hp : bEQ (m 304 11) 1 (bLE (m 304 12) 9999 (N G d mi_X8_emit 0 [some (vr 304), some (vi 0), some (vi (m 304 12))] [] m (RV fun m16 => N G d mi_X8_nextToken 0 [some (vr 304), none, none] [] m16 (RV fun m18 => N G d mi_X8_whole 0 [some (vr 304)] [] m18 (RV fun m20 => k 0 m20)))) (k 2 m)) (N G d mi_X8_nameOf 0 [some (vr 304)] [] m (RI fun z1 m2 => bLT z1 0 (bEQ (m2 304 11) 40 (N G (d + 1) mi_X8_beginOne 106 [some (vr 304), none] [vi 40] m2 (RI k)) (bEQ (m2 304 11) 45 (N G (d + 1) mi_X8_beginOne 106 [some (vr 304), none] [vi 2] m2 (RI k)) (N G (d + 1) mi_X8_beginOne 106 [some (vr 304), none] [vi 0] m2 (RI k)))) (N G d mi_X8_nameOf 0 [some (vr 304)] [] m2 (RI fun z3 m4 => N G d mi_X8_isBarred 0 [some (vr 304), some (vi z3)] [] m4 (RI fun z5 m6 => bEQ z5 0 (N G d mi_X8_nameOf 0 [some (vr 304)] [] m6 (RI fun z7 m8 => N G d mi_X8_emit 0 [some (vr 304), some (vi 1), some (vi z7)] [] m8 (RV fun m10 => N G d mi_X8_nextToken 0 [some (vr 304), none, none] [] m10 (RV fun m12 => N G d mi_X8_whole 0 [some (vr 304)] [] m12 (RV fun m14 => k 0 m14))))) (k 5 m6))))))) :
    N G (d + 1) mi_X8_beginOne 0 [some (vr 304), none] [] m (RI k) := by
  refine v_aload_n dX8_beginOne_0 rfl rfl ?_
  refine n_geti dX8_beginOne_1 fo_X8_97 sh_304 rfl ?_
  refine v_iconst dX8_beginOne_4 ?_
  obtain ⟨⟨r1, r2⟩, hA, hB⟩ := hp
  refine v_icmp_ne (tgt := 39) dX8_beginOne_5 (by decide) r1 r2 (fun q => ?_) (fun q => ?_)
  · have hp := hB q
    refine v_aload_n dX8_beginOne_39 rfl rfl ?_
    refine n_callVI (As := []) (st := []) dX8_beginOne_40 ml_X8_160 mo_X8_nameOf mv_X8_nameOf sh_304 rfl rfl rfl rfl (Nat.le_of_ble_eq_true rfl) (Nat.le_of_ble_eq_true rfl) (by decide) hp (fun z1 m2 hp => ?_)
    obtain ⟨⟨r1, r2⟩, hA, hB⟩ := hp
    refine v_if_lt (tgt := 78) dX8_beginOne_43 (by decide) r1 (fun q => ?_) (fun q => ?_)
    · have hp := hA q
      refine v_aload_n dX8_beginOne_78 rfl rfl ?_
      refine n_geti dX8_beginOne_79 fo_X8_97 sh_304 rfl ?_
      refine v_bipush dX8_beginOne_82 rfl ?_
      obtain ⟨⟨r1, r2⟩, hA, hB⟩ := hp
      refine v_icmp_ne (tgt := 92) dX8_beginOne_84 (by decide) r1 r2 (fun q => ?_) (fun q => ?_)
      · have hp := hB q
        refine v_aload_n dX8_beginOne_92 rfl rfl ?_
        refine n_geti dX8_beginOne_93 fo_X8_97 sh_304 rfl ?_
        refine v_bipush dX8_beginOne_96 rfl ?_
        obtain ⟨⟨r1, r2⟩, hA, hB⟩ := hp
        refine v_icmp_ne (tgt := 105) dX8_beginOne_98 (by decide) r1 r2 (fun q => ?_) (fun q => ?_)
        · have hp := hB q
          refine v_iconst dX8_beginOne_105 ?_
          exact hp
        · have hp := hA q
          refine v_iconst dX8_beginOne_101 ?_
          refine v_goto (tgt := 106) dX8_beginOne_102 (by decide) ?_
          exact hp
      · have hp := hA q
        refine v_bipush dX8_beginOne_87 rfl ?_
        refine v_goto (tgt := 106) dX8_beginOne_89 (by decide) ?_
        exact hp
    · have hp := hB q
      refine v_aload_n dX8_beginOne_46 rfl rfl ?_
      refine v_aload_n dX8_beginOne_47 rfl rfl ?_
      refine n_callVI (As := []) (st := [vr 304]) dX8_beginOne_48 ml_X8_160 mo_X8_nameOf mv_X8_nameOf sh_304 rfl rfl rfl rfl (Nat.le_of_ble_eq_true rfl) (Nat.le_of_ble_eq_true rfl) (by decide) hp (fun z3 m4 hp => ?_)
      refine n_callVI (As := [vi z3]) (st := []) dX8_beginOne_51 ml_X8_164 mo_X8_isBarred mv_X8_isBarred sh_304 rfl rfl rfl rfl (Nat.le_of_ble_eq_true rfl) (Nat.le_of_ble_eq_true rfl) (by decide) hp (fun z5 m6 hp => ?_)
      obtain ⟨⟨r1, r2⟩, hA, hB⟩ := hp
      refine v_if_eq (tgt := 59) dX8_beginOne_54 (by decide) r1 (fun q => ?_) (fun q => ?_)
      · have hp := hA q
        refine v_aload_n dX8_beginOne_59 rfl rfl ?_
        refine v_iconst dX8_beginOne_60 ?_
        refine v_aload_n dX8_beginOne_61 rfl rfl ?_
        refine n_callVI (As := []) (st := [vi 1, vr 304]) dX8_beginOne_62 ml_X8_160 mo_X8_nameOf mv_X8_nameOf sh_304 rfl rfl rfl rfl (Nat.le_of_ble_eq_true rfl) (Nat.le_of_ble_eq_true rfl) (by decide) hp (fun z7 m8 hp => ?_)
        refine n_callVV (As := [vi 1, vi z7]) (st := []) dX8_beginOne_65 ml_X8_139 mo_X8_emit mv_X8_emit sh_304 rfl rfl rfl rfl (Nat.le_of_ble_eq_true rfl) (Nat.le_of_ble_eq_true rfl) (by decide) hp (fun m10 hp => ?_)
        refine v_aload_n dX8_beginOne_68 rfl rfl ?_
        refine n_callVV (As := []) (st := []) dX8_beginOne_69 ml_X8_154 mo_X8_nextToken mv_X8_nextToken sh_304 rfl rfl rfl rfl (Nat.le_of_ble_eq_true rfl) (Nat.le_of_ble_eq_true rfl) (by decide) hp (fun m12 hp => ?_)
        refine v_aload_n dX8_beginOne_72 rfl rfl ?_
        refine n_callVV (As := []) (st := []) dX8_beginOne_73 ml_X8_157 mo_X8_whole mv_X8_whole sh_304 rfl rfl rfl rfl (Nat.le_of_ble_eq_true rfl) (Nat.le_of_ble_eq_true rfl) (by decide) hp (fun m14 hp => ?_)
        refine v_iconst dX8_beginOne_76 ?_
        exact n_retI dX8_beginOne_77 rfl hp
      · have hp := hB q
        refine v_iconst dX8_beginOne_57 ?_
        exact n_retI dX8_beginOne_58 rfl hp
  · have hp := hA q
    refine v_aload_n dX8_beginOne_8 rfl rfl ?_
    refine n_geti dX8_beginOne_9 fo_X8_104 sh_304 rfl ?_
    refine v_sipush dX8_beginOne_12 rfl ?_
    obtain ⟨⟨r1, r2⟩, hA, hB⟩ := hp
    refine v_icmp_le (tgt := 20) dX8_beginOne_15 (by decide) r1 r2 (fun q => ?_) (fun q => ?_)
    · have hp := hA q
      refine v_aload_n dX8_beginOne_20 rfl rfl ?_
      refine v_iconst dX8_beginOne_21 ?_
      refine v_aload_n dX8_beginOne_22 rfl rfl ?_
      refine n_geti dX8_beginOne_23 fo_X8_104 sh_304 rfl ?_
      refine n_callVV (As := [vi 0, vi (m 304 12)]) (st := []) dX8_beginOne_26 ml_X8_139 mo_X8_emit mv_X8_emit sh_304 rfl rfl rfl rfl (Nat.le_of_ble_eq_true rfl) (Nat.le_of_ble_eq_true rfl) (by decide) hp (fun m16 hp => ?_)
      refine v_aload_n dX8_beginOne_29 rfl rfl ?_
      refine n_callVV (As := []) (st := []) dX8_beginOne_30 ml_X8_154 mo_X8_nextToken mv_X8_nextToken sh_304 rfl rfl rfl rfl (Nat.le_of_ble_eq_true rfl) (Nat.le_of_ble_eq_true rfl) (by decide) hp (fun m18 hp => ?_)
      refine v_aload_n dX8_beginOne_33 rfl rfl ?_
      refine n_callVV (As := []) (st := []) dX8_beginOne_34 ml_X8_157 mo_X8_whole mv_X8_whole sh_304 rfl rfl rfl rfl (Nat.le_of_ble_eq_true rfl) (Nat.le_of_ble_eq_true rfl) (by decide) hp (fun m20 hp => ?_)
      refine v_iconst dX8_beginOne_37 ?_
      exact n_retI dX8_beginOne_38 rfl hp
    · have hp := hB q
      refine v_iconst dX8_beginOne_18 ?_
      exact n_retI dX8_beginOne_19 rfl hp
theorem g_X8_beginOne_106 {G : GG} {d : Nat} {m : MM} {k : Int → MM → Prop} (s0 : Int)
    (hp : bEQ s0 0 (k 1 m) (bEQ (m 304 20) 8 (k 3 m) (∀ m1 : MM, m1 = upm m 304 20 ((m 304 20) + 1) → (N G d mi_X8_push 0 [some (vr 304), some (vi s0)] [] m1 (RV fun m3 => N G d mi_X8_nextToken 0 [some (vr 304), none, none] [] m3 (RV fun m5 => k 0 m5)))))) :
    N G (d + 1) mi_X8_beginOne 106 [some (vr 304), none] [vi s0] m (RI k) := by
  refine v_istore_n dX8_beginOne_106 rfl (by decide) ?_
  refine v_iload_n dX8_beginOne_107 rfl rfl ?_
  obtain ⟨⟨r1, r2⟩, hA, hB⟩ := hp
  refine v_if_ne (tgt := 113) dX8_beginOne_108 (by decide) r1 (fun q => ?_) (fun q => ?_)
  · have hp := hB q
    refine v_aload_n dX8_beginOne_113 rfl rfl ?_
    refine n_geti dX8_beginOne_114 fo_X8_136 sh_304 rfl ?_
    refine v_bipush dX8_beginOne_117 rfl ?_
    obtain ⟨⟨r1, r2⟩, hA, hB⟩ := hp
    refine v_icmp_ne (tgt := 124) dX8_beginOne_119 (by decide) r1 r2 (fun q => ?_) (fun q => ?_)
    · have hp := hB q
      refine v_aload_n dX8_beginOne_124 rfl rfl ?_
      refine v_dupr dX8_beginOne_125 ?_
      refine n_geti dX8_beginOne_126 fo_X8_136 sh_304 rfl ?_
      refine v_iconst dX8_beginOne_129 ?_
      refine v_iadd dX8_beginOne_130 ?_
      refine w_puti dX8_beginOne_131 fw_X8_136 sh_304 rfl (fun m1 em1 => ?_)
      have hp := hp m1 em1
      refine v_aload_n dX8_beginOne_134 rfl rfl ?_
      refine v_iload_n dX8_beginOne_135 rfl rfl ?_
      refine n_callVV (As := [vi s0]) (st := []) dX8_beginOne_136 ml_X8_167 mo_X8_push mv_X8_push sh_304 rfl rfl rfl rfl (Nat.le_of_ble_eq_true rfl) (Nat.le_of_ble_eq_true rfl) (by decide) hp (fun m3 hp => ?_)
      refine v_aload_n dX8_beginOne_139 rfl rfl ?_
      refine n_callVV (As := []) (st := []) dX8_beginOne_140 ml_X8_154 mo_X8_nextToken mv_X8_nextToken sh_304 rfl rfl rfl rfl (Nat.le_of_ble_eq_true rfl) (Nat.le_of_ble_eq_true rfl) (by decide) hp (fun m5 hp => ?_)
      refine v_iconst dX8_beginOne_143 ?_
      exact n_retI dX8_beginOne_144 rfl hp
    · have hp := hA q
      refine v_iconst dX8_beginOne_122 ?_
      exact n_retI dX8_beginOne_123 rfl hp
  · have hp := hA q
    refine v_iconst dX8_beginOne_111 ?_
    exact n_retI dX8_beginOne_112 rfl hp
theorem g_X8_hasParen_0 {G : GG} {d : Nat} {m : MM} {k : Int → MM → Prop} 
    (hp : N G d mi_X8_hasParen 2 [some (vr 304), some (vi 0)] [] m (RI k)) :
    N G d mi_X8_hasParen 0 [some (vr 304), none] [] m (RI k) := by
  refine v_iconst dX8_hasParen_0 ?_
  refine v_istore_n dX8_hasParen_1 rfl (by decide) ?_
  exact hp
theorem g_X8_hasParen_2 {G : GG} {d : Nat} {m : MM} {k : Int → MM → Prop} (x1 : Int)
    (hp : bLE (m 304 19) x1 (k 0 m) (∃ j1 : Nat, (x1 = (j1 : Int) ∧ j1 < 160) ∧ (bEQ (m 310 j1) 40 (k 1 m) (N G d mi_X8_hasParen 2 [some (vr 304), some (vi (x1 + 1))] [] m (RI k))))) :
    N G d mi_X8_hasParen 2 [some (vr 304), some (vi x1)] [] m (RI k) := by
  refine v_iload_n dX8_hasParen_2 rfl rfl ?_
  refine v_aload_n dX8_hasParen_3 rfl rfl ?_
  refine n_geti dX8_hasParen_4 fo_X8_129 sh_304 rfl ?_
  obtain ⟨⟨r1, r2⟩, hA, hB⟩ := hp
  refine v_icmp_ge (tgt := 29) dX8_hasParen_7 (by decide) r2 r1 (fun q => ?_) (fun q => ?_)
  · have hp := hA q
    refine v_iconst dX8_hasParen_29 ?_
    exact n_retZ dX8_hasParen_30 rfl (by decide) hp
  · have hp := hB q
    refine v_aload_n dX8_hasParen_10 rfl rfl ?_
    refine n_getr dX8_hasParen_11 fo_X8_32 sh_304 rfl sr_304_18 ?_
    refine v_iload_n dX8_hasParen_14 rfl rfl ?_
    obtain ⟨j1, ⟨ej1, bj1⟩, hp⟩ := hp
    refine n_iald (j := j1) dX8_hasParen_15 sh_310 ej1 bj1 ?_
    refine v_bipush dX8_hasParen_16 rfl ?_
    obtain ⟨⟨r1, r2⟩, hA, hB⟩ := hp
    refine v_icmp_ne (tgt := 23) dX8_hasParen_18 (by decide) r1 r2 (fun q => ?_) (fun q => ?_)
    · have hp := hB q
      refine v_iinc dX8_hasParen_23 rfl (by decide) ?_
      refine v_goto (tgt := 2) dX8_hasParen_26 (by decide) ?_
      exact hp
    · have hp := hA q
      refine v_iconst dX8_hasParen_21 ?_
      exact n_retZ dX8_hasParen_22 rfl (by decide) hp
theorem g_X8_goesOn_0 {G : GG} {d : Nat} {m : MM} {k : Int → MM → Prop} 
    (hp : bEQ (m 304 11) 43 (k 1 m) (bEQ (m 304 11) 45 (k 1 m) (bEQ (m 304 11) 42 (k 1 m) (bEQ (m 304 11) 47 (k 1 m) (bEQ (m 304 11) 41 (N G d mi_X8_hasParen 0 [some (vr 304), none] [] m (RI fun z1 m2 => bEQ z1 0 (k 0 m2) (k 1 m2))) (k 0 m)))))) :
    N G (d + 1) mi_X8_goesOn 0 [some (vr 304)] [] m (RI k) := by
  refine v_aload_n dX8_goesOn_0 rfl rfl ?_
  refine n_geti dX8_goesOn_1 fo_X8_97 sh_304 rfl ?_
  refine v_bipush dX8_goesOn_4 rfl ?_
  obtain ⟨⟨r1, r2⟩, hA, hB⟩ := hp
  refine v_icmp_eq (tgt := 52) dX8_goesOn_6 (by decide) r1 r2 (fun q => ?_) (fun q => ?_)
  · have hp := hA q
    refine v_iconst dX8_goesOn_52 ?_
    refine v_goto (tgt := 57) dX8_goesOn_53 (by decide) ?_
    exact n_retZ dX8_goesOn_57 rfl (by decide) hp
  · have hp := hB q
    refine v_aload_n dX8_goesOn_9 rfl rfl ?_
    refine n_geti dX8_goesOn_10 fo_X8_97 sh_304 rfl ?_
    refine v_bipush dX8_goesOn_13 rfl ?_
    obtain ⟨⟨r1, r2⟩, hA, hB⟩ := hp
    refine v_icmp_eq (tgt := 52) dX8_goesOn_15 (by decide) r1 r2 (fun q => ?_) (fun q => ?_)
    · have hp := hA q
      refine v_iconst dX8_goesOn_52 ?_
      refine v_goto (tgt := 57) dX8_goesOn_53 (by decide) ?_
      exact n_retZ dX8_goesOn_57 rfl (by decide) hp
    · have hp := hB q
      refine v_aload_n dX8_goesOn_18 rfl rfl ?_
      refine n_geti dX8_goesOn_19 fo_X8_97 sh_304 rfl ?_
      refine v_bipush dX8_goesOn_22 rfl ?_
      obtain ⟨⟨r1, r2⟩, hA, hB⟩ := hp
      refine v_icmp_eq (tgt := 52) dX8_goesOn_24 (by decide) r1 r2 (fun q => ?_) (fun q => ?_)
      · have hp := hA q
        refine v_iconst dX8_goesOn_52 ?_
        refine v_goto (tgt := 57) dX8_goesOn_53 (by decide) ?_
        exact n_retZ dX8_goesOn_57 rfl (by decide) hp
      · have hp := hB q
        refine v_aload_n dX8_goesOn_27 rfl rfl ?_
        refine n_geti dX8_goesOn_28 fo_X8_97 sh_304 rfl ?_
        refine v_bipush dX8_goesOn_31 rfl ?_
        obtain ⟨⟨r1, r2⟩, hA, hB⟩ := hp
        refine v_icmp_eq (tgt := 52) dX8_goesOn_33 (by decide) r1 r2 (fun q => ?_) (fun q => ?_)
        · have hp := hA q
          refine v_iconst dX8_goesOn_52 ?_
          refine v_goto (tgt := 57) dX8_goesOn_53 (by decide) ?_
          exact n_retZ dX8_goesOn_57 rfl (by decide) hp
        · have hp := hB q
          refine v_aload_n dX8_goesOn_36 rfl rfl ?_
          refine n_geti dX8_goesOn_37 fo_X8_97 sh_304 rfl ?_
          refine v_bipush dX8_goesOn_40 rfl ?_
          obtain ⟨⟨r1, r2⟩, hA, hB⟩ := hp
          refine v_icmp_ne (tgt := 56) dX8_goesOn_42 (by decide) r1 r2 (fun q => ?_) (fun q => ?_)
          · have hp := hB q
            refine v_iconst dX8_goesOn_56 ?_
            exact n_retZ dX8_goesOn_57 rfl (by decide) hp
          · have hp := hA q
            refine v_aload_n dX8_goesOn_45 rfl rfl ?_
            refine n_callVI (As := []) (st := []) dX8_goesOn_46 ml_X8_170 mo_X8_hasParen mv_X8_hasParen sh_304 rfl rfl rfl rfl (Nat.le_of_ble_eq_true rfl) (Nat.le_of_ble_eq_true rfl) (by decide) hp (fun z1 m2 hp => ?_)
            obtain ⟨⟨r1, r2⟩, hA, hB⟩ := hp
            refine v_if_eq (tgt := 56) dX8_goesOn_49 (by decide) r1 (fun q => ?_) (fun q => ?_)
            · have hp := hA q
              refine v_iconst dX8_goesOn_56 ?_
              exact n_retZ dX8_goesOn_57 rfl (by decide) hp
            · have hp := hB q
              refine v_iconst dX8_goesOn_52 ?_
              refine v_goto (tgt := 57) dX8_goesOn_53 (by decide) ?_
              exact n_retZ dX8_goesOn_57 rfl (by decide) hp
theorem g_X8_behindOne_0 {G : GG} {d : Nat} {m : MM} {k : Int → MM → Prop} 
    (hp : bEQ (m 304 11) 43 (N G (d + 1) mi_X8_behindOne 17 [some (vr 304), some (vi (m 304 11))] [] m (RI k)) (bEQ (m 304 11) 45 (N G (d + 1) mi_X8_behindOne 17 [some (vr 304), some (vi (m 304 11))] [] m (RI k)) (bEQ (m 304 11) 42 (N G (d + 1) mi_X8_behindOne 57 [some (vr 304), some (vi (m 304 11))] [] m (RI k)) (bEQ (m 304 11) 47 (N G (d + 1) mi_X8_behindOne 57 [some (vr 304), some (vi (m 304 11))] [] m (RI k)) (N G d mi_X8_settle 0 [some (vr 304), some (vi 3)] [] m (RV fun m2 => ∀ m3 : MM, m3 = upm m2 304 19 ((m2 304 19) - 1) → (∀ m4 : MM, m4 = upm m3 304 20 ((m3 304 20) - 1) → (N G d mi_X8_whole 0 [some (vr 304)] [] m4 (RV fun m6 => N G (d + 1) mi_X8_behindOne 115 [some (vr 304), none] [] m6 (RI k)))))))))) :
    N G (d + 1) mi_X8_behindOne 0 [some (vr 304), none] [] m (RI k) := by
  refine v_aload_n dX8_behindOne_0 rfl rfl ?_
  refine n_geti dX8_behindOne_1 fo_X8_97 sh_304 rfl ?_
  refine v_istore_n dX8_behindOne_4 rfl (by decide) ?_
  refine v_iload_n dX8_behindOne_5 rfl rfl ?_
  refine v_bipush dX8_behindOne_6 rfl ?_
  obtain ⟨⟨r1, r2⟩, hA, hB⟩ := hp
  refine v_icmp_eq (tgt := 17) dX8_behindOne_8 (by decide) r1 r2 (fun q => ?_) (fun q => ?_)
  · have hp := hA q
    exact hp
  · have hp := hB q
    refine v_iload_n dX8_behindOne_11 rfl rfl ?_
    refine v_bipush dX8_behindOne_12 rfl ?_
    obtain ⟨⟨r1, r2⟩, hA, hB⟩ := hp
    refine v_icmp_ne (tgt := 45) dX8_behindOne_14 (by decide) r1 r2 (fun q => ?_) (fun q => ?_)
    · have hp := hB q
      refine v_iload_n dX8_behindOne_45 rfl rfl ?_
      refine v_bipush dX8_behindOne_46 rfl ?_
      obtain ⟨⟨r1, r2⟩, hA, hB⟩ := hp
      refine v_icmp_eq (tgt := 57) dX8_behindOne_48 (by decide) r1 r2 (fun q => ?_) (fun q => ?_)
      · have hp := hA q
        exact hp
      · have hp := hB q
        refine v_iload_n dX8_behindOne_51 rfl rfl ?_
        refine v_bipush dX8_behindOne_52 rfl ?_
        obtain ⟨⟨r1, r2⟩, hA, hB⟩ := hp
        refine v_icmp_ne (tgt := 86) dX8_behindOne_54 (by decide) r1 r2 (fun q => ?_) (fun q => ?_)
        · have hp := hB q
          refine v_aload_n dX8_behindOne_86 rfl rfl ?_
          refine v_iconst dX8_behindOne_87 ?_
          refine n_callVV (As := [vi 3]) (st := []) dX8_behindOne_88 ml_X8_174 mo_X8_settle mv_X8_settle sh_304 rfl rfl rfl rfl (Nat.le_of_ble_eq_true rfl) (Nat.le_of_ble_eq_true rfl) (by decide) hp (fun m2 hp => ?_)
          refine v_aload_n dX8_behindOne_91 rfl rfl ?_
          refine v_dupr dX8_behindOne_92 ?_
          refine n_geti dX8_behindOne_93 fo_X8_129 sh_304 rfl ?_
          refine v_iconst dX8_behindOne_96 ?_
          refine v_isub dX8_behindOne_97 ?_
          refine w_puti dX8_behindOne_98 fw_X8_129 sh_304 rfl (fun m3 em3 => ?_)
          have hp := hp m3 em3
          refine v_aload_n dX8_behindOne_101 rfl rfl ?_
          refine v_dupr dX8_behindOne_102 ?_
          refine n_geti dX8_behindOne_103 fo_X8_136 sh_304 rfl ?_
          refine v_iconst dX8_behindOne_106 ?_
          refine v_isub dX8_behindOne_107 ?_
          refine w_puti dX8_behindOne_108 fw_X8_136 sh_304 rfl (fun m4 em4 => ?_)
          have hp := hp m4 em4
          refine v_aload_n dX8_behindOne_111 rfl rfl ?_
          refine n_callVV (As := []) (st := []) dX8_behindOne_112 ml_X8_157 mo_X8_whole mv_X8_whole sh_304 rfl rfl rfl rfl (Nat.le_of_ble_eq_true rfl) (Nat.le_of_ble_eq_true rfl) (by decide) hp (fun m6 hp => ?_)
          exact n_weak (wk_s (wk_n wk_nil)) hp
        · have hp := hA q
          exact hp
    · have hp := hA q
      exact hp
theorem g_X8_behindOne_17 {G : GG} {d : Nat} {m : MM} {k : Int → MM → Prop} (x1 : Int)
    (hp : N G d mi_X8_settle 0 [some (vr 304), some (vi 3)] [] m (RV fun m2 => bEQ x1 43 (N G (d + 1) mi_X8_behindOne 34 [some (vr 304), none] [vi 3, vr 304] m2 (RI k)) (N G (d + 1) mi_X8_behindOne 34 [some (vr 304), none] [vi 4, vr 304] m2 (RI k)))) :
    N G (d + 1) mi_X8_behindOne 17 [some (vr 304), some (vi x1)] [] m (RI k) := by
  refine v_aload_n dX8_behindOne_17 rfl rfl ?_
  refine v_iconst dX8_behindOne_18 ?_
  refine n_callVV (As := [vi 3]) (st := []) dX8_behindOne_19 ml_X8_174 mo_X8_settle mv_X8_settle sh_304 rfl rfl rfl rfl (Nat.le_of_ble_eq_true rfl) (Nat.le_of_ble_eq_true rfl) (by decide) hp (fun m2 hp => ?_)
  refine v_aload_n dX8_behindOne_22 rfl rfl ?_
  refine v_iload_n dX8_behindOne_23 rfl rfl ?_
  refine v_bipush dX8_behindOne_24 rfl ?_
  obtain ⟨⟨r1, r2⟩, hA, hB⟩ := hp
  refine v_icmp_ne (tgt := 33) dX8_behindOne_26 (by decide) r1 r2 (fun q => ?_) (fun q => ?_)
  · have hp := hB q
    refine v_iconst dX8_behindOne_33 ?_
    exact n_weak (wk_s (wk_n wk_nil)) hp
  · have hp := hA q
    refine v_iconst dX8_behindOne_29 ?_
    refine v_goto (tgt := 34) dX8_behindOne_30 (by decide) ?_
    exact n_weak (wk_s (wk_n wk_nil)) hp
theorem g_X8_behindOne_34 {G : GG} {d : Nat} {m : MM} {k : Int → MM → Prop} (s0 : Int)
    (hp : N G d mi_X8_push 0 [some (vr 304), some (vi s0)] [] m (RV fun m2 => ∀ m3 : MM, m3 = upm m2 304 21 0 → (N G (d + 1) mi_X8_behindOne 115 [some (vr 304), none] [] m3 (RI k)))) :
    N G (d + 1) mi_X8_behindOne 34 [some (vr 304), none] [vi s0, vr 304] m (RI k) := by
  refine n_callVV (As := [vi s0]) (st := []) dX8_behindOne_34 ml_X8_167 mo_X8_push mv_X8_push sh_304 rfl rfl rfl rfl (Nat.le_of_ble_eq_true rfl) (Nat.le_of_ble_eq_true rfl) (by decide) hp (fun m2 hp => ?_)
  refine v_aload_n dX8_behindOne_37 rfl rfl ?_
  refine v_iconst dX8_behindOne_38 ?_
  refine w_putz dX8_behindOne_39 fw_X8_132 sh_304 rfl (by decide) (fun m3 em3 => ?_)
  have hp := hp m3 em3
  refine v_goto (tgt := 115) dX8_behindOne_42 (by decide) ?_
  exact hp
theorem g_X8_behindOne_57 {G : GG} {d : Nat} {m : MM} {k : Int → MM → Prop} (x1 : Int)
    (hp : N G d mi_X8_settle 0 [some (vr 304), some (vi 5)] [] m (RV fun m2 => bEQ x1 42 (N G (d + 1) mi_X8_behindOne 75 [some (vr 304), none] [vi 5, vr 304] m2 (RI k)) (N G (d + 1) mi_X8_behindOne 75 [some (vr 304), none] [vi 6, vr 304] m2 (RI k)))) :
    N G (d + 1) mi_X8_behindOne 57 [some (vr 304), some (vi x1)] [] m (RI k) := by
  refine v_aload_n dX8_behindOne_57 rfl rfl ?_
  refine v_iconst dX8_behindOne_58 ?_
  refine n_callVV (As := [vi 5]) (st := []) dX8_behindOne_59 ml_X8_174 mo_X8_settle mv_X8_settle sh_304 rfl rfl rfl rfl (Nat.le_of_ble_eq_true rfl) (Nat.le_of_ble_eq_true rfl) (by decide) hp (fun m2 hp => ?_)
  refine v_aload_n dX8_behindOne_62 rfl rfl ?_
  refine v_iload_n dX8_behindOne_63 rfl rfl ?_
  refine v_bipush dX8_behindOne_64 rfl ?_
  obtain ⟨⟨r1, r2⟩, hA, hB⟩ := hp
  refine v_icmp_ne (tgt := 73) dX8_behindOne_66 (by decide) r1 r2 (fun q => ?_) (fun q => ?_)
  · have hp := hB q
    refine v_bipush dX8_behindOne_73 rfl ?_
    exact n_weak (wk_s (wk_n wk_nil)) hp
  · have hp := hA q
    refine v_iconst dX8_behindOne_69 ?_
    refine v_goto (tgt := 75) dX8_behindOne_70 (by decide) ?_
    exact n_weak (wk_s (wk_n wk_nil)) hp
theorem g_X8_behindOne_75 {G : GG} {d : Nat} {m : MM} {k : Int → MM → Prop} (s0 : Int)
    (hp : N G d mi_X8_push 0 [some (vr 304), some (vi s0)] [] m (RV fun m2 => ∀ m3 : MM, m3 = upm m2 304 21 0 → (N G (d + 1) mi_X8_behindOne 115 [some (vr 304), none] [] m3 (RI k)))) :
    N G (d + 1) mi_X8_behindOne 75 [some (vr 304), none] [vi s0, vr 304] m (RI k) := by
  refine n_callVV (As := [vi s0]) (st := []) dX8_behindOne_75 ml_X8_167 mo_X8_push mv_X8_push sh_304 rfl rfl rfl rfl (Nat.le_of_ble_eq_true rfl) (Nat.le_of_ble_eq_true rfl) (by decide) hp (fun m2 hp => ?_)
  refine v_aload_n dX8_behindOne_78 rfl rfl ?_
  refine v_iconst dX8_behindOne_79 ?_
  refine w_putz dX8_behindOne_80 fw_X8_132 sh_304 rfl (by decide) (fun m3 em3 => ?_)
  have hp := hp m3 em3
  refine v_goto (tgt := 115) dX8_behindOne_83 (by decide) ?_
  exact hp
theorem g_X8_behindOne_115 {G : GG} {d : Nat} {m : MM} {k : Int → MM → Prop} 
    (hp : N G d mi_X8_nextToken 0 [some (vr 304), none, none] [] m (RV fun m2 => k 0 m2)) :
    N G (d + 1) mi_X8_behindOne 115 [some (vr 304), none] [] m (RI k) := by
  refine v_aload_n dX8_behindOne_115 rfl rfl ?_
  refine n_callVV (As := []) (st := []) dX8_behindOne_116 ml_X8_154 mo_X8_nextToken mv_X8_nextToken sh_304 rfl rfl rfl rfl (Nat.le_of_ble_eq_true rfl) (Nat.le_of_ble_eq_true rfl) (by decide) hp (fun m2 hp => ?_)
  refine v_iconst dX8_behindOne_119 ?_
  exact n_retI dX8_behindOne_120 rfl hp
theorem g_X8_summed_0 {G : GG} {d : Nat} {m : MM} {k : Int → MM → Prop} 
    (hp : ∀ m1 : MM, m1 = upm m 304 19 0 → (∀ m2 : MM, m2 = upm m1 304 21 0 → (N G (d + 1) mi_X8_summed 10 [some (vr 304), none] [] m2 (RI k)))) :
    N G (d + 1) mi_X8_summed 0 [some (vr 304), none] [] m (RI k) := by
  refine v_aload_n dX8_summed_0 rfl rfl ?_
  refine v_iconst dX8_summed_1 ?_
  refine w_puti dX8_summed_2 fw_X8_129 sh_304 rfl (fun m1 em1 => ?_)
  have hp := hp m1 em1
  refine v_aload_n dX8_summed_5 rfl rfl ?_
  refine v_iconst dX8_summed_6 ?_
  refine w_putz dX8_summed_7 fw_X8_132 sh_304 rfl (by decide) (fun m2 em2 => ?_)
  have hp := hp m2 em2
  exact hp
theorem g_X8_summed_10 {G : GG} {d : Nat} {m : MM} {k : Int → MM → Prop} 
    (hp : bEQ (m 304 21) 0 (N G (d + 1) mi_X8_summed 24 [some (vr 304), none] [] m (RI k)) (N G d mi_X8_goesOn 0 [some (vr 304)] [] m (RI fun z1 m2 => bEQ z1 0 (N G d mi_X8_settle 0 [some (vr 304), some (vi 3)] [] m2 (RV fun m4 => bLE (m4 304 19) 0 (k 0 m4) (k 1 m4))) (N G (d + 1) mi_X8_summed 24 [some (vr 304), none] [] m2 (RI k))))) :
    N G (d + 1) mi_X8_summed 10 [some (vr 304), none] [] m (RI k) := by
  refine v_aload_n dX8_summed_10 rfl rfl ?_
  refine n_geti dX8_summed_11 fo_X8_132 sh_304 rfl ?_
  obtain ⟨⟨r1, r2⟩, hA, hB⟩ := hp
  refine v_if_eq (tgt := 24) dX8_summed_14 (by decide) r1 (fun q => ?_) (fun q => ?_)
  · have hp := hA q
    exact hp
  · have hp := hB q
    refine v_aload_n dX8_summed_17 rfl rfl ?_
    refine n_callVI (As := []) (st := []) dX8_summed_18 ml_X8_177 mo_X8_goesOn mv_X8_goesOn sh_304 rfl rfl rfl rfl (Nat.le_of_ble_eq_true rfl) (Nat.le_of_ble_eq_true rfl) (by decide) hp (fun z1 m2 hp => ?_)
    obtain ⟨⟨r1, r2⟩, hA, hB⟩ := hp
    refine v_if_eq (tgt := 52) dX8_summed_21 (by decide) r1 (fun q => ?_) (fun q => ?_)
    · have hp := hA q
      refine v_aload_n dX8_summed_52 rfl rfl ?_
      refine v_iconst dX8_summed_53 ?_
      refine n_callVV (As := [vi 3]) (st := []) dX8_summed_54 ml_X8_174 mo_X8_settle mv_X8_settle sh_304 rfl rfl rfl rfl (Nat.le_of_ble_eq_true rfl) (Nat.le_of_ble_eq_true rfl) (by decide) hp (fun m4 hp => ?_)
      refine v_aload_n dX8_summed_57 rfl rfl ?_
      refine n_geti dX8_summed_58 fo_X8_129 sh_304 rfl ?_
      obtain ⟨⟨r1, r2⟩, hA, hB⟩ := hp
      refine v_if_le (tgt := 68) dX8_summed_61 (by decide) r1 (fun q => ?_) (fun q => ?_)
      · have hp := hA q
        refine v_iconst dX8_summed_68 ?_
        exact n_retI dX8_summed_69 rfl hp
      · have hp := hB q
        refine v_iconst dX8_summed_64 ?_
        refine v_goto (tgt := 69) dX8_summed_65 (by decide) ?_
        exact n_retI dX8_summed_69 rfl hp
    · have hp := hB q
      exact hp
theorem g_X8_summed_24 {G : GG} {d : Nat} {m : MM} {k : Int → MM → Prop} 
    (hp : bEQ (m 304 21) 0 (N G d mi_X8_beginOne 0 [some (vr 304), none] [] m (RI fun z1 m2 => bEQ z1 0 (N G (d + 1) mi_X8_summed 10 [some (vr 304), none] [] m2 (RI k)) (k z1 m2))) (N G d mi_X8_behindOne 0 [some (vr 304), none] [] m (RI fun z3 m4 => bEQ z3 0 (N G (d + 1) mi_X8_summed 10 [some (vr 304), none] [] m4 (RI k)) (k z3 m4)))) :
    N G (d + 1) mi_X8_summed 24 [some (vr 304), none] [] m (RI k) := by
  refine v_aload_n dX8_summed_24 rfl rfl ?_
  refine n_geti dX8_summed_25 fo_X8_132 sh_304 rfl ?_
  obtain ⟨⟨r1, r2⟩, hA, hB⟩ := hp
  refine v_if_eq (tgt := 38) dX8_summed_28 (by decide) r1 (fun q => ?_) (fun q => ?_)
  · have hp := hA q
    refine v_aload_n dX8_summed_38 rfl rfl ?_
    refine n_callVI (As := []) (st := []) dX8_summed_39 ml_X8_183 mo_X8_beginOne mv_X8_beginOne sh_304 rfl rfl rfl rfl (Nat.le_of_ble_eq_true rfl) (Nat.le_of_ble_eq_true rfl) (by decide) hp (fun z1 m2 hp => ?_)
    refine v_istore_n dX8_summed_42 rfl (by decide) ?_
    refine v_iload_n dX8_summed_43 rfl rfl ?_
    obtain ⟨⟨r1, r2⟩, hA, hB⟩ := hp
    refine v_if_eq (tgt := 49) dX8_summed_44 (by decide) r1 (fun q => ?_) (fun q => ?_)
    · have hp := hA q
      refine v_goto (tgt := 10) dX8_summed_49 (by decide) ?_
      exact n_weak (wk_s (wk_n wk_nil)) hp
    · have hp := hB q
      refine v_iload_n dX8_summed_47 rfl rfl ?_
      exact n_retI dX8_summed_48 rfl hp
  · have hp := hB q
    refine v_aload_n dX8_summed_31 rfl rfl ?_
    refine n_callVI (As := []) (st := []) dX8_summed_32 ml_X8_180 mo_X8_behindOne mv_X8_behindOne sh_304 rfl rfl rfl rfl (Nat.le_of_ble_eq_true rfl) (Nat.le_of_ble_eq_true rfl) (by decide) hp (fun z3 m4 hp => ?_)
    refine v_goto (tgt := 42) dX8_summed_35 (by decide) ?_
    refine v_istore_n dX8_summed_42 rfl (by decide) ?_
    refine v_iload_n dX8_summed_43 rfl rfl ?_
    obtain ⟨⟨r1, r2⟩, hA, hB⟩ := hp
    refine v_if_eq (tgt := 49) dX8_summed_44 (by decide) r1 (fun q => ?_) (fun q => ?_)
    · have hp := hA q
      refine v_goto (tgt := 10) dX8_summed_49 (by decide) ?_
      exact n_weak (wk_s (wk_n wk_nil)) hp
    · have hp := hB q
      refine v_iload_n dX8_summed_47 rfl rfl ?_
      exact n_retI dX8_summed_48 rfl hp
theorem g_X8_compareOf_0 {G : GG} {d : Nat} {m : MM} {k : Int → MM → Prop} 
    (hp : bEQ (m 304 11) 60 (k 10 m) (bEQ (m 304 11) 4 (k 11 m) (bEQ (m 304 11) 62 (k 12 m) (bEQ (m 304 11) 5 (k 13 m) (bEQ (m 304 11) 61 (k 14 m) (bEQ (m 304 11) 35 (k 15 m) (k (-1) m))))))) :
    N G d mi_X8_compareOf 0 [some (vr 304)] [] m (RI k) := by
  refine v_aload_n dX8_compareOf_0 rfl rfl ?_
  refine n_geti dX8_compareOf_1 fo_X8_97 sh_304 rfl ?_
  refine v_bipush dX8_compareOf_4 rfl ?_
  obtain ⟨⟨r1, r2⟩, hA, hB⟩ := hp
  refine v_icmp_ne (tgt := 14) dX8_compareOf_6 (by decide) r1 r2 (fun q => ?_) (fun q => ?_)
  · have hp := hB q
    refine v_aload_n dX8_compareOf_14 rfl rfl ?_
    refine n_geti dX8_compareOf_15 fo_X8_97 sh_304 rfl ?_
    refine v_iconst dX8_compareOf_18 ?_
    obtain ⟨⟨r1, r2⟩, hA, hB⟩ := hp
    refine v_icmp_ne (tgt := 27) dX8_compareOf_19 (by decide) r1 r2 (fun q => ?_) (fun q => ?_)
    · have hp := hB q
      refine v_aload_n dX8_compareOf_27 rfl rfl ?_
      refine n_geti dX8_compareOf_28 fo_X8_97 sh_304 rfl ?_
      refine v_bipush dX8_compareOf_31 rfl ?_
      obtain ⟨⟨r1, r2⟩, hA, hB⟩ := hp
      refine v_icmp_ne (tgt := 41) dX8_compareOf_33 (by decide) r1 r2 (fun q => ?_) (fun q => ?_)
      · have hp := hB q
        refine v_aload_n dX8_compareOf_41 rfl rfl ?_
        refine n_geti dX8_compareOf_42 fo_X8_97 sh_304 rfl ?_
        refine v_iconst dX8_compareOf_45 ?_
        obtain ⟨⟨r1, r2⟩, hA, hB⟩ := hp
        refine v_icmp_ne (tgt := 54) dX8_compareOf_46 (by decide) r1 r2 (fun q => ?_) (fun q => ?_)
        · have hp := hB q
          refine v_aload_n dX8_compareOf_54 rfl rfl ?_
          refine n_geti dX8_compareOf_55 fo_X8_97 sh_304 rfl ?_
          refine v_bipush dX8_compareOf_58 rfl ?_
          obtain ⟨⟨r1, r2⟩, hA, hB⟩ := hp
          refine v_icmp_ne (tgt := 68) dX8_compareOf_60 (by decide) r1 r2 (fun q => ?_) (fun q => ?_)
          · have hp := hB q
            refine v_aload_n dX8_compareOf_68 rfl rfl ?_
            refine n_geti dX8_compareOf_69 fo_X8_97 sh_304 rfl ?_
            refine v_bipush dX8_compareOf_72 rfl ?_
            obtain ⟨⟨r1, r2⟩, hA, hB⟩ := hp
            refine v_icmp_ne (tgt := 82) dX8_compareOf_74 (by decide) r1 r2 (fun q => ?_) (fun q => ?_)
            · have hp := hB q
              refine v_iconst dX8_compareOf_82 ?_
              exact n_retI dX8_compareOf_83 rfl hp
            · have hp := hA q
              refine v_bipush dX8_compareOf_77 rfl ?_
              refine v_goto (tgt := 83) dX8_compareOf_79 (by decide) ?_
              exact n_retI dX8_compareOf_83 rfl hp
          · have hp := hA q
            refine v_bipush dX8_compareOf_63 rfl ?_
            refine v_goto (tgt := 83) dX8_compareOf_65 (by decide) ?_
            exact n_retI dX8_compareOf_83 rfl hp
        · have hp := hA q
          refine v_bipush dX8_compareOf_49 rfl ?_
          refine v_goto (tgt := 83) dX8_compareOf_51 (by decide) ?_
          exact n_retI dX8_compareOf_83 rfl hp
      · have hp := hA q
        refine v_bipush dX8_compareOf_36 rfl ?_
        refine v_goto (tgt := 83) dX8_compareOf_38 (by decide) ?_
        exact n_retI dX8_compareOf_83 rfl hp
    · have hp := hA q
      refine v_bipush dX8_compareOf_22 rfl ?_
      refine v_goto (tgt := 83) dX8_compareOf_24 (by decide) ?_
      exact n_retI dX8_compareOf_83 rfl hp
  · have hp := hA q
    refine v_bipush dX8_compareOf_9 rfl ?_
    refine v_goto (tgt := 83) dX8_compareOf_11 (by decide) ?_
    exact n_retI dX8_compareOf_83 rfl hp
theorem g_X8_asks_0 {G : GG} {d : Nat} {m : MM} {k : Int → MM → Prop} 
    (hp : N G (d + 1) mi_X8_asks 2 [some (vr 304), some (vi 0), none, none, none] [] m (RI k)) :
    N G (d + 1) mi_X8_asks 0 [some (vr 304), none, none, none, none] [] m (RI k) := by
  refine v_iconst dX8_asks_0 ?_
  refine v_istore_n dX8_asks_1 rfl (by decide) ?_
  exact hp
theorem g_X8_asks_2 {G : GG} {d : Nat} {m : MM} {k : Int → MM → Prop} (x1 : Int)
    (hp : N G d mi_X8_w3 0 [some (vi 110), some (vi 111), some (vi 116)] [] m (RJG fun z1 m2 => N G d mi_X8_isWord 0 [some (vr 304), some (vl z1), none] [] m2 (RI fun z3 m4 => bEQ z3 0 (N G d mi_X8_summed 0 [some (vr 304), none] [] m4 (RI fun z5 m6 => bEQ z5 0 (N G d mi_X8_compareOf 0 [some (vr 304)] [] m6 (RI fun z7 m8 => bLE 0 z7 (N G d mi_X8_nextToken 0 [some (vr 304), none, none] [] m8 (RV fun m10 => N G d mi_X8_summed 0 [some (vr 304), none] [] m10 (RI fun z11 m12 => bEQ z11 0 (N G d mi_X8_emit 0 [some (vr 304), some (vi z7), some (vi 0)] [] m12 (RV fun m14 => ∀ m15 : MM, m15 = upm m14 304 20 ((m14 304 20) - x1) → (N G (d + 1) mi_X8_asks 105 [some (vr 304), some (vi x1), none, none, some (vi 0)] [] m15 (RI k)))) (k z11 m12)))) (k 1 m8))) (k z5 m6))) (bEQ (m4 304 20) 8 (k 3 m4) (∀ m16 : MM, m16 = upm m4 304 20 ((m4 304 20) + 1) → (N G d mi_X8_nextToken 0 [some (vr 304), none, none] [] m16 (RV fun m18 => N G (d + 1) mi_X8_asks 2 [some (vr 304), some (vi (x1 + 1)), none, none, none] [] m18 (RI k)))))))) :
    N G (d + 1) mi_X8_asks 2 [some (vr 304), some (vi x1), none, none, none] [] m (RI k) := by
  refine v_aload_n dX8_asks_2 rfl rfl ?_
  refine v_bipush dX8_asks_3 rfl ?_
  refine v_bipush dX8_asks_5 rfl ?_
  refine v_bipush dX8_asks_7 rfl ?_
  refine n_callSL (As := [vi 110, vi 111, vi 116]) (st := [vr 304]) dX8_asks_9 ml_X8_115 mo_X8_w3 ms_X8_w3 rfl rfl (Nat.le_of_ble_eq_true rfl) (Nat.le_of_ble_eq_true rfl) (by decide) hp (fun z1 m2 hp => ?_)
  refine n_callVI (As := [vl z1]) (st := []) dX8_asks_12 ml_X8_186 mo_X8_isWord mv_X8_isWord sh_304 rfl rfl rfl rfl (Nat.le_of_ble_eq_true rfl) (Nat.le_of_ble_eq_true rfl) (by decide) hp (fun z3 m4 hp => ?_)
  obtain ⟨⟨r1, r2⟩, hA, hB⟩ := hp
  refine v_if_eq (tgt := 49) dX8_asks_15 (by decide) r1 (fun q => ?_) (fun q => ?_)
  · have hp := hA q
    refine v_aload_n dX8_asks_49 rfl rfl ?_
    refine n_callVI (As := []) (st := []) dX8_asks_50 ml_X8_190 mo_X8_summed mv_X8_summed sh_304 rfl rfl rfl rfl (Nat.le_of_ble_eq_true rfl) (Nat.le_of_ble_eq_true rfl) (by decide) hp (fun z5 m6 hp => ?_)
    refine v_istore_n dX8_asks_53 rfl (by decide) ?_
    refine v_iload_n dX8_asks_54 rfl rfl ?_
    obtain ⟨⟨r1, r2⟩, hA, hB⟩ := hp
    refine v_if_eq (tgt := 60) dX8_asks_55 (by decide) r1 (fun q => ?_) (fun q => ?_)
    · have hp := hA q
      refine v_aload_n dX8_asks_60 rfl rfl ?_
      refine n_callVI (As := []) (st := []) dX8_asks_61 ml_X8_193 mo_X8_compareOf mv_X8_compareOf sh_304 rfl rfl rfl rfl (Nat.le_of_ble_eq_true rfl) (Nat.le_of_ble_eq_true rfl) (by decide) hp (fun z7 m8 hp => ?_)
      refine v_istore_n dX8_asks_64 rfl (by decide) ?_
      refine v_iload_n dX8_asks_65 rfl rfl ?_
      obtain ⟨⟨r1, r2⟩, hA, hB⟩ := hp
      refine v_if_ge (tgt := 71) dX8_asks_66 (by decide) r2 (fun q => ?_) (fun q => ?_)
      · have hp := hA q
        refine v_aload_n dX8_asks_71 rfl rfl ?_
        refine n_callVV (As := []) (st := []) dX8_asks_72 ml_X8_154 mo_X8_nextToken mv_X8_nextToken sh_304 rfl rfl rfl rfl (Nat.le_of_ble_eq_true rfl) (Nat.le_of_ble_eq_true rfl) (by decide) hp (fun m10 hp => ?_)
        refine v_aload_n dX8_asks_75 rfl rfl ?_
        refine n_callVI (As := []) (st := []) dX8_asks_76 ml_X8_190 mo_X8_summed mv_X8_summed sh_304 rfl rfl rfl rfl (Nat.le_of_ble_eq_true rfl) (Nat.le_of_ble_eq_true rfl) (by decide) hp (fun z11 m12 hp => ?_)
        refine v_istore_n dX8_asks_79 rfl (by decide) ?_
        refine v_iload_n dX8_asks_80 rfl rfl ?_
        obtain ⟨⟨r1, r2⟩, hA, hB⟩ := hp
        refine v_if_eq (tgt := 86) dX8_asks_81 (by decide) r1 (fun q => ?_) (fun q => ?_)
        · have hp := hA q
          refine v_aload_n dX8_asks_86 rfl rfl ?_
          refine v_iload_n dX8_asks_87 rfl rfl ?_
          refine v_iconst dX8_asks_88 ?_
          refine n_callVV (As := [vi z7, vi 0]) (st := []) dX8_asks_89 ml_X8_139 mo_X8_emit mv_X8_emit sh_304 rfl rfl rfl rfl (Nat.le_of_ble_eq_true rfl) (Nat.le_of_ble_eq_true rfl) (by decide) hp (fun m14 hp => ?_)
          refine v_aload_n dX8_asks_92 rfl rfl ?_
          refine v_dupr dX8_asks_93 ?_
          refine n_geti dX8_asks_94 fo_X8_136 sh_304 rfl ?_
          refine v_iload_n dX8_asks_97 rfl rfl ?_
          refine v_isub dX8_asks_98 ?_
          refine w_puti dX8_asks_99 fw_X8_136 sh_304 rfl (fun m15 em15 => ?_)
          have hp := hp m15 em15
          refine v_iconst dX8_asks_102 ?_
          refine v_istore dX8_asks_103 (by decide) ?_
          exact n_weak (wk_s (wk_s (wk_n (wk_n (wk_s wk_nil))))) hp
        · have hp := hB q
          refine v_iload_n dX8_asks_84 rfl rfl ?_
          exact n_retI dX8_asks_85 rfl hp
      · have hp := hB q
        refine v_iconst dX8_asks_69 ?_
        exact n_retI dX8_asks_70 rfl hp
    · have hp := hB q
      refine v_iload_n dX8_asks_58 rfl rfl ?_
      exact n_retI dX8_asks_59 rfl hp
  · have hp := hB q
    refine v_aload_n dX8_asks_18 rfl rfl ?_
    refine n_geti dX8_asks_19 fo_X8_136 sh_304 rfl ?_
    refine v_bipush dX8_asks_22 rfl ?_
    obtain ⟨⟨r1, r2⟩, hA, hB⟩ := hp
    refine v_icmp_ne (tgt := 29) dX8_asks_24 (by decide) r1 r2 (fun q => ?_) (fun q => ?_)
    · have hp := hB q
      refine v_aload_n dX8_asks_29 rfl rfl ?_
      refine v_dupr dX8_asks_30 ?_
      refine n_geti dX8_asks_31 fo_X8_136 sh_304 rfl ?_
      refine v_iconst dX8_asks_34 ?_
      refine v_iadd dX8_asks_35 ?_
      refine w_puti dX8_asks_36 fw_X8_136 sh_304 rfl (fun m16 em16 => ?_)
      have hp := hp m16 em16
      refine v_iinc dX8_asks_39 rfl (by decide) ?_
      refine v_aload_n dX8_asks_42 rfl rfl ?_
      refine n_callVV (As := []) (st := []) dX8_asks_43 ml_X8_154 mo_X8_nextToken mv_X8_nextToken sh_304 rfl rfl rfl rfl (Nat.le_of_ble_eq_true rfl) (Nat.le_of_ble_eq_true rfl) (by decide) hp (fun m18 hp => ?_)
      refine v_goto (tgt := 2) dX8_asks_46 (by decide) ?_
      exact hp
    · have hp := hA q
      refine v_iconst dX8_asks_27 ?_
      exact n_retI dX8_asks_28 rfl hp
theorem g_X8_asks_105 {G : GG} {d : Nat} {m : MM} {k : Int → MM → Prop} (x1 : Int) (x4 : Int)
    (hp : bLE x1 x4 (k 0 m) (N G d mi_X8_emit 0 [some (vr 304), some (vi 20), some (vi 0)] [] m (RV fun m2 => N G (d + 1) mi_X8_asks 105 [some (vr 304), some (vi x1), none, none, some (vi (x4 + 1))] [] m2 (RI k)))) :
    N G (d + 1) mi_X8_asks 105 [some (vr 304), some (vi x1), none, none, some (vi x4)] [] m (RI k) := by
  refine v_iload dX8_asks_105 rfl ?_
  refine v_iload_n dX8_asks_107 rfl rfl ?_
  obtain ⟨⟨r1, r2⟩, hA, hB⟩ := hp
  refine v_icmp_ge (tgt := 124) dX8_asks_108 (by decide) r2 r1 (fun q => ?_) (fun q => ?_)
  · have hp := hA q
    refine v_iconst dX8_asks_124 ?_
    exact n_retI dX8_asks_125 rfl hp
  · have hp := hB q
    refine v_aload_n dX8_asks_111 rfl rfl ?_
    refine v_bipush dX8_asks_112 rfl ?_
    refine v_iconst dX8_asks_114 ?_
    refine n_callVV (As := [vi 20, vi 0]) (st := []) dX8_asks_115 ml_X8_139 mo_X8_emit mv_X8_emit sh_304 rfl rfl rfl rfl (Nat.le_of_ble_eq_true rfl) (Nat.le_of_ble_eq_true rfl) (by decide) hp (fun m2 hp => ?_)
    refine v_iinc dX8_asks_118 rfl (by decide) ?_
    refine v_goto (tgt := 105) dX8_asks_121 (by decide) ?_
    exact hp
theorem g_X8_either_0 {G : GG} {d : Nat} {m : MM} {k : Int → MM → Prop} 
    (hp : N G (d + 1) mi_X8_either 6 [some (vr 304), some (vi 0), some (vi 0), some (vi 1), none, none] [] m (RI k)) :
    N G (d + 1) mi_X8_either 0 [some (vr 304), none, none, none, none, none] [] m (RI k) := by
  refine v_iconst dX8_either_0 ?_
  refine v_istore_n dX8_either_1 rfl (by decide) ?_
  refine v_iconst dX8_either_2 ?_
  refine v_istore_n dX8_either_3 rfl (by decide) ?_
  refine v_iconst dX8_either_4 ?_
  refine v_istore_n dX8_either_5 rfl (by decide) ?_
  exact hp
theorem g_X8_either_6 {G : GG} {d : Nat} {m : MM} {k : Int → MM → Prop} (x1 : Int) (x2 : Int) (x3 : Int)
    (hp : bEQ x3 0 (k 0 m) (N G d mi_X8_asks 0 [some (vr 304), none, none, none, none] [] m (RI fun z1 m2 => bEQ z1 0 (bEQ x1 0 (N G (d + 1) mi_X8_either 35 [some (vr 304), none, some (vi x2), none, none, none] [] m2 (RI k)) (N G d mi_X8_emit 0 [some (vr 304), some (vi 21), some (vi 0)] [] m2 (RV fun m4 => N G (d + 1) mi_X8_either 35 [some (vr 304), none, some (vi x2), none, none, none] [] m4 (RI k)))) (k z1 m2)))) :
    N G (d + 1) mi_X8_either 6 [some (vr 304), some (vi x1), some (vi x2), some (vi x3), none, none] [] m (RI k) := by
  refine v_iload_n dX8_either_6 rfl rfl ?_
  obtain ⟨⟨r1, r2⟩, hA, hB⟩ := hp
  refine v_if_eq (tgt := 119) dX8_either_7 (by decide) r1 (fun q => ?_) (fun q => ?_)
  · have hp := hA q
    refine v_iconst dX8_either_119 ?_
    exact n_retI dX8_either_120 rfl hp
  · have hp := hB q
    refine v_aload_n dX8_either_10 rfl rfl ?_
    refine n_callVI (As := []) (st := []) dX8_either_11 ml_X8_196 mo_X8_asks mv_X8_asks sh_304 rfl rfl rfl rfl (Nat.le_of_ble_eq_true rfl) (Nat.le_of_ble_eq_true rfl) (by decide) hp (fun z1 m2 hp => ?_)
    refine v_istore dX8_either_14 (by decide) ?_
    refine v_iload dX8_either_16 rfl ?_
    obtain ⟨⟨r1, r2⟩, hA, hB⟩ := hp
    refine v_if_eq (tgt := 24) dX8_either_18 (by decide) r1 (fun q => ?_) (fun q => ?_)
    · have hp := hA q
      refine v_iload_n dX8_either_24 rfl rfl ?_
      obtain ⟨⟨r1, r2⟩, hA, hB⟩ := hp
      refine v_if_eq (tgt := 35) dX8_either_25 (by decide) r1 (fun q => ?_) (fun q => ?_)
      · have hp := hA q
        exact n_weak (wk_s (wk_n (wk_s (wk_n (wk_n (wk_s wk_nil)))))) hp
      · have hp := hB q
        refine v_aload_n dX8_either_28 rfl rfl ?_
        refine v_bipush dX8_either_29 rfl ?_
        refine v_iconst dX8_either_31 ?_
        refine n_callVV (As := [vi 21, vi 0]) (st := []) dX8_either_32 ml_X8_139 mo_X8_emit mv_X8_emit sh_304 rfl rfl rfl rfl (Nat.le_of_ble_eq_true rfl) (Nat.le_of_ble_eq_true rfl) (by decide) hp (fun m4 hp => ?_)
        exact n_weak (wk_s (wk_n (wk_s (wk_n (wk_n (wk_s wk_nil)))))) hp
    · have hp := hB q
      refine v_iload dX8_either_21 rfl ?_
      exact n_retI dX8_either_23 rfl hp
theorem g_X8_either_35 {G : GG} {d : Nat} {m : MM} {k : Int → MM → Prop} (x2 : Int)
    (hp : N G d mi_X8_w3 0 [some (vi 97), some (vi 110), some (vi 100)] [] m (RJG fun z1 m2 => N G d mi_X8_isWord 0 [some (vr 304), some (vl z1), none] [] m2 (RI fun z3 m4 => bEQ (m4 304 11) 2 ((rnl (m4 304 13) ∧ rnl 28530) ∧ (bEQ (lcm (m4 304 13) 28530) 0 (N G (d + 1) mi_X8_either 73 [some (vr 304), some (vi z3), some (vi x2), none, none, none] [vi 1] m4 (RI k)) (N G (d + 1) mi_X8_either 73 [some (vr 304), some (vi z3), some (vi x2), none, none, none] [vi 0] m4 (RI k)))) (N G (d + 1) mi_X8_either 73 [some (vr 304), some (vi z3), some (vi x2), none, none, none] [vi 0] m4 (RI k))))) :
    N G (d + 1) mi_X8_either 35 [some (vr 304), none, some (vi x2), none, none, none] [] m (RI k) := by
  refine v_aload_n dX8_either_35 rfl rfl ?_
  refine v_bipush dX8_either_36 rfl ?_
  refine v_bipush dX8_either_38 rfl ?_
  refine v_bipush dX8_either_40 rfl ?_
  refine n_callSL (As := [vi 97, vi 110, vi 100]) (st := [vr 304]) dX8_either_42 ml_X8_115 mo_X8_w3 ms_X8_w3 rfl rfl (Nat.le_of_ble_eq_true rfl) (Nat.le_of_ble_eq_true rfl) (by decide) hp (fun z1 m2 hp => ?_)
  refine n_callVI (As := [vl z1]) (st := []) dX8_either_45 ml_X8_186 mo_X8_isWord mv_X8_isWord sh_304 rfl rfl rfl rfl (Nat.le_of_ble_eq_true rfl) (Nat.le_of_ble_eq_true rfl) (by decide) hp (fun z3 m4 hp => ?_)
  refine v_istore_n dX8_either_48 rfl (by decide) ?_
  refine v_aload_n dX8_either_49 rfl rfl ?_
  refine n_geti dX8_either_50 fo_X8_97 sh_304 rfl ?_
  refine v_iconst dX8_either_53 ?_
  obtain ⟨⟨r1, r2⟩, hA, hB⟩ := hp
  refine v_icmp_ne (tgt := 72) dX8_either_54 (by decide) r1 r2 (fun q => ?_) (fun q => ?_)
  · have hp := hB q
    refine v_iconst dX8_either_72 ?_
    exact hp
  · have hp := hA q
    refine v_aload_n dX8_either_57 rfl rfl ?_
    refine n_getl dX8_either_58 fo_X8_111 sh_304 rfl ?_
    refine v_ldc2 dX8_either_61 cl_X8_199 ?_
    obtain ⟨hg, hp⟩ := hp
    refine v_lcmp dX8_either_64 hg.1 hg.2 ?_
    obtain ⟨⟨r1, r2⟩, hA, hB⟩ := hp
    refine v_if_ne (tgt := 72) dX8_either_65 (by decide) r1 (fun q => ?_) (fun q => ?_)
    · have hp := hB q
      refine v_iconst dX8_either_72 ?_
      exact hp
    · have hp := hA q
      refine v_iconst dX8_either_68 ?_
      refine v_goto (tgt := 73) dX8_either_69 (by decide) ?_
      exact hp
theorem g_X8_either_73 {G : GG} {d : Nat} {m : MM} {k : Int → MM → Prop} (x1 : Int) (x2 : Int) (s0 : Int)
    (hp : bEQ x1 0 (bEQ x2 0 (N G (d + 1) mi_X8_either 93 [some (vr 304), some (vi x1), some (vi s0), none, none, some (vi s0)] [] m (RI k)) (N G d mi_X8_emit 0 [some (vr 304), some (vi 22), some (vi 0)] [] m (RV fun m2 => N G (d + 1) mi_X8_either 93 [some (vr 304), some (vi x1), some (vi s0), none, none, some (vi s0)] [] m2 (RI k)))) (N G (d + 1) mi_X8_either 93 [some (vr 304), some (vi x1), some (vi x2), none, none, some (vi s0)] [] m (RI k))) :
    N G (d + 1) mi_X8_either 73 [some (vr 304), some (vi x1), some (vi x2), none, none, none] [vi s0] m (RI k) := by
  refine v_istore dX8_either_73 (by decide) ?_
  refine v_iload_n dX8_either_75 rfl rfl ?_
  obtain ⟨⟨r1, r2⟩, hA, hB⟩ := hp
  refine v_if_ne (tgt := 93) dX8_either_76 (by decide) r1 (fun q => ?_) (fun q => ?_)
  · have hp := hB q
    exact hp
  · have hp := hA q
    refine v_iload_n dX8_either_79 rfl rfl ?_
    obtain ⟨⟨r1, r2⟩, hA, hB⟩ := hp
    refine v_if_eq (tgt := 90) dX8_either_80 (by decide) r1 (fun q => ?_) (fun q => ?_)
    · have hp := hA q
      refine v_iload dX8_either_90 rfl ?_
      refine v_istore_n dX8_either_92 rfl (by decide) ?_
      exact hp
    · have hp := hB q
      refine v_aload_n dX8_either_83 rfl rfl ?_
      refine v_bipush dX8_either_84 rfl ?_
      refine v_iconst dX8_either_86 ?_
      refine n_callVV (As := [vi 22, vi 0]) (st := []) dX8_either_87 ml_X8_139 mo_X8_emit mv_X8_emit sh_304 rfl rfl rfl rfl (Nat.le_of_ble_eq_true rfl) (Nat.le_of_ble_eq_true rfl) (by decide) hp (fun m2 hp => ?_)
      refine v_iload dX8_either_90 rfl ?_
      refine v_istore_n dX8_either_92 rfl (by decide) ?_
      exact hp
theorem g_X8_either_93 {G : GG} {d : Nat} {m : MM} {k : Int → MM → Prop} (x1 : Int) (x2 : Int) (x5 : Int)
    (hp : bEQ x1 0 (bEQ x5 0 (N G (d + 1) mi_X8_either 107 [some (vr 304), some (vi x1), some (vi x2), none, none, none] [vi 0] m (RI k)) (N G (d + 1) mi_X8_either 107 [some (vr 304), some (vi x1), some (vi x2), none, none, none] [vi 1] m (RI k))) (N G (d + 1) mi_X8_either 107 [some (vr 304), some (vi x1), some (vi x2), none, none, none] [vi 1] m (RI k))) :
    N G (d + 1) mi_X8_either 93 [some (vr 304), some (vi x1), some (vi x2), none, none, some (vi x5)] [] m (RI k) := by
  refine v_iload_n dX8_either_93 rfl rfl ?_
  obtain ⟨⟨r1, r2⟩, hA, hB⟩ := hp
  refine v_if_ne (tgt := 102) dX8_either_94 (by decide) r1 (fun q => ?_) (fun q => ?_)
  · have hp := hB q
    refine v_iconst dX8_either_102 ?_
    refine v_goto (tgt := 107) dX8_either_103 (by decide) ?_
    exact n_weak (wk_s (wk_s (wk_s (wk_s (wk_s (wk_n wk_nil)))))) hp
  · have hp := hA q
    refine v_iload dX8_either_97 rfl ?_
    obtain ⟨⟨r1, r2⟩, hA, hB⟩ := hp
    refine v_if_eq (tgt := 106) dX8_either_99 (by decide) r1 (fun q => ?_) (fun q => ?_)
    · have hp := hA q
      refine v_iconst dX8_either_106 ?_
      exact n_weak (wk_s (wk_s (wk_s (wk_s (wk_s (wk_n wk_nil)))))) hp
    · have hp := hB q
      refine v_iconst dX8_either_102 ?_
      refine v_goto (tgt := 107) dX8_either_103 (by decide) ?_
      exact n_weak (wk_s (wk_s (wk_s (wk_s (wk_s (wk_n wk_nil)))))) hp
theorem g_X8_either_107 {G : GG} {d : Nat} {m : MM} {k : Int → MM → Prop} (x1 : Int) (x2 : Int) (s0 : Int)
    (hp : bEQ s0 0 (N G (d + 1) mi_X8_either 6 [some (vr 304), some (vi x1), some (vi x2), some (vi s0), none, none] [] m (RI k)) (N G d mi_X8_nextToken 0 [some (vr 304), none, none] [] m (RV fun m2 => N G (d + 1) mi_X8_either 6 [some (vr 304), some (vi x1), some (vi x2), some (vi s0), none, none] [] m2 (RI k)))) :
    N G (d + 1) mi_X8_either 107 [some (vr 304), some (vi x1), some (vi x2), none, none, none] [vi s0] m (RI k) := by
  refine v_istore_n dX8_either_107 rfl (by decide) ?_
  refine v_iload_n dX8_either_108 rfl rfl ?_
  obtain ⟨⟨r1, r2⟩, hA, hB⟩ := hp
  refine v_if_eq (tgt := 116) dX8_either_109 (by decide) r1 (fun q => ?_) (fun q => ?_)
  · have hp := hA q
    refine v_goto (tgt := 6) dX8_either_116 (by decide) ?_
    exact hp
  · have hp := hB q
    refine v_aload_n dX8_either_112 rfl rfl ?_
    refine n_callVV (As := []) (st := []) dX8_either_113 ml_X8_154 mo_X8_nextToken mv_X8_nextToken sh_304 rfl rfl rfl rfl (Nat.le_of_ble_eq_true rfl) (Nat.le_of_ble_eq_true rfl) (by decide) hp (fun m2 hp => ?_)
    refine v_goto (tgt := 6) dX8_either_116 (by decide) ?_
    exact hp
theorem g_X8_sortOf_0 {G : GG} {d : Nat} {m : MM} {k : Int → MM → Prop} 
    (hp : N G d mi_X8_w4 0 [some (vi 115), some (vi 101), some (vi 101), some (vi 115)] [] m (RJG fun z1 m2 => N G d mi_X8_isWord 0 [some (vr 304), some (vl z1), none] [] m2 (RI fun z3 m4 => bEQ z3 0 (N G d mi_X8_w4 0 [some (vi 114), some (vi 117), some (vi 98), some (vi 115)] [] m4 (RJG fun z5 m6 => N G d mi_X8_isWord 0 [some (vr 304), some (vl z5), none] [] m6 (RI fun z7 m8 => bEQ z7 0 (N G d mi_X8_w5 0 [some (vi 116), some (vi 111), some (vi 117), some (vi 99), some (vi 104)] [] m8 (RJG fun z9 m10 => N G d mi_X8_isWord 0 [some (vr 304), some (vl z9), none] [] m10 (RI fun z11 m12 => bEQ z11 0 (N G d mi_X8_w3 0 [some (vi 112), some (vi 117), some (vi 116)] [] m12 (RJG fun z13 m14 => N G d mi_X8_isWord 0 [some (vr 304), some (vl z13), none] [] m14 (RI fun z15 m16 => bEQ z15 0 (N G d mi_X8_w6 0 [some (vi 100), some (vi 114), some (vi 97), some (vi 119), some (vi 101), some (vi 114)] [] m16 (RJG fun z17 m18 => N G d mi_X8_isWord 0 [some (vr 304), some (vl z17), none] [] m18 (RI fun z19 m20 => bEQ z19 0 (N G d mi_X8_w4 0 [some (vi 115), some (vi 119), some (vi 97), some (vi 112)] [] m20 (RJG fun z21 m22 => N G d mi_X8_isWord 0 [some (vr 304), some (vl z21), none] [] m22 (RI fun z23 m24 => bEQ z23 0 (N G d mi_X8_w6 0 [some (vi 112), some (vi 111), some (vi 108), some (vi 105), some (vi 115), some (vi 104)] [] m24 (RJG fun z25 m26 => N G d mi_X8_isWord 0 [some (vr 304), some (vl z25), none] [] m26 (RI fun z27 m28 => bEQ z27 0 (k (-1) m28) (k 6 m28)))) (k 5 m24)))) (k 4 m20)))) (k 3 m16)))) (k 2 m12)))) (k 1 m8)))) (k 0 m4)))) :
    N G (d + 1) mi_X8_sortOf 0 [some (vr 304)] [] m (RI k) := by
  refine v_aload_n dX8_sortOf_0 rfl rfl ?_
  refine v_bipush dX8_sortOf_1 rfl ?_
  refine v_bipush dX8_sortOf_3 rfl ?_
  refine v_bipush dX8_sortOf_5 rfl ?_
  refine v_bipush dX8_sortOf_7 rfl ?_
  refine n_callSL (As := [vi 115, vi 101, vi 101, vi 115]) (st := [vr 304]) dX8_sortOf_9 ml_X8_147 mo_X8_w4 ms_X8_w4 rfl rfl (Nat.le_of_ble_eq_true rfl) (Nat.le_of_ble_eq_true rfl) (by decide) hp (fun z1 m2 hp => ?_)
  refine n_callVI (As := [vl z1]) (st := []) dX8_sortOf_12 ml_X8_186 mo_X8_isWord mv_X8_isWord sh_304 rfl rfl rfl rfl (Nat.le_of_ble_eq_true rfl) (Nat.le_of_ble_eq_true rfl) (by decide) hp (fun z3 m4 hp => ?_)
  obtain ⟨⟨r1, r2⟩, hA, hB⟩ := hp
  refine v_if_eq (tgt := 20) dX8_sortOf_15 (by decide) r1 (fun q => ?_) (fun q => ?_)
  · have hp := hA q
    refine v_aload_n dX8_sortOf_20 rfl rfl ?_
    refine v_bipush dX8_sortOf_21 rfl ?_
    refine v_bipush dX8_sortOf_23 rfl ?_
    refine v_bipush dX8_sortOf_25 rfl ?_
    refine v_bipush dX8_sortOf_27 rfl ?_
    refine n_callSL (As := [vi 114, vi 117, vi 98, vi 115]) (st := [vr 304]) dX8_sortOf_29 ml_X8_147 mo_X8_w4 ms_X8_w4 rfl rfl (Nat.le_of_ble_eq_true rfl) (Nat.le_of_ble_eq_true rfl) (by decide) hp (fun z5 m6 hp => ?_)
    refine n_callVI (As := [vl z5]) (st := []) dX8_sortOf_32 ml_X8_186 mo_X8_isWord mv_X8_isWord sh_304 rfl rfl rfl rfl (Nat.le_of_ble_eq_true rfl) (Nat.le_of_ble_eq_true rfl) (by decide) hp (fun z7 m8 hp => ?_)
    obtain ⟨⟨r1, r2⟩, hA, hB⟩ := hp
    refine v_if_eq (tgt := 40) dX8_sortOf_35 (by decide) r1 (fun q => ?_) (fun q => ?_)
    · have hp := hA q
      refine v_aload_n dX8_sortOf_40 rfl rfl ?_
      refine v_bipush dX8_sortOf_41 rfl ?_
      refine v_bipush dX8_sortOf_43 rfl ?_
      refine v_bipush dX8_sortOf_45 rfl ?_
      refine v_bipush dX8_sortOf_47 rfl ?_
      refine v_bipush dX8_sortOf_49 rfl ?_
      refine n_callSL (As := [vi 116, vi 111, vi 117, vi 99, vi 104]) (st := [vr 304]) dX8_sortOf_51 ml_X8_119 mo_X8_w5 ms_X8_w5 rfl rfl (Nat.le_of_ble_eq_true rfl) (Nat.le_of_ble_eq_true rfl) (by decide) hp (fun z9 m10 hp => ?_)
      refine n_callVI (As := [vl z9]) (st := []) dX8_sortOf_54 ml_X8_186 mo_X8_isWord mv_X8_isWord sh_304 rfl rfl rfl rfl (Nat.le_of_ble_eq_true rfl) (Nat.le_of_ble_eq_true rfl) (by decide) hp (fun z11 m12 hp => ?_)
      obtain ⟨⟨r1, r2⟩, hA, hB⟩ := hp
      refine v_if_eq (tgt := 62) dX8_sortOf_57 (by decide) r1 (fun q => ?_) (fun q => ?_)
      · have hp := hA q
        refine v_aload_n dX8_sortOf_62 rfl rfl ?_
        refine v_bipush dX8_sortOf_63 rfl ?_
        refine v_bipush dX8_sortOf_65 rfl ?_
        refine v_bipush dX8_sortOf_67 rfl ?_
        refine n_callSL (As := [vi 112, vi 117, vi 116]) (st := [vr 304]) dX8_sortOf_69 ml_X8_115 mo_X8_w3 ms_X8_w3 rfl rfl (Nat.le_of_ble_eq_true rfl) (Nat.le_of_ble_eq_true rfl) (by decide) hp (fun z13 m14 hp => ?_)
        refine n_callVI (As := [vl z13]) (st := []) dX8_sortOf_72 ml_X8_186 mo_X8_isWord mv_X8_isWord sh_304 rfl rfl rfl rfl (Nat.le_of_ble_eq_true rfl) (Nat.le_of_ble_eq_true rfl) (by decide) hp (fun z15 m16 hp => ?_)
        obtain ⟨⟨r1, r2⟩, hA, hB⟩ := hp
        refine v_if_eq (tgt := 80) dX8_sortOf_75 (by decide) r1 (fun q => ?_) (fun q => ?_)
        · have hp := hA q
          refine v_aload_n dX8_sortOf_80 rfl rfl ?_
          refine v_bipush dX8_sortOf_81 rfl ?_
          refine v_bipush dX8_sortOf_83 rfl ?_
          refine v_bipush dX8_sortOf_85 rfl ?_
          refine v_bipush dX8_sortOf_87 rfl ?_
          refine v_bipush dX8_sortOf_89 rfl ?_
          refine v_bipush dX8_sortOf_91 rfl ?_
          refine n_callSL (As := [vi 100, vi 114, vi 97, vi 119, vi 101, vi 114]) (st := [vr 304]) dX8_sortOf_93 ml_X8_143 mo_X8_w6 ms_X8_w6 rfl rfl (Nat.le_of_ble_eq_true rfl) (Nat.le_of_ble_eq_true rfl) (by decide) hp (fun z17 m18 hp => ?_)
          refine n_callVI (As := [vl z17]) (st := []) dX8_sortOf_96 ml_X8_186 mo_X8_isWord mv_X8_isWord sh_304 rfl rfl rfl rfl (Nat.le_of_ble_eq_true rfl) (Nat.le_of_ble_eq_true rfl) (by decide) hp (fun z19 m20 hp => ?_)
          obtain ⟨⟨r1, r2⟩, hA, hB⟩ := hp
          refine v_if_eq (tgt := 104) dX8_sortOf_99 (by decide) r1 (fun q => ?_) (fun q => ?_)
          · have hp := hA q
            refine v_aload_n dX8_sortOf_104 rfl rfl ?_
            refine v_bipush dX8_sortOf_105 rfl ?_
            refine v_bipush dX8_sortOf_107 rfl ?_
            refine v_bipush dX8_sortOf_109 rfl ?_
            refine v_bipush dX8_sortOf_111 rfl ?_
            refine n_callSL (As := [vi 115, vi 119, vi 97, vi 112]) (st := [vr 304]) dX8_sortOf_113 ml_X8_147 mo_X8_w4 ms_X8_w4 rfl rfl (Nat.le_of_ble_eq_true rfl) (Nat.le_of_ble_eq_true rfl) (by decide) hp (fun z21 m22 hp => ?_)
            refine n_callVI (As := [vl z21]) (st := []) dX8_sortOf_116 ml_X8_186 mo_X8_isWord mv_X8_isWord sh_304 rfl rfl rfl rfl (Nat.le_of_ble_eq_true rfl) (Nat.le_of_ble_eq_true rfl) (by decide) hp (fun z23 m24 hp => ?_)
            obtain ⟨⟨r1, r2⟩, hA, hB⟩ := hp
            refine v_if_eq (tgt := 126) dX8_sortOf_119 (by decide) r1 (fun q => ?_) (fun q => ?_)
            · have hp := hA q
              refine v_aload_n dX8_sortOf_126 rfl rfl ?_
              refine v_bipush dX8_sortOf_127 rfl ?_
              refine v_bipush dX8_sortOf_129 rfl ?_
              refine v_bipush dX8_sortOf_131 rfl ?_
              refine v_bipush dX8_sortOf_133 rfl ?_
              refine v_bipush dX8_sortOf_135 rfl ?_
              refine v_bipush dX8_sortOf_137 rfl ?_
              refine n_callSL (As := [vi 112, vi 111, vi 108, vi 105, vi 115, vi 104]) (st := [vr 304]) dX8_sortOf_139 ml_X8_143 mo_X8_w6 ms_X8_w6 rfl rfl (Nat.le_of_ble_eq_true rfl) (Nat.le_of_ble_eq_true rfl) (by decide) hp (fun z25 m26 hp => ?_)
              refine n_callVI (As := [vl z25]) (st := []) dX8_sortOf_142 ml_X8_186 mo_X8_isWord mv_X8_isWord sh_304 rfl rfl rfl rfl (Nat.le_of_ble_eq_true rfl) (Nat.le_of_ble_eq_true rfl) (by decide) hp (fun z27 m28 hp => ?_)
              obtain ⟨⟨r1, r2⟩, hA, hB⟩ := hp
              refine v_if_eq (tgt := 153) dX8_sortOf_145 (by decide) r1 (fun q => ?_) (fun q => ?_)
              · have hp := hA q
                refine v_iconst dX8_sortOf_153 ?_
                exact n_retI dX8_sortOf_154 rfl hp
              · have hp := hB q
                refine v_bipush dX8_sortOf_148 rfl ?_
                refine v_goto (tgt := 154) dX8_sortOf_150 (by decide) ?_
                exact n_retI dX8_sortOf_154 rfl hp
            · have hp := hB q
              refine v_iconst dX8_sortOf_122 ?_
              refine v_goto (tgt := 154) dX8_sortOf_123 (by decide) ?_
              exact n_retI dX8_sortOf_154 rfl hp
          · have hp := hB q
            refine v_iconst dX8_sortOf_102 ?_
            exact n_retI dX8_sortOf_103 rfl hp
        · have hp := hB q
          refine v_iconst dX8_sortOf_78 ?_
          exact n_retI dX8_sortOf_79 rfl hp
      · have hp := hB q
        refine v_iconst dX8_sortOf_60 ?_
        exact n_retI dX8_sortOf_61 rfl hp
    · have hp := hB q
      refine v_iconst dX8_sortOf_38 ?_
      exact n_retI dX8_sortOf_39 rfl hp
  · have hp := hB q
    refine v_iconst dX8_sortOf_18 ?_
    exact n_retI dX8_sortOf_19 rfl hp
theorem g_X8_figure_0 {G : GG} {d : Nat} {m : MM} {k : Int → MM → Prop} (x1 : Int) (x2 : Int)
    (hp : bEQ (m 304 11) 1 (bLE (m 304 12) x2 (∃ j2 : Nat, (x1 = (j2 : Int) ∧ j2 < 2720) ∧ (∀ m1 : MM, m1 = upm m 308 j2 (m 304 12) → (N G d mi_X8_nextToken 0 [some (vr 304), none, none] [] m1 (RV fun m4 => k 0 m4)))) (k 2 m)) (k 1 m)) :
    N G (d + 1) mi_X8_figure 0 [some (vr 304), some (vi x1), some (vi x2)] [] m (RI k) := by
  refine v_aload_n dX8_figure_0 rfl rfl ?_
  refine n_geti dX8_figure_1 fo_X8_97 sh_304 rfl ?_
  refine v_iconst dX8_figure_4 ?_
  obtain ⟨⟨r1, r2⟩, hA, hB⟩ := hp
  refine v_icmp_eq (tgt := 10) dX8_figure_5 (by decide) r1 r2 (fun q => ?_) (fun q => ?_)
  · have hp := hA q
    refine v_aload_n dX8_figure_10 rfl rfl ?_
    refine n_geti dX8_figure_11 fo_X8_104 sh_304 rfl ?_
    refine v_iload_n dX8_figure_14 rfl rfl ?_
    obtain ⟨⟨r1, r2⟩, hA, hB⟩ := hp
    refine v_icmp_le (tgt := 20) dX8_figure_15 (by decide) r1 r2 (fun q => ?_) (fun q => ?_)
    · have hp := hA q
      refine v_aload_n dX8_figure_20 rfl rfl ?_
      refine n_getr dX8_figure_21 fo_X8_19 sh_304 rfl sr_304_4 ?_
      refine v_iload_n dX8_figure_24 rfl rfl ?_
      refine v_aload_n dX8_figure_25 rfl rfl ?_
      refine n_geti dX8_figure_26 fo_X8_104 sh_304 rfl ?_
      obtain ⟨j2, ⟨ej2, bj2⟩, hp⟩ := hp
      refine w_iast (j := j2) dX8_figure_29 sh_308 ej2 bj2 (fun m1 em1 => ?_)
      have hp := hp m1 em1
      refine v_aload_n dX8_figure_30 rfl rfl ?_
      refine n_callVV (As := []) (st := []) dX8_figure_31 ml_X8_154 mo_X8_nextToken mv_X8_nextToken sh_304 rfl rfl rfl rfl (Nat.le_of_ble_eq_true rfl) (Nat.le_of_ble_eq_true rfl) (by decide) hp (fun m4 hp => ?_)
      refine v_iconst dX8_figure_34 ?_
      exact n_retI dX8_figure_35 rfl hp
    · have hp := hB q
      refine v_iconst dX8_figure_18 ?_
      exact n_retI dX8_figure_19 rfl hp
  · have hp := hB q
    refine v_iconst dX8_figure_8 ?_
    exact n_retI dX8_figure_9 rfl hp
theorem g_X8_isBetween_0 {G : GG} {d : Nat} {m : MM} {k : Int → MM → Prop} (x1 : Int)
    (hp : bEQ x1 2 (bEQ (m 304 11) 2 ((rnl (m 304 13) ∧ rnl 25209) ∧ (bEQ (lcm (m 304 13) 25209) 0 (k 1 m) (k 0 m))) (k 0 m)) (bEQ x1 3 (bEQ (m 304 11) 2 ((rnl (m 304 13) ∧ rnl 28526) ∧ (bEQ (lcm (m 304 13) 28526) 0 (k 1 m) (k 0 m))) (k 0 m)) (N G d mi_X8_w4 0 [some (vi 119), some (vi 105), some (vi 116), some (vi 104)] [] m (RJG fun z1 m2 => N G d mi_X8_isWord 0 [some (vr 304), some (vl z1), none] [] m2 (RI fun z3 m4 => (z3 = 0 ∨ z3 = 1) ∧ (k z3 m4)))))) :
    N G (d + 1) mi_X8_isBetween 0 [some (vr 304), some (vi x1)] [] m (RI k) := by
  refine v_iload_n dX8_isBetween_0 rfl rfl ?_
  refine v_iconst dX8_isBetween_1 ?_
  obtain ⟨⟨r1, r2⟩, hA, hB⟩ := hp
  refine v_icmp_ne (tgt := 30) dX8_isBetween_2 (by decide) r1 r2 (fun q => ?_) (fun q => ?_)
  · have hp := hB q
    refine v_iload_n dX8_isBetween_30 rfl rfl ?_
    refine v_iconst dX8_isBetween_31 ?_
    obtain ⟨⟨r1, r2⟩, hA, hB⟩ := hp
    refine v_icmp_ne (tgt := 62) dX8_isBetween_32 (by decide) r1 r2 (fun q => ?_) (fun q => ?_)
    · have hp := hB q
      refine v_aload_n dX8_isBetween_62 rfl rfl ?_
      refine v_bipush dX8_isBetween_63 rfl ?_
      refine v_bipush dX8_isBetween_65 rfl ?_
      refine v_bipush dX8_isBetween_67 rfl ?_
      refine v_bipush dX8_isBetween_69 rfl ?_
      refine n_callSL (As := [vi 119, vi 105, vi 116, vi 104]) (st := [vr 304]) dX8_isBetween_71 ml_X8_147 mo_X8_w4 ms_X8_w4 rfl rfl (Nat.le_of_ble_eq_true rfl) (Nat.le_of_ble_eq_true rfl) (by decide) hp (fun z1 m2 hp => ?_)
      refine n_callVI (As := [vl z1]) (st := []) dX8_isBetween_74 ml_X8_186 mo_X8_isWord mv_X8_isWord sh_304 rfl rfl rfl rfl (Nat.le_of_ble_eq_true rfl) (Nat.le_of_ble_eq_true rfl) (by decide) hp (fun z3 m4 hp => ?_)
      exact n_retZ dX8_isBetween_77 rfl hp.1 hp.2
    · have hp := hA q
      refine v_aload_n dX8_isBetween_35 rfl rfl ?_
      refine n_geti dX8_isBetween_36 fo_X8_97 sh_304 rfl ?_
      refine v_iconst dX8_isBetween_39 ?_
      obtain ⟨⟨r1, r2⟩, hA, hB⟩ := hp
      refine v_icmp_ne (tgt := 58) dX8_isBetween_40 (by decide) r1 r2 (fun q => ?_) (fun q => ?_)
      · have hp := hB q
        refine v_iconst dX8_isBetween_58 ?_
        refine v_goto (tgt := 77) dX8_isBetween_59 (by decide) ?_
        exact n_retZ dX8_isBetween_77 rfl (by decide) hp
      · have hp := hA q
        refine v_aload_n dX8_isBetween_43 rfl rfl ?_
        refine n_getl dX8_isBetween_44 fo_X8_111 sh_304 rfl ?_
        refine v_ldc2 dX8_isBetween_47 cl_X8_203 ?_
        obtain ⟨hg, hp⟩ := hp
        refine v_lcmp dX8_isBetween_50 hg.1 hg.2 ?_
        obtain ⟨⟨r1, r2⟩, hA, hB⟩ := hp
        refine v_if_ne (tgt := 58) dX8_isBetween_51 (by decide) r1 (fun q => ?_) (fun q => ?_)
        · have hp := hB q
          refine v_iconst dX8_isBetween_58 ?_
          refine v_goto (tgt := 77) dX8_isBetween_59 (by decide) ?_
          exact n_retZ dX8_isBetween_77 rfl (by decide) hp
        · have hp := hA q
          refine v_iconst dX8_isBetween_54 ?_
          refine v_goto (tgt := 77) dX8_isBetween_55 (by decide) ?_
          exact n_retZ dX8_isBetween_77 rfl (by decide) hp
  · have hp := hA q
    refine v_aload_n dX8_isBetween_5 rfl rfl ?_
    refine n_geti dX8_isBetween_6 fo_X8_97 sh_304 rfl ?_
    refine v_iconst dX8_isBetween_9 ?_
    obtain ⟨⟨r1, r2⟩, hA, hB⟩ := hp
    refine v_icmp_ne (tgt := 28) dX8_isBetween_10 (by decide) r1 r2 (fun q => ?_) (fun q => ?_)
    · have hp := hB q
      refine v_iconst dX8_isBetween_28 ?_
      exact n_retZ dX8_isBetween_29 rfl (by decide) hp
    · have hp := hA q
      refine v_aload_n dX8_isBetween_13 rfl rfl ?_
      refine n_getl dX8_isBetween_14 fo_X8_111 sh_304 rfl ?_
      refine v_ldc2 dX8_isBetween_17 cl_X8_201 ?_
      obtain ⟨hg, hp⟩ := hp
      refine v_lcmp dX8_isBetween_20 hg.1 hg.2 ?_
      obtain ⟨⟨r1, r2⟩, hA, hB⟩ := hp
      refine v_if_ne (tgt := 28) dX8_isBetween_21 (by decide) r1 (fun q => ?_) (fun q => ?_)
      · have hp := hB q
        refine v_iconst dX8_isBetween_28 ?_
        exact n_retZ dX8_isBetween_29 rfl (by decide) hp
      · have hp := hA q
        refine v_iconst dX8_isBetween_24 ?_
        refine v_goto (tgt := 29) dX8_isBetween_25 (by decide) ?_
        exact n_retZ dX8_isBetween_29 rfl (by decide) hp
theorem g_X8_line_0 {G : GG} {d : Nat} {m : MM} {k : Int → MM → Prop} (x1 : Int) (x2 : Int)
    (hp : N G d mi_X8_figure 0 [some (vr 304), some (vi (x2 + 1)), some (vi 7)] [] m (RI fun z1 m2 => bEQ z1 0 (bEQ x1 4 (k z1 m2) (bEQ x1 6 (k z1 m2) (N G d mi_X8_isBetween 0 [some (vr 304), some (vi x1)] [] m2 (RI fun z3 m4 => bEQ z3 0 (k 1 m4) (N G d mi_X8_nextToken 0 [some (vr 304), none, none] [] m4 (RV fun m6 => bEQ x1 5 (N G d mi_X8_figure 0 [some (vr 304), some (vi (x2 + 2)), some (vi 7)] [] m6 (RI fun z9 m10 => k z9 m10)) (N G d mi_X8_figure 0 [some (vr 304), some (vi (x2 + 2)), some (vi 5)] [] m6 (RI fun z7 m8 => k z7 m8)))))))) (k z1 m2))) :
    N G (d + 1) mi_X8_line 0 [some (vr 304), some (vi x1), some (vi x2), none] [] m (RI k) := by
  refine v_aload_n dX8_line_0 rfl rfl ?_
  refine v_iload_n dX8_line_1 rfl rfl ?_
  refine v_iconst dX8_line_2 ?_
  refine v_iadd dX8_line_3 ?_
  refine v_bipush dX8_line_4 rfl ?_
  refine n_callVI (As := [vi (x2 + 1), vi 7]) (st := []) dX8_line_6 ml_X8_205 mo_X8_figure mv_X8_figure sh_304 rfl rfl rfl rfl (Nat.le_of_ble_eq_true rfl) (Nat.le_of_ble_eq_true rfl) (by decide) hp (fun z1 m2 hp => ?_)
  refine v_istore_n dX8_line_9 rfl (by decide) ?_
  refine v_iload_n dX8_line_10 rfl rfl ?_
  obtain ⟨⟨r1, r2⟩, hA, hB⟩ := hp
  refine v_if_ne (tgt := 25) dX8_line_11 (by decide) r1 (fun q => ?_) (fun q => ?_)
  · have hp := hB q
    refine v_iload_n dX8_line_25 rfl rfl ?_
    exact n_retI dX8_line_26 rfl hp
  · have hp := hA q
    refine v_iload_n dX8_line_14 rfl rfl ?_
    refine v_iconst dX8_line_15 ?_
    obtain ⟨⟨r1, r2⟩, hA, hB⟩ := hp
    refine v_icmp_eq (tgt := 25) dX8_line_16 (by decide) r1 r2 (fun q => ?_) (fun q => ?_)
    · have hp := hA q
      refine v_iload_n dX8_line_25 rfl rfl ?_
      exact n_retI dX8_line_26 rfl hp
    · have hp := hB q
      refine v_iload_n dX8_line_19 rfl rfl ?_
      refine v_bipush dX8_line_20 rfl ?_
      obtain ⟨⟨r1, r2⟩, hA, hB⟩ := hp
      refine v_icmp_ne (tgt := 27) dX8_line_22 (by decide) r1 r2 (fun q => ?_) (fun q => ?_)
      · have hp := hB q
        refine v_aload_n dX8_line_27 rfl rfl ?_
        refine v_iload_n dX8_line_28 rfl rfl ?_
        refine n_callVI (As := [vi x1]) (st := []) dX8_line_29 ml_X8_208 mo_X8_isBetween mv_X8_isBetween sh_304 rfl rfl rfl rfl (Nat.le_of_ble_eq_true rfl) (Nat.le_of_ble_eq_true rfl) (by decide) hp (fun z3 m4 hp => ?_)
        obtain ⟨⟨r1, r2⟩, hA, hB⟩ := hp
        refine v_if_ne (tgt := 37) dX8_line_32 (by decide) r1 (fun q => ?_) (fun q => ?_)
        · have hp := hB q
          refine v_aload_n dX8_line_37 rfl rfl ?_
          refine n_callVV (As := []) (st := []) dX8_line_38 ml_X8_154 mo_X8_nextToken mv_X8_nextToken sh_304 rfl rfl rfl rfl (Nat.le_of_ble_eq_true rfl) (Nat.le_of_ble_eq_true rfl) (by decide) hp (fun m6 hp => ?_)
          refine v_aload_n dX8_line_41 rfl rfl ?_
          refine v_iload_n dX8_line_42 rfl rfl ?_
          refine v_iconst dX8_line_43 ?_
          refine v_iadd dX8_line_44 ?_
          refine v_iload_n dX8_line_45 rfl rfl ?_
          refine v_iconst dX8_line_46 ?_
          obtain ⟨⟨r1, r2⟩, hA, hB⟩ := hp
          refine v_icmp_ne (tgt := 55) dX8_line_47 (by decide) r1 r2 (fun q => ?_) (fun q => ?_)
          · have hp := hB q
            refine v_iconst dX8_line_55 ?_
            refine n_callVI (As := [vi (x2 + 2), vi 5]) (st := []) dX8_line_56 ml_X8_205 mo_X8_figure mv_X8_figure sh_304 rfl rfl rfl rfl (Nat.le_of_ble_eq_true rfl) (Nat.le_of_ble_eq_true rfl) (by decide) hp (fun z7 m8 hp => ?_)
            exact n_retI dX8_line_59 rfl hp
          · have hp := hA q
            refine v_bipush dX8_line_50 rfl ?_
            refine v_goto (tgt := 56) dX8_line_52 (by decide) ?_
            refine n_callVI (As := [vi (x2 + 2), vi 7]) (st := []) dX8_line_56 ml_X8_205 mo_X8_figure mv_X8_figure sh_304 rfl rfl rfl rfl (Nat.le_of_ble_eq_true rfl) (Nat.le_of_ble_eq_true rfl) (by decide) hp (fun z9 m10 hp => ?_)
            exact n_retI dX8_line_59 rfl hp
        · have hp := hA q
          refine v_iconst dX8_line_35 ?_
          exact n_retI dX8_line_36 rfl hp
      · have hp := hA q
        refine v_iload_n dX8_line_25 rfl rfl ?_
        exact n_retI dX8_line_26 rfl hp
theorem g_X8_clause_0 {G : GG} {d : Nat} {m : MM} {k : Int → MM → Prop} 
    (hp : N G d mi_X8_sortOf 0 [some (vr 304)] [] m (RI fun z1 m2 => bLE 0 z1 (bLE 2 z1 (N G (d + 1) mi_X8_clause 30 [some (vr 304), some (vi z1), none, none, none, none] [] m2 (RI k)) (bEQ (iand (ishr (m2 304 23) z1) 1) 1 (k 4 m2) (N G (d + 1) mi_X8_clause 30 [some (vr 304), some (vi z1), none, none, none, none] [] m2 (RI k)))) (k 1 m2))) :
    N G (d + 1) mi_X8_clause 0 [some (vr 304), none, none, none, none, none] [] m (RI k) := by
  refine v_aload_n dX8_clause_0 rfl rfl ?_
  refine n_callVI (As := []) (st := []) dX8_clause_1 ml_X8_211 mo_X8_sortOf mv_X8_sortOf sh_304 rfl rfl rfl rfl (Nat.le_of_ble_eq_true rfl) (Nat.le_of_ble_eq_true rfl) (by decide) hp (fun z1 m2 hp => ?_)
  refine v_istore_n dX8_clause_4 rfl (by decide) ?_
  refine v_iload_n dX8_clause_5 rfl rfl ?_
  obtain ⟨⟨r1, r2⟩, hA, hB⟩ := hp
  refine v_if_ge (tgt := 11) dX8_clause_6 (by decide) r2 (fun q => ?_) (fun q => ?_)
  · have hp := hA q
    refine v_iload_n dX8_clause_11 rfl rfl ?_
    refine v_iconst dX8_clause_12 ?_
    obtain ⟨⟨r1, r2⟩, hA, hB⟩ := hp
    refine v_icmp_ge (tgt := 30) dX8_clause_13 (by decide) r2 r1 (fun q => ?_) (fun q => ?_)
    · have hp := hA q
      exact hp
    · have hp := hB q
      refine v_aload_n dX8_clause_16 rfl rfl ?_
      refine n_geti dX8_clause_17 fo_X8_214 sh_304 rfl ?_
      refine v_iload_n dX8_clause_20 rfl rfl ?_
      refine v_ishr dX8_clause_21 ?_
      refine v_iconst dX8_clause_22 ?_
      refine v_iand dX8_clause_23 ?_
      refine v_iconst dX8_clause_24 ?_
      obtain ⟨⟨r1, r2⟩, hA, hB⟩ := hp
      refine v_icmp_ne (tgt := 30) dX8_clause_25 (by decide) r1 r2 (fun q => ?_) (fun q => ?_)
      · have hp := hB q
        exact hp
      · have hp := hA q
        refine v_iconst dX8_clause_28 ?_
        exact n_retI dX8_clause_29 rfl hp
  · have hp := hB q
    refine v_iconst dX8_clause_9 ?_
    exact n_retI dX8_clause_10 rfl hp
theorem g_X8_clause_30 {G : GG} {d : Nat} {m : MM} {k : Int → MM → Prop} (x1 : Int)
    (hp : ∃ j1 : Nat, ((m 304 14) = (j1 : Int) ∧ j1 < 2720) ∧ (bEQ (m 308 j1) 24 (k 6 m) (bLE 2 x1 (N G (d + 1) mi_X8_clause 66 [some (vr 304), some (vi x1), some (vi (m 308 j1)), none, none, none] [] m (RI k)) (∀ m2 : MM, m2 = upm m 304 23 (ior (m 304 23) (ishl 1 x1)) → (N G (d + 1) mi_X8_clause 66 [some (vr 304), some (vi x1), some (vi (m 308 j1)), none, none, none] [] m2 (RI k)))))) :
    N G (d + 1) mi_X8_clause 30 [some (vr 304), some (vi x1), none, none, none, none] [] m (RI k) := by
  refine v_aload_n dX8_clause_30 rfl rfl ?_
  refine n_getr dX8_clause_31 fo_X8_19 sh_304 rfl sr_304_4 ?_
  refine v_aload_n dX8_clause_34 rfl rfl ?_
  refine n_geti dX8_clause_35 fo_X8_123 sh_304 rfl ?_
  obtain ⟨j1, ⟨ej1, bj1⟩, hp⟩ := hp
  refine n_iald (j := j1) dX8_clause_38 sh_308 ej1 bj1 ?_
  refine v_istore_n dX8_clause_39 rfl (by decide) ?_
  refine v_iload_n dX8_clause_40 rfl rfl ?_
  refine v_bipush dX8_clause_41 rfl ?_
  obtain ⟨⟨r1, r2⟩, hA, hB⟩ := hp
  refine v_icmp_ne (tgt := 49) dX8_clause_43 (by decide) r1 r2 (fun q => ?_) (fun q => ?_)
  · have hp := hB q
    refine v_iload_n dX8_clause_49 rfl rfl ?_
    refine v_iconst dX8_clause_50 ?_
    obtain ⟨⟨r1, r2⟩, hA, hB⟩ := hp
    refine v_icmp_ge (tgt := 66) dX8_clause_51 (by decide) r2 r1 (fun q => ?_) (fun q => ?_)
    · have hp := hA q
      exact hp
    · have hp := hB q
      refine v_aload_n dX8_clause_54 rfl rfl ?_
      refine v_dupr dX8_clause_55 ?_
      refine n_geti dX8_clause_56 fo_X8_214 sh_304 rfl ?_
      refine v_iconst dX8_clause_59 ?_
      refine v_iload_n dX8_clause_60 rfl rfl ?_
      refine v_ishl dX8_clause_61 ?_
      refine v_ior dX8_clause_62 ?_
      refine w_puti dX8_clause_63 fw_X8_214 sh_304 rfl (fun m2 em2 => ?_)
      have hp := hp m2 em2
      exact hp
  · have hp := hA q
    refine v_bipush dX8_clause_46 rfl ?_
    exact n_retI dX8_clause_48 rfl hp
theorem g_X8_clause_66 {G : GG} {d : Nat} {m : MM} {k : Int → MM → Prop} (x1 : Int) (x2 : Int)
    (hp : ∀ m1 : MM, m1 = upm m 304 22 x1 → (N G d mi_X8_nextToken 0 [some (vr 304), none, none] [] m1 (RV fun m3 => ∃ j5 : Nat, ((((m3 304 14) + 1) + (3 * x2)) = (j5 : Int) ∧ j5 < 2720) ∧ (∀ m4 : MM, m4 = upm m3 308 j5 x1 → (bEQ x1 0 (N G d mi_X8_either 0 [some (vr 304), none, none, none, none, none] [] m4 (RI fun z10 m11 => N G (d + 1) mi_X8_clause 128 [some (vr 304), some (vi x1), none, some (vi (((m3 304 14) + 1) + (3 * x2))), some (vi (m4 304 16)), none] [vi z10] m11 (RI k))) (bEQ x1 1 (N G d mi_X8_summed 0 [some (vr 304), none] [] m4 (RI fun z8 m9 => N G (d + 1) mi_X8_clause 128 [some (vr 304), some (vi x1), none, some (vi (((m3 304 14) + 1) + (3 * x2))), some (vi (m4 304 16)), none] [vi z8] m9 (RI k))) (N G d mi_X8_line 0 [some (vr 304), some (vi x1), some (vi (((m3 304 14) + 1) + (3 * x2))), none] [] m4 (RI fun z6 m7 => N G (d + 1) mi_X8_clause 128 [some (vr 304), some (vi x1), none, some (vi (((m3 304 14) + 1) + (3 * x2))), some (vi (m4 304 16)), none] [vi z6] m7 (RI k))))))))) :
    N G (d + 1) mi_X8_clause 66 [some (vr 304), some (vi x1), some (vi x2), none, none, none] [] m (RI k) := by
  refine v_aload_n dX8_clause_66 rfl rfl ?_
  refine v_iload_n dX8_clause_67 rfl rfl ?_
  refine w_puti dX8_clause_68 fw_X8_151 sh_304 rfl (fun m1 em1 => ?_)
  have hp := hp m1 em1
  refine v_aload_n dX8_clause_71 rfl rfl ?_
  refine n_callVV (As := []) (st := []) dX8_clause_72 ml_X8_154 mo_X8_nextToken mv_X8_nextToken sh_304 rfl rfl rfl rfl (Nat.le_of_ble_eq_true rfl) (Nat.le_of_ble_eq_true rfl) (by decide) hp (fun m3 hp => ?_)
  refine v_aload_n dX8_clause_75 rfl rfl ?_
  refine n_geti dX8_clause_76 fo_X8_123 sh_304 rfl ?_
  refine v_iconst dX8_clause_79 ?_
  refine v_iadd dX8_clause_80 ?_
  refine v_iconst dX8_clause_81 ?_
  refine v_iload_n dX8_clause_82 rfl rfl ?_
  refine v_imul dX8_clause_83 ?_
  refine v_iadd dX8_clause_84 ?_
  refine v_istore_n dX8_clause_85 rfl (by decide) ?_
  refine v_aload_n dX8_clause_86 rfl rfl ?_
  refine n_getr dX8_clause_87 fo_X8_19 sh_304 rfl sr_304_4 ?_
  refine v_iload_n dX8_clause_90 rfl rfl ?_
  refine v_iload_n dX8_clause_91 rfl rfl ?_
  obtain ⟨j5, ⟨ej5, bj5⟩, hp⟩ := hp
  refine w_iast (j := j5) dX8_clause_92 sh_308 ej5 bj5 (fun m4 em4 => ?_)
  have hp := hp m4 em4
  refine v_aload_n dX8_clause_93 rfl rfl ?_
  refine n_geti dX8_clause_94 fo_X8_126 sh_304 rfl ?_
  refine v_istore dX8_clause_97 (by decide) ?_
  refine v_iload_n dX8_clause_99 rfl rfl ?_
  obtain ⟨⟨r1, r2⟩, hA, hB⟩ := hp
  refine v_if_ne (tgt := 110) dX8_clause_100 (by decide) r1 (fun q => ?_) (fun q => ?_)
  · have hp := hB q
    refine v_iload_n dX8_clause_110 rfl rfl ?_
    refine v_iconst dX8_clause_111 ?_
    obtain ⟨⟨r1, r2⟩, hA, hB⟩ := hp
    refine v_icmp_ne (tgt := 122) dX8_clause_112 (by decide) r1 r2 (fun q => ?_) (fun q => ?_)
    · have hp := hB q
      refine v_aload_n dX8_clause_122 rfl rfl ?_
      refine v_iload_n dX8_clause_123 rfl rfl ?_
      refine v_iload_n dX8_clause_124 rfl rfl ?_
      refine n_callVI (As := [vi x1, vi (((m3 304 14) + 1) + (3 * x2))]) (st := []) dX8_clause_125 ml_X8_220 mo_X8_line mv_X8_line sh_304 rfl rfl rfl rfl (Nat.le_of_ble_eq_true rfl) (Nat.le_of_ble_eq_true rfl) (by decide) hp (fun z6 m7 hp => ?_)
      exact n_weak (wk_s (wk_s (wk_n (wk_s (wk_s (wk_s wk_nil)))))) hp
    · have hp := hA q
      refine v_aload_n dX8_clause_115 rfl rfl ?_
      refine n_callVI (As := []) (st := []) dX8_clause_116 ml_X8_190 mo_X8_summed mv_X8_summed sh_304 rfl rfl rfl rfl (Nat.le_of_ble_eq_true rfl) (Nat.le_of_ble_eq_true rfl) (by decide) hp (fun z8 m9 hp => ?_)
      refine v_goto (tgt := 128) dX8_clause_119 (by decide) ?_
      exact n_weak (wk_s (wk_s (wk_n (wk_s (wk_s (wk_s wk_nil)))))) hp
  · have hp := hA q
    refine v_aload_n dX8_clause_103 rfl rfl ?_
    refine n_callVI (As := []) (st := []) dX8_clause_104 ml_X8_217 mo_X8_either mv_X8_either sh_304 rfl rfl rfl rfl (Nat.le_of_ble_eq_true rfl) (Nat.le_of_ble_eq_true rfl) (by decide) hp (fun z10 m11 hp => ?_)
    refine v_goto (tgt := 128) dX8_clause_107 (by decide) ?_
    exact n_weak (wk_s (wk_s (wk_n (wk_s (wk_s (wk_s wk_nil)))))) hp
theorem g_X8_clause_128 {G : GG} {d : Nat} {m : MM} {k : Int → MM → Prop} (x1 : Int) (x3 : Int) (x4 : Int) (s0 : Int)
    (hp : bEQ s0 0 (bLE 2 x1 (N G (d + 1) mi_X8_clause 165 [some (vr 304), none, none, none, none, none] [] m (RI k)) (∃ j2 : Nat, ((x3 + 1) = (j2 : Int) ∧ j2 < 2720) ∧ (∀ m1 : MM, m1 = upm m 308 j2 x4 → (∃ j4 : Nat, ((x3 + 2) = (j4 : Int) ∧ j4 < 2720) ∧ (∀ m3 : MM, m3 = upm m1 308 j4 (m1 304 16) → (N G (d + 1) mi_X8_clause 165 [some (vr 304), none, none, none, none, none] [] m3 (RI k))))))) (k s0 m)) :
    N G (d + 1) mi_X8_clause 128 [some (vr 304), some (vi x1), none, some (vi x3), some (vi x4), none] [vi s0] m (RI k) := by
  refine v_istore dX8_clause_128 (by decide) ?_
  refine v_iload dX8_clause_130 rfl ?_
  obtain ⟨⟨r1, r2⟩, hA, hB⟩ := hp
  refine v_if_eq (tgt := 138) dX8_clause_132 (by decide) r1 (fun q => ?_) (fun q => ?_)
  · have hp := hA q
    refine v_iload_n dX8_clause_138 rfl rfl ?_
    refine v_iconst dX8_clause_139 ?_
    obtain ⟨⟨r1, r2⟩, hA, hB⟩ := hp
    refine v_icmp_ge (tgt := 165) dX8_clause_140 (by decide) r2 r1 (fun q => ?_) (fun q => ?_)
    · have hp := hA q
      exact n_weak (wk_s (wk_n (wk_s (wk_n (wk_n (wk_n wk_nil)))))) hp
    · have hp := hB q
      refine v_aload_n dX8_clause_143 rfl rfl ?_
      refine n_getr dX8_clause_144 fo_X8_19 sh_304 rfl sr_304_4 ?_
      refine v_iload_n dX8_clause_147 rfl rfl ?_
      refine v_iconst dX8_clause_148 ?_
      refine v_iadd dX8_clause_149 ?_
      refine v_iload dX8_clause_150 rfl ?_
      obtain ⟨j2, ⟨ej2, bj2⟩, hp⟩ := hp
      refine w_iast (j := j2) dX8_clause_152 sh_308 ej2 bj2 (fun m1 em1 => ?_)
      have hp := hp m1 em1
      refine v_aload_n dX8_clause_153 rfl rfl ?_
      refine n_getr dX8_clause_154 fo_X8_19 sh_304 rfl sr_304_4 ?_
      refine v_iload_n dX8_clause_157 rfl rfl ?_
      refine v_iconst dX8_clause_158 ?_
      refine v_iadd dX8_clause_159 ?_
      refine v_aload_n dX8_clause_160 rfl rfl ?_
      refine n_geti dX8_clause_161 fo_X8_126 sh_304 rfl ?_
      obtain ⟨j4, ⟨ej4, bj4⟩, hp⟩ := hp
      refine w_iast (j := j4) dX8_clause_164 sh_308 ej4 bj4 (fun m3 em3 => ?_)
      have hp := hp m3 em3
      exact n_weak (wk_s (wk_n (wk_s (wk_n (wk_n (wk_n wk_nil)))))) hp
  · have hp := hB q
    refine v_iload dX8_clause_135 rfl ?_
    exact n_retI dX8_clause_137 rfl hp
theorem g_X8_clause_165 {G : GG} {d : Nat} {m : MM} {k : Int → MM → Prop} 
    (hp : ∃ j1 : Nat, ((m 304 14) = (j1 : Int) ∧ j1 < 2720) ∧ (∃ j3 : Nat, ((m 304 14) = (j3 : Int) ∧ j3 < 2720) ∧ (∀ m2 : MM, m2 = upm m 308 j3 ((m 308 j1) + 1) → (bEQ (m2 304 11) 59 (N G d mi_X8_nextToken 0 [some (vr 304), none, none] [] m2 (RV fun m5 => k 0 m5)) (k 1 m2))))) :
    N G (d + 1) mi_X8_clause 165 [some (vr 304), none, none, none, none, none] [] m (RI k) := by
  refine v_aload_n dX8_clause_165 rfl rfl ?_
  refine n_getr dX8_clause_166 fo_X8_19 sh_304 rfl sr_304_4 ?_
  refine v_aload_n dX8_clause_169 rfl rfl ?_
  refine n_geti dX8_clause_170 fo_X8_123 sh_304 rfl ?_
  refine v_dup2ir dX8_clause_173 ?_
  obtain ⟨j1, ⟨ej1, bj1⟩, hp⟩ := hp
  refine n_iald (j := j1) dX8_clause_174 sh_308 ej1 bj1 ?_
  refine v_iconst dX8_clause_175 ?_
  refine v_iadd dX8_clause_176 ?_
  obtain ⟨j3, ⟨ej3, bj3⟩, hp⟩ := hp
  refine w_iast (j := j3) dX8_clause_177 sh_308 ej3 bj3 (fun m2 em2 => ?_)
  have hp := hp m2 em2
  refine v_aload_n dX8_clause_178 rfl rfl ?_
  refine n_geti dX8_clause_179 fo_X8_97 sh_304 rfl ?_
  refine v_bipush dX8_clause_182 rfl ?_
  obtain ⟨⟨r1, r2⟩, hA, hB⟩ := hp
  refine v_icmp_eq (tgt := 189) dX8_clause_184 (by decide) r1 r2 (fun q => ?_) (fun q => ?_)
  · have hp := hA q
    refine v_aload_n dX8_clause_189 rfl rfl ?_
    refine n_callVV (As := []) (st := []) dX8_clause_190 ml_X8_154 mo_X8_nextToken mv_X8_nextToken sh_304 rfl rfl rfl rfl (Nat.le_of_ble_eq_true rfl) (Nat.le_of_ble_eq_true rfl) (by decide) hp (fun m5 hp => ?_)
    refine v_iconst dX8_clause_193 ?_
    exact n_retI dX8_clause_194 rfl hp
  · have hp := hB q
    refine v_iconst dX8_clause_187 ?_
    exact n_retI dX8_clause_188 rfl hp
theorem g_X8_readText_0 {G : GG} {d : Nat} {m : MM} {k : Int → MM → Prop} 
    (hp : ∀ m1 : MM, m1 = upm m 304 14 (680 * (m 305 3)) → (∃ j3 : Nat, ((m1 304 14) = (j3 : Int) ∧ j3 < 2720) ∧ (∀ m2 : MM, m2 = upm m1 308 j3 0 → (∀ m4 : MM, m4 = upm m2 304 16 0 → (∀ m5 : MM, m5 = upm m4 304 20 0 → (∀ m6 : MM, m6 = upm m5 304 23 0 → (∀ m7 : MM, m7 = upm m6 304 9 0 → (N G d mi_X8_nextToken 0 [some (vr 304), none, none] [] m7 (RV fun m9 => N G (d + 1) mi_X8_readText 48 [some (vr 304), none] [] m9 (RI k)))))))))) :
    N G (d + 1) mi_X8_readText 0 [some (vr 304), none] [] m (RI k) := by
  refine v_aload_n dX8_readText_0 rfl rfl ?_
  refine v_sipush dX8_readText_1 rfl ?_
  refine v_aload_n dX8_readText_4 rfl rfl ?_
  refine n_getr dX8_readText_5 fo_X8_7 sh_304 rfl sr_304_0 ?_
  refine v_iconst dX8_readText_8 ?_
  refine n_iald (j := 3) dX8_readText_9 sh_305 rfl (by decide) ?_
  refine v_imul dX8_readText_10 ?_
  refine w_puti dX8_readText_11 fw_X8_123 sh_304 rfl (fun m1 em1 => ?_)
  have hp := hp m1 em1
  refine v_aload_n dX8_readText_14 rfl rfl ?_
  refine n_getr dX8_readText_15 fo_X8_19 sh_304 rfl sr_304_4 ?_
  refine v_aload_n dX8_readText_18 rfl rfl ?_
  refine n_geti dX8_readText_19 fo_X8_123 sh_304 rfl ?_
  refine v_iconst dX8_readText_22 ?_
  obtain ⟨j3, ⟨ej3, bj3⟩, hp⟩ := hp
  refine w_iast (j := j3) dX8_readText_23 sh_308 ej3 bj3 (fun m2 em2 => ?_)
  have hp := hp m2 em2
  refine v_aload_n dX8_readText_24 rfl rfl ?_
  refine v_iconst dX8_readText_25 ?_
  refine w_puti dX8_readText_26 fw_X8_126 sh_304 rfl (fun m4 em4 => ?_)
  have hp := hp m4 em4
  refine v_aload_n dX8_readText_29 rfl rfl ?_
  refine v_iconst dX8_readText_30 ?_
  refine w_puti dX8_readText_31 fw_X8_136 sh_304 rfl (fun m5 em5 => ?_)
  have hp := hp m5 em5
  refine v_aload_n dX8_readText_34 rfl rfl ?_
  refine v_iconst dX8_readText_35 ?_
  refine w_puti dX8_readText_36 fw_X8_214 sh_304 rfl (fun m6 em6 => ?_)
  have hp := hp m6 em6
  refine v_aload_n dX8_readText_39 rfl rfl ?_
  refine v_iconst dX8_readText_40 ?_
  refine w_puti dX8_readText_41 fw_X8_87 sh_304 rfl (fun m7 em7 => ?_)
  have hp := hp m7 em7
  refine v_aload_n dX8_readText_44 rfl rfl ?_
  refine n_callVV (As := []) (st := []) dX8_readText_45 ml_X8_154 mo_X8_nextToken mv_X8_nextToken sh_304 rfl rfl rfl rfl (Nat.le_of_ble_eq_true rfl) (Nat.le_of_ble_eq_true rfl) (by decide) hp (fun m9 hp => ?_)
  exact hp
theorem g_X8_readText_48 {G : GG} {d : Nat} {m : MM} {k : Int → MM → Prop} 
    (hp : bEQ (m 304 11) 0 (k 0 m) (N G d mi_X8_clause 0 [some (vr 304), none, none, none, none, none] [] m (RI fun z1 m2 => bEQ z1 0 (N G (d + 1) mi_X8_readText 48 [some (vr 304), none] [] m2 (RI k)) (k z1 m2)))) :
    N G (d + 1) mi_X8_readText 48 [some (vr 304), none] [] m (RI k) := by
  refine v_aload_n dX8_readText_48 rfl rfl ?_
  refine n_geti dX8_readText_49 fo_X8_97 sh_304 rfl ?_
  obtain ⟨⟨r1, r2⟩, hA, hB⟩ := hp
  refine v_if_eq (tgt := 69) dX8_readText_52 (by decide) r1 (fun q => ?_) (fun q => ?_)
  · have hp := hA q
    refine v_iconst dX8_readText_69 ?_
    exact n_retI dX8_readText_70 rfl hp
  · have hp := hB q
    refine v_aload_n dX8_readText_55 rfl rfl ?_
    refine n_callVI (As := []) (st := []) dX8_readText_56 ml_X8_223 mo_X8_clause mv_X8_clause sh_304 rfl rfl rfl rfl (Nat.le_of_ble_eq_true rfl) (Nat.le_of_ble_eq_true rfl) (by decide) hp (fun z1 m2 hp => ?_)
    refine v_istore_n dX8_readText_59 rfl (by decide) ?_
    refine v_iload_n dX8_readText_60 rfl rfl ?_
    obtain ⟨⟨r1, r2⟩, hA, hB⟩ := hp
    refine v_if_eq (tgt := 66) dX8_readText_61 (by decide) r1 (fun q => ?_) (fun q => ?_)
    · have hp := hA q
      refine v_goto (tgt := 48) dX8_readText_66 (by decide) ?_
      exact n_weak (wk_s (wk_n wk_nil)) hp
    · have hp := hB q
      refine v_iload_n dX8_readText_64 rfl rfl ?_
      exact n_retI dX8_readText_65 rfl hp
theorem g_X8_text_0 {G : GG} {d : Nat} {m : MM} {k : Int → MM → Prop} 
    (hp : bEQ (m 305 3) 4 (k (-1) m) (N G d mi_X8_readText 0 [some (vr 304), none] [] m (RI fun z1 m2 => ∀ m3 : MM, m3 = upm m2 304 7 z1 → (bEQ (m3 304 7) 0 (N G (d + 1) mi_X8_text 36 [some (vr 304)] [vi (-1), vr 304] m3 (RI k)) (N G (d + 1) mi_X8_text 36 [some (vr 304)] [vi (m3 304 10), vr 304] m3 (RI k)))))) :
    N G (d + 1) mi_X8_text 0 [some (vr 304)] [] m (RI k) := by
  refine v_aload_n dX8_text_0 rfl rfl ?_
  refine n_getr dX8_text_1 fo_X8_7 sh_304 rfl sr_304_0 ?_
  refine v_iconst dX8_text_4 ?_
  refine n_iald (j := 3) dX8_text_5 sh_305 rfl (by decide) ?_
  refine v_iconst dX8_text_6 ?_
  obtain ⟨⟨r1, r2⟩, hA, hB⟩ := hp
  refine v_icmp_ne (tgt := 12) dX8_text_7 (by decide) r1 r2 (fun q => ?_) (fun q => ?_)
  · have hp := hB q
    refine v_aload_n dX8_text_12 rfl rfl ?_
    refine v_aload_n dX8_text_13 rfl rfl ?_
    refine n_callVI (As := []) (st := [vr 304]) dX8_text_14 ml_X8_226 mo_X8_readText mv_X8_readText sh_304 rfl rfl rfl rfl (Nat.le_of_ble_eq_true rfl) (Nat.le_of_ble_eq_true rfl) (by decide) hp (fun z1 m2 hp => ?_)
    refine w_puti dX8_text_17 fw_X8_25 sh_304 rfl (fun m3 em3 => ?_)
    have hp := hp m3 em3
    refine v_aload_n dX8_text_20 rfl rfl ?_
    refine v_aload_n dX8_text_21 rfl rfl ?_
    refine n_geti dX8_text_22 fo_X8_25 sh_304 rfl ?_
    obtain ⟨⟨r1, r2⟩, hA, hB⟩ := hp
    refine v_if_ne (tgt := 32) dX8_text_25 (by decide) r1 (fun q => ?_) (fun q => ?_)
    · have hp := hB q
      refine v_aload_n dX8_text_32 rfl rfl ?_
      refine n_geti dX8_text_33 fo_X8_94 sh_304 rfl ?_
      exact hp
    · have hp := hA q
      refine v_iconst dX8_text_28 ?_
      refine v_goto (tgt := 36) dX8_text_29 (by decide) ?_
      exact hp
  · have hp := hA q
    refine v_iconst dX8_text_10 ?_
    exact n_retI dX8_text_11 rfl hp
theorem g_X8_text_36 {G : GG} {d : Nat} {m : MM} {k : Int → MM → Prop} (s0 : Int)
    (hp : ∀ m1 : MM, m1 = upm m 304 8 s0 → (∀ m2 : MM, m2 = upm m1 304 6 0 → (bEQ (m2 304 7) 0 (∀ m3 : MM, m3 = upm m2 305 3 ((m2 305 3) + 1) → (k ((m3 305 3) - 1) m3)) (k (-1) m2)))) :
    N G (d + 1) mi_X8_text 36 [some (vr 304)] [vi s0, vr 304] m (RI k) := by
  refine w_puti dX8_text_36 fw_X8_29 sh_304 rfl (fun m1 em1 => ?_)
  have hp := hp m1 em1
  refine v_aload_n dX8_text_39 rfl rfl ?_
  refine v_iconst dX8_text_40 ?_
  refine w_puti dX8_text_41 fw_X8_81 sh_304 rfl (fun m2 em2 => ?_)
  have hp := hp m2 em2
  refine v_aload_n dX8_text_44 rfl rfl ?_
  refine n_geti dX8_text_45 fo_X8_25 sh_304 rfl ?_
  obtain ⟨⟨r1, r2⟩, hA, hB⟩ := hp
  refine v_if_eq (tgt := 53) dX8_text_48 (by decide) r1 (fun q => ?_) (fun q => ?_)
  · have hp := hA q
    refine v_aload_n dX8_text_53 rfl rfl ?_
    refine n_getr dX8_text_54 fo_X8_7 sh_304 rfl sr_304_0 ?_
    refine v_iconst dX8_text_57 ?_
    refine v_dup2ir dX8_text_58 ?_
    refine n_iald (j := 3) dX8_text_59 sh_305 rfl (by decide) ?_
    refine v_iconst dX8_text_60 ?_
    refine v_iadd dX8_text_61 ?_
    refine w_iast (j := 3) dX8_text_62 sh_305 rfl (by decide) (fun m3 em3 => ?_)
    have hp := hp m3 em3
    refine v_aload_n dX8_text_63 rfl rfl ?_
    refine n_getr dX8_text_64 fo_X8_7 sh_304 rfl sr_304_0 ?_
    refine v_iconst dX8_text_67 ?_
    refine n_iald (j := 3) dX8_text_68 sh_305 rfl (by decide) ?_
    refine v_iconst dX8_text_69 ?_
    refine v_isub dX8_text_70 ?_
    exact n_retI dX8_text_71 rfl hp
  · have hp := hB q
    refine v_iconst dX8_text_51 ?_
    exact n_retI dX8_text_52 rfl hp
theorem g_X8_fault_0 {G : GG} {d : Nat} {m : MM} {k : Int → MM → Prop} (x1 : Int)
    (hp : bEQ x1 0 (k (m 304 7) m) (bEQ x1 1 (k (m 304 8) m) (k (-1) m))) :
    N G d mi_X8_fault 0 [some (vr 304), some (vi x1)] [] m (RI k) := by
  refine v_iload_n dX8_fault_0 rfl rfl ?_
  obtain ⟨⟨r1, r2⟩, hA, hB⟩ := hp
  refine v_if_ne (tgt := 11) dX8_fault_1 (by decide) r1 (fun q => ?_) (fun q => ?_)
  · have hp := hB q
    refine v_iload_n dX8_fault_11 rfl rfl ?_
    refine v_iconst dX8_fault_12 ?_
    obtain ⟨⟨r1, r2⟩, hA, hB⟩ := hp
    refine v_icmp_ne (tgt := 23) dX8_fault_13 (by decide) r1 r2 (fun q => ?_) (fun q => ?_)
    · have hp := hB q
      refine v_iconst dX8_fault_23 ?_
      exact n_retI dX8_fault_24 rfl hp
    · have hp := hA q
      refine v_aload_n dX8_fault_16 rfl rfl ?_
      refine n_geti dX8_fault_17 fo_X8_29 sh_304 rfl ?_
      refine v_goto (tgt := 24) dX8_fault_20 (by decide) ?_
      exact n_retI dX8_fault_24 rfl hp
  · have hp := hA q
    refine v_aload_n dX8_fault_4 rfl rfl ?_
    refine n_geti dX8_fault_5 fo_X8_25 sh_304 rfl ?_
    refine v_goto (tgt := 24) dX8_fault_8 (by decide) ?_
    exact n_retI dX8_fault_24 rfl hp
theorem g_X8_isText_0 {G : GG} {d : Nat} {m : MM} {k : Int → MM → Prop} (x1 : Int)
    (hp : N G d mi_X8_isIn 0 [some (vi x1), some (vi 0), some (vi ((m 305 3) - 1))] [] m (RI fun z1 m2 => (z1 = 0 ∨ z1 = 1) ∧ (k z1 m2))) :
    N G (d + 1) mi_X8_isText 0 [some (vr 304), some (vi x1)] [] m (RI k) := by
  refine v_iload_n dX8_isText_0 rfl rfl ?_
  refine v_iconst dX8_isText_1 ?_
  refine v_aload_n dX8_isText_2 rfl rfl ?_
  refine n_getr dX8_isText_3 fo_X8_7 sh_304 rfl sr_304_0 ?_
  refine v_iconst dX8_isText_6 ?_
  refine n_iald (j := 3) dX8_isText_7 sh_305 rfl (by decide) ?_
  refine v_iconst dX8_isText_8 ?_
  refine v_isub dX8_isText_9 ?_
  refine n_callSI (As := [vi x1, vi 0, vi ((m 305 3) - 1)]) (st := []) dX8_isText_10 ml_X8_69 mo_X8_isIn ms_X8_isIn rfl rfl (Nat.le_of_ble_eq_true rfl) (Nat.le_of_ble_eq_true rfl) (by decide) hp (fun z1 m2 hp => ?_)
  exact n_retZ dX8_isText_13 rfl hp.1 hp.2
theorem g_X8_by_0 {G : GG} {d : Nat} {m : MM} {k : Int → MM → Prop} (x1 : Int)
    (hp : bEQ x1 (-1) (∀ m1 : MM, m1 = upm m 305 4 x1 → (k 1 m1)) (N G d mi_X8_isText 0 [some (vr 304), some (vi x1)] [] m (RI fun z2 m3 => bEQ z2 0 (k 0 m3) (∀ m4 : MM, m4 = upm m3 305 4 x1 → (k 1 m4))))) :
    N G (d + 1) mi_X8_by 0 [some (vr 304), some (vi x1)] [] m (RI k) := by
  refine v_iload_n dX8_by_0 rfl rfl ?_
  refine v_iconst dX8_by_1 ?_
  obtain ⟨⟨r1, r2⟩, hA, hB⟩ := hp
  refine v_icmp_eq (tgt := 15) dX8_by_2 (by decide) r1 r2 (fun q => ?_) (fun q => ?_)
  · have hp := hA q
    refine v_aload_n dX8_by_15 rfl rfl ?_
    refine n_getr dX8_by_16 fo_X8_7 sh_304 rfl sr_304_0 ?_
    refine v_iconst dX8_by_19 ?_
    refine v_iload_n dX8_by_20 rfl rfl ?_
    refine w_iast (j := 4) dX8_by_21 sh_305 rfl (by decide) (fun m1 em1 => ?_)
    have hp := hp m1 em1
    refine v_iconst dX8_by_22 ?_
    exact n_retZ dX8_by_23 rfl (by decide) hp
  · have hp := hB q
    refine v_aload_n dX8_by_5 rfl rfl ?_
    refine v_iload_n dX8_by_6 rfl rfl ?_
    refine n_callVI (As := [vi x1]) (st := []) dX8_by_7 ml_X8_229 mo_X8_isText mv_X8_isText sh_304 rfl rfl rfl rfl (Nat.le_of_ble_eq_true rfl) (Nat.le_of_ble_eq_true rfl) (by decide) hp (fun z2 m3 hp => ?_)
    obtain ⟨⟨r1, r2⟩, hA, hB⟩ := hp
    refine v_if_ne (tgt := 15) dX8_by_10 (by decide) r1 (fun q => ?_) (fun q => ?_)
    · have hp := hB q
      refine v_aload_n dX8_by_15 rfl rfl ?_
      refine n_getr dX8_by_16 fo_X8_7 sh_304 rfl sr_304_0 ?_
      refine v_iconst dX8_by_19 ?_
      refine v_iload_n dX8_by_20 rfl rfl ?_
      refine w_iast (j := 4) dX8_by_21 sh_305 rfl (by decide) (fun m4 em4 => ?_)
      have hp := hp m4 em4
      refine v_iconst dX8_by_22 ?_
      exact n_retZ dX8_by_23 rfl (by decide) hp
    · have hp := hA q
      refine v_iconst dX8_by_13 ?_
      exact n_retZ dX8_by_14 rfl (by decide) hp
theorem g_X8_clip_0 {G : GG} {d : Nat} {m : MM} {k : Int → MM → Prop} (x0 : Int)
    (hp : (rnl x0 ∧ rnl 1000000) ∧ (bLE (lcm x0 1000000) 0 ((rnl x0 ∧ rnl (-1000000)) ∧ (bLE 0 (lcm x0 (-1000000)) (k x0 m) (k (-1000000) m))) (k 1000000 m))) :
    N G d mi_X8_clip 0 [some (vl x0), none] [] m (RJG k) := by
  refine v_lload_n dX8_clip_0 rfl rfl ?_
  refine v_ldc2 dX8_clip_1 cl_X8_232 ?_
  obtain ⟨hg, hp⟩ := hp
  refine v_lcmp dX8_clip_4 hg.1 hg.2 ?_
  obtain ⟨⟨r1, r2⟩, hA, hB⟩ := hp
  refine v_if_le (tgt := 14) dX8_clip_5 (by decide) r1 (fun q => ?_) (fun q => ?_)
  · have hp := hA q
    refine v_lload_n dX8_clip_14 rfl rfl ?_
    refine v_ldc2 dX8_clip_15 cl_X8_234 ?_
    obtain ⟨hg, hp⟩ := hp
    refine v_lcmp dX8_clip_18 hg.1 hg.2 ?_
    obtain ⟨⟨r1, r2⟩, hA, hB⟩ := hp
    refine v_if_ge (tgt := 28) dX8_clip_19 (by decide) r2 (fun q => ?_) (fun q => ?_)
    · have hp := hA q
      refine v_lload_n dX8_clip_28 rfl rfl ?_
      exact n_retL dX8_clip_29 rfl hp
    · have hp := hB q
      refine v_ldc2 dX8_clip_22 cl_X8_234 ?_
      refine v_goto (tgt := 29) dX8_clip_25 (by decide) ?_
      exact n_retL dX8_clip_29 rfl hp
  · have hp := hB q
    refine v_ldc2 dX8_clip_8 cl_X8_232 ?_
    refine v_goto (tgt := 29) dX8_clip_11 (by decide) ?_
    exact n_retL dX8_clip_29 rfl hp
theorem g_X8_two_0 {G : GG} {d : Nat} {m : MM} {k : Int → MM → Prop} (x0 : Int) (x1 : Int) (x3 : Int)
    (hp : (rng x0) ∧ (x0 = 3 → (N G d mi_X8_clip 0 [some (vl (x1 + x3)), none] [] m (RJG fun z1 m2 => k z1 m2))) ∧ (x0 = 4 → (N G d mi_X8_clip 0 [some (vl (x1 - x3)), none] [] m (RJG fun z3 m4 => k z3 m4))) ∧ (x0 = 5 → (N G d mi_X8_clip 0 [some (vl (x1 * x3)), none] [] m (RJG fun z5 m6 => k z5 m6))) ∧ ((x0 < 3 ∨ 5 < x0) → ((rnl x3 ∧ rnl 0) ∧ (bEQ (lcm x3 0) 0 (k 0 m) ((rnl x3 ∧ x3 ≠ 0) ∧ (N G d mi_X8_clip 0 [some (vl (ldiv x1 x3)), none] [] m (RJG fun z7 m8 => k z7 m8))))))) :
    N G (d + 1) mi_X8_two 0 [some (vi x0), some (vl x1), none, some (vl x3), none] [] m (RJG k) := by
  refine v_iload_n dX8_two_0 rfl rfl ?_
  obtain ⟨hz, h_0, h_1, h_2, hd⟩ := hp
  by_cases hq : x0 < 3 ∨ 5 < x0
  · have hp := hd hq
    refine v_tableOut (tgt := 49) dX8_two_1 hz hq (by decide) ?_
    refine v_lload_n dX8_two_49 rfl rfl ?_
    refine v_lconst (z := 0) dX8_two_50 rfl ?_
    obtain ⟨hg, hp⟩ := hp
    refine v_lcmp dX8_two_51 hg.1 hg.2 ?_
    obtain ⟨⟨r1, r2⟩, hA, hB⟩ := hp
    refine v_if_ne (tgt := 59) dX8_two_52 (by decide) r1 (fun q => ?_) (fun q => ?_)
    · have hp := hB q
      refine v_lload_n dX8_two_59 rfl rfl ?_
      refine v_lload_n dX8_two_60 rfl rfl ?_
      obtain ⟨hg, hp⟩ := hp
      refine v_ldiv dX8_two_61 hg.1 hg.2 ?_
      refine n_callSL (As := [vl (ldiv x1 x3)]) (st := []) dX8_two_62 ml_X8_236 mo_X8_clip ms_X8_clip rfl rfl (Nat.le_of_ble_eq_true rfl) (Nat.le_of_ble_eq_true rfl) (by decide) hp (fun z7 m8 hp => ?_)
      exact n_retL dX8_two_65 rfl hp
    · have hp := hA q
      refine v_lconst (z := 0) dX8_two_55 rfl ?_
      refine v_goto (tgt := 65) dX8_two_56 (by decide) ?_
      exact n_retL dX8_two_65 rfl hp
  have hc : x0 = 3 ∨ x0 = 4 ∨ x0 = 5 := by omega
  rcases hc with hc | hc | hc
  · have hp := h_0 hc
    refine v_tableIn (tgt := 28) (off := 27) dX8_two_1 hz (by omega) (by omega) (by rw [hc]; rfl) (by decide) ?_
    refine v_lload_n dX8_two_28 rfl rfl ?_
    refine v_lload_n dX8_two_29 rfl rfl ?_
    refine v_ladd dX8_two_30 ?_
    refine n_callSL (As := [vl (x1 + x3)]) (st := []) dX8_two_31 ml_X8_236 mo_X8_clip ms_X8_clip rfl rfl (Nat.le_of_ble_eq_true rfl) (Nat.le_of_ble_eq_true rfl) (by decide) hp (fun z1 m2 hp => ?_)
    exact n_retL dX8_two_34 rfl hp
  · have hp := h_1 hc
    refine v_tableIn (tgt := 35) (off := 34) dX8_two_1 hz (by omega) (by omega) (by rw [hc]; rfl) (by decide) ?_
    refine v_lload_n dX8_two_35 rfl rfl ?_
    refine v_lload_n dX8_two_36 rfl rfl ?_
    refine v_lsub dX8_two_37 ?_
    refine n_callSL (As := [vl (x1 - x3)]) (st := []) dX8_two_38 ml_X8_236 mo_X8_clip ms_X8_clip rfl rfl (Nat.le_of_ble_eq_true rfl) (Nat.le_of_ble_eq_true rfl) (by decide) hp (fun z3 m4 hp => ?_)
    exact n_retL dX8_two_41 rfl hp
  · have hp := h_2 hc
    refine v_tableIn (tgt := 42) (off := 41) dX8_two_1 hz (by omega) (by omega) (by rw [hc]; rfl) (by decide) ?_
    refine v_lload_n dX8_two_42 rfl rfl ?_
    refine v_lload_n dX8_two_43 rfl rfl ?_
    refine v_lmul dX8_two_44 ?_
    refine n_callSL (As := [vl (x1 * x3)]) (st := []) dX8_two_45 ml_X8_236 mo_X8_clip ms_X8_clip rfl rfl (Nat.le_of_ble_eq_true rfl) (Nat.le_of_ble_eq_true rfl) (by decide) hp (fun z5 m6 hp => ?_)
    exact n_retL dX8_two_48 rfl hp
theorem g_X8_isAsked_0 {G : GG} {d : Nat} {m : MM} {k : Int → MM → Prop} (x0 : Int) (x1 : Int) (x3 : Int)
    (hp : bEQ x0 10 ((rnl x1 ∧ rnl x3) ∧ (bLE 0 (lcm x1 x3) (k 0 m) (k 1 m))) (bEQ x0 11 ((rnl x1 ∧ rnl x3) ∧ (bLT 0 (lcm x1 x3) (k 0 m) (k 1 m))) (bEQ x0 12 ((rnl x1 ∧ rnl x3) ∧ (bLE (lcm x1 x3) 0 (k 0 m) (k 1 m))) (bEQ x0 13 ((rnl x1 ∧ rnl x3) ∧ (bLT (lcm x1 x3) 0 (k 0 m) (k 1 m))) (bEQ x0 14 ((rnl x1 ∧ rnl x3) ∧ (bEQ (lcm x1 x3) 0 (k 1 m) (k 0 m))) ((rnl x1 ∧ rnl x3) ∧ (bEQ (lcm x1 x3) 0 (k 0 m) (k 1 m)))))))) :
    N G d mi_X8_isAsked 0 [some (vi x0), some (vl x1), none, some (vl x3), none] [] m (RI k) := by
  refine v_iload_n dX8_isAsked_0 rfl rfl ?_
  refine v_bipush dX8_isAsked_1 rfl ?_
  obtain ⟨⟨r1, r2⟩, hA, hB⟩ := hp
  refine v_icmp_ne (tgt := 20) dX8_isAsked_3 (by decide) r1 r2 (fun q => ?_) (fun q => ?_)
  · have hp := hB q
    refine v_iload_n dX8_isAsked_20 rfl rfl ?_
    refine v_bipush dX8_isAsked_21 rfl ?_
    obtain ⟨⟨r1, r2⟩, hA, hB⟩ := hp
    refine v_icmp_ne (tgt := 40) dX8_isAsked_23 (by decide) r1 r2 (fun q => ?_) (fun q => ?_)
    · have hp := hB q
      refine v_iload_n dX8_isAsked_40 rfl rfl ?_
      refine v_bipush dX8_isAsked_41 rfl ?_
      obtain ⟨⟨r1, r2⟩, hA, hB⟩ := hp
      refine v_icmp_ne (tgt := 60) dX8_isAsked_43 (by decide) r1 r2 (fun q => ?_) (fun q => ?_)
      · have hp := hB q
        refine v_iload_n dX8_isAsked_60 rfl rfl ?_
        refine v_bipush dX8_isAsked_61 rfl ?_
        obtain ⟨⟨r1, r2⟩, hA, hB⟩ := hp
        refine v_icmp_ne (tgt := 80) dX8_isAsked_63 (by decide) r1 r2 (fun q => ?_) (fun q => ?_)
        · have hp := hB q
          refine v_iload_n dX8_isAsked_80 rfl rfl ?_
          refine v_bipush dX8_isAsked_81 rfl ?_
          obtain ⟨⟨r1, r2⟩, hA, hB⟩ := hp
          refine v_icmp_ne (tgt := 100) dX8_isAsked_83 (by decide) r1 r2 (fun q => ?_) (fun q => ?_)
          · have hp := hB q
            refine v_lload_n dX8_isAsked_100 rfl rfl ?_
            refine v_lload_n dX8_isAsked_101 rfl rfl ?_
            obtain ⟨hg, hp⟩ := hp
            refine v_lcmp dX8_isAsked_102 hg.1 hg.2 ?_
            obtain ⟨⟨r1, r2⟩, hA, hB⟩ := hp
            refine v_if_eq (tgt := 110) dX8_isAsked_103 (by decide) r1 (fun q => ?_) (fun q => ?_)
            · have hp := hA q
              refine v_iconst dX8_isAsked_110 ?_
              exact n_retZ dX8_isAsked_111 rfl (by decide) hp
            · have hp := hB q
              refine v_iconst dX8_isAsked_106 ?_
              refine v_goto (tgt := 111) dX8_isAsked_107 (by decide) ?_
              exact n_retZ dX8_isAsked_111 rfl (by decide) hp
          · have hp := hA q
            refine v_lload_n dX8_isAsked_86 rfl rfl ?_
            refine v_lload_n dX8_isAsked_87 rfl rfl ?_
            obtain ⟨hg, hp⟩ := hp
            refine v_lcmp dX8_isAsked_88 hg.1 hg.2 ?_
            obtain ⟨⟨r1, r2⟩, hA, hB⟩ := hp
            refine v_if_ne (tgt := 96) dX8_isAsked_89 (by decide) r1 (fun q => ?_) (fun q => ?_)
            · have hp := hB q
              refine v_iconst dX8_isAsked_96 ?_
              refine v_goto (tgt := 111) dX8_isAsked_97 (by decide) ?_
              exact n_retZ dX8_isAsked_111 rfl (by decide) hp
            · have hp := hA q
              refine v_iconst dX8_isAsked_92 ?_
              refine v_goto (tgt := 111) dX8_isAsked_93 (by decide) ?_
              exact n_retZ dX8_isAsked_111 rfl (by decide) hp
        · have hp := hA q
          refine v_lload_n dX8_isAsked_66 rfl rfl ?_
          refine v_lload_n dX8_isAsked_67 rfl rfl ?_
          obtain ⟨hg, hp⟩ := hp
          refine v_lcmp dX8_isAsked_68 hg.1 hg.2 ?_
          obtain ⟨⟨r1, r2⟩, hA, hB⟩ := hp
          refine v_if_lt (tgt := 76) dX8_isAsked_69 (by decide) r1 (fun q => ?_) (fun q => ?_)
          · have hp := hA q
            refine v_iconst dX8_isAsked_76 ?_
            refine v_goto (tgt := 111) dX8_isAsked_77 (by decide) ?_
            exact n_retZ dX8_isAsked_111 rfl (by decide) hp
          · have hp := hB q
            refine v_iconst dX8_isAsked_72 ?_
            refine v_goto (tgt := 111) dX8_isAsked_73 (by decide) ?_
            exact n_retZ dX8_isAsked_111 rfl (by decide) hp
      · have hp := hA q
        refine v_lload_n dX8_isAsked_46 rfl rfl ?_
        refine v_lload_n dX8_isAsked_47 rfl rfl ?_
        obtain ⟨hg, hp⟩ := hp
        refine v_lcmp dX8_isAsked_48 hg.1 hg.2 ?_
        obtain ⟨⟨r1, r2⟩, hA, hB⟩ := hp
        refine v_if_le (tgt := 56) dX8_isAsked_49 (by decide) r1 (fun q => ?_) (fun q => ?_)
        · have hp := hA q
          refine v_iconst dX8_isAsked_56 ?_
          refine v_goto (tgt := 111) dX8_isAsked_57 (by decide) ?_
          exact n_retZ dX8_isAsked_111 rfl (by decide) hp
        · have hp := hB q
          refine v_iconst dX8_isAsked_52 ?_
          refine v_goto (tgt := 111) dX8_isAsked_53 (by decide) ?_
          exact n_retZ dX8_isAsked_111 rfl (by decide) hp
    · have hp := hA q
      refine v_lload_n dX8_isAsked_26 rfl rfl ?_
      refine v_lload_n dX8_isAsked_27 rfl rfl ?_
      obtain ⟨hg, hp⟩ := hp
      refine v_lcmp dX8_isAsked_28 hg.1 hg.2 ?_
      obtain ⟨⟨r1, r2⟩, hA, hB⟩ := hp
      refine v_if_gt (tgt := 36) dX8_isAsked_29 (by decide) r2 (fun q => ?_) (fun q => ?_)
      · have hp := hA q
        refine v_iconst dX8_isAsked_36 ?_
        refine v_goto (tgt := 111) dX8_isAsked_37 (by decide) ?_
        exact n_retZ dX8_isAsked_111 rfl (by decide) hp
      · have hp := hB q
        refine v_iconst dX8_isAsked_32 ?_
        refine v_goto (tgt := 111) dX8_isAsked_33 (by decide) ?_
        exact n_retZ dX8_isAsked_111 rfl (by decide) hp
  · have hp := hA q
    refine v_lload_n dX8_isAsked_6 rfl rfl ?_
    refine v_lload_n dX8_isAsked_7 rfl rfl ?_
    obtain ⟨hg, hp⟩ := hp
    refine v_lcmp dX8_isAsked_8 hg.1 hg.2 ?_
    obtain ⟨⟨r1, r2⟩, hA, hB⟩ := hp
    refine v_if_ge (tgt := 16) dX8_isAsked_9 (by decide) r2 (fun q => ?_) (fun q => ?_)
    · have hp := hA q
      refine v_iconst dX8_isAsked_16 ?_
      refine v_goto (tgt := 111) dX8_isAsked_17 (by decide) ?_
      exact n_retZ dX8_isAsked_111 rfl (by decide) hp
    · have hp := hB q
      refine v_iconst dX8_isAsked_12 ?_
      refine v_goto (tgt := 111) dX8_isAsked_13 (by decide) ?_
      exact n_retZ dX8_isAsked_111 rfl (by decide) hp
theorem g_X8_work_0 {G : GG} {d : Nat} {m : MM} {k : MM → Prop} (x1 : Int)
    (hp : ∃ j1 : Nat, (((((680 * (m 305 4)) + 1) + (3 * x1)) + 1) = (j1 : Int) ∧ j1 < 2720) ∧ (N G (d + 1) mi_X8_work 47 [some (vr 304), none, some (vi (((680 * (m 305 4)) + 1) + (3 * x1))), some (vi ((680 * (m 305 4)) + 75)), some (vi 0), some (vi 0), some (vi (m 308 j1)), none, none] [] m (RV k))) :
    N G (d + 1) mi_X8_work 0 [some (vr 304), some (vi x1), none, none, none, none, none, none, none] [] m (RV k) := by
  refine v_sipush dX8_work_0 rfl ?_
  refine v_aload_n dX8_work_3 rfl rfl ?_
  refine n_getr dX8_work_4 fo_X8_7 sh_304 rfl sr_304_0 ?_
  refine v_iconst dX8_work_7 ?_
  refine n_iald (j := 4) dX8_work_8 sh_305 rfl (by decide) ?_
  refine v_imul dX8_work_9 ?_
  refine v_iconst dX8_work_10 ?_
  refine v_iadd dX8_work_11 ?_
  refine v_iconst dX8_work_12 ?_
  refine v_iload_n dX8_work_13 rfl rfl ?_
  refine v_imul dX8_work_14 ?_
  refine v_iadd dX8_work_15 ?_
  refine v_istore_n dX8_work_16 rfl (by decide) ?_
  refine v_sipush dX8_work_17 rfl ?_
  refine v_aload_n dX8_work_20 rfl rfl ?_
  refine n_getr dX8_work_21 fo_X8_7 sh_304 rfl sr_304_0 ?_
  refine v_iconst dX8_work_24 ?_
  refine n_iald (j := 4) dX8_work_25 sh_305 rfl (by decide) ?_
  refine v_imul dX8_work_26 ?_
  refine v_bipush dX8_work_27 rfl ?_
  refine v_iadd dX8_work_29 ?_
  refine v_istore_n dX8_work_30 rfl (by decide) ?_
  refine v_iconst dX8_work_31 ?_
  refine v_istore dX8_work_32 (by decide) ?_
  refine v_iconst dX8_work_34 ?_
  refine v_istore dX8_work_35 (by decide) ?_
  refine v_aload_n dX8_work_37 rfl rfl ?_
  refine n_getr dX8_work_38 fo_X8_19 sh_304 rfl sr_304_4 ?_
  refine v_iload_n dX8_work_41 rfl rfl ?_
  refine v_iconst dX8_work_42 ?_
  refine v_iadd dX8_work_43 ?_
  obtain ⟨j1, ⟨ej1, bj1⟩, hp⟩ := hp
  refine n_iald (j := j1) dX8_work_44 sh_308 ej1 bj1 ?_
  refine v_istore dX8_work_45 (by decide) ?_
  exact n_weak (wk_s (wk_n (wk_s (wk_s (wk_s (wk_s (wk_s (wk_s (wk_s wk_nil))))))))) hp
theorem g_X8_work_47 {G : GG} {d : Nat} {m : MM} {k : MM → Prop} (x2 : Int) (x3 : Int) (x4 : Int) (x5 : Int) (x6 : Int)
    (hp : ∃ j1 : Nat, ((x2 + 2) = (j1 : Int) ∧ j1 < 2720) ∧ (bLE (m 308 j1) x6 (k m) (∃ j2 : Nat, ((x3 + (2 * x6)) = (j2 : Int) ∧ j2 < 2720) ∧ (∃ j3 : Nat, (((x3 + (2 * x6)) + 1) = (j3 : Int) ∧ j3 < 2720) ∧ (bLT 1 (m 308 j2) (bEQ (m 308 j2) 2 (∃ j37 : Nat, ((x4 - 1) = (j37 : Int) ∧ j37 < 330) ∧ (∃ j39 : Nat, ((x4 - 1) = (j39 : Int) ∧ j39 < 330) ∧ (∀ m38 : MM, m38 = upm m 312 j39 (-(m 312 j37)) → (N G (d + 1) mi_X8_work 47 [some (vr 304), none, some (vi x2), some (vi x3), some (vi x4), some (vi x5), some (vi (x6 + 1)), none, none] [] m38 (RV k))))) (bLE 10 (m 308 j2) (bLE 20 (m 308 j2) (bEQ (m 308 j2) 20 (∃ j20 : Nat, ((x5 - 1) = (j20 : Int) ∧ j20 < 330) ∧ (bEQ (m 313 j20) 0 (∃ j24 : Nat, ((x5 - 1) = (j24 : Int) ∧ j24 < 330) ∧ (∀ m23 : MM, m23 = upm m 313 j24 (i2z 1) → (N G (d + 1) mi_X8_work 47 [some (vr 304), none, some (vi x2), some (vi x3), some (vi x4), some (vi x5), some (vi (x6 + 1)), none, none] [] m23 (RV k)))) (∃ j22 : Nat, ((x5 - 1) = (j22 : Int) ∧ j22 < 330) ∧ (∀ m21 : MM, m21 = upm m 313 j22 (i2z 0) → (N G (d + 1) mi_X8_work 47 [some (vr 304), none, some (vi x2), some (vi x3), some (vi x4), some (vi x5), some (vi (x6 + 1)), none, none] [] m21 (RV k)))))) (bEQ (m 308 j2) 21 (∃ j12 : Nat, (((x5 + (-1)) - 1) = (j12 : Int) ∧ j12 < 330) ∧ (bEQ (m 313 j12) 0 (∃ j14 : Nat, (((x5 + (-1)) - 1) = (j14 : Int) ∧ j14 < 330) ∧ (∀ m13 : MM, m13 = upm m 313 j14 (i2z 0) → (N G (d + 1) mi_X8_work 47 [some (vr 304), none, some (vi x2), some (vi x3), some (vi x4), some (vi (x5 + (-1))), some (vi (x6 + 1)), none, none] [] m13 (RV k)))) (∃ j15 : Nat, ((x5 + (-1)) = (j15 : Int) ∧ j15 < 330) ∧ (bEQ (m 313 j15) 0 (∃ j17 : Nat, (((x5 + (-1)) - 1) = (j17 : Int) ∧ j17 < 330) ∧ (∀ m16 : MM, m16 = upm m 313 j17 (i2z 0) → (N G (d + 1) mi_X8_work 47 [some (vr 304), none, some (vi x2), some (vi x3), some (vi x4), some (vi (x5 + (-1))), some (vi (x6 + 1)), none, none] [] m16 (RV k)))) (∃ j19 : Nat, (((x5 + (-1)) - 1) = (j19 : Int) ∧ j19 < 330) ∧ (∀ m18 : MM, m18 = upm m 313 j19 (i2z 1) → (N G (d + 1) mi_X8_work 47 [some (vr 304), none, some (vi x2), some (vi x3), some (vi x4), some (vi (x5 + (-1))), some (vi (x6 + 1)), none, none] [] m18 (RV k)))))))) (∃ j4 : Nat, (((x5 + (-1)) - 1) = (j4 : Int) ∧ j4 < 330) ∧ (bEQ (m 313 j4) 0 (∃ j7 : Nat, ((x5 + (-1)) = (j7 : Int) ∧ j7 < 330) ∧ (bEQ (m 313 j7) 0 (∃ j9 : Nat, (((x5 + (-1)) - 1) = (j9 : Int) ∧ j9 < 330) ∧ (∀ m8 : MM, m8 = upm m 313 j9 (i2z 0) → (N G (d + 1) mi_X8_work 47 [some (vr 304), none, some (vi x2), some (vi x3), some (vi x4), some (vi (x5 + (-1))), some (vi (x6 + 1)), none, none] [] m8 (RV k)))) (∃ j11 : Nat, (((x5 + (-1)) - 1) = (j11 : Int) ∧ j11 < 330) ∧ (∀ m10 : MM, m10 = upm m 313 j11 (i2z 1) → (N G (d + 1) mi_X8_work 47 [some (vr 304), none, some (vi x2), some (vi x3), some (vi x4), some (vi (x5 + (-1))), some (vi (x6 + 1)), none, none] [] m10 (RV k)))))) (∃ j6 : Nat, (((x5 + (-1)) - 1) = (j6 : Int) ∧ j6 < 330) ∧ (∀ m5 : MM, m5 = upm m 313 j6 (i2z 1) → (N G (d + 1) mi_X8_work 47 [some (vr 304), none, some (vi x2), some (vi x3), some (vi x4), some (vi (x5 + (-1))), some (vi (x6 + 1)), none, none] [] m5 (RV k)))))))) (∃ j25 : Nat, ((x4 + (-2)) = (j25 : Int) ∧ j25 < 330) ∧ (∃ j26 : Nat, (((x4 + (-2)) + 1) = (j26 : Int) ∧ j26 < 330) ∧ (N G d mi_X8_isAsked 0 [some (vi (m 308 j2)), some (vl (m 312 j25)), none, some (vl (m 312 j26)), none] [] m (RI fun z27 m28 => ∃ j30 : Nat, (x5 = (j30 : Int) ∧ j30 < 330) ∧ (∀ m29 : MM, m29 = upm m28 313 j30 (i2z z27) → (N G (d + 1) mi_X8_work 47 [some (vr 304), none, some (vi x2), some (vi x3), some (vi (x4 + (-2))), some (vi (x5 + 1)), some (vi (x6 + 1)), none, none] [] m29 (RV k)))))))) (∃ j31 : Nat, (((x4 + (-1)) - 1) = (j31 : Int) ∧ j31 < 330) ∧ (∃ j32 : Nat, ((x4 + (-1)) = (j32 : Int) ∧ j32 < 330) ∧ (N G d mi_X8_two 0 [some (vi (m 308 j2)), some (vl (m 312 j31)), none, some (vl (m 312 j32)), none] [] m (RJG fun z33 m34 => ∃ j36 : Nat, (((x4 + (-1)) - 1) = (j36 : Int) ∧ j36 < 330) ∧ (∀ m35 : MM, m35 = upm m34 312 j36 z33 → (N G (d + 1) mi_X8_work 47 [some (vr 304), none, some (vi x2), some (vi x3), some (vi (x4 + (-1))), some (vi x5), some (vi (x6 + 1)), none, none] [] m35 (RV k))))))))) (bEQ (m 308 j2) 0 ((rng (m 308 j3)) ∧ (∃ j44 : Nat, (x4 = (j44 : Int) ∧ j44 < 330) ∧ (∀ m43 : MM, m43 = upm m 312 j44 (m 308 j3) → (N G (d + 1) mi_X8_work 47 [some (vr 304), none, some (vi x2), some (vi x3), some (vi (x4 + 1)), some (vi x5), some (vi (x6 + 1)), none, none] [] m43 (RV k))))) (∃ j40 : Nat, ((m 308 j3) = (j40 : Int) ∧ j40 < 9) ∧ ((rng (m 311 j40)) ∧ (∃ j42 : Nat, (x4 = (j42 : Int) ∧ j42 < 330) ∧ (∀ m41 : MM, m41 = upm m 312 j42 (m 311 j40) → (N G (d + 1) mi_X8_work 47 [some (vr 304), none, some (vi x2), some (vi x3), some (vi (x4 + 1)), some (vi x5), some (vi (x6 + 1)), none, none] [] m41 (RV k)))))))))))) :
    N G (d + 1) mi_X8_work 47 [some (vr 304), none, some (vi x2), some (vi x3), some (vi x4), some (vi x5), some (vi x6), none, none] [] m (RV k) := by
  refine v_iload dX8_work_47 rfl ?_
  refine v_aload_n dX8_work_49 rfl rfl ?_
  refine n_getr dX8_work_50 fo_X8_19 sh_304 rfl sr_304_4 ?_
  refine v_iload_n dX8_work_53 rfl rfl ?_
  refine v_iconst dX8_work_54 ?_
  refine v_iadd dX8_work_55 ?_
  obtain ⟨j1, ⟨ej1, bj1⟩, hp⟩ := hp
  refine n_iald (j := j1) dX8_work_56 sh_308 ej1 bj1 ?_
  obtain ⟨⟨r1, r2⟩, hA, hB⟩ := hp
  refine v_icmp_ge (tgt := 359) dX8_work_57 (by decide) r2 r1 (fun q => ?_) (fun q => ?_)
  · have hp := hA q
    exact n_retV dX8_work_359 rfl hp
  · have hp := hB q
    refine v_aload_n dX8_work_60 rfl rfl ?_
    refine n_getr dX8_work_61 fo_X8_19 sh_304 rfl sr_304_4 ?_
    refine v_iload_n dX8_work_64 rfl rfl ?_
    refine v_iconst dX8_work_65 ?_
    refine v_iload dX8_work_66 rfl ?_
    refine v_imul dX8_work_68 ?_
    refine v_iadd dX8_work_69 ?_
    obtain ⟨j2, ⟨ej2, bj2⟩, hp⟩ := hp
    refine n_iald (j := j2) dX8_work_70 sh_308 ej2 bj2 ?_
    refine v_istore dX8_work_71 (by decide) ?_
    refine v_aload_n dX8_work_73 rfl rfl ?_
    refine n_getr dX8_work_74 fo_X8_19 sh_304 rfl sr_304_4 ?_
    refine v_iload_n dX8_work_77 rfl rfl ?_
    refine v_iconst dX8_work_78 ?_
    refine v_iload dX8_work_79 rfl ?_
    refine v_imul dX8_work_81 ?_
    refine v_iadd dX8_work_82 ?_
    refine v_iconst dX8_work_83 ?_
    refine v_iadd dX8_work_84 ?_
    obtain ⟨j3, ⟨ej3, bj3⟩, hp⟩ := hp
    refine n_iald (j := j3) dX8_work_85 sh_308 ej3 bj3 ?_
    refine v_istore dX8_work_86 (by decide) ?_
    refine v_iload dX8_work_88 rfl ?_
    refine v_iconst dX8_work_90 ?_
    obtain ⟨⟨r1, r2⟩, hA, hB⟩ := hp
    refine v_icmp_gt (tgt := 126) dX8_work_91 (by decide) r2 r1 (fun q => ?_) (fun q => ?_)
    · have hp := hA q
      refine v_iload dX8_work_126 rfl ?_
      refine v_iconst dX8_work_128 ?_
      obtain ⟨⟨r1, r2⟩, hA, hB⟩ := hp
      refine v_icmp_ne (tgt := 154) dX8_work_129 (by decide) r1 r2 (fun q => ?_) (fun q => ?_)
      · have hp := hB q
        refine v_iload dX8_work_154 rfl ?_
        refine v_bipush dX8_work_156 rfl ?_
        obtain ⟨⟨r1, r2⟩, hA, hB⟩ := hp
        refine v_icmp_ge (tgt := 197) dX8_work_158 (by decide) r2 r1 (fun q => ?_) (fun q => ?_)
        · have hp := hA q
          refine v_iload dX8_work_197 rfl ?_
          refine v_bipush dX8_work_199 rfl ?_
          obtain ⟨⟨r1, r2⟩, hA, hB⟩ := hp
          refine v_icmp_ge (tgt := 241) dX8_work_201 (by decide) r2 r1 (fun q => ?_) (fun q => ?_)
          · have hp := hA q
            refine v_iload dX8_work_241 rfl ?_
            refine v_bipush dX8_work_243 rfl ?_
            obtain ⟨⟨r1, r2⟩, hA, hB⟩ := hp
            refine v_icmp_ne (tgt := 277) dX8_work_245 (by decide) r1 r2 (fun q => ?_) (fun q => ?_)
            · have hp := hB q
              refine v_iinc dX8_work_277 rfl (by decide) ?_
              refine v_aload_n dX8_work_280 rfl rfl ?_
              refine n_getr dX8_work_281 fo_X8_42 sh_304 rfl sr_304_26 ?_
              refine v_iload dX8_work_284 rfl ?_
              refine v_iconst dX8_work_286 ?_
              refine v_isub dX8_work_287 ?_
              refine v_iload dX8_work_288 rfl ?_
              refine v_bipush dX8_work_290 rfl ?_
              obtain ⟨⟨r1, r2⟩, hA, hB⟩ := hp
              refine v_icmp_ne (tgt := 325) dX8_work_292 (by decide) r1 r2 (fun q => ?_) (fun q => ?_)
              · have hp := hB q
                refine v_aload_n dX8_work_325 rfl rfl ?_
                refine n_getr dX8_work_326 fo_X8_42 sh_304 rfl sr_304_26 ?_
                refine v_iload dX8_work_329 rfl ?_
                refine v_iconst dX8_work_331 ?_
                refine v_isub dX8_work_332 ?_
                obtain ⟨j4, ⟨ej4, bj4⟩, hp⟩ := hp
                refine n_zald (j := j4) dX8_work_333 sh_313 ej4 bj4 ?_
                obtain ⟨⟨r1, r2⟩, hA, hB⟩ := hp
                refine v_if_ne (tgt := 347) dX8_work_334 (by decide) r1 (fun q => ?_) (fun q => ?_)
                · have hp := hB q
                  refine v_iconst dX8_work_347 ?_
                  refine v_goto (tgt := 352) dX8_work_348 (by decide) ?_
                  obtain ⟨j6, ⟨ej6, bj6⟩, hp⟩ := hp
                  refine w_zast (j := j6) dX8_work_352 sh_313 ej6 bj6 (fun m5 em5 => ?_)
                  have hp := hp m5 em5
                  refine v_iinc dX8_work_353 rfl (by decide) ?_
                  refine v_goto (tgt := 47) dX8_work_356 (by decide) ?_
                  exact n_weak (wk_s (wk_s (wk_s (wk_s (wk_s (wk_s (wk_s (wk_n (wk_n wk_nil))))))))) hp
                · have hp := hA q
                  refine v_aload_n dX8_work_337 rfl rfl ?_
                  refine n_getr dX8_work_338 fo_X8_42 sh_304 rfl sr_304_26 ?_
                  refine v_iload dX8_work_341 rfl ?_
                  obtain ⟨j7, ⟨ej7, bj7⟩, hp⟩ := hp
                  refine n_zald (j := j7) dX8_work_343 sh_313 ej7 bj7 ?_
                  obtain ⟨⟨r1, r2⟩, hA, hB⟩ := hp
                  refine v_if_eq (tgt := 351) dX8_work_344 (by decide) r1 (fun q => ?_) (fun q => ?_)
                  · have hp := hA q
                    refine v_iconst dX8_work_351 ?_
                    obtain ⟨j9, ⟨ej9, bj9⟩, hp⟩ := hp
                    refine w_zast (j := j9) dX8_work_352 sh_313 ej9 bj9 (fun m8 em8 => ?_)
                    have hp := hp m8 em8
                    refine v_iinc dX8_work_353 rfl (by decide) ?_
                    refine v_goto (tgt := 47) dX8_work_356 (by decide) ?_
                    exact n_weak (wk_s (wk_s (wk_s (wk_s (wk_s (wk_s (wk_s (wk_n (wk_n wk_nil))))))))) hp
                  · have hp := hB q
                    refine v_iconst dX8_work_347 ?_
                    refine v_goto (tgt := 352) dX8_work_348 (by decide) ?_
                    obtain ⟨j11, ⟨ej11, bj11⟩, hp⟩ := hp
                    refine w_zast (j := j11) dX8_work_352 sh_313 ej11 bj11 (fun m10 em10 => ?_)
                    have hp := hp m10 em10
                    refine v_iinc dX8_work_353 rfl (by decide) ?_
                    refine v_goto (tgt := 47) dX8_work_356 (by decide) ?_
                    exact n_weak (wk_s (wk_s (wk_s (wk_s (wk_s (wk_s (wk_s (wk_n (wk_n wk_nil))))))))) hp
              · have hp := hA q
                refine v_aload_n dX8_work_295 rfl rfl ?_
                refine n_getr dX8_work_296 fo_X8_42 sh_304 rfl sr_304_26 ?_
                refine v_iload dX8_work_299 rfl ?_
                refine v_iconst dX8_work_301 ?_
                refine v_isub dX8_work_302 ?_
                obtain ⟨j12, ⟨ej12, bj12⟩, hp⟩ := hp
                refine n_zald (j := j12) dX8_work_303 sh_313 ej12 bj12 ?_
                obtain ⟨⟨r1, r2⟩, hA, hB⟩ := hp
                refine v_if_eq (tgt := 321) dX8_work_304 (by decide) r1 (fun q => ?_) (fun q => ?_)
                · have hp := hA q
                  refine v_iconst dX8_work_321 ?_
                  refine v_goto (tgt := 352) dX8_work_322 (by decide) ?_
                  obtain ⟨j14, ⟨ej14, bj14⟩, hp⟩ := hp
                  refine w_zast (j := j14) dX8_work_352 sh_313 ej14 bj14 (fun m13 em13 => ?_)
                  have hp := hp m13 em13
                  refine v_iinc dX8_work_353 rfl (by decide) ?_
                  refine v_goto (tgt := 47) dX8_work_356 (by decide) ?_
                  exact n_weak (wk_s (wk_s (wk_s (wk_s (wk_s (wk_s (wk_s (wk_n (wk_n wk_nil))))))))) hp
                · have hp := hB q
                  refine v_aload_n dX8_work_307 rfl rfl ?_
                  refine n_getr dX8_work_308 fo_X8_42 sh_304 rfl sr_304_26 ?_
                  refine v_iload dX8_work_311 rfl ?_
                  obtain ⟨j15, ⟨ej15, bj15⟩, hp⟩ := hp
                  refine n_zald (j := j15) dX8_work_313 sh_313 ej15 bj15 ?_
                  obtain ⟨⟨r1, r2⟩, hA, hB⟩ := hp
                  refine v_if_eq (tgt := 321) dX8_work_314 (by decide) r1 (fun q => ?_) (fun q => ?_)
                  · have hp := hA q
                    refine v_iconst dX8_work_321 ?_
                    refine v_goto (tgt := 352) dX8_work_322 (by decide) ?_
                    obtain ⟨j17, ⟨ej17, bj17⟩, hp⟩ := hp
                    refine w_zast (j := j17) dX8_work_352 sh_313 ej17 bj17 (fun m16 em16 => ?_)
                    have hp := hp m16 em16
                    refine v_iinc dX8_work_353 rfl (by decide) ?_
                    refine v_goto (tgt := 47) dX8_work_356 (by decide) ?_
                    exact n_weak (wk_s (wk_s (wk_s (wk_s (wk_s (wk_s (wk_s (wk_n (wk_n wk_nil))))))))) hp
                  · have hp := hB q
                    refine v_iconst dX8_work_317 ?_
                    refine v_goto (tgt := 352) dX8_work_318 (by decide) ?_
                    obtain ⟨j19, ⟨ej19, bj19⟩, hp⟩ := hp
                    refine w_zast (j := j19) dX8_work_352 sh_313 ej19 bj19 (fun m18 em18 => ?_)
                    have hp := hp m18 em18
                    refine v_iinc dX8_work_353 rfl (by decide) ?_
                    refine v_goto (tgt := 47) dX8_work_356 (by decide) ?_
                    exact n_weak (wk_s (wk_s (wk_s (wk_s (wk_s (wk_s (wk_s (wk_n (wk_n wk_nil))))))))) hp
            · have hp := hA q
              refine v_aload_n dX8_work_248 rfl rfl ?_
              refine n_getr dX8_work_249 fo_X8_42 sh_304 rfl sr_304_26 ?_
              refine v_iload dX8_work_252 rfl ?_
              refine v_iconst dX8_work_254 ?_
              refine v_isub dX8_work_255 ?_
              refine v_aload_n dX8_work_256 rfl rfl ?_
              refine n_getr dX8_work_257 fo_X8_42 sh_304 rfl sr_304_26 ?_
              refine v_iload dX8_work_260 rfl ?_
              refine v_iconst dX8_work_262 ?_
              refine v_isub dX8_work_263 ?_
              obtain ⟨j20, ⟨ej20, bj20⟩, hp⟩ := hp
              refine n_zald (j := j20) dX8_work_264 sh_313 ej20 bj20 ?_
              obtain ⟨⟨r1, r2⟩, hA, hB⟩ := hp
              refine v_if_ne (tgt := 272) dX8_work_265 (by decide) r1 (fun q => ?_) (fun q => ?_)
              · have hp := hB q
                refine v_iconst dX8_work_272 ?_
                obtain ⟨j22, ⟨ej22, bj22⟩, hp⟩ := hp
                refine w_zast (j := j22) dX8_work_273 sh_313 ej22 bj22 (fun m21 em21 => ?_)
                have hp := hp m21 em21
                refine v_goto (tgt := 353) dX8_work_274 (by decide) ?_
                refine v_iinc dX8_work_353 rfl (by decide) ?_
                refine v_goto (tgt := 47) dX8_work_356 (by decide) ?_
                exact n_weak (wk_s (wk_s (wk_s (wk_s (wk_s (wk_s (wk_s (wk_n (wk_n wk_nil))))))))) hp
              · have hp := hA q
                refine v_iconst dX8_work_268 ?_
                refine v_goto (tgt := 273) dX8_work_269 (by decide) ?_
                obtain ⟨j24, ⟨ej24, bj24⟩, hp⟩ := hp
                refine w_zast (j := j24) dX8_work_273 sh_313 ej24 bj24 (fun m23 em23 => ?_)
                have hp := hp m23 em23
                refine v_goto (tgt := 353) dX8_work_274 (by decide) ?_
                refine v_iinc dX8_work_353 rfl (by decide) ?_
                refine v_goto (tgt := 47) dX8_work_356 (by decide) ?_
                exact n_weak (wk_s (wk_s (wk_s (wk_s (wk_s (wk_s (wk_s (wk_n (wk_n wk_nil))))))))) hp
          · have hp := hB q
            refine v_iinc dX8_work_204 rfl (by decide) ?_
            refine v_aload_n dX8_work_207 rfl rfl ?_
            refine n_getr dX8_work_208 fo_X8_42 sh_304 rfl sr_304_26 ?_
            refine v_iload dX8_work_211 rfl ?_
            refine v_iload dX8_work_213 rfl ?_
            refine v_aload_n dX8_work_215 rfl rfl ?_
            refine n_getr dX8_work_216 fo_X8_38 sh_304 rfl sr_304_25 ?_
            refine v_iload dX8_work_219 rfl ?_
            obtain ⟨j25, ⟨ej25, bj25⟩, hp⟩ := hp
            refine n_lald (j := j25) dX8_work_221 sh_312 ej25 bj25 ?_
            refine v_aload_n dX8_work_222 rfl rfl ?_
            refine n_getr dX8_work_223 fo_X8_38 sh_304 rfl sr_304_25 ?_
            refine v_iload dX8_work_226 rfl ?_
            refine v_iconst dX8_work_228 ?_
            refine v_iadd dX8_work_229 ?_
            obtain ⟨j26, ⟨ej26, bj26⟩, hp⟩ := hp
            refine n_lald (j := j26) dX8_work_230 sh_312 ej26 bj26 ?_
            refine n_callSI (As := [vi (m 308 j2), vl (m 312 j25), vl (m 312 j26)]) (st := [vi x5, vr 313]) dX8_work_231 ml_X8_244 mo_X8_isAsked ms_X8_isAsked rfl rfl (Nat.le_of_ble_eq_true rfl) (Nat.le_of_ble_eq_true rfl) (by decide) hp (fun z27 m28 hp => ?_)
            obtain ⟨j30, ⟨ej30, bj30⟩, hp⟩ := hp
            refine w_zast (j := j30) dX8_work_234 sh_313 ej30 bj30 (fun m29 em29 => ?_)
            have hp := hp m29 em29
            refine v_iinc dX8_work_235 rfl (by decide) ?_
            refine v_goto (tgt := 353) dX8_work_238 (by decide) ?_
            refine v_iinc dX8_work_353 rfl (by decide) ?_
            refine v_goto (tgt := 47) dX8_work_356 (by decide) ?_
            exact n_weak (wk_s (wk_s (wk_s (wk_s (wk_s (wk_s (wk_s (wk_n (wk_n wk_nil))))))))) hp
        · have hp := hB q
          refine v_iinc dX8_work_161 rfl (by decide) ?_
          refine v_aload_n dX8_work_164 rfl rfl ?_
          refine n_getr dX8_work_165 fo_X8_38 sh_304 rfl sr_304_25 ?_
          refine v_iload dX8_work_168 rfl ?_
          refine v_iconst dX8_work_170 ?_
          refine v_isub dX8_work_171 ?_
          refine v_iload dX8_work_172 rfl ?_
          refine v_aload_n dX8_work_174 rfl rfl ?_
          refine n_getr dX8_work_175 fo_X8_38 sh_304 rfl sr_304_25 ?_
          refine v_iload dX8_work_178 rfl ?_
          refine v_iconst dX8_work_180 ?_
          refine v_isub dX8_work_181 ?_
          obtain ⟨j31, ⟨ej31, bj31⟩, hp⟩ := hp
          refine n_lald (j := j31) dX8_work_182 sh_312 ej31 bj31 ?_
          refine v_aload_n dX8_work_183 rfl rfl ?_
          refine n_getr dX8_work_184 fo_X8_38 sh_304 rfl sr_304_25 ?_
          refine v_iload dX8_work_187 rfl ?_
          obtain ⟨j32, ⟨ej32, bj32⟩, hp⟩ := hp
          refine n_lald (j := j32) dX8_work_189 sh_312 ej32 bj32 ?_
          refine n_callSL (As := [vi (m 308 j2), vl (m 312 j31), vl (m 312 j32)]) (st := [vi ((x4 + (-1)) - 1), vr 312]) dX8_work_190 ml_X8_240 mo_X8_two ms_X8_two rfl rfl (Nat.le_of_ble_eq_true rfl) (Nat.le_of_ble_eq_true rfl) (by decide) hp (fun z33 m34 hp => ?_)
          obtain ⟨j36, ⟨ej36, bj36⟩, hp⟩ := hp
          refine w_last (j := j36) dX8_work_193 sh_312 ej36 bj36 (fun m35 em35 => ?_)
          have hp := hp m35 em35
          refine v_goto (tgt := 353) dX8_work_194 (by decide) ?_
          refine v_iinc dX8_work_353 rfl (by decide) ?_
          refine v_goto (tgt := 47) dX8_work_356 (by decide) ?_
          exact n_weak (wk_s (wk_s (wk_s (wk_s (wk_s (wk_s (wk_s (wk_n (wk_n wk_nil))))))))) hp
      · have hp := hA q
        refine v_aload_n dX8_work_132 rfl rfl ?_
        refine n_getr dX8_work_133 fo_X8_38 sh_304 rfl sr_304_25 ?_
        refine v_iload dX8_work_136 rfl ?_
        refine v_iconst dX8_work_138 ?_
        refine v_isub dX8_work_139 ?_
        refine v_aload_n dX8_work_140 rfl rfl ?_
        refine n_getr dX8_work_141 fo_X8_38 sh_304 rfl sr_304_25 ?_
        refine v_iload dX8_work_144 rfl ?_
        refine v_iconst dX8_work_146 ?_
        refine v_isub dX8_work_147 ?_
        obtain ⟨j37, ⟨ej37, bj37⟩, hp⟩ := hp
        refine n_lald (j := j37) dX8_work_148 sh_312 ej37 bj37 ?_
        refine v_lneg dX8_work_149 ?_
        obtain ⟨j39, ⟨ej39, bj39⟩, hp⟩ := hp
        refine w_last (j := j39) dX8_work_150 sh_312 ej39 bj39 (fun m38 em38 => ?_)
        have hp := hp m38 em38
        refine v_goto (tgt := 353) dX8_work_151 (by decide) ?_
        refine v_iinc dX8_work_353 rfl (by decide) ?_
        refine v_goto (tgt := 47) dX8_work_356 (by decide) ?_
        exact n_weak (wk_s (wk_s (wk_s (wk_s (wk_s (wk_s (wk_s (wk_n (wk_n wk_nil))))))))) hp
    · have hp := hB q
      refine v_aload_n dX8_work_94 rfl rfl ?_
      refine n_getr dX8_work_95 fo_X8_38 sh_304 rfl sr_304_25 ?_
      refine v_iload dX8_work_98 rfl ?_
      refine v_iload dX8_work_100 rfl ?_
      obtain ⟨⟨r1, r2⟩, hA, hB⟩ := hp
      refine v_if_ne (tgt := 111) dX8_work_102 (by decide) r1 (fun q => ?_) (fun q => ?_)
      · have hp := hB q
        refine v_aload_n dX8_work_111 rfl rfl ?_
        refine n_getr dX8_work_112 fo_X8_35 sh_304 rfl sr_304_24 ?_
        refine v_iload dX8_work_115 rfl ?_
        obtain ⟨j40, ⟨ej40, bj40⟩, hp⟩ := hp
        refine n_iald (j := j40) dX8_work_117 sh_311 ej40 bj40 ?_
        obtain ⟨hg, hp⟩ := hp
        refine v_i2l dX8_work_118 hg ?_
        obtain ⟨j42, ⟨ej42, bj42⟩, hp⟩ := hp
        refine w_last (j := j42) dX8_work_119 sh_312 ej42 bj42 (fun m41 em41 => ?_)
        have hp := hp m41 em41
        refine v_iinc dX8_work_120 rfl (by decide) ?_
        refine v_goto (tgt := 353) dX8_work_123 (by decide) ?_
        refine v_iinc dX8_work_353 rfl (by decide) ?_
        refine v_goto (tgt := 47) dX8_work_356 (by decide) ?_
        exact n_weak (wk_s (wk_s (wk_s (wk_s (wk_s (wk_s (wk_s (wk_n (wk_n wk_nil))))))))) hp
      · have hp := hA q
        refine v_iload dX8_work_105 rfl ?_
        obtain ⟨hg, hp⟩ := hp
        refine v_i2l dX8_work_107 hg ?_
        refine v_goto (tgt := 119) dX8_work_108 (by decide) ?_
        obtain ⟨j44, ⟨ej44, bj44⟩, hp⟩ := hp
        refine w_last (j := j44) dX8_work_119 sh_312 ej44 bj44 (fun m43 em43 => ?_)
        have hp := hp m43 em43
        refine v_iinc dX8_work_120 rfl (by decide) ?_
        refine v_goto (tgt := 353) dX8_work_123 (by decide) ?_
        refine v_iinc dX8_work_353 rfl (by decide) ?_
        refine v_goto (tgt := 47) dX8_work_356 (by decide) ?_
        exact n_weak (wk_s (wk_s (wk_s (wk_s (wk_s (wk_s (wk_s (wk_n (wk_n wk_nil))))))))) hp
theorem g_X8_clauseOf_0 {G : GG} {d : Nat} {m : MM} {k : Int → MM → Prop} (x1 : Int)
    (hp : N G d mi_X8_clauseOf 2 [some (vr 304), some (vi x1), some (vi 0)] [] m (RI k)) :
    N G d mi_X8_clauseOf 0 [some (vr 304), some (vi x1), none] [] m (RI k) := by
  refine v_iconst dX8_clauseOf_0 ?_
  refine v_istore_n dX8_clauseOf_1 rfl (by decide) ?_
  exact hp
theorem g_X8_clauseOf_2 {G : GG} {d : Nat} {m : MM} {k : Int → MM → Prop} (x1 : Int) (x2 : Int)
    (hp : bLT (m 305 4) 0 (k (-1) m) (∃ j1 : Nat, ((680 * (m 305 4)) = (j1 : Int) ∧ j1 < 2720) ∧ (bLE (m 308 j1) x2 (k (-1) m) (∃ j2 : Nat, ((((680 * (m 305 4)) + 1) + (3 * x2)) = (j2 : Int) ∧ j2 < 2720) ∧ (bEQ (m 308 j2) x1 (k x2 m) (N G d mi_X8_clauseOf 2 [some (vr 304), some (vi x1), some (vi (x2 + 1))] [] m (RI k))))))) :
    N G d mi_X8_clauseOf 2 [some (vr 304), some (vi x1), some (vi x2)] [] m (RI k) := by
  refine v_aload_n dX8_clauseOf_2 rfl rfl ?_
  refine n_getr dX8_clauseOf_3 fo_X8_7 sh_304 rfl sr_304_0 ?_
  refine v_iconst dX8_clauseOf_6 ?_
  refine n_iald (j := 4) dX8_clauseOf_7 sh_305 rfl (by decide) ?_
  obtain ⟨⟨r1, r2⟩, hA, hB⟩ := hp
  refine v_if_lt (tgt := 63) dX8_clauseOf_8 (by decide) r1 (fun q => ?_) (fun q => ?_)
  · have hp := hA q
    refine v_iconst dX8_clauseOf_63 ?_
    exact n_retI dX8_clauseOf_64 rfl hp
  · have hp := hB q
    refine v_iload_n dX8_clauseOf_11 rfl rfl ?_
    refine v_aload_n dX8_clauseOf_12 rfl rfl ?_
    refine n_getr dX8_clauseOf_13 fo_X8_19 sh_304 rfl sr_304_4 ?_
    refine v_sipush dX8_clauseOf_16 rfl ?_
    refine v_aload_n dX8_clauseOf_19 rfl rfl ?_
    refine n_getr dX8_clauseOf_20 fo_X8_7 sh_304 rfl sr_304_0 ?_
    refine v_iconst dX8_clauseOf_23 ?_
    refine n_iald (j := 4) dX8_clauseOf_24 sh_305 rfl (by decide) ?_
    refine v_imul dX8_clauseOf_25 ?_
    obtain ⟨j1, ⟨ej1, bj1⟩, hp⟩ := hp
    refine n_iald (j := j1) dX8_clauseOf_26 sh_308 ej1 bj1 ?_
    obtain ⟨⟨r1, r2⟩, hA, hB⟩ := hp
    refine v_icmp_ge (tgt := 63) dX8_clauseOf_27 (by decide) r2 r1 (fun q => ?_) (fun q => ?_)
    · have hp := hA q
      refine v_iconst dX8_clauseOf_63 ?_
      exact n_retI dX8_clauseOf_64 rfl hp
    · have hp := hB q
      refine v_aload_n dX8_clauseOf_30 rfl rfl ?_
      refine n_getr dX8_clauseOf_31 fo_X8_19 sh_304 rfl sr_304_4 ?_
      refine v_sipush dX8_clauseOf_34 rfl ?_
      refine v_aload_n dX8_clauseOf_37 rfl rfl ?_
      refine n_getr dX8_clauseOf_38 fo_X8_7 sh_304 rfl sr_304_0 ?_
      refine v_iconst dX8_clauseOf_41 ?_
      refine n_iald (j := 4) dX8_clauseOf_42 sh_305 rfl (by decide) ?_
      refine v_imul dX8_clauseOf_43 ?_
      refine v_iconst dX8_clauseOf_44 ?_
      refine v_iadd dX8_clauseOf_45 ?_
      refine v_iconst dX8_clauseOf_46 ?_
      refine v_iload_n dX8_clauseOf_47 rfl rfl ?_
      refine v_imul dX8_clauseOf_48 ?_
      refine v_iadd dX8_clauseOf_49 ?_
      obtain ⟨j2, ⟨ej2, bj2⟩, hp⟩ := hp
      refine n_iald (j := j2) dX8_clauseOf_50 sh_308 ej2 bj2 ?_
      refine v_iload_n dX8_clauseOf_51 rfl rfl ?_
      obtain ⟨⟨r1, r2⟩, hA, hB⟩ := hp
      refine v_icmp_ne (tgt := 57) dX8_clauseOf_52 (by decide) r1 r2 (fun q => ?_) (fun q => ?_)
      · have hp := hB q
        refine v_iinc dX8_clauseOf_57 rfl (by decide) ?_
        refine v_goto (tgt := 2) dX8_clauseOf_60 (by decide) ?_
        exact hp
      · have hp := hA q
        refine v_iload_n dX8_clauseOf_55 rfl rfl ?_
        exact n_retI dX8_clauseOf_56 rfl hp
theorem g_X8_name_0 {G : GG} {d : Nat} {m : MM} {k : MM → Prop} (x1 : Int) (x2 : Int) (x3 : Int)
    (hp : ∀ m1 : MM, m1 = upm m 311 0 x1 → (N G d mi_X8_get 0 [some (vr 304), some (vi x1), some (vi 0)] [] m1 (RI fun z2 m3 => ∀ m4 : MM, m4 = upm m3 311 1 z2 → (N G d mi_X8_get 0 [some (vr 304), some (vi x1), some (vi 1)] [] m4 (RI fun z5 m6 => ∀ m7 : MM, m7 = upm m6 311 2 z5 → (∀ m8 : MM, m8 = upm m7 311 3 x2 → (N G d mi_X8_get 0 [some (vr 304), some (vi x1), some (vi 3)] [] m8 (RI fun z9 m10 => ∀ m11 : MM, m11 = upm m10 311 4 (x2 - z9) → (∀ m12 : MM, m12 = upm m11 311 5 x3 → (k m12)))))))))) :
    N G (d + 1) mi_X8_name 0 [some (vr 304), some (vi x1), some (vi x2), some (vi x3)] [] m (RV k) := by
  refine v_aload_n dX8_name_0 rfl rfl ?_
  refine n_getr dX8_name_1 fo_X8_35 sh_304 rfl sr_304_24 ?_
  refine v_iconst dX8_name_4 ?_
  refine v_iload_n dX8_name_5 rfl rfl ?_
  refine w_iast (j := 0) dX8_name_6 sh_311 rfl (by decide) (fun m1 em1 => ?_)
  have hp := hp m1 em1
  refine v_aload_n dX8_name_7 rfl rfl ?_
  refine n_getr dX8_name_8 fo_X8_35 sh_304 rfl sr_304_24 ?_
  refine v_iconst dX8_name_11 ?_
  refine v_aload_n dX8_name_12 rfl rfl ?_
  refine v_iload_n dX8_name_13 rfl rfl ?_
  refine v_iconst dX8_name_14 ?_
  refine n_callVI (As := [vi x1, vi 0]) (st := [vi 1, vr 311]) dX8_name_15 ml_X8_77 mo_X8_get mv_X8_get sh_304 rfl rfl rfl rfl (Nat.le_of_ble_eq_true rfl) (Nat.le_of_ble_eq_true rfl) (by decide) hp (fun z2 m3 hp => ?_)
  refine w_iast (j := 1) dX8_name_18 sh_311 rfl (by decide) (fun m4 em4 => ?_)
  have hp := hp m4 em4
  refine v_aload_n dX8_name_19 rfl rfl ?_
  refine n_getr dX8_name_20 fo_X8_35 sh_304 rfl sr_304_24 ?_
  refine v_iconst dX8_name_23 ?_
  refine v_aload_n dX8_name_24 rfl rfl ?_
  refine v_iload_n dX8_name_25 rfl rfl ?_
  refine v_iconst dX8_name_26 ?_
  refine n_callVI (As := [vi x1, vi 1]) (st := [vi 2, vr 311]) dX8_name_27 ml_X8_77 mo_X8_get mv_X8_get sh_304 rfl rfl rfl rfl (Nat.le_of_ble_eq_true rfl) (Nat.le_of_ble_eq_true rfl) (by decide) hp (fun z5 m6 hp => ?_)
  refine w_iast (j := 2) dX8_name_30 sh_311 rfl (by decide) (fun m7 em7 => ?_)
  have hp := hp m7 em7
  refine v_aload_n dX8_name_31 rfl rfl ?_
  refine n_getr dX8_name_32 fo_X8_35 sh_304 rfl sr_304_24 ?_
  refine v_iconst dX8_name_35 ?_
  refine v_iload_n dX8_name_36 rfl rfl ?_
  refine w_iast (j := 3) dX8_name_37 sh_311 rfl (by decide) (fun m8 em8 => ?_)
  have hp := hp m8 em8
  refine v_aload_n dX8_name_38 rfl rfl ?_
  refine n_getr dX8_name_39 fo_X8_35 sh_304 rfl sr_304_24 ?_
  refine v_iconst dX8_name_42 ?_
  refine v_iload_n dX8_name_43 rfl rfl ?_
  refine v_aload_n dX8_name_44 rfl rfl ?_
  refine v_iload_n dX8_name_45 rfl rfl ?_
  refine v_iconst dX8_name_46 ?_
  refine n_callVI (As := [vi x1, vi 3]) (st := [vi x2, vi 4, vr 311]) dX8_name_47 ml_X8_77 mo_X8_get mv_X8_get sh_304 rfl rfl rfl rfl (Nat.le_of_ble_eq_true rfl) (Nat.le_of_ble_eq_true rfl) (by decide) hp (fun z9 m10 hp => ?_)
  refine v_isub dX8_name_50 ?_
  refine w_iast (j := 4) dX8_name_51 sh_311 rfl (by decide) (fun m11 em11 => ?_)
  have hp := hp m11 em11
  refine v_aload_n dX8_name_52 rfl rfl ?_
  refine n_getr dX8_name_53 fo_X8_35 sh_304 rfl sr_304_24 ?_
  refine v_iconst dX8_name_56 ?_
  refine v_iload_n dX8_name_57 rfl rfl ?_
  refine w_iast (j := 5) dX8_name_58 sh_311 rfl (by decide) (fun m12 em12 => ?_)
  have hp := hp m12 em12
  exact n_retV dX8_name_59 rfl hp
theorem g_X8_sees_0 {G : GG} {d : Nat} {m : MM} {k : Int → MM → Prop} (x1 : Int) (x2 : Int) (x3 : Int) (x4 : Int) (x5 : Int)
    (hp : N G d mi_X8_clauseOf 0 [some (vr 304), some (vi 0), none] [] m (RI fun z1 m2 => bLE 0 z1 (N G d mi_X8_name 0 [some (vr 304), some (vi x1), some (vi x2), some (vi x3)] [] m2 (RV fun m4 => ∀ m5 : MM, m5 = upm m4 311 6 x4 → (∃ j6 : Nat, ((8 + x4) = (j6 : Int) ∧ j6 < 1584) ∧ (∀ m7 : MM, m7 = upm m5 311 7 (m5 305 j6) → (∀ m8 : MM, m8 = upm m7 311 8 x5 → (N G d mi_X8_work 0 [some (vr 304), some (vi z1), none, none, none, none, none, none, none] [] m8 (RV fun m10 => ((m10 313 0) = 0 ∨ (m10 313 0) = 1) ∧ (k (m10 313 0) m10)))))))) (k 1 m2))) :
    N G (d + 1) mi_X8_sees 0 [some (vr 304), some (vi x1), some (vi x2), some (vi x3), some (vi x4), some (vi x5), none] [] m (RI k) := by
  refine v_aload_n dX8_sees_0 rfl rfl ?_
  refine v_iconst dX8_sees_1 ?_
  refine n_callVI (As := [vi 0]) (st := []) dX8_sees_2 ml_X8_248 mo_X8_clauseOf mv_X8_clauseOf sh_304 rfl rfl rfl rfl (Nat.le_of_ble_eq_true rfl) (Nat.le_of_ble_eq_true rfl) (by decide) hp (fun z1 m2 hp => ?_)
  refine v_istore dX8_sees_5 (by decide) ?_
  refine v_iload dX8_sees_7 rfl ?_
  obtain ⟨⟨r1, r2⟩, hA, hB⟩ := hp
  refine v_if_ge (tgt := 14) dX8_sees_9 (by decide) r2 (fun q => ?_) (fun q => ?_)
  · have hp := hA q
    refine v_aload_n dX8_sees_14 rfl rfl ?_
    refine v_iload_n dX8_sees_15 rfl rfl ?_
    refine v_iload_n dX8_sees_16 rfl rfl ?_
    refine v_iload_n dX8_sees_17 rfl rfl ?_
    refine n_callVV (As := [vi x1, vi x2, vi x3]) (st := []) dX8_sees_18 ml_X8_251 mo_X8_name mv_X8_name sh_304 rfl rfl rfl rfl (Nat.le_of_ble_eq_true rfl) (Nat.le_of_ble_eq_true rfl) (by decide) hp (fun m4 hp => ?_)
    refine v_aload_n dX8_sees_21 rfl rfl ?_
    refine n_getr dX8_sees_22 fo_X8_35 sh_304 rfl sr_304_24 ?_
    refine v_bipush dX8_sees_25 rfl ?_
    refine v_iload dX8_sees_27 rfl ?_
    refine w_iast (j := 6) dX8_sees_29 sh_311 rfl (by decide) (fun m5 em5 => ?_)
    have hp := hp m5 em5
    refine v_aload_n dX8_sees_30 rfl rfl ?_
    refine n_getr dX8_sees_31 fo_X8_35 sh_304 rfl sr_304_24 ?_
    refine v_bipush dX8_sees_34 rfl ?_
    refine v_aload_n dX8_sees_36 rfl rfl ?_
    refine n_getr dX8_sees_37 fo_X8_7 sh_304 rfl sr_304_0 ?_
    refine v_bipush dX8_sees_40 rfl ?_
    refine v_iload dX8_sees_42 rfl ?_
    refine v_iadd dX8_sees_44 ?_
    obtain ⟨j6, ⟨ej6, bj6⟩, hp⟩ := hp
    refine n_iald (j := j6) dX8_sees_45 sh_305 ej6 bj6 ?_
    refine w_iast (j := 7) dX8_sees_46 sh_311 rfl (by decide) (fun m7 em7 => ?_)
    have hp := hp m7 em7
    refine v_aload_n dX8_sees_47 rfl rfl ?_
    refine n_getr dX8_sees_48 fo_X8_35 sh_304 rfl sr_304_24 ?_
    refine v_bipush dX8_sees_51 rfl ?_
    refine v_iload dX8_sees_53 rfl ?_
    refine w_iast (j := 8) dX8_sees_55 sh_311 rfl (by decide) (fun m8 em8 => ?_)
    have hp := hp m8 em8
    refine v_aload_n dX8_sees_56 rfl rfl ?_
    refine v_iload dX8_sees_57 rfl ?_
    refine n_callVV (As := [vi z1]) (st := []) dX8_sees_59 ml_X8_254 mo_X8_work mv_X8_work sh_304 rfl rfl rfl rfl (Nat.le_of_ble_eq_true rfl) (Nat.le_of_ble_eq_true rfl) (by decide) hp (fun m10 hp => ?_)
    refine v_aload_n dX8_sees_62 rfl rfl ?_
    refine n_getr dX8_sees_63 fo_X8_42 sh_304 rfl sr_304_26 ?_
    refine v_iconst dX8_sees_66 ?_
    refine n_zald (j := 0) dX8_sees_67 sh_313 rfl (by decide) ?_
    exact n_retZ dX8_sees_68 rfl hp.1 hp.2
  · have hp := hB q
    refine v_iconst dX8_sees_12 ?_
    exact n_retZ dX8_sees_13 rfl (by decide) hp
theorem g_X8_rubsOf_0 {G : GG} {d : Nat} {m : MM} {k : Int → MM → Prop} (x1 : Int)
    (hp : N G d mi_X8_clauseOf 0 [some (vr 304), some (vi 1), none] [] m (RI fun z1 m2 => bLE 0 z1 (N G d mi_X8_manyOf 0 [some (vr 304), some (vi x1), none, none] [] m2 (RI fun z3 m4 => N G d mi_X8_name 0 [some (vr 304), some (vi x1), some (vi (m2 305 2)), some (vi z3)] [] m4 (RV fun m6 => N G d mi_X8_work 0 [some (vr 304), some (vi z1), none, none, none, none, none, none, none] [] m6 (RV fun m8 => (rnl (m8 312 0) ∧ rnl 0) ∧ (bLE 0 (lcm (m8 312 0) 0) ((rnl (m8 312 0) ∧ rnl 99) ∧ (bLE (lcm (m8 312 0) 99) 0 (k (m8 312 0) m8) (k 99 m8))) (k 0 m8)))))) (k 1 m2))) :
    N G (d + 1) mi_X8_rubsOf 0 [some (vr 304), some (vi x1), none] [] m (RI k) := by
  refine v_aload_n dX8_rubsOf_0 rfl rfl ?_
  refine v_iconst dX8_rubsOf_1 ?_
  refine n_callVI (As := [vi 1]) (st := []) dX8_rubsOf_2 ml_X8_248 mo_X8_clauseOf mv_X8_clauseOf sh_304 rfl rfl rfl rfl (Nat.le_of_ble_eq_true rfl) (Nat.le_of_ble_eq_true rfl) (by decide) hp (fun z1 m2 hp => ?_)
  refine v_istore_n dX8_rubsOf_5 rfl (by decide) ?_
  refine v_iload_n dX8_rubsOf_6 rfl rfl ?_
  obtain ⟨⟨r1, r2⟩, hA, hB⟩ := hp
  refine v_if_ge (tgt := 12) dX8_rubsOf_7 (by decide) r2 (fun q => ?_) (fun q => ?_)
  · have hp := hA q
    refine v_aload_n dX8_rubsOf_12 rfl rfl ?_
    refine v_iload_n dX8_rubsOf_13 rfl rfl ?_
    refine v_aload_n dX8_rubsOf_14 rfl rfl ?_
    refine n_getr dX8_rubsOf_15 fo_X8_7 sh_304 rfl sr_304_0 ?_
    refine v_iconst dX8_rubsOf_18 ?_
    refine n_iald (j := 2) dX8_rubsOf_19 sh_305 rfl (by decide) ?_
    refine v_aload_n dX8_rubsOf_20 rfl rfl ?_
    refine v_iload_n dX8_rubsOf_21 rfl rfl ?_
    refine n_callVI (As := [vi x1]) (st := [vi (m2 305 2), vi x1, vr 304]) dX8_rubsOf_22 ml_X8_257 mo_X8_manyOf mv_X8_manyOf sh_304 rfl rfl rfl rfl (Nat.le_of_ble_eq_true rfl) (Nat.le_of_ble_eq_true rfl) (by decide) hp (fun z3 m4 hp => ?_)
    refine n_callVV (As := [vi x1, vi (m2 305 2), vi z3]) (st := []) dX8_rubsOf_25 ml_X8_251 mo_X8_name mv_X8_name sh_304 rfl rfl rfl rfl (Nat.le_of_ble_eq_true rfl) (Nat.le_of_ble_eq_true rfl) (by decide) hp (fun m6 hp => ?_)
    refine v_aload_n dX8_rubsOf_28 rfl rfl ?_
    refine v_iload_n dX8_rubsOf_29 rfl rfl ?_
    refine n_callVV (As := [vi z1]) (st := []) dX8_rubsOf_30 ml_X8_254 mo_X8_work mv_X8_work sh_304 rfl rfl rfl rfl (Nat.le_of_ble_eq_true rfl) (Nat.le_of_ble_eq_true rfl) (by decide) hp (fun m8 hp => ?_)
    refine v_aload_n dX8_rubsOf_33 rfl rfl ?_
    refine n_getr dX8_rubsOf_34 fo_X8_38 sh_304 rfl sr_304_25 ?_
    refine v_iconst dX8_rubsOf_37 ?_
    refine n_lald (j := 0) dX8_rubsOf_38 sh_312 rfl (by decide) ?_
    refine v_lconst (z := 0) dX8_rubsOf_39 rfl ?_
    obtain ⟨hg, hp⟩ := hp
    refine v_lcmp dX8_rubsOf_40 hg.1 hg.2 ?_
    obtain ⟨⟨r1, r2⟩, hA, hB⟩ := hp
    refine v_if_ge (tgt := 48) dX8_rubsOf_41 (by decide) r2 (fun q => ?_) (fun q => ?_)
    · have hp := hA q
      refine v_aload_n dX8_rubsOf_48 rfl rfl ?_
      refine n_getr dX8_rubsOf_49 fo_X8_38 sh_304 rfl sr_304_25 ?_
      refine v_iconst dX8_rubsOf_52 ?_
      refine n_lald (j := 0) dX8_rubsOf_53 sh_312 rfl (by decide) ?_
      refine v_ldc2 dX8_rubsOf_54 cl_X8_260 ?_
      obtain ⟨hg, hp⟩ := hp
      refine v_lcmp dX8_rubsOf_57 hg.1 hg.2 ?_
      obtain ⟨⟨r1, r2⟩, hA, hB⟩ := hp
      refine v_if_le (tgt := 66) dX8_rubsOf_58 (by decide) r1 (fun q => ?_) (fun q => ?_)
      · have hp := hA q
        refine v_aload_n dX8_rubsOf_66 rfl rfl ?_
        refine n_getr dX8_rubsOf_67 fo_X8_38 sh_304 rfl sr_304_25 ?_
        refine v_iconst dX8_rubsOf_70 ?_
        refine n_lald (j := 0) dX8_rubsOf_71 sh_312 rfl (by decide) ?_
        refine v_l2i dX8_rubsOf_72 ?_
        exact n_retI dX8_rubsOf_73 rfl hp
      · have hp := hB q
        refine v_bipush dX8_rubsOf_61 rfl ?_
        refine v_goto (tgt := 73) dX8_rubsOf_63 (by decide) ?_
        exact n_retI dX8_rubsOf_73 rfl hp
    · have hp := hB q
      refine v_iconst dX8_rubsOf_44 ?_
      refine v_goto (tgt := 73) dX8_rubsOf_45 (by decide) ?_
      exact n_retI dX8_rubsOf_73 rfl hp
  · have hp := hB q
    refine v_iconst dX8_rubsOf_10 ?_
    exact n_retI dX8_rubsOf_11 rfl hp
theorem g_X8_keep_0 {G : GG} {d : Nat} {m : MM} {k : MM → Prop} 
    (hp : bEQ (m 305 5) 30 (N G (d + 1) mi_X8_keep 13 [some (vr 304), some (vi 0), none, none] [] m (RV k)) (N G (d + 1) mi_X8_keep 55 [some (vr 304), none, none, none] [] m (RV k))) :
    N G (d + 1) mi_X8_keep 0 [some (vr 304), none, none, none] [] m (RV k) := by
  refine v_aload_n dX8_keep_0 rfl rfl ?_
  refine n_getr dX8_keep_1 fo_X8_7 sh_304 rfl sr_304_0 ?_
  refine v_iconst dX8_keep_4 ?_
  refine n_iald (j := 5) dX8_keep_5 sh_305 rfl (by decide) ?_
  refine v_bipush dX8_keep_6 rfl ?_
  obtain ⟨⟨r1, r2⟩, hA, hB⟩ := hp
  refine v_icmp_ne (tgt := 55) dX8_keep_8 (by decide) r1 r2 (fun q => ?_) (fun q => ?_)
  · have hp := hB q
    exact hp
  · have hp := hA q
    refine v_iconst dX8_keep_11 ?_
    refine v_istore_n dX8_keep_12 rfl (by decide) ?_
    exact hp
theorem g_X8_keep_13 {G : GG} {d : Nat} {m : MM} {k : MM → Prop} (x1 : Int)
    (hp : bLE 1450 x1 (∀ m1 : MM, m1 = upm m 305 5 ((m 305 5) - 1) → (N G (d + 1) mi_X8_keep 55 [some (vr 304), none, none, none] [] m1 (RV k))) (∃ j2 : Nat, ((134 + x1) = (j2 : Int) ∧ j2 < 1584) ∧ (∃ j4 : Nat, ((84 + x1) = (j4 : Int) ∧ j4 < 1584) ∧ (∀ m3 : MM, m3 = upm m 305 j4 (m 305 j2) → (N G (d + 1) mi_X8_keep 13 [some (vr 304), some (vi (x1 + 1)), none, none] [] m3 (RV k)))))) :
    N G (d + 1) mi_X8_keep 13 [some (vr 304), some (vi x1), none, none] [] m (RV k) := by
  refine v_iload_n dX8_keep_13 rfl rfl ?_
  refine v_sipush dX8_keep_14 rfl ?_
  obtain ⟨⟨r1, r2⟩, hA, hB⟩ := hp
  refine v_icmp_ge (tgt := 45) dX8_keep_17 (by decide) r2 r1 (fun q => ?_) (fun q => ?_)
  · have hp := hA q
    refine v_aload_n dX8_keep_45 rfl rfl ?_
    refine n_getr dX8_keep_46 fo_X8_7 sh_304 rfl sr_304_0 ?_
    refine v_iconst dX8_keep_49 ?_
    refine v_dup2ir dX8_keep_50 ?_
    refine n_iald (j := 5) dX8_keep_51 sh_305 rfl (by decide) ?_
    refine v_iconst dX8_keep_52 ?_
    refine v_isub dX8_keep_53 ?_
    refine w_iast (j := 5) dX8_keep_54 sh_305 rfl (by decide) (fun m1 em1 => ?_)
    have hp := hp m1 em1
    exact n_weak (wk_s (wk_n (wk_s (wk_s wk_nil)))) hp
  · have hp := hB q
    refine v_aload_n dX8_keep_20 rfl rfl ?_
    refine n_getr dX8_keep_21 fo_X8_7 sh_304 rfl sr_304_0 ?_
    refine v_bipush dX8_keep_24 rfl ?_
    refine v_iload_n dX8_keep_26 rfl rfl ?_
    refine v_iadd dX8_keep_27 ?_
    refine v_aload_n dX8_keep_28 rfl rfl ?_
    refine n_getr dX8_keep_29 fo_X8_7 sh_304 rfl sr_304_0 ?_
    refine v_sipush dX8_keep_32 rfl ?_
    refine v_iload_n dX8_keep_35 rfl rfl ?_
    refine v_iadd dX8_keep_36 ?_
    obtain ⟨j2, ⟨ej2, bj2⟩, hp⟩ := hp
    refine n_iald (j := j2) dX8_keep_37 sh_305 ej2 bj2 ?_
    obtain ⟨j4, ⟨ej4, bj4⟩, hp⟩ := hp
    refine w_iast (j := j4) dX8_keep_38 sh_305 ej4 bj4 (fun m3 em3 => ?_)
    have hp := hp m3 em3
    refine v_iinc dX8_keep_39 rfl (by decide) ?_
    refine v_goto (tgt := 13) dX8_keep_42 (by decide) ?_
    exact hp
theorem g_X8_keep_55 {G : GG} {d : Nat} {m : MM} {k : MM → Prop} 
    (hp : ∃ j2 : Nat, ((84 + (50 * (m 305 5))) = (j2 : Int) ∧ j2 < 1584) ∧ (∀ m1 : MM, m1 = upm m 305 j2 (m 305 1) → (∃ j4 : Nat, (((84 + (50 * (m 305 5))) + 1) = (j4 : Int) ∧ j4 < 1584) ∧ (∀ m3 : MM, m3 = upm m1 305 j4 (m1 305 2) → (N G (d + 1) mi_X8_keep 96 [some (vr 304), some (vi (84 + (50 * (m 305 5)))), some (vi 0), none] [] m3 (RV k)))))) :
    N G (d + 1) mi_X8_keep 55 [some (vr 304), none, none, none] [] m (RV k) := by
  refine v_bipush dX8_keep_55 rfl ?_
  refine v_bipush dX8_keep_57 rfl ?_
  refine v_aload_n dX8_keep_59 rfl rfl ?_
  refine n_getr dX8_keep_60 fo_X8_7 sh_304 rfl sr_304_0 ?_
  refine v_iconst dX8_keep_63 ?_
  refine n_iald (j := 5) dX8_keep_64 sh_305 rfl (by decide) ?_
  refine v_imul dX8_keep_65 ?_
  refine v_iadd dX8_keep_66 ?_
  refine v_istore_n dX8_keep_67 rfl (by decide) ?_
  refine v_aload_n dX8_keep_68 rfl rfl ?_
  refine n_getr dX8_keep_69 fo_X8_7 sh_304 rfl sr_304_0 ?_
  refine v_iload_n dX8_keep_72 rfl rfl ?_
  refine v_aload_n dX8_keep_73 rfl rfl ?_
  refine n_getr dX8_keep_74 fo_X8_7 sh_304 rfl sr_304_0 ?_
  refine v_iconst dX8_keep_77 ?_
  refine n_iald (j := 1) dX8_keep_78 sh_305 rfl (by decide) ?_
  obtain ⟨j2, ⟨ej2, bj2⟩, hp⟩ := hp
  refine w_iast (j := j2) dX8_keep_79 sh_305 ej2 bj2 (fun m1 em1 => ?_)
  have hp := hp m1 em1
  refine v_aload_n dX8_keep_80 rfl rfl ?_
  refine n_getr dX8_keep_81 fo_X8_7 sh_304 rfl sr_304_0 ?_
  refine v_iload_n dX8_keep_84 rfl rfl ?_
  refine v_iconst dX8_keep_85 ?_
  refine v_iadd dX8_keep_86 ?_
  refine v_aload_n dX8_keep_87 rfl rfl ?_
  refine n_getr dX8_keep_88 fo_X8_7 sh_304 rfl sr_304_0 ?_
  refine v_iconst dX8_keep_91 ?_
  refine n_iald (j := 2) dX8_keep_92 sh_305 rfl (by decide) ?_
  obtain ⟨j4, ⟨ej4, bj4⟩, hp⟩ := hp
  refine w_iast (j := j4) dX8_keep_93 sh_305 ej4 bj4 (fun m3 em3 => ?_)
  have hp := hp m3 em3
  refine v_iconst dX8_keep_94 ?_
  refine v_istore_n dX8_keep_95 rfl (by decide) ?_
  exact hp
theorem g_X8_keep_96 {G : GG} {d : Nat} {m : MM} {k : MM → Prop} (x1 : Int) (x2 : Int)
    (hp : bLE 8 x2 (∀ m1 : MM, m1 = upm m 305 5 ((m 305 5) + 1) → (k m1)) (N G (d + 1) mi_X8_keep 104 [some (vr 304), some (vi x1), some (vi x2), some (vi 0)] [] m (RV k))) :
    N G (d + 1) mi_X8_keep 96 [some (vr 304), some (vi x1), some (vi x2), none] [] m (RV k) := by
  refine v_iload_n dX8_keep_96 rfl rfl ?_
  refine v_bipush dX8_keep_97 rfl ?_
  obtain ⟨⟨r1, r2⟩, hA, hB⟩ := hp
  refine v_icmp_ge (tgt := 145) dX8_keep_99 (by decide) r2 r1 (fun q => ?_) (fun q => ?_)
  · have hp := hA q
    refine v_aload_n dX8_keep_145 rfl rfl ?_
    refine n_getr dX8_keep_146 fo_X8_7 sh_304 rfl sr_304_0 ?_
    refine v_iconst dX8_keep_149 ?_
    refine v_dup2ir dX8_keep_150 ?_
    refine n_iald (j := 5) dX8_keep_151 sh_305 rfl (by decide) ?_
    refine v_iconst dX8_keep_152 ?_
    refine v_iadd dX8_keep_153 ?_
    refine w_iast (j := 5) dX8_keep_154 sh_305 rfl (by decide) (fun m1 em1 => ?_)
    have hp := hp m1 em1
    exact n_retV dX8_keep_155 rfl hp
  · have hp := hB q
    refine v_iconst dX8_keep_102 ?_
    refine v_istore_n dX8_keep_103 rfl (by decide) ?_
    exact hp
theorem g_X8_keep_104 {G : GG} {d : Nat} {m : MM} {k : MM → Prop} (x1 : Int) (x2 : Int) (x3 : Int)
    (hp : bLE 6 x3 (N G (d + 1) mi_X8_keep 96 [some (vr 304), some (vi x1), some (vi (x2 + 1)), none] [] m (RV k)) (N G d mi_X8_get 0 [some (vr 304), some (vi x2), some (vi (2 + x3))] [] m (RI fun z1 m2 => ∃ j4 : Nat, ((((x1 + 2) + (6 * x2)) + x3) = (j4 : Int) ∧ j4 < 1584) ∧ (∀ m3 : MM, m3 = upm m2 305 j4 z1 → (N G (d + 1) mi_X8_keep 104 [some (vr 304), some (vi x1), some (vi x2), some (vi (x3 + 1))] [] m3 (RV k)))))) :
    N G (d + 1) mi_X8_keep 104 [some (vr 304), some (vi x1), some (vi x2), some (vi x3)] [] m (RV k) := by
  refine v_iload_n dX8_keep_104 rfl rfl ?_
  refine v_bipush dX8_keep_105 rfl ?_
  obtain ⟨⟨r1, r2⟩, hA, hB⟩ := hp
  refine v_icmp_ge (tgt := 139) dX8_keep_107 (by decide) r2 r1 (fun q => ?_) (fun q => ?_)
  · have hp := hA q
    refine v_iinc dX8_keep_139 rfl (by decide) ?_
    refine v_goto (tgt := 96) dX8_keep_142 (by decide) ?_
    exact n_weak (wk_s (wk_s (wk_s (wk_n wk_nil)))) hp
  · have hp := hB q
    refine v_aload_n dX8_keep_110 rfl rfl ?_
    refine n_getr dX8_keep_111 fo_X8_7 sh_304 rfl sr_304_0 ?_
    refine v_iload_n dX8_keep_114 rfl rfl ?_
    refine v_iconst dX8_keep_115 ?_
    refine v_iadd dX8_keep_116 ?_
    refine v_bipush dX8_keep_117 rfl ?_
    refine v_iload_n dX8_keep_119 rfl rfl ?_
    refine v_imul dX8_keep_120 ?_
    refine v_iadd dX8_keep_121 ?_
    refine v_iload_n dX8_keep_122 rfl rfl ?_
    refine v_iadd dX8_keep_123 ?_
    refine v_aload_n dX8_keep_124 rfl rfl ?_
    refine v_iload_n dX8_keep_125 rfl rfl ?_
    refine v_iconst dX8_keep_126 ?_
    refine v_iload_n dX8_keep_127 rfl rfl ?_
    refine v_iadd dX8_keep_128 ?_
    refine n_callVI (As := [vi x2, vi (2 + x3)]) (st := [vi (((x1 + 2) + (6 * x2)) + x3), vr 305]) dX8_keep_129 ml_X8_77 mo_X8_get mv_X8_get sh_304 rfl rfl rfl rfl (Nat.le_of_ble_eq_true rfl) (Nat.le_of_ble_eq_true rfl) (by decide) hp (fun z1 m2 hp => ?_)
    obtain ⟨j4, ⟨ej4, bj4⟩, hp⟩ := hp
    refine w_iast (j := j4) dX8_keep_132 sh_305 ej4 bj4 (fun m3 em3 => ?_)
    have hp := hp m3 em3
    refine v_iinc dX8_keep_133 rfl (by decide) ?_
    refine v_goto (tgt := 104) dX8_keep_136 (by decide) ?_
    exact hp
theorem g_X8_undo_0 {G : GG} {d : Nat} {m : MM} {k : Int → MM → Prop} 
    (hp : bEQ (m 305 5) 0 (k (-1) m) (∀ m1 : MM, m1 = upm m 305 5 ((m 305 5) - 1) → (∃ j2 : Nat, (((84 + (50 * (m1 305 5))) + 1) = (j2 : Int) ∧ j2 < 1584) ∧ (∀ m3 : MM, m3 = upm m1 305 2 (m1 305 j2) → (N G (d + 1) mi_X8_undo 50 [some (vr 304), some (vi (84 + (50 * (m1 305 5)))), some (vi 0), none] [] m3 (RI k)))))) :
    N G (d + 1) mi_X8_undo 0 [some (vr 304), none, none, none] [] m (RI k) := by
  refine v_aload_n dX8_undo_0 rfl rfl ?_
  refine n_getr dX8_undo_1 fo_X8_7 sh_304 rfl sr_304_0 ?_
  refine v_iconst dX8_undo_4 ?_
  refine n_iald (j := 5) dX8_undo_5 sh_305 rfl (by decide) ?_
  obtain ⟨⟨r1, r2⟩, hA, hB⟩ := hp
  refine v_if_ne (tgt := 11) dX8_undo_6 (by decide) r1 (fun q => ?_) (fun q => ?_)
  · have hp := hB q
    refine v_aload_n dX8_undo_11 rfl rfl ?_
    refine n_getr dX8_undo_12 fo_X8_7 sh_304 rfl sr_304_0 ?_
    refine v_iconst dX8_undo_15 ?_
    refine v_dup2ir dX8_undo_16 ?_
    refine n_iald (j := 5) dX8_undo_17 sh_305 rfl (by decide) ?_
    refine v_iconst dX8_undo_18 ?_
    refine v_isub dX8_undo_19 ?_
    refine w_iast (j := 5) dX8_undo_20 sh_305 rfl (by decide) (fun m1 em1 => ?_)
    have hp := hp m1 em1
    refine v_bipush dX8_undo_21 rfl ?_
    refine v_bipush dX8_undo_23 rfl ?_
    refine v_aload_n dX8_undo_25 rfl rfl ?_
    refine n_getr dX8_undo_26 fo_X8_7 sh_304 rfl sr_304_0 ?_
    refine v_iconst dX8_undo_29 ?_
    refine n_iald (j := 5) dX8_undo_30 sh_305 rfl (by decide) ?_
    refine v_imul dX8_undo_31 ?_
    refine v_iadd dX8_undo_32 ?_
    refine v_istore_n dX8_undo_33 rfl (by decide) ?_
    refine v_aload_n dX8_undo_34 rfl rfl ?_
    refine n_getr dX8_undo_35 fo_X8_7 sh_304 rfl sr_304_0 ?_
    refine v_iconst dX8_undo_38 ?_
    refine v_aload_n dX8_undo_39 rfl rfl ?_
    refine n_getr dX8_undo_40 fo_X8_7 sh_304 rfl sr_304_0 ?_
    refine v_iload_n dX8_undo_43 rfl rfl ?_
    refine v_iconst dX8_undo_44 ?_
    refine v_iadd dX8_undo_45 ?_
    obtain ⟨j2, ⟨ej2, bj2⟩, hp⟩ := hp
    refine n_iald (j := j2) dX8_undo_46 sh_305 ej2 bj2 ?_
    refine w_iast (j := 2) dX8_undo_47 sh_305 rfl (by decide) (fun m3 em3 => ?_)
    have hp := hp m3 em3
    refine v_iconst dX8_undo_48 ?_
    refine v_istore_n dX8_undo_49 rfl (by decide) ?_
    exact hp
  · have hp := hA q
    refine v_iconst dX8_undo_9 ?_
    exact n_retI dX8_undo_10 rfl hp
theorem g_X8_undo_50 {G : GG} {d : Nat} {m : MM} {k : Int → MM → Prop} (x1 : Int) (x2 : Int)
    (hp : bLE 8 x2 (k (m 305 5) m) (N G (d + 1) mi_X8_undo 58 [some (vr 304), some (vi x1), some (vi x2), some (vi 0)] [] m (RI k))) :
    N G (d + 1) mi_X8_undo 50 [some (vr 304), some (vi x1), some (vi x2), none] [] m (RI k) := by
  refine v_iload_n dX8_undo_50 rfl rfl ?_
  refine v_bipush dX8_undo_51 rfl ?_
  obtain ⟨⟨r1, r2⟩, hA, hB⟩ := hp
  refine v_icmp_ge (tgt := 114) dX8_undo_53 (by decide) r2 r1 (fun q => ?_) (fun q => ?_)
  · have hp := hA q
    refine v_aload_n dX8_undo_114 rfl rfl ?_
    refine n_getr dX8_undo_115 fo_X8_7 sh_304 rfl sr_304_0 ?_
    refine v_iconst dX8_undo_118 ?_
    refine n_iald (j := 5) dX8_undo_119 sh_305 rfl (by decide) ?_
    exact n_retI dX8_undo_120 rfl hp
  · have hp := hB q
    refine v_iconst dX8_undo_56 ?_
    refine v_istore_n dX8_undo_57 rfl (by decide) ?_
    exact hp
theorem g_X8_undo_58 {G : GG} {d : Nat} {m : MM} {k : Int → MM → Prop} (x1 : Int) (x2 : Int) (x3 : Int)
    (hp : bLE 6 x3 (∃ j1 : Nat, (x1 = (j1 : Int) ∧ j1 < 1584) ∧ (bLT x2 (m 305 j1) (N G (d + 1) mi_X8_undo 50 [some (vr 304), some (vi x1), some (vi (x2 + 1)), none] [] m (RI k)) (N G d mi_X8_clear 0 [some (vr 304), some (vi x2), none] [] m (RV fun m3 => N G (d + 1) mi_X8_undo 50 [some (vr 304), some (vi x1), some (vi (x2 + 1)), none] [] m3 (RI k))))) (∃ j4 : Nat, ((((x1 + 2) + (6 * x2)) + x3) = (j4 : Int) ∧ j4 < 1584) ∧ (N G d mi_X8_set 0 [some (vr 304), some (vi x2), some (vi (2 + x3)), some (vi (m 305 j4))] [] m (RV fun m6 => N G (d + 1) mi_X8_undo 58 [some (vr 304), some (vi x1), some (vi x2), some (vi (x3 + 1))] [] m6 (RI k))))) :
    N G (d + 1) mi_X8_undo 58 [some (vr 304), some (vi x1), some (vi x2), some (vi x3)] [] m (RI k) := by
  refine v_iload_n dX8_undo_58 rfl rfl ?_
  refine v_bipush dX8_undo_59 rfl ?_
  obtain ⟨⟨r1, r2⟩, hA, hB⟩ := hp
  refine v_icmp_ge (tgt := 93) dX8_undo_61 (by decide) r2 r1 (fun q => ?_) (fun q => ?_)
  · have hp := hA q
    refine v_iload_n dX8_undo_93 rfl rfl ?_
    refine v_aload_n dX8_undo_94 rfl rfl ?_
    refine n_getr dX8_undo_95 fo_X8_7 sh_304 rfl sr_304_0 ?_
    refine v_iload_n dX8_undo_98 rfl rfl ?_
    obtain ⟨j1, ⟨ej1, bj1⟩, hp⟩ := hp
    refine n_iald (j := j1) dX8_undo_99 sh_305 ej1 bj1 ?_
    obtain ⟨⟨r1, r2⟩, hA, hB⟩ := hp
    refine v_icmp_lt (tgt := 108) dX8_undo_100 (by decide) r1 r2 (fun q => ?_) (fun q => ?_)
    · have hp := hA q
      refine v_iinc dX8_undo_108 rfl (by decide) ?_
      refine v_goto (tgt := 50) dX8_undo_111 (by decide) ?_
      exact n_weak (wk_s (wk_s (wk_s (wk_n wk_nil)))) hp
    · have hp := hB q
      refine v_aload_n dX8_undo_103 rfl rfl ?_
      refine v_iload_n dX8_undo_104 rfl rfl ?_
      refine n_callVV (As := [vi x2]) (st := []) dX8_undo_105 ml_X8_61 mo_X8_clear mv_X8_clear sh_304 rfl rfl rfl rfl (Nat.le_of_ble_eq_true rfl) (Nat.le_of_ble_eq_true rfl) (by decide) hp (fun m3 hp => ?_)
      refine v_iinc dX8_undo_108 rfl (by decide) ?_
      refine v_goto (tgt := 50) dX8_undo_111 (by decide) ?_
      exact n_weak (wk_s (wk_s (wk_s (wk_n wk_nil)))) hp
  · have hp := hB q
    refine v_aload_n dX8_undo_64 rfl rfl ?_
    refine v_iload_n dX8_undo_65 rfl rfl ?_
    refine v_iconst dX8_undo_66 ?_
    refine v_iload_n dX8_undo_67 rfl rfl ?_
    refine v_iadd dX8_undo_68 ?_
    refine v_aload_n dX8_undo_69 rfl rfl ?_
    refine n_getr dX8_undo_70 fo_X8_7 sh_304 rfl sr_304_0 ?_
    refine v_iload_n dX8_undo_73 rfl rfl ?_
    refine v_iconst dX8_undo_74 ?_
    refine v_iadd dX8_undo_75 ?_
    refine v_bipush dX8_undo_76 rfl ?_
    refine v_iload_n dX8_undo_78 rfl rfl ?_
    refine v_imul dX8_undo_79 ?_
    refine v_iadd dX8_undo_80 ?_
    refine v_iload_n dX8_undo_81 rfl rfl ?_
    refine v_iadd dX8_undo_82 ?_
    obtain ⟨j4, ⟨ej4, bj4⟩, hp⟩ := hp
    refine n_iald (j := j4) dX8_undo_83 sh_305 ej4 bj4 ?_
    refine n_callVV (As := [vi x2, vi (2 + x3), vi (m 305 j4)]) (st := []) dX8_undo_84 ml_X8_73 mo_X8_set mv_X8_set sh_304 rfl rfl rfl rfl (Nat.le_of_ble_eq_true rfl) (Nat.le_of_ble_eq_true rfl) (by decide) hp (fun m6 hp => ?_)
    refine v_iinc dX8_undo_87 rfl (by decide) ?_
    refine v_goto (tgt := 58) dX8_undo_90 (by decide) ?_
    exact hp
theorem g_X8_learn_0 {G : GG} {d : Nat} {m : MM} {k : MM → Prop} (x1 : Int) (x2 : Int)
    (hp : N G (d + 1) mi_X8_learn 2 [some (vr 304), some (vi x1), some (vi x2), some (vi 3)] [] m (RV k)) :
    N G (d + 1) mi_X8_learn 0 [some (vr 304), some (vi x1), some (vi x2), none] [] m (RV k) := by
  refine v_iconst dX8_learn_0 ?_
  refine v_istore_n dX8_learn_1 rfl (by decide) ?_
  exact hp
theorem g_X8_learn_2 {G : GG} {d : Nat} {m : MM} {k : MM → Prop} (x1 : Int) (x2 : Int) (x3 : Int)
    (hp : bLE x3 0 (N G d mi_X8_set 0 [some (vr 304), some (vi x1), some (vi 4), some (vi x2)] [] m (RV fun m2 => k m2)) (N G d mi_X8_get 0 [some (vr 304), some (vi x1), some (vi ((4 + x3) - 1))] [] m (RI fun z3 m4 => N G d mi_X8_set 0 [some (vr 304), some (vi x1), some (vi (4 + x3)), some (vi z3)] [] m4 (RV fun m6 => N G (d + 1) mi_X8_learn 2 [some (vr 304), some (vi x1), some (vi x2), some (vi (x3 + (-1)))] [] m6 (RV k))))) :
    N G (d + 1) mi_X8_learn 2 [some (vr 304), some (vi x1), some (vi x2), some (vi x3)] [] m (RV k) := by
  refine v_iload_n dX8_learn_2 rfl rfl ?_
  obtain ⟨⟨r1, r2⟩, hA, hB⟩ := hp
  refine v_if_le (tgt := 30) dX8_learn_3 (by decide) r1 (fun q => ?_) (fun q => ?_)
  · have hp := hA q
    refine v_aload_n dX8_learn_30 rfl rfl ?_
    refine v_iload_n dX8_learn_31 rfl rfl ?_
    refine v_iconst dX8_learn_32 ?_
    refine v_iload_n dX8_learn_33 rfl rfl ?_
    refine n_callVV (As := [vi x1, vi 4, vi x2]) (st := []) dX8_learn_34 ml_X8_73 mo_X8_set mv_X8_set sh_304 rfl rfl rfl rfl (Nat.le_of_ble_eq_true rfl) (Nat.le_of_ble_eq_true rfl) (by decide) hp (fun m2 hp => ?_)
    exact n_retV dX8_learn_37 rfl hp
  · have hp := hB q
    refine v_aload_n dX8_learn_6 rfl rfl ?_
    refine v_iload_n dX8_learn_7 rfl rfl ?_
    refine v_iconst dX8_learn_8 ?_
    refine v_iload_n dX8_learn_9 rfl rfl ?_
    refine v_iadd dX8_learn_10 ?_
    refine v_aload_n dX8_learn_11 rfl rfl ?_
    refine v_iload_n dX8_learn_12 rfl rfl ?_
    refine v_iconst dX8_learn_13 ?_
    refine v_iload_n dX8_learn_14 rfl rfl ?_
    refine v_iadd dX8_learn_15 ?_
    refine v_iconst dX8_learn_16 ?_
    refine v_isub dX8_learn_17 ?_
    refine n_callVI (As := [vi x1, vi ((4 + x3) - 1)]) (st := [vi (4 + x3), vi x1, vr 304]) dX8_learn_18 ml_X8_77 mo_X8_get mv_X8_get sh_304 rfl rfl rfl rfl (Nat.le_of_ble_eq_true rfl) (Nat.le_of_ble_eq_true rfl) (by decide) hp (fun z3 m4 hp => ?_)
    refine n_callVV (As := [vi x1, vi (4 + x3), vi z3]) (st := []) dX8_learn_21 ml_X8_73 mo_X8_set mv_X8_set sh_304 rfl rfl rfl rfl (Nat.le_of_ble_eq_true rfl) (Nat.le_of_ble_eq_true rfl) (by decide) hp (fun m6 hp => ?_)
    refine v_iinc dX8_learn_24 rfl (by decide) ?_
    refine v_goto (tgt := 2) dX8_learn_27 (by decide) ?_
    exact hp
theorem g_X8_touch_0 {G : GG} {d : Nat} {m : MM} {k : Int → MM → Prop} (x1 : Int) (x2 : Int)
    (hp : N G d mi_X8_isThing 0 [some (vr 304), some (vi x1)] [] m (RI fun z1 m2 => bEQ z1 0 (k (-1) m2) (N G d mi_X8_isOne 0 [some (vr 304), some (vi x2)] [] m2 (RI fun z3 m4 => bEQ z3 0 (k (-1) m4) (bEQ (m4 305 2) 999 (k (-1) m4) (N G d mi_X8_keep 0 [some (vr 304), none, none, none] [] m4 (RV fun m6 => ∀ m7 : MM, m7 = upm m6 305 2 ((m6 305 2) + 1) → (N G (d + 1) mi_X8_touch 49 [some (vr 304), some (vi x1), some (vi x2), some (vi 0), some (vi 0)] [] m7 (RI k))))))))) :
    N G (d + 1) mi_X8_touch 0 [some (vr 304), some (vi x1), some (vi x2), none, none] [] m (RI k) := by
  refine v_aload_n dX8_touch_0 rfl rfl ?_
  refine v_iload_n dX8_touch_1 rfl rfl ?_
  refine n_callVI (As := [vi x1]) (st := []) dX8_touch_2 ml_X8_262 mo_X8_isThing mv_X8_isThing sh_304 rfl rfl rfl rfl (Nat.le_of_ble_eq_true rfl) (Nat.le_of_ble_eq_true rfl) (by decide) hp (fun z1 m2 hp => ?_)
  obtain ⟨⟨r1, r2⟩, hA, hB⟩ := hp
  refine v_if_eq (tgt := 28) dX8_touch_5 (by decide) r1 (fun q => ?_) (fun q => ?_)
  · have hp := hA q
    refine v_iconst dX8_touch_28 ?_
    exact n_retI dX8_touch_29 rfl hp
  · have hp := hB q
    refine v_aload_n dX8_touch_8 rfl rfl ?_
    refine v_iload_n dX8_touch_9 rfl rfl ?_
    refine n_callVI (As := [vi x2]) (st := []) dX8_touch_10 ml_X8_265 mo_X8_isOne mv_X8_isOne sh_304 rfl rfl rfl rfl (Nat.le_of_ble_eq_true rfl) (Nat.le_of_ble_eq_true rfl) (by decide) hp (fun z3 m4 hp => ?_)
    obtain ⟨⟨r1, r2⟩, hA, hB⟩ := hp
    refine v_if_eq (tgt := 28) dX8_touch_13 (by decide) r1 (fun q => ?_) (fun q => ?_)
    · have hp := hA q
      refine v_iconst dX8_touch_28 ?_
      exact n_retI dX8_touch_29 rfl hp
    · have hp := hB q
      refine v_aload_n dX8_touch_16 rfl rfl ?_
      refine n_getr dX8_touch_17 fo_X8_7 sh_304 rfl sr_304_0 ?_
      refine v_iconst dX8_touch_20 ?_
      refine n_iald (j := 2) dX8_touch_21 sh_305 rfl (by decide) ?_
      refine v_sipush dX8_touch_22 rfl ?_
      obtain ⟨⟨r1, r2⟩, hA, hB⟩ := hp
      refine v_icmp_ne (tgt := 30) dX8_touch_25 (by decide) r1 r2 (fun q => ?_) (fun q => ?_)
      · have hp := hB q
        refine v_aload_n dX8_touch_30 rfl rfl ?_
        refine n_callVV (As := []) (st := []) dX8_touch_31 ml_X8_268 mo_X8_keep mv_X8_keep sh_304 rfl rfl rfl rfl (Nat.le_of_ble_eq_true rfl) (Nat.le_of_ble_eq_true rfl) (by decide) hp (fun m6 hp => ?_)
        refine v_aload_n dX8_touch_34 rfl rfl ?_
        refine n_getr dX8_touch_35 fo_X8_7 sh_304 rfl sr_304_0 ?_
        refine v_iconst dX8_touch_38 ?_
        refine v_dup2ir dX8_touch_39 ?_
        refine n_iald (j := 2) dX8_touch_40 sh_305 rfl (by decide) ?_
        refine v_iconst dX8_touch_41 ?_
        refine v_iadd dX8_touch_42 ?_
        refine w_iast (j := 2) dX8_touch_43 sh_305 rfl (by decide) (fun m7 em7 => ?_)
        have hp := hp m7 em7
        refine v_iconst dX8_touch_44 ?_
        refine v_istore_n dX8_touch_45 rfl (by decide) ?_
        refine v_iconst dX8_touch_46 ?_
        refine v_istore dX8_touch_47 (by decide) ?_
        exact hp
      · have hp := hA q
        refine v_iconst dX8_touch_28 ?_
        exact n_retI dX8_touch_29 rfl hp
theorem g_X8_touch_49 {G : GG} {d : Nat} {m : MM} {k : Int → MM → Prop} (x1 : Int) (x2 : Int) (x3 : Int) (x4 : Int)
    (hp : bLE (m 305 1) x4 (k x3 m) (N G d mi_X8_get 0 [some (vr 304), some (vi x4), some (vi 2)] [] m (RI fun z1 m2 => bEQ z1 x2 (N G d mi_X8_manyOf 0 [some (vr 304), some (vi x4), none, none] [] m2 (RI fun z3 m4 => N G d mi_X8_sees 0 [some (vr 304), some (vi x4), some (vi (m2 305 2)), some (vi z3), some (vi x1), some (vi x2), none] [] m4 (RI fun z5 m6 => bEQ z5 0 (N G (d + 1) mi_X8_touch 49 [some (vr 304), some (vi x1), some (vi x2), some (vi x3), some (vi (x4 + 1))] [] m6 (RI k)) (N G d mi_X8_learn 0 [some (vr 304), some (vi x4), some (vi x1), none] [] m6 (RV fun m8 => N G d mi_X8_get 0 [some (vr 304), some (vi x4), some (vi 1)] [] m8 (RI fun z9 m10 => bEQ z9 1 (N G d mi_X8_learn 0 [some (vr 304), some (vi x4), some (vi x1), none] [] m10 (RV fun m12 => N G (d + 1) mi_X8_touch 49 [some (vr 304), some (vi x1), some (vi x2), some (vi (x3 + 1)), some (vi (x4 + 1))] [] m12 (RI k))) (N G (d + 1) mi_X8_touch 49 [some (vr 304), some (vi x1), some (vi x2), some (vi (x3 + 1)), some (vi (x4 + 1))] [] m10 (RI k)))))))) (N G (d + 1) mi_X8_touch 49 [some (vr 304), some (vi x1), some (vi x2), some (vi x3), some (vi (x4 + 1))] [] m2 (RI k))))) :
    N G (d + 1) mi_X8_touch 49 [some (vr 304), some (vi x1), some (vi x2), some (vi x3), some (vi x4)] [] m (RI k) := by
  refine v_iload dX8_touch_49 rfl ?_
  refine v_aload_n dX8_touch_51 rfl rfl ?_
  refine n_getr dX8_touch_52 fo_X8_7 sh_304 rfl sr_304_0 ?_
  refine v_iconst dX8_touch_55 ?_
  refine n_iald (j := 1) dX8_touch_56 sh_305 rfl (by decide) ?_
  obtain ⟨⟨r1, r2⟩, hA, hB⟩ := hp
  refine v_icmp_ge (tgt := 131) dX8_touch_57 (by decide) r2 r1 (fun q => ?_) (fun q => ?_)
  · have hp := hA q
    refine v_iload_n dX8_touch_131 rfl rfl ?_
    exact n_retI dX8_touch_132 rfl hp
  · have hp := hB q
    refine v_aload_n dX8_touch_60 rfl rfl ?_
    refine v_iload dX8_touch_61 rfl ?_
    refine v_iconst dX8_touch_63 ?_
    refine n_callVI (As := [vi x4, vi 2]) (st := []) dX8_touch_64 ml_X8_77 mo_X8_get mv_X8_get sh_304 rfl rfl rfl rfl (Nat.le_of_ble_eq_true rfl) (Nat.le_of_ble_eq_true rfl) (by decide) hp (fun z1 m2 hp => ?_)
    refine v_iload_n dX8_touch_67 rfl rfl ?_
    obtain ⟨⟨r1, r2⟩, hA, hB⟩ := hp
    refine v_icmp_ne (tgt := 125) dX8_touch_68 (by decide) r1 r2 (fun q => ?_) (fun q => ?_)
    · have hp := hB q
      refine v_iinc dX8_touch_125 rfl (by decide) ?_
      refine v_goto (tgt := 49) dX8_touch_128 (by decide) ?_
      exact hp
    · have hp := hA q
      refine v_aload_n dX8_touch_71 rfl rfl ?_
      refine v_iload dX8_touch_72 rfl ?_
      refine v_aload_n dX8_touch_74 rfl rfl ?_
      refine n_getr dX8_touch_75 fo_X8_7 sh_304 rfl sr_304_0 ?_
      refine v_iconst dX8_touch_78 ?_
      refine n_iald (j := 2) dX8_touch_79 sh_305 rfl (by decide) ?_
      refine v_aload_n dX8_touch_80 rfl rfl ?_
      refine v_iload dX8_touch_81 rfl ?_
      refine n_callVI (As := [vi x4]) (st := [vi (m2 305 2), vi x4, vr 304]) dX8_touch_83 ml_X8_257 mo_X8_manyOf mv_X8_manyOf sh_304 rfl rfl rfl rfl (Nat.le_of_ble_eq_true rfl) (Nat.le_of_ble_eq_true rfl) (by decide) hp (fun z3 m4 hp => ?_)
      refine v_iload_n dX8_touch_86 rfl rfl ?_
      refine v_iload_n dX8_touch_87 rfl rfl ?_
      refine n_callVI (As := [vi x4, vi (m2 305 2), vi z3, vi x1, vi x2]) (st := []) dX8_touch_88 ml_X8_271 mo_X8_sees mv_X8_sees sh_304 rfl rfl rfl rfl (Nat.le_of_ble_eq_true rfl) (Nat.le_of_ble_eq_true rfl) (by decide) hp (fun z5 m6 hp => ?_)
      obtain ⟨⟨r1, r2⟩, hA, hB⟩ := hp
      refine v_if_ne (tgt := 97) dX8_touch_91 (by decide) r1 (fun q => ?_) (fun q => ?_)
      · have hp := hB q
        refine v_aload_n dX8_touch_97 rfl rfl ?_
        refine v_iload dX8_touch_98 rfl ?_
        refine v_iload_n dX8_touch_100 rfl rfl ?_
        refine n_callVV (As := [vi x4, vi x1]) (st := []) dX8_touch_101 ml_X8_275 mo_X8_learn mv_X8_learn sh_304 rfl rfl rfl rfl (Nat.le_of_ble_eq_true rfl) (Nat.le_of_ble_eq_true rfl) (by decide) hp (fun m8 hp => ?_)
        refine v_aload_n dX8_touch_104 rfl rfl ?_
        refine v_iload dX8_touch_105 rfl ?_
        refine v_iconst dX8_touch_107 ?_
        refine n_callVI (As := [vi x4, vi 1]) (st := []) dX8_touch_108 ml_X8_77 mo_X8_get mv_X8_get sh_304 rfl rfl rfl rfl (Nat.le_of_ble_eq_true rfl) (Nat.le_of_ble_eq_true rfl) (by decide) hp (fun z9 m10 hp => ?_)
        refine v_iconst dX8_touch_111 ?_
        obtain ⟨⟨r1, r2⟩, hA, hB⟩ := hp
        refine v_icmp_ne (tgt := 122) dX8_touch_112 (by decide) r1 r2 (fun q => ?_) (fun q => ?_)
        · have hp := hB q
          refine v_iinc dX8_touch_122 rfl (by decide) ?_
          refine v_iinc dX8_touch_125 rfl (by decide) ?_
          refine v_goto (tgt := 49) dX8_touch_128 (by decide) ?_
          exact hp
        · have hp := hA q
          refine v_aload_n dX8_touch_115 rfl rfl ?_
          refine v_iload dX8_touch_116 rfl ?_
          refine v_iload_n dX8_touch_118 rfl rfl ?_
          refine n_callVV (As := [vi x4, vi x1]) (st := []) dX8_touch_119 ml_X8_275 mo_X8_learn mv_X8_learn sh_304 rfl rfl rfl rfl (Nat.le_of_ble_eq_true rfl) (Nat.le_of_ble_eq_true rfl) (by decide) hp (fun m12 hp => ?_)
          refine v_iinc dX8_touch_122 rfl (by decide) ?_
          refine v_iinc dX8_touch_125 rfl (by decide) ?_
          refine v_goto (tgt := 49) dX8_touch_128 (by decide) ?_
          exact hp
      · have hp := hA q
        refine v_goto (tgt := 125) dX8_touch_94 (by decide) ?_
        refine v_iinc dX8_touch_125 rfl (by decide) ?_
        refine v_goto (tgt := 49) dX8_touch_128 (by decide) ?_
        exact hp
theorem g_X8_place0_0 {G : GG} {d : Nat} {m : MM} {k : MM → Prop} (x1 : Int) (x2 : Int)
    (hp : N G d mi_X8_set 0 [some (vr 304), some (vi x1), some (vi 2), some (vi x2)] [] m (RV fun m2 => N G d mi_X8_set 0 [some (vr 304), some (vi x1), some (vi 3), some (vi (m2 305 2))] [] m2 (RV fun m4 => k m4))) :
    N G (d + 1) mi_X8_place0 0 [some (vr 304), some (vi x1), some (vi x2)] [] m (RV k) := by
  refine v_aload_n dX8_place0_0 rfl rfl ?_
  refine v_iload_n dX8_place0_1 rfl rfl ?_
  refine v_iconst dX8_place0_2 ?_
  refine v_iload_n dX8_place0_3 rfl rfl ?_
  refine n_callVV (As := [vi x1, vi 2, vi x2]) (st := []) dX8_place0_4 ml_X8_73 mo_X8_set mv_X8_set sh_304 rfl rfl rfl rfl (Nat.le_of_ble_eq_true rfl) (Nat.le_of_ble_eq_true rfl) (by decide) hp (fun m2 hp => ?_)
  refine v_aload_n dX8_place0_7 rfl rfl ?_
  refine v_iload_n dX8_place0_8 rfl rfl ?_
  refine v_iconst dX8_place0_9 ?_
  refine v_aload_n dX8_place0_10 rfl rfl ?_
  refine n_getr dX8_place0_11 fo_X8_7 sh_304 rfl sr_304_0 ?_
  refine v_iconst dX8_place0_14 ?_
  refine n_iald (j := 2) dX8_place0_15 sh_305 rfl (by decide) ?_
  refine n_callVV (As := [vi x1, vi 3, vi (m2 305 2)]) (st := []) dX8_place0_16 ml_X8_73 mo_X8_set mv_X8_set sh_304 rfl rfl rfl rfl (Nat.le_of_ble_eq_true rfl) (Nat.le_of_ble_eq_true rfl) (by decide) hp (fun m4 hp => ?_)
  exact n_retV dX8_place0_19 rfl hp
theorem g_X8_put_0 {G : GG} {d : Nat} {m : MM} {k : Int → MM → Prop} (x1 : Int) (x2 : Int)
    (hp : N G d mi_X8_isEye 0 [some (vr 304), some (vi x1)] [] m (RI fun z1 m2 => bEQ z1 0 (k 0 m2) (bEQ x2 (-1) (N G (d + 1) mi_X8_put 21 [some (vr 304), some (vi x1), some (vi x2)] [] m2 (RI k)) (N G d mi_X8_isOne 0 [some (vr 304), some (vi x2)] [] m2 (RI fun z3 m4 => bEQ z3 0 (k 0 m4) (N G (d + 1) mi_X8_put 21 [some (vr 304), some (vi x1), some (vi x2)] [] m4 (RI k))))))) :
    N G (d + 1) mi_X8_put 0 [some (vr 304), some (vi x1), some (vi x2)] [] m (RI k) := by
  refine v_aload_n dX8_put_0 rfl rfl ?_
  refine v_iload_n dX8_put_1 rfl rfl ?_
  refine n_callVI (As := [vi x1]) (st := []) dX8_put_2 ml_X8_278 mo_X8_isEye mv_X8_isEye sh_304 rfl rfl rfl rfl (Nat.le_of_ble_eq_true rfl) (Nat.le_of_ble_eq_true rfl) (by decide) hp (fun z1 m2 hp => ?_)
  obtain ⟨⟨r1, r2⟩, hA, hB⟩ := hp
  refine v_if_eq (tgt := 47) dX8_put_5 (by decide) r1 (fun q => ?_) (fun q => ?_)
  · have hp := hA q
    refine v_iconst dX8_put_47 ?_
    exact n_retZ dX8_put_48 rfl (by decide) hp
  · have hp := hB q
    refine v_iload_n dX8_put_8 rfl rfl ?_
    refine v_iconst dX8_put_9 ?_
    obtain ⟨⟨r1, r2⟩, hA, hB⟩ := hp
    refine v_icmp_eq (tgt := 21) dX8_put_10 (by decide) r1 r2 (fun q => ?_) (fun q => ?_)
    · have hp := hA q
      exact hp
    · have hp := hB q
      refine v_aload_n dX8_put_13 rfl rfl ?_
      refine v_iload_n dX8_put_14 rfl rfl ?_
      refine n_callVI (As := [vi x2]) (st := []) dX8_put_15 ml_X8_265 mo_X8_isOne mv_X8_isOne sh_304 rfl rfl rfl rfl (Nat.le_of_ble_eq_true rfl) (Nat.le_of_ble_eq_true rfl) (by decide) hp (fun z3 m4 hp => ?_)
      obtain ⟨⟨r1, r2⟩, hA, hB⟩ := hp
      refine v_if_eq (tgt := 47) dX8_put_18 (by decide) r1 (fun q => ?_) (fun q => ?_)
      · have hp := hA q
        refine v_iconst dX8_put_47 ?_
        exact n_retZ dX8_put_48 rfl (by decide) hp
      · have hp := hB q
        exact hp
theorem g_X8_put_21 {G : GG} {d : Nat} {m : MM} {k : Int → MM → Prop} (x1 : Int) (x2 : Int)
    (hp : N G d mi_X8_get 0 [some (vr 304), some (vi x1), some (vi 2)] [] m (RI fun z1 m2 => bEQ z1 x2 (k 0 m2) (bLT x2 0 (N G (d + 1) mi_X8_put 49 [some (vr 304), some (vi x1), some (vi x2)] [] m2 (RI k)) (N G d mi_X8_wornBy 0 [some (vr 304), some (vi x2), none, none] [] m2 (RI fun z3 m4 => N G d mi_X8_bits 0 [some (vi z3), none, none] [] m4 (RI fun z5 m6 => bEQ z5 2 (k 0 m6) (N G (d + 1) mi_X8_put 49 [some (vr 304), some (vi x1), some (vi x2)] [] m6 (RI k)))))))) :
    N G (d + 1) mi_X8_put 21 [some (vr 304), some (vi x1), some (vi x2)] [] m (RI k) := by
  refine v_aload_n dX8_put_21 rfl rfl ?_
  refine v_iload_n dX8_put_22 rfl rfl ?_
  refine v_iconst dX8_put_23 ?_
  refine n_callVI (As := [vi x1, vi 2]) (st := []) dX8_put_24 ml_X8_77 mo_X8_get mv_X8_get sh_304 rfl rfl rfl rfl (Nat.le_of_ble_eq_true rfl) (Nat.le_of_ble_eq_true rfl) (by decide) hp (fun z1 m2 hp => ?_)
  refine v_iload_n dX8_put_27 rfl rfl ?_
  obtain ⟨⟨r1, r2⟩, hA, hB⟩ := hp
  refine v_icmp_eq (tgt := 47) dX8_put_28 (by decide) r1 r2 (fun q => ?_) (fun q => ?_)
  · have hp := hA q
    refine v_iconst dX8_put_47 ?_
    exact n_retZ dX8_put_48 rfl (by decide) hp
  · have hp := hB q
    refine v_iload_n dX8_put_31 rfl rfl ?_
    obtain ⟨⟨r1, r2⟩, hA, hB⟩ := hp
    refine v_if_lt (tgt := 49) dX8_put_32 (by decide) r1 (fun q => ?_) (fun q => ?_)
    · have hp := hA q
      exact hp
    · have hp := hB q
      refine v_aload_n dX8_put_35 rfl rfl ?_
      refine v_iload_n dX8_put_36 rfl rfl ?_
      refine n_callVI (As := [vi x2]) (st := []) dX8_put_37 ml_X8_281 mo_X8_wornBy mv_X8_wornBy sh_304 rfl rfl rfl rfl (Nat.le_of_ble_eq_true rfl) (Nat.le_of_ble_eq_true rfl) (by decide) hp (fun z3 m4 hp => ?_)
      refine n_callSI (As := [vi z3]) (st := []) dX8_put_40 ml_X8_284 mo_X8_bits ms_X8_bits rfl rfl (Nat.le_of_ble_eq_true rfl) (Nat.le_of_ble_eq_true rfl) (by decide) hp (fun z5 m6 hp => ?_)
      refine v_iconst dX8_put_43 ?_
      obtain ⟨⟨r1, r2⟩, hA, hB⟩ := hp
      refine v_icmp_ne (tgt := 49) dX8_put_44 (by decide) r1 r2 (fun q => ?_) (fun q => ?_)
      · have hp := hB q
        exact hp
      · have hp := hA q
        refine v_iconst dX8_put_47 ?_
        exact n_retZ dX8_put_48 rfl (by decide) hp
theorem g_X8_put_49 {G : GG} {d : Nat} {m : MM} {k : Int → MM → Prop} (x1 : Int) (x2 : Int)
    (hp : N G d mi_X8_keep 0 [some (vr 304), none, none, none] [] m (RV fun m2 => N G d mi_X8_place0 0 [some (vr 304), some (vi x1), some (vi x2)] [] m2 (RV fun m4 => k 1 m4))) :
    N G (d + 1) mi_X8_put 49 [some (vr 304), some (vi x1), some (vi x2)] [] m (RI k) := by
  refine v_aload_n dX8_put_49 rfl rfl ?_
  refine n_callVV (As := []) (st := []) dX8_put_50 ml_X8_268 mo_X8_keep mv_X8_keep sh_304 rfl rfl rfl rfl (Nat.le_of_ble_eq_true rfl) (Nat.le_of_ble_eq_true rfl) (by decide) hp (fun m2 hp => ?_)
  refine v_aload_n dX8_put_53 rfl rfl ?_
  refine v_iload_n dX8_put_54 rfl rfl ?_
  refine v_iload_n dX8_put_55 rfl rfl ?_
  refine n_callVV (As := [vi x1, vi x2]) (st := []) dX8_put_56 ml_X8_287 mo_X8_place0 mv_X8_place0 sh_304 rfl rfl rfl rfl (Nat.le_of_ble_eq_true rfl) (Nat.le_of_ble_eq_true rfl) (by decide) hp (fun m4 hp => ?_)
  refine v_iconst dX8_put_59 ?_
  exact n_retZ dX8_put_60 rfl (by decide) hp
theorem g_X8_exchange_0 {G : GG} {d : Nat} {m : MM} {k : MM → Prop} (x1 : Int) (x2 : Int)
    (hp : N G d mi_X8_get 0 [some (vr 304), some (vi x1), some (vi 2)] [] m (RI fun z1 m2 => N G d mi_X8_get 0 [some (vr 304), some (vi x2), some (vi 2)] [] m2 (RI fun z3 m4 => N G d mi_X8_place0 0 [some (vr 304), some (vi x1), some (vi z3)] [] m4 (RV fun m6 => N G d mi_X8_place0 0 [some (vr 304), some (vi x2), some (vi z1)] [] m6 (RV fun m8 => k m8))))) :
    N G (d + 1) mi_X8_exchange 0 [some (vr 304), some (vi x1), some (vi x2), none] [] m (RV k) := by
  refine v_aload_n dX8_exchange_0 rfl rfl ?_
  refine v_iload_n dX8_exchange_1 rfl rfl ?_
  refine v_iconst dX8_exchange_2 ?_
  refine n_callVI (As := [vi x1, vi 2]) (st := []) dX8_exchange_3 ml_X8_77 mo_X8_get mv_X8_get sh_304 rfl rfl rfl rfl (Nat.le_of_ble_eq_true rfl) (Nat.le_of_ble_eq_true rfl) (by decide) hp (fun z1 m2 hp => ?_)
  refine v_istore_n dX8_exchange_6 rfl (by decide) ?_
  refine v_aload_n dX8_exchange_7 rfl rfl ?_
  refine v_iload_n dX8_exchange_8 rfl rfl ?_
  refine v_aload_n dX8_exchange_9 rfl rfl ?_
  refine v_iload_n dX8_exchange_10 rfl rfl ?_
  refine v_iconst dX8_exchange_11 ?_
  refine n_callVI (As := [vi x2, vi 2]) (st := [vi x1, vr 304]) dX8_exchange_12 ml_X8_77 mo_X8_get mv_X8_get sh_304 rfl rfl rfl rfl (Nat.le_of_ble_eq_true rfl) (Nat.le_of_ble_eq_true rfl) (by decide) hp (fun z3 m4 hp => ?_)
  refine n_callVV (As := [vi x1, vi z3]) (st := []) dX8_exchange_15 ml_X8_287 mo_X8_place0 mv_X8_place0 sh_304 rfl rfl rfl rfl (Nat.le_of_ble_eq_true rfl) (Nat.le_of_ble_eq_true rfl) (by decide) hp (fun m6 hp => ?_)
  refine v_aload_n dX8_exchange_18 rfl rfl ?_
  refine v_iload_n dX8_exchange_19 rfl rfl ?_
  refine v_iload_n dX8_exchange_20 rfl rfl ?_
  refine n_callVV (As := [vi x2, vi z1]) (st := []) dX8_exchange_21 ml_X8_287 mo_X8_place0 mv_X8_place0 sh_304 rfl rfl rfl rfl (Nat.le_of_ble_eq_true rfl) (Nat.le_of_ble_eq_true rfl) (by decide) hp (fun m8 hp => ?_)
  exact n_retV dX8_exchange_24 rfl hp
theorem g_X8_swap_0 {G : GG} {d : Nat} {m : MM} {k : Int → MM → Prop} (x1 : Int) (x2 : Int)
    (hp : N G d mi_X8_isEye 0 [some (vr 304), some (vi x1)] [] m (RI fun z1 m2 => bEQ z1 0 (k 0 m2) (N G d mi_X8_isEye 0 [some (vr 304), some (vi x2)] [] m2 (RI fun z3 m4 => bEQ z3 0 (k 0 m4) (bEQ x1 x2 (k 0 m4) (N G d mi_X8_keep 0 [some (vr 304), none, none, none] [] m4 (RV fun m6 => N G d mi_X8_exchange 0 [some (vr 304), some (vi x1), some (vi x2), none] [] m6 (RV fun m8 => k 1 m8)))))))) :
    N G (d + 1) mi_X8_swap 0 [some (vr 304), some (vi x1), some (vi x2)] [] m (RI k) := by
  refine v_aload_n dX8_swap_0 rfl rfl ?_
  refine v_iload_n dX8_swap_1 rfl rfl ?_
  refine n_callVI (As := [vi x1]) (st := []) dX8_swap_2 ml_X8_278 mo_X8_isEye mv_X8_isEye sh_304 rfl rfl rfl rfl (Nat.le_of_ble_eq_true rfl) (Nat.le_of_ble_eq_true rfl) (by decide) hp (fun z1 m2 hp => ?_)
  obtain ⟨⟨r1, r2⟩, hA, hB⟩ := hp
  refine v_if_eq (tgt := 21) dX8_swap_5 (by decide) r1 (fun q => ?_) (fun q => ?_)
  · have hp := hA q
    refine v_iconst dX8_swap_21 ?_
    exact n_retZ dX8_swap_22 rfl (by decide) hp
  · have hp := hB q
    refine v_aload_n dX8_swap_8 rfl rfl ?_
    refine v_iload_n dX8_swap_9 rfl rfl ?_
    refine n_callVI (As := [vi x2]) (st := []) dX8_swap_10 ml_X8_278 mo_X8_isEye mv_X8_isEye sh_304 rfl rfl rfl rfl (Nat.le_of_ble_eq_true rfl) (Nat.le_of_ble_eq_true rfl) (by decide) hp (fun z3 m4 hp => ?_)
    obtain ⟨⟨r1, r2⟩, hA, hB⟩ := hp
    refine v_if_eq (tgt := 21) dX8_swap_13 (by decide) r1 (fun q => ?_) (fun q => ?_)
    · have hp := hA q
      refine v_iconst dX8_swap_21 ?_
      exact n_retZ dX8_swap_22 rfl (by decide) hp
    · have hp := hB q
      refine v_iload_n dX8_swap_16 rfl rfl ?_
      refine v_iload_n dX8_swap_17 rfl rfl ?_
      obtain ⟨⟨r1, r2⟩, hA, hB⟩ := hp
      refine v_icmp_ne (tgt := 23) dX8_swap_18 (by decide) r1 r2 (fun q => ?_) (fun q => ?_)
      · have hp := hB q
        refine v_aload_n dX8_swap_23 rfl rfl ?_
        refine n_callVV (As := []) (st := []) dX8_swap_24 ml_X8_268 mo_X8_keep mv_X8_keep sh_304 rfl rfl rfl rfl (Nat.le_of_ble_eq_true rfl) (Nat.le_of_ble_eq_true rfl) (by decide) hp (fun m6 hp => ?_)
        refine v_aload_n dX8_swap_27 rfl rfl ?_
        refine v_iload_n dX8_swap_28 rfl rfl ?_
        refine v_iload_n dX8_swap_29 rfl rfl ?_
        refine n_callVV (As := [vi x1, vi x2]) (st := []) dX8_swap_30 ml_X8_290 mo_X8_exchange mv_X8_exchange sh_304 rfl rfl rfl rfl (Nat.le_of_ble_eq_true rfl) (Nat.le_of_ble_eq_true rfl) (by decide) hp (fun m8 hp => ?_)
        refine v_iconst dX8_swap_33 ?_
        exact n_retZ dX8_swap_34 rfl (by decide) hp
      · have hp := hA q
        refine v_iconst dX8_swap_21 ?_
        exact n_retZ dX8_swap_22 rfl (by decide) hp
theorem g_X8_polish_0 {G : GG} {d : Nat} {m : MM} {k : Int → MM → Prop} (x1 : Int)
    (hp : N G d mi_X8_isEye 0 [some (vr 304), some (vi x1)] [] m (RI fun z1 m2 => bEQ z1 0 (k (-1) m2) (N G d mi_X8_keep 0 [some (vr 304), none, none, none] [] m2 (RV fun m4 => N G d mi_X8_manyOf 0 [some (vr 304), some (vi x1), none, none] [] m4 (RI fun z5 m6 => N G (d + 1) mi_X8_polish 22 [some (vr 304), some (vi x1), some (vi z5), some (vi 0)] [] m6 (RI k)))))) :
    N G (d + 1) mi_X8_polish 0 [some (vr 304), some (vi x1), none, none] [] m (RI k) := by
  refine v_aload_n dX8_polish_0 rfl rfl ?_
  refine v_iload_n dX8_polish_1 rfl rfl ?_
  refine n_callVI (As := [vi x1]) (st := []) dX8_polish_2 ml_X8_278 mo_X8_isEye mv_X8_isEye sh_304 rfl rfl rfl rfl (Nat.le_of_ble_eq_true rfl) (Nat.le_of_ble_eq_true rfl) (by decide) hp (fun z1 m2 hp => ?_)
  obtain ⟨⟨r1, r2⟩, hA, hB⟩ := hp
  refine v_if_ne (tgt := 10) dX8_polish_5 (by decide) r1 (fun q => ?_) (fun q => ?_)
  · have hp := hB q
    refine v_aload_n dX8_polish_10 rfl rfl ?_
    refine n_callVV (As := []) (st := []) dX8_polish_11 ml_X8_268 mo_X8_keep mv_X8_keep sh_304 rfl rfl rfl rfl (Nat.le_of_ble_eq_true rfl) (Nat.le_of_ble_eq_true rfl) (by decide) hp (fun m4 hp => ?_)
    refine v_aload_n dX8_polish_14 rfl rfl ?_
    refine v_iload_n dX8_polish_15 rfl rfl ?_
    refine n_callVI (As := [vi x1]) (st := []) dX8_polish_16 ml_X8_257 mo_X8_manyOf mv_X8_manyOf sh_304 rfl rfl rfl rfl (Nat.le_of_ble_eq_true rfl) (Nat.le_of_ble_eq_true rfl) (by decide) hp (fun z5 m6 hp => ?_)
    refine v_istore_n dX8_polish_19 rfl (by decide) ?_
    refine v_iconst dX8_polish_20 ?_
    refine v_istore_n dX8_polish_21 rfl (by decide) ?_
    exact hp
  · have hp := hA q
    refine v_iconst dX8_polish_8 ?_
    exact n_retI dX8_polish_9 rfl hp
theorem g_X8_polish_22 {G : GG} {d : Nat} {m : MM} {k : Int → MM → Prop} (x1 : Int) (x2 : Int) (x3 : Int)
    (hp : bLE 4 x3 (k x2 m) (N G d mi_X8_set 0 [some (vr 304), some (vi x1), some (vi (4 + x3)), some (vi (-1))] [] m (RV fun m2 => N G (d + 1) mi_X8_polish 22 [some (vr 304), some (vi x1), some (vi x2), some (vi (x3 + 1))] [] m2 (RI k)))) :
    N G (d + 1) mi_X8_polish 22 [some (vr 304), some (vi x1), some (vi x2), some (vi x3)] [] m (RI k) := by
  refine v_iload_n dX8_polish_22 rfl rfl ?_
  refine v_iconst dX8_polish_23 ?_
  obtain ⟨⟨r1, r2⟩, hA, hB⟩ := hp
  refine v_icmp_ge (tgt := 42) dX8_polish_24 (by decide) r2 r1 (fun q => ?_) (fun q => ?_)
  · have hp := hA q
    refine v_iload_n dX8_polish_42 rfl rfl ?_
    exact n_retI dX8_polish_43 rfl hp
  · have hp := hB q
    refine v_aload_n dX8_polish_27 rfl rfl ?_
    refine v_iload_n dX8_polish_28 rfl rfl ?_
    refine v_iconst dX8_polish_29 ?_
    refine v_iload_n dX8_polish_30 rfl rfl ?_
    refine v_iadd dX8_polish_31 ?_
    refine v_iconst dX8_polish_32 ?_
    refine n_callVV (As := [vi x1, vi (4 + x3), vi (-1)]) (st := []) dX8_polish_33 ml_X8_73 mo_X8_set mv_X8_set sh_304 rfl rfl rfl rfl (Nat.le_of_ble_eq_true rfl) (Nat.le_of_ble_eq_true rfl) (by decide) hp (fun m2 hp => ?_)
    refine v_iinc dX8_polish_36 rfl (by decide) ?_
    refine v_goto (tgt := 22) dX8_polish_39 (by decide) ?_
    exact hp
theorem g_X8_isDone_0 {G : GG} {d : Nat} {m : MM} {k : Int → MM → Prop} (x1 : Int)
    (hp : ∃ j1 : Nat, ((x1 + 1) = (j1 : Int) ∧ j1 < 2720) ∧ (∃ j2 : Nat, ((x1 + 2) = (j2 : Int) ∧ j2 < 2720) ∧ (∃ j3 : Nat, (x1 = (j3 : Int) ∧ j3 < 2720) ∧ ((rng (m 308 j3)) ∧ ((m 308 j3) = 2 → (N G d mi_X8_touch 0 [some (vr 304), some (vi (m 308 j1)), some (vi (m 308 j2)), none, none] [] m (RI fun z4 m5 => bLT z4 0 (k 0 m5) (k 1 m5)))) ∧ ((m 308 j3) = 3 → (N G d mi_X8_put 0 [some (vr 304), some (vi (m 308 j1)), some (vi (m 308 j2))] [] m (RI fun z6 m7 => (z6 = 0 ∨ z6 = 1) ∧ (k z6 m7)))) ∧ ((m 308 j3) = 4 → (N G d mi_X8_put 0 [some (vr 304), some (vi (m 308 j1)), some (vi (-1))] [] m (RI fun z8 m9 => (z8 = 0 ∨ z8 = 1) ∧ (k z8 m9)))) ∧ ((m 308 j3) = 5 → (N G d mi_X8_swap 0 [some (vr 304), some (vi (m 308 j1)), some (vi (m 308 j2))] [] m (RI fun z10 m11 => (z10 = 0 ∨ z10 = 1) ∧ (k z10 m11)))) ∧ ((m 308 j3) = 6 → (N G d mi_X8_polish 0 [some (vr 304), some (vi (m 308 j1)), none, none] [] m (RI fun z12 m13 => bLT z12 0 (k 0 m13) (k 1 m13)))) ∧ (((m 308 j3) < 2 ∨ 6 < (m 308 j3)) → (k 1 m)))))) :
    N G (d + 1) mi_X8_isDone 0 [some (vr 304), some (vi x1), none, none] [] m (RI k) := by
  refine v_aload_n dX8_isDone_0 rfl rfl ?_
  refine n_getr dX8_isDone_1 fo_X8_19 sh_304 rfl sr_304_4 ?_
  refine v_iload_n dX8_isDone_4 rfl rfl ?_
  refine v_iconst dX8_isDone_5 ?_
  refine v_iadd dX8_isDone_6 ?_
  obtain ⟨j1, ⟨ej1, bj1⟩, hp⟩ := hp
  refine n_iald (j := j1) dX8_isDone_7 sh_308 ej1 bj1 ?_
  refine v_istore_n dX8_isDone_8 rfl (by decide) ?_
  refine v_aload_n dX8_isDone_9 rfl rfl ?_
  refine n_getr dX8_isDone_10 fo_X8_19 sh_304 rfl sr_304_4 ?_
  refine v_iload_n dX8_isDone_13 rfl rfl ?_
  refine v_iconst dX8_isDone_14 ?_
  refine v_iadd dX8_isDone_15 ?_
  obtain ⟨j2, ⟨ej2, bj2⟩, hp⟩ := hp
  refine n_iald (j := j2) dX8_isDone_16 sh_308 ej2 bj2 ?_
  refine v_istore_n dX8_isDone_17 rfl (by decide) ?_
  refine v_aload_n dX8_isDone_18 rfl rfl ?_
  refine n_getr dX8_isDone_19 fo_X8_19 sh_304 rfl sr_304_4 ?_
  refine v_iload_n dX8_isDone_22 rfl rfl ?_
  obtain ⟨j3, ⟨ej3, bj3⟩, hp⟩ := hp
  refine n_iald (j := j3) dX8_isDone_23 sh_308 ej3 bj3 ?_
  obtain ⟨hz, h_0, h_1, h_2, h_3, h_4, hd⟩ := hp
  by_cases hq : (m 308 j3) < 2 ∨ 6 < (m 308 j3)
  · have hp := hd hq
    refine v_tableOut (tgt := 110) dX8_isDone_24 hz hq (by decide) ?_
    refine v_iconst dX8_isDone_110 ?_
    exact n_retZ dX8_isDone_111 rfl (by decide) hp
  have hc : (m 308 j3) = 2 ∨ (m 308 j3) = 3 ∨ (m 308 j3) = 4 ∨ (m 308 j3) = 5 ∨ (m 308 j3) = 6 := by omega
  rcases hc with hc | hc | hc | hc | hc
  · have hp := h_0 hc
    refine v_tableIn (tgt := 60) (off := 36) dX8_isDone_24 hz (by omega) (by omega) (by rw [hc]; rfl) (by decide) ?_
    refine v_aload_n dX8_isDone_60 rfl rfl ?_
    refine v_iload_n dX8_isDone_61 rfl rfl ?_
    refine v_iload_n dX8_isDone_62 rfl rfl ?_
    refine n_callVI (As := [vi (m 308 j1), vi (m 308 j2)]) (st := []) dX8_isDone_63 ml_X8_293 mo_X8_touch mv_X8_touch sh_304 rfl rfl rfl rfl (Nat.le_of_ble_eq_true rfl) (Nat.le_of_ble_eq_true rfl) (by decide) hp (fun z4 m5 hp => ?_)
    obtain ⟨⟨r1, r2⟩, hA, hB⟩ := hp
    refine v_if_lt (tgt := 73) dX8_isDone_66 (by decide) r1 (fun q => ?_) (fun q => ?_)
    · have hp := hA q
      refine v_iconst dX8_isDone_73 ?_
      exact n_retZ dX8_isDone_74 rfl (by decide) hp
    · have hp := hB q
      refine v_iconst dX8_isDone_69 ?_
      refine v_goto (tgt := 74) dX8_isDone_70 (by decide) ?_
      exact n_retZ dX8_isDone_74 rfl (by decide) hp
  · have hp := h_1 hc
    refine v_tableIn (tgt := 75) (off := 51) dX8_isDone_24 hz (by omega) (by omega) (by rw [hc]; rfl) (by decide) ?_
    refine v_aload_n dX8_isDone_75 rfl rfl ?_
    refine v_iload_n dX8_isDone_76 rfl rfl ?_
    refine v_iload_n dX8_isDone_77 rfl rfl ?_
    refine n_callVI (As := [vi (m 308 j1), vi (m 308 j2)]) (st := []) dX8_isDone_78 ml_X8_296 mo_X8_put mv_X8_put sh_304 rfl rfl rfl rfl (Nat.le_of_ble_eq_true rfl) (Nat.le_of_ble_eq_true rfl) (by decide) hp (fun z6 m7 hp => ?_)
    exact n_retZ dX8_isDone_81 rfl hp.1 hp.2
  · have hp := h_2 hc
    refine v_tableIn (tgt := 82) (off := 58) dX8_isDone_24 hz (by omega) (by omega) (by rw [hc]; rfl) (by decide) ?_
    refine v_aload_n dX8_isDone_82 rfl rfl ?_
    refine v_iload_n dX8_isDone_83 rfl rfl ?_
    refine v_iconst dX8_isDone_84 ?_
    refine n_callVI (As := [vi (m 308 j1), vi (-1)]) (st := []) dX8_isDone_85 ml_X8_296 mo_X8_put mv_X8_put sh_304 rfl rfl rfl rfl (Nat.le_of_ble_eq_true rfl) (Nat.le_of_ble_eq_true rfl) (by decide) hp (fun z8 m9 hp => ?_)
    exact n_retZ dX8_isDone_88 rfl hp.1 hp.2
  · have hp := h_3 hc
    refine v_tableIn (tgt := 89) (off := 65) dX8_isDone_24 hz (by omega) (by omega) (by rw [hc]; rfl) (by decide) ?_
    refine v_aload_n dX8_isDone_89 rfl rfl ?_
    refine v_iload_n dX8_isDone_90 rfl rfl ?_
    refine v_iload_n dX8_isDone_91 rfl rfl ?_
    refine n_callVI (As := [vi (m 308 j1), vi (m 308 j2)]) (st := []) dX8_isDone_92 ml_X8_300 mo_X8_swap mv_X8_swap sh_304 rfl rfl rfl rfl (Nat.le_of_ble_eq_true rfl) (Nat.le_of_ble_eq_true rfl) (by decide) hp (fun z10 m11 hp => ?_)
    exact n_retZ dX8_isDone_95 rfl hp.1 hp.2
  · have hp := h_4 hc
    refine v_tableIn (tgt := 96) (off := 72) dX8_isDone_24 hz (by omega) (by omega) (by rw [hc]; rfl) (by decide) ?_
    refine v_aload_n dX8_isDone_96 rfl rfl ?_
    refine v_iload_n dX8_isDone_97 rfl rfl ?_
    refine n_callVI (As := [vi (m 308 j1)]) (st := []) dX8_isDone_98 ml_X8_303 mo_X8_polish mv_X8_polish sh_304 rfl rfl rfl rfl (Nat.le_of_ble_eq_true rfl) (Nat.le_of_ble_eq_true rfl) (by decide) hp (fun z12 m13 hp => ?_)
    obtain ⟨⟨r1, r2⟩, hA, hB⟩ := hp
    refine v_if_lt (tgt := 108) dX8_isDone_101 (by decide) r1 (fun q => ?_) (fun q => ?_)
    · have hp := hA q
      refine v_iconst dX8_isDone_108 ?_
      exact n_retZ dX8_isDone_109 rfl (by decide) hp
    · have hp := hB q
      refine v_iconst dX8_isDone_104 ?_
      refine v_goto (tgt := 109) dX8_isDone_105 (by decide) ?_
      exact n_retZ dX8_isDone_109 rfl (by decide) hp
theorem g_X8_played_0 {G : GG} {d : Nat} {m : MM} {k : Int → MM → Prop} (x1 : Int)
    (hp : N G d mi_X8_isText 0 [some (vr 304), some (vi x1)] [] m (RI fun z1 m2 => bEQ z1 0 (k (-2) m2) (N G (d + 1) mi_X8_played 13 [some (vr 304), some (vi x1), some (vi 0)] [] m2 (RI k)))) :
    N G (d + 1) mi_X8_played 0 [some (vr 304), some (vi x1), none] [] m (RI k) := by
  refine v_aload_n dX8_played_0 rfl rfl ?_
  refine v_iload_n dX8_played_1 rfl rfl ?_
  refine n_callVI (As := [vi x1]) (st := []) dX8_played_2 ml_X8_229 mo_X8_isText mv_X8_isText sh_304 rfl rfl rfl rfl (Nat.le_of_ble_eq_true rfl) (Nat.le_of_ble_eq_true rfl) (by decide) hp (fun z1 m2 hp => ?_)
  obtain ⟨⟨r1, r2⟩, hA, hB⟩ := hp
  refine v_if_ne (tgt := 11) dX8_played_5 (by decide) r1 (fun q => ?_) (fun q => ?_)
  · have hp := hB q
    refine v_iconst dX8_played_11 ?_
    refine v_istore_n dX8_played_12 rfl (by decide) ?_
    exact hp
  · have hp := hA q
    refine v_bipush dX8_played_8 rfl ?_
    exact n_retI dX8_played_10 rfl hp
theorem g_X8_played_13 {G : GG} {d : Nat} {m : MM} {k : Int → MM → Prop} (x1 : Int) (x2 : Int)
    (hp : ∃ j1 : Nat, ((680 * x1) = (j1 : Int) ∧ j1 < 2720) ∧ (bLE (m 308 j1) x2 (k (-1) m) (N G d mi_X8_isDone 0 [some (vr 304), some (vi (((680 * x1) + 1) + (3 * x2))), none, none] [] m (RI fun z2 m3 => bEQ z2 0 (k x2 m3) (N G (d + 1) mi_X8_played 13 [some (vr 304), some (vi x1), some (vi (x2 + 1))] [] m3 (RI k)))))) :
    N G (d + 1) mi_X8_played 13 [some (vr 304), some (vi x1), some (vi x2)] [] m (RI k) := by
  refine v_iload_n dX8_played_13 rfl rfl ?_
  refine v_aload_n dX8_played_14 rfl rfl ?_
  refine n_getr dX8_played_15 fo_X8_19 sh_304 rfl sr_304_4 ?_
  refine v_sipush dX8_played_18 rfl ?_
  refine v_iload_n dX8_played_21 rfl rfl ?_
  refine v_imul dX8_played_22 ?_
  obtain ⟨j1, ⟨ej1, bj1⟩, hp⟩ := hp
  refine n_iald (j := j1) dX8_played_23 sh_308 ej1 bj1 ?_
  obtain ⟨⟨r1, r2⟩, hA, hB⟩ := hp
  refine v_icmp_ge (tgt := 53) dX8_played_24 (by decide) r2 r1 (fun q => ?_) (fun q => ?_)
  · have hp := hA q
    refine v_iconst dX8_played_53 ?_
    exact n_retI dX8_played_54 rfl hp
  · have hp := hB q
    refine v_aload_n dX8_played_27 rfl rfl ?_
    refine v_sipush dX8_played_28 rfl ?_
    refine v_iload_n dX8_played_31 rfl rfl ?_
    refine v_imul dX8_played_32 ?_
    refine v_iconst dX8_played_33 ?_
    refine v_iadd dX8_played_34 ?_
    refine v_iconst dX8_played_35 ?_
    refine v_iload_n dX8_played_36 rfl rfl ?_
    refine v_imul dX8_played_37 ?_
    refine v_iadd dX8_played_38 ?_
    refine n_callVI (As := [vi (((680 * x1) + 1) + (3 * x2))]) (st := []) dX8_played_39 ml_X8_306 mo_X8_isDone mv_X8_isDone sh_304 rfl rfl rfl rfl (Nat.le_of_ble_eq_true rfl) (Nat.le_of_ble_eq_true rfl) (by decide) hp (fun z2 m3 hp => ?_)
    obtain ⟨⟨r1, r2⟩, hA, hB⟩ := hp
    refine v_if_ne (tgt := 47) dX8_played_42 (by decide) r1 (fun q => ?_) (fun q => ?_)
    · have hp := hB q
      refine v_iinc dX8_played_47 rfl (by decide) ?_
      refine v_goto (tgt := 13) dX8_played_50 (by decide) ?_
      exact hp
    · have hp := hA q
      refine v_iload_n dX8_played_45 rfl rfl ?_
      exact n_retI dX8_played_46 rfl hp
theorem g_X8_cat_0 {G : GG} {d : Nat} {m : MM} {k : Int → MM → Prop} (x1 : Int) (x2 : Int)
    (hp : N G d mi_X8_isIn 0 [some (vi x1), some (vi 0), some (vi 9999)] [] m (RI fun z1 m2 => bEQ z1 0 (k (-1) m2) (N G d mi_X8_isIn 0 [some (vi x2), some (vi 1), some (vi 40)] [] m2 (RI fun z3 m4 => bEQ z3 0 (k (-1) m4) (bEQ (m4 305 1) 0 (k (-1) m4) (N G d mi_X8_keep 0 [some (vr 304), none, none, none] [] m4 (RV fun m6 => N G (d + 1) mi_X8_cat 49 [some (vr 304), none, some (vi x2), some (vi ((x1 * 6) + 1)), some (vi 0), some (vi 0), none, none] [] m6 (RI k)))))))) :
    N G (d + 1) mi_X8_cat 0 [some (vr 304), some (vi x1), some (vi x2), none, none, none, none, none] [] m (RI k) := by
  refine v_iload_n dX8_cat_0 rfl rfl ?_
  refine v_iconst dX8_cat_1 ?_
  refine v_sipush dX8_cat_2 rfl ?_
  refine n_callSI (As := [vi x1, vi 0, vi 9999]) (st := []) dX8_cat_5 ml_X8_69 mo_X8_isIn ms_X8_isIn rfl rfl (Nat.le_of_ble_eq_true rfl) (Nat.le_of_ble_eq_true rfl) (by decide) hp (fun z1 m2 hp => ?_)
  obtain ⟨⟨r1, r2⟩, hA, hB⟩ := hp
  refine v_if_eq (tgt := 30) dX8_cat_8 (by decide) r1 (fun q => ?_) (fun q => ?_)
  · have hp := hA q
    refine v_iconst dX8_cat_30 ?_
    exact n_retI dX8_cat_31 rfl hp
  · have hp := hB q
    refine v_iload_n dX8_cat_11 rfl rfl ?_
    refine v_iconst dX8_cat_12 ?_
    refine v_bipush dX8_cat_13 rfl ?_
    refine n_callSI (As := [vi x2, vi 1, vi 40]) (st := []) dX8_cat_15 ml_X8_69 mo_X8_isIn ms_X8_isIn rfl rfl (Nat.le_of_ble_eq_true rfl) (Nat.le_of_ble_eq_true rfl) (by decide) hp (fun z3 m4 hp => ?_)
    obtain ⟨⟨r1, r2⟩, hA, hB⟩ := hp
    refine v_if_eq (tgt := 30) dX8_cat_18 (by decide) r1 (fun q => ?_) (fun q => ?_)
    · have hp := hA q
      refine v_iconst dX8_cat_30 ?_
      exact n_retI dX8_cat_31 rfl hp
    · have hp := hB q
      refine v_aload_n dX8_cat_21 rfl rfl ?_
      refine n_getr dX8_cat_22 fo_X8_7 sh_304 rfl sr_304_0 ?_
      refine v_iconst dX8_cat_25 ?_
      refine n_iald (j := 1) dX8_cat_26 sh_305 rfl (by decide) ?_
      obtain ⟨⟨r1, r2⟩, hA, hB⟩ := hp
      refine v_if_ne (tgt := 32) dX8_cat_27 (by decide) r1 (fun q => ?_) (fun q => ?_)
      · have hp := hB q
        refine v_aload_n dX8_cat_32 rfl rfl ?_
        refine n_callVV (As := []) (st := []) dX8_cat_33 ml_X8_268 mo_X8_keep mv_X8_keep sh_304 rfl rfl rfl rfl (Nat.le_of_ble_eq_true rfl) (Nat.le_of_ble_eq_true rfl) (by decide) hp (fun m6 hp => ?_)
        refine v_iload_n dX8_cat_36 rfl rfl ?_
        refine v_bipush dX8_cat_37 rfl ?_
        refine v_imul dX8_cat_39 ?_
        refine v_iconst dX8_cat_40 ?_
        refine v_iadd dX8_cat_41 ?_
        refine v_istore_n dX8_cat_42 rfl (by decide) ?_
        refine v_iconst dX8_cat_43 ?_
        refine v_istore dX8_cat_44 (by decide) ?_
        refine v_iconst dX8_cat_46 ?_
        refine v_istore dX8_cat_47 (by decide) ?_
        exact n_weak (wk_s (wk_n (wk_s (wk_s (wk_s (wk_s (wk_s (wk_s wk_nil)))))))) hp
      · have hp := hA q
        refine v_iconst dX8_cat_30 ?_
        exact n_retI dX8_cat_31 rfl hp
theorem g_X8_cat_49 {G : GG} {d : Nat} {m : MM} {k : Int → MM → Prop} (x2 : Int) (x3 : Int) (x4 : Int) (x5 : Int)
    (hp : bLE x2 x5 (k x4 m) ((rng (m 305 1) ∧ (m 305 1) ≠ 0) ∧ ((rng (m 305 1) ∧ (m 305 1) ≠ 0) ∧ (bEQ (irem x3 (m 305 1)) (irem (irem ((x3 * 211) + 83) 30071) (m 305 1)) (N G (d + 1) mi_X8_cat 49 [some (vr 304), none, some (vi x2), some (vi (irem (((irem ((x3 * 211) + 83) 30071) * 211) + 83) 30071)), some (vi x4), some (vi (x5 + 1)), none, none] [] m (RI k)) (N G d mi_X8_exchange 0 [some (vr 304), some (vi (irem x3 (m 305 1))), some (vi (irem (irem ((x3 * 211) + 83) 30071) (m 305 1))), none] [] m (RV fun m2 => N G (d + 1) mi_X8_cat 49 [some (vr 304), none, some (vi x2), some (vi (irem (((irem ((x3 * 211) + 83) 30071) * 211) + 83) 30071)), some (vi (x4 + 1)), some (vi (x5 + 1)), none, none] [] m2 (RI k))))))) :
    N G (d + 1) mi_X8_cat 49 [some (vr 304), none, some (vi x2), some (vi x3), some (vi x4), some (vi x5), none, none] [] m (RI k) := by
  refine v_iload dX8_cat_49 rfl ?_
  refine v_iload_n dX8_cat_51 rfl rfl ?_
  obtain ⟨⟨r1, r2⟩, hA, hB⟩ := hp
  refine v_icmp_ge (tgt := 128) dX8_cat_52 (by decide) r2 r1 (fun q => ?_) (fun q => ?_)
  · have hp := hA q
    refine v_iload dX8_cat_128 rfl ?_
    exact n_retI dX8_cat_130 rfl hp
  · have hp := hB q
    refine v_iload_n dX8_cat_55 rfl rfl ?_
    refine v_aload_n dX8_cat_56 rfl rfl ?_
    refine n_getr dX8_cat_57 fo_X8_7 sh_304 rfl sr_304_0 ?_
    refine v_iconst dX8_cat_60 ?_
    refine n_iald (j := 1) dX8_cat_61 sh_305 rfl (by decide) ?_
    obtain ⟨hg, hp⟩ := hp
    refine w_irem dX8_cat_62 hg.1 hg.2 ?_
    refine v_istore dX8_cat_63 (by decide) ?_
    refine v_iload_n dX8_cat_65 rfl rfl ?_
    refine v_sipush dX8_cat_66 rfl ?_
    refine v_imul dX8_cat_69 ?_
    refine v_bipush dX8_cat_70 rfl ?_
    refine v_iadd dX8_cat_72 ?_
    refine v_sipush dX8_cat_73 rfl ?_
    refine w_irem dX8_cat_76 (by decide) (by decide) ?_
    refine v_istore_n dX8_cat_77 rfl (by decide) ?_
    refine v_iload_n dX8_cat_78 rfl rfl ?_
    refine v_aload_n dX8_cat_79 rfl rfl ?_
    refine n_getr dX8_cat_80 fo_X8_7 sh_304 rfl sr_304_0 ?_
    refine v_iconst dX8_cat_83 ?_
    refine n_iald (j := 1) dX8_cat_84 sh_305 rfl (by decide) ?_
    obtain ⟨hg, hp⟩ := hp
    refine w_irem dX8_cat_85 hg.1 hg.2 ?_
    refine v_istore dX8_cat_86 (by decide) ?_
    refine v_iload_n dX8_cat_88 rfl rfl ?_
    refine v_sipush dX8_cat_89 rfl ?_
    refine v_imul dX8_cat_92 ?_
    refine v_bipush dX8_cat_93 rfl ?_
    refine v_iadd dX8_cat_95 ?_
    refine v_sipush dX8_cat_96 rfl ?_
    refine w_irem dX8_cat_99 (by decide) (by decide) ?_
    refine v_istore_n dX8_cat_100 rfl (by decide) ?_
    refine v_iload dX8_cat_101 rfl ?_
    refine v_iload dX8_cat_103 rfl ?_
    obtain ⟨⟨r1, r2⟩, hA, hB⟩ := hp
    refine v_icmp_ne (tgt := 111) dX8_cat_105 (by decide) r1 r2 (fun q => ?_) (fun q => ?_)
    · have hp := hB q
      refine v_aload_n dX8_cat_111 rfl rfl ?_
      refine v_iload dX8_cat_112 rfl ?_
      refine v_iload dX8_cat_114 rfl ?_
      refine n_callVV (As := [vi (irem x3 (m 305 1)), vi (irem (irem ((x3 * 211) + 83) 30071) (m 305 1))]) (st := []) dX8_cat_116 ml_X8_290 mo_X8_exchange mv_X8_exchange sh_304 rfl rfl rfl rfl (Nat.le_of_ble_eq_true rfl) (Nat.le_of_ble_eq_true rfl) (by decide) hp (fun m2 hp => ?_)
      refine v_iinc dX8_cat_119 rfl (by decide) ?_
      refine v_iinc dX8_cat_122 rfl (by decide) ?_
      refine v_goto (tgt := 49) dX8_cat_125 (by decide) ?_
      exact n_weak (wk_s (wk_s (wk_s (wk_s (wk_s (wk_s (wk_n (wk_n wk_nil)))))))) hp
    · have hp := hA q
      refine v_goto (tgt := 122) dX8_cat_108 (by decide) ?_
      refine v_iinc dX8_cat_122 rfl (by decide) ?_
      refine v_goto (tgt := 49) dX8_cat_125 (by decide) ?_
      exact n_weak (wk_s (wk_s (wk_s (wk_s (wk_s (wk_s (wk_n (wk_n wk_nil)))))))) hp
theorem g_X8_of_0 {G : GG} {d : Nat} {m : MM} {k : Int → MM → Prop} (x1 : Int) (x2 : Int)
    (hp : N G d mi_X8_isEye 0 [some (vr 304), some (vi x1)] [] m (RI fun z1 m2 => bEQ z1 0 (k (-2) m2) (N G d mi_X8_isIn 0 [some (vi x2), some (vi 0), some (vi 8)] [] m2 (RI fun z3 m4 => bEQ z3 0 (k (-2) m4) (bLE 4 x2 (bEQ x2 8 (N G d mi_X8_rubsOf 0 [some (vr 304), some (vi x1), none] [] m4 (RI fun z11 m12 => k z11 m12)) (bEQ x2 4 (N G d mi_X8_get 0 [some (vr 304), some (vi x1), some (vi 2)] [] m4 (RI fun z9 m10 => k z9 m10)) (bEQ x2 5 (N G d mi_X8_get 0 [some (vr 304), some (vi x1), some (vi 3)] [] m4 (RI fun z7 m8 => k z7 m8)) (N G d mi_X8_get 0 [some (vr 304), some (vi x1), some (vi (x2 - 6))] [] m4 (RI fun z5 m6 => k z5 m6))))) (N G d mi_X8_get 0 [some (vr 304), some (vi x1), some (vi (4 + x2))] [] m4 (RI fun z13 m14 => k z13 m14))))))) :
    N G (d + 1) mi_X8_of 0 [some (vr 304), some (vi x1), some (vi x2)] [] m (RI k) := by
  refine v_aload_n dX8_of_0 rfl rfl ?_
  refine v_iload_n dX8_of_1 rfl rfl ?_
  refine n_callVI (As := [vi x1]) (st := []) dX8_of_2 ml_X8_278 mo_X8_isEye mv_X8_isEye sh_304 rfl rfl rfl rfl (Nat.le_of_ble_eq_true rfl) (Nat.le_of_ble_eq_true rfl) (by decide) hp (fun z1 m2 hp => ?_)
  obtain ⟨⟨r1, r2⟩, hA, hB⟩ := hp
  refine v_if_eq (tgt := 18) dX8_of_5 (by decide) r1 (fun q => ?_) (fun q => ?_)
  · have hp := hA q
    refine v_bipush dX8_of_18 rfl ?_
    exact n_retI dX8_of_20 rfl hp
  · have hp := hB q
    refine v_iload_n dX8_of_8 rfl rfl ?_
    refine v_iconst dX8_of_9 ?_
    refine v_bipush dX8_of_10 rfl ?_
    refine n_callSI (As := [vi x2, vi 0, vi 8]) (st := []) dX8_of_12 ml_X8_69 mo_X8_isIn ms_X8_isIn rfl rfl (Nat.le_of_ble_eq_true rfl) (Nat.le_of_ble_eq_true rfl) (by decide) hp (fun z3 m4 hp => ?_)
    obtain ⟨⟨r1, r2⟩, hA, hB⟩ := hp
    refine v_if_ne (tgt := 21) dX8_of_15 (by decide) r1 (fun q => ?_) (fun q => ?_)
    · have hp := hB q
      refine v_iload_n dX8_of_21 rfl rfl ?_
      refine v_iconst dX8_of_22 ?_
      obtain ⟨⟨r1, r2⟩, hA, hB⟩ := hp
      refine v_icmp_ge (tgt := 35) dX8_of_23 (by decide) r2 r1 (fun q => ?_) (fun q => ?_)
      · have hp := hA q
        refine v_iload_n dX8_of_35 rfl rfl ?_
        refine v_bipush dX8_of_36 rfl ?_
        obtain ⟨⟨r1, r2⟩, hA, hB⟩ := hp
        refine v_icmp_ne (tgt := 47) dX8_of_38 (by decide) r1 r2 (fun q => ?_) (fun q => ?_)
        · have hp := hB q
          refine v_iload_n dX8_of_47 rfl rfl ?_
          refine v_iconst dX8_of_48 ?_
          obtain ⟨⟨r1, r2⟩, hA, hB⟩ := hp
          refine v_icmp_ne (tgt := 61) dX8_of_49 (by decide) r1 r2 (fun q => ?_) (fun q => ?_)
          · have hp := hB q
            refine v_iload_n dX8_of_61 rfl rfl ?_
            refine v_iconst dX8_of_62 ?_
            obtain ⟨⟨r1, r2⟩, hA, hB⟩ := hp
            refine v_icmp_ne (tgt := 75) dX8_of_63 (by decide) r1 r2 (fun q => ?_) (fun q => ?_)
            · have hp := hB q
              refine v_aload_n dX8_of_75 rfl rfl ?_
              refine v_iload_n dX8_of_76 rfl rfl ?_
              refine v_iload_n dX8_of_77 rfl rfl ?_
              refine v_bipush dX8_of_78 rfl ?_
              refine v_isub dX8_of_80 ?_
              refine n_callVI (As := [vi x1, vi (x2 - 6)]) (st := []) dX8_of_81 ml_X8_77 mo_X8_get mv_X8_get sh_304 rfl rfl rfl rfl (Nat.le_of_ble_eq_true rfl) (Nat.le_of_ble_eq_true rfl) (by decide) hp (fun z5 m6 hp => ?_)
              exact n_retI dX8_of_84 rfl hp
            · have hp := hA q
              refine v_aload_n dX8_of_66 rfl rfl ?_
              refine v_iload_n dX8_of_67 rfl rfl ?_
              refine v_iconst dX8_of_68 ?_
              refine n_callVI (As := [vi x1, vi 3]) (st := []) dX8_of_69 ml_X8_77 mo_X8_get mv_X8_get sh_304 rfl rfl rfl rfl (Nat.le_of_ble_eq_true rfl) (Nat.le_of_ble_eq_true rfl) (by decide) hp (fun z7 m8 hp => ?_)
              refine v_goto (tgt := 84) dX8_of_72 (by decide) ?_
              exact n_retI dX8_of_84 rfl hp
          · have hp := hA q
            refine v_aload_n dX8_of_52 rfl rfl ?_
            refine v_iload_n dX8_of_53 rfl rfl ?_
            refine v_iconst dX8_of_54 ?_
            refine n_callVI (As := [vi x1, vi 2]) (st := []) dX8_of_55 ml_X8_77 mo_X8_get mv_X8_get sh_304 rfl rfl rfl rfl (Nat.le_of_ble_eq_true rfl) (Nat.le_of_ble_eq_true rfl) (by decide) hp (fun z9 m10 hp => ?_)
            refine v_goto (tgt := 84) dX8_of_58 (by decide) ?_
            exact n_retI dX8_of_84 rfl hp
        · have hp := hA q
          refine v_aload_n dX8_of_41 rfl rfl ?_
          refine v_iload_n dX8_of_42 rfl rfl ?_
          refine n_callVI (As := [vi x1]) (st := []) dX8_of_43 ml_X8_309 mo_X8_rubsOf mv_X8_rubsOf sh_304 rfl rfl rfl rfl (Nat.le_of_ble_eq_true rfl) (Nat.le_of_ble_eq_true rfl) (by decide) hp (fun z11 m12 hp => ?_)
          exact n_retI dX8_of_46 rfl hp
      · have hp := hB q
        refine v_aload_n dX8_of_26 rfl rfl ?_
        refine v_iload_n dX8_of_27 rfl rfl ?_
        refine v_iconst dX8_of_28 ?_
        refine v_iload_n dX8_of_29 rfl rfl ?_
        refine v_iadd dX8_of_30 ?_
        refine n_callVI (As := [vi x1, vi (4 + x2)]) (st := []) dX8_of_31 ml_X8_77 mo_X8_get mv_X8_get sh_304 rfl rfl rfl rfl (Nat.le_of_ble_eq_true rfl) (Nat.le_of_ble_eq_true rfl) (by decide) hp (fun z13 m14 hp => ?_)
        exact n_retI dX8_of_34 rfl hp
    · have hp := hA q
      refine v_bipush dX8_of_18 rfl ?_
      exact n_retI dX8_of_20 rfl hp
theorem g_X8_tellOn_0 {G : GG} {d : Nat} {m : MM} {k : MM → Prop} (x1 : Int)
    (hp : N G (d + 1) mi_X8_tellOn 4 [some (vr 304), some (vi x1), none, some (vi 0)] [] m (RV k)) :
    N G (d + 1) mi_X8_tellOn 0 [some (vr 304), some (vi x1), none, none] [] m (RV k) := by
  refine v_iconst dX8_tellOn_0 ?_
  refine v_istore_n dX8_tellOn_1 rfl (by decide) ?_
  refine v_iconst dX8_tellOn_2 ?_
  refine v_istore_n dX8_tellOn_3 rfl (by decide) ?_
  exact n_weak (wk_s (wk_s (wk_n (wk_s wk_nil)))) hp
theorem g_X8_tellOn_4 {G : GG} {d : Nat} {m : MM} {k : MM → Prop} (x1 : Int) (x3 : Int)
    (hp : ∃ j1 : Nat, ((680 * x1) = (j1 : Int) ∧ j1 < 2720) ∧ (bLE (m 308 j1) x3 (k m) (N G d mi_X8_isDone 0 [some (vr 304), some (vi (((680 * x1) + 1) + (3 * x3))), none, none] [] m (RI fun z2 m3 => N G (d + 1) mi_X8_tellOn 4 [some (vr 304), some (vi x1), none, some (vi (x3 + 1))] [] m3 (RV k))))) :
    N G (d + 1) mi_X8_tellOn 4 [some (vr 304), some (vi x1), none, some (vi x3)] [] m (RV k) := by
  refine v_iload_n dX8_tellOn_4 rfl rfl ?_
  refine v_aload_n dX8_tellOn_5 rfl rfl ?_
  refine n_getr dX8_tellOn_6 fo_X8_19 sh_304 rfl sr_304_4 ?_
  refine v_sipush dX8_tellOn_9 rfl ?_
  refine v_iload_n dX8_tellOn_12 rfl rfl ?_
  refine v_imul dX8_tellOn_13 ?_
  obtain ⟨j1, ⟨ej1, bj1⟩, hp⟩ := hp
  refine n_iald (j := j1) dX8_tellOn_14 sh_308 ej1 bj1 ?_
  obtain ⟨⟨r1, r2⟩, hA, hB⟩ := hp
  refine v_icmp_ge (tgt := 40) dX8_tellOn_15 (by decide) r2 r1 (fun q => ?_) (fun q => ?_)
  · have hp := hA q
    exact n_retV dX8_tellOn_40 rfl hp
  · have hp := hB q
    refine v_aload_n dX8_tellOn_18 rfl rfl ?_
    refine v_sipush dX8_tellOn_19 rfl ?_
    refine v_iload_n dX8_tellOn_22 rfl rfl ?_
    refine v_imul dX8_tellOn_23 ?_
    refine v_iconst dX8_tellOn_24 ?_
    refine v_iadd dX8_tellOn_25 ?_
    refine v_iconst dX8_tellOn_26 ?_
    refine v_iload_n dX8_tellOn_27 rfl rfl ?_
    refine v_imul dX8_tellOn_28 ?_
    refine v_iadd dX8_tellOn_29 ?_
    refine n_callVI (As := [vi (((680 * x1) + 1) + (3 * x3))]) (st := []) dX8_tellOn_30 ml_X8_306 mo_X8_isDone mv_X8_isDone sh_304 rfl rfl rfl rfl (Nat.le_of_ble_eq_true rfl) (Nat.le_of_ble_eq_true rfl) (by decide) hp (fun z2 m3 hp => ?_)
    refine v_istore_n dX8_tellOn_33 rfl (by decide) ?_
    refine v_iinc dX8_tellOn_34 rfl (by decide) ?_
    refine v_goto (tgt := 4) dX8_tellOn_37 (by decide) ?_
    exact n_weak (wk_s (wk_s (wk_n (wk_s wk_nil)))) hp
theorem g_X8_tell_0 {G : GG} {d : Nat} {m : MM} {k : MM → Prop} (x1 : Int)
    (hp : N G d mi_X8_copy 0 [some (vr 305), some (vr 307), none] [] m (RV fun m2 => N G d mi_X8_tellOn 0 [some (vr 304), some (vi x1), none, none] [] m2 (RV fun m4 => N G (d + 1) mi_X8_tell 18 [some (vr 304), some (vi x1), some (vi 0), none] [] m4 (RV k)))) :
    N G (d + 1) mi_X8_tell 0 [some (vr 304), some (vi x1), none, none] [] m (RV k) := by
  refine v_aload_n dX8_tell_0 rfl rfl ?_
  refine n_getr dX8_tell_1 fo_X8_7 sh_304 rfl sr_304_0 ?_
  refine v_aload_n dX8_tell_4 rfl rfl ?_
  refine n_getr dX8_tell_5 fo_X8_16 sh_304 rfl sr_304_2 ?_
  refine n_callSV (As := [vr 305, vr 307]) (st := []) dX8_tell_8 ml_X8_65 mo_X8_copy ms_X8_copy rfl rfl (Nat.le_of_ble_eq_true rfl) (Nat.le_of_ble_eq_true rfl) (by decide) hp (fun m2 hp => ?_)
  refine v_aload_n dX8_tell_11 rfl rfl ?_
  refine v_iload_n dX8_tell_12 rfl rfl ?_
  refine n_callVV (As := [vi x1]) (st := []) dX8_tell_13 ml_X8_312 mo_X8_tellOn mv_X8_tellOn sh_304 rfl rfl rfl rfl (Nat.le_of_ble_eq_true rfl) (Nat.le_of_ble_eq_true rfl) (by decide) hp (fun m4 hp => ?_)
  refine v_iconst dX8_tell_16 ?_
  refine v_istore_n dX8_tell_17 rfl (by decide) ?_
  exact hp
theorem g_X8_tell_18 {G : GG} {d : Nat} {m : MM} {k : MM → Prop} (x1 : Int) (x2 : Int)
    (hp : bLE 8 x2 (N G d mi_X8_copy 0 [some (vr 307), some (vr 305), none] [] m (RV fun m2 => k m2)) (N G (d + 1) mi_X8_tell 26 [some (vr 304), some (vi x1), some (vi x2), some (vi 0)] [] m (RV k))) :
    N G (d + 1) mi_X8_tell 18 [some (vr 304), some (vi x1), some (vi x2), none] [] m (RV k) := by
  refine v_iload_n dX8_tell_18 rfl rfl ?_
  refine v_bipush dX8_tell_19 rfl ?_
  obtain ⟨⟨r1, r2⟩, hA, hB⟩ := hp
  refine v_icmp_ge (tgt := 66) dX8_tell_21 (by decide) r2 r1 (fun q => ?_) (fun q => ?_)
  · have hp := hA q
    refine v_aload_n dX8_tell_66 rfl rfl ?_
    refine n_getr dX8_tell_67 fo_X8_16 sh_304 rfl sr_304_2 ?_
    refine v_aload_n dX8_tell_70 rfl rfl ?_
    refine n_getr dX8_tell_71 fo_X8_7 sh_304 rfl sr_304_0 ?_
    refine n_callSV (As := [vr 307, vr 305]) (st := []) dX8_tell_74 ml_X8_65 mo_X8_copy ms_X8_copy rfl rfl (Nat.le_of_ble_eq_true rfl) (Nat.le_of_ble_eq_true rfl) (by decide) hp (fun m2 hp => ?_)
    exact n_retV dX8_tell_77 rfl hp
  · have hp := hB q
    refine v_iconst dX8_tell_24 ?_
    refine v_istore_n dX8_tell_25 rfl (by decide) ?_
    exact hp
theorem g_X8_tell_26 {G : GG} {d : Nat} {m : MM} {k : MM → Prop} (x1 : Int) (x2 : Int) (x3 : Int)
    (hp : bLE 4 x3 (N G (d + 1) mi_X8_tell 18 [some (vr 304), some (vi x1), some (vi (x2 + 1)), none] [] m (RV k)) (N G d mi_X8_get 0 [some (vr 304), some (vi x2), some (vi (4 + x3))] [] m (RI fun z1 m2 => ∃ j4 : Nat, ((((32 * x1) + (4 * x2)) + x3) = (j4 : Int) ∧ j4 < 128) ∧ (∀ m3 : MM, m3 = upm m2 314 j4 z1 → (N G (d + 1) mi_X8_tell 26 [some (vr 304), some (vi x1), some (vi x2), some (vi (x3 + 1))] [] m3 (RV k)))))) :
    N G (d + 1) mi_X8_tell 26 [some (vr 304), some (vi x1), some (vi x2), some (vi x3)] [] m (RV k) := by
  refine v_iload_n dX8_tell_26 rfl rfl ?_
  refine v_iconst dX8_tell_27 ?_
  obtain ⟨⟨r1, r2⟩, hA, hB⟩ := hp
  refine v_icmp_ge (tgt := 60) dX8_tell_28 (by decide) r2 r1 (fun q => ?_) (fun q => ?_)
  · have hp := hA q
    refine v_iinc dX8_tell_60 rfl (by decide) ?_
    refine v_goto (tgt := 18) dX8_tell_63 (by decide) ?_
    exact n_weak (wk_s (wk_s (wk_s (wk_n wk_nil)))) hp
  · have hp := hB q
    refine v_aload_n dX8_tell_31 rfl rfl ?_
    refine n_getr dX8_tell_32 fo_X8_46 sh_304 rfl sr_304_27 ?_
    refine v_bipush dX8_tell_35 rfl ?_
    refine v_iload_n dX8_tell_37 rfl rfl ?_
    refine v_imul dX8_tell_38 ?_
    refine v_iconst dX8_tell_39 ?_
    refine v_iload_n dX8_tell_40 rfl rfl ?_
    refine v_imul dX8_tell_41 ?_
    refine v_iadd dX8_tell_42 ?_
    refine v_iload_n dX8_tell_43 rfl rfl ?_
    refine v_iadd dX8_tell_44 ?_
    refine v_aload_n dX8_tell_45 rfl rfl ?_
    refine v_iload_n dX8_tell_46 rfl rfl ?_
    refine v_iconst dX8_tell_47 ?_
    refine v_iload_n dX8_tell_48 rfl rfl ?_
    refine v_iadd dX8_tell_49 ?_
    refine n_callVI (As := [vi x2, vi (4 + x3)]) (st := [vi (((32 * x1) + (4 * x2)) + x3), vr 314]) dX8_tell_50 ml_X8_77 mo_X8_get mv_X8_get sh_304 rfl rfl rfl rfl (Nat.le_of_ble_eq_true rfl) (Nat.le_of_ble_eq_true rfl) (by decide) hp (fun z1 m2 hp => ?_)
    obtain ⟨j4, ⟨ej4, bj4⟩, hp⟩ := hp
    refine w_iast (j := j4) dX8_tell_53 sh_314 ej4 bj4 (fun m3 em3 => ?_)
    have hp := hp m3 em3
    refine v_iinc dX8_tell_54 rfl (by decide) ?_
    refine v_goto (tgt := 26) dX8_tell_57 (by decide) ?_
    exact hp
theorem g_X8_told_0 {G : GG} {d : Nat} {m : MM} {k : Int → MM → Prop} (x1 : Int) (x2 : Int) (x3 : Int)
    (hp : N G d mi_X8_isText 0 [some (vr 304), some (vi x1)] [] m (RI fun z1 m2 => bEQ z1 0 (k (-2) m2) (N G d mi_X8_isEye 0 [some (vr 304), some (vi x2)] [] m2 (RI fun z3 m4 => bEQ z3 0 (k (-2) m4) (N G d mi_X8_isIn 0 [some (vi x3), some (vi 0), some (vi 3)] [] m4 (RI fun z5 m6 => bEQ z5 0 (k (-2) m6) (N G d mi_X8_tell 0 [some (vr 304), some (vi x1), none, none] [] m6 (RV fun m8 => ∃ j9 : Nat, ((((32 * x1) + (4 * x2)) + x3) = (j9 : Int) ∧ j9 < 128) ∧ (k (m8 314 j9) m8))))))))) :
    N G (d + 1) mi_X8_told 0 [some (vr 304), some (vi x1), some (vi x2), some (vi x3)] [] m (RI k) := by
  refine v_aload_n dX8_told_0 rfl rfl ?_
  refine v_iload_n dX8_told_1 rfl rfl ?_
  refine n_callVI (As := [vi x1]) (st := []) dX8_told_2 ml_X8_229 mo_X8_isText mv_X8_isText sh_304 rfl rfl rfl rfl (Nat.le_of_ble_eq_true rfl) (Nat.le_of_ble_eq_true rfl) (by decide) hp (fun z1 m2 hp => ?_)
  obtain ⟨⟨r1, r2⟩, hA, hB⟩ := hp
  refine v_if_eq (tgt := 25) dX8_told_5 (by decide) r1 (fun q => ?_) (fun q => ?_)
  · have hp := hA q
    refine v_bipush dX8_told_25 rfl ?_
    exact n_retI dX8_told_27 rfl hp
  · have hp := hB q
    refine v_aload_n dX8_told_8 rfl rfl ?_
    refine v_iload_n dX8_told_9 rfl rfl ?_
    refine n_callVI (As := [vi x2]) (st := []) dX8_told_10 ml_X8_278 mo_X8_isEye mv_X8_isEye sh_304 rfl rfl rfl rfl (Nat.le_of_ble_eq_true rfl) (Nat.le_of_ble_eq_true rfl) (by decide) hp (fun z3 m4 hp => ?_)
    obtain ⟨⟨r1, r2⟩, hA, hB⟩ := hp
    refine v_if_eq (tgt := 25) dX8_told_13 (by decide) r1 (fun q => ?_) (fun q => ?_)
    · have hp := hA q
      refine v_bipush dX8_told_25 rfl ?_
      exact n_retI dX8_told_27 rfl hp
    · have hp := hB q
      refine v_iload_n dX8_told_16 rfl rfl ?_
      refine v_iconst dX8_told_17 ?_
      refine v_iconst dX8_told_18 ?_
      refine n_callSI (As := [vi x3, vi 0, vi 3]) (st := []) dX8_told_19 ml_X8_69 mo_X8_isIn ms_X8_isIn rfl rfl (Nat.le_of_ble_eq_true rfl) (Nat.le_of_ble_eq_true rfl) (by decide) hp (fun z5 m6 hp => ?_)
      obtain ⟨⟨r1, r2⟩, hA, hB⟩ := hp
      refine v_if_ne (tgt := 28) dX8_told_22 (by decide) r1 (fun q => ?_) (fun q => ?_)
      · have hp := hB q
        refine v_aload_n dX8_told_28 rfl rfl ?_
        refine v_iload_n dX8_told_29 rfl rfl ?_
        refine n_callVV (As := [vi x1]) (st := []) dX8_told_30 ml_X8_315 mo_X8_tell mv_X8_tell sh_304 rfl rfl rfl rfl (Nat.le_of_ble_eq_true rfl) (Nat.le_of_ble_eq_true rfl) (by decide) hp (fun m8 hp => ?_)
        refine v_aload_n dX8_told_33 rfl rfl ?_
        refine n_getr dX8_told_34 fo_X8_46 sh_304 rfl sr_304_27 ?_
        refine v_bipush dX8_told_37 rfl ?_
        refine v_iload_n dX8_told_39 rfl rfl ?_
        refine v_imul dX8_told_40 ?_
        refine v_iconst dX8_told_41 ?_
        refine v_iload_n dX8_told_42 rfl rfl ?_
        refine v_imul dX8_told_43 ?_
        refine v_iadd dX8_told_44 ?_
        refine v_iload_n dX8_told_45 rfl rfl ?_
        refine v_iadd dX8_told_46 ?_
        obtain ⟨j9, ⟨ej9, bj9⟩, hp⟩ := hp
        refine n_iald (j := j9) dX8_told_47 sh_314 ej9 bj9 ?_
        exact n_retI dX8_told_48 rfl hp
      · have hp := hA q
        refine v_bipush dX8_told_25 rfl ?_
        exact n_retI dX8_told_27 rfl hp
theorem g_X8_isApart_0 {G : GG} {d : Nat} {m : MM} {k : Int → MM → Prop} (x1 : Int) (x2 : Int) (x3 : Int)
    (hp : N G (d + 1) mi_X8_isApart 3 [some (vr 304), some (vi x1), some (vi x2), some (vi x3), some (vi 0), none] [] m (RI k)) :
    N G (d + 1) mi_X8_isApart 0 [some (vr 304), some (vi x1), some (vi x2), some (vi x3), none, none] [] m (RI k) := by
  refine v_iconst dX8_isApart_0 ?_
  refine v_istore dX8_isApart_1 (by decide) ?_
  exact hp
theorem g_X8_isApart_3 {G : GG} {d : Nat} {m : MM} {k : Int → MM → Prop} (x1 : Int) (x2 : Int) (x3 : Int) (x4 : Int)
    (hp : bLE (m 305 1) x4 (k 0 m) (N G (d + 1) mi_X8_isApart 17 [some (vr 304), some (vi x1), some (vi x2), some (vi x3), some (vi x4), some (vi 0)] [] m (RI k))) :
    N G (d + 1) mi_X8_isApart 3 [some (vr 304), some (vi x1), some (vi x2), some (vi x3), some (vi x4), none] [] m (RI k) := by
  refine v_iload dX8_isApart_3 rfl ?_
  refine v_aload_n dX8_isApart_5 rfl rfl ?_
  refine n_getr dX8_isApart_6 fo_X8_7 sh_304 rfl sr_304_0 ?_
  refine v_iconst dX8_isApart_9 ?_
  refine n_iald (j := 1) dX8_isApart_10 sh_305 rfl (by decide) ?_
  obtain ⟨⟨r1, r2⟩, hA, hB⟩ := hp
  refine v_icmp_ge (tgt := 83) dX8_isApart_11 (by decide) r2 r1 (fun q => ?_) (fun q => ?_)
  · have hp := hA q
    refine v_iconst dX8_isApart_83 ?_
    exact n_retZ dX8_isApart_84 rfl (by decide) hp
  · have hp := hB q
    refine v_iconst dX8_isApart_14 ?_
    refine v_istore dX8_isApart_15 (by decide) ?_
    exact hp
theorem g_X8_isApart_17 {G : GG} {d : Nat} {m : MM} {k : Int → MM → Prop} (x1 : Int) (x2 : Int) (x3 : Int) (x4 : Int) (x5 : Int)
    (hp : bLE 4 x5 (N G (d + 1) mi_X8_isApart 3 [some (vr 304), some (vi x1), some (vi x2), some (vi x3), some (vi (x4 + 1)), none] [] m (RI k)) (N G d mi_X8_has 0 [some (vi x3), some (vi x4)] [] m (RI fun z1 m2 => bEQ z1 0 (N G (d + 1) mi_X8_isApart 17 [some (vr 304), some (vi x1), some (vi x2), some (vi x3), some (vi x4), some (vi (x5 + 1))] [] m2 (RI k)) (∃ j3 : Nat, ((((32 * x1) + (4 * x4)) + x5) = (j3 : Int) ∧ j3 < 128) ∧ (∃ j4 : Nat, ((((32 * x2) + (4 * x4)) + x5) = (j4 : Int) ∧ j4 < 128) ∧ (bEQ (m2 314 j3) (m2 314 j4) (N G (d + 1) mi_X8_isApart 17 [some (vr 304), some (vi x1), some (vi x2), some (vi x3), some (vi x4), some (vi (x5 + 1))] [] m2 (RI k)) (k 1 m2))))))) :
    N G (d + 1) mi_X8_isApart 17 [some (vr 304), some (vi x1), some (vi x2), some (vi x3), some (vi x4), some (vi x5)] [] m (RI k) := by
  refine v_iload dX8_isApart_17 rfl ?_
  refine v_iconst dX8_isApart_19 ?_
  obtain ⟨⟨r1, r2⟩, hA, hB⟩ := hp
  refine v_icmp_ge (tgt := 77) dX8_isApart_20 (by decide) r2 r1 (fun q => ?_) (fun q => ?_)
  · have hp := hA q
    refine v_iinc dX8_isApart_77 rfl (by decide) ?_
    refine v_goto (tgt := 3) dX8_isApart_80 (by decide) ?_
    exact n_weak (wk_s (wk_s (wk_s (wk_s (wk_s (wk_n wk_nil)))))) hp
  · have hp := hB q
    refine v_iload_n dX8_isApart_23 rfl rfl ?_
    refine v_iload dX8_isApart_24 rfl ?_
    refine n_callSI (As := [vi x3, vi x4]) (st := []) dX8_isApart_26 ml_X8_318 mo_X8_has ms_X8_has rfl rfl (Nat.le_of_ble_eq_true rfl) (Nat.le_of_ble_eq_true rfl) (by decide) hp (fun z1 m2 hp => ?_)
    obtain ⟨⟨r1, r2⟩, hA, hB⟩ := hp
    refine v_if_eq (tgt := 71) dX8_isApart_29 (by decide) r1 (fun q => ?_) (fun q => ?_)
    · have hp := hA q
      refine v_iinc dX8_isApart_71 rfl (by decide) ?_
      refine v_goto (tgt := 17) dX8_isApart_74 (by decide) ?_
      exact hp
    · have hp := hB q
      refine v_aload_n dX8_isApart_32 rfl rfl ?_
      refine n_getr dX8_isApart_33 fo_X8_46 sh_304 rfl sr_304_27 ?_
      refine v_bipush dX8_isApart_36 rfl ?_
      refine v_iload_n dX8_isApart_38 rfl rfl ?_
      refine v_imul dX8_isApart_39 ?_
      refine v_iconst dX8_isApart_40 ?_
      refine v_iload dX8_isApart_41 rfl ?_
      refine v_imul dX8_isApart_43 ?_
      refine v_iadd dX8_isApart_44 ?_
      refine v_iload dX8_isApart_45 rfl ?_
      refine v_iadd dX8_isApart_47 ?_
      obtain ⟨j3, ⟨ej3, bj3⟩, hp⟩ := hp
      refine n_iald (j := j3) dX8_isApart_48 sh_314 ej3 bj3 ?_
      refine v_aload_n dX8_isApart_49 rfl rfl ?_
      refine n_getr dX8_isApart_50 fo_X8_46 sh_304 rfl sr_304_27 ?_
      refine v_bipush dX8_isApart_53 rfl ?_
      refine v_iload_n dX8_isApart_55 rfl rfl ?_
      refine v_imul dX8_isApart_56 ?_
      refine v_iconst dX8_isApart_57 ?_
      refine v_iload dX8_isApart_58 rfl ?_
      refine v_imul dX8_isApart_60 ?_
      refine v_iadd dX8_isApart_61 ?_
      refine v_iload dX8_isApart_62 rfl ?_
      refine v_iadd dX8_isApart_64 ?_
      obtain ⟨j4, ⟨ej4, bj4⟩, hp⟩ := hp
      refine n_iald (j := j4) dX8_isApart_65 sh_314 ej4 bj4 ?_
      obtain ⟨⟨r1, r2⟩, hA, hB⟩ := hp
      refine v_icmp_eq (tgt := 71) dX8_isApart_66 (by decide) r1 r2 (fun q => ?_) (fun q => ?_)
      · have hp := hA q
        refine v_iinc dX8_isApart_71 rfl (by decide) ?_
        refine v_goto (tgt := 17) dX8_isApart_74 (by decide) ?_
        exact hp
      · have hp := hB q
        refine v_iconst dX8_isApart_69 ?_
        exact n_retZ dX8_isApart_70 rfl (by decide) hp
theorem g_X8_areApart_0 {G : GG} {d : Nat} {m : MM} {k : Int → MM → Prop} (x1 : Int) (x2 : Int)
    (hp : N G (d + 1) mi_X8_areApart 2 [some (vr 304), some (vi x1), some (vi x2), some (vi 0), none] [] m (RI k)) :
    N G (d + 1) mi_X8_areApart 0 [some (vr 304), some (vi x1), some (vi x2), none, none] [] m (RI k) := by
  refine v_iconst dX8_areApart_0 ?_
  refine v_istore_n dX8_areApart_1 rfl (by decide) ?_
  exact hp
theorem g_X8_areApart_2 {G : GG} {d : Nat} {m : MM} {k : Int → MM → Prop} (x1 : Int) (x2 : Int) (x3 : Int)
    (hp : bLE (m 305 3) x3 (k 1 m) (N G (d + 1) mi_X8_areApart 15 [some (vr 304), some (vi x1), some (vi x2), some (vi x3), some (vi 0)] [] m (RI k))) :
    N G (d + 1) mi_X8_areApart 2 [some (vr 304), some (vi x1), some (vi x2), some (vi x3), none] [] m (RI k) := by
  refine v_iload_n dX8_areApart_2 rfl rfl ?_
  refine v_aload_n dX8_areApart_3 rfl rfl ?_
  refine n_getr dX8_areApart_4 fo_X8_7 sh_304 rfl sr_304_0 ?_
  refine v_iconst dX8_areApart_7 ?_
  refine n_iald (j := 3) dX8_areApart_8 sh_305 rfl (by decide) ?_
  obtain ⟨⟨r1, r2⟩, hA, hB⟩ := hp
  refine v_icmp_ge (tgt := 63) dX8_areApart_9 (by decide) r2 r1 (fun q => ?_) (fun q => ?_)
  · have hp := hA q
    refine v_iconst dX8_areApart_63 ?_
    exact n_retZ dX8_areApart_64 rfl (by decide) hp
  · have hp := hB q
    refine v_iconst dX8_areApart_12 ?_
    refine v_istore dX8_areApart_13 (by decide) ?_
    exact hp
theorem g_X8_areApart_15 {G : GG} {d : Nat} {m : MM} {k : Int → MM → Prop} (x1 : Int) (x2 : Int) (x3 : Int) (x4 : Int)
    (hp : bLE x3 x4 (N G (d + 1) mi_X8_areApart 2 [some (vr 304), some (vi x1), some (vi x2), some (vi (x3 + 1)), none] [] m (RI k)) (N G d mi_X8_has 0 [some (vi x1), some (vi x3)] [] m (RI fun z1 m2 => bEQ z1 0 (N G (d + 1) mi_X8_areApart 15 [some (vr 304), some (vi x1), some (vi x2), some (vi x3), some (vi (x4 + 1))] [] m2 (RI k)) (N G d mi_X8_has 0 [some (vi x1), some (vi x4)] [] m2 (RI fun z3 m4 => bEQ z3 0 (N G (d + 1) mi_X8_areApart 15 [some (vr 304), some (vi x1), some (vi x2), some (vi x3), some (vi (x4 + 1))] [] m4 (RI k)) (N G d mi_X8_isApart 0 [some (vr 304), some (vi x3), some (vi x4), some (vi x2), none, none] [] m4 (RI fun z5 m6 => bEQ z5 0 (k 0 m6) (N G (d + 1) mi_X8_areApart 15 [some (vr 304), some (vi x1), some (vi x2), some (vi x3), some (vi (x4 + 1))] [] m6 (RI k))))))))) :
    N G (d + 1) mi_X8_areApart 15 [some (vr 304), some (vi x1), some (vi x2), some (vi x3), some (vi x4)] [] m (RI k) := by
  refine v_iload dX8_areApart_15 rfl ?_
  refine v_iload_n dX8_areApart_17 rfl rfl ?_
  obtain ⟨⟨r1, r2⟩, hA, hB⟩ := hp
  refine v_icmp_ge (tgt := 57) dX8_areApart_18 (by decide) r2 r1 (fun q => ?_) (fun q => ?_)
  · have hp := hA q
    refine v_iinc dX8_areApart_57 rfl (by decide) ?_
    refine v_goto (tgt := 2) dX8_areApart_60 (by decide) ?_
    exact n_weak (wk_s (wk_s (wk_s (wk_s (wk_n wk_nil))))) hp
  · have hp := hB q
    refine v_iload_n dX8_areApart_21 rfl rfl ?_
    refine v_iload_n dX8_areApart_22 rfl rfl ?_
    refine n_callSI (As := [vi x1, vi x3]) (st := []) dX8_areApart_23 ml_X8_318 mo_X8_has ms_X8_has rfl rfl (Nat.le_of_ble_eq_true rfl) (Nat.le_of_ble_eq_true rfl) (by decide) hp (fun z1 m2 hp => ?_)
    obtain ⟨⟨r1, r2⟩, hA, hB⟩ := hp
    refine v_if_eq (tgt := 51) dX8_areApart_26 (by decide) r1 (fun q => ?_) (fun q => ?_)
    · have hp := hA q
      refine v_iinc dX8_areApart_51 rfl (by decide) ?_
      refine v_goto (tgt := 15) dX8_areApart_54 (by decide) ?_
      exact hp
    · have hp := hB q
      refine v_iload_n dX8_areApart_29 rfl rfl ?_
      refine v_iload dX8_areApart_30 rfl ?_
      refine n_callSI (As := [vi x1, vi x4]) (st := []) dX8_areApart_32 ml_X8_318 mo_X8_has ms_X8_has rfl rfl (Nat.le_of_ble_eq_true rfl) (Nat.le_of_ble_eq_true rfl) (by decide) hp (fun z3 m4 hp => ?_)
      obtain ⟨⟨r1, r2⟩, hA, hB⟩ := hp
      refine v_if_eq (tgt := 51) dX8_areApart_35 (by decide) r1 (fun q => ?_) (fun q => ?_)
      · have hp := hA q
        refine v_iinc dX8_areApart_51 rfl (by decide) ?_
        refine v_goto (tgt := 15) dX8_areApart_54 (by decide) ?_
        exact hp
      · have hp := hB q
        refine v_aload_n dX8_areApart_38 rfl rfl ?_
        refine v_iload_n dX8_areApart_39 rfl rfl ?_
        refine v_iload dX8_areApart_40 rfl ?_
        refine v_iload_n dX8_areApart_42 rfl rfl ?_
        refine n_callVI (As := [vi x3, vi x4, vi x2]) (st := []) dX8_areApart_43 ml_X8_321 mo_X8_isApart mv_X8_isApart sh_304 rfl rfl rfl rfl (Nat.le_of_ble_eq_true rfl) (Nat.le_of_ble_eq_true rfl) (by decide) hp (fun z5 m6 hp => ?_)
        obtain ⟨⟨r1, r2⟩, hA, hB⟩ := hp
        refine v_if_ne (tgt := 51) dX8_areApart_46 (by decide) r1 (fun q => ?_) (fun q => ?_)
        · have hp := hB q
          refine v_iinc dX8_areApart_51 rfl (by decide) ?_
          refine v_goto (tgt := 15) dX8_areApart_54 (by decide) ?_
          exact hp
        · have hp := hA q
          refine v_iconst dX8_areApart_49 ?_
          exact n_retZ dX8_areApart_50 rfl (by decide) hp
theorem g_X8_verdict_0 {G : GG} {d : Nat} {m : MM} {k : Int → MM → Prop} (x1 : Int)
    (hp : N G d mi_X8_isIn 0 [some (vi x1), some (vi 0), some (vi ((ishl 1 (m 305 3)) - 1))] [] m (RI fun z1 m2 => bEQ z1 0 (k (-1) m2) (N G (d + 1) mi_X8_verdict 22 [some (vr 304), some (vi x1), some (vi 0), none, none, none, none] [] m2 (RI k)))) :
    N G (d + 1) mi_X8_verdict 0 [some (vr 304), some (vi x1), none, none, none, none, none] [] m (RI k) := by
  refine v_iload_n dX8_verdict_0 rfl rfl ?_
  refine v_iconst dX8_verdict_1 ?_
  refine v_iconst dX8_verdict_2 ?_
  refine v_aload_n dX8_verdict_3 rfl rfl ?_
  refine n_getr dX8_verdict_4 fo_X8_7 sh_304 rfl sr_304_0 ?_
  refine v_iconst dX8_verdict_7 ?_
  refine n_iald (j := 3) dX8_verdict_8 sh_305 rfl (by decide) ?_
  refine v_ishl dX8_verdict_9 ?_
  refine v_iconst dX8_verdict_10 ?_
  refine v_isub dX8_verdict_11 ?_
  refine n_callSI (As := [vi x1, vi 0, vi ((ishl 1 (m 305 3)) - 1)]) (st := []) dX8_verdict_12 ml_X8_69 mo_X8_isIn ms_X8_isIn rfl rfl (Nat.le_of_ble_eq_true rfl) (Nat.le_of_ble_eq_true rfl) (by decide) hp (fun z1 m2 hp => ?_)
  obtain ⟨⟨r1, r2⟩, hA, hB⟩ := hp
  refine v_if_ne (tgt := 20) dX8_verdict_15 (by decide) r1 (fun q => ?_) (fun q => ?_)
  · have hp := hB q
    refine v_iconst dX8_verdict_20 ?_
    refine v_istore_n dX8_verdict_21 rfl (by decide) ?_
    exact hp
  · have hp := hA q
    refine v_iconst dX8_verdict_18 ?_
    exact n_retI dX8_verdict_19 rfl hp
theorem g_X8_verdict_22 {G : GG} {d : Nat} {m : MM} {k : Int → MM → Prop} (x1 : Int) (x2 : Int)
    (hp : bLE (m 305 3) x2 (N G (d + 1) mi_X8_verdict 60 [some (vr 304), some (vi x1), some (vi (-1)), some (vi 1000000), some (vi 0), none, none] [] m (RI k)) (N G d mi_X8_has 0 [some (vi x1), some (vi x2)] [] m (RI fun z1 m2 => bEQ z1 0 (N G (d + 1) mi_X8_verdict 22 [some (vr 304), some (vi x1), some (vi (x2 + 1)), none, none, none, none] [] m2 (RI k)) (N G d mi_X8_tell 0 [some (vr 304), some (vi x2), none, none] [] m2 (RV fun m4 => N G (d + 1) mi_X8_verdict 22 [some (vr 304), some (vi x1), some (vi (x2 + 1)), none, none, none, none] [] m4 (RI k)))))) :
    N G (d + 1) mi_X8_verdict 22 [some (vr 304), some (vi x1), some (vi x2), none, none, none, none] [] m (RI k) := by
  refine v_iload_n dX8_verdict_22 rfl rfl ?_
  refine v_aload_n dX8_verdict_23 rfl rfl ?_
  refine n_getr dX8_verdict_24 fo_X8_7 sh_304 rfl sr_304_0 ?_
  refine v_iconst dX8_verdict_27 ?_
  refine n_iald (j := 3) dX8_verdict_28 sh_305 rfl (by decide) ?_
  obtain ⟨⟨r1, r2⟩, hA, hB⟩ := hp
  refine v_icmp_ge (tgt := 51) dX8_verdict_29 (by decide) r2 r1 (fun q => ?_) (fun q => ?_)
  · have hp := hA q
    refine v_iconst dX8_verdict_51 ?_
    refine v_istore_n dX8_verdict_52 rfl (by decide) ?_
    refine v_ldc_w dX8_verdict_53 co_X8_324 ?_
    refine v_istore_n dX8_verdict_56 rfl (by decide) ?_
    refine v_iconst dX8_verdict_57 ?_
    refine v_istore dX8_verdict_58 (by decide) ?_
    exact hp
  · have hp := hB q
    refine v_iload_n dX8_verdict_32 rfl rfl ?_
    refine v_iload_n dX8_verdict_33 rfl rfl ?_
    refine n_callSI (As := [vi x1, vi x2]) (st := []) dX8_verdict_34 ml_X8_318 mo_X8_has ms_X8_has rfl rfl (Nat.le_of_ble_eq_true rfl) (Nat.le_of_ble_eq_true rfl) (by decide) hp (fun z1 m2 hp => ?_)
    obtain ⟨⟨r1, r2⟩, hA, hB⟩ := hp
    refine v_if_eq (tgt := 45) dX8_verdict_37 (by decide) r1 (fun q => ?_) (fun q => ?_)
    · have hp := hA q
      refine v_iinc dX8_verdict_45 rfl (by decide) ?_
      refine v_goto (tgt := 22) dX8_verdict_48 (by decide) ?_
      exact hp
    · have hp := hB q
      refine v_aload_n dX8_verdict_40 rfl rfl ?_
      refine v_iload_n dX8_verdict_41 rfl rfl ?_
      refine n_callVV (As := [vi x2]) (st := []) dX8_verdict_42 ml_X8_315 mo_X8_tell mv_X8_tell sh_304 rfl rfl rfl rfl (Nat.le_of_ble_eq_true rfl) (Nat.le_of_ble_eq_true rfl) (by decide) hp (fun m4 hp => ?_)
      refine v_iinc dX8_verdict_45 rfl (by decide) ?_
      refine v_goto (tgt := 22) dX8_verdict_48 (by decide) ?_
      exact hp
theorem g_X8_verdict_60 {G : GG} {d : Nat} {m : MM} {k : Int → MM → Prop} (x1 : Int) (x2 : Int) (x3 : Int) (x4 : Int)
    (hp : bLE (ishl 1 (m 305 1)) x4 (k x2 m) (N G (d + 1) mi_X8_verdict 79 [some (vr 304), some (vi x1), some (vi x2), some (vi x3), some (vi x4), some (vi 0), some (vi 0)] [] m (RI k))) :
    N G (d + 1) mi_X8_verdict 60 [some (vr 304), some (vi x1), some (vi x2), some (vi x3), some (vi x4), none, none] [] m (RI k) := by
  refine v_iload dX8_verdict_60 rfl ?_
  refine v_iconst dX8_verdict_62 ?_
  refine v_aload_n dX8_verdict_63 rfl rfl ?_
  refine n_getr dX8_verdict_64 fo_X8_7 sh_304 rfl sr_304_0 ?_
  refine v_iconst dX8_verdict_67 ?_
  refine n_iald (j := 1) dX8_verdict_68 sh_305 rfl (by decide) ?_
  refine v_ishl dX8_verdict_69 ?_
  obtain ⟨⟨r1, r2⟩, hA, hB⟩ := hp
  refine v_icmp_ge (tgt := 170) dX8_verdict_70 (by decide) r2 r1 (fun q => ?_) (fun q => ?_)
  · have hp := hA q
    refine v_iload_n dX8_verdict_170 rfl rfl ?_
    exact n_retI dX8_verdict_171 rfl hp
  · have hp := hB q
    refine v_iconst dX8_verdict_73 ?_
    refine v_istore dX8_verdict_74 (by decide) ?_
    refine v_iconst dX8_verdict_76 ?_
    refine v_istore dX8_verdict_77 (by decide) ?_
    exact hp
theorem g_X8_verdict_79 {G : GG} {d : Nat} {m : MM} {k : Int → MM → Prop} (x1 : Int) (x2 : Int) (x3 : Int) (x4 : Int) (x5 : Int) (x6 : Int)
    (hp : bLE (m 305 1) x6 (bLT x3 x5 (N G (d + 1) mi_X8_verdict 60 [some (vr 304), some (vi x1), some (vi x2), some (vi x3), some (vi (x4 + 1)), none, none] [] m (RI k)) (bEQ x5 x3 (N G d mi_X8_bits 0 [some (vi x4), none, none] [] m (RI fun z1 m2 => N G d mi_X8_bits 0 [some (vi x2), none, none] [] m2 (RI fun z3 m4 => bLE z3 z1 (N G (d + 1) mi_X8_verdict 60 [some (vr 304), some (vi x1), some (vi x2), some (vi x3), some (vi (x4 + 1)), none, none] [] m4 (RI k)) (N G (d + 1) mi_X8_verdict 145 [some (vr 304), some (vi x1), some (vi x2), some (vi x3), some (vi x4), some (vi x5), none] [] m4 (RI k))))) (N G (d + 1) mi_X8_verdict 145 [some (vr 304), some (vi x1), some (vi x2), some (vi x3), some (vi x4), some (vi x5), none] [] m (RI k)))) (N G d mi_X8_has 0 [some (vi x4), some (vi x6)] [] m (RI fun z5 m6 => bEQ z5 0 (N G (d + 1) mi_X8_verdict 79 [some (vr 304), some (vi x1), some (vi x2), some (vi x3), some (vi x4), some (vi (x5 + 0)), some (vi (x6 + 1))] [] m6 (RI k)) (N G d mi_X8_rubsOf 0 [some (vr 304), some (vi x6), none] [] m6 (RI fun z7 m8 => N G (d + 1) mi_X8_verdict 79 [some (vr 304), some (vi x1), some (vi x2), some (vi x3), some (vi x4), some (vi (x5 + z7)), some (vi (x6 + 1))] [] m8 (RI k)))))) :
    N G (d + 1) mi_X8_verdict 79 [some (vr 304), some (vi x1), some (vi x2), some (vi x3), some (vi x4), some (vi x5), some (vi x6)] [] m (RI k) := by
  refine v_iload dX8_verdict_79 rfl ?_
  refine v_aload_n dX8_verdict_81 rfl rfl ?_
  refine n_getr dX8_verdict_82 fo_X8_7 sh_304 rfl sr_304_0 ?_
  refine v_iconst dX8_verdict_85 ?_
  refine n_iald (j := 1) dX8_verdict_86 sh_305 rfl (by decide) ?_
  obtain ⟨⟨r1, r2⟩, hA, hB⟩ := hp
  refine v_icmp_ge (tgt := 121) dX8_verdict_87 (by decide) r2 r1 (fun q => ?_) (fun q => ?_)
  · have hp := hA q
    refine v_iload dX8_verdict_121 rfl ?_
    refine v_iload_n dX8_verdict_123 rfl rfl ?_
    obtain ⟨⟨r1, r2⟩, hA, hB⟩ := hp
    refine v_icmp_gt (tgt := 164) dX8_verdict_124 (by decide) r2 r1 (fun q => ?_) (fun q => ?_)
    · have hp := hA q
      refine v_iinc dX8_verdict_164 rfl (by decide) ?_
      refine v_goto (tgt := 60) dX8_verdict_167 (by decide) ?_
      exact n_weak (wk_s (wk_s (wk_s (wk_s (wk_s (wk_n (wk_n wk_nil))))))) hp
    · have hp := hB q
      refine v_iload dX8_verdict_127 rfl ?_
      refine v_iload_n dX8_verdict_129 rfl rfl ?_
      obtain ⟨⟨r1, r2⟩, hA, hB⟩ := hp
      refine v_icmp_ne (tgt := 145) dX8_verdict_130 (by decide) r1 r2 (fun q => ?_) (fun q => ?_)
      · have hp := hB q
        exact n_weak (wk_s (wk_s (wk_s (wk_s (wk_s (wk_s (wk_n wk_nil))))))) hp
      · have hp := hA q
        refine v_iload dX8_verdict_133 rfl ?_
        refine n_callSI (As := [vi x4]) (st := []) dX8_verdict_135 ml_X8_284 mo_X8_bits ms_X8_bits rfl rfl (Nat.le_of_ble_eq_true rfl) (Nat.le_of_ble_eq_true rfl) (by decide) hp (fun z1 m2 hp => ?_)
        refine v_iload_n dX8_verdict_138 rfl rfl ?_
        refine n_callSI (As := [vi x2]) (st := [vi z1]) dX8_verdict_139 ml_X8_284 mo_X8_bits ms_X8_bits rfl rfl (Nat.le_of_ble_eq_true rfl) (Nat.le_of_ble_eq_true rfl) (by decide) hp (fun z3 m4 hp => ?_)
        obtain ⟨⟨r1, r2⟩, hA, hB⟩ := hp
        refine v_icmp_ge (tgt := 164) dX8_verdict_142 (by decide) r2 r1 (fun q => ?_) (fun q => ?_)
        · have hp := hA q
          refine v_iinc dX8_verdict_164 rfl (by decide) ?_
          refine v_goto (tgt := 60) dX8_verdict_167 (by decide) ?_
          exact n_weak (wk_s (wk_s (wk_s (wk_s (wk_s (wk_n (wk_n wk_nil))))))) hp
        · have hp := hB q
          exact n_weak (wk_s (wk_s (wk_s (wk_s (wk_s (wk_s (wk_n wk_nil))))))) hp
  · have hp := hB q
    refine v_iload dX8_verdict_90 rfl ?_
    refine v_iload dX8_verdict_92 rfl ?_
    refine v_iload dX8_verdict_94 rfl ?_
    refine n_callSI (As := [vi x4, vi x6]) (st := [vi x5]) dX8_verdict_96 ml_X8_318 mo_X8_has ms_X8_has rfl rfl (Nat.le_of_ble_eq_true rfl) (Nat.le_of_ble_eq_true rfl) (by decide) hp (fun z5 m6 hp => ?_)
    obtain ⟨⟨r1, r2⟩, hA, hB⟩ := hp
    refine v_if_eq (tgt := 111) dX8_verdict_99 (by decide) r1 (fun q => ?_) (fun q => ?_)
    · have hp := hA q
      refine v_iconst dX8_verdict_111 ?_
      refine v_iadd dX8_verdict_112 ?_
      refine v_istore dX8_verdict_113 (by decide) ?_
      refine v_iinc dX8_verdict_115 rfl (by decide) ?_
      refine v_goto (tgt := 79) dX8_verdict_118 (by decide) ?_
      exact hp
    · have hp := hB q
      refine v_aload_n dX8_verdict_102 rfl rfl ?_
      refine v_iload dX8_verdict_103 rfl ?_
      refine n_callVI (As := [vi x6]) (st := [vi x5]) dX8_verdict_105 ml_X8_309 mo_X8_rubsOf mv_X8_rubsOf sh_304 rfl rfl rfl rfl (Nat.le_of_ble_eq_true rfl) (Nat.le_of_ble_eq_true rfl) (by decide) hp (fun z7 m8 hp => ?_)
      refine v_goto (tgt := 112) dX8_verdict_108 (by decide) ?_
      refine v_iadd dX8_verdict_112 ?_
      refine v_istore dX8_verdict_113 (by decide) ?_
      refine v_iinc dX8_verdict_115 rfl (by decide) ?_
      refine v_goto (tgt := 79) dX8_verdict_118 (by decide) ?_
      exact hp
theorem g_X8_verdict_145 {G : GG} {d : Nat} {m : MM} {k : Int → MM → Prop} (x1 : Int) (x2 : Int) (x3 : Int) (x4 : Int) (x5 : Int)
    (hp : N G d mi_X8_areApart 0 [some (vr 304), some (vi x1), some (vi x4), none, none] [] m (RI fun z1 m2 => bEQ z1 0 (N G (d + 1) mi_X8_verdict 60 [some (vr 304), some (vi x1), some (vi x2), some (vi x3), some (vi (x4 + 1)), none, none] [] m2 (RI k)) (N G (d + 1) mi_X8_verdict 60 [some (vr 304), some (vi x1), some (vi x4), some (vi x5), some (vi (x4 + 1)), none, none] [] m2 (RI k)))) :
    N G (d + 1) mi_X8_verdict 145 [some (vr 304), some (vi x1), some (vi x2), some (vi x3), some (vi x4), some (vi x5), none] [] m (RI k) := by
  refine v_aload_n dX8_verdict_145 rfl rfl ?_
  refine v_iload_n dX8_verdict_146 rfl rfl ?_
  refine v_iload dX8_verdict_147 rfl ?_
  refine n_callVI (As := [vi x1, vi x4]) (st := []) dX8_verdict_149 ml_X8_325 mo_X8_areApart mv_X8_areApart sh_304 rfl rfl rfl rfl (Nat.le_of_ble_eq_true rfl) (Nat.le_of_ble_eq_true rfl) (by decide) hp (fun z1 m2 hp => ?_)
  obtain ⟨⟨r1, r2⟩, hA, hB⟩ := hp
  refine v_if_ne (tgt := 158) dX8_verdict_152 (by decide) r1 (fun q => ?_) (fun q => ?_)
  · have hp := hB q
    refine v_iload dX8_verdict_158 rfl ?_
    refine v_istore_n dX8_verdict_160 rfl (by decide) ?_
    refine v_iload dX8_verdict_161 rfl ?_
    refine v_istore_n dX8_verdict_163 rfl (by decide) ?_
    refine v_iinc dX8_verdict_164 rfl (by decide) ?_
    refine v_goto (tgt := 60) dX8_verdict_167 (by decide) ?_
    exact n_weak (wk_s (wk_s (wk_s (wk_s (wk_s (wk_n (wk_s wk_nil))))))) hp
  · have hp := hA q
    refine v_goto (tgt := 164) dX8_verdict_155 (by decide) ?_
    refine v_iinc dX8_verdict_164 rfl (by decide) ?_
    refine v_goto (tgt := 60) dX8_verdict_167 (by decide) ?_
    exact n_weak (wk_s (wk_s (wk_s (wk_s (wk_s (wk_n (wk_s wk_nil))))))) hp
theorem g_X8_quarrel_0 {G : GG} {d : Nat} {m : MM} {k : Int → MM → Prop} (x1 : Int)
    (hp : N G d mi_X8_isOne 0 [some (vr 304), some (vi x1)] [] m (RI fun z1 m2 => bEQ z1 0 (k (-1) m2) (N G d mi_X8_wornBy 0 [some (vr 304), some (vi x1), none, none] [] m2 (RI fun z3 m4 => N G d mi_X8_bits 0 [some (vi z3), none, none] [] m4 (RI fun z5 m6 => bLE 2 z5 (N G (d + 1) mi_X8_quarrel 28 [some (vr 304), none, some (vi z3), some (vi 0), none, none, none] [] m6 (RI k)) (k 0 m6)))))) :
    N G (d + 1) mi_X8_quarrel 0 [some (vr 304), some (vi x1), none, none, none, none, none] [] m (RI k) := by
  refine v_aload_n dX8_quarrel_0 rfl rfl ?_
  refine v_iload_n dX8_quarrel_1 rfl rfl ?_
  refine n_callVI (As := [vi x1]) (st := []) dX8_quarrel_2 ml_X8_265 mo_X8_isOne mv_X8_isOne sh_304 rfl rfl rfl rfl (Nat.le_of_ble_eq_true rfl) (Nat.le_of_ble_eq_true rfl) (by decide) hp (fun z1 m2 hp => ?_)
  obtain ⟨⟨r1, r2⟩, hA, hB⟩ := hp
  refine v_if_ne (tgt := 10) dX8_quarrel_5 (by decide) r1 (fun q => ?_) (fun q => ?_)
  · have hp := hB q
    refine v_aload_n dX8_quarrel_10 rfl rfl ?_
    refine v_iload_n dX8_quarrel_11 rfl rfl ?_
    refine n_callVI (As := [vi x1]) (st := []) dX8_quarrel_12 ml_X8_281 mo_X8_wornBy mv_X8_wornBy sh_304 rfl rfl rfl rfl (Nat.le_of_ble_eq_true rfl) (Nat.le_of_ble_eq_true rfl) (by decide) hp (fun z3 m4 hp => ?_)
    refine v_istore_n dX8_quarrel_15 rfl (by decide) ?_
    refine v_iload_n dX8_quarrel_16 rfl rfl ?_
    refine n_callSI (As := [vi z3]) (st := []) dX8_quarrel_17 ml_X8_284 mo_X8_bits ms_X8_bits rfl rfl (Nat.le_of_ble_eq_true rfl) (Nat.le_of_ble_eq_true rfl) (by decide) hp (fun z5 m6 hp => ?_)
    refine v_iconst dX8_quarrel_20 ?_
    obtain ⟨⟨r1, r2⟩, hA, hB⟩ := hp
    refine v_icmp_ge (tgt := 26) dX8_quarrel_21 (by decide) r2 r1 (fun q => ?_) (fun q => ?_)
    · have hp := hA q
      refine v_iconst dX8_quarrel_26 ?_
      refine v_istore_n dX8_quarrel_27 rfl (by decide) ?_
      exact n_weak (wk_s (wk_n (wk_s (wk_s (wk_s (wk_s (wk_s wk_nil))))))) hp
    · have hp := hB q
      refine v_iconst dX8_quarrel_24 ?_
      exact n_retI dX8_quarrel_25 rfl hp
  · have hp := hA q
    refine v_iconst dX8_quarrel_8 ?_
    exact n_retI dX8_quarrel_9 rfl hp
theorem g_X8_quarrel_28 {G : GG} {d : Nat} {m : MM} {k : Int → MM → Prop} (x2 : Int) (x3 : Int)
    (hp : N G d mi_X8_has 0 [some (vi x2), some (vi x3)] [] m (RI fun z1 m2 => bEQ z1 0 (N G (d + 1) mi_X8_quarrel 28 [some (vr 304), none, some (vi x2), some (vi (x3 + 1)), none, none, none] [] m2 (RI k)) (N G (d + 1) mi_X8_quarrel 47 [some (vr 304), none, some (vi x2), some (vi x3), some (vi (x3 + 1)), none, none] [] m2 (RI k)))) :
    N G (d + 1) mi_X8_quarrel 28 [some (vr 304), none, some (vi x2), some (vi x3), none, none, none] [] m (RI k) := by
  refine v_iload_n dX8_quarrel_28 rfl rfl ?_
  refine v_iload_n dX8_quarrel_29 rfl rfl ?_
  refine n_callSI (As := [vi x2, vi x3]) (st := []) dX8_quarrel_30 ml_X8_318 mo_X8_has ms_X8_has rfl rfl (Nat.le_of_ble_eq_true rfl) (Nat.le_of_ble_eq_true rfl) (by decide) hp (fun z1 m2 hp => ?_)
  obtain ⟨⟨r1, r2⟩, hA, hB⟩ := hp
  refine v_if_ne (tgt := 42) dX8_quarrel_33 (by decide) r1 (fun q => ?_) (fun q => ?_)
  · have hp := hB q
    refine v_iload_n dX8_quarrel_42 rfl rfl ?_
    refine v_iconst dX8_quarrel_43 ?_
    refine v_iadd dX8_quarrel_44 ?_
    refine v_istore dX8_quarrel_45 (by decide) ?_
    exact hp
  · have hp := hA q
    refine v_iinc dX8_quarrel_36 rfl (by decide) ?_
    refine v_goto (tgt := 28) dX8_quarrel_39 (by decide) ?_
    exact hp
theorem g_X8_quarrel_47 {G : GG} {d : Nat} {m : MM} {k : Int → MM → Prop} (x2 : Int) (x3 : Int) (x4 : Int)
    (hp : N G d mi_X8_has 0 [some (vi x2), some (vi x4)] [] m (RI fun z1 m2 => bEQ z1 0 (N G (d + 1) mi_X8_quarrel 47 [some (vr 304), none, some (vi x2), some (vi x3), some (vi (x4 + 1)), none, none] [] m2 (RI k)) (N G (d + 1) mi_X8_quarrel 68 [some (vr 304), none, none, some (vi x3), some (vi x4), some (vi 0), some (vi 0)] [] m2 (RI k)))) :
    N G (d + 1) mi_X8_quarrel 47 [some (vr 304), none, some (vi x2), some (vi x3), some (vi x4), none, none] [] m (RI k) := by
  refine v_iload_n dX8_quarrel_47 rfl rfl ?_
  refine v_iload dX8_quarrel_48 rfl ?_
  refine n_callSI (As := [vi x2, vi x4]) (st := []) dX8_quarrel_50 ml_X8_318 mo_X8_has ms_X8_has rfl rfl (Nat.le_of_ble_eq_true rfl) (Nat.le_of_ble_eq_true rfl) (by decide) hp (fun z1 m2 hp => ?_)
  obtain ⟨⟨r1, r2⟩, hA, hB⟩ := hp
  refine v_if_ne (tgt := 62) dX8_quarrel_53 (by decide) r1 (fun q => ?_) (fun q => ?_)
  · have hp := hB q
    refine v_iconst dX8_quarrel_62 ?_
    refine v_istore dX8_quarrel_63 (by decide) ?_
    refine v_iconst dX8_quarrel_65 ?_
    refine v_istore dX8_quarrel_66 (by decide) ?_
    exact n_weak (wk_s (wk_s (wk_n (wk_s (wk_s (wk_s (wk_s wk_nil))))))) hp
  · have hp := hA q
    refine v_iinc dX8_quarrel_56 rfl (by decide) ?_
    refine v_goto (tgt := 47) dX8_quarrel_59 (by decide) ?_
    exact hp
theorem g_X8_quarrel_68 {G : GG} {d : Nat} {m : MM} {k : Int → MM → Prop} (x3 : Int) (x4 : Int) (x5 : Int) (x6 : Int)
    (hp : bLE 4 x6 (k x5 m) (N G d mi_X8_get 0 [some (vr 304), some (vi x3), some (vi (4 + x6))] [] m (RI fun z1 m2 => N G d mi_X8_get 0 [some (vr 304), some (vi x4), some (vi (4 + x6))] [] m2 (RI fun z3 m4 => bEQ z1 z3 (N G (d + 1) mi_X8_quarrel 68 [some (vr 304), none, none, some (vi x3), some (vi x4), some (vi (x5 + 0)), some (vi (x6 + 1))] [] m4 (RI k)) (N G (d + 1) mi_X8_quarrel 68 [some (vr 304), none, none, some (vi x3), some (vi x4), some (vi (x5 + 1)), some (vi (x6 + 1))] [] m4 (RI k)))))) :
    N G (d + 1) mi_X8_quarrel 68 [some (vr 304), none, none, some (vi x3), some (vi x4), some (vi x5), some (vi x6)] [] m (RI k) := by
  refine v_iload dX8_quarrel_68 rfl ?_
  refine v_iconst dX8_quarrel_70 ?_
  obtain ⟨⟨r1, r2⟩, hA, hB⟩ := hp
  refine v_icmp_ge (tgt := 112) dX8_quarrel_71 (by decide) r2 r1 (fun q => ?_) (fun q => ?_)
  · have hp := hA q
    refine v_iload dX8_quarrel_112 rfl ?_
    exact n_retI dX8_quarrel_114 rfl hp
  · have hp := hB q
    refine v_iload dX8_quarrel_74 rfl ?_
    refine v_aload_n dX8_quarrel_76 rfl rfl ?_
    refine v_iload_n dX8_quarrel_77 rfl rfl ?_
    refine v_iconst dX8_quarrel_78 ?_
    refine v_iload dX8_quarrel_79 rfl ?_
    refine v_iadd dX8_quarrel_81 ?_
    refine n_callVI (As := [vi x3, vi (4 + x6)]) (st := [vi x5]) dX8_quarrel_82 ml_X8_77 mo_X8_get mv_X8_get sh_304 rfl rfl rfl rfl (Nat.le_of_ble_eq_true rfl) (Nat.le_of_ble_eq_true rfl) (by decide) hp (fun z1 m2 hp => ?_)
    refine v_aload_n dX8_quarrel_85 rfl rfl ?_
    refine v_iload dX8_quarrel_86 rfl ?_
    refine v_iconst dX8_quarrel_88 ?_
    refine v_iload dX8_quarrel_89 rfl ?_
    refine v_iadd dX8_quarrel_91 ?_
    refine n_callVI (As := [vi x4, vi (4 + x6)]) (st := [vi z1, vi x5]) dX8_quarrel_92 ml_X8_77 mo_X8_get mv_X8_get sh_304 rfl rfl rfl rfl (Nat.le_of_ble_eq_true rfl) (Nat.le_of_ble_eq_true rfl) (by decide) hp (fun z3 m4 hp => ?_)
    obtain ⟨⟨r1, r2⟩, hA, hB⟩ := hp
    refine v_icmp_eq (tgt := 102) dX8_quarrel_95 (by decide) r1 r2 (fun q => ?_) (fun q => ?_)
    · have hp := hA q
      refine v_iconst dX8_quarrel_102 ?_
      refine v_iadd dX8_quarrel_103 ?_
      refine v_istore dX8_quarrel_104 (by decide) ?_
      refine v_iinc dX8_quarrel_106 rfl (by decide) ?_
      refine v_goto (tgt := 68) dX8_quarrel_109 (by decide) ?_
      exact hp
    · have hp := hB q
      refine v_iconst dX8_quarrel_98 ?_
      refine v_goto (tgt := 103) dX8_quarrel_99 (by decide) ?_
      refine v_iadd dX8_quarrel_103 ?_
      refine v_istore dX8_quarrel_104 (by decide) ?_
      refine v_iinc dX8_quarrel_106 rfl (by decide) ?_
      refine v_goto (tgt := 68) dX8_quarrel_109 (by decide) ?_
      exact hp
theorem g_X8_shown_0 {G : GG} {d : Nat} {m : MM} {k : Int → MM → Prop} (x1 : Int)
    (hp : bEQ x1 (-1) (∀ m6 : MM, m6 = upm m 305 6 0 → (k 0 m6)) (N G d mi_X8_isThing 0 [some (vr 304), some (vi x1)] [] m (RI fun z1 m2 => bEQ z1 0 (k (-2) m2) (bEQ (m2 305 6) 4 (k (-2) m2) (∃ j4 : Nat, ((16 + (m2 305 6)) = (j4 : Int) ∧ j4 < 1584) ∧ (∀ m3 : MM, m3 = upm m2 305 j4 x1 → (∀ m5 : MM, m5 = upm m3 305 6 ((m3 305 6) + 1) → (k (m5 305 6) m5)))))))) :
    N G (d + 1) mi_X8_shown 0 [some (vr 304), some (vi x1)] [] m (RI k) := by
  refine v_iload_n dX8_shown_0 rfl rfl ?_
  refine v_iconst dX8_shown_1 ?_
  obtain ⟨⟨r1, r2⟩, hA, hB⟩ := hp
  refine v_icmp_ne (tgt := 15) dX8_shown_2 (by decide) r1 r2 (fun q => ?_) (fun q => ?_)
  · have hp := hB q
    refine v_aload_n dX8_shown_15 rfl rfl ?_
    refine v_iload_n dX8_shown_16 rfl rfl ?_
    refine n_callVI (As := [vi x1]) (st := []) dX8_shown_17 ml_X8_262 mo_X8_isThing mv_X8_isThing sh_304 rfl rfl rfl rfl (Nat.le_of_ble_eq_true rfl) (Nat.le_of_ble_eq_true rfl) (by decide) hp (fun z1 m2 hp => ?_)
    obtain ⟨⟨r1, r2⟩, hA, hB⟩ := hp
    refine v_if_eq (tgt := 34) dX8_shown_20 (by decide) r1 (fun q => ?_) (fun q => ?_)
    · have hp := hA q
      refine v_bipush dX8_shown_34 rfl ?_
      exact n_retI dX8_shown_36 rfl hp
    · have hp := hB q
      refine v_aload_n dX8_shown_23 rfl rfl ?_
      refine n_getr dX8_shown_24 fo_X8_7 sh_304 rfl sr_304_0 ?_
      refine v_bipush dX8_shown_27 rfl ?_
      refine n_iald (j := 6) dX8_shown_29 sh_305 rfl (by decide) ?_
      refine v_iconst dX8_shown_30 ?_
      obtain ⟨⟨r1, r2⟩, hA, hB⟩ := hp
      refine v_icmp_ne (tgt := 37) dX8_shown_31 (by decide) r1 r2 (fun q => ?_) (fun q => ?_)
      · have hp := hB q
        refine v_aload_n dX8_shown_37 rfl rfl ?_
        refine n_getr dX8_shown_38 fo_X8_7 sh_304 rfl sr_304_0 ?_
        refine v_bipush dX8_shown_41 rfl ?_
        refine v_aload_n dX8_shown_43 rfl rfl ?_
        refine n_getr dX8_shown_44 fo_X8_7 sh_304 rfl sr_304_0 ?_
        refine v_bipush dX8_shown_47 rfl ?_
        refine n_iald (j := 6) dX8_shown_49 sh_305 rfl (by decide) ?_
        refine v_iadd dX8_shown_50 ?_
        refine v_iload_n dX8_shown_51 rfl rfl ?_
        obtain ⟨j4, ⟨ej4, bj4⟩, hp⟩ := hp
        refine w_iast (j := j4) dX8_shown_52 sh_305 ej4 bj4 (fun m3 em3 => ?_)
        have hp := hp m3 em3
        refine v_aload_n dX8_shown_53 rfl rfl ?_
        refine n_getr dX8_shown_54 fo_X8_7 sh_304 rfl sr_304_0 ?_
        refine v_bipush dX8_shown_57 rfl ?_
        refine v_dup2ir dX8_shown_59 ?_
        refine n_iald (j := 6) dX8_shown_60 sh_305 rfl (by decide) ?_
        refine v_iconst dX8_shown_61 ?_
        refine v_iadd dX8_shown_62 ?_
        refine w_iast (j := 6) dX8_shown_63 sh_305 rfl (by decide) (fun m5 em5 => ?_)
        have hp := hp m5 em5
        refine v_aload_n dX8_shown_64 rfl rfl ?_
        refine n_getr dX8_shown_65 fo_X8_7 sh_304 rfl sr_304_0 ?_
        refine v_bipush dX8_shown_68 rfl ?_
        refine n_iald (j := 6) dX8_shown_70 sh_305 rfl (by decide) ?_
        exact n_retI dX8_shown_71 rfl hp
      · have hp := hA q
        refine v_bipush dX8_shown_34 rfl ?_
        exact n_retI dX8_shown_36 rfl hp
  · have hp := hA q
    refine v_aload_n dX8_shown_5 rfl rfl ?_
    refine n_getr dX8_shown_6 fo_X8_7 sh_304 rfl sr_304_0 ?_
    refine v_bipush dX8_shown_9 rfl ?_
    refine v_iconst dX8_shown_11 ?_
    refine w_iast (j := 6) dX8_shown_12 sh_305 rfl (by decide) (fun m6 em6 => ?_)
    have hp := hp m6 em6
    refine v_iconst dX8_shown_13 ?_
    exact n_retI dX8_shown_14 rfl hp
theorem g_X8_shownAt_0 {G : GG} {d : Nat} {m : MM} {k : Int → MM → Prop} (x1 : Int)
    (hp : bLE (m 305 6) x1 (k (-1) m) (∃ j1 : Nat, ((16 + x1) = (j1 : Int) ∧ j1 < 1584) ∧ (k (m 305 j1) m))) :
    N G d mi_X8_shownAt 0 [some (vr 304), some (vi x1)] [] m (RI k) := by
  refine v_iload_n dX8_shownAt_0 rfl rfl ?_
  refine v_aload_n dX8_shownAt_1 rfl rfl ?_
  refine n_getr dX8_shownAt_2 fo_X8_7 sh_304 rfl sr_304_0 ?_
  refine v_bipush dX8_shownAt_5 rfl ?_
  refine n_iald (j := 6) dX8_shownAt_7 sh_305 rfl (by decide) ?_
  obtain ⟨⟨r1, r2⟩, hA, hB⟩ := hp
  refine v_icmp_ge (tgt := 23) dX8_shownAt_8 (by decide) r2 r1 (fun q => ?_) (fun q => ?_)
  · have hp := hA q
    refine v_iconst dX8_shownAt_23 ?_
    exact n_retI dX8_shownAt_24 rfl hp
  · have hp := hB q
    refine v_aload_n dX8_shownAt_11 rfl rfl ?_
    refine n_getr dX8_shownAt_12 fo_X8_7 sh_304 rfl sr_304_0 ?_
    refine v_bipush dX8_shownAt_15 rfl ?_
    refine v_iload_n dX8_shownAt_17 rfl rfl ?_
    refine v_iadd dX8_shownAt_18 ?_
    obtain ⟨j1, ⟨ej1, bj1⟩, hp⟩ := hp
    refine n_iald (j := j1) dX8_shownAt_19 sh_305 ej1 bj1 ?_
    refine v_goto (tgt := 24) dX8_shownAt_20 (by decide) ?_
    exact n_retI dX8_shownAt_24 rfl hp
theorem g_X8_goOn_0 {G : GG} {d : Nat} {m : MM} {k : MM → Prop} (x1 : Int) (x2 : Int)
    (hp : N G (d + 1) mi_X8_goOn 2 [some (vr 304), some (vi x1), some (vi x2), some (vi 0), none, none, none] [] m (RV k)) :
    N G (d + 1) mi_X8_goOn 0 [some (vr 304), some (vi x1), some (vi x2), none, none, none, none] [] m (RV k) := by
  refine v_iconst dX8_goOn_0 ?_
  refine v_istore_n dX8_goOn_1 rfl (by decide) ?_
  exact hp
theorem g_X8_goOn_2 {G : GG} {d : Nat} {m : MM} {k : MM → Prop} (x1 : Int) (x2 : Int) (x3 : Int)
    (hp : bLE 4 x3 (∃ j1 : Nat, (x2 = (j1 : Int) ∧ j1 < 4) ∧ (N G (d + 1) mi_X8_goOn 51 [some (vr 304), some (vi x1), some (vi x2), some (vi (idiv (m 315 j1) 8)), some (vi 0), some (vi 0), none] [] m (RV k))) (∃ j2 : Nat, (((4 * x2) + x3) = (j2 : Int) ∧ j2 < 16) ∧ (∃ j4 : Nat, ((((4 * x2) + 4) + x3) = (j4 : Int) ∧ j4 < 16) ∧ (∀ m3 : MM, m3 = upm m 316 j4 (m 316 j2) → (N G (d + 1) mi_X8_goOn 2 [some (vr 304), some (vi x1), some (vi x2), some (vi (x3 + 1)), none, none, none] [] m3 (RV k)))))) :
    N G (d + 1) mi_X8_goOn 2 [some (vr 304), some (vi x1), some (vi x2), some (vi x3), none, none, none] [] m (RV k) := by
  refine v_iload_n dX8_goOn_2 rfl rfl ?_
  refine v_iconst dX8_goOn_3 ?_
  obtain ⟨⟨r1, r2⟩, hA, hB⟩ := hp
  refine v_icmp_ge (tgt := 35) dX8_goOn_4 (by decide) r2 r1 (fun q => ?_) (fun q => ?_)
  · have hp := hA q
    refine v_aload_n dX8_goOn_35 rfl rfl ?_
    refine n_getr dX8_goOn_36 fo_X8_49 sh_304 rfl sr_304_28 ?_
    refine v_iload_n dX8_goOn_39 rfl rfl ?_
    obtain ⟨j1, ⟨ej1, bj1⟩, hp⟩ := hp
    refine n_iald (j := j1) dX8_goOn_40 sh_315 ej1 bj1 ?_
    refine v_bipush dX8_goOn_41 rfl ?_
    refine v_idiv dX8_goOn_43 (by decide) (by decide) ?_
    refine v_istore_n dX8_goOn_44 rfl (by decide) ?_
    refine v_iconst dX8_goOn_45 ?_
    refine v_istore dX8_goOn_46 (by decide) ?_
    refine v_iconst dX8_goOn_48 ?_
    refine v_istore dX8_goOn_49 (by decide) ?_
    exact hp
  · have hp := hB q
    refine v_aload_n dX8_goOn_7 rfl rfl ?_
    refine n_getr dX8_goOn_8 fo_X8_52 sh_304 rfl sr_304_29 ?_
    refine v_iconst dX8_goOn_11 ?_
    refine v_iload_n dX8_goOn_12 rfl rfl ?_
    refine v_imul dX8_goOn_13 ?_
    refine v_iconst dX8_goOn_14 ?_
    refine v_iadd dX8_goOn_15 ?_
    refine v_iload_n dX8_goOn_16 rfl rfl ?_
    refine v_iadd dX8_goOn_17 ?_
    refine v_aload_n dX8_goOn_18 rfl rfl ?_
    refine n_getr dX8_goOn_19 fo_X8_52 sh_304 rfl sr_304_29 ?_
    refine v_iconst dX8_goOn_22 ?_
    refine v_iload_n dX8_goOn_23 rfl rfl ?_
    refine v_imul dX8_goOn_24 ?_
    refine v_iload_n dX8_goOn_25 rfl rfl ?_
    refine v_iadd dX8_goOn_26 ?_
    obtain ⟨j2, ⟨ej2, bj2⟩, hp⟩ := hp
    refine n_iald (j := j2) dX8_goOn_27 sh_316 ej2 bj2 ?_
    obtain ⟨j4, ⟨ej4, bj4⟩, hp⟩ := hp
    refine w_iast (j := j4) dX8_goOn_28 sh_316 ej4 bj4 (fun m3 em3 => ?_)
    have hp := hp m3 em3
    refine v_iinc dX8_goOn_29 rfl (by decide) ?_
    refine v_goto (tgt := 2) dX8_goOn_32 (by decide) ?_
    exact hp
theorem g_X8_goOn_51 {G : GG} {d : Nat} {m : MM} {k : MM → Prop} (x1 : Int) (x2 : Int) (x3 : Int) (x4 : Int) (x5 : Int)
    (hp : bLE 4 x5 (N G d mi_X8_get 0 [some (vr 304), some (vi x1), some (vi 2)] [] m (RI fun z1 m2 => bEQ z1 x3 (∃ j3 : Nat, (x2 = (j3 : Int) ∧ j3 < 4) ∧ (N G d mi_X8_sees 0 [some (vr 304), some (vi x1), some (vi (((m2 305 2) + x2) + 1)), some (vi x4), some (vi (irem (m2 315 j3) 8)), some (vi x3), none] [] m2 (RI fun z4 m5 => bEQ z4 0 (k m5) (N G d mi_X8_get 0 [some (vr 304), some (vi x1), some (vi 1)] [] m5 (RI fun z6 m7 => N G (d + 1) mi_X8_goOn 136 [some (vr 304), none, some (vi x2), none, none, some (vi z6), none] [] m7 (RV k)))))) (k m2))) (∃ j8 : Nat, (((4 * x2) + x5) = (j8 : Int) ∧ j8 < 16) ∧ (bLT (m 316 j8) 0 (N G (d + 1) mi_X8_goOn 51 [some (vr 304), some (vi x1), some (vi x2), some (vi x3), some (vi (x4 + 0)), some (vi (x5 + 1)), none] [] m (RV k)) (N G (d + 1) mi_X8_goOn 51 [some (vr 304), some (vi x1), some (vi x2), some (vi x3), some (vi (x4 + 1)), some (vi (x5 + 1)), none] [] m (RV k))))) :
    N G (d + 1) mi_X8_goOn 51 [some (vr 304), some (vi x1), some (vi x2), some (vi x3), some (vi x4), some (vi x5), none] [] m (RV k) := by
  refine v_iload dX8_goOn_51 rfl ?_
  refine v_iconst dX8_goOn_53 ?_
  obtain ⟨⟨r1, r2⟩, hA, hB⟩ := hp
  refine v_icmp_ge (tgt := 87) dX8_goOn_54 (by decide) r2 r1 (fun q => ?_) (fun q => ?_)
  · have hp := hA q
    refine v_aload_n dX8_goOn_87 rfl rfl ?_
    refine v_iload_n dX8_goOn_88 rfl rfl ?_
    refine v_iconst dX8_goOn_89 ?_
    refine n_callVI (As := [vi x1, vi 2]) (st := []) dX8_goOn_90 ml_X8_77 mo_X8_get mv_X8_get sh_304 rfl rfl rfl rfl (Nat.le_of_ble_eq_true rfl) (Nat.le_of_ble_eq_true rfl) (by decide) hp (fun z1 m2 hp => ?_)
    refine v_iload_n dX8_goOn_93 rfl rfl ?_
    obtain ⟨⟨r1, r2⟩, hA, hB⟩ := hp
    refine v_icmp_ne (tgt := 127) dX8_goOn_94 (by decide) r1 r2 (fun q => ?_) (fun q => ?_)
    · have hp := hB q
      exact n_retV dX8_goOn_127 rfl hp
    · have hp := hA q
      refine v_aload_n dX8_goOn_97 rfl rfl ?_
      refine v_iload_n dX8_goOn_98 rfl rfl ?_
      refine v_aload_n dX8_goOn_99 rfl rfl ?_
      refine n_getr dX8_goOn_100 fo_X8_7 sh_304 rfl sr_304_0 ?_
      refine v_iconst dX8_goOn_103 ?_
      refine n_iald (j := 2) dX8_goOn_104 sh_305 rfl (by decide) ?_
      refine v_iload_n dX8_goOn_105 rfl rfl ?_
      refine v_iadd dX8_goOn_106 ?_
      refine v_iconst dX8_goOn_107 ?_
      refine v_iadd dX8_goOn_108 ?_
      refine v_iload dX8_goOn_109 rfl ?_
      refine v_aload_n dX8_goOn_111 rfl rfl ?_
      refine n_getr dX8_goOn_112 fo_X8_49 sh_304 rfl sr_304_28 ?_
      refine v_iload_n dX8_goOn_115 rfl rfl ?_
      obtain ⟨j3, ⟨ej3, bj3⟩, hp⟩ := hp
      refine n_iald (j := j3) dX8_goOn_116 sh_315 ej3 bj3 ?_
      refine v_bipush dX8_goOn_117 rfl ?_
      refine w_irem dX8_goOn_119 (by decide) (by decide) ?_
      refine v_iload_n dX8_goOn_120 rfl rfl ?_
      refine n_callVI (As := [vi x1, vi (((m2 305 2) + x2) + 1), vi x4, vi (irem (m2 315 j3) 8), vi x3]) (st := []) dX8_goOn_121 ml_X8_271 mo_X8_sees mv_X8_sees sh_304 rfl rfl rfl rfl (Nat.le_of_ble_eq_true rfl) (Nat.le_of_ble_eq_true rfl) (by decide) hp (fun z4 m5 hp => ?_)
      obtain ⟨⟨r1, r2⟩, hA, hB⟩ := hp
      refine v_if_ne (tgt := 128) dX8_goOn_124 (by decide) r1 (fun q => ?_) (fun q => ?_)
      · have hp := hB q
        refine v_aload_n dX8_goOn_128 rfl rfl ?_
        refine v_iload_n dX8_goOn_129 rfl rfl ?_
        refine v_iconst dX8_goOn_130 ?_
        refine n_callVI (As := [vi x1, vi 1]) (st := []) dX8_goOn_131 ml_X8_77 mo_X8_get mv_X8_get sh_304 rfl rfl rfl rfl (Nat.le_of_ble_eq_true rfl) (Nat.le_of_ble_eq_true rfl) (by decide) hp (fun z6 m7 hp => ?_)
        refine v_istore dX8_goOn_134 (by decide) ?_
        exact n_weak (wk_s (wk_n (wk_s (wk_n (wk_n (wk_s (wk_s wk_nil))))))) hp
      · have hp := hA q
        exact n_retV dX8_goOn_127 rfl hp
  · have hp := hB q
    refine v_iload dX8_goOn_57 rfl ?_
    refine v_aload_n dX8_goOn_59 rfl rfl ?_
    refine n_getr dX8_goOn_60 fo_X8_52 sh_304 rfl sr_304_29 ?_
    refine v_iconst dX8_goOn_63 ?_
    refine v_iload_n dX8_goOn_64 rfl rfl ?_
    refine v_imul dX8_goOn_65 ?_
    refine v_iload dX8_goOn_66 rfl ?_
    refine v_iadd dX8_goOn_68 ?_
    obtain ⟨j8, ⟨ej8, bj8⟩, hp⟩ := hp
    refine n_iald (j := j8) dX8_goOn_69 sh_316 ej8 bj8 ?_
    obtain ⟨⟨r1, r2⟩, hA, hB⟩ := hp
    refine v_if_lt (tgt := 77) dX8_goOn_70 (by decide) r1 (fun q => ?_) (fun q => ?_)
    · have hp := hA q
      refine v_iconst dX8_goOn_77 ?_
      refine v_iadd dX8_goOn_78 ?_
      refine v_istore dX8_goOn_79 (by decide) ?_
      refine v_iinc dX8_goOn_81 rfl (by decide) ?_
      refine v_goto (tgt := 51) dX8_goOn_84 (by decide) ?_
      exact hp
    · have hp := hB q
      refine v_iconst dX8_goOn_73 ?_
      refine v_goto (tgt := 78) dX8_goOn_74 (by decide) ?_
      refine v_iadd dX8_goOn_78 ?_
      refine v_istore dX8_goOn_79 (by decide) ?_
      refine v_iinc dX8_goOn_81 rfl (by decide) ?_
      refine v_goto (tgt := 51) dX8_goOn_84 (by decide) ?_
      exact hp
theorem g_X8_goOn_136 {G : GG} {d : Nat} {m : MM} {k : MM → Prop} (x2 : Int) (x5 : Int)
    (hp : bLT x5 0 (k m) (N G (d + 1) mi_X8_goOn 144 [some (vr 304), none, some (vi x2), none, none, some (vi x5), some (vi 3)] [] m (RV k))) :
    N G (d + 1) mi_X8_goOn 136 [some (vr 304), none, some (vi x2), none, none, some (vi x5), none] [] m (RV k) := by
  refine v_iload dX8_goOn_136 rfl ?_
  obtain ⟨⟨r1, r2⟩, hA, hB⟩ := hp
  refine v_if_lt (tgt := 206) dX8_goOn_138 (by decide) r1 (fun q => ?_) (fun q => ?_)
  · have hp := hA q
    exact n_retV dX8_goOn_206 rfl hp
  · have hp := hB q
    refine v_iconst dX8_goOn_141 ?_
    refine v_istore dX8_goOn_142 (by decide) ?_
    exact hp
theorem g_X8_goOn_144 {G : GG} {d : Nat} {m : MM} {k : MM → Prop} (x2 : Int) (x5 : Int) (x6 : Int)
    (hp : bLE x6 0 (∃ j1 : Nat, (x2 = (j1 : Int) ∧ j1 < 4) ∧ (∃ j3 : Nat, (((4 * x2) + 4) = (j3 : Int) ∧ j3 < 16) ∧ (∀ m2 : MM, m2 = upm m 316 j3 (irem (m 315 j1) 8) → (N G (d + 1) mi_X8_goOn 136 [some (vr 304), none, some (vi x2), none, none, some (vi (x5 + (-1))), none] [] m2 (RV k))))) (∃ j4 : Nat, ((((4 * x2) + 3) + x6) = (j4 : Int) ∧ j4 < 16) ∧ (∃ j6 : Nat, ((((4 * x2) + 4) + x6) = (j6 : Int) ∧ j6 < 16) ∧ (∀ m5 : MM, m5 = upm m 316 j6 (m 316 j4) → (N G (d + 1) mi_X8_goOn 144 [some (vr 304), none, some (vi x2), none, none, some (vi x5), some (vi (x6 + (-1)))] [] m5 (RV k)))))) :
    N G (d + 1) mi_X8_goOn 144 [some (vr 304), none, some (vi x2), none, none, some (vi x5), some (vi x6)] [] m (RV k) := by
  refine v_iload dX8_goOn_144 rfl ?_
  obtain ⟨⟨r1, r2⟩, hA, hB⟩ := hp
  refine v_if_le (tgt := 181) dX8_goOn_146 (by decide) r1 (fun q => ?_) (fun q => ?_)
  · have hp := hA q
    refine v_aload_n dX8_goOn_181 rfl rfl ?_
    refine n_getr dX8_goOn_182 fo_X8_52 sh_304 rfl sr_304_29 ?_
    refine v_iconst dX8_goOn_185 ?_
    refine v_iload_n dX8_goOn_186 rfl rfl ?_
    refine v_imul dX8_goOn_187 ?_
    refine v_iconst dX8_goOn_188 ?_
    refine v_iadd dX8_goOn_189 ?_
    refine v_aload_n dX8_goOn_190 rfl rfl ?_
    refine n_getr dX8_goOn_191 fo_X8_49 sh_304 rfl sr_304_28 ?_
    refine v_iload_n dX8_goOn_194 rfl rfl ?_
    obtain ⟨j1, ⟨ej1, bj1⟩, hp⟩ := hp
    refine n_iald (j := j1) dX8_goOn_195 sh_315 ej1 bj1 ?_
    refine v_bipush dX8_goOn_196 rfl ?_
    refine w_irem dX8_goOn_198 (by decide) (by decide) ?_
    obtain ⟨j3, ⟨ej3, bj3⟩, hp⟩ := hp
    refine w_iast (j := j3) dX8_goOn_199 sh_316 ej3 bj3 (fun m2 em2 => ?_)
    have hp := hp m2 em2
    refine v_iinc dX8_goOn_200 rfl (by decide) ?_
    refine v_goto (tgt := 136) dX8_goOn_203 (by decide) ?_
    exact n_weak (wk_s (wk_s (wk_s (wk_s (wk_s (wk_s (wk_n wk_nil))))))) hp
  · have hp := hB q
    refine v_aload_n dX8_goOn_149 rfl rfl ?_
    refine n_getr dX8_goOn_150 fo_X8_52 sh_304 rfl sr_304_29 ?_
    refine v_iconst dX8_goOn_153 ?_
    refine v_iload_n dX8_goOn_154 rfl rfl ?_
    refine v_imul dX8_goOn_155 ?_
    refine v_iconst dX8_goOn_156 ?_
    refine v_iadd dX8_goOn_157 ?_
    refine v_iload dX8_goOn_158 rfl ?_
    refine v_iadd dX8_goOn_160 ?_
    refine v_aload_n dX8_goOn_161 rfl rfl ?_
    refine n_getr dX8_goOn_162 fo_X8_52 sh_304 rfl sr_304_29 ?_
    refine v_iconst dX8_goOn_165 ?_
    refine v_iload_n dX8_goOn_166 rfl rfl ?_
    refine v_imul dX8_goOn_167 ?_
    refine v_iconst dX8_goOn_168 ?_
    refine v_iadd dX8_goOn_169 ?_
    refine v_iload dX8_goOn_170 rfl ?_
    refine v_iadd dX8_goOn_172 ?_
    obtain ⟨j4, ⟨ej4, bj4⟩, hp⟩ := hp
    refine n_iald (j := j4) dX8_goOn_173 sh_316 ej4 bj4 ?_
    obtain ⟨j6, ⟨ej6, bj6⟩, hp⟩ := hp
    refine w_iast (j := j6) dX8_goOn_174 sh_316 ej6 bj6 (fun m5 em5 => ?_)
    have hp := hp m5 em5
    refine v_iinc dX8_goOn_175 rfl (by decide) ?_
    refine v_goto (tgt := 144) dX8_goOn_178 (by decide) ?_
    exact hp
theorem g_X8_isShown_0 {G : GG} {d : Nat} {m : MM} {k : Int → MM → Prop} (x1 : Int)
    (hp : N G (d + 1) mi_X8_isShown 2 [some (vr 304), some (vi x1), some (vi 0)] [] m (RI k)) :
    N G (d + 1) mi_X8_isShown 0 [some (vr 304), some (vi x1), none] [] m (RI k) := by
  refine v_iconst dX8_isShown_0 ?_
  refine v_istore_n dX8_isShown_1 rfl (by decide) ?_
  exact hp
theorem g_X8_isShown_2 {G : GG} {d : Nat} {m : MM} {k : Int → MM → Prop} (x1 : Int) (x2 : Int)
    (hp : bLE 4 x2 (k 1 m) (∃ j1 : Nat, (((4 * x1) + x2) = (j1 : Int) ∧ j1 < 16) ∧ (N G d mi_X8_shownAt 0 [some (vr 304), some (vi x2)] [] m (RI fun z2 m3 => bEQ (m 316 j1) z2 (N G (d + 1) mi_X8_isShown 2 [some (vr 304), some (vi x1), some (vi (x2 + 1))] [] m3 (RI k)) (k 0 m3))))) :
    N G (d + 1) mi_X8_isShown 2 [some (vr 304), some (vi x1), some (vi x2)] [] m (RI k) := by
  refine v_iload_n dX8_isShown_2 rfl rfl ?_
  refine v_iconst dX8_isShown_3 ?_
  obtain ⟨⟨r1, r2⟩, hA, hB⟩ := hp
  refine v_icmp_ge (tgt := 33) dX8_isShown_4 (by decide) r2 r1 (fun q => ?_) (fun q => ?_)
  · have hp := hA q
    refine v_iconst dX8_isShown_33 ?_
    exact n_retZ dX8_isShown_34 rfl (by decide) hp
  · have hp := hB q
    refine v_aload_n dX8_isShown_7 rfl rfl ?_
    refine n_getr dX8_isShown_8 fo_X8_52 sh_304 rfl sr_304_29 ?_
    refine v_iconst dX8_isShown_11 ?_
    refine v_iload_n dX8_isShown_12 rfl rfl ?_
    refine v_imul dX8_isShown_13 ?_
    refine v_iload_n dX8_isShown_14 rfl rfl ?_
    refine v_iadd dX8_isShown_15 ?_
    obtain ⟨j1, ⟨ej1, bj1⟩, hp⟩ := hp
    refine n_iald (j := j1) dX8_isShown_16 sh_316 ej1 bj1 ?_
    refine v_aload_n dX8_isShown_17 rfl rfl ?_
    refine v_iload_n dX8_isShown_18 rfl rfl ?_
    refine n_callVI (As := [vi x2]) (st := [vi (m 316 j1)]) dX8_isShown_19 ml_X8_328 mo_X8_shownAt mv_X8_shownAt sh_304 rfl rfl rfl rfl (Nat.le_of_ble_eq_true rfl) (Nat.le_of_ble_eq_true rfl) (by decide) hp (fun z2 m3 hp => ?_)
    obtain ⟨⟨r1, r2⟩, hA, hB⟩ := hp
    refine v_icmp_eq (tgt := 27) dX8_isShown_22 (by decide) r1 r2 (fun q => ?_) (fun q => ?_)
    · have hp := hA q
      refine v_iinc dX8_isShown_27 rfl (by decide) ?_
      refine v_goto (tgt := 2) dX8_isShown_30 (by decide) ?_
      exact hp
    · have hp := hB q
      refine v_iconst dX8_isShown_25 ?_
      exact n_retZ dX8_isShown_26 rfl (by decide) hp
theorem g_X8_count_0 {G : GG} {d : Nat} {m : MM} {k : MM → Prop} (x1 : Int)
    (hp : N G d mi_X8_isShown 0 [some (vr 304), some (vi x1), none] [] m (RI fun z1 m2 => bEQ z1 0 (k m2) (N G (d + 1) mi_X8_count 13 [some (vr 304), some (vi x1), some (vi 0), some (vi 0)] [] m2 (RV k)))) :
    N G (d + 1) mi_X8_count 0 [some (vr 304), some (vi x1), none, none] [] m (RV k) := by
  refine v_aload_n dX8_count_0 rfl rfl ?_
  refine v_iload_n dX8_count_1 rfl rfl ?_
  refine n_callVI (As := [vi x1]) (st := []) dX8_count_2 ml_X8_331 mo_X8_isShown mv_X8_isShown sh_304 rfl rfl rfl rfl (Nat.le_of_ble_eq_true rfl) (Nat.le_of_ble_eq_true rfl) (by decide) hp (fun z1 m2 hp => ?_)
  obtain ⟨⟨r1, r2⟩, hA, hB⟩ := hp
  refine v_if_ne (tgt := 9) dX8_count_5 (by decide) r1 (fun q => ?_) (fun q => ?_)
  · have hp := hB q
    refine v_iconst dX8_count_9 ?_
    refine v_istore_n dX8_count_10 rfl (by decide) ?_
    refine v_iconst dX8_count_11 ?_
    refine v_istore_n dX8_count_12 rfl (by decide) ?_
    exact hp
  · have hp := hA q
    exact n_retV dX8_count_8 rfl hp
theorem g_X8_count_13 {G : GG} {d : Nat} {m : MM} {k : MM → Prop} (x1 : Int) (x2 : Int) (x3 : Int)
    (hp : bLE x1 x3 (bEQ (m 304 31) 0 (∀ m3 : MM, m3 = upm m 304 32 x2 → (∀ m4 : MM, m4 = upm m3 304 31 ((m3 304 31) + 1) → (k m4))) (∀ m1 : MM, m1 = upm m 304 32 (iand (m 304 32) x2) → (∀ m2 : MM, m2 = upm m1 304 31 ((m1 304 31) + 1) → (k m2)))) (∃ j5 : Nat, (x3 = (j5 : Int) ∧ j5 < 4) ∧ (bEQ (m 304 31) 0 (∃ j6 : Nat, (x3 = (j6 : Int) ∧ j6 < 4) ∧ (∃ j8 : Nat, (x3 = (j8 : Int) ∧ j8 < 3) ∧ (∀ m7 : MM, m7 = upm m 317 j8 (m 315 j6) → (N G (d + 1) mi_X8_count 13 [some (vr 304), some (vi x1), some (vi (ior x2 (ishl 1 (idiv (m 315 j5) 8)))), some (vi (x3 + 1))] [] m7 (RV k))))) (N G (d + 1) mi_X8_count 13 [some (vr 304), some (vi x1), some (vi (ior x2 (ishl 1 (idiv (m 315 j5) 8)))), some (vi (x3 + 1))] [] m (RV k))))) :
    N G (d + 1) mi_X8_count 13 [some (vr 304), some (vi x1), some (vi x2), some (vi x3)] [] m (RV k) := by
  refine v_iload_n dX8_count_13 rfl rfl ?_
  refine v_iload_n dX8_count_14 rfl rfl ?_
  obtain ⟨⟨r1, r2⟩, hA, hB⟩ := hp
  refine v_icmp_ge (tgt := 57) dX8_count_15 (by decide) r2 r1 (fun q => ?_) (fun q => ?_)
  · have hp := hA q
    refine v_aload_n dX8_count_57 rfl rfl ?_
    refine v_aload_n dX8_count_58 rfl rfl ?_
    refine n_geti dX8_count_59 fo_X8_334 sh_304 rfl ?_
    obtain ⟨⟨r1, r2⟩, hA, hB⟩ := hp
    refine v_if_ne (tgt := 69) dX8_count_62 (by decide) r1 (fun q => ?_) (fun q => ?_)
    · have hp := hB q
      refine v_aload_n dX8_count_69 rfl rfl ?_
      refine n_geti dX8_count_70 fo_X8_337 sh_304 rfl ?_
      refine v_iload_n dX8_count_73 rfl rfl ?_
      refine v_iand dX8_count_74 ?_
      refine w_puti dX8_count_75 fw_X8_337 sh_304 rfl (fun m1 em1 => ?_)
      have hp := hp m1 em1
      refine v_aload_n dX8_count_78 rfl rfl ?_
      refine v_dupr dX8_count_79 ?_
      refine n_geti dX8_count_80 fo_X8_334 sh_304 rfl ?_
      refine v_iconst dX8_count_83 ?_
      refine v_iadd dX8_count_84 ?_
      refine w_puti dX8_count_85 fw_X8_334 sh_304 rfl (fun m2 em2 => ?_)
      have hp := hp m2 em2
      exact n_retV dX8_count_88 rfl hp
    · have hp := hA q
      refine v_iload_n dX8_count_65 rfl rfl ?_
      refine v_goto (tgt := 75) dX8_count_66 (by decide) ?_
      refine w_puti dX8_count_75 fw_X8_337 sh_304 rfl (fun m3 em3 => ?_)
      have hp := hp m3 em3
      refine v_aload_n dX8_count_78 rfl rfl ?_
      refine v_dupr dX8_count_79 ?_
      refine n_geti dX8_count_80 fo_X8_334 sh_304 rfl ?_
      refine v_iconst dX8_count_83 ?_
      refine v_iadd dX8_count_84 ?_
      refine w_puti dX8_count_85 fw_X8_334 sh_304 rfl (fun m4 em4 => ?_)
      have hp := hp m4 em4
      exact n_retV dX8_count_88 rfl hp
  · have hp := hB q
    refine v_iload_n dX8_count_18 rfl rfl ?_
    refine v_iconst dX8_count_19 ?_
    refine v_aload_n dX8_count_20 rfl rfl ?_
    refine n_getr dX8_count_21 fo_X8_49 sh_304 rfl sr_304_28 ?_
    refine v_iload_n dX8_count_24 rfl rfl ?_
    obtain ⟨j5, ⟨ej5, bj5⟩, hp⟩ := hp
    refine n_iald (j := j5) dX8_count_25 sh_315 ej5 bj5 ?_
    refine v_bipush dX8_count_26 rfl ?_
    refine v_idiv dX8_count_28 (by decide) (by decide) ?_
    refine v_ishl dX8_count_29 ?_
    refine v_ior dX8_count_30 ?_
    refine v_istore_n dX8_count_31 rfl (by decide) ?_
    refine v_aload_n dX8_count_32 rfl rfl ?_
    refine n_geti dX8_count_33 fo_X8_334 sh_304 rfl ?_
    obtain ⟨⟨r1, r2⟩, hA, hB⟩ := hp
    refine v_if_ne (tgt := 51) dX8_count_36 (by decide) r1 (fun q => ?_) (fun q => ?_)
    · have hp := hB q
      refine v_iinc dX8_count_51 rfl (by decide) ?_
      refine v_goto (tgt := 13) dX8_count_54 (by decide) ?_
      exact hp
    · have hp := hA q
      refine v_aload_n dX8_count_39 rfl rfl ?_
      refine n_getr dX8_count_40 fo_X8_55 sh_304 rfl sr_304_30 ?_
      refine v_iload_n dX8_count_43 rfl rfl ?_
      refine v_aload_n dX8_count_44 rfl rfl ?_
      refine n_getr dX8_count_45 fo_X8_49 sh_304 rfl sr_304_28 ?_
      refine v_iload_n dX8_count_48 rfl rfl ?_
      obtain ⟨j6, ⟨ej6, bj6⟩, hp⟩ := hp
      refine n_iald (j := j6) dX8_count_49 sh_315 ej6 bj6 ?_
      obtain ⟨j8, ⟨ej8, bj8⟩, hp⟩ := hp
      refine w_iast (j := j8) dX8_count_50 sh_317 ej8 bj8 (fun m7 em7 => ?_)
      have hp := hp m7 em7
      refine v_iinc dX8_count_51 rfl (by decide) ?_
      refine v_goto (tgt := 13) dX8_count_54 (by decide) ?_
      exact hp
theorem g_X8_goThrough_0 {G : GG} {d : Nat} {m : MM} {k : MM → Prop} (x1 : Int) (x2 : Int)
    (hp : ∀ m1 : MM, m1 = upm m 315 0 (-1) → (N G (d + 1) mi_X8_goThrough 9 [some (vr 304), some (vi x1), some (vi x2), some (vi 0)] [] m1 (RV k))) :
    N G (d + 1) mi_X8_goThrough 0 [some (vr 304), some (vi x1), some (vi x2), none] [] m (RV k) := by
  refine v_iconst dX8_goThrough_0 ?_
  refine v_istore_n dX8_goThrough_1 rfl (by decide) ?_
  refine v_aload_n dX8_goThrough_2 rfl rfl ?_
  refine n_getr dX8_goThrough_3 fo_X8_49 sh_304 rfl sr_304_28 ?_
  refine v_iconst dX8_goThrough_6 ?_
  refine v_iconst dX8_goThrough_7 ?_
  refine w_iast (j := 0) dX8_goThrough_8 sh_315 rfl (by decide) (fun m1 em1 => ?_)
  have hp := hp m1 em1
  exact hp
theorem g_X8_goThrough_9 {G : GG} {d : Nat} {m : MM} {k : MM → Prop} (x1 : Int) (x2 : Int) (x3 : Int)
    (hp : bLT x3 0 (k m) (∃ j1 : Nat, (x3 = (j1 : Int) ∧ j1 < 4) ∧ (∃ j3 : Nat, (x3 = (j3 : Int) ∧ j3 < 4) ∧ (∀ m2 : MM, m2 = upm m 315 j3 ((m 315 j1) + 1) → (∃ j4 : Nat, (x3 = (j4 : Int) ∧ j4 < 4) ∧ (bLT (m2 315 j4) (8 * (m2 304 3)) (∃ j5 : Nat, (x3 = (j5 : Int) ∧ j5 < 4) ∧ (bLT (irem (m2 315 j5) 8) (m2 305 0) (N G d mi_X8_goOn 0 [some (vr 304), some (vi x1), some (vi x3), none, none, none, none] [] m2 (RV fun m7 => bLE x2 (x3 + 1) (N G d mi_X8_count 0 [some (vr 304), some (vi x2), none, none] [] m7 (RV fun m9 => N G (d + 1) mi_X8_goThrough 9 [some (vr 304), some (vi x1), some (vi x2), some (vi x3)] [] m9 (RV k))) (∃ j11 : Nat, ((x3 + 1) = (j11 : Int) ∧ j11 < 4) ∧ (∀ m10 : MM, m10 = upm m7 315 j11 (-1) → (N G (d + 1) mi_X8_goThrough 9 [some (vr 304), some (vi x1), some (vi x2), some (vi (x3 + 1))] [] m10 (RV k)))))) (N G (d + 1) mi_X8_goThrough 9 [some (vr 304), some (vi x1), some (vi x2), some (vi x3)] [] m2 (RV k)))) (N G (d + 1) mi_X8_goThrough 9 [some (vr 304), some (vi x1), some (vi x2), some (vi (x3 + (-1)))] [] m2 (RV k)))))))) :
    N G (d + 1) mi_X8_goThrough 9 [some (vr 304), some (vi x1), some (vi x2), some (vi x3)] [] m (RV k) := by
  refine v_iload_n dX8_goThrough_9 rfl rfl ?_
  obtain ⟨⟨r1, r2⟩, hA, hB⟩ := hp
  refine v_if_lt (tgt := 100) dX8_goThrough_10 (by decide) r1 (fun q => ?_) (fun q => ?_)
  · have hp := hA q
    exact n_retV dX8_goThrough_100 rfl hp
  · have hp := hB q
    refine v_aload_n dX8_goThrough_13 rfl rfl ?_
    refine n_getr dX8_goThrough_14 fo_X8_49 sh_304 rfl sr_304_28 ?_
    refine v_iload_n dX8_goThrough_17 rfl rfl ?_
    refine v_dup2ir dX8_goThrough_18 ?_
    obtain ⟨j1, ⟨ej1, bj1⟩, hp⟩ := hp
    refine n_iald (j := j1) dX8_goThrough_19 sh_315 ej1 bj1 ?_
    refine v_iconst dX8_goThrough_20 ?_
    refine v_iadd dX8_goThrough_21 ?_
    obtain ⟨j3, ⟨ej3, bj3⟩, hp⟩ := hp
    refine w_iast (j := j3) dX8_goThrough_22 sh_315 ej3 bj3 (fun m2 em2 => ?_)
    have hp := hp m2 em2
    refine v_aload_n dX8_goThrough_23 rfl rfl ?_
    refine n_getr dX8_goThrough_24 fo_X8_49 sh_304 rfl sr_304_28 ?_
    refine v_iload_n dX8_goThrough_27 rfl rfl ?_
    obtain ⟨j4, ⟨ej4, bj4⟩, hp⟩ := hp
    refine n_iald (j := j4) dX8_goThrough_28 sh_315 ej4 bj4 ?_
    refine v_bipush dX8_goThrough_29 rfl ?_
    refine v_aload_n dX8_goThrough_31 rfl rfl ?_
    refine n_geti dX8_goThrough_32 fo_X8_58 sh_304 rfl ?_
    refine v_imul dX8_goThrough_35 ?_
    obtain ⟨⟨r1, r2⟩, hA, hB⟩ := hp
    refine v_icmp_lt (tgt := 45) dX8_goThrough_36 (by decide) r1 r2 (fun q => ?_) (fun q => ?_)
    · have hp := hA q
      refine v_aload_n dX8_goThrough_45 rfl rfl ?_
      refine n_getr dX8_goThrough_46 fo_X8_49 sh_304 rfl sr_304_28 ?_
      refine v_iload_n dX8_goThrough_49 rfl rfl ?_
      obtain ⟨j5, ⟨ej5, bj5⟩, hp⟩ := hp
      refine n_iald (j := j5) dX8_goThrough_50 sh_315 ej5 bj5 ?_
      refine v_bipush dX8_goThrough_51 rfl ?_
      refine w_irem dX8_goThrough_53 (by decide) (by decide) ?_
      refine v_aload_n dX8_goThrough_54 rfl rfl ?_
      refine n_getr dX8_goThrough_55 fo_X8_7 sh_304 rfl sr_304_0 ?_
      refine v_iconst dX8_goThrough_58 ?_
      refine n_iald (j := 0) dX8_goThrough_59 sh_305 rfl (by decide) ?_
      obtain ⟨⟨r1, r2⟩, hA, hB⟩ := hp
      refine v_icmp_lt (tgt := 66) dX8_goThrough_60 (by decide) r1 r2 (fun q => ?_) (fun q => ?_)
      · have hp := hA q
        refine v_aload_n dX8_goThrough_66 rfl rfl ?_
        refine v_iload_n dX8_goThrough_67 rfl rfl ?_
        refine v_iload_n dX8_goThrough_68 rfl rfl ?_
        refine n_callVV (As := [vi x1, vi x3]) (st := []) dX8_goThrough_69 ml_X8_340 mo_X8_goOn mv_X8_goOn sh_304 rfl rfl rfl rfl (Nat.le_of_ble_eq_true rfl) (Nat.le_of_ble_eq_true rfl) (by decide) hp (fun m7 hp => ?_)
        refine v_iload_n dX8_goThrough_72 rfl rfl ?_
        refine v_iconst dX8_goThrough_73 ?_
        refine v_iadd dX8_goThrough_74 ?_
        refine v_iload_n dX8_goThrough_75 rfl rfl ?_
        obtain ⟨⟨r1, r2⟩, hA, hB⟩ := hp
        refine v_icmp_ge (tgt := 92) dX8_goThrough_76 (by decide) r2 r1 (fun q => ?_) (fun q => ?_)
        · have hp := hA q
          refine v_aload_n dX8_goThrough_92 rfl rfl ?_
          refine v_iload_n dX8_goThrough_93 rfl rfl ?_
          refine n_callVV (As := [vi x2]) (st := []) dX8_goThrough_94 ml_X8_343 mo_X8_count mv_X8_count sh_304 rfl rfl rfl rfl (Nat.le_of_ble_eq_true rfl) (Nat.le_of_ble_eq_true rfl) (by decide) hp (fun m9 hp => ?_)
          refine v_goto (tgt := 9) dX8_goThrough_97 (by decide) ?_
          exact hp
        · have hp := hB q
          refine v_iinc dX8_goThrough_79 rfl (by decide) ?_
          refine v_aload_n dX8_goThrough_82 rfl rfl ?_
          refine n_getr dX8_goThrough_83 fo_X8_49 sh_304 rfl sr_304_28 ?_
          refine v_iload_n dX8_goThrough_86 rfl rfl ?_
          refine v_iconst dX8_goThrough_87 ?_
          obtain ⟨j11, ⟨ej11, bj11⟩, hp⟩ := hp
          refine w_iast (j := j11) dX8_goThrough_88 sh_315 ej11 bj11 (fun m10 em10 => ?_)
          have hp := hp m10 em10
          refine v_goto (tgt := 9) dX8_goThrough_89 (by decide) ?_
          exact hp
      · have hp := hB q
        refine v_goto (tgt := 9) dX8_goThrough_63 (by decide) ?_
        exact hp
    · have hp := hB q
      refine v_iinc dX8_goThrough_39 rfl (by decide) ?_
      refine v_goto (tgt := 9) dX8_goThrough_42 (by decide) ?_
      exact hp
theorem g_X8_how_0 {G : GG} {d : Nat} {m : MM} {k : Int → MM → Prop} (x1 : Int) (x2 : Int) (x3 : Int)
    (hp : N G d mi_X8_isEye 0 [some (vr 304), some (vi x1)] [] m (RI fun z1 m2 => bEQ z1 0 (k (-3) m2) (N G d mi_X8_isIn 0 [some (vi x2), some (vi 0), some (vi 3)] [] m2 (RI fun z3 m4 => bEQ z3 0 (k (-3) m4) (bLE (-2) x3 (∀ m5 : MM, m5 = upm m4 304 31 0 → (∀ m6 : MM, m6 = upm m5 304 32 0 → (N G (d + 1) mi_X8_how 39 [some (vr 304), some (vi x1), some (vi x2), some (vi x3), some (vi 0)] [] m6 (RI k)))) (k (-3) m4)))))) :
    N G (d + 1) mi_X8_how 0 [some (vr 304), some (vi x1), some (vi x2), some (vi x3), none] [] m (RI k) := by
  refine v_aload_n dX8_how_0 rfl rfl ?_
  refine v_iload_n dX8_how_1 rfl rfl ?_
  refine n_callVI (As := [vi x1]) (st := []) dX8_how_2 ml_X8_278 mo_X8_isEye mv_X8_isEye sh_304 rfl rfl rfl rfl (Nat.le_of_ble_eq_true rfl) (Nat.le_of_ble_eq_true rfl) (by decide) hp (fun z1 m2 hp => ?_)
  obtain ⟨⟨r1, r2⟩, hA, hB⟩ := hp
  refine v_if_eq (tgt := 23) dX8_how_5 (by decide) r1 (fun q => ?_) (fun q => ?_)
  · have hp := hA q
    refine v_bipush dX8_how_23 rfl ?_
    exact n_retI dX8_how_25 rfl hp
  · have hp := hB q
    refine v_iload_n dX8_how_8 rfl rfl ?_
    refine v_iconst dX8_how_9 ?_
    refine v_iconst dX8_how_10 ?_
    refine n_callSI (As := [vi x2, vi 0, vi 3]) (st := []) dX8_how_11 ml_X8_69 mo_X8_isIn ms_X8_isIn rfl rfl (Nat.le_of_ble_eq_true rfl) (Nat.le_of_ble_eq_true rfl) (by decide) hp (fun z3 m4 hp => ?_)
    obtain ⟨⟨r1, r2⟩, hA, hB⟩ := hp
    refine v_if_eq (tgt := 23) dX8_how_14 (by decide) r1 (fun q => ?_) (fun q => ?_)
    · have hp := hA q
      refine v_bipush dX8_how_23 rfl ?_
      exact n_retI dX8_how_25 rfl hp
    · have hp := hB q
      refine v_iload_n dX8_how_17 rfl rfl ?_
      refine v_bipush dX8_how_18 rfl ?_
      obtain ⟨⟨r1, r2⟩, hA, hB⟩ := hp
      refine v_icmp_ge (tgt := 26) dX8_how_20 (by decide) r2 r1 (fun q => ?_) (fun q => ?_)
      · have hp := hA q
        refine v_aload_n dX8_how_26 rfl rfl ?_
        refine v_iconst dX8_how_27 ?_
        refine w_puti dX8_how_28 fw_X8_334 sh_304 rfl (fun m5 em5 => ?_)
        have hp := hp m5 em5
        refine v_aload_n dX8_how_31 rfl rfl ?_
        refine v_iconst dX8_how_32 ?_
        refine w_puti dX8_how_33 fw_X8_337 sh_304 rfl (fun m6 em6 => ?_)
        have hp := hp m6 em6
        refine v_iconst dX8_how_36 ?_
        refine v_istore dX8_how_37 (by decide) ?_
        exact hp
      · have hp := hB q
        refine v_bipush dX8_how_23 rfl ?_
        exact n_retI dX8_how_25 rfl hp
theorem g_X8_how_39 {G : GG} {d : Nat} {m : MM} {k : Int → MM → Prop} (x1 : Int) (x2 : Int) (x3 : Int) (x4 : Int)
    (hp : bLE 4 x4 (bEQ x2 0 (N G d mi_X8_count 0 [some (vr 304), some (vi 0), none, none] [] m (RV fun m4 => N G (d + 1) mi_X8_how 99 [some (vr 304), none, some (vi x2), some (vi x3), none] [] m4 (RI k))) (bLT 999 ((m 305 2) + x2) (N G (d + 1) mi_X8_how 99 [some (vr 304), none, some (vi x2), some (vi x3), none] [] m (RI k)) (N G d mi_X8_goThrough 0 [some (vr 304), some (vi x1), some (vi x2), none] [] m (RV fun m2 => N G (d + 1) mi_X8_how 99 [some (vr 304), none, some (vi x2), some (vi x3), none] [] m2 (RI k))))) (N G d mi_X8_get 0 [some (vr 304), some (vi x1), some (vi (4 + x4))] [] m (RI fun z5 m6 => ∃ j8 : Nat, (x4 = (j8 : Int) ∧ j8 < 16) ∧ (∀ m7 : MM, m7 = upm m6 316 j8 z5 → (N G (d + 1) mi_X8_how 39 [some (vr 304), some (vi x1), some (vi x2), some (vi x3), some (vi (x4 + 1))] [] m7 (RI k)))))) :
    N G (d + 1) mi_X8_how 39 [some (vr 304), some (vi x1), some (vi x2), some (vi x3), some (vi x4)] [] m (RI k) := by
  refine v_iload dX8_how_39 rfl ?_
  refine v_iconst dX8_how_41 ?_
  obtain ⟨⟨r1, r2⟩, hA, hB⟩ := hp
  refine v_icmp_ge (tgt := 67) dX8_how_42 (by decide) r2 r1 (fun q => ?_) (fun q => ?_)
  · have hp := hA q
    refine v_iload_n dX8_how_67 rfl rfl ?_
    obtain ⟨⟨r1, r2⟩, hA, hB⟩ := hp
    refine v_if_ne (tgt := 79) dX8_how_68 (by decide) r1 (fun q => ?_) (fun q => ?_)
    · have hp := hB q
      refine v_aload_n dX8_how_79 rfl rfl ?_
      refine n_getr dX8_how_80 fo_X8_7 sh_304 rfl sr_304_0 ?_
      refine v_iconst dX8_how_83 ?_
      refine n_iald (j := 2) dX8_how_84 sh_305 rfl (by decide) ?_
      refine v_iload_n dX8_how_85 rfl rfl ?_
      refine v_iadd dX8_how_86 ?_
      refine v_sipush dX8_how_87 rfl ?_
      obtain ⟨⟨r1, r2⟩, hA, hB⟩ := hp
      refine v_icmp_gt (tgt := 99) dX8_how_90 (by decide) r2 r1 (fun q => ?_) (fun q => ?_)
      · have hp := hA q
        exact n_weak (wk_s (wk_n (wk_s (wk_s (wk_n wk_nil))))) hp
      · have hp := hB q
        refine v_aload_n dX8_how_93 rfl rfl ?_
        refine v_iload_n dX8_how_94 rfl rfl ?_
        refine v_iload_n dX8_how_95 rfl rfl ?_
        refine n_callVV (As := [vi x1, vi x2]) (st := []) dX8_how_96 ml_X8_346 mo_X8_goThrough mv_X8_goThrough sh_304 rfl rfl rfl rfl (Nat.le_of_ble_eq_true rfl) (Nat.le_of_ble_eq_true rfl) (by decide) hp (fun m2 hp => ?_)
        exact n_weak (wk_s (wk_n (wk_s (wk_s (wk_n wk_nil))))) hp
    · have hp := hA q
      refine v_aload_n dX8_how_71 rfl rfl ?_
      refine v_iconst dX8_how_72 ?_
      refine n_callVV (As := [vi 0]) (st := []) dX8_how_73 ml_X8_343 mo_X8_count mv_X8_count sh_304 rfl rfl rfl rfl (Nat.le_of_ble_eq_true rfl) (Nat.le_of_ble_eq_true rfl) (by decide) hp (fun m4 hp => ?_)
      refine v_goto (tgt := 99) dX8_how_76 (by decide) ?_
      exact n_weak (wk_s (wk_n (wk_s (wk_s (wk_n wk_nil))))) hp
  · have hp := hB q
    refine v_aload_n dX8_how_45 rfl rfl ?_
    refine n_getr dX8_how_46 fo_X8_52 sh_304 rfl sr_304_29 ?_
    refine v_iload dX8_how_49 rfl ?_
    refine v_aload_n dX8_how_51 rfl rfl ?_
    refine v_iload_n dX8_how_52 rfl rfl ?_
    refine v_iconst dX8_how_53 ?_
    refine v_iload dX8_how_54 rfl ?_
    refine v_iadd dX8_how_56 ?_
    refine n_callVI (As := [vi x1, vi (4 + x4)]) (st := [vi x4, vr 316]) dX8_how_57 ml_X8_77 mo_X8_get mv_X8_get sh_304 rfl rfl rfl rfl (Nat.le_of_ble_eq_true rfl) (Nat.le_of_ble_eq_true rfl) (by decide) hp (fun z5 m6 hp => ?_)
    obtain ⟨j8, ⟨ej8, bj8⟩, hp⟩ := hp
    refine w_iast (j := j8) dX8_how_60 sh_316 ej8 bj8 (fun m7 em7 => ?_)
    have hp := hp m7 em7
    refine v_iinc dX8_how_61 rfl (by decide) ?_
    refine v_goto (tgt := 39) dX8_how_64 (by decide) ?_
    exact hp
theorem g_X8_how_99 {G : GG} {d : Nat} {m : MM} {k : Int → MM → Prop} (x2 : Int) (x3 : Int)
    (hp : bEQ x3 (-1) (k (m 304 31) m) (bEQ x3 (-2) (k (m 304 32) m) (bLE (m 304 31) 0 (k (-3) m) (bLE x2 x3 (k (-3) m) (∃ j1 : Nat, (x3 = (j1 : Int) ∧ j1 < 3) ∧ (k (m 317 j1) m)))))) :
    N G (d + 1) mi_X8_how 99 [some (vr 304), none, some (vi x2), some (vi x3), none] [] m (RI k) := by
  refine v_iload_n dX8_how_99 rfl rfl ?_
  refine v_iconst dX8_how_100 ?_
  obtain ⟨⟨r1, r2⟩, hA, hB⟩ := hp
  refine v_icmp_ne (tgt := 111) dX8_how_101 (by decide) r1 r2 (fun q => ?_) (fun q => ?_)
  · have hp := hB q
    refine v_iload_n dX8_how_111 rfl rfl ?_
    refine v_bipush dX8_how_112 rfl ?_
    obtain ⟨⟨r1, r2⟩, hA, hB⟩ := hp
    refine v_icmp_ne (tgt := 124) dX8_how_114 (by decide) r1 r2 (fun q => ?_) (fun q => ?_)
    · have hp := hB q
      refine v_aload_n dX8_how_124 rfl rfl ?_
      refine n_geti dX8_how_125 fo_X8_334 sh_304 rfl ?_
      obtain ⟨⟨r1, r2⟩, hA, hB⟩ := hp
      refine v_if_le (tgt := 145) dX8_how_128 (by decide) r1 (fun q => ?_) (fun q => ?_)
      · have hp := hA q
        refine v_bipush dX8_how_145 rfl ?_
        exact n_retI dX8_how_147 rfl hp
      · have hp := hB q
        refine v_iload_n dX8_how_131 rfl rfl ?_
        refine v_iload_n dX8_how_132 rfl rfl ?_
        obtain ⟨⟨r1, r2⟩, hA, hB⟩ := hp
        refine v_icmp_ge (tgt := 145) dX8_how_133 (by decide) r2 r1 (fun q => ?_) (fun q => ?_)
        · have hp := hA q
          refine v_bipush dX8_how_145 rfl ?_
          exact n_retI dX8_how_147 rfl hp
        · have hp := hB q
          refine v_aload_n dX8_how_136 rfl rfl ?_
          refine n_getr dX8_how_137 fo_X8_55 sh_304 rfl sr_304_30 ?_
          refine v_iload_n dX8_how_140 rfl rfl ?_
          obtain ⟨j1, ⟨ej1, bj1⟩, hp⟩ := hp
          refine n_iald (j := j1) dX8_how_141 sh_317 ej1 bj1 ?_
          refine v_goto (tgt := 147) dX8_how_142 (by decide) ?_
          exact n_retI dX8_how_147 rfl hp
    · have hp := hA q
      refine v_aload_n dX8_how_117 rfl rfl ?_
      refine n_geti dX8_how_118 fo_X8_337 sh_304 rfl ?_
      refine v_goto (tgt := 147) dX8_how_121 (by decide) ?_
      exact n_retI dX8_how_147 rfl hp
  · have hp := hA q
    refine v_aload_n dX8_how_104 rfl rfl ?_
    refine n_geti dX8_how_105 fo_X8_334 sh_304 rfl ?_
    refine v_goto (tgt := 147) dX8_how_108 (by decide) ?_
    exact n_retI dX8_how_147 rfl hp
theorem g_X8_isSupper_0 {G : GG} {d : Nat} {m : MM} {k : Int → MM → Prop} (x1 : Int) (x2 : Int) (x3 : Int) (x4 : Int)
    (hp : N G d mi_X8_copy 0 [some (vr 305), some (vr 307), none] [] m (RV fun m2 => N G d mi_X8_exchange 0 [some (vr 304), some (vi x3), some (vi x4), none] [] m2 (RV fun m4 => N G d mi_X8_tellOn 0 [some (vr 304), some (vi x1), none, none] [] m4 (RV fun m6 => N G (d + 1) mi_X8_isSupper 29 [some (vr 304), none, some (vi x2), none, none, some (vi 1), some (vi 0)] [] m6 (RI k))))) :
    N G (d + 1) mi_X8_isSupper 0 [some (vr 304), some (vi x1), some (vi x2), some (vi x3), some (vi x4), none, none] [] m (RI k) := by
  refine v_aload_n dX8_isSupper_0 rfl rfl ?_
  refine n_getr dX8_isSupper_1 fo_X8_7 sh_304 rfl sr_304_0 ?_
  refine v_aload_n dX8_isSupper_4 rfl rfl ?_
  refine n_getr dX8_isSupper_5 fo_X8_16 sh_304 rfl sr_304_2 ?_
  refine n_callSV (As := [vr 305, vr 307]) (st := []) dX8_isSupper_8 ml_X8_65 mo_X8_copy ms_X8_copy rfl rfl (Nat.le_of_ble_eq_true rfl) (Nat.le_of_ble_eq_true rfl) (by decide) hp (fun m2 hp => ?_)
  refine v_aload_n dX8_isSupper_11 rfl rfl ?_
  refine v_iload_n dX8_isSupper_12 rfl rfl ?_
  refine v_iload dX8_isSupper_13 rfl ?_
  refine n_callVV (As := [vi x3, vi x4]) (st := []) dX8_isSupper_15 ml_X8_290 mo_X8_exchange mv_X8_exchange sh_304 rfl rfl rfl rfl (Nat.le_of_ble_eq_true rfl) (Nat.le_of_ble_eq_true rfl) (by decide) hp (fun m4 hp => ?_)
  refine v_aload_n dX8_isSupper_18 rfl rfl ?_
  refine v_iload_n dX8_isSupper_19 rfl rfl ?_
  refine n_callVV (As := [vi x1]) (st := []) dX8_isSupper_20 ml_X8_312 mo_X8_tellOn mv_X8_tellOn sh_304 rfl rfl rfl rfl (Nat.le_of_ble_eq_true rfl) (Nat.le_of_ble_eq_true rfl) (by decide) hp (fun m6 hp => ?_)
  refine v_iconst dX8_isSupper_23 ?_
  refine v_istore dX8_isSupper_24 (by decide) ?_
  refine v_iconst dX8_isSupper_26 ?_
  refine v_istore dX8_isSupper_27 (by decide) ?_
  exact n_weak (wk_s (wk_n (wk_s (wk_n (wk_n (wk_s (wk_s wk_nil))))))) hp
theorem g_X8_isSupper_29 {G : GG} {d : Nat} {m : MM} {k : Int → MM → Prop} (x2 : Int) (x5 : Int) (x6 : Int)
    (hp : bLE 4 x6 (N G d mi_X8_copy 0 [some (vr 307), some (vr 305), none] [] m (RV fun m2 => (x5 = 0 ∨ x5 = 1) ∧ (k x5 m2))) (bEQ x5 0 (N G (d + 1) mi_X8_isSupper 29 [some (vr 304), none, some (vi x2), none, none, some (vi 0), some (vi (x6 + 1))] [] m (RI k)) (N G d mi_X8_get 0 [some (vr 304), some (vi x2), some (vi (4 + x6))] [] m (RI fun z3 m4 => N G d mi_X8_shownAt 0 [some (vr 304), some (vi x6)] [] m4 (RI fun z5 m6 => bEQ z3 z5 (N G (d + 1) mi_X8_isSupper 29 [some (vr 304), none, some (vi x2), none, none, some (vi 1), some (vi (x6 + 1))] [] m6 (RI k)) (N G (d + 1) mi_X8_isSupper 29 [some (vr 304), none, some (vi x2), none, none, some (vi 0), some (vi (x6 + 1))] [] m6 (RI k))))))) :
    N G (d + 1) mi_X8_isSupper 29 [some (vr 304), none, some (vi x2), none, none, some (vi x5), some (vi x6)] [] m (RI k) := by
  refine v_iload dX8_isSupper_29 rfl ?_
  refine v_iconst dX8_isSupper_31 ?_
  obtain ⟨⟨r1, r2⟩, hA, hB⟩ := hp
  refine v_icmp_ge (tgt := 71) dX8_isSupper_32 (by decide) r2 r1 (fun q => ?_) (fun q => ?_)
  · have hp := hA q
    refine v_aload_n dX8_isSupper_71 rfl rfl ?_
    refine n_getr dX8_isSupper_72 fo_X8_16 sh_304 rfl sr_304_2 ?_
    refine v_aload_n dX8_isSupper_75 rfl rfl ?_
    refine n_getr dX8_isSupper_76 fo_X8_7 sh_304 rfl sr_304_0 ?_
    refine n_callSV (As := [vr 307, vr 305]) (st := []) dX8_isSupper_79 ml_X8_65 mo_X8_copy ms_X8_copy rfl rfl (Nat.le_of_ble_eq_true rfl) (Nat.le_of_ble_eq_true rfl) (by decide) hp (fun m2 hp => ?_)
    refine v_iload dX8_isSupper_82 rfl ?_
    exact n_retZ dX8_isSupper_84 rfl hp.1 hp.2
  · have hp := hB q
    refine v_iload dX8_isSupper_35 rfl ?_
    obtain ⟨⟨r1, r2⟩, hA, hB⟩ := hp
    refine v_if_eq (tgt := 62) dX8_isSupper_37 (by decide) r1 (fun q => ?_) (fun q => ?_)
    · have hp := hA q
      refine v_iconst dX8_isSupper_62 ?_
      refine v_istore dX8_isSupper_63 (by decide) ?_
      refine v_iinc dX8_isSupper_65 rfl (by decide) ?_
      refine v_goto (tgt := 29) dX8_isSupper_68 (by decide) ?_
      exact hp
    · have hp := hB q
      refine v_aload_n dX8_isSupper_40 rfl rfl ?_
      refine v_iload_n dX8_isSupper_41 rfl rfl ?_
      refine v_iconst dX8_isSupper_42 ?_
      refine v_iload dX8_isSupper_43 rfl ?_
      refine v_iadd dX8_isSupper_45 ?_
      refine n_callVI (As := [vi x2, vi (4 + x6)]) (st := []) dX8_isSupper_46 ml_X8_77 mo_X8_get mv_X8_get sh_304 rfl rfl rfl rfl (Nat.le_of_ble_eq_true rfl) (Nat.le_of_ble_eq_true rfl) (by decide) hp (fun z3 m4 hp => ?_)
      refine v_aload_n dX8_isSupper_49 rfl rfl ?_
      refine v_iload dX8_isSupper_50 rfl ?_
      refine n_callVI (As := [vi x6]) (st := [vi z3]) dX8_isSupper_52 ml_X8_328 mo_X8_shownAt mv_X8_shownAt sh_304 rfl rfl rfl rfl (Nat.le_of_ble_eq_true rfl) (Nat.le_of_ble_eq_true rfl) (by decide) hp (fun z5 m6 hp => ?_)
      obtain ⟨⟨r1, r2⟩, hA, hB⟩ := hp
      refine v_icmp_ne (tgt := 62) dX8_isSupper_55 (by decide) r1 r2 (fun q => ?_) (fun q => ?_)
      · have hp := hB q
        refine v_iconst dX8_isSupper_62 ?_
        refine v_istore dX8_isSupper_63 (by decide) ?_
        refine v_iinc dX8_isSupper_65 rfl (by decide) ?_
        refine v_goto (tgt := 29) dX8_isSupper_68 (by decide) ?_
        exact hp
      · have hp := hA q
        refine v_iconst dX8_isSupper_58 ?_
        refine v_goto (tgt := 63) dX8_isSupper_59 (by decide) ?_
        refine v_istore dX8_isSupper_63 (by decide) ?_
        refine v_iinc dX8_isSupper_65 rfl (by decide) ?_
        refine v_goto (tgt := 29) dX8_isSupper_68 (by decide) ?_
        exact hp
theorem g_X8_supper_0 {G : GG} {d : Nat} {m : MM} {k : Int → MM → Prop} (x1 : Int) (x2 : Int) (x3 : Int)
    (hp : N G d mi_X8_isText 0 [some (vr 304), some (vi x1)] [] m (RI fun z1 m2 => bEQ z1 0 (k (-1) m2) (N G d mi_X8_isEye 0 [some (vr 304), some (vi x2)] [] m2 (RI fun z3 m4 => bEQ z3 0 (k (-1) m4) (bLE (-1) x3 (N G (d + 1) mi_X8_supper 29 [some (vr 304), some (vi x1), some (vi x2), some (vi x3), some (vi 0), some (vi 0), none] [] m4 (RI k)) (k (-1) m4)))))) :
    N G (d + 1) mi_X8_supper 0 [some (vr 304), some (vi x1), some (vi x2), some (vi x3), none, none, none] [] m (RI k) := by
  refine v_aload_n dX8_supper_0 rfl rfl ?_
  refine v_iload_n dX8_supper_1 rfl rfl ?_
  refine n_callVI (As := [vi x1]) (st := []) dX8_supper_2 ml_X8_229 mo_X8_isText mv_X8_isText sh_304 rfl rfl rfl rfl (Nat.le_of_ble_eq_true rfl) (Nat.le_of_ble_eq_true rfl) (by decide) hp (fun z1 m2 hp => ?_)
  obtain ⟨⟨r1, r2⟩, hA, hB⟩ := hp
  refine v_if_eq (tgt := 21) dX8_supper_5 (by decide) r1 (fun q => ?_) (fun q => ?_)
  · have hp := hA q
    refine v_iconst dX8_supper_21 ?_
    exact n_retI dX8_supper_22 rfl hp
  · have hp := hB q
    refine v_aload_n dX8_supper_8 rfl rfl ?_
    refine v_iload_n dX8_supper_9 rfl rfl ?_
    refine n_callVI (As := [vi x2]) (st := []) dX8_supper_10 ml_X8_278 mo_X8_isEye mv_X8_isEye sh_304 rfl rfl rfl rfl (Nat.le_of_ble_eq_true rfl) (Nat.le_of_ble_eq_true rfl) (by decide) hp (fun z3 m4 hp => ?_)
    obtain ⟨⟨r1, r2⟩, hA, hB⟩ := hp
    refine v_if_eq (tgt := 21) dX8_supper_13 (by decide) r1 (fun q => ?_) (fun q => ?_)
    · have hp := hA q
      refine v_iconst dX8_supper_21 ?_
      exact n_retI dX8_supper_22 rfl hp
    · have hp := hB q
      refine v_iload_n dX8_supper_16 rfl rfl ?_
      refine v_iconst dX8_supper_17 ?_
      obtain ⟨⟨r1, r2⟩, hA, hB⟩ := hp
      refine v_icmp_ge (tgt := 23) dX8_supper_18 (by decide) r2 r1 (fun q => ?_) (fun q => ?_)
      · have hp := hA q
        refine v_iconst dX8_supper_23 ?_
        refine v_istore dX8_supper_24 (by decide) ?_
        refine v_iconst dX8_supper_26 ?_
        refine v_istore dX8_supper_27 (by decide) ?_
        exact hp
      · have hp := hB q
        refine v_iconst dX8_supper_21 ?_
        exact n_retI dX8_supper_22 rfl hp
theorem g_X8_supper_29 {G : GG} {d : Nat} {m : MM} {k : Int → MM → Prop} (x1 : Int) (x2 : Int) (x3 : Int) (x4 : Int) (x5 : Int)
    (hp : bLE (m 305 1) x5 (bEQ x3 (-1) (k x4 m) (k (-1) m)) (N G (d + 1) mi_X8_supper 46 [some (vr 304), some (vi x1), some (vi x2), some (vi x3), some (vi x4), some (vi x5), some (vi (x5 + 1))] [] m (RI k))) :
    N G (d + 1) mi_X8_supper 29 [some (vr 304), some (vi x1), some (vi x2), some (vi x3), some (vi x4), some (vi x5), none] [] m (RI k) := by
  refine v_iload dX8_supper_29 rfl ?_
  refine v_aload_n dX8_supper_31 rfl rfl ?_
  refine n_getr dX8_supper_32 fo_X8_7 sh_304 rfl sr_304_0 ?_
  refine v_iconst dX8_supper_35 ?_
  refine n_iald (j := 1) dX8_supper_36 sh_305 rfl (by decide) ?_
  obtain ⟨⟨r1, r2⟩, hA, hB⟩ := hp
  refine v_icmp_ge (tgt := 103) dX8_supper_37 (by decide) r2 r1 (fun q => ?_) (fun q => ?_)
  · have hp := hA q
    refine v_iload_n dX8_supper_103 rfl rfl ?_
    refine v_iconst dX8_supper_104 ?_
    obtain ⟨⟨r1, r2⟩, hA, hB⟩ := hp
    refine v_icmp_ne (tgt := 113) dX8_supper_105 (by decide) r1 r2 (fun q => ?_) (fun q => ?_)
    · have hp := hB q
      refine v_iconst dX8_supper_113 ?_
      exact n_retI dX8_supper_114 rfl hp
    · have hp := hA q
      refine v_iload dX8_supper_108 rfl ?_
      refine v_goto (tgt := 114) dX8_supper_110 (by decide) ?_
      exact n_retI dX8_supper_114 rfl hp
  · have hp := hB q
    refine v_iload dX8_supper_40 rfl ?_
    refine v_iconst dX8_supper_42 ?_
    refine v_iadd dX8_supper_43 ?_
    refine v_istore dX8_supper_44 (by decide) ?_
    exact hp
theorem g_X8_supper_46 {G : GG} {d : Nat} {m : MM} {k : Int → MM → Prop} (x1 : Int) (x2 : Int) (x3 : Int) (x4 : Int) (x5 : Int) (x6 : Int)
    (hp : bLE (m 305 1) x6 (N G (d + 1) mi_X8_supper 29 [some (vr 304), some (vi x1), some (vi x2), some (vi x3), some (vi x4), some (vi (x5 + 1)), none] [] m (RI k)) (N G d mi_X8_isSupper 0 [some (vr 304), some (vi x1), some (vi x2), some (vi x5), some (vi x6), none, none] [] m (RI fun z1 m2 => bEQ z1 0 (N G (d + 1) mi_X8_supper 46 [some (vr 304), some (vi x1), some (vi x2), some (vi x3), some (vi x4), some (vi x5), some (vi (x6 + 1))] [] m2 (RI k)) (bEQ x4 x3 (k ((8 * x5) + x6) m2) (N G (d + 1) mi_X8_supper 46 [some (vr 304), some (vi x1), some (vi x2), some (vi x3), some (vi (x4 + 1)), some (vi x5), some (vi (x6 + 1))] [] m2 (RI k)))))) :
    N G (d + 1) mi_X8_supper 46 [some (vr 304), some (vi x1), some (vi x2), some (vi x3), some (vi x4), some (vi x5), some (vi x6)] [] m (RI k) := by
  refine v_iload dX8_supper_46 rfl ?_
  refine v_aload_n dX8_supper_48 rfl rfl ?_
  refine n_getr dX8_supper_49 fo_X8_7 sh_304 rfl sr_304_0 ?_
  refine v_iconst dX8_supper_52 ?_
  refine n_iald (j := 1) dX8_supper_53 sh_305 rfl (by decide) ?_
  obtain ⟨⟨r1, r2⟩, hA, hB⟩ := hp
  refine v_icmp_ge (tgt := 97) dX8_supper_54 (by decide) r2 r1 (fun q => ?_) (fun q => ?_)
  · have hp := hA q
    refine v_iinc dX8_supper_97 rfl (by decide) ?_
    refine v_goto (tgt := 29) dX8_supper_100 (by decide) ?_
    exact n_weak (wk_s (wk_s (wk_s (wk_s (wk_s (wk_s (wk_n wk_nil))))))) hp
  · have hp := hB q
    refine v_aload_n dX8_supper_57 rfl rfl ?_
    refine v_iload_n dX8_supper_58 rfl rfl ?_
    refine v_iload_n dX8_supper_59 rfl rfl ?_
    refine v_iload dX8_supper_60 rfl ?_
    refine v_iload dX8_supper_62 rfl ?_
    refine n_callVI (As := [vi x1, vi x2, vi x5, vi x6]) (st := []) dX8_supper_64 ml_X8_349 mo_X8_isSupper mv_X8_isSupper sh_304 rfl rfl rfl rfl (Nat.le_of_ble_eq_true rfl) (Nat.le_of_ble_eq_true rfl) (by decide) hp (fun z1 m2 hp => ?_)
    obtain ⟨⟨r1, r2⟩, hA, hB⟩ := hp
    refine v_if_ne (tgt := 73) dX8_supper_67 (by decide) r1 (fun q => ?_) (fun q => ?_)
    · have hp := hB q
      refine v_iload dX8_supper_73 rfl ?_
      refine v_iload_n dX8_supper_75 rfl rfl ?_
      obtain ⟨⟨r1, r2⟩, hA, hB⟩ := hp
      refine v_icmp_ne (tgt := 88) dX8_supper_76 (by decide) r1 r2 (fun q => ?_) (fun q => ?_)
      · have hp := hB q
        refine v_iinc dX8_supper_88 rfl (by decide) ?_
        refine v_iinc dX8_supper_91 rfl (by decide) ?_
        refine v_goto (tgt := 46) dX8_supper_94 (by decide) ?_
        exact hp
      · have hp := hA q
        refine v_bipush dX8_supper_79 rfl ?_
        refine v_iload dX8_supper_81 rfl ?_
        refine v_imul dX8_supper_83 ?_
        refine v_iload dX8_supper_84 rfl ?_
        refine v_iadd dX8_supper_86 ?_
        exact n_retI dX8_supper_87 rfl hp
    · have hp := hA q
      refine v_goto (tgt := 91) dX8_supper_70 (by decide) ?_
      refine v_iinc dX8_supper_91 rfl (by decide) ?_
      refine v_goto (tgt := 46) dX8_supper_94 (by decide) ?_
      exact hp
theorem g_X8_image_0 {G : GG} {d : Nat} {m : MM} {k : Int → MM → Prop} 
    (hp : N G d mi_X8_copy 0 [some (vr 305), some (vr 306), none] [] m (RV fun m2 => k (m2 305 2) m2)) :
    N G (d + 1) mi_X8_image 0 [some (vr 304)] [] m (RI k) := by
  refine v_aload_n dX8_image_0 rfl rfl ?_
  refine n_getr dX8_image_1 fo_X8_7 sh_304 rfl sr_304_0 ?_
  refine v_aload_n dX8_image_4 rfl rfl ?_
  refine n_getr dX8_image_5 fo_X8_13 sh_304 rfl sr_304_1 ?_
  refine n_callSV (As := [vr 305, vr 306]) (st := []) dX8_image_8 ml_X8_65 mo_X8_copy ms_X8_copy rfl rfl (Nat.le_of_ble_eq_true rfl) (Nat.le_of_ble_eq_true rfl) (by decide) hp (fun m2 hp => ?_)
  refine v_aload_n dX8_image_11 rfl rfl ?_
  refine n_getr dX8_image_12 fo_X8_7 sh_304 rfl sr_304_0 ?_
  refine v_iconst dX8_image_15 ?_
  refine n_iald (j := 2) dX8_image_16 sh_305 rfl (by decide) ?_
  exact n_retI dX8_image_17 rfl hp
theorem g_X8_back_0 {G : GG} {d : Nat} {m : MM} {k : Int → MM → Prop} 
    (hp : N G d mi_X8_copy 0 [some (vr 306), some (vr 305), none] [] m (RV fun m2 => k (m2 305 2) m2)) :
    N G (d + 1) mi_X8_back 0 [some (vr 304)] [] m (RI k) := by
  refine v_aload_n dX8_back_0 rfl rfl ?_
  refine n_getr dX8_back_1 fo_X8_13 sh_304 rfl sr_304_1 ?_
  refine v_aload_n dX8_back_4 rfl rfl ?_
  refine n_getr dX8_back_5 fo_X8_7 sh_304 rfl sr_304_0 ?_
  refine n_callSV (As := [vr 306, vr 305]) (st := []) dX8_back_8 ml_X8_65 mo_X8_copy ms_X8_copy rfl rfl (Nat.le_of_ble_eq_true rfl) (Nat.le_of_ble_eq_true rfl) (by decide) hp (fun m2 hp => ?_)
  refine v_aload_n dX8_back_11 rfl rfl ?_
  refine n_getr dX8_back_12 fo_X8_7 sh_304 rfl sr_304_0 ?_
  refine v_iconst dX8_back_15 ?_
  refine n_iald (j := 2) dX8_back_16 sh_305 rfl (by decide) ?_
  exact n_retI dX8_back_17 rfl hp
theorem g_X8_about_0 {G : GG} {d : Nat} {m : MM} {k : Int → MM → Prop} (x1 : Int)
    (hp : N G d mi_X8_isIn 0 [some (vi x1), some (vi 10), some (vi (9 + (m 305 0)))] [] m (RI fun z1 m2 => bEQ z1 0 (N G d mi_X8_isIn 0 [some (vi x1), some (vi 20), some (vi (19 + (m2 304 3)))] [] m2 (RI fun z3 m4 => bEQ z3 0 (bEQ x1 0 (k (m4 304 3) m4) (N G d mi_X8_isIn 0 [some (vi x1), some (vi 1), some (vi 7)] [] m4 (RI fun z5 m6 => bEQ z5 0 (bEQ x1 8 (k (m6 304 6) m6) (k (-2) m6)) (∃ j7 : Nat, ((x1 - 1) = (j7 : Int) ∧ j7 < 1584) ∧ (k (m6 305 j7) m6))))) (N G d mi_X8_wornBy 0 [some (vr 304), some (vi (x1 - 20)), none, none] [] m4 (RI fun z8 m9 => k z8 m9)))) (∃ j10 : Nat, (((8 + x1) - 10) = (j10 : Int) ∧ j10 < 1584) ∧ (k (m2 305 j10) m2)))) :
    N G (d + 1) mi_X8_about 0 [some (vr 304), some (vi x1)] [] m (RI k) := by
  refine v_iload_n dX8_about_0 rfl rfl ?_
  refine v_bipush dX8_about_1 rfl ?_
  refine v_bipush dX8_about_3 rfl ?_
  refine v_aload_n dX8_about_5 rfl rfl ?_
  refine n_getr dX8_about_6 fo_X8_7 sh_304 rfl sr_304_0 ?_
  refine v_iconst dX8_about_9 ?_
  refine n_iald (j := 0) dX8_about_10 sh_305 rfl (by decide) ?_
  refine v_iadd dX8_about_11 ?_
  refine n_callSI (As := [vi x1, vi 10, vi (9 + (m 305 0))]) (st := []) dX8_about_12 ml_X8_69 mo_X8_isIn ms_X8_isIn rfl rfl (Nat.le_of_ble_eq_true rfl) (Nat.le_of_ble_eq_true rfl) (by decide) hp (fun z1 m2 hp => ?_)
  obtain ⟨⟨r1, r2⟩, hA, hB⟩ := hp
  refine v_if_eq (tgt := 31) dX8_about_15 (by decide) r1 (fun q => ?_) (fun q => ?_)
  · have hp := hA q
    refine v_iload_n dX8_about_31 rfl rfl ?_
    refine v_bipush dX8_about_32 rfl ?_
    refine v_bipush dX8_about_34 rfl ?_
    refine v_aload_n dX8_about_36 rfl rfl ?_
    refine n_geti dX8_about_37 fo_X8_58 sh_304 rfl ?_
    refine v_iadd dX8_about_40 ?_
    refine n_callSI (As := [vi x1, vi 20, vi (19 + (m2 304 3))]) (st := []) dX8_about_41 ml_X8_69 mo_X8_isIn ms_X8_isIn rfl rfl (Nat.le_of_ble_eq_true rfl) (Nat.le_of_ble_eq_true rfl) (by decide) hp (fun z3 m4 hp => ?_)
    obtain ⟨⟨r1, r2⟩, hA, hB⟩ := hp
    refine v_if_eq (tgt := 56) dX8_about_44 (by decide) r1 (fun q => ?_) (fun q => ?_)
    · have hp := hA q
      refine v_iload_n dX8_about_56 rfl rfl ?_
      obtain ⟨⟨r1, r2⟩, hA, hB⟩ := hp
      refine v_if_ne (tgt := 67) dX8_about_57 (by decide) r1 (fun q => ?_) (fun q => ?_)
      · have hp := hB q
        refine v_iload_n dX8_about_67 rfl rfl ?_
        refine v_iconst dX8_about_68 ?_
        refine v_bipush dX8_about_69 rfl ?_
        refine n_callSI (As := [vi x1, vi 1, vi 7]) (st := []) dX8_about_71 ml_X8_69 mo_X8_isIn ms_X8_isIn rfl rfl (Nat.le_of_ble_eq_true rfl) (Nat.le_of_ble_eq_true rfl) (by decide) hp (fun z5 m6 hp => ?_)
        obtain ⟨⟨r1, r2⟩, hA, hB⟩ := hp
        refine v_if_eq (tgt := 88) dX8_about_74 (by decide) r1 (fun q => ?_) (fun q => ?_)
        · have hp := hA q
          refine v_iload_n dX8_about_88 rfl rfl ?_
          refine v_bipush dX8_about_89 rfl ?_
          obtain ⟨⟨r1, r2⟩, hA, hB⟩ := hp
          refine v_icmp_ne (tgt := 101) dX8_about_91 (by decide) r1 r2 (fun q => ?_) (fun q => ?_)
          · have hp := hB q
            refine v_bipush dX8_about_101 rfl ?_
            exact n_retI dX8_about_103 rfl hp
          · have hp := hA q
            refine v_aload_n dX8_about_94 rfl rfl ?_
            refine n_geti dX8_about_95 fo_X8_81 sh_304 rfl ?_
            refine v_goto (tgt := 103) dX8_about_98 (by decide) ?_
            exact n_retI dX8_about_103 rfl hp
        · have hp := hB q
          refine v_aload_n dX8_about_77 rfl rfl ?_
          refine n_getr dX8_about_78 fo_X8_7 sh_304 rfl sr_304_0 ?_
          refine v_iload_n dX8_about_81 rfl rfl ?_
          refine v_iconst dX8_about_82 ?_
          refine v_isub dX8_about_83 ?_
          obtain ⟨j7, ⟨ej7, bj7⟩, hp⟩ := hp
          refine n_iald (j := j7) dX8_about_84 sh_305 ej7 bj7 ?_
          refine v_goto (tgt := 103) dX8_about_85 (by decide) ?_
          exact n_retI dX8_about_103 rfl hp
      · have hp := hA q
        refine v_aload_n dX8_about_60 rfl rfl ?_
        refine n_geti dX8_about_61 fo_X8_58 sh_304 rfl ?_
        refine v_goto (tgt := 103) dX8_about_64 (by decide) ?_
        exact n_retI dX8_about_103 rfl hp
    · have hp := hB q
      refine v_aload_n dX8_about_47 rfl rfl ?_
      refine v_iload_n dX8_about_48 rfl rfl ?_
      refine v_bipush dX8_about_49 rfl ?_
      refine v_isub dX8_about_51 ?_
      refine n_callVI (As := [vi (x1 - 20)]) (st := []) dX8_about_52 ml_X8_281 mo_X8_wornBy mv_X8_wornBy sh_304 rfl rfl rfl rfl (Nat.le_of_ble_eq_true rfl) (Nat.le_of_ble_eq_true rfl) (by decide) hp (fun z8 m9 hp => ?_)
      exact n_retI dX8_about_55 rfl hp
  · have hp := hB q
    refine v_aload_n dX8_about_18 rfl rfl ?_
    refine n_getr dX8_about_19 fo_X8_7 sh_304 rfl sr_304_0 ?_
    refine v_bipush dX8_about_22 rfl ?_
    refine v_iload_n dX8_about_24 rfl rfl ?_
    refine v_iadd dX8_about_25 ?_
    refine v_bipush dX8_about_26 rfl ?_
    refine v_isub dX8_about_28 ?_
    obtain ⟨j10, ⟨ej10, bj10⟩, hp⟩ := hp
    refine n_iald (j := j10) dX8_about_29 sh_305 ej10 bj10 ?_
    exact n_retI dX8_about_30 rfl hp
