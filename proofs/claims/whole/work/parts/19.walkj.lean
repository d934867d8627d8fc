section GeRet
variable {G : GG} {d : Nat} {mi : MI} {pc : Nat} {lv : List (Option PV)} {m : MM}
theorem n_retC {z : Int} {k : Int → MM → Prop} (hd : decode mi.2.1 pc = .ok (.ireturn, 1)) (hr : mi.2.2.2 = some .char) (hz : 0 ≤ z ∧ z < 65536) (h : k z m) : N G d mi pc lv [vi z] m (RI k) := v_zreturn hd hr (by
  obtain ⟨q, hq⟩ : ∃ q : Nat, z = (q : Int) := ⟨z.toNat, by omega⟩
  subst hq
  rw [show i32 (q : Int) = nI q from Int32.ofInt_eq_ofNat]
  exact (pk_charN (by omega)).1) ⟨z, m, rfl, rfl, rfl, h⟩
theorem n_retB {z : Int} {k : Int → MM → Prop} (hd : decode mi.2.1 pc = .ok (.ireturn, 1)) (hr : mi.2.2.2 = some .byte) (hz : -128 ≤ z ∧ z < 128) (h : k z m) : N G d mi pc lv [vi z] m (RI k) := v_zreturn hd hr (by
  have e : (i32 z).toInt8.toInt32 = i32 z := by
    apply Int32.toInt_inj.mp
    rw [Int8.toInt_toInt32, Int32.toInt_toInt8, i32_toInt (by omega), Int.bmod_def]
    split <;> omega
  rw [← e]
  exact pk_nb _) ⟨z, m, rfl, rfl, rfl, h⟩
end GeRet
theorem g_J1_charAt_3b067_0 {G : GG} {d : Nat} {m : MM} {k : Int → MM → Prop} (x1 : Int)
    (hp : N G d mi_J0_checkIndex_df160 0 [some (vi x1), some (vi 111)] [] m (RV fun m2 => ∃ j3 : Nat, (x1 = (j3 : Int) ∧ j3 < 111) ∧ ((0 ≤ (i2c (iand (WB.getD j3 0).toInt 255)) ∧ (i2c (iand (WB.getD j3 0).toInt 255)) < 65536) ∧ (k (i2c (iand (WB.getD j3 0).toInt 255)) m2)))) :
    N G (d + 1) mi_J1_charAt_3b067 0 [some (vr 999998), some (vi x1)] [] m (RI k) := by
  refine v_iload_n dJ1_charAt_3b067_0 rfl rfl ?_
  refine v_aload_n dJ1_charAt_3b067_1 rfl rfl ?_
  refine v_Tlen dJ1_charAt_3b067_2 ?_
  refine n_callSV (As := [vi x1, vi 111]) (st := []) dJ1_charAt_3b067_3 ml_J1_9 mo_J0_checkIndex_df160 ms_J0_checkIndex_df160 rfl rfl (Nat.le_of_ble_eq_true rfl) (Nat.le_of_ble_eq_true rfl) (by decide) hp (fun m2 hp => ?_)
  refine v_aload_n dJ1_charAt_3b067_6 rfl rfl ?_
  refine v_iload_n dJ1_charAt_3b067_7 rfl rfl ?_
  obtain ⟨j3, ⟨ej3, bj3⟩, hp⟩ := hp
  refine v_Tbal (j := j3) dJ1_charAt_3b067_8 ej3 bj3 ?_
  refine v_sipush dJ1_charAt_3b067_9 rfl ?_
  refine v_iand dJ1_charAt_3b067_12 ?_
  refine v_i2c dJ1_charAt_3b067_13 ?_
  exact n_retC dJ1_charAt_3b067_14 rfl hp.1 hp.2
theorem g_J3_checkIndex_8e157_0 {G : GG} {d : Nat} {m : MM} {k : Int → MM → Prop} (w2 : PV) (x0 : Int) (x1 : Int)
    (hp : bLT x0 0 (False) (bLT x0 x1 (k x0 m) (False))) :
    N G (d + 1) mi_J3_checkIndex_8e157 0 [some (vi x0), some (vi x1), some (w2)] [] m (RI k) := by
  refine v_iload_n dJ3_checkIndex_8e157_0 rfl rfl ?_
  obtain ⟨⟨r1, r2⟩, hA, hB⟩ := hp
  refine v_if_lt (tgt := 9) dJ3_checkIndex_8e157_1 (by decide) r1 (fun q => ?_) (fun q => ?_)
  · have hp := hA q
    exact hp.elim
  · have hp := hB q
    refine v_iload_n dJ3_checkIndex_8e157_4 rfl rfl ?_
    refine v_iload_n dJ3_checkIndex_8e157_5 rfl rfl ?_
    obtain ⟨⟨r1, r2⟩, hA, hB⟩ := hp
    refine v_icmp_lt (tgt := 16) dJ3_checkIndex_8e157_6 (by decide) r1 r2 (fun q => ?_) (fun q => ?_)
    · have hp := hA q
      refine v_iload_n dJ3_checkIndex_8e157_16 rfl rfl ?_
      exact n_retI dJ3_checkIndex_8e157_17 rfl hp
    · have hp := hB q
      exact hp.elim
theorem g_J6_bitCount_0f7a4_0 {G : GG} {d : Nat} {m : MM} {k : Int → MM → Prop} (x0 : Int)
    (hp : k (iand (((iand (((iand (x0 - (iand (iushr x0 1) 1431655765)) 858993459) + (iand (iushr (x0 - (iand (iushr x0 1) 1431655765)) 2) 858993459)) + (iushr ((iand (x0 - (iand (iushr x0 1) 1431655765)) 858993459) + (iand (iushr (x0 - (iand (iushr x0 1) 1431655765)) 2) 858993459)) 4)) 252645135) + (iushr (iand (((iand (x0 - (iand (iushr x0 1) 1431655765)) 858993459) + (iand (iushr (x0 - (iand (iushr x0 1) 1431655765)) 2) 858993459)) + (iushr ((iand (x0 - (iand (iushr x0 1) 1431655765)) 858993459) + (iand (iushr (x0 - (iand (iushr x0 1) 1431655765)) 2) 858993459)) 4)) 252645135) 8)) + (iushr ((iand (((iand (x0 - (iand (iushr x0 1) 1431655765)) 858993459) + (iand (iushr (x0 - (iand (iushr x0 1) 1431655765)) 2) 858993459)) + (iushr ((iand (x0 - (iand (iushr x0 1) 1431655765)) 858993459) + (iand (iushr (x0 - (iand (iushr x0 1) 1431655765)) 2) 858993459)) 4)) 252645135) + (iushr (iand (((iand (x0 - (iand (iushr x0 1) 1431655765)) 858993459) + (iand (iushr (x0 - (iand (iushr x0 1) 1431655765)) 2) 858993459)) + (iushr ((iand (x0 - (iand (iushr x0 1) 1431655765)) 858993459) + (iand (iushr (x0 - (iand (iushr x0 1) 1431655765)) 2) 858993459)) 4)) 252645135) 8)) 16)) 63) m) :
    N G d mi_J6_bitCount_0f7a4 0 [some (vi x0)] [] m (RI k) := by
  refine v_iload_n dJ6_bitCount_0f7a4_0 rfl rfl ?_
  refine v_iload_n dJ6_bitCount_0f7a4_1 rfl rfl ?_
  refine v_iconst dJ6_bitCount_0f7a4_2 ?_
  refine v_iushr dJ6_bitCount_0f7a4_3 ?_
  refine v_ldc_w dJ6_bitCount_0f7a4_4 co_J6_265 ?_
  refine v_iand dJ6_bitCount_0f7a4_7 ?_
  refine v_isub dJ6_bitCount_0f7a4_8 ?_
  refine v_istore_n dJ6_bitCount_0f7a4_9 rfl (by decide) ?_
  refine v_iload_n dJ6_bitCount_0f7a4_10 rfl rfl ?_
  refine v_ldc_w dJ6_bitCount_0f7a4_11 co_J6_266 ?_
  refine v_iand dJ6_bitCount_0f7a4_14 ?_
  refine v_iload_n dJ6_bitCount_0f7a4_15 rfl rfl ?_
  refine v_iconst dJ6_bitCount_0f7a4_16 ?_
  refine v_iushr dJ6_bitCount_0f7a4_17 ?_
  refine v_ldc_w dJ6_bitCount_0f7a4_18 co_J6_266 ?_
  refine v_iand dJ6_bitCount_0f7a4_21 ?_
  refine v_iadd dJ6_bitCount_0f7a4_22 ?_
  refine v_istore_n dJ6_bitCount_0f7a4_23 rfl (by decide) ?_
  refine v_iload_n dJ6_bitCount_0f7a4_24 rfl rfl ?_
  refine v_iload_n dJ6_bitCount_0f7a4_25 rfl rfl ?_
  refine v_iconst dJ6_bitCount_0f7a4_26 ?_
  refine v_iushr dJ6_bitCount_0f7a4_27 ?_
  refine v_iadd dJ6_bitCount_0f7a4_28 ?_
  refine v_ldc_w dJ6_bitCount_0f7a4_29 co_J6_267 ?_
  refine v_iand dJ6_bitCount_0f7a4_32 ?_
  refine v_istore_n dJ6_bitCount_0f7a4_33 rfl (by decide) ?_
  refine v_iload_n dJ6_bitCount_0f7a4_34 rfl rfl ?_
  refine v_iload_n dJ6_bitCount_0f7a4_35 rfl rfl ?_
  refine v_bipush dJ6_bitCount_0f7a4_36 rfl ?_
  refine v_iushr dJ6_bitCount_0f7a4_38 ?_
  refine v_iadd dJ6_bitCount_0f7a4_39 ?_
  refine v_istore_n dJ6_bitCount_0f7a4_40 rfl (by decide) ?_
  refine v_iload_n dJ6_bitCount_0f7a4_41 rfl rfl ?_
  refine v_iload_n dJ6_bitCount_0f7a4_42 rfl rfl ?_
  refine v_bipush dJ6_bitCount_0f7a4_43 rfl ?_
  refine v_iushr dJ6_bitCount_0f7a4_45 ?_
  refine v_iadd dJ6_bitCount_0f7a4_46 ?_
  refine v_istore_n dJ6_bitCount_0f7a4_47 rfl (by decide) ?_
  refine v_iload_n dJ6_bitCount_0f7a4_48 rfl rfl ?_
  refine v_bipush dJ6_bitCount_0f7a4_49 rfl ?_
  refine v_iand dJ6_bitCount_0f7a4_51 ?_
  exact n_retI dJ6_bitCount_0f7a4_52 rfl hp
theorem g_J0_length_8abf5_0 {G : GG} {d : Nat} {m : MM} {k : Int → MM → Prop} 
    (hp : N G d mi_J0_coder_7d493 0 [some (vr 999999)] [] m (RI fun z1 m2 => k (ishr 111 z1) m2)) :
    N G (d + 1) mi_J0_length_8abf5 0 [some (vr 999999)] [] m (RI k) := by
  refine v_aload_n dJ0_length_8abf5_0 rfl rfl ?_
  refine v_Tval dJ0_length_8abf5_1 fs_J0_9 ?_
  refine v_Tlen dJ0_length_8abf5_4 ?_
  refine v_aload_n dJ0_length_8abf5_5 rfl rfl ?_
  refine n_callTI (As := []) (st := [vi 111]) dJ0_length_8abf5_6 ml_J0_335 mo_J0_coder_7d493 mv_J0_coder_7d493 rfl rfl rfl (Nat.le_of_ble_eq_true rfl) (Nat.le_of_ble_eq_true rfl) (by decide) hp (fun z1 m2 hp => ?_)
  refine v_ishr dJ0_length_8abf5_9 ?_
  exact n_retI dJ0_length_8abf5_10 rfl hp
theorem g_J0_charAt_5068e_0 {G : GG} {d : Nat} {m : MM} {k : Int → MM → Prop} (x1 : Int)
    (hp : N G d mi_J0_isLatin1_aae02 0 [some (vr 999999)] [] m (RI fun z1 m2 => bEQ z1 0 (N G d mi_J2_charAt_3b067 0 [some (vr 999998), some (vi x1)] [] m2 (RI fun z3 m4 => (0 ≤ z3 ∧ z3 < 65536) ∧ (k z3 m4))) (N G d mi_J1_charAt_3b067 0 [some (vr 999998), some (vi x1)] [] m2 (RI fun z5 m6 => (0 ≤ z5 ∧ z5 < 65536) ∧ (k z5 m6))))) :
    N G (d + 1) mi_J0_charAt_5068e 0 [some (vr 999999), some (vi x1)] [] m (RI k) := by
  refine v_aload_n dJ0_charAt_5068e_0 rfl rfl ?_
  refine n_callTI (As := []) (st := []) dJ0_charAt_5068e_1 ml_J0_492 mo_J0_isLatin1_aae02 mv_J0_isLatin1_aae02 rfl rfl rfl (Nat.le_of_ble_eq_true rfl) (Nat.le_of_ble_eq_true rfl) (by decide) hp (fun z1 m2 hp => ?_)
  obtain ⟨⟨r1, r2⟩, hA, hB⟩ := hp
  refine v_if_eq (tgt := 16) dJ0_charAt_5068e_4 (by decide) r1 (fun q => ?_) (fun q => ?_)
  · have hp := hA q
    refine v_aload_n dJ0_charAt_5068e_16 rfl rfl ?_
    refine v_Tval dJ0_charAt_5068e_17 fs_J0_9 ?_
    refine v_iload_n dJ0_charAt_5068e_20 rfl rfl ?_
    refine n_callSI (As := [vr 999998, vi x1]) (st := []) dJ0_charAt_5068e_21 ml_J0_498 mo_J2_charAt_3b067 ms_J2_charAt_3b067 rfl rfl (Nat.le_of_ble_eq_true rfl) (Nat.le_of_ble_eq_true rfl) (by decide) hp (fun z3 m4 hp => ?_)
    exact n_retC dJ0_charAt_5068e_24 rfl hp.1 hp.2
  · have hp := hB q
    refine v_aload_n dJ0_charAt_5068e_7 rfl rfl ?_
    refine v_Tval dJ0_charAt_5068e_8 fs_J0_9 ?_
    refine v_iload_n dJ0_charAt_5068e_11 rfl rfl ?_
    refine n_callSI (As := [vr 999998, vi x1]) (st := []) dJ0_charAt_5068e_12 ml_J0_495 mo_J1_charAt_3b067 ms_J1_charAt_3b067 rfl rfl (Nat.le_of_ble_eq_true rfl) (Nat.le_of_ble_eq_true rfl) (by decide) hp (fun z5 m6 hp => ?_)
    exact n_retC dJ0_charAt_5068e_15 rfl hp.1 hp.2
theorem g_J0_coder_7d493_0 {G : GG} {d : Nat} {m : MM} {k : Int → MM → Prop} 
    (hp : bEQ 1 0 (k 1 m) (k 0 m)) :
    N G d mi_J0_coder_7d493 0 [some (vr 999999)] [] m (RI k) := by
  refine v_Tsta dJ0_coder_7d493_0 fs_J0_38 ?_
  obtain ⟨⟨r1, r2⟩, hA, hB⟩ := hp
  refine v_if_eq (tgt := 13) dJ0_coder_7d493_3 (by decide) r1 (fun q => ?_) (fun q => ?_)
  · have hp := hA q
    refine v_iconst dJ0_coder_7d493_13 ?_
    exact n_retB dJ0_coder_7d493_14 rfl (by decide) hp
  · have hp := hB q
    refine v_aload_n dJ0_coder_7d493_6 rfl rfl ?_
    refine v_Tcod dJ0_coder_7d493_7 fs_J0_15 ?_
    refine v_goto (tgt := 14) dJ0_coder_7d493_10 (by decide) ?_
    exact n_retB dJ0_coder_7d493_14 rfl (by decide) hp
theorem g_J0_isLatin1_aae02_0 {G : GG} {d : Nat} {m : MM} {k : Int → MM → Prop} 
    (hp : bEQ 1 0 (k 0 m) (bEQ 0 0 (k 1 m) (k 0 m))) :
    N G d mi_J0_isLatin1_aae02 0 [some (vr 999999)] [] m (RI k) := by
  refine v_Tsta dJ0_isLatin1_aae02_0 fs_J0_38 ?_
  obtain ⟨⟨r1, r2⟩, hA, hB⟩ := hp
  refine v_if_eq (tgt := 17) dJ0_isLatin1_aae02_3 (by decide) r1 (fun q => ?_) (fun q => ?_)
  · have hp := hA q
    refine v_iconst dJ0_isLatin1_aae02_17 ?_
    exact n_retZ dJ0_isLatin1_aae02_18 rfl (by decide) hp
  · have hp := hB q
    refine v_aload_n dJ0_isLatin1_aae02_6 rfl rfl ?_
    refine v_Tcod dJ0_isLatin1_aae02_7 fs_J0_15 ?_
    obtain ⟨⟨r1, r2⟩, hA, hB⟩ := hp
    refine v_if_ne (tgt := 17) dJ0_isLatin1_aae02_10 (by decide) r1 (fun q => ?_) (fun q => ?_)
    · have hp := hB q
      refine v_iconst dJ0_isLatin1_aae02_17 ?_
      exact n_retZ dJ0_isLatin1_aae02_18 rfl (by decide) hp
    · have hp := hA q
      refine v_iconst dJ0_isLatin1_aae02_13 ?_
      refine v_goto (tgt := 18) dJ0_isLatin1_aae02_14 (by decide) ?_
      exact n_retZ dJ0_isLatin1_aae02_18 rfl (by decide) hp
theorem g_J0_checkIndex_df160_0 {G : GG} {d : Nat} {m : MM} {k : MM → Prop} (x0 : Int) (x1 : Int)
    (hp : (N G d mi_J3_checkIndex_8e157 0 [some (vi x0), some (vi x1), some (vn)] [] m (RI fun z1 m2 => k m2)) ∧ (N G d mi_J3_checkIndex_8e157 0 [some (vi x0), some (vi x1), some (vr 999996)] [] m (RI fun z3 m4 => k m4))) :
    N G (d + 1) mi_J0_checkIndex_df160 0 [some (vi x0), some (vi x1)] [] m (RV k) := by
  refine v_iload_n dJ0_checkIndex_df160_0 rfl rfl ?_
  refine v_iload_n dJ0_checkIndex_df160_1 rfl rfl ?_
  obtain ⟨hA, hB⟩ := hp
  refine v_Tfmt dJ0_checkIndex_df160_2 fs_J0_1053 ?_ ?_
  · have hp := hA
    refine n_callSI (As := [vi x0, vi x1, vn]) (st := []) dJ0_checkIndex_df160_5 ml_J0_1059 mo_J3_checkIndex_8e157 ms_J3_checkIndex_8e157 rfl rfl (Nat.le_of_ble_eq_true rfl) (Nat.le_of_ble_eq_true rfl) (by decide) hp (fun z1 m2 hp => ?_)
    refine v_popi dJ0_checkIndex_df160_8 ?_
    exact n_retV dJ0_checkIndex_df160_9 rfl hp
  · have hp := hB
    refine n_callSI (As := [vi x0, vi x1, vr 999996]) (st := []) dJ0_checkIndex_df160_5 ml_J0_1059 mo_J3_checkIndex_8e157 ms_J3_checkIndex_8e157 rfl rfl (Nat.le_of_ble_eq_true rfl) (Nat.le_of_ble_eq_true rfl) (by decide) hp (fun z3 m4 hp => ?_)
    refine v_popi dJ0_checkIndex_df160_8 ?_
    exact n_retV dJ0_checkIndex_df160_9 rfl hp
