theorem g_X0_copyFrom_0 {G : GG} {d : Nat} {m : MM} {k : MM → Prop} (c0 : Nat) (h0 : SH c0 = .inr 0) (c1 : Nat) (h1 : SH c1 = .inr 0)
    (hp : ∀ m1 : MM, m1 = upm m c0 0 (m c1 0) → (∀ m2 : MM, m2 = cpm m1 (c1 + 1) 0 (c0 + 1) 0 8 → (∀ m3 : MM, m3 = cpm m2 (c1 + 2) 0 (c0 + 2) 0 8 → (∀ m4 : MM, m4 = cpm m3 (c1 + 3) 0 (c0 + 3) 0 8 → (k m4))))) :
    N G (d + 1) mi_X0_copyFrom 0 [some (vr c0), some (vr c1)] [] m (RV k) := by
  refine v_aload_n dX0_copyFrom_0 rfl rfl ?_
  refine v_aload_n dX0_copyFrom_1 rfl rfl ?_
  refine n_geti dX0_copyFrom_2 fo_X0_9 h1 rfl ?_
  refine w_puti dX0_copyFrom_5 fw_X0_9 h0 rfl (fun m1 em1 => ?_)
  have hp := hp m1 em1
  refine v_aload_n dX0_copyFrom_8 rfl rfl ?_
  refine n_getr dX0_copyFrom_9 fo_X0_15 h1 rfl (kr0_1 h1) ?_
  refine v_iconst dX0_copyFrom_12 ?_
  refine v_aload_n dX0_copyFrom_13 rfl rfl ?_
  refine n_getr dX0_copyFrom_14 fo_X0_15 h0 rfl (kr0_1 h0) ?_
  refine v_iconst dX0_copyFrom_17 ?_
  refine v_bipush dX0_copyFrom_18 rfl ?_
  refine w_copy (sp := 0) (dp := 0) (n := 8) dX0_copyFrom_20 ml_X0_31 acW (kn0_1 h1) (kn0_1 h0) (by decide) (by decide) rfl rfl rfl (by decide) (by decide) (fun m2 em2 => ?_)
  have hp := hp m2 em2
  refine v_aload_n dX0_copyFrom_23 rfl rfl ?_
  refine n_getr dX0_copyFrom_24 fo_X0_19 h1 rfl (kr0_2 h1) ?_
  refine v_iconst dX0_copyFrom_27 ?_
  refine v_aload_n dX0_copyFrom_28 rfl rfl ?_
  refine n_getr dX0_copyFrom_29 fo_X0_19 h0 rfl (kr0_2 h0) ?_
  refine v_iconst dX0_copyFrom_32 ?_
  refine v_bipush dX0_copyFrom_33 rfl ?_
  refine w_copy (sp := 0) (dp := 0) (n := 8) dX0_copyFrom_35 ml_X0_31 acW (kn0_2 h1) (kn0_2 h0) (by decide) (by decide) rfl rfl rfl (by decide) (by decide) (fun m3 em3 => ?_)
  have hp := hp m3 em3
  refine v_aload_n dX0_copyFrom_38 rfl rfl ?_
  refine n_getr dX0_copyFrom_39 fo_X0_22 h1 rfl (kr0_3 h1) ?_
  refine v_iconst dX0_copyFrom_42 ?_
  refine v_aload_n dX0_copyFrom_43 rfl rfl ?_
  refine n_getr dX0_copyFrom_44 fo_X0_22 h0 rfl (kr0_3 h0) ?_
  refine v_iconst dX0_copyFrom_47 ?_
  refine v_bipush dX0_copyFrom_48 rfl ?_
  refine w_copy (sp := 0) (dp := 0) (n := 8) dX0_copyFrom_50 ml_X0_31 acW (kn0_3 h1) (kn0_3 h0) (by decide) (by decide) rfl rfl rfl (by decide) (by decide) (fun m4 em4 => ?_)
  have hp := hp m4 em4
  exact n_retV dX0_copyFrom_53 rfl hp
theorem g_X1_keep_0 {G : GG} {d : Nat} {m : MM} {k : MM → Prop} (c0 : Nat) (h0 : SH c0 = .inr 1) (c1 : Nat) (h1 : SH c1 = .inr 0)
    (hp : ∃ j1 : Nat, ((m c0 1) = (j1 : Int) ∧ j1 < 30) ∧ (N G d mi_X0_copyFrom 0 [some (vr (c0 + 2 + 4 * j1)), some (vr c1)] [] m (RV fun m3 => ∀ m4 : MM, m4 = upm m3 c0 1 (irem ((m3 c0 1) + 1) 30) → ((rng ((m4 c0 2) + 1) ∧ rng 30) ∧ (∀ m5 : MM, m5 = upm m4 c0 2 (imin ((m4 c0 2) + 1) 30) → (k m5)))))) :
    N G (d + 1) mi_X1_keep 0 [some (vr c0), some (vr c1)] [] m (RV k) := by
  refine v_aload_n dX1_keep_0 rfl rfl ?_
  refine n_getr dX1_keep_1 fo_X1_11 h0 rfl (kr1_0 h0) ?_
  refine v_aload_n dX1_keep_4 rfl rfl ?_
  refine n_geti dX1_keep_5 fo_X1_17 h0 rfl ?_
  obtain ⟨j1, ⟨ej1, bj1⟩, hp⟩ := hp
  refine n_aald4 (j := j1) dX1_keep_8 (kn1_1 h0) ej1 bj1 (pa_r h0 j1) ?_
  refine v_aload_n dX1_keep_9 rfl rfl ?_
  refine n_callVV (As := [vr c1]) (st := []) dX1_keep_10 ml_X1_25 mo_X0_copyFrom mv_X0_copyFrom (pa_c h0 bj1) rfl rfl rfl rfl (Nat.le_of_ble_eq_true rfl) (Nat.le_of_ble_eq_true rfl) (by decide) hp (fun m3 hp => ?_)
  refine v_aload_n dX1_keep_13 rfl rfl ?_
  refine v_aload_n dX1_keep_14 rfl rfl ?_
  refine n_geti dX1_keep_15 fo_X1_17 h0 rfl ?_
  refine v_iconst dX1_keep_18 ?_
  refine v_iadd dX1_keep_19 ?_
  refine v_bipush dX1_keep_20 rfl ?_
  refine w_irem dX1_keep_22 (by decide) (by decide) ?_
  refine w_puti dX1_keep_23 fw_X1_17 h0 rfl (fun m4 em4 => ?_)
  have hp := hp m4 em4
  refine v_aload_n dX1_keep_26 rfl rfl ?_
  refine v_aload_n dX1_keep_27 rfl rfl ?_
  refine n_geti dX1_keep_28 fo_X1_21 h0 rfl ?_
  refine v_iconst dX1_keep_31 ?_
  refine v_iadd dX1_keep_32 ?_
  refine v_bipush dX1_keep_33 rfl ?_
  obtain ⟨hg, hp⟩ := hp
  refine v_mmin dX1_keep_35 mk_X1_29 hg.1 hg.2 (by omega) (Nat.le_of_ble_eq_true rfl) (by omega) ?_
  refine w_puti dX1_keep_38 fw_X1_21 h0 rfl (fun m5 em5 => ?_)
  have hp := hp m5 em5
  exact n_retV dX1_keep_41 rfl hp
theorem g_X2_begin_0 {G : GG} {d : Nat} {m : MM} {k : MM → Prop} (c3 : Nat) (h3 : SH c3 = .inr 5) (x2 : Int)
    (hp : ∀ m1 : MM, m1 = upm m 2 0 0 → (∀ m2 : MM, m2 = upm m1 2 1 (-1) → (∀ m3 : MM, m3 = upm m2 2 8 (c3 : Int) → (∃ t4 : Nat, (m3 2 8 = (t4 : Int) ∧ SH t4 = .inr 5) ∧ (N G d mi_X5_clear 0 [some (vr t4)] [] m3 (RV fun m6 => (rng x2 ∧ rng 300) ∧ (N G d mi_X2_scan 0 [some (vr 2), some (vr 1), some (vi (imin x2 300)), none, none, none] [] m6 (RV fun m8 => ∀ m9 : MM, m9 = upm m8 2 6 0 → (k m9))))))))) :
    N G (d + 1) mi_X2_begin 0 [some (vr 2), some (vr 1), some (vi x2), some (vr c3)] [] m (RV k) := by
  refine v_aload_n dX2_begin_0 rfl rfl ?_
  refine v_iconst dX2_begin_1 ?_
  refine w_puti dX2_begin_2 fw_X2_9 sh_2 rfl (fun m1 em1 => ?_)
  have hp := hp m1 em1
  refine v_aload_n dX2_begin_5 rfl rfl ?_
  refine v_iconst dX2_begin_6 ?_
  refine w_puti dX2_begin_7 fw_X2_15 sh_2 rfl (fun m2 em2 => ?_)
  have hp := hp m2 em2
  refine v_aload_n dX2_begin_10 rfl rfl ?_
  refine v_aload_n dX2_begin_11 rfl rfl ?_
  refine w_puts dX2_begin_12 fw_X2_40 (fun m3 em3 => ?_)
  have hp := hp m3 em3
  refine v_aload_n dX2_begin_15 rfl rfl ?_
  obtain ⟨t4, ⟨et4, ht4⟩, hp⟩ := hp
  refine n_getr (t := t4) dX2_begin_16 fo_X2_40 sh_2 rfl (by rw [sr_2_8, et4]; rfl) ?_
  refine n_callVV (As := []) (st := []) dX2_begin_19 ml_X2_44 mo_X5_clear mv_X5_clear ht4 rfl rfl rfl rfl (Nat.le_of_ble_eq_true rfl) (Nat.le_of_ble_eq_true rfl) (by decide) hp (fun m6 hp => ?_)
  refine v_aload_n dX2_begin_22 rfl rfl ?_
  refine v_aload_n dX2_begin_23 rfl rfl ?_
  refine v_iload_n dX2_begin_24 rfl rfl ?_
  refine v_aload_n dX2_begin_25 rfl rfl ?_
  refine n_alenb dX2_begin_26 sh_1 (by decide) ?_
  obtain ⟨hg, hp⟩ := hp
  refine v_mmin dX2_begin_27 mk_X2_47 hg.1 hg.2 (by omega) (Nat.le_of_ble_eq_true rfl) (by omega) ?_
  refine n_callVV (As := [vr 1, vi (imin x2 300)]) (st := []) dX2_begin_30 ml_X2_53 mo_X2_scan mv_X2_scan sh_2 rfl rfl rfl rfl (Nat.le_of_ble_eq_true rfl) (Nat.le_of_ble_eq_true rfl) (by decide) hp (fun m8 hp => ?_)
  refine v_aload_n dX2_begin_33 rfl rfl ?_
  refine v_iconst dX2_begin_34 ?_
  refine w_puti dX2_begin_35 fw_X2_31 sh_2 rfl (fun m9 em9 => ?_)
  have hp := hp m9 em9
  exact n_retV dX2_begin_38 rfl hp
theorem g_X3_nameEye_0 {G : GG} {d : Nat} {m : MM} {k : MM → Prop} (x1 : Int) (x2 : Int) (x3 : Int)
    (hp : ∀ m1 : MM, m1 = upm m 277 0 x1 → (∀ m2 : MM, m2 = upm m1 277 1 x2 → (∀ m3 : MM, m3 = upm m2 277 2 x3 → (k m3)))) :
    N G d mi_X3_nameEye 0 [some (vr 276), some (vi x1), some (vi x2), some (vi x3)] [] m (RV k) := by
  refine v_aload_n dX3_nameEye_0 rfl rfl ?_
  refine n_getr dX3_nameEye_1 fo_X3_9 sh_276 rfl sr_276_0 ?_
  refine v_iconst dX3_nameEye_4 ?_
  refine v_iload_n dX3_nameEye_5 rfl rfl ?_
  refine w_iast (j := 0) dX3_nameEye_6 sh_277 rfl (by decide) (fun m1 em1 => ?_)
  have hp := hp m1 em1
  refine v_aload_n dX3_nameEye_7 rfl rfl ?_
  refine n_getr dX3_nameEye_8 fo_X3_9 sh_276 rfl sr_276_0 ?_
  refine v_iconst dX3_nameEye_11 ?_
  refine v_iload_n dX3_nameEye_12 rfl rfl ?_
  refine w_iast (j := 1) dX3_nameEye_13 sh_277 rfl (by decide) (fun m2 em2 => ?_)
  have hp := hp m2 em2
  refine v_aload_n dX3_nameEye_14 rfl rfl ?_
  refine n_getr dX3_nameEye_15 fo_X3_9 sh_276 rfl sr_276_0 ?_
  refine v_iconst dX3_nameEye_18 ?_
  refine v_iload_n dX3_nameEye_19 rfl rfl ?_
  refine w_iast (j := 2) dX3_nameEye_20 sh_277 rfl (by decide) (fun m3 em3 => ?_)
  have hp := hp m3 em3
  exact n_retV dX3_nameEye_21 rfl hp
theorem g_X4_begin_0 {G : GG} {d : Nat} {m : MM} {k : MM → Prop} (x1 : Int) (x2 : Int) (x3 : Int) (x4 : Int)
    (hp : ∀ m1 : MM, m1 = upm m 279 0 x1 → (∀ m2 : MM, m2 = upm m1 279 1 x2 → (∀ m3 : MM, m3 = upm m2 279 2 x3 → (bEQ x3 (-1) (N G d mi_X4_begin 30 [some (vr 279), none, none, some (vi x3), none] [vi x4, vr 279] m3 (RV k)) (N G d mi_X4_begin 30 [some (vr 279), none, none, some (vi x3), none] [vi (x4 - 1), vr 279] m3 (RV k)))))) :
    N G d mi_X4_begin 0 [some (vr 279), some (vi x1), some (vi x2), some (vi x3), some (vi x4)] [] m (RV k) := by
  refine v_aload_n dX4_begin_0 rfl rfl ?_
  refine v_iload_n dX4_begin_1 rfl rfl ?_
  refine w_puti dX4_begin_2 fw_X4_9 sh_279 rfl (fun m1 em1 => ?_)
  have hp := hp m1 em1
  refine v_aload_n dX4_begin_5 rfl rfl ?_
  refine v_iload_n dX4_begin_6 rfl rfl ?_
  refine w_puti dX4_begin_7 fw_X4_15 sh_279 rfl (fun m2 em2 => ?_)
  have hp := hp m2 em2
  refine v_aload_n dX4_begin_10 rfl rfl ?_
  refine v_iload_n dX4_begin_11 rfl rfl ?_
  refine w_puti dX4_begin_12 fw_X4_18 sh_279 rfl (fun m3 em3 => ?_)
  have hp := hp m3 em3
  refine v_aload_n dX4_begin_15 rfl rfl ?_
  refine v_iload_n dX4_begin_16 rfl rfl ?_
  refine v_iconst dX4_begin_17 ?_
  obtain ⟨⟨r1, r2⟩, hA, hB⟩ := hp
  refine v_icmp_ne (tgt := 26) dX4_begin_18 (by decide) r1 r2 (fun q => ?_) (fun q => ?_)
  · have hp := hB q
    refine v_iload dX4_begin_26 rfl ?_
    refine v_iconst dX4_begin_28 ?_
    refine v_isub dX4_begin_29 ?_
    exact n_weak (wk_s (wk_n (wk_n (wk_s (wk_n wk_nil))))) hp
  · have hp := hA q
    refine v_iload dX4_begin_21 rfl ?_
    refine v_goto (tgt := 30) dX4_begin_23 (by decide) ?_
    exact n_weak (wk_s (wk_n (wk_n (wk_s (wk_n wk_nil))))) hp
theorem g_X4_begin_30 {G : GG} {d : Nat} {m : MM} {k : MM → Prop} (x3 : Int) (s0 : Int)
    (hp : ∀ m1 : MM, m1 = upm m 279 3 s0 → (bEQ x3 0 (∀ m5 : MM, m5 = upm m1 279 4 1 → (∀ m6 : MM, m6 = upm m5 279 5 0 → (∀ m7 : MM, m7 = upm m6 279 6 63 → (k m7)))) (∀ m2 : MM, m2 = upm m1 279 4 0 → (∀ m3 : MM, m3 = upm m2 279 5 0 → (∀ m4 : MM, m4 = upm m3 279 6 63 → (k m4)))))) :
    N G d mi_X4_begin 30 [some (vr 279), none, none, some (vi x3), none] [vi s0, vr 279] m (RV k) := by
  refine w_puti dX4_begin_30 fw_X4_21 sh_279 rfl (fun m1 em1 => ?_)
  have hp := hp m1 em1
  refine v_aload_n dX4_begin_33 rfl rfl ?_
  refine v_iload_n dX4_begin_34 rfl rfl ?_
  obtain ⟨⟨r1, r2⟩, hA, hB⟩ := hp
  refine v_if_ne (tgt := 42) dX4_begin_35 (by decide) r1 (fun q => ?_) (fun q => ?_)
  · have hp := hB q
    refine v_iconst dX4_begin_42 ?_
    refine w_puti dX4_begin_43 fw_X4_24 sh_279 rfl (fun m2 em2 => ?_)
    have hp := hp m2 em2
    refine v_aload_n dX4_begin_46 rfl rfl ?_
    refine v_iconst dX4_begin_47 ?_
    refine w_puti dX4_begin_48 fw_X4_27 sh_279 rfl (fun m3 em3 => ?_)
    have hp := hp m3 em3
    refine v_aload_n dX4_begin_51 rfl rfl ?_
    refine v_bipush dX4_begin_52 rfl ?_
    refine w_puti dX4_begin_54 fw_X4_30 sh_279 rfl (fun m4 em4 => ?_)
    have hp := hp m4 em4
    exact n_retV dX4_begin_57 rfl hp
  · have hp := hA q
    refine v_iconst dX4_begin_38 ?_
    refine v_goto (tgt := 43) dX4_begin_39 (by decide) ?_
    refine w_puti dX4_begin_43 fw_X4_24 sh_279 rfl (fun m5 em5 => ?_)
    have hp := hp m5 em5
    refine v_aload_n dX4_begin_46 rfl rfl ?_
    refine v_iconst dX4_begin_47 ?_
    refine w_puti dX4_begin_48 fw_X4_27 sh_279 rfl (fun m6 em6 => ?_)
    have hp := hp m6 em6
    refine v_aload_n dX4_begin_51 rfl rfl ?_
    refine v_bipush dX4_begin_52 rfl ?_
    refine w_puti dX4_begin_54 fw_X4_30 sh_279 rfl (fun m7 em7 => ?_)
    have hp := hp m7 em7
    exact n_retV dX4_begin_57 rfl hp
theorem g_X5_clear_0 {G : GG} {d : Nat} {m : MM} {k : MM → Prop} (c0 : Nat) (h0 : SH c0 = .inr 5)
    (hp : ∀ m1 : MM, m1 = upm m c0 0 0 → (∀ m2 : MM, m2 = upm m1 c0 5 0 → (∀ m3 : MM, m3 = upm m2 c0 6 (-1) → (∀ m4 : MM, m4 = upm m3 c0 8 (-1) → (k m4))))) :
    N G d mi_X5_clear 0 [some (vr c0)] [] m (RV k) := by
  refine v_aload_n dX5_clear_0 rfl rfl ?_
  refine v_iconst dX5_clear_1 ?_
  refine w_puti dX5_clear_2 fw_X5_9 h0 rfl (fun m1 em1 => ?_)
  have hp := hp m1 em1
  refine v_aload_n dX5_clear_5 rfl rfl ?_
  refine v_iconst dX5_clear_6 ?_
  refine w_puti dX5_clear_7 fw_X5_28 h0 rfl (fun m2 em2 => ?_)
  have hp := hp m2 em2
  refine v_aload_n dX5_clear_10 rfl rfl ?_
  refine v_iconst dX5_clear_11 ?_
  refine w_puti dX5_clear_12 fw_X5_31 h0 rfl (fun m3 em3 => ?_)
  have hp := hp m3 em3
  refine v_aload_n dX5_clear_15 rfl rfl ?_
  refine v_iconst dX5_clear_16 ?_
  refine w_puti dX5_clear_17 fw_X5_37 h0 rfl (fun m4 em4 => ?_)
  have hp := hp m4 em4
  exact n_retV dX5_clear_20 rfl hp
theorem g_X6_copyFrom_0 {G : GG} {d : Nat} {m : MM} {k : MM → Prop} (c0 : Nat) (h0 : SH c0 = .inr 6) (c1 : Nat) (h1 : SH c1 = .inr 6)
    (hp : ∀ m1 : MM, m1 = upm m c0 0 (m c1 0) → (∀ m2 : MM, m2 = cpm m1 (c1 + 1) 0 (c0 + 1) 0 8 → (∀ m3 : MM, m3 = upm m2 c0 2 (m2 c1 2) → (∀ m4 : MM, m4 = cpm m3 (c1 + 2) 0 (c0 + 2) 0 8 → (∀ m5 : MM, m5 = cpm m4 (c1 + 3) 0 (c0 + 3) 0 8 → (∀ m6 : MM, m6 = upm m5 c0 5 (m5 c1 5) → (∀ m7 : MM, m7 = upm m6 c0 6 (m6 c1 6) → (∀ m8 : MM, m8 = upm m7 c0 7 (m7 c1 7) → (∀ m9 : MM, m9 = upm m8 c0 8 (m8 c1 8) → (N G d mi_X0_copyFrom 0 [some (vr (c0 + 4)), some (vr (c1 + 4))] [] m9 (RV fun m11 => N G d mi_X1_copyFrom 0 [some (vr (c0 + 8)), some (vr (c1 + 8)), none] [] m11 (RV fun m13 => k m13)))))))))))) :
    N G (d + 1) mi_X6_copyFrom 0 [some (vr c0), some (vr c1)] [] m (RV k) := by
  refine v_aload_n dX6_copyFrom_0 rfl rfl ?_
  refine v_aload_n dX6_copyFrom_1 rfl rfl ?_
  refine n_geti dX6_copyFrom_2 fo_X6_9 h1 rfl ?_
  refine w_puti dX6_copyFrom_5 fw_X6_9 h0 rfl (fun m1 em1 => ?_)
  have hp := hp m1 em1
  refine v_aload_n dX6_copyFrom_8 rfl rfl ?_
  refine n_getr dX6_copyFrom_9 fo_X6_15 h1 rfl (kr6_1 h1) ?_
  refine v_iconst dX6_copyFrom_12 ?_
  refine v_aload_n dX6_copyFrom_13 rfl rfl ?_
  refine n_getr dX6_copyFrom_14 fo_X6_15 h0 rfl (kr6_1 h0) ?_
  refine v_iconst dX6_copyFrom_17 ?_
  refine v_bipush dX6_copyFrom_18 rfl ?_
  refine w_copy (sp := 0) (dp := 0) (n := 8) dX6_copyFrom_20 ml_X6_54 acW (kn6_1 h1) (kn6_1 h0) (by decide) (by decide) rfl rfl rfl (by decide) (by decide) (fun m2 em2 => ?_)
  have hp := hp m2 em2
  refine v_aload_n dX6_copyFrom_23 rfl rfl ?_
  refine v_aload_n dX6_copyFrom_24 rfl rfl ?_
  refine n_geti dX6_copyFrom_25 fo_X6_19 h1 rfl ?_
  refine w_puti dX6_copyFrom_28 fw_X6_19 h0 rfl (fun m3 em3 => ?_)
  have hp := hp m3 em3
  refine v_aload_n dX6_copyFrom_31 rfl rfl ?_
  refine n_getr dX6_copyFrom_32 fo_X6_22 h1 rfl (kr6_3 h1) ?_
  refine v_iconst dX6_copyFrom_35 ?_
  refine v_aload_n dX6_copyFrom_36 rfl rfl ?_
  refine n_getr dX6_copyFrom_37 fo_X6_22 h0 rfl (kr6_3 h0) ?_
  refine v_iconst dX6_copyFrom_40 ?_
  refine v_bipush dX6_copyFrom_41 rfl ?_
  refine w_copy (sp := 0) (dp := 0) (n := 8) dX6_copyFrom_43 ml_X6_54 acW (kn6_2 h1) (kn6_2 h0) (by decide) (by decide) rfl rfl rfl (by decide) (by decide) (fun m4 em4 => ?_)
  have hp := hp m4 em4
  refine v_aload_n dX6_copyFrom_46 rfl rfl ?_
  refine n_getr dX6_copyFrom_47 fo_X6_25 h1 rfl (kr6_4 h1) ?_
  refine v_iconst dX6_copyFrom_50 ?_
  refine v_aload_n dX6_copyFrom_51 rfl rfl ?_
  refine n_getr dX6_copyFrom_52 fo_X6_25 h0 rfl (kr6_4 h0) ?_
  refine v_iconst dX6_copyFrom_55 ?_
  refine v_bipush dX6_copyFrom_56 rfl ?_
  refine w_copy (sp := 0) (dp := 0) (n := 8) dX6_copyFrom_58 ml_X6_54 acW (kn6_3 h1) (kn6_3 h0) (by decide) (by decide) rfl rfl rfl (by decide) (by decide) (fun m5 em5 => ?_)
  have hp := hp m5 em5
  refine v_aload_n dX6_copyFrom_61 rfl rfl ?_
  refine v_aload_n dX6_copyFrom_62 rfl rfl ?_
  refine n_geti dX6_copyFrom_63 fo_X6_28 h1 rfl ?_
  refine w_puti dX6_copyFrom_66 fw_X6_28 h0 rfl (fun m6 em6 => ?_)
  have hp := hp m6 em6
  refine v_aload_n dX6_copyFrom_69 rfl rfl ?_
  refine v_aload_n dX6_copyFrom_70 rfl rfl ?_
  refine n_geti dX6_copyFrom_71 fo_X6_31 h1 rfl ?_
  refine w_puti dX6_copyFrom_74 fw_X6_31 h0 rfl (fun m7 em7 => ?_)
  have hp := hp m7 em7
  refine v_aload_n dX6_copyFrom_77 rfl rfl ?_
  refine v_aload_n dX6_copyFrom_78 rfl rfl ?_
  refine n_geti dX6_copyFrom_79 fo_X6_34 h1 rfl ?_
  refine w_puti dX6_copyFrom_82 fw_X6_34 h0 rfl (fun m8 em8 => ?_)
  have hp := hp m8 em8
  refine v_aload_n dX6_copyFrom_85 rfl rfl ?_
  refine v_aload_n dX6_copyFrom_86 rfl rfl ?_
  refine n_geti dX6_copyFrom_87 fo_X6_37 h1 rfl ?_
  refine w_puti dX6_copyFrom_90 fw_X6_37 h0 rfl (fun m9 em9 => ?_)
  have hp := hp m9 em9
  refine v_aload_n dX6_copyFrom_93 rfl rfl ?_
  refine n_getr dX6_copyFrom_94 fo_X6_43 h0 rfl (kr6_9 h0) ?_
  refine v_aload_n dX6_copyFrom_97 rfl rfl ?_
  refine n_getr dX6_copyFrom_98 fo_X6_43 h1 rfl (kr6_9 h1) ?_
  refine n_callVV (As := [vr (c1 + 4)]) (st := []) dX6_copyFrom_101 ml_X6_60 mo_X0_copyFrom mv_X0_copyFrom (kn6_4 h0) rfl rfl rfl rfl (Nat.le_of_ble_eq_true rfl) (Nat.le_of_ble_eq_true rfl) (by decide) hp (fun m11 hp => ?_)
  refine v_aload_n dX6_copyFrom_104 rfl rfl ?_
  refine n_getr dX6_copyFrom_105 fo_X6_50 h0 rfl (kr6_10 h0) ?_
  refine v_aload_n dX6_copyFrom_108 rfl rfl ?_
  refine n_getr dX6_copyFrom_109 fo_X6_50 h1 rfl (kr6_10 h1) ?_
  refine n_callVV (As := [vr (c1 + 8)]) (st := []) dX6_copyFrom_112 ml_X6_64 mo_X1_copyFrom mv_X1_copyFrom (kn6_8 h0) rfl rfl rfl rfl (Nat.le_of_ble_eq_true rfl) (Nat.le_of_ble_eq_true rfl) (by decide) hp (fun m13 hp => ?_)
  exact n_retV dX6_copyFrom_115 rfl hp
theorem g_X0_move_0 {G : GG} {d : Nat} {m : MM} {k : MM → Prop} (c0 : Nat) (h0 : SH c0 = .inr 0) (x1 : Int) (x2 : Int)
    (hp : ∃ j2 : Nat, (x1 = (j2 : Int) ∧ j2 < 8) ∧ (∀ m1 : MM, m1 = upm m (c0 + 1) j2 x2 → (∃ j4 : Nat, (x1 = (j4 : Int) ∧ j4 < 8) ∧ (∀ m3 : MM, m3 = upm m1 (c0 + 2) j4 (m1 c0 0) → (k m3))))) :
    N G d mi_X0_move 0 [some (vr c0), some (vi x1), some (vi x2)] [] m (RV k) := by
  refine v_aload_n dX0_move_0 rfl rfl ?_
  refine n_getr dX0_move_1 fo_X0_15 h0 rfl (kr0_1 h0) ?_
  refine v_iload_n dX0_move_4 rfl rfl ?_
  refine v_iload_n dX0_move_5 rfl rfl ?_
  obtain ⟨j2, ⟨ej2, bj2⟩, hp⟩ := hp
  refine w_iast (j := j2) dX0_move_6 (kn0_1 h0) ej2 bj2 (fun m1 em1 => ?_)
  have hp := hp m1 em1
  refine v_aload_n dX0_move_7 rfl rfl ?_
  refine n_getr dX0_move_8 fo_X0_19 h0 rfl (kr0_2 h0) ?_
  refine v_iload_n dX0_move_11 rfl rfl ?_
  refine v_aload_n dX0_move_12 rfl rfl ?_
  refine n_geti dX0_move_13 fo_X0_9 h0 rfl ?_
  obtain ⟨j4, ⟨ej4, bj4⟩, hp⟩ := hp
  refine w_iast (j := j4) dX0_move_16 (kn0_2 h0) ej4 bj4 (fun m3 em3 => ?_)
  have hp := hp m3 em3
  exact n_retV dX0_move_17 rfl hp
theorem g_X1_takeBack_0 {G : GG} {d : Nat} {m : MM} {k : Int → MM → Prop} (c0 : Nat) (h0 : SH c0 = .inr 1) (c1 : Nat) (h1 : SH c1 = .inr 0)
    (hp : bEQ (m c0 2) 0 (k 0 m) (∀ m1 : MM, m1 = upm m c0 2 ((m c0 2) - 1) → (∀ m2 : MM, m2 = upm m1 c0 1 (irem (((m1 c0 1) + 30) - 1) 30) → (∃ j3 : Nat, ((m2 c0 1) = (j3 : Int) ∧ j3 < 30) ∧ (N G d mi_X0_copyFrom 0 [some (vr c1), some (vr (c0 + 2 + 4 * j3))] [] m2 (RV fun m5 => k 1 m5)))))) :
    N G (d + 1) mi_X1_takeBack 0 [some (vr c0), some (vr c1)] [] m (RI k) := by
  refine v_aload_n dX1_takeBack_0 rfl rfl ?_
  refine n_geti dX1_takeBack_1 fo_X1_21 h0 rfl ?_
  obtain ⟨⟨r1, r2⟩, hA, hB⟩ := hp
  refine v_if_ne (tgt := 9) dX1_takeBack_4 (by decide) r1 (fun q => ?_) (fun q => ?_)
  · have hp := hB q
    refine v_aload_n dX1_takeBack_9 rfl rfl ?_
    refine v_dupr dX1_takeBack_10 ?_
    refine n_geti dX1_takeBack_11 fo_X1_21 h0 rfl ?_
    refine v_iconst dX1_takeBack_14 ?_
    refine v_isub dX1_takeBack_15 ?_
    refine w_puti dX1_takeBack_16 fw_X1_21 h0 rfl (fun m1 em1 => ?_)
    have hp := hp m1 em1
    refine v_aload_n dX1_takeBack_19 rfl rfl ?_
    refine v_aload_n dX1_takeBack_20 rfl rfl ?_
    refine n_geti dX1_takeBack_21 fo_X1_17 h0 rfl ?_
    refine v_bipush dX1_takeBack_24 rfl ?_
    refine v_iadd dX1_takeBack_26 ?_
    refine v_iconst dX1_takeBack_27 ?_
    refine v_isub dX1_takeBack_28 ?_
    refine v_bipush dX1_takeBack_29 rfl ?_
    refine w_irem dX1_takeBack_31 (by decide) (by decide) ?_
    refine w_puti dX1_takeBack_32 fw_X1_17 h0 rfl (fun m2 em2 => ?_)
    have hp := hp m2 em2
    refine v_aload_n dX1_takeBack_35 rfl rfl ?_
    refine v_aload_n dX1_takeBack_36 rfl rfl ?_
    refine n_getr dX1_takeBack_37 fo_X1_11 h0 rfl (kr1_0 h0) ?_
    refine v_aload_n dX1_takeBack_40 rfl rfl ?_
    refine n_geti dX1_takeBack_41 fo_X1_17 h0 rfl ?_
    obtain ⟨j3, ⟨ej3, bj3⟩, hp⟩ := hp
    refine n_aald4 (j := j3) dX1_takeBack_44 (kn1_1 h0) ej3 bj3 (pa_r h0 j3) ?_
    refine n_callVV (As := [vr (c0 + 2 + 4 * j3)]) (st := []) dX1_takeBack_45 ml_X1_25 mo_X0_copyFrom mv_X0_copyFrom h1 rfl rfl rfl rfl (Nat.le_of_ble_eq_true rfl) (Nat.le_of_ble_eq_true rfl) (by decide) hp (fun m5 hp => ?_)
    refine v_iconst dX1_takeBack_48 ?_
    exact n_retZ dX1_takeBack_49 rfl (by decide) hp
  · have hp := hA q
    refine v_iconst dX1_takeBack_7 ?_
    exact n_retZ dX1_takeBack_8 rfl (by decide) hp
theorem g_X2_hasMore_0 {G : GG} {d : Nat} {m : MM} {k : Int → MM → Prop} 
    (hp : bLE (m 2 5) (m 2 6) (k 0 m) (k 1 m)) :
    N G d mi_X2_hasMore 0 [some (vr 2)] [] m (RI k) := by
  refine v_aload_n dX2_hasMore_0 rfl rfl ?_
  refine n_geti dX2_hasMore_1 fo_X2_31 sh_2 rfl ?_
  refine v_aload_n dX2_hasMore_4 rfl rfl ?_
  refine n_geti dX2_hasMore_5 fo_X2_28 sh_2 rfl ?_
  obtain ⟨⟨r1, r2⟩, hA, hB⟩ := hp
  refine v_icmp_ge (tgt := 15) dX2_hasMore_8 (by decide) r2 r1 (fun q => ?_) (fun q => ?_)
  · have hp := hA q
    refine v_iconst dX2_hasMore_15 ?_
    exact n_retZ dX2_hasMore_16 rfl (by decide) hp
  · have hp := hB q
    refine v_iconst dX2_hasMore_11 ?_
    refine v_goto (tgt := 16) dX2_hasMore_12 (by decide) ?_
    exact n_retZ dX2_hasMore_16 rfl (by decide) hp
theorem g_X3_nameTimes_0 {G : GG} {d : Nat} {m : MM} {k : MM → Prop} (x1 : Int) (x2 : Int) (x3 : Int)
    (hp : ∀ m1 : MM, m1 = upm m 277 3 x1 → (∀ m2 : MM, m2 = upm m1 277 4 x2 → (∀ m3 : MM, m3 = upm m2 277 5 x3 → (k m3)))) :
    N G d mi_X3_nameTimes 0 [some (vr 276), some (vi x1), some (vi x2), some (vi x3)] [] m (RV k) := by
  refine v_aload_n dX3_nameTimes_0 rfl rfl ?_
  refine n_getr dX3_nameTimes_1 fo_X3_9 sh_276 rfl sr_276_0 ?_
  refine v_iconst dX3_nameTimes_4 ?_
  refine v_iload_n dX3_nameTimes_5 rfl rfl ?_
  refine w_iast (j := 3) dX3_nameTimes_6 sh_277 rfl (by decide) (fun m1 em1 => ?_)
  have hp := hp m1 em1
  refine v_aload_n dX3_nameTimes_7 rfl rfl ?_
  refine n_getr dX3_nameTimes_8 fo_X3_9 sh_276 rfl sr_276_0 ?_
  refine v_iconst dX3_nameTimes_11 ?_
  refine v_iload_n dX3_nameTimes_12 rfl rfl ?_
  refine w_iast (j := 4) dX3_nameTimes_13 sh_277 rfl (by decide) (fun m2 em2 => ?_)
  have hp := hp m2 em2
  refine v_aload_n dX3_nameTimes_14 rfl rfl ?_
  refine n_getr dX3_nameTimes_15 fo_X3_9 sh_276 rfl sr_276_0 ?_
  refine v_iconst dX3_nameTimes_18 ?_
  refine v_iload_n dX3_nameTimes_19 rfl rfl ?_
  refine w_iast (j := 5) dX3_nameTimes_20 sh_277 rfl (by decide) (fun m3 em3 => ?_)
  have hp := hp m3 em3
  exact n_retV dX3_nameTimes_21 rfl hp
theorem g_X4_found_0 {G : GG} {d : Nat} {m : MM} {k : MM → Prop} (x1 : Int) (x2 : Int)
    (hp : bEQ (m 279 5) 0 (∀ m1 : MM, m1 = cpm m 280 0 281 0 3 → (N G (d + 1) mi_X4_found 21 [some (vr 279), some (vi x1), some (vi x2), none] [] m1 (RV k))) (N G (d + 1) mi_X4_found 21 [some (vr 279), some (vi x1), some (vi x2), none] [] m (RV k))) :
    N G (d + 1) mi_X4_found 0 [some (vr 279), some (vi x1), some (vi x2), none] [] m (RV k) := by
  refine v_aload_n dX4_found_0 rfl rfl ?_
  refine n_geti dX4_found_1 fo_X4_27 sh_279 rfl ?_
  obtain ⟨⟨r1, r2⟩, hA, hB⟩ := hp
  refine v_if_ne (tgt := 21) dX4_found_4 (by decide) r1 (fun q => ?_) (fun q => ?_)
  · have hp := hB q
    exact hp
  · have hp := hA q
    refine v_aload_n dX4_found_7 rfl rfl ?_
    refine n_getr dX4_found_8 fo_X4_33 sh_279 rfl sr_279_7 ?_
    refine v_iconst dX4_found_11 ?_
    refine v_aload_n dX4_found_12 rfl rfl ?_
    refine n_getr dX4_found_13 fo_X4_37 sh_279 rfl sr_279_8 ?_
    refine v_iconst dX4_found_16 ?_
    refine v_iconst dX4_found_17 ?_
    refine w_copy (sp := 0) (dp := 0) (n := 3) dX4_found_18 ml_X4_40 acW sh_280 sh_281 (by decide) (by decide) rfl rfl rfl (by decide) (by decide) (fun m1 em1 => ?_)
    have hp := hp m1 em1
    exact hp
theorem g_X4_found_21 {G : GG} {d : Nat} {m : MM} {k : MM → Prop} (x1 : Int) (x2 : Int)
    (hp : ∀ m1 : MM, m1 = upm m 279 5 ((m 279 5) + x1) → (bEQ (iand x2 1) 1 (N G (d + 1) mi_X4_found 48 [some (vr 279), none, some (vi x2), none] [vi (ishl 1 (m1 279 2))] m1 (RV k)) (N G (d + 1) mi_X4_found 48 [some (vr 279), none, some (vi x2), none] [vi 0] m1 (RV k)))) :
    N G (d + 1) mi_X4_found 21 [some (vr 279), some (vi x1), some (vi x2), none] [] m (RV k) := by
  refine v_aload_n dX4_found_21 rfl rfl ?_
  refine v_dupr dX4_found_22 ?_
  refine n_geti dX4_found_23 fo_X4_27 sh_279 rfl ?_
  refine v_iload_n dX4_found_26 rfl rfl ?_
  refine v_iadd dX4_found_27 ?_
  refine w_puti dX4_found_28 fw_X4_27 sh_279 rfl (fun m1 em1 => ?_)
  have hp := hp m1 em1
  refine v_iload_n dX4_found_31 rfl rfl ?_
  refine v_iconst dX4_found_32 ?_
  refine v_iand dX4_found_33 ?_
  refine v_iconst dX4_found_34 ?_
  obtain ⟨⟨r1, r2⟩, hA, hB⟩ := hp
  refine v_icmp_ne (tgt := 47) dX4_found_35 (by decide) r1 r2 (fun q => ?_) (fun q => ?_)
  · have hp := hB q
    refine v_iconst dX4_found_47 ?_
    exact n_weak (wk_s (wk_n (wk_s (wk_s wk_nil)))) hp
  · have hp := hA q
    refine v_iconst dX4_found_38 ?_
    refine v_aload_n dX4_found_39 rfl rfl ?_
    refine n_geti dX4_found_40 fo_X4_18 sh_279 rfl ?_
    refine v_ishl dX4_found_43 ?_
    refine v_goto (tgt := 48) dX4_found_44 (by decide) ?_
    exact n_weak (wk_s (wk_n (wk_s (wk_s wk_nil)))) hp
theorem g_X4_found_48 {G : GG} {d : Nat} {m : MM} {k : MM → Prop} (x2 : Int) (s0 : Int)
    (hp : bEQ (iand x2 2) 2 (bEQ (m 279 3) 1 (∀ m3 : MM, m3 = upm m 279 6 (iand (m 279 6) (ior s0 (ishl 1 (m 279 4)))) → (k m3)) (∀ m2 : MM, m2 = upm m 279 6 (iand (m 279 6) s0) → (k m2))) (∀ m1 : MM, m1 = upm m 279 6 (iand (m 279 6) s0) → (k m1))) :
    N G (d + 1) mi_X4_found 48 [some (vr 279), none, some (vi x2), none] [vi s0] m (RV k) := by
  refine v_istore_n dX4_found_48 rfl (by decide) ?_
  refine v_iload_n dX4_found_49 rfl rfl ?_
  refine v_iconst dX4_found_50 ?_
  refine v_iand dX4_found_51 ?_
  refine v_iconst dX4_found_52 ?_
  obtain ⟨⟨r1, r2⟩, hA, hB⟩ := hp
  refine v_icmp_ne (tgt := 73) dX4_found_53 (by decide) r1 r2 (fun q => ?_) (fun q => ?_)
  · have hp := hB q
    refine v_aload_n dX4_found_73 rfl rfl ?_
    refine v_dupr dX4_found_74 ?_
    refine n_geti dX4_found_75 fo_X4_30 sh_279 rfl ?_
    refine v_iload_n dX4_found_78 rfl rfl ?_
    refine v_iand dX4_found_79 ?_
    refine w_puti dX4_found_80 fw_X4_30 sh_279 rfl (fun m1 em1 => ?_)
    have hp := hp m1 em1
    exact n_retV dX4_found_83 rfl hp
  · have hp := hA q
    refine v_aload_n dX4_found_56 rfl rfl ?_
    refine n_geti dX4_found_57 fo_X4_21 sh_279 rfl ?_
    refine v_iconst dX4_found_60 ?_
    obtain ⟨⟨r1, r2⟩, hA, hB⟩ := hp
    refine v_icmp_ne (tgt := 73) dX4_found_61 (by decide) r1 r2 (fun q => ?_) (fun q => ?_)
    · have hp := hB q
      refine v_aload_n dX4_found_73 rfl rfl ?_
      refine v_dupr dX4_found_74 ?_
      refine n_geti dX4_found_75 fo_X4_30 sh_279 rfl ?_
      refine v_iload_n dX4_found_78 rfl rfl ?_
      refine v_iand dX4_found_79 ?_
      refine w_puti dX4_found_80 fw_X4_30 sh_279 rfl (fun m2 em2 => ?_)
      have hp := hp m2 em2
      exact n_retV dX4_found_83 rfl hp
    · have hp := hA q
      refine v_iload_n dX4_found_64 rfl rfl ?_
      refine v_iconst dX4_found_65 ?_
      refine v_aload_n dX4_found_66 rfl rfl ?_
      refine n_geti dX4_found_67 fo_X4_24 sh_279 rfl ?_
      refine v_ishl dX4_found_70 ?_
      refine v_ior dX4_found_71 ?_
      refine v_istore_n dX4_found_72 rfl (by decide) ?_
      refine v_aload_n dX4_found_73 rfl rfl ?_
      refine v_dupr dX4_found_74 ?_
      refine n_geti dX4_found_75 fo_X4_30 sh_279 rfl ?_
      refine v_iload_n dX4_found_78 rfl rfl ?_
      refine v_iand dX4_found_79 ?_
      refine w_puti dX4_found_80 fw_X4_30 sh_279 rfl (fun m3 em3 => ?_)
      have hp := hp m3 em3
      exact n_retV dX4_found_83 rfl hp
theorem g_X5_isDeed_0 {G : GG} {d : Nat} {m : MM} {k : Int → MM → Prop} (c0 : Nat) (h0 : SH c0 = .inr 5) (x1 : Int)
    (hp : ∃ j1 : Nat, (x1 = (j1 : Int) ∧ j1 < 24) ∧ (bEQ (m (c0 + 1) j1) 0 (k 0 m) (∃ j2 : Nat, (x1 = (j2 : Int) ∧ j2 < 24) ∧ (bEQ (m (c0 + 1) j2) 1 (k 0 m) (k 1 m))))) :
    N G d mi_X5_isDeed 0 [some (vr c0), some (vi x1)] [] m (RI k) := by
  refine v_aload_n dX5_isDeed_0 rfl rfl ?_
  refine n_getr dX5_isDeed_1 fo_X5_15 h0 rfl (kr5_1 h0) ?_
  refine v_iload_n dX5_isDeed_4 rfl rfl ?_
  obtain ⟨j1, ⟨ej1, bj1⟩, hp⟩ := hp
  refine n_iald (j := j1) dX5_isDeed_5 (kn5_1 h0) ej1 bj1 ?_
  obtain ⟨⟨r1, r2⟩, hA, hB⟩ := hp
  refine v_if_eq (tgt := 23) dX5_isDeed_6 (by decide) r1 (fun q => ?_) (fun q => ?_)
  · have hp := hA q
    refine v_iconst dX5_isDeed_23 ?_
    exact n_retZ dX5_isDeed_24 rfl (by decide) hp
  · have hp := hB q
    refine v_aload_n dX5_isDeed_9 rfl rfl ?_
    refine n_getr dX5_isDeed_10 fo_X5_15 h0 rfl (kr5_1 h0) ?_
    refine v_iload_n dX5_isDeed_13 rfl rfl ?_
    obtain ⟨j2, ⟨ej2, bj2⟩, hp⟩ := hp
    refine n_iald (j := j2) dX5_isDeed_14 (kn5_1 h0) ej2 bj2 ?_
    refine v_iconst dX5_isDeed_15 ?_
    obtain ⟨⟨r1, r2⟩, hA, hB⟩ := hp
    refine v_icmp_eq (tgt := 23) dX5_isDeed_16 (by decide) r1 r2 (fun q => ?_) (fun q => ?_)
    · have hp := hA q
      refine v_iconst dX5_isDeed_23 ?_
      exact n_retZ dX5_isDeed_24 rfl (by decide) hp
    · have hp := hB q
      refine v_iconst dX5_isDeed_19 ?_
      refine v_goto (tgt := 24) dX5_isDeed_20 (by decide) ?_
      exact n_retZ dX5_isDeed_24 rfl (by decide) hp
theorem g_X0_exchange_0 {G : GG} {d : Nat} {m : MM} {k : MM → Prop} (c0 : Nat) (h0 : SH c0 = .inr 0) (x1 : Int) (x2 : Int)
    (hp : ∃ j1 : Nat, (x1 = (j1 : Int) ∧ j1 < 8) ∧ (∃ j2 : Nat, (x2 = (j2 : Int) ∧ j2 < 8) ∧ (N G d mi_X0_move 0 [some (vr c0), some (vi x1), some (vi (m (c0 + 1) j2))] [] m (RV fun m4 => N G d mi_X0_move 0 [some (vr c0), some (vi x2), some (vi (m (c0 + 1) j1))] [] m4 (RV fun m6 => k m6))))) :
    N G (d + 1) mi_X0_exchange 0 [some (vr c0), some (vi x1), some (vi x2), none] [] m (RV k) := by
  refine v_aload_n dX0_exchange_0 rfl rfl ?_
  refine n_getr dX0_exchange_1 fo_X0_15 h0 rfl (kr0_1 h0) ?_
  refine v_iload_n dX0_exchange_4 rfl rfl ?_
  obtain ⟨j1, ⟨ej1, bj1⟩, hp⟩ := hp
  refine n_iald (j := j1) dX0_exchange_5 (kn0_1 h0) ej1 bj1 ?_
  refine v_istore_n dX0_exchange_6 rfl (by decide) ?_
  refine v_aload_n dX0_exchange_7 rfl rfl ?_
  refine v_iload_n dX0_exchange_8 rfl rfl ?_
  refine v_aload_n dX0_exchange_9 rfl rfl ?_
  refine n_getr dX0_exchange_10 fo_X0_15 h0 rfl (kr0_1 h0) ?_
  refine v_iload_n dX0_exchange_13 rfl rfl ?_
  obtain ⟨j2, ⟨ej2, bj2⟩, hp⟩ := hp
  refine n_iald (j := j2) dX0_exchange_14 (kn0_1 h0) ej2 bj2 ?_
  refine n_callVV (As := [vi x1, vi (m (c0 + 1) j2)]) (st := []) dX0_exchange_15 ml_X0_37 mo_X0_move mv_X0_move h0 rfl rfl rfl rfl (Nat.le_of_ble_eq_true rfl) (Nat.le_of_ble_eq_true rfl) (by decide) hp (fun m4 hp => ?_)
  refine v_aload_n dX0_exchange_18 rfl rfl ?_
  refine v_iload_n dX0_exchange_19 rfl rfl ?_
  refine v_iload_n dX0_exchange_20 rfl rfl ?_
  refine n_callVV (As := [vi x2, vi (m (c0 + 1) j1)]) (st := []) dX0_exchange_21 ml_X0_37 mo_X0_move mv_X0_move h0 rfl rfl rfl rfl (Nat.le_of_ble_eq_true rfl) (Nat.le_of_ble_eq_true rfl) (by decide) hp (fun m6 hp => ?_)
  exact n_retV dX0_exchange_24 rfl hp
theorem g_X1_copyFrom_0 {G : GG} {d : Nat} {m : MM} {k : MM → Prop} (c0 : Nat) (h0 : SH c0 = .inr 1) (c1 : Nat) (h1 : SH c1 = .inr 1)
    (hp : N G (d + 1) mi_X1_copyFrom 2 [some (vr c0), some (vr c1), some (vi 0)] [] m (RV k)) :
    N G (d + 1) mi_X1_copyFrom 0 [some (vr c0), some (vr c1), none] [] m (RV k) := by
  refine v_iconst dX1_copyFrom_0 ?_
  refine v_istore_n dX1_copyFrom_1 rfl (by decide) ?_
  exact hp
theorem g_X1_copyFrom_2 {G : GG} {d : Nat} {m : MM} {k : MM → Prop} (c0 : Nat) (h0 : SH c0 = .inr 1) (c1 : Nat) (h1 : SH c1 = .inr 1) (x2 : Int)
    (hp : bLE 30 x2 (∀ m1 : MM, m1 = upm m c0 1 (m c1 1) → (∀ m2 : MM, m2 = upm m1 c0 2 (m1 c1 2) → (k m2))) (∃ j3 : Nat, (x2 = (j3 : Int) ∧ j3 < 30) ∧ (∃ j4 : Nat, (x2 = (j4 : Int) ∧ j4 < 30) ∧ (N G d mi_X0_copyFrom 0 [some (vr (c0 + 2 + 4 * j3)), some (vr (c1 + 2 + 4 * j4))] [] m (RV fun m6 => N G (d + 1) mi_X1_copyFrom 2 [some (vr c0), some (vr c1), some (vi (x2 + 1))] [] m6 (RV k)))))) :
    N G (d + 1) mi_X1_copyFrom 2 [some (vr c0), some (vr c1), some (vi x2)] [] m (RV k) := by
  refine v_iload_n dX1_copyFrom_2 rfl rfl ?_
  refine v_bipush dX1_copyFrom_3 rfl ?_
  obtain ⟨⟨r1, r2⟩, hA, hB⟩ := hp
  refine v_icmp_ge (tgt := 29) dX1_copyFrom_5 (by decide) r2 r1 (fun q => ?_) (fun q => ?_)
  · have hp := hA q
    refine v_aload_n dX1_copyFrom_29 rfl rfl ?_
    refine v_aload_n dX1_copyFrom_30 rfl rfl ?_
    refine n_geti dX1_copyFrom_31 fo_X1_17 h1 rfl ?_
    refine w_puti dX1_copyFrom_34 fw_X1_17 h0 rfl (fun m1 em1 => ?_)
    have hp := hp m1 em1
    refine v_aload_n dX1_copyFrom_37 rfl rfl ?_
    refine v_aload_n dX1_copyFrom_38 rfl rfl ?_
    refine n_geti dX1_copyFrom_39 fo_X1_21 h1 rfl ?_
    refine w_puti dX1_copyFrom_42 fw_X1_21 h0 rfl (fun m2 em2 => ?_)
    have hp := hp m2 em2
    exact n_retV dX1_copyFrom_45 rfl hp
  · have hp := hB q
    refine v_aload_n dX1_copyFrom_8 rfl rfl ?_
    refine n_getr dX1_copyFrom_9 fo_X1_11 h0 rfl (kr1_0 h0) ?_
    refine v_iload_n dX1_copyFrom_12 rfl rfl ?_
    obtain ⟨j3, ⟨ej3, bj3⟩, hp⟩ := hp
    refine n_aald4 (j := j3) dX1_copyFrom_13 (kn1_1 h0) ej3 bj3 (pa_r h0 j3) ?_
    refine v_aload_n dX1_copyFrom_14 rfl rfl ?_
    refine n_getr dX1_copyFrom_15 fo_X1_11 h1 rfl (kr1_0 h1) ?_
    refine v_iload_n dX1_copyFrom_18 rfl rfl ?_
    obtain ⟨j4, ⟨ej4, bj4⟩, hp⟩ := hp
    refine n_aald4 (j := j4) dX1_copyFrom_19 (kn1_1 h1) ej4 bj4 (pa_r h1 j4) ?_
    refine n_callVV (As := [vr (c1 + 2 + 4 * j4)]) (st := []) dX1_copyFrom_20 ml_X1_25 mo_X0_copyFrom mv_X0_copyFrom (pa_c h0 bj3) rfl rfl rfl rfl (Nat.le_of_ble_eq_true rfl) (Nat.le_of_ble_eq_true rfl) (by decide) hp (fun m6 hp => ?_)
    refine v_iinc dX1_copyFrom_23 rfl (by decide) ?_
    refine v_goto (tgt := 2) dX1_copyFrom_26 (by decide) ?_
    exact hp
theorem g_X2_scan_0 {G : GG} {d : Nat} {m : MM} {k : MM → Prop} (x2 : Int)
    (hp : N G (d + 1) mi_X2_scan 5 [some (vr 2), some (vr 1), some (vi x2), some (vi 0), some (vi 0), none] [] m (RV k)) :
    N G (d + 1) mi_X2_scan 0 [some (vr 2), some (vr 1), some (vi x2), none, none, none] [] m (RV k) := by
  refine v_iconst dX2_scan_0 ?_
  refine v_istore_n dX2_scan_1 rfl (by decide) ?_
  refine v_iconst dX2_scan_2 ?_
  refine v_istore dX2_scan_3 (by decide) ?_
  exact hp
theorem g_X2_scan_5 {G : GG} {d : Nat} {m : MM} {k : MM → Prop} (x2 : Int) (x3 : Int) (x4 : Int)
    (hp : bLE x2 x4 (N G (d + 1) mi_X2_scan 111 [some (vr 2), none, some (vi x2), some (vi x3), none, none] [] m (RV k)) (bLE 300 x3 (N G (d + 1) mi_X2_scan 111 [some (vr 2), none, some (vi x2), some (vi x3), none, none] [] m (RV k)) (∃ j1 : Nat, (x4 = (j1 : Int) ∧ j1 < 300) ∧ (bEQ (m 1 j1) 32 (N G (d + 1) mi_X2_scan 5 [some (vr 2), some (vr 1), some (vi x2), some (vi x3), some (vi (x4 + 1)), none] [] m (RV k)) (∃ j2 : Nat, (x4 = (j2 : Int) ∧ j2 < 300) ∧ (bEQ (m 1 j2) 10 (N G (d + 1) mi_X2_scan 5 [some (vr 2), some (vr 1), some (vi x2), some (vi x3), some (vi (x4 + 1)), none] [] m (RV k)) (N G d mi_X2_runEnd 0 [some (vr 1), some (vi x4), some (vi x2), none] [] m (RI fun z3 m4 => ∃ j6 : Nat, (x3 = (j6 : Int) ∧ j6 < 301) ∧ (∀ m5 : MM, m5 = upm m4 4 j6 x4 → (∃ j7 : Nat, (x4 = (j7 : Int) ∧ j7 < 300) ∧ (N G d mi_X2_isDigit 0 [some (vi (m5 1 j7))] [] m5 (RI fun z8 m9 => bEQ z8 0 (N G (d + 1) mi_X2_scan 86 [some (vr 2), some (vr 1), some (vi x2), some (vi x3), some (vi x4), some (vi z3)] [vi 0, vi x3, vr 5] m9 (RV k)) (N G d mi_X2_numberOf 0 [some (vr 1), some (vi x4), some (vi z3), none, none] [] m9 (RI fun z10 m11 => N G (d + 1) mi_X2_scan 86 [some (vr 2), some (vr 1), some (vi x2), some (vi x3), some (vi x4), some (vi z3)] [vi z10, vi x3, vr 5] m11 (RV k))))))))))))))) :
    N G (d + 1) mi_X2_scan 5 [some (vr 2), some (vr 1), some (vi x2), some (vi x3), some (vi x4), none] [] m (RV k) := by
  refine v_iload dX2_scan_5 rfl ?_
  refine v_iload_n dX2_scan_7 rfl rfl ?_
  obtain ⟨⟨r1, r2⟩, hA, hB⟩ := hp
  refine v_icmp_ge (tgt := 111) dX2_scan_8 (by decide) r2 r1 (fun q => ?_) (fun q => ?_)
  · have hp := hA q
    exact n_weak (wk_s (wk_n (wk_s (wk_s (wk_n (wk_s wk_nil)))))) hp
  · have hp := hB q
    refine v_iload_n dX2_scan_11 rfl rfl ?_
    refine v_sipush dX2_scan_12 rfl ?_
    obtain ⟨⟨r1, r2⟩, hA, hB⟩ := hp
    refine v_icmp_ge (tgt := 111) dX2_scan_15 (by decide) r2 r1 (fun q => ?_) (fun q => ?_)
    · have hp := hA q
      exact n_weak (wk_s (wk_n (wk_s (wk_s (wk_n (wk_s wk_nil)))))) hp
    · have hp := hB q
      refine v_aload_n dX2_scan_18 rfl rfl ?_
      refine v_iload dX2_scan_19 rfl ?_
      obtain ⟨j1, ⟨ej1, bj1⟩, hp⟩ := hp
      refine n_bald (j := j1) dX2_scan_21 sh_1 ej1 bj1 ?_
      refine v_bipush dX2_scan_22 rfl ?_
      obtain ⟨⟨r1, r2⟩, hA, hB⟩ := hp
      refine v_icmp_eq (tgt := 36) dX2_scan_24 (by decide) r1 r2 (fun q => ?_) (fun q => ?_)
      · have hp := hA q
        refine v_iinc dX2_scan_36 rfl (by decide) ?_
        refine v_goto (tgt := 5) dX2_scan_39 (by decide) ?_
        exact hp
      · have hp := hB q
        refine v_aload_n dX2_scan_27 rfl rfl ?_
        refine v_iload dX2_scan_28 rfl ?_
        obtain ⟨j2, ⟨ej2, bj2⟩, hp⟩ := hp
        refine n_bald (j := j2) dX2_scan_30 sh_1 ej2 bj2 ?_
        refine v_bipush dX2_scan_31 rfl ?_
        obtain ⟨⟨r1, r2⟩, hA, hB⟩ := hp
        refine v_icmp_ne (tgt := 42) dX2_scan_33 (by decide) r1 r2 (fun q => ?_) (fun q => ?_)
        · have hp := hB q
          refine v_aload_n dX2_scan_42 rfl rfl ?_
          refine v_iload dX2_scan_43 rfl ?_
          refine v_iload_n dX2_scan_45 rfl rfl ?_
          refine n_callSI (As := [vr 1, vi x4, vi x2]) (st := []) dX2_scan_46 ml_X2_57 mo_X2_runEnd ms_X2_runEnd rfl rfl (Nat.le_of_ble_eq_true rfl) (Nat.le_of_ble_eq_true rfl) (by decide) hp (fun z3 m4 hp => ?_)
          refine v_istore dX2_scan_49 (by decide) ?_
          refine v_aload_n dX2_scan_51 rfl rfl ?_
          refine n_getr dX2_scan_52 fo_X2_22 sh_2 rfl sr_2_3 ?_
          refine v_iload_n dX2_scan_55 rfl rfl ?_
          refine v_iload dX2_scan_56 rfl ?_
          obtain ⟨j6, ⟨ej6, bj6⟩, hp⟩ := hp
          refine w_iast (j := j6) dX2_scan_58 sh_4 ej6 bj6 (fun m5 em5 => ?_)
          have hp := hp m5 em5
          refine v_aload_n dX2_scan_59 rfl rfl ?_
          refine n_getr dX2_scan_60 fo_X2_25 sh_2 rfl sr_2_4 ?_
          refine v_iload_n dX2_scan_63 rfl rfl ?_
          refine v_aload_n dX2_scan_64 rfl rfl ?_
          refine v_iload dX2_scan_65 rfl ?_
          obtain ⟨j7, ⟨ej7, bj7⟩, hp⟩ := hp
          refine n_bald (j := j7) dX2_scan_67 sh_1 ej7 bj7 ?_
          refine n_callSI (As := [vi (m5 1 j7)]) (st := [vi x3, vr 5]) dX2_scan_68 ml_X2_61 mo_X2_isDigit ms_X2_isDigit rfl rfl (Nat.le_of_ble_eq_true rfl) (Nat.le_of_ble_eq_true rfl) (by decide) hp (fun z8 m9 hp => ?_)
          obtain ⟨⟨r1, r2⟩, hA, hB⟩ := hp
          refine v_if_eq (tgt := 85) dX2_scan_71 (by decide) r1 (fun q => ?_) (fun q => ?_)
          · have hp := hA q
            refine v_iconst dX2_scan_85 ?_
            exact hp
          · have hp := hB q
            refine v_aload_n dX2_scan_74 rfl rfl ?_
            refine v_iload dX2_scan_75 rfl ?_
            refine v_iload dX2_scan_77 rfl ?_
            refine n_callSI (As := [vr 1, vi x4, vi z3]) (st := [vi x3, vr 5]) dX2_scan_79 ml_X2_65 mo_X2_numberOf ms_X2_numberOf rfl rfl (Nat.le_of_ble_eq_true rfl) (Nat.le_of_ble_eq_true rfl) (by decide) hp (fun z10 m11 hp => ?_)
            refine v_goto (tgt := 86) dX2_scan_82 (by decide) ?_
            exact hp
        · have hp := hA q
          refine v_iinc dX2_scan_36 rfl (by decide) ?_
          refine v_goto (tgt := 5) dX2_scan_39 (by decide) ?_
          exact hp
theorem g_X2_scan_86 {G : GG} {d : Nat} {m : MM} {k : MM → Prop} (x2 : Int) (x3 : Int) (x4 : Int) (x5 : Int) (s0 : Int) (s1 : Int)
    (hp : ∃ j2 : Nat, (s1 = (j2 : Int) ∧ j2 < 301) ∧ (∀ m1 : MM, m1 = upm m 5 j2 s0 → (N G d mi_X2_tokenOf 0 [some (vr 1), some (vi x4), some (vi x5), none] [] m1 (RI fun z3 m4 => ∃ j6 : Nat, (x3 = (j6 : Int) ∧ j6 < 301) ∧ (∀ m5 : MM, m5 = upm m4 3 j6 z3 → (N G (d + 1) mi_X2_scan 5 [some (vr 2), some (vr 1), some (vi x2), some (vi (x3 + 1)), some (vi x5), none] [] m5 (RV k))))))) :
    N G (d + 1) mi_X2_scan 86 [some (vr 2), some (vr 1), some (vi x2), some (vi x3), some (vi x4), some (vi x5)] [vi s0, vi s1, vr 5] m (RV k) := by
  obtain ⟨j2, ⟨ej2, bj2⟩, hp⟩ := hp
  refine w_iast (j := j2) dX2_scan_86 sh_5 ej2 bj2 (fun m1 em1 => ?_)
  have hp := hp m1 em1
  refine v_aload_n dX2_scan_87 rfl rfl ?_
  refine n_getr dX2_scan_88 fo_X2_18 sh_2 rfl sr_2_2 ?_
  refine v_iload_n dX2_scan_91 rfl rfl ?_
  refine v_aload_n dX2_scan_92 rfl rfl ?_
  refine v_iload dX2_scan_93 rfl ?_
  refine v_iload dX2_scan_95 rfl ?_
  refine n_callSI (As := [vr 1, vi x4, vi x5]) (st := [vi x3, vr 3]) dX2_scan_97 ml_X2_68 mo_X2_tokenOf ms_X2_tokenOf rfl rfl (Nat.le_of_ble_eq_true rfl) (Nat.le_of_ble_eq_true rfl) (by decide) hp (fun z3 m4 hp => ?_)
  obtain ⟨j6, ⟨ej6, bj6⟩, hp⟩ := hp
  refine w_iast (j := j6) dX2_scan_100 sh_3 ej6 bj6 (fun m5 em5 => ?_)
  have hp := hp m5 em5
  refine v_iload dX2_scan_101 rfl ?_
  refine v_istore dX2_scan_103 (by decide) ?_
  refine v_iinc dX2_scan_105 rfl (by decide) ?_
  refine v_goto (tgt := 5) dX2_scan_108 (by decide) ?_
  exact n_weak (wk_s (wk_s (wk_s (wk_s (wk_s (wk_n wk_nil)))))) hp
theorem g_X2_scan_111 {G : GG} {d : Nat} {m : MM} {k : MM → Prop} (x2 : Int) (x3 : Int)
    (hp : ∃ j2 : Nat, (x3 = (j2 : Int) ∧ j2 < 301) ∧ (∀ m1 : MM, m1 = upm m 3 j2 36 → (∃ j4 : Nat, (x3 = (j4 : Int) ∧ j4 < 301) ∧ (∀ m3 : MM, m3 = upm m1 4 j4 x2 → (∀ m5 : MM, m5 = upm m3 2 5 x3 → (k m5)))))) :
    N G (d + 1) mi_X2_scan 111 [some (vr 2), none, some (vi x2), some (vi x3), none, none] [] m (RV k) := by
  refine v_aload_n dX2_scan_111 rfl rfl ?_
  refine n_getr dX2_scan_112 fo_X2_18 sh_2 rfl sr_2_2 ?_
  refine v_iload_n dX2_scan_115 rfl rfl ?_
  refine v_bipush dX2_scan_116 rfl ?_
  obtain ⟨j2, ⟨ej2, bj2⟩, hp⟩ := hp
  refine w_iast (j := j2) dX2_scan_118 sh_3 ej2 bj2 (fun m1 em1 => ?_)
  have hp := hp m1 em1
  refine v_aload_n dX2_scan_119 rfl rfl ?_
  refine n_getr dX2_scan_120 fo_X2_22 sh_2 rfl sr_2_3 ?_
  refine v_iload_n dX2_scan_123 rfl rfl ?_
  refine v_iload_n dX2_scan_124 rfl rfl ?_
  obtain ⟨j4, ⟨ej4, bj4⟩, hp⟩ := hp
  refine w_iast (j := j4) dX2_scan_125 sh_4 ej4 bj4 (fun m3 em3 => ?_)
  have hp := hp m3 em3
  refine v_aload_n dX2_scan_126 rfl rfl ?_
  refine v_iload_n dX2_scan_127 rfl rfl ?_
  refine w_puti dX2_scan_128 fw_X2_28 sh_2 rfl (fun m5 em5 => ?_)
  have hp := hp m5 em5
  exact n_retV dX2_scan_131 rfl hp
theorem g_X3_nameTouch_0 {G : GG} {d : Nat} {m : MM} {k : MM → Prop} (x1 : Int) (x2 : Int) (x3 : Int)
    (hp : ∀ m1 : MM, m1 = upm m 277 6 x1 → (∀ m2 : MM, m2 = upm m1 277 7 x2 → (∀ m3 : MM, m3 = upm m2 277 8 x3 → (k m3)))) :
    N G d mi_X3_nameTouch 0 [some (vr 276), some (vi x1), some (vi x2), some (vi x3)] [] m (RV k) := by
  refine v_aload_n dX3_nameTouch_0 rfl rfl ?_
  refine n_getr dX3_nameTouch_1 fo_X3_9 sh_276 rfl sr_276_0 ?_
  refine v_bipush dX3_nameTouch_4 rfl ?_
  refine v_iload_n dX3_nameTouch_6 rfl rfl ?_
  refine w_iast (j := 6) dX3_nameTouch_7 sh_277 rfl (by decide) (fun m1 em1 => ?_)
  have hp := hp m1 em1
  refine v_aload_n dX3_nameTouch_8 rfl rfl ?_
  refine n_getr dX3_nameTouch_9 fo_X3_9 sh_276 rfl sr_276_0 ?_
  refine v_bipush dX3_nameTouch_12 rfl ?_
  refine v_iload_n dX3_nameTouch_14 rfl rfl ?_
  refine w_iast (j := 7) dX3_nameTouch_15 sh_277 rfl (by decide) (fun m2 em2 => ?_)
  have hp := hp m2 em2
  refine v_aload_n dX3_nameTouch_16 rfl rfl ?_
  refine n_getr dX3_nameTouch_17 fo_X3_9 sh_276 rfl sr_276_0 ?_
  refine v_bipush dX3_nameTouch_20 rfl ?_
  refine v_iload_n dX3_nameTouch_22 rfl rfl ?_
  refine w_iast (j := 8) dX3_nameTouch_23 sh_277 rfl (by decide) (fun m3 em3 => ?_)
  have hp := hp m3 em3
  exact n_retV dX3_nameTouch_24 rfl hp
theorem g_X5_addClause_0 {G : GG} {d : Nat} {m : MM} {k : MM → Prop} (c0 : Nat) (h0 : SH c0 = .inr 5) (x1 : Int) (x2 : Int) (x3 : Int)
    (hp : bLE 24 (m c0 0) (k m) (∃ j2 : Nat, ((m c0 0) = (j2 : Int) ∧ j2 < 24) ∧ (∀ m1 : MM, m1 = upm m (c0 + 1) j2 x1 → (∃ j4 : Nat, ((m1 c0 0) = (j4 : Int) ∧ j4 < 24) ∧ (∀ m3 : MM, m3 = upm m1 (c0 + 2) j4 x2 → (∃ j6 : Nat, ((m3 c0 0) = (j6 : Int) ∧ j6 < 24) ∧ (∀ m5 : MM, m5 = upm m3 (c0 + 3) j6 x3 → (∀ m7 : MM, m7 = upm m5 c0 0 ((m5 c0 0) + 1) → (k m7))))))))) :
    N G d mi_X5_addClause 0 [some (vr c0), some (vi x1), some (vi x2), some (vi x3)] [] m (RV k) := by
  refine v_aload_n dX5_addClause_0 rfl rfl ?_
  refine n_geti dX5_addClause_1 fo_X5_9 h0 rfl ?_
  refine v_bipush dX5_addClause_4 rfl ?_
  obtain ⟨⟨r1, r2⟩, hA, hB⟩ := hp
  refine v_icmp_ge (tgt := 49) dX5_addClause_6 (by decide) r2 r1 (fun q => ?_) (fun q => ?_)
  · have hp := hA q
    exact n_retV dX5_addClause_49 rfl hp
  · have hp := hB q
    refine v_aload_n dX5_addClause_9 rfl rfl ?_
    refine n_getr dX5_addClause_10 fo_X5_15 h0 rfl (kr5_1 h0) ?_
    refine v_aload_n dX5_addClause_13 rfl rfl ?_
    refine n_geti dX5_addClause_14 fo_X5_9 h0 rfl ?_
    refine v_iload_n dX5_addClause_17 rfl rfl ?_
    obtain ⟨j2, ⟨ej2, bj2⟩, hp⟩ := hp
    refine w_iast (j := j2) dX5_addClause_18 (kn5_1 h0) ej2 bj2 (fun m1 em1 => ?_)
    have hp := hp m1 em1
    refine v_aload_n dX5_addClause_19 rfl rfl ?_
    refine n_getr dX5_addClause_20 fo_X5_19 h0 rfl (kr5_2 h0) ?_
    refine v_aload_n dX5_addClause_23 rfl rfl ?_
    refine n_geti dX5_addClause_24 fo_X5_9 h0 rfl ?_
    refine v_iload_n dX5_addClause_27 rfl rfl ?_
    obtain ⟨j4, ⟨ej4, bj4⟩, hp⟩ := hp
    refine w_iast (j := j4) dX5_addClause_28 (kn5_2 h0) ej4 bj4 (fun m3 em3 => ?_)
    have hp := hp m3 em3
    refine v_aload_n dX5_addClause_29 rfl rfl ?_
    refine n_getr dX5_addClause_30 fo_X5_22 h0 rfl (kr5_3 h0) ?_
    refine v_aload_n dX5_addClause_33 rfl rfl ?_
    refine n_geti dX5_addClause_34 fo_X5_9 h0 rfl ?_
    refine v_iload_n dX5_addClause_37 rfl rfl ?_
    obtain ⟨j6, ⟨ej6, bj6⟩, hp⟩ := hp
    refine w_iast (j := j6) dX5_addClause_38 (kn5_3 h0) ej6 bj6 (fun m5 em5 => ?_)
    have hp := hp m5 em5
    refine v_aload_n dX5_addClause_39 rfl rfl ?_
    refine v_dupr dX5_addClause_40 ?_
    refine n_geti dX5_addClause_41 fo_X5_9 h0 rfl ?_
    refine v_iconst dX5_addClause_44 ?_
    refine v_iadd dX5_addClause_45 ?_
    refine w_puti dX5_addClause_46 fw_X5_9 h0 rfl (fun m7 em7 => ?_)
    have hp := hp m7 em7
    exact n_retV dX5_addClause_49 rfl hp
theorem g_X0_forget_0 {G : GG} {d : Nat} {m : MM} {k : Int → MM → Prop} (c0 : Nat) (h0 : SH c0 = .inr 0) (x1 : Int)
    (hp : ∃ j1 : Nat, (x1 = (j1 : Int) ∧ j1 < 8) ∧ (N G d mi_X0_howMuch 0 [some (vi (m (c0 + 3) j1)), none, none] [] m (RI fun z2 m3 => ∃ j5 : Nat, (x1 = (j5 : Int) ∧ j5 < 8) ∧ (∀ m4 : MM, m4 = upm m3 (c0 + 3) j5 0 → (k z2 m4))))) :
    N G (d + 1) mi_X0_forget 0 [some (vr c0), some (vi x1), none] [] m (RI k) := by
  refine v_aload_n dX0_forget_0 rfl rfl ?_
  refine n_getr dX0_forget_1 fo_X0_22 h0 rfl (kr0_3 h0) ?_
  refine v_iload_n dX0_forget_4 rfl rfl ?_
  obtain ⟨j1, ⟨ej1, bj1⟩, hp⟩ := hp
  refine n_iald (j := j1) dX0_forget_5 (kn0_3 h0) ej1 bj1 ?_
  refine n_callSI (As := [vi (m (c0 + 3) j1)]) (st := []) dX0_forget_6 ml_X0_41 mo_X0_howMuch ms_X0_howMuch rfl rfl (Nat.le_of_ble_eq_true rfl) (Nat.le_of_ble_eq_true rfl) (by decide) hp (fun z2 m3 hp => ?_)
  refine v_istore_n dX0_forget_9 rfl (by decide) ?_
  refine v_aload_n dX0_forget_10 rfl rfl ?_
  refine n_getr dX0_forget_11 fo_X0_22 h0 rfl (kr0_3 h0) ?_
  refine v_iload_n dX0_forget_14 rfl rfl ?_
  refine v_iconst dX0_forget_15 ?_
  obtain ⟨j5, ⟨ej5, bj5⟩, hp⟩ := hp
  refine w_iast (j := j5) dX0_forget_16 (kn0_3 h0) ej5 bj5 (fun m4 em4 => ?_)
  have hp := hp m4 em4
  refine v_iload_n dX0_forget_17 rfl rfl ?_
  exact n_retI dX0_forget_18 rfl hp
theorem g_X2_runEnd_0 {G : GG} {d : Nat} {m : MM} {k : Int → MM → Prop} (x1 : Int) (x2 : Int)
    (hp : ∃ j1 : Nat, (x1 = (j1 : Int) ∧ j1 < 300) ∧ (N G d mi_X2_isLetter 0 [some (vi (m 1 j1))] [] m (RI fun z2 m3 => bEQ z2 0 (∃ j4 : Nat, (x1 = (j4 : Int) ∧ j4 < 300) ∧ (N G d mi_X2_isDigit 0 [some (vi (m3 1 j4))] [] m3 (RI fun z5 m6 => bEQ z5 0 (∃ j7 : Nat, (x1 = (j7 : Int) ∧ j7 < 300) ∧ (bEQ (m6 1 j7) 60 (N G (d + 1) mi_X2_runEnd 78 [some (vr 1), none, some (vi x2), some (vi (x1 + 1))] [] m6 (RI k)) (∃ j8 : Nat, (x1 = (j8 : Int) ∧ j8 < 300) ∧ (bEQ (m6 1 j8) 62 (N G (d + 1) mi_X2_runEnd 78 [some (vr 1), none, some (vi x2), some (vi (x1 + 1))] [] m6 (RI k)) (k (x1 + 1) m6))))) (N G (d + 1) mi_X2_runEnd 42 [some (vr 1), none, some (vi x2), some (vi (x1 + 1))] [] m6 (RI k))))) (N G (d + 1) mi_X2_runEnd 13 [some (vr 1), none, some (vi x2), some (vi (x1 + 1))] [] m3 (RI k))))) :
    N G (d + 1) mi_X2_runEnd 0 [some (vr 1), some (vi x1), some (vi x2), none] [] m (RI k) := by
  refine v_iload_n dX2_runEnd_0 rfl rfl ?_
  refine v_iconst dX2_runEnd_1 ?_
  refine v_iadd dX2_runEnd_2 ?_
  refine v_istore_n dX2_runEnd_3 rfl (by decide) ?_
  refine v_aload_n dX2_runEnd_4 rfl rfl ?_
  refine v_iload_n dX2_runEnd_5 rfl rfl ?_
  obtain ⟨j1, ⟨ej1, bj1⟩, hp⟩ := hp
  refine n_bald (j := j1) dX2_runEnd_6 sh_1 ej1 bj1 ?_
  refine n_callSI (As := [vi (m 1 j1)]) (st := []) dX2_runEnd_7 ml_X2_71 mo_X2_isLetter ms_X2_isLetter rfl rfl (Nat.le_of_ble_eq_true rfl) (Nat.le_of_ble_eq_true rfl) (by decide) hp (fun z2 m3 hp => ?_)
  obtain ⟨⟨r1, r2⟩, hA, hB⟩ := hp
  refine v_if_eq (tgt := 33) dX2_runEnd_10 (by decide) r1 (fun q => ?_) (fun q => ?_)
  · have hp := hA q
    refine v_aload_n dX2_runEnd_33 rfl rfl ?_
    refine v_iload_n dX2_runEnd_34 rfl rfl ?_
    obtain ⟨j4, ⟨ej4, bj4⟩, hp⟩ := hp
    refine n_bald (j := j4) dX2_runEnd_35 sh_1 ej4 bj4 ?_
    refine n_callSI (As := [vi (m3 1 j4)]) (st := []) dX2_runEnd_36 ml_X2_61 mo_X2_isDigit ms_X2_isDigit rfl rfl (Nat.le_of_ble_eq_true rfl) (Nat.le_of_ble_eq_true rfl) (by decide) hp (fun z5 m6 hp => ?_)
    obtain ⟨⟨r1, r2⟩, hA, hB⟩ := hp
    refine v_if_eq (tgt := 62) dX2_runEnd_39 (by decide) r1 (fun q => ?_) (fun q => ?_)
    · have hp := hA q
      refine v_aload_n dX2_runEnd_62 rfl rfl ?_
      refine v_iload_n dX2_runEnd_63 rfl rfl ?_
      obtain ⟨j7, ⟨ej7, bj7⟩, hp⟩ := hp
      refine n_bald (j := j7) dX2_runEnd_64 sh_1 ej7 bj7 ?_
      refine v_bipush dX2_runEnd_65 rfl ?_
      obtain ⟨⟨r1, r2⟩, hA, hB⟩ := hp
      refine v_icmp_eq (tgt := 78) dX2_runEnd_67 (by decide) r1 r2 (fun q => ?_) (fun q => ?_)
      · have hp := hA q
        exact n_weak (wk_s (wk_n (wk_s (wk_s wk_nil)))) hp
      · have hp := hB q
        refine v_aload_n dX2_runEnd_70 rfl rfl ?_
        refine v_iload_n dX2_runEnd_71 rfl rfl ?_
        obtain ⟨j8, ⟨ej8, bj8⟩, hp⟩ := hp
        refine n_bald (j := j8) dX2_runEnd_72 sh_1 ej8 bj8 ?_
        refine v_bipush dX2_runEnd_73 rfl ?_
        obtain ⟨⟨r1, r2⟩, hA, hB⟩ := hp
        refine v_icmp_ne (tgt := 94) dX2_runEnd_75 (by decide) r1 r2 (fun q => ?_) (fun q => ?_)
        · have hp := hB q
          refine v_iload_n dX2_runEnd_94 rfl rfl ?_
          exact n_retI dX2_runEnd_95 rfl hp
        · have hp := hA q
          exact n_weak (wk_s (wk_n (wk_s (wk_s wk_nil)))) hp
    · have hp := hB q
      exact n_weak (wk_s (wk_n (wk_s (wk_s wk_nil)))) hp
  · have hp := hB q
    exact n_weak (wk_s (wk_n (wk_s (wk_s wk_nil)))) hp
theorem g_X2_runEnd_13 {G : GG} {d : Nat} {m : MM} {k : Int → MM → Prop} (x2 : Int) (x3 : Int)
    (hp : bLE x2 x3 (k x3 m) (∃ j1 : Nat, (x3 = (j1 : Int) ∧ j1 < 300) ∧ (N G d mi_X2_isLetter 0 [some (vi (m 1 j1))] [] m (RI fun z2 m3 => bEQ z2 0 (k x3 m3) (N G (d + 1) mi_X2_runEnd 13 [some (vr 1), none, some (vi x2), some (vi (x3 + 1))] [] m3 (RI k)))))) :
    N G (d + 1) mi_X2_runEnd 13 [some (vr 1), none, some (vi x2), some (vi x3)] [] m (RI k) := by
  refine v_iload_n dX2_runEnd_13 rfl rfl ?_
  refine v_iload_n dX2_runEnd_14 rfl rfl ?_
  obtain ⟨⟨r1, r2⟩, hA, hB⟩ := hp
  refine v_icmp_ge (tgt := 94) dX2_runEnd_15 (by decide) r2 r1 (fun q => ?_) (fun q => ?_)
  · have hp := hA q
    refine v_iload_n dX2_runEnd_94 rfl rfl ?_
    exact n_retI dX2_runEnd_95 rfl hp
  · have hp := hB q
    refine v_aload_n dX2_runEnd_18 rfl rfl ?_
    refine v_iload_n dX2_runEnd_19 rfl rfl ?_
    obtain ⟨j1, ⟨ej1, bj1⟩, hp⟩ := hp
    refine n_bald (j := j1) dX2_runEnd_20 sh_1 ej1 bj1 ?_
    refine n_callSI (As := [vi (m 1 j1)]) (st := []) dX2_runEnd_21 ml_X2_71 mo_X2_isLetter ms_X2_isLetter rfl rfl (Nat.le_of_ble_eq_true rfl) (Nat.le_of_ble_eq_true rfl) (by decide) hp (fun z2 m3 hp => ?_)
    obtain ⟨⟨r1, r2⟩, hA, hB⟩ := hp
    refine v_if_eq (tgt := 94) dX2_runEnd_24 (by decide) r1 (fun q => ?_) (fun q => ?_)
    · have hp := hA q
      refine v_iload_n dX2_runEnd_94 rfl rfl ?_
      exact n_retI dX2_runEnd_95 rfl hp
    · have hp := hB q
      refine v_iinc dX2_runEnd_27 rfl (by decide) ?_
      refine v_goto (tgt := 13) dX2_runEnd_30 (by decide) ?_
      exact hp
theorem g_X2_runEnd_42 {G : GG} {d : Nat} {m : MM} {k : Int → MM → Prop} (x2 : Int) (x3 : Int)
    (hp : bLE x2 x3 (k x3 m) (∃ j1 : Nat, (x3 = (j1 : Int) ∧ j1 < 300) ∧ (N G d mi_X2_isDigit 0 [some (vi (m 1 j1))] [] m (RI fun z2 m3 => bEQ z2 0 (k x3 m3) (N G (d + 1) mi_X2_runEnd 42 [some (vr 1), none, some (vi x2), some (vi (x3 + 1))] [] m3 (RI k)))))) :
    N G (d + 1) mi_X2_runEnd 42 [some (vr 1), none, some (vi x2), some (vi x3)] [] m (RI k) := by
  refine v_iload_n dX2_runEnd_42 rfl rfl ?_
  refine v_iload_n dX2_runEnd_43 rfl rfl ?_
  obtain ⟨⟨r1, r2⟩, hA, hB⟩ := hp
  refine v_icmp_ge (tgt := 94) dX2_runEnd_44 (by decide) r2 r1 (fun q => ?_) (fun q => ?_)
  · have hp := hA q
    refine v_iload_n dX2_runEnd_94 rfl rfl ?_
    exact n_retI dX2_runEnd_95 rfl hp
  · have hp := hB q
    refine v_aload_n dX2_runEnd_47 rfl rfl ?_
    refine v_iload_n dX2_runEnd_48 rfl rfl ?_
    obtain ⟨j1, ⟨ej1, bj1⟩, hp⟩ := hp
    refine n_bald (j := j1) dX2_runEnd_49 sh_1 ej1 bj1 ?_
    refine n_callSI (As := [vi (m 1 j1)]) (st := []) dX2_runEnd_50 ml_X2_61 mo_X2_isDigit ms_X2_isDigit rfl rfl (Nat.le_of_ble_eq_true rfl) (Nat.le_of_ble_eq_true rfl) (by decide) hp (fun z2 m3 hp => ?_)
    obtain ⟨⟨r1, r2⟩, hA, hB⟩ := hp
    refine v_if_eq (tgt := 94) dX2_runEnd_53 (by decide) r1 (fun q => ?_) (fun q => ?_)
    · have hp := hA q
      refine v_iload_n dX2_runEnd_94 rfl rfl ?_
      exact n_retI dX2_runEnd_95 rfl hp
    · have hp := hB q
      refine v_iinc dX2_runEnd_56 rfl (by decide) ?_
      refine v_goto (tgt := 42) dX2_runEnd_59 (by decide) ?_
      exact hp
theorem g_X2_runEnd_78 {G : GG} {d : Nat} {m : MM} {k : Int → MM → Prop} (x2 : Int) (x3 : Int)
    (hp : bLE x2 x3 (k x3 m) (∃ j1 : Nat, (x3 = (j1 : Int) ∧ j1 < 300) ∧ (bEQ (m 1 j1) 61 (k (x3 + 1) m) (k x3 m)))) :
    N G (d + 1) mi_X2_runEnd 78 [some (vr 1), none, some (vi x2), some (vi x3)] [] m (RI k) := by
  refine v_iload_n dX2_runEnd_78 rfl rfl ?_
  refine v_iload_n dX2_runEnd_79 rfl rfl ?_
  obtain ⟨⟨r1, r2⟩, hA, hB⟩ := hp
  refine v_icmp_ge (tgt := 94) dX2_runEnd_80 (by decide) r2 r1 (fun q => ?_) (fun q => ?_)
  · have hp := hA q
    refine v_iload_n dX2_runEnd_94 rfl rfl ?_
    exact n_retI dX2_runEnd_95 rfl hp
  · have hp := hB q
    refine v_aload_n dX2_runEnd_83 rfl rfl ?_
    refine v_iload_n dX2_runEnd_84 rfl rfl ?_
    obtain ⟨j1, ⟨ej1, bj1⟩, hp⟩ := hp
    refine n_bald (j := j1) dX2_runEnd_85 sh_1 ej1 bj1 ?_
    refine v_bipush dX2_runEnd_86 rfl ?_
    obtain ⟨⟨r1, r2⟩, hA, hB⟩ := hp
    refine v_icmp_ne (tgt := 94) dX2_runEnd_88 (by decide) r1 r2 (fun q => ?_) (fun q => ?_)
    · have hp := hB q
      refine v_iload_n dX2_runEnd_94 rfl rfl ?_
      exact n_retI dX2_runEnd_95 rfl hp
    · have hp := hA q
      refine v_iinc dX2_runEnd_91 rfl (by decide) ?_
      refine v_iload_n dX2_runEnd_94 rfl rfl ?_
      exact n_retI dX2_runEnd_95 rfl hp
theorem g_X3_reckon_0 {G : GG} {d : Nat} {m : MM} {k : Int → MM → Prop} (c1 : Nat) (h1 : SH c1 = .inl (.int, 300)) (x2 : Int) (x3 : Int)
    (hp : (rng 0 ∧ rng x2) ∧ (N G (d + 1) mi_X3_reckon 10 [some (vr 276), some (vr c1), none, some (vi x3), some (vi 0), some (vi (imax 0 x2)), none, none] [] m (RI k))) :
    N G (d + 1) mi_X3_reckon 0 [some (vr 276), some (vr c1), some (vi x2), some (vi x3), none, none, none, none] [] m (RI k) := by
  refine v_iconst dX3_reckon_0 ?_
  refine v_istore dX3_reckon_1 (by decide) ?_
  refine v_iconst dX3_reckon_3 ?_
  refine v_iload_n dX3_reckon_4 rfl rfl ?_
  obtain ⟨hg, hp⟩ := hp
  refine v_mmax dX3_reckon_5 mk_X3_18 hg.1 hg.2 (by omega) (Nat.le_of_ble_eq_true rfl) (by omega) ?_
  refine v_istore dX3_reckon_8 (by decide) ?_
  exact n_weak (wk_s (wk_s (wk_n (wk_s (wk_s (wk_s (wk_s (wk_s wk_nil)))))))) hp
theorem g_X3_reckon_10 {G : GG} {d : Nat} {m : MM} {k : Int → MM → Prop} (c1 : Nat) (h1 : SH c1 = .inl (.int, 300)) (x3 : Int) (x4 : Int) (x5 : Int)
    (hp : bLE x3 x5 (N G (d + 1) mi_X3_reckon 218 [some (vr 276), none, none, none, some (vi x4), none, none, none] [] m (RI k)) (bLE 300 x5 (N G (d + 1) mi_X3_reckon 218 [some (vr 276), none, none, none, some (vi x4), none, none, none] [] m (RI k)) (∃ j1 : Nat, (x5 = (j1 : Int) ∧ j1 < 300) ∧ (bLT ((-1) - (m c1 j1)) 13 (N G (d + 1) mi_X3_reckon 50 [some (vr 276), some (vr c1), none, some (vi x3), some (vi x4), some (vi x5), some (vi ((-1) - (m c1 j1))), none] [vi 0] m (RI k)) (bLT 21 ((-1) - (m c1 j1)) (N G (d + 1) mi_X3_reckon 50 [some (vr 276), some (vr c1), none, some (vi x3), some (vi x4), some (vi x5), some (vi ((-1) - (m c1 j1))), none] [vi 0] m (RI k)) (N G (d + 1) mi_X3_reckon 50 [some (vr 276), some (vr c1), none, some (vi x3), some (vi x4), some (vi x5), some (vi ((-1) - (m c1 j1))), none] [vi 1] m (RI k))))))) :
    N G (d + 1) mi_X3_reckon 10 [some (vr 276), some (vr c1), none, some (vi x3), some (vi x4), some (vi x5), none, none] [] m (RI k) := by
  refine v_iload dX3_reckon_10 rfl ?_
  refine v_iload_n dX3_reckon_12 rfl rfl ?_
  obtain ⟨⟨r1, r2⟩, hA, hB⟩ := hp
  refine v_icmp_ge (tgt := 218) dX3_reckon_13 (by decide) r2 r1 (fun q => ?_) (fun q => ?_)
  · have hp := hA q
    exact n_weak (wk_s (wk_n (wk_s (wk_n (wk_s (wk_n (wk_s (wk_s wk_nil)))))))) hp
  · have hp := hB q
    refine v_iload dX3_reckon_16 rfl ?_
    refine v_aload_n dX3_reckon_18 rfl rfl ?_
    refine n_alen dX3_reckon_19 h1 (by decide) ?_
    obtain ⟨⟨r1, r2⟩, hA, hB⟩ := hp
    refine v_icmp_ge (tgt := 218) dX3_reckon_20 (by decide) r2 r1 (fun q => ?_) (fun q => ?_)
    · have hp := hA q
      exact n_weak (wk_s (wk_n (wk_s (wk_n (wk_s (wk_n (wk_s (wk_s wk_nil)))))))) hp
    · have hp := hB q
      refine v_iconst dX3_reckon_23 ?_
      refine v_aload_n dX3_reckon_24 rfl rfl ?_
      refine v_iload dX3_reckon_25 rfl ?_
      obtain ⟨j1, ⟨ej1, bj1⟩, hp⟩ := hp
      refine n_iald (j := j1) dX3_reckon_27 h1 ej1 bj1 ?_
      refine v_isub dX3_reckon_28 ?_
      refine v_istore dX3_reckon_29 (by decide) ?_
      refine v_iload dX3_reckon_31 rfl ?_
      refine v_bipush dX3_reckon_33 rfl ?_
      obtain ⟨⟨r1, r2⟩, hA, hB⟩ := hp
      refine v_icmp_lt (tgt := 49) dX3_reckon_35 (by decide) r1 r2 (fun q => ?_) (fun q => ?_)
      · have hp := hA q
        refine v_iconst dX3_reckon_49 ?_
        exact hp
      · have hp := hB q
        refine v_iload dX3_reckon_38 rfl ?_
        refine v_bipush dX3_reckon_40 rfl ?_
        obtain ⟨⟨r1, r2⟩, hA, hB⟩ := hp
        refine v_icmp_gt (tgt := 49) dX3_reckon_42 (by decide) r2 r1 (fun q => ?_) (fun q => ?_)
        · have hp := hA q
          refine v_iconst dX3_reckon_49 ?_
          exact hp
        · have hp := hB q
          refine v_iconst dX3_reckon_45 ?_
          refine v_goto (tgt := 50) dX3_reckon_46 (by decide) ?_
          exact hp
theorem g_X3_reckon_50 {G : GG} {d : Nat} {m : MM} {k : Int → MM → Prop} (c1 : Nat) (h1 : SH c1 = .inl (.int, 300)) (x3 : Int) (x4 : Int) (x5 : Int) (x6 : Int) (s0 : Int)
    (hp : bLT x6 0 (N G (d + 1) mi_X3_reckon 62 [some (vr 276), some (vr c1), none, some (vi x3), some (vi x4), some (vi x5), some (vi x6), some (vi s0)] [] m (RI k)) (bEQ s0 0 (bEQ x6 38 (N G (d + 1) mi_X3_reckon 121 [some (vr 276), some (vr c1), none, some (vi x3), some (vi x4), some (vi x5), some (vi x6), none] [] m (RI k)) (bEQ x6 12 (N G (d + 1) mi_X3_reckon 121 [some (vr 276), some (vr c1), none, some (vi x3), some (vi x4), some (vi x5), some (vi x6), none] [] m (RI k)) (bLT x4 2 (N G (d + 1) mi_X3_reckon 10 [some (vr 276), some (vr c1), none, some (vi x3), some (vi x4), some (vi (x5 + 1)), none, none] [] m (RI k)) (∃ j1 : Nat, (((x4 + (-1)) - 1) = (j1 : Int) ∧ j1 < 32) ∧ (∃ j2 : Nat, ((x4 + (-1)) = (j2 : Int) ∧ j2 < 32) ∧ (N G d mi_X3_joined 0 [some (vi x6), some (vi (m 278 j1)), some (vi (m 278 j2))] [] m (RJG fun z3 m4 => N G d mi_X3_within 0 [some (vl z3), none] [] m4 (RI fun z5 m6 => ∃ j8 : Nat, (((x4 + (-1)) - 1) = (j8 : Int) ∧ j8 < 32) ∧ (∀ m7 : MM, m7 = upm m6 278 j8 z5 → (N G (d + 1) mi_X3_reckon 10 [some (vr 276), some (vr c1), none, some (vi x3), some (vi (x4 + (-1))), some (vi (x5 + 1)), none, none] [] m7 (RI k))))))))))) (N G (d + 1) mi_X3_reckon 62 [some (vr 276), some (vr c1), none, some (vi x3), some (vi x4), some (vi x5), some (vi x6), some (vi s0)] [] m (RI k)))) :
    N G (d + 1) mi_X3_reckon 50 [some (vr 276), some (vr c1), none, some (vi x3), some (vi x4), some (vi x5), some (vi x6), none] [vi s0] m (RI k) := by
  refine v_istore dX3_reckon_50 (by decide) ?_
  refine v_iload dX3_reckon_52 rfl ?_
  obtain ⟨⟨r1, r2⟩, hA, hB⟩ := hp
  refine v_if_lt (tgt := 62) dX3_reckon_54 (by decide) r1 (fun q => ?_) (fun q => ?_)
  · have hp := hA q
    exact hp
  · have hp := hB q
    refine v_iload dX3_reckon_57 rfl ?_
    obtain ⟨⟨r1, r2⟩, hA, hB⟩ := hp
    refine v_if_eq (tgt := 107) dX3_reckon_59 (by decide) r1 (fun q => ?_) (fun q => ?_)
    · have hp := hA q
      refine v_iload dX3_reckon_107 rfl ?_
      refine v_bipush dX3_reckon_109 rfl ?_
      obtain ⟨⟨r1, r2⟩, hA, hB⟩ := hp
      refine v_icmp_eq (tgt := 121) dX3_reckon_111 (by decide) r1 r2 (fun q => ?_) (fun q => ?_)
      · have hp := hA q
        exact n_weak (wk_s (wk_s (wk_s (wk_s (wk_s (wk_s (wk_s (wk_n wk_nil)))))))) hp
      · have hp := hB q
        refine v_iload dX3_reckon_114 rfl ?_
        refine v_bipush dX3_reckon_116 rfl ?_
        obtain ⟨⟨r1, r2⟩, hA, hB⟩ := hp
        refine v_icmp_ne (tgt := 170) dX3_reckon_118 (by decide) r1 r2 (fun q => ?_) (fun q => ?_)
        · have hp := hB q
          refine v_iload dX3_reckon_170 rfl ?_
          refine v_iconst dX3_reckon_172 ?_
          obtain ⟨⟨r1, r2⟩, hA, hB⟩ := hp
          refine v_icmp_lt (tgt := 212) dX3_reckon_173 (by decide) r1 r2 (fun q => ?_) (fun q => ?_)
          · have hp := hA q
            refine v_iinc dX3_reckon_212 rfl (by decide) ?_
            refine v_goto (tgt := 10) dX3_reckon_215 (by decide) ?_
            exact n_weak (wk_s (wk_s (wk_s (wk_s (wk_s (wk_s (wk_n (wk_n wk_nil)))))))) hp
          · have hp := hB q
            refine v_iinc dX3_reckon_176 rfl (by decide) ?_
            refine v_aload_n dX3_reckon_179 rfl rfl ?_
            refine n_getr dX3_reckon_180 fo_X3_15 sh_276 rfl sr_276_1 ?_
            refine v_iload dX3_reckon_183 rfl ?_
            refine v_iconst dX3_reckon_185 ?_
            refine v_isub dX3_reckon_186 ?_
            refine v_iload dX3_reckon_187 rfl ?_
            refine v_aload_n dX3_reckon_189 rfl rfl ?_
            refine n_getr dX3_reckon_190 fo_X3_15 sh_276 rfl sr_276_1 ?_
            refine v_iload dX3_reckon_193 rfl ?_
            refine v_iconst dX3_reckon_195 ?_
            refine v_isub dX3_reckon_196 ?_
            obtain ⟨j1, ⟨ej1, bj1⟩, hp⟩ := hp
            refine n_iald (j := j1) dX3_reckon_197 sh_278 ej1 bj1 ?_
            refine v_aload_n dX3_reckon_198 rfl rfl ?_
            refine n_getr dX3_reckon_199 fo_X3_15 sh_276 rfl sr_276_1 ?_
            refine v_iload dX3_reckon_202 rfl ?_
            obtain ⟨j2, ⟨ej2, bj2⟩, hp⟩ := hp
            refine n_iald (j := j2) dX3_reckon_204 sh_278 ej2 bj2 ?_
            refine n_callSL (As := [vi x6, vi (m 278 j1), vi (m 278 j2)]) (st := [vi ((x4 + (-1)) - 1), vr 278]) dX3_reckon_205 ml_X3_24 mo_X3_joined ms_X3_joined rfl rfl (Nat.le_of_ble_eq_true rfl) (Nat.le_of_ble_eq_true rfl) (by decide) hp (fun z3 m4 hp => ?_)
            refine n_callSI (As := [vl z3]) (st := [vi ((x4 + (-1)) - 1), vr 278]) dX3_reckon_208 ml_X3_28 mo_X3_within ms_X3_within rfl rfl (Nat.le_of_ble_eq_true rfl) (Nat.le_of_ble_eq_true rfl) (by decide) hp (fun z5 m6 hp => ?_)
            obtain ⟨j8, ⟨ej8, bj8⟩, hp⟩ := hp
            refine w_iast (j := j8) dX3_reckon_211 sh_278 ej8 bj8 (fun m7 em7 => ?_)
            have hp := hp m7 em7
            refine v_iinc dX3_reckon_212 rfl (by decide) ?_
            refine v_goto (tgt := 10) dX3_reckon_215 (by decide) ?_
            exact n_weak (wk_s (wk_s (wk_s (wk_s (wk_s (wk_s (wk_n (wk_n wk_nil)))))))) hp
        · have hp := hA q
          exact n_weak (wk_s (wk_s (wk_s (wk_s (wk_s (wk_s (wk_s (wk_n wk_nil)))))))) hp
    · have hp := hB q
      exact hp
theorem g_X3_reckon_62 {G : GG} {d : Nat} {m : MM} {k : Int → MM → Prop} (c1 : Nat) (h1 : SH c1 = .inl (.int, 300)) (x3 : Int) (x4 : Int) (x5 : Int) (x6 : Int) (x7 : Int)
    (hp : bLE 32 x4 (N G (d + 1) mi_X3_reckon 10 [some (vr 276), some (vr c1), none, some (vi x3), some (vi x4), some (vi (x5 + 1)), none, none] [] m (RI k)) (bEQ x7 0 (∃ j1 : Nat, (x5 = (j1 : Int) ∧ j1 < 300) ∧ (∃ j3 : Nat, (x4 = (j3 : Int) ∧ j3 < 32) ∧ (∀ m2 : MM, m2 = upm m 278 j3 (m c1 j1) → (N G (d + 1) mi_X3_reckon 10 [some (vr 276), some (vr c1), none, some (vi x3), some (vi (x4 + 1)), some (vi (x5 + 1)), none, none] [] m2 (RI k))))) (∃ j4 : Nat, ((x6 - 13) = (j4 : Int) ∧ j4 < 9) ∧ (∃ j6 : Nat, (x4 = (j6 : Int) ∧ j6 < 32) ∧ (∀ m5 : MM, m5 = upm m 278 j6 (m 277 j4) → (N G (d + 1) mi_X3_reckon 10 [some (vr 276), some (vr c1), none, some (vi x3), some (vi (x4 + 1)), some (vi (x5 + 1)), none, none] [] m5 (RI k))))))) :
    N G (d + 1) mi_X3_reckon 62 [some (vr 276), some (vr c1), none, some (vi x3), some (vi x4), some (vi x5), some (vi x6), some (vi x7)] [] m (RI k) := by
  refine v_iload dX3_reckon_62 rfl ?_
  refine v_aload_n dX3_reckon_64 rfl rfl ?_
  refine n_getr dX3_reckon_65 fo_X3_15 sh_276 rfl sr_276_1 ?_
  refine n_alen dX3_reckon_68 sh_278 (by decide) ?_
  obtain ⟨⟨r1, r2⟩, hA, hB⟩ := hp
  refine v_icmp_ge (tgt := 212) dX3_reckon_69 (by decide) r2 r1 (fun q => ?_) (fun q => ?_)
  · have hp := hA q
    refine v_iinc dX3_reckon_212 rfl (by decide) ?_
    refine v_goto (tgt := 10) dX3_reckon_215 (by decide) ?_
    exact n_weak (wk_s (wk_s (wk_s (wk_s (wk_s (wk_s (wk_n (wk_n wk_nil)))))))) hp
  · have hp := hB q
    refine v_aload_n dX3_reckon_72 rfl rfl ?_
    refine n_getr dX3_reckon_73 fo_X3_15 sh_276 rfl sr_276_1 ?_
    refine v_iload dX3_reckon_76 rfl ?_
    refine v_iload dX3_reckon_78 rfl ?_
    obtain ⟨⟨r1, r2⟩, hA, hB⟩ := hp
    refine v_if_eq (tgt := 96) dX3_reckon_80 (by decide) r1 (fun q => ?_) (fun q => ?_)
    · have hp := hA q
      refine v_aload_n dX3_reckon_96 rfl rfl ?_
      refine v_iload dX3_reckon_97 rfl ?_
      obtain ⟨j1, ⟨ej1, bj1⟩, hp⟩ := hp
      refine n_iald (j := j1) dX3_reckon_99 h1 ej1 bj1 ?_
      obtain ⟨j3, ⟨ej3, bj3⟩, hp⟩ := hp
      refine w_iast (j := j3) dX3_reckon_100 sh_278 ej3 bj3 (fun m2 em2 => ?_)
      have hp := hp m2 em2
      refine v_iinc dX3_reckon_101 rfl (by decide) ?_
      refine v_goto (tgt := 212) dX3_reckon_104 (by decide) ?_
      refine v_iinc dX3_reckon_212 rfl (by decide) ?_
      refine v_goto (tgt := 10) dX3_reckon_215 (by decide) ?_
      exact n_weak (wk_s (wk_s (wk_s (wk_s (wk_s (wk_s (wk_n (wk_n wk_nil)))))))) hp
    · have hp := hB q
      refine v_aload_n dX3_reckon_83 rfl rfl ?_
      refine n_getr dX3_reckon_84 fo_X3_9 sh_276 rfl sr_276_0 ?_
      refine v_iload dX3_reckon_87 rfl ?_
      refine v_bipush dX3_reckon_89 rfl ?_
      refine v_isub dX3_reckon_91 ?_
      obtain ⟨j4, ⟨ej4, bj4⟩, hp⟩ := hp
      refine n_iald (j := j4) dX3_reckon_92 sh_277 ej4 bj4 ?_
      refine v_goto (tgt := 100) dX3_reckon_93 (by decide) ?_
      obtain ⟨j6, ⟨ej6, bj6⟩, hp⟩ := hp
      refine w_iast (j := j6) dX3_reckon_100 sh_278 ej6 bj6 (fun m5 em5 => ?_)
      have hp := hp m5 em5
      refine v_iinc dX3_reckon_101 rfl (by decide) ?_
      refine v_goto (tgt := 212) dX3_reckon_104 (by decide) ?_
      refine v_iinc dX3_reckon_212 rfl (by decide) ?_
      refine v_goto (tgt := 10) dX3_reckon_215 (by decide) ?_
      exact n_weak (wk_s (wk_s (wk_s (wk_s (wk_s (wk_s (wk_n (wk_n wk_nil)))))))) hp
theorem g_X3_reckon_121 {G : GG} {d : Nat} {m : MM} {k : Int → MM → Prop} (c1 : Nat) (h1 : SH c1 = .inl (.int, 300)) (x3 : Int) (x4 : Int) (x5 : Int) (x6 : Int)
    (hp : bLT x4 1 (N G (d + 1) mi_X3_reckon 10 [some (vr 276), some (vr c1), none, some (vi x3), some (vi x4), some (vi (x5 + 1)), none, none] [] m (RI k)) (bEQ x6 38 (∃ j4 : Nat, ((x4 - 1) = (j4 : Int) ∧ j4 < 32) ∧ (∃ j6 : Nat, ((x4 - 1) = (j6 : Int) ∧ j6 < 32) ∧ (∀ m5 : MM, m5 = upm m 278 j6 (-(m 278 j4)) → (N G (d + 1) mi_X3_reckon 10 [some (vr 276), some (vr c1), none, some (vi x3), some (vi x4), some (vi (x5 + 1)), none, none] [] m5 (RI k))))) (∃ j1 : Nat, ((x4 - 1) = (j1 : Int) ∧ j1 < 32) ∧ (∃ j3 : Nat, ((x4 - 1) = (j3 : Int) ∧ j3 < 32) ∧ (∀ m2 : MM, m2 = upm m 278 j3 (1 - (m 278 j1)) → (N G (d + 1) mi_X3_reckon 10 [some (vr 276), some (vr c1), none, some (vi x3), some (vi x4), some (vi (x5 + 1)), none, none] [] m2 (RI k))))))) :
    N G (d + 1) mi_X3_reckon 121 [some (vr 276), some (vr c1), none, some (vi x3), some (vi x4), some (vi x5), some (vi x6), none] [] m (RI k) := by
  refine v_iload dX3_reckon_121 rfl ?_
  refine v_iconst dX3_reckon_123 ?_
  obtain ⟨⟨r1, r2⟩, hA, hB⟩ := hp
  refine v_icmp_lt (tgt := 212) dX3_reckon_124 (by decide) r1 r2 (fun q => ?_) (fun q => ?_)
  · have hp := hA q
    refine v_iinc dX3_reckon_212 rfl (by decide) ?_
    refine v_goto (tgt := 10) dX3_reckon_215 (by decide) ?_
    exact n_weak (wk_s (wk_s (wk_s (wk_s (wk_s (wk_s (wk_n (wk_s wk_nil)))))))) hp
  · have hp := hB q
    refine v_aload_n dX3_reckon_127 rfl rfl ?_
    refine n_getr dX3_reckon_128 fo_X3_15 sh_276 rfl sr_276_1 ?_
    refine v_iload dX3_reckon_131 rfl ?_
    refine v_iconst dX3_reckon_133 ?_
    refine v_isub dX3_reckon_134 ?_
    refine v_iload dX3_reckon_135 rfl ?_
    refine v_bipush dX3_reckon_137 rfl ?_
    obtain ⟨⟨r1, r2⟩, hA, hB⟩ := hp
    refine v_icmp_ne (tgt := 155) dX3_reckon_139 (by decide) r1 r2 (fun q => ?_) (fun q => ?_)
    · have hp := hB q
      refine v_iconst dX3_reckon_155 ?_
      refine v_aload_n dX3_reckon_156 rfl rfl ?_
      refine n_getr dX3_reckon_157 fo_X3_15 sh_276 rfl sr_276_1 ?_
      refine v_iload dX3_reckon_160 rfl ?_
      refine v_iconst dX3_reckon_162 ?_
      refine v_isub dX3_reckon_163 ?_
      obtain ⟨j1, ⟨ej1, bj1⟩, hp⟩ := hp
      refine n_iald (j := j1) dX3_reckon_164 sh_278 ej1 bj1 ?_
      refine v_isub dX3_reckon_165 ?_
      obtain ⟨j3, ⟨ej3, bj3⟩, hp⟩ := hp
      refine w_iast (j := j3) dX3_reckon_166 sh_278 ej3 bj3 (fun m2 em2 => ?_)
      have hp := hp m2 em2
      refine v_goto (tgt := 212) dX3_reckon_167 (by decide) ?_
      refine v_iinc dX3_reckon_212 rfl (by decide) ?_
      refine v_goto (tgt := 10) dX3_reckon_215 (by decide) ?_
      exact n_weak (wk_s (wk_s (wk_s (wk_s (wk_s (wk_s (wk_n (wk_s wk_nil)))))))) hp
    · have hp := hA q
      refine v_aload_n dX3_reckon_142 rfl rfl ?_
      refine n_getr dX3_reckon_143 fo_X3_15 sh_276 rfl sr_276_1 ?_
      refine v_iload dX3_reckon_146 rfl ?_
      refine v_iconst dX3_reckon_148 ?_
      refine v_isub dX3_reckon_149 ?_
      obtain ⟨j4, ⟨ej4, bj4⟩, hp⟩ := hp
      refine n_iald (j := j4) dX3_reckon_150 sh_278 ej4 bj4 ?_
      refine v_ineg dX3_reckon_151 ?_
      refine v_goto (tgt := 166) dX3_reckon_152 (by decide) ?_
      obtain ⟨j6, ⟨ej6, bj6⟩, hp⟩ := hp
      refine w_iast (j := j6) dX3_reckon_166 sh_278 ej6 bj6 (fun m5 em5 => ?_)
      have hp := hp m5 em5
      refine v_goto (tgt := 212) dX3_reckon_167 (by decide) ?_
      refine v_iinc dX3_reckon_212 rfl (by decide) ?_
      refine v_goto (tgt := 10) dX3_reckon_215 (by decide) ?_
      exact n_weak (wk_s (wk_s (wk_s (wk_s (wk_s (wk_s (wk_n (wk_s wk_nil)))))))) hp
theorem g_X3_reckon_218 {G : GG} {d : Nat} {m : MM} {k : Int → MM → Prop} (x4 : Int)
    (hp : bLT x4 1 (k 0 m) (∃ j1 : Nat, ((x4 - 1) = (j1 : Int) ∧ j1 < 32) ∧ (k (m 278 j1) m))) :
    N G (d + 1) mi_X3_reckon 218 [some (vr 276), none, none, none, some (vi x4), none, none, none] [] m (RI k) := by
  refine v_iload dX3_reckon_218 rfl ?_
  refine v_iconst dX3_reckon_220 ?_
  obtain ⟨⟨r1, r2⟩, hA, hB⟩ := hp
  refine v_icmp_lt (tgt := 236) dX3_reckon_221 (by decide) r1 r2 (fun q => ?_) (fun q => ?_)
  · have hp := hA q
    refine v_iconst dX3_reckon_236 ?_
    exact n_retI dX3_reckon_237 rfl hp
  · have hp := hB q
    refine v_aload_n dX3_reckon_224 rfl rfl ?_
    refine n_getr dX3_reckon_225 fo_X3_15 sh_276 rfl sr_276_1 ?_
    refine v_iload dX3_reckon_228 rfl ?_
    refine v_iconst dX3_reckon_230 ?_
    refine v_isub dX3_reckon_231 ?_
    obtain ⟨j1, ⟨ej1, bj1⟩, hp⟩ := hp
    refine n_iald (j := j1) dX3_reckon_232 sh_278 ej1 bj1 ?_
    refine v_goto (tgt := 237) dX3_reckon_233 (by decide) ?_
    exact n_retI dX3_reckon_237 rfl hp
theorem g_X5_addNumber_0 {G : GG} {d : Nat} {m : MM} {k : MM → Prop} (c0 : Nat) (h0 : SH c0 = .inr 5) (x1 : Int)
    (hp : bLE 300 (m c0 5) (k m) (∃ j2 : Nat, ((m c0 5) = (j2 : Int) ∧ j2 < 300) ∧ (∀ m1 : MM, m1 = upm m (c0 + 4) j2 x1 → (∀ m3 : MM, m3 = upm m1 c0 5 ((m1 c0 5) + 1) → (k m3))))) :
    N G d mi_X5_addNumber 0 [some (vr c0), some (vi x1)] [] m (RV k) := by
  refine v_aload_n dX5_addNumber_0 rfl rfl ?_
  refine n_geti dX5_addNumber_1 fo_X5_28 h0 rfl ?_
  refine v_sipush dX5_addNumber_4 rfl ?_
  obtain ⟨⟨r1, r2⟩, hA, hB⟩ := hp
  refine v_icmp_ge (tgt := 30) dX5_addNumber_7 (by decide) r2 r1 (fun q => ?_) (fun q => ?_)
  · have hp := hA q
    exact n_retV dX5_addNumber_30 rfl hp
  · have hp := hB q
    refine v_aload_n dX5_addNumber_10 rfl rfl ?_
    refine n_getr dX5_addNumber_11 fo_X5_25 h0 rfl (kr5_4 h0) ?_
    refine v_aload_n dX5_addNumber_14 rfl rfl ?_
    refine n_geti dX5_addNumber_15 fo_X5_28 h0 rfl ?_
    refine v_iload_n dX5_addNumber_18 rfl rfl ?_
    obtain ⟨j2, ⟨ej2, bj2⟩, hp⟩ := hp
    refine w_iast (j := j2) dX5_addNumber_19 (kn5_4 h0) ej2 bj2 (fun m1 em1 => ?_)
    have hp := hp m1 em1
    refine v_aload_n dX5_addNumber_20 rfl rfl ?_
    refine v_dupr dX5_addNumber_21 ?_
    refine n_geti dX5_addNumber_22 fo_X5_28 h0 rfl ?_
    refine v_iconst dX5_addNumber_25 ?_
    refine v_iadd dX5_addNumber_26 ?_
    refine w_puti dX5_addNumber_27 fw_X5_28 h0 rfl (fun m3 em3 => ?_)
    have hp := hp m3 em3
    exact n_retV dX5_addNumber_30 rfl hp
theorem g_X0_wornSet_0 {G : GG} {d : Nat} {m : MM} {k : Int → MM → Prop} (c0 : Nat) (h0 : SH c0 = .inr 0) (x1 : Int)
    (hp : N G d mi_X0_wornSet 4 [some (vr c0), some (vi x1), some (vi 0), some (vi 0)] [] m (RI k)) :
    N G d mi_X0_wornSet 0 [some (vr c0), some (vi x1), none, none] [] m (RI k) := by
  refine v_iconst dX0_wornSet_0 ?_
  refine v_istore_n dX0_wornSet_1 rfl (by decide) ?_
  refine v_iconst dX0_wornSet_2 ?_
  refine v_istore_n dX0_wornSet_3 rfl (by decide) ?_
  exact hp
theorem g_X0_wornSet_4 {G : GG} {d : Nat} {m : MM} {k : Int → MM → Prop} (c0 : Nat) (h0 : SH c0 = .inr 0) (x1 : Int) (x2 : Int) (x3 : Int)
    (hp : bLE 8 x3 (k x2 m) (∃ j1 : Nat, (x3 = (j1 : Int) ∧ j1 < 8) ∧ (bEQ (m (c0 + 1) j1) x1 (N G d mi_X0_wornSet 4 [some (vr c0), some (vi x1), some (vi (ior x2 (ishl 1 x3))), some (vi (x3 + 1))] [] m (RI k)) (N G d mi_X0_wornSet 4 [some (vr c0), some (vi x1), some (vi x2), some (vi (x3 + 1))] [] m (RI k))))) :
    N G d mi_X0_wornSet 4 [some (vr c0), some (vi x1), some (vi x2), some (vi x3)] [] m (RI k) := by
  refine v_iload_n dX0_wornSet_4 rfl rfl ?_
  refine v_bipush dX0_wornSet_5 rfl ?_
  obtain ⟨⟨r1, r2⟩, hA, hB⟩ := hp
  refine v_icmp_ge (tgt := 32) dX0_wornSet_7 (by decide) r2 r1 (fun q => ?_) (fun q => ?_)
  · have hp := hA q
    refine v_iload_n dX0_wornSet_32 rfl rfl ?_
    exact n_retI dX0_wornSet_33 rfl hp
  · have hp := hB q
    refine v_aload_n dX0_wornSet_10 rfl rfl ?_
    refine n_getr dX0_wornSet_11 fo_X0_15 h0 rfl (kr0_1 h0) ?_
    refine v_iload_n dX0_wornSet_14 rfl rfl ?_
    obtain ⟨j1, ⟨ej1, bj1⟩, hp⟩ := hp
    refine n_iald (j := j1) dX0_wornSet_15 (kn0_1 h0) ej1 bj1 ?_
    refine v_iload_n dX0_wornSet_16 rfl rfl ?_
    obtain ⟨⟨r1, r2⟩, hA, hB⟩ := hp
    refine v_icmp_ne (tgt := 26) dX0_wornSet_17 (by decide) r1 r2 (fun q => ?_) (fun q => ?_)
    · have hp := hB q
      refine v_iinc dX0_wornSet_26 rfl (by decide) ?_
      refine v_goto (tgt := 4) dX0_wornSet_29 (by decide) ?_
      exact hp
    · have hp := hA q
      refine v_iload_n dX0_wornSet_20 rfl rfl ?_
      refine v_iconst dX0_wornSet_21 ?_
      refine v_iload_n dX0_wornSet_22 rfl rfl ?_
      refine v_ishl dX0_wornSet_23 ?_
      refine v_ior dX0_wornSet_24 ?_
      refine v_istore_n dX0_wornSet_25 rfl (by decide) ?_
      refine v_iinc dX0_wornSet_26 rfl (by decide) ?_
      refine v_goto (tgt := 4) dX0_wornSet_29 (by decide) ?_
      exact hp
theorem g_X2_isLetter_0 {G : GG} {d : Nat} {m : MM} {k : Int → MM → Prop} (x0 : Int)
    (hp : bLT x0 97 (N G d mi_X2_isLetter 12 [some (vi x0)] [] m (RI k)) (bLE x0 122 (k 1 m) (N G d mi_X2_isLetter 12 [some (vi x0)] [] m (RI k)))) :
    N G d mi_X2_isLetter 0 [some (vi x0)] [] m (RI k) := by
  refine v_iload_n dX2_isLetter_0 rfl rfl ?_
  refine v_bipush dX2_isLetter_1 rfl ?_
  obtain ⟨⟨r1, r2⟩, hA, hB⟩ := hp
  refine v_icmp_lt (tgt := 12) dX2_isLetter_3 (by decide) r1 r2 (fun q => ?_) (fun q => ?_)
  · have hp := hA q
    exact hp
  · have hp := hB q
    refine v_iload_n dX2_isLetter_6 rfl rfl ?_
    refine v_bipush dX2_isLetter_7 rfl ?_
    obtain ⟨⟨r1, r2⟩, hA, hB⟩ := hp
    refine v_icmp_le (tgt := 24) dX2_isLetter_9 (by decide) r1 r2 (fun q => ?_) (fun q => ?_)
    · have hp := hA q
      refine v_iconst dX2_isLetter_24 ?_
      refine v_goto (tgt := 29) dX2_isLetter_25 (by decide) ?_
      exact n_retZ dX2_isLetter_29 rfl (by decide) hp
    · have hp := hB q
      exact hp
theorem g_X2_isLetter_12 {G : GG} {d : Nat} {m : MM} {k : Int → MM → Prop} (x0 : Int)
    (hp : bLT x0 65 (k 0 m) (bLT 90 x0 (k 0 m) (k 1 m))) :
    N G d mi_X2_isLetter 12 [some (vi x0)] [] m (RI k) := by
  refine v_iload_n dX2_isLetter_12 rfl rfl ?_
  refine v_bipush dX2_isLetter_13 rfl ?_
  obtain ⟨⟨r1, r2⟩, hA, hB⟩ := hp
  refine v_icmp_lt (tgt := 28) dX2_isLetter_15 (by decide) r1 r2 (fun q => ?_) (fun q => ?_)
  · have hp := hA q
    refine v_iconst dX2_isLetter_28 ?_
    exact n_retZ dX2_isLetter_29 rfl (by decide) hp
  · have hp := hB q
    refine v_iload_n dX2_isLetter_18 rfl rfl ?_
    refine v_bipush dX2_isLetter_19 rfl ?_
    obtain ⟨⟨r1, r2⟩, hA, hB⟩ := hp
    refine v_icmp_gt (tgt := 28) dX2_isLetter_21 (by decide) r2 r1 (fun q => ?_) (fun q => ?_)
    · have hp := hA q
      refine v_iconst dX2_isLetter_28 ?_
      exact n_retZ dX2_isLetter_29 rfl (by decide) hp
    · have hp := hB q
      refine v_iconst dX2_isLetter_24 ?_
      refine v_goto (tgt := 29) dX2_isLetter_25 (by decide) ?_
      exact n_retZ dX2_isLetter_29 rfl (by decide) hp
theorem g_X3_within_0 {G : GG} {d : Nat} {m : MM} {k : Int → MM → Prop} (x0 : Int)
    (hp : (rnl x0 ∧ rnl 1000000) ∧ (bLE (lcm x0 1000000) 0 ((rnl x0 ∧ rnl (-1000000)) ∧ (bLE 0 (lcm x0 (-1000000)) (k x0 m) (k (-1000000) m))) (k 1000000 m))) :
    N G d mi_X3_within 0 [some (vl x0), none] [] m (RI k) := by
  refine v_lload_n dX3_within_0 rfl rfl ?_
  refine v_ldc2 dX3_within_1 cl_X3_32 ?_
  obtain ⟨hg, hp⟩ := hp
  refine v_lcmp dX3_within_4 hg.1 hg.2 ?_
  obtain ⟨⟨r1, r2⟩, hA, hB⟩ := hp
  refine v_if_le (tgt := 11) dX3_within_5 (by decide) r1 (fun q => ?_) (fun q => ?_)
  · have hp := hA q
    refine v_lload_n dX3_within_11 rfl rfl ?_
    refine v_ldc2 dX3_within_12 cl_X3_35 ?_
    obtain ⟨hg, hp⟩ := hp
    refine v_lcmp dX3_within_15 hg.1 hg.2 ?_
    obtain ⟨⟨r1, r2⟩, hA, hB⟩ := hp
    refine v_if_ge (tgt := 24) dX3_within_16 (by decide) r2 (fun q => ?_) (fun q => ?_)
    · have hp := hA q
      refine v_lload_n dX3_within_24 rfl rfl ?_
      refine v_l2i dX3_within_25 ?_
      exact n_retI dX3_within_26 rfl hp
    · have hp := hB q
      refine v_ldc dX3_within_19 co_X3_37 ?_
      refine v_goto (tgt := 26) dX3_within_21 (by decide) ?_
      exact n_retI dX3_within_26 rfl hp
  · have hp := hB q
    refine v_ldc dX3_within_8 co_X3_34 ?_
    exact n_retI dX3_within_10 rfl hp
theorem g_X5_addSign_0 {G : GG} {d : Nat} {m : MM} {k : MM → Prop} (c0 : Nat) (h0 : SH c0 = .inr 5) (x1 : Int)
    (hp : N G d mi_X5_addNumber 0 [some (vr c0), some (vi ((-1) - x1))] [] m (RV fun m2 => k m2)) :
    N G (d + 1) mi_X5_addSign 0 [some (vr c0), some (vi x1)] [] m (RV k) := by
  refine v_aload_n dX5_addSign_0 rfl rfl ?_
  refine v_iconst dX5_addSign_1 ?_
  refine v_iload_n dX5_addSign_2 rfl rfl ?_
  refine v_isub dX5_addSign_3 ?_
  refine n_callVV (As := [vi ((-1) - x1)]) (st := []) dX5_addSign_4 ml_X5_43 mo_X5_addNumber mv_X5_addNumber h0 rfl rfl rfl rfl (Nat.le_of_ble_eq_true rfl) (Nat.le_of_ble_eq_true rfl) (by decide) hp (fun m2 hp => ?_)
  exact n_retV dX5_addSign_7 rfl hp
theorem g_X0_atPlace_0 {G : GG} {d : Nat} {m : MM} {k : Int → MM → Prop} (x0 : Int) (x1 : Int)
    (hp : k ((iand (ishr x0 (4 * x1)) 15) - 1) m) :
    N G d mi_X0_atPlace 0 [some (vi x0), some (vi x1)] [] m (RI k) := by
  refine v_iload_n dX0_atPlace_0 rfl rfl ?_
  refine v_iconst dX0_atPlace_1 ?_
  refine v_iload_n dX0_atPlace_2 rfl rfl ?_
  refine v_imul dX0_atPlace_3 ?_
  refine v_ishr dX0_atPlace_4 ?_
  refine v_bipush dX0_atPlace_5 rfl ?_
  refine v_iand dX0_atPlace_7 ?_
  refine v_iconst dX0_atPlace_8 ?_
  refine v_isub dX0_atPlace_9 ?_
  exact n_retI dX0_atPlace_10 rfl hp
theorem g_X2_isDigit_0 {G : GG} {d : Nat} {m : MM} {k : Int → MM → Prop} (x0 : Int)
    (hp : bLT x0 48 (k 0 m) (bLT 57 x0 (k 0 m) (k 1 m))) :
    N G d mi_X2_isDigit 0 [some (vi x0)] [] m (RI k) := by
  refine v_iload_n dX2_isDigit_0 rfl rfl ?_
  refine v_bipush dX2_isDigit_1 rfl ?_
  obtain ⟨⟨r1, r2⟩, hA, hB⟩ := hp
  refine v_icmp_lt (tgt := 16) dX2_isDigit_3 (by decide) r1 r2 (fun q => ?_) (fun q => ?_)
  · have hp := hA q
    refine v_iconst dX2_isDigit_16 ?_
    exact n_retZ dX2_isDigit_17 rfl (by decide) hp
  · have hp := hB q
    refine v_iload_n dX2_isDigit_6 rfl rfl ?_
    refine v_bipush dX2_isDigit_7 rfl ?_
    obtain ⟨⟨r1, r2⟩, hA, hB⟩ := hp
    refine v_icmp_gt (tgt := 16) dX2_isDigit_9 (by decide) r2 r1 (fun q => ?_) (fun q => ?_)
    · have hp := hA q
      refine v_iconst dX2_isDigit_16 ?_
      exact n_retZ dX2_isDigit_17 rfl (by decide) hp
    · have hp := hB q
      refine v_iconst dX2_isDigit_12 ?_
      refine v_goto (tgt := 17) dX2_isDigit_13 (by decide) ?_
      exact n_retZ dX2_isDigit_17 rfl (by decide) hp
theorem g_X3_joined_0 {G : GG} {d : Nat} {m : MM} {k : Int → MM → Prop} (x0 : Int) (x1 : Int) (x2 : Int)
    (hp : (rng x0) ∧ (x0 = 10 → ((rng (ior x1 x2)) ∧ (k (ior x1 x2) m))) ∧ (x0 = 11 → ((rng (iand x1 x2)) ∧ (k (iand x1 x2) m))) ∧ (x0 = 12 → (N G d mi_X3_joined 198 [none, some (vi x1), some (vi x2)] [] m (RJG k))) ∧ (x0 = 13 → (N G d mi_X3_joined 198 [none, some (vi x1), some (vi x2)] [] m (RJG k))) ∧ (x0 = 14 → (N G d mi_X3_joined 198 [none, some (vi x1), some (vi x2)] [] m (RJG k))) ∧ (x0 = 15 → (N G d mi_X3_joined 198 [none, some (vi x1), some (vi x2)] [] m (RJG k))) ∧ (x0 = 16 → (N G d mi_X3_joined 198 [none, some (vi x1), some (vi x2)] [] m (RJG k))) ∧ (x0 = 17 → (N G d mi_X3_joined 198 [none, some (vi x1), some (vi x2)] [] m (RJG k))) ∧ (x0 = 18 → (N G d mi_X3_joined 198 [none, some (vi x1), some (vi x2)] [] m (RJG k))) ∧ (x0 = 19 → (N G d mi_X3_joined 198 [none, some (vi x1), some (vi x2)] [] m (RJG k))) ∧ (x0 = 20 → (N G d mi_X3_joined 198 [none, some (vi x1), some (vi x2)] [] m (RJG k))) ∧ (x0 = 21 → (N G d mi_X3_joined 198 [none, some (vi x1), some (vi x2)] [] m (RJG k))) ∧ (x0 = 22 → (bLE x2 x1 (k 0 m) (k 1 m))) ∧ (x0 = 23 → (bLT x2 x1 (k 0 m) (k 1 m))) ∧ (x0 = 24 → (bLE x1 x2 (k 0 m) (k 1 m))) ∧ (x0 = 25 → (bLT x1 x2 (k 0 m) (k 1 m))) ∧ (x0 = 26 → (bEQ x1 x2 (k 1 m) (k 0 m))) ∧ (x0 = 27 → (N G d mi_X3_joined 198 [none, some (vi x1), some (vi x2)] [] m (RJG k))) ∧ (x0 = 28 → ((rng (x1 + x2)) ∧ (k (x1 + x2) m))) ∧ (x0 = 29 → ((rng (x1 - x2)) ∧ (k (x1 - x2) m))) ∧ (x0 = 30 → ((rng x1) ∧ ((rng x2) ∧ (k (x1 * x2) m)))) ∧ (x0 = 31 → (bEQ x2 0 (k 0 m) ((rng x2 ∧ x2 ≠ 0) ∧ ((rng (idiv x1 x2)) ∧ (k (idiv x1 x2) m))))) ∧ ((x0 < 10 ∨ 31 < x0) → (N G d mi_X3_joined 198 [none, some (vi x1), some (vi x2)] [] m (RJG k)))) :
    N G d mi_X3_joined 0 [some (vi x0), some (vi x1), some (vi x2)] [] m (RJG k) := by
  refine v_iload_n dX3_joined_0 rfl rfl ?_
  obtain ⟨hz, h_0, h_1, h_2, h_3, h_4, h_5, h_6, h_7, h_8, h_9, h_10, h_11, h_12, h_13, h_14, h_15, h_16, h_17, h_18, h_19, h_20, h_21, hd⟩ := hp
  by_cases hq : x0 < 10 ∨ 31 < x0
  · have hp := hd hq
    refine v_tableOut (tgt := 198) dX3_joined_1 hz hq (by decide) ?_
    exact n_weak (wk_n (wk_s (wk_s wk_nil))) hp
  have hc : x0 = 10 ∨ x0 = 11 ∨ x0 = 12 ∨ x0 = 13 ∨ x0 = 14 ∨ x0 = 15 ∨ x0 = 16 ∨ x0 = 17 ∨ x0 = 18 ∨ x0 = 19 ∨ x0 = 20 ∨ x0 = 21 ∨ x0 = 22 ∨ x0 = 23 ∨ x0 = 24 ∨ x0 = 25 ∨ x0 = 26 ∨ x0 = 27 ∨ x0 = 28 ∨ x0 = 29 ∨ x0 = 30 ∨ x0 = 31 := by omega
  rcases hc with hc | hc | hc | hc | hc | hc | hc | hc | hc | hc | hc | hc | hc | hc | hc | hc | hc | hc | hc | hc | hc | hc
  · have hp := h_0 hc
    refine v_tableIn (tgt := 138) (off := 137) dX3_joined_1 hz (by omega) (by omega) (by rw [hc]; rfl) (by decide) ?_
    refine v_iload_n dX3_joined_138 rfl rfl ?_
    refine v_iload_n dX3_joined_139 rfl rfl ?_
    refine v_ior dX3_joined_140 ?_
    obtain ⟨hg, hp⟩ := hp
    refine v_i2l dX3_joined_141 hg ?_
    exact n_retL dX3_joined_142 rfl hp
  · have hp := h_1 hc
    refine v_tableIn (tgt := 133) (off := 132) dX3_joined_1 hz (by omega) (by omega) (by rw [hc]; rfl) (by decide) ?_
    refine v_iload_n dX3_joined_133 rfl rfl ?_
    refine v_iload_n dX3_joined_134 rfl rfl ?_
    refine v_iand dX3_joined_135 ?_
    obtain ⟨hg, hp⟩ := hp
    refine v_i2l dX3_joined_136 hg ?_
    exact n_retL dX3_joined_137 rfl hp
  · have hp := h_2 hc
    refine v_tableIn (tgt := 198) (off := 197) dX3_joined_1 hz (by omega) (by omega) (by rw [hc]; rfl) (by decide) ?_
    exact n_weak (wk_n (wk_s (wk_s wk_nil))) hp
  · have hp := h_3 hc
    refine v_tableIn (tgt := 198) (off := 197) dX3_joined_1 hz (by omega) (by omega) (by rw [hc]; rfl) (by decide) ?_
    exact n_weak (wk_n (wk_s (wk_s wk_nil))) hp
  · have hp := h_4 hc
    refine v_tableIn (tgt := 198) (off := 197) dX3_joined_1 hz (by omega) (by omega) (by rw [hc]; rfl) (by decide) ?_
    exact n_weak (wk_n (wk_s (wk_s wk_nil))) hp
  · have hp := h_5 hc
    refine v_tableIn (tgt := 198) (off := 197) dX3_joined_1 hz (by omega) (by omega) (by rw [hc]; rfl) (by decide) ?_
    exact n_weak (wk_n (wk_s (wk_s wk_nil))) hp
  · have hp := h_6 hc
    refine v_tableIn (tgt := 198) (off := 197) dX3_joined_1 hz (by omega) (by omega) (by rw [hc]; rfl) (by decide) ?_
    exact n_weak (wk_n (wk_s (wk_s wk_nil))) hp
  · have hp := h_7 hc
    refine v_tableIn (tgt := 198) (off := 197) dX3_joined_1 hz (by omega) (by omega) (by rw [hc]; rfl) (by decide) ?_
    exact n_weak (wk_n (wk_s (wk_s wk_nil))) hp
  · have hp := h_8 hc
    refine v_tableIn (tgt := 198) (off := 197) dX3_joined_1 hz (by omega) (by omega) (by rw [hc]; rfl) (by decide) ?_
    exact n_weak (wk_n (wk_s (wk_s wk_nil))) hp
  · have hp := h_9 hc
    refine v_tableIn (tgt := 198) (off := 197) dX3_joined_1 hz (by omega) (by omega) (by rw [hc]; rfl) (by decide) ?_
    exact n_weak (wk_n (wk_s (wk_s wk_nil))) hp
  · have hp := h_10 hc
    refine v_tableIn (tgt := 198) (off := 197) dX3_joined_1 hz (by omega) (by omega) (by rw [hc]; rfl) (by decide) ?_
    exact n_weak (wk_n (wk_s (wk_s wk_nil))) hp
  · have hp := h_11 hc
    refine v_tableIn (tgt := 198) (off := 197) dX3_joined_1 hz (by omega) (by omega) (by rw [hc]; rfl) (by decide) ?_
    exact n_weak (wk_n (wk_s (wk_s wk_nil))) hp
  · have hp := h_12 hc
    refine v_tableIn (tgt := 143) (off := 142) dX3_joined_1 hz (by omega) (by omega) (by rw [hc]; rfl) (by decide) ?_
    refine v_iload_n dX3_joined_143 rfl rfl ?_
    refine v_iload_n dX3_joined_144 rfl rfl ?_
    obtain ⟨⟨r1, r2⟩, hA, hB⟩ := hp
    refine v_icmp_ge (tgt := 152) dX3_joined_145 (by decide) r2 r1 (fun q => ?_) (fun q => ?_)
    · have hp := hA q
      refine v_lconst (z := 0) dX3_joined_152 rfl ?_
      exact n_retL dX3_joined_153 rfl hp
    · have hp := hB q
      refine v_lconst (z := 1) dX3_joined_148 rfl ?_
      refine v_goto (tgt := 153) dX3_joined_149 (by decide) ?_
      exact n_retL dX3_joined_153 rfl hp
  · have hp := h_13 hc
    refine v_tableIn (tgt := 154) (off := 153) dX3_joined_1 hz (by omega) (by omega) (by rw [hc]; rfl) (by decide) ?_
    refine v_iload_n dX3_joined_154 rfl rfl ?_
    refine v_iload_n dX3_joined_155 rfl rfl ?_
    obtain ⟨⟨r1, r2⟩, hA, hB⟩ := hp
    refine v_icmp_gt (tgt := 163) dX3_joined_156 (by decide) r2 r1 (fun q => ?_) (fun q => ?_)
    · have hp := hA q
      refine v_lconst (z := 0) dX3_joined_163 rfl ?_
      exact n_retL dX3_joined_164 rfl hp
    · have hp := hB q
      refine v_lconst (z := 1) dX3_joined_159 rfl ?_
      refine v_goto (tgt := 164) dX3_joined_160 (by decide) ?_
      exact n_retL dX3_joined_164 rfl hp
  · have hp := h_14 hc
    refine v_tableIn (tgt := 165) (off := 164) dX3_joined_1 hz (by omega) (by omega) (by rw [hc]; rfl) (by decide) ?_
    refine v_iload_n dX3_joined_165 rfl rfl ?_
    refine v_iload_n dX3_joined_166 rfl rfl ?_
    obtain ⟨⟨r1, r2⟩, hA, hB⟩ := hp
    refine v_icmp_le (tgt := 174) dX3_joined_167 (by decide) r1 r2 (fun q => ?_) (fun q => ?_)
    · have hp := hA q
      refine v_lconst (z := 0) dX3_joined_174 rfl ?_
      exact n_retL dX3_joined_175 rfl hp
    · have hp := hB q
      refine v_lconst (z := 1) dX3_joined_170 rfl ?_
      refine v_goto (tgt := 175) dX3_joined_171 (by decide) ?_
      exact n_retL dX3_joined_175 rfl hp
  · have hp := h_15 hc
    refine v_tableIn (tgt := 176) (off := 175) dX3_joined_1 hz (by omega) (by omega) (by rw [hc]; rfl) (by decide) ?_
    refine v_iload_n dX3_joined_176 rfl rfl ?_
    refine v_iload_n dX3_joined_177 rfl rfl ?_
    obtain ⟨⟨r1, r2⟩, hA, hB⟩ := hp
    refine v_icmp_lt (tgt := 185) dX3_joined_178 (by decide) r1 r2 (fun q => ?_) (fun q => ?_)
    · have hp := hA q
      refine v_lconst (z := 0) dX3_joined_185 rfl ?_
      exact n_retL dX3_joined_186 rfl hp
    · have hp := hB q
      refine v_lconst (z := 1) dX3_joined_181 rfl ?_
      refine v_goto (tgt := 186) dX3_joined_182 (by decide) ?_
      exact n_retL dX3_joined_186 rfl hp
  · have hp := h_16 hc
    refine v_tableIn (tgt := 187) (off := 186) dX3_joined_1 hz (by omega) (by omega) (by rw [hc]; rfl) (by decide) ?_
    refine v_iload_n dX3_joined_187 rfl rfl ?_
    refine v_iload_n dX3_joined_188 rfl rfl ?_
    obtain ⟨⟨r1, r2⟩, hA, hB⟩ := hp
    refine v_icmp_ne (tgt := 196) dX3_joined_189 (by decide) r1 r2 (fun q => ?_) (fun q => ?_)
    · have hp := hB q
      refine v_lconst (z := 0) dX3_joined_196 rfl ?_
      exact n_retL dX3_joined_197 rfl hp
    · have hp := hA q
      refine v_lconst (z := 1) dX3_joined_192 rfl ?_
      refine v_goto (tgt := 197) dX3_joined_193 (by decide) ?_
      exact n_retL dX3_joined_197 rfl hp
  · have hp := h_17 hc
    refine v_tableIn (tgt := 198) (off := 197) dX3_joined_1 hz (by omega) (by omega) (by rw [hc]; rfl) (by decide) ?_
    exact n_weak (wk_n (wk_s (wk_s wk_nil))) hp
  · have hp := h_18 hc
    refine v_tableIn (tgt := 104) (off := 103) dX3_joined_1 hz (by omega) (by omega) (by rw [hc]; rfl) (by decide) ?_
    refine v_iload_n dX3_joined_104 rfl rfl ?_
    refine v_iload_n dX3_joined_105 rfl rfl ?_
    refine v_iadd dX3_joined_106 ?_
    obtain ⟨hg, hp⟩ := hp
    refine v_i2l dX3_joined_107 hg ?_
    exact n_retL dX3_joined_108 rfl hp
  · have hp := h_19 hc
    refine v_tableIn (tgt := 109) (off := 108) dX3_joined_1 hz (by omega) (by omega) (by rw [hc]; rfl) (by decide) ?_
    refine v_iload_n dX3_joined_109 rfl rfl ?_
    refine v_iload_n dX3_joined_110 rfl rfl ?_
    refine v_isub dX3_joined_111 ?_
    obtain ⟨hg, hp⟩ := hp
    refine v_i2l dX3_joined_112 hg ?_
    exact n_retL dX3_joined_113 rfl hp
  · have hp := h_20 hc
    refine v_tableIn (tgt := 114) (off := 113) dX3_joined_1 hz (by omega) (by omega) (by rw [hc]; rfl) (by decide) ?_
    refine v_iload_n dX3_joined_114 rfl rfl ?_
    obtain ⟨hg, hp⟩ := hp
    refine v_i2l dX3_joined_115 hg ?_
    refine v_iload_n dX3_joined_116 rfl rfl ?_
    obtain ⟨hg, hp⟩ := hp
    refine v_i2l dX3_joined_117 hg ?_
    refine v_lmul dX3_joined_118 ?_
    exact n_retL dX3_joined_119 rfl hp
  · have hp := h_21 hc
    refine v_tableIn (tgt := 120) (off := 119) dX3_joined_1 hz (by omega) (by omega) (by rw [hc]; rfl) (by decide) ?_
    refine v_iload_n dX3_joined_120 rfl rfl ?_
    obtain ⟨⟨r1, r2⟩, hA, hB⟩ := hp
    refine v_if_ne (tgt := 128) dX3_joined_121 (by decide) r1 (fun q => ?_) (fun q => ?_)
    · have hp := hB q
      refine v_iload_n dX3_joined_128 rfl rfl ?_
      refine v_iload_n dX3_joined_129 rfl rfl ?_
      obtain ⟨hg, hp⟩ := hp
      refine v_idiv dX3_joined_130 hg.1 hg.2 ?_
      obtain ⟨hg, hp⟩ := hp
      refine v_i2l dX3_joined_131 hg ?_
      exact n_retL dX3_joined_132 rfl hp
    · have hp := hA q
      refine v_lconst (z := 0) dX3_joined_124 rfl ?_
      refine v_goto (tgt := 132) dX3_joined_125 (by decide) ?_
      exact n_retL dX3_joined_132 rfl hp
theorem g_X3_joined_198 {G : GG} {d : Nat} {m : MM} {k : Int → MM → Prop} (x1 : Int) (x2 : Int)
    (hp : bEQ x1 x2 (k 0 m) (k 1 m)) :
    N G d mi_X3_joined 198 [none, some (vi x1), some (vi x2)] [] m (RJG k) := by
  refine v_iload_n dX3_joined_198 rfl rfl ?_
  refine v_iload_n dX3_joined_199 rfl rfl ?_
  obtain ⟨⟨r1, r2⟩, hA, hB⟩ := hp
  refine v_icmp_eq (tgt := 207) dX3_joined_200 (by decide) r1 r2 (fun q => ?_) (fun q => ?_)
  · have hp := hA q
    refine v_lconst (z := 0) dX3_joined_207 rfl ?_
    exact n_retL dX3_joined_208 rfl hp
  · have hp := hB q
    refine v_lconst (z := 1) dX3_joined_203 rfl ?_
    refine v_goto (tgt := 208) dX3_joined_204 (by decide) ?_
    exact n_retL dX3_joined_208 rfl hp
theorem g_X0_withAhead_0 {G : GG} {d : Nat} {m : MM} {k : Int → MM → Prop} (x0 : Int) (x1 : Int)
    (hp : k (iand (ior (ishl x0 4) (x1 + 1)) 65535) m) :
    N G d mi_X0_withAhead 0 [some (vi x0), some (vi x1)] [] m (RI k) := by
  refine v_iload_n dX0_withAhead_0 rfl rfl ?_
  refine v_iconst dX0_withAhead_1 ?_
  refine v_ishl dX0_withAhead_2 ?_
  refine v_iload_n dX0_withAhead_3 rfl rfl ?_
  refine v_iconst dX0_withAhead_4 ?_
  refine v_iadd dX0_withAhead_5 ?_
  refine v_ior dX0_withAhead_6 ?_
  refine v_ldc dX0_withAhead_7 co_X0_45 ?_
  refine v_iand dX0_withAhead_9 ?_
  exact n_retI dX0_withAhead_10 rfl hp
theorem g_X2_numberOf_0 {G : GG} {d : Nat} {m : MM} {k : Int → MM → Prop} (x1 : Int) (x2 : Int)
    (hp : N G (d + 1) mi_X2_numberOf 5 [some (vr 1), none, some (vi x2), some (vi 0), some (vi x1)] [] m (RI k)) :
    N G (d + 1) mi_X2_numberOf 0 [some (vr 1), some (vi x1), some (vi x2), none, none] [] m (RI k) := by
  refine v_iconst dX2_numberOf_0 ?_
  refine v_istore_n dX2_numberOf_1 rfl (by decide) ?_
  refine v_iload_n dX2_numberOf_2 rfl rfl ?_
  refine v_istore dX2_numberOf_3 (by decide) ?_
  exact n_weak (wk_s (wk_n (wk_s (wk_s (wk_s wk_nil))))) hp
theorem g_X2_numberOf_5 {G : GG} {d : Nat} {m : MM} {k : Int → MM → Prop} (x2 : Int) (x3 : Int) (x4 : Int)
    (hp : bLE x2 x4 (k x3 m) (∃ j1 : Nat, (x4 = (j1 : Int) ∧ j1 < 300) ∧ ((rng (((x3 * 10) + (m 1 j1)) - 48) ∧ rng 10000) ∧ (N G (d + 1) mi_X2_numberOf 5 [some (vr 1), none, some (vi x2), some (vi (imin (((x3 * 10) + (m 1 j1)) - 48) 10000)), some (vi (x4 + 1))] [] m (RI k))))) :
    N G (d + 1) mi_X2_numberOf 5 [some (vr 1), none, some (vi x2), some (vi x3), some (vi x4)] [] m (RI k) := by
  refine v_iload dX2_numberOf_5 rfl ?_
  refine v_iload_n dX2_numberOf_7 rfl rfl ?_
  obtain ⟨⟨r1, r2⟩, hA, hB⟩ := hp
  refine v_icmp_ge (tgt := 36) dX2_numberOf_8 (by decide) r2 r1 (fun q => ?_) (fun q => ?_)
  · have hp := hA q
    refine v_iload_n dX2_numberOf_36 rfl rfl ?_
    exact n_retI dX2_numberOf_37 rfl hp
  · have hp := hB q
    refine v_iload_n dX2_numberOf_11 rfl rfl ?_
    refine v_bipush dX2_numberOf_12 rfl ?_
    refine v_imul dX2_numberOf_14 ?_
    refine v_aload_n dX2_numberOf_15 rfl rfl ?_
    refine v_iload dX2_numberOf_16 rfl ?_
    obtain ⟨j1, ⟨ej1, bj1⟩, hp⟩ := hp
    refine n_bald (j := j1) dX2_numberOf_18 sh_1 ej1 bj1 ?_
    refine v_iadd dX2_numberOf_19 ?_
    refine v_bipush dX2_numberOf_20 rfl ?_
    refine v_isub dX2_numberOf_22 ?_
    refine v_sipush dX2_numberOf_23 rfl ?_
    obtain ⟨hg, hp⟩ := hp
    refine v_mmin dX2_numberOf_26 mk_X2_47 hg.1 hg.2 (by omega) (Nat.le_of_ble_eq_true rfl) (by omega) ?_
    refine v_istore_n dX2_numberOf_29 rfl (by decide) ?_
    refine v_iinc dX2_numberOf_30 rfl (by decide) ?_
    refine v_goto (tgt := 5) dX2_numberOf_33 (by decide) ?_
    exact hp
theorem g_X0_withPlace_0 {G : GG} {d : Nat} {m : MM} {k : Int → MM → Prop} (x0 : Int) (x1 : Int) (x2 : Int)
    (hp : k (ior x0 (ishl (x2 + 1) (4 * x1))) m) :
    N G d mi_X0_withPlace 0 [some (vi x0), some (vi x1), some (vi x2)] [] m (RI k) := by
  refine v_iload_n dX0_withPlace_0 rfl rfl ?_
  refine v_iload_n dX0_withPlace_1 rfl rfl ?_
  refine v_iconst dX0_withPlace_2 ?_
  refine v_iadd dX0_withPlace_3 ?_
  refine v_iconst dX0_withPlace_4 ?_
  refine v_iload_n dX0_withPlace_5 rfl rfl ?_
  refine v_imul dX0_withPlace_6 ?_
  refine v_ishl dX0_withPlace_7 ?_
  refine v_ior dX0_withPlace_8 ?_
  exact n_retI dX0_withPlace_9 rfl hp
theorem g_X2_tokenOf_0 {G : GG} {d : Nat} {m : MM} {k : Int → MM → Prop} (x1 : Int) (x2 : Int)
    (hp : ∃ j1 : Nat, (x1 = (j1 : Int) ∧ j1 < 300) ∧ (N G d mi_X2_isLetter 0 [some (vi (m 1 j1))] [] m (RI fun z2 m3 => bEQ z2 0 (∃ j4 : Nat, (x1 = (j4 : Int) ∧ j4 < 300) ∧ (N G d mi_X2_isDigit 0 [some (vi (m3 1 j4))] [] m3 (RI fun z5 m6 => bEQ z5 0 (bEQ (x2 - x1) 2 (N G (d + 1) mi_X2_tokenOf 40 [some (vr 1), some (vi x1), none, none] [vi 1] m6 (RI k)) (N G (d + 1) mi_X2_tokenOf 40 [some (vr 1), some (vi x1), none, none] [vi 0] m6 (RI k))) (k 35 m6)))) (N G d mi_X2_wordToken 0 [some (vr 1), some (vi x1), some (vi x2), none, none, none] [] m3 (RI fun z7 m8 => k z7 m8))))) :
    N G (d + 1) mi_X2_tokenOf 0 [some (vr 1), some (vi x1), some (vi x2), none] [] m (RI k) := by
  refine v_aload_n dX2_tokenOf_0 rfl rfl ?_
  refine v_iload_n dX2_tokenOf_1 rfl rfl ?_
  obtain ⟨j1, ⟨ej1, bj1⟩, hp⟩ := hp
  refine n_bald (j := j1) dX2_tokenOf_2 sh_1 ej1 bj1 ?_
  refine n_callSI (As := [vi (m 1 j1)]) (st := []) dX2_tokenOf_3 ml_X2_71 mo_X2_isLetter ms_X2_isLetter rfl rfl (Nat.le_of_ble_eq_true rfl) (Nat.le_of_ble_eq_true rfl) (by decide) hp (fun z2 m3 hp => ?_)
  obtain ⟨⟨r1, r2⟩, hA, hB⟩ := hp
  refine v_if_eq (tgt := 16) dX2_tokenOf_6 (by decide) r1 (fun q => ?_) (fun q => ?_)
  · have hp := hA q
    refine v_aload_n dX2_tokenOf_16 rfl rfl ?_
    refine v_iload_n dX2_tokenOf_17 rfl rfl ?_
    obtain ⟨j4, ⟨ej4, bj4⟩, hp⟩ := hp
    refine n_bald (j := j4) dX2_tokenOf_18 sh_1 ej4 bj4 ?_
    refine n_callSI (As := [vi (m3 1 j4)]) (st := []) dX2_tokenOf_19 ml_X2_61 mo_X2_isDigit ms_X2_isDigit rfl rfl (Nat.le_of_ble_eq_true rfl) (Nat.le_of_ble_eq_true rfl) (by decide) hp (fun z5 m6 hp => ?_)
    obtain ⟨⟨r1, r2⟩, hA, hB⟩ := hp
    refine v_if_eq (tgt := 28) dX2_tokenOf_22 (by decide) r1 (fun q => ?_) (fun q => ?_)
    · have hp := hA q
      refine v_iload_n dX2_tokenOf_28 rfl rfl ?_
      refine v_iload_n dX2_tokenOf_29 rfl rfl ?_
      refine v_isub dX2_tokenOf_30 ?_
      refine v_iconst dX2_tokenOf_31 ?_
      obtain ⟨⟨r1, r2⟩, hA, hB⟩ := hp
      refine v_icmp_ne (tgt := 39) dX2_tokenOf_32 (by decide) r1 r2 (fun q => ?_) (fun q => ?_)
      · have hp := hB q
        refine v_iconst dX2_tokenOf_39 ?_
        exact n_weak (wk_s (wk_s (wk_n (wk_s wk_nil)))) hp
      · have hp := hA q
        refine v_iconst dX2_tokenOf_35 ?_
        refine v_goto (tgt := 40) dX2_tokenOf_36 (by decide) ?_
        exact n_weak (wk_s (wk_s (wk_n (wk_s wk_nil)))) hp
    · have hp := hB q
      refine v_bipush dX2_tokenOf_25 rfl ?_
      exact n_retI dX2_tokenOf_27 rfl hp
  · have hp := hB q
    refine v_aload_n dX2_tokenOf_9 rfl rfl ?_
    refine v_iload_n dX2_tokenOf_10 rfl rfl ?_
    refine v_iload_n dX2_tokenOf_11 rfl rfl ?_
    refine n_callSI (As := [vr 1, vi x1, vi x2]) (st := []) dX2_tokenOf_12 ml_X2_74 mo_X2_wordToken ms_X2_wordToken rfl rfl (Nat.le_of_ble_eq_true rfl) (Nat.le_of_ble_eq_true rfl) (by decide) hp (fun z7 m8 hp => ?_)
    exact n_retI dX2_tokenOf_15 rfl hp
theorem g_X2_tokenOf_40 {G : GG} {d : Nat} {m : MM} {k : Int → MM → Prop} (x1 : Int) (s0 : Int)
    (hp : ∃ j1 : Nat, (x1 = (j1 : Int) ∧ j1 < 300) ∧ ((rng (m 1 j1)) ∧ ((m 1 j1) = 35 → (k 27 m)) ∧ ((m 1 j1) = 36 → (k 37 m)) ∧ ((m 1 j1) = 37 → (k 37 m)) ∧ ((m 1 j1) = 38 → (k 37 m)) ∧ ((m 1 j1) = 39 → (k 37 m)) ∧ ((m 1 j1) = 40 → (k 32 m)) ∧ ((m 1 j1) = 41 → (k 33 m)) ∧ ((m 1 j1) = 42 → (k 30 m)) ∧ ((m 1 j1) = 43 → (k 28 m)) ∧ ((m 1 j1) = 44 → (k 37 m)) ∧ ((m 1 j1) = 45 → (k 29 m)) ∧ ((m 1 j1) = 46 → (k 37 m)) ∧ ((m 1 j1) = 47 → (k 31 m)) ∧ ((m 1 j1) = 48 → (k 37 m)) ∧ ((m 1 j1) = 49 → (k 37 m)) ∧ ((m 1 j1) = 50 → (k 37 m)) ∧ ((m 1 j1) = 51 → (k 37 m)) ∧ ((m 1 j1) = 52 → (k 37 m)) ∧ ((m 1 j1) = 53 → (k 37 m)) ∧ ((m 1 j1) = 54 → (k 37 m)) ∧ ((m 1 j1) = 55 → (k 37 m)) ∧ ((m 1 j1) = 56 → (k 37 m)) ∧ ((m 1 j1) = 57 → (k 37 m)) ∧ ((m 1 j1) = 58 → (k 37 m)) ∧ ((m 1 j1) = 59 → (k 34 m)) ∧ ((m 1 j1) = 60 → (bEQ s0 0 (k 22 m) (k 23 m))) ∧ ((m 1 j1) = 61 → (k 26 m)) ∧ ((m 1 j1) = 62 → (bEQ s0 0 (k 24 m) (k 25 m))) ∧ (((m 1 j1) < 35 ∨ 62 < (m 1 j1)) → (k 37 m)))) :
    N G (d + 1) mi_X2_tokenOf 40 [some (vr 1), some (vi x1), none, none] [vi s0] m (RI k) := by
  refine v_istore_n dX2_tokenOf_40 rfl (by decide) ?_
  refine v_aload_n dX2_tokenOf_41 rfl rfl ?_
  refine v_iload_n dX2_tokenOf_42 rfl rfl ?_
  obtain ⟨j1, ⟨ej1, bj1⟩, hp⟩ := hp
  refine n_bald (j := j1) dX2_tokenOf_43 sh_1 ej1 bj1 ?_
  obtain ⟨hz, h_0, h_1, h_2, h_3, h_4, h_5, h_6, h_7, h_8, h_9, h_10, h_11, h_12, h_13, h_14, h_15, h_16, h_17, h_18, h_19, h_20, h_21, h_22, h_23, h_24, h_25, h_26, h_27, hd⟩ := hp
  by_cases hq : (m 1 j1) < 35 ∨ 62 < (m 1 j1)
  · have hp := hd hq
    refine v_tableOut (tgt := 223) dX2_tokenOf_44 hz hq (by decide) ?_
    refine v_bipush dX2_tokenOf_223 rfl ?_
    exact n_retI dX2_tokenOf_225 rfl hp
  have hc : (m 1 j1) = 35 ∨ (m 1 j1) = 36 ∨ (m 1 j1) = 37 ∨ (m 1 j1) = 38 ∨ (m 1 j1) = 39 ∨ (m 1 j1) = 40 ∨ (m 1 j1) = 41 ∨ (m 1 j1) = 42 ∨ (m 1 j1) = 43 ∨ (m 1 j1) = 44 ∨ (m 1 j1) = 45 ∨ (m 1 j1) = 46 ∨ (m 1 j1) = 47 ∨ (m 1 j1) = 48 ∨ (m 1 j1) = 49 ∨ (m 1 j1) = 50 ∨ (m 1 j1) = 51 ∨ (m 1 j1) = 52 ∨ (m 1 j1) = 53 ∨ (m 1 j1) = 54 ∨ (m 1 j1) = 55 ∨ (m 1 j1) = 56 ∨ (m 1 j1) = 57 ∨ (m 1 j1) = 58 ∨ (m 1 j1) = 59 ∨ (m 1 j1) = 60 ∨ (m 1 j1) = 61 ∨ (m 1 j1) = 62 := by omega
  rcases hc with hc | hc | hc | hc | hc | hc | hc | hc | hc | hc | hc | hc | hc | hc | hc | hc | hc | hc | hc | hc | hc | hc | hc | hc | hc | hc | hc | hc
  · have hp := h_0 hc
    refine v_tableIn (tgt := 199) (off := 155) dX2_tokenOf_44 hz (by omega) (by omega) (by rw [hc]; rfl) (by decide) ?_
    refine v_bipush dX2_tokenOf_199 rfl ?_
    exact n_retI dX2_tokenOf_201 rfl hp
  · have hp := h_1 hc
    refine v_tableIn (tgt := 223) (off := 179) dX2_tokenOf_44 hz (by omega) (by omega) (by rw [hc]; rfl) (by decide) ?_
    refine v_bipush dX2_tokenOf_223 rfl ?_
    exact n_retI dX2_tokenOf_225 rfl hp
  · have hp := h_2 hc
    refine v_tableIn (tgt := 223) (off := 179) dX2_tokenOf_44 hz (by omega) (by omega) (by rw [hc]; rfl) (by decide) ?_
    refine v_bipush dX2_tokenOf_223 rfl ?_
    exact n_retI dX2_tokenOf_225 rfl hp
  · have hp := h_3 hc
    refine v_tableIn (tgt := 223) (off := 179) dX2_tokenOf_44 hz (by omega) (by omega) (by rw [hc]; rfl) (by decide) ?_
    refine v_bipush dX2_tokenOf_223 rfl ?_
    exact n_retI dX2_tokenOf_225 rfl hp
  · have hp := h_4 hc
    refine v_tableIn (tgt := 223) (off := 179) dX2_tokenOf_44 hz (by omega) (by omega) (by rw [hc]; rfl) (by decide) ?_
    refine v_bipush dX2_tokenOf_223 rfl ?_
    exact n_retI dX2_tokenOf_225 rfl hp
  · have hp := h_5 hc
    refine v_tableIn (tgt := 214) (off := 170) dX2_tokenOf_44 hz (by omega) (by omega) (by rw [hc]; rfl) (by decide) ?_
    refine v_bipush dX2_tokenOf_214 rfl ?_
    exact n_retI dX2_tokenOf_216 rfl hp
  · have hp := h_6 hc
    refine v_tableIn (tgt := 217) (off := 173) dX2_tokenOf_44 hz (by omega) (by omega) (by rw [hc]; rfl) (by decide) ?_
    refine v_bipush dX2_tokenOf_217 rfl ?_
    exact n_retI dX2_tokenOf_219 rfl hp
  · have hp := h_7 hc
    refine v_tableIn (tgt := 208) (off := 164) dX2_tokenOf_44 hz (by omega) (by omega) (by rw [hc]; rfl) (by decide) ?_
    refine v_bipush dX2_tokenOf_208 rfl ?_
    exact n_retI dX2_tokenOf_210 rfl hp
  · have hp := h_8 hc
    refine v_tableIn (tgt := 202) (off := 158) dX2_tokenOf_44 hz (by omega) (by omega) (by rw [hc]; rfl) (by decide) ?_
    refine v_bipush dX2_tokenOf_202 rfl ?_
    exact n_retI dX2_tokenOf_204 rfl hp
  · have hp := h_9 hc
    refine v_tableIn (tgt := 223) (off := 179) dX2_tokenOf_44 hz (by omega) (by omega) (by rw [hc]; rfl) (by decide) ?_
    refine v_bipush dX2_tokenOf_223 rfl ?_
    exact n_retI dX2_tokenOf_225 rfl hp
  · have hp := h_10 hc
    refine v_tableIn (tgt := 205) (off := 161) dX2_tokenOf_44 hz (by omega) (by omega) (by rw [hc]; rfl) (by decide) ?_
    refine v_bipush dX2_tokenOf_205 rfl ?_
    exact n_retI dX2_tokenOf_207 rfl hp
  · have hp := h_11 hc
    refine v_tableIn (tgt := 223) (off := 179) dX2_tokenOf_44 hz (by omega) (by omega) (by rw [hc]; rfl) (by decide) ?_
    refine v_bipush dX2_tokenOf_223 rfl ?_
    exact n_retI dX2_tokenOf_225 rfl hp
  · have hp := h_12 hc
    refine v_tableIn (tgt := 211) (off := 167) dX2_tokenOf_44 hz (by omega) (by omega) (by rw [hc]; rfl) (by decide) ?_
    refine v_bipush dX2_tokenOf_211 rfl ?_
    exact n_retI dX2_tokenOf_213 rfl hp
  · have hp := h_13 hc
    refine v_tableIn (tgt := 223) (off := 179) dX2_tokenOf_44 hz (by omega) (by omega) (by rw [hc]; rfl) (by decide) ?_
    refine v_bipush dX2_tokenOf_223 rfl ?_
    exact n_retI dX2_tokenOf_225 rfl hp
  · have hp := h_14 hc
    refine v_tableIn (tgt := 223) (off := 179) dX2_tokenOf_44 hz (by omega) (by omega) (by rw [hc]; rfl) (by decide) ?_
    refine v_bipush dX2_tokenOf_223 rfl ?_
    exact n_retI dX2_tokenOf_225 rfl hp
  · have hp := h_15 hc
    refine v_tableIn (tgt := 223) (off := 179) dX2_tokenOf_44 hz (by omega) (by omega) (by rw [hc]; rfl) (by decide) ?_
    refine v_bipush dX2_tokenOf_223 rfl ?_
    exact n_retI dX2_tokenOf_225 rfl hp
  · have hp := h_16 hc
    refine v_tableIn (tgt := 223) (off := 179) dX2_tokenOf_44 hz (by omega) (by omega) (by rw [hc]; rfl) (by decide) ?_
    refine v_bipush dX2_tokenOf_223 rfl ?_
    exact n_retI dX2_tokenOf_225 rfl hp
  · have hp := h_17 hc
    refine v_tableIn (tgt := 223) (off := 179) dX2_tokenOf_44 hz (by omega) (by omega) (by rw [hc]; rfl) (by decide) ?_
    refine v_bipush dX2_tokenOf_223 rfl ?_
    exact n_retI dX2_tokenOf_225 rfl hp
  · have hp := h_18 hc
    refine v_tableIn (tgt := 223) (off := 179) dX2_tokenOf_44 hz (by omega) (by omega) (by rw [hc]; rfl) (by decide) ?_
    refine v_bipush dX2_tokenOf_223 rfl ?_
    exact n_retI dX2_tokenOf_225 rfl hp
  · have hp := h_19 hc
    refine v_tableIn (tgt := 223) (off := 179) dX2_tokenOf_44 hz (by omega) (by omega) (by rw [hc]; rfl) (by decide) ?_
    refine v_bipush dX2_tokenOf_223 rfl ?_
    exact n_retI dX2_tokenOf_225 rfl hp
  · have hp := h_20 hc
    refine v_tableIn (tgt := 223) (off := 179) dX2_tokenOf_44 hz (by omega) (by omega) (by rw [hc]; rfl) (by decide) ?_
    refine v_bipush dX2_tokenOf_223 rfl ?_
    exact n_retI dX2_tokenOf_225 rfl hp
  · have hp := h_21 hc
    refine v_tableIn (tgt := 223) (off := 179) dX2_tokenOf_44 hz (by omega) (by omega) (by rw [hc]; rfl) (by decide) ?_
    refine v_bipush dX2_tokenOf_223 rfl ?_
    exact n_retI dX2_tokenOf_225 rfl hp
  · have hp := h_22 hc
    refine v_tableIn (tgt := 223) (off := 179) dX2_tokenOf_44 hz (by omega) (by omega) (by rw [hc]; rfl) (by decide) ?_
    refine v_bipush dX2_tokenOf_223 rfl ?_
    exact n_retI dX2_tokenOf_225 rfl hp
  · have hp := h_23 hc
    refine v_tableIn (tgt := 223) (off := 179) dX2_tokenOf_44 hz (by omega) (by omega) (by rw [hc]; rfl) (by decide) ?_
    refine v_bipush dX2_tokenOf_223 rfl ?_
    exact n_retI dX2_tokenOf_225 rfl hp
  · have hp := h_24 hc
    refine v_tableIn (tgt := 220) (off := 176) dX2_tokenOf_44 hz (by omega) (by omega) (by rw [hc]; rfl) (by decide) ?_
    refine v_bipush dX2_tokenOf_220 rfl ?_
    exact n_retI dX2_tokenOf_222 rfl hp
  · have hp := h_25 hc
    refine v_tableIn (tgt := 172) (off := 128) dX2_tokenOf_44 hz (by omega) (by omega) (by rw [hc]; rfl) (by decide) ?_
    refine v_iload_n dX2_tokenOf_172 rfl rfl ?_
    obtain ⟨⟨r1, r2⟩, hA, hB⟩ := hp
    refine v_if_eq (tgt := 181) dX2_tokenOf_173 (by decide) r1 (fun q => ?_) (fun q => ?_)
    · have hp := hA q
      refine v_bipush dX2_tokenOf_181 rfl ?_
      exact n_retI dX2_tokenOf_183 rfl hp
    · have hp := hB q
      refine v_bipush dX2_tokenOf_176 rfl ?_
      refine v_goto (tgt := 183) dX2_tokenOf_178 (by decide) ?_
      exact n_retI dX2_tokenOf_183 rfl hp
  · have hp := h_26 hc
    refine v_tableIn (tgt := 196) (off := 152) dX2_tokenOf_44 hz (by omega) (by omega) (by rw [hc]; rfl) (by decide) ?_
    refine v_bipush dX2_tokenOf_196 rfl ?_
    exact n_retI dX2_tokenOf_198 rfl hp
  · have hp := h_27 hc
    refine v_tableIn (tgt := 184) (off := 140) dX2_tokenOf_44 hz (by omega) (by omega) (by rw [hc]; rfl) (by decide) ?_
    refine v_iload_n dX2_tokenOf_184 rfl rfl ?_
    obtain ⟨⟨r1, r2⟩, hA, hB⟩ := hp
    refine v_if_eq (tgt := 193) dX2_tokenOf_185 (by decide) r1 (fun q => ?_) (fun q => ?_)
    · have hp := hA q
      refine v_bipush dX2_tokenOf_193 rfl ?_
      exact n_retI dX2_tokenOf_195 rfl hp
    · have hp := hB q
      refine v_bipush dX2_tokenOf_188 rfl ?_
      refine v_goto (tgt := 195) dX2_tokenOf_190 (by decide) ?_
      exact n_retI dX2_tokenOf_195 rfl hp
theorem g_X0_howMuch_0 {G : GG} {d : Nat} {m : MM} {k : Int → MM → Prop} (x0 : Int)
    (hp : N G d mi_X0_howMuch 4 [some (vi x0), some (vi 0), some (vi 0)] [] m (RI k)) :
    N G d mi_X0_howMuch 0 [some (vi x0), none, none] [] m (RI k) := by
  refine v_iconst dX0_howMuch_0 ?_
  refine v_istore_n dX0_howMuch_1 rfl (by decide) ?_
  refine v_iconst dX0_howMuch_2 ?_
  refine v_istore_n dX0_howMuch_3 rfl (by decide) ?_
  exact hp
theorem g_X0_howMuch_4 {G : GG} {d : Nat} {m : MM} {k : Int → MM → Prop} (x0 : Int) (x1 : Int) (x2 : Int)
    (hp : bLE 4 x2 (k x1 m) (bEQ (iand (ishr x0 (4 * x2)) 15) 0 (N G d mi_X0_howMuch 4 [some (vi x0), some (vi x1), some (vi (x2 + 1))] [] m (RI k)) (N G d mi_X0_howMuch 4 [some (vi x0), some (vi (x1 + 1)), some (vi (x2 + 1))] [] m (RI k)))) :
    N G d mi_X0_howMuch 4 [some (vi x0), some (vi x1), some (vi x2)] [] m (RI k) := by
  refine v_iload_n dX0_howMuch_4 rfl rfl ?_
  refine v_iconst dX0_howMuch_5 ?_
  obtain ⟨⟨r1, r2⟩, hA, hB⟩ := hp
  refine v_icmp_ge (tgt := 29) dX0_howMuch_6 (by decide) r2 r1 (fun q => ?_) (fun q => ?_)
  · have hp := hA q
    refine v_iload_n dX0_howMuch_29 rfl rfl ?_
    exact n_retI dX0_howMuch_30 rfl hp
  · have hp := hB q
    refine v_iload_n dX0_howMuch_9 rfl rfl ?_
    refine v_iconst dX0_howMuch_10 ?_
    refine v_iload_n dX0_howMuch_11 rfl rfl ?_
    refine v_imul dX0_howMuch_12 ?_
    refine v_ishr dX0_howMuch_13 ?_
    refine v_bipush dX0_howMuch_14 rfl ?_
    refine v_iand dX0_howMuch_16 ?_
    obtain ⟨⟨r1, r2⟩, hA, hB⟩ := hp
    refine v_if_eq (tgt := 23) dX0_howMuch_17 (by decide) r1 (fun q => ?_) (fun q => ?_)
    · have hp := hA q
      refine v_iinc dX0_howMuch_23 rfl (by decide) ?_
      refine v_goto (tgt := 4) dX0_howMuch_26 (by decide) ?_
      exact hp
    · have hp := hB q
      refine v_iinc dX0_howMuch_20 rfl (by decide) ?_
      refine v_iinc dX0_howMuch_23 rfl (by decide) ?_
      refine v_goto (tgt := 4) dX0_howMuch_26 (by decide) ?_
      exact hp
theorem g_X2_wordToken_0 {G : GG} {d : Nat} {m : MM} {k : Int → MM → Prop} (x1 : Int) (x2 : Int)
    (hp : N G (d + 1) mi_X2_wordToken 8 [some (vr 1), some (vi x1), some (vi x2), some (vi 0), some (vi 0), some (vi 0)] [] m (RI k)) :
    N G (d + 1) mi_X2_wordToken 0 [some (vr 1), some (vi x1), some (vi x2), none, none, none] [] m (RI k) := by
  refine v_iconst dX2_wordToken_0 ?_
  refine v_istore_n dX2_wordToken_1 rfl (by decide) ?_
  refine v_iconst dX2_wordToken_2 ?_
  refine v_istore dX2_wordToken_3 (by decide) ?_
  refine v_iconst dX2_wordToken_5 ?_
  refine v_istore dX2_wordToken_6 (by decide) ?_
  exact hp
theorem g_X2_wordToken_8 {G : GG} {d : Nat} {m : MM} {k : Int → MM → Prop} (x1 : Int) (x2 : Int) (x3 : Int) (x4 : Int) (x5 : Int)
    (hp : N G d mi_J0_length_8abf5 0 [some (vr 999999)] [] m (RI fun z1 m2 => bLE z1 x5 (k 37 m2) (N G d mi_J0_charAt_5068e 0 [some (vr 999999), some (vi x5)] [] m2 (RI fun z3 m4 => bEQ z3 32 (bEQ (x5 - x4) (x2 - x1) (N G d mi_X2_isWord 0 [some (vr 1), some (vi x1), some (vi x2), some (vi x4), none] [] m4 (RI fun z5 m6 => bEQ z5 0 (N G (d + 1) mi_X2_wordToken 8 [some (vr 1), some (vi x1), some (vi x2), some (vi (x3 + 1)), some (vi (x5 + 1)), some (vi (x5 + 1))] [] m6 (RI k)) (k x3 m6))) (N G (d + 1) mi_X2_wordToken 8 [some (vr 1), some (vi x1), some (vi x2), some (vi (x3 + 1)), some (vi (x5 + 1)), some (vi (x5 + 1))] [] m4 (RI k))) (N G (d + 1) mi_X2_wordToken 8 [some (vr 1), some (vi x1), some (vi x2), some (vi x3), some (vi x4), some (vi (x5 + 1))] [] m4 (RI k)))))) :
    N G (d + 1) mi_X2_wordToken 8 [some (vr 1), some (vi x1), some (vi x2), some (vi x3), some (vi x4), some (vi x5)] [] m (RI k) := by
  refine v_iload dX2_wordToken_8 rfl ?_
  refine v_ldcT dX2_wordToken_10 rfl ?_
  refine n_callTI (As := []) (st := [vi x5]) dX2_wordToken_12 ml_X2_79 mo_J0_length_8abf5 mv_J0_length_8abf5 rfl rfl rfl (Nat.le_of_ble_eq_true rfl) (Nat.le_of_ble_eq_true rfl) (by decide) hp (fun z1 m2 hp => ?_)
  obtain ⟨⟨r1, r2⟩, hA, hB⟩ := hp
  refine v_icmp_ge (tgt := 69) dX2_wordToken_15 (by decide) r2 r1 (fun q => ?_) (fun q => ?_)
  · have hp := hA q
    refine v_bipush dX2_wordToken_69 rfl ?_
    exact n_retI dX2_wordToken_71 rfl hp
  · have hp := hB q
    refine v_ldcT dX2_wordToken_18 rfl ?_
    refine v_iload dX2_wordToken_20 rfl ?_
    refine n_callTI (As := [vi x5]) (st := []) dX2_wordToken_22 ml_X2_85 mo_J0_charAt_5068e mv_J0_charAt_5068e rfl rfl rfl (Nat.le_of_ble_eq_true rfl) (Nat.le_of_ble_eq_true rfl) (by decide) hp (fun z3 m4 hp => ?_)
    refine v_bipush dX2_wordToken_25 rfl ?_
    obtain ⟨⟨r1, r2⟩, hA, hB⟩ := hp
    refine v_icmp_ne (tgt := 63) dX2_wordToken_27 (by decide) r1 r2 (fun q => ?_) (fun q => ?_)
    · have hp := hB q
      refine v_iinc dX2_wordToken_63 rfl (by decide) ?_
      refine v_goto (tgt := 8) dX2_wordToken_66 (by decide) ?_
      exact hp
    · have hp := hA q
      refine v_iload dX2_wordToken_30 rfl ?_
      refine v_iload dX2_wordToken_32 rfl ?_
      refine v_isub dX2_wordToken_34 ?_
      refine v_iload_n dX2_wordToken_35 rfl rfl ?_
      refine v_iload_n dX2_wordToken_36 rfl rfl ?_
      refine v_isub dX2_wordToken_37 ?_
      obtain ⟨⟨r1, r2⟩, hA, hB⟩ := hp
      refine v_icmp_ne (tgt := 54) dX2_wordToken_38 (by decide) r1 r2 (fun q => ?_) (fun q => ?_)
      · have hp := hB q
        refine v_iinc dX2_wordToken_54 rfl (by decide) ?_
        refine v_iload dX2_wordToken_57 rfl ?_
        refine v_iconst dX2_wordToken_59 ?_
        refine v_iadd dX2_wordToken_60 ?_
        refine v_istore dX2_wordToken_61 (by decide) ?_
        refine v_iinc dX2_wordToken_63 rfl (by decide) ?_
        refine v_goto (tgt := 8) dX2_wordToken_66 (by decide) ?_
        exact hp
      · have hp := hA q
        refine v_aload_n dX2_wordToken_41 rfl rfl ?_
        refine v_iload_n dX2_wordToken_42 rfl rfl ?_
        refine v_iload_n dX2_wordToken_43 rfl rfl ?_
        refine v_iload dX2_wordToken_44 rfl ?_
        refine n_callSI (As := [vr 1, vi x1, vi x2, vi x4]) (st := []) dX2_wordToken_46 ml_X2_89 mo_X2_isWord ms_X2_isWord rfl rfl (Nat.le_of_ble_eq_true rfl) (Nat.le_of_ble_eq_true rfl) (by decide) hp (fun z5 m6 hp => ?_)
        obtain ⟨⟨r1, r2⟩, hA, hB⟩ := hp
        refine v_if_eq (tgt := 54) dX2_wordToken_49 (by decide) r1 (fun q => ?_) (fun q => ?_)
        · have hp := hA q
          refine v_iinc dX2_wordToken_54 rfl (by decide) ?_
          refine v_iload dX2_wordToken_57 rfl ?_
          refine v_iconst dX2_wordToken_59 ?_
          refine v_iadd dX2_wordToken_60 ?_
          refine v_istore dX2_wordToken_61 (by decide) ?_
          refine v_iinc dX2_wordToken_63 rfl (by decide) ?_
          refine v_goto (tgt := 8) dX2_wordToken_66 (by decide) ?_
          exact hp
        · have hp := hB q
          refine v_iload_n dX2_wordToken_52 rfl rfl ?_
          exact n_retI dX2_wordToken_53 rfl hp
theorem g_X0_unlikePlaces_0 {G : GG} {d : Nat} {m : MM} {k : Int → MM → Prop} (x0 : Int) (x1 : Int)
    (hp : N G d mi_X0_howMuch 0 [some (vi (ixor x0 x1)), none, none] [] m (RI fun z1 m2 => k z1 m2)) :
    N G (d + 1) mi_X0_unlikePlaces 0 [some (vi x0), some (vi x1)] [] m (RI k) := by
  refine v_iload_n dX0_unlikePlaces_0 rfl rfl ?_
  refine v_iload_n dX0_unlikePlaces_1 rfl rfl ?_
  refine v_ixor dX0_unlikePlaces_2 ?_
  refine n_callSI (As := [vi (ixor x0 x1)]) (st := []) dX0_unlikePlaces_3 ml_X0_41 mo_X0_howMuch ms_X0_howMuch rfl rfl (Nat.le_of_ble_eq_true rfl) (Nat.le_of_ble_eq_true rfl) (by decide) hp (fun z1 m2 hp => ?_)
  exact n_retI dX0_unlikePlaces_6 rfl hp
theorem g_X2_isWord_0 {G : GG} {d : Nat} {m : MM} {k : Int → MM → Prop} (x1 : Int) (x2 : Int) (x3 : Int)
    (hp : N G (d + 1) mi_X2_isWord 3 [some (vr 1), some (vi x1), some (vi x2), some (vi x3), some (vi x1)] [] m (RI k)) :
    N G (d + 1) mi_X2_isWord 0 [some (vr 1), some (vi x1), some (vi x2), some (vi x3), none] [] m (RI k) := by
  refine v_iload_n dX2_isWord_0 rfl rfl ?_
  refine v_istore dX2_isWord_1 (by decide) ?_
  exact hp
theorem g_X2_isWord_3 {G : GG} {d : Nat} {m : MM} {k : Int → MM → Prop} (x1 : Int) (x2 : Int) (x3 : Int) (x4 : Int)
    (hp : bLE x2 x4 (k 1 m) (∃ j1 : Nat, (x4 = (j1 : Int) ∧ j1 < 300) ∧ (N G d mi_J0_charAt_5068e 0 [some (vr 999999), some (vi ((x3 + x4) - x1))] [] m (RI fun z2 m3 => bEQ (m 1 j1) z2 (N G (d + 1) mi_X2_isWord 3 [some (vr 1), some (vi x1), some (vi x2), some (vi x3), some (vi (x4 + 1))] [] m3 (RI k)) (k 0 m3))))) :
    N G (d + 1) mi_X2_isWord 3 [some (vr 1), some (vi x1), some (vi x2), some (vi x3), some (vi x4)] [] m (RI k) := by
  refine v_iload dX2_isWord_3 rfl ?_
  refine v_iload_n dX2_isWord_5 rfl rfl ?_
  obtain ⟨⟨r1, r2⟩, hA, hB⟩ := hp
  refine v_icmp_ge (tgt := 35) dX2_isWord_6 (by decide) r2 r1 (fun q => ?_) (fun q => ?_)
  · have hp := hA q
    refine v_iconst dX2_isWord_35 ?_
    exact n_retZ dX2_isWord_36 rfl (by decide) hp
  · have hp := hB q
    refine v_aload_n dX2_isWord_9 rfl rfl ?_
    refine v_iload dX2_isWord_10 rfl ?_
    obtain ⟨j1, ⟨ej1, bj1⟩, hp⟩ := hp
    refine n_bald (j := j1) dX2_isWord_12 sh_1 ej1 bj1 ?_
    refine v_ldcT dX2_isWord_13 rfl ?_
    refine v_iload_n dX2_isWord_15 rfl rfl ?_
    refine v_iload dX2_isWord_16 rfl ?_
    refine v_iadd dX2_isWord_18 ?_
    refine v_iload_n dX2_isWord_19 rfl rfl ?_
    refine v_isub dX2_isWord_20 ?_
    refine n_callTI (As := [vi ((x3 + x4) - x1)]) (st := [vi (m 1 j1)]) dX2_isWord_21 ml_X2_85 mo_J0_charAt_5068e mv_J0_charAt_5068e rfl rfl rfl (Nat.le_of_ble_eq_true rfl) (Nat.le_of_ble_eq_true rfl) (by decide) hp (fun z2 m3 hp => ?_)
    obtain ⟨⟨r1, r2⟩, hA, hB⟩ := hp
    refine v_icmp_eq (tgt := 29) dX2_isWord_24 (by decide) r1 r2 (fun q => ?_) (fun q => ?_)
    · have hp := hA q
      refine v_iinc dX2_isWord_29 rfl (by decide) ?_
      refine v_goto (tgt := 3) dX2_isWord_32 (by decide) ?_
      exact hp
    · have hp := hB q
      refine v_iconst dX2_isWord_27 ?_
      exact n_retZ dX2_isWord_28 rfl (by decide) hp
theorem g_X2_fail_0 {G : GG} {d : Nat} {m : MM} {k : MM → Prop} (x1 : Int)
    (hp : bEQ (m 2 0) 0 (∀ m2 : MM, m2 = upm m 2 0 x1 → (∃ j3 : Nat, ((m2 2 6) = (j3 : Int) ∧ j3 < 301) ∧ (∀ m4 : MM, m4 = upm m2 2 1 (m2 4 j3) → (∀ m5 : MM, m5 = upm m4 2 6 (m4 2 5) → (k m5))))) (∀ m1 : MM, m1 = upm m 2 6 (m 2 5) → (k m1))) :
    N G d mi_X2_fail 0 [some (vr 2), some (vi x1)] [] m (RV k) := by
  refine v_aload_n dX2_fail_0 rfl rfl ?_
  refine n_geti dX2_fail_1 fo_X2_9 sh_2 rfl ?_
  obtain ⟨⟨r1, r2⟩, hA, hB⟩ := hp
  refine v_if_ne (tgt := 25) dX2_fail_4 (by decide) r1 (fun q => ?_) (fun q => ?_)
  · have hp := hB q
    refine v_aload_n dX2_fail_25 rfl rfl ?_
    refine v_aload_n dX2_fail_26 rfl rfl ?_
    refine n_geti dX2_fail_27 fo_X2_28 sh_2 rfl ?_
    refine w_puti dX2_fail_30 fw_X2_31 sh_2 rfl (fun m1 em1 => ?_)
    have hp := hp m1 em1
    exact n_retV dX2_fail_33 rfl hp
  · have hp := hA q
    refine v_aload_n dX2_fail_7 rfl rfl ?_
    refine v_iload_n dX2_fail_8 rfl rfl ?_
    refine w_puti dX2_fail_9 fw_X2_9 sh_2 rfl (fun m2 em2 => ?_)
    have hp := hp m2 em2
    refine v_aload_n dX2_fail_12 rfl rfl ?_
    refine v_aload_n dX2_fail_13 rfl rfl ?_
    refine n_getr dX2_fail_14 fo_X2_22 sh_2 rfl sr_2_3 ?_
    refine v_aload_n dX2_fail_17 rfl rfl ?_
    refine n_geti dX2_fail_18 fo_X2_31 sh_2 rfl ?_
    obtain ⟨j3, ⟨ej3, bj3⟩, hp⟩ := hp
    refine n_iald (j := j3) dX2_fail_21 sh_4 ej3 bj3 ?_
    refine w_puti dX2_fail_22 fw_X2_15 sh_2 rfl (fun m4 em4 => ?_)
    have hp := hp m4 em4
    refine v_aload_n dX2_fail_25 rfl rfl ?_
    refine v_aload_n dX2_fail_26 rfl rfl ?_
    refine n_geti dX2_fail_27 fo_X2_28 sh_2 rfl ?_
    refine w_puti dX2_fail_30 fw_X2_31 sh_2 rfl (fun m5 em5 => ?_)
    have hp := hp m5 em5
    exact n_retV dX2_fail_33 rfl hp
theorem g_X2_take_0 {G : GG} {d : Nat} {m : MM} {k : MM → Prop} (x1 : Int)
    (hp : ∃ j1 : Nat, ((m 2 6) = (j1 : Int) ∧ j1 < 301) ∧ (bEQ (m 3 j1) x1 (∀ m4 : MM, m4 = upm m 2 6 ((m 2 6) + 1) → (k m4)) (N G d mi_X2_fail 0 [some (vr 2), some (vi 1)] [] m (RV fun m3 => k m3)))) :
    N G (d + 1) mi_X2_take 0 [some (vr 2), some (vi x1)] [] m (RV k) := by
  refine v_aload_n dX2_take_0 rfl rfl ?_
  refine n_getr dX2_take_1 fo_X2_18 sh_2 rfl sr_2_2 ?_
  refine v_aload_n dX2_take_4 rfl rfl ?_
  refine n_geti dX2_take_5 fo_X2_31 sh_2 rfl ?_
  obtain ⟨j1, ⟨ej1, bj1⟩, hp⟩ := hp
  refine n_iald (j := j1) dX2_take_8 sh_3 ej1 bj1 ?_
  refine v_iload_n dX2_take_9 rfl rfl ?_
  obtain ⟨⟨r1, r2⟩, hA, hB⟩ := hp
  refine v_icmp_ne (tgt := 26) dX2_take_10 (by decide) r1 r2 (fun q => ?_) (fun q => ?_)
  · have hp := hB q
    refine v_aload_n dX2_take_26 rfl rfl ?_
    refine v_iconst dX2_take_27 ?_
    refine n_callVV (As := [vi 1]) (st := []) dX2_take_28 ml_X2_93 mo_X2_fail mv_X2_fail sh_2 rfl rfl rfl rfl (Nat.le_of_ble_eq_true rfl) (Nat.le_of_ble_eq_true rfl) (by decide) hp (fun m3 hp => ?_)
    exact n_retV dX2_take_31 rfl hp
  · have hp := hA q
    refine v_aload_n dX2_take_13 rfl rfl ?_
    refine v_dupr dX2_take_14 ?_
    refine n_geti dX2_take_15 fo_X2_31 sh_2 rfl ?_
    refine v_iconst dX2_take_18 ?_
    refine v_iadd dX2_take_19 ?_
    refine w_puti dX2_take_20 fw_X2_31 sh_2 rfl (fun m4 em4 => ?_)
    have hp := hp m4 em4
    refine v_goto (tgt := 31) dX2_take_23 (by decide) ?_
    exact n_retV dX2_take_31 rfl hp
theorem g_X2_takeNumber_0 {G : GG} {d : Nat} {m : MM} {k : Int → MM → Prop} (x1 : Int)
    (hp : ∃ j1 : Nat, ((m 2 6) = (j1 : Int) ∧ j1 < 301) ∧ (∃ j2 : Nat, ((m 2 6) = (j2 : Int) ∧ j2 < 301) ∧ (bEQ (m 3 j2) 35 (bLE (m 5 j1) x1 (∀ m3 : MM, m3 = upm m 2 6 ((m 2 6) + 1) → (k (m 5 j1) m3)) (N G d mi_X2_fail 0 [some (vr 2), some (vi 2)] [] m (RV fun m5 => k 0 m5))) (N G d mi_X2_fail 0 [some (vr 2), some (vi 1)] [] m (RV fun m7 => k 0 m7))))) :
    N G (d + 1) mi_X2_takeNumber 0 [some (vr 2), some (vi x1), none] [] m (RI k) := by
  refine v_aload_n dX2_takeNumber_0 rfl rfl ?_
  refine n_getr dX2_takeNumber_1 fo_X2_25 sh_2 rfl sr_2_4 ?_
  refine v_aload_n dX2_takeNumber_4 rfl rfl ?_
  refine n_geti dX2_takeNumber_5 fo_X2_31 sh_2 rfl ?_
  obtain ⟨j1, ⟨ej1, bj1⟩, hp⟩ := hp
  refine n_iald (j := j1) dX2_takeNumber_8 sh_5 ej1 bj1 ?_
  refine v_istore_n dX2_takeNumber_9 rfl (by decide) ?_
  refine v_aload_n dX2_takeNumber_10 rfl rfl ?_
  refine n_getr dX2_takeNumber_11 fo_X2_18 sh_2 rfl sr_2_2 ?_
  refine v_aload_n dX2_takeNumber_14 rfl rfl ?_
  refine n_geti dX2_takeNumber_15 fo_X2_31 sh_2 rfl ?_
  obtain ⟨j2, ⟨ej2, bj2⟩, hp⟩ := hp
  refine n_iald (j := j2) dX2_takeNumber_18 sh_3 ej2 bj2 ?_
  refine v_bipush dX2_takeNumber_19 rfl ?_
  obtain ⟨⟨r1, r2⟩, hA, hB⟩ := hp
  refine v_icmp_eq (tgt := 31) dX2_takeNumber_21 (by decide) r1 r2 (fun q => ?_) (fun q => ?_)
  · have hp := hA q
    refine v_iload_n dX2_takeNumber_31 rfl rfl ?_
    refine v_iload_n dX2_takeNumber_32 rfl rfl ?_
    obtain ⟨⟨r1, r2⟩, hA, hB⟩ := hp
    refine v_icmp_le (tgt := 43) dX2_takeNumber_33 (by decide) r1 r2 (fun q => ?_) (fun q => ?_)
    · have hp := hA q
      refine v_aload_n dX2_takeNumber_43 rfl rfl ?_
      refine v_dupr dX2_takeNumber_44 ?_
      refine n_geti dX2_takeNumber_45 fo_X2_31 sh_2 rfl ?_
      refine v_iconst dX2_takeNumber_48 ?_
      refine v_iadd dX2_takeNumber_49 ?_
      refine w_puti dX2_takeNumber_50 fw_X2_31 sh_2 rfl (fun m3 em3 => ?_)
      have hp := hp m3 em3
      refine v_iload_n dX2_takeNumber_53 rfl rfl ?_
      exact n_retI dX2_takeNumber_54 rfl hp
    · have hp := hB q
      refine v_aload_n dX2_takeNumber_36 rfl rfl ?_
      refine v_iconst dX2_takeNumber_37 ?_
      refine n_callVV (As := [vi 2]) (st := []) dX2_takeNumber_38 ml_X2_93 mo_X2_fail mv_X2_fail sh_2 rfl rfl rfl rfl (Nat.le_of_ble_eq_true rfl) (Nat.le_of_ble_eq_true rfl) (by decide) hp (fun m5 hp => ?_)
      refine v_iconst dX2_takeNumber_41 ?_
      exact n_retI dX2_takeNumber_42 rfl hp
  · have hp := hB q
    refine v_aload_n dX2_takeNumber_24 rfl rfl ?_
    refine v_iconst dX2_takeNumber_25 ?_
    refine n_callVV (As := [vi 1]) (st := []) dX2_takeNumber_26 ml_X2_93 mo_X2_fail mv_X2_fail sh_2 rfl rfl rfl rfl (Nat.le_of_ble_eq_true rfl) (Nat.le_of_ble_eq_true rfl) (by decide) hp (fun m7 hp => ?_)
    refine v_iconst dX2_takeNumber_29 ?_
    exact n_retI dX2_takeNumber_30 rfl hp
theorem g_X2_flawOfHead_0 {G : GG} {d : Nat} {m : MM} {k : Int → MM → Prop} (x1 : Int)
    (hp : bLE x1 6 (bEQ x1 0 (∃ t1 : Nat, (m 2 8 = (t1 : Int) ∧ SH t1 = .inr 5) ∧ (bEQ (m t1 6) (-1) (N G d mi_X2_flawOfHead 23 [some (vr 2), some (vi x1)] [] m (RI k)) (k 4 m))) (N G d mi_X2_flawOfHead 23 [some (vr 2), some (vi x1)] [] m (RI k))) (k 1 m)) :
    N G d mi_X2_flawOfHead 0 [some (vr 2), some (vi x1)] [] m (RI k) := by
  refine v_iload_n dX2_flawOfHead_0 rfl rfl ?_
  refine v_bipush dX2_flawOfHead_1 rfl ?_
  obtain ⟨⟨r1, r2⟩, hA, hB⟩ := hp
  refine v_icmp_le (tgt := 8) dX2_flawOfHead_3 (by decide) r1 r2 (fun q => ?_) (fun q => ?_)
  · have hp := hA q
    refine v_iload_n dX2_flawOfHead_8 rfl rfl ?_
    obtain ⟨⟨r1, r2⟩, hA, hB⟩ := hp
    refine v_if_ne (tgt := 23) dX2_flawOfHead_9 (by decide) r1 (fun q => ?_) (fun q => ?_)
    · have hp := hB q
      exact hp
    · have hp := hA q
      refine v_aload_n dX2_flawOfHead_12 rfl rfl ?_
      obtain ⟨t1, ⟨et1, ht1⟩, hp⟩ := hp
      refine n_getr (t := t1) dX2_flawOfHead_13 fo_X2_40 sh_2 rfl (by rw [sr_2_8, et1]; rfl) ?_
      refine n_geti dX2_flawOfHead_16 fo_X2_97 ht1 rfl ?_
      refine v_iconst dX2_flawOfHead_19 ?_
      obtain ⟨⟨r1, r2⟩, hA, hB⟩ := hp
      refine v_icmp_ne (tgt := 39) dX2_flawOfHead_20 (by decide) r1 r2 (fun q => ?_) (fun q => ?_)
      · have hp := hB q
        refine v_iconst dX2_flawOfHead_39 ?_
        exact n_retI dX2_flawOfHead_40 rfl hp
      · have hp := hA q
        exact hp
  · have hp := hB q
    refine v_iconst dX2_flawOfHead_6 ?_
    exact n_retI dX2_flawOfHead_7 rfl hp
theorem g_X2_flawOfHead_23 {G : GG} {d : Nat} {m : MM} {k : Int → MM → Prop} (x1 : Int)
    (hp : bEQ x1 1 (∃ t1 : Nat, (m 2 8 = (t1 : Int) ∧ SH t1 = .inr 5) ∧ (bEQ (m t1 8) (-1) (N G d mi_X2_flawOfHead 41 [some (vr 2), none] [] m (RI k)) (k 4 m))) (N G d mi_X2_flawOfHead 41 [some (vr 2), none] [] m (RI k))) :
    N G d mi_X2_flawOfHead 23 [some (vr 2), some (vi x1)] [] m (RI k) := by
  refine v_iload_n dX2_flawOfHead_23 rfl rfl ?_
  refine v_iconst dX2_flawOfHead_24 ?_
  obtain ⟨⟨r1, r2⟩, hA, hB⟩ := hp
  refine v_icmp_ne (tgt := 41) dX2_flawOfHead_25 (by decide) r1 r2 (fun q => ?_) (fun q => ?_)
  · have hp := hB q
    exact n_weak (wk_s (wk_n wk_nil)) hp
  · have hp := hA q
    refine v_aload_n dX2_flawOfHead_28 rfl rfl ?_
    obtain ⟨t1, ⟨et1, ht1⟩, hp⟩ := hp
    refine n_getr (t := t1) dX2_flawOfHead_29 fo_X2_40 sh_2 rfl (by rw [sr_2_8, et1]; rfl) ?_
    refine n_geti dX2_flawOfHead_32 fo_X2_100 ht1 rfl ?_
    refine v_iconst dX2_flawOfHead_35 ?_
    obtain ⟨⟨r1, r2⟩, hA, hB⟩ := hp
    refine v_icmp_eq (tgt := 41) dX2_flawOfHead_36 (by decide) r1 r2 (fun q => ?_) (fun q => ?_)
    · have hp := hA q
      exact n_weak (wk_s (wk_n wk_nil)) hp
    · have hp := hB q
      refine v_iconst dX2_flawOfHead_39 ?_
      exact n_retI dX2_flawOfHead_40 rfl hp
theorem g_X2_flawOfHead_41 {G : GG} {d : Nat} {m : MM} {k : Int → MM → Prop} 
    (hp : ∃ t1 : Nat, (m 2 8 = (t1 : Int) ∧ SH t1 = .inr 5) ∧ (bLT (m t1 0) 24 (k 0 m) (k 6 m))) :
    N G d mi_X2_flawOfHead 41 [some (vr 2), none] [] m (RI k) := by
  refine v_aload_n dX2_flawOfHead_41 rfl rfl ?_
  obtain ⟨t1, ⟨et1, ht1⟩, hp⟩ := hp
  refine n_getr (t := t1) dX2_flawOfHead_42 fo_X2_40 sh_2 rfl (by rw [sr_2_8, et1]; rfl) ?_
  refine n_geti dX2_flawOfHead_45 fo_X2_103 ht1 rfl ?_
  refine v_bipush dX2_flawOfHead_48 rfl ?_
  obtain ⟨⟨r1, r2⟩, hA, hB⟩ := hp
  refine v_icmp_lt (tgt := 58) dX2_flawOfHead_50 (by decide) r1 r2 (fun q => ?_) (fun q => ?_)
  · have hp := hA q
    refine v_iconst dX2_flawOfHead_58 ?_
    exact n_retI dX2_flawOfHead_59 rfl hp
  · have hp := hB q
    refine v_bipush dX2_flawOfHead_53 rfl ?_
    refine v_goto (tgt := 59) dX2_flawOfHead_55 (by decide) ?_
    exact n_retI dX2_flawOfHead_59 rfl hp
theorem g_X2_readClause_0 {G : GG} {d : Nat} {m : MM} {k : MM → Prop} 
    (hp : ∃ j1 : Nat, ((m 2 6) = (j1 : Int) ∧ j1 < 301) ∧ (N G d mi_X2_flawOfHead 0 [some (vr 2), some (vi (m 3 j1))] [] m (RI fun z2 m3 => bEQ z2 0 (∀ m4 : MM, m4 = upm m3 2 6 ((m3 2 6) + 1) → ((rng (m 3 j1)) ∧ ((m 3 j1) = 0 → (N G d mi_X2_readSees 0 [some (vr 2), none, none, none] [] m4 (RV fun m6 => N G (d + 1) mi_X2_readClause 149 [some (vr 2), none, none] [] m6 (RV k)))) ∧ ((m 3 j1) = 1 → (N G d mi_X2_readRubs 0 [some (vr 2)] [] m4 (RV fun m8 => N G (d + 1) mi_X2_readClause 149 [some (vr 2), none, none] [] m8 (RV k)))) ∧ ((m 3 j1) = 2 → (N G d mi_X2_readDeed 0 [some (vr 2), some (vi 2), some (vi 7), some (vi 5), none, none] [] m4 (RV fun m10 => N G (d + 1) mi_X2_readClause 149 [some (vr 2), none, none] [] m10 (RV k)))) ∧ ((m 3 j1) = 3 → (N G d mi_X2_readDeed 0 [some (vr 2), some (vi 3), some (vi 8), some (vi 5), none, none] [] m4 (RV fun m12 => N G (d + 1) mi_X2_readClause 149 [some (vr 2), none, none] [] m12 (RV k)))) ∧ ((m 3 j1) = 4 → (N G (d + 1) mi_X2_readClause 124 [some (vr 2), some (vi (m 3 j1)), none] [] m4 (RV k))) ∧ ((m 3 j1) = 5 → (N G d mi_X2_readDeed 0 [some (vr 2), some (vi 5), some (vi 9), some (vi 7), none, none] [] m4 (RV fun m14 => N G (d + 1) mi_X2_readClause 149 [some (vr 2), none, none] [] m14 (RV k)))) ∧ (((m 3 j1) < 0 ∨ 5 < (m 3 j1)) → (N G (d + 1) mi_X2_readClause 124 [some (vr 2), some (vi (m 3 j1)), none] [] m4 (RV k))))) (N G d mi_X2_fail 0 [some (vr 2), some (vi z2)] [] m3 (RV fun m16 => k m16))))) :
    N G (d + 1) mi_X2_readClause 0 [some (vr 2), none, none] [] m (RV k) := by
  refine v_aload_n dX2_readClause_0 rfl rfl ?_
  refine n_getr dX2_readClause_1 fo_X2_18 sh_2 rfl sr_2_2 ?_
  refine v_aload_n dX2_readClause_4 rfl rfl ?_
  refine n_geti dX2_readClause_5 fo_X2_31 sh_2 rfl ?_
  obtain ⟨j1, ⟨ej1, bj1⟩, hp⟩ := hp
  refine n_iald (j := j1) dX2_readClause_8 sh_3 ej1 bj1 ?_
  refine v_istore_n dX2_readClause_9 rfl (by decide) ?_
  refine v_aload_n dX2_readClause_10 rfl rfl ?_
  refine v_iload_n dX2_readClause_11 rfl rfl ?_
  refine n_callVI (As := [vi (m 3 j1)]) (st := []) dX2_readClause_12 ml_X2_106 mo_X2_flawOfHead mv_X2_flawOfHead sh_2 rfl rfl rfl rfl (Nat.le_of_ble_eq_true rfl) (Nat.le_of_ble_eq_true rfl) (by decide) hp (fun z2 m3 hp => ?_)
  refine v_istore_n dX2_readClause_15 rfl (by decide) ?_
  refine v_iload_n dX2_readClause_16 rfl rfl ?_
  obtain ⟨⟨r1, r2⟩, hA, hB⟩ := hp
  refine v_if_eq (tgt := 26) dX2_readClause_17 (by decide) r1 (fun q => ?_) (fun q => ?_)
  · have hp := hA q
    refine v_aload_n dX2_readClause_26 rfl rfl ?_
    refine v_dupr dX2_readClause_27 ?_
    refine n_geti dX2_readClause_28 fo_X2_31 sh_2 rfl ?_
    refine v_iconst dX2_readClause_31 ?_
    refine v_iadd dX2_readClause_32 ?_
    refine w_puti dX2_readClause_33 fw_X2_31 sh_2 rfl (fun m4 em4 => ?_)
    have hp := hp m4 em4
    refine v_iload_n dX2_readClause_36 rfl rfl ?_
    obtain ⟨hz, h_0, h_1, h_2, h_3, h_4, h_5, hd⟩ := hp
    by_cases hq : (m 3 j1) < 0 ∨ 5 < (m 3 j1)
    · have hp := hd hq
      refine v_tableOut (tgt := 124) dX2_readClause_37 hz hq (by decide) ?_
      exact n_weak (wk_s (wk_s (wk_n wk_nil))) hp
    have hc : (m 3 j1) = 0 ∨ (m 3 j1) = 1 ∨ (m 3 j1) = 2 ∨ (m 3 j1) = 3 ∨ (m 3 j1) = 4 ∨ (m 3 j1) = 5 := by omega
    rcases hc with hc | hc | hc | hc | hc | hc
    · have hp := h_0 hc
      refine v_tableIn (tgt := 76) (off := 39) dX2_readClause_37 hz (by omega) (by omega) (by rw [hc]; rfl) (by decide) ?_
      refine v_aload_n dX2_readClause_76 rfl rfl ?_
      refine n_callVV (As := []) (st := []) dX2_readClause_77 ml_X2_110 mo_X2_readSees mv_X2_readSees sh_2 rfl rfl rfl rfl (Nat.le_of_ble_eq_true rfl) (Nat.le_of_ble_eq_true rfl) (by decide) hp (fun m6 hp => ?_)
      refine v_goto (tgt := 149) dX2_readClause_80 (by decide) ?_
      exact n_weak (wk_s (wk_n (wk_n wk_nil))) hp
    · have hp := h_1 hc
      refine v_tableIn (tgt := 83) (off := 46) dX2_readClause_37 hz (by omega) (by omega) (by rw [hc]; rfl) (by decide) ?_
      refine v_aload_n dX2_readClause_83 rfl rfl ?_
      refine n_callVV (As := []) (st := []) dX2_readClause_84 ml_X2_113 mo_X2_readRubs mv_X2_readRubs sh_2 rfl rfl rfl rfl (Nat.le_of_ble_eq_true rfl) (Nat.le_of_ble_eq_true rfl) (by decide) hp (fun m8 hp => ?_)
      refine v_goto (tgt := 149) dX2_readClause_87 (by decide) ?_
      exact n_weak (wk_s (wk_n (wk_n wk_nil))) hp
    · have hp := h_2 hc
      refine v_tableIn (tgt := 90) (off := 53) dX2_readClause_37 hz (by omega) (by omega) (by rw [hc]; rfl) (by decide) ?_
      refine v_aload_n dX2_readClause_90 rfl rfl ?_
      refine v_iconst dX2_readClause_91 ?_
      refine v_bipush dX2_readClause_92 rfl ?_
      refine v_iconst dX2_readClause_94 ?_
      refine n_callVV (As := [vi 2, vi 7, vi 5]) (st := []) dX2_readClause_95 ml_X2_116 mo_X2_readDeed mv_X2_readDeed sh_2 rfl rfl rfl rfl (Nat.le_of_ble_eq_true rfl) (Nat.le_of_ble_eq_true rfl) (by decide) hp (fun m10 hp => ?_)
      refine v_goto (tgt := 149) dX2_readClause_98 (by decide) ?_
      exact n_weak (wk_s (wk_n (wk_n wk_nil))) hp
    · have hp := h_3 hc
      refine v_tableIn (tgt := 101) (off := 64) dX2_readClause_37 hz (by omega) (by omega) (by rw [hc]; rfl) (by decide) ?_
      refine v_aload_n dX2_readClause_101 rfl rfl ?_
      refine v_iconst dX2_readClause_102 ?_
      refine v_bipush dX2_readClause_103 rfl ?_
      refine v_iconst dX2_readClause_105 ?_
      refine n_callVV (As := [vi 3, vi 8, vi 5]) (st := []) dX2_readClause_106 ml_X2_116 mo_X2_readDeed mv_X2_readDeed sh_2 rfl rfl rfl rfl (Nat.le_of_ble_eq_true rfl) (Nat.le_of_ble_eq_true rfl) (by decide) hp (fun m12 hp => ?_)
      refine v_goto (tgt := 149) dX2_readClause_109 (by decide) ?_
      exact n_weak (wk_s (wk_n (wk_n wk_nil))) hp
    · have hp := h_4 hc
      refine v_tableIn (tgt := 124) (off := 87) dX2_readClause_37 hz (by omega) (by omega) (by rw [hc]; rfl) (by decide) ?_
      exact n_weak (wk_s (wk_s (wk_n wk_nil))) hp
    · have hp := h_5 hc
      refine v_tableIn (tgt := 112) (off := 75) dX2_readClause_37 hz (by omega) (by omega) (by rw [hc]; rfl) (by decide) ?_
      refine v_aload_n dX2_readClause_112 rfl rfl ?_
      refine v_iconst dX2_readClause_113 ?_
      refine v_bipush dX2_readClause_114 rfl ?_
      refine v_bipush dX2_readClause_116 rfl ?_
      refine n_callVV (As := [vi 5, vi 9, vi 7]) (st := []) dX2_readClause_118 ml_X2_116 mo_X2_readDeed mv_X2_readDeed sh_2 rfl rfl rfl rfl (Nat.le_of_ble_eq_true rfl) (Nat.le_of_ble_eq_true rfl) (by decide) hp (fun m14 hp => ?_)
      refine v_goto (tgt := 149) dX2_readClause_121 (by decide) ?_
      exact n_weak (wk_s (wk_n (wk_n wk_nil))) hp
  · have hp := hB q
    refine v_aload_n dX2_readClause_20 rfl rfl ?_
    refine v_iload_n dX2_readClause_21 rfl rfl ?_
    refine n_callVV (As := [vi z2]) (st := []) dX2_readClause_22 ml_X2_93 mo_X2_fail mv_X2_fail sh_2 rfl rfl rfl rfl (Nat.le_of_ble_eq_true rfl) (Nat.le_of_ble_eq_true rfl) (by decide) hp (fun m16 hp => ?_)
    exact n_retV dX2_readClause_25 rfl hp
theorem g_X2_readClause_124 {G : GG} {d : Nat} {m : MM} {k : MM → Prop} (x1 : Int)
    (hp : ∃ t1 : Nat, (m 2 8 = (t1 : Int) ∧ SH t1 = .inr 5) ∧ (bEQ x1 4 (N G (d + 1) mi_X2_readClause 139 [some (vr 2), none, none] [vi 3, vr t1] m (RV k)) (N G (d + 1) mi_X2_readClause 139 [some (vr 2), none, none] [vi 6, vr t1] m (RV k)))) :
    N G (d + 1) mi_X2_readClause 124 [some (vr 2), some (vi x1), none] [] m (RV k) := by
  refine v_aload_n dX2_readClause_124 rfl rfl ?_
  obtain ⟨t1, ⟨et1, ht1⟩, hp⟩ := hp
  refine n_getr (t := t1) dX2_readClause_125 fo_X2_40 sh_2 rfl (by rw [sr_2_8, et1]; rfl) ?_
  refine v_iload_n dX2_readClause_128 rfl rfl ?_
  refine v_iconst dX2_readClause_129 ?_
  obtain ⟨⟨r1, r2⟩, hA, hB⟩ := hp
  refine v_icmp_ne (tgt := 137) dX2_readClause_130 (by decide) r1 r2 (fun q => ?_) (fun q => ?_)
  · have hp := hB q
    refine v_bipush dX2_readClause_137 rfl ?_
    exact n_weak (wk_s (wk_n (wk_s wk_nil))) hp
  · have hp := hA q
    refine v_iconst dX2_readClause_133 ?_
    refine v_goto (tgt := 139) dX2_readClause_134 (by decide) ?_
    exact n_weak (wk_s (wk_n (wk_s wk_nil))) hp
theorem g_X2_readClause_139 {G : GG} {d : Nat} {m : MM} {k : MM → Prop} (s0 : Int) (cs1 : Nat) (hs1 : SH cs1 = .inr 5)
    (hp : N G d mi_X2_takeNumber 0 [some (vr 2), some (vi 7), none] [] m (RI fun z1 m2 => N G d mi_X5_addClause 0 [some (vr cs1), some (vi s0), some (vi z1), some (vi (-1))] [] m2 (RV fun m4 => N G (d + 1) mi_X2_readClause 149 [some (vr 2), none, none] [] m4 (RV k)))) :
    N G (d + 1) mi_X2_readClause 139 [some (vr 2), none, none] [vi s0, vr cs1] m (RV k) := by
  refine v_aload_n dX2_readClause_139 rfl rfl ?_
  refine v_bipush dX2_readClause_140 rfl ?_
  refine n_callVI (As := [vi 7]) (st := [vi s0, vr cs1]) dX2_readClause_142 ml_X2_120 mo_X2_takeNumber mv_X2_takeNumber sh_2 rfl rfl rfl rfl (Nat.le_of_ble_eq_true rfl) (Nat.le_of_ble_eq_true rfl) (by decide) hp (fun z1 m2 hp => ?_)
  refine v_iconst dX2_readClause_145 ?_
  refine n_callVV (As := [vi s0, vi z1, vi (-1)]) (st := []) dX2_readClause_146 ml_X2_123 mo_X5_addClause mv_X5_addClause hs1 rfl rfl rfl rfl (Nat.le_of_ble_eq_true rfl) (Nat.le_of_ble_eq_true rfl) (by decide) hp (fun m4 hp => ?_)
  exact hp
theorem g_X2_readClause_149 {G : GG} {d : Nat} {m : MM} {k : MM → Prop} 
    (hp : N G d mi_X2_take 0 [some (vr 2), some (vi 34)] [] m (RV fun m2 => k m2)) :
    N G (d + 1) mi_X2_readClause 149 [some (vr 2), none, none] [] m (RV k) := by
  refine v_aload_n dX2_readClause_149 rfl rfl ?_
  refine v_bipush dX2_readClause_150 rfl ?_
  refine n_callVV (As := [vi 34]) (st := []) dX2_readClause_152 ml_X2_126 mo_X2_take mv_X2_take sh_2 rfl rfl rfl rfl (Nat.le_of_ble_eq_true rfl) (Nat.le_of_ble_eq_true rfl) (by decide) hp (fun m2 hp => ?_)
  exact n_retV dX2_readClause_155 rfl hp
theorem g_X2_readDeed_0 {G : GG} {d : Nat} {m : MM} {k : MM → Prop} (x1 : Int) (x2 : Int) (x3 : Int)
    (hp : N G d mi_X2_takeNumber 0 [some (vr 2), some (vi 7), none] [] m (RI fun z1 m2 => N G d mi_X2_take 0 [some (vr 2), some (vi x2)] [] m2 (RV fun m4 => N G d mi_X2_takeNumber 0 [some (vr 2), some (vi x3), none] [] m4 (RI fun z5 m6 => ∃ t7 : Nat, (m6 2 8 = (t7 : Int) ∧ SH t7 = .inr 5) ∧ (N G d mi_X5_addClause 0 [some (vr t7), some (vi x1), some (vi z1), some (vi z5)] [] m6 (RV fun m9 => k m9)))))) :
    N G (d + 1) mi_X2_readDeed 0 [some (vr 2), some (vi x1), some (vi x2), some (vi x3), none, none] [] m (RV k) := by
  refine v_aload_n dX2_readDeed_0 rfl rfl ?_
  refine v_bipush dX2_readDeed_1 rfl ?_
  refine n_callVI (As := [vi 7]) (st := []) dX2_readDeed_3 ml_X2_120 mo_X2_takeNumber mv_X2_takeNumber sh_2 rfl rfl rfl rfl (Nat.le_of_ble_eq_true rfl) (Nat.le_of_ble_eq_true rfl) (by decide) hp (fun z1 m2 hp => ?_)
  refine v_istore dX2_readDeed_6 (by decide) ?_
  refine v_aload_n dX2_readDeed_8 rfl rfl ?_
  refine v_iload_n dX2_readDeed_9 rfl rfl ?_
  refine n_callVV (As := [vi x2]) (st := []) dX2_readDeed_10 ml_X2_126 mo_X2_take mv_X2_take sh_2 rfl rfl rfl rfl (Nat.le_of_ble_eq_true rfl) (Nat.le_of_ble_eq_true rfl) (by decide) hp (fun m4 hp => ?_)
  refine v_aload_n dX2_readDeed_13 rfl rfl ?_
  refine v_iload_n dX2_readDeed_14 rfl rfl ?_
  refine n_callVI (As := [vi x3]) (st := []) dX2_readDeed_15 ml_X2_120 mo_X2_takeNumber mv_X2_takeNumber sh_2 rfl rfl rfl rfl (Nat.le_of_ble_eq_true rfl) (Nat.le_of_ble_eq_true rfl) (by decide) hp (fun z5 m6 hp => ?_)
  refine v_istore dX2_readDeed_18 (by decide) ?_
  refine v_aload_n dX2_readDeed_20 rfl rfl ?_
  obtain ⟨t7, ⟨et7, ht7⟩, hp⟩ := hp
  refine n_getr (t := t7) dX2_readDeed_21 fo_X2_40 sh_2 rfl (by rw [sr_2_8, et7]; rfl) ?_
  refine v_iload_n dX2_readDeed_24 rfl rfl ?_
  refine v_iload dX2_readDeed_25 rfl ?_
  refine v_iload dX2_readDeed_27 rfl ?_
  refine n_callVV (As := [vi x1, vi z1, vi z5]) (st := []) dX2_readDeed_29 ml_X2_123 mo_X5_addClause mv_X5_addClause ht7 rfl rfl rfl rfl (Nat.le_of_ble_eq_true rfl) (Nat.le_of_ble_eq_true rfl) (by decide) hp (fun m9 hp => ?_)
  exact n_retV dX2_readDeed_32 rfl hp
theorem g_X2_readRubs_0 {G : GG} {d : Nat} {m : MM} {k : MM → Prop} 
    (hp : ∀ m1 : MM, m1 = upm m 2 7 18 → (∃ t2 : Nat, (m1 2 8 = (t2 : Int) ∧ SH t2 = .inr 5) ∧ (∃ t3 : Nat, (m1 2 8 = (t3 : Int) ∧ SH t3 = .inr 5) ∧ (∀ m4 : MM, m4 = upm m1 t2 8 (m1 t3 5) → (N G d mi_X2_readSum 0 [some (vr 2), some (vi 0), none, none, none, none] [] m4 (RV fun m6 => ∃ t7 : Nat, (m6 2 8 = (t7 : Int) ∧ SH t7 = .inr 5) ∧ (∃ t8 : Nat, (m6 2 8 = (t8 : Int) ∧ SH t8 = .inr 5) ∧ (∀ m9 : MM, m9 = upm m6 t7 9 (m6 t8 5) → (∃ t10 : Nat, (m9 2 8 = (t10 : Int) ∧ SH t10 = .inr 5) ∧ (N G d mi_X5_addClause 0 [some (vr t10), some (vi 1), some (vi (-1)), some (vi (-1))] [] m9 (RV fun m12 => k m12))))))))))) :
    N G (d + 1) mi_X2_readRubs 0 [some (vr 2)] [] m (RV k) := by
  refine v_aload_n dX2_readRubs_0 rfl rfl ?_
  refine v_bipush dX2_readRubs_1 rfl ?_
  refine w_puti dX2_readRubs_3 fw_X2_34 sh_2 rfl (fun m1 em1 => ?_)
  have hp := hp m1 em1
  refine v_aload_n dX2_readRubs_6 rfl rfl ?_
  obtain ⟨t2, ⟨et2, ht2⟩, hp⟩ := hp
  refine n_getr (t := t2) dX2_readRubs_7 fo_X2_40 sh_2 rfl (by rw [sr_2_8, et2]; rfl) ?_
  refine v_aload_n dX2_readRubs_10 rfl rfl ?_
  obtain ⟨t3, ⟨et3, ht3⟩, hp⟩ := hp
  refine n_getr (t := t3) dX2_readRubs_11 fo_X2_40 sh_2 rfl (by rw [sr_2_8, et3]; rfl) ?_
  refine n_geti dX2_readRubs_14 fo_X2_129 ht3 rfl ?_
  refine w_puti dX2_readRubs_17 fw_X2_100 ht2 rfl (fun m4 em4 => ?_)
  have hp := hp m4 em4
  refine v_aload_n dX2_readRubs_20 rfl rfl ?_
  refine v_iconst dX2_readRubs_21 ?_
  refine n_callVV (As := [vi 0]) (st := []) dX2_readRubs_22 ml_X2_132 mo_X2_readSum mv_X2_readSum sh_2 rfl rfl rfl rfl (Nat.le_of_ble_eq_true rfl) (Nat.le_of_ble_eq_true rfl) (by decide) hp (fun m6 hp => ?_)
  refine v_aload_n dX2_readRubs_25 rfl rfl ?_
  obtain ⟨t7, ⟨et7, ht7⟩, hp⟩ := hp
  refine n_getr (t := t7) dX2_readRubs_26 fo_X2_40 sh_2 rfl (by rw [sr_2_8, et7]; rfl) ?_
  refine v_aload_n dX2_readRubs_29 rfl rfl ?_
  obtain ⟨t8, ⟨et8, ht8⟩, hp⟩ := hp
  refine n_getr (t := t8) dX2_readRubs_30 fo_X2_40 sh_2 rfl (by rw [sr_2_8, et8]; rfl) ?_
  refine n_geti dX2_readRubs_33 fo_X2_129 ht8 rfl ?_
  refine w_puti dX2_readRubs_36 fw_X2_135 ht7 rfl (fun m9 em9 => ?_)
  have hp := hp m9 em9
  refine v_aload_n dX2_readRubs_39 rfl rfl ?_
  obtain ⟨t10, ⟨et10, ht10⟩, hp⟩ := hp
  refine n_getr (t := t10) dX2_readRubs_40 fo_X2_40 sh_2 rfl (by rw [sr_2_8, et10]; rfl) ?_
  refine v_iconst dX2_readRubs_43 ?_
  refine v_iconst dX2_readRubs_44 ?_
  refine v_iconst dX2_readRubs_45 ?_
  refine n_callVV (As := [vi 1, vi (-1), vi (-1)]) (st := []) dX2_readRubs_46 ml_X2_123 mo_X5_addClause mv_X5_addClause ht10 rfl rfl rfl rfl (Nat.le_of_ble_eq_true rfl) (Nat.le_of_ble_eq_true rfl) (by decide) hp (fun m12 hp => ?_)
  exact n_retV dX2_readRubs_49 rfl hp
theorem g_X2_readSees_0 {G : GG} {d : Nat} {m : MM} {k : MM → Prop} 
    (hp : ∀ m1 : MM, m1 = upm m 2 7 21 → (∃ t2 : Nat, (m1 2 8 = (t2 : Int) ∧ SH t2 = .inr 5) ∧ (∃ t3 : Nat, (m1 2 8 = (t3 : Int) ∧ SH t3 = .inr 5) ∧ (∀ m4 : MM, m4 = upm m1 t2 6 (m1 t3 5) → (N G d mi_X2_readAsk 0 [some (vr 2), some (vi 0), none] [] m4 (RV fun m6 => N G (d + 1) mi_X2_readSees 29 [some (vr 2), some (vi 0), some (vi 0), none] [] m6 (RV k))))))) :
    N G (d + 1) mi_X2_readSees 0 [some (vr 2), none, none, none] [] m (RV k) := by
  refine v_aload_n dX2_readSees_0 rfl rfl ?_
  refine v_bipush dX2_readSees_1 rfl ?_
  refine w_puti dX2_readSees_3 fw_X2_34 sh_2 rfl (fun m1 em1 => ?_)
  have hp := hp m1 em1
  refine v_aload_n dX2_readSees_6 rfl rfl ?_
  obtain ⟨t2, ⟨et2, ht2⟩, hp⟩ := hp
  refine n_getr (t := t2) dX2_readSees_7 fo_X2_40 sh_2 rfl (by rw [sr_2_8, et2]; rfl) ?_
  refine v_aload_n dX2_readSees_10 rfl rfl ?_
  obtain ⟨t3, ⟨et3, ht3⟩, hp⟩ := hp
  refine n_getr (t := t3) dX2_readSees_11 fo_X2_40 sh_2 rfl (by rw [sr_2_8, et3]; rfl) ?_
  refine n_geti dX2_readSees_14 fo_X2_129 ht3 rfl ?_
  refine w_puti dX2_readSees_17 fw_X2_97 ht2 rfl (fun m4 em4 => ?_)
  have hp := hp m4 em4
  refine v_iconst dX2_readSees_20 ?_
  refine v_istore_n dX2_readSees_21 rfl (by decide) ?_
  refine v_aload_n dX2_readSees_22 rfl rfl ?_
  refine v_iconst dX2_readSees_23 ?_
  refine n_callVV (As := [vi 0]) (st := []) dX2_readSees_24 ml_X2_138 mo_X2_readAsk mv_X2_readAsk sh_2 rfl rfl rfl rfl (Nat.le_of_ble_eq_true rfl) (Nat.le_of_ble_eq_true rfl) (by decide) hp (fun m6 hp => ?_)
  refine v_iconst dX2_readSees_27 ?_
  refine v_istore_n dX2_readSees_28 rfl (by decide) ?_
  exact hp
theorem g_X2_readSees_29 {G : GG} {d : Nat} {m : MM} {k : MM → Prop} (x1 : Int) (x2 : Int)
    (hp : bLE 300 x2 (N G (d + 1) mi_X2_readSees 149 [some (vr 2), some (vi x1), none, none] [] m (RV k)) (∃ j1 : Nat, ((m 2 6) = (j1 : Int) ∧ j1 < 301) ∧ (bEQ (m 3 j1) 11 (N G (d + 1) mi_X2_readSees 64 [some (vr 2), some (vi x1), some (vi x2), none] [] m (RV k)) (∃ j2 : Nat, ((m 2 6) = (j2 : Int) ∧ j2 < 301) ∧ (bEQ (m 3 j2) 10 (N G (d + 1) mi_X2_readSees 64 [some (vr 2), some (vi x1), some (vi x2), none] [] m (RV k)) (N G (d + 1) mi_X2_readSees 149 [some (vr 2), some (vi x1), none, none] [] m (RV k))))))) :
    N G (d + 1) mi_X2_readSees 29 [some (vr 2), some (vi x1), some (vi x2), none] [] m (RV k) := by
  refine v_iload_n dX2_readSees_29 rfl rfl ?_
  refine v_sipush dX2_readSees_30 rfl ?_
  obtain ⟨⟨r1, r2⟩, hA, hB⟩ := hp
  refine v_icmp_ge (tgt := 149) dX2_readSees_33 (by decide) r2 r1 (fun q => ?_) (fun q => ?_)
  · have hp := hA q
    exact n_weak (wk_s (wk_s (wk_n (wk_s wk_nil)))) hp
  · have hp := hB q
    refine v_aload_n dX2_readSees_36 rfl rfl ?_
    refine n_getr dX2_readSees_37 fo_X2_18 sh_2 rfl sr_2_2 ?_
    refine v_aload_n dX2_readSees_40 rfl rfl ?_
    refine n_geti dX2_readSees_41 fo_X2_31 sh_2 rfl ?_
    obtain ⟨j1, ⟨ej1, bj1⟩, hp⟩ := hp
    refine n_iald (j := j1) dX2_readSees_44 sh_3 ej1 bj1 ?_
    refine v_bipush dX2_readSees_45 rfl ?_
    obtain ⟨⟨r1, r2⟩, hA, hB⟩ := hp
    refine v_icmp_eq (tgt := 64) dX2_readSees_47 (by decide) r1 r2 (fun q => ?_) (fun q => ?_)
    · have hp := hA q
      exact hp
    · have hp := hB q
      refine v_aload_n dX2_readSees_50 rfl rfl ?_
      refine n_getr dX2_readSees_51 fo_X2_18 sh_2 rfl sr_2_2 ?_
      refine v_aload_n dX2_readSees_54 rfl rfl ?_
      refine n_geti dX2_readSees_55 fo_X2_31 sh_2 rfl ?_
      obtain ⟨j2, ⟨ej2, bj2⟩, hp⟩ := hp
      refine n_iald (j := j2) dX2_readSees_58 sh_3 ej2 bj2 ?_
      refine v_bipush dX2_readSees_59 rfl ?_
      obtain ⟨⟨r1, r2⟩, hA, hB⟩ := hp
      refine v_icmp_ne (tgt := 149) dX2_readSees_61 (by decide) r1 r2 (fun q => ?_) (fun q => ?_)
      · have hp := hB q
        exact n_weak (wk_s (wk_s (wk_n (wk_s wk_nil)))) hp
      · have hp := hA q
        exact hp
theorem g_X2_readSees_64 {G : GG} {d : Nat} {m : MM} {k : MM → Prop} (x1 : Int) (x2 : Int)
    (hp : ∃ j1 : Nat, ((m 2 6) = (j1 : Int) ∧ j1 < 301) ∧ (bEQ (m 3 j1) 11 (N G (d + 1) mi_X2_readSees 83 [some (vr 2), some (vi x1), some (vi x2), none] [vi 1] m (RV k)) (N G (d + 1) mi_X2_readSees 83 [some (vr 2), some (vi x1), some (vi x2), none] [vi 0] m (RV k)))) :
    N G (d + 1) mi_X2_readSees 64 [some (vr 2), some (vi x1), some (vi x2), none] [] m (RV k) := by
  refine v_aload_n dX2_readSees_64 rfl rfl ?_
  refine n_getr dX2_readSees_65 fo_X2_18 sh_2 rfl sr_2_2 ?_
  refine v_aload_n dX2_readSees_68 rfl rfl ?_
  refine n_geti dX2_readSees_69 fo_X2_31 sh_2 rfl ?_
  obtain ⟨j1, ⟨ej1, bj1⟩, hp⟩ := hp
  refine n_iald (j := j1) dX2_readSees_72 sh_3 ej1 bj1 ?_
  refine v_bipush dX2_readSees_73 rfl ?_
  obtain ⟨⟨r1, r2⟩, hA, hB⟩ := hp
  refine v_icmp_ne (tgt := 82) dX2_readSees_75 (by decide) r1 r2 (fun q => ?_) (fun q => ?_)
  · have hp := hB q
    refine v_iconst dX2_readSees_82 ?_
    exact hp
  · have hp := hA q
    refine v_iconst dX2_readSees_78 ?_
    refine v_goto (tgt := 83) dX2_readSees_79 (by decide) ?_
    exact hp
theorem g_X2_readSees_83 {G : GG} {d : Nat} {m : MM} {k : MM → Prop} (x1 : Int) (x2 : Int) (s0 : Int)
    (hp : bEQ s0 0 (bEQ x1 0 (N G (d + 1) mi_X2_readSees 101 [some (vr 2), some (vi x1), some (vi x2), some (vi s0)] [] m (RV k)) (∃ t1 : Nat, (m 2 8 = (t1 : Int) ∧ SH t1 = .inr 5) ∧ (N G d mi_X5_addSign 0 [some (vr t1), some (vi 10)] [] m (RV fun m3 => N G (d + 1) mi_X2_readSees 101 [some (vr 2), some (vi x1), some (vi x2), some (vi s0)] [] m3 (RV k))))) (N G (d + 1) mi_X2_readSees 101 [some (vr 2), some (vi x1), some (vi x2), some (vi s0)] [] m (RV k))) :
    N G (d + 1) mi_X2_readSees 83 [some (vr 2), some (vi x1), some (vi x2), none] [vi s0] m (RV k) := by
  refine v_istore_n dX2_readSees_83 rfl (by decide) ?_
  refine v_iload_n dX2_readSees_84 rfl rfl ?_
  obtain ⟨⟨r1, r2⟩, hA, hB⟩ := hp
  refine v_if_ne (tgt := 101) dX2_readSees_85 (by decide) r1 (fun q => ?_) (fun q => ?_)
  · have hp := hB q
    exact hp
  · have hp := hA q
    refine v_iload_n dX2_readSees_88 rfl rfl ?_
    obtain ⟨⟨r1, r2⟩, hA, hB⟩ := hp
    refine v_if_eq (tgt := 101) dX2_readSees_89 (by decide) r1 (fun q => ?_) (fun q => ?_)
    · have hp := hA q
      exact hp
    · have hp := hB q
      refine v_aload_n dX2_readSees_92 rfl rfl ?_
      obtain ⟨t1, ⟨et1, ht1⟩, hp⟩ := hp
      refine n_getr (t := t1) dX2_readSees_93 fo_X2_40 sh_2 rfl (by rw [sr_2_8, et1]; rfl) ?_
      refine v_bipush dX2_readSees_96 rfl ?_
      refine n_callVV (As := [vi 10]) (st := []) dX2_readSees_98 ml_X2_141 mo_X5_addSign mv_X5_addSign ht1 rfl rfl rfl rfl (Nat.le_of_ble_eq_true rfl) (Nat.le_of_ble_eq_true rfl) (by decide) hp (fun m3 hp => ?_)
      exact hp
theorem g_X2_readSees_101 {G : GG} {d : Nat} {m : MM} {k : MM → Prop} (x1 : Int) (x2 : Int) (x3 : Int)
    (hp : bEQ x1 0 (bEQ x3 0 (N G (d + 1) mi_X2_readSees 114 [some (vr 2), none, some (vi x2), some (vi x3)] [vi 1] m (RV k)) (N G (d + 1) mi_X2_readSees 114 [some (vr 2), none, some (vi x2), some (vi x3)] [vi 0] m (RV k))) (N G (d + 1) mi_X2_readSees 114 [some (vr 2), none, some (vi x2), some (vi x3)] [vi 1] m (RV k))) :
    N G (d + 1) mi_X2_readSees 101 [some (vr 2), some (vi x1), some (vi x2), some (vi x3)] [] m (RV k) := by
  refine v_iload_n dX2_readSees_101 rfl rfl ?_
  obtain ⟨⟨r1, r2⟩, hA, hB⟩ := hp
  refine v_if_ne (tgt := 109) dX2_readSees_102 (by decide) r1 (fun q => ?_) (fun q => ?_)
  · have hp := hB q
    refine v_iconst dX2_readSees_109 ?_
    refine v_goto (tgt := 114) dX2_readSees_110 (by decide) ?_
    exact n_weak (wk_s (wk_n (wk_s (wk_s wk_nil)))) hp
  · have hp := hA q
    refine v_iload_n dX2_readSees_105 rfl rfl ?_
    obtain ⟨⟨r1, r2⟩, hA, hB⟩ := hp
    refine v_if_ne (tgt := 113) dX2_readSees_106 (by decide) r1 (fun q => ?_) (fun q => ?_)
    · have hp := hB q
      refine v_iconst dX2_readSees_113 ?_
      exact n_weak (wk_s (wk_n (wk_s (wk_s wk_nil)))) hp
    · have hp := hA q
      refine v_iconst dX2_readSees_109 ?_
      refine v_goto (tgt := 114) dX2_readSees_110 (by decide) ?_
      exact n_weak (wk_s (wk_n (wk_s (wk_s wk_nil)))) hp
theorem g_X2_readSees_114 {G : GG} {d : Nat} {m : MM} {k : MM → Prop} (x2 : Int) (x3 : Int) (s0 : Int)
    (hp : ∀ m1 : MM, m1 = upm m 2 6 ((m 2 6) + 1) → (N G d mi_X2_readAsk 0 [some (vr 2), some (vi 0), none] [] m1 (RV fun m3 => bEQ x3 0 (N G (d + 1) mi_X2_readSees 29 [some (vr 2), some (vi s0), some (vi (x2 + 1)), none] [] m3 (RV k)) (∃ t4 : Nat, (m3 2 8 = (t4 : Int) ∧ SH t4 = .inr 5) ∧ (N G d mi_X5_addSign 0 [some (vr t4), some (vi 11)] [] m3 (RV fun m6 => N G (d + 1) mi_X2_readSees 29 [some (vr 2), some (vi s0), some (vi (x2 + 1)), none] [] m6 (RV k))))))) :
    N G (d + 1) mi_X2_readSees 114 [some (vr 2), none, some (vi x2), some (vi x3)] [vi s0] m (RV k) := by
  refine v_istore_n dX2_readSees_114 rfl (by decide) ?_
  refine v_aload_n dX2_readSees_115 rfl rfl ?_
  refine v_dupr dX2_readSees_116 ?_
  refine n_geti dX2_readSees_117 fo_X2_31 sh_2 rfl ?_
  refine v_iconst dX2_readSees_120 ?_
  refine v_iadd dX2_readSees_121 ?_
  refine w_puti dX2_readSees_122 fw_X2_31 sh_2 rfl (fun m1 em1 => ?_)
  have hp := hp m1 em1
  refine v_aload_n dX2_readSees_125 rfl rfl ?_
  refine v_iconst dX2_readSees_126 ?_
  refine n_callVV (As := [vi 0]) (st := []) dX2_readSees_127 ml_X2_138 mo_X2_readAsk mv_X2_readAsk sh_2 rfl rfl rfl rfl (Nat.le_of_ble_eq_true rfl) (Nat.le_of_ble_eq_true rfl) (by decide) hp (fun m3 hp => ?_)
  refine v_iload_n dX2_readSees_130 rfl rfl ?_
  obtain ⟨⟨r1, r2⟩, hA, hB⟩ := hp
  refine v_if_eq (tgt := 143) dX2_readSees_131 (by decide) r1 (fun q => ?_) (fun q => ?_)
  · have hp := hA q
    refine v_iinc dX2_readSees_143 rfl (by decide) ?_
    refine v_goto (tgt := 29) dX2_readSees_146 (by decide) ?_
    exact n_weak (wk_s (wk_s (wk_s (wk_n wk_nil)))) hp
  · have hp := hB q
    refine v_aload_n dX2_readSees_134 rfl rfl ?_
    obtain ⟨t4, ⟨et4, ht4⟩, hp⟩ := hp
    refine n_getr (t := t4) dX2_readSees_135 fo_X2_40 sh_2 rfl (by rw [sr_2_8, et4]; rfl) ?_
    refine v_bipush dX2_readSees_138 rfl ?_
    refine n_callVV (As := [vi 11]) (st := []) dX2_readSees_140 ml_X2_141 mo_X5_addSign mv_X5_addSign ht4 rfl rfl rfl rfl (Nat.le_of_ble_eq_true rfl) (Nat.le_of_ble_eq_true rfl) (by decide) hp (fun m6 hp => ?_)
    refine v_iinc dX2_readSees_143 rfl (by decide) ?_
    refine v_goto (tgt := 29) dX2_readSees_146 (by decide) ?_
    exact n_weak (wk_s (wk_s (wk_s (wk_n wk_nil)))) hp
theorem g_X2_readSees_149 {G : GG} {d : Nat} {m : MM} {k : MM → Prop} (x1 : Int)
    (hp : bEQ x1 0 (N G (d + 1) mi_X2_readSees 162 [some (vr 2), none, none, none] [] m (RV k)) (∃ t1 : Nat, (m 2 8 = (t1 : Int) ∧ SH t1 = .inr 5) ∧ (N G d mi_X5_addSign 0 [some (vr t1), some (vi 10)] [] m (RV fun m3 => N G (d + 1) mi_X2_readSees 162 [some (vr 2), none, none, none] [] m3 (RV k))))) :
    N G (d + 1) mi_X2_readSees 149 [some (vr 2), some (vi x1), none, none] [] m (RV k) := by
  refine v_iload_n dX2_readSees_149 rfl rfl ?_
  obtain ⟨⟨r1, r2⟩, hA, hB⟩ := hp
  refine v_if_eq (tgt := 162) dX2_readSees_150 (by decide) r1 (fun q => ?_) (fun q => ?_)
  · have hp := hA q
    exact n_weak (wk_s (wk_n (wk_s (wk_s wk_nil)))) hp
  · have hp := hB q
    refine v_aload_n dX2_readSees_153 rfl rfl ?_
    obtain ⟨t1, ⟨et1, ht1⟩, hp⟩ := hp
    refine n_getr (t := t1) dX2_readSees_154 fo_X2_40 sh_2 rfl (by rw [sr_2_8, et1]; rfl) ?_
    refine v_bipush dX2_readSees_157 rfl ?_
    refine n_callVV (As := [vi 10]) (st := []) dX2_readSees_159 ml_X2_141 mo_X5_addSign mv_X5_addSign ht1 rfl rfl rfl rfl (Nat.le_of_ble_eq_true rfl) (Nat.le_of_ble_eq_true rfl) (by decide) hp (fun m3 hp => ?_)
    exact n_weak (wk_s (wk_n (wk_s (wk_s wk_nil)))) hp
theorem g_X2_readSees_162 {G : GG} {d : Nat} {m : MM} {k : MM → Prop} 
    (hp : ∃ t1 : Nat, (m 2 8 = (t1 : Int) ∧ SH t1 = .inr 5) ∧ (∃ t2 : Nat, (m 2 8 = (t2 : Int) ∧ SH t2 = .inr 5) ∧ (∀ m3 : MM, m3 = upm m t1 7 (m t2 5) → (∃ t4 : Nat, (m3 2 8 = (t4 : Int) ∧ SH t4 = .inr 5) ∧ (N G d mi_X5_addClause 0 [some (vr t4), some (vi 0), some (vi (-1)), some (vi (-1))] [] m3 (RV fun m6 => k m6)))))) :
    N G (d + 1) mi_X2_readSees 162 [some (vr 2), none, none, none] [] m (RV k) := by
  refine v_aload_n dX2_readSees_162 rfl rfl ?_
  obtain ⟨t1, ⟨et1, ht1⟩, hp⟩ := hp
  refine n_getr (t := t1) dX2_readSees_163 fo_X2_40 sh_2 rfl (by rw [sr_2_8, et1]; rfl) ?_
  refine v_aload_n dX2_readSees_166 rfl rfl ?_
  obtain ⟨t2, ⟨et2, ht2⟩, hp⟩ := hp
  refine n_getr (t := t2) dX2_readSees_167 fo_X2_40 sh_2 rfl (by rw [sr_2_8, et2]; rfl) ?_
  refine n_geti dX2_readSees_170 fo_X2_129 ht2 rfl ?_
  refine w_puti dX2_readSees_173 fw_X2_144 ht1 rfl (fun m3 em3 => ?_)
  have hp := hp m3 em3
  refine v_aload_n dX2_readSees_176 rfl rfl ?_
  obtain ⟨t4, ⟨et4, ht4⟩, hp⟩ := hp
  refine n_getr (t := t4) dX2_readSees_177 fo_X2_40 sh_2 rfl (by rw [sr_2_8, et4]; rfl) ?_
  refine v_iconst dX2_readSees_180 ?_
  refine v_iconst dX2_readSees_181 ?_
  refine v_iconst dX2_readSees_182 ?_
  refine n_callVV (As := [vi 0, vi (-1), vi (-1)]) (st := []) dX2_readSees_183 ml_X2_123 mo_X5_addClause mv_X5_addClause ht4 rfl rfl rfl rfl (Nat.le_of_ble_eq_true rfl) (Nat.le_of_ble_eq_true rfl) (by decide) hp (fun m6 hp => ?_)
  exact n_retV dX2_readSees_186 rfl hp
theorem g_X2_readAsk_0 {G : GG} {d : Nat} {m : MM} {k : MM → Prop} (x1 : Int)
    (hp : ∃ j1 : Nat, ((m 2 6) = (j1 : Int) ∧ j1 < 301) ∧ (bEQ (m 3 j1) 12 (bLT x1 8 (∀ m11 : MM, m11 = upm m 2 6 ((m 2 6) + 1) → (N G d mi_X2_readAsk 0 [some (vr 2), some (vi (x1 + 1)), none] [] m11 (RV fun m13 => ∃ t14 : Nat, (m13 2 8 = (t14 : Int) ∧ SH t14 = .inr 5) ∧ (N G d mi_X5_addSign 0 [some (vr t14), some (vi 12)] [] m13 (RV fun m16 => k m16))))) (N G d mi_X2_fail 0 [some (vr 2), some (vi 3)] [] m (RV fun m18 => k m18))) (N G d mi_X2_readSum 0 [some (vr 2), some (vi x1), none, none, none, none] [] m (RV fun m3 => ∃ j4 : Nat, ((m3 2 6) = (j4 : Int) ∧ j4 < 301) ∧ (bLT (m3 3 j4) 22 (N G (d + 1) mi_X2_readAsk 80 [some (vr 2), none, none] [] m3 (RV k)) (bLE (m3 3 j4) 27 (∀ m5 : MM, m5 = upm m3 2 6 ((m3 2 6) + 1) → (N G d mi_X2_readSum 0 [some (vr 2), some (vi x1), none, none, none, none] [] m5 (RV fun m7 => ∃ t8 : Nat, (m7 2 8 = (t8 : Int) ∧ SH t8 = .inr 5) ∧ (N G d mi_X5_addSign 0 [some (vr t8), some (vi (m3 3 j4))] [] m7 (RV fun m10 => k m10))))) (N G (d + 1) mi_X2_readAsk 80 [some (vr 2), none, none] [] m3 (RV k)))))))) :
    N G (d + 1) mi_X2_readAsk 0 [some (vr 2), some (vi x1), none] [] m (RV k) := by
  refine v_aload_n dX2_readAsk_0 rfl rfl ?_
  refine n_getr dX2_readAsk_1 fo_X2_18 sh_2 rfl sr_2_2 ?_
  refine v_aload_n dX2_readAsk_4 rfl rfl ?_
  refine n_geti dX2_readAsk_5 fo_X2_31 sh_2 rfl ?_
  obtain ⟨j1, ⟨ej1, bj1⟩, hp⟩ := hp
  refine n_iald (j := j1) dX2_readAsk_8 sh_3 ej1 bj1 ?_
  refine v_bipush dX2_readAsk_9 rfl ?_
  obtain ⟨⟨r1, r2⟩, hA, hB⟩ := hp
  refine v_icmp_ne (tgt := 53) dX2_readAsk_11 (by decide) r1 r2 (fun q => ?_) (fun q => ?_)
  · have hp := hB q
    refine v_aload_n dX2_readAsk_53 rfl rfl ?_
    refine v_iload_n dX2_readAsk_54 rfl rfl ?_
    refine n_callVV (As := [vi x1]) (st := []) dX2_readAsk_55 ml_X2_132 mo_X2_readSum mv_X2_readSum sh_2 rfl rfl rfl rfl (Nat.le_of_ble_eq_true rfl) (Nat.le_of_ble_eq_true rfl) (by decide) hp (fun m3 hp => ?_)
    refine v_aload_n dX2_readAsk_58 rfl rfl ?_
    refine n_getr dX2_readAsk_59 fo_X2_18 sh_2 rfl sr_2_2 ?_
    refine v_aload_n dX2_readAsk_62 rfl rfl ?_
    refine n_geti dX2_readAsk_63 fo_X2_31 sh_2 rfl ?_
    obtain ⟨j4, ⟨ej4, bj4⟩, hp⟩ := hp
    refine n_iald (j := j4) dX2_readAsk_66 sh_3 ej4 bj4 ?_
    refine v_istore_n dX2_readAsk_67 rfl (by decide) ?_
    refine v_iload_n dX2_readAsk_68 rfl rfl ?_
    refine v_bipush dX2_readAsk_69 rfl ?_
    obtain ⟨⟨r1, r2⟩, hA, hB⟩ := hp
    refine v_icmp_lt (tgt := 80) dX2_readAsk_71 (by decide) r1 r2 (fun q => ?_) (fun q => ?_)
    · have hp := hA q
      exact n_weak (wk_s (wk_n (wk_n wk_nil))) hp
    · have hp := hB q
      refine v_iload_n dX2_readAsk_74 rfl rfl ?_
      refine v_bipush dX2_readAsk_75 rfl ?_
      obtain ⟨⟨r1, r2⟩, hA, hB⟩ := hp
      refine v_icmp_le (tgt := 86) dX2_readAsk_77 (by decide) r1 r2 (fun q => ?_) (fun q => ?_)
      · have hp := hA q
        refine v_aload_n dX2_readAsk_86 rfl rfl ?_
        refine v_dupr dX2_readAsk_87 ?_
        refine n_geti dX2_readAsk_88 fo_X2_31 sh_2 rfl ?_
        refine v_iconst dX2_readAsk_91 ?_
        refine v_iadd dX2_readAsk_92 ?_
        refine w_puti dX2_readAsk_93 fw_X2_31 sh_2 rfl (fun m5 em5 => ?_)
        have hp := hp m5 em5
        refine v_aload_n dX2_readAsk_96 rfl rfl ?_
        refine v_iload_n dX2_readAsk_97 rfl rfl ?_
        refine n_callVV (As := [vi x1]) (st := []) dX2_readAsk_98 ml_X2_132 mo_X2_readSum mv_X2_readSum sh_2 rfl rfl rfl rfl (Nat.le_of_ble_eq_true rfl) (Nat.le_of_ble_eq_true rfl) (by decide) hp (fun m7 hp => ?_)
        refine v_aload_n dX2_readAsk_101 rfl rfl ?_
        obtain ⟨t8, ⟨et8, ht8⟩, hp⟩ := hp
        refine n_getr (t := t8) dX2_readAsk_102 fo_X2_40 sh_2 rfl (by rw [sr_2_8, et8]; rfl) ?_
        refine v_iload_n dX2_readAsk_105 rfl rfl ?_
        refine n_callVV (As := [vi (m3 3 j4)]) (st := []) dX2_readAsk_106 ml_X2_141 mo_X5_addSign mv_X5_addSign ht8 rfl rfl rfl rfl (Nat.le_of_ble_eq_true rfl) (Nat.le_of_ble_eq_true rfl) (by decide) hp (fun m10 hp => ?_)
        exact n_retV dX2_readAsk_109 rfl hp
      · have hp := hB q
        exact n_weak (wk_s (wk_n (wk_n wk_nil))) hp
  · have hp := hA q
    refine v_iload_n dX2_readAsk_14 rfl rfl ?_
    refine v_bipush dX2_readAsk_15 rfl ?_
    obtain ⟨⟨r1, r2⟩, hA, hB⟩ := hp
    refine v_icmp_lt (tgt := 26) dX2_readAsk_17 (by decide) r1 r2 (fun q => ?_) (fun q => ?_)
    · have hp := hA q
      refine v_aload_n dX2_readAsk_26 rfl rfl ?_
      refine v_dupr dX2_readAsk_27 ?_
      refine n_geti dX2_readAsk_28 fo_X2_31 sh_2 rfl ?_
      refine v_iconst dX2_readAsk_31 ?_
      refine v_iadd dX2_readAsk_32 ?_
      refine w_puti dX2_readAsk_33 fw_X2_31 sh_2 rfl (fun m11 em11 => ?_)
      have hp := hp m11 em11
      refine v_aload_n dX2_readAsk_36 rfl rfl ?_
      refine v_iload_n dX2_readAsk_37 rfl rfl ?_
      refine v_iconst dX2_readAsk_38 ?_
      refine v_iadd dX2_readAsk_39 ?_
      refine n_callVV (As := [vi (x1 + 1)]) (st := []) dX2_readAsk_40 ml_X2_138 mo_X2_readAsk mv_X2_readAsk sh_2 rfl rfl rfl rfl (Nat.le_of_ble_eq_true rfl) (Nat.le_of_ble_eq_true rfl) (by decide) hp (fun m13 hp => ?_)
      refine v_aload_n dX2_readAsk_43 rfl rfl ?_
      obtain ⟨t14, ⟨et14, ht14⟩, hp⟩ := hp
      refine n_getr (t := t14) dX2_readAsk_44 fo_X2_40 sh_2 rfl (by rw [sr_2_8, et14]; rfl) ?_
      refine v_bipush dX2_readAsk_47 rfl ?_
      refine n_callVV (As := [vi 12]) (st := []) dX2_readAsk_49 ml_X2_141 mo_X5_addSign mv_X5_addSign ht14 rfl rfl rfl rfl (Nat.le_of_ble_eq_true rfl) (Nat.le_of_ble_eq_true rfl) (by decide) hp (fun m16 hp => ?_)
      exact n_retV dX2_readAsk_52 rfl hp
    · have hp := hB q
      refine v_aload_n dX2_readAsk_20 rfl rfl ?_
      refine v_iconst dX2_readAsk_21 ?_
      refine n_callVV (As := [vi 3]) (st := []) dX2_readAsk_22 ml_X2_93 mo_X2_fail mv_X2_fail sh_2 rfl rfl rfl rfl (Nat.le_of_ble_eq_true rfl) (Nat.le_of_ble_eq_true rfl) (by decide) hp (fun m18 hp => ?_)
      exact n_retV dX2_readAsk_25 rfl hp
theorem g_X2_readAsk_80 {G : GG} {d : Nat} {m : MM} {k : MM → Prop} 
    (hp : N G d mi_X2_fail 0 [some (vr 2), some (vi 1)] [] m (RV fun m2 => k m2)) :
    N G (d + 1) mi_X2_readAsk 80 [some (vr 2), none, none] [] m (RV k) := by
  refine v_aload_n dX2_readAsk_80 rfl rfl ?_
  refine v_iconst dX2_readAsk_81 ?_
  refine n_callVV (As := [vi 1]) (st := []) dX2_readAsk_82 ml_X2_93 mo_X2_fail mv_X2_fail sh_2 rfl rfl rfl rfl (Nat.le_of_ble_eq_true rfl) (Nat.le_of_ble_eq_true rfl) (by decide) hp (fun m2 hp => ?_)
  exact n_retV dX2_readAsk_85 rfl hp
theorem g_X2_readSum_0 {G : GG} {d : Nat} {m : MM} {k : MM → Prop} (x1 : Int)
    (hp : N G d mi_X2_readOne 0 [some (vr 2), some (vi x1), none] [] m (RV fun m2 => N G (d + 1) mi_X2_readSum 9 [some (vr 2), some (vi x1), some (vi (-1)), some (vi 0), none, none] [] m2 (RV k))) :
    N G (d + 1) mi_X2_readSum 0 [some (vr 2), some (vi x1), none, none, none, none] [] m (RV k) := by
  refine v_iconst dX2_readSum_0 ?_
  refine v_istore_n dX2_readSum_1 rfl (by decide) ?_
  refine v_aload_n dX2_readSum_2 rfl rfl ?_
  refine v_iload_n dX2_readSum_3 rfl rfl ?_
  refine n_callVV (As := [vi x1]) (st := []) dX2_readSum_4 ml_X2_147 mo_X2_readOne mv_X2_readOne sh_2 rfl rfl rfl rfl (Nat.le_of_ble_eq_true rfl) (Nat.le_of_ble_eq_true rfl) (by decide) hp (fun m2 hp => ?_)
  refine v_iconst dX2_readSum_7 ?_
  refine v_istore_n dX2_readSum_8 rfl (by decide) ?_
  exact hp
theorem g_X2_readSum_9 {G : GG} {d : Nat} {m : MM} {k : MM → Prop} (x1 : Int) (x2 : Int) (x3 : Int)
    (hp : bLE 300 x3 (N G (d + 1) mi_X2_readSum 132 [some (vr 2), none, some (vi x2), none, none, none] [] m (RV k)) (∃ j1 : Nat, ((m 2 6) = (j1 : Int) ∧ j1 < 301) ∧ (bLT (m 3 j1) 28 (N G (d + 1) mi_X2_readSum 132 [some (vr 2), none, some (vi x2), none, none, none] [] m (RV k)) (∃ j2 : Nat, ((m 2 6) = (j2 : Int) ∧ j2 < 301) ∧ (bLT 31 (m 3 j2) (N G (d + 1) mi_X2_readSum 132 [some (vr 2), none, some (vi x2), none, none, none] [] m (RV k)) (∃ j3 : Nat, ((m 2 6) = (j3 : Int) ∧ j3 < 301) ∧ (bEQ (m 3 j3) 30 (N G (d + 1) mi_X2_readSum 74 [some (vr 2), some (vi x1), some (vi x2), some (vi x3), some (vi (m 3 j3)), none] [vi 1] m (RV k)) (bEQ (m 3 j3) 31 (N G (d + 1) mi_X2_readSum 74 [some (vr 2), some (vi x1), some (vi x2), some (vi x3), some (vi (m 3 j3)), none] [vi 1] m (RV k)) (N G (d + 1) mi_X2_readSum 74 [some (vr 2), some (vi x1), some (vi x2), some (vi x3), some (vi (m 3 j3)), none] [vi 0] m (RV k)))))))))) :
    N G (d + 1) mi_X2_readSum 9 [some (vr 2), some (vi x1), some (vi x2), some (vi x3), none, none] [] m (RV k) := by
  refine v_iload_n dX2_readSum_9 rfl rfl ?_
  refine v_sipush dX2_readSum_10 rfl ?_
  obtain ⟨⟨r1, r2⟩, hA, hB⟩ := hp
  refine v_icmp_ge (tgt := 132) dX2_readSum_13 (by decide) r2 r1 (fun q => ?_) (fun q => ?_)
  · have hp := hA q
    exact n_weak (wk_s (wk_n (wk_s (wk_n (wk_s (wk_s wk_nil)))))) hp
  · have hp := hB q
    refine v_aload_n dX2_readSum_16 rfl rfl ?_
    refine n_getr dX2_readSum_17 fo_X2_18 sh_2 rfl sr_2_2 ?_
    refine v_aload_n dX2_readSum_20 rfl rfl ?_
    refine n_geti dX2_readSum_21 fo_X2_31 sh_2 rfl ?_
    obtain ⟨j1, ⟨ej1, bj1⟩, hp⟩ := hp
    refine n_iald (j := j1) dX2_readSum_24 sh_3 ej1 bj1 ?_
    refine v_bipush dX2_readSum_25 rfl ?_
    obtain ⟨⟨r1, r2⟩, hA, hB⟩ := hp
    refine v_icmp_lt (tgt := 132) dX2_readSum_27 (by decide) r1 r2 (fun q => ?_) (fun q => ?_)
    · have hp := hA q
      exact n_weak (wk_s (wk_n (wk_s (wk_n (wk_s (wk_s wk_nil)))))) hp
    · have hp := hB q
      refine v_aload_n dX2_readSum_30 rfl rfl ?_
      refine n_getr dX2_readSum_31 fo_X2_18 sh_2 rfl sr_2_2 ?_
      refine v_aload_n dX2_readSum_34 rfl rfl ?_
      refine n_geti dX2_readSum_35 fo_X2_31 sh_2 rfl ?_
      obtain ⟨j2, ⟨ej2, bj2⟩, hp⟩ := hp
      refine n_iald (j := j2) dX2_readSum_38 sh_3 ej2 bj2 ?_
      refine v_bipush dX2_readSum_39 rfl ?_
      obtain ⟨⟨r1, r2⟩, hA, hB⟩ := hp
      refine v_icmp_gt (tgt := 132) dX2_readSum_41 (by decide) r2 r1 (fun q => ?_) (fun q => ?_)
      · have hp := hA q
        exact n_weak (wk_s (wk_n (wk_s (wk_n (wk_s (wk_s wk_nil)))))) hp
      · have hp := hB q
        refine v_aload_n dX2_readSum_44 rfl rfl ?_
        refine n_getr dX2_readSum_45 fo_X2_18 sh_2 rfl sr_2_2 ?_
        refine v_aload_n dX2_readSum_48 rfl rfl ?_
        refine n_geti dX2_readSum_49 fo_X2_31 sh_2 rfl ?_
        obtain ⟨j3, ⟨ej3, bj3⟩, hp⟩ := hp
        refine n_iald (j := j3) dX2_readSum_52 sh_3 ej3 bj3 ?_
        refine v_istore dX2_readSum_53 (by decide) ?_
        refine v_iload dX2_readSum_55 rfl ?_
        refine v_bipush dX2_readSum_57 rfl ?_
        obtain ⟨⟨r1, r2⟩, hA, hB⟩ := hp
        refine v_icmp_eq (tgt := 69) dX2_readSum_59 (by decide) r1 r2 (fun q => ?_) (fun q => ?_)
        · have hp := hA q
          refine v_iconst dX2_readSum_69 ?_
          refine v_goto (tgt := 74) dX2_readSum_70 (by decide) ?_
          exact hp
        · have hp := hB q
          refine v_iload dX2_readSum_62 rfl ?_
          refine v_bipush dX2_readSum_64 rfl ?_
          obtain ⟨⟨r1, r2⟩, hA, hB⟩ := hp
          refine v_icmp_ne (tgt := 73) dX2_readSum_66 (by decide) r1 r2 (fun q => ?_) (fun q => ?_)
          · have hp := hB q
            refine v_iconst dX2_readSum_73 ?_
            exact hp
          · have hp := hA q
            refine v_iconst dX2_readSum_69 ?_
            refine v_goto (tgt := 74) dX2_readSum_70 (by decide) ?_
            exact hp
theorem g_X2_readSum_74 {G : GG} {d : Nat} {m : MM} {k : MM → Prop} (x1 : Int) (x2 : Int) (x3 : Int) (x4 : Int) (s0 : Int)
    (hp : bEQ s0 0 (bEQ x2 (-1) (N G (d + 1) mi_X2_readSum 97 [some (vr 2), some (vi x1), some (vi x4), some (vi x3), some (vi x4), some (vi s0)] [] m (RV k)) (∃ t1 : Nat, (m 2 8 = (t1 : Int) ∧ SH t1 = .inr 5) ∧ (N G d mi_X5_addSign 0 [some (vr t1), some (vi x2)] [] m (RV fun m3 => N G (d + 1) mi_X2_readSum 97 [some (vr 2), some (vi x1), some (vi x4), some (vi x3), some (vi x4), some (vi s0)] [] m3 (RV k))))) (N G (d + 1) mi_X2_readSum 97 [some (vr 2), some (vi x1), some (vi x2), some (vi x3), some (vi x4), some (vi s0)] [] m (RV k))) :
    N G (d + 1) mi_X2_readSum 74 [some (vr 2), some (vi x1), some (vi x2), some (vi x3), some (vi x4), none] [vi s0] m (RV k) := by
  refine v_istore dX2_readSum_74 (by decide) ?_
  refine v_iload dX2_readSum_76 rfl ?_
  obtain ⟨⟨r1, r2⟩, hA, hB⟩ := hp
  refine v_if_ne (tgt := 97) dX2_readSum_78 (by decide) r1 (fun q => ?_) (fun q => ?_)
  · have hp := hB q
    exact hp
  · have hp := hA q
    refine v_iload_n dX2_readSum_81 rfl rfl ?_
    refine v_iconst dX2_readSum_82 ?_
    obtain ⟨⟨r1, r2⟩, hA, hB⟩ := hp
    refine v_icmp_eq (tgt := 94) dX2_readSum_83 (by decide) r1 r2 (fun q => ?_) (fun q => ?_)
    · have hp := hA q
      refine v_iload dX2_readSum_94 rfl ?_
      refine v_istore_n dX2_readSum_96 rfl (by decide) ?_
      exact hp
    · have hp := hB q
      refine v_aload_n dX2_readSum_86 rfl rfl ?_
      obtain ⟨t1, ⟨et1, ht1⟩, hp⟩ := hp
      refine n_getr (t := t1) dX2_readSum_87 fo_X2_40 sh_2 rfl (by rw [sr_2_8, et1]; rfl) ?_
      refine v_iload_n dX2_readSum_90 rfl rfl ?_
      refine n_callVV (As := [vi x2]) (st := []) dX2_readSum_91 ml_X2_141 mo_X5_addSign mv_X5_addSign ht1 rfl rfl rfl rfl (Nat.le_of_ble_eq_true rfl) (Nat.le_of_ble_eq_true rfl) (by decide) hp (fun m3 hp => ?_)
      refine v_iload dX2_readSum_94 rfl ?_
      refine v_istore_n dX2_readSum_96 rfl (by decide) ?_
      exact hp
theorem g_X2_readSum_97 {G : GG} {d : Nat} {m : MM} {k : MM → Prop} (x1 : Int) (x2 : Int) (x3 : Int) (x4 : Int) (x5 : Int)
    (hp : ∀ m1 : MM, m1 = upm m 2 6 ((m 2 6) + 1) → (N G d mi_X2_readOne 0 [some (vr 2), some (vi x1), none] [] m1 (RV fun m3 => bEQ x5 0 (N G (d + 1) mi_X2_readSum 9 [some (vr 2), some (vi x1), some (vi x2), some (vi (x3 + 1)), none, none] [] m3 (RV k)) (∃ t4 : Nat, (m3 2 8 = (t4 : Int) ∧ SH t4 = .inr 5) ∧ (N G d mi_X5_addSign 0 [some (vr t4), some (vi x4)] [] m3 (RV fun m6 => N G (d + 1) mi_X2_readSum 9 [some (vr 2), some (vi x1), some (vi x2), some (vi (x3 + 1)), none, none] [] m6 (RV k))))))) :
    N G (d + 1) mi_X2_readSum 97 [some (vr 2), some (vi x1), some (vi x2), some (vi x3), some (vi x4), some (vi x5)] [] m (RV k) := by
  refine v_aload_n dX2_readSum_97 rfl rfl ?_
  refine v_dupr dX2_readSum_98 ?_
  refine n_geti dX2_readSum_99 fo_X2_31 sh_2 rfl ?_
  refine v_iconst dX2_readSum_102 ?_
  refine v_iadd dX2_readSum_103 ?_
  refine w_puti dX2_readSum_104 fw_X2_31 sh_2 rfl (fun m1 em1 => ?_)
  have hp := hp m1 em1
  refine v_aload_n dX2_readSum_107 rfl rfl ?_
  refine v_iload_n dX2_readSum_108 rfl rfl ?_
  refine n_callVV (As := [vi x1]) (st := []) dX2_readSum_109 ml_X2_147 mo_X2_readOne mv_X2_readOne sh_2 rfl rfl rfl rfl (Nat.le_of_ble_eq_true rfl) (Nat.le_of_ble_eq_true rfl) (by decide) hp (fun m3 hp => ?_)
  refine v_iload dX2_readSum_112 rfl ?_
  obtain ⟨⟨r1, r2⟩, hA, hB⟩ := hp
  refine v_if_eq (tgt := 126) dX2_readSum_114 (by decide) r1 (fun q => ?_) (fun q => ?_)
  · have hp := hA q
    refine v_iinc dX2_readSum_126 rfl (by decide) ?_
    refine v_goto (tgt := 9) dX2_readSum_129 (by decide) ?_
    exact n_weak (wk_s (wk_s (wk_s (wk_s (wk_n (wk_n wk_nil)))))) hp
  · have hp := hB q
    refine v_aload_n dX2_readSum_117 rfl rfl ?_
    obtain ⟨t4, ⟨et4, ht4⟩, hp⟩ := hp
    refine n_getr (t := t4) dX2_readSum_118 fo_X2_40 sh_2 rfl (by rw [sr_2_8, et4]; rfl) ?_
    refine v_iload dX2_readSum_121 rfl ?_
    refine n_callVV (As := [vi x4]) (st := []) dX2_readSum_123 ml_X2_141 mo_X5_addSign mv_X5_addSign ht4 rfl rfl rfl rfl (Nat.le_of_ble_eq_true rfl) (Nat.le_of_ble_eq_true rfl) (by decide) hp (fun m6 hp => ?_)
    refine v_iinc dX2_readSum_126 rfl (by decide) ?_
    refine v_goto (tgt := 9) dX2_readSum_129 (by decide) ?_
    exact n_weak (wk_s (wk_s (wk_s (wk_s (wk_n (wk_n wk_nil)))))) hp
theorem g_X2_readSum_132 {G : GG} {d : Nat} {m : MM} {k : MM → Prop} (x2 : Int)
    (hp : bEQ x2 (-1) (k m) (∃ t1 : Nat, (m 2 8 = (t1 : Int) ∧ SH t1 = .inr 5) ∧ (N G d mi_X5_addSign 0 [some (vr t1), some (vi x2)] [] m (RV fun m3 => k m3)))) :
    N G (d + 1) mi_X2_readSum 132 [some (vr 2), none, some (vi x2), none, none, none] [] m (RV k) := by
  refine v_iload_n dX2_readSum_132 rfl rfl ?_
  refine v_iconst dX2_readSum_133 ?_
  obtain ⟨⟨r1, r2⟩, hA, hB⟩ := hp
  refine v_icmp_eq (tgt := 145) dX2_readSum_134 (by decide) r1 r2 (fun q => ?_) (fun q => ?_)
  · have hp := hA q
    exact n_retV dX2_readSum_145 rfl hp
  · have hp := hB q
    refine v_aload_n dX2_readSum_137 rfl rfl ?_
    obtain ⟨t1, ⟨et1, ht1⟩, hp⟩ := hp
    refine n_getr (t := t1) dX2_readSum_138 fo_X2_40 sh_2 rfl (by rw [sr_2_8, et1]; rfl) ?_
    refine v_iload_n dX2_readSum_141 rfl rfl ?_
    refine n_callVV (As := [vi x2]) (st := []) dX2_readSum_142 ml_X2_141 mo_X5_addSign mv_X5_addSign ht1 rfl rfl rfl rfl (Nat.le_of_ble_eq_true rfl) (Nat.le_of_ble_eq_true rfl) (by decide) hp (fun m3 hp => ?_)
    exact n_retV dX2_readSum_145 rfl hp
theorem g_X2_readOne_0 {G : GG} {d : Nat} {m : MM} {k : MM → Prop} (x1 : Int)
    (hp : ∃ j1 : Nat, ((m 2 6) = (j1 : Int) ∧ j1 < 301) ∧ (bEQ (m 3 j1) 35 (∃ t8 : Nat, (m 2 8 = (t8 : Int) ∧ SH t8 = .inr 5) ∧ (N G d mi_X2_takeNumber 0 [some (vr 2), some (vi 9999), none] [] m (RI fun z9 m10 => N G d mi_X5_addNumber 0 [some (vr t8), some (vi z9)] [] m10 (RV fun m12 => k m12)))) (bLT (m 3 j1) 13 (N G (d + 1) mi_X2_readOne 80 [some (vr 2), some (vi x1), some (vi (m 3 j1))] [] m (RV k)) (bLT 21 (m 3 j1) (N G (d + 1) mi_X2_readOne 80 [some (vr 2), some (vi x1), some (vi (m 3 j1))] [] m (RV k)) (bLE (m 3 j1) (m 2 7) (∃ t2 : Nat, (m 2 8 = (t2 : Int) ∧ SH t2 = .inr 5) ∧ (N G d mi_X5_addSign 0 [some (vr t2), some (vi (m 3 j1))] [] m (RV fun m4 => ∀ m5 : MM, m5 = upm m4 2 6 ((m4 2 6) + 1) → (k m5)))) (N G d mi_X2_fail 0 [some (vr 2), some (vi 5)] [] m (RV fun m7 => k m7))))))) :
    N G (d + 1) mi_X2_readOne 0 [some (vr 2), some (vi x1), none] [] m (RV k) := by
  refine v_aload_n dX2_readOne_0 rfl rfl ?_
  refine n_getr dX2_readOne_1 fo_X2_18 sh_2 rfl sr_2_2 ?_
  refine v_aload_n dX2_readOne_4 rfl rfl ?_
  refine n_geti dX2_readOne_5 fo_X2_31 sh_2 rfl ?_
  obtain ⟨j1, ⟨ej1, bj1⟩, hp⟩ := hp
  refine n_iald (j := j1) dX2_readOne_8 sh_3 ej1 bj1 ?_
  refine v_istore_n dX2_readOne_9 rfl (by decide) ?_
  refine v_iload_n dX2_readOne_10 rfl rfl ?_
  refine v_bipush dX2_readOne_11 rfl ?_
  obtain ⟨⟨r1, r2⟩, hA, hB⟩ := hp
  refine v_icmp_ne (tgt := 33) dX2_readOne_13 (by decide) r1 r2 (fun q => ?_) (fun q => ?_)
  · have hp := hB q
    refine v_iload_n dX2_readOne_33 rfl rfl ?_
    refine v_bipush dX2_readOne_34 rfl ?_
    obtain ⟨⟨r1, r2⟩, hA, hB⟩ := hp
    refine v_icmp_lt (tgt := 80) dX2_readOne_36 (by decide) r1 r2 (fun q => ?_) (fun q => ?_)
    · have hp := hA q
      exact hp
    · have hp := hB q
      refine v_iload_n dX2_readOne_39 rfl rfl ?_
      refine v_bipush dX2_readOne_40 rfl ?_
      obtain ⟨⟨r1, r2⟩, hA, hB⟩ := hp
      refine v_icmp_gt (tgt := 80) dX2_readOne_42 (by decide) r2 r1 (fun q => ?_) (fun q => ?_)
      · have hp := hA q
        exact hp
      · have hp := hB q
        refine v_iload_n dX2_readOne_45 rfl rfl ?_
        refine v_aload_n dX2_readOne_46 rfl rfl ?_
        refine n_geti dX2_readOne_47 fo_X2_34 sh_2 rfl ?_
        obtain ⟨⟨r1, r2⟩, hA, hB⟩ := hp
        refine v_icmp_le (tgt := 59) dX2_readOne_50 (by decide) r1 r2 (fun q => ?_) (fun q => ?_)
        · have hp := hA q
          refine v_aload_n dX2_readOne_59 rfl rfl ?_
          obtain ⟨t2, ⟨et2, ht2⟩, hp⟩ := hp
          refine n_getr (t := t2) dX2_readOne_60 fo_X2_40 sh_2 rfl (by rw [sr_2_8, et2]; rfl) ?_
          refine v_iload_n dX2_readOne_63 rfl rfl ?_
          refine n_callVV (As := [vi (m 3 j1)]) (st := []) dX2_readOne_64 ml_X2_141 mo_X5_addSign mv_X5_addSign ht2 rfl rfl rfl rfl (Nat.le_of_ble_eq_true rfl) (Nat.le_of_ble_eq_true rfl) (by decide) hp (fun m4 hp => ?_)
          refine v_aload_n dX2_readOne_67 rfl rfl ?_
          refine v_dupr dX2_readOne_68 ?_
          refine n_geti dX2_readOne_69 fo_X2_31 sh_2 rfl ?_
          refine v_iconst dX2_readOne_72 ?_
          refine v_iadd dX2_readOne_73 ?_
          refine w_puti dX2_readOne_74 fw_X2_31 sh_2 rfl (fun m5 em5 => ?_)
          have hp := hp m5 em5
          refine v_goto (tgt := 172) dX2_readOne_77 (by decide) ?_
          exact n_retV dX2_readOne_172 rfl hp
        · have hp := hB q
          refine v_aload_n dX2_readOne_53 rfl rfl ?_
          refine v_iconst dX2_readOne_54 ?_
          refine n_callVV (As := [vi 5]) (st := []) dX2_readOne_55 ml_X2_93 mo_X2_fail mv_X2_fail sh_2 rfl rfl rfl rfl (Nat.le_of_ble_eq_true rfl) (Nat.le_of_ble_eq_true rfl) (by decide) hp (fun m7 hp => ?_)
          exact n_retV dX2_readOne_58 rfl hp
  · have hp := hA q
    refine v_aload_n dX2_readOne_16 rfl rfl ?_
    obtain ⟨t8, ⟨et8, ht8⟩, hp⟩ := hp
    refine n_getr (t := t8) dX2_readOne_17 fo_X2_40 sh_2 rfl (by rw [sr_2_8, et8]; rfl) ?_
    refine v_aload_n dX2_readOne_20 rfl rfl ?_
    refine v_sipush dX2_readOne_21 rfl ?_
    refine n_callVI (As := [vi 9999]) (st := [vr t8]) dX2_readOne_24 ml_X2_120 mo_X2_takeNumber mv_X2_takeNumber sh_2 rfl rfl rfl rfl (Nat.le_of_ble_eq_true rfl) (Nat.le_of_ble_eq_true rfl) (by decide) hp (fun z9 m10 hp => ?_)
    refine n_callVV (As := [vi z9]) (st := []) dX2_readOne_27 ml_X2_150 mo_X5_addNumber mv_X5_addNumber ht8 rfl rfl rfl rfl (Nat.le_of_ble_eq_true rfl) (Nat.le_of_ble_eq_true rfl) (by decide) hp (fun m12 hp => ?_)
    refine v_goto (tgt := 172) dX2_readOne_30 (by decide) ?_
    exact n_retV dX2_readOne_172 rfl hp
theorem g_X2_readOne_80 {G : GG} {d : Nat} {m : MM} {k : MM → Prop} (x1 : Int) (x2 : Int)
    (hp : bEQ x2 32 (N G (d + 1) mi_X2_readOne 100 [some (vr 2), some (vi x1), some (vi x2)] [] m (RV k)) (bEQ x2 29 (N G (d + 1) mi_X2_readOne 100 [some (vr 2), some (vi x1), some (vi x2)] [] m (RV k)) (N G d mi_X2_fail 0 [some (vr 2), some (vi 1)] [] m (RV fun m2 => k m2)))) :
    N G (d + 1) mi_X2_readOne 80 [some (vr 2), some (vi x1), some (vi x2)] [] m (RV k) := by
  refine v_iload_n dX2_readOne_80 rfl rfl ?_
  refine v_bipush dX2_readOne_81 rfl ?_
  obtain ⟨⟨r1, r2⟩, hA, hB⟩ := hp
  refine v_icmp_eq (tgt := 100) dX2_readOne_83 (by decide) r1 r2 (fun q => ?_) (fun q => ?_)
  · have hp := hA q
    exact hp
  · have hp := hB q
    refine v_iload_n dX2_readOne_86 rfl rfl ?_
    refine v_bipush dX2_readOne_87 rfl ?_
    obtain ⟨⟨r1, r2⟩, hA, hB⟩ := hp
    refine v_icmp_eq (tgt := 100) dX2_readOne_89 (by decide) r1 r2 (fun q => ?_) (fun q => ?_)
    · have hp := hA q
      exact hp
    · have hp := hB q
      refine v_aload_n dX2_readOne_92 rfl rfl ?_
      refine v_iconst dX2_readOne_93 ?_
      refine n_callVV (As := [vi 1]) (st := []) dX2_readOne_94 ml_X2_93 mo_X2_fail mv_X2_fail sh_2 rfl rfl rfl rfl (Nat.le_of_ble_eq_true rfl) (Nat.le_of_ble_eq_true rfl) (by decide) hp (fun m2 hp => ?_)
      refine v_goto (tgt := 172) dX2_readOne_97 (by decide) ?_
      exact n_retV dX2_readOne_172 rfl hp
theorem g_X2_readOne_100 {G : GG} {d : Nat} {m : MM} {k : MM → Prop} (x1 : Int) (x2 : Int)
    (hp : bLT x1 8 (bEQ x2 32 (∀ m7 : MM, m7 = upm m 2 6 ((m 2 6) + 1) → (N G d mi_X2_readSum 0 [some (vr 2), some (vi (x1 + 1)), none, none, none, none] [] m7 (RV fun m9 => N G d mi_X2_take 0 [some (vr 2), some (vi 33)] [] m9 (RV fun m11 => k m11)))) (∀ m1 : MM, m1 = upm m 2 6 ((m 2 6) + 1) → (N G d mi_X2_readOne 0 [some (vr 2), some (vi (x1 + 1)), none] [] m1 (RV fun m3 => ∃ t4 : Nat, (m3 2 8 = (t4 : Int) ∧ SH t4 = .inr 5) ∧ (N G d mi_X5_addSign 0 [some (vr t4), some (vi 38)] [] m3 (RV fun m6 => k m6)))))) (N G d mi_X2_fail 0 [some (vr 2), some (vi 3)] [] m (RV fun m13 => k m13))) :
    N G (d + 1) mi_X2_readOne 100 [some (vr 2), some (vi x1), some (vi x2)] [] m (RV k) := by
  refine v_iload_n dX2_readOne_100 rfl rfl ?_
  refine v_bipush dX2_readOne_101 rfl ?_
  obtain ⟨⟨r1, r2⟩, hA, hB⟩ := hp
  refine v_icmp_lt (tgt := 114) dX2_readOne_103 (by decide) r1 r2 (fun q => ?_) (fun q => ?_)
  · have hp := hA q
    refine v_iload_n dX2_readOne_114 rfl rfl ?_
    refine v_bipush dX2_readOne_115 rfl ?_
    obtain ⟨⟨r1, r2⟩, hA, hB⟩ := hp
    refine v_icmp_ne (tgt := 146) dX2_readOne_117 (by decide) r1 r2 (fun q => ?_) (fun q => ?_)
    · have hp := hB q
      refine v_aload_n dX2_readOne_146 rfl rfl ?_
      refine v_dupr dX2_readOne_147 ?_
      refine n_geti dX2_readOne_148 fo_X2_31 sh_2 rfl ?_
      refine v_iconst dX2_readOne_151 ?_
      refine v_iadd dX2_readOne_152 ?_
      refine w_puti dX2_readOne_153 fw_X2_31 sh_2 rfl (fun m1 em1 => ?_)
      have hp := hp m1 em1
      refine v_aload_n dX2_readOne_156 rfl rfl ?_
      refine v_iload_n dX2_readOne_157 rfl rfl ?_
      refine v_iconst dX2_readOne_158 ?_
      refine v_iadd dX2_readOne_159 ?_
      refine n_callVV (As := [vi (x1 + 1)]) (st := []) dX2_readOne_160 ml_X2_147 mo_X2_readOne mv_X2_readOne sh_2 rfl rfl rfl rfl (Nat.le_of_ble_eq_true rfl) (Nat.le_of_ble_eq_true rfl) (by decide) hp (fun m3 hp => ?_)
      refine v_aload_n dX2_readOne_163 rfl rfl ?_
      obtain ⟨t4, ⟨et4, ht4⟩, hp⟩ := hp
      refine n_getr (t := t4) dX2_readOne_164 fo_X2_40 sh_2 rfl (by rw [sr_2_8, et4]; rfl) ?_
      refine v_bipush dX2_readOne_167 rfl ?_
      refine n_callVV (As := [vi 38]) (st := []) dX2_readOne_169 ml_X2_141 mo_X5_addSign mv_X5_addSign ht4 rfl rfl rfl rfl (Nat.le_of_ble_eq_true rfl) (Nat.le_of_ble_eq_true rfl) (by decide) hp (fun m6 hp => ?_)
      exact n_retV dX2_readOne_172 rfl hp
    · have hp := hA q
      refine v_aload_n dX2_readOne_120 rfl rfl ?_
      refine v_dupr dX2_readOne_121 ?_
      refine n_geti dX2_readOne_122 fo_X2_31 sh_2 rfl ?_
      refine v_iconst dX2_readOne_125 ?_
      refine v_iadd dX2_readOne_126 ?_
      refine w_puti dX2_readOne_127 fw_X2_31 sh_2 rfl (fun m7 em7 => ?_)
      have hp := hp m7 em7
      refine v_aload_n dX2_readOne_130 rfl rfl ?_
      refine v_iload_n dX2_readOne_131 rfl rfl ?_
      refine v_iconst dX2_readOne_132 ?_
      refine v_iadd dX2_readOne_133 ?_
      refine n_callVV (As := [vi (x1 + 1)]) (st := []) dX2_readOne_134 ml_X2_132 mo_X2_readSum mv_X2_readSum sh_2 rfl rfl rfl rfl (Nat.le_of_ble_eq_true rfl) (Nat.le_of_ble_eq_true rfl) (by decide) hp (fun m9 hp => ?_)
      refine v_aload_n dX2_readOne_137 rfl rfl ?_
      refine v_bipush dX2_readOne_138 rfl ?_
      refine n_callVV (As := [vi 33]) (st := []) dX2_readOne_140 ml_X2_126 mo_X2_take mv_X2_take sh_2 rfl rfl rfl rfl (Nat.le_of_ble_eq_true rfl) (Nat.le_of_ble_eq_true rfl) (by decide) hp (fun m11 hp => ?_)
      refine v_goto (tgt := 172) dX2_readOne_143 (by decide) ?_
      exact n_retV dX2_readOne_172 rfl hp
  · have hp := hB q
    refine v_aload_n dX2_readOne_106 rfl rfl ?_
    refine v_iconst dX2_readOne_107 ?_
    refine n_callVV (As := [vi 3]) (st := []) dX2_readOne_108 ml_X2_93 mo_X2_fail mv_X2_fail sh_2 rfl rfl rfl rfl (Nat.le_of_ble_eq_true rfl) (Nat.le_of_ble_eq_true rfl) (by decide) hp (fun m13 hp => ?_)
    refine v_goto (tgt := 172) dX2_readOne_111 (by decide) ?_
    exact n_retV dX2_readOne_172 rfl hp
