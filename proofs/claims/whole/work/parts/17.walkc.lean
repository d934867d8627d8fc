theorem g_X7_thing_0 {G : GG} {d : Nat} {m : MM} {k : Int → MM → Prop} (x1 : Int)
    (hp : bLT x1 0 (k (-1) m) (bLE 4 x1 (k (-1) m) (bLT (m 12 0) 8 (∃ j2 : Nat, ((m 12 0) = (j2 : Int) ∧ j2 < 8) ∧ (∀ m1 : MM, m1 = upm m 13 j2 x1 → (∀ m3 : MM, m3 = upm m1 12 0 ((m1 12 0) + 1) → (k ((m3 12 0) - 1) m3)))) (k (-1) m)))) :
    N G d mi_X7_thing 0 [some (vr 0), some (vi x1)] [] m (RI k) := by
  refine v_iload_n dX7_thing_0 rfl rfl ?_
  obtain ⟨⟨r1, r2⟩, hA, hB⟩ := hp
  refine v_if_lt (tgt := 21) dX7_thing_1 (by decide) r1 (fun q => ?_) (fun q => ?_)
  · have hp := hA q
    refine v_iconst dX7_thing_21 ?_
    exact n_retI dX7_thing_22 rfl hp
  · have hp := hB q
    refine v_iload_n dX7_thing_4 rfl rfl ?_
    refine v_iconst dX7_thing_5 ?_
    obtain ⟨⟨r1, r2⟩, hA, hB⟩ := hp
    refine v_icmp_ge (tgt := 21) dX7_thing_6 (by decide) r2 r1 (fun q => ?_) (fun q => ?_)
    · have hp := hA q
      refine v_iconst dX7_thing_21 ?_
      exact n_retI dX7_thing_22 rfl hp
    · have hp := hB q
      refine v_aload_n dX7_thing_9 rfl rfl ?_
      refine n_getr dX7_thing_10 fo_X7_33 sh_0 rfl sr_0_5 ?_
      refine n_geti dX7_thing_13 fo_X7_81 sh_12 rfl ?_
      refine v_bipush dX7_thing_16 rfl ?_
      obtain ⟨⟨r1, r2⟩, hA, hB⟩ := hp
      refine v_icmp_lt (tgt := 23) dX7_thing_18 (by decide) r1 r2 (fun q => ?_) (fun q => ?_)
      · have hp := hA q
        refine v_aload_n dX7_thing_23 rfl rfl ?_
        refine n_getr dX7_thing_24 fo_X7_33 sh_0 rfl sr_0_5 ?_
        refine n_getr dX7_thing_27 fo_X7_84 sh_12 rfl sr_12_1 ?_
        refine v_aload_n dX7_thing_30 rfl rfl ?_
        refine n_getr dX7_thing_31 fo_X7_33 sh_0 rfl sr_0_5 ?_
        refine n_geti dX7_thing_34 fo_X7_81 sh_12 rfl ?_
        refine v_iload_n dX7_thing_37 rfl rfl ?_
        obtain ⟨j2, ⟨ej2, bj2⟩, hp⟩ := hp
        refine w_iast (j := j2) dX7_thing_38 sh_13 ej2 bj2 (fun m1 em1 => ?_)
        have hp := hp m1 em1
        refine v_aload_n dX7_thing_39 rfl rfl ?_
        refine n_getr dX7_thing_40 fo_X7_33 sh_0 rfl sr_0_5 ?_
        refine v_dupr dX7_thing_43 ?_
        refine n_geti dX7_thing_44 fo_X7_81 sh_12 rfl ?_
        refine v_iconst dX7_thing_47 ?_
        refine v_iadd dX7_thing_48 ?_
        refine w_puti dX7_thing_49 fw_X7_81 sh_12 rfl (fun m3 em3 => ?_)
        have hp := hp m3 em3
        refine v_aload_n dX7_thing_52 rfl rfl ?_
        refine n_getr dX7_thing_53 fo_X7_33 sh_0 rfl sr_0_5 ?_
        refine n_geti dX7_thing_56 fo_X7_81 sh_12 rfl ?_
        refine v_iconst dX7_thing_59 ?_
        refine v_isub dX7_thing_60 ?_
        exact n_retI dX7_thing_61 rfl hp
      · have hp := hB q
        refine v_iconst dX7_thing_21 ?_
        exact n_retI dX7_thing_22 rfl hp
theorem g_X7_eye_0 {G : GG} {d : Nat} {m : MM} {k : Int → MM → Prop} (x1 : Int) (x2 : Int)
    (hp : bLT x1 0 (k (-1) m) (bLE 4 x1 (k (-1) m) (bLT (m 12 2) 8 (∃ j2 : Nat, ((m 12 2) = (j2 : Int) ∧ j2 < 8) ∧ (∀ m1 : MM, m1 = upm m 14 j2 x1 → (bEQ x2 0 (N G d mi_X7_eye 62 [some (vr 0), none, none] [vi 0, vi (m1 12 2), vr 15] m1 (RI k)) (N G d mi_X7_eye 62 [some (vr 0), none, none] [vi 1, vi (m1 12 2), vr 15] m1 (RI k))))) (k (-1) m)))) :
    N G d mi_X7_eye 0 [some (vr 0), some (vi x1), some (vi x2)] [] m (RI k) := by
  refine v_iload_n dX7_eye_0 rfl rfl ?_
  obtain ⟨⟨r1, r2⟩, hA, hB⟩ := hp
  refine v_if_lt (tgt := 21) dX7_eye_1 (by decide) r1 (fun q => ?_) (fun q => ?_)
  · have hp := hA q
    refine v_iconst dX7_eye_21 ?_
    exact n_retI dX7_eye_22 rfl hp
  · have hp := hB q
    refine v_iload_n dX7_eye_4 rfl rfl ?_
    refine v_iconst dX7_eye_5 ?_
    obtain ⟨⟨r1, r2⟩, hA, hB⟩ := hp
    refine v_icmp_ge (tgt := 21) dX7_eye_6 (by decide) r2 r1 (fun q => ?_) (fun q => ?_)
    · have hp := hA q
      refine v_iconst dX7_eye_21 ?_
      exact n_retI dX7_eye_22 rfl hp
    · have hp := hB q
      refine v_aload_n dX7_eye_9 rfl rfl ?_
      refine n_getr dX7_eye_10 fo_X7_33 sh_0 rfl sr_0_5 ?_
      refine n_geti dX7_eye_13 fo_X7_87 sh_12 rfl ?_
      refine v_bipush dX7_eye_16 rfl ?_
      obtain ⟨⟨r1, r2⟩, hA, hB⟩ := hp
      refine v_icmp_lt (tgt := 23) dX7_eye_18 (by decide) r1 r2 (fun q => ?_) (fun q => ?_)
      · have hp := hA q
        refine v_aload_n dX7_eye_23 rfl rfl ?_
        refine n_getr dX7_eye_24 fo_X7_33 sh_0 rfl sr_0_5 ?_
        refine n_getr dX7_eye_27 fo_X7_90 sh_12 rfl sr_12_3 ?_
        refine v_aload_n dX7_eye_30 rfl rfl ?_
        refine n_getr dX7_eye_31 fo_X7_33 sh_0 rfl sr_0_5 ?_
        refine n_geti dX7_eye_34 fo_X7_87 sh_12 rfl ?_
        refine v_iload_n dX7_eye_37 rfl rfl ?_
        obtain ⟨j2, ⟨ej2, bj2⟩, hp⟩ := hp
        refine w_iast (j := j2) dX7_eye_38 sh_14 ej2 bj2 (fun m1 em1 => ?_)
        have hp := hp m1 em1
        refine v_aload_n dX7_eye_39 rfl rfl ?_
        refine n_getr dX7_eye_40 fo_X7_33 sh_0 rfl sr_0_5 ?_
        refine n_getr dX7_eye_43 fo_X7_93 sh_12 rfl sr_12_4 ?_
        refine v_aload_n dX7_eye_46 rfl rfl ?_
        refine n_getr dX7_eye_47 fo_X7_33 sh_0 rfl sr_0_5 ?_
        refine n_geti dX7_eye_50 fo_X7_87 sh_12 rfl ?_
        refine v_iload_n dX7_eye_53 rfl rfl ?_
        obtain ⟨⟨r1, r2⟩, hA, hB⟩ := hp
        refine v_if_eq (tgt := 61) dX7_eye_54 (by decide) r1 (fun q => ?_) (fun q => ?_)
        · have hp := hA q
          refine v_iconst dX7_eye_61 ?_
          exact n_weak (wk_s (wk_n (wk_n wk_nil))) hp
        · have hp := hB q
          refine v_iconst dX7_eye_57 ?_
          refine v_goto (tgt := 62) dX7_eye_58 (by decide) ?_
          exact n_weak (wk_s (wk_n (wk_n wk_nil))) hp
      · have hp := hB q
        refine v_iconst dX7_eye_21 ?_
        exact n_retI dX7_eye_22 rfl hp
theorem g_X7_eye_62 {G : GG} {d : Nat} {m : MM} {k : Int → MM → Prop} (s0 : Int) (s1 : Int)
    (hp : ∃ j2 : Nat, (s1 = (j2 : Int) ∧ j2 < 8) ∧ (∀ m1 : MM, m1 = upm m 15 j2 s0 → (∀ m3 : MM, m3 = upm m1 12 2 ((m1 12 2) + 1) → (k ((m3 12 2) - 1) m3)))) :
    N G d mi_X7_eye 62 [some (vr 0), none, none] [vi s0, vi s1, vr 15] m (RI k) := by
  obtain ⟨j2, ⟨ej2, bj2⟩, hp⟩ := hp
  refine w_iast (j := j2) dX7_eye_62 sh_15 ej2 bj2 (fun m1 em1 => ?_)
  have hp := hp m1 em1
  refine v_aload_n dX7_eye_63 rfl rfl ?_
  refine n_getr dX7_eye_64 fo_X7_33 sh_0 rfl sr_0_5 ?_
  refine v_dupr dX7_eye_67 ?_
  refine n_geti dX7_eye_68 fo_X7_87 sh_12 rfl ?_
  refine v_iconst dX7_eye_71 ?_
  refine v_iadd dX7_eye_72 ?_
  refine w_puti dX7_eye_73 fw_X7_87 sh_12 rfl (fun m3 em3 => ?_)
  have hp := hp m3 em3
  refine v_aload_n dX7_eye_76 rfl rfl ?_
  refine n_getr dX7_eye_77 fo_X7_33 sh_0 rfl sr_0_5 ?_
  refine n_geti dX7_eye_80 fo_X7_87 sh_12 rfl ?_
  refine v_iconst dX7_eye_83 ?_
  refine v_isub dX7_eye_84 ?_
  exact n_retI dX7_eye_85 rfl hp
theorem g_X7_feed_0 {G : GG} {d : Nat} {m : MM} {k : Int → MM → Prop} (x1 : Int) (x2 : Int) (x3 : Int) (x4 : Int) (x5 : Int)
    (hp : bLE ((m 0 2) + 20) 300 (N G d mi_X7_addFourBytes 0 [some (vr 0), some (vi x1), none] [] m (RV fun m2 => N G d mi_X7_addFourBytes 0 [some (vr 0), some (vi x2), none] [] m2 (RV fun m4 => N G d mi_X7_addFourBytes 0 [some (vr 0), some (vi x3), none] [] m4 (RV fun m6 => N G d mi_X7_addFourBytes 0 [some (vr 0), some (vi x4), none] [] m6 (RV fun m8 => N G d mi_X7_addFourBytes 0 [some (vr 0), some (vi x5), none] [] m8 (RV fun m10 => k (m10 0 2) m10)))))) (k (-1) m)) :
    N G (d + 1) mi_X7_feed 0 [some (vr 0), some (vi x1), some (vi x2), some (vi x3), some (vi x4), some (vi x5)] [] m (RI k) := by
  refine v_aload_n dX7_feed_0 rfl rfl ?_
  refine n_geti dX7_feed_1 fo_X7_13 sh_0 rfl ?_
  refine v_bipush dX7_feed_4 rfl ?_
  refine v_iadd dX7_feed_6 ?_
  refine v_sipush dX7_feed_7 rfl ?_
  obtain ⟨⟨r1, r2⟩, hA, hB⟩ := hp
  refine v_icmp_le (tgt := 15) dX7_feed_10 (by decide) r1 r2 (fun q => ?_) (fun q => ?_)
  · have hp := hA q
    refine v_aload_n dX7_feed_15 rfl rfl ?_
    refine v_iload_n dX7_feed_16 rfl rfl ?_
    refine n_callVV (As := [vi x1]) (st := []) dX7_feed_17 ml_X7_96 mo_X7_addFourBytes mv_X7_addFourBytes sh_0 rfl rfl rfl rfl (Nat.le_of_ble_eq_true rfl) (Nat.le_of_ble_eq_true rfl) (by decide) hp (fun m2 hp => ?_)
    refine v_aload_n dX7_feed_20 rfl rfl ?_
    refine v_iload_n dX7_feed_21 rfl rfl ?_
    refine n_callVV (As := [vi x2]) (st := []) dX7_feed_22 ml_X7_96 mo_X7_addFourBytes mv_X7_addFourBytes sh_0 rfl rfl rfl rfl (Nat.le_of_ble_eq_true rfl) (Nat.le_of_ble_eq_true rfl) (by decide) hp (fun m4 hp => ?_)
    refine v_aload_n dX7_feed_25 rfl rfl ?_
    refine v_iload_n dX7_feed_26 rfl rfl ?_
    refine n_callVV (As := [vi x3]) (st := []) dX7_feed_27 ml_X7_96 mo_X7_addFourBytes mv_X7_addFourBytes sh_0 rfl rfl rfl rfl (Nat.le_of_ble_eq_true rfl) (Nat.le_of_ble_eq_true rfl) (by decide) hp (fun m6 hp => ?_)
    refine v_aload_n dX7_feed_30 rfl rfl ?_
    refine v_iload dX7_feed_31 rfl ?_
    refine n_callVV (As := [vi x4]) (st := []) dX7_feed_33 ml_X7_96 mo_X7_addFourBytes mv_X7_addFourBytes sh_0 rfl rfl rfl rfl (Nat.le_of_ble_eq_true rfl) (Nat.le_of_ble_eq_true rfl) (by decide) hp (fun m8 hp => ?_)
    refine v_aload_n dX7_feed_36 rfl rfl ?_
    refine v_iload dX7_feed_37 rfl ?_
    refine n_callVV (As := [vi x5]) (st := []) dX7_feed_39 ml_X7_96 mo_X7_addFourBytes mv_X7_addFourBytes sh_0 rfl rfl rfl rfl (Nat.le_of_ble_eq_true rfl) (Nat.le_of_ble_eq_true rfl) (by decide) hp (fun m10 hp => ?_)
    refine v_aload_n dX7_feed_42 rfl rfl ?_
    refine n_geti dX7_feed_43 fo_X7_13 sh_0 rfl ?_
    exact n_retI dX7_feed_46 rfl hp
  · have hp := hB q
    refine v_iconst dX7_feed_13 ?_
    exact n_retI dX7_feed_14 rfl hp
theorem g_X7_end_0 {G : GG} {d : Nat} {m : MM} {k : Int → MM → Prop} (x1 : Int)
    (hp : bLT x1 0 (k (-1) m) (bLE x1 (m 0 2) (∀ m1 : MM, m1 = upm m 0 2 x1 → (k x1 m1)) (k (-1) m))) :
    N G d mi_X7_end 0 [some (vr 0), some (vi x1)] [] m (RI k) := by
  refine v_iload_n dX7_end_0 rfl rfl ?_
  obtain ⟨⟨r1, r2⟩, hA, hB⟩ := hp
  refine v_if_lt (tgt := 12) dX7_end_1 (by decide) r1 (fun q => ?_) (fun q => ?_)
  · have hp := hA q
    refine v_iconst dX7_end_12 ?_
    exact n_retI dX7_end_13 rfl hp
  · have hp := hB q
    refine v_iload_n dX7_end_4 rfl rfl ?_
    refine v_aload_n dX7_end_5 rfl rfl ?_
    refine n_geti dX7_end_6 fo_X7_13 sh_0 rfl ?_
    obtain ⟨⟨r1, r2⟩, hA, hB⟩ := hp
    refine v_icmp_le (tgt := 14) dX7_end_9 (by decide) r1 r2 (fun q => ?_) (fun q => ?_)
    · have hp := hA q
      refine v_aload_n dX7_end_14 rfl rfl ?_
      refine v_iload_n dX7_end_15 rfl rfl ?_
      refine w_puti dX7_end_16 fw_X7_13 sh_0 rfl (fun m1 em1 => ?_)
      have hp := hp m1 em1
      refine v_iload_n dX7_end_19 rfl rfl ?_
      exact n_retI dX7_end_20 rfl hp
    · have hp := hB q
      refine v_iconst dX7_end_12 ?_
      exact n_retI dX7_end_13 rfl hp
theorem g_X7_text_0 {G : GG} {d : Nat} {m : MM} {k : Int → MM → Prop} 
    (hp : bLT (m 12 5) 4 (∃ j1 : Nat, ((m 12 5) = (j1 : Int) ∧ j1 < 4) ∧ (N G d mi_X2_begin 0 [some (vr 2), some (vr 1), some (vi (m 0 2)), some (vr (284 + 5 * j1))] [] m (RV fun m3 => N G (d + 1) mi_X7_text 42 [some (vr 0), some (vi 0)] [] m3 (RI k)))) (k (-1) m)) :
    N G (d + 1) mi_X7_text 0 [some (vr 0), none] [] m (RI k) := by
  refine v_aload_n dX7_text_0 rfl rfl ?_
  refine n_getr dX7_text_1 fo_X7_33 sh_0 rfl sr_0_5 ?_
  refine n_geti dX7_text_4 fo_X7_100 sh_12 rfl ?_
  refine v_iconst dX7_text_7 ?_
  obtain ⟨⟨r1, r2⟩, hA, hB⟩ := hp
  refine v_icmp_lt (tgt := 13) dX7_text_8 (by decide) r1 r2 (fun q => ?_) (fun q => ?_)
  · have hp := hA q
    refine v_aload_n dX7_text_13 rfl rfl ?_
    refine n_getr dX7_text_14 fo_X7_20 sh_0 rfl sr_0_3 ?_
    refine v_aload_n dX7_text_17 rfl rfl ?_
    refine n_getr dX7_text_18 fo_X7_9 sh_0 rfl sr_0_1 ?_
    refine v_aload_n dX7_text_21 rfl rfl ?_
    refine n_geti dX7_text_22 fo_X7_13 sh_0 rfl ?_
    refine v_aload_n dX7_text_25 rfl rfl ?_
    refine n_getr dX7_text_26 fo_X7_26 sh_0 rfl sr_0_4 ?_
    refine v_aload_n dX7_text_29 rfl rfl ?_
    refine n_getr dX7_text_30 fo_X7_33 sh_0 rfl sr_0_5 ?_
    refine n_geti dX7_text_33 fo_X7_100 sh_12 rfl ?_
    obtain ⟨j1, ⟨ej1, bj1⟩, hp⟩ := hp
    refine n_aald5 (j := j1) dX7_text_36 sh_11 ej1 bj1 (sr_scr j1) ?_
    refine n_callVV (As := [vr 1, vi (m 0 2), vr (284 + 5 * j1)]) (st := []) dX7_text_37 ml_X7_103 mo_X2_begin mv_X2_begin sh_2 rfl rfl rfl rfl (Nat.le_of_ble_eq_true rfl) (Nat.le_of_ble_eq_true rfl) (by decide) hp (fun m3 hp => ?_)
    refine v_iconst dX7_text_40 ?_
    refine v_istore_n dX7_text_41 rfl (by decide) ?_
    exact hp
  · have hp := hB q
    refine v_iconst dX7_text_11 ?_
    exact n_retI dX7_text_12 rfl hp
theorem g_X7_text_42 {G : GG} {d : Nat} {m : MM} {k : Int → MM → Prop} (x1 : Int)
    (hp : bLE 300 x1 (N G (d + 1) mi_X7_text 72 [some (vr 0), none] [] m (RI k)) (N G d mi_X2_hasMore 0 [some (vr 2)] [] m (RI fun z1 m2 => bEQ z1 0 (N G (d + 1) mi_X7_text 72 [some (vr 0), none] [] m2 (RI k)) (N G d mi_X2_readClause 0 [some (vr 2), none, none] [] m2 (RV fun m4 => N G (d + 1) mi_X7_text 42 [some (vr 0), some (vi (x1 + 1))] [] m4 (RI k)))))) :
    N G (d + 1) mi_X7_text 42 [some (vr 0), some (vi x1)] [] m (RI k) := by
  refine v_iload_n dX7_text_42 rfl rfl ?_
  refine v_sipush dX7_text_43 rfl ?_
  obtain ⟨⟨r1, r2⟩, hA, hB⟩ := hp
  refine v_icmp_ge (tgt := 72) dX7_text_46 (by decide) r2 r1 (fun q => ?_) (fun q => ?_)
  · have hp := hA q
    exact n_weak (wk_s (wk_n wk_nil)) hp
  · have hp := hB q
    refine v_aload_n dX7_text_49 rfl rfl ?_
    refine n_getr dX7_text_50 fo_X7_20 sh_0 rfl sr_0_3 ?_
    refine n_callVI (As := []) (st := []) dX7_text_53 ml_X7_107 mo_X2_hasMore mv_X2_hasMore sh_2 rfl rfl rfl rfl (Nat.le_of_ble_eq_true rfl) (Nat.le_of_ble_eq_true rfl) (by decide) hp (fun z1 m2 hp => ?_)
    obtain ⟨⟨r1, r2⟩, hA, hB⟩ := hp
    refine v_if_eq (tgt := 72) dX7_text_56 (by decide) r1 (fun q => ?_) (fun q => ?_)
    · have hp := hA q
      exact n_weak (wk_s (wk_n wk_nil)) hp
    · have hp := hB q
      refine v_aload_n dX7_text_59 rfl rfl ?_
      refine n_getr dX7_text_60 fo_X7_20 sh_0 rfl sr_0_3 ?_
      refine n_callVV (As := []) (st := []) dX7_text_63 ml_X7_111 mo_X2_readClause mv_X2_readClause sh_2 rfl rfl rfl rfl (Nat.le_of_ble_eq_true rfl) (Nat.le_of_ble_eq_true rfl) (by decide) hp (fun m4 hp => ?_)
      refine v_iinc dX7_text_66 rfl (by decide) ?_
      refine v_goto (tgt := 42) dX7_text_69 (by decide) ?_
      exact hp
theorem g_X7_text_72 {G : GG} {d : Nat} {m : MM} {k : Int → MM → Prop} 
    (hp : ∀ m1 : MM, m1 = upm m 0 2 0 → (bEQ (m1 2 0) 0 (∀ m2 : MM, m2 = upm m1 12 5 ((m1 12 5) + 1) → (k ((m2 12 5) - 1) m2)) (k (-1) m1))) :
    N G (d + 1) mi_X7_text 72 [some (vr 0), none] [] m (RI k) := by
  refine v_aload_n dX7_text_72 rfl rfl ?_
  refine v_iconst dX7_text_73 ?_
  refine w_puti dX7_text_74 fw_X7_13 sh_0 rfl (fun m1 em1 => ?_)
  have hp := hp m1 em1
  refine v_aload_n dX7_text_77 rfl rfl ?_
  refine n_getr dX7_text_78 fo_X7_20 sh_0 rfl sr_0_3 ?_
  refine n_geti dX7_text_81 fo_X7_114 sh_2 rfl ?_
  obtain ⟨⟨r1, r2⟩, hA, hB⟩ := hp
  refine v_if_eq (tgt := 89) dX7_text_84 (by decide) r1 (fun q => ?_) (fun q => ?_)
  · have hp := hA q
    refine v_aload_n dX7_text_89 rfl rfl ?_
    refine n_getr dX7_text_90 fo_X7_33 sh_0 rfl sr_0_5 ?_
    refine v_dupr dX7_text_93 ?_
    refine n_geti dX7_text_94 fo_X7_100 sh_12 rfl ?_
    refine v_iconst dX7_text_97 ?_
    refine v_iadd dX7_text_98 ?_
    refine w_puti dX7_text_99 fw_X7_100 sh_12 rfl (fun m2 em2 => ?_)
    have hp := hp m2 em2
    refine v_aload_n dX7_text_102 rfl rfl ?_
    refine n_getr dX7_text_103 fo_X7_33 sh_0 rfl sr_0_5 ?_
    refine n_geti dX7_text_106 fo_X7_100 sh_12 rfl ?_
    refine v_iconst dX7_text_109 ?_
    refine v_isub dX7_text_110 ?_
    exact n_retI dX7_text_111 rfl hp
  · have hp := hB q
    refine v_iconst dX7_text_87 ?_
    exact n_retI dX7_text_88 rfl hp
theorem g_X7_fault_0 {G : GG} {d : Nat} {m : MM} {k : Int → MM → Prop} (x1 : Int)
    (hp : bEQ x1 0 (k (m 2 0) m) (bEQ x1 1 (k (m 2 1) m) (k (-1) m))) :
    N G d mi_X7_fault 0 [some (vr 0), some (vi x1)] [] m (RI k) := by
  refine v_iload_n dX7_fault_0 rfl rfl ?_
  obtain ⟨⟨r1, r2⟩, hA, hB⟩ := hp
  refine v_if_ne (tgt := 12) dX7_fault_1 (by decide) r1 (fun q => ?_) (fun q => ?_)
  · have hp := hB q
    refine v_iload_n dX7_fault_12 rfl rfl ?_
    refine v_iconst dX7_fault_13 ?_
    obtain ⟨⟨r1, r2⟩, hA, hB⟩ := hp
    refine v_icmp_ne (tgt := 27) dX7_fault_14 (by decide) r1 r2 (fun q => ?_) (fun q => ?_)
    · have hp := hB q
      refine v_iconst dX7_fault_27 ?_
      exact n_retI dX7_fault_28 rfl hp
    · have hp := hA q
      refine v_aload_n dX7_fault_17 rfl rfl ?_
      refine n_getr dX7_fault_18 fo_X7_20 sh_0 rfl sr_0_3 ?_
      refine n_geti dX7_fault_21 fo_X7_117 sh_2 rfl ?_
      refine v_goto (tgt := 28) dX7_fault_24 (by decide) ?_
      exact n_retI dX7_fault_28 rfl hp
  · have hp := hA q
    refine v_aload_n dX7_fault_4 rfl rfl ?_
    refine n_getr dX7_fault_5 fo_X7_20 sh_0 rfl sr_0_3 ?_
    refine n_geti dX7_fault_8 fo_X7_114 sh_2 rfl ?_
    exact n_retI dX7_fault_11 rfl hp
theorem g_X7_by_0 {G : GG} {d : Nat} {m : MM} {k : Int → MM → Prop} (x1 : Int)
    (hp : bEQ x1 (-1) (∀ m1 : MM, m1 = upm m 12 6 x1 → (k 1 m1)) (N G d mi_X7_isText 0 [some (vr 0), some (vi x1)] [] m (RI fun z2 m3 => bEQ z2 0 (k 0 m3) (∀ m4 : MM, m4 = upm m3 12 6 x1 → (k 1 m4))))) :
    N G (d + 1) mi_X7_by 0 [some (vr 0), some (vi x1)] [] m (RI k) := by
  refine v_iload_n dX7_by_0 rfl rfl ?_
  refine v_iconst dX7_by_1 ?_
  obtain ⟨⟨r1, r2⟩, hA, hB⟩ := hp
  refine v_icmp_eq (tgt := 15) dX7_by_2 (by decide) r1 r2 (fun q => ?_) (fun q => ?_)
  · have hp := hA q
    refine v_aload_n dX7_by_15 rfl rfl ?_
    refine n_getr dX7_by_16 fo_X7_33 sh_0 rfl sr_0_5 ?_
    refine v_iload_n dX7_by_19 rfl rfl ?_
    refine w_puti dX7_by_20 fw_X7_124 sh_12 rfl (fun m1 em1 => ?_)
    have hp := hp m1 em1
    refine v_iconst dX7_by_23 ?_
    exact n_retZ dX7_by_24 rfl (by decide) hp
  · have hp := hB q
    refine v_aload_n dX7_by_5 rfl rfl ?_
    refine v_iload_n dX7_by_6 rfl rfl ?_
    refine n_callVI (As := [vi x1]) (st := []) dX7_by_7 ml_X7_120 mo_X7_isText mv_X7_isText sh_0 rfl rfl rfl rfl (Nat.le_of_ble_eq_true rfl) (Nat.le_of_ble_eq_true rfl) (by decide) hp (fun z2 m3 hp => ?_)
    obtain ⟨⟨r1, r2⟩, hA, hB⟩ := hp
    refine v_if_ne (tgt := 15) dX7_by_10 (by decide) r1 (fun q => ?_) (fun q => ?_)
    · have hp := hB q
      refine v_aload_n dX7_by_15 rfl rfl ?_
      refine n_getr dX7_by_16 fo_X7_33 sh_0 rfl sr_0_5 ?_
      refine v_iload_n dX7_by_19 rfl rfl ?_
      refine w_puti dX7_by_20 fw_X7_124 sh_12 rfl (fun m4 em4 => ?_)
      have hp := hp m4 em4
      refine v_iconst dX7_by_23 ?_
      exact n_retZ dX7_by_24 rfl (by decide) hp
    · have hp := hA q
      refine v_iconst dX7_by_13 ?_
      exact n_retZ dX7_by_14 rfl (by decide) hp
theorem g_X7_touch_0 {G : GG} {d : Nat} {m : MM} {k : Int → MM → Prop} (x1 : Int) (x2 : Int)
    (hp : N G d mi_X7_byHand 0 [some (vr 0), some (vi 2), some (vi x1), some (vi x2)] [] m (RI fun z1 m2 => k z1 m2)) :
    N G (d + 1) mi_X7_touch 0 [some (vr 0), some (vi x1), some (vi x2)] [] m (RI k) := by
  refine v_aload_n dX7_touch_0 rfl rfl ?_
  refine v_iconst dX7_touch_1 ?_
  refine v_iload_n dX7_touch_2 rfl rfl ?_
  refine v_iload_n dX7_touch_3 rfl rfl ?_
  refine n_callVI (As := [vi 2, vi x1, vi x2]) (st := []) dX7_touch_4 ml_X7_127 mo_X7_byHand mv_X7_byHand sh_0 rfl rfl rfl rfl (Nat.le_of_ble_eq_true rfl) (Nat.le_of_ble_eq_true rfl) (by decide) hp (fun z1 m2 hp => ?_)
  exact n_retI dX7_touch_7 rfl hp
theorem g_X7_put_0 {G : GG} {d : Nat} {m : MM} {k : Int → MM → Prop} (x1 : Int) (x2 : Int)
    (hp : N G d mi_X7_byHand 0 [some (vr 0), some (vi 3), some (vi x1), some (vi x2)] [] m (RI fun z1 m2 => bEQ z1 (-1) (k 0 m2) (k 1 m2))) :
    N G (d + 1) mi_X7_put 0 [some (vr 0), some (vi x1), some (vi x2)] [] m (RI k) := by
  refine v_aload_n dX7_put_0 rfl rfl ?_
  refine v_iconst dX7_put_1 ?_
  refine v_iload_n dX7_put_2 rfl rfl ?_
  refine v_iload_n dX7_put_3 rfl rfl ?_
  refine n_callVI (As := [vi 3, vi x1, vi x2]) (st := []) dX7_put_4 ml_X7_127 mo_X7_byHand mv_X7_byHand sh_0 rfl rfl rfl rfl (Nat.le_of_ble_eq_true rfl) (Nat.le_of_ble_eq_true rfl) (by decide) hp (fun z1 m2 hp => ?_)
  refine v_iconst dX7_put_7 ?_
  obtain ⟨⟨r1, r2⟩, hA, hB⟩ := hp
  refine v_icmp_eq (tgt := 15) dX7_put_8 (by decide) r1 r2 (fun q => ?_) (fun q => ?_)
  · have hp := hA q
    refine v_iconst dX7_put_15 ?_
    exact n_retZ dX7_put_16 rfl (by decide) hp
  · have hp := hB q
    refine v_iconst dX7_put_11 ?_
    refine v_goto (tgt := 16) dX7_put_12 (by decide) ?_
    exact n_retZ dX7_put_16 rfl (by decide) hp
theorem g_X7_swap_0 {G : GG} {d : Nat} {m : MM} {k : Int → MM → Prop} (x1 : Int) (x2 : Int)
    (hp : N G d mi_X7_byHand 0 [some (vr 0), some (vi 5), some (vi x1), some (vi x2)] [] m (RI fun z1 m2 => bEQ z1 (-1) (k 0 m2) (k 1 m2))) :
    N G (d + 1) mi_X7_swap 0 [some (vr 0), some (vi x1), some (vi x2)] [] m (RI k) := by
  refine v_aload_n dX7_swap_0 rfl rfl ?_
  refine v_iconst dX7_swap_1 ?_
  refine v_iload_n dX7_swap_2 rfl rfl ?_
  refine v_iload_n dX7_swap_3 rfl rfl ?_
  refine n_callVI (As := [vi 5, vi x1, vi x2]) (st := []) dX7_swap_4 ml_X7_127 mo_X7_byHand mv_X7_byHand sh_0 rfl rfl rfl rfl (Nat.le_of_ble_eq_true rfl) (Nat.le_of_ble_eq_true rfl) (by decide) hp (fun z1 m2 hp => ?_)
  refine v_iconst dX7_swap_7 ?_
  obtain ⟨⟨r1, r2⟩, hA, hB⟩ := hp
  refine v_icmp_eq (tgt := 15) dX7_swap_8 (by decide) r1 r2 (fun q => ?_) (fun q => ?_)
  · have hp := hA q
    refine v_iconst dX7_swap_15 ?_
    exact n_retZ dX7_swap_16 rfl (by decide) hp
  · have hp := hB q
    refine v_iconst dX7_swap_11 ?_
    refine v_goto (tgt := 16) dX7_swap_12 (by decide) ?_
    exact n_retZ dX7_swap_16 rfl (by decide) hp
theorem g_X7_polish_0 {G : GG} {d : Nat} {m : MM} {k : Int → MM → Prop} (x1 : Int)
    (hp : N G d mi_X7_byHand 0 [some (vr 0), some (vi 6), some (vi x1), some (vi (-1))] [] m (RI fun z1 m2 => k z1 m2)) :
    N G (d + 1) mi_X7_polish 0 [some (vr 0), some (vi x1)] [] m (RI k) := by
  refine v_aload_n dX7_polish_0 rfl rfl ?_
  refine v_bipush dX7_polish_1 rfl ?_
  refine v_iload_n dX7_polish_3 rfl rfl ?_
  refine v_iconst dX7_polish_4 ?_
  refine n_callVI (As := [vi 6, vi x1, vi (-1)]) (st := []) dX7_polish_5 ml_X7_127 mo_X7_byHand mv_X7_byHand sh_0 rfl rfl rfl rfl (Nat.le_of_ble_eq_true rfl) (Nat.le_of_ble_eq_true rfl) (by decide) hp (fun z1 m2 hp => ?_)
  exact n_retI dX7_polish_8 rfl hp
theorem g_X7_played_0 {G : GG} {d : Nat} {m : MM} {k : Int → MM → Prop} (x1 : Int)
    (hp : N G d mi_X7_isText 0 [some (vr 0), some (vi x1)] [] m (RI fun z1 m2 => bEQ z1 0 (k (-2) m2) (∃ j3 : Nat, (x1 = (j3 : Int) ∧ j3 < 4) ∧ (N G (d + 1) mi_X7_played 20 [some (vr 0), none, some (vr (284 + 5 * j3)), some (vi 0)] [] m2 (RI k))))) :
    N G (d + 1) mi_X7_played 0 [some (vr 0), some (vi x1), none, none] [] m (RI k) := by
  refine v_aload_n dX7_played_0 rfl rfl ?_
  refine v_iload_n dX7_played_1 rfl rfl ?_
  refine n_callVI (As := [vi x1]) (st := []) dX7_played_2 ml_X7_120 mo_X7_isText mv_X7_isText sh_0 rfl rfl rfl rfl (Nat.le_of_ble_eq_true rfl) (Nat.le_of_ble_eq_true rfl) (by decide) hp (fun z1 m2 hp => ?_)
  obtain ⟨⟨r1, r2⟩, hA, hB⟩ := hp
  refine v_if_ne (tgt := 11) dX7_played_5 (by decide) r1 (fun q => ?_) (fun q => ?_)
  · have hp := hB q
    refine v_aload_n dX7_played_11 rfl rfl ?_
    refine n_getr dX7_played_12 fo_X7_26 sh_0 rfl sr_0_4 ?_
    refine v_iload_n dX7_played_15 rfl rfl ?_
    obtain ⟨j3, ⟨ej3, bj3⟩, hp⟩ := hp
    refine n_aald5 (j := j3) dX7_played_16 sh_11 ej3 bj3 (sr_scr j3) ?_
    refine v_astore_n dX7_played_17 rfl (by decide) ?_
    refine v_iconst dX7_played_18 ?_
    refine v_istore_n dX7_played_19 rfl (by decide) ?_
    exact n_weak (wk_s (wk_n (wk_s (wk_s wk_nil)))) hp
  · have hp := hA q
    refine v_bipush dX7_played_8 rfl ?_
    exact n_retI dX7_played_10 rfl hp
theorem g_X7_played_20 {G : GG} {d : Nat} {m : MM} {k : Int → MM → Prop} (c2 : Nat) (h2 : SH c2 = .inr 5) (x3 : Int)
    (hp : bLE (m c2 0) x3 (k (-1) m) (N G d mi_X5_isDeed 0 [some (vr c2), some (vi x3)] [] m (RI fun z1 m2 => bEQ z1 0 (N G (d + 1) mi_X7_played 20 [some (vr 0), none, some (vr c2), some (vi (x3 + 1))] [] m2 (RI k)) (∃ j3 : Nat, (x3 = (j3 : Int) ∧ j3 < 24) ∧ (∃ j4 : Nat, (x3 = (j4 : Int) ∧ j4 < 24) ∧ (∃ j5 : Nat, (x3 = (j5 : Int) ∧ j5 < 24) ∧ (N G d mi_X7_byHand 0 [some (vr 0), some (vi (m2 (c2 + 1) j3)), some (vi (m2 (c2 + 2) j4)), some (vi (m2 (c2 + 3) j5))] [] m2 (RI fun z6 m7 => bEQ z6 (-1) (k x3 m7) (N G (d + 1) mi_X7_played 20 [some (vr 0), none, some (vr c2), some (vi (x3 + 1))] [] m7 (RI k)))))))))) :
    N G (d + 1) mi_X7_played 20 [some (vr 0), none, some (vr c2), some (vi x3)] [] m (RI k) := by
  refine v_iload_n dX7_played_20 rfl rfl ?_
  refine v_aload_n dX7_played_21 rfl rfl ?_
  refine n_geti dX7_played_22 fo_X7_131 h2 rfl ?_
  obtain ⟨⟨r1, r2⟩, hA, hB⟩ := hp
  refine v_icmp_ge (tgt := 70) dX7_played_25 (by decide) r2 r1 (fun q => ?_) (fun q => ?_)
  · have hp := hA q
    refine v_iconst dX7_played_70 ?_
    exact n_retI dX7_played_71 rfl hp
  · have hp := hB q
    refine v_aload_n dX7_played_28 rfl rfl ?_
    refine v_iload_n dX7_played_29 rfl rfl ?_
    refine n_callVI (As := [vi x3]) (st := []) dX7_played_30 ml_X7_134 mo_X5_isDeed mv_X5_isDeed h2 rfl rfl rfl rfl (Nat.le_of_ble_eq_true rfl) (Nat.le_of_ble_eq_true rfl) (by decide) hp (fun z1 m2 hp => ?_)
    obtain ⟨⟨r1, r2⟩, hA, hB⟩ := hp
    refine v_if_eq (tgt := 64) dX7_played_33 (by decide) r1 (fun q => ?_) (fun q => ?_)
    · have hp := hA q
      refine v_iinc dX7_played_64 rfl (by decide) ?_
      refine v_goto (tgt := 20) dX7_played_67 (by decide) ?_
      exact hp
    · have hp := hB q
      refine v_aload_n dX7_played_36 rfl rfl ?_
      refine v_aload_n dX7_played_37 rfl rfl ?_
      refine n_getr dX7_played_38 fo_X7_137 h2 rfl (kr5_1 h2) ?_
      refine v_iload_n dX7_played_41 rfl rfl ?_
      obtain ⟨j3, ⟨ej3, bj3⟩, hp⟩ := hp
      refine n_iald (j := j3) dX7_played_42 (kn5_1 h2) ej3 bj3 ?_
      refine v_aload_n dX7_played_43 rfl rfl ?_
      refine n_getr dX7_played_44 fo_X7_140 h2 rfl (kr5_2 h2) ?_
      refine v_iload_n dX7_played_47 rfl rfl ?_
      obtain ⟨j4, ⟨ej4, bj4⟩, hp⟩ := hp
      refine n_iald (j := j4) dX7_played_48 (kn5_2 h2) ej4 bj4 ?_
      refine v_aload_n dX7_played_49 rfl rfl ?_
      refine n_getr dX7_played_50 fo_X7_143 h2 rfl (kr5_3 h2) ?_
      refine v_iload_n dX7_played_53 rfl rfl ?_
      obtain ⟨j5, ⟨ej5, bj5⟩, hp⟩ := hp
      refine n_iald (j := j5) dX7_played_54 (kn5_3 h2) ej5 bj5 ?_
      refine n_callVI (As := [vi (m2 (c2 + 1) j3), vi (m2 (c2 + 2) j4), vi (m2 (c2 + 3) j5)]) (st := []) dX7_played_55 ml_X7_127 mo_X7_byHand mv_X7_byHand sh_0 rfl rfl rfl rfl (Nat.le_of_ble_eq_true rfl) (Nat.le_of_ble_eq_true rfl) (by decide) hp (fun z6 m7 hp => ?_)
      refine v_iconst dX7_played_58 ?_
      obtain ⟨⟨r1, r2⟩, hA, hB⟩ := hp
      refine v_icmp_ne (tgt := 64) dX7_played_59 (by decide) r1 r2 (fun q => ?_) (fun q => ?_)
      · have hp := hB q
        refine v_iinc dX7_played_64 rfl (by decide) ?_
        refine v_goto (tgt := 20) dX7_played_67 (by decide) ?_
        exact hp
      · have hp := hA q
        refine v_iload_n dX7_played_62 rfl rfl ?_
        exact n_retI dX7_played_63 rfl hp
theorem g_X7_cat_0 {G : GG} {d : Nat} {m : MM} {k : Int → MM → Prop} (x1 : Int) (x2 : Int)
    (hp : bLT x1 0 (k (-1) m) (bLT 9999 x1 (k (-1) m) (bLT x2 1 (k (-1) m) (bLT 40 x2 (k (-1) m) (bLE 1 (m 12 2) (N G d mi_X1_keep 0 [some (vr 20), some (vr 16)] [] m (RV fun m2 => N G (d + 1) mi_X7_cat 65 [some (vr 0), none, some (vi x2), some (vi ((x1 * 6) + 1)), some (vi 0), some (vi 0), none, none] [] m2 (RI k))) (k (-1) m)))))) :
    N G (d + 1) mi_X7_cat 0 [some (vr 0), some (vi x1), some (vi x2), none, none, none, none, none] [] m (RI k) := by
  refine v_iload_n dX7_cat_0 rfl rfl ?_
  obtain ⟨⟨r1, r2⟩, hA, hB⟩ := hp
  refine v_if_lt (tgt := 33) dX7_cat_1 (by decide) r1 (fun q => ?_) (fun q => ?_)
  · have hp := hA q
    refine v_iconst dX7_cat_33 ?_
    exact n_retI dX7_cat_34 rfl hp
  · have hp := hB q
    refine v_iload_n dX7_cat_4 rfl rfl ?_
    refine v_sipush dX7_cat_5 rfl ?_
    obtain ⟨⟨r1, r2⟩, hA, hB⟩ := hp
    refine v_icmp_gt (tgt := 33) dX7_cat_8 (by decide) r2 r1 (fun q => ?_) (fun q => ?_)
    · have hp := hA q
      refine v_iconst dX7_cat_33 ?_
      exact n_retI dX7_cat_34 rfl hp
    · have hp := hB q
      refine v_iload_n dX7_cat_11 rfl rfl ?_
      refine v_iconst dX7_cat_12 ?_
      obtain ⟨⟨r1, r2⟩, hA, hB⟩ := hp
      refine v_icmp_lt (tgt := 33) dX7_cat_13 (by decide) r1 r2 (fun q => ?_) (fun q => ?_)
      · have hp := hA q
        refine v_iconst dX7_cat_33 ?_
        exact n_retI dX7_cat_34 rfl hp
      · have hp := hB q
        refine v_iload_n dX7_cat_16 rfl rfl ?_
        refine v_bipush dX7_cat_17 rfl ?_
        obtain ⟨⟨r1, r2⟩, hA, hB⟩ := hp
        refine v_icmp_gt (tgt := 33) dX7_cat_19 (by decide) r2 r1 (fun q => ?_) (fun q => ?_)
        · have hp := hA q
          refine v_iconst dX7_cat_33 ?_
          exact n_retI dX7_cat_34 rfl hp
        · have hp := hB q
          refine v_aload_n dX7_cat_22 rfl rfl ?_
          refine n_getr dX7_cat_23 fo_X7_33 sh_0 rfl sr_0_5 ?_
          refine n_geti dX7_cat_26 fo_X7_87 sh_12 rfl ?_
          refine v_iconst dX7_cat_29 ?_
          obtain ⟨⟨r1, r2⟩, hA, hB⟩ := hp
          refine v_icmp_ge (tgt := 35) dX7_cat_30 (by decide) r2 r1 (fun q => ?_) (fun q => ?_)
          · have hp := hA q
            refine v_aload_n dX7_cat_35 rfl rfl ?_
            refine n_getr dX7_cat_36 fo_X7_33 sh_0 rfl sr_0_5 ?_
            refine n_getr dX7_cat_39 fo_X7_146 sh_12 rfl sr_12_10 ?_
            refine v_aload_n dX7_cat_42 rfl rfl ?_
            refine n_getr dX7_cat_43 fo_X7_33 sh_0 rfl sr_0_5 ?_
            refine n_getr dX7_cat_46 fo_X7_150 sh_12 rfl sr_12_9 ?_
            refine n_callVV (As := [vr 16]) (st := []) dX7_cat_49 ml_X7_153 mo_X1_keep mv_X1_keep sh_20 rfl rfl rfl rfl (Nat.le_of_ble_eq_true rfl) (Nat.le_of_ble_eq_true rfl) (by decide) hp (fun m2 hp => ?_)
            refine v_iload_n dX7_cat_52 rfl rfl ?_
            refine v_bipush dX7_cat_53 rfl ?_
            refine v_imul dX7_cat_55 ?_
            refine v_iconst dX7_cat_56 ?_
            refine v_iadd dX7_cat_57 ?_
            refine v_istore_n dX7_cat_58 rfl (by decide) ?_
            refine v_iconst dX7_cat_59 ?_
            refine v_istore dX7_cat_60 (by decide) ?_
            refine v_iconst dX7_cat_62 ?_
            refine v_istore dX7_cat_63 (by decide) ?_
            exact n_weak (wk_s (wk_n (wk_s (wk_s (wk_s (wk_s (wk_s (wk_s wk_nil)))))))) hp
          · have hp := hB q
            refine v_iconst dX7_cat_33 ?_
            exact n_retI dX7_cat_34 rfl hp
theorem g_X7_cat_65 {G : GG} {d : Nat} {m : MM} {k : Int → MM → Prop} (x2 : Int) (x3 : Int) (x4 : Int) (x5 : Int)
    (hp : bLE x2 x5 (k x4 m) ((rng (m 12 2) ∧ (m 12 2) ≠ 0) ∧ (N G d mi_X7_drawnAfter 0 [some (vi x3)] [] m (RI fun z1 m2 => (rng (m2 12 2) ∧ (m2 12 2) ≠ 0) ∧ (N G d mi_X7_drawnAfter 0 [some (vi z1)] [] m2 (RI fun z3 m4 => bEQ (irem x3 (m 12 2)) (irem z1 (m2 12 2)) (N G (d + 1) mi_X7_cat 65 [some (vr 0), none, some (vi x2), some (vi z3), some (vi x4), some (vi (x5 + 1)), none, none] [] m4 (RI k)) (N G d mi_X0_exchange 0 [some (vr 16), some (vi (irem x3 (m 12 2))), some (vi (irem z1 (m2 12 2))), none] [] m4 (RV fun m6 => N G (d + 1) mi_X7_cat 65 [some (vr 0), none, some (vi x2), some (vi z3), some (vi (x4 + 1)), some (vi (x5 + 1)), none, none] [] m6 (RI k))))))))) :
    N G (d + 1) mi_X7_cat 65 [some (vr 0), none, some (vi x2), some (vi x3), some (vi x4), some (vi x5), none, none] [] m (RI k) := by
  refine v_iload dX7_cat_65 rfl ?_
  refine v_iload_n dX7_cat_67 rfl rfl ?_
  obtain ⟨⟨r1, r2⟩, hA, hB⟩ := hp
  refine v_icmp_ge (tgt := 133) dX7_cat_68 (by decide) r2 r1 (fun q => ?_) (fun q => ?_)
  · have hp := hA q
    refine v_iload dX7_cat_133 rfl ?_
    exact n_retI dX7_cat_135 rfl hp
  · have hp := hB q
    refine v_iload_n dX7_cat_71 rfl rfl ?_
    refine v_aload_n dX7_cat_72 rfl rfl ?_
    refine n_getr dX7_cat_73 fo_X7_33 sh_0 rfl sr_0_5 ?_
    refine n_geti dX7_cat_76 fo_X7_87 sh_12 rfl ?_
    obtain ⟨hg, hp⟩ := hp
    refine w_irem dX7_cat_79 hg.1 hg.2 ?_
    refine v_istore dX7_cat_80 (by decide) ?_
    refine v_iload_n dX7_cat_82 rfl rfl ?_
    refine n_callSI (As := [vi x3]) (st := []) dX7_cat_83 ml_X7_159 mo_X7_drawnAfter ms_X7_drawnAfter rfl rfl (Nat.le_of_ble_eq_true rfl) (Nat.le_of_ble_eq_true rfl) (by decide) hp (fun z1 m2 hp => ?_)
    refine v_istore_n dX7_cat_86 rfl (by decide) ?_
    refine v_iload_n dX7_cat_87 rfl rfl ?_
    refine v_aload_n dX7_cat_88 rfl rfl ?_
    refine n_getr dX7_cat_89 fo_X7_33 sh_0 rfl sr_0_5 ?_
    refine n_geti dX7_cat_92 fo_X7_87 sh_12 rfl ?_
    obtain ⟨hg, hp⟩ := hp
    refine w_irem dX7_cat_95 hg.1 hg.2 ?_
    refine v_istore dX7_cat_96 (by decide) ?_
    refine v_iload_n dX7_cat_98 rfl rfl ?_
    refine n_callSI (As := [vi z1]) (st := []) dX7_cat_99 ml_X7_159 mo_X7_drawnAfter ms_X7_drawnAfter rfl rfl (Nat.le_of_ble_eq_true rfl) (Nat.le_of_ble_eq_true rfl) (by decide) hp (fun z3 m4 hp => ?_)
    refine v_istore_n dX7_cat_102 rfl (by decide) ?_
    refine v_iload dX7_cat_103 rfl ?_
    refine v_iload dX7_cat_105 rfl ?_
    obtain ⟨⟨r1, r2⟩, hA, hB⟩ := hp
    refine v_icmp_eq (tgt := 127) dX7_cat_107 (by decide) r1 r2 (fun q => ?_) (fun q => ?_)
    · have hp := hA q
      refine v_iinc dX7_cat_127 rfl (by decide) ?_
      refine v_goto (tgt := 65) dX7_cat_130 (by decide) ?_
      exact n_weak (wk_s (wk_s (wk_s (wk_s (wk_s (wk_s (wk_n (wk_n wk_nil)))))))) hp
    · have hp := hB q
      refine v_aload_n dX7_cat_110 rfl rfl ?_
      refine n_getr dX7_cat_111 fo_X7_33 sh_0 rfl sr_0_5 ?_
      refine n_getr dX7_cat_114 fo_X7_150 sh_12 rfl sr_12_9 ?_
      refine v_iload dX7_cat_117 rfl ?_
      refine v_iload dX7_cat_119 rfl ?_
      refine n_callVV (As := [vi (irem x3 (m 12 2)), vi (irem z1 (m2 12 2))]) (st := []) dX7_cat_121 ml_X7_163 mo_X0_exchange mv_X0_exchange sh_16 rfl rfl rfl rfl (Nat.le_of_ble_eq_true rfl) (Nat.le_of_ble_eq_true rfl) (by decide) hp (fun m6 hp => ?_)
      refine v_iinc dX7_cat_124 rfl (by decide) ?_
      refine v_iinc dX7_cat_127 rfl (by decide) ?_
      refine v_goto (tgt := 65) dX7_cat_130 (by decide) ?_
      exact n_weak (wk_s (wk_s (wk_s (wk_s (wk_s (wk_s (wk_n (wk_n wk_nil)))))))) hp
theorem g_X7_undo_0 {G : GG} {d : Nat} {m : MM} {k : Int → MM → Prop} 
    (hp : N G d mi_X1_takeBack 0 [some (vr 20), some (vr 16)] [] m (RI fun z1 m2 => bEQ z1 0 (k (-1) m2) (k (m2 20 2) m2))) :
    N G (d + 1) mi_X7_undo 0 [some (vr 0)] [] m (RI k) := by
  refine v_aload_n dX7_undo_0 rfl rfl ?_
  refine n_getr dX7_undo_1 fo_X7_33 sh_0 rfl sr_0_5 ?_
  refine n_getr dX7_undo_4 fo_X7_146 sh_12 rfl sr_12_10 ?_
  refine v_aload_n dX7_undo_7 rfl rfl ?_
  refine n_getr dX7_undo_8 fo_X7_33 sh_0 rfl sr_0_5 ?_
  refine n_getr dX7_undo_11 fo_X7_150 sh_12 rfl sr_12_9 ?_
  refine n_callVI (As := [vr 16]) (st := []) dX7_undo_14 ml_X7_167 mo_X1_takeBack mv_X1_takeBack sh_20 rfl rfl rfl rfl (Nat.le_of_ble_eq_true rfl) (Nat.le_of_ble_eq_true rfl) (by decide) hp (fun z1 m2 hp => ?_)
  obtain ⟨⟨r1, r2⟩, hA, hB⟩ := hp
  refine v_if_eq (tgt := 33) dX7_undo_17 (by decide) r1 (fun q => ?_) (fun q => ?_)
  · have hp := hA q
    refine v_iconst dX7_undo_33 ?_
    exact n_retI dX7_undo_34 rfl hp
  · have hp := hB q
    refine v_aload_n dX7_undo_20 rfl rfl ?_
    refine n_getr dX7_undo_21 fo_X7_33 sh_0 rfl sr_0_5 ?_
    refine n_getr dX7_undo_24 fo_X7_146 sh_12 rfl sr_12_10 ?_
    refine n_geti dX7_undo_27 fo_X7_171 sh_20 rfl ?_
    refine v_goto (tgt := 34) dX7_undo_30 (by decide) ?_
    exact n_retI dX7_undo_34 rfl hp
theorem g_X7_of_0 {G : GG} {d : Nat} {m : MM} {k : Int → MM → Prop} (x1 : Int) (x2 : Int)
    (hp : N G d mi_X7_isEye 0 [some (vr 0), some (vi x1)] [] m (RI fun z1 m2 => bEQ z1 0 (k (-2) m2) (bLT x2 0 (N G (d + 1) mi_X7_of 37 [some (vr 0), some (vi x1), some (vi x2)] [] m2 (RI k)) (bLE 4 x2 (N G (d + 1) mi_X7_of 37 [some (vr 0), some (vi x1), some (vi x2)] [] m2 (RI k)) (∃ j3 : Nat, (x1 = (j3 : Int) ∧ j3 < 8) ∧ (N G d mi_X0_atPlace 0 [some (vi (m2 19 j3)), some (vi x2)] [] m2 (RI fun z4 m5 => k z4 m5))))))) :
    N G (d + 1) mi_X7_of 0 [some (vr 0), some (vi x1), some (vi x2)] [] m (RI k) := by
  refine v_aload_n dX7_of_0 rfl rfl ?_
  refine v_iload_n dX7_of_1 rfl rfl ?_
  refine n_callVI (As := [vi x1]) (st := []) dX7_of_2 ml_X7_174 mo_X7_isEye mv_X7_isEye sh_0 rfl rfl rfl rfl (Nat.le_of_ble_eq_true rfl) (Nat.le_of_ble_eq_true rfl) (by decide) hp (fun z1 m2 hp => ?_)
  obtain ⟨⟨r1, r2⟩, hA, hB⟩ := hp
  refine v_if_ne (tgt := 11) dX7_of_5 (by decide) r1 (fun q => ?_) (fun q => ?_)
  · have hp := hB q
    refine v_iload_n dX7_of_11 rfl rfl ?_
    obtain ⟨⟨r1, r2⟩, hA, hB⟩ := hp
    refine v_if_lt (tgt := 37) dX7_of_12 (by decide) r1 (fun q => ?_) (fun q => ?_)
    · have hp := hA q
      exact hp
    · have hp := hB q
      refine v_iload_n dX7_of_15 rfl rfl ?_
      refine v_iconst dX7_of_16 ?_
      obtain ⟨⟨r1, r2⟩, hA, hB⟩ := hp
      refine v_icmp_ge (tgt := 37) dX7_of_17 (by decide) r2 r1 (fun q => ?_) (fun q => ?_)
      · have hp := hA q
        exact hp
      · have hp := hB q
        refine v_aload_n dX7_of_20 rfl rfl ?_
        refine n_getr dX7_of_21 fo_X7_33 sh_0 rfl sr_0_5 ?_
        refine n_getr dX7_of_24 fo_X7_150 sh_12 rfl sr_12_9 ?_
        refine n_getr dX7_of_27 fo_X7_177 sh_16 rfl sr_16_3 ?_
        refine v_iload_n dX7_of_30 rfl rfl ?_
        obtain ⟨j3, ⟨ej3, bj3⟩, hp⟩ := hp
        refine n_iald (j := j3) dX7_of_31 sh_19 ej3 bj3 ?_
        refine v_iload_n dX7_of_32 rfl rfl ?_
        refine n_callSI (As := [vi (m2 19 j3), vi x2]) (st := []) dX7_of_33 ml_X7_180 mo_X0_atPlace ms_X0_atPlace rfl rfl (Nat.le_of_ble_eq_true rfl) (Nat.le_of_ble_eq_true rfl) (by decide) hp (fun z4 m5 hp => ?_)
        exact n_retI dX7_of_36 rfl hp
  · have hp := hA q
    refine v_bipush dX7_of_8 rfl ?_
    exact n_retI dX7_of_10 rfl hp
theorem g_X7_of_37 {G : GG} {d : Nat} {m : MM} {k : Int → MM → Prop} (x1 : Int) (x2 : Int)
    (hp : (rng x2) ∧ (x2 = 4 → (∃ j1 : Nat, (x1 = (j1 : Int) ∧ j1 < 8) ∧ (k (m 17 j1) m))) ∧ (x2 = 5 → (∃ j2 : Nat, (x1 = (j2 : Int) ∧ j2 < 8) ∧ (k (m 18 j2) m))) ∧ (x2 = 6 → (∃ j3 : Nat, (x1 = (j3 : Int) ∧ j3 < 8) ∧ (k (m 14 j3) m))) ∧ (x2 = 7 → (∃ j4 : Nat, (x1 = (j4 : Int) ∧ j4 < 8) ∧ (k (m 15 j4) m))) ∧ (x2 = 8 → (N G d mi_X7_rubsOf 0 [some (vr 0), some (vi x1), none, none] [] m (RI fun z5 m6 => k z5 m6))) ∧ ((x2 < 4 ∨ 8 < x2) → (k (-2) m))) :
    N G (d + 1) mi_X7_of 37 [some (vr 0), some (vi x1), some (vi x2)] [] m (RI k) := by
  refine v_iload_n dX7_of_37 rfl rfl ?_
  obtain ⟨hz, h_0, h_1, h_2, h_3, h_4, hd⟩ := hp
  by_cases hq : x2 < 4 ∨ 8 < x2
  · have hp := hd hq
    refine v_tableOut (tgt := 124) dX7_of_38 hz hq (by decide) ?_
    refine v_bipush dX7_of_124 rfl ?_
    exact n_retI dX7_of_126 rfl hp
  have hc : x2 = 4 ∨ x2 = 5 ∨ x2 = 6 ∨ x2 = 7 ∨ x2 = 8 := by omega
  rcases hc with hc | hc | hc | hc | hc
  · have hp := h_0 hc
    refine v_tableIn (tgt := 72) (off := 34) dX7_of_38 hz (by omega) (by omega) (by rw [hc]; rfl) (by decide) ?_
    refine v_aload_n dX7_of_72 rfl rfl ?_
    refine n_getr dX7_of_73 fo_X7_33 sh_0 rfl sr_0_5 ?_
    refine n_getr dX7_of_76 fo_X7_150 sh_12 rfl sr_12_9 ?_
    refine n_getr dX7_of_79 fo_X7_183 sh_16 rfl sr_16_1 ?_
    refine v_iload_n dX7_of_82 rfl rfl ?_
    obtain ⟨j1, ⟨ej1, bj1⟩, hp⟩ := hp
    refine n_iald (j := j1) dX7_of_83 sh_17 ej1 bj1 ?_
    exact n_retI dX7_of_84 rfl hp
  · have hp := h_1 hc
    refine v_tableIn (tgt := 85) (off := 47) dX7_of_38 hz (by omega) (by omega) (by rw [hc]; rfl) (by decide) ?_
    refine v_aload_n dX7_of_85 rfl rfl ?_
    refine n_getr dX7_of_86 fo_X7_33 sh_0 rfl sr_0_5 ?_
    refine n_getr dX7_of_89 fo_X7_150 sh_12 rfl sr_12_9 ?_
    refine n_getr dX7_of_92 fo_X7_186 sh_16 rfl sr_16_2 ?_
    refine v_iload_n dX7_of_95 rfl rfl ?_
    obtain ⟨j2, ⟨ej2, bj2⟩, hp⟩ := hp
    refine n_iald (j := j2) dX7_of_96 sh_18 ej2 bj2 ?_
    exact n_retI dX7_of_97 rfl hp
  · have hp := h_2 hc
    refine v_tableIn (tgt := 98) (off := 60) dX7_of_38 hz (by omega) (by omega) (by rw [hc]; rfl) (by decide) ?_
    refine v_aload_n dX7_of_98 rfl rfl ?_
    refine n_getr dX7_of_99 fo_X7_33 sh_0 rfl sr_0_5 ?_
    refine n_getr dX7_of_102 fo_X7_90 sh_12 rfl sr_12_3 ?_
    refine v_iload_n dX7_of_105 rfl rfl ?_
    obtain ⟨j3, ⟨ej3, bj3⟩, hp⟩ := hp
    refine n_iald (j := j3) dX7_of_106 sh_14 ej3 bj3 ?_
    exact n_retI dX7_of_107 rfl hp
  · have hp := h_3 hc
    refine v_tableIn (tgt := 108) (off := 70) dX7_of_38 hz (by omega) (by omega) (by rw [hc]; rfl) (by decide) ?_
    refine v_aload_n dX7_of_108 rfl rfl ?_
    refine n_getr dX7_of_109 fo_X7_33 sh_0 rfl sr_0_5 ?_
    refine n_getr dX7_of_112 fo_X7_93 sh_12 rfl sr_12_4 ?_
    refine v_iload_n dX7_of_115 rfl rfl ?_
    obtain ⟨j4, ⟨ej4, bj4⟩, hp⟩ := hp
    refine n_iald (j := j4) dX7_of_116 sh_15 ej4 bj4 ?_
    exact n_retI dX7_of_117 rfl hp
  · have hp := h_4 hc
    refine v_tableIn (tgt := 118) (off := 80) dX7_of_38 hz (by omega) (by omega) (by rw [hc]; rfl) (by decide) ?_
    refine v_aload_n dX7_of_118 rfl rfl ?_
    refine v_iload_n dX7_of_119 rfl rfl ?_
    refine n_callVI (As := [vi x1]) (st := []) dX7_of_120 ml_X7_189 mo_X7_rubsOf mv_X7_rubsOf sh_0 rfl rfl rfl rfl (Nat.le_of_ble_eq_true rfl) (Nat.le_of_ble_eq_true rfl) (by decide) hp (fun z5 m6 hp => ?_)
    exact n_retI dX7_of_123 rfl hp
theorem g_X7_told_0 {G : GG} {d : Nat} {m : MM} {k : Int → MM → Prop} (x1 : Int) (x2 : Int) (x3 : Int)
    (hp : N G d mi_X7_isText 0 [some (vr 0), some (vi x1)] [] m (RI fun z1 m2 => bEQ z1 0 (k (-2) m2) (N G d mi_X7_isEye 0 [some (vr 0), some (vi x2)] [] m2 (RI fun z3 m4 => bEQ z3 0 (k (-2) m4) (bLT x3 0 (k (-2) m4) (bLT x3 4 (N G d mi_X0_copyFrom 0 [some (vr 272), some (vr 16)] [] m4 (RV fun m6 => ∃ j7 : Nat, (x1 = (j7 : Int) ∧ j7 < 4) ∧ (N G d mi_X7_tell 0 [some (vr 0), some (vr (284 + 5 * j7)), none] [] m6 (RV fun m9 => ∃ j10 : Nat, (x2 = (j10 : Int) ∧ j10 < 8) ∧ (N G d mi_X0_atPlace 0 [some (vi (m9 275 j10)), some (vi x3)] [] m9 (RI fun z11 m12 => k z11 m12)))))) (k (-2) m4))))))) :
    N G (d + 1) mi_X7_told 0 [some (vr 0), some (vi x1), some (vi x2), some (vi x3)] [] m (RI k) := by
  refine v_aload_n dX7_told_0 rfl rfl ?_
  refine v_iload_n dX7_told_1 rfl rfl ?_
  refine n_callVI (As := [vi x1]) (st := []) dX7_told_2 ml_X7_120 mo_X7_isText mv_X7_isText sh_0 rfl rfl rfl rfl (Nat.le_of_ble_eq_true rfl) (Nat.le_of_ble_eq_true rfl) (by decide) hp (fun z1 m2 hp => ?_)
  obtain ⟨⟨r1, r2⟩, hA, hB⟩ := hp
  refine v_if_eq (tgt := 25) dX7_told_5 (by decide) r1 (fun q => ?_) (fun q => ?_)
  · have hp := hA q
    refine v_bipush dX7_told_25 rfl ?_
    exact n_retI dX7_told_27 rfl hp
  · have hp := hB q
    refine v_aload_n dX7_told_8 rfl rfl ?_
    refine v_iload_n dX7_told_9 rfl rfl ?_
    refine n_callVI (As := [vi x2]) (st := []) dX7_told_10 ml_X7_174 mo_X7_isEye mv_X7_isEye sh_0 rfl rfl rfl rfl (Nat.le_of_ble_eq_true rfl) (Nat.le_of_ble_eq_true rfl) (by decide) hp (fun z3 m4 hp => ?_)
    obtain ⟨⟨r1, r2⟩, hA, hB⟩ := hp
    refine v_if_eq (tgt := 25) dX7_told_13 (by decide) r1 (fun q => ?_) (fun q => ?_)
    · have hp := hA q
      refine v_bipush dX7_told_25 rfl ?_
      exact n_retI dX7_told_27 rfl hp
    · have hp := hB q
      refine v_iload_n dX7_told_16 rfl rfl ?_
      obtain ⟨⟨r1, r2⟩, hA, hB⟩ := hp
      refine v_if_lt (tgt := 25) dX7_told_17 (by decide) r1 (fun q => ?_) (fun q => ?_)
      · have hp := hA q
        refine v_bipush dX7_told_25 rfl ?_
        exact n_retI dX7_told_27 rfl hp
      · have hp := hB q
        refine v_iload_n dX7_told_20 rfl rfl ?_
        refine v_iconst dX7_told_21 ?_
        obtain ⟨⟨r1, r2⟩, hA, hB⟩ := hp
        refine v_icmp_lt (tgt := 28) dX7_told_22 (by decide) r1 r2 (fun q => ?_) (fun q => ?_)
        · have hp := hA q
          refine v_aload_n dX7_told_28 rfl rfl ?_
          refine n_getr dX7_told_29 fo_X7_43 sh_0 rfl sr_0_7 ?_
          refine v_aload_n dX7_told_32 rfl rfl ?_
          refine n_getr dX7_told_33 fo_X7_33 sh_0 rfl sr_0_5 ?_
          refine n_getr dX7_told_36 fo_X7_150 sh_12 rfl sr_12_9 ?_
          refine n_callVV (As := [vr 16]) (st := []) dX7_told_39 ml_X7_192 mo_X0_copyFrom mv_X0_copyFrom sh_272 rfl rfl rfl rfl (Nat.le_of_ble_eq_true rfl) (Nat.le_of_ble_eq_true rfl) (by decide) hp (fun m6 hp => ?_)
          refine v_aload_n dX7_told_42 rfl rfl ?_
          refine v_aload_n dX7_told_43 rfl rfl ?_
          refine n_getr dX7_told_44 fo_X7_26 sh_0 rfl sr_0_4 ?_
          refine v_iload_n dX7_told_47 rfl rfl ?_
          obtain ⟨j7, ⟨ej7, bj7⟩, hp⟩ := hp
          refine n_aald5 (j := j7) dX7_told_48 sh_11 ej7 bj7 (sr_scr j7) ?_
          refine n_callVV (As := [vr (284 + 5 * j7)]) (st := []) dX7_told_49 ml_X7_195 mo_X7_tell mv_X7_tell sh_0 rfl rfl rfl rfl (Nat.le_of_ble_eq_true rfl) (Nat.le_of_ble_eq_true rfl) (by decide) hp (fun m9 hp => ?_)
          refine v_aload_n dX7_told_52 rfl rfl ?_
          refine n_getr dX7_told_53 fo_X7_43 sh_0 rfl sr_0_7 ?_
          refine n_getr dX7_told_56 fo_X7_177 sh_272 rfl sr_272_3 ?_
          refine v_iload_n dX7_told_59 rfl rfl ?_
          obtain ⟨j10, ⟨ej10, bj10⟩, hp⟩ := hp
          refine n_iald (j := j10) dX7_told_60 sh_275 ej10 bj10 ?_
          refine v_iload_n dX7_told_61 rfl rfl ?_
          refine n_callSI (As := [vi (m9 275 j10), vi x3]) (st := []) dX7_told_62 ml_X7_180 mo_X0_atPlace ms_X0_atPlace rfl rfl (Nat.le_of_ble_eq_true rfl) (Nat.le_of_ble_eq_true rfl) (by decide) hp (fun z11 m12 hp => ?_)
          exact n_retI dX7_told_65 rfl hp
        · have hp := hB q
          refine v_bipush dX7_told_25 rfl ?_
          exact n_retI dX7_told_27 rfl hp
theorem g_X7_verdict_0 {G : GG} {d : Nat} {m : MM} {k : Int → MM → Prop} (x1 : Int)
    (hp : bLT x1 0 (k (-1) m) (bLT x1 (ishl 1 (m 12 5)) (N G d mi_J6_bitCount_0f7a4 0 [some (vi x1)] [] m (RI fun z1 m2 => bLE 2 z1 (N G d mi_X7_tellAll 0 [some (vr 0), some (vi x1), none] [] m2 (RV fun m4 => N G d mi_X7_tellsApart 0 [some (vr 0), some (vi ((ishl 1 (m4 12 2)) - 1)), some (vi x1), none, none, none] [] m4 (RI fun z5 m6 => bEQ z5 0 (k (-1) m6) (N G (d + 1) mi_X7_verdict 59 [some (vr 0), some (vi x1), some (vi ((ishl 1 (m4 12 2)) - 1)), some (vi 0), none] [] m6 (RI k))))) (k 0 m2))) (k (-1) m))) :
    N G (d + 1) mi_X7_verdict 0 [some (vr 0), some (vi x1), none, none, none] [] m (RI k) := by
  refine v_iload_n dX7_verdict_0 rfl rfl ?_
  obtain ⟨⟨r1, r2⟩, hA, hB⟩ := hp
  refine v_if_lt (tgt := 17) dX7_verdict_1 (by decide) r1 (fun q => ?_) (fun q => ?_)
  · have hp := hA q
    refine v_iconst dX7_verdict_17 ?_
    exact n_retI dX7_verdict_18 rfl hp
  · have hp := hB q
    refine v_iload_n dX7_verdict_4 rfl rfl ?_
    refine v_iconst dX7_verdict_5 ?_
    refine v_aload_n dX7_verdict_6 rfl rfl ?_
    refine n_getr dX7_verdict_7 fo_X7_33 sh_0 rfl sr_0_5 ?_
    refine n_geti dX7_verdict_10 fo_X7_100 sh_12 rfl ?_
    refine v_ishl dX7_verdict_13 ?_
    obtain ⟨⟨r1, r2⟩, hA, hB⟩ := hp
    refine v_icmp_lt (tgt := 19) dX7_verdict_14 (by decide) r1 r2 (fun q => ?_) (fun q => ?_)
    · have hp := hA q
      refine v_iload_n dX7_verdict_19 rfl rfl ?_
      refine n_callSI (As := [vi x1]) (st := []) dX7_verdict_20 ml_X7_199 mo_J6_bitCount_0f7a4 ms_J6_bitCount_0f7a4 rfl rfl (Nat.le_of_ble_eq_true rfl) (Nat.le_of_ble_eq_true rfl) (by decide) hp (fun z1 m2 hp => ?_)
      refine v_iconst dX7_verdict_23 ?_
      obtain ⟨⟨r1, r2⟩, hA, hB⟩ := hp
      refine v_icmp_ge (tgt := 29) dX7_verdict_24 (by decide) r2 r1 (fun q => ?_) (fun q => ?_)
      · have hp := hA q
        refine v_aload_n dX7_verdict_29 rfl rfl ?_
        refine v_iload_n dX7_verdict_30 rfl rfl ?_
        refine n_callVV (As := [vi x1]) (st := []) dX7_verdict_31 ml_X7_204 mo_X7_tellAll mv_X7_tellAll sh_0 rfl rfl rfl rfl (Nat.le_of_ble_eq_true rfl) (Nat.le_of_ble_eq_true rfl) (by decide) hp (fun m4 hp => ?_)
        refine v_iconst dX7_verdict_34 ?_
        refine v_aload_n dX7_verdict_35 rfl rfl ?_
        refine n_getr dX7_verdict_36 fo_X7_33 sh_0 rfl sr_0_5 ?_
        refine n_geti dX7_verdict_39 fo_X7_87 sh_12 rfl ?_
        refine v_ishl dX7_verdict_42 ?_
        refine v_iconst dX7_verdict_43 ?_
        refine v_isub dX7_verdict_44 ?_
        refine v_istore_n dX7_verdict_45 rfl (by decide) ?_
        refine v_aload_n dX7_verdict_46 rfl rfl ?_
        refine v_iload_n dX7_verdict_47 rfl rfl ?_
        refine v_iload_n dX7_verdict_48 rfl rfl ?_
        refine n_callVI (As := [vi ((ishl 1 (m4 12 2)) - 1), vi x1]) (st := []) dX7_verdict_49 ml_X7_207 mo_X7_tellsApart mv_X7_tellsApart sh_0 rfl rfl rfl rfl (Nat.le_of_ble_eq_true rfl) (Nat.le_of_ble_eq_true rfl) (by decide) hp (fun z5 m6 hp => ?_)
        obtain ⟨⟨r1, r2⟩, hA, hB⟩ := hp
        refine v_if_ne (tgt := 57) dX7_verdict_52 (by decide) r1 (fun q => ?_) (fun q => ?_)
        · have hp := hB q
          refine v_iconst dX7_verdict_57 ?_
          refine v_istore_n dX7_verdict_58 rfl (by decide) ?_
          exact hp
        · have hp := hA q
          refine v_iconst dX7_verdict_55 ?_
          exact n_retI dX7_verdict_56 rfl hp
      · have hp := hB q
        refine v_iconst dX7_verdict_27 ?_
        exact n_retI dX7_verdict_28 rfl hp
    · have hp := hB q
      refine v_iconst dX7_verdict_17 ?_
      exact n_retI dX7_verdict_18 rfl hp
theorem g_X7_verdict_59 {G : GG} {d : Nat} {m : MM} {k : Int → MM → Prop} (x1 : Int) (x2 : Int) (x3 : Int)
    (hp : bLE (m 12 2) x3 (N G (d + 1) mi_X7_verdict 94 [some (vr 0), some (vi x1), none, some (vi x2), some (vi (x2 - 1))] [] m (RI k)) (N G d mi_X7_rubsOf 0 [some (vr 0), some (vi x3), none, none] [] m (RI fun z1 m2 => ∃ j4 : Nat, (x3 = (j4 : Int) ∧ j4 < 8) ∧ (∀ m3 : MM, m3 = upm m2 283 j4 z1 → (N G (d + 1) mi_X7_verdict 59 [some (vr 0), some (vi x1), some (vi x2), some (vi (x3 + 1)), none] [] m3 (RI k)))))) :
    N G (d + 1) mi_X7_verdict 59 [some (vr 0), some (vi x1), some (vi x2), some (vi x3), none] [] m (RI k) := by
  refine v_iload_n dX7_verdict_59 rfl rfl ?_
  refine v_aload_n dX7_verdict_60 rfl rfl ?_
  refine n_getr dX7_verdict_61 fo_X7_33 sh_0 rfl sr_0_5 ?_
  refine n_geti dX7_verdict_64 fo_X7_87 sh_12 rfl ?_
  obtain ⟨⟨r1, r2⟩, hA, hB⟩ := hp
  refine v_icmp_ge (tgt := 87) dX7_verdict_67 (by decide) r2 r1 (fun q => ?_) (fun q => ?_)
  · have hp := hA q
    refine v_iload_n dX7_verdict_87 rfl rfl ?_
    refine v_istore_n dX7_verdict_88 rfl (by decide) ?_
    refine v_iload_n dX7_verdict_89 rfl rfl ?_
    refine v_iconst dX7_verdict_90 ?_
    refine v_isub dX7_verdict_91 ?_
    refine v_istore dX7_verdict_92 (by decide) ?_
    exact n_weak (wk_s (wk_s (wk_n (wk_s (wk_s wk_nil))))) hp
  · have hp := hB q
    refine v_aload_n dX7_verdict_70 rfl rfl ?_
    refine n_getr dX7_verdict_71 fo_X7_65 sh_0 rfl sr_0_11 ?_
    refine v_iload_n dX7_verdict_74 rfl rfl ?_
    refine v_aload_n dX7_verdict_75 rfl rfl ?_
    refine v_iload_n dX7_verdict_76 rfl rfl ?_
    refine n_callVI (As := [vi x3]) (st := [vi x3, vr 283]) dX7_verdict_77 ml_X7_189 mo_X7_rubsOf mv_X7_rubsOf sh_0 rfl rfl rfl rfl (Nat.le_of_ble_eq_true rfl) (Nat.le_of_ble_eq_true rfl) (by decide) hp (fun z1 m2 hp => ?_)
    obtain ⟨j4, ⟨ej4, bj4⟩, hp⟩ := hp
    refine w_iast (j := j4) dX7_verdict_80 sh_283 ej4 bj4 (fun m3 em3 => ?_)
    have hp := hp m3 em3
    refine v_iinc dX7_verdict_81 rfl (by decide) ?_
    refine v_goto (tgt := 59) dX7_verdict_84 (by decide) ?_
    exact hp
theorem g_X7_verdict_94 {G : GG} {d : Nat} {m : MM} {k : Int → MM → Prop} (x1 : Int) (x3 : Int) (x4 : Int)
    (hp : bLE x4 0 (k x3 m) (N G d mi_X7_isNoWorse 0 [some (vr 0), some (vi x4), some (vi x3), none] [] m (RI fun z1 m2 => bEQ z1 0 (N G (d + 1) mi_X7_verdict 94 [some (vr 0), some (vi x1), none, some (vi x3), some (vi (x4 + (-1)))] [] m2 (RI k)) (N G d mi_X7_tellsApart 0 [some (vr 0), some (vi x4), some (vi x1), none, none, none] [] m2 (RI fun z3 m4 => bEQ z3 0 (N G (d + 1) mi_X7_verdict 94 [some (vr 0), some (vi x1), none, some (vi x3), some (vi (x4 + (-1)))] [] m4 (RI k)) (N G (d + 1) mi_X7_verdict 94 [some (vr 0), some (vi x1), none, some (vi x4), some (vi (x4 + (-1)))] [] m4 (RI k))))))) :
    N G (d + 1) mi_X7_verdict 94 [some (vr 0), some (vi x1), none, some (vi x3), some (vi x4)] [] m (RI k) := by
  refine v_iload dX7_verdict_94 rfl ?_
  obtain ⟨⟨r1, r2⟩, hA, hB⟩ := hp
  refine v_if_le (tgt := 128) dX7_verdict_96 (by decide) r1 (fun q => ?_) (fun q => ?_)
  · have hp := hA q
    refine v_iload_n dX7_verdict_128 rfl rfl ?_
    exact n_retI dX7_verdict_129 rfl hp
  · have hp := hB q
    refine v_aload_n dX7_verdict_99 rfl rfl ?_
    refine v_iload dX7_verdict_100 rfl ?_
    refine v_iload_n dX7_verdict_102 rfl rfl ?_
    refine n_callVI (As := [vi x4, vi x3]) (st := []) dX7_verdict_103 ml_X7_211 mo_X7_isNoWorse mv_X7_isNoWorse sh_0 rfl rfl rfl rfl (Nat.le_of_ble_eq_true rfl) (Nat.le_of_ble_eq_true rfl) (by decide) hp (fun z1 m2 hp => ?_)
    obtain ⟨⟨r1, r2⟩, hA, hB⟩ := hp
    refine v_if_eq (tgt := 122) dX7_verdict_106 (by decide) r1 (fun q => ?_) (fun q => ?_)
    · have hp := hA q
      refine v_iinc dX7_verdict_122 rfl (by decide) ?_
      refine v_goto (tgt := 94) dX7_verdict_125 (by decide) ?_
      exact hp
    · have hp := hB q
      refine v_aload_n dX7_verdict_109 rfl rfl ?_
      refine v_iload dX7_verdict_110 rfl ?_
      refine v_iload_n dX7_verdict_112 rfl rfl ?_
      refine n_callVI (As := [vi x4, vi x1]) (st := []) dX7_verdict_113 ml_X7_207 mo_X7_tellsApart mv_X7_tellsApart sh_0 rfl rfl rfl rfl (Nat.le_of_ble_eq_true rfl) (Nat.le_of_ble_eq_true rfl) (by decide) hp (fun z3 m4 hp => ?_)
      obtain ⟨⟨r1, r2⟩, hA, hB⟩ := hp
      refine v_if_eq (tgt := 122) dX7_verdict_116 (by decide) r1 (fun q => ?_) (fun q => ?_)
      · have hp := hA q
        refine v_iinc dX7_verdict_122 rfl (by decide) ?_
        refine v_goto (tgt := 94) dX7_verdict_125 (by decide) ?_
        exact hp
      · have hp := hB q
        refine v_iload dX7_verdict_119 rfl ?_
        refine v_istore_n dX7_verdict_121 rfl (by decide) ?_
        refine v_iinc dX7_verdict_122 rfl (by decide) ?_
        refine v_goto (tgt := 94) dX7_verdict_125 (by decide) ?_
        exact hp
theorem g_X7_quarrel_0 {G : GG} {d : Nat} {m : MM} {k : Int → MM → Prop} (x1 : Int)
    (hp : N G d mi_X7_isCourtier 0 [some (vr 0), some (vi x1)] [] m (RI fun z1 m2 => bEQ z1 0 (k (-1) m2) (N G (d + 1) mi_X7_quarrel 14 [some (vr 0), some (vi x1), some (vi (-1)), some (vi 0)] [] m2 (RI k)))) :
    N G (d + 1) mi_X7_quarrel 0 [some (vr 0), some (vi x1), none, none] [] m (RI k) := by
  refine v_aload_n dX7_quarrel_0 rfl rfl ?_
  refine v_iload_n dX7_quarrel_1 rfl rfl ?_
  refine n_callVI (As := [vi x1]) (st := []) dX7_quarrel_2 ml_X7_214 mo_X7_isCourtier mv_X7_isCourtier sh_0 rfl rfl rfl rfl (Nat.le_of_ble_eq_true rfl) (Nat.le_of_ble_eq_true rfl) (by decide) hp (fun z1 m2 hp => ?_)
  obtain ⟨⟨r1, r2⟩, hA, hB⟩ := hp
  refine v_if_ne (tgt := 10) dX7_quarrel_5 (by decide) r1 (fun q => ?_) (fun q => ?_)
  · have hp := hB q
    refine v_iconst dX7_quarrel_10 ?_
    refine v_istore_n dX7_quarrel_11 rfl (by decide) ?_
    refine v_iconst dX7_quarrel_12 ?_
    refine v_istore_n dX7_quarrel_13 rfl (by decide) ?_
    exact hp
  · have hp := hA q
    refine v_iconst dX7_quarrel_8 ?_
    exact n_retI dX7_quarrel_9 rfl hp
theorem g_X7_quarrel_14 {G : GG} {d : Nat} {m : MM} {k : Int → MM → Prop} (x1 : Int) (x2 : Int) (x3 : Int)
    (hp : bLE (m 12 2) x3 (k 0 m) (∃ j1 : Nat, (x3 = (j1 : Int) ∧ j1 < 8) ∧ (bEQ (m 17 j1) x1 (bEQ x2 (-1) (N G (d + 1) mi_X7_quarrel 14 [some (vr 0), some (vi x1), some (vi x3), some (vi (x3 + 1))] [] m (RI k)) (∃ j2 : Nat, (x2 = (j2 : Int) ∧ j2 < 8) ∧ (∃ j3 : Nat, (x3 = (j3 : Int) ∧ j3 < 8) ∧ (N G d mi_X0_unlikePlaces 0 [some (vi (m 19 j2)), some (vi (m 19 j3))] [] m (RI fun z4 m5 => k z4 m5))))) (N G (d + 1) mi_X7_quarrel 14 [some (vr 0), some (vi x1), some (vi x2), some (vi (x3 + 1))] [] m (RI k))))) :
    N G (d + 1) mi_X7_quarrel 14 [some (vr 0), some (vi x1), some (vi x2), some (vi x3)] [] m (RI k) := by
  refine v_iload_n dX7_quarrel_14 rfl rfl ?_
  refine v_aload_n dX7_quarrel_15 rfl rfl ?_
  refine n_getr dX7_quarrel_16 fo_X7_33 sh_0 rfl sr_0_5 ?_
  refine n_geti dX7_quarrel_19 fo_X7_87 sh_12 rfl ?_
  obtain ⟨⟨r1, r2⟩, hA, hB⟩ := hp
  refine v_icmp_ge (tgt := 82) dX7_quarrel_22 (by decide) r2 r1 (fun q => ?_) (fun q => ?_)
  · have hp := hA q
    refine v_iconst dX7_quarrel_82 ?_
    exact n_retI dX7_quarrel_83 rfl hp
  · have hp := hB q
    refine v_aload_n dX7_quarrel_25 rfl rfl ?_
    refine n_getr dX7_quarrel_26 fo_X7_33 sh_0 rfl sr_0_5 ?_
    refine n_getr dX7_quarrel_29 fo_X7_150 sh_12 rfl sr_12_9 ?_
    refine n_getr dX7_quarrel_32 fo_X7_183 sh_16 rfl sr_16_1 ?_
    refine v_iload_n dX7_quarrel_35 rfl rfl ?_
    obtain ⟨j1, ⟨ej1, bj1⟩, hp⟩ := hp
    refine n_iald (j := j1) dX7_quarrel_36 sh_17 ej1 bj1 ?_
    refine v_iload_n dX7_quarrel_37 rfl rfl ?_
    obtain ⟨⟨r1, r2⟩, hA, hB⟩ := hp
    refine v_icmp_ne (tgt := 76) dX7_quarrel_38 (by decide) r1 r2 (fun q => ?_) (fun q => ?_)
    · have hp := hB q
      refine v_iinc dX7_quarrel_76 rfl (by decide) ?_
      refine v_goto (tgt := 14) dX7_quarrel_79 (by decide) ?_
      exact hp
    · have hp := hA q
      refine v_iload_n dX7_quarrel_41 rfl rfl ?_
      refine v_iconst dX7_quarrel_42 ?_
      obtain ⟨⟨r1, r2⟩, hA, hB⟩ := hp
      refine v_icmp_eq (tgt := 74) dX7_quarrel_43 (by decide) r1 r2 (fun q => ?_) (fun q => ?_)
      · have hp := hA q
        refine v_iload_n dX7_quarrel_74 rfl rfl ?_
        refine v_istore_n dX7_quarrel_75 rfl (by decide) ?_
        refine v_iinc dX7_quarrel_76 rfl (by decide) ?_
        refine v_goto (tgt := 14) dX7_quarrel_79 (by decide) ?_
        exact hp
      · have hp := hB q
        refine v_aload_n dX7_quarrel_46 rfl rfl ?_
        refine n_getr dX7_quarrel_47 fo_X7_33 sh_0 rfl sr_0_5 ?_
        refine n_getr dX7_quarrel_50 fo_X7_150 sh_12 rfl sr_12_9 ?_
        refine n_getr dX7_quarrel_53 fo_X7_177 sh_16 rfl sr_16_3 ?_
        refine v_iload_n dX7_quarrel_56 rfl rfl ?_
        obtain ⟨j2, ⟨ej2, bj2⟩, hp⟩ := hp
        refine n_iald (j := j2) dX7_quarrel_57 sh_19 ej2 bj2 ?_
        refine v_aload_n dX7_quarrel_58 rfl rfl ?_
        refine n_getr dX7_quarrel_59 fo_X7_33 sh_0 rfl sr_0_5 ?_
        refine n_getr dX7_quarrel_62 fo_X7_150 sh_12 rfl sr_12_9 ?_
        refine n_getr dX7_quarrel_65 fo_X7_177 sh_16 rfl sr_16_3 ?_
        refine v_iload_n dX7_quarrel_68 rfl rfl ?_
        obtain ⟨j3, ⟨ej3, bj3⟩, hp⟩ := hp
        refine n_iald (j := j3) dX7_quarrel_69 sh_19 ej3 bj3 ?_
        refine n_callSI (As := [vi (m 19 j2), vi (m 19 j3)]) (st := []) dX7_quarrel_70 ml_X7_217 mo_X0_unlikePlaces ms_X0_unlikePlaces rfl rfl (Nat.le_of_ble_eq_true rfl) (Nat.le_of_ble_eq_true rfl) (by decide) hp (fun z4 m5 hp => ?_)
        exact n_retI dX7_quarrel_73 rfl hp
theorem g_X7_shown_0 {G : GG} {d : Nat} {m : MM} {k : Int → MM → Prop} (x1 : Int)
    (hp : bEQ x1 (-1) (∀ m7 : MM, m7 = upm m 12 8 0 → (∀ m8 : MM, m8 = upm m7 12 7 0 → (k 0 m8))) (N G d mi_X7_isThing 0 [some (vr 0), some (vi x1)] [] m (RI fun z1 m2 => bEQ z1 0 (k (-2) m2) (bLT (m2 12 7) 4 (N G d mi_X0_withPlace 0 [some (vi (m2 12 8)), some (vi (m2 12 7)), some (vi x1)] [] m2 (RI fun z3 m4 => ∀ m5 : MM, m5 = upm m4 12 8 z3 → (∀ m6 : MM, m6 = upm m5 12 7 ((m5 12 7) + 1) → (k (m6 12 7) m6)))) (k (-2) m2))))) :
    N G (d + 1) mi_X7_shown 0 [some (vr 0), some (vi x1)] [] m (RI k) := by
  refine v_iload_n dX7_shown_0 rfl rfl ?_
  refine v_iconst dX7_shown_1 ?_
  obtain ⟨⟨r1, r2⟩, hA, hB⟩ := hp
  refine v_icmp_ne (tgt := 23) dX7_shown_2 (by decide) r1 r2 (fun q => ?_) (fun q => ?_)
  · have hp := hB q
    refine v_aload_n dX7_shown_23 rfl rfl ?_
    refine v_iload_n dX7_shown_24 rfl rfl ?_
    refine n_callVI (As := [vi x1]) (st := []) dX7_shown_25 ml_X7_226 mo_X7_isThing mv_X7_isThing sh_0 rfl rfl rfl rfl (Nat.le_of_ble_eq_true rfl) (Nat.le_of_ble_eq_true rfl) (by decide) hp (fun z1 m2 hp => ?_)
    obtain ⟨⟨r1, r2⟩, hA, hB⟩ := hp
    refine v_if_eq (tgt := 42) dX7_shown_28 (by decide) r1 (fun q => ?_) (fun q => ?_)
    · have hp := hA q
      refine v_bipush dX7_shown_42 rfl ?_
      exact n_retI dX7_shown_44 rfl hp
    · have hp := hB q
      refine v_aload_n dX7_shown_31 rfl rfl ?_
      refine n_getr dX7_shown_32 fo_X7_33 sh_0 rfl sr_0_5 ?_
      refine n_geti dX7_shown_35 fo_X7_223 sh_12 rfl ?_
      refine v_iconst dX7_shown_38 ?_
      obtain ⟨⟨r1, r2⟩, hA, hB⟩ := hp
      refine v_icmp_lt (tgt := 45) dX7_shown_39 (by decide) r1 r2 (fun q => ?_) (fun q => ?_)
      · have hp := hA q
        refine v_aload_n dX7_shown_45 rfl rfl ?_
        refine n_getr dX7_shown_46 fo_X7_33 sh_0 rfl sr_0_5 ?_
        refine v_aload_n dX7_shown_49 rfl rfl ?_
        refine n_getr dX7_shown_50 fo_X7_33 sh_0 rfl sr_0_5 ?_
        refine n_geti dX7_shown_53 fo_X7_220 sh_12 rfl ?_
        refine v_aload_n dX7_shown_56 rfl rfl ?_
        refine n_getr dX7_shown_57 fo_X7_33 sh_0 rfl sr_0_5 ?_
        refine n_geti dX7_shown_60 fo_X7_223 sh_12 rfl ?_
        refine v_iload_n dX7_shown_63 rfl rfl ?_
        refine n_callSI (As := [vi (m2 12 8), vi (m2 12 7), vi x1]) (st := [vr 12]) dX7_shown_64 ml_X7_229 mo_X0_withPlace ms_X0_withPlace rfl rfl (Nat.le_of_ble_eq_true rfl) (Nat.le_of_ble_eq_true rfl) (by decide) hp (fun z3 m4 hp => ?_)
        refine w_puti dX7_shown_67 fw_X7_220 sh_12 rfl (fun m5 em5 => ?_)
        have hp := hp m5 em5
        refine v_aload_n dX7_shown_70 rfl rfl ?_
        refine n_getr dX7_shown_71 fo_X7_33 sh_0 rfl sr_0_5 ?_
        refine v_dupr dX7_shown_74 ?_
        refine n_geti dX7_shown_75 fo_X7_223 sh_12 rfl ?_
        refine v_iconst dX7_shown_78 ?_
        refine v_iadd dX7_shown_79 ?_
        refine w_puti dX7_shown_80 fw_X7_223 sh_12 rfl (fun m6 em6 => ?_)
        have hp := hp m6 em6
        refine v_aload_n dX7_shown_83 rfl rfl ?_
        refine n_getr dX7_shown_84 fo_X7_33 sh_0 rfl sr_0_5 ?_
        refine n_geti dX7_shown_87 fo_X7_223 sh_12 rfl ?_
        exact n_retI dX7_shown_90 rfl hp
      · have hp := hB q
        refine v_bipush dX7_shown_42 rfl ?_
        exact n_retI dX7_shown_44 rfl hp
  · have hp := hA q
    refine v_aload_n dX7_shown_5 rfl rfl ?_
    refine n_getr dX7_shown_6 fo_X7_33 sh_0 rfl sr_0_5 ?_
    refine v_iconst dX7_shown_9 ?_
    refine w_puti dX7_shown_10 fw_X7_220 sh_12 rfl (fun m7 em7 => ?_)
    have hp := hp m7 em7
    refine v_aload_n dX7_shown_13 rfl rfl ?_
    refine n_getr dX7_shown_14 fo_X7_33 sh_0 rfl sr_0_5 ?_
    refine v_iconst dX7_shown_17 ?_
    refine w_puti dX7_shown_18 fw_X7_223 sh_12 rfl (fun m8 em8 => ?_)
    have hp := hp m8 em8
    refine v_iconst dX7_shown_21 ?_
    exact n_retI dX7_shown_22 rfl hp
theorem g_X7_how_0 {G : GG} {d : Nat} {m : MM} {k : Int → MM → Prop} (x1 : Int) (x2 : Int) (x3 : Int)
    (hp : N G d mi_X7_isEye 0 [some (vr 0), some (vi x1)] [] m (RI fun z1 m2 => bEQ z1 0 (k (-3) m2) (bLT x2 0 (k (-3) m2) (bLT 3 x2 (k (-3) m2) (bLT x3 (-2) (k (-3) m2) (bLT x3 x2 (N G d mi_X7_findRows 0 [some (vr 0), some (vi x1), some (vi x2)] [] m2 (RV fun m4 => bEQ x3 (-1) (k (m4 279 5) m4) (bEQ x3 (-2) (bLE (m4 279 5) 0 (k 0 m4) (k (m4 279 6) m4)) (bLE (m4 279 5) 0 (k (-3) m4) (∃ j5 : Nat, (x3 = (j5 : Int) ∧ j5 < 3) ∧ (k (m4 281 j5) m4)))))) (k (-3) m2))))))) :
    N G (d + 1) mi_X7_how 0 [some (vr 0), some (vi x1), some (vi x2), some (vi x3)] [] m (RI k) := by
  refine v_aload_n dX7_how_0 rfl rfl ?_
  refine v_iload_n dX7_how_1 rfl rfl ?_
  refine n_callVI (As := [vi x1]) (st := []) dX7_how_2 ml_X7_174 mo_X7_isEye mv_X7_isEye sh_0 rfl rfl rfl rfl (Nat.le_of_ble_eq_true rfl) (Nat.le_of_ble_eq_true rfl) (by decide) hp (fun z1 m2 hp => ?_)
  obtain ⟨⟨r1, r2⟩, hA, hB⟩ := hp
  refine v_if_eq (tgt := 28) dX7_how_5 (by decide) r1 (fun q => ?_) (fun q => ?_)
  · have hp := hA q
    refine v_bipush dX7_how_28 rfl ?_
    exact n_retI dX7_how_30 rfl hp
  · have hp := hB q
    refine v_iload_n dX7_how_8 rfl rfl ?_
    obtain ⟨⟨r1, r2⟩, hA, hB⟩ := hp
    refine v_if_lt (tgt := 28) dX7_how_9 (by decide) r1 (fun q => ?_) (fun q => ?_)
    · have hp := hA q
      refine v_bipush dX7_how_28 rfl ?_
      exact n_retI dX7_how_30 rfl hp
    · have hp := hB q
      refine v_iload_n dX7_how_12 rfl rfl ?_
      refine v_iconst dX7_how_13 ?_
      obtain ⟨⟨r1, r2⟩, hA, hB⟩ := hp
      refine v_icmp_gt (tgt := 28) dX7_how_14 (by decide) r2 r1 (fun q => ?_) (fun q => ?_)
      · have hp := hA q
        refine v_bipush dX7_how_28 rfl ?_
        exact n_retI dX7_how_30 rfl hp
      · have hp := hB q
        refine v_iload_n dX7_how_17 rfl rfl ?_
        refine v_bipush dX7_how_18 rfl ?_
        obtain ⟨⟨r1, r2⟩, hA, hB⟩ := hp
        refine v_icmp_lt (tgt := 28) dX7_how_20 (by decide) r1 r2 (fun q => ?_) (fun q => ?_)
        · have hp := hA q
          refine v_bipush dX7_how_28 rfl ?_
          exact n_retI dX7_how_30 rfl hp
        · have hp := hB q
          refine v_iload_n dX7_how_23 rfl rfl ?_
          refine v_iload_n dX7_how_24 rfl rfl ?_
          obtain ⟨⟨r1, r2⟩, hA, hB⟩ := hp
          refine v_icmp_lt (tgt := 31) dX7_how_25 (by decide) r1 r2 (fun q => ?_) (fun q => ?_)
          · have hp := hA q
            refine v_aload_n dX7_how_31 rfl rfl ?_
            refine v_iload_n dX7_how_32 rfl rfl ?_
            refine v_iload_n dX7_how_33 rfl rfl ?_
            refine n_callVV (As := [vi x1, vi x2]) (st := []) dX7_how_34 ml_X7_232 mo_X7_findRows mv_X7_findRows sh_0 rfl rfl rfl rfl (Nat.le_of_ble_eq_true rfl) (Nat.le_of_ble_eq_true rfl) (by decide) hp (fun m4 hp => ?_)
            refine v_iload_n dX7_how_37 rfl rfl ?_
            refine v_iconst dX7_how_38 ?_
            obtain ⟨⟨r1, r2⟩, hA, hB⟩ := hp
            refine v_icmp_ne (tgt := 50) dX7_how_39 (by decide) r1 r2 (fun q => ?_) (fun q => ?_)
            · have hp := hB q
              refine v_iload_n dX7_how_50 rfl rfl ?_
              refine v_bipush dX7_how_51 rfl ?_
              obtain ⟨⟨r1, r2⟩, hA, hB⟩ := hp
              refine v_icmp_ne (tgt := 78) dX7_how_53 (by decide) r1 r2 (fun q => ?_) (fun q => ?_)
              · have hp := hB q
                refine v_aload_n dX7_how_78 rfl rfl ?_
                refine n_getr dX7_how_79 fo_X7_57 sh_0 rfl sr_0_9 ?_
                refine n_geti dX7_how_82 fo_X7_235 sh_279 rfl ?_
                obtain ⟨⟨r1, r2⟩, hA, hB⟩ := hp
                refine v_if_le (tgt := 100) dX7_how_85 (by decide) r1 (fun q => ?_) (fun q => ?_)
                · have hp := hA q
                  refine v_bipush dX7_how_100 rfl ?_
                  exact n_retI dX7_how_102 rfl hp
                · have hp := hB q
                  refine v_aload_n dX7_how_88 rfl rfl ?_
                  refine n_getr dX7_how_89 fo_X7_57 sh_0 rfl sr_0_9 ?_
                  refine n_getr dX7_how_92 fo_X7_241 sh_279 rfl sr_279_8 ?_
                  refine v_iload_n dX7_how_95 rfl rfl ?_
                  obtain ⟨j5, ⟨ej5, bj5⟩, hp⟩ := hp
                  refine n_iald (j := j5) dX7_how_96 sh_281 ej5 bj5 ?_
                  refine v_goto (tgt := 102) dX7_how_97 (by decide) ?_
                  exact n_retI dX7_how_102 rfl hp
              · have hp := hA q
                refine v_aload_n dX7_how_56 rfl rfl ?_
                refine n_getr dX7_how_57 fo_X7_57 sh_0 rfl sr_0_9 ?_
                refine n_geti dX7_how_60 fo_X7_235 sh_279 rfl ?_
                obtain ⟨⟨r1, r2⟩, hA, hB⟩ := hp
                refine v_if_le (tgt := 76) dX7_how_63 (by decide) r1 (fun q => ?_) (fun q => ?_)
                · have hp := hA q
                  refine v_iconst dX7_how_76 ?_
                  exact n_retI dX7_how_77 rfl hp
                · have hp := hB q
                  refine v_aload_n dX7_how_66 rfl rfl ?_
                  refine n_getr dX7_how_67 fo_X7_57 sh_0 rfl sr_0_9 ?_
                  refine n_geti dX7_how_70 fo_X7_238 sh_279 rfl ?_
                  refine v_goto (tgt := 77) dX7_how_73 (by decide) ?_
                  exact n_retI dX7_how_77 rfl hp
            · have hp := hA q
              refine v_aload_n dX7_how_42 rfl rfl ?_
              refine n_getr dX7_how_43 fo_X7_57 sh_0 rfl sr_0_9 ?_
              refine n_geti dX7_how_46 fo_X7_235 sh_279 rfl ?_
              exact n_retI dX7_how_49 rfl hp
          · have hp := hB q
            refine v_bipush dX7_how_28 rfl ?_
            exact n_retI dX7_how_30 rfl hp
theorem g_X7_supper_0 {G : GG} {d : Nat} {m : MM} {k : Int → MM → Prop} (x1 : Int) (x2 : Int) (x3 : Int)
    (hp : N G d mi_X7_isText 0 [some (vr 0), some (vi x1)] [] m (RI fun z1 m2 => bEQ z1 0 (k (-1) m2) (N G d mi_X7_isEye 0 [some (vr 0), some (vi x2)] [] m2 (RI fun z3 m4 => bEQ z3 0 (k (-1) m4) (bLE (-1) x3 (N G (d + 1) mi_X7_supper 29 [some (vr 0), some (vi x1), some (vi x2), some (vi x3), some (vi 0), some (vi 0), none] [] m4 (RI k)) (k (-1) m4)))))) :
    N G (d + 1) mi_X7_supper 0 [some (vr 0), some (vi x1), some (vi x2), some (vi x3), none, none, none] [] m (RI k) := by
  refine v_aload_n dX7_supper_0 rfl rfl ?_
  refine v_iload_n dX7_supper_1 rfl rfl ?_
  refine n_callVI (As := [vi x1]) (st := []) dX7_supper_2 ml_X7_120 mo_X7_isText mv_X7_isText sh_0 rfl rfl rfl rfl (Nat.le_of_ble_eq_true rfl) (Nat.le_of_ble_eq_true rfl) (by decide) hp (fun z1 m2 hp => ?_)
  obtain ⟨⟨r1, r2⟩, hA, hB⟩ := hp
  refine v_if_eq (tgt := 21) dX7_supper_5 (by decide) r1 (fun q => ?_) (fun q => ?_)
  · have hp := hA q
    refine v_iconst dX7_supper_21 ?_
    exact n_retI dX7_supper_22 rfl hp
  · have hp := hB q
    refine v_aload_n dX7_supper_8 rfl rfl ?_
    refine v_iload_n dX7_supper_9 rfl rfl ?_
    refine n_callVI (As := [vi x2]) (st := []) dX7_supper_10 ml_X7_174 mo_X7_isEye mv_X7_isEye sh_0 rfl rfl rfl rfl (Nat.le_of_ble_eq_true rfl) (Nat.le_of_ble_eq_true rfl) (by decide) hp (fun z3 m4 hp => ?_)
    obtain ⟨⟨r1, r2⟩, hA, hB⟩ := hp
    refine v_if_eq (tgt := 21) dX7_supper_13 (by decide) r1 (fun q => ?_) (fun q => ?_)
    · have hp := hA q
      refine v_iconst dX7_supper_21 ?_
      exact n_retI dX7_supper_22 rfl hp
    · have hp := hB q
      refine v_iload_n dX7_supper_16 rfl rfl ?_
      refine v_iconst dX7_supper_17 ?_
      obtain ⟨⟨r1, r2⟩, hA, hB⟩ := hp
      refine v_icmp_ge (tgt := 23) dX7_supper_18 (by decide) r2 r1 (fun q => ?_) (fun q => ?_)
      · have hp := hA q
        refine v_iconst dX7_supper_23 ?_
        refine v_istore dX7_supper_24 (by decide) ?_
        refine v_iconst dX7_supper_26 ?_
        refine v_istore dX7_supper_27 (by decide) ?_
        exact hp
      · have hp := hB q
        refine v_iconst dX7_supper_21 ?_
        exact n_retI dX7_supper_22 rfl hp
theorem g_X7_supper_29 {G : GG} {d : Nat} {m : MM} {k : Int → MM → Prop} (x1 : Int) (x2 : Int) (x3 : Int) (x4 : Int) (x5 : Int)
    (hp : bLE (m 12 2) x5 (bEQ x3 (-1) (k x4 m) (k (-1) m)) (N G (d + 1) mi_X7_supper 47 [some (vr 0), some (vi x1), some (vi x2), some (vi x3), some (vi x4), some (vi x5), some (vi (x5 + 1))] [] m (RI k))) :
    N G (d + 1) mi_X7_supper 29 [some (vr 0), some (vi x1), some (vi x2), some (vi x3), some (vi x4), some (vi x5), none] [] m (RI k) := by
  refine v_iload dX7_supper_29 rfl ?_
  refine v_aload_n dX7_supper_31 rfl rfl ?_
  refine n_getr dX7_supper_32 fo_X7_33 sh_0 rfl sr_0_5 ?_
  refine n_geti dX7_supper_35 fo_X7_87 sh_12 rfl ?_
  obtain ⟨⟨r1, r2⟩, hA, hB⟩ := hp
  refine v_icmp_ge (tgt := 143) dX7_supper_38 (by decide) r2 r1 (fun q => ?_) (fun q => ?_)
  · have hp := hA q
    refine v_iload_n dX7_supper_143 rfl rfl ?_
    refine v_iconst dX7_supper_144 ?_
    obtain ⟨⟨r1, r2⟩, hA, hB⟩ := hp
    refine v_icmp_ne (tgt := 153) dX7_supper_145 (by decide) r1 r2 (fun q => ?_) (fun q => ?_)
    · have hp := hB q
      refine v_iconst dX7_supper_153 ?_
      exact n_retI dX7_supper_154 rfl hp
    · have hp := hA q
      refine v_iload dX7_supper_148 rfl ?_
      refine v_goto (tgt := 154) dX7_supper_150 (by decide) ?_
      exact n_retI dX7_supper_154 rfl hp
  · have hp := hB q
    refine v_iload dX7_supper_41 rfl ?_
    refine v_iconst dX7_supper_43 ?_
    refine v_iadd dX7_supper_44 ?_
    refine v_istore dX7_supper_45 (by decide) ?_
    exact hp
theorem g_X7_supper_47 {G : GG} {d : Nat} {m : MM} {k : Int → MM → Prop} (x1 : Int) (x2 : Int) (x3 : Int) (x4 : Int) (x5 : Int) (x6 : Int)
    (hp : bLE (m 12 2) x6 (N G (d + 1) mi_X7_supper 29 [some (vr 0), some (vi x1), some (vi x2), some (vi x3), some (vi x4), some (vi (x5 + 1)), none] [] m (RI k)) (N G d mi_X0_copyFrom 0 [some (vr 272), some (vr 16)] [] m (RV fun m2 => N G d mi_X0_exchange 0 [some (vr 272), some (vi x5), some (vi x6), none] [] m2 (RV fun m4 => ∃ j5 : Nat, (x1 = (j5 : Int) ∧ j5 < 4) ∧ (N G d mi_X7_tell 0 [some (vr 0), some (vr (284 + 5 * j5)), none] [] m4 (RV fun m7 => ∃ j8 : Nat, (x2 = (j8 : Int) ∧ j8 < 8) ∧ (bEQ (m7 275 j8) (m7 12 8) (bEQ x4 x3 (k ((8 * x5) + x6) m7) (N G (d + 1) mi_X7_supper 47 [some (vr 0), some (vi x1), some (vi x2), some (vi x3), some (vi (x4 + 1)), some (vi x5), some (vi (x6 + 1))] [] m7 (RI k))) (N G (d + 1) mi_X7_supper 47 [some (vr 0), some (vi x1), some (vi x2), some (vi x3), some (vi x4), some (vi x5), some (vi (x6 + 1))] [] m7 (RI k))))))))) :
    N G (d + 1) mi_X7_supper 47 [some (vr 0), some (vi x1), some (vi x2), some (vi x3), some (vi x4), some (vi x5), some (vi x6)] [] m (RI k) := by
  refine v_iload dX7_supper_47 rfl ?_
  refine v_aload_n dX7_supper_49 rfl rfl ?_
  refine n_getr dX7_supper_50 fo_X7_33 sh_0 rfl sr_0_5 ?_
  refine n_geti dX7_supper_53 fo_X7_87 sh_12 rfl ?_
  obtain ⟨⟨r1, r2⟩, hA, hB⟩ := hp
  refine v_icmp_ge (tgt := 137) dX7_supper_56 (by decide) r2 r1 (fun q => ?_) (fun q => ?_)
  · have hp := hA q
    refine v_iinc dX7_supper_137 rfl (by decide) ?_
    refine v_goto (tgt := 29) dX7_supper_140 (by decide) ?_
    exact n_weak (wk_s (wk_s (wk_s (wk_s (wk_s (wk_s (wk_n wk_nil))))))) hp
  · have hp := hB q
    refine v_aload_n dX7_supper_59 rfl rfl ?_
    refine n_getr dX7_supper_60 fo_X7_43 sh_0 rfl sr_0_7 ?_
    refine v_aload_n dX7_supper_63 rfl rfl ?_
    refine n_getr dX7_supper_64 fo_X7_33 sh_0 rfl sr_0_5 ?_
    refine n_getr dX7_supper_67 fo_X7_150 sh_12 rfl sr_12_9 ?_
    refine n_callVV (As := [vr 16]) (st := []) dX7_supper_70 ml_X7_192 mo_X0_copyFrom mv_X0_copyFrom sh_272 rfl rfl rfl rfl (Nat.le_of_ble_eq_true rfl) (Nat.le_of_ble_eq_true rfl) (by decide) hp (fun m2 hp => ?_)
    refine v_aload_n dX7_supper_73 rfl rfl ?_
    refine n_getr dX7_supper_74 fo_X7_43 sh_0 rfl sr_0_7 ?_
    refine v_iload dX7_supper_77 rfl ?_
    refine v_iload dX7_supper_79 rfl ?_
    refine n_callVV (As := [vi x5, vi x6]) (st := []) dX7_supper_81 ml_X7_163 mo_X0_exchange mv_X0_exchange sh_272 rfl rfl rfl rfl (Nat.le_of_ble_eq_true rfl) (Nat.le_of_ble_eq_true rfl) (by decide) hp (fun m4 hp => ?_)
    refine v_aload_n dX7_supper_84 rfl rfl ?_
    refine v_aload_n dX7_supper_85 rfl rfl ?_
    refine n_getr dX7_supper_86 fo_X7_26 sh_0 rfl sr_0_4 ?_
    refine v_iload_n dX7_supper_89 rfl rfl ?_
    obtain ⟨j5, ⟨ej5, bj5⟩, hp⟩ := hp
    refine n_aald5 (j := j5) dX7_supper_90 sh_11 ej5 bj5 (sr_scr j5) ?_
    refine n_callVV (As := [vr (284 + 5 * j5)]) (st := []) dX7_supper_91 ml_X7_195 mo_X7_tell mv_X7_tell sh_0 rfl rfl rfl rfl (Nat.le_of_ble_eq_true rfl) (Nat.le_of_ble_eq_true rfl) (by decide) hp (fun m7 hp => ?_)
    refine v_aload_n dX7_supper_94 rfl rfl ?_
    refine n_getr dX7_supper_95 fo_X7_43 sh_0 rfl sr_0_7 ?_
    refine n_getr dX7_supper_98 fo_X7_177 sh_272 rfl sr_272_3 ?_
    refine v_iload_n dX7_supper_101 rfl rfl ?_
    obtain ⟨j8, ⟨ej8, bj8⟩, hp⟩ := hp
    refine n_iald (j := j8) dX7_supper_102 sh_275 ej8 bj8 ?_
    refine v_aload_n dX7_supper_103 rfl rfl ?_
    refine n_getr dX7_supper_104 fo_X7_33 sh_0 rfl sr_0_5 ?_
    refine n_geti dX7_supper_107 fo_X7_220 sh_12 rfl ?_
    obtain ⟨⟨r1, r2⟩, hA, hB⟩ := hp
    refine v_icmp_ne (tgt := 131) dX7_supper_110 (by decide) r1 r2 (fun q => ?_) (fun q => ?_)
    · have hp := hB q
      refine v_iinc dX7_supper_131 rfl (by decide) ?_
      refine v_goto (tgt := 47) dX7_supper_134 (by decide) ?_
      exact hp
    · have hp := hA q
      refine v_iload dX7_supper_113 rfl ?_
      refine v_iload_n dX7_supper_115 rfl rfl ?_
      obtain ⟨⟨r1, r2⟩, hA, hB⟩ := hp
      refine v_icmp_ne (tgt := 128) dX7_supper_116 (by decide) r1 r2 (fun q => ?_) (fun q => ?_)
      · have hp := hB q
        refine v_iinc dX7_supper_128 rfl (by decide) ?_
        refine v_iinc dX7_supper_131 rfl (by decide) ?_
        refine v_goto (tgt := 47) dX7_supper_134 (by decide) ?_
        exact hp
      · have hp := hA q
        refine v_bipush dX7_supper_119 rfl ?_
        refine v_iload dX7_supper_121 rfl ?_
        refine v_imul dX7_supper_123 ?_
        refine v_iload dX7_supper_124 rfl ?_
        refine v_iadd dX7_supper_126 ?_
        exact n_retI dX7_supper_127 rfl hp
theorem g_X7_image_0 {G : GG} {d : Nat} {m : MM} {k : Int → MM → Prop} 
    (hp : N G d mi_X6_copyFrom 0 [some (vr 142), some (vr 12)] [] m (RV fun m2 => k (m2 16 0) m2)) :
    N G (d + 1) mi_X7_image 0 [some (vr 0)] [] m (RI k) := by
  refine v_aload_n dX7_image_0 rfl rfl ?_
  refine n_getr dX7_image_1 fo_X7_37 sh_0 rfl sr_0_6 ?_
  refine v_aload_n dX7_image_4 rfl rfl ?_
  refine n_getr dX7_image_5 fo_X7_33 sh_0 rfl sr_0_5 ?_
  refine n_callVV (As := [vr 12]) (st := []) dX7_image_8 ml_X7_244 mo_X6_copyFrom mv_X6_copyFrom sh_142 rfl rfl rfl rfl (Nat.le_of_ble_eq_true rfl) (Nat.le_of_ble_eq_true rfl) (by decide) hp (fun m2 hp => ?_)
  refine v_aload_n dX7_image_11 rfl rfl ?_
  refine n_getr dX7_image_12 fo_X7_33 sh_0 rfl sr_0_5 ?_
  refine n_getr dX7_image_15 fo_X7_150 sh_12 rfl sr_12_9 ?_
  refine n_geti dX7_image_18 fo_X7_247 sh_16 rfl ?_
  exact n_retI dX7_image_21 rfl hp
theorem g_X7_back_0 {G : GG} {d : Nat} {m : MM} {k : Int → MM → Prop} 
    (hp : N G d mi_X6_copyFrom 0 [some (vr 12), some (vr 142)] [] m (RV fun m2 => k (m2 16 0) m2)) :
    N G (d + 1) mi_X7_back 0 [some (vr 0)] [] m (RI k) := by
  refine v_aload_n dX7_back_0 rfl rfl ?_
  refine n_getr dX7_back_1 fo_X7_33 sh_0 rfl sr_0_5 ?_
  refine v_aload_n dX7_back_4 rfl rfl ?_
  refine n_getr dX7_back_5 fo_X7_37 sh_0 rfl sr_0_6 ?_
  refine n_callVV (As := [vr 142]) (st := []) dX7_back_8 ml_X7_244 mo_X6_copyFrom mv_X6_copyFrom sh_12 rfl rfl rfl rfl (Nat.le_of_ble_eq_true rfl) (Nat.le_of_ble_eq_true rfl) (by decide) hp (fun m2 hp => ?_)
  refine v_aload_n dX7_back_11 rfl rfl ?_
  refine n_getr dX7_back_12 fo_X7_33 sh_0 rfl sr_0_5 ?_
  refine n_getr dX7_back_15 fo_X7_150 sh_12 rfl sr_12_9 ?_
  refine n_geti dX7_back_18 fo_X7_247 sh_16 rfl ?_
  exact n_retI dX7_back_21 rfl hp
theorem g_X7_about_0 {G : GG} {d : Nat} {m : MM} {k : Int → MM → Prop} (x1 : Int)
    (hp : bLT x1 20 (bLT x1 10 ((rng x1) ∧ (x1 = 0 → (k (m 0 0) m)) ∧ (x1 = 1 → (k (m 12 0) m)) ∧ (x1 = 2 → (k (m 12 2) m)) ∧ (x1 = 3 → (k (m 16 0) m)) ∧ (x1 = 4 → (k (m 12 5) m)) ∧ (x1 = 5 → (k (m 12 6) m)) ∧ (x1 = 6 → (k (m 20 2) m)) ∧ (x1 = 7 → (k (m 12 7) m)) ∧ (x1 = 8 → (k (m 0 2) m)) ∧ ((x1 < 0 ∨ 8 < x1) → (k (-2) m))) (N G d mi_X7_isThing 0 [some (vr 0), some (vi (x1 - 10))] [] m (RI fun z1 m2 => bEQ z1 0 (k (-2) m2) (∃ j3 : Nat, ((x1 - 10) = (j3 : Int) ∧ j3 < 8) ∧ (k (m2 13 j3) m2))))) (N G d mi_X7_isCourtier 0 [some (vr 0), some (vi (x1 - 20))] [] m (RI fun z4 m5 => bEQ z4 0 (k (-2) m5) (N G d mi_X0_wornSet 0 [some (vr 16), some (vi (x1 - 20)), none, none] [] m5 (RI fun z6 m7 => k z6 m7))))) :
    N G (d + 1) mi_X7_about 0 [some (vr 0), some (vi x1)] [] m (RI k) := by
  refine v_iload_n dX7_about_0 rfl rfl ?_
  refine v_bipush dX7_about_1 rfl ?_
  obtain ⟨⟨r1, r2⟩, hA, hB⟩ := hp
  refine v_icmp_lt (tgt := 37) dX7_about_3 (by decide) r1 r2 (fun q => ?_) (fun q => ?_)
  · have hp := hA q
    refine v_iload_n dX7_about_37 rfl rfl ?_
    refine v_bipush dX7_about_38 rfl ?_
    obtain ⟨⟨r1, r2⟩, hA, hB⟩ := hp
    refine v_icmp_lt (tgt := 72) dX7_about_40 (by decide) r1 r2 (fun q => ?_) (fun q => ?_)
    · have hp := hA q
      refine v_iload_n dX7_about_72 rfl rfl ?_
      obtain ⟨hz, h_0, h_1, h_2, h_3, h_4, h_5, h_6, h_7, h_8, hd⟩ := hp
      by_cases hq : x1 < 0 ∨ 8 < x1
      · have hp := hd hq
        refine v_tableOut (tgt := 196) dX7_about_73 hz hq (by decide) ?_
        refine v_bipush dX7_about_196 rfl ?_
        exact n_retI dX7_about_198 rfl hp
      have hc : x1 = 0 ∨ x1 = 1 ∨ x1 = 2 ∨ x1 = 3 ∨ x1 = 4 ∨ x1 = 5 ∨ x1 = 6 ∨ x1 = 7 ∨ x1 = 8 := by omega
      rcases hc with hc | hc | hc | hc | hc | hc | hc | hc | hc
      · have hp := h_0 hc
        refine v_tableIn (tgt := 124) (off := 51) dX7_about_73 hz (by omega) (by omega) (by rw [hc]; rfl) (by decide) ?_
        refine v_aload_n dX7_about_124 rfl rfl ?_
        refine n_geti dX7_about_125 fo_X7_77 sh_0 rfl ?_
        exact n_retI dX7_about_128 rfl hp
      · have hp := h_1 hc
        refine v_tableIn (tgt := 129) (off := 56) dX7_about_73 hz (by omega) (by omega) (by rw [hc]; rfl) (by decide) ?_
        refine v_aload_n dX7_about_129 rfl rfl ?_
        refine n_getr dX7_about_130 fo_X7_33 sh_0 rfl sr_0_5 ?_
        refine n_geti dX7_about_133 fo_X7_81 sh_12 rfl ?_
        exact n_retI dX7_about_136 rfl hp
      · have hp := h_2 hc
        refine v_tableIn (tgt := 137) (off := 64) dX7_about_73 hz (by omega) (by omega) (by rw [hc]; rfl) (by decide) ?_
        refine v_aload_n dX7_about_137 rfl rfl ?_
        refine n_getr dX7_about_138 fo_X7_33 sh_0 rfl sr_0_5 ?_
        refine n_geti dX7_about_141 fo_X7_87 sh_12 rfl ?_
        exact n_retI dX7_about_144 rfl hp
      · have hp := h_3 hc
        refine v_tableIn (tgt := 145) (off := 72) dX7_about_73 hz (by omega) (by omega) (by rw [hc]; rfl) (by decide) ?_
        refine v_aload_n dX7_about_145 rfl rfl ?_
        refine n_getr dX7_about_146 fo_X7_33 sh_0 rfl sr_0_5 ?_
        refine n_getr dX7_about_149 fo_X7_150 sh_12 rfl sr_12_9 ?_
        refine n_geti dX7_about_152 fo_X7_247 sh_16 rfl ?_
        exact n_retI dX7_about_155 rfl hp
      · have hp := h_4 hc
        refine v_tableIn (tgt := 156) (off := 83) dX7_about_73 hz (by omega) (by omega) (by rw [hc]; rfl) (by decide) ?_
        refine v_aload_n dX7_about_156 rfl rfl ?_
        refine n_getr dX7_about_157 fo_X7_33 sh_0 rfl sr_0_5 ?_
        refine n_geti dX7_about_160 fo_X7_100 sh_12 rfl ?_
        exact n_retI dX7_about_163 rfl hp
      · have hp := h_5 hc
        refine v_tableIn (tgt := 164) (off := 91) dX7_about_73 hz (by omega) (by omega) (by rw [hc]; rfl) (by decide) ?_
        refine v_aload_n dX7_about_164 rfl rfl ?_
        refine n_getr dX7_about_165 fo_X7_33 sh_0 rfl sr_0_5 ?_
        refine n_geti dX7_about_168 fo_X7_124 sh_12 rfl ?_
        exact n_retI dX7_about_171 rfl hp
      · have hp := h_6 hc
        refine v_tableIn (tgt := 172) (off := 99) dX7_about_73 hz (by omega) (by omega) (by rw [hc]; rfl) (by decide) ?_
        refine v_aload_n dX7_about_172 rfl rfl ?_
        refine n_getr dX7_about_173 fo_X7_33 sh_0 rfl sr_0_5 ?_
        refine n_getr dX7_about_176 fo_X7_146 sh_12 rfl sr_12_10 ?_
        refine n_geti dX7_about_179 fo_X7_171 sh_20 rfl ?_
        exact n_retI dX7_about_182 rfl hp
      · have hp := h_7 hc
        refine v_tableIn (tgt := 183) (off := 110) dX7_about_73 hz (by omega) (by omega) (by rw [hc]; rfl) (by decide) ?_
        refine v_aload_n dX7_about_183 rfl rfl ?_
        refine n_getr dX7_about_184 fo_X7_33 sh_0 rfl sr_0_5 ?_
        refine n_geti dX7_about_187 fo_X7_223 sh_12 rfl ?_
        exact n_retI dX7_about_190 rfl hp
      · have hp := h_8 hc
        refine v_tableIn (tgt := 191) (off := 118) dX7_about_73 hz (by omega) (by omega) (by rw [hc]; rfl) (by decide) ?_
        refine v_aload_n dX7_about_191 rfl rfl ?_
        refine n_geti dX7_about_192 fo_X7_13 sh_0 rfl ?_
        exact n_retI dX7_about_195 rfl hp
    · have hp := hB q
      refine v_aload_n dX7_about_43 rfl rfl ?_
      refine v_iload_n dX7_about_44 rfl rfl ?_
      refine v_bipush dX7_about_45 rfl ?_
      refine v_isub dX7_about_47 ?_
      refine n_callVI (As := [vi (x1 - 10)]) (st := []) dX7_about_48 ml_X7_226 mo_X7_isThing mv_X7_isThing sh_0 rfl rfl rfl rfl (Nat.le_of_ble_eq_true rfl) (Nat.le_of_ble_eq_true rfl) (by decide) hp (fun z1 m2 hp => ?_)
      obtain ⟨⟨r1, r2⟩, hA, hB⟩ := hp
      refine v_if_eq (tgt := 69) dX7_about_51 (by decide) r1 (fun q => ?_) (fun q => ?_)
      · have hp := hA q
        refine v_bipush dX7_about_69 rfl ?_
        exact n_retI dX7_about_71 rfl hp
      · have hp := hB q
        refine v_aload_n dX7_about_54 rfl rfl ?_
        refine n_getr dX7_about_55 fo_X7_33 sh_0 rfl sr_0_5 ?_
        refine n_getr dX7_about_58 fo_X7_84 sh_12 rfl sr_12_1 ?_
        refine v_iload_n dX7_about_61 rfl rfl ?_
        refine v_bipush dX7_about_62 rfl ?_
        refine v_isub dX7_about_64 ?_
        obtain ⟨j3, ⟨ej3, bj3⟩, hp⟩ := hp
        refine n_iald (j := j3) dX7_about_65 sh_13 ej3 bj3 ?_
        refine v_goto (tgt := 71) dX7_about_66 (by decide) ?_
        exact n_retI dX7_about_71 rfl hp
  · have hp := hB q
    refine v_aload_n dX7_about_6 rfl rfl ?_
    refine v_iload_n dX7_about_7 rfl rfl ?_
    refine v_bipush dX7_about_8 rfl ?_
    refine v_isub dX7_about_10 ?_
    refine n_callVI (As := [vi (x1 - 20)]) (st := []) dX7_about_11 ml_X7_214 mo_X7_isCourtier mv_X7_isCourtier sh_0 rfl rfl rfl rfl (Nat.le_of_ble_eq_true rfl) (Nat.le_of_ble_eq_true rfl) (by decide) hp (fun z4 m5 hp => ?_)
    obtain ⟨⟨r1, r2⟩, hA, hB⟩ := hp
    refine v_if_eq (tgt := 34) dX7_about_14 (by decide) r1 (fun q => ?_) (fun q => ?_)
    · have hp := hA q
      refine v_bipush dX7_about_34 rfl ?_
      exact n_retI dX7_about_36 rfl hp
    · have hp := hB q
      refine v_aload_n dX7_about_17 rfl rfl ?_
      refine n_getr dX7_about_18 fo_X7_33 sh_0 rfl sr_0_5 ?_
      refine n_getr dX7_about_21 fo_X7_150 sh_12 rfl sr_12_9 ?_
      refine v_iload_n dX7_about_24 rfl rfl ?_
      refine v_bipush dX7_about_25 rfl ?_
      refine v_isub dX7_about_27 ?_
      refine n_callVI (As := [vi (x1 - 20)]) (st := []) dX7_about_28 ml_X7_250 mo_X0_wornSet mv_X0_wornSet sh_16 rfl rfl rfl rfl (Nat.le_of_ble_eq_true rfl) (Nat.le_of_ble_eq_true rfl) (by decide) hp (fun z6 m7 hp => ?_)
      refine v_goto (tgt := 36) dX7_about_31 (by decide) ?_
      exact n_retI dX7_about_36 rfl hp
theorem g_X7_isThing_0 {G : GG} {d : Nat} {m : MM} {k : Int → MM → Prop} (x1 : Int)
    (hp : bLT x1 0 (k 0 m) (bLE (m 12 0) x1 (k 0 m) (k 1 m))) :
    N G d mi_X7_isThing 0 [some (vr 0), some (vi x1)] [] m (RI k) := by
  refine v_iload_n dX7_isThing_0 rfl rfl ?_
  obtain ⟨⟨r1, r2⟩, hA, hB⟩ := hp
  refine v_if_lt (tgt := 19) dX7_isThing_1 (by decide) r1 (fun q => ?_) (fun q => ?_)
  · have hp := hA q
    refine v_iconst dX7_isThing_19 ?_
    exact n_retZ dX7_isThing_20 rfl (by decide) hp
  · have hp := hB q
    refine v_iload_n dX7_isThing_4 rfl rfl ?_
    refine v_aload_n dX7_isThing_5 rfl rfl ?_
    refine n_getr dX7_isThing_6 fo_X7_33 sh_0 rfl sr_0_5 ?_
    refine n_geti dX7_isThing_9 fo_X7_81 sh_12 rfl ?_
    obtain ⟨⟨r1, r2⟩, hA, hB⟩ := hp
    refine v_icmp_ge (tgt := 19) dX7_isThing_12 (by decide) r2 r1 (fun q => ?_) (fun q => ?_)
    · have hp := hA q
      refine v_iconst dX7_isThing_19 ?_
      exact n_retZ dX7_isThing_20 rfl (by decide) hp
    · have hp := hB q
      refine v_iconst dX7_isThing_15 ?_
      refine v_goto (tgt := 20) dX7_isThing_16 (by decide) ?_
      exact n_retZ dX7_isThing_20 rfl (by decide) hp
theorem g_X7_isEye_0 {G : GG} {d : Nat} {m : MM} {k : Int → MM → Prop} (x1 : Int)
    (hp : bLT x1 0 (k 0 m) (bLE (m 12 2) x1 (k 0 m) (k 1 m))) :
    N G d mi_X7_isEye 0 [some (vr 0), some (vi x1)] [] m (RI k) := by
  refine v_iload_n dX7_isEye_0 rfl rfl ?_
  obtain ⟨⟨r1, r2⟩, hA, hB⟩ := hp
  refine v_if_lt (tgt := 19) dX7_isEye_1 (by decide) r1 (fun q => ?_) (fun q => ?_)
  · have hp := hA q
    refine v_iconst dX7_isEye_19 ?_
    exact n_retZ dX7_isEye_20 rfl (by decide) hp
  · have hp := hB q
    refine v_iload_n dX7_isEye_4 rfl rfl ?_
    refine v_aload_n dX7_isEye_5 rfl rfl ?_
    refine n_getr dX7_isEye_6 fo_X7_33 sh_0 rfl sr_0_5 ?_
    refine n_geti dX7_isEye_9 fo_X7_87 sh_12 rfl ?_
    obtain ⟨⟨r1, r2⟩, hA, hB⟩ := hp
    refine v_icmp_ge (tgt := 19) dX7_isEye_12 (by decide) r2 r1 (fun q => ?_) (fun q => ?_)
    · have hp := hA q
      refine v_iconst dX7_isEye_19 ?_
      exact n_retZ dX7_isEye_20 rfl (by decide) hp
    · have hp := hB q
      refine v_iconst dX7_isEye_15 ?_
      refine v_goto (tgt := 20) dX7_isEye_16 (by decide) ?_
      exact n_retZ dX7_isEye_20 rfl (by decide) hp
theorem g_X7_isText_0 {G : GG} {d : Nat} {m : MM} {k : Int → MM → Prop} (x1 : Int)
    (hp : bLT x1 0 (k 0 m) (bLE (m 12 5) x1 (k 0 m) (k 1 m))) :
    N G d mi_X7_isText 0 [some (vr 0), some (vi x1)] [] m (RI k) := by
  refine v_iload_n dX7_isText_0 rfl rfl ?_
  obtain ⟨⟨r1, r2⟩, hA, hB⟩ := hp
  refine v_if_lt (tgt := 19) dX7_isText_1 (by decide) r1 (fun q => ?_) (fun q => ?_)
  · have hp := hA q
    refine v_iconst dX7_isText_19 ?_
    exact n_retZ dX7_isText_20 rfl (by decide) hp
  · have hp := hB q
    refine v_iload_n dX7_isText_4 rfl rfl ?_
    refine v_aload_n dX7_isText_5 rfl rfl ?_
    refine n_getr dX7_isText_6 fo_X7_33 sh_0 rfl sr_0_5 ?_
    refine n_geti dX7_isText_9 fo_X7_100 sh_12 rfl ?_
    obtain ⟨⟨r1, r2⟩, hA, hB⟩ := hp
    refine v_icmp_ge (tgt := 19) dX7_isText_12 (by decide) r2 r1 (fun q => ?_) (fun q => ?_)
    · have hp := hA q
      refine v_iconst dX7_isText_19 ?_
      exact n_retZ dX7_isText_20 rfl (by decide) hp
    · have hp := hB q
      refine v_iconst dX7_isText_15 ?_
      refine v_goto (tgt := 20) dX7_isText_16 (by decide) ?_
      exact n_retZ dX7_isText_20 rfl (by decide) hp
theorem g_X7_isCourtier_0 {G : GG} {d : Nat} {m : MM} {k : Int → MM → Prop} (x1 : Int)
    (hp : bLT x1 0 (k 0 m) (bLE (m 0 0) x1 (k 0 m) (k 1 m))) :
    N G d mi_X7_isCourtier 0 [some (vr 0), some (vi x1)] [] m (RI k) := by
  refine v_iload_n dX7_isCourtier_0 rfl rfl ?_
  obtain ⟨⟨r1, r2⟩, hA, hB⟩ := hp
  refine v_if_lt (tgt := 16) dX7_isCourtier_1 (by decide) r1 (fun q => ?_) (fun q => ?_)
  · have hp := hA q
    refine v_iconst dX7_isCourtier_16 ?_
    exact n_retZ dX7_isCourtier_17 rfl (by decide) hp
  · have hp := hB q
    refine v_iload_n dX7_isCourtier_4 rfl rfl ?_
    refine v_aload_n dX7_isCourtier_5 rfl rfl ?_
    refine n_geti dX7_isCourtier_6 fo_X7_77 sh_0 rfl ?_
    obtain ⟨⟨r1, r2⟩, hA, hB⟩ := hp
    refine v_icmp_ge (tgt := 16) dX7_isCourtier_9 (by decide) r2 r1 (fun q => ?_) (fun q => ?_)
    · have hp := hA q
      refine v_iconst dX7_isCourtier_16 ?_
      exact n_retZ dX7_isCourtier_17 rfl (by decide) hp
    · have hp := hB q
      refine v_iconst dX7_isCourtier_12 ?_
      refine v_goto (tgt := 17) dX7_isCourtier_13 (by decide) ?_
      exact n_retZ dX7_isCourtier_17 rfl (by decide) hp
theorem g_X7_addFourBytes_0 {G : GG} {d : Nat} {m : MM} {k : MM → Prop} (x1 : Int)
    (hp : N G d mi_X7_addFourBytes 3 [some (vr 0), some (vi x1), some (vi 24)] [] m (RV k)) :
    N G d mi_X7_addFourBytes 0 [some (vr 0), some (vi x1), none] [] m (RV k) := by
  refine v_bipush dX7_addFourBytes_0 rfl ?_
  refine v_istore_n dX7_addFourBytes_2 rfl (by decide) ?_
  exact hp
theorem g_X7_addFourBytes_3 {G : GG} {d : Nat} {m : MM} {k : MM → Prop} (x1 : Int) (x2 : Int)
    (hp : bLT x2 0 (k m) (bLE 300 (m 0 2) (k m) (∃ j2 : Nat, ((m 0 2) = (j2 : Int) ∧ j2 < 300) ∧ (∀ m1 : MM, m1 = upm m 1 j2 (i2b (i2b (ishr x1 x2))) → (∀ m3 : MM, m3 = upm m1 0 2 ((m1 0 2) + 1) → (N G d mi_X7_addFourBytes 3 [some (vr 0), some (vi x1), some (vi (x2 + (-8)))] [] m3 (RV k))))))) :
    N G d mi_X7_addFourBytes 3 [some (vr 0), some (vi x1), some (vi x2)] [] m (RV k) := by
  refine v_iload_n dX7_addFourBytes_3 rfl rfl ?_
  obtain ⟨⟨r1, r2⟩, hA, hB⟩ := hp
  refine v_if_lt (tgt := 46) dX7_addFourBytes_4 (by decide) r1 (fun q => ?_) (fun q => ?_)
  · have hp := hA q
    exact n_retV dX7_addFourBytes_46 rfl hp
  · have hp := hB q
    refine v_aload_n dX7_addFourBytes_7 rfl rfl ?_
    refine n_geti dX7_addFourBytes_8 fo_X7_13 sh_0 rfl ?_
    refine v_sipush dX7_addFourBytes_11 rfl ?_
    obtain ⟨⟨r1, r2⟩, hA, hB⟩ := hp
    refine v_icmp_ge (tgt := 46) dX7_addFourBytes_14 (by decide) r2 r1 (fun q => ?_) (fun q => ?_)
    · have hp := hA q
      exact n_retV dX7_addFourBytes_46 rfl hp
    · have hp := hB q
      refine v_aload_n dX7_addFourBytes_17 rfl rfl ?_
      refine n_getr dX7_addFourBytes_18 fo_X7_9 sh_0 rfl sr_0_1 ?_
      refine v_aload_n dX7_addFourBytes_21 rfl rfl ?_
      refine n_geti dX7_addFourBytes_22 fo_X7_13 sh_0 rfl ?_
      refine v_iload_n dX7_addFourBytes_25 rfl rfl ?_
      refine v_iload_n dX7_addFourBytes_26 rfl rfl ?_
      refine v_ishr dX7_addFourBytes_27 ?_
      refine v_i2b dX7_addFourBytes_28 ?_
      obtain ⟨j2, ⟨ej2, bj2⟩, hp⟩ := hp
      refine w_bast (j := j2) dX7_addFourBytes_29 sh_1 ej2 bj2 (fun m1 em1 => ?_)
      have hp := hp m1 em1
      refine v_aload_n dX7_addFourBytes_30 rfl rfl ?_
      refine v_dupr dX7_addFourBytes_31 ?_
      refine n_geti dX7_addFourBytes_32 fo_X7_13 sh_0 rfl ?_
      refine v_iconst dX7_addFourBytes_35 ?_
      refine v_iadd dX7_addFourBytes_36 ?_
      refine w_puti dX7_addFourBytes_37 fw_X7_13 sh_0 rfl (fun m3 em3 => ?_)
      have hp := hp m3 em3
      refine v_iinc dX7_addFourBytes_40 rfl (by decide) ?_
      refine v_goto (tgt := 3) dX7_addFourBytes_43 (by decide) ?_
      exact hp
theorem g_X7_drawnAfter_0 {G : GG} {d : Nat} {m : MM} {k : Int → MM → Prop} (x0 : Int)
    (hp : k (irem ((x0 * 211) + 83) 30071) m) :
    N G d mi_X7_drawnAfter 0 [some (vi x0)] [] m (RI k) := by
  refine v_iload_n dX7_drawnAfter_0 rfl rfl ?_
  refine v_sipush dX7_drawnAfter_1 rfl ?_
  refine v_imul dX7_drawnAfter_4 ?_
  refine v_bipush dX7_drawnAfter_5 rfl ?_
  refine v_iadd dX7_drawnAfter_7 ?_
  refine v_sipush dX7_drawnAfter_8 rfl ?_
  refine w_irem dX7_drawnAfter_11 (by decide) (by decide) ?_
  exact n_retI dX7_drawnAfter_12 rfl hp
theorem g_X7_byHand_0 {G : GG} {d : Nat} {m : MM} {k : Int → MM → Prop} (x1 : Int) (x2 : Int) (x3 : Int)
    (hp : N G d mi_X7_canBe 0 [some (vr 0), some (vr 16), some (vi x1), some (vi x2), some (vi x3)] [] m (RI fun z1 m2 => bEQ z1 0 (k (-1) m2) (N G d mi_X1_keep 0 [some (vr 20), some (vr 16)] [] m2 (RV fun m4 => N G d mi_X7_perform 0 [some (vr 0), some (vr 16), some (vi x1), some (vi x2), some (vi x3)] [] m4 (RI fun z5 m6 => k z5 m6))))) :
    N G (d + 1) mi_X7_byHand 0 [some (vr 0), some (vi x1), some (vi x2), some (vi x3)] [] m (RI k) := by
  refine v_aload_n dX7_byHand_0 rfl rfl ?_
  refine v_aload_n dX7_byHand_1 rfl rfl ?_
  refine n_getr dX7_byHand_2 fo_X7_33 sh_0 rfl sr_0_5 ?_
  refine n_getr dX7_byHand_5 fo_X7_150 sh_12 rfl sr_12_9 ?_
  refine v_iload_n dX7_byHand_8 rfl rfl ?_
  refine v_iload_n dX7_byHand_9 rfl rfl ?_
  refine v_iload_n dX7_byHand_10 rfl rfl ?_
  refine n_callVI (As := [vr 16, vi x1, vi x2, vi x3]) (st := []) dX7_byHand_11 ml_X7_253 mo_X7_canBe mv_X7_canBe sh_0 rfl rfl rfl rfl (Nat.le_of_ble_eq_true rfl) (Nat.le_of_ble_eq_true rfl) (by decide) hp (fun z1 m2 hp => ?_)
  obtain ⟨⟨r1, r2⟩, hA, hB⟩ := hp
  refine v_if_ne (tgt := 19) dX7_byHand_14 (by decide) r1 (fun q => ?_) (fun q => ?_)
  · have hp := hB q
    refine v_aload_n dX7_byHand_19 rfl rfl ?_
    refine n_getr dX7_byHand_20 fo_X7_33 sh_0 rfl sr_0_5 ?_
    refine n_getr dX7_byHand_23 fo_X7_146 sh_12 rfl sr_12_10 ?_
    refine v_aload_n dX7_byHand_26 rfl rfl ?_
    refine n_getr dX7_byHand_27 fo_X7_33 sh_0 rfl sr_0_5 ?_
    refine n_getr dX7_byHand_30 fo_X7_150 sh_12 rfl sr_12_9 ?_
    refine n_callVV (As := [vr 16]) (st := []) dX7_byHand_33 ml_X7_153 mo_X1_keep mv_X1_keep sh_20 rfl rfl rfl rfl (Nat.le_of_ble_eq_true rfl) (Nat.le_of_ble_eq_true rfl) (by decide) hp (fun m4 hp => ?_)
    refine v_aload_n dX7_byHand_36 rfl rfl ?_
    refine v_aload_n dX7_byHand_37 rfl rfl ?_
    refine n_getr dX7_byHand_38 fo_X7_33 sh_0 rfl sr_0_5 ?_
    refine n_getr dX7_byHand_41 fo_X7_150 sh_12 rfl sr_12_9 ?_
    refine v_iload_n dX7_byHand_44 rfl rfl ?_
    refine v_iload_n dX7_byHand_45 rfl rfl ?_
    refine v_iload_n dX7_byHand_46 rfl rfl ?_
    refine n_callVI (As := [vr 16, vi x1, vi x2, vi x3]) (st := []) dX7_byHand_47 ml_X7_257 mo_X7_perform mv_X7_perform sh_0 rfl rfl rfl rfl (Nat.le_of_ble_eq_true rfl) (Nat.le_of_ble_eq_true rfl) (by decide) hp (fun z5 m6 hp => ?_)
    exact n_retI dX7_byHand_50 rfl hp
  · have hp := hA q
    refine v_iconst dX7_byHand_17 ?_
    exact n_retI dX7_byHand_18 rfl hp
theorem g_X7_tell_0 {G : GG} {d : Nat} {m : MM} {k : MM → Prop} (c1 : Nat) (h1 : SH c1 = .inr 5)
    (hp : N G (d + 1) mi_X7_tell 2 [some (vr 0), some (vr c1), some (vi 0)] [] m (RV k)) :
    N G (d + 1) mi_X7_tell 0 [some (vr 0), some (vr c1), none] [] m (RV k) := by
  refine v_iconst dX7_tell_0 ?_
  refine v_istore_n dX7_tell_1 rfl (by decide) ?_
  exact hp
theorem g_X7_tell_2 {G : GG} {d : Nat} {m : MM} {k : MM → Prop} (c1 : Nat) (h1 : SH c1 = .inr 5) (x2 : Int)
    (hp : bLE (m c1 0) x2 (k m) (N G d mi_X5_isDeed 0 [some (vr c1), some (vi x2)] [] m (RI fun z1 m2 => bEQ z1 0 (N G (d + 1) mi_X7_tell 2 [some (vr 0), some (vr c1), some (vi (x2 + 1))] [] m2 (RV k)) (∃ j3 : Nat, (x2 = (j3 : Int) ∧ j3 < 24) ∧ (∃ j4 : Nat, (x2 = (j4 : Int) ∧ j4 < 24) ∧ (∃ j5 : Nat, (x2 = (j5 : Int) ∧ j5 < 24) ∧ (N G d mi_X7_canBe 0 [some (vr 0), some (vr 272), some (vi (m2 (c1 + 1) j3)), some (vi (m2 (c1 + 2) j4)), some (vi (m2 (c1 + 3) j5))] [] m2 (RI fun z6 m7 => bEQ z6 0 (N G (d + 1) mi_X7_tell 2 [some (vr 0), some (vr c1), some (vi (x2 + 1))] [] m7 (RV k)) (∃ j8 : Nat, (x2 = (j8 : Int) ∧ j8 < 24) ∧ (∃ j9 : Nat, (x2 = (j9 : Int) ∧ j9 < 24) ∧ (∃ j10 : Nat, (x2 = (j10 : Int) ∧ j10 < 24) ∧ (N G d mi_X7_perform 0 [some (vr 0), some (vr 272), some (vi (m7 (c1 + 1) j8)), some (vi (m7 (c1 + 2) j9)), some (vi (m7 (c1 + 3) j10))] [] m7 (RI fun z11 m12 => N G (d + 1) mi_X7_tell 2 [some (vr 0), some (vr c1), some (vi (x2 + 1))] [] m12 (RV k)))))))))))))) :
    N G (d + 1) mi_X7_tell 2 [some (vr 0), some (vr c1), some (vi x2)] [] m (RV k) := by
  refine v_iload_n dX7_tell_2 rfl rfl ?_
  refine v_aload_n dX7_tell_3 rfl rfl ?_
  refine n_geti dX7_tell_4 fo_X7_131 h1 rfl ?_
  obtain ⟨⟨r1, r2⟩, hA, hB⟩ := hp
  refine v_icmp_ge (tgt := 80) dX7_tell_7 (by decide) r2 r1 (fun q => ?_) (fun q => ?_)
  · have hp := hA q
    exact n_retV dX7_tell_80 rfl hp
  · have hp := hB q
    refine v_aload_n dX7_tell_10 rfl rfl ?_
    refine v_iload_n dX7_tell_11 rfl rfl ?_
    refine n_callVI (As := [vi x2]) (st := []) dX7_tell_12 ml_X7_134 mo_X5_isDeed mv_X5_isDeed h1 rfl rfl rfl rfl (Nat.le_of_ble_eq_true rfl) (Nat.le_of_ble_eq_true rfl) (by decide) hp (fun z1 m2 hp => ?_)
    obtain ⟨⟨r1, r2⟩, hA, hB⟩ := hp
    refine v_if_eq (tgt := 74) dX7_tell_15 (by decide) r1 (fun q => ?_) (fun q => ?_)
    · have hp := hA q
      refine v_iinc dX7_tell_74 rfl (by decide) ?_
      refine v_goto (tgt := 2) dX7_tell_77 (by decide) ?_
      exact hp
    · have hp := hB q
      refine v_aload_n dX7_tell_18 rfl rfl ?_
      refine v_aload_n dX7_tell_19 rfl rfl ?_
      refine n_getr dX7_tell_20 fo_X7_43 sh_0 rfl sr_0_7 ?_
      refine v_aload_n dX7_tell_23 rfl rfl ?_
      refine n_getr dX7_tell_24 fo_X7_137 h1 rfl (kr5_1 h1) ?_
      refine v_iload_n dX7_tell_27 rfl rfl ?_
      obtain ⟨j3, ⟨ej3, bj3⟩, hp⟩ := hp
      refine n_iald (j := j3) dX7_tell_28 (kn5_1 h1) ej3 bj3 ?_
      refine v_aload_n dX7_tell_29 rfl rfl ?_
      refine n_getr dX7_tell_30 fo_X7_140 h1 rfl (kr5_2 h1) ?_
      refine v_iload_n dX7_tell_33 rfl rfl ?_
      obtain ⟨j4, ⟨ej4, bj4⟩, hp⟩ := hp
      refine n_iald (j := j4) dX7_tell_34 (kn5_2 h1) ej4 bj4 ?_
      refine v_aload_n dX7_tell_35 rfl rfl ?_
      refine n_getr dX7_tell_36 fo_X7_143 h1 rfl (kr5_3 h1) ?_
      refine v_iload_n dX7_tell_39 rfl rfl ?_
      obtain ⟨j5, ⟨ej5, bj5⟩, hp⟩ := hp
      refine n_iald (j := j5) dX7_tell_40 (kn5_3 h1) ej5 bj5 ?_
      refine n_callVI (As := [vr 272, vi (m2 (c1 + 1) j3), vi (m2 (c1 + 2) j4), vi (m2 (c1 + 3) j5)]) (st := []) dX7_tell_41 ml_X7_253 mo_X7_canBe mv_X7_canBe sh_0 rfl rfl rfl rfl (Nat.le_of_ble_eq_true rfl) (Nat.le_of_ble_eq_true rfl) (by decide) hp (fun z6 m7 hp => ?_)
      obtain ⟨⟨r1, r2⟩, hA, hB⟩ := hp
      refine v_if_eq (tgt := 74) dX7_tell_44 (by decide) r1 (fun q => ?_) (fun q => ?_)
      · have hp := hA q
        refine v_iinc dX7_tell_74 rfl (by decide) ?_
        refine v_goto (tgt := 2) dX7_tell_77 (by decide) ?_
        exact hp
      · have hp := hB q
        refine v_aload_n dX7_tell_47 rfl rfl ?_
        refine v_aload_n dX7_tell_48 rfl rfl ?_
        refine n_getr dX7_tell_49 fo_X7_43 sh_0 rfl sr_0_7 ?_
        refine v_aload_n dX7_tell_52 rfl rfl ?_
        refine n_getr dX7_tell_53 fo_X7_137 h1 rfl (kr5_1 h1) ?_
        refine v_iload_n dX7_tell_56 rfl rfl ?_
        obtain ⟨j8, ⟨ej8, bj8⟩, hp⟩ := hp
        refine n_iald (j := j8) dX7_tell_57 (kn5_1 h1) ej8 bj8 ?_
        refine v_aload_n dX7_tell_58 rfl rfl ?_
        refine n_getr dX7_tell_59 fo_X7_140 h1 rfl (kr5_2 h1) ?_
        refine v_iload_n dX7_tell_62 rfl rfl ?_
        obtain ⟨j9, ⟨ej9, bj9⟩, hp⟩ := hp
        refine n_iald (j := j9) dX7_tell_63 (kn5_2 h1) ej9 bj9 ?_
        refine v_aload_n dX7_tell_64 rfl rfl ?_
        refine n_getr dX7_tell_65 fo_X7_143 h1 rfl (kr5_3 h1) ?_
        refine v_iload_n dX7_tell_68 rfl rfl ?_
        obtain ⟨j10, ⟨ej10, bj10⟩, hp⟩ := hp
        refine n_iald (j := j10) dX7_tell_69 (kn5_3 h1) ej10 bj10 ?_
        refine n_callVI (As := [vr 272, vi (m7 (c1 + 1) j8), vi (m7 (c1 + 2) j9), vi (m7 (c1 + 3) j10)]) (st := []) dX7_tell_70 ml_X7_257 mo_X7_perform mv_X7_perform sh_0 rfl rfl rfl rfl (Nat.le_of_ble_eq_true rfl) (Nat.le_of_ble_eq_true rfl) (by decide) hp (fun z11 m12 hp => ?_)
        refine v_popi dX7_tell_73 ?_
        refine v_iinc dX7_tell_74 rfl (by decide) ?_
        refine v_goto (tgt := 2) dX7_tell_77 (by decide) ?_
        exact hp
theorem g_X7_canBe_0 {G : GG} {d : Nat} {m : MM} {k : Int → MM → Prop} (c1 : Nat) (h1 : SH c1 = .inr 0) (x2 : Int) (x3 : Int) (x4 : Int)
    (hp : (rng x2) ∧ (x2 = 2 → (N G d mi_X7_isThing 0 [some (vr 0), some (vi x3)] [] m (RI fun z1 m2 => bEQ z1 0 (k 0 m2) (N G d mi_X7_isCourtier 0 [some (vr 0), some (vi x4)] [] m2 (RI fun z3 m4 => bEQ z3 0 (k 0 m4) (bLE 999 (m4 c1 0) (k 0 m4) (k 1 m4))))))) ∧ (x2 = 3 → (N G d mi_X7_isEye 0 [some (vr 0), some (vi x3)] [] m (RI fun z5 m6 => bEQ z5 0 (k 0 m6) (∃ j7 : Nat, (x3 = (j7 : Int) ∧ j7 < 8) ∧ (bEQ (m6 (c1 + 1) j7) x4 (k 0 m6) (N G d mi_X7_hasRoom 0 [some (vr 0), some (vr c1), some (vi x4)] [] m6 (RI fun z8 m9 => bEQ z8 0 (k 0 m9) (k 1 m9)))))))) ∧ (x2 = 4 → (N G (d + 1) mi_X7_canBe 129 [some (vr 0), none, none, some (vi x3), none] [] m (RI k))) ∧ (x2 = 5 → (N G d mi_X7_isEye 0 [some (vr 0), some (vi x3)] [] m (RI fun z10 m11 => bEQ z10 0 (k 0 m11) (N G d mi_X7_isEye 0 [some (vr 0), some (vi x4)] [] m11 (RI fun z12 m13 => bEQ z12 0 (k 0 m13) (bEQ x3 x4 (k 0 m13) (k 1 m13))))))) ∧ ((x2 < 2 ∨ 5 < x2) → (N G (d + 1) mi_X7_canBe 129 [some (vr 0), none, none, some (vi x3), none] [] m (RI k)))) :
    N G (d + 1) mi_X7_canBe 0 [some (vr 0), some (vr c1), some (vi x2), some (vi x3), some (vi x4)] [] m (RI k) := by
  refine v_iload_n dX7_canBe_0 rfl rfl ?_
  obtain ⟨hz, h_0, h_1, h_2, h_3, hd⟩ := hp
  by_cases hq : x2 < 2 ∨ 5 < x2
  · have hp := hd hq
    refine v_tableOut (tgt := 129) dX7_canBe_1 hz hq (by decide) ?_
    exact n_weak (wk_s (wk_n (wk_n (wk_s (wk_n wk_nil))))) hp
  have hc : x2 = 2 ∨ x2 = 3 ∨ x2 = 4 ∨ x2 = 5 := by omega
  rcases hc with hc | hc | hc | hc
  · have hp := h_0 hc
    refine v_tableIn (tgt := 32) (off := 31) dX7_canBe_1 hz (by omega) (by omega) (by rw [hc]; rfl) (by decide) ?_
    refine v_aload_n dX7_canBe_32 rfl rfl ?_
    refine v_iload_n dX7_canBe_33 rfl rfl ?_
    refine n_callVI (As := [vi x3]) (st := []) dX7_canBe_34 ml_X7_226 mo_X7_isThing mv_X7_isThing sh_0 rfl rfl rfl rfl (Nat.le_of_ble_eq_true rfl) (Nat.le_of_ble_eq_true rfl) (by decide) hp (fun z1 m2 hp => ?_)
    obtain ⟨⟨r1, r2⟩, hA, hB⟩ := hp
    refine v_if_eq (tgt := 63) dX7_canBe_37 (by decide) r1 (fun q => ?_) (fun q => ?_)
    · have hp := hA q
      refine v_iconst dX7_canBe_63 ?_
      exact n_retZ dX7_canBe_64 rfl (by decide) hp
    · have hp := hB q
      refine v_aload_n dX7_canBe_40 rfl rfl ?_
      refine v_iload dX7_canBe_41 rfl ?_
      refine n_callVI (As := [vi x4]) (st := []) dX7_canBe_43 ml_X7_214 mo_X7_isCourtier mv_X7_isCourtier sh_0 rfl rfl rfl rfl (Nat.le_of_ble_eq_true rfl) (Nat.le_of_ble_eq_true rfl) (by decide) hp (fun z3 m4 hp => ?_)
      obtain ⟨⟨r1, r2⟩, hA, hB⟩ := hp
      refine v_if_eq (tgt := 63) dX7_canBe_46 (by decide) r1 (fun q => ?_) (fun q => ?_)
      · have hp := hA q
        refine v_iconst dX7_canBe_63 ?_
        exact n_retZ dX7_canBe_64 rfl (by decide) hp
      · have hp := hB q
        refine v_aload_n dX7_canBe_49 rfl rfl ?_
        refine n_geti dX7_canBe_50 fo_X7_247 h1 rfl ?_
        refine v_sipush dX7_canBe_53 rfl ?_
        obtain ⟨⟨r1, r2⟩, hA, hB⟩ := hp
        refine v_icmp_ge (tgt := 63) dX7_canBe_56 (by decide) r2 r1 (fun q => ?_) (fun q => ?_)
        · have hp := hA q
          refine v_iconst dX7_canBe_63 ?_
          exact n_retZ dX7_canBe_64 rfl (by decide) hp
        · have hp := hB q
          refine v_iconst dX7_canBe_59 ?_
          refine v_goto (tgt := 64) dX7_canBe_60 (by decide) ?_
          exact n_retZ dX7_canBe_64 rfl (by decide) hp
  · have hp := h_1 hc
    refine v_tableIn (tgt := 65) (off := 64) dX7_canBe_1 hz (by omega) (by omega) (by rw [hc]; rfl) (by decide) ?_
    refine v_aload_n dX7_canBe_65 rfl rfl ?_
    refine v_iload_n dX7_canBe_66 rfl rfl ?_
    refine n_callVI (As := [vi x3]) (st := []) dX7_canBe_67 ml_X7_174 mo_X7_isEye mv_X7_isEye sh_0 rfl rfl rfl rfl (Nat.le_of_ble_eq_true rfl) (Nat.le_of_ble_eq_true rfl) (by decide) hp (fun z5 m6 hp => ?_)
    obtain ⟨⟨r1, r2⟩, hA, hB⟩ := hp
    refine v_if_eq (tgt := 98) dX7_canBe_70 (by decide) r1 (fun q => ?_) (fun q => ?_)
    · have hp := hA q
      refine v_iconst dX7_canBe_98 ?_
      exact n_retZ dX7_canBe_99 rfl (by decide) hp
    · have hp := hB q
      refine v_aload_n dX7_canBe_73 rfl rfl ?_
      refine n_getr dX7_canBe_74 fo_X7_183 h1 rfl (kr0_1 h1) ?_
      refine v_iload_n dX7_canBe_77 rfl rfl ?_
      obtain ⟨j7, ⟨ej7, bj7⟩, hp⟩ := hp
      refine n_iald (j := j7) dX7_canBe_78 (kn0_1 h1) ej7 bj7 ?_
      refine v_iload dX7_canBe_79 rfl ?_
      obtain ⟨⟨r1, r2⟩, hA, hB⟩ := hp
      refine v_icmp_eq (tgt := 98) dX7_canBe_81 (by decide) r1 r2 (fun q => ?_) (fun q => ?_)
      · have hp := hA q
        refine v_iconst dX7_canBe_98 ?_
        exact n_retZ dX7_canBe_99 rfl (by decide) hp
      · have hp := hB q
        refine v_aload_n dX7_canBe_84 rfl rfl ?_
        refine v_aload_n dX7_canBe_85 rfl rfl ?_
        refine v_iload dX7_canBe_86 rfl ?_
        refine n_callVI (As := [vr c1, vi x4]) (st := []) dX7_canBe_88 ml_X7_261 mo_X7_hasRoom mv_X7_hasRoom sh_0 rfl rfl rfl rfl (Nat.le_of_ble_eq_true rfl) (Nat.le_of_ble_eq_true rfl) (by decide) hp (fun z8 m9 hp => ?_)
        obtain ⟨⟨r1, r2⟩, hA, hB⟩ := hp
        refine v_if_eq (tgt := 98) dX7_canBe_91 (by decide) r1 (fun q => ?_) (fun q => ?_)
        · have hp := hA q
          refine v_iconst dX7_canBe_98 ?_
          exact n_retZ dX7_canBe_99 rfl (by decide) hp
        · have hp := hB q
          refine v_iconst dX7_canBe_94 ?_
          refine v_goto (tgt := 99) dX7_canBe_95 (by decide) ?_
          exact n_retZ dX7_canBe_99 rfl (by decide) hp
  · have hp := h_2 hc
    refine v_tableIn (tgt := 129) (off := 128) dX7_canBe_1 hz (by omega) (by omega) (by rw [hc]; rfl) (by decide) ?_
    exact n_weak (wk_s (wk_n (wk_n (wk_s (wk_n wk_nil))))) hp
  · have hp := h_3 hc
    refine v_tableIn (tgt := 100) (off := 99) dX7_canBe_1 hz (by omega) (by omega) (by rw [hc]; rfl) (by decide) ?_
    refine v_aload_n dX7_canBe_100 rfl rfl ?_
    refine v_iload_n dX7_canBe_101 rfl rfl ?_
    refine n_callVI (As := [vi x3]) (st := []) dX7_canBe_102 ml_X7_174 mo_X7_isEye mv_X7_isEye sh_0 rfl rfl rfl rfl (Nat.le_of_ble_eq_true rfl) (Nat.le_of_ble_eq_true rfl) (by decide) hp (fun z10 m11 hp => ?_)
    obtain ⟨⟨r1, r2⟩, hA, hB⟩ := hp
    refine v_if_eq (tgt := 127) dX7_canBe_105 (by decide) r1 (fun q => ?_) (fun q => ?_)
    · have hp := hA q
      refine v_iconst dX7_canBe_127 ?_
      exact n_retZ dX7_canBe_128 rfl (by decide) hp
    · have hp := hB q
      refine v_aload_n dX7_canBe_108 rfl rfl ?_
      refine v_iload dX7_canBe_109 rfl ?_
      refine n_callVI (As := [vi x4]) (st := []) dX7_canBe_111 ml_X7_174 mo_X7_isEye mv_X7_isEye sh_0 rfl rfl rfl rfl (Nat.le_of_ble_eq_true rfl) (Nat.le_of_ble_eq_true rfl) (by decide) hp (fun z12 m13 hp => ?_)
      obtain ⟨⟨r1, r2⟩, hA, hB⟩ := hp
      refine v_if_eq (tgt := 127) dX7_canBe_114 (by decide) r1 (fun q => ?_) (fun q => ?_)
      · have hp := hA q
        refine v_iconst dX7_canBe_127 ?_
        exact n_retZ dX7_canBe_128 rfl (by decide) hp
      · have hp := hB q
        refine v_iload_n dX7_canBe_117 rfl rfl ?_
        refine v_iload dX7_canBe_118 rfl ?_
        obtain ⟨⟨r1, r2⟩, hA, hB⟩ := hp
        refine v_icmp_eq (tgt := 127) dX7_canBe_120 (by decide) r1 r2 (fun q => ?_) (fun q => ?_)
        · have hp := hA q
          refine v_iconst dX7_canBe_127 ?_
          exact n_retZ dX7_canBe_128 rfl (by decide) hp
        · have hp := hB q
          refine v_iconst dX7_canBe_123 ?_
          refine v_goto (tgt := 128) dX7_canBe_124 (by decide) ?_
          exact n_retZ dX7_canBe_128 rfl (by decide) hp
theorem g_X7_canBe_129 {G : GG} {d : Nat} {m : MM} {k : Int → MM → Prop} (x3 : Int)
    (hp : N G d mi_X7_isEye 0 [some (vr 0), some (vi x3)] [] m (RI fun z1 m2 => (z1 = 0 ∨ z1 = 1) ∧ (k z1 m2))) :
    N G (d + 1) mi_X7_canBe 129 [some (vr 0), none, none, some (vi x3), none] [] m (RI k) := by
  refine v_aload_n dX7_canBe_129 rfl rfl ?_
  refine v_iload_n dX7_canBe_130 rfl rfl ?_
  refine n_callVI (As := [vi x3]) (st := []) dX7_canBe_131 ml_X7_174 mo_X7_isEye mv_X7_isEye sh_0 rfl rfl rfl rfl (Nat.le_of_ble_eq_true rfl) (Nat.le_of_ble_eq_true rfl) (by decide) hp (fun z1 m2 hp => ?_)
  exact n_retZ dX7_canBe_134 rfl hp.1 hp.2
theorem g_X7_hasRoom_0 {G : GG} {d : Nat} {m : MM} {k : Int → MM → Prop} (c1 : Nat) (h1 : SH c1 = .inr 0) (x2 : Int)
    (hp : bEQ x2 (-1) (k 1 m) (N G d mi_X7_isCourtier 0 [some (vr 0), some (vi x2)] [] m (RI fun z1 m2 => bEQ z1 0 (k 0 m2) (N G d mi_X0_wornSet 0 [some (vr c1), some (vi x2), none, none] [] m2 (RI fun z3 m4 => N G d mi_J6_bitCount_0f7a4 0 [some (vi z3)] [] m4 (RI fun z5 m6 => bLE 2 z5 (k 0 m6) (k 1 m6))))))) :
    N G (d + 1) mi_X7_hasRoom 0 [some (vr 0), some (vr c1), some (vi x2)] [] m (RI k) := by
  refine v_iload_n dX7_hasRoom_0 rfl rfl ?_
  refine v_iconst dX7_hasRoom_1 ?_
  obtain ⟨⟨r1, r2⟩, hA, hB⟩ := hp
  refine v_icmp_eq (tgt := 25) dX7_hasRoom_2 (by decide) r1 r2 (fun q => ?_) (fun q => ?_)
  · have hp := hA q
    refine v_iconst dX7_hasRoom_25 ?_
    refine v_goto (tgt := 30) dX7_hasRoom_26 (by decide) ?_
    exact n_retZ dX7_hasRoom_30 rfl (by decide) hp
  · have hp := hB q
    refine v_aload_n dX7_hasRoom_5 rfl rfl ?_
    refine v_iload_n dX7_hasRoom_6 rfl rfl ?_
    refine n_callVI (As := [vi x2]) (st := []) dX7_hasRoom_7 ml_X7_214 mo_X7_isCourtier mv_X7_isCourtier sh_0 rfl rfl rfl rfl (Nat.le_of_ble_eq_true rfl) (Nat.le_of_ble_eq_true rfl) (by decide) hp (fun z1 m2 hp => ?_)
    obtain ⟨⟨r1, r2⟩, hA, hB⟩ := hp
    refine v_if_eq (tgt := 29) dX7_hasRoom_10 (by decide) r1 (fun q => ?_) (fun q => ?_)
    · have hp := hA q
      refine v_iconst dX7_hasRoom_29 ?_
      exact n_retZ dX7_hasRoom_30 rfl (by decide) hp
    · have hp := hB q
      refine v_aload_n dX7_hasRoom_13 rfl rfl ?_
      refine v_iload_n dX7_hasRoom_14 rfl rfl ?_
      refine n_callVI (As := [vi x2]) (st := []) dX7_hasRoom_15 ml_X7_250 mo_X0_wornSet mv_X0_wornSet h1 rfl rfl rfl rfl (Nat.le_of_ble_eq_true rfl) (Nat.le_of_ble_eq_true rfl) (by decide) hp (fun z3 m4 hp => ?_)
      refine n_callSI (As := [vi z3]) (st := []) dX7_hasRoom_18 ml_X7_199 mo_J6_bitCount_0f7a4 ms_J6_bitCount_0f7a4 rfl rfl (Nat.le_of_ble_eq_true rfl) (Nat.le_of_ble_eq_true rfl) (by decide) hp (fun z5 m6 hp => ?_)
      refine v_iconst dX7_hasRoom_21 ?_
      obtain ⟨⟨r1, r2⟩, hA, hB⟩ := hp
      refine v_icmp_ge (tgt := 29) dX7_hasRoom_22 (by decide) r2 r1 (fun q => ?_) (fun q => ?_)
      · have hp := hA q
        refine v_iconst dX7_hasRoom_29 ?_
        exact n_retZ dX7_hasRoom_30 rfl (by decide) hp
      · have hp := hB q
        refine v_iconst dX7_hasRoom_25 ?_
        refine v_goto (tgt := 30) dX7_hasRoom_26 (by decide) ?_
        exact n_retZ dX7_hasRoom_30 rfl (by decide) hp
theorem g_X7_perform_0 {G : GG} {d : Nat} {m : MM} {k : Int → MM → Prop} (c1 : Nat) (h1 : SH c1 = .inr 0) (x2 : Int) (x3 : Int) (x4 : Int)
    (hp : (rng x2) ∧ (x2 = 2 → (N G d mi_X7_feel 0 [some (vr 0), some (vr c1), some (vi x3), some (vi x4), none, none] [] m (RI fun z1 m2 => k z1 m2))) ∧ (x2 = 3 → (N G d mi_X0_move 0 [some (vr c1), some (vi x3), some (vi x4)] [] m (RV fun m4 => k 0 m4))) ∧ (x2 = 4 → (N G (d + 1) mi_X7_perform 59 [none, some (vr c1), none, some (vi x3), none] [] m (RI k))) ∧ (x2 = 5 → (N G d mi_X0_exchange 0 [some (vr c1), some (vi x3), some (vi x4), none] [] m (RV fun m6 => k 0 m6))) ∧ ((x2 < 2 ∨ 5 < x2) → (N G (d + 1) mi_X7_perform 59 [none, some (vr c1), none, some (vi x3), none] [] m (RI k)))) :
    N G (d + 1) mi_X7_perform 0 [some (vr 0), some (vr c1), some (vi x2), some (vi x3), some (vi x4)] [] m (RI k) := by
  refine v_iload_n dX7_perform_0 rfl rfl ?_
  obtain ⟨hz, h_0, h_1, h_2, h_3, hd⟩ := hp
  by_cases hq : x2 < 2 ∨ 5 < x2
  · have hp := hd hq
    refine v_tableOut (tgt := 59) dX7_perform_1 hz hq (by decide) ?_
    exact n_weak (wk_n (wk_s (wk_n (wk_s (wk_n wk_nil))))) hp
  have hc : x2 = 2 ∨ x2 = 3 ∨ x2 = 4 ∨ x2 = 5 := by omega
  rcases hc with hc | hc | hc | hc
  · have hp := h_0 hc
    refine v_tableIn (tgt := 32) (off := 31) dX7_perform_1 hz (by omega) (by omega) (by rw [hc]; rfl) (by decide) ?_
    refine v_aload_n dX7_perform_32 rfl rfl ?_
    refine v_aload_n dX7_perform_33 rfl rfl ?_
    refine v_iload_n dX7_perform_34 rfl rfl ?_
    refine v_iload dX7_perform_35 rfl ?_
    refine n_callVI (As := [vr c1, vi x3, vi x4]) (st := []) dX7_perform_37 ml_X7_265 mo_X7_feel mv_X7_feel sh_0 rfl rfl rfl rfl (Nat.le_of_ble_eq_true rfl) (Nat.le_of_ble_eq_true rfl) (by decide) hp (fun z1 m2 hp => ?_)
    exact n_retI dX7_perform_40 rfl hp
  · have hp := h_1 hc
    refine v_tableIn (tgt := 41) (off := 40) dX7_perform_1 hz (by omega) (by omega) (by rw [hc]; rfl) (by decide) ?_
    refine v_aload_n dX7_perform_41 rfl rfl ?_
    refine v_iload_n dX7_perform_42 rfl rfl ?_
    refine v_iload dX7_perform_43 rfl ?_
    refine n_callVV (As := [vi x3, vi x4]) (st := []) dX7_perform_45 ml_X7_269 mo_X0_move mv_X0_move h1 rfl rfl rfl rfl (Nat.le_of_ble_eq_true rfl) (Nat.le_of_ble_eq_true rfl) (by decide) hp (fun m4 hp => ?_)
    refine v_iconst dX7_perform_48 ?_
    exact n_retI dX7_perform_49 rfl hp
  · have hp := h_2 hc
    refine v_tableIn (tgt := 59) (off := 58) dX7_perform_1 hz (by omega) (by omega) (by rw [hc]; rfl) (by decide) ?_
    exact n_weak (wk_n (wk_s (wk_n (wk_s (wk_n wk_nil))))) hp
  · have hp := h_3 hc
    refine v_tableIn (tgt := 50) (off := 49) dX7_perform_1 hz (by omega) (by omega) (by rw [hc]; rfl) (by decide) ?_
    refine v_aload_n dX7_perform_50 rfl rfl ?_
    refine v_iload_n dX7_perform_51 rfl rfl ?_
    refine v_iload dX7_perform_52 rfl ?_
    refine n_callVV (As := [vi x3, vi x4]) (st := []) dX7_perform_54 ml_X7_163 mo_X0_exchange mv_X0_exchange h1 rfl rfl rfl rfl (Nat.le_of_ble_eq_true rfl) (Nat.le_of_ble_eq_true rfl) (by decide) hp (fun m6 hp => ?_)
    refine v_iconst dX7_perform_57 ?_
    exact n_retI dX7_perform_58 rfl hp
theorem g_X7_perform_59 {G : GG} {d : Nat} {m : MM} {k : Int → MM → Prop} (c1 : Nat) (h1 : SH c1 = .inr 0) (x3 : Int)
    (hp : N G d mi_X0_forget 0 [some (vr c1), some (vi x3), none] [] m (RI fun z1 m2 => k z1 m2)) :
    N G (d + 1) mi_X7_perform 59 [none, some (vr c1), none, some (vi x3), none] [] m (RI k) := by
  refine v_aload_n dX7_perform_59 rfl rfl ?_
  refine v_iload_n dX7_perform_60 rfl rfl ?_
  refine n_callVI (As := [vi x3]) (st := []) dX7_perform_61 ml_X7_272 mo_X0_forget mv_X0_forget h1 rfl rfl rfl rfl (Nat.le_of_ble_eq_true rfl) (Nat.le_of_ble_eq_true rfl) (by decide) hp (fun z1 m2 hp => ?_)
  exact n_retI dX7_perform_64 rfl hp
theorem g_X7_feel_0 {G : GG} {d : Nat} {m : MM} {k : Int → MM → Prop} (c1 : Nat) (h1 : SH c1 = .inr 0) (x2 : Int) (x3 : Int)
    (hp : ∀ m1 : MM, m1 = upm m c1 0 ((m c1 0) + 1) → (N G (d + 1) mi_X7_feel 16 [some (vr 0), some (vr c1), some (vi x2), some (vi x3), some (vi 0), some (vi 0)] [] m1 (RI k))) :
    N G (d + 1) mi_X7_feel 0 [some (vr 0), some (vr c1), some (vi x2), some (vi x3), none, none] [] m (RI k) := by
  refine v_aload_n dX7_feel_0 rfl rfl ?_
  refine v_dupr dX7_feel_1 ?_
  refine n_geti dX7_feel_2 fo_X7_247 h1 rfl ?_
  refine v_iconst dX7_feel_5 ?_
  refine v_iadd dX7_feel_6 ?_
  refine w_puti dX7_feel_7 fw_X7_247 h1 rfl (fun m1 em1 => ?_)
  have hp := hp m1 em1
  refine v_iconst dX7_feel_10 ?_
  refine v_istore dX7_feel_11 (by decide) ?_
  refine v_iconst dX7_feel_13 ?_
  refine v_istore dX7_feel_14 (by decide) ?_
  exact hp
theorem g_X7_feel_16 {G : GG} {d : Nat} {m : MM} {k : Int → MM → Prop} (c1 : Nat) (h1 : SH c1 = .inr 0) (x2 : Int) (x3 : Int) (x4 : Int) (x5 : Int)
    (hp : bLE (m 12 2) x5 (k x4 m) (∃ j1 : Nat, (x5 = (j1 : Int) ∧ j1 < 8) ∧ (bEQ (m (c1 + 1) j1) x3 (N G d mi_X7_isSeen 0 [some (vr 0), some (vr c1), some (vi x5), some (vi x2), some (vi x3), none] [] m (RI fun z2 m3 => bEQ z2 0 (N G (d + 1) mi_X7_feel 16 [some (vr 0), some (vr c1), some (vi x2), some (vi x3), some (vi x4), some (vi (x5 + 1))] [] m3 (RI k)) (∃ j4 : Nat, (x5 = (j4 : Int) ∧ j4 < 8) ∧ (N G d mi_X7_learned 0 [some (vr 0), some (vi (m3 (c1 + 3) j4)), some (vi x5), some (vi x2), none] [] m3 (RI fun z5 m6 => ∃ j8 : Nat, (x5 = (j8 : Int) ∧ j8 < 8) ∧ (∀ m7 : MM, m7 = upm m6 (c1 + 3) j8 z5 → (N G (d + 1) mi_X7_feel 16 [some (vr 0), some (vr c1), some (vi x2), some (vi x3), some (vi (x4 + 1)), some (vi (x5 + 1))] [] m7 (RI k)))))))) (N G (d + 1) mi_X7_feel 16 [some (vr 0), some (vr c1), some (vi x2), some (vi x3), some (vi x4), some (vi (x5 + 1))] [] m (RI k))))) :
    N G (d + 1) mi_X7_feel 16 [some (vr 0), some (vr c1), some (vi x2), some (vi x3), some (vi x4), some (vi x5)] [] m (RI k) := by
  refine v_iload dX7_feel_16 rfl ?_
  refine v_aload_n dX7_feel_18 rfl rfl ?_
  refine n_getr dX7_feel_19 fo_X7_33 sh_0 rfl sr_0_5 ?_
  refine n_geti dX7_feel_22 fo_X7_87 sh_12 rfl ?_
  obtain ⟨⟨r1, r2⟩, hA, hB⟩ := hp
  refine v_icmp_ge (tgt := 81) dX7_feel_25 (by decide) r2 r1 (fun q => ?_) (fun q => ?_)
  · have hp := hA q
    refine v_iload dX7_feel_81 rfl ?_
    exact n_retI dX7_feel_83 rfl hp
  · have hp := hB q
    refine v_aload_n dX7_feel_28 rfl rfl ?_
    refine n_getr dX7_feel_29 fo_X7_183 h1 rfl (kr0_1 h1) ?_
    refine v_iload dX7_feel_32 rfl ?_
    obtain ⟨j1, ⟨ej1, bj1⟩, hp⟩ := hp
    refine n_iald (j := j1) dX7_feel_34 (kn0_1 h1) ej1 bj1 ?_
    refine v_iload_n dX7_feel_35 rfl rfl ?_
    obtain ⟨⟨r1, r2⟩, hA, hB⟩ := hp
    refine v_icmp_ne (tgt := 75) dX7_feel_36 (by decide) r1 r2 (fun q => ?_) (fun q => ?_)
    · have hp := hB q
      refine v_iinc dX7_feel_75 rfl (by decide) ?_
      refine v_goto (tgt := 16) dX7_feel_78 (by decide) ?_
      exact hp
    · have hp := hA q
      refine v_aload_n dX7_feel_39 rfl rfl ?_
      refine v_aload_n dX7_feel_40 rfl rfl ?_
      refine v_iload dX7_feel_41 rfl ?_
      refine v_iload_n dX7_feel_43 rfl rfl ?_
      refine v_iload_n dX7_feel_44 rfl rfl ?_
      refine n_callVI (As := [vr c1, vi x5, vi x2, vi x3]) (st := []) dX7_feel_45 ml_X7_275 mo_X7_isSeen mv_X7_isSeen sh_0 rfl rfl rfl rfl (Nat.le_of_ble_eq_true rfl) (Nat.le_of_ble_eq_true rfl) (by decide) hp (fun z2 m3 hp => ?_)
      obtain ⟨⟨r1, r2⟩, hA, hB⟩ := hp
      refine v_if_eq (tgt := 75) dX7_feel_48 (by decide) r1 (fun q => ?_) (fun q => ?_)
      · have hp := hA q
        refine v_iinc dX7_feel_75 rfl (by decide) ?_
        refine v_goto (tgt := 16) dX7_feel_78 (by decide) ?_
        exact hp
      · have hp := hB q
        refine v_aload_n dX7_feel_51 rfl rfl ?_
        refine n_getr dX7_feel_52 fo_X7_177 h1 rfl (kr0_3 h1) ?_
        refine v_iload dX7_feel_55 rfl ?_
        refine v_aload_n dX7_feel_57 rfl rfl ?_
        refine v_aload_n dX7_feel_58 rfl rfl ?_
        refine n_getr dX7_feel_59 fo_X7_177 h1 rfl (kr0_3 h1) ?_
        refine v_iload dX7_feel_62 rfl ?_
        obtain ⟨j4, ⟨ej4, bj4⟩, hp⟩ := hp
        refine n_iald (j := j4) dX7_feel_64 (kn0_3 h1) ej4 bj4 ?_
        refine v_iload dX7_feel_65 rfl ?_
        refine v_iload_n dX7_feel_67 rfl rfl ?_
        refine n_callVI (As := [vi (m3 (c1 + 3) j4), vi x5, vi x2]) (st := [vi x5, vr (c1 + 3)]) dX7_feel_68 ml_X7_278 mo_X7_learned mv_X7_learned sh_0 rfl rfl rfl rfl (Nat.le_of_ble_eq_true rfl) (Nat.le_of_ble_eq_true rfl) (by decide) hp (fun z5 m6 hp => ?_)
        obtain ⟨j8, ⟨ej8, bj8⟩, hp⟩ := hp
        refine w_iast (j := j8) dX7_feel_71 (kn0_3 h1) ej8 bj8 (fun m7 em7 => ?_)
        have hp := hp m7 em7
        refine v_iinc dX7_feel_72 rfl (by decide) ?_
        refine v_iinc dX7_feel_75 rfl (by decide) ?_
        refine v_goto (tgt := 16) dX7_feel_78 (by decide) ?_
        exact hp
theorem g_X7_learned_0 {G : GG} {d : Nat} {m : MM} {k : Int → MM → Prop} (x1 : Int) (x2 : Int) (x3 : Int)
    (hp : N G d mi_X0_withAhead 0 [some (vi x1), some (vi x3)] [] m (RI fun z1 m2 => ∃ j3 : Nat, (x2 = (j3 : Int) ∧ j3 < 8) ∧ (bEQ (m2 15 j3) 1 (N G d mi_X0_withAhead 0 [some (vi z1), some (vi x3)] [] m2 (RI fun z4 m5 => k z4 m5)) (k z1 m2)))) :
    N G (d + 1) mi_X7_learned 0 [some (vr 0), some (vi x1), some (vi x2), some (vi x3), none] [] m (RI k) := by
  refine v_iload_n dX7_learned_0 rfl rfl ?_
  refine v_iload_n dX7_learned_1 rfl rfl ?_
  refine n_callSI (As := [vi x1, vi x3]) (st := []) dX7_learned_2 ml_X7_281 mo_X0_withAhead ms_X0_withAhead rfl rfl (Nat.le_of_ble_eq_true rfl) (Nat.le_of_ble_eq_true rfl) (by decide) hp (fun z1 m2 hp => ?_)
  refine v_istore dX7_learned_5 (by decide) ?_
  refine v_aload_n dX7_learned_7 rfl rfl ?_
  refine n_getr dX7_learned_8 fo_X7_33 sh_0 rfl sr_0_5 ?_
  refine n_getr dX7_learned_11 fo_X7_93 sh_12 rfl sr_12_4 ?_
  refine v_iload_n dX7_learned_14 rfl rfl ?_
  obtain ⟨j3, ⟨ej3, bj3⟩, hp⟩ := hp
  refine n_iald (j := j3) dX7_learned_15 sh_15 ej3 bj3 ?_
  refine v_iconst dX7_learned_16 ?_
  obtain ⟨⟨r1, r2⟩, hA, hB⟩ := hp
  refine v_icmp_ne (tgt := 29) dX7_learned_17 (by decide) r1 r2 (fun q => ?_) (fun q => ?_)
  · have hp := hB q
    refine v_iload dX7_learned_29 rfl ?_
    exact n_retI dX7_learned_31 rfl hp
  · have hp := hA q
    refine v_iload dX7_learned_20 rfl ?_
    refine v_iload_n dX7_learned_22 rfl rfl ?_
    refine n_callSI (As := [vi z1, vi x3]) (st := []) dX7_learned_23 ml_X7_281 mo_X0_withAhead ms_X0_withAhead rfl rfl (Nat.le_of_ble_eq_true rfl) (Nat.le_of_ble_eq_true rfl) (by decide) hp (fun z4 m5 hp => ?_)
    refine v_goto (tgt := 31) dX7_learned_26 (by decide) ?_
    exact n_retI dX7_learned_31 rfl hp
theorem g_X7_isSeen_0 {G : GG} {d : Nat} {m : MM} {k : Int → MM → Prop} (c1 : Nat) (h1 : SH c1 = .inr 0) (x2 : Int) (x3 : Int) (x4 : Int)
    (hp : N G d mi_X7_isText 0 [some (vr 0), some (vi (m 12 6))] [] m (RI fun z1 m2 => bEQ z1 0 (k 1 m2) (∃ j3 : Nat, ((m2 12 6) = (j3 : Int) ∧ j3 < 4) ∧ (bEQ (m2 (284 + 5 * j3) 6) (-1) (k 1 m2) (N G d mi_X7_nameEye 0 [some (vr 0), some (vr c1), some (vi x2)] [] m2 (RV fun m5 => ∃ j6 : Nat, (x3 = (j6 : Int) ∧ j6 < 8) ∧ (N G d mi_X3_nameTouch 0 [some (vr 276), some (vi x3), some (vi (m5 13 j6)), some (vi x4)] [] m5 (RV fun m8 => N G d mi_X3_reckon 0 [some (vr 276), some (vr ((284 + 5 * j3) + 4)), some (vi (m8 (284 + 5 * j3) 6)), some (vi (m8 (284 + 5 * j3) 7)), none, none, none, none] [] m8 (RI fun z9 m10 => bEQ z9 0 (k 0 m10) (k 1 m10)))))))))) :
    N G (d + 1) mi_X7_isSeen 0 [some (vr 0), some (vr c1), some (vi x2), some (vi x3), some (vi x4), none] [] m (RI k) := by
  refine v_aload_n dX7_isSeen_0 rfl rfl ?_
  refine v_aload_n dX7_isSeen_1 rfl rfl ?_
  refine n_getr dX7_isSeen_2 fo_X7_33 sh_0 rfl sr_0_5 ?_
  refine n_geti dX7_isSeen_5 fo_X7_124 sh_12 rfl ?_
  refine n_callVI (As := [vi (m 12 6)]) (st := []) dX7_isSeen_8 ml_X7_120 mo_X7_isText mv_X7_isText sh_0 rfl rfl rfl rfl (Nat.le_of_ble_eq_true rfl) (Nat.le_of_ble_eq_true rfl) (by decide) hp (fun z1 m2 hp => ?_)
  obtain ⟨⟨r1, r2⟩, hA, hB⟩ := hp
  refine v_if_ne (tgt := 16) dX7_isSeen_11 (by decide) r1 (fun q => ?_) (fun q => ?_)
  · have hp := hB q
    refine v_aload_n dX7_isSeen_16 rfl rfl ?_
    refine n_getr dX7_isSeen_17 fo_X7_26 sh_0 rfl sr_0_4 ?_
    refine v_aload_n dX7_isSeen_20 rfl rfl ?_
    refine n_getr dX7_isSeen_21 fo_X7_33 sh_0 rfl sr_0_5 ?_
    refine n_geti dX7_isSeen_24 fo_X7_124 sh_12 rfl ?_
    obtain ⟨j3, ⟨ej3, bj3⟩, hp⟩ := hp
    refine n_aald5 (j := j3) dX7_isSeen_27 sh_11 ej3 bj3 (sr_scr j3) ?_
    refine v_astore dX7_isSeen_28 (by decide) ?_
    refine v_aload dX7_isSeen_30 rfl ?_
    refine n_geti dX7_isSeen_32 fo_X7_284 (sh_scr bj3) rfl ?_
    refine v_iconst dX7_isSeen_35 ?_
    obtain ⟨⟨r1, r2⟩, hA, hB⟩ := hp
    refine v_icmp_ne (tgt := 41) dX7_isSeen_36 (by decide) r1 r2 (fun q => ?_) (fun q => ?_)
    · have hp := hB q
      refine v_aload_n dX7_isSeen_41 rfl rfl ?_
      refine v_aload_n dX7_isSeen_42 rfl rfl ?_
      refine v_iload_n dX7_isSeen_43 rfl rfl ?_
      refine n_callVV (As := [vr c1, vi x2]) (st := []) dX7_isSeen_44 ml_X7_287 mo_X7_nameEye mv_X7_nameEye sh_0 rfl rfl rfl rfl (Nat.le_of_ble_eq_true rfl) (Nat.le_of_ble_eq_true rfl) (by decide) hp (fun m5 hp => ?_)
      refine v_aload_n dX7_isSeen_47 rfl rfl ?_
      refine n_getr dX7_isSeen_48 fo_X7_50 sh_0 rfl sr_0_8 ?_
      refine v_iload_n dX7_isSeen_51 rfl rfl ?_
      refine v_aload_n dX7_isSeen_52 rfl rfl ?_
      refine n_getr dX7_isSeen_53 fo_X7_33 sh_0 rfl sr_0_5 ?_
      refine n_getr dX7_isSeen_56 fo_X7_84 sh_12 rfl sr_12_1 ?_
      refine v_iload_n dX7_isSeen_59 rfl rfl ?_
      obtain ⟨j6, ⟨ej6, bj6⟩, hp⟩ := hp
      refine n_iald (j := j6) dX7_isSeen_60 sh_13 ej6 bj6 ?_
      refine v_iload dX7_isSeen_61 rfl ?_
      refine n_callVV (As := [vi x3, vi (m5 13 j6), vi x4]) (st := []) dX7_isSeen_63 ml_X7_291 mo_X3_nameTouch mv_X3_nameTouch sh_276 rfl rfl rfl rfl (Nat.le_of_ble_eq_true rfl) (Nat.le_of_ble_eq_true rfl) (by decide) hp (fun m8 hp => ?_)
      refine v_aload_n dX7_isSeen_66 rfl rfl ?_
      refine n_getr dX7_isSeen_67 fo_X7_50 sh_0 rfl sr_0_8 ?_
      refine v_aload dX7_isSeen_70 rfl ?_
      refine n_getr dX7_isSeen_72 fo_X7_295 (sh_scr bj3) rfl (kr5_4 (sh_scr bj3)) ?_
      refine v_aload dX7_isSeen_75 rfl ?_
      refine n_geti dX7_isSeen_77 fo_X7_284 (sh_scr bj3) rfl ?_
      refine v_aload dX7_isSeen_80 rfl ?_
      refine n_geti dX7_isSeen_82 fo_X7_298 (sh_scr bj3) rfl ?_
      refine n_callVI (As := [vr ((284 + 5 * j3) + 4), vi (m8 (284 + 5 * j3) 6), vi (m8 (284 + 5 * j3) 7)]) (st := []) dX7_isSeen_85 ml_X7_301 mo_X3_reckon mv_X3_reckon sh_276 rfl rfl rfl rfl (Nat.le_of_ble_eq_true rfl) (Nat.le_of_ble_eq_true rfl) (by decide) hp (fun z9 m10 hp => ?_)
      obtain ⟨⟨r1, r2⟩, hA, hB⟩ := hp
      refine v_if_eq (tgt := 95) dX7_isSeen_88 (by decide) r1 (fun q => ?_) (fun q => ?_)
      · have hp := hA q
        refine v_iconst dX7_isSeen_95 ?_
        exact n_retZ dX7_isSeen_96 rfl (by decide) hp
      · have hp := hB q
        refine v_iconst dX7_isSeen_91 ?_
        refine v_goto (tgt := 96) dX7_isSeen_92 (by decide) ?_
        exact n_retZ dX7_isSeen_96 rfl (by decide) hp
    · have hp := hA q
      refine v_iconst dX7_isSeen_39 ?_
      exact n_retZ dX7_isSeen_40 rfl (by decide) hp
  · have hp := hA q
    refine v_iconst dX7_isSeen_14 ?_
    exact n_retZ dX7_isSeen_15 rfl (by decide) hp
theorem g_X7_rubsOf_0 {G : GG} {d : Nat} {m : MM} {k : Int → MM → Prop} (x1 : Int)
    (hp : N G d mi_X7_isText 0 [some (vr 0), some (vi (m 12 6))] [] m (RI fun z1 m2 => bEQ z1 0 (k 1 m2) (∃ j3 : Nat, ((m2 12 6) = (j3 : Int) ∧ j3 < 4) ∧ (bEQ (m2 (284 + 5 * j3) 8) (-1) (k 1 m2) (N G d mi_X7_nameEye 0 [some (vr 0), some (vr 16), some (vi x1)] [] m2 (RV fun m5 => N G d mi_X3_reckon 0 [some (vr 276), some (vr ((284 + 5 * j3) + 4)), some (vi (m5 (284 + 5 * j3) 8)), some (vi (m5 (284 + 5 * j3) 9)), none, none, none, none] [] m5 (RI fun z6 m7 => (rng 99 ∧ rng z6) ∧ ((rng 0 ∧ rng (imin 99 z6)) ∧ (k (imax 0 (imin 99 z6)) m7))))))))) :
    N G (d + 1) mi_X7_rubsOf 0 [some (vr 0), some (vi x1), none, none] [] m (RI k) := by
  refine v_aload_n dX7_rubsOf_0 rfl rfl ?_
  refine v_aload_n dX7_rubsOf_1 rfl rfl ?_
  refine n_getr dX7_rubsOf_2 fo_X7_33 sh_0 rfl sr_0_5 ?_
  refine n_geti dX7_rubsOf_5 fo_X7_124 sh_12 rfl ?_
  refine n_callVI (As := [vi (m 12 6)]) (st := []) dX7_rubsOf_8 ml_X7_120 mo_X7_isText mv_X7_isText sh_0 rfl rfl rfl rfl (Nat.le_of_ble_eq_true rfl) (Nat.le_of_ble_eq_true rfl) (by decide) hp (fun z1 m2 hp => ?_)
  obtain ⟨⟨r1, r2⟩, hA, hB⟩ := hp
  refine v_if_ne (tgt := 16) dX7_rubsOf_11 (by decide) r1 (fun q => ?_) (fun q => ?_)
  · have hp := hB q
    refine v_aload_n dX7_rubsOf_16 rfl rfl ?_
    refine n_getr dX7_rubsOf_17 fo_X7_26 sh_0 rfl sr_0_4 ?_
    refine v_aload_n dX7_rubsOf_20 rfl rfl ?_
    refine n_getr dX7_rubsOf_21 fo_X7_33 sh_0 rfl sr_0_5 ?_
    refine n_geti dX7_rubsOf_24 fo_X7_124 sh_12 rfl ?_
    obtain ⟨j3, ⟨ej3, bj3⟩, hp⟩ := hp
    refine n_aald5 (j := j3) dX7_rubsOf_27 sh_11 ej3 bj3 (sr_scr j3) ?_
    refine v_astore_n dX7_rubsOf_28 rfl (by decide) ?_
    refine v_aload_n dX7_rubsOf_29 rfl rfl ?_
    refine n_geti dX7_rubsOf_30 fo_X7_305 (sh_scr bj3) rfl ?_
    refine v_iconst dX7_rubsOf_33 ?_
    obtain ⟨⟨r1, r2⟩, hA, hB⟩ := hp
    refine v_icmp_ne (tgt := 39) dX7_rubsOf_34 (by decide) r1 r2 (fun q => ?_) (fun q => ?_)
    · have hp := hB q
      refine v_aload_n dX7_rubsOf_39 rfl rfl ?_
      refine v_aload_n dX7_rubsOf_40 rfl rfl ?_
      refine n_getr dX7_rubsOf_41 fo_X7_33 sh_0 rfl sr_0_5 ?_
      refine n_getr dX7_rubsOf_44 fo_X7_150 sh_12 rfl sr_12_9 ?_
      refine v_iload_n dX7_rubsOf_47 rfl rfl ?_
      refine n_callVV (As := [vr 16, vi x1]) (st := []) dX7_rubsOf_48 ml_X7_287 mo_X7_nameEye mv_X7_nameEye sh_0 rfl rfl rfl rfl (Nat.le_of_ble_eq_true rfl) (Nat.le_of_ble_eq_true rfl) (by decide) hp (fun m5 hp => ?_)
      refine v_aload_n dX7_rubsOf_51 rfl rfl ?_
      refine n_getr dX7_rubsOf_52 fo_X7_50 sh_0 rfl sr_0_8 ?_
      refine v_aload_n dX7_rubsOf_55 rfl rfl ?_
      refine n_getr dX7_rubsOf_56 fo_X7_295 (sh_scr bj3) rfl (kr5_4 (sh_scr bj3)) ?_
      refine v_aload_n dX7_rubsOf_59 rfl rfl ?_
      refine n_geti dX7_rubsOf_60 fo_X7_305 (sh_scr bj3) rfl ?_
      refine v_aload_n dX7_rubsOf_63 rfl rfl ?_
      refine n_geti dX7_rubsOf_64 fo_X7_308 (sh_scr bj3) rfl ?_
      refine n_callVI (As := [vr ((284 + 5 * j3) + 4), vi (m5 (284 + 5 * j3) 8), vi (m5 (284 + 5 * j3) 9)]) (st := []) dX7_rubsOf_67 ml_X7_301 mo_X3_reckon mv_X3_reckon sh_276 rfl rfl rfl rfl (Nat.le_of_ble_eq_true rfl) (Nat.le_of_ble_eq_true rfl) (by decide) hp (fun z6 m7 hp => ?_)
      refine v_istore_n dX7_rubsOf_70 rfl (by decide) ?_
      refine v_iconst dX7_rubsOf_71 ?_
      refine v_bipush dX7_rubsOf_72 rfl ?_
      refine v_iload_n dX7_rubsOf_74 rfl rfl ?_
      obtain ⟨hg, hp⟩ := hp
      refine v_mmin dX7_rubsOf_75 mk_X7_68 hg.1 hg.2 (by omega) (Nat.le_of_ble_eq_true rfl) (by omega) ?_
      obtain ⟨hg, hp⟩ := hp
      refine v_mmax dX7_rubsOf_78 mk_X7_74 hg.1 hg.2 (by omega) (Nat.le_of_ble_eq_true rfl) (by omega) ?_
      exact n_retI dX7_rubsOf_81 rfl hp
    · have hp := hA q
      refine v_iconst dX7_rubsOf_37 ?_
      exact n_retI dX7_rubsOf_38 rfl hp
  · have hp := hA q
    refine v_iconst dX7_rubsOf_14 ?_
    exact n_retI dX7_rubsOf_15 rfl hp
theorem g_X7_nameEye_0 {G : GG} {d : Nat} {m : MM} {k : MM → Prop} (c1 : Nat) (h1 : SH c1 = .inr 0) (x2 : Int)
    (hp : ∃ j1 : Nat, (x2 = (j1 : Int) ∧ j1 < 8) ∧ (∃ j2 : Nat, (x2 = (j2 : Int) ∧ j2 < 8) ∧ (N G d mi_X3_nameEye 0 [some (vr 276), some (vi x2), some (vi (m 14 j1)), some (vi (m 15 j2))] [] m (RV fun m4 => ∃ j5 : Nat, (x2 = (j5 : Int) ∧ j5 < 8) ∧ (∃ j6 : Nat, (x2 = (j6 : Int) ∧ j6 < 8) ∧ (N G d mi_X0_howMuch 0 [some (vi (m4 (c1 + 3) j6)), none, none] [] m4 (RI fun z7 m8 => N G d mi_X3_nameTimes 0 [some (vr 276), some (vi (m4 c1 0)), some (vi ((m4 c1 0) - (m4 (c1 + 2) j5))), some (vi z7)] [] m8 (RV fun m10 => k m10)))))))) :
    N G (d + 1) mi_X7_nameEye 0 [some (vr 0), some (vr c1), some (vi x2)] [] m (RV k) := by
  refine v_aload_n dX7_nameEye_0 rfl rfl ?_
  refine n_getr dX7_nameEye_1 fo_X7_50 sh_0 rfl sr_0_8 ?_
  refine v_iload_n dX7_nameEye_4 rfl rfl ?_
  refine v_aload_n dX7_nameEye_5 rfl rfl ?_
  refine n_getr dX7_nameEye_6 fo_X7_33 sh_0 rfl sr_0_5 ?_
  refine n_getr dX7_nameEye_9 fo_X7_90 sh_12 rfl sr_12_3 ?_
  refine v_iload_n dX7_nameEye_12 rfl rfl ?_
  obtain ⟨j1, ⟨ej1, bj1⟩, hp⟩ := hp
  refine n_iald (j := j1) dX7_nameEye_13 sh_14 ej1 bj1 ?_
  refine v_aload_n dX7_nameEye_14 rfl rfl ?_
  refine n_getr dX7_nameEye_15 fo_X7_33 sh_0 rfl sr_0_5 ?_
  refine n_getr dX7_nameEye_18 fo_X7_93 sh_12 rfl sr_12_4 ?_
  refine v_iload_n dX7_nameEye_21 rfl rfl ?_
  obtain ⟨j2, ⟨ej2, bj2⟩, hp⟩ := hp
  refine n_iald (j := j2) dX7_nameEye_22 sh_15 ej2 bj2 ?_
  refine n_callVV (As := [vi x2, vi (m 14 j1), vi (m 15 j2)]) (st := []) dX7_nameEye_23 ml_X7_311 mo_X3_nameEye mv_X3_nameEye sh_276 rfl rfl rfl rfl (Nat.le_of_ble_eq_true rfl) (Nat.le_of_ble_eq_true rfl) (by decide) hp (fun m4 hp => ?_)
  refine v_aload_n dX7_nameEye_26 rfl rfl ?_
  refine n_getr dX7_nameEye_27 fo_X7_50 sh_0 rfl sr_0_8 ?_
  refine v_aload_n dX7_nameEye_30 rfl rfl ?_
  refine n_geti dX7_nameEye_31 fo_X7_247 h1 rfl ?_
  refine v_aload_n dX7_nameEye_34 rfl rfl ?_
  refine n_geti dX7_nameEye_35 fo_X7_247 h1 rfl ?_
  refine v_aload_n dX7_nameEye_38 rfl rfl ?_
  refine n_getr dX7_nameEye_39 fo_X7_186 h1 rfl (kr0_2 h1) ?_
  refine v_iload_n dX7_nameEye_42 rfl rfl ?_
  obtain ⟨j5, ⟨ej5, bj5⟩, hp⟩ := hp
  refine n_iald (j := j5) dX7_nameEye_43 (kn0_2 h1) ej5 bj5 ?_
  refine v_isub dX7_nameEye_44 ?_
  refine v_aload_n dX7_nameEye_45 rfl rfl ?_
  refine n_getr dX7_nameEye_46 fo_X7_177 h1 rfl (kr0_3 h1) ?_
  refine v_iload_n dX7_nameEye_49 rfl rfl ?_
  obtain ⟨j6, ⟨ej6, bj6⟩, hp⟩ := hp
  refine n_iald (j := j6) dX7_nameEye_50 (kn0_3 h1) ej6 bj6 ?_
  refine n_callSI (As := [vi (m4 (c1 + 3) j6)]) (st := [vi ((m4 c1 0) - (m4 (c1 + 2) j5)), vi (m4 c1 0), vr 276]) dX7_nameEye_51 ml_X7_313 mo_X0_howMuch ms_X0_howMuch rfl rfl (Nat.le_of_ble_eq_true rfl) (Nat.le_of_ble_eq_true rfl) (by decide) hp (fun z7 m8 hp => ?_)
  refine n_callVV (As := [vi (m4 c1 0), vi ((m4 c1 0) - (m4 (c1 + 2) j5)), vi z7]) (st := []) dX7_nameEye_54 ml_X7_316 mo_X3_nameTimes mv_X3_nameTimes sh_276 rfl rfl rfl rfl (Nat.le_of_ble_eq_true rfl) (Nat.le_of_ble_eq_true rfl) (by decide) hp (fun m10 hp => ?_)
  exact n_retV dX7_nameEye_57 rfl hp
theorem g_X7_tellAll_0 {G : GG} {d : Nat} {m : MM} {k : MM → Prop} (x1 : Int)
    (hp : N G (d + 1) mi_X7_tellAll 2 [some (vr 0), some (vi x1), some (vi 0)] [] m (RV k)) :
    N G (d + 1) mi_X7_tellAll 0 [some (vr 0), some (vi x1), none] [] m (RV k) := by
  refine v_iconst dX7_tellAll_0 ?_
  refine v_istore_n dX7_tellAll_1 rfl (by decide) ?_
  exact hp
theorem g_X7_tellAll_2 {G : GG} {d : Nat} {m : MM} {k : MM → Prop} (x1 : Int) (x2 : Int)
    (hp : bLE (m 12 5) x2 (k m) (bEQ (iand (ishr x1 x2) 1) 1 (N G d mi_X0_copyFrom 0 [some (vr 272), some (vr 16)] [] m (RV fun m2 => ∃ j3 : Nat, (x2 = (j3 : Int) ∧ j3 < 4) ∧ (N G d mi_X7_tell 0 [some (vr 0), some (vr (284 + 5 * j3)), none] [] m2 (RV fun m5 => ∃ j7 : Nat, ((x2 * 8) = (j7 : Int)) ∧ ((0 + 8 ≤ 8 ∧ j7 + 8 ≤ 32) ∧ (∀ m6 : MM, m6 = cpm m5 275 0 282 j7 8 → (N G (d + 1) mi_X7_tellAll 2 [some (vr 0), some (vi x1), some (vi (x2 + 1))] [] m6 (RV k)))))))) (N G (d + 1) mi_X7_tellAll 2 [some (vr 0), some (vi x1), some (vi (x2 + 1))] [] m (RV k)))) :
    N G (d + 1) mi_X7_tellAll 2 [some (vr 0), some (vi x1), some (vi x2)] [] m (RV k) := by
  refine v_iload_n dX7_tellAll_2 rfl rfl ?_
  refine v_aload_n dX7_tellAll_3 rfl rfl ?_
  refine n_getr dX7_tellAll_4 fo_X7_33 sh_0 rfl sr_0_5 ?_
  refine n_geti dX7_tellAll_7 fo_X7_100 sh_12 rfl ?_
  obtain ⟨⟨r1, r2⟩, hA, hB⟩ := hp
  refine v_icmp_ge (tgt := 73) dX7_tellAll_10 (by decide) r2 r1 (fun q => ?_) (fun q => ?_)
  · have hp := hA q
    exact n_retV dX7_tellAll_73 rfl hp
  · have hp := hB q
    refine v_iload_n dX7_tellAll_13 rfl rfl ?_
    refine v_iload_n dX7_tellAll_14 rfl rfl ?_
    refine v_ishr dX7_tellAll_15 ?_
    refine v_iconst dX7_tellAll_16 ?_
    refine v_iand dX7_tellAll_17 ?_
    refine v_iconst dX7_tellAll_18 ?_
    obtain ⟨⟨r1, r2⟩, hA, hB⟩ := hp
    refine v_icmp_ne (tgt := 67) dX7_tellAll_19 (by decide) r1 r2 (fun q => ?_) (fun q => ?_)
    · have hp := hB q
      refine v_iinc dX7_tellAll_67 rfl (by decide) ?_
      refine v_goto (tgt := 2) dX7_tellAll_70 (by decide) ?_
      exact hp
    · have hp := hA q
      refine v_aload_n dX7_tellAll_22 rfl rfl ?_
      refine n_getr dX7_tellAll_23 fo_X7_43 sh_0 rfl sr_0_7 ?_
      refine v_aload_n dX7_tellAll_26 rfl rfl ?_
      refine n_getr dX7_tellAll_27 fo_X7_33 sh_0 rfl sr_0_5 ?_
      refine n_getr dX7_tellAll_30 fo_X7_150 sh_12 rfl sr_12_9 ?_
      refine n_callVV (As := [vr 16]) (st := []) dX7_tellAll_33 ml_X7_192 mo_X0_copyFrom mv_X0_copyFrom sh_272 rfl rfl rfl rfl (Nat.le_of_ble_eq_true rfl) (Nat.le_of_ble_eq_true rfl) (by decide) hp (fun m2 hp => ?_)
      refine v_aload_n dX7_tellAll_36 rfl rfl ?_
      refine v_aload_n dX7_tellAll_37 rfl rfl ?_
      refine n_getr dX7_tellAll_38 fo_X7_26 sh_0 rfl sr_0_4 ?_
      refine v_iload_n dX7_tellAll_41 rfl rfl ?_
      obtain ⟨j3, ⟨ej3, bj3⟩, hp⟩ := hp
      refine n_aald5 (j := j3) dX7_tellAll_42 sh_11 ej3 bj3 (sr_scr j3) ?_
      refine n_callVV (As := [vr (284 + 5 * j3)]) (st := []) dX7_tellAll_43 ml_X7_195 mo_X7_tell mv_X7_tell sh_0 rfl rfl rfl rfl (Nat.le_of_ble_eq_true rfl) (Nat.le_of_ble_eq_true rfl) (by decide) hp (fun m5 hp => ?_)
      refine v_aload_n dX7_tellAll_46 rfl rfl ?_
      refine n_getr dX7_tellAll_47 fo_X7_43 sh_0 rfl sr_0_7 ?_
      refine n_getr dX7_tellAll_50 fo_X7_177 sh_272 rfl sr_272_3 ?_
      refine v_iconst dX7_tellAll_53 ?_
      refine v_aload_n dX7_tellAll_54 rfl rfl ?_
      refine n_getr dX7_tellAll_55 fo_X7_61 sh_0 rfl sr_0_10 ?_
      refine v_iload_n dX7_tellAll_58 rfl rfl ?_
      refine v_bipush dX7_tellAll_59 rfl ?_
      refine v_imul dX7_tellAll_61 ?_
      refine v_bipush dX7_tellAll_62 rfl ?_
      obtain ⟨j7, ej7, hp⟩ := hp
      obtain ⟨hg, hp⟩ := hp
      refine w_copy (sp := 0) (dp := j7) (n := 8) dX7_tellAll_64 ml_X7_319 acW sh_275 sh_282 (by decide) (by decide) rfl ej7 rfl hg.1 hg.2 (fun m6 em6 => ?_)
      have hp := hp m6 em6
      refine v_iinc dX7_tellAll_67 rfl (by decide) ?_
      refine v_goto (tgt := 2) dX7_tellAll_70 (by decide) ?_
      exact hp
theorem g_X7_tellsApart_0 {G : GG} {d : Nat} {m : MM} {k : Int → MM → Prop} (x1 : Int) (x2 : Int)
    (hp : N G (d + 1) mi_X7_tellsApart 2 [some (vr 0), some (vi x1), some (vi x2), some (vi 0), none, none] [] m (RI k)) :
    N G (d + 1) mi_X7_tellsApart 0 [some (vr 0), some (vi x1), some (vi x2), none, none, none] [] m (RI k) := by
  refine v_iconst dX7_tellsApart_0 ?_
  refine v_istore_n dX7_tellsApart_1 rfl (by decide) ?_
  exact hp
theorem g_X7_tellsApart_2 {G : GG} {d : Nat} {m : MM} {k : Int → MM → Prop} (x1 : Int) (x2 : Int) (x3 : Int)
    (hp : bLE (m 12 5) x3 (k 1 m) (N G (d + 1) mi_X7_tellsApart 18 [some (vr 0), some (vi x1), some (vi x2), some (vi x3), some (vi (x3 + 1)), none] [] m (RI k))) :
    N G (d + 1) mi_X7_tellsApart 2 [some (vr 0), some (vi x1), some (vi x2), some (vi x3), none, none] [] m (RI k) := by
  refine v_iload_n dX7_tellsApart_2 rfl rfl ?_
  refine v_aload_n dX7_tellsApart_3 rfl rfl ?_
  refine n_getr dX7_tellsApart_4 fo_X7_33 sh_0 rfl sr_0_5 ?_
  refine n_geti dX7_tellsApart_7 fo_X7_100 sh_12 rfl ?_
  obtain ⟨⟨r1, r2⟩, hA, hB⟩ := hp
  refine v_icmp_ge (tgt := 87) dX7_tellsApart_10 (by decide) r2 r1 (fun q => ?_) (fun q => ?_)
  · have hp := hA q
    refine v_iconst dX7_tellsApart_87 ?_
    exact n_retZ dX7_tellsApart_88 rfl (by decide) hp
  · have hp := hB q
    refine v_iload_n dX7_tellsApart_13 rfl rfl ?_
    refine v_iconst dX7_tellsApart_14 ?_
    refine v_iadd dX7_tellsApart_15 ?_
    refine v_istore dX7_tellsApart_16 (by decide) ?_
    exact hp
theorem g_X7_tellsApart_18 {G : GG} {d : Nat} {m : MM} {k : Int → MM → Prop} (x1 : Int) (x2 : Int) (x3 : Int) (x4 : Int)
    (hp : bLE (m 12 5) x4 (N G (d + 1) mi_X7_tellsApart 2 [some (vr 0), some (vi x1), some (vi x2), some (vi (x3 + 1)), none, none] [] m (RI k)) (bEQ (iand (iand (ishr x2 x3) (ishr x2 x4)) 1) 1 (N G (d + 1) mi_X7_tellsApart 49 [some (vr 0), some (vi x1), some (vi x2), some (vi x3), some (vi x4), none] [vi 1] m (RI k)) (N G (d + 1) mi_X7_tellsApart 49 [some (vr 0), some (vi x1), some (vi x2), some (vi x3), some (vi x4), none] [vi 0] m (RI k)))) :
    N G (d + 1) mi_X7_tellsApart 18 [some (vr 0), some (vi x1), some (vi x2), some (vi x3), some (vi x4), none] [] m (RI k) := by
  refine v_iload dX7_tellsApart_18 rfl ?_
  refine v_aload_n dX7_tellsApart_20 rfl rfl ?_
  refine n_getr dX7_tellsApart_21 fo_X7_33 sh_0 rfl sr_0_5 ?_
  refine n_geti dX7_tellsApart_24 fo_X7_100 sh_12 rfl ?_
  obtain ⟨⟨r1, r2⟩, hA, hB⟩ := hp
  refine v_icmp_ge (tgt := 81) dX7_tellsApart_27 (by decide) r2 r1 (fun q => ?_) (fun q => ?_)
  · have hp := hA q
    refine v_iinc dX7_tellsApart_81 rfl (by decide) ?_
    refine v_goto (tgt := 2) dX7_tellsApart_84 (by decide) ?_
    exact n_weak (wk_s (wk_s (wk_s (wk_s (wk_n (wk_s wk_nil)))))) hp
  · have hp := hB q
    refine v_iload_n dX7_tellsApart_30 rfl rfl ?_
    refine v_iload_n dX7_tellsApart_31 rfl rfl ?_
    refine v_ishr dX7_tellsApart_32 ?_
    refine v_iload_n dX7_tellsApart_33 rfl rfl ?_
    refine v_iload dX7_tellsApart_34 rfl ?_
    refine v_ishr dX7_tellsApart_36 ?_
    refine v_iand dX7_tellsApart_37 ?_
    refine v_iconst dX7_tellsApart_38 ?_
    refine v_iand dX7_tellsApart_39 ?_
    refine v_iconst dX7_tellsApart_40 ?_
    obtain ⟨⟨r1, r2⟩, hA, hB⟩ := hp
    refine v_icmp_ne (tgt := 48) dX7_tellsApart_41 (by decide) r1 r2 (fun q => ?_) (fun q => ?_)
    · have hp := hB q
      refine v_iconst dX7_tellsApart_48 ?_
      exact hp
    · have hp := hA q
      refine v_iconst dX7_tellsApart_44 ?_
      refine v_goto (tgt := 49) dX7_tellsApart_45 (by decide) ?_
      exact hp
theorem g_X7_tellsApart_49 {G : GG} {d : Nat} {m : MM} {k : Int → MM → Prop} (x1 : Int) (x2 : Int) (x3 : Int) (x4 : Int) (s0 : Int)
    (hp : bEQ s0 0 (N G (d + 1) mi_X7_tellsApart 18 [some (vr 0), some (vi x1), some (vi x2), some (vi x3), some (vi (x4 + 1)), none] [] m (RI k)) (N G d mi_X7_differ 0 [some (vr 0), some (vi x1), some (vi (x3 * 8)), some (vi (x4 * 8)), none] [] m (RI fun z1 m2 => bEQ z1 0 (k 0 m2) (N G (d + 1) mi_X7_tellsApart 18 [some (vr 0), some (vi x1), some (vi x2), some (vi x3), some (vi (x4 + 1)), none] [] m2 (RI k))))) :
    N G (d + 1) mi_X7_tellsApart 49 [some (vr 0), some (vi x1), some (vi x2), some (vi x3), some (vi x4), none] [vi s0] m (RI k) := by
  refine v_istore dX7_tellsApart_49 (by decide) ?_
  refine v_iload dX7_tellsApart_51 rfl ?_
  obtain ⟨⟨r1, r2⟩, hA, hB⟩ := hp
  refine v_if_eq (tgt := 75) dX7_tellsApart_53 (by decide) r1 (fun q => ?_) (fun q => ?_)
  · have hp := hA q
    refine v_iinc dX7_tellsApart_75 rfl (by decide) ?_
    refine v_goto (tgt := 18) dX7_tellsApart_78 (by decide) ?_
    exact n_weak (wk_s (wk_s (wk_s (wk_s (wk_s (wk_n wk_nil)))))) hp
  · have hp := hB q
    refine v_aload_n dX7_tellsApart_56 rfl rfl ?_
    refine v_iload_n dX7_tellsApart_57 rfl rfl ?_
    refine v_iload_n dX7_tellsApart_58 rfl rfl ?_
    refine v_bipush dX7_tellsApart_59 rfl ?_
    refine v_imul dX7_tellsApart_61 ?_
    refine v_iload dX7_tellsApart_62 rfl ?_
    refine v_bipush dX7_tellsApart_64 rfl ?_
    refine v_imul dX7_tellsApart_66 ?_
    refine n_callVI (As := [vi x1, vi (x3 * 8), vi (x4 * 8)]) (st := []) dX7_tellsApart_67 ml_X7_325 mo_X7_differ mv_X7_differ sh_0 rfl rfl rfl rfl (Nat.le_of_ble_eq_true rfl) (Nat.le_of_ble_eq_true rfl) (by decide) hp (fun z1 m2 hp => ?_)
    obtain ⟨⟨r1, r2⟩, hA, hB⟩ := hp
    refine v_if_ne (tgt := 75) dX7_tellsApart_70 (by decide) r1 (fun q => ?_) (fun q => ?_)
    · have hp := hB q
      refine v_iinc dX7_tellsApart_75 rfl (by decide) ?_
      refine v_goto (tgt := 18) dX7_tellsApart_78 (by decide) ?_
      exact n_weak (wk_s (wk_s (wk_s (wk_s (wk_s (wk_n wk_nil)))))) hp
    · have hp := hA q
      refine v_iconst dX7_tellsApart_73 ?_
      exact n_retZ dX7_tellsApart_74 rfl (by decide) hp
theorem g_X7_differ_0 {G : GG} {d : Nat} {m : MM} {k : Int → MM → Prop} (x1 : Int) (x2 : Int) (x3 : Int)
    (hp : N G d mi_X7_differ 3 [some (vr 0), some (vi x1), some (vi x2), some (vi x3), some (vi 0)] [] m (RI k)) :
    N G d mi_X7_differ 0 [some (vr 0), some (vi x1), some (vi x2), some (vi x3), none] [] m (RI k) := by
  refine v_iconst dX7_differ_0 ?_
  refine v_istore dX7_differ_1 (by decide) ?_
  exact hp
theorem g_X7_differ_3 {G : GG} {d : Nat} {m : MM} {k : Int → MM → Prop} (x1 : Int) (x2 : Int) (x3 : Int) (x4 : Int)
    (hp : bLE (m 12 2) x4 (k 0 m) (bEQ (iand (ishr x1 x4) 1) 1 (∃ j1 : Nat, ((x2 + x4) = (j1 : Int) ∧ j1 < 32) ∧ (∃ j2 : Nat, ((x3 + x4) = (j2 : Int) ∧ j2 < 32) ∧ (bEQ (m 282 j1) (m 282 j2) (N G d mi_X7_differ 3 [some (vr 0), some (vi x1), some (vi x2), some (vi x3), some (vi (x4 + 1))] [] m (RI k)) (k 1 m)))) (N G d mi_X7_differ 3 [some (vr 0), some (vi x1), some (vi x2), some (vi x3), some (vi (x4 + 1))] [] m (RI k)))) :
    N G d mi_X7_differ 3 [some (vr 0), some (vi x1), some (vi x2), some (vi x3), some (vi x4)] [] m (RI k) := by
  refine v_iload dX7_differ_3 rfl ?_
  refine v_aload_n dX7_differ_5 rfl rfl ?_
  refine n_getr dX7_differ_6 fo_X7_33 sh_0 rfl sr_0_5 ?_
  refine n_geti dX7_differ_9 fo_X7_87 sh_12 rfl ?_
  obtain ⟨⟨r1, r2⟩, hA, hB⟩ := hp
  refine v_icmp_ge (tgt := 54) dX7_differ_12 (by decide) r2 r1 (fun q => ?_) (fun q => ?_)
  · have hp := hA q
    refine v_iconst dX7_differ_54 ?_
    exact n_retZ dX7_differ_55 rfl (by decide) hp
  · have hp := hB q
    refine v_iload_n dX7_differ_15 rfl rfl ?_
    refine v_iload dX7_differ_16 rfl ?_
    refine v_ishr dX7_differ_18 ?_
    refine v_iconst dX7_differ_19 ?_
    refine v_iand dX7_differ_20 ?_
    refine v_iconst dX7_differ_21 ?_
    obtain ⟨⟨r1, r2⟩, hA, hB⟩ := hp
    refine v_icmp_ne (tgt := 48) dX7_differ_22 (by decide) r1 r2 (fun q => ?_) (fun q => ?_)
    · have hp := hB q
      refine v_iinc dX7_differ_48 rfl (by decide) ?_
      refine v_goto (tgt := 3) dX7_differ_51 (by decide) ?_
      exact hp
    · have hp := hA q
      refine v_aload_n dX7_differ_25 rfl rfl ?_
      refine n_getr dX7_differ_26 fo_X7_61 sh_0 rfl sr_0_10 ?_
      refine v_iload_n dX7_differ_29 rfl rfl ?_
      refine v_iload dX7_differ_30 rfl ?_
      refine v_iadd dX7_differ_32 ?_
      obtain ⟨j1, ⟨ej1, bj1⟩, hp⟩ := hp
      refine n_iald (j := j1) dX7_differ_33 sh_282 ej1 bj1 ?_
      refine v_aload_n dX7_differ_34 rfl rfl ?_
      refine n_getr dX7_differ_35 fo_X7_61 sh_0 rfl sr_0_10 ?_
      refine v_iload_n dX7_differ_38 rfl rfl ?_
      refine v_iload dX7_differ_39 rfl ?_
      refine v_iadd dX7_differ_41 ?_
      obtain ⟨j2, ⟨ej2, bj2⟩, hp⟩ := hp
      refine n_iald (j := j2) dX7_differ_42 sh_282 ej2 bj2 ?_
      obtain ⟨⟨r1, r2⟩, hA, hB⟩ := hp
      refine v_icmp_eq (tgt := 48) dX7_differ_43 (by decide) r1 r2 (fun q => ?_) (fun q => ?_)
      · have hp := hA q
        refine v_iinc dX7_differ_48 rfl (by decide) ?_
        refine v_goto (tgt := 3) dX7_differ_51 (by decide) ?_
        exact hp
      · have hp := hB q
        refine v_iconst dX7_differ_46 ?_
        exact n_retZ dX7_differ_47 rfl (by decide) hp
theorem g_X7_isNoWorse_0 {G : GG} {d : Nat} {m : MM} {k : Int → MM → Prop} (x1 : Int) (x2 : Int)
    (hp : N G d mi_X7_priceOf 0 [some (vr 0), some (vi x2), none, none] [] m (RI fun z1 m2 => N G d mi_X7_priceOf 0 [some (vr 0), some (vi x1), none, none] [] m2 (RI fun z3 m4 => bLT 0 (z1 - z3) (k 1 m4) (bEQ (z1 - z3) 0 (N G d mi_J6_bitCount_0f7a4 0 [some (vi x1)] [] m4 (RI fun z5 m6 => N G d mi_J6_bitCount_0f7a4 0 [some (vi x2)] [] m6 (RI fun z7 m8 => bLT z7 z5 (k 0 m8) (k 1 m8)))) (k 0 m4))))) :
    N G (d + 1) mi_X7_isNoWorse 0 [some (vr 0), some (vi x1), some (vi x2), none] [] m (RI k) := by
  refine v_aload_n dX7_isNoWorse_0 rfl rfl ?_
  refine v_iload_n dX7_isNoWorse_1 rfl rfl ?_
  refine n_callVI (As := [vi x2]) (st := []) dX7_isNoWorse_2 ml_X7_329 mo_X7_priceOf mv_X7_priceOf sh_0 rfl rfl rfl rfl (Nat.le_of_ble_eq_true rfl) (Nat.le_of_ble_eq_true rfl) (by decide) hp (fun z1 m2 hp => ?_)
  refine v_aload_n dX7_isNoWorse_5 rfl rfl ?_
  refine v_iload_n dX7_isNoWorse_6 rfl rfl ?_
  refine n_callVI (As := [vi x1]) (st := [vi z1]) dX7_isNoWorse_7 ml_X7_329 mo_X7_priceOf mv_X7_priceOf sh_0 rfl rfl rfl rfl (Nat.le_of_ble_eq_true rfl) (Nat.le_of_ble_eq_true rfl) (by decide) hp (fun z3 m4 hp => ?_)
  refine v_isub dX7_isNoWorse_10 ?_
  refine v_istore_n dX7_isNoWorse_11 rfl (by decide) ?_
  refine v_iload_n dX7_isNoWorse_12 rfl rfl ?_
  obtain ⟨⟨r1, r2⟩, hA, hB⟩ := hp
  refine v_if_gt (tgt := 31) dX7_isNoWorse_13 (by decide) r2 (fun q => ?_) (fun q => ?_)
  · have hp := hA q
    refine v_iconst dX7_isNoWorse_31 ?_
    refine v_goto (tgt := 36) dX7_isNoWorse_32 (by decide) ?_
    exact n_retZ dX7_isNoWorse_36 rfl (by decide) hp
  · have hp := hB q
    refine v_iload_n dX7_isNoWorse_16 rfl rfl ?_
    obtain ⟨⟨r1, r2⟩, hA, hB⟩ := hp
    refine v_if_ne (tgt := 35) dX7_isNoWorse_17 (by decide) r1 (fun q => ?_) (fun q => ?_)
    · have hp := hB q
      refine v_iconst dX7_isNoWorse_35 ?_
      exact n_retZ dX7_isNoWorse_36 rfl (by decide) hp
    · have hp := hA q
      refine v_iload_n dX7_isNoWorse_20 rfl rfl ?_
      refine n_callSI (As := [vi x1]) (st := []) dX7_isNoWorse_21 ml_X7_199 mo_J6_bitCount_0f7a4 ms_J6_bitCount_0f7a4 rfl rfl (Nat.le_of_ble_eq_true rfl) (Nat.le_of_ble_eq_true rfl) (by decide) hp (fun z5 m6 hp => ?_)
      refine v_iload_n dX7_isNoWorse_24 rfl rfl ?_
      refine n_callSI (As := [vi x2]) (st := [vi z5]) dX7_isNoWorse_25 ml_X7_199 mo_J6_bitCount_0f7a4 ms_J6_bitCount_0f7a4 rfl rfl (Nat.le_of_ble_eq_true rfl) (Nat.le_of_ble_eq_true rfl) (by decide) hp (fun z7 m8 hp => ?_)
      obtain ⟨⟨r1, r2⟩, hA, hB⟩ := hp
      refine v_icmp_gt (tgt := 35) dX7_isNoWorse_28 (by decide) r2 r1 (fun q => ?_) (fun q => ?_)
      · have hp := hA q
        refine v_iconst dX7_isNoWorse_35 ?_
        exact n_retZ dX7_isNoWorse_36 rfl (by decide) hp
      · have hp := hB q
        refine v_iconst dX7_isNoWorse_31 ?_
        refine v_goto (tgt := 36) dX7_isNoWorse_32 (by decide) ?_
        exact n_retZ dX7_isNoWorse_36 rfl (by decide) hp
theorem g_X7_priceOf_0 {G : GG} {d : Nat} {m : MM} {k : Int → MM → Prop} (x1 : Int)
    (hp : N G d mi_X7_priceOf 4 [some (vr 0), some (vi x1), some (vi 0), some (vi 0)] [] m (RI k)) :
    N G d mi_X7_priceOf 0 [some (vr 0), some (vi x1), none, none] [] m (RI k) := by
  refine v_iconst dX7_priceOf_0 ?_
  refine v_istore_n dX7_priceOf_1 rfl (by decide) ?_
  refine v_iconst dX7_priceOf_2 ?_
  refine v_istore_n dX7_priceOf_3 rfl (by decide) ?_
  exact hp
theorem g_X7_priceOf_4 {G : GG} {d : Nat} {m : MM} {k : Int → MM → Prop} (x1 : Int) (x2 : Int) (x3 : Int)
    (hp : bLE (m 12 2) x3 (k x2 m) (∃ j1 : Nat, (x3 = (j1 : Int) ∧ j1 < 8) ∧ (N G d mi_X7_priceOf 4 [some (vr 0), some (vi x1), some (vi (x2 + ((m 283 j1) * (iand (ishr x1 x3) 1)))), some (vi (x3 + 1))] [] m (RI k)))) :
    N G d mi_X7_priceOf 4 [some (vr 0), some (vi x1), some (vi x2), some (vi x3)] [] m (RI k) := by
  refine v_iload_n dX7_priceOf_4 rfl rfl ?_
  refine v_aload_n dX7_priceOf_5 rfl rfl ?_
  refine n_getr dX7_priceOf_6 fo_X7_33 sh_0 rfl sr_0_5 ?_
  refine n_geti dX7_priceOf_9 fo_X7_87 sh_12 rfl ?_
  obtain ⟨⟨r1, r2⟩, hA, hB⟩ := hp
  refine v_icmp_ge (tgt := 36) dX7_priceOf_12 (by decide) r2 r1 (fun q => ?_) (fun q => ?_)
  · have hp := hA q
    refine v_iload_n dX7_priceOf_36 rfl rfl ?_
    exact n_retI dX7_priceOf_37 rfl hp
  · have hp := hB q
    refine v_iload_n dX7_priceOf_15 rfl rfl ?_
    refine v_aload_n dX7_priceOf_16 rfl rfl ?_
    refine n_getr dX7_priceOf_17 fo_X7_65 sh_0 rfl sr_0_11 ?_
    refine v_iload_n dX7_priceOf_20 rfl rfl ?_
    obtain ⟨j1, ⟨ej1, bj1⟩, hp⟩ := hp
    refine n_iald (j := j1) dX7_priceOf_21 sh_283 ej1 bj1 ?_
    refine v_iload_n dX7_priceOf_22 rfl rfl ?_
    refine v_iload_n dX7_priceOf_23 rfl rfl ?_
    refine v_ishr dX7_priceOf_24 ?_
    refine v_iconst dX7_priceOf_25 ?_
    refine v_iand dX7_priceOf_26 ?_
    refine v_imul dX7_priceOf_27 ?_
    refine v_iadd dX7_priceOf_28 ?_
    refine v_istore_n dX7_priceOf_29 rfl (by decide) ?_
    refine v_iinc dX7_priceOf_30 rfl (by decide) ?_
    refine v_goto (tgt := 4) dX7_priceOf_33 (by decide) ?_
    exact hp
theorem g_X7_findRows_0 {G : GG} {d : Nat} {m : MM} {k : MM → Prop} (x1 : Int) (x2 : Int)
    (hp : N G d mi_X0_copyFrom 0 [some (vr 272), some (vr 16)] [] m (RV fun m2 => ∃ j3 : Nat, (x1 = (j3 : Int) ∧ j3 < 8) ∧ (N G d mi_X4_begin 0 [some (vr 279), some (vi x1), some (vi x2), some (vi (m2 273 j3)), some (vi (m2 0 0))] [] m2 (RV fun m5 => bLT 999 ((m5 272 0) + x2) (k m5) (∃ j6 : Nat, (x1 = (j6 : Int) ∧ j6 < 8) ∧ (N G d mi_X7_goThroughRows 0 [some (vr 0), some (vi 0), some (vi (m5 275 j6)), some (vi 1), some (vi 0)] [] m5 (RV fun m8 => k m8))))))) :
    N G (d + 1) mi_X7_findRows 0 [some (vr 0), some (vi x1), some (vi x2)] [] m (RV k) := by
  refine v_aload_n dX7_findRows_0 rfl rfl ?_
  refine n_getr dX7_findRows_1 fo_X7_43 sh_0 rfl sr_0_7 ?_
  refine v_aload_n dX7_findRows_4 rfl rfl ?_
  refine n_getr dX7_findRows_5 fo_X7_33 sh_0 rfl sr_0_5 ?_
  refine n_getr dX7_findRows_8 fo_X7_150 sh_12 rfl sr_12_9 ?_
  refine n_callVV (As := [vr 16]) (st := []) dX7_findRows_11 ml_X7_192 mo_X0_copyFrom mv_X0_copyFrom sh_272 rfl rfl rfl rfl (Nat.le_of_ble_eq_true rfl) (Nat.le_of_ble_eq_true rfl) (by decide) hp (fun m2 hp => ?_)
  refine v_aload_n dX7_findRows_14 rfl rfl ?_
  refine n_getr dX7_findRows_15 fo_X7_57 sh_0 rfl sr_0_9 ?_
  refine v_iload_n dX7_findRows_18 rfl rfl ?_
  refine v_iload_n dX7_findRows_19 rfl rfl ?_
  refine v_aload_n dX7_findRows_20 rfl rfl ?_
  refine n_getr dX7_findRows_21 fo_X7_43 sh_0 rfl sr_0_7 ?_
  refine n_getr dX7_findRows_24 fo_X7_183 sh_272 rfl sr_272_1 ?_
  refine v_iload_n dX7_findRows_27 rfl rfl ?_
  obtain ⟨j3, ⟨ej3, bj3⟩, hp⟩ := hp
  refine n_iald (j := j3) dX7_findRows_28 sh_273 ej3 bj3 ?_
  refine v_aload_n dX7_findRows_29 rfl rfl ?_
  refine n_geti dX7_findRows_30 fo_X7_77 sh_0 rfl ?_
  refine n_callVV (As := [vi x1, vi x2, vi (m2 273 j3), vi (m2 0 0)]) (st := []) dX7_findRows_33 ml_X7_332 mo_X4_begin mv_X4_begin sh_279 rfl rfl rfl rfl (Nat.le_of_ble_eq_true rfl) (Nat.le_of_ble_eq_true rfl) (by decide) hp (fun m5 hp => ?_)
  refine v_aload_n dX7_findRows_36 rfl rfl ?_
  refine n_getr dX7_findRows_37 fo_X7_43 sh_0 rfl sr_0_7 ?_
  refine n_geti dX7_findRows_40 fo_X7_247 sh_272 rfl ?_
  refine v_iload_n dX7_findRows_43 rfl rfl ?_
  refine v_iadd dX7_findRows_44 ?_
  refine v_sipush dX7_findRows_45 rfl ?_
  obtain ⟨⟨r1, r2⟩, hA, hB⟩ := hp
  refine v_icmp_gt (tgt := 67) dX7_findRows_48 (by decide) r2 r1 (fun q => ?_) (fun q => ?_)
  · have hp := hA q
    exact n_retV dX7_findRows_67 rfl hp
  · have hp := hB q
    refine v_aload_n dX7_findRows_51 rfl rfl ?_
    refine v_iconst dX7_findRows_52 ?_
    refine v_aload_n dX7_findRows_53 rfl rfl ?_
    refine n_getr dX7_findRows_54 fo_X7_43 sh_0 rfl sr_0_7 ?_
    refine n_getr dX7_findRows_57 fo_X7_177 sh_272 rfl sr_272_3 ?_
    refine v_iload_n dX7_findRows_60 rfl rfl ?_
    obtain ⟨j6, ⟨ej6, bj6⟩, hp⟩ := hp
    refine n_iald (j := j6) dX7_findRows_61 sh_275 ej6 bj6 ?_
    refine v_iconst dX7_findRows_62 ?_
    refine v_iconst dX7_findRows_63 ?_
    refine n_callVV (As := [vi 0, vi (m5 275 j6), vi 1, vi 0]) (st := []) dX7_findRows_64 ml_X7_335 mo_X7_goThroughRows mv_X7_goThroughRows sh_0 rfl rfl rfl rfl (Nat.le_of_ble_eq_true rfl) (Nat.le_of_ble_eq_true rfl) (by decide) hp (fun m8 hp => ?_)
    exact n_retV dX7_findRows_67 rfl hp
theorem g_X7_goThroughRows_0 {G : GG} {d : Nat} {m : MM} {k : MM → Prop} (x1 : Int) (x2 : Int) (x3 : Int) (x4 : Int)
    (hp : bLT x1 (m 279 1) (bEQ (m 279 2) 0 (N G (d + 1) mi_X7_goThroughRows 52 [some (vr 0), some (vi x1), some (vi x2), some (vi x3), some (vi x4)] [] m (RV k)) (N G d mi_X7_touchByOthers 0 [some (vr 0), some (vi x1), some (vi x2), some (vi x3), some (vi x4), none] [] m (RV fun m2 => N G (d + 1) mi_X7_goThroughRows 52 [some (vr 0), some (vi x1), some (vi x2), some (vi x3), some (vi x4)] [] m2 (RV k)))) (bEQ x2 (m 12 8) (N G d mi_X4_found 0 [some (vr 279), some (vi x3), some (vi x4), none] [] m (RV fun m4 => k m4)) (k m))) :
    N G (d + 1) mi_X7_goThroughRows 0 [some (vr 0), some (vi x1), some (vi x2), some (vi x3), some (vi x4)] [] m (RV k) := by
  refine v_iload_n dX7_goThroughRows_0 rfl rfl ?_
  refine v_aload_n dX7_goThroughRows_1 rfl rfl ?_
  refine n_getr dX7_goThroughRows_2 fo_X7_57 sh_0 rfl sr_0_9 ?_
  refine n_geti dX7_goThroughRows_5 fo_X7_338 sh_279 rfl ?_
  obtain ⟨⟨r1, r2⟩, hA, hB⟩ := hp
  refine v_icmp_lt (tgt := 33) dX7_goThroughRows_8 (by decide) r1 r2 (fun q => ?_) (fun q => ?_)
  · have hp := hA q
    refine v_aload_n dX7_goThroughRows_33 rfl rfl ?_
    refine n_getr dX7_goThroughRows_34 fo_X7_57 sh_0 rfl sr_0_9 ?_
    refine n_geti dX7_goThroughRows_37 fo_X7_344 sh_279 rfl ?_
    obtain ⟨⟨r1, r2⟩, hA, hB⟩ := hp
    refine v_if_eq (tgt := 52) dX7_goThroughRows_40 (by decide) r1 (fun q => ?_) (fun q => ?_)
    · have hp := hA q
      exact hp
    · have hp := hB q
      refine v_aload_n dX7_goThroughRows_43 rfl rfl ?_
      refine v_iload_n dX7_goThroughRows_44 rfl rfl ?_
      refine v_iload_n dX7_goThroughRows_45 rfl rfl ?_
      refine v_iload_n dX7_goThroughRows_46 rfl rfl ?_
      refine v_iload dX7_goThroughRows_47 rfl ?_
      refine n_callVV (As := [vi x1, vi x2, vi x3, vi x4]) (st := []) dX7_goThroughRows_49 ml_X7_347 mo_X7_touchByOthers mv_X7_touchByOthers sh_0 rfl rfl rfl rfl (Nat.le_of_ble_eq_true rfl) (Nat.le_of_ble_eq_true rfl) (by decide) hp (fun m2 hp => ?_)
      exact hp
  · have hp := hB q
    refine v_iload_n dX7_goThroughRows_11 rfl rfl ?_
    refine v_aload_n dX7_goThroughRows_12 rfl rfl ?_
    refine n_getr dX7_goThroughRows_13 fo_X7_33 sh_0 rfl sr_0_5 ?_
    refine n_geti dX7_goThroughRows_16 fo_X7_220 sh_12 rfl ?_
    obtain ⟨⟨r1, r2⟩, hA, hB⟩ := hp
    refine v_icmp_ne (tgt := 32) dX7_goThroughRows_19 (by decide) r1 r2 (fun q => ?_) (fun q => ?_)
    · have hp := hB q
      exact n_retV dX7_goThroughRows_32 rfl hp
    · have hp := hA q
      refine v_aload_n dX7_goThroughRows_22 rfl rfl ?_
      refine n_getr dX7_goThroughRows_23 fo_X7_57 sh_0 rfl sr_0_9 ?_
      refine v_iload_n dX7_goThroughRows_26 rfl rfl ?_
      refine v_iload dX7_goThroughRows_27 rfl ?_
      refine n_callVV (As := [vi x3, vi x4]) (st := []) dX7_goThroughRows_29 ml_X7_341 mo_X4_found mv_X4_found sh_279 rfl rfl rfl rfl (Nat.le_of_ble_eq_true rfl) (Nat.le_of_ble_eq_true rfl) (by decide) hp (fun m4 hp => ?_)
      exact n_retV dX7_goThroughRows_32 rfl hp
theorem g_X7_goThroughRows_52 {G : GG} {d : Nat} {m : MM} {k : MM → Prop} (x1 : Int) (x2 : Int) (x3 : Int) (x4 : Int)
    (hp : bEQ (m 279 2) (-1) (N G (d + 1) mi_X7_goThroughRows 72 [some (vr 0), some (vi x1), some (vi x2), some (vi x3), some (vi x4)] [] m (RV k)) (N G d mi_X7_touchByWearer 0 [some (vr 0), some (vi x1), some (vi x2), some (vi x3), some (vi x4), none, none, none] [] m (RV fun m2 => N G (d + 1) mi_X7_goThroughRows 72 [some (vr 0), some (vi x1), some (vi x2), some (vi x3), some (vi x4)] [] m2 (RV k)))) :
    N G (d + 1) mi_X7_goThroughRows 52 [some (vr 0), some (vi x1), some (vi x2), some (vi x3), some (vi x4)] [] m (RV k) := by
  refine v_aload_n dX7_goThroughRows_52 rfl rfl ?_
  refine n_getr dX7_goThroughRows_53 fo_X7_57 sh_0 rfl sr_0_9 ?_
  refine n_geti dX7_goThroughRows_56 fo_X7_344 sh_279 rfl ?_
  refine v_iconst dX7_goThroughRows_59 ?_
  obtain ⟨⟨r1, r2⟩, hA, hB⟩ := hp
  refine v_icmp_eq (tgt := 72) dX7_goThroughRows_60 (by decide) r1 r2 (fun q => ?_) (fun q => ?_)
  · have hp := hA q
    exact hp
  · have hp := hB q
    refine v_aload_n dX7_goThroughRows_63 rfl rfl ?_
    refine v_iload_n dX7_goThroughRows_64 rfl rfl ?_
    refine v_iload_n dX7_goThroughRows_65 rfl rfl ?_
    refine v_iload_n dX7_goThroughRows_66 rfl rfl ?_
    refine v_iload dX7_goThroughRows_67 rfl ?_
    refine n_callVV (As := [vi x1, vi x2, vi x3, vi x4]) (st := []) dX7_goThroughRows_69 ml_X7_350 mo_X7_touchByWearer mv_X7_touchByWearer sh_0 rfl rfl rfl rfl (Nat.le_of_ble_eq_true rfl) (Nat.le_of_ble_eq_true rfl) (by decide) hp (fun m2 hp => ?_)
    exact hp
theorem g_X7_goThroughRows_72 {G : GG} {d : Nat} {m : MM} {k : MM → Prop} (x1 : Int) (x2 : Int) (x3 : Int) (x4 : Int)
    (hp : bEQ (m 279 2) 0 (N G d mi_X7_touchByOthers 0 [some (vr 0), some (vi x1), some (vi x2), some (vi x3), some (vi x4), none] [] m (RV fun m2 => k m2)) (k m)) :
    N G (d + 1) mi_X7_goThroughRows 72 [some (vr 0), some (vi x1), some (vi x2), some (vi x3), some (vi x4)] [] m (RV k) := by
  refine v_aload_n dX7_goThroughRows_72 rfl rfl ?_
  refine n_getr dX7_goThroughRows_73 fo_X7_57 sh_0 rfl sr_0_9 ?_
  refine n_geti dX7_goThroughRows_76 fo_X7_344 sh_279 rfl ?_
  obtain ⟨⟨r1, r2⟩, hA, hB⟩ := hp
  refine v_if_ne (tgt := 91) dX7_goThroughRows_79 (by decide) r1 (fun q => ?_) (fun q => ?_)
  · have hp := hB q
    exact n_retV dX7_goThroughRows_91 rfl hp
  · have hp := hA q
    refine v_aload_n dX7_goThroughRows_82 rfl rfl ?_
    refine v_iload_n dX7_goThroughRows_83 rfl rfl ?_
    refine v_iload_n dX7_goThroughRows_84 rfl rfl ?_
    refine v_iload_n dX7_goThroughRows_85 rfl rfl ?_
    refine v_iload dX7_goThroughRows_86 rfl ?_
    refine n_callVV (As := [vi x1, vi x2, vi x3, vi x4]) (st := []) dX7_goThroughRows_88 ml_X7_347 mo_X7_touchByOthers mv_X7_touchByOthers sh_0 rfl rfl rfl rfl (Nat.le_of_ble_eq_true rfl) (Nat.le_of_ble_eq_true rfl) (by decide) hp (fun m2 hp => ?_)
    exact n_retV dX7_goThroughRows_91 rfl hp
theorem g_X7_touchByOthers_0 {G : GG} {d : Nat} {m : MM} {k : MM → Prop} (x1 : Int) (x2 : Int) (x3 : Int) (x4 : Int)
    (hp : bLE ((m 279 3) * (m 12 0)) 0 (k m) (bLE 3 x1 (k m) (∃ j2 : Nat, (x1 = (j2 : Int) ∧ j2 < 3) ∧ (∀ m1 : MM, m1 = upm m 280 j2 (8 * (m 279 4)) → (N G d mi_X7_goThroughRows 0 [some (vr 0), some (vi (x1 + 1)), some (vi x2), some (vi (x3 * ((m 279 3) * (m 12 0)))), some (vi (ior x4 2))] [] m1 (RV fun m4 => k m4)))))) :
    N G (d + 1) mi_X7_touchByOthers 0 [some (vr 0), some (vi x1), some (vi x2), some (vi x3), some (vi x4), none] [] m (RV k) := by
  refine v_aload_n dX7_touchByOthers_0 rfl rfl ?_
  refine n_getr dX7_touchByOthers_1 fo_X7_57 sh_0 rfl sr_0_9 ?_
  refine n_geti dX7_touchByOthers_4 fo_X7_353 sh_279 rfl ?_
  refine v_aload_n dX7_touchByOthers_7 rfl rfl ?_
  refine n_getr dX7_touchByOthers_8 fo_X7_33 sh_0 rfl sr_0_5 ?_
  refine n_geti dX7_touchByOthers_11 fo_X7_81 sh_12 rfl ?_
  refine v_imul dX7_touchByOthers_14 ?_
  refine v_istore dX7_touchByOthers_15 (by decide) ?_
  refine v_iload dX7_touchByOthers_17 rfl ?_
  obtain ⟨⟨r1, r2⟩, hA, hB⟩ := hp
  refine v_if_le (tgt := 62) dX7_touchByOthers_19 (by decide) r1 (fun q => ?_) (fun q => ?_)
  · have hp := hA q
    exact n_retV dX7_touchByOthers_62 rfl hp
  · have hp := hB q
    refine v_iload_n dX7_touchByOthers_22 rfl rfl ?_
    refine v_iconst dX7_touchByOthers_23 ?_
    obtain ⟨⟨r1, r2⟩, hA, hB⟩ := hp
    refine v_icmp_ge (tgt := 62) dX7_touchByOthers_24 (by decide) r2 r1 (fun q => ?_) (fun q => ?_)
    · have hp := hA q
      exact n_retV dX7_touchByOthers_62 rfl hp
    · have hp := hB q
      refine v_aload_n dX7_touchByOthers_27 rfl rfl ?_
      refine n_getr dX7_touchByOthers_28 fo_X7_57 sh_0 rfl sr_0_9 ?_
      refine n_getr dX7_touchByOthers_31 fo_X7_355 sh_279 rfl sr_279_7 ?_
      refine v_iload_n dX7_touchByOthers_34 rfl rfl ?_
      refine v_bipush dX7_touchByOthers_35 rfl ?_
      refine v_aload_n dX7_touchByOthers_37 rfl rfl ?_
      refine n_getr dX7_touchByOthers_38 fo_X7_57 sh_0 rfl sr_0_9 ?_
      refine n_geti dX7_touchByOthers_41 fo_X7_358 sh_279 rfl ?_
      refine v_imul dX7_touchByOthers_44 ?_
      obtain ⟨j2, ⟨ej2, bj2⟩, hp⟩ := hp
      refine w_iast (j := j2) dX7_touchByOthers_45 sh_280 ej2 bj2 (fun m1 em1 => ?_)
      have hp := hp m1 em1
      refine v_aload_n dX7_touchByOthers_46 rfl rfl ?_
      refine v_iload_n dX7_touchByOthers_47 rfl rfl ?_
      refine v_iconst dX7_touchByOthers_48 ?_
      refine v_iadd dX7_touchByOthers_49 ?_
      refine v_iload_n dX7_touchByOthers_50 rfl rfl ?_
      refine v_iload_n dX7_touchByOthers_51 rfl rfl ?_
      refine v_iload dX7_touchByOthers_52 rfl ?_
      refine v_imul dX7_touchByOthers_54 ?_
      refine v_iload dX7_touchByOthers_55 rfl ?_
      refine v_iconst dX7_touchByOthers_57 ?_
      refine v_ior dX7_touchByOthers_58 ?_
      refine n_callVV (As := [vi (x1 + 1), vi x2, vi (x3 * ((m 279 3) * (m 12 0))), vi (ior x4 2)]) (st := []) dX7_touchByOthers_59 ml_X7_335 mo_X7_goThroughRows mv_X7_goThroughRows sh_0 rfl rfl rfl rfl (Nat.le_of_ble_eq_true rfl) (Nat.le_of_ble_eq_true rfl) (by decide) hp (fun m4 hp => ?_)
      exact n_retV dX7_touchByOthers_62 rfl hp
theorem g_X7_touchByWearer_0 {G : GG} {d : Nat} {m : MM} {k : MM → Prop} (x1 : Int) (x2 : Int) (x3 : Int) (x4 : Int)
    (hp : N G (d + 1) mi_X7_touchByWearer 19 [some (vr 0), some (vi x1), some (vi x2), some (vi x3), some (vi x4), some (vi (((m 16 0) + x1) + 1)), some (vi 0), none] [] m (RV k)) :
    N G (d + 1) mi_X7_touchByWearer 0 [some (vr 0), some (vi x1), some (vi x2), some (vi x3), some (vi x4), none, none, none] [] m (RV k) := by
  refine v_aload_n dX7_touchByWearer_0 rfl rfl ?_
  refine n_getr dX7_touchByWearer_1 fo_X7_33 sh_0 rfl sr_0_5 ?_
  refine n_getr dX7_touchByWearer_4 fo_X7_150 sh_12 rfl sr_12_9 ?_
  refine n_geti dX7_touchByWearer_7 fo_X7_247 sh_16 rfl ?_
  refine v_iload_n dX7_touchByWearer_10 rfl rfl ?_
  refine v_iadd dX7_touchByWearer_11 ?_
  refine v_iconst dX7_touchByWearer_12 ?_
  refine v_iadd dX7_touchByWearer_13 ?_
  refine v_istore dX7_touchByWearer_14 (by decide) ?_
  refine v_iconst dX7_touchByWearer_16 ?_
  refine v_istore dX7_touchByWearer_17 (by decide) ?_
  exact hp
theorem g_X7_touchByWearer_19 {G : GG} {d : Nat} {m : MM} {k : MM → Prop} (x1 : Int) (x2 : Int) (x3 : Int) (x4 : Int) (x5 : Int) (x6 : Int)
    (hp : bLE (m 12 0) x6 (k m) (bLE 3 x1 (k m) (∀ m1 : MM, m1 = upm m 272 0 x5 → (∃ j3 : Nat, ((m1 279 0) = (j3 : Int) ∧ j3 < 8) ∧ (∀ m2 : MM, m2 = upm m1 275 j3 x2 → (N G d mi_X7_isSeen 0 [some (vr 0), some (vr 272), some (vi (m2 279 0)), some (vi x6), some (vi (m2 279 2)), none] [] m2 (RI fun z4 m5 => ∃ j7 : Nat, (x1 = (j7 : Int) ∧ j7 < 3) ∧ (∀ m6 : MM, m6 = upm m5 280 j7 ((8 * (m5 279 2)) + x6) → (bEQ z4 0 (N G (d + 1) mi_X7_touchByWearer 136 [some (vr 0), some (vi x1), some (vi x2), some (vi x3), some (vi x4), some (vi x5), some (vi x6), none] [vi x2, vi (x1 + 1), vr 0] m6 (RV k)) (N G d mi_X7_learned 0 [some (vr 0), some (vi x2), some (vi (m6 279 0)), some (vi x6), none] [] m6 (RI fun z8 m9 => N G (d + 1) mi_X7_touchByWearer 136 [some (vr 0), some (vi x1), some (vi x2), some (vi x3), some (vi x4), some (vi x5), some (vi x6), none] [vi z8, vi (x1 + 1), vr 0] m9 (RV k)))))))))))) :
    N G (d + 1) mi_X7_touchByWearer 19 [some (vr 0), some (vi x1), some (vi x2), some (vi x3), some (vi x4), some (vi x5), some (vi x6), none] [] m (RV k) := by
  refine v_iload dX7_touchByWearer_19 rfl ?_
  refine v_aload_n dX7_touchByWearer_21 rfl rfl ?_
  refine n_getr dX7_touchByWearer_22 fo_X7_33 sh_0 rfl sr_0_5 ?_
  refine n_geti dX7_touchByWearer_25 fo_X7_81 sh_12 rfl ?_
  obtain ⟨⟨r1, r2⟩, hA, hB⟩ := hp
  refine v_icmp_ge (tgt := 150) dX7_touchByWearer_28 (by decide) r2 r1 (fun q => ?_) (fun q => ?_)
  · have hp := hA q
    exact n_retV dX7_touchByWearer_150 rfl hp
  · have hp := hB q
    refine v_iload_n dX7_touchByWearer_31 rfl rfl ?_
    refine v_iconst dX7_touchByWearer_32 ?_
    obtain ⟨⟨r1, r2⟩, hA, hB⟩ := hp
    refine v_icmp_ge (tgt := 150) dX7_touchByWearer_33 (by decide) r2 r1 (fun q => ?_) (fun q => ?_)
    · have hp := hA q
      exact n_retV dX7_touchByWearer_150 rfl hp
    · have hp := hB q
      refine v_aload_n dX7_touchByWearer_36 rfl rfl ?_
      refine n_getr dX7_touchByWearer_37 fo_X7_43 sh_0 rfl sr_0_7 ?_
      refine v_iload dX7_touchByWearer_40 rfl ?_
      refine w_puti dX7_touchByWearer_42 fw_X7_247 sh_272 rfl (fun m1 em1 => ?_)
      have hp := hp m1 em1
      refine v_aload_n dX7_touchByWearer_45 rfl rfl ?_
      refine n_getr dX7_touchByWearer_46 fo_X7_43 sh_0 rfl sr_0_7 ?_
      refine n_getr dX7_touchByWearer_49 fo_X7_177 sh_272 rfl sr_272_3 ?_
      refine v_aload_n dX7_touchByWearer_52 rfl rfl ?_
      refine n_getr dX7_touchByWearer_53 fo_X7_57 sh_0 rfl sr_0_9 ?_
      refine n_geti dX7_touchByWearer_56 fo_X7_361 sh_279 rfl ?_
      refine v_iload_n dX7_touchByWearer_59 rfl rfl ?_
      obtain ⟨j3, ⟨ej3, bj3⟩, hp⟩ := hp
      refine w_iast (j := j3) dX7_touchByWearer_60 sh_275 ej3 bj3 (fun m2 em2 => ?_)
      have hp := hp m2 em2
      refine v_aload_n dX7_touchByWearer_61 rfl rfl ?_
      refine v_aload_n dX7_touchByWearer_62 rfl rfl ?_
      refine n_getr dX7_touchByWearer_63 fo_X7_43 sh_0 rfl sr_0_7 ?_
      refine v_aload_n dX7_touchByWearer_66 rfl rfl ?_
      refine n_getr dX7_touchByWearer_67 fo_X7_57 sh_0 rfl sr_0_9 ?_
      refine n_geti dX7_touchByWearer_70 fo_X7_361 sh_279 rfl ?_
      refine v_iload dX7_touchByWearer_73 rfl ?_
      refine v_aload_n dX7_touchByWearer_75 rfl rfl ?_
      refine n_getr dX7_touchByWearer_76 fo_X7_57 sh_0 rfl sr_0_9 ?_
      refine n_geti dX7_touchByWearer_79 fo_X7_344 sh_279 rfl ?_
      refine n_callVI (As := [vr 272, vi (m2 279 0), vi x6, vi (m2 279 2)]) (st := []) dX7_touchByWearer_82 ml_X7_275 mo_X7_isSeen mv_X7_isSeen sh_0 rfl rfl rfl rfl (Nat.le_of_ble_eq_true rfl) (Nat.le_of_ble_eq_true rfl) (by decide) hp (fun z4 m5 hp => ?_)
      refine v_istore dX7_touchByWearer_85 (by decide) ?_
      refine v_aload_n dX7_touchByWearer_87 rfl rfl ?_
      refine n_getr dX7_touchByWearer_88 fo_X7_57 sh_0 rfl sr_0_9 ?_
      refine n_getr dX7_touchByWearer_91 fo_X7_355 sh_279 rfl sr_279_7 ?_
      refine v_iload_n dX7_touchByWearer_94 rfl rfl ?_
      refine v_bipush dX7_touchByWearer_95 rfl ?_
      refine v_aload_n dX7_touchByWearer_97 rfl rfl ?_
      refine n_getr dX7_touchByWearer_98 fo_X7_57 sh_0 rfl sr_0_9 ?_
      refine n_geti dX7_touchByWearer_101 fo_X7_344 sh_279 rfl ?_
      refine v_imul dX7_touchByWearer_104 ?_
      refine v_iload dX7_touchByWearer_105 rfl ?_
      refine v_iadd dX7_touchByWearer_107 ?_
      obtain ⟨j7, ⟨ej7, bj7⟩, hp⟩ := hp
      refine w_iast (j := j7) dX7_touchByWearer_108 sh_280 ej7 bj7 (fun m6 em6 => ?_)
      have hp := hp m6 em6
      refine v_aload_n dX7_touchByWearer_109 rfl rfl ?_
      refine v_iload_n dX7_touchByWearer_110 rfl rfl ?_
      refine v_iconst dX7_touchByWearer_111 ?_
      refine v_iadd dX7_touchByWearer_112 ?_
      refine v_iload dX7_touchByWearer_113 rfl ?_
      obtain ⟨⟨r1, r2⟩, hA, hB⟩ := hp
      refine v_if_eq (tgt := 135) dX7_touchByWearer_115 (by decide) r1 (fun q => ?_) (fun q => ?_)
      · have hp := hA q
        refine v_iload_n dX7_touchByWearer_135 rfl rfl ?_
        exact n_weak (wk_s (wk_s (wk_s (wk_s (wk_s (wk_s (wk_s (wk_n wk_nil)))))))) hp
      · have hp := hB q
        refine v_aload_n dX7_touchByWearer_118 rfl rfl ?_
        refine v_iload_n dX7_touchByWearer_119 rfl rfl ?_
        refine v_aload_n dX7_touchByWearer_120 rfl rfl ?_
        refine n_getr dX7_touchByWearer_121 fo_X7_57 sh_0 rfl sr_0_9 ?_
        refine n_geti dX7_touchByWearer_124 fo_X7_361 sh_279 rfl ?_
        refine v_iload dX7_touchByWearer_127 rfl ?_
        refine n_callVI (As := [vi x2, vi (m6 279 0), vi x6]) (st := [vi (x1 + 1), vr 0]) dX7_touchByWearer_129 ml_X7_278 mo_X7_learned mv_X7_learned sh_0 rfl rfl rfl rfl (Nat.le_of_ble_eq_true rfl) (Nat.le_of_ble_eq_true rfl) (by decide) hp (fun z8 m9 hp => ?_)
        refine v_goto (tgt := 136) dX7_touchByWearer_132 (by decide) ?_
        exact n_weak (wk_s (wk_s (wk_s (wk_s (wk_s (wk_s (wk_s (wk_n wk_nil)))))))) hp
theorem g_X7_touchByWearer_136 {G : GG} {d : Nat} {m : MM} {k : MM → Prop} (x1 : Int) (x2 : Int) (x3 : Int) (x4 : Int) (x5 : Int) (x6 : Int) (s0 : Int) (s1 : Int)
    (hp : N G d mi_X7_goThroughRows 0 [some (vr 0), some (vi s1), some (vi s0), some (vi x3), some (vi (ior x4 1))] [] m (RV fun m2 => N G (d + 1) mi_X7_touchByWearer 19 [some (vr 0), some (vi x1), some (vi x2), some (vi x3), some (vi x4), some (vi x5), some (vi (x6 + 1)), none] [] m2 (RV k))) :
    N G (d + 1) mi_X7_touchByWearer 136 [some (vr 0), some (vi x1), some (vi x2), some (vi x3), some (vi x4), some (vi x5), some (vi x6), none] [vi s0, vi s1, vr 0] m (RV k) := by
  refine v_iload_n dX7_touchByWearer_136 rfl rfl ?_
  refine v_iload dX7_touchByWearer_137 rfl ?_
  refine v_iconst dX7_touchByWearer_139 ?_
  refine v_ior dX7_touchByWearer_140 ?_
  refine n_callVV (As := [vi s1, vi s0, vi x3, vi (ior x4 1)]) (st := []) dX7_touchByWearer_141 ml_X7_335 mo_X7_goThroughRows mv_X7_goThroughRows sh_0 rfl rfl rfl rfl (Nat.le_of_ble_eq_true rfl) (Nat.le_of_ble_eq_true rfl) (by decide) hp (fun m2 hp => ?_)
  refine v_iinc dX7_touchByWearer_144 rfl (by decide) ?_
  refine v_goto (tgt := 19) dX7_touchByWearer_147 (by decide) ?_
  exact hp
