/-! ===== makings: the reader, standings ===== -/
theorem v_mk {G : GG} {fr lo bc bs : Nat} {mi : MI} {pc : Nat} {lv : List (Option PV)} {st : List PV} {K : Nat} {M : Mem} {Z : ZZ} {i1 i2 ci bc' bs' d : Nat} {C' : String} {T : u_T} {mi' : MI} (P : Mem → Prop) (hd1 : decode mi.2.1 pc = .ok (.new i1, 3)) (hd2 : decode mi.2.1 (pc + 3) = .ok (.dup, 1)) (hd3 : decode mi.2.1 (pc + 3 + 1) = .ok (.invokespecial i2, 3)) (hcl : clsOK ci C' T) (hlk : Cond.classLink mi.1.cls i1 C' ∈ gtb) (hs : SH K = .inr ci) (hb : K + 1 ≤ 900000) (hl : Cond.methodLink mi.1.cls i2 mi'.1 ∈ gtb) (hM : metOK mi' 0) (hst : Cond.instanceMethod mi'.1 ∈ gtb) (hnm : mi'.1.name = "<init>") (hrt : mi'.2.2.2 = none) (hml : 1 ≤ mi'.2.2.1) (hw : (st.map pcat).sum ≤ 7) (hfr : d + 1 ≤ fr) (hlo : mi'.2.2.1 + 19 + 64 * d ≤ lo)
    (hc : ∀ (Q : Option PV → Nat → Mem → Prop) (M1 : Mem), (∀ M', Lo K M1 M' → P M' → Q none (K + 1 + bc') M') → V G d (64 * d) bc' bs' mi' 0 (entL [vr K] mi'.2.2.1) [] (K + 1) M1 (ZQ G Q))
    (kk : ∀ M', Lo K M M' → P M' → V G fr lo bc bs mi (pc + 3 + 1 + 3) lv (vr K :: st) (K + 1 + bc') M' Z) : V G fr lo (bc' + bc + 1) (bs' + bs + NF ci) mi pc lv st K M Z := by
  refine v_new (ci := ci) (bc := bc' + bc) (bs := bs' + bs) hd1 hcl hlk hs hb ?_
  refine v_dupr hd2 ?_
  refine v_callI (d := d) (bc := bc) (bs := bs) (bc' := bc') (bs' := bs') (o := K) (As := []) (st := vr K :: st) hd3 hl hM hst hnm hrt rfl rfl hml (by show 1 + (st.map pcat).sum ≤ 8; omega) hfr hlo (Q := fun r K' M' => r = none ∧ Lo K M M' ∧ P M') ?_ (fun r M' hr => ?_)
  · exact hc _ _ (fun M' l p => ⟨rfl, ((Lo.rf K M).z (Nat.le_refl K)).tr l, p⟩)
  · obtain ⟨rfl, l, p⟩ := hr
    exact kk M' l p
theorem v_mkN {G : GG} {fr lo bc bs : Nat} {mi : MI} {pc : Nat} {lv : List (Option PV)} {st : List PV} {K : Nat} {M : Mem} {Z : ZZ} {i1 i2 ci bc' bs' d : Nat} {C' : String} {T : u_T} {mi' : MI} {host : String} (P : Mem → Prop) (hd1 : decode mi.2.1 pc = .ok (.new i1, 3)) (hd2 : decode mi.2.1 (pc + 3) = .ok (.dup, 1)) (hd3 : decode mi.2.1 (pc + 3 + 1) = .ok (.invokespecial i2, 3)) (hcl : clsOK ci C' T) (hlk : Cond.classLink mi.1.cls i1 C' ∈ gtb) (hs : SH K = .inr ci) (hb : K + 1 ≤ 900000) (hl : (mi.1.cls, i2, mi'.1, host) ∈ nestL) (hM : metOK mi' 0) (hst : Cond.instanceMethod mi'.1 ∈ gtb) (hnm : mi'.1.name = "<init>") (hrt : mi'.2.2.2 = none) (hml : 1 ≤ mi'.2.2.1) (hw : (st.map pcat).sum ≤ 7) (hfr : d + 1 ≤ fr) (hlo : mi'.2.2.1 + 19 + 64 * d ≤ lo)
    (hc : ∀ (Q : Option PV → Nat → Mem → Prop) (M1 : Mem), (∀ M', Lo K M1 M' → P M' → Q none (K + 1 + bc') M') → V G d (64 * d) bc' bs' mi' 0 (entL [vr K] mi'.2.2.1) [] (K + 1) M1 (ZQ G Q))
    (kk : ∀ M', Lo K M M' → P M' → V G fr lo bc bs mi (pc + 3 + 1 + 3) lv (vr K :: st) (K + 1 + bc') M' Z) : V G fr lo (bc' + bc + 1) (bs' + bs + NF ci) mi pc lv st K M Z := by
  refine v_new (ci := ci) (bc := bc' + bc) (bs := bs' + bs) hd1 hcl hlk hs hb ?_
  refine v_dupr hd2 ?_
  refine v_callIN (d := d) (bc := bc) (bs := bs) (bc' := bc') (bs' := bs') (o := K) (As := []) (st := vr K :: st) hd3 hl hM hst hnm hrt rfl rfl hml (by show 1 + (st.map pcat).sum ≤ 8; omega) hfr hlo (Q := fun r K' M' => r = none ∧ Lo K M M' ∧ P M') ?_ (fun r M' hr => ?_)
  · exact hc _ _ (fun M' l p => ⟨rfl, ((Lo.rf K M).z (Nat.le_refl K)).tr l, p⟩)
  · obtain ⟨rfl, l, p⟩ := hr
    exact kk M' l p
def ReF (M : Mem) : Prop := (M.1 2 0 = -1 ∧ M.1 2 1 = -1 ∧ M.1 2 5 = 0 ∧ M.1 2 6 = 0 ∧ M.1 2 7 = 21) ∧ (M.2 2 2 = some 3 ∧ M.2 2 3 = some 4 ∧ M.2 2 4 = some 5 ∧ M.2 2 8 = some 6) ∧ (∀ q, M.1 3 q = 0 ∧ M.1 4 q = 0 ∧ M.1 5 q = 0) ∧ ScF M 6
def SdF (M : Mem) (c : Nat) : Prop := (M.1 c 0 = 0 ∧ M.1 c 2 = 0 ∧ M.1 c 5 = 0 ∧ M.1 c 6 = -1 ∧ M.1 c 7 = 0 ∧ M.1 c 8 = 0) ∧ (M.2 c 1 = some (c + 1) ∧ M.2 c 3 = some (c + 2) ∧ M.2 c 4 = some (c + 3) ∧ M.2 c 9 = some (c + 4) ∧ M.2 c 10 = some (c + 8)) ∧ (∀ q, M.1 (c + 1) q = 0 ∧ M.1 (c + 2) q = 0 ∧ M.1 (c + 3) q = 0) ∧ CtF M (c + 4) ∧ PaF M (c + 8)
theorem SdF.fr {M M' : Mem} {c : Nat} (h : SdF M c) (e : ∀ j, c ≤ j → j < c + 130 → M'.1 j = M.1 j ∧ M'.2 j = M.2 j) : SdF M' c := by
  obtain ⟨h1, h2, h3, h4, h5⟩ := h
  refine ⟨by rw [(e c (by omega) (by omega)).1]; exact h1, by rw [(e c (by omega) (by omega)).2]; exact h2, by rw [(e (c + 1) (by omega) (by omega)).1, (e (c + 2) (by omega) (by omega)).1, (e (c + 3) (by omega) (by omega)).1]; exact h3, h4.fr (fun j a1 a2 => e j (by omega) (by omega)), h5.fr (fun j a1 a2 => e j (by omega) (by omega))⟩
section Make3
variable {G : GG} {d : Nat} {M : Mem}
theorem k_reader {Q : Option PV → Nat → Mem → Prop} (hq : ∀ M', Lo 2 M M' → ReF M' → Q none 11 M') : V G (d + 2) (64 * (d + 2)) 8 1285 mi_X2_init 0 [some (vr 2)] [] 3 M (ZQ G Q) := by
  refine v_aload_n dX2_init_0 rfl rfl ?_
  refine v_objInit dX2_init_1 ml_X2_3 oiW (by omega) (Nat.le_of_ble_eq_true rfl) (by omega) ?_
  refine v_aload_n dX2_init_4 rfl rfl ?_
  refine v_iconst dX2_init_5 ?_
  refine v_puti dX2_init_6 fw_X2_9 sh_2 (by omega) rfl ?_
  refine v_aload_n dX2_init_9 rfl rfl ?_
  refine v_iconst dX2_init_10 ?_
  refine v_puti dX2_init_11 fw_X2_15 sh_2 (by omega) rfl ?_
  refine v_aload_n dX2_init_14 rfl rfl ?_
  refine v_sipush dX2_init_15 rfl ?_
  refine v_newa0 (n := 301) (bc := 7) (bs := 984) dX2_init_18 ac_int sh_3 rfl (by omega) (by omega) ?_
  refine v_putFr dX2_init_20 ff_X2_18 sh_2 (by omega) rfl rfl ?_
  refine v_aload_n dX2_init_23 rfl rfl ?_
  refine v_sipush dX2_init_24 rfl ?_
  refine v_newa0 (n := 301) (bc := 6) (bs := 683) dX2_init_27 ac_int sh_4 rfl (by omega) (by omega) ?_
  refine v_putFr dX2_init_29 ff_X2_22 sh_2 (by omega) rfl rfl ?_
  refine v_aload_n dX2_init_32 rfl rfl ?_
  refine v_sipush dX2_init_33 rfl ?_
  refine v_newa0 (n := 301) (bc := 5) (bs := 382) dX2_init_36 ac_int sh_5 rfl (by omega) (by omega) ?_
  refine v_putFr dX2_init_38 ff_X2_25 sh_2 (by omega) rfl rfl ?_
  refine v_aload_n dX2_init_41 rfl rfl ?_
  refine v_iconst dX2_init_42 ?_
  refine v_puti dX2_init_43 fw_X2_28 sh_2 (by omega) rfl ?_
  refine v_aload_n dX2_init_46 rfl rfl ?_
  refine v_iconst dX2_init_47 ?_
  refine v_puti dX2_init_48 fw_X2_31 sh_2 (by omega) rfl ?_
  refine v_aload_n dX2_init_51 rfl rfl ?_
  refine v_bipush dX2_init_52 rfl ?_
  refine v_puti dX2_init_54 fw_X2_34 sh_2 (by omega) rfl ?_
  refine v_aload_n dX2_init_57 rfl rfl ?_
  refine v_mkN (d := d + 1) (bc := 0) (bs := 0) (bc' := 4) (bs' := 372) (mi' := mi_X5_init) (fun M' => ScF M' 6) dX2_init_58 dX2_init_61 dX2_init_62 clX5 ck_X2_37 sh_6 (by omega) (List.mem_of_getElem? (i := 1) rfl) mo_X5_init mn_X5_init rfl rfl (by decide) (Nat.le_of_ble_eq_true rfl) (by omega) (by show 1 + 19 + 64 * (d + 1) ≤ _; omega) (fun Q M1 h => k_script 6 sh_6 (by omega) h) (fun M1 l1 f1 => ?_)
  refine v_putr dX2_init_65 fw_X2_40 sh_2 (by omega) rfl ?_
  have a2 := l1 2 (by omega)
  have a3 := l1 3 (by omega)
  have a4 := l1 4 (by omega)
  have a5 := l1 5 (by omega)
  refine v_return dX2_init_68 rfl (hq _ ((((((((((((((Lo.rf _ _).n (by omega)).n (by omega)).z (by omega)).r (by omega)).z (by omega)).r (by omega)).z (by omega)).r (by omega)).n (by omega)).n (by omega)).n (by omega)).tr (l1.le (by omega))).r (by omega)) ⟨⟨?_, ?_, ?_, ?_, ?_⟩, ⟨?_, ?_, ?_, ?_⟩, fun q => ⟨?_, ?_, ?_⟩, f1.fr (fun j b1 b2 => ⟨rfl, by funext b; exact upr_ne (by omega) b⟩)⟩)
  · rw [a2.1]; simp [upr, upm, zM]
  · rw [a2.1]; simp [upr, upm, zM]
  · rw [a2.1]; simp [upr, upm, zM]
  · rw [a2.1]; simp [upr, upm, zM]
  · rw [a2.1]; simp [upr, upm, zM]
  · show upr M1.2 2 8 (some 6) 2 2 = _
    rw [show upr M1.2 2 8 (some 6) 2 2 = M1.2 2 2 by simp [upr], a2.2]; simp [upr, upm, zM]
  · show upr M1.2 2 8 (some 6) 2 3 = _
    rw [show upr M1.2 2 8 (some 6) 2 3 = M1.2 2 3 by simp [upr], a2.2]; simp [upr, upm, zM]
  · show upr M1.2 2 8 (some 6) 2 4 = _
    rw [show upr M1.2 2 8 (some 6) 2 4 = M1.2 2 4 by simp [upr], a2.2]; simp [upr, upm, zM]
  · show upr M1.2 2 8 (some 6) 2 8 = _
    simp [upr]
  · rw [a3.1]; simp [upr, upm, zM]
  · rw [a4.1]; simp [upr, upm, zM]
  · rw [a5.1]; simp [upr, upm, zM]
theorem k_standing {Q : Option PV → Nat → Mem → Prop} (c : Nat) (h0 : SH c = .inr 6) (hb : c + 130 ≤ 900000) (hq : ∀ M', Lo c M M' → SdF M' c → Q none (c + 130) M') : V G (d + 3) (64 * (d + 3)) 129 925 mi_X6_init 0 [some (vr c)] [] (c + 1) M (ZQ G Q) := by
  refine v_aload_n dX6_init_0 rfl rfl ?_
  refine v_objInit dX6_init_1 ml_X6_3 oiW (by omega) (Nat.le_of_ble_eq_true rfl) (by omega) ?_
  refine v_aload_n dX6_init_4 rfl rfl ?_
  refine v_iconst dX6_init_5 ?_
  refine v_puti dX6_init_6 fw_X6_9 h0 (by omega) rfl ?_
  refine v_aload_n dX6_init_9 rfl rfl ?_
  refine v_bipush dX6_init_10 rfl ?_
  refine v_newa0 (n := 8) (bc := 128) (bs := 917) dX6_init_12 ac_int (kn6_1 h0) rfl (by omega) (by omega) ?_
  refine v_putFr dX6_init_14 ff_X6_15 h0 (by omega) rfl rfl ?_
  refine v_aload_n dX6_init_17 rfl rfl ?_
  refine v_iconst dX6_init_18 ?_
  refine v_puti dX6_init_19 fw_X6_19 h0 (by omega) rfl ?_
  refine v_aload_n dX6_init_22 rfl rfl ?_
  refine v_bipush dX6_init_23 rfl ?_
  refine v_newa0 (n := 8) (bc := 127) (bs := 909) dX6_init_25 ac_int (kn6_2 h0) rfl (by omega) (by omega) ?_
  refine v_putFr dX6_init_27 ff_X6_22 h0 (by omega) rfl rfl ?_
  refine v_aload_n dX6_init_30 rfl rfl ?_
  refine v_bipush dX6_init_31 rfl ?_
  refine v_newa0 (n := 8) (bc := 126) (bs := 901) dX6_init_33 ac_int (kn6_3 h0) rfl (by omega) (by omega) ?_
  refine v_putFr dX6_init_35 ff_X6_25 h0 (by omega) rfl rfl ?_
  refine v_aload_n dX6_init_38 rfl rfl ?_
  refine v_iconst dX6_init_39 ?_
  refine v_puti dX6_init_40 fw_X6_28 h0 (by omega) rfl ?_
  refine v_aload_n dX6_init_43 rfl rfl ?_
  refine v_iconst dX6_init_44 ?_
  refine v_puti dX6_init_45 fw_X6_31 h0 (by omega) rfl ?_
  refine v_aload_n dX6_init_48 rfl rfl ?_
  refine v_iconst dX6_init_49 ?_
  refine v_puti dX6_init_50 fw_X6_34 h0 (by omega) rfl ?_
  refine v_aload_n dX6_init_53 rfl rfl ?_
  refine v_iconst dX6_init_54 ?_
  refine v_puti dX6_init_55 fw_X6_37 h0 (by omega) rfl ?_
  refine v_aload_n dX6_init_58 rfl rfl ?_
  refine v_mk (d := d + 2) (bc := 122) (bs := 873) (bc' := 3) (bs' := 24) (mi' := mi_X0_init) (fun M' => CtF M' (c + 4)) dX6_init_59 dX6_init_62 dX6_init_63 clX0 ck_X6_40 (kn6_4 h0) (by omega) ml_X6_42 mo_X0_init mn_X0_init rfl rfl (by decide) (Nat.le_of_ble_eq_true rfl) (by omega) (by show 1 + 19 + 64 * (d + 2) ≤ _; omega) (fun Q M1 h => k_court (c + 4) (kn6_4 h0) (by omega) h) (fun M1 l1 f1 => ?_)
  refine v_putFr dX6_init_66 ff_X6_43 h0 (by omega) rfl rfl ?_
  refine v_aload_n dX6_init_69 rfl rfl ?_
  refine v_mk (d := d + 2) (bc := 0) (bs := 0) (bc' := 121) (bs' := 870) (mi' := mi_X1_init) (fun M' => PaF M' (c + 8)) dX6_init_70 dX6_init_73 dX6_init_74 clX1 ck_X6_47 (kn6_8 h0) (by omega) ml_X6_49 mo_X1_init mn_X1_init rfl rfl (by decide) (Nat.le_of_ble_eq_true rfl) (by omega) (by show 2 + 19 + 64 * (d + 2) ≤ _; omega) (fun Q M1 h => k_past (c + 8) (kn6_8 h0) (by omega) h) (fun M2 l2 f2 => ?_)
  refine v_putFr dX6_init_77 ff_X6_50 h0 (by omega) rfl rfl ?_
  have b0 := l1 c (by omega)
  have b1 := l1 (c + 1) (by omega)
  have b2 := l1 (c + 2) (by omega)
  have b3 := l1 (c + 3) (by omega)
  have g0 := l2 c (by omega)
  have g1 := l2 (c + 1) (by omega)
  have g2 := l2 (c + 2) (by omega)
  have g3 := l2 (c + 3) (by omega)
  refine v_return dX6_init_80 rfl (hq _ ((((((((((((((((((Lo.rf _ _).n (by omega)).z (by omega)).r (by omega)).n (by omega)).z (by omega)).r (by omega)).z (by omega)).r (by omega)).n (by omega)).n (by omega)).n (by omega)).n (by omega)).tr (l1.le (by omega))).r (by omega)).tr (l2.le (by omega))).r (by omega))) ⟨⟨?_, ?_, ?_, ?_, ?_, ?_⟩, ⟨?_, ?_, ?_, ?_, ?_⟩, fun q => ⟨?_, ?_, ?_⟩, ?_, f2.fr (fun j e1 e2 => ⟨rfl, by funext b; exact upr_ne (by omega) b⟩)⟩)
  · rw [g0.1, b0.1]; simp [upr, upm, zM] <;> omega
  · rw [g0.1, b0.1]; simp [upr, upm, zM] <;> omega
  · rw [g0.1, b0.1]; simp [upr, upm, zM] <;> omega
  · rw [g0.1, b0.1]; simp [upr, upm, zM] <;> omega
  · rw [g0.1, b0.1]; simp [upr, upm, zM] <;> omega
  · rw [g0.1, b0.1]; simp [upr, upm, zM] <;> omega
  · show upr M2.2 c 10 (some (c + 8)) c 1 = _
    rw [show upr M2.2 c 10 (some (c + 8)) c 1 = M2.2 c 1 by simp [upr], g0.2]
    show upr M1.2 c 9 (some (c + 4)) c 1 = _
    rw [show upr M1.2 c 9 (some (c + 4)) c 1 = M1.2 c 1 by simp [upr], b0.2]; simp [upr, upm, zM] <;> omega
  · show upr M2.2 c 10 (some (c + 8)) c 3 = _
    rw [show upr M2.2 c 10 (some (c + 8)) c 3 = M2.2 c 3 by simp [upr], g0.2]
    show upr M1.2 c 9 (some (c + 4)) c 3 = _
    rw [show upr M1.2 c 9 (some (c + 4)) c 3 = M1.2 c 3 by simp [upr], b0.2]; simp [upr, upm, zM] <;> omega
  · show upr M2.2 c 10 (some (c + 8)) c 4 = _
    rw [show upr M2.2 c 10 (some (c + 8)) c 4 = M2.2 c 4 by simp [upr], g0.2]
    show upr M1.2 c 9 (some (c + 4)) c 4 = _
    rw [show upr M1.2 c 9 (some (c + 4)) c 4 = M1.2 c 4 by simp [upr], b0.2]; simp [upr, upm, zM] <;> omega
  · show upr M2.2 c 10 (some (c + 8)) c 9 = _
    rw [show upr M2.2 c 10 (some (c + 8)) c 9 = M2.2 c 9 by simp [upr], g0.2]
    show upr M1.2 c 9 (some (c + 4)) c 9 = _
    simp [upr]
  · show upr M2.2 c 10 (some (c + 8)) c 10 = _
    simp [upr]
  · rw [g1.1, b1.1]; simp [upr, upm, zM] <;> omega
  · rw [g2.1, b2.1]; simp [upr, upm, zM] <;> omega
  · rw [g3.1, b3.1]; simp [upr, upm, zM] <;> omega
  · refine f1.fr (fun j e1 e2 => ?_)
    have := l2 j (by omega)
    refine ⟨this.1, ?_⟩
    have e3 : upr M2.2 c 10 (some (c + 8)) j = M2.2 j := by funext b; exact upr_ne (by omega) b
    have e4 : upr M1.2 c 9 (some (c + 4)) j = M1.2 j := by funext b; exact upr_ne (by omega) b
    exact e3.trans (this.2.trans e4)
end Make3
