theorem v_bud {G : GG} {fr lo bc bs bc2 bs2 : Nat} {mi : MI} {pc : Nat} {lv : List (Option PV)} {st : List PV} {K : Nat} {M : Mem} {Z : ZZ} (e1 : bc2 = bc) (e2 : bs2 = bs) (h : V G fr lo bc bs mi pc lv st K M Z) : V G fr lo bc2 bs2 mi pc lv st K M Z := by
  subst e1
  subst e2
  exact h
theorem rk_rf {M : Mem} (h : M.2 276 0 = some 277 ∧ M.2 276 1 = some 278) : ∀ j, 276 ≤ j → j < 279 → RfC M j := by
  intro j a1 a2
  obtain rfl | rfl | rfl : j = 276 ∨ j = 277 ∨ j = 278 := by omega
  · refine rfc_o sh_276 (fun q hq hr => ?_)
    have hq4 : q < 2 := hq
    obtain rfl | rfl : q = 0 ∨ q = 1 := by omega
    · exact h.1
    · exact h.2
  · exact rfc_a sh_277 rfl
  · exact rfc_a sh_278 rfl
theorem rw_rf {M : Mem} (h : M.2 279 7 = some 280 ∧ M.2 279 8 = some 281) : ∀ j, 279 ≤ j → j < 282 → RfC M j := by
  intro j a1 a2
  obtain rfl | rfl | rfl : j = 279 ∨ j = 280 ∨ j = 281 := by omega
  · refine rfc_o sh_279 (fun q hq hr => ?_)
    have hq4 : q < 9 := hq
    obtain rfl | rfl | rfl | rfl | rfl | rfl | rfl | rfl | rfl : q = 0 ∨ q = 1 ∨ q = 2 ∨ q = 3 ∨ q = 4 ∨ q = 5 ∨ q = 6 ∨ q = 7 ∨ q = 8 := by omega
    · exact absurd hr (by decide)
    · exact absurd hr (by decide)
    · exact absurd hr (by decide)
    · exact absurd hr (by decide)
    · exact absurd hr (by decide)
    · exact absurd hr (by decide)
    · exact absurd hr (by decide)
    · exact h.1
    · exact h.2
  · exact rfc_a sh_280 rfl
  · exact rfc_a sh_281 rfl
/-! ===== makings: GlassEyes itself ===== -/
section Make6
variable {G : GG} {d : Nat} {M : Mem}
def cl6 (x : Int) : Int := imax 1 (imin 6 x)
theorem imin_rng {a b : Int} (ha : rng a) (hb : rng b) : rng (imin a b) := by
  unfold imin
  split
  · exact hb
  · exact ha
theorem k_glass {Q : Option PV → Nat → Mem → Prop} {x : Int} (hx : rng x) (hq : ∀ M', I7 M' 304 [11, 10, 9, 8, 7, 6, 5, 4, 3, 1] [(0, cl6 x), (2, 0)] → (∀ q, q < 4 → M'.2 11 q = some (284 + 5 * q)) → Q none 304 M') : V G (d + 4) (64 * (d + 4)) 303 5124 mi_X7_init 0 [some (vr 0), some (vi x), none] [] 1 M (ZQ G Q) := by
  have loop : ∀ (n k : Nat) (x2 : Int) (M1 : Mem), k + n = 4 → x2 = (k : Int) → I7 M1 (284 + 5 * k) [11, 10, 9, 8, 7, 6, 5, 4, 3, 1] [(0, cl6 x), (2, 0)] → (∀ q, q < k → M1.2 11 q = some (284 + 5 * q)) → V G (d + 4) (64 * (d + 4)) (5 * n) (382 * n) mi_X7_init 124 [some (vr 0), some (vi x), some (vi x2)] [] (284 + 5 * k) M1 (ZQ G Q) := by
    intro n
    induction n with
    | zero =>
      intro k x2 M1 hk e2 hi hc
      have k4 : k = 4 := by omega
      subst k4
      refine v_iload_n dX7_init_124 rfl rfl ?_
      refine v_iconst dX7_init_125 ?_
      refine v_icmp_ge (tgt := 148) dX7_init_126 (by decide) (by omega) (by omega) (fun _ => ?_) (fun z => absurd z (by omega))
      exact v_return dX7_init_148 rfl (hq M1 hi hc)
    | succ n ih =>
      intro k x2 M1 hk e2 hi hc
      have hsc : SH (284 + 5 * k) = .inr 5 := sh_scr (by omega)
      refine v_iload_n dX7_init_124 rfl rfl ?_
      refine v_iconst dX7_init_125 ?_
      refine v_icmp_ge (tgt := 148) dX7_init_126 (by decide) (by omega) (by omega) (fun z => absurd z (by omega)) (fun _ => ?_)
      refine v_aload_n dX7_init_129 rfl rfl ?_
      refine v_getr (t := 11) dX7_init_130 fo_X7_26 sh_0 (by omega) rfl (hi.2.1 4 (by simp)) ?_
      refine v_iload_n dX7_init_133 rfl rfl ?_
      rw [show 5 * (n + 1) = 4 + 5 * n + 1 by omega, show 382 * (n + 1) = 372 + 382 * n + NF 5 by show _ = _ + 10; omega]
      refine v_mkN (d := d + 3) (bc := 5 * n) (bs := 382 * n) (bc' := 4) (bs' := 372) (mi' := mi_X5_init) (fun M' => ScF M' (284 + 5 * k)) dX7_init_134 dX7_init_137 dX7_init_138 clX5 ck_X7_24 hsc (by omega) (List.mem_of_getElem? (i := 5) rfl) mo_X5_init mn_X5_init rfl rfl (by decide) (Nat.le_of_ble_eq_true rfl) (by omega) (by show 1 + 19 + 64 * (d + 3) ≤ _; omega) (fun Q M1 h => k_script (284 + 5 * k) hsc (by omega) h) (fun M2 l2 f2 => ?_)
      refine v_aast5 (j := k) (t := 284 + 5 * k) (ci := 5) dX7_init_141 sh_11 (by omega) e2 (by omega) hsc (by omega) rfl rfl ?_
      refine v_iinc dX7_init_142 rfl (by decide) ?_
      refine v_goto (tgt := 124) dX7_init_145 (by decide) ?_
      rw [show 284 + 5 * k + 1 + 4 = 284 + 5 * (k + 1) by omega]
      refine ih (k + 1) (x2 + 1) _ (by omega) (by omega) (I7.arr (hi.lo l2 (by omega) (fun j b1 b2 => f2.rf hsc j b1 (by omega)) (fun _ => Or.inl (by omega)) (fun _ => Or.inl (by omega)) (fun _ => Or.inl (by omega)))) (fun q hq' => ?_)
      by_cases eq : q = k
      · subst eq
        show upr M2.2 11 q (some (284 + 5 * q)) 11 q = _
        simp [upr]
      · show upr M2.2 11 k (some (284 + 5 * k)) 11 q = _
        have : upr M2.2 11 k (some (284 + 5 * k)) 11 q = M2.2 11 q := by simp [upr, eq]
        rw [this, (l2 11 (by omega)).2]
        exact hc q (by omega)
  refine v_aload_n dX7_init_0 rfl rfl ?_
  refine v_objInit dX7_init_1 ml_X7_1 oiW (by omega) (Nat.le_of_ble_eq_true rfl) (by omega) ?_
  refine v_aload_n dX7_init_4 rfl rfl ?_
  refine v_sipush dX7_init_5 rfl ?_
  have i0 : I7 M 1 [] [] := I7.z
  refine v_naF1 (n := 300) (bc := 302) (bs := 4824) dX7_init_8 dX7_init_10 sh_1 rfl (by omega) (by omega) ff_X7_9 sh_0 (by omega) rfl rfl (fun M1 n1 => ?_)
  have i1 := i0.new n1 (by omega) (fun _ => rfc_a sh_1 rfl) rfl (by omega) (by omega) (by omega)
  refine v_aload_n dX7_init_13 rfl rfl ?_
  refine v_iconst dX7_init_14 ?_
  refine v_intW dX7_init_15 fw_X7_13 sh_0 (by omega) rfl (fun M2 n2 => ?_)
  have i2 := i1.put n2 (fun p hp => by simp at hp)
  refine v_aload_n dX7_init_18 rfl rfl ?_
  refine v_bud (bc := 8 + 293 + 1) (bs := 1285 + 3530 + NF 2) (by decide) (by decide) ?_
  refine v_mkN (d := d + 3) (bc := 293) (bs := 3530) (bc' := 8) (bs' := 1285) (mi' := mi_X2_init) (fun M' => ReF M') dX7_init_19 dX7_init_22 dX7_init_23 clX2 ck_X7_17 sh_2 (by omega) (List.mem_of_getElem? (i := 0) rfl) mo_X2_init mn_X2_init rfl rfl (by decide) (Nat.le_of_ble_eq_true rfl) (by omega) (by show 1 + 19 + 64 * (d + 3) ≤ _; omega) (fun Q M1 h => k_reader h) (fun M3 l3 f3 => ?_)
  have i3 : I7 _ 11 _ _ := i2.lo l3 (by omega) (fun j b1 b2 => f3.rf j b1 b2) (fun _ => Or.inr ⟨f3.1.1, f3.1.2.1⟩) (fun b => absurd b (by omega)) (fun b => absurd b (by omega))
  refine v_refF dX7_init_26 ff_X7_20 sh_0 (by omega) rfl rfl (fun M4 n4 => ?_)
  have i4 := i3.ref n4 rfl
  refine v_aload_n dX7_init_29 rfl rfl ?_
  refine v_iconst dX7_init_30 ?_
  refine v_nqF5 (n := 4) (bc := 292) (bs := 3526) dX7_init_31 dX7_init_34 ck_X7_24 sh_11 rfl (by omega) (by omega) ff_X7_26 sh_0 (by omega) rfl rfl (fun M5 n5 => ?_)
  have i5 := i4.new n5 (by omega) (fun z => absurd rfl z) rfl (by omega) (by omega) (by omega)
  refine v_aload_n dX7_init_37 rfl rfl ?_
  refine v_bud (bc := 129 + 162 + 1) (bs := 925 + 2590 + NF 6) (by decide) (by decide) ?_
  refine v_mkN (d := d + 3) (bc := 162) (bs := 2590) (bc' := 129) (bs' := 925) (mi' := mi_X6_init) (fun M' => SdF M' 12) dX7_init_38 dX7_init_41 dX7_init_42 clX6 ck_X7_30 sh_12 (by omega) (List.mem_of_getElem? (i := 2) rfl) mo_X6_init mn_X6_init rfl rfl (by decide) (Nat.le_of_ble_eq_true rfl) (by omega) (by show 1 + 19 + 64 * (d + 3) ≤ _; omega) (fun Q M1 h => k_standing 12 sh_12 (by omega) h) (fun M6 l6 f6 => ?_)
  have i6 : I7 _ 142 _ _ := i5.lo l6 (by omega) (fun j b1 b2 => f6.rf (Or.inl rfl) sh_12 j b1 b2) (fun _ => Or.inl (by omega)) (fun _ => Or.inr f6) (fun b => absurd b (by omega))
  refine v_refF dX7_init_45 ff_X7_33 sh_0 (by omega) rfl rfl (fun M7 n7 => ?_)
  have i7 := i6.ref n7 rfl
  refine v_aload_n dX7_init_48 rfl rfl ?_
  refine v_bud (bc := 129 + 32 + 1) (bs := 925 + 1654 + NF 6) (by decide) (by decide) ?_
  refine v_mkN (d := d + 3) (bc := 32) (bs := 1654) (bc' := 129) (bs' := 925) (mi' := mi_X6_init) (fun M' => SdF M' 142) dX7_init_49 dX7_init_52 dX7_init_53 clX6 ck_X7_30 sh_142 (by omega) (List.mem_of_getElem? (i := 2) rfl) mo_X6_init mn_X6_init rfl rfl (by decide) (Nat.le_of_ble_eq_true rfl) (by omega) (by show 1 + 19 + 64 * (d + 3) ≤ _; omega) (fun Q M1 h => k_standing 142 sh_142 (by omega) h) (fun M8 l8 f8 => ?_)
  have i8 : I7 _ 272 _ _ := i7.lo l8 (by omega) (fun j b1 b2 => f8.rf (Or.inr rfl) sh_142 j b1 b2) (fun _ => Or.inl (by omega)) (fun _ => Or.inl (by omega)) (fun _ => Or.inr f8)
  refine v_refF dX7_init_56 ff_X7_37 sh_0 (by omega) rfl rfl (fun M9 n9 => ?_)
  have i9 := i8.ref n9 rfl
  refine v_aload_n dX7_init_59 rfl rfl ?_
  refine v_bud (bc := 3 + 28 + 1) (bs := 24 + 1626 + NF 0) (by decide) (by decide) ?_
  refine v_mk (d := d + 3) (bc := 28) (bs := 1626) (bc' := 3) (bs' := 24) (mi' := mi_X0_init) (fun M' => CtF M' 272) dX7_init_60 dX7_init_63 dX7_init_64 clX0 ck_X7_40 sh_272 (by omega) ml_X7_42 mo_X0_init mn_X0_init rfl rfl (by decide) (Nat.le_of_ble_eq_true rfl) (by omega) (by show 1 + 19 + 64 * (d + 3) ≤ _; omega) (fun Q M1 h => k_court 272 sh_272 (by omega) h) (fun M10 l10 f10 => ?_)
  have i10 : I7 _ 276 _ _ := i9.lo l10 (by omega) (fun j b1 b2 => f10.rf sh_272 j b1 b2) (fun _ => Or.inl (by omega)) (fun _ => Or.inl (by omega)) (fun _ => Or.inl (by omega))
  refine v_refF dX7_init_67 ff_X7_43 sh_0 (by omega) rfl rfl (fun M11 n11 => ?_)
  have i11 := i10.ref n11 rfl
  refine v_aload_n dX7_init_70 rfl rfl ?_
  refine v_bud (bc := 2 + 25 + 1) (bs := 41 + 1583 + NF 3) (by decide) (by decide) ?_
  refine v_mkN (d := d + 3) (bc := 25) (bs := 1583) (bc' := 2) (bs' := 41) (mi' := mi_X3_init) (fun M' => M'.2 276 0 = some 277 ∧ M'.2 276 1 = some 278) dX7_init_71 dX7_init_74 dX7_init_75 clX3 ck_X7_47 sh_276 (by omega) (List.mem_of_getElem? (i := 3) rfl) mo_X3_init mn_X3_init rfl rfl (by decide) (Nat.le_of_ble_eq_true rfl) (by omega) (by show 1 + 19 + 64 * (d + 3) ≤ _; omega) (fun Q M1 h => k_reckoner (fun M' a1 a2 _ => h M' a1 a2)) (fun M12 l12 f12 => ?_)
  have i12 : I7 _ 279 _ _ := i11.lo l12 (by omega) (fun j b1 b2 => rk_rf f12 j b1 b2) (fun _ => Or.inl (by omega)) (fun _ => Or.inl (by omega)) (fun _ => Or.inl (by omega))
  refine v_refF dX7_init_78 ff_X7_50 sh_0 (by omega) rfl rfl (fun M13 n13 => ?_)
  have i13 := i12.ref n13 rfl
  refine v_aload_n dX7_init_81 rfl rfl ?_
  refine v_bud (bc := 2 + 22 + 1) (bs := 6 + 1568 + NF 4) (by decide) (by decide) ?_
  refine v_mkN (d := d + 3) (bc := 22) (bs := 1568) (bc' := 2) (bs' := 6) (mi' := mi_X4_init) (fun M' => M'.2 279 7 = some 280 ∧ M'.2 279 8 = some 281) dX7_init_82 dX7_init_85 dX7_init_86 clX4 ck_X7_54 sh_279 (by omega) (List.mem_of_getElem? (i := 4) rfl) mo_X4_init mn_X4_init rfl rfl (by decide) (Nat.le_of_ble_eq_true rfl) (by omega) (by show 1 + 19 + 64 * (d + 3) ≤ _; omega) (fun Q M1 h => k_rows (fun M' a1 _ a3 _ => h M' a1 a3)) (fun M14 l14 f14 => ?_)
  have i14 : I7 _ 282 _ _ := i13.lo l14 (by omega) (fun j b1 b2 => rw_rf f14 j b1 b2) (fun _ => Or.inl (by omega)) (fun _ => Or.inl (by omega)) (fun _ => Or.inl (by omega))
  refine v_refF dX7_init_89 ff_X7_57 sh_0 (by omega) rfl rfl (fun M15 n15 => ?_)
  have i15 := i14.ref n15 rfl
  refine v_aload_n dX7_init_92 rfl rfl ?_
  refine v_bipush dX7_init_93 rfl ?_
  refine v_naF0 (n := 32) (bc := 21) (bs := 1536) dX7_init_95 dX7_init_97 sh_282 rfl (by omega) (by omega) ff_X7_61 sh_0 (by omega) rfl rfl (fun M16 n16 => ?_)
  have i16 := i15.new n16 (by omega) (fun _ => rfc_a sh_282 rfl) rfl (by omega) (by omega) (by omega)
  refine v_aload_n dX7_init_100 rfl rfl ?_
  refine v_bipush dX7_init_101 rfl ?_
  refine v_naF0 (n := 8) (bc := 20) (bs := 1528) dX7_init_103 dX7_init_105 sh_283 rfl (by omega) (by omega) ff_X7_65 sh_0 (by omega) rfl rfl (fun M17 n17 => ?_)
  have i17 := i16.new n17 (by omega) (fun _ => rfc_a sh_283 rfl) rfl (by omega) (by omega) (by omega)
  refine v_aload_n dX7_init_108 rfl rfl ?_
  refine v_iconst dX7_init_109 ?_
  refine v_bipush dX7_init_110 rfl ?_
  refine v_iload_n dX7_init_112 rfl rfl ?_
  refine v_mmin dX7_init_113 ml_X7_68 (by unfold rng; omega) hx (by omega) (Nat.le_of_ble_eq_true rfl) (by omega) ?_
  refine v_mmax dX7_init_116 ml_X7_74 (by unfold rng; omega) (imin_rng (by unfold rng; omega) hx) (by omega) (Nat.le_of_ble_eq_true rfl) (by omega) ?_
  refine v_intF dX7_init_119 ff_X7_77 sh_0 (by omega) rfl rfl (fun M18 n18 => ?_)
  have i18 := i17.put n18 (fun p hp => by simp at hp; rw [hp]; decide)
  refine v_iconst dX7_init_122 ?_
  refine v_istore_n dX7_init_123 rfl (by decide) ?_
  exact loop 4 0 0 M18 (by omega) rfl i18 (fun q hq => absurd hq (by omega))
end Make6
