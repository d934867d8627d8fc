/-! ===== makings: the reference itself; both together ===== -/
def I8 (M0 M : Mem) (K : Nat) (LS : List Nat) (LN : List (Nat × Int)) : Prop :=
  Lo 304 M0 M ∧ (∀ j, 305 ≤ j → j < K → RfC M j) ∧ (∀ b, b ∈ LS → M.2 304 b = SR Q6 304 b) ∧ (∀ p, p ∈ LN → M.1 304 p.1 = p.2) ∧ (306 ≤ K → ∀ b, M.1 305 b = 0)
theorem I8.new {M0 M M' : Mem} {K k : Nat} {LS : List Nat} {LN : List (Nat × Int)} (h : I8 M0 M K LS LN) (n : NewAt M M' K 304 k) (hK : 305 ≤ K) (hr : RfC M' K) (hk : some K = SR Q6 304 k) : I8 M0 M' (K + 1) (k :: LS) LN := by
  obtain ⟨a0, a1, a2, a3, a4⟩ := h
  have hm : Mid 305 K M M' := n.mid (by omega)
  refine ⟨a0.tr (n.lo (by omega) (by omega)), fun j b1 b2 => ?_, fun b hb => ?_, fun p hp => by rw [n.2.1]; exact a3 p hp, fun b => ?_⟩
  · by_cases e : j = K
    · subst e; exact hr
    · exact (a1 j b1 (by omega)).fr (hm j b1 (by omega)).2
  · by_cases e : b = k
    · subst e; rw [n.2.2.2.1]; exact hk
    · rw [n.2.2.1 b e]; exact a2 b (by simpa [e] using hb)
  · by_cases e : K = 305
    · subst e; exact n.2.2.2.2
    · rw [(hm 305 (by omega) (by omega)).1]; exact a4 (by omega)
theorem I8.put {M0 M M' : Mem} {K k : Nat} {z : Int} {LS : List Nat} {LN : List (Nat × Int)} (h : I8 M0 M K LS LN) (n : PutAt M M' 304 k z) (hk : ∀ p, p ∈ LN → p.1 ≠ k) : I8 M0 M' K LS ((k, z) :: LN) := by
  obtain ⟨a0, a1, a2, a3, a4⟩ := h
  have hm : Mid 305 K M M' := n.mid (by omega)
  refine ⟨a0.tr (n.lo (by omega)), fun j b1 b2 => (a1 j b1 b2).fr (hm j b1 b2).2, fun b hb => by rw [n.1]; exact a2 b hb, fun p hp => ?_, fun b => by rw [n.2.1 305 (by omega)]; exact a4 b⟩
  rcases List.mem_cons.mp hp with e | e
  · subst e; exact n.2.2.2
  · rw [n.2.2.1 _ (hk p e)]; exact a3 p e
theorem SR_6 {m : MM} (h : m 2 8 = 6) : SR m = SR Q6 := by
  funext c k
  unfold SR
  rw [h]
  rfl
theorem ag_6 {M : Mem} (h : ∀ j, j < 318 → RfC M j) : ∀ j, j < 318 → AgC M (upm M.1 2 8 6, SR (upm M.1 2 8 6)) j := by
  intro j hj
  have e6 : SR (upm M.1 2 8 6) = SR Q6 := SR_6 (upm_at _ _ _ _)
  have h1 := h j hj
  unfold RfC at h1
  unfold AgC
  cases hs : SH j with
  | inl p =>
    obtain ⟨ty, n⟩ := p
    rw [hs] at h1
    dsimp only at h1 ⊢
    intro q hq
    rw [e6]
    by_cases ht : isQ ty = true
    · rw [if_pos ht]; exact (h1 ht q hq).symm
    · rw [if_neg ht]
      have hj2 : j ≠ 2 := fun z => by rw [z, sh2] at hs; cases hs
      rw [upm_c hj2]
  | inr ci =>
    rw [hs] at h1
    dsimp only at h1 ⊢
    intro q hq
    rw [e6]
    by_cases ht : isR (TYF ci q) = true
    · rw [if_pos ht]; exact (h1 q hq ht).symm
    · rw [if_neg ht]
      have hn : ¬ (j = 2 ∧ q = 8) := ne_o hs (by simpa using ht)
      unfold upm
      rw [if_neg hn]
def S0 (i j : Nat) : Int := if j = 4 then -1 else if 20 ≤ j ∧ j < 20 + 8 * i ∧ 2 ≤ (j - 20) % 8 ∧ (j - 20) % 8 ≠ 3 then -1 else 0
theorem clS_S0 {i : Nat} : clS (S0 i) i = S0 (i + 1) := by
  funext j
  unfold clS S0
  by_cases h1 : j = 20 + 8 * i + 3
  · rw [if_pos h1, if_neg (by omega), if_neg (by omega)]
  · rw [if_neg h1]
    by_cases h2 : 20 + 8 * i + 2 ≤ j ∧ j ≤ 20 + 8 * i + 7
    · rw [if_pos h2, if_neg (by omega), if_pos (by omega)]
    · rw [if_neg h2]
      by_cases h3 : j = 4
      · rw [if_pos h3, if_pos h3]
      · rw [if_neg h3, if_neg h3]
        by_cases h4 : 20 ≤ j ∧ j < 20 + 8 * i ∧ 2 ≤ (j - 20) % 8 ∧ (j - 20) % 8 ≠ 3
        · rw [if_pos h4, if_pos (by omega)]
        · rw [if_neg h4, if_neg (by omega)]
def M8 (M : Mem) (x : Int) (m : MM) : Prop := (∀ j, j < 304 → m j = upm M.1 2 8 6 j) ∧ m 304 3 = cl6 x ∧ m 304 6 = 0 ∧ m 304 7 = -1 ∧ m 304 8 = -1 ∧ m 305 = S0 8 ∧ ∀ j, j < 1584 → m 306 j = S0 8 j
section Make7
variable {G : GG} {d : Nat} {M : Mem}
theorem k_model {Q : Option PV → Nat → Mem → Prop} {x : Int} (hx : rng x) (h6 : M.1 304 6 = 0) (hR : ∀ j, j < 304 → RfC M j) (hq : ∀ m, M8 M x m → Q none 318 (m, SR m)) : V G (d + 2) (64 * (d + 2)) 13 8752 mi_X8_init 0 [some (vr 304), some (vi x), none] [] 305 M (ZQ G Q) := by
  have loop : ∀ (n i : Nat) (x2 : Int) (m : MM), i + n = 8 → x2 = (i : Int) → (∀ m', m' = sc m 305 (S0 8) → Q none 318 (sc m' 306 (fun j => if j < 1584 then m' 305 j else m' 306 j), SR (sc m' 306 (fun j => if j < 1584 then m' 305 j else m' 306 j)))) → N G (d + 2) mi_X8_init 159 [some (vr 304), some (vi x), some (vi x2)] [] (sc m 305 (S0 i)) Q := by
    intro n
    induction n with
    | zero =>
      intro i x2 m hi e2 hq
      have i8 : i = 8 := by omega
      subst i8
      refine v_iload_n dX8_init_159 rfl rfl ?_
      refine v_bipush dX8_init_160 rfl ?_
      refine v_icmp_ge (tgt := 176) dX8_init_162 (by decide) (by omega) (by omega) (fun _ => ?_) (fun z => absurd z (by omega))
      refine v_aload_n dX8_init_176 rfl rfl ?_
      refine n_getr dX8_init_177 fo_X8_7 sh_304 rfl sr_304_0 ?_
      refine v_aload_n dX8_init_180 rfl rfl ?_
      refine n_getr dX8_init_181 fo_X8_13 sh_304 rfl sr_304_1 ?_
      refine n_callSV (As := [vr 305, vr 306]) (st := []) dX8_init_184 ml_X8_65 mo_X8_copy ms_X8_copy rfl rfl (Nat.le_of_ble_eq_true rfl) (Nat.le_of_ble_eq_true rfl) (by decide) (c_copy 305 306 sh_305 sh_306 (by omega) rfl) (fun m2 e => ?_)
      subst e
      exact v_return dX8_init_187 rfl (hq _ rfl)
    | succ n ih =>
      intro i x2 m hi e2 hq
      refine v_iload_n dX8_init_159 rfl rfl ?_
      refine v_bipush dX8_init_160 rfl ?_
      refine v_icmp_ge (tgt := 176) dX8_init_162 (by decide) (by omega) (by omega) (fun z => absurd z (by omega)) (fun _ => ?_)
      refine v_aload_n dX8_init_165 rfl rfl ?_
      refine v_iload_n dX8_init_166 rfl rfl ?_
      refine n_callVV (As := [vi x2]) (st := []) dX8_init_167 ml_X8_61 mo_X8_clear mv_X8_clear sh_304 rfl rfl rfl rfl (Nat.le_of_ble_eq_true rfl) (Nat.le_of_ble_eq_true rfl) (by decide) (c_clear i e2 (by omega) rfl) (fun m2 e => ?_)
      rw [sc_sc, sc_at, clS_S0] at e
      subst e
      refine v_iinc dX8_init_170 rfl (by decide) ?_
      refine v_goto (tgt := 159) dX8_init_173 (by decide) ?_
      exact ih (i + 1) (x2 + 1) m (by omega) (by omega) hq
  refine v_aload_n dX8_init_0 rfl rfl ?_
  refine v_objInit dX8_init_1 ml_X8_1 oiW (by omega) (Nat.le_of_ble_eq_true rfl) (by omega) ?_
  have i0 : I8 M M 305 [] [(6, 0)] := ⟨Lo.rf _ _, fun j b1 b2 => absurd b1 (by omega), fun b hb => by simp at hb, fun p hp => by simp at hp; rw [hp]; exact h6, fun z => absurd z (by omega)⟩
  refine v_aload_n dX8_init_4 rfl rfl ?_
  refine v_sipush dX8_init_5 rfl ?_
  refine v_naF0 (n := 1584) (bc := 12) (bs := 7168) dX8_init_8 dX8_init_10 sh_305 rfl (by omega) (by omega) ff_X8_7 sh_304 (by omega) rfl rfl (fun M1 n1 => ?_)
  have i1 := i0.new n1 (by omega) (rfc_a sh_305 rfl) rfl
  refine v_aload_n dX8_init_13 rfl rfl ?_
  refine v_sipush dX8_init_14 rfl ?_
  refine v_naF0 (n := 1584) (bc := 11) (bs := 5584) dX8_init_17 dX8_init_19 sh_306 rfl (by omega) (by omega) ff_X8_13 sh_304 (by omega) rfl rfl (fun M2 n2 => ?_)
  have i2 := i1.new n2 (by omega) (rfc_a sh_306 rfl) rfl
  refine v_aload_n dX8_init_22 rfl rfl ?_
  refine v_sipush dX8_init_23 rfl ?_
  refine v_naF0 (n := 1584) (bc := 10) (bs := 4000) dX8_init_26 dX8_init_28 sh_307 rfl (by omega) (by omega) ff_X8_16 sh_304 (by omega) rfl rfl (fun M3 n3 => ?_)
  have i3 := i2.new n3 (by omega) (rfc_a sh_307 rfl) rfl
  refine v_aload_n dX8_init_31 rfl rfl ?_
  refine v_sipush dX8_init_32 rfl ?_
  refine v_naF0 (n := 2720) (bc := 9) (bs := 1280) dX8_init_35 dX8_init_37 sh_308 rfl (by omega) (by omega) ff_X8_19 sh_304 (by omega) rfl rfl (fun M4 n4 => ?_)
  have i4 := i3.new n4 (by omega) (rfc_a sh_308 rfl) rfl
  refine v_aload_n dX8_init_40 rfl rfl ?_
  refine v_sipush dX8_init_41 rfl ?_
  refine v_naF0 (n := 300) (bc := 8) (bs := 980) dX8_init_44 dX8_init_46 sh_309 rfl (by omega) (by omega) ff_X8_22 sh_304 (by omega) rfl rfl (fun M5 n5 => ?_)
  have i5 := i4.new n5 (by omega) (rfc_a sh_309 rfl) rfl
  refine v_aload_n dX8_init_49 rfl rfl ?_
  refine v_iconst dX8_init_50 ?_
  refine v_intW dX8_init_51 fw_X8_25 sh_304 (by omega) rfl (fun M6 n6 => ?_)
  have i6 := i5.put n6 (fun p hp => by simp at hp; first | (rw [hp]; decide) | (rcases hp with hp | hp <;> rw [hp] <;> decide))
  refine v_aload_n dX8_init_54 rfl rfl ?_
  refine v_iconst dX8_init_55 ?_
  refine v_intW dX8_init_56 fw_X8_29 sh_304 (by omega) rfl (fun M7 n7 => ?_)
  have i7 := i6.put n7 (fun p hp => by simp at hp; first | (rw [hp]; decide) | (rcases hp with hp | hp <;> rw [hp] <;> decide))
  refine v_aload_n dX8_init_59 rfl rfl ?_
  refine v_sipush dX8_init_60 rfl ?_
  refine v_naF0 (n := 160) (bc := 7) (bs := 820) dX8_init_63 dX8_init_65 sh_310 rfl (by omega) (by omega) ff_X8_32 sh_304 (by omega) rfl rfl (fun M8 n8 => ?_)
  have i8 := i7.new n8 (by omega) (rfc_a sh_310 rfl) rfl
  refine v_aload_n dX8_init_68 rfl rfl ?_
  refine v_bipush dX8_init_69 rfl ?_
  refine v_naF0 (n := 9) (bc := 6) (bs := 811) dX8_init_71 dX8_init_73 sh_311 rfl (by omega) (by omega) ff_X8_35 sh_304 (by omega) rfl rfl (fun M9 n9 => ?_)
  have i9 := i8.new n9 (by omega) (rfc_a sh_311 rfl) rfl
  refine v_aload_n dX8_init_76 rfl rfl ?_
  refine v_sipush dX8_init_77 rfl ?_
  refine v_naF2 (n := 330) (bc := 5) (bs := 481) dX8_init_80 dX8_init_82 sh_312 rfl (by omega) (by omega) ff_X8_38 sh_304 (by omega) rfl rfl (fun M10 n10 => ?_)
  have i10 := i9.new n10 (by omega) (rfc_a sh_312 rfl) rfl
  refine v_aload_n dX8_init_85 rfl rfl ?_
  refine v_sipush dX8_init_86 rfl ?_
  refine v_naF3 (n := 330) (bc := 4) (bs := 151) dX8_init_89 dX8_init_91 sh_313 rfl (by omega) (by omega) ff_X8_42 sh_304 (by omega) rfl rfl (fun M11 n11 => ?_)
  have i11 := i10.new n11 (by omega) (rfc_a sh_313 rfl) rfl
  refine v_aload_n dX8_init_94 rfl rfl ?_
  refine v_sipush dX8_init_95 rfl ?_
  refine v_naF0 (n := 128) (bc := 3) (bs := 23) dX8_init_98 dX8_init_100 sh_314 rfl (by omega) (by omega) ff_X8_46 sh_304 (by omega) rfl rfl (fun M12 n12 => ?_)
  have i12 := i11.new n12 (by omega) (rfc_a sh_314 rfl) rfl
  refine v_aload_n dX8_init_103 rfl rfl ?_
  refine v_iconst dX8_init_104 ?_
  refine v_naF0 (n := 4) (bc := 2) (bs := 19) dX8_init_105 dX8_init_107 sh_315 rfl (by omega) (by omega) ff_X8_49 sh_304 (by omega) rfl rfl (fun M13 n13 => ?_)
  have i13 := i12.new n13 (by omega) (rfc_a sh_315 rfl) rfl
  refine v_aload_n dX8_init_110 rfl rfl ?_
  refine v_bipush dX8_init_111 rfl ?_
  refine v_naF0 (n := 16) (bc := 1) (bs := 3) dX8_init_113 dX8_init_115 sh_316 rfl (by omega) (by omega) ff_X8_52 sh_304 (by omega) rfl rfl (fun M14 n14 => ?_)
  have i14 := i13.new n14 (by omega) (rfc_a sh_316 rfl) rfl
  refine v_aload_n dX8_init_118 rfl rfl ?_
  refine v_iconst dX8_init_119 ?_
  refine v_naF0 (n := 3) (bc := 0) (bs := 0) dX8_init_120 dX8_init_122 sh_317 rfl (by omega) (by omega) ff_X8_55 sh_304 (by omega) rfl rfl (fun M15 n15 => ?_)
  have i15 := i14.new n15 (by omega) (rfc_a sh_317 rfl) rfl
  clear n1 n2 n3 n4 n5 n6 n7 n8 n9 n10 n11 n12 n13 n14 n15 i0 i1 i2 i3 i4 i5 i6 i7 i8 i9 i10 i11 i12 i13 i14
  have fin : ∀ z, z = cl6 x → V G (d + 2) (64 * (d + 2)) 0 0 mi_X8_init 147 [some (vr 304), some (vi x), none] [vi z, vr 304] 318 M15 (ZQ G Q) := by
    intro z ez
    refine v_intF dX8_init_147 ff_X8_58 sh_304 (by omega) rfl rfl (fun M9 n9 => ?_)
    have i9 := i15.put n9 (fun p hp => by simp at hp; rcases hp with hp | hp | hp <;> rw [hp] <;> decide)
    obtain ⟨a0, a1, a2, a3, a4⟩ := i9
    have hall : ∀ j, j < 318 → RfC M9 j := by
      intro j hj
      by_cases h1 : j < 304
      · exact (hR j h1).fr (a0 j h1).2
      · by_cases h2 : j = 304
        · subst h2
          refine rfc_o sh_304 (fun q hq hr => a2 q ?_)
          have hq4 : q < 33 := hq
          have all : ∀ q, q < 33 → isR (TYF 8 q) = true → q ∈ [30, 29, 28, 27, 26, 25, 24, 18, 5, 4, 2, 1, 0] := by decide
          exact all q hq4 hr
        · exact a1 j (by omega) hj
    refine V.ag (ag_6 hall) ?_
    refine v_aload_n dX8_init_150 rfl rfl ?_
    refine n_getr dX8_init_151 fo_X8_7 sh_304 rfl sr_304_0 ?_
    refine v_iconst dX8_init_154 ?_
    refine v_iconst dX8_init_155 ?_
    refine w_iast (j := 4) dX8_init_156 sh_305 rfl (by decide) (fun m1 em1 => ?_)
    refine v_iconst dX8_init_157 ?_
    refine v_istore_n dX8_init_158 rfl (by decide) ?_
    have h305 : m1 = sc m1 305 (S0 0) := by
      have e : m1 305 = S0 0 := by
        funext j
        rw [em1]
        by_cases e4 : j = 4
        · subst e4; rw [upm_at]; rfl
        · rw [upm_j _ _ e4, upm_c (by omega), a4 (by omega) j]
          unfold S0
          rw [if_neg e4, if_neg (by omega)]
      rw [← e, sc_id]
    rw [h305]
    refine loop 8 0 0 m1 (by omega) rfl (fun m' em' => hq _ ⟨fun j hj => ?_, ?_, ?_, ?_, ?_, ?_, fun j hj => ?_⟩)
    · rw [sc_ne _ _ (by omega), em', sc_ne _ _ (by omega), em1, upm_c (by omega)]
      by_cases e : j = 2
      · subst e
        funext b
        unfold upm
        rw [(a0 2 (by omega)).1]
      · rw [upm_c e, upm_c e, (a0 j hj).1]
    · rw [sc_ne _ _ (by omega), em', sc_ne _ _ (by omega), em1, upm_c (by omega), upm_c (by omega), ← ez]; exact a3 (3, z) (by simp)
    · rw [sc_ne _ _ (by omega), em', sc_ne _ _ (by omega), em1, upm_c (by omega), upm_c (by omega)]; exact a3 (6, 0) (by simp)
    · rw [sc_ne _ _ (by omega), em', sc_ne _ _ (by omega), em1, upm_c (by omega), upm_c (by omega)]; exact a3 (7, -1) (by simp)
    · rw [sc_ne _ _ (by omega), em', sc_ne _ _ (by omega), em1, upm_c (by omega), upm_c (by omega)]; exact a3 (8, -1) (by simp)
    · rw [sc_ne _ _ (by omega), em', sc_at]
    · rw [sc_at, if_pos hj, em', sc_at]
  refine v_aload_n dX8_init_125 rfl rfl ?_
  refine v_iload_n dX8_init_126 rfl rfl ?_
  refine v_iconst dX8_init_127 ?_
  refine v_icmp_ge (tgt := 135) dX8_init_128 (by decide) hx (by omega) (fun g1 => ?_) (fun g1 => ?_)
  · refine v_iload_n dX8_init_135 rfl rfl ?_
    refine v_bipush dX8_init_136 rfl ?_
    refine v_icmp_le (tgt := 146) dX8_init_138 (by decide) hx (by omega) (fun g2 => ?_) (fun g2 => ?_)
    · refine v_iload_n dX8_init_146 rfl rfl ?_
      exact fin x (by unfold cl6 imax imin; split <;> split <;> omega)
    · refine v_bipush dX8_init_141 rfl ?_
      refine v_goto (tgt := 147) dX8_init_143 (by decide) ?_
      exact fin 6 (by unfold cl6 imax imin; split <;> split <;> omega)
  · refine v_iconst dX8_init_131 ?_
    refine v_goto (tgt := 147) dX8_init_132 (by decide) ?_
    exact fin 1 (by unfold cl6 imax imin; split <;> split <;> omega)
end Make7
