/-! ===== makings: pasts, scripts, the reader, the reckoner, rows, standings ===== -/
def PaF (M : Mem) (p : Nat) : Prop := (M.2 p 0 = some (p + 1) ∧ M.1 p 1 = 0 ∧ M.1 p 2 = 0) ∧ ∀ q, q < 30 → M.2 (p + 1) q = some (p + 2 + 4 * q) ∧ CtF M (p + 2 + 4 * q)
theorem PaF.fr {M M' : Mem} {p : Nat} (h : PaF M p) (e : ∀ j, p ≤ j → j < p + 122 → M'.1 j = M.1 j ∧ M'.2 j = M.2 j) : PaF M' p := by
  obtain ⟨h1, h2⟩ := h
  refine ⟨by rw [(e p (by omega) (by omega)).1, (e p (by omega) (by omega)).2]; exact h1, fun q hq => ⟨by rw [(e (p + 1) (by omega) (by omega)).2]; exact (h2 q hq).1, (h2 q hq).2.fr (fun j a1 a2 => e j (by omega) (by omega))⟩⟩
def ScF (M : Mem) (c : Nat) : Prop := (M.1 c 0 = 0 ∧ M.1 c 5 = 0 ∧ M.1 c 6 = -1 ∧ M.1 c 7 = -1 ∧ M.1 c 8 = -1 ∧ M.1 c 9 = -1) ∧ (M.2 c 1 = some (c + 1) ∧ M.2 c 2 = some (c + 2) ∧ M.2 c 3 = some (c + 3) ∧ M.2 c 4 = some (c + 4)) ∧ ∀ q, M.1 (c + 1) q = 0 ∧ M.1 (c + 2) q = 0 ∧ M.1 (c + 3) q = 0 ∧ M.1 (c + 4) q = 0
theorem ScF.fr {M M' : Mem} {c : Nat} (h : ScF M c) (e : ∀ j, c ≤ j → j < c + 5 → M'.1 j = M.1 j ∧ M'.2 j = M.2 j) : ScF M' c := by
  unfold ScF at h ⊢
  rw [(e c (by omega) (by omega)).1, (e c (by omega) (by omega)).2, (e (c + 1) (by omega) (by omega)).1, (e (c + 2) (by omega) (by omega)).1, (e (c + 3) (by omega) (by omega)).1, (e (c + 4) (by omega) (by omega)).1]
  exact h
section Make2
variable {G : GG} {d : Nat} {M : Mem}
theorem k_past {Q : Option PV → Nat → Mem → Prop} (p : Nat) (h1 : SH p = .inr 1) (hb : p + 122 ≤ 900000) (hq : ∀ M', Lo p M M' → PaF M' p → Q none (p + 122) M') : V G (d + 2) (64 * (d + 2)) 121 870 mi_X1_init 0 [some (vr p), none] [] (p + 1) M (ZQ G Q) := by
  have loop : ∀ (n k : Nat) (x1 : Int) (M1 : Mem), k + n = 30 → x1 = (k : Int) → Lo p M M1 → (M1.2 p 0 = some (p + 1) ∧ M1.1 p 1 = 0 ∧ M1.1 p 2 = 0) → (∀ q, q < k → M1.2 (p + 1) q = some (p + 2 + 4 * q) ∧ CtF M1 (p + 2 + 4 * q)) → V G (d + 2) (64 * (d + 2)) (4 * n) (28 * n) mi_X1_init 25 [some (vr p), some (vi x1)] [] (p + 2 + 4 * k) M1 (ZQ G Q) := by
    intro n
    induction n with
    | zero =>
      intro k x1 M1 hk e1 hlo hf hc
      have k30 : k = 30 := by omega
      subst k30
      refine v_iload_n dX1_init_25 rfl rfl ?_
      refine v_bipush dX1_init_26 rfl ?_
      refine v_icmp_ge (tgt := 50) dX1_init_28 (by decide) (by omega) (by omega) (fun _ => ?_) (fun z => absurd z (by omega))
      exact v_return dX1_init_50 rfl (hq M1 hlo ⟨hf, hc⟩)
    | succ n ih =>
      intro k x1 M1 hk e1 hlo hf hc
      have hsc : SH (p + 2 + 4 * k) = .inr 0 := pa_c h1 (by omega)
      refine v_iload_n dX1_init_25 rfl rfl ?_
      refine v_bipush dX1_init_26 rfl ?_
      refine v_icmp_ge (tgt := 50) dX1_init_28 (by decide) (by omega) (by omega) (fun z => absurd z (by omega)) (fun _ => ?_)
      refine v_aload_n dX1_init_31 rfl rfl ?_
      refine v_getr (t := p + 1) dX1_init_32 fo_X1_11 h1 (by omega) rfl hf.1 ?_
      refine v_iload_n dX1_init_35 rfl rfl ?_
      rw [show 4 * (n + 1) = (3 + 4 * n) + 1 by omega, show 28 * (n + 1) = (24 + 28 * n) + 4 by omega]
      refine v_new (ci := 0) (bc := 3 + 4 * n) (bs := 24 + 28 * n) dX1_init_36 clX0 ck_X1_9 hsc (by omega) ?_
      refine v_dupr dX1_init_39 ?_
      refine v_callI (d := d + 1) (bc := 4 * n) (bs := 28 * n) (bc' := 3) (bs' := 24) (o := p + 2 + 4 * k) (As := []) (st := [vr (p + 2 + 4 * k), vi x1, vr (p + 1)]) dX1_init_40 ml_X1_24 mo_X0_init mn_X0_init rfl rfl rfl rfl (Nat.le_of_ble_eq_true rfl) (Nat.le_of_ble_eq_true rfl) (by omega) (by show 1 + 19 + 64 * (d + 1) ≤ _; omega) (Q := fun r K' M' => r = none ∧ Lo (p + 2 + 4 * k) M1 M' ∧ CtF M' (p + 2 + 4 * k)) ?_ (fun r M2 hr => ?_)
      · exact k_court (p + 2 + 4 * k) hsc (by omega) (fun M' l1 l2 => ⟨rfl, fun j hj => by
          have := l1 j hj
          have e : j ≠ p + 2 + 4 * k := by omega
          exact ⟨by rw [this.1]; funext b; simp [zM, e], by rw [this.2]; funext b; simp [zM, e]⟩, l2⟩)
      · obtain ⟨rfl, l1, l2⟩ := hr
        refine v_aast4 (j := k) (t := p + 2 + 4 * k) (ci := 0) dX1_init_43 (kn1_1 h1) (by omega) e1 (by omega) hsc (by omega) rfl rfl ?_
        refine v_iinc dX1_init_44 rfl (by decide) ?_
        refine v_goto (tgt := 25) dX1_init_47 (by decide) ?_
        rw [show p + 2 + 4 * k + 1 + 3 = p + 2 + 4 * (k + 1) by omega]
        have lp := l1 p (by omega)
        have lr := l1 (p + 1) (by omega)
        refine ih (k + 1) (x1 + 1) _ (by omega) (by omega) ((hlo.tr (l1.le (by omega))).r (by omega)) ⟨?_, by rw [lp.1]; exact hf.2.1, by rw [lp.1]; exact hf.2.2⟩ (fun q hq' => ?_)
        · show upr M2.2 (p + 1) k (some (p + 2 + 4 * k)) p 0 = _
          rw [upr_ne (by omega), lp.2]; exact hf.1
        · by_cases eq : q = k
          · subst eq
            exact ⟨by simp [upr], l2.fr (fun j a1 a2 => ⟨rfl, by funext b; exact upr_ne (by omega) b⟩)⟩
          · have := hc q (by omega)
            refine ⟨?_, this.2.fr (fun j a1 a2 => ⟨(l1 j (by omega)).1, by rw [← (l1 j (by omega)).2]; funext b; exact upr_ne (by omega) b⟩)⟩
            show upr M2.2 (p + 1) k (some (p + 2 + 4 * k)) (p + 1) q = _
            have : upr M2.2 (p + 1) k (some (p + 2 + 4 * k)) (p + 1) q = M2.2 (p + 1) q := by simp [upr, eq]
            rw [this, lr.2]; exact (hc q (by omega)).1
  refine v_aload_n dX1_init_0 rfl rfl ?_
  refine v_objInit dX1_init_1 ml_X1_3 oiW (by omega) (Nat.le_of_ble_eq_true rfl) (by omega) ?_
  refine v_aload_n dX1_init_4 rfl rfl ?_
  refine v_bipush dX1_init_5 rfl ?_
  refine v_newq4 (n := 30) (bc := 120) (bs := 840) dX1_init_7 ck_X1_9 (kn1_1 h1) rfl (by omega) (by omega) ?_
  refine v_putFr dX1_init_10 ff_X1_11 h1 (by omega) rfl rfl ?_
  refine v_aload_n dX1_init_13 rfl rfl ?_
  refine v_iconst dX1_init_14 ?_
  refine v_puti dX1_init_15 fw_X1_17 h1 (by omega) rfl ?_
  refine v_aload_n dX1_init_18 rfl rfl ?_
  refine v_iconst dX1_init_19 ?_
  refine v_puti dX1_init_20 fw_X1_21 h1 (by omega) rfl ?_
  refine v_iconst dX1_init_23 ?_
  refine v_istore_n dX1_init_24 rfl (by decide) ?_
  refine loop 30 0 0 _ (by omega) rfl (((((Lo.rf _ _).z (by omega)).r (by omega)).n (by omega)).n (by omega)) ⟨?_, ?_, ?_⟩ (fun q hq => absurd hq (by omega))
  · simp [upr, upm, zM] <;> omega
  · simp [upr, upm, zM] <;> omega
  · simp [upr, upm, zM] <;> omega
theorem k_script {Q : Option PV → Nat → Mem → Prop} (c : Nat) (h0 : SH c = .inr 5) (hb : c + 5 ≤ 900000) (hq : ∀ M', Lo c M M' → ScF M' c → Q none (c + 5) M') : V G (d + 1) (64 * (d + 1)) 4 372 mi_X5_init 0 [some (vr c)] [] (c + 1) M (ZQ G Q) := by
  refine v_aload_n dX5_init_0 rfl rfl ?_
  refine v_objInit dX5_init_1 ml_X5_3 oiW (by omega) (Nat.le_of_ble_eq_true rfl) (by omega) ?_
  refine v_aload_n dX5_init_4 rfl rfl ?_
  refine v_iconst dX5_init_5 ?_
  refine v_puti dX5_init_6 fw_X5_9 h0 (by omega) rfl ?_
  refine v_aload_n dX5_init_9 rfl rfl ?_
  refine v_bipush dX5_init_10 rfl ?_
  refine v_newa0 (n := 24) (bc := 3) (bs := 348) dX5_init_12 ac_int (kn5_1 h0) rfl (by omega) (by omega) ?_
  refine v_putFr dX5_init_14 ff_X5_15 h0 (by omega) rfl rfl ?_
  refine v_aload_n dX5_init_17 rfl rfl ?_
  refine v_bipush dX5_init_18 rfl ?_
  refine v_newa0 (n := 24) (bc := 2) (bs := 324) dX5_init_20 ac_int (kn5_2 h0) rfl (by omega) (by omega) ?_
  refine v_putFr dX5_init_22 ff_X5_19 h0 (by omega) rfl rfl ?_
  refine v_aload_n dX5_init_25 rfl rfl ?_
  refine v_bipush dX5_init_26 rfl ?_
  refine v_newa0 (n := 24) (bc := 1) (bs := 300) dX5_init_28 ac_int (kn5_3 h0) rfl (by omega) (by omega) ?_
  refine v_putFr dX5_init_30 ff_X5_22 h0 (by omega) rfl rfl ?_
  refine v_aload_n dX5_init_33 rfl rfl ?_
  refine v_sipush dX5_init_34 rfl ?_
  refine v_newa0 (n := 300) (bc := 0) (bs := 0) dX5_init_37 ac_int (kn5_4 h0) rfl (by omega) (by omega) ?_
  refine v_putFr dX5_init_39 ff_X5_25 h0 (by omega) rfl rfl ?_
  refine v_aload_n dX5_init_42 rfl rfl ?_
  refine v_iconst dX5_init_43 ?_
  refine v_puti dX5_init_44 fw_X5_28 h0 (by omega) rfl ?_
  refine v_aload_n dX5_init_47 rfl rfl ?_
  refine v_iconst dX5_init_48 ?_
  refine v_puti dX5_init_49 fw_X5_31 h0 (by omega) rfl ?_
  refine v_aload_n dX5_init_52 rfl rfl ?_
  refine v_iconst dX5_init_53 ?_
  refine v_puti dX5_init_54 fw_X5_34 h0 (by omega) rfl ?_
  refine v_aload_n dX5_init_57 rfl rfl ?_
  refine v_iconst dX5_init_58 ?_
  refine v_puti dX5_init_59 fw_X5_37 h0 (by omega) rfl ?_
  refine v_aload_n dX5_init_62 rfl rfl ?_
  refine v_iconst dX5_init_63 ?_
  refine v_puti dX5_init_64 fw_X5_40 h0 (by omega) rfl ?_
  refine v_return dX5_init_67 rfl (hq _ (((((((((((((((Lo.rf _ _).n (by omega)).z (by omega)).r (by omega)).z (by omega)).r (by omega)).z (by omega)).r (by omega)).z (by omega)).r (by omega)).n (by omega)).n (by omega)).n (by omega)).n (by omega)).n (by omega)) ⟨⟨?_, ?_, ?_, ?_, ?_, ?_⟩, ⟨?_, ?_, ?_, ?_⟩, fun q => ⟨?_, ?_, ?_, ?_⟩⟩)
  · simp [upr, upm, zM] <;> omega
  · simp [upr, upm, zM] <;> omega
  · simp [upr, upm, zM] <;> omega
  · simp [upr, upm, zM] <;> omega
  · simp [upr, upm, zM] <;> omega
  · simp [upr, upm, zM] <;> omega
  · simp [upr, upm, zM] <;> omega
  · simp [upr, upm, zM] <;> omega
  · simp [upr, upm, zM] <;> omega
  · simp [upr, upm, zM] <;> omega
  · simp [upr, upm, zM] <;> omega
  · simp [upr, upm, zM] <;> omega
  · simp [upr, upm, zM] <;> omega
  · simp [upr, upm, zM] <;> omega
theorem k_reckoner {Q : Option PV → Nat → Mem → Prop} (hq : ∀ M', Lo 276 M M' → (M'.2 276 0 = some 277 ∧ M'.2 276 1 = some 278) → (∀ q, M'.1 277 q = 0 ∧ M'.1 278 q = 0) → Q none 279 M') : V G (d + 1) (64 * (d + 1)) 2 41 mi_X3_init 0 [some (vr 276)] [] 277 M (ZQ G Q) := by
  refine v_aload_n dX3_init_0 rfl rfl ?_
  refine v_objInit dX3_init_1 ml_X3_3 oiW (by omega) (Nat.le_of_ble_eq_true rfl) (by omega) ?_
  refine v_aload_n dX3_init_4 rfl rfl ?_
  refine v_bipush dX3_init_5 rfl ?_
  refine v_newa0 (n := 9) (bc := 1) (bs := 32) dX3_init_7 ac_int sh_277 rfl (by omega) (by omega) ?_
  refine v_putFr dX3_init_9 ff_X3_9 sh_276 (by omega) rfl rfl ?_
  refine v_aload_n dX3_init_12 rfl rfl ?_
  refine v_bipush dX3_init_13 rfl ?_
  refine v_newa0 (n := 32) (bc := 0) (bs := 0) dX3_init_15 ac_int sh_278 rfl (by omega) (by omega) ?_
  refine v_putFr dX3_init_17 ff_X3_15 sh_276 (by omega) rfl rfl ?_
  refine v_return dX3_init_20 rfl (hq _ (((((Lo.rf _ _).z (by omega)).r (by omega)).z (by omega)).r (by omega)) ⟨?_, ?_⟩ (fun q => ⟨?_, ?_⟩))
  · simp [upr, upm, zM]
  · simp [upr, upm, zM]
  · simp [upr, upm, zM]
  · simp [upr, upm, zM]
theorem k_rows {Q : Option PV → Nat → Mem → Prop} (hq : ∀ M', Lo 279 M M' → (M'.1 279 0 = 0 ∧ M'.1 279 1 = 0 ∧ M'.1 279 2 = -1 ∧ M'.1 279 3 = 0 ∧ M'.1 279 4 = 0 ∧ M'.1 279 5 = 0 ∧ M'.1 279 6 = 0) → (M'.2 279 7 = some 280 ∧ M'.2 279 8 = some 281) → (∀ q, M'.1 280 q = 0 ∧ M'.1 281 q = 0) → Q none 282 M') : V G (d + 1) (64 * (d + 1)) 2 6 mi_X4_init 0 [some (vr 279)] [] 280 M (ZQ G Q) := by
  refine v_aload_n dX4_init_0 rfl rfl ?_
  refine v_objInit dX4_init_1 ml_X4_3 oiW (by omega) (Nat.le_of_ble_eq_true rfl) (by omega) ?_
  refine v_aload_n dX4_init_4 rfl rfl ?_
  refine v_iconst dX4_init_5 ?_
  refine v_puti dX4_init_6 fw_X4_9 sh_279 (by omega) rfl ?_
  refine v_aload_n dX4_init_9 rfl rfl ?_
  refine v_iconst dX4_init_10 ?_
  refine v_puti dX4_init_11 fw_X4_15 sh_279 (by omega) rfl ?_
  refine v_aload_n dX4_init_14 rfl rfl ?_
  refine v_iconst dX4_init_15 ?_
  refine v_puti dX4_init_16 fw_X4_18 sh_279 (by omega) rfl ?_
  refine v_aload_n dX4_init_19 rfl rfl ?_
  refine v_iconst dX4_init_20 ?_
  refine v_puti dX4_init_21 fw_X4_21 sh_279 (by omega) rfl ?_
  refine v_aload_n dX4_init_24 rfl rfl ?_
  refine v_iconst dX4_init_25 ?_
  refine v_puti dX4_init_26 fw_X4_24 sh_279 (by omega) rfl ?_
  refine v_aload_n dX4_init_29 rfl rfl ?_
  refine v_iconst dX4_init_30 ?_
  refine v_puti dX4_init_31 fw_X4_27 sh_279 (by omega) rfl ?_
  refine v_aload_n dX4_init_34 rfl rfl ?_
  refine v_iconst dX4_init_35 ?_
  refine v_puti dX4_init_36 fw_X4_30 sh_279 (by omega) rfl ?_
  refine v_aload_n dX4_init_39 rfl rfl ?_
  refine v_iconst dX4_init_40 ?_
  refine v_newa0 (n := 3) (bc := 1) (bs := 3) dX4_init_41 ac_int sh_280 rfl (by omega) (by omega) ?_
  refine v_putFr dX4_init_43 ff_X4_33 sh_279 (by omega) rfl rfl ?_
  refine v_aload_n dX4_init_46 rfl rfl ?_
  refine v_iconst dX4_init_47 ?_
  refine v_newa0 (n := 3) (bc := 0) (bs := 0) dX4_init_48 ac_int sh_281 rfl (by omega) (by omega) ?_
  refine v_putFr dX4_init_50 ff_X4_37 sh_279 (by omega) rfl rfl ?_
  refine v_return dX4_init_53 rfl (hq _ ((((((((((((Lo.rf _ _).n (by omega)).n (by omega)).n (by omega)).n (by omega)).n (by omega)).n (by omega)).n (by omega)).z (by omega)).r (by omega)).z (by omega)).r (by omega)) ⟨?_, ?_, ?_, ?_, ?_, ?_, ?_⟩ ⟨?_, ?_⟩ (fun q => ⟨?_, ?_⟩))
  · simp [upr, upm, zM]
  · simp [upr, upm, zM]
  · simp [upr, upm, zM]
  · simp [upr, upm, zM]
  · simp [upr, upm, zM]
  · simp [upr, upm, zM]
  · simp [upr, upm, zM]
  · simp [upr, upm, zM]
  · simp [upr, upm, zM]
  · simp [upr, upm, zM]
  · simp [upr, upm, zM]
end Make2
