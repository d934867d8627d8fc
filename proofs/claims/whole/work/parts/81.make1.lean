/-! ===== makings: what cells look at; courts and pasts ===== -/
def isQ (ty : FieldType) : Bool := match ty with
  | .object _ => true
  | _ => false
def AgC (M M' : Mem) (j : Nat) : Prop := match SH j with
  | .inl (ty, n) => ∀ q, q < n → (if isQ ty = true then M'.2 j q = M.2 j q else M'.1 j q = M.1 j q)
  | .inr ci => ∀ q, q < NF ci → (if isR (TYF ci q) = true then M'.2 j q = M.2 j q else M'.1 j q = M.1 j q)
theorem arrV_cong {cI : ClassId} {n : Nat} {f g : Nat → Value} (h : ∀ j, j < n → f j = g j) : arrV cI n f = arrV cI n g := by
  unfold arrV
  congr 2
  funext j
  exact h j.val j.isLt
theorem cell_cong {G : GG} {M M' : Mem} {j n : Nat} {ty : FieldType} (h : ∀ q, q < n → (if isQ ty = true then M'.2 j q = M.2 j q else M'.1 j q = M.1 j q)) : vp_cell (gA G ty) (n, av G M' j ty) = vp_cell (gA G ty) (n, av G M j ty) := by
  cases ty
  case long =>
    show arrV _ n (fun q => Value.long (i64 (M'.1 j q))) = arrV _ n (fun q => Value.long (i64 (M.1 j q)))
    refine arrV_cong (fun q hq => ?_)
    have := h q hq
    simp [isQ] at this
    rw [this]
  case object s =>
    show arrV _ n (fun q => va_rf ((M'.2 j q).map (rf G))) = arrV _ n (fun q => va_rf ((M.2 j q).map (rf G)))
    refine arrV_cong (fun q hq => ?_)
    have := h q hq
    simp [isQ] at this
    rw [this]
  all_goals
    show arrV _ n (fun q => Value.int (i32 (M'.1 j q))) = arrV _ n (fun q => Value.int (i32 (M.1 j q)))
    refine arrV_cong (fun q hq => ?_)
    have := h q hq
    simp [isQ] at this
    rw [this]
theorem fv_cong {G : GG} {M M' : Mem} {j q : Nat} {ty : FieldType} (h : if isR ty = true then M'.2 j q = M.2 j q else M'.1 j q = M.1 j q) : fv G M' j q ty = fv G M j q ty := by
  cases ty <;> simp [isR] at h <;> simp [fv, h]
theorem Rep.ag {G : GG} {K : Nat} {M M' : Mem} {H : Heap} (h : Rep G K M H) (ag : ∀ j, j < K → AgC M M' j) : Rep G K M' H := by
  refine ⟨h.1, fun k q hk => ?_⟩
  have hkK : k < K := by have := (List.getElem?_eq_some_iff.mp hk).1; rwa [cw_len] at this
  rw [cw_get hkK] at hk
  cases hk
  have h2 := h.2 k _ (cw_get hkK)
  have h3 := ag k hkK
  unfold AgC at h3
  unfold cellE at h2 ⊢
  cases hs : SH k with
  | inl p =>
    obtain ⟨ty, n⟩ := p
    rw [hs] at h2 h3
    dsimp only at h3
    show (H[gB G + k]? = some (vp_cell (gA G ty) (n, av G M' k ty)))
    have h2 : H[gB G + k]? = some (vp_cell (gA G ty) (n, av G M k ty)) := h2
    rw [cell_cong h3]
    exact h2
  | inr ci =>
    rw [hs] at h2 h3
    dsimp only at h3
    have e : (List.range (NF ci)).map (fun q => fv G M' k q (TYF ci q)) = (List.range (NF ci)).map (fun q => fv G M k q (TYF ci q)) := List.map_congr_left (fun q hq => fv_cong (h3 q (List.mem_range.mp hq)))
    show va_at (gD G) vwCl (gB G + k, .inr (ci, (List.range (NF ci)).map (fun q => fv G M' k q (TYF ci q)))) H
    rw [e]
    exact h2
theorem V.ag {G : GG} {fr lo bc bs : Nat} {mi : MI} {pc : Nat} {lv : List (Option PV)} {st : List PV} {K : Nat} {M M' : Mem} {Z : ZZ} (e : ∀ j, j < K → AgC M M' j) (h : V G fr lo bc bs mi pc lv st K M' Z) : V G fr lo bc bs mi pc lv st K M Z :=
  fun p e' s m args below meth c mc ms H locs ls cells slots C hR hS hL hE h1 h2 => h p e' s m args below meth c mc ms H locs ls cells slots C (hR.ag e) hS hL hE h1 h2
/-- the same cells below c -/
def Lo (c : Nat) (M M' : Mem) : Prop := ∀ j, j < c → M'.1 j = M.1 j ∧ M'.2 j = M.2 j
theorem Lo.rf (c : Nat) (M : Mem) : Lo c M M := fun _ _ => ⟨rfl, rfl⟩
theorem Lo.tr {c : Nat} {A B C : Mem} (h : Lo c A B) (h2 : Lo c B C) : Lo c A C := fun j hj => ⟨(h2 j hj).1.trans (h j hj).1, (h2 j hj).2.trans (h j hj).2⟩
theorem Lo.le {c c' : Nat} {A B : Mem} (h : Lo c A B) (hc : c' ≤ c) : Lo c' A B := fun j hj => h j (by omega)
theorem Lo.z {c K : Nat} {A B : Mem} (h : Lo c A B) (hK : c ≤ K) : Lo c A (zM B K) := fun j hj => by
  have := h j hj
  have e : j ≠ K := by omega
  exact ⟨by rw [← this.1]; funext b; simp [zM, e], by rw [← this.2]; funext b; simp [zM, e]⟩
theorem Lo.n {c o k : Nat} {z : Int} {A B : Mem} (h : Lo c A B) (ho : c ≤ o) : Lo c A (upm B.1 o k z, B.2) := fun j hj => by
  have := h j hj
  exact ⟨by rw [← this.1]; exact upm_c (by omega), this.2⟩
theorem Lo.r {c o k : Nat} {z : Option Nat} {A B : Mem} (h : Lo c A B) (ho : c ≤ o) : Lo c A (B.1, upr B.2 o k z) := fun j hj => by
  have := h j hj
  have e : j ≠ o := by omega
  exact ⟨this.1, by rw [← this.2]; funext b; exact upr_ne e b⟩
def CtF (M : Mem) (c : Nat) : Prop := M.1 c 0 = 0 ∧ M.2 c 1 = some (c + 1) ∧ M.2 c 2 = some (c + 2) ∧ M.2 c 3 = some (c + 3) ∧ ∀ q, q < 8 → M.1 (c + 1) q = -1 ∧ M.1 (c + 2) q = 0 ∧ M.1 (c + 3) q = 0
theorem CtF.fr {M M' : Mem} {c : Nat} (h : CtF M c) (e : ∀ j, c ≤ j → j < c + 4 → M'.1 j = M.1 j ∧ M'.2 j = M.2 j) : CtF M' c := by
  unfold CtF at h ⊢
  rw [(e c (by omega) (by omega)).1, (e c (by omega) (by omega)).2, (e (c + 1) (by omega) (by omega)).1, (e (c + 2) (by omega) (by omega)).1, (e (c + 3) (by omega) (by omega)).1]
  exact h
section Make1
variable {G : GG} {d : Nat} {M : Mem} {K : Nat}
theorem k_fill {Q : Option PV → Nat → Mem → Prop} {x : Int} (o : Nat) (hs : SH o = .inl (.int, 8)) (ho : o < K) (hq : ∀ M', (∀ j, j ≠ o → M'.1 j = M.1 j) → M'.2 = M.2 → (∀ q, q < 8 → M'.1 o q = x) → Q none K M') : V G d (64 * d) 0 0 mi_J7_fill_53178 0 [some (vr o), some (vi x), none, none] [] K M (ZQ G Q) := by
  have loop : ∀ (n i : Nat) (x2 : Int) (f : Nat → Nat → Int), i + n = 8 → x2 = (i : Int) → (∀ j, j ≠ o → f j = M.1 j) → (∀ q, q < i → f o q = x) → V G d (64 * d) 0 0 mi_J7_fill_53178 5 [some (vr o), some (vi x), some (vi x2), some (vi 8)] [] K (f, M.2) (ZQ G Q) := by
    intro n
    induction n with
    | zero =>
      intro i x2 f hi h2 ho' hf
      refine v_iload_n dJ7_fill_53178_5 rfl rfl ?_
      refine v_iload_n dJ7_fill_53178_6 rfl rfl ?_
      refine v_icmp_ge (tgt := 20) dJ7_fill_53178_7 (by decide) (by omega) (by omega) (fun _ => ?_) (fun z => absurd z (by omega))
      exact v_return dJ7_fill_53178_20 rfl (hq _ ho' rfl (fun q hq => hf q (by omega)))
    | succ n ih =>
      intro i x2 f hi h2 ho' hf
      refine v_iload_n dJ7_fill_53178_5 rfl rfl ?_
      refine v_iload_n dJ7_fill_53178_6 rfl rfl ?_
      refine v_icmp_ge (tgt := 20) dJ7_fill_53178_7 (by decide) (by omega) (by omega) (fun z => absurd z (by omega)) (fun _ => ?_)
      refine v_aload_n dJ7_fill_53178_10 rfl rfl ?_
      refine v_iload_n dJ7_fill_53178_11 rfl rfl ?_
      refine v_iload_n dJ7_fill_53178_12 rfl rfl ?_
      refine v_iast (j := i) dJ7_fill_53178_13 hs ho h2 (by omega) ?_
      refine v_iinc dJ7_fill_53178_14 rfl (by decide) ?_
      refine v_goto (tgt := 5) dJ7_fill_53178_17 (by decide) ?_
      refine ih (i + 1) (x2 + 1) (upm f o i x) (by omega) (by omega) (fun j hj => by rw [upm_c hj]; exact ho' j hj) (fun q hq' => ?_)
      by_cases e : q = i
      · rw [e, upm_at]
      · rw [upm_j _ _ e]; exact hf q (by omega)
  refine v_iconst dJ7_fill_53178_0 ?_
  refine v_istore_n dJ7_fill_53178_1 rfl (by decide) ?_
  refine v_aload_n dJ7_fill_53178_2 rfl rfl ?_
  refine v_alen0 dJ7_fill_53178_3 hs ho ?_
  refine v_istore_n dJ7_fill_53178_4 rfl (by decide) ?_
  exact loop 8 0 0 M.1 (by omega) rfl (fun _ _ => rfl) (fun q hq => absurd hq (by omega))
theorem k_court {Q : Option PV → Nat → Mem → Prop} (c : Nat) (h0 : SH c = .inr 0) (hb : c + 4 ≤ 900000) (hq : ∀ M', Lo c M M' → CtF M' c → Q none (c + 4) M') : V G (d + 1) (64 * (d + 1)) 3 24 mi_X0_init 0 [some (vr c)] [] (c + 1) M (ZQ G Q) := by
  refine v_aload_n dX0_init_0 rfl rfl ?_
  refine v_objInit dX0_init_1 ml_X0_3 oiW (by omega) (Nat.le_of_ble_eq_true rfl) (by omega) ?_
  refine v_aload_n dX0_init_4 rfl rfl ?_
  refine v_iconst dX0_init_5 ?_
  refine v_puti dX0_init_6 fw_X0_9 h0 (by omega) rfl ?_
  refine v_aload_n dX0_init_9 rfl rfl ?_
  refine v_bipush dX0_init_10 rfl ?_
  refine v_newa0 (n := 8) dX0_init_12 ac_int (kn0_1 h0) rfl (by omega) (by omega) ?_
  refine v_putFr dX0_init_14 ff_X0_15 h0 (by omega) rfl rfl ?_
  refine v_aload_n dX0_init_17 rfl rfl ?_
  refine v_bipush dX0_init_18 rfl ?_
  refine v_newa0 (n := 8) dX0_init_20 ac_int (kn0_2 h0) rfl (by omega) (by omega) ?_
  refine v_putFr dX0_init_22 ff_X0_19 h0 (by omega) rfl rfl ?_
  refine v_aload_n dX0_init_25 rfl rfl ?_
  refine v_bipush dX0_init_26 rfl ?_
  refine v_newa0 (n := 8) dX0_init_28 ac_int (kn0_3 h0) rfl (by omega) (by omega) ?_
  refine v_putFr dX0_init_30 ff_X0_22 h0 (by omega) rfl rfl ?_
  refine v_aload_n dX0_init_33 rfl rfl ?_
  refine v_getr (t := c + 1) dX0_init_34 fo_X0_15 h0 (by omega) rfl (by simp [upr, zM] <;> omega) ?_
  refine v_iconst dX0_init_37 ?_
  refine v_callS (d := d) (bc := 0) (bs := 0) (bc' := 0) (bs' := 0) (As := [vr (c + 1), vi (-1)]) (st := []) dX0_init_38 ml_X0_25 mo_J7_fill_53178 ms_J7_fill_53178 rfl rfl (Nat.le_of_ble_eq_true rfl) (Nat.le_of_ble_eq_true rfl) (by omega) (by show 4 + 19 + 64 * d ≤ 64 * (d + 1); omega) (Q := fun r K' M' => r = none ∧ K' = c + 4 ∧ Lo c M M' ∧ CtF M' c) ?_ (fun r M' hr => ?_)
  · refine k_fill (c + 1) (kn0_1 h0) (by omega) (fun M' f1 f2 f3 => ⟨rfl, rfl, ?_, ?_⟩)
    · refine Lo.tr ((((((((Lo.rf c M).n (by omega)).z (by omega)).r (by omega)).z (by omega)).r (by omega)).z (by omega)).r (by omega)) (fun j hj => ⟨f1 j (by omega), by rw [f2]⟩)
    · refine ⟨?_, ?_, ?_, ?_, fun q hq => ⟨f3 q hq, ?_, ?_⟩⟩
      · rw [f1 c (by omega)]; simp [upm, zM] <;> omega
      · rw [f2]; simp [upr, zM] <;> omega
      · rw [f2]; simp [upr, zM] <;> omega
      · rw [f2]; simp [upr, zM] <;> omega
      · rw [f1 _ (by omega)]; simp [upm, zM] <;> omega
      · rw [f1 _ (by omega)]; simp [upm, zM] <;> omega
  · obtain ⟨rfl, hK, hlo, hct⟩ := hr
    exact v_return dX0_init_41 rfl (hq M' hlo hct)
end Make1
