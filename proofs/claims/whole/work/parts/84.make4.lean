/-! ===== makings: rules with names for what was made ===== -/
def NewAt (M M' : Mem) (K o k : Nat) : Prop := (∀ j, j ≠ K → j ≠ o → M'.1 j = M.1 j ∧ M'.2 j = M.2 j) ∧ M'.1 o = M.1 o ∧ (∀ b, b ≠ k → M'.2 o b = M.2 o b) ∧ M'.2 o k = some K ∧ ∀ b, M'.1 K b = 0
def RefAt (M M' : Mem) (o k t : Nat) : Prop := M'.1 = M.1 ∧ (∀ j, j ≠ o → M'.2 j = M.2 j) ∧ (∀ b, b ≠ k → M'.2 o b = M.2 o b) ∧ M'.2 o k = some t
def PutAt (M M' : Mem) (o k : Nat) (z : Int) : Prop := M'.2 = M.2 ∧ (∀ j, j ≠ o → M'.1 j = M.1 j) ∧ (∀ b, b ≠ k → M'.1 o b = M.1 o b) ∧ M'.1 o k = z
def Mid (a K : Nat) (M M' : Mem) : Prop := ∀ j, a ≤ j → j < K → M'.1 j = M.1 j ∧ M'.2 j = M.2 j
theorem Mid.tr {a K : Nat} {A B C : Mem} (h : Mid a K A B) (h2 : Mid a K B C) : Mid a K A C := fun j h1 h3 => ⟨(h2 j h1 h3).1.trans (h j h1 h3).1, (h2 j h1 h3).2.trans (h j h1 h3).2⟩
theorem Mid.le {a K K' : Nat} {A B : Mem} (h : Mid a K A B) (hK : K' ≤ K) : Mid a K' A B := fun j h1 h2 => h j h1 (by omega)
theorem NewAt.mid {M M' : Mem} {K o k a : Nat} (h : NewAt M M' K o k) (ho : o < a) : Mid a K M M' := fun j h1 h2 => h.1 j (by omega) (by omega)
theorem RefAt.mid {M M' : Mem} {K o k t a : Nat} (h : RefAt M M' o k t) (ho : o < a) : Mid a K M M' := fun j h1 _ => ⟨by rw [h.1], h.2.1 j (by omega)⟩
theorem PutAt.mid {M M' : Mem} {K o k a : Nat} {z : Int} (h : PutAt M M' o k z) (ho : o < a) : Mid a K M M' := fun j h1 _ => ⟨h.2.1 j (by omega), by rw [h.1]⟩
theorem Lo.mid {M M' : Mem} {K a : Nat} (h : Lo K M M') : Mid a K M M' := fun j _ h2 => h j h2
theorem NewAt.lo {M M' : Mem} {K o k c : Nat} (h : NewAt M M' K o k) (ho : c ≤ o) (hK : c ≤ K) : Lo c M M' := fun j hj => h.1 j (by omega) (by omega)
theorem PutAt.lo {M M' : Mem} {o k c : Nat} {z : Int} (h : PutAt M M' o k z) (ho : c ≤ o) : Lo c M M' := fun j hj => ⟨h.2.1 j (by omega), by rw [h.1]⟩
section Make4
variable {G : GG} {fr lo bc bs : Nat} {mi : MI} {pc : Nat} {lv : List (Option PV)} {st : List PV} {K : Nat} {M : Mem} {Z : ZZ}
theorem v_naF0 {i ci k n o : Nat} {z : Int} (hd1 : decode mi.2.1 pc = .ok (.newarray .int, 2)) (hd2 : decode mi.2.1 (pc + 2) = .ok (.putfield i, 3)) (hs : SH K = .inl (.int, n)) (hz : z = (n : Int)) (hb : K + 1 ≤ 900000) (hn8 : n < 60000000) (hf : fldF mi.1.cls i ci k) (ho : SH o = .inr ci) (hoK : o < K) (hnm : mi.1.name = "<init>") (ht : isR (TYF ci k) = true) (kk : ∀ M', NewAt M M' K o k → V G fr lo bc bs mi (pc + 2 + 3) lv st (K + 1) M' Z) : V G fr lo (bc + 1) (bs + n) mi pc lv (vi z :: vr o :: st) K M Z := by
  refine v_newa0 (n := n) hd1 ac_int hs hz hb hn8 ?_
  refine v_putFr hd2 hf ho (by omega) hnm ht (kk _ ⟨fun j h1 h2 => ⟨by funext b; simp [zM, h1], by funext b; show upr _ o k (some K) j b = _; rw [upr_ne h2]; simp [zM, h1]⟩, by funext b; simp [zM, show o ≠ K by omega], fun b hb => ?_, ?_, fun b => by simp [zM]⟩)
  · show upr _ o k (some K) o b = _
    simp [upr, hb, zM, show o ≠ K by omega]
  · show upr _ o k (some K) o k = _
    simp [upr]
theorem v_naF1 {i ci k n o : Nat} {z : Int} (hd1 : decode mi.2.1 pc = .ok (.newarray .byte, 2)) (hd2 : decode mi.2.1 (pc + 2) = .ok (.putfield i, 3)) (hs : SH K = .inl (.byte, n)) (hz : z = (n : Int)) (hb : K + 1 ≤ 900000) (hn8 : n < 60000000) (hf : fldF mi.1.cls i ci k) (ho : SH o = .inr ci) (hoK : o < K) (hnm : mi.1.name = "<init>") (ht : isR (TYF ci k) = true) (kk : ∀ M', NewAt M M' K o k → V G fr lo bc bs mi (pc + 2 + 3) lv st (K + 1) M' Z) : V G fr lo (bc + 1) (bs + n) mi pc lv (vi z :: vr o :: st) K M Z := by
  refine v_newa1 (n := n) hd1 ac_byte hs hz hb hn8 ?_
  refine v_putFr hd2 hf ho (by omega) hnm ht (kk _ ⟨fun j h1 h2 => ⟨by funext b; simp [zM, h1], by funext b; show upr _ o k (some K) j b = _; rw [upr_ne h2]; simp [zM, h1]⟩, by funext b; simp [zM, show o ≠ K by omega], fun b hb => ?_, ?_, fun b => by simp [zM]⟩)
  · show upr _ o k (some K) o b = _
    simp [upr, hb, zM, show o ≠ K by omega]
  · show upr _ o k (some K) o k = _
    simp [upr]
theorem v_naF2 {i ci k n o : Nat} {z : Int} (hd1 : decode mi.2.1 pc = .ok (.newarray .long, 2)) (hd2 : decode mi.2.1 (pc + 2) = .ok (.putfield i, 3)) (hs : SH K = .inl (.long, n)) (hz : z = (n : Int)) (hb : K + 1 ≤ 900000) (hn8 : n < 60000000) (hf : fldF mi.1.cls i ci k) (ho : SH o = .inr ci) (hoK : o < K) (hnm : mi.1.name = "<init>") (ht : isR (TYF ci k) = true) (kk : ∀ M', NewAt M M' K o k → V G fr lo bc bs mi (pc + 2 + 3) lv st (K + 1) M' Z) : V G fr lo (bc + 1) (bs + n) mi pc lv (vi z :: vr o :: st) K M Z := by
  refine v_newa2 (n := n) hd1 ac_long hs hz hb hn8 ?_
  refine v_putFr hd2 hf ho (by omega) hnm ht (kk _ ⟨fun j h1 h2 => ⟨by funext b; simp [zM, h1], by funext b; show upr _ o k (some K) j b = _; rw [upr_ne h2]; simp [zM, h1]⟩, by funext b; simp [zM, show o ≠ K by omega], fun b hb => ?_, ?_, fun b => by simp [zM]⟩)
  · show upr _ o k (some K) o b = _
    simp [upr, hb, zM, show o ≠ K by omega]
  · show upr _ o k (some K) o k = _
    simp [upr]
theorem v_naF3 {i ci k n o : Nat} {z : Int} (hd1 : decode mi.2.1 pc = .ok (.newarray .boolean, 2)) (hd2 : decode mi.2.1 (pc + 2) = .ok (.putfield i, 3)) (hs : SH K = .inl (.boolean, n)) (hz : z = (n : Int)) (hb : K + 1 ≤ 900000) (hn8 : n < 60000000) (hf : fldF mi.1.cls i ci k) (ho : SH o = .inr ci) (hoK : o < K) (hnm : mi.1.name = "<init>") (ht : isR (TYF ci k) = true) (kk : ∀ M', NewAt M M' K o k → V G fr lo bc bs mi (pc + 2 + 3) lv st (K + 1) M' Z) : V G fr lo (bc + 1) (bs + n) mi pc lv (vi z :: vr o :: st) K M Z := by
  refine v_newa3 (n := n) hd1 ac_boolean hs hz hb hn8 ?_
  refine v_putFr hd2 hf ho (by omega) hnm ht (kk _ ⟨fun j h1 h2 => ⟨by funext b; simp [zM, h1], by funext b; show upr _ o k (some K) j b = _; rw [upr_ne h2]; simp [zM, h1]⟩, by funext b; simp [zM, show o ≠ K by omega], fun b hb => ?_, ?_, fun b => by simp [zM]⟩)
  · show upr _ o k (some K) o b = _
    simp [upr, hb, zM, show o ≠ K by omega]
  · show upr _ o k (some K) o k = _
    simp [upr]
theorem v_nqF4 {i1 i ci k n o : Nat} {z : Int} (hd1 : decode mi.2.1 pc = .ok (.anewarray i1, 3)) (hd2 : decode mi.2.1 (pc + 3) = .ok (.putfield i, 3)) (hlk : Cond.classLink mi.1.cls i1 "GlassEyes$Court" ∈ gtb) (hs : SH K = .inl (.object "GlassEyes$Court", n)) (hz : z = (n : Int)) (hb : K + 1 ≤ 900000) (hn8 : n < 60000000) (hf : fldF mi.1.cls i ci k) (ho : SH o = .inr ci) (hoK : o < K) (hnm : mi.1.name = "<init>") (ht : isR (TYF ci k) = true) (kk : ∀ M', NewAt M M' K o k → V G fr lo bc bs mi (pc + 3 + 3) lv st (K + 1) M' Z) : V G fr lo (bc + 1) (bs + n) mi pc lv (vi z :: vr o :: st) K M Z := by
  refine v_newq4 (n := n) hd1 hlk hs hz hb hn8 ?_
  refine v_putFr hd2 hf ho (by omega) hnm ht (kk _ ⟨fun j h1 h2 => ⟨by funext b; simp [zM, h1], by funext b; show upr _ o k (some K) j b = _; rw [upr_ne h2]; simp [zM, h1]⟩, by funext b; simp [zM, show o ≠ K by omega], fun b hb => ?_, ?_, fun b => by simp [zM]⟩)
  · show upr _ o k (some K) o b = _
    simp [upr, hb, zM, show o ≠ K by omega]
  · show upr _ o k (some K) o k = _
    simp [upr]
theorem v_nqF5 {i1 i ci k n o : Nat} {z : Int} (hd1 : decode mi.2.1 pc = .ok (.anewarray i1, 3)) (hd2 : decode mi.2.1 (pc + 3) = .ok (.putfield i, 3)) (hlk : Cond.classLink mi.1.cls i1 "GlassEyes$Script" ∈ gtb) (hs : SH K = .inl (.object "GlassEyes$Script", n)) (hz : z = (n : Int)) (hb : K + 1 ≤ 900000) (hn8 : n < 60000000) (hf : fldF mi.1.cls i ci k) (ho : SH o = .inr ci) (hoK : o < K) (hnm : mi.1.name = "<init>") (ht : isR (TYF ci k) = true) (kk : ∀ M', NewAt M M' K o k → V G fr lo bc bs mi (pc + 3 + 3) lv st (K + 1) M' Z) : V G fr lo (bc + 1) (bs + n) mi pc lv (vi z :: vr o :: st) K M Z := by
  refine v_newq5 (n := n) hd1 hlk hs hz hb hn8 ?_
  refine v_putFr hd2 hf ho (by omega) hnm ht (kk _ ⟨fun j h1 h2 => ⟨by funext b; simp [zM, h1], by funext b; show upr _ o k (some K) j b = _; rw [upr_ne h2]; simp [zM, h1]⟩, by funext b; simp [zM, show o ≠ K by omega], fun b hb => ?_, ?_, fun b => by simp [zM]⟩)
  · show upr _ o k (some K) o b = _
    simp [upr, hb, zM, show o ≠ K by omega]
  · show upr _ o k (some K) o k = _
    simp [upr]
theorem v_refF {i ci k o t : Nat} (hd : decode mi.2.1 pc = .ok (.putfield i, 3)) (hf : fldF mi.1.cls i ci k) (hs : SH o = .inr ci) (hc : o < K) (hnm : mi.1.name = "<init>") (ht : isR (TYF ci k) = true) (kk : ∀ M', RefAt M M' o k t → V G fr lo bc bs mi (pc + 3) lv st K M' Z) : V G fr lo bc bs mi pc lv (vr t :: vr o :: st) K M Z :=
  v_putFr hd hf hs hc hnm ht (kk _ ⟨rfl, fun j hj => by funext b; exact upr_ne hj b, fun b hb => by show upr _ o k (some t) o b = _; simp [upr, hb], by show upr _ o k (some t) o k = _; simp [upr]⟩)
theorem v_intW {i ci k o : Nat} {z : Int} (hd : decode mi.2.1 pc = .ok (.putfield i, 3)) (hf : fldW mi.1.cls i ci k) (hs : SH o = .inr ci) (hc : o < K) (ht : TYF ci k = .int) (kk : ∀ M', PutAt M M' o k z → V G fr lo bc bs mi (pc + 3) lv st K M' Z) : V G fr lo bc bs mi pc lv (vi z :: vr o :: st) K M Z :=
  v_puti hd hf hs hc ht (kk _ ⟨rfl, fun j hj => upm_c hj, fun b hb => upm_j _ _ hb, upm_at _ _ _ _⟩)
theorem v_intF {i ci k o : Nat} {z : Int} (hd : decode mi.2.1 pc = .ok (.putfield i, 3)) (hf : fldF mi.1.cls i ci k) (hs : SH o = .inr ci) (hc : o < K) (hnm : mi.1.name = "<init>") (ht : TYF ci k = .int) (kk : ∀ M', PutAt M M' o k z → V G fr lo bc bs mi (pc + 3) lv st K M' Z) : V G fr lo bc bs mi pc lv (vi z :: vr o :: st) K M Z :=
  v_putFi hd hf hs hc hnm ht (kk _ ⟨rfl, fun j hj => upm_c hj, fun b hb => upm_j _ _ hb, upm_at _ _ _ _⟩)
end Make4
