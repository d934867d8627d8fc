/-! ===== ends, calls ===== -/
theorem tbl_in : GoodIn gtb gtb := fun w hw => ⟨hw, good_of_word (List.mem_filter.mp hw).2⟩
def QC (G : GG) (mc : Nat) (Q : Option PV → Nat → Mem → Prop) : Array Value → State → Outcome → State → Prop := fun _ st oc t => (∃ (r : Option PV) (K : Nat) (M : Mem), oc = .returned (r.map (tv G)) ∧ Q r K M ∧ Rep G K M t.heap ∧ t.heap.size = gB G + K ∧ t.heap.size = st.heap.size + mc) ∧ va_F (gO G) st t
def ZQ (G : GG) (Q : Option PV → Nat → Mem → Prop) : ZZ := fun below args s mc ms => MQ below (QC G mc Q) args s mc ms (gO G)
def wsM (mi : MI) : List Cond := Cond.code mi.1 mi.2.1 mi.2.2.1 mi.2.2.2 :: gtb
def PcV (G : GG) (K : Nat) (M : Mem) (As : List PV) : Array Value → State → Prop := va_Pc (As.map (tv G)) (fun U => Rep G K M U.heap ∧ va_K (gD G) vwCl (gT G) U ∧ SX G U ∧ U.heap.size = gB G + K)
def entA : List PV → List (Option PV)
  | [] => []
  | Sum.inr (Sum.inl z) :: l => some (Sum.inr (Sum.inl z)) :: none :: entA l
  | Sum.inl z :: l => some (Sum.inl z) :: entA l
  | Sum.inr (Sum.inr r) :: l => some (Sum.inr (Sum.inr r)) :: entA l
def entL (As : List PV) (n : Nat) : List (Option PV) := entA As ++ List.replicate (n - (entA As).length) none
def pcat (v : PV) : Nat := match v with
  | .inr (.inl _) => 2
  | _ => 1
theorem tv_pcat (G : GG) (v : PV) : (tv G v).category = pcat v := by
  match v with
  | .inl z => rfl
  | .inr (.inl z) => rfl
  | .inr (.inr none) => rfl
  | .inr (.inr (some c)) => rfl
theorem entA_at {G : GG} : ∀ (As : List PV) (i k : Nat) (v : PV), (entA As)[k]? = some (some v) → (i + k, tv G v) ∈ lv_args i (As.map (tv G))
  | [], i, k, v, h => by simp [entA] at h
  | Sum.inr (Sum.inl z) :: l, i, k, v, h => by
    rw [List.map_cons, lv_args]
    rw [if_pos (show (tv G (Sum.inr (Sum.inl z))).category = 2 from rfl)]
    rw [entA] at h
    match k, h with
    | 0, h =>
      have e : Sum.inr (Sum.inl z) = v := by simpa using h
      subst e
      exact List.mem_cons_self
    | 1, h => simp at h
    | k + 2, h =>
      have := entA_at (G := G) l (i + 2) k v (by simpa using h)
      rw [show i + 2 + k = i + (k + 2) by omega] at this
      exact List.mem_cons_of_mem _ this
  | Sum.inl z :: l, i, k, v, h => by
    rw [List.map_cons, lv_args]
    rw [if_neg (show ¬ (tv G (Sum.inl z)).category = 2 by rw [tv_pcat]; show ¬ 1 = 2; omega)]
    rw [entA] at h
    match k, h with
    | 0, h =>
      have e : Sum.inl z = v := by simpa using h
      subst e
      exact List.mem_cons_self
    | k + 1, h =>
      have := entA_at (G := G) l (i + 1) k v (by simpa using h)
      rw [show i + 1 + k = i + (k + 1) by omega] at this
      exact List.mem_cons_of_mem _ this
  | Sum.inr (Sum.inr r) :: l, i, k, v, h => by
    rw [List.map_cons, lv_args]
    have hc : ¬ (tv G (Sum.inr (Sum.inr r))).category = 2 := by
      rw [tv_pcat]
      show ¬ 1 = 2
      omega
    rw [if_neg hc]
    rw [entA] at h
    match k, h with
    | 0, h =>
      have e : Sum.inr (Sum.inr r) = v := by simpa using h
      subst e
      exact List.mem_cons_self
    | k + 1, h =>
      have := entA_at (G := G) l (i + 1) k v (by simpa using h)
      rw [show i + 1 + k = i + (k + 1) by omega] at this
      exact List.mem_cons_of_mem _ this
theorem entL_LV {G : GG} {As : List PV} {n : Nat} {ls : Array Slot} (h : lv_has ls n (lv_args 0 (As.map (tv G)))) : LV G ls n (entL As n) := by
  refine ge_sub h fun k v hk => ?_
  unfold entL at hk
  by_cases hl : k < (entA As).length
  · rw [List.getElem?_append_left hl] at hk
    have := entA_at (G := G) As 0 k v hk
    rwa [Nat.zero_add] at this
  · rw [List.getElem?_append_right (by omega)] at hk
    have := List.mem_of_getElem? hk
    rw [List.mem_replicate] at this
    cases this.2
theorem SX.go {G : GG} {s U : State} {H : Heap} {locs : List Loc} (h : SX G s) (hS : va_S (gO G) s.heap H locs) (hH : U.heap = H) (hW : s.WarmedH U.vm) (hB : gB G ≤ s.heap.size) : SX G U := by
  obtain ⟨a1, a2, a3, a4, a5, a6⟩ := h
  have hk : ∀ a : Nat, a < s.heap.size → ¬ gO G a → U.heap[a]? = s.heap[a]? := by rw [hH]; exact hS.2.1
  exact ⟨⟨va_Z.kept (va_Z.moved hW.alike a1.1) hk, a1.2.imp (fun q => va_Z.kept (va_Z.moved hW.alike q) hk) (fun q => va_Z.kept (va_Z.moved hW.alike q) hk)⟩, vk_R.warm hW a2, vk_S.kept (vk_S.moved hW.alike a3) hk, va_X.kept (va_X.moved hW.alike a4) (hk _ (by omega) (by show ¬ gB G ≤ gC G; omega)), a5, fun q hq => va_Nw.warmM hW (a6.1 q hq), va_AO.moved hW.alike a6.2.1, va_AO.moved hW.alike a6.2.2⟩
theorem SX.calling {G : GG} {U : State} {g : JFrame} {mk : MethodId} {a : Array Value} (h : SX G U) : SX G (U.calling g mk a) := by
  obtain ⟨a1, a2, a3, a4, a5, a6⟩ := h
  exact ⟨⟨va_Z.moved (u := U) (U := U.calling g mk a) (Vm.Alike.refl U.vm) a1.1, a1.2.imp (fun q => va_Z.moved (u := U) (U := U.calling g mk a) (Vm.Alike.refl U.vm) q) (fun q => va_Z.moved (u := U) (U := U.calling g mk a) (Vm.Alike.refl U.vm) q)⟩, vk_R.same (u := U) (U := U.calling g mk a) rfl a2, vk_S.moved (u := U) (U := U.calling g mk a) (Vm.Alike.refl U.vm) a3, va_X.moved (u := U) (U := U.calling g mk a) (Vm.Alike.refl U.vm) a4, a5, fun q hq => va_Nw.same rfl (u := U) (U := U.calling g mk a) rfl (a6.1 q hq), va_AO.moved (u := U) (U := U.calling g mk a) (Vm.Alike.refl U.vm) a6.2.1, va_AO.moved (u := U) (U := U.calling g mk a) (Vm.Alike.refl U.vm) a6.2.2⟩
theorem PcV.blind {G : GG} {K : Nat} {M : Mem} {As : List PV} : FrameBlind (PcV G K M As) := fun a U g mk q => by
  obtain ⟨q0, q1, q2, q3, q4⟩ := q
  exact ⟨q0, q1, va_K.moved (u := U) (U := U.calling g mk a) (Vm.Alike.refl U.vm) q2, q3.calling, q4⟩
theorem met_of {G : GG} {d bc bs : Nat} {mi : MI} {As : List PV} {K : Nat} {M : Mem} {Q : Option PV → Nat → Mem → Prop} (hy : plainName mi.1.cls = true) (hlen : (lg_sl (As.map (tv G))).length ≤ mi.2.2.1)
    (h : V G d (64 * d) bc bs mi 0 (entL As mi.2.2.1) [] K M (ZQ G Q)) : Met (gL G) mi.1 (wsM mi) { frames := d, cells := bc, slots := bs, locals := 64 * d } (PcV G K M As) (QC G bc Q) bc bs (gO G) := by
  refine Met.ofW (cc := mi.2.1) (maxL := mi.2.2.1) (ret := mi.2.2.2) hy rfl ?_
  intro p e s m args below meth c s₁ B hml hv
  obtain ⟨rfl, hR, hK, hX, hz⟩ := hv
  have hts := atoms_spec (ws := wsM mi) B.pre
  have hown : s.vm.findClass mi.1.cls = some m.cls := findClass_of_methodNamed B.named
  have hl := lv_entry (As.map (tv G)) (n := mi.2.2.1) hlen
  rw [lg_entry_eq]
  exact h p e s m _ below meth c bc bs s.heap [] _ 0 0 ⟨B.exec, B.bytes, B.returns, hml, hown, fun w hw => hts w (List.mem_cons_of_mem _ hw), B.notSynchronized, fun hn => (name_of_methodNamed B.named B.method).1.trans hn, hK, hX, by omega⟩ hR va_S.rf (entL_LV hl) (by omega) (by omega) (by omega)
def metOK (mi : MI) (n : Nat) : Prop := Cond.code mi.1 mi.2.1 mi.2.2.1 mi.2.2.2 ∈ gtb ∧ Cond.initialized mi.1.cls ∈ gtb ∧ plainName mi.1.cls = true ∧ (mi.1.cls ≠ "java/lang/invoke/MethodHandle" ∧ mi.1.cls ≠ "java/lang/invoke/VarHandle" ∧ (parseMethodDescriptor mi.1.desc).map (fun d => d.parameters.length) = some n)
theorem wsM_in {mi : MI} {n : Nat} (h : metOK mi n) : GoodIn gtb (wsM mi) := fun w hw => by
  rcases List.mem_cons.mp hw with e | e
  · subst e; exact tbl_in _ h.1
  · exact tbl_in _ e
section GeCalls
variable {G : GG} {fr lo bc bs : Nat} {mi : MI} {pc : Nat} {lv : List (Option PV)} {st : List PV} {K : Nat} {M : Mem} {Z : ZZ}
theorem v_run {bc' bs' : Nat} {st0 : List PV} {a : Array Value} {Q : Option PV → Nat → Mem → Prop}
    (hr : ∀ (p : Program) (e : Env) (s : State) (m : MethodId) (args : Array Value) (below : List Frame) (meth : Method) (c : Code) (mc ms : Nat) (H : Heap) (locs : List Loc) (ls : Array Slot) (cells slots : Nat),
      Ctx G mi p s m args meth c → Rep G K M H → va_S (gO G) s.heap H locs → LV G ls mi.2.2.1 lv → H.size = gB G + K → cells + bc' ≤ mc → slots + bs' ≤ ms →
      va_Run p (gL G) e { frames := fr, cells := mc, slots := ms, locals := lo } s m args below meth c H locs cells slots bc' bs' (F0 m pc ls (st0.map (tv G))) (st.map (tv G)) (QC G bc' Q a) (gO G))
    (kk : ∀ (r : Option PV) (M' : Mem), Q r (K + bc') M' → V G fr lo bc bs mi (pc + 3) lv (r.toList ++ st) (K + bc') M' Z) : V G fr lo (bc' + bc) (bs' + bs) mi pc lv st0 K M Z := by
  intro p e s m args below meth c mc ms H locs ls cells slots C hR hS hL hE h1 h2
  intro T hT X
  have hz : H.size ≤ s.heap.size + cells := by rw [← hT]; exact X.heapSize
  have hz2 : gB G + K ≤ H.size := hR.ge (Nat.le_trans C.2.2.2.2.2.2.2.2.2.2 hS.1)
  obtain ⟨v, st₀, t, T', L, h0, X', hL', e1, e2, ⟨⟨r, K', M', hv, hq, hR', hs', hs2⟩, hF1, hF2⟩, stp⟩ := hr p e s m args below meth c mc ms H locs ls cells slots C hR hS hL (by omega) (by omega) (by omega) T hT X
  have hv' : v = r.map (tv G) := by cases hv; rfl
  subst hv'
  rw [h0] at hF1 hF2 hs2
  have eK : K' = K + bc' := by omega
  subst eK
  obtain ⟨t2, a1, b1⟩ := kk r M' hq p e s m args below meth c mc ms T'.heap (locs ++ L) ls (cells + bc') (slots + bs') C (by rw [e1]; exact hR')
    ⟨Nat.le_trans hS.1 (by rw [e1]; exact hF1), fun q g1 g2 => by rw [e1, hF2 q (Nat.lt_of_lt_of_le g1 hS.1) g2]; exact hS.2.1 q g1 g2, fun q hq => by
      rcases List.mem_append.mp hq with g | g
      · exact hS.2.2 q g
      · exact hL' q g⟩ hL (by omega) (by omega) (by omega) T' rfl X'
  refine ⟨t2, stp t2 ?_, b1⟩
  have ee : (r.toList ++ st).map (tv G) = (r.map (tv G)).toList ++ st.map (tv G) := by cases r <;> rfl
  rw [ee] at a1
  exact a1
theorem Rep.recv {o ci : Nat} {r : vw_C} {s : State} {H : Heap} (hK : va_K (gD G) vwCl (gT G) s) (hR : Rep G K M H) (hs : SH o = .inr ci) (ho : o < K) (hr : vwCl[ci]? = some r) : ∃ cell : Cell, H[rf G o]? = some cell ∧ cell.vm.isStatics = false ∧ s.vm.findClass r.1 = some cell.cls := by
  rw [rf_cell ho hR.1]
  exact va_recv hK hR.2 hr (cell_o hs ho)
theorem lsum {l : List PV} (h : (l.map pcat).sum ≤ 8) : ((l.map (tv G)).map fun v => v.category).sum ≤ 8 := by
  rw [List.map_map]
  have e : ((fun v : Value => v.category) ∘ tv G) = pcat := funext fun v => tv_pcat G v
  rw [e]
  exact h
/-- a static method -/
theorem v_callS {i d bc' bs' : Nat} {mi' : MI} {As st0 : List PV} {lv' : List (Option PV)} {Q : Option PV → Nat → Mem → Prop} (hd : decode mi.2.1 pc = .ok (.invokestatic i, 3)) (hl : Cond.methodLink mi.1.cls i mi'.1 ∈ gtb) (hM : metOK mi' As.length) (hst : Cond.static mi'.1 ∈ gtb)
    (e0 : st0 = As.reverse ++ st) (hlv : entL As mi'.2.2.1 = lv') (hlen : (lg_sl (As.map (tv G))).length ≤ mi'.2.2.1) (hw : (st.map pcat).sum ≤ 8) (hfr : d + 1 ≤ fr) (hlo : mi'.2.2.1 + 19 + 64 * d ≤ lo)
    (hc : V G d (64 * d) bc' bs' mi' 0 lv' [] K M (ZQ G Q)) (kk : ∀ (r : Option PV) (M' : Mem), Q r (K + bc') M' → V G fr lo bc bs mi (pc + 3) lv (r.toList ++ st) (K + bc') M' Z) : V G fr lo (bc' + bc) (bs' + bs) mi pc lv st0 K M Z := by
  subst hlv
  refine v_run (a := (As.map (tv G)).toArray) (Q := Q) (fun p e s m args below meth c mc ms H locs ls cells slots C hR hS hL hz h1 h2 => ?_) kk
  have hts := C.2.2.2.2.2.1
  exact va_runS (As := As.map (tv G)) (n := As.length) ⟨C.1, C.2.1, C.2.2.2.1, C.2.2.2.2.1, hts⟩ (met_of hM.2.2.1 hlen hc) ⟨callB_of As.length hts (wsM_in hM) rfl rfl rfl (hts _ hM.2.1) (hts _ hl) hM.2.2.2 ⟨hfr, by show 8 + (mi'.2.2.1 + 11) + 64 * d ≤ lo; omega⟩, hts _ hst⟩
    ⟨PcV.blind, fun U hU hW => ⟨rfl, by rw [hU]; exact hR, va_K.moved hW.alike C.2.2.2.2.2.2.2.2.1, C.2.2.2.2.2.2.2.2.2.1.go hS hU hW C.2.2.2.2.2.2.2.2.2.2, by rw [hU]; exact hz⟩⟩ rfl (List.length_map _) hL.1 (by show st0.map (tv G) = _; rw [e0, List.map_append, List.map_reverse]) (lv_room (lsum hw)) hd ⟨h1, h2⟩
/-- an instance method of one of our objects -/
theorem v_callV {i d bc' bs' o ci : Nat} {rc : vw_C} {mi' : MI} {As st0 : List PV} {lv' : List (Option PV)} {Q : Option PV → Nat → Mem → Prop} (hd : decode mi.2.1 pc = .ok (.invokevirtual i, 3)) (hl : Cond.methodLink mi.1.cls i mi'.1 ∈ gtb) (hM : metOK mi' As.length) (hst : Cond.instanceMethod mi'.1 ∈ gtb ∧ Cond.selects mi'.1.cls mi'.1 mi'.1 ∈ gtb)
    (hs : SH o = .inr ci) (ho : o < K) (hrc : vwCl[ci]? = some rc) (hrn : rc.1 = mi'.1.cls)
    (e0 : st0 = As.reverse ++ vr o :: st) (hlv : entL (vr o :: As) mi'.2.2.1 = lv') (hlen : (lg_sl ((vr o :: As).map (tv G))).length ≤ mi'.2.2.1) (hw : (st.map pcat).sum ≤ 8) (hfr : d + 1 ≤ fr) (hlo : mi'.2.2.1 + 19 + 64 * d ≤ lo)
    (hc : V G d (64 * d) bc' bs' mi' 0 lv' [] K M (ZQ G Q)) (kk : ∀ (r : Option PV) (M' : Mem), Q r (K + bc') M' → V G fr lo bc bs mi (pc + 3) lv (r.toList ++ st) (K + bc') M' Z) : V G fr lo (bc' + bc) (bs' + bs) mi pc lv st0 K M Z := by
  subst hlv
  refine v_run (a := (Value.ref (rf G o) :: As.map (tv G)).toArray) (Q := Q) (fun p e s m args below meth c mc ms H locs ls cells slots C hR hS hL hz h1 h2 => ?_) kk
  have hts := C.2.2.2.2.2.1
  exact va_runV (C := mi'.1.cls) (As := As.map (tv G)) (n := As.length) ⟨C.1, C.2.1, C.2.2.2.1, C.2.2.2.2.1, hts⟩ (met_of hM.2.2.1 hlen hc) ⟨callB_of As.length hts (wsM_in hM) rfl rfl rfl (hts _ hM.2.1) (hts _ hl) hM.2.2.2 ⟨hfr, by show 8 + (mi'.2.2.1 + 11) + 64 * d ≤ lo; omega⟩, hts _ hst.1, hts _ hst.2⟩
    ⟨PcV.blind, by rw [← hrn]; exact Rep.recv C.2.2.2.2.2.2.2.2.1 hR hs ho hrc, fun U hU hW => ⟨rfl, by rw [hU]; exact hR, va_K.moved hW.alike C.2.2.2.2.2.2.2.2.1, C.2.2.2.2.2.2.2.2.2.1.go hS hU hW C.2.2.2.2.2.2.2.2.2.2, by rw [hU]; exact hz⟩⟩ rfl (List.length_map _) hL.1 (by show st0.map (tv G) = _; rw [e0, List.map_append, List.map_reverse]; rfl) (lv_room (lsum hw)) hd ⟨h1, h2⟩
/-- an instance method of the text -/
theorem v_callT {i d bc' bs' : Nat} {mi' : MI} {As st0 : List PV} {lv' : List (Option PV)} {Q : Option PV → Nat → Mem → Prop} (hd : decode mi.2.1 pc = .ok (.invokevirtual i, 3)) (hl : Cond.methodLink mi.1.cls i mi'.1 ∈ gtb) (hM : metOK mi' As.length) (hst : Cond.instanceMethod mi'.1 ∈ gtb ∧ Cond.selects mi'.1.cls mi'.1 mi'.1 ∈ gtb)
    (hrn : mi'.1.cls = "java/lang/String")
    (e0 : st0 = As.reverse ++ vr 999999 :: st) (hlv : entL (vr 999999 :: As) mi'.2.2.1 = lv') (hlen : (lg_sl ((vr 999999 :: As).map (tv G))).length ≤ mi'.2.2.1) (hw : (st.map pcat).sum ≤ 8) (hfr : d + 1 ≤ fr) (hlo : mi'.2.2.1 + 19 + 64 * d ≤ lo)
    (hc : V G d (64 * d) bc' bs' mi' 0 lv' [] K M (ZQ G Q)) (kk : ∀ (r : Option PV) (M' : Mem), Q r (K + bc') M' → V G fr lo bc bs mi (pc + 3) lv (r.toList ++ st) (K + bc') M' Z) : V G fr lo (bc' + bc) (bs' + bs) mi pc lv st0 K M Z := by
  subst hlv
  refine v_run (a := (Value.ref (gS G) :: As.map (tv G)).toArray) (Q := Q) (fun p e s m args below meth c mc ms H locs ls cells slots C hR hS hL hz h1 h2 => ?_) kk
  have hts := C.2.2.2.2.2.1
  exact va_runV (C := mi'.1.cls) (As := As.map (tv G)) (n := As.length) ⟨C.1, C.2.1, C.2.2.2.1, C.2.2.2.2.1, hts⟩ (met_of hM.2.2.1 hlen hc) ⟨callB_of As.length hts (wsM_in hM) rfl rfl rfl (hts _ hM.2.1) (hts _ hl) hM.2.2.2 ⟨hfr, by show 8 + (mi'.2.2.1 + 11) + 64 * d ≤ lo; omega⟩, hts _ hst.1, hts _ hst.2⟩
    ⟨PcV.blind, by rw [hrn]; exact vk_recv (adK := fun _ => gS G) (i := 0) C.2.2.2.2.2.2.2.2.2.1.2.2.1 (by omega) hS, fun U hU hW => ⟨rfl, by rw [hU]; exact hR, va_K.moved hW.alike C.2.2.2.2.2.2.2.2.1, C.2.2.2.2.2.2.2.2.2.1.go hS hU hW C.2.2.2.2.2.2.2.2.2.2, by rw [hU]; exact hz⟩⟩ rfl (List.length_map _) hL.1 (by show st0.map (tv G) = _; rw [e0, List.map_append, List.map_reverse]; rfl) (lv_room (lsum hw)) hd ⟨h1, h2⟩
/-- a constructor -/
theorem v_callI {i d bc' bs' o : Nat} {mi' : MI} {As st0 : List PV} {lv' : List (Option PV)} {Q : Option PV → Nat → Mem → Prop} (hd : decode mi.2.1 pc = .ok (.invokespecial i, 3)) (hl : Cond.methodLink mi.1.cls i mi'.1 ∈ gtb) (hM : metOK mi' As.length) (hst : Cond.instanceMethod mi'.1 ∈ gtb) (hnm : mi'.1.name = "<init>") (hrt : mi'.2.2.2 = none)
    (e0 : st0 = As.reverse ++ vr o :: st) (hlv : entL (vr o :: As) mi'.2.2.1 = lv') (hlen : (lg_sl ((vr o :: As).map (tv G))).length ≤ mi'.2.2.1) (hw : (st.map pcat).sum ≤ 8) (hfr : d + 1 ≤ fr) (hlo : mi'.2.2.1 + 19 + 64 * d ≤ lo)
    (hc : V G d (64 * d) bc' bs' mi' 0 lv' [] K M (ZQ G Q)) (kk : ∀ (r : Option PV) (M' : Mem), Q r (K + bc') M' → V G fr lo bc bs mi (pc + 3) lv (r.toList ++ st) (K + bc') M' Z) : V G fr lo (bc' + bc) (bs' + bs) mi pc lv st0 K M Z := by
  subst hlv
  refine v_run (a := (Value.ref (rf G o) :: As.map (tv G)).toArray) (Q := Q) (fun p e s m args below meth c mc ms H locs ls cells slots C hR hS hL hz h1 h2 => ?_) kk
  have hts := C.2.2.2.2.2.1
  have hcb := callB_of (R := { frames := fr, cells := mc, slots := ms, locals := lo }) (rm := { frames := d, cells := bc', slots := bs', locals := 64 * d }) As.length hts (wsM_in hM) rfl rfl rfl (hts _ hM.2.1) (hts _ hl) hM.2.2.2 ⟨hfr, by show 8 + (mi'.2.2.1 + 11) + 64 * d ≤ lo; omega⟩
  rw [hrt] at hcb
  exact va_runI (As := As.map (tv G)) (n := As.length) ⟨C.1, C.2.1, C.2.2.2.1, C.2.2.2.2.1, hts⟩ (met_of hM.2.2.1 hlen hc) ⟨hcb, hnm, hts _ hst⟩
    ⟨PcV.blind, fun U hU hW => ⟨rfl, by rw [hU]; exact hR, va_K.moved hW.alike C.2.2.2.2.2.2.2.2.1, C.2.2.2.2.2.2.2.2.2.1.go hS hU hW C.2.2.2.2.2.2.2.2.2.2, by rw [hU]; exact hz⟩⟩ rfl (List.length_map _) hL.1 (by show st0.map (tv G) = _; rw [e0, List.map_append, List.map_reverse]; rfl) (lv_room (lsum hw)) hd ⟨h1, h2⟩
/-- a nest mate's private constructor -/
theorem v_callIN {i d bc' bs' o : Nat} {host : String} {mi' : MI} {As st0 : List PV} {lv' : List (Option PV)} {Q : Option PV → Nat → Mem → Prop} (hd : decode mi.2.1 pc = .ok (.invokespecial i, 3)) (hl : (mi.1.cls, i, mi'.1, host) ∈ nestL) (hM : metOK mi' As.length) (hst : Cond.instanceMethod mi'.1 ∈ gtb) (hnm : mi'.1.name = "<init>") (hrt : mi'.2.2.2 = none)
    (e0 : st0 = As.reverse ++ vr o :: st) (hlv : entL (vr o :: As) mi'.2.2.1 = lv') (hlen : (lg_sl ((vr o :: As).map (tv G))).length ≤ mi'.2.2.1) (hw : (st.map pcat).sum ≤ 8) (hfr : d + 1 ≤ fr) (hlo : mi'.2.2.1 + 19 + 64 * d ≤ lo)
    (hc : V G d (64 * d) bc' bs' mi' 0 lv' [] K M (ZQ G Q)) (kk : ∀ (r : Option PV) (M' : Mem), Q r (K + bc') M' → V G fr lo bc bs mi (pc + 3) lv (r.toList ++ st) (K + bc') M' Z) : V G fr lo (bc' + bc) (bs' + bs) mi pc lv st0 K M Z := by
  subst hlv
  refine v_run (a := (Value.ref (rf G o) :: As.map (tv G)).toArray) (Q := Q) (fun p e s m args below meth c mc ms H locs ls cells slots C hR hS hL hz h1 h2 => ?_) kk
  have hts := C.2.2.2.2.2.1
  have hcw : Cond.code mi'.1 mi'.2.1 mi'.2.2.1 mi'.2.2.2 ∈ wsM mi' := List.mem_cons_self
  have hcb : va_CN { frames := fr, cells := mc, slots := ms, locals := lo } s args mi.1.cls i mi'.1 host mi'.2.1 mi'.2.2.1 mi'.2.2.2 (wsM mi') { frames := d, cells := bc', slots := bs', locals := 64 * d } bc' bs' As.length := ⟨⟨rfl, rfl, hfr, by show 8 + (mi'.2.2.1 + 11) + 64 * d ≤ lo; omega, pay_in hts (wsM_in hM), hcw⟩, hts _ hM.1, hts _ hM.2.1, ⟨hM.2.2.2.1, hM.2.2.2.2.1⟩, fun sig h => by
    have h2 := hM.2.2.2.2.2
    rw [h] at h2
    exact (Option.some.inj h2).symm, va_Nw.use rfl (C.2.2.2.2.2.2.2.2.2.1.2.2.2.2.2.1 _ hl)⟩
  rw [hrt] at hcb
  exact va_runIN (As := As.map (tv G)) (n := As.length) ⟨C.1, C.2.1, C.2.2.2.1, C.2.2.2.2.1, hts⟩ (met_of hM.2.2.1 hlen hc) ⟨hcb, hnm, hts _ hst⟩
    ⟨PcV.blind, fun U hU hW => ⟨rfl, by rw [hU]; exact hR, va_K.moved hW.alike C.2.2.2.2.2.2.2.2.1, C.2.2.2.2.2.2.2.2.2.1.go hS hU hW C.2.2.2.2.2.2.2.2.2.2, by rw [hU]; exact hz⟩⟩ rfl (List.length_map _) hL.1 (by show st0.map (tv G) = _; rw [e0, List.map_append, List.map_reverse]; rfl) (lv_room (lsum hw)) hd ⟨h1, h2⟩
theorem v_objInit {i o : Nat} (hd : decode mi.2.1 pc = .ok (.invokespecial i, 3)) (hl : Cond.methodLink mi.1.cls i Lib.objectInit ∈ gtb) (hw : Cond.instanceMethod Lib.objectInit ∈ gtb ∧ Cond.code Lib.objectInit ⟨#[0xb1]⟩ 1 none ∈ gtb) (hfr : 1 ≤ fr) (hs : (st.map pcat).sum ≤ 8) (hlo : 20 ≤ lo) (k : V G fr lo bc bs mi (pc + 3) lv st K M Z) : V G fr lo bc bs mi pc lv (vr o :: st) K M Z := by
  intro p e s m args below meth c mc ms H locs ls cells slots C hR hS hL hE h1 h2
  have hts := C.2.2.2.2.2.1
  refine W.objInit C.1 C.2.1 C.2.2.2.2.1 (hts _ hl) (hts _ hw.1) (hts _ hw.2) rfl (hL.1.trans C.2.2.2.1.symm) (a := rf G o) (rest := st.map (tv G)) rfl hd hfr ?_ (k p e s m args below meth c mc ms H locs ls cells slots C hR hS hL hE h1 h2)
  have h3 : 2 * (F0 m pc ls ((vr o :: st).map (tv G))).monitorRoom + ((st.map (tv G)).map fun v => v.category).sum ≤ 8 := lv_room (lsum hs)
  show _ + 12 ≤ lo
  omega
/-! ends -/
theorem v_ireturn {z : Int} {Q : Option PV → Nat → Mem → Prop} (hd : decode mi.2.1 pc = .ok (.ireturn, 1)) (hr : mi.2.2.2 = some .int) (hq : Q (some (vi z)) K M) : V G fr lo 0 bs mi pc lv [vi z] K M (ZQ G Q) := by
  intro p e s m args below meth c mc ms H locs ls cells slots C hR hS hL hE h1 h2
  have e1 : cells = mc := by omega
  subst e1
  refine W.sized fun hz => ?_
  have hz2 : gB G + K ≤ H.size := hR.ge (Nat.le_trans C.2.2.2.2.2.2.2.2.2.2 hS.1)
  refine W.widen (k := cells) (n := ms) (Nat.le_refl _) (by omega) ?_
  exact W.iret (v := i32 z) C.1 C.2.1 (C.2.2.1.trans hr) (fun t ht hW => ⟨⟨some (vi z), K, M, rfl, hq, by rw [ht]; exact hR, by rw [ht]; omega, by rw [ht]; omega⟩, hS.F ht⟩) hS.2.2 hd C.2.2.2.2.2.2.1
theorem v_zreturn {z : Int} {ty : FieldType} {Q : Option PV → Nat → Mem → Prop} (hd : decode mi.2.1 pc = .ok (.ireturn, 1)) (hr : mi.2.2.2 = some ty) (hn : narrow ty (.int (i32 z)) = .int (i32 z)) (hq : Q (some (vi z)) K M) : V G fr lo 0 bs mi pc lv [vi z] K M (ZQ G Q) := by
  intro p e s m args below meth c mc ms H locs ls cells slots C hR hS hL hE h1 h2
  have e1 : cells = mc := by omega
  subst e1
  refine W.sized fun hz => ?_
  have hz2 : gB G + K ≤ H.size := hR.ge (Nat.le_trans C.2.2.2.2.2.2.2.2.2.2 hS.1)
  refine W.widen (k := cells) (n := ms) (Nat.le_refl _) (by omega) ?_
  exact W.zret (v := i32 z) C.1 C.2.1 (C.2.2.1.trans hr) hn (fun t ht hW => ⟨⟨some (vi z), K, M, rfl, hq, by rw [ht]; exact hR, by rw [ht]; omega, by rw [ht]; omega⟩, hS.F ht⟩) hS.2.2 hd C.2.2.2.2.2.2.1
theorem v_lreturn {z : Int} {Q : Option PV → Nat → Mem → Prop} (hd : decode mi.2.1 pc = .ok (.lreturn, 1)) (hr : mi.2.2.2 = some .long) (hq : Q (some (vl z)) K M) : V G fr lo 0 bs mi pc lv [vl z] K M (ZQ G Q) := by
  intro p e s m args below meth c mc ms H locs ls cells slots C hR hS hL hE h1 h2
  have e1 : cells = mc := by omega
  subst e1
  refine W.sized fun hz => ?_
  have hz2 : gB G + K ≤ H.size := hR.ge (Nat.le_trans C.2.2.2.2.2.2.2.2.2.2 hS.1)
  refine W.widen (k := cells) (n := ms) (Nat.le_refl _) (by omega) ?_
  exact W.lret (v := i64 z) C.1 C.2.1 (C.2.2.1.trans hr) (fun t ht hW => ⟨⟨some (vl z), K, M, rfl, hq, by rw [ht]; exact hR, by rw [ht]; omega, by rw [ht]; omega⟩, hS.F ht⟩) hS.2.2 hd C.2.2.2.2.2.2.1
theorem v_return {Q : Option PV → Nat → Mem → Prop} (hd : decode mi.2.1 pc = .ok (.return_, 1)) (hr : mi.2.2.2 = none) (hq : Q none K M) : V G fr lo 0 bs mi pc lv [] K M (ZQ G Q) := by
  intro p e s m args below meth c mc ms H locs ls cells slots C hR hS hL hE h1 h2
  have e1 : cells = mc := by omega
  subst e1
  refine W.sized fun hz => ?_
  have hz2 : gB G + K ≤ H.size := hR.ge (Nat.le_trans C.2.2.2.2.2.2.2.2.2.2 hS.1)
  refine W.widen (k := cells) (n := ms) (Nat.le_refl _) (by omega) ?_
  exact W.vret C.1 C.2.1 (C.2.2.1.trans hr) (fun t ht hW => ⟨⟨none, K, M, rfl, hq, by rw [ht]; exact hR, by rw [ht]; omega, by rw [ht]; omega⟩, hS.F ht⟩) hS.2.2 hd C.2.2.2.2.2.2.1
end GeCalls
