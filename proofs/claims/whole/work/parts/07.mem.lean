/-! ===== memory ===== -/
def upm (m : Nat → Nat → Int) (c k : Nat) (z : Int) : Nat → Nat → Int := fun a b => if a = c ∧ b = k then z else m a b
def upr (r : Nat → Nat → Option Nat) (c k : Nat) (z : Option Nat) : Nat → Nat → Option Nat := fun a b => if a = c ∧ b = k then z else r a b
def cpm (m : Nat → Nat → Int) (c0 sp c1 dp n : Nat) : Nat → Nat → Int := fun a b => if a = c1 ∧ dp ≤ b ∧ b < dp + n then m c0 (sp + (b - dp)) else m a b
def isI (ty : FieldType) : Bool := match ty with
  | .int => true
  | .boolean => true
  | .byte => true
  | .short => true
  | .char => true
  | _ => false
def isR (ty : FieldType) : Bool := match ty with
  | .object _ => true
  | .array _ => true
  | _ => false
def okT (ty : FieldType) : Bool := match ty with
  | .float => false
  | .double => false
  | _ => true
theorem fv_I {G : GG} {M : Mem} {c k : Nat} {ty : FieldType} (h : isI ty = true) : fv G M c k ty = .int (i32 (M.1 c k)) := by
  cases ty <;> first | rfl | cases h
theorem fv_R {G : GG} {M : Mem} {c k : Nat} {ty : FieldType} (h : isR ty = true) : fv G M c k ty = va_rf ((M.2 c k).map (rf G)) := by
  cases ty <;> first | rfl | cases h
theorem av_I {G : GG} {M : Mem} {c : Nat} {ty : FieldType} (h : isI ty = true) : av G M c ty = .inl (fun j => i32 (M.1 c j)) := by
  cases ty <;> first | rfl | cases h
def clsOK (ci : Nat) (C : String) (T : u_T) : Prop := vwCl[ci]? = some (C, T, NF ci) ∧ (∀ w ∈ u_ws C T (NF ci), w ∈ gtb) ∧ (∀ k, k < NF ci → parseFieldDescriptor (T k).2.2.1 = some (TYF ci k)) ∧ (∀ a, a < NF ci → ∀ b, b < NF ci → a ≠ b → (T a).2.1 ≠ (T b).2.1) ∧ (∀ k, k < NF ci → okT (TYF ci k) = true) ∧ Cond.instantiable C (NF ci) ∈ gtb ∧ Cond.initialized C ∈ gtb
def fldOK (own : String) (idx ci k : Nat) : Prop := ∃ (C : String) (T : u_T), clsOK ci C T ∧ k < NF ci ∧ Cond.fieldLink own idx (T k).1 (T k).2.1 (T k).2.2.1 ∈ gtb
def fldW (own : String) (idx ci k : Nat) : Prop := ∃ (C : String) (T : u_T), clsOK ci C T ∧ k < NF ci ∧ Cond.fieldLink own idx (T k).1 (T k).2.1 (T k).2.2.1 ∈ gtb ∧ (T k).2.2.2 = false
def fldF (own : String) (idx ci k : Nat) : Prop := ∃ (C : String) (T : u_T), clsOK ci C T ∧ k < NF ci ∧ Cond.fieldLink own idx (T k).1 (T k).2.1 (T k).2.2.1 ∈ gtb ∧ (T k).2.2.2 = true ∧ (T k).1 = own
theorem rng_get {N k : Nat} (f : Nat → Value) (h : k < N) : ((List.range N).map f)[k]? = some (f k) := by rw [List.getElem?_map, List.getElem?_range h]; rfl
theorem rng_set {N k : Nat} {f g : Nat → Value} {v : Value} (h1 : g k = v) (h2 : ∀ j, j ≠ k → g j = f j) : ((List.range N).map f).set k v = (List.range N).map g := by
  apply List.ext_getElem?
  intro j
  by_cases hj : j < N
  · by_cases hjk : k = j
    · subst hjk
      rw [List.getElem?_set_self (by simpa using hj), rng_get _ hj, h1]
    · rw [List.getElem?_set_ne hjk, rng_get _ hj, rng_get _ hj, h2 j (fun z => hjk z.symm)]
  · rw [List.getElem?_eq_none (by simpa using hj), List.getElem?_eq_none (by simpa using hj)]
theorem cell_o {G : GG} {K : Nat} {M : Mem} {c ci : Nat} (hs : SH c = .inr ci) (hc : c < K) : (cw G K M)[c]? = some (gB G + c, .inr (ci, (List.range (NF ci)).map (fun k => fv G M c k (TYF ci k)))) := by
  rw [cw_get hc, cellE, hs]; rfl
theorem cell_a {G : GG} {K : Nat} {M : Mem} {c n : Nat} {ty : FieldType} (hs : SH c = .inl (ty, n)) (hc : c < K) : (cw G K M)[c]? = some (gB G + c, .inl (gA G ty, n, av G M c ty)) := by
  rw [cw_get hc, cellE, hs]; rfl
theorem st_r {G : GG} {K c : Nat} {st : List PV} (hc : c < K) (hK : K ≤ 900000) : (vr c :: st).map (tv G) = Value.ref (gB G + c) :: st.map (tv G) := by
  rw [List.map_cons, show tv G (vr c) = .ref (rf G c) from rfl, rf_cell hc hK]
/-- another memory, the same cells elsewhere -/
theorem cell_ne {G : GG} {M M' : Mem} {j : Nat} (h1 : ∀ k, M'.1 j k = M.1 j k) (h2 : ∀ k, M'.2 j k = M.2 j k) : cellE G M' j = cellE G M j := by
  have e1 : M'.1 j = M.1 j := funext h1
  have e2 : M'.2 j = M.2 j := funext h2
  unfold cellE cellS
  split
  · unfold av
    split <;> simp only [e1, e2]
  · unfold fv
    simp only [e1, e2]
theorem put_cell {G : GG} {M : Mem} {c k ci : Nat} {z : Int} (hs : SH c = .inr ci) (ht : isI (TYF ci k) = true) : cellE G (upm M.1 c k z, M.2) c = .inr (ci, ((List.range (NF ci)).map (fun j => fv G M c j (TYF ci j))).set k (.int (i32 z))) := by
  unfold cellE
  rw [hs]
  show Sum.inr (ci, _) = _
  rw [rng_set (g := fun j => fv G (upm M.1 c k z, M.2) c j (TYF ci j))]
  · show fv G (upm M.1 c k z, M.2) c k (TYF ci k) = _
    rw [fv_I ht]
    simp [upm]
  · intro j hj
    unfold fv
    simp [upm, hj]
theorem put_cellL {G : GG} {M : Mem} {c k ci : Nat} {z : Int} (hs : SH c = .inr ci) (ht : TYF ci k = .long) : cellE G (upm M.1 c k z, M.2) c = .inr (ci, ((List.range (NF ci)).map (fun j => fv G M c j (TYF ci j))).set k (.long (i64 z))) := by
  unfold cellE
  rw [hs]
  show Sum.inr (ci, _) = _
  rw [rng_set (g := fun j => fv G (upm M.1 c k z, M.2) c j (TYF ci j))]
  · show fv G (upm M.1 c k z, M.2) c k (TYF ci k) = _
    rw [ht]
    simp [fv, upm]
  · intro j hj
    unfold fv
    simp [upm, hj]
theorem put_cellR {G : GG} {M : Mem} {c k ci : Nat} {z : Option Nat} (hs : SH c = .inr ci) (ht : isR (TYF ci k) = true) : cellE G (M.1, upr M.2 c k z) c = .inr (ci, ((List.range (NF ci)).map (fun j => fv G M c j (TYF ci j))).set k (va_rf (z.map (rf G)))) := by
  unfold cellE
  rw [hs]
  show Sum.inr (ci, _) = _
  rw [rng_set (g := fun j => fv G (M.1, upr M.2 c k z) c j (TYF ci j))]
  · show fv G (M.1, upr M.2 c k z) c k (TYF ci k) = _
    rw [fv_R ht]
    simp [upr]
  · intro j hj
    unfold fv
    simp [upr, hj]
theorem upm_ne {m : Nat → Nat → Int} {c k j : Nat} {z : Int} (h : j ≠ c) (b : Nat) : upm m c k z j b = m j b := by simp [upm, h]
theorem upr_ne {m : Nat → Nat → Option Nat} {c k j : Nat} {z : Option Nat} (h : j ≠ c) (b : Nat) : upr m c k z j b = m j b := by simp [upr, h]
theorem arr_cell {G : GG} {M : Mem} {c n j : Nat} {z : Int} {x : Int32} {ty : FieldType} (hs : SH c = .inl (ty, n)) (ht : isI ty = true) (hx : x = i32 z) : cellE G (upm M.1 c j z, M.2) c = .inl (gA G ty, n, .inl (upd (fun j => i32 (M.1 c j)) j x)) := by
  unfold cellE
  rw [hs]
  show Sum.inl (gA G ty, n, av G _ c ty) = _
  rw [av_I ht, hx]
  congr 4
  funext q
  by_cases hq : q = j
  · simp [upm, upd, hq]
  · simp [upm, upd, hq]
theorem arr_cellL {G : GG} {M : Mem} {c n j : Nat} {z : Int} (hs : SH c = .inl (.long, n)) : cellE G (upm M.1 c j z, M.2) c = .inl (gA G .long, n, .inr (.inl (vp_updL (fun j => i64 (M.1 c j)) j (i64 z)))) := by
  unfold cellE
  rw [hs]
  show Sum.inl (gA G .long, n, Sum.inr (Sum.inl (fun q => i64 (upm M.1 c j z c q)))) = _
  congr 5
  funext q
  by_cases hq : q = j
  · simp [upm, vp_updL, hq]
  · simp [upm, vp_updL, hq]
theorem arr_cellR {G : GG} {M : Mem} {c n j t : Nat} {C : String} (hs : SH c = .inl (.object C, n)) : cellE G (M.1, upr M.2 c j (some t)) c = .inl (gA G (.object C), n, .inr (.inr (.inr (.inr (va_up (fun j => (M.2 c j).map (rf G)) j (some (rf G t))))))) := by
  unfold cellE
  rw [hs]
  show Sum.inl (gA G (.object C), n, Sum.inr (Sum.inr (Sum.inr (Sum.inr (fun q => (upr M.2 c j (some t) c q).map (rf G)))))) = _
  congr 7
  funext q
  by_cases hq : q = j
  · simp [upr, va_up, hq]
  · simp [upr, va_up, hq]
theorem cpy_cell {G : GG} {M : Mem} {c0 sp c1 dp n n1 : Nat} (hs : SH c1 = .inl (.int, n1)) : cellE G (cpm M.1 c0 sp c1 dp n, M.2) c1 = .inl (gA G .int, n1, .inl (va_cpy (fun j => i32 (M.1 c0 j)) (fun j => i32 (M.1 c1 j)) sp dp n)) := by
  unfold cellE
  rw [hs]
  show Sum.inl (gA G .int, n1, Sum.inl (fun q => i32 (cpm M.1 c0 sp c1 dp n c1 q))) = _
  congr 4
  funext q
  unfold va_cpy cpm
  by_cases hq : dp ≤ q ∧ q < dp + n
  · simp [hq]
  · simp [hq]
/-- the heap's size, out of what the method has made -/
theorem W.sized {p : Program} {l : Launch} {e : Env} {R : Room} {s : State} {m : MethodId} {args : Array Value} {below : List Frame} {meth : Method} {c : Code} {H : Heap} {locs : List Loc} {cells slots : Nat} {Q : State → Prop} {g : JFrame} (k : H.size ≤ s.heap.size + cells → W p l e R s m args below meth c H locs cells slots Q g) : W p l e R s m args below meth c H locs cells slots Q g := fun T hT X => k (by rw [← hT]; exact X.heapSize) T hT X
theorem Rep.ge {G : GG} {K : Nat} {M : Mem} {H : Heap} (h : Rep G K M H) (h0 : gB G ≤ H.size) : gB G + K ≤ H.size := by
  cases K with
  | zero => exact h0
  | succ n =>
    have h1 : gB G + n < H.size := (h.2 n _ (cw_get (Nat.lt_succ_self n))).lt
    omega
