/-! ===== the pure picture: numbers are Ints, references are places in the order of making ===== -/
abbrev PV : Type := Int ⊕ (Int ⊕ Option Nat)
abbrev vi (z : Int) : PV := Sum.inl z
abbrev vl (z : Int) : PV := Sum.inr (Sum.inl z)
abbrev vr (c : Nat) : PV := Sum.inr (Sum.inr (some c))
abbrev vn : PV := Sum.inr (Sum.inr none)
/-- launch, class numbers and slots, array classes, base, the text's address, its bytes' address, the script's address and length, a formatter's address, the script's contents -/
abbrev GG : Type := Launch × va_G × (FieldType → ClassId) × Nat × Nat × Nat × Nat × Nat × Nat × (Nat → Int32)
abbrev gL (G : GG) : Launch := G.1
abbrev gD (G : GG) : va_G := G.2.1
abbrev gA (G : GG) : FieldType → ClassId := G.2.2.1
abbrev gB (G : GG) : Nat := G.2.2.2.1
abbrev gS (G : GG) : Nat := G.2.2.2.2.1
abbrev gV (G : GG) : Nat := G.2.2.2.2.2.1
abbrev gC (G : GG) : Nat := G.2.2.2.2.2.2.1
abbrev gN (G : GG) : Nat := G.2.2.2.2.2.2.2.1
abbrev gF (G : GG) : Nat := G.2.2.2.2.2.2.2.2.1
abbrev gX (G : GG) : Nat → Int32 := G.2.2.2.2.2.2.2.2.2
def i32 (z : Int) : Int32 := Int32.ofInt z
def i64 (z : Int) : Int64 := Int64.ofInt z
def rf (G : GG) (c : Nat) : Nat := if c = 999999 then gS G else if c = 999998 then gV G else if c = 999997 then gC G else if c = 999996 then gF G else gB G + c
def tv (G : GG) (v : PV) : Value := match v with
  | .inl z => .int (i32 z)
  | .inr (.inl z) => .long (i64 z)
  | .inr (.inr r) => va_rf (r.map (rf G))
abbrev Mem : Type := (Nat → Nat → Int) × (Nat → Nat → Option Nat)
abbrev MI : Type := MethodName × ByteArray × Nat × Option FieldType
def fv (G : GG) (M : Mem) (c k : Nat) (ty : FieldType) : Value := match ty with
  | .long => .long (i64 (M.1 c k))
  | .object _ => va_rf ((M.2 c k).map (rf G))
  | .array _ => va_rf ((M.2 c k).map (rf G))
  | _ => .int (i32 (M.1 c k))
def av (G : GG) (M : Mem) (c : Nat) (ty : FieldType) : (Nat → Int32) ⊕ (Nat → Int64) ⊕ (Nat → UInt32) ⊕ (Nat → UInt64) ⊕ (Nat → Option Nat) := match ty with
  | .long => .inr (.inl (fun j => i64 (M.1 c j)))
  | .object _ => .inr (.inr (.inr (.inr (fun j => (M.2 c j).map (rf G)))))
  | _ => .inl (fun j => i32 (M.1 c j))
def cellS (G : GG) (M : Mem) (c : Nat) (s : (FieldType × Nat) ⊕ Nat) : va_E := match s with
  | .inl (ty, n) => .inl (gA G ty, n, av G M c ty)
  | .inr ci => .inr (ci, (List.range (NF ci)).map (fun k => fv G M c k (TYF ci k)))
def cellE (G : GG) (M : Mem) (c : Nat) : va_E := cellS G M c (SH c)
def cw (G : GG) (K : Nat) (M : Mem) : va_W := (List.range K).map (fun i => (gB G + i, cellE G M i))
def Rep (G : GG) (K : Nat) (M : Mem) (H : Heap) : Prop := K ≤ 900000 ∧ va_P (gD G) vwCl (cw G K M) H
abbrev gO (G : GG) : Nat → Prop := fun q => gB G ≤ q
def gTY : List FieldType := [.int, .byte, .long, .boolean, .object "GlassEyes$Court", .object "GlassEyes$Script"]
def gT (G : GG) : List (ClassId × FieldType) := gTY.map (fun t => (gA G t, t))
def WTX : String := "sees rubs touch put drawer swap polish by on with or and not eye colour chipped hour since many thing kind who "
def WB : List Int32 := WTX.toList.map (fun c => Int32.ofNat c.toNat)
/-- the words that every later state keeps -/
def gtb : List Cond := lw_tbl.filter goodWord
def nestL : List (String × Nat × MethodName × String) := [(RX7, 19, yX2_init, RX7), (RX2, 39, yX5_init, RX7), (RX7, 32, yX6_init, RX7), (RX7, 49, yX3_init, RX7), (RX7, 56, yX4_init, RX7), (RX7, 80, yX5_init, RX7)]
def NX (s : State) : Prop := (∀ q ∈ nestL, va_Nw (.methodLinkNest q.1 q.2.1 q.2.2.1 q.2.2.2) s) ∧ va_AO "GlassEyes$Court" s ∧ va_AO "GlassEyes$Script" s
/-- the text, the one static that it asks, the script -/
def SX (G : GG) (s : State) : Prop := (va_Z "java/lang/String" "COMPACT_STRINGS" "Z" (.int 1) (gO G) s s.heap ∧ (va_Z "jdk/internal/util/Preconditions" "SIOOBE_FORMATTER" "Ljava/util/function/BiFunction;" .null (gO G) s s.heap ∨ va_Z "jdk/internal/util/Preconditions" "SIOOBE_FORMATTER" "Ljava/util/function/BiFunction;" (.ref (gF G)) (gO G) s s.heap)) ∧ vk_R RX2 77 WTX (gS G) s ∧ vk_S 1 [111] [WB] (fun _ => gS G) (fun _ => gV G) (gO G) s s.heap ∧ va_X (gC G) (gN G) (gX G) s s.heap ∧ gC G < gB G ∧ NX s
def Ctx (G : GG) (mi : MI) (p : Program) (s : State) (m : MethodId) (args : Array Value) (meth : Method) (c : Code) : Prop :=
  p.tables.exec = Jvm.exec ∧ c.code = mi.2.1 ∧ meth.sig.returnType = mi.2.2.2 ∧ c.maxLocals = mi.2.2.1 ∧ s.vm.findClass mi.1.cls = some m.cls ∧ (∀ w ∈ gtb, w.before args s = true) ∧ meth.locks = false ∧ (mi.1.name = "<init>" → meth.name = "<init>") ∧ va_K (gD G) vwCl (gT G) s ∧ SX G s ∧ gB G ≤ s.heap.size
def las (G : GG) : Nat → List (Option PV) → List (Nat × Value)
  | _, [] => []
  | i, none :: l => las G (i + 1) l
  | i, some v :: l => (i, tv G v) :: las G (i + 1) l
def LV (G : GG) (ls : Array Slot) (nL : Nat) (lv : List (Option PV)) : Prop := lv_has ls nL (las G 0 lv)
abbrev ZZ : Type := List Frame → Array Value → State → Nat → Nat → State → Prop
/-- the judgement: from every machine state that shows this picture, the method comes to Z -/
def V (G : GG) (fr lo bc bs : Nat) (mi : MI) (pc : Nat) (lv : List (Option PV)) (st : List PV) (K : Nat) (M : Mem) (Z : ZZ) : Prop :=
  ∀ (p : Program) (e : Env) (s : State) (m : MethodId) (args : Array Value) (below : List Frame) (meth : Method) (c : Code) (mc ms : Nat) (H : Heap) (locs : List Loc) (ls : Array Slot) (cells slots : Nat),
    Ctx G mi p s m args meth c → Rep G K M H → va_S (gO G) s.heap H locs → LV G ls mi.2.2.1 lv → s.heap.size + cells = gB G + K → cells + bc = mc → slots + bs ≤ ms →
    W p (gL G) e { frames := fr, cells := mc, slots := ms, locals := lo } s m args below meth c H locs cells slots (Z below args s mc ms) (F0 m pc ls (st.map (tv G)))
/-! ===== numbers ===== -/
abbrev rng (z : Int) : Prop := -2147483648 ≤ z ∧ z < 2147483648
abbrev rnl (z : Int) : Prop := -9223372036854775808 ≤ z ∧ z < 9223372036854775808
theorem i32_add (a b : Int) : i32 (a + b) = i32 a + i32 b := Int32.ofInt_add a b
theorem i32_sub (a b : Int) : i32 (a - b) = i32 a - i32 b := Int32.ofInt_sub a b
theorem i32_mul (a b : Int) : i32 (a * b) = i32 a * i32 b := Int32.ofInt_mul a b
theorem i32_neg (a : Int) : i32 (-a) = -i32 a := Int32.ofInt_neg a
theorem i64_add (a b : Int) : i64 (a + b) = i64 a + i64 b := Int64.ofInt_add a b
theorem i64_sub (a b : Int) : i64 (a - b) = i64 a - i64 b := Int64.ofInt_sub a b
theorem i64_mul (a b : Int) : i64 (a * b) = i64 a * i64 b := Int64.ofInt_mul a b
theorem i64_neg (a : Int) : i64 (-a) = -i64 a := Int64.ofInt_neg a
theorem i32_toInt {a : Int} (h : rng a) : (i32 a).toInt = a := Int32.toInt_ofInt_of_le (by have := h.1; omega) (by have := h.2; omega)
theorem i64_toInt {a : Int} (h : rnl a) : (i64 a).toInt = a := Int64.toInt_ofInt_of_le (by have := h.1; omega) (by have := h.2; omega)
theorem i32_lt {a b : Int} (ha : rng a) (hb : rng b) : i32 a < i32 b ↔ a < b := by rw [Int32.lt_iff_toInt_lt, i32_toInt ha, i32_toInt hb]
theorem i32_le {a b : Int} (ha : rng a) (hb : rng b) : i32 a ≤ i32 b ↔ a ≤ b := by rw [Int32.le_iff_toInt_le, i32_toInt ha, i32_toInt hb]
theorem i32_eq {a b : Int} (ha : rng a) (hb : rng b) : i32 a = i32 b ↔ a = b := by rw [← Int32.toInt_inj, i32_toInt ha, i32_toInt hb]
theorem i64_lt {a b : Int} (ha : rnl a) (hb : rnl b) : i64 a < i64 b ↔ a < b := by rw [Int64.lt_iff_toInt_lt, i64_toInt ha, i64_toInt hb]
theorem i64_eq {a b : Int} (ha : rnl a) (hb : rnl b) : i64 a = i64 b ↔ a = b := by rw [← Int64.toInt_inj, i64_toInt ha, i64_toInt hb]
theorem i32_of (x : Int32) : i32 x.toInt = x := Int32.ofInt_toInt x
theorem i32_rng (x : Int32) : rng x.toInt := ⟨by have := x.le_toInt; omega, by have := x.toInt_lt; omega⟩
theorem i32_nat {n : Nat} (h : n < 2147483648) : (i32 (n : Int)).toNatClampNeg = n := by
  show (Int32.ofInt (n : Int)).toNatClampNeg = n
  rw [Int32.toNatClampNeg_ofInt_of_le (by omega) (by omega)]
  omega
theorem i32_in {n N : Nat} (h : n < N) (hN : N < 2147483648) : vp_in (i32 (n : Int)) N := by
  intro q
  rcases q with q | q
  · rw [show (0 : Int32) = i32 0 from rfl, i32_lt (by omega) (by omega)] at q
    omega
  · rw [i32_nat (by omega)] at q
    omega
/-! bits, by the machine's own -/
def iand (a b : Int) : Int := (i32 a &&& i32 b).toInt
def ior (a b : Int) : Int := (i32 a ||| i32 b).toInt
def ixor (a b : Int) : Int := (i32 a ^^^ i32 b).toInt
def ishl (a b : Int) : Int := (i32 a <<< (i32 b &&& 31)).toInt
def ishr (a b : Int) : Int := (i32 a >>> (i32 b &&& 31)).toInt
def iushr (a b : Int) : Int := ((i32 a).toUInt32 >>> ((i32 b).toUInt32 &&& Int32.toUInt32 31)).toInt32.toInt
def idiv (a b : Int) : Int := (i32 a / i32 b).toInt
def i2b (a : Int) : Int := (i32 a).toInt8.toInt32.toInt
def i2c (a : Int) : Int := ((i32 a).toUInt32 % 65536).toInt32.toInt
def i2z (a : Int) : Int := (vp_nar .boolean (i32 a)).toInt
def lorr (a b : Int) : Int := (i64 a ||| i64 b).toInt
def lshl (a b : Int) : Int := (i64 a <<< ((i32 b).toInt64 &&& 63)).toInt
def ldiv (a b : Int) : Int := (i64 a / i64 b).toInt
theorem i64_of (x : Int64) : i64 x.toInt = x := Int64.ofInt_toInt x
/-! ===== the cells ===== -/
theorem cw_get {G : GG} {K : Nat} {M : Mem} {i : Nat} (h : i < K) : (cw G K M)[i]? = some (gB G + i, cellE G M i) := by
  unfold cw
  rw [List.getElem?_map, List.getElem?_range h]
  rfl
theorem cw_len {G : GG} {K : Nat} {M : Mem} : (cw G K M).length = K := by simp [cw]
theorem cw_D {G : GG} {K : Nat} {M : Mem} : va_D (gO G) (cw G K M) := by
  have key : ∀ (k : Nat) (q : Nat × va_E), (cw G K M)[k]? = some q → q.1 = gB G + k := by
    intro k q h
    have hk : k < K := by have := (List.getElem?_eq_some_iff.mp h).1; rwa [cw_len] at this
    rw [cw_get hk] at h
    cases h
    rfl
  refine ⟨fun i j p q hi hj e => ?_, fun k q hk => ?_⟩
  · rw [key i p hi, key j q hj] at e
    omega
  · show gB G ≤ q.1
    rw [key k q hk]
    omega
theorem cw_set {G : GG} {K : Nat} {M M' : Mem} {i : Nat} {e : va_E} (h1 : cellE G M' i = e) (h2 : ∀ j, j ≠ i → cellE G M' j = cellE G M j) : (cw G K M).set i (gB G + i, e) = cw G K M' := by
  apply List.ext_getElem?
  intro k
  by_cases hk : k < K
  · by_cases hki : i = k
    · subst hki
      rw [List.getElem?_set_self (by rw [cw_len]; exact hk), cw_get hk, h1]
    · rw [List.getElem?_set_ne hki, cw_get hk, cw_get hk, h2 k (fun z => hki z.symm)]
  · rw [List.getElem?_eq_none (by rw [List.length_set, cw_len]; omega), List.getElem?_eq_none (by rw [cw_len]; omega)]
theorem rf_cell {G : GG} {c K : Nat} (h : c < K) (hK : K ≤ 900000) : rf G c = gB G + c := by
  unfold rf
  rw [if_neg (by omega), if_neg (by omega), if_neg (by omega), if_neg (by omega)]
theorem las_mem {G : GG} : ∀ (lv : List (Option PV)) (i : Nat) (q : Nat × Value), q ∈ las G i lv ↔ ∃ k v, lv[k]? = some (some v) ∧ q = (i + k, tv G v)
  | [], i, q => by simp [las]
  | none :: l, i, q => by
    rw [las, las_mem l (i + 1) q]
    constructor
    · rintro ⟨k, v, h1, h2⟩
      exact ⟨k + 1, v, by simpa using h1, by rw [h2, show i + 1 + k = i + (k + 1) by omega]⟩
    · rintro ⟨k, v, h1, h2⟩
      cases k with
      | zero => simp at h1
      | succ k => exact ⟨k, v, by simpa using h1, by rw [h2, show i + 1 + k = i + (k + 1) by omega]⟩
  | some w :: l, i, q => by
    rw [las, List.mem_cons, las_mem l (i + 1) q]
    constructor
    · rintro (h | ⟨k, v, h1, h2⟩)
      · exact ⟨0, w, by simp, by rw [h]; rfl⟩
      · exact ⟨k + 1, v, by simpa using h1, by rw [h2, show i + 1 + k = i + (k + 1) by omega]⟩
    · rintro ⟨k, v, h1, h2⟩
      cases k with
      | zero =>
        have h3 : w = v := by simpa using h1
        exact Or.inl (by rw [h2, h3]; rfl)
      | succ k => exact Or.inr ⟨k, v, by simpa using h1, by rw [h2, show i + 1 + k = i + (k + 1) by omega]⟩
theorem ge_at {G : GG} {ls : Array Slot} {nL : Nat} {lv : List (Option PV)} (h : LV G ls nL lv) {k : Nat} {v : PV} (hk : lv[k]? = some (some v)) : ls[k]? = some (.val (tv G v)) := by
  have := h.2.2 (0 + k, tv G v) ((las_mem lv 0 _).mpr ⟨k, v, hk, rfl⟩)
  simpa using this
theorem ge_sub {G : GG} {ls : Array Slot} {nL : Nat} {lv' : List (Option PV)} {l : List (Nat × Value)} (h : lv_has ls nL l) (hs : ∀ k v, lv'[k]? = some (some v) → (k, tv G v) ∈ l) : LV G ls nL lv' :=
  ⟨h.1, h.2.1, fun q hq => by
    obtain ⟨k, v, h1, h2⟩ := (las_mem lv' 0 q).mp hq
    have e : q = (k, tv G v) := by rw [h2, Nat.zero_add]
    rw [e]
    exact h.2.2 _ (hs k v h1)⟩
/-- a store of one word takes a long that ends there away -/
def clr (lv : List (Option PV)) (k : Nat) : List (Option PV) := match k with
  | 0 => lv
  | j + 1 => match lv[j]? with
    | some (some (Sum.inr (Sum.inl _))) => lv.set j none
    | _ => lv
def stI (lv : List (Option PV)) (k : Nat) (v : PV) : List (Option PV) := (clr lv k).set k (some v)
def stL (lv : List (Option PV)) (k : Nat) (v : PV) : List (Option PV) := ((clr lv k).set k (some v)).set (k + 1) none
theorem tv_cat (G : GG) (v : PV) : (tv G v).category = 2 ↔ ∃ z, v = vl z := by
  match v with
  | .inl z => simp [tv, Value.category]
  | .inr (.inl z) => simp [tv, Value.category]
  | .inr (.inr none) => simp [tv, va_rf, Value.category]
  | .inr (.inr (some c)) => simp [tv, va_rf, Value.category]
theorem clr_at {lv : List (Option PV)} {k j : Nat} {v : PV} (h : (clr lv k)[j]? = some (some v)) : lv[j]? = some (some v) ∧ (j + 1 = k → ¬ ∃ z, v = vl z) := by
  unfold clr at h
  cases k with
  | zero => exact ⟨h, fun e => absurd e (by omega)⟩
  | succ i =>
    dsimp only at h
    split at h
    · rename_i z hz
      by_cases hj : i = j
      · subst hj
        have hl : i < lv.length := (List.getElem?_eq_some_iff.mp hz).1
        rw [List.getElem?_set_self hl] at h
        cases h
      · rw [List.getElem?_set_ne hj] at h
        exact ⟨h, fun e => absurd e (by omega)⟩
    · rename_i hz
      refine ⟨h, fun e => ?_⟩
      have e2 : j = i := by omega
      subst e2
      rintro ⟨z, rfl⟩
      exact hz z h
theorem ge_stI {G : GG} {ls : Array Slot} {nL : Nat} {lv : List (Option PV)} {k : Nat} {v : PV} (hc : (tv G v).category = 1) (h : lv_has ls nL ((k, tv G v) :: (las G 0 lv).filter (fun q => !(q.1 == k) && !(q.1 + 1 == k && q.2.category == 2)))) : LV G ls nL (stI lv k v) := by
  refine ge_sub h fun j w hj => ?_
  by_cases hjk : k = j
  · subst hjk
    unfold stI at hj
    have hl : k < (clr lv k).length := by have := (List.getElem?_eq_some_iff.mp hj).1; simpa using this
    rw [List.getElem?_set_self hl] at hj
    cases hj
    exact List.mem_cons_self
  · unfold stI at hj
    rw [List.getElem?_set_ne hjk] at hj
    obtain ⟨h1, h2⟩ := clr_at hj
    refine List.mem_cons_of_mem _ (List.mem_filter.mpr ⟨(las_mem lv 0 _).mpr ⟨j, w, h1, by rw [Nat.zero_add]⟩, ?_⟩)
    have h3 : ¬ j = k := fun z => hjk z.symm
    by_cases h4 : j + 1 = k
    · have h5 : ¬ (tv G w).category = 2 := fun z => h2 h4 ((tv_cat G w).mp z)
      simp [h3, h5]
    · simp [h3, h4]
theorem ge_stL {G : GG} {ls : Array Slot} {nL : Nat} {lv : List (Option PV)} {k : Nat} {v : PV} (h : lv_has ls nL ((k, tv G v) :: (las G 0 lv).filter (fun q => !(q.1 == k) && (!(q.1 == k + 1) && !(q.1 + 1 == k && q.2.category == 2))))) : LV G ls nL (stL lv k v) := by
  refine ge_sub h fun j w hj => ?_
  unfold stL at hj
  by_cases hj1 : k + 1 = j
  · subst hj1
    exfalso
    have hl : k + 1 < ((clr lv k).set k (some v)).length := by have := (List.getElem?_eq_some_iff.mp hj).1; simpa using this
    rw [List.getElem?_set_self hl] at hj
    cases hj
  · rw [List.getElem?_set_ne hj1] at hj
    by_cases hjk : k = j
    · subst hjk
      have hl : k < (clr lv k).length := by have := (List.getElem?_eq_some_iff.mp hj).1; simpa using this
      rw [List.getElem?_set_self hl] at hj
      cases hj
      exact List.mem_cons_self
    · rw [List.getElem?_set_ne hjk] at hj
      obtain ⟨h1, h2⟩ := clr_at hj
      refine List.mem_cons_of_mem _ (List.mem_filter.mpr ⟨(las_mem lv 0 _).mpr ⟨j, w, h1, by rw [Nat.zero_add]⟩, ?_⟩)
      have h3 : ¬ j = k := fun z => hjk z.symm
      have h6 : ¬ j = k + 1 := fun z => hj1 z.symm
      by_cases h4 : j + 1 = k
      · have h5 : ¬ (tv G w).category = 2 := fun z => h2 h4 ((tv_cat G w).mp z)
        simp [h3, h5, h6]
      · simp [h3, h4, h6]
