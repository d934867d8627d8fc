/-! ===== how: the reference ===== -/
abbrev K4 := Int × Int × Int × Int
abbrev th4 (K : K4) : Prop := th K.1 ∧ th K.2.1 ∧ th K.2.2.1 ∧ th K.2.2.2
def ln4 (z : Int) (K : K4) : K4 := (z, K.1, K.2.1, K.2.2.1)
def cm4 (K : K4) : Int := cnt (fun q => pl K.1 K.2.1 K.2.2.1 K.2.2.2 q) 4
def sh4 (S : Nat → Int) : K4 := (shw S 0, shw S 1, shw S 2, shw S 3)
def ch4 (chip z : Int) (K : K4) : K4 := if chip = 1 then ln4 z (ln4 z K) else ln4 z K
/-- what an eye knows behind touch number c at slot k -/
def stp (S X : Nat → Int) (e k c : Nat) (K : K4) : K4 := if S (20 + 8 * e + 2) = ((c / 8 : Nat) : Int) ∧ seeF X (S 4) (nmv S e (S 2 + (k : Int) + 1) (S (20 + 8 * e + 3)) (cm4 K) (c % 8) ((c / 8 : Nat) : Int)) ≠ 0 then ch4 (S (20 + 8 * e + 1)) ((c % 8 : Nat) : Int) K else K
theorem ln4_th {z : Int} {K : K4} (hz : th z) (h : th4 K) : th4 (ln4 z K) := ⟨hz, h.1, h.2.1, h.2.2.1⟩
theorem stp_th {S X : Nat → Int} {e k c : Nat} {K : K4} (h : th4 K) : th4 (stp S X e k c K) := by
  have hz : th ((c % 8 : Nat) : Int) := by omega
  unfold stp
  split
  · unfold ch4
    split
    · exact ln4_th hz (ln4_th hz h)
    · exact ln4_th hz h
  · exact h
/-- rows of r touches from slot k on, of an eye that knows K -/
def smm (S X : Nat → Int) (C T e : Nat) : Nat → Nat → K4 → Sm
  | 0, _, K => if K = sh4 S then some (1, fun _ => 0, 0) else none
  | r + 1, k, K => smf (fun c => if c % 8 < T then smt k c (2 ^ (c / 8)) (smm S X C T e r (k + 1) (stp S X e k c K)) else none) (8 * C)
theorem smm_bd {S X : Nat → Int} {C T e : Nat} (hC : C ≤ 6) : ∀ (r k : Nat) (K : K4), cn (smm S X C T e r k K) ≤ 48 ^ r := by
  intro r
  induction r with
  | zero => intro k K; unfold smm; split <;> simp [cn]
  | succ r ih =>
    intro k K
    unfold smm
    have := smf_bd (f := fun c => if c % 8 < T then smt k c (2 ^ (c / 8)) (smm S X C T e r (k + 1) (stp S X e k c K)) else none) (B := 48 ^ r) (8 * C) (fun t _ => by
      split
      · rw [cn_t]; exact ih _ _
      · exact Nat.zero_le _)
    have h2 : 8 * C * 48 ^ r ≤ 48 * 48 ^ r := Nat.mul_le_mul_right _ (by omega)
    rw [Nat.pow_succ, Nat.mul_comm (48 ^ r)]
    omega
/-- courtiers of the first k touches -/
def HP (p : Nat → Nat) : Nat → Nat
  | 0 => 0
  | n + 1 => HP p n ||| 2 ^ (p n / 8)
theorem HP_cong {p p' : Nat → Nat} : ∀ n, (∀ j, j < n → p j = p' j) → HP p n = HP p' n := by
  intro n
  induction n with
  | zero => intro _; rfl
  | succ n ih => intro h; rw [HP, HP, ih (fun j hj => h j (by omega)), h n (by omega)]
theorem HP_ov (p : Nat → Nat) (k c : Nat) : HP (ov k c p) (k + 1) = HP p k ||| 2 ^ (c / 8) := by
  rw [HP, HP_cong (p := ov k c p) (p' := p) k (fun j hj => if_neg (by omega)), show ov k c p k = c from if_pos rfl]
theorem HP_lt {p : Nat → Nat} : ∀ n, (∀ j, j < n → p j < 48) → HP p n < 64 := by
  intro n
  induction n with
  | zero => intro _; exact (by decide : 0 < 64)
  | succ n ih =>
    intro h
    rw [HP]
    have h1 := h n (by omega)
    have h2 : 2 ^ (p n / 8) < 2 ^ 6 := Nat.pow_lt_pow_right (by decide) (by omega)
    exact Nat.or_lt_two_pow (n := 6) (ih (fun j hj => h j (by omega))) h2
theorem upm_at (m : MM) (c j : Nat) (z : Int) : upm m c j z c j = z := by simp [upm]
theorem upm_j (m : MM) {c k b : Nat} (z : Int) (h : b ≠ k) : upm m c k z c b = m c b := by simp [upm, h]
/-- four places from b on in the reference's row -/
def Kn (m : MM) (b : Nat) (K : K4) : Prop := m 316 b = K.1 ∧ m 316 (b + 1) = K.2.1 ∧ m 316 (b + 2) = K.2.2.1 ∧ m 316 (b + 3) = K.2.2.2
theorem Kn.fr {m m' : MM} {b : Nat} {K : K4} (h : Kn m b K) (e : ∀ j, b ≤ j → j < b + 4 → m' 316 j = m 316 j) : Kn m' b K := by
  obtain ⟨h1, h2, h3, h4⟩ := h
  exact ⟨by rw [e _ (by omega) (by omega)]; exact h1, by rw [e _ (by omega) (by omega)]; exact h2, by rw [e _ (by omega) (by omega)]; exact h3, by rw [e _ (by omega) (by omega)]; exact h4⟩
/-- what the reference has found so far -/
def ArR (n : Nat) (m : MM) (a : Sm) : Prop := match a with
  | none => m 304 31 = 0 ∧ m 304 32 = 0
  | some t => m 304 31 = (t.1 : Int) ∧ 0 < t.1 ∧ m 304 32 = (t.2.2 : Int) ∧ t.2.2 < 64 ∧ ∀ j, j < n → m 317 j = (t.2.1 j : Int)
theorem ArR.fr {n : Nat} {m m' : MM} {a : Sm} (h : ArR n m a) (e1 : m' 304 31 = m 304 31) (e2 : m' 304 32 = m 304 32) (e3 : m' 317 = m 317) : ArR n m' a := by
  cases a with
  | none =>
    have h : m 304 31 = 0 ∧ m 304 32 = 0 := h
    show m' 304 31 = 0 ∧ m' 304 32 = 0
    rw [e1, e2]; exact h
  | some t =>
    unfold ArR at h ⊢
    dsimp only at h ⊢
    rw [e1, e2, e3]; exact h
/-- what the search of the reference may change -/
def FrG (m m' : MM) : Prop := (∀ c, c ≠ 304 → c ≠ 311 → c ≠ 312 → c ≠ 313 → c ≠ 315 → c ≠ 316 → c ≠ 317 → m' c = m c) ∧ ∀ b, b ≠ 31 → b ≠ 32 → m' 304 b = m 304 b
theorem FrG.rf (m : MM) : FrG m m := ⟨fun _ _ _ _ _ _ _ _ => rfl, fun _ _ _ => rfl⟩
theorem FrG.tr {a b c : MM} (h : FrG a b) (h2 : FrG b c) : FrG a c := ⟨fun x h1 h3 h4 h5 h6 h7 h8 => (h2.1 x h1 h3 h4 h5 h6 h7 h8).trans (h.1 x h1 h3 h4 h5 h6 h7 h8), fun b h1 h3 => (h2.2 b h1 h3).trans (h.2 b h1 h3)⟩
theorem FrG.up {m m' : MM} {c k : Nat} {z : Int} (h : FrG m m') (hc : c = 311 ∨ c = 312 ∨ c = 313 ∨ c = 315 ∨ c = 316 ∨ c = 317) : FrG m (upm m' c k z) :=
  ⟨fun x h1 h3 h4 h5 h6 h7 h8 => by rw [upm_c (by omega)]; exact h.1 x h1 h3 h4 h5 h6 h7 h8, fun b h1 h3 => by rw [upm_c (by omega)]; exact h.2 b h1 h3⟩
theorem FrG.frR {m m' : MM} (h : FrG m m') : FrR m m' := ⟨fun c hc => h.1 c (by omega) (by omega) (by omega) (by omega) (by omega) (by omega) (by omega), h.1 _ (by omega) (by omega) (by omega) (by omega) (by omega) (by omega) (by omega), h.1 _ (by omega) (by omega) (by omega) (by omega) (by omega) (by omega) (by omega), h.1 _ (by omega) (by omega) (by omega) (by omega) (by omega) (by omega) (by omega), h.2 _ (by omega) (by omega), h.2 _ (by omega) (by omega), h.2 _ (by omega) (by omega), h.2 _ (by omega) (by omega)⟩
section How1
variable {G : GG} {d : Nat} {m : MM}
theorem c_shift {Q : MM → Prop} {x2 x5 : Int} (k c : Nat) (e2 : x2 = (k : Int)) (hk : k < 3) (hrow : m 315 k = (c : Int)) (hc : c < 48) (K : K4) (hK : Kn m (4 * k + 4) K)
    (next : ∀ m', (∀ a, a ≠ 316 → m' a = m a) → (∀ j, j < 4 * k + 4 → m' 316 j = m 316 j) → Kn m' (4 * k + 4) (ln4 ((c % 8 : Nat) : Int) K) → N G (d + 1) mi_X8_goOn 136 [some (vr 304), none, some (vi x2), none, none, some (vi (x5 + (-1))), none] [] m' (RV Q)) :
    N G (d + 1) mi_X8_goOn 144 [some (vr 304), none, some (vi x2), none, none, some (vi x5), some (vi 3)] [] m (RV Q) := by
  obtain ⟨k0, k1, k2, k3⟩ := hK
  refine g_X8_goOn_144 _ _ _ (leF (by omega) ⟨4 * k + 6, by omega, 4 * k + 7, by omega, fun m1 e1 => ?_⟩)
  refine g_X8_goOn_144 _ _ _ (leF (by omega) ⟨4 * k + 5, by omega, 4 * k + 6, by omega, fun m3 e3 => ?_⟩)
  refine g_X8_goOn_144 _ _ _ (leF (by omega) ⟨4 * k + 4, by omega, 4 * k + 5, by omega, fun m4 e4 => ?_⟩)
  refine g_X8_goOn_144 _ _ _ (leT (by omega) ⟨k, by omega, 4 * k + 4, by omega, fun m5 e5 => ?_⟩)
  have o1 : ∀ a, a ≠ 316 → m1 a = m a := fun a ha => by rw [e1, upm_c ha]
  have o3 : ∀ a, a ≠ 316 → m3 a = m a := fun a ha => by rw [e3, upm_c ha, o1 a ha]
  have o4 : ∀ a, a ≠ 316 → m4 a = m a := fun a ha => by rw [e4, upm_c ha, o3 a ha]
  have o5 : ∀ a, a ≠ 316 → m5 a = m a := fun a ha => by rw [e5, upm_c ha, o4 a ha]
  have ir : irem (m4 315 k) 8 = ((c % 8 : Nat) : Int) := by
    rw [o4 315 (by omega), hrow]
    exact irem_n (a := c) (b := 8) (by omega) (by omega) (by omega)
  refine next m5 o5 (fun j hj => ?_) ⟨?_, ?_, ?_, ?_⟩
  · rw [e5, upm_j _ _ (by omega), e4, upm_j _ _ (by omega), e3, upm_j _ _ (by omega), e1, upm_j _ _ (by omega)]
  · rw [e5, upm_at, ir]; rfl
  · rw [e5, upm_j _ _ (by omega), e4, show 4 * k + 4 + 1 = 4 * k + 5 by omega, upm_at, e3, upm_j _ _ (by omega), e1, upm_j _ _ (by omega), k0]; rfl
  · rw [e5, upm_j _ _ (by omega), e4, upm_j _ _ (by omega), e3, show 4 * k + 4 + 2 = 4 * k + 6 by omega, upm_at, e1, upm_j _ _ (by omega), show 4 * k + 5 = 4 * k + 4 + 1 by omega, k1]; rfl
  · rw [e5, upm_j _ _ (by omega), e4, upm_j _ _ (by omega), e3, upm_j _ _ (by omega), e1, show 4 * k + 4 + 3 = 4 * k + 7 by omega, upm_at, show 4 * k + 6 = 4 * k + 4 + 2 by omega, k2]; rfl
theorem c_goOn {Q : MM → Prop} {x1 x2 C : Int} {S X : Nat → Int} (hS : m 305 = S) (hX : m 308 = X) (hw : WfS C S) (hCC : 1 ≤ C ∧ C ≤ 6) (hW : ∀ t : Nat, (t : Int) < S 3 → WfT X t) (e k c : Nat) (e1 : x1 = (e : Int)) (he : e < 8) (e2 : x2 = (k : Int)) (hk : k < 3) (hrow : m 315 k = (c : Int)) (hc : c < 48) (K : K4) (hK : Kn m (4 * k) K) (hth : th4 K)
    (next : ∀ m', (∀ a, a ≠ 311 → a ≠ 312 → a ≠ 313 → a ≠ 316 → m' a = m a) → (∀ j, j < 4 * k + 4 → m' 316 j = m 316 j) → Kn m' (4 * k + 4) (stp S X e k c K) → Q m') :
    N G (d + 4) mi_X8_goOn 0 [some (vr 304), some (vi x1), some (vi x2), none, none, none, none] [] m (RV Q) := by
  have hv := hw.2.2.2.2.2.2.2.2.2.1
  have ie := hv.2.2.1 e he
  unfold eyeOK at ie
  have hh := hv.1
  have hh2 := hv.2.1
  have hch := (hw.2.2.2.2.2.2.2.2.1 e he).2
  have wn : nowW S e 0 = S (20 + 8 * e + 2) := rfl
  rw [wn] at ie
  obtain ⟨k0, k1, k2, k3⟩ := hK
  refine g_X8_goOn_0 _ _ (g_X8_goOn_2 _ _ _ (leF (by omega) ⟨4 * k, by omega, 4 * k + 4, by omega, fun m1 q1 => ?_⟩))
  refine g_X8_goOn_2 _ _ _ (leF (by omega) ⟨4 * k + 1, by omega, 4 * k + 5, by omega, fun m3 q3 => ?_⟩)
  refine g_X8_goOn_2 _ _ _ (leF (by omega) ⟨4 * k + 2, by omega, 4 * k + 6, by omega, fun m4 q4 => ?_⟩)
  refine g_X8_goOn_2 _ _ _ (leF (by omega) ⟨4 * k + 3, by omega, 4 * k + 7, by omega, fun m5 q5 => ?_⟩)
  refine g_X8_goOn_2 _ _ _ (leT (by omega) ⟨k, by omega, ?_⟩)
  have o1 : ∀ a, a ≠ 316 → m1 a = m a := fun a ha => by rw [q1, upm_c ha]
  have o3 : ∀ a, a ≠ 316 → m3 a = m a := fun a ha => by rw [q3, upm_c ha, o1 a ha]
  have o4 : ∀ a, a ≠ 316 → m4 a = m a := fun a ha => by rw [q4, upm_c ha, o3 a ha]
  have o5 : ∀ a, a ≠ 316 → m5 a = m a := fun a ha => by rw [q5, upm_c ha, o4 a ha]
  have lo5 : ∀ j, j < 4 * k + 4 → m5 316 j = m 316 j := fun j hj => by rw [q5, upm_j _ _ (by omega), q4, upm_j _ _ (by omega), q3, upm_j _ _ (by omega), q1, upm_j _ _ (by omega)]
  have kn5 : Kn m5 (4 * k + 4) K := by
    refine ⟨?_, ?_, ?_, ?_⟩
    · rw [q5, upm_j _ _ (by omega), q4, upm_j _ _ (by omega), q3, upm_j _ _ (by omega), q1, upm_at, k0]
    · rw [q5, upm_j _ _ (by omega), q4, upm_j _ _ (by omega), q3, show 4 * k + 4 + 1 = 4 * k + 5 by omega, upm_at, q1, upm_j _ _ (by omega), k1]
    · rw [q5, upm_j _ _ (by omega), q4, show 4 * k + 4 + 2 = 4 * k + 6 by omega, upm_at, q3, upm_j _ _ (by omega), q1, upm_j _ _ (by omega), k2]
    · rw [q5, show 4 * k + 4 + 3 = 4 * k + 7 by omega, upm_at, q4, upm_j _ _ (by omega), q3, upm_j _ _ (by omega), q1, upm_j _ _ (by omega), k3]
  have dv : idiv (m5 315 k) 8 = ((c / 8 : Nat) : Int) := by
    rw [o5 315 (by omega), hrow]
    exact idiv_n (a := c) (b := 8) (by omega) (by omega) (by omega)
  rw [dv]
  have S5 : m5 305 = S := (o5 305 (by omega)).trans hS
  have X5 : m5 308 = X := (o5 308 (by omega)).trans hX
  have rd : ∀ q, q < 4 → m5 316 (4 * k + q) = pl K.1 K.2.1 K.2.2.1 K.2.2.2 q := by
    intro q hq
    rw [lo5 _ (by omega)]
    have : q = 0 ∨ q = 1 ∨ q = 2 ∨ q = 3 := by omega
    rcases this with rfl | rfl | rfl | rfl
    · exact k0
    · exact k1
    · exact k2
    · exact k3
  have plr : ∀ q, q < 4 → rng (pl K.1 K.2.1 K.2.2.1 K.2.2.2 q) := by
    intro q hq
    have : q = 0 ∨ q = 1 ∨ q = 2 ∨ q = 3 := by omega
    obtain ⟨t1, t2, t3, t4⟩ := hth
    rcases this with rfl | rfl | rfl | rfl
    · show rng K.1; omega
    · show rng K.2.1; omega
    · show rng K.2.2.1; omega
    · show rng K.2.2.2; omega
  have loop : ∀ (r q : Nat) (x4 x5 : Int), q + r = 4 → x4 = cnt (fun q => pl K.1 K.2.1 K.2.2.1 K.2.2.2 q) q → x5 = (q : Int) → N G (d + 4) mi_X8_goOn 51 [some (vr 304), some (vi x1), some (vi x2), some (vi ((c / 8 : Nat) : Int)), some (vi x4), some (vi x5), none] [] m5 (RV Q) := by
    intro r
    induction r with
    | succ r ih =>
      intro q x4 x5 hq h4 h5
      have pq := plr q (by omega)
      refine g_X8_goOn_51 _ _ _ _ _ (leF (by omega) ⟨4 * k + q, by omega, ?_⟩)
      rw [rd q (by omega)]
      refine ltI (by omega) (fun z => ?_) (fun z => ?_)
      · exact ih (q + 1) _ _ (by omega) (by rw [h4, cnt, if_pos z]) (by omega)
      · exact ih (q + 1) _ _ (by omega) (by rw [h4, cnt, if_neg z]) (by omega)
    | zero =>
      intro q x4 x5 hq h4 h5
      have q4' : q = 4 := by omega
      subst q4'
      have c4 : x4 = cm4 K := h4
      have cb := cnt_bd (fun q => pl K.1 K.2.1 K.2.2.1 K.2.2.2 q) 4
      refine g_X8_goOn_51 _ _ _ _ _ (leT (by omega) (c_get (20 + 8 * e + 2) (by omega) (by omega) ?_))
      rw [S5]
      have fin : ∀ m', FrL m5 m' → (∀ a, a ≠ 311 → a ≠ 312 → a ≠ 313 → a ≠ 316 → m' a = m a) ∧ (∀ j, j < 4 * k + 4 → m' 316 j = m 316 j) ∧ Kn m' (4 * k + 4) K := by
        intro m' f
        have f6 : m' 316 = m5 316 := f 316 (by omega) (by omega) (by omega)
        refine ⟨fun a h1 h2 h3 h4 => (f a h1 h2 h3).trans (o5 a h4), fun j hj => by rw [f6]; exact lo5 j hj, kn5.fr (fun j _ _ => by rw [f6])⟩
      refine eqI (by omega) (fun z => ⟨k, by omega, ?_⟩) (fun z => ?_)
      · have ir : irem (m5 315 k) 8 = ((c % 8 : Nat) : Int) := by
          rw [o5 315 (by omega), hrow]
          exact irem_n (a := c) (b := 8) (by omega) (by omega) (by omega)
        rw [ir]
        refine c_sees (C := C) (by rw [S5]; exact hw) (fun t ht => by rw [X5]; exact hW t (by rw [S5] at ht; exact ht)) e (c % 8) e1 he rfl (by omega) (by omega) (by omega) (by omega) (fun m6 f6 => ?_)
        rw [S5, X5]
        have fn := fin m6 f6
        have er : seeF X (S 4) (nmv S e (S 2 + x2 + 1) (S (20 + 8 * e + 3)) x4 (c % 8) ((c / 8 : Nat) : Int)) = seeF X (S 4) (nmv S e (S 2 + (k : Int) + 1) (S (20 + 8 * e + 3)) (cm4 K) (c % 8) ((c / 8 : Nat) : Int)) := by rw [e2, c4]
        rw [er]
        have w4 := hw.2.2.2.1
        have sm9 := nmv_sm hw he (hr := S 2 + (k : Int) + 1) (sn := S (20 + 8 * e + 3)) (mny := cm4 K) (by omega) (hw.since he) (by unfold cm4; omega) (th := c % 8) (by omega) (who := ((c / 8 : Nat) : Int)) (by omega)
        have s01 := seeF_01 (X := X) (T := S 4) (fun h => hW _ (by omega)) sm9
        refine eqI (by omega) (fun z2 => ?_) (fun z2 => ?_)
        · refine next m6 fn.1 fn.2.1 ?_
          rw [show stp S X e k c K = K by unfold stp; rw [if_neg (fun w => w.2 z2)]]
          exact fn.2.2
        · have S6 : m6 305 = S := (fn.1 305 (by omega) (by omega) (by omega) (by omega)).trans hS
          have R6 : m6 315 k = (c : Int) := by rw [fn.1 315 (by omega) (by omega) (by omega) (by omega)]; exact hrow
          have es : stp S X e k c K = ch4 (S (20 + 8 * e + 1)) ((c % 8 : Nat) : Int) K := by unfold stp; rw [if_pos ⟨z, z2⟩]
          rw [es] at next
          refine c_get (20 + 8 * e + 1) (by omega) (by omega) ?_
          rw [S6]
          rcases hch with hch | hch
          · rw [hch]
            refine g_X8_goOn_136 _ _ (ltF (by omega) (c_shift k c e2 hk R6 hc K fn.2.2 (fun m7 a1 a2 a3 => g_X8_goOn_136 _ _ (ltT (by omega) (next m7 (fun a h1 h2 h3 h4 => (a1 a h4).trans (fn.1 a h1 h2 h3 h4)) (fun j hj => (a2 j hj).trans (fn.2.1 j hj)) ?_)))))
            rw [hch]
            exact a3
          · rw [hch]
            refine g_X8_goOn_136 _ _ (ltF (by omega) (c_shift k c e2 hk R6 hc K fn.2.2 (fun m7 a1 a2 a3 => g_X8_goOn_136 _ _ (ltF (by omega) (c_shift k c e2 hk ((by rw [a1 315 (by omega)]; exact R6)) hc _ a3 (fun m8 b1 b2 b3 => g_X8_goOn_136 _ _ (ltT (by omega) (next m8 (fun a h1 h2 h3 h4 => (b1 a h4).trans ((a1 a h4).trans (fn.1 a h1 h2 h3 h4))) (fun j hj => (b2 j hj).trans ((a2 j hj).trans (fn.2.1 j hj))) ?_))))))))
            rw [hch]
            exact b3
      · have fn := fin m5 (fun _ _ _ _ => rfl)
        refine next m5 fn.1 fn.2.1 ?_
        rw [show stp S X e k c K = K by unfold stp; rw [if_neg (fun w => z w.1)]]
        exact fn.2.2
  exact loop 4 0 0 0 (by omega) rfl rfl
end How1
