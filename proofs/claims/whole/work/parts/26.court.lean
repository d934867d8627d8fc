/-! ===== the class's courts ===== -/
theorem cpm_c {m : MM} {c0 sp c1 dp n a : Nat} (h : a ≠ c1) : cpm m c0 sp c1 dp n a = m a := by funext b; simp [cpm, h]
def mvW (W : Nat → Nat → Int) (e : Nat) (who hr : Int) : Nat → Nat → Int := fun e' q => if e' = e ∧ q = 0 then who else if e' = e ∧ q = 1 then hr else W e' q
def swW (W : Nat → Nat → Int) (hr : Int) (i j : Nat) : Nat → Nat → Int := mvW (mvW W i (W j 0) hr) j (W i 0) hr
theorem mvW_k {W : Nat → Nat → Int} {e e' q : Nat} {who hr : Int} (hq : 2 ≤ q) : mvW W e who hr e' q = W e' q := by
  unfold mvW
  rw [if_neg (by omega), if_neg (by omega)]
theorem mvW_pk {W : Nat → Nat → Int} {e e' : Nat} {who hr : Int} : pkW (mvW W e who hr) e' = pkW W e' := by
  unfold pkW
  rw [mvW_k (by omega), mvW_k (by omega), mvW_k (by omega), mvW_k (by omega)]
/-- the set of those among the first n that one wears -/
def wset (f : Nat → Int) (who : Int) : Nat → Nat
  | 0 => 0
  | n + 1 => wset f who n + if f n = who then 2 ^ n else 0
theorem wset_lt (f : Nat → Int) (who : Int) (n : Nat) : wset f who n < 2 ^ n := by
  induction n with
  | zero => simp [wset]
  | succ n ih =>
    unfold wset
    rw [Nat.pow_succ]
    split <;> omega
section Court
variable {G : GG} {d : Nat} {m : MM}
theorem c0_copyFrom {k : MM → Prop} (c0 c1 : Nat) (h0 : SH c0 = .inr 0) (h1 : SH c1 = .inr 0) (ha : c1 + 4 ≤ c0 ∨ c0 + 4 ≤ c1) (h : ∀ m', (∀ hr W, Crt m c1 hr W → Crt m' c0 hr W) → (∀ c, c < c0 ∨ c0 + 4 ≤ c → m' c = m c) → k m') : N G (d + 1) mi_X0_copyFrom 0 [some (vr c0), some (vr c1)] [] m (RV k) := by
  refine g_X0_copyFrom_0 _ h0 _ h1 (fun m1 e1 m2 e2 m3 e3 m4 e4 => ?_)
  have f1 : ∀ c, c ≠ c0 → m1 c = m c := fun c hc => by rw [e1, upm_c hc]
  have f2 : ∀ c, c ≠ c0 + 1 → m2 c = m1 c := fun c hc => by rw [e2, cpm_c hc]
  have f3 : ∀ c, c ≠ c0 + 2 → m3 c = m2 c := fun c hc => by rw [e3, cpm_c hc]
  have f4 : ∀ c, c ≠ c0 + 3 → m4 c = m3 c := fun c hc => by rw [e4, cpm_c hc]
  refine h m4 (fun hr W hc => ⟨?_, fun e he => ⟨?_, ?_, ?_⟩⟩) (fun c hc => by rw [f4 c (by omega), f3 c (by omega), f2 c (by omega), f1 c (by omega)])
  · rw [f4 c0 (by omega), f3 c0 (by omega), f2 c0 (by omega), e1, ← hc.1]
    simp [upm]
  · rw [f4 _ (by omega), f3 _ (by omega), e2]
    have : cpm m1 (c1 + 1) 0 (c0 + 1) 0 8 (c0 + 1) e = m1 (c1 + 1) e := by simp [cpm, he]
    rw [this, f1 _ (by omega)]
    exact (hc.2 e he).1
  · rw [f4 _ (by omega), e3]
    have : cpm m2 (c1 + 2) 0 (c0 + 2) 0 8 (c0 + 2) e = m2 (c1 + 2) e := by simp [cpm, he]
    rw [this, f2 _ (by omega), f1 _ (by omega)]
    exact (hc.2 e he).2.1
  · rw [e4]
    have : cpm m3 (c1 + 3) 0 (c0 + 3) 0 8 (c0 + 3) e = m3 (c1 + 3) e := by simp [cpm, he]
    rw [this, f3 _ (by omega), f2 _ (by omega), f1 _ (by omega)]
    exact (hc.2 e he).2.2
theorem c0_move {k : MM → Prop} {x1 x2 : Int} (c : Nat) (h0 : SH c = .inr 0) (i : Nat) (e : x1 = (i : Int)) (hi : i < 8) (h : ∀ m', (∀ hr W, Crt m c hr W → Crt m' c hr (mvW W i x2 hr)) → (∀ j, j ≠ c + 1 → j ≠ c + 2 → m' j = m j) → k m') : N G d mi_X0_move 0 [some (vr c), some (vi x1), some (vi x2)] [] m (RV k) := by
  refine g_X0_move_0 _ h0 _ _ ⟨i, ⟨e, hi⟩, fun m1 e1 => ⟨i, ⟨e, hi⟩, fun m3 e3 => ?_⟩⟩
  have f1 : ∀ j, j ≠ c + 1 → m1 j = m j := fun j hj => by rw [e1, upm_c hj]
  have f3 : ∀ j, j ≠ c + 2 → m3 j = m1 j := fun j hj => by rw [e3, upm_c hj]
  refine h m3 (fun hr W hc => ⟨?_, fun e' he => ⟨?_, ?_, ?_⟩⟩) (fun j h1 h2 => by rw [f3 j h2, f1 j h1])
  · rw [f3 c (by omega), f1 c (by omega)]
    exact hc.1
  · rw [f3 _ (by omega), e1]
    unfold mvW
    by_cases q : e' = i
    · subst q; simp [upm]
    · have := (hc.2 e' he).1
      simpa [upm, q] using this
  · rw [e3, f1 c (by omega), hc.1]
    unfold mvW
    by_cases q : e' = i
    · subst q; simp [upm]
    · have := (hc.2 e' he).2.1
      have e5 : upm m1 (c + 2) i hr (c + 2) e' = m1 (c + 2) e' := by simp [upm, q]
      rw [e5, f1 _ (by omega), this]
      simp [q]
  · rw [f3 _ (by omega), f1 _ (by omega), mvW_pk]
    exact (hc.2 e' he).2.2
theorem c0_exchange {k : MM → Prop} {x1 x2 : Int} (c : Nat) (h0 : SH c = .inr 0) (i j : Nat) (ei : x1 = (i : Int)) (ej : x2 = (j : Int)) (hi : i < 8) (hj : j < 8) (h : ∀ m', (∀ hr W, Crt m c hr W → Crt m' c hr (swW W hr i j)) → (∀ q, q ≠ c + 1 → q ≠ c + 2 → m' q = m q) → k m') : N G (d + 1) mi_X0_exchange 0 [some (vr c), some (vi x1), some (vi x2), none] [] m (RV k) := by
  refine g_X0_exchange_0 _ h0 _ _ ⟨i, ⟨ei, hi⟩, j, ⟨ej, hj⟩, ?_⟩
  refine c0_move c h0 i ei hi (fun m1 a1 b1 => ?_)
  refine c0_move c h0 j ej hj (fun m2 a2 b2 => ?_)
  refine h m2 (fun hr W hc => ?_) (fun q h1 h2 => by rw [b2 q h1 h2, b1 q h1 h2])
  have := a2 _ _ (a1 _ _ hc)
  rw [(hc.2 j hj).1, (hc.2 i hi).1] at this
  exact this
theorem c0_wornSet {k : Int → MM → Prop} {x1 : Int} (c : Nat) (h0 : SH c = .inr 0) (hx : rng x1) (hr : ∀ e, e < 8 → rng (m (c + 1) e)) (h : k (wset (m (c + 1)) x1 8 : Nat) m) : N G d mi_X0_wornSet 0 [some (vr c), some (vi x1), none, none] [] m (RI k) := by
  have loop : ∀ (n q : Nat) (x2 x3 : Int), q + n = 8 → x2 = (wset (m (c + 1)) x1 q : Nat) → x3 = (q : Int) → N G d mi_X0_wornSet 4 [some (vr c), some (vi x1), some (vi x2), some (vi x3)] [] m (RI k) := by
    intro n
    induction n with
    | zero =>
      intro q x2 x3 hq h2 h3
      have : q = 8 := by omega
      subst this
      subst h2
      exact g_X0_wornSet_4 _ h0 _ _ _ (leT (by omega) h)
    | succ n ih =>
      intro q x2 x3 hq h2 h3
      refine g_X0_wornSet_4 _ h0 _ _ _ (leF (by omega) ⟨q, by omega, eqI ⟨hr q (by omega), hx⟩ (fun z => ?_) (fun z => ?_)⟩)
      · refine ih (q + 1) _ _ (by omega) ?_ (by omega)
        rw [h2, h3, ior_hi (wset_lt _ _ _) (by omega), wset, if_pos z]
      · refine ih (q + 1) _ _ (by omega) ?_ (by omega)
        rw [h2, wset, if_neg z]
        rfl
  exact g_X0_wornSet_0 _ h0 _ (loop 8 0 _ _ rfl rfl rfl)
/-- places of the first n that hold something, by the number's own places -/
def cntP (p : Nat) : Nat → Int
  | 0 => 0
  | n + 1 => cntP p n + if p / 2 ^ (4 * n) % 16 = 0 then 0 else 1
theorem c0_howMuch {k : Int → MM → Prop} {x0 : Int} (p : Nat) (e : x0 = (p : Int)) (hp : p < 65536) (h : k (cntP p 4) m) : N G d mi_X0_howMuch 0 [some (vi x0), none, none] [] m (RI k) := by
  subst e
  have loop : ∀ (n q : Nat) (x1 x2 : Int), q + n = 4 → x1 = cntP p q → x2 = (q : Int) → N G d mi_X0_howMuch 4 [some (vi (p : Int)), some (vi x1), some (vi x2)] [] m (RI k) := by
    intro n
    induction n with
    | zero =>
      intro q x1 x2 hq h1 h2
      have : q = 4 := by omega
      subst this
      subst h1
      exact g_X0_howMuch_4 _ _ _ (leT (by omega) h)
    | succ n ih =>
      intro q x1 x2 hq h1 h2
      have e4 : iand (ishr (p : Int) (4 * x2)) 15 = ((p / 2 ^ (4 * q) % 16 : Nat) : Int) := by rw [h2]; exact nib_n hp (by omega)
      have hb : p / 2 ^ (4 * q) % 16 < 16 := Nat.mod_lt _ (by omega)
      refine g_X0_howMuch_4 _ _ _ (leF (by omega) (eqI (by rw [e4]; omega) (fun z => ?_) (fun z => ?_)))
      · rw [e4] at z
        exact ih (q + 1) _ _ (by omega) (by rw [h1, cntP, if_pos (by omega)]; omega) (by omega)
      · rw [e4] at z
        exact ih (q + 1) _ _ (by omega) (by rw [h1, cntP, if_neg (by omega)]) (by omega)
  exact g_X0_howMuch_0 _ (loop 4 0 _ _ rfl rfl rfl)
theorem pk_p {a b c d : Int} {p : Nat} (ha : th a) (hb : th b) (hc : th c) (hd : th d) (hp : pk a b c d = (p : Int)) : (p % 16 : Nat) = a + 1 ∧ (p / 16 % 16 : Nat) = b + 1 ∧ (p / 256 % 16 : Nat) = c + 1 ∧ (p / 4096 % 16 : Nat) = d + 1 := by
  unfold pk at hp
  omega
theorem cntP_pk {a b c d : Int} {p : Nat} (ha : th a) (hb : th b) (hc : th c) (hd : th d) (hp : pk a b c d = (p : Int)) : cntP p 4 = cnt (fun q => pl a b c d q) 4 := by
  obtain ⟨h1, h2, h3, h4⟩ := pk_p ha hb hc hd hp
  simp only [cntP, cnt, pl]
  show 0 + (if p / 1 % 16 = 0 then 0 else 1) + (if p / 16 % 16 = 0 then 0 else 1) + (if p / 256 % 16 = 0 then 0 else 1) + (if p / 4096 % 16 = 0 then 0 else 1) = _
  have e1 : (p / 1 % 16 = 0) ↔ a < 0 := by rw [Nat.div_one]; omega
  have e2 : (p / 16 % 16 = 0) ↔ b < 0 := by omega
  have e3 : (p / 256 % 16 = 0) ↔ c < 0 := by omega
  have e4 : (p / 4096 % 16 = 0) ↔ d < 0 := by omega
  simp only [e1, e2, e3, e4]
theorem c0_many {k : Int → MM → Prop} {x0 a b c e : Int} (e0 : x0 = pk a b c e) (ha : th a) (hb : th b) (hc : th c) (hd : th e) (h : k (cnt (fun q => pl a b c e q) 4) m) : N G d mi_X0_howMuch 0 [some (vi x0), none, none] [] m (RI k) := by
  obtain ⟨p, hp, hb2⟩ := pk_nat ha hb hc hd
  refine c0_howMuch p (e0.trans hp) hb2 ?_
  rw [cntP_pk ha hb hc hd hp]
  exact h
theorem c0_atPlace {k : Int → MM → Prop} {x0 x1 a b c e : Int} (e0 : x0 = pk a b c e) (ha : th a) (hb : th b) (hc : th c) (hd : th e) (q : Nat) (e1 : x1 = (q : Int)) (hq : q < 4) (h : k (pl a b c e q) m) : N G d mi_X0_atPlace 0 [some (vi x0), some (vi x1)] [] m (RI k) := by
  refine g_X0_atPlace_0 _ _ ?_
  rw [e0, e1, pk_at ha hb hc hd hq, show pl a b c e q + 1 - 1 = pl a b c e q by omega]
  exact h
theorem c0_withAhead {k : Int → MM → Prop} {x0 x1 a b c e : Int} (e0 : x0 = pk a b c e) (ha : th a) (hb : th b) (hc : th c) (hd : th e) (ht : th x1) (h : k (pk x1 a b c) m) : N G d mi_X0_withAhead 0 [some (vi x0), some (vi x1)] [] m (RI k) := by
  refine g_X0_withAhead_0 _ _ ?_
  rw [e0, pk_ahead ha hb hc hd ht]
  exact h
/-- an eye forgets -/
def fgW (W : Nat → Nat → Int) (e : Nat) : Nat → Nat → Int := fun e' q => if e' = e ∧ 2 ≤ q then -1 else W e' q
theorem c0_forget {k : Int → MM → Prop} {x1 : Int} (c : Nat) (h0 : SH c = .inr 0) (i : Nat) (e : x1 = (i : Int)) (hi : i < 8) {hr : Int} {W : Nat → Nat → Int} (hc : Crt m c hr W) (hw : th (W i 2) ∧ th (W i 3) ∧ th (W i 4) ∧ th (W i 5)) (h : ∀ m', Crt m' c hr (fgW W i) → (∀ j, j ≠ c + 3 → m' j = m j) → k (cnt (fun q => W i (2 + q)) 4) m') : N G (d + 1) mi_X0_forget 0 [some (vr c), some (vi x1), none] [] m (RI k) := by
  refine g_X0_forget_0 _ h0 _ ⟨i, ⟨e, hi⟩, c0_many (hc.2 i hi).2.2 hw.1 hw.2.1 hw.2.2.1 hw.2.2.2 ⟨i, ⟨e, hi⟩, fun m4 e4 => ?_⟩⟩
  have ec : cnt (fun q => pl (W i 2) (W i 3) (W i 4) (W i 5) q) 4 = cnt (fun q => W i (2 + q)) 4 := by simp only [cnt, pl]
  rw [ec]
  have f : ∀ j, j ≠ c + 3 → m4 j = m j := fun j hj => by rw [e4, upm_c hj]
  refine h m4 ⟨by rw [f c (by omega)]; exact hc.1, fun e' he => ⟨by rw [f _ (by omega), (hc.2 e' he).1]; simp [fgW], by rw [f _ (by omega), (hc.2 e' he).2.1]; simp [fgW], ?_⟩⟩ f
  rw [e4]
  unfold pkW fgW
  by_cases q : e' = i
  · subst q
    simp [upm, pk_0]
  · have := (hc.2 e' he).2.2
    unfold pkW at this
    simpa [upm, q] using this
end Court
