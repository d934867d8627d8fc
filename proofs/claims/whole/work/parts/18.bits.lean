/-! ===== bits of small numbers ===== -/
theorem i32_nI (n : Nat) : i32 (n : Int) = nI n := Int32.ofInt_eq_ofNat
theorem nI_and (a b : Nat) : nI a &&& nI b = nI (a &&& b) := by
  apply Int32.toBitVec_inj.1
  show BitVec.ofNat 32 a &&& BitVec.ofNat 32 b = BitVec.ofNat 32 (a &&& b)
  apply BitVec.eq_of_getLsbD_eq
  intro i hi
  simp [hi]
theorem nI_or (a b : Nat) : nI a ||| nI b = nI (a ||| b) := by
  apply Int32.toBitVec_inj.1
  show BitVec.ofNat 32 a ||| BitVec.ofNat 32 b = BitVec.ofNat 32 (a ||| b)
  apply BitVec.eq_of_getLsbD_eq
  intro i hi
  simp [hi]
theorem nI_xor (a b : Nat) : nI a ^^^ nI b = nI (a ^^^ b) := by
  apply Int32.toBitVec_inj.1
  show BitVec.ofNat 32 a ^^^ BitVec.ofNat 32 b = BitVec.ofNat 32 (a ^^^ b)
  apply BitVec.eq_of_getLsbD_eq
  intro i hi
  simp [hi]
theorem nI_sh : ∀ n, n < 32 → ((nI n &&& 31).toBitVec.smod 32).toNat = n := by decide +kernel
theorem iand_n {a b : Nat} (h : (a &&& b) < 2147483648) : iand (a : Int) (b : Int) = ((a &&& b : Nat) : Int) := by
  unfold iand
  rw [i32_nI, i32_nI, nI_and, nI_toInt h]
theorem ior_n {a b : Nat} (h : (a ||| b) < 2147483648) : ior (a : Int) (b : Int) = ((a ||| b : Nat) : Int) := by
  unfold ior
  rw [i32_nI, i32_nI, nI_or, nI_toInt h]
theorem ixor_n {a b : Nat} (h : (a ^^^ b) < 2147483648) : ixor (a : Int) (b : Int) = ((a ^^^ b : Nat) : Int) := by
  unfold ixor
  rw [i32_nI, i32_nI, nI_xor, nI_toInt h]
theorem ishr_n {a k : Nat} (ha : a < 2147483648) (hk : k < 32) : ishr (a : Int) (k : Int) = ((a / 2 ^ k : Nat) : Int) := by
  unfold ishr
  have h2 : a / 2 ^ k ≤ a := Nat.div_le_self _ _
  rw [i32_nI, i32_nI, pk_shrN ha _ k (nI_sh k hk), nI_toInt (by omega)]
theorem ishl_n {a k : Nat} (h : a * 2 ^ k < 2147483648) (hk : k < 32) : ishl (a : Int) (k : Int) = ((a * 2 ^ k : Nat) : Int) := by
  unfold ishl
  rw [i32_nI, i32_nI, pk_shlN _ k (nI_sh k hk) (by omega), nI_toInt h]
/-- a mask of the lowest k bits -/
theorem iand_mask {a k M : Nat} (ha : a < 2147483648) (hM : M + 1 = 2 ^ k) : iand (a : Int) (M : Int) = ((a % 2 ^ k : Nat) : Int) := by
  have e : M = 2 ^ k - 1 := by omega
  subst e
  have h : (a &&& (2 ^ k - 1)) = a % 2 ^ k := Nat.and_two_pow_sub_one_eq_mod a k
  have h2 : a % 2 ^ k ≤ a := Nat.mod_le _ _
  rw [iand_n (by omega), h]
theorem bit_n {s k : Nat} (hs : s < 2147483648) (hk : k < 32) : iand (ishr (s : Int) (k : Int)) 1 = ((s / 2 ^ k % 2 : Nat) : Int) := by
  have h2 : s / 2 ^ k ≤ s := Nat.div_le_self _ _
  rw [ishr_n hs hk]
  exact iand_mask (k := 1) (M := 1) (by omega) rfl
theorem ior_0 (a : Nat) (h : a < 2147483648) : ior (a : Int) 0 = (a : Int) := by
  have : ior (a : Int) ((0 : Nat) : Int) = ((a ||| 0 : Nat) : Int) := ior_n (by simpa using h)
  simpa using this
/-- a new highest bit -/
theorem ior_hi {a k : Nat} (h : a < 2 ^ k) (hk : k < 30) : ior (a : Int) (ishl 1 (k : Int)) = ((a + 2 ^ k : Nat) : Int) := by
  have h30 : 2 ^ k < 2 ^ 30 := Nat.pow_lt_pow_right (by decide) hk
  have e1 : ishl 1 (k : Int) = ((2 ^ k : Nat) : Int) := by
    have := ishl_n (a := 1) (k := k) (by omega) (by omega)
    simpa using this
  have e2 : a ||| 2 ^ k = a + 2 ^ k := by
    have := Nat.two_pow_add_eq_or_of_lt h 1
    rw [Nat.mul_one] at this
    rw [Nat.or_comm, ← this, Nat.add_comm]
  rw [e1, ior_n (by rw [e2]; omega), e2]
theorem ishl_1 {k : Nat} (hk : k < 31) : ishl 1 (k : Int) = ((2 ^ k : Nat) : Int) := by
  have h30 : 2 ^ k < 2 ^ 31 := Nat.pow_lt_pow_right (by decide) hk
  have := ishl_n (a := 1) (k := k) (by omega) (by omega)
  simpa using this
/-- a byte of a word: as the class keeps it, as the reference does -/
theorem i2b_and (x : Int) : i2b x = if iand x 255 < 128 then iand x 255 else iand x 255 - 256 := by
  have h1 : iand x 255 = ((i32 x).toBitVec.toNat % 256 : Nat) := by
    unfold iand
    rw [pk_and (i32 x) (m := i32 255) 8 (by decide +kernel), nI_toInt (by omega)]
  have h2 : i2b x = (i32 x).toInt.bmod 256 := by
    unfold i2b
    rw [Int8.toInt_toInt32, Int32.toInt_toInt8]
  have h3 : (i32 x).toInt = if 2 * (i32 x).toBitVec.toNat < 2 ^ 32 then ((i32 x).toBitVec.toNat : Int) else ((i32 x).toBitVec.toNat : Int) - (2 ^ 32 : Nat) := BitVec.toInt_eq_toNat_cond _
  rw [h1, h2, Int.bmod_def, h3]
  split <;> split <;> split <;> omega
theorem and255 (x : Int) : 0 ≤ iand x 255 ∧ iand x 255 < 256 := by
  have h1 : iand x 255 = ((i32 x).toBitVec.toNat % 256 : Nat) := by
    unfold iand
    rw [pk_and (i32 x) (m := i32 255) 8 (by decide +kernel), nI_toInt (by omega)]
  omega
theorem idiv_n {a b : Nat} (ha : a < 2147483648) (hb : b < 2147483648) (h0 : 0 < b) : idiv (a : Int) (b : Int) = ((a / b : Nat) : Int) := by
  unfold idiv
  have h2 : a / b ≤ a := Nat.div_le_self _ _
  rw [i32_nI, i32_nI, pk_div ha h0 hb, nI_toInt (by omega)]
theorem irem_n {a b : Nat} (ha : a < 2147483648) (hb : b < 2147483648) (h0 : 0 < b) : irem (a : Int) (b : Int) = ((a % b : Nat) : Int) := by
  unfold irem
  rw [idiv_n ha hb h0]
  have h := Nat.div_add_mod a b
  have e1 : ((a / b : Nat) : Int) * (b : Int) = ((b * (a / b) : Nat) : Int) := by rw [Nat.mul_comm]; simp
  rw [e1]
  omega
/-! four things in one number -/
def pk (a b c d : Int) : Int := (a + 1) + 16 * (b + 1) + 256 * (c + 1) + 4096 * (d + 1)
abbrev th (a : Int) : Prop := -1 ≤ a ∧ a ≤ 7
theorem nib_n {p q : Nat} (hp : p < 65536) (hq : q < 4) : iand (ishr (p : Int) (4 * (q : Int))) 15 = ((p / 2 ^ (4 * q) % 16 : Nat) : Int) := by
  have e : (4 * (q : Int)) = ((4 * q : Nat) : Int) := by omega
  have h2 : p / 2 ^ (4 * q) ≤ p := Nat.div_le_self _ _
  rw [e, ishr_n (by omega) (by omega)]
  exact iand_mask (k := 4) (M := 15) (by omega) rfl
theorem pk_nat {a b c d : Int} (ha : th a) (hb : th b) (hc : th c) (hd : th d) : ∃ p : Nat, pk a b c d = (p : Int) ∧ p < 65536 := ⟨(pk a b c d).toNat, by unfold pk; omega, by unfold pk; omega⟩
def pl (a b c d : Int) (q : Nat) : Int := match q with
  | 0 => a
  | 1 => b
  | 2 => c
  | _ => d
theorem pk_at {a b c d : Int} (ha : th a) (hb : th b) (hc : th c) (hd : th d) {q : Nat} (hq : q < 4) : iand (ishr (pk a b c d) (4 * (q : Int))) 15 = pl a b c d q + 1 := by
  obtain ⟨p, hp, hb2⟩ := pk_nat ha hb hc hd
  rw [hp, nib_n hb2 hq]
  have h4 : q = 0 ∨ q = 1 ∨ q = 2 ∨ q = 3 := by omega
  unfold pk at hp
  rcases h4 with rfl | rfl | rfl | rfl
  · show ((p / 1 % 16 : Nat) : Int) = a + 1
    omega
  · show ((p / 16 % 16 : Nat) : Int) = b + 1
    omega
  · show ((p / 256 % 16 : Nat) : Int) = c + 1
    omega
  · show ((p / 4096 % 16 : Nat) : Int) = d + 1
    omega
theorem pk_inj {a b c d a' b' c' d' : Int} (ha : th a) (hb : th b) (hc : th c) (hd : th d) (ha' : th a') (hb' : th b') (hc' : th c') (hd' : th d') : pk a b c d = pk a' b' c' d' ↔ a = a' ∧ b = b' ∧ c = c' ∧ d = d' := by
  unfold pk
  constructor
  · intro h
    omega
  · rintro ⟨rfl, rfl, rfl, rfl⟩
    rfl
/-- one comes ahead -/
theorem pk_ahead {a b c d t : Int} (ha : th a) (hb : th b) (hc : th c) (hd : th d) (ht : th t) : iand (ior (ishl (pk a b c d) 4) (t + 1)) 65535 = pk t a b c := by
  obtain ⟨p, hp, hb2⟩ := pk_nat ha hb hc hd
  obtain ⟨u, hu⟩ : ∃ u : Nat, t + 1 = (u : Int) := ⟨(t + 1).toNat, by omega⟩
  have e1 : ishl (p : Int) 4 = ((p * 16 : Nat) : Int) := ishl_n (a := p) (k := 4) (by omega) (by omega)
  have e2 : (p * 16 ||| u) = p * 16 + u := by
    have := Nat.two_pow_add_eq_or_of_lt (i := 4) (b := u) (by omega) p
    rw [Nat.mul_comm] at this
    exact this.symm
  rw [hp, hu, e1, ior_n (by rw [e2]; omega), e2]
  have e3 : iand ((p * 16 + u : Nat) : Int) 65535 = (((p * 16 + u) % 65536 : Nat) : Int) := iand_mask (k := 16) (M := 65535) (by omega) rfl
  rw [e3]
  unfold pk at hp ⊢
  omega
theorem pk_0 : pk (-1) (-1) (-1) (-1) = 0 := by decide
