/-! ===== text: tokens ===== -/
theorem lN2_toInt {n : Nat} (h : n < 9223372036854775808) : (Int64.ofNat n).toInt = (n : Int) := Int64.toInt_ofNat_of_lt (by omega)
theorem i64_nat (n : Nat) : i64 (n : Int) = Int64.ofNat n := Int64.ofInt_eq_ofNat
theorem l_shl8 (w : Nat) : Int64.ofNat w <<< (8 : Int64) = Int64.ofNat (w * 256) := by
  apply Int64.toBitVec_inj.1
  rw [Int64.toBitVec_shiftLeft]
  show BitVec.ofNat 64 w <<< (8#64).smod 64#64 = BitVec.ofNat 64 (w * 256)
  rw [show (8#64).smod 64#64 = 8#64 by decide]
  apply BitVec.eq_of_toNat_eq
  rw [BitVec.shiftLeft_eq', BitVec.toNat_shiftLeft, BitVec.toNat_ofNat, BitVec.toNat_ofNat, Nat.shiftLeft_eq]
  show w % 2 ^ 64 * 256 % 2 ^ 64 = w * 256 % 2 ^ 64
  omega
theorem l_or (a b : Nat) : Int64.ofNat a ||| Int64.ofNat b = Int64.ofNat (a ||| b) := by
  apply Int64.toBitVec_inj.1
  show BitVec.ofNat 64 a ||| BitVec.ofNat 64 b = BitVec.ofNat 64 (a ||| b)
  apply BitVec.eq_of_getLsbD_eq
  intro i hi
  simp [hi]
theorem l_pack {w z : Nat} (hw : w < 281474976710656) (hz : z < 256) : lorr (lshl (w : Int) 8) (z : Int) = ((w * 256 + z : Nat) : Int) := by
  have e1 : lshl (w : Int) 8 = ((w * 256 : Nat) : Int) := by
    unfold lshl
    rw [show ((i32 8).toInt64 &&& 63) = 8 by decide +kernel, i64_nat, l_shl8, lN2_toInt (by omega)]
  have e2 : (w * 256 ||| z) = w * 256 + z := by
    have := Nat.two_pow_add_eq_or_of_lt (i := 8) (b := z) (by omega) w
    rw [Nat.mul_comm] at this
    exact this.symm
  unfold lorr
  rw [e1, i64_nat, i64_nat, l_or, e2, lN2_toInt (by omega)]
abbrev isLt (x : Int) : Prop := (97 ≤ x ∧ x ≤ 122) ∨ (65 ≤ x ∧ x ≤ 90)
abbrev isDg (x : Int) : Prop := 48 ≤ x ∧ x ≤ 57
theorem sby_lt {z : Int} (h : 0 ≤ z ∧ z < 256) : isLt (sby z) ↔ isLt z := by unfold sby; split <;> omega
theorem sby_dg {z : Int} (h : 0 ≤ z ∧ z < 256) : isDg (sby z) ↔ isDg z := by unfold sby; split <;> omega
theorem sby_eq {z c : Int} (h : 0 ≤ z ∧ z < 256) (hc : 0 ≤ c ∧ c < 128) : sby z = c ↔ z = c := by unfold sby; split <;> omega
/-- where blanks, letters, figures end -/
def skp (b : Nat → Int) : Nat → Nat → Nat
  | 0, p => p
  | n + 1, p => if b p = 32 ∨ b p = 10 then skp b n (p + 1) else p
def runL (b : Nat → Int) : Nat → Nat → Nat
  | 0, p => p
  | n + 1, p => if isLt (b p) then runL b n (p + 1) else p
def runD (b : Nat → Int) : Nat → Nat → Nat
  | 0, p => p
  | n + 1, p => if isDg (b p) then runD b n (p + 1) else p
theorem skp_bd (b : Nat → Int) : ∀ n p, p ≤ skp b n p ∧ skp b n p ≤ p + n := by
  intro n
  induction n with
  | zero => intro p; unfold skp; omega
  | succ n ih => intro p; unfold skp; have := ih (p + 1); split <;> omega
theorem runL_bd (b : Nat → Int) : ∀ n p, p ≤ runL b n p ∧ runL b n p ≤ p + n := by
  intro n
  induction n with
  | zero => intro p; unfold runL; omega
  | succ n ih => intro p; unfold runL; have := ih (p + 1); split <;> omega
theorem runD_bd (b : Nat → Int) : ∀ n p, p ≤ runD b n p ∧ runD b n p ≤ p + n := by
  intro n
  induction n with
  | zero => intro p; unfold runD; omega
  | succ n ih => intro p; unfold runD; have := ih (p + 1); split <;> omega
theorem runL_all (b : Nat → Int) : ∀ n p j, p ≤ j → j < runL b n p → isLt (b j) := by
  intro n
  induction n with
  | zero => intro p j h1 h2; unfold runL at h2; omega
  | succ n ih =>
    intro p j h1 h2
    unfold runL at h2
    split at h2
    · rename_i h
      by_cases e : j = p
      · rw [e]; exact h
      · exact ih (p + 1) j (by omega) h2
    · omega
theorem runD_all (b : Nat → Int) : ∀ n p j, p ≤ j → j < runD b n p → isDg (b j) := by
  intro n
  induction n with
  | zero => intro p j h1 h2; unfold runD at h2; omega
  | succ n ih =>
    intro p j h1 h2
    unfold runD at h2
    split at h2
    · rename_i h
      by_cases e : j = p
      · rw [e]; exact h
      · exact ih (p + 1) j (by omega) h2
    · omega
/-- where the token at q ends -/
def en (b : Nat → Int) (L q : Nat) : Nat := if isLt (b q) then runL b (L - (q + 1)) (q + 1) else if isDg (b q) then runD b (L - (q + 1)) (q + 1) else if (b q = 60 ∨ b q = 62) ∧ q + 1 < L ∧ b (q + 1) = 61 then q + 2 else q + 1
theorem en_bd (b : Nat → Int) {L q : Nat} (h : q < L) : q < en b L q ∧ en b L q ≤ L := by
  have h1 := runL_bd b (L - (q + 1)) (q + 1)
  have h2 := runD_bd b (L - (q + 1)) (q + 1)
  unfold en
  split
  · omega
  · split
    · omega
    · split <;> omega
/-- where token number i is looked for -/
def ps (b : Nat → Int) (L : Nat) : Nat → Nat
  | 0 => 0
  | i + 1 => if skp b (L - ps b L i) (ps b L i) < L then en b L (skp b (L - ps b L i) (ps b L i)) else skp b (L - ps b L i) (ps b L i)
def plI (b : Nat → Int) (L i : Nat) : Nat := skp b (L - ps b L i) (ps b L i)
theorem ps_s (b : Nat → Int) (L i : Nat) : ps b L (i + 1) = if plI b L i < L then en b L (plI b L i) else plI b L i := rfl
theorem ps_le (b : Nat → Int) (L : Nat) : ∀ i, ps b L i ≤ L := by
  intro i
  induction i with
  | zero => exact Nat.zero_le _
  | succ i ih =>
    rw [ps_s]
    have h1 := skp_bd b (L - ps b L i) (ps b L i)
    have h2 : plI b L i = skp b (L - ps b L i) (ps b L i) := rfl
    split
    · rename_i h; exact (en_bd b h).2
    · omega
theorem pl_le (b : Nat → Int) (L i : Nat) : ps b L i ≤ plI b L i ∧ plI b L i ≤ L := by
  have h1 := skp_bd b (L - ps b L i) (ps b L i)
  have h2 : plI b L i = skp b (L - ps b L i) (ps b L i) := rfl
  have h3 := ps_le b L i
  omega
/-- letters packed -/
def pck (b : Nat → Int) (q : Nat) : Nat → Int
  | 0 => 0
  | n + 1 => pck b q n * 256 + b (q + n)
def wdv (b : Nat → Int) (q e : Nat) : Int := if e - q ≤ 7 then pck b q (e - q) else 0
/-- figures: the class's number, the reference's -/
def nmC (b : Nat → Int) (q : Nat) : Nat → Int
  | 0 => 0
  | n + 1 => imin (nmC b q n * 10 + b (q + n) - 48) 10000
def nmR (b : Nat → Int) (q : Nat) : Nat → Int
  | 0 => 0
  | n + 1 => if nmR b q n < 100000 then 10 * nmR b q n + b (q + n) - 48 else nmR b q n
def NmR (c r : Int) : Prop := (0 ≤ c ∧ c ≤ 10000) ∧ (c ≤ 9999 → r = c) ∧ (9999 < c → 9999 < r) ∧ 0 ≤ r ∧ r < 1000000
theorem nm_rel (b : Nat → Int) (q : Nat) : ∀ n, (∀ j, q ≤ j → j < q + n → isDg (b j)) → NmR (nmC b q n) (nmR b q n) := by
  intro n
  induction n with
  | zero => intro _; unfold NmR nmC nmR; omega
  | succ n ih =>
    intro h
    have i1 := ih (fun j h1 h2 => h j h1 (by omega))
    have hd := h (q + n) (by omega) (by omega)
    unfold NmR at i1 ⊢
    rw [nmC, nmR]
    have im : ∀ x : Int, imin x 10000 = if x ≤ 10000 then x else 10000 := fun x => by unfold imin; split <;> split <;> omega
    rw [im]
    split <;> split <;> omega
def cwL : List Int := [1936024947, 1920295539, 500086170472, 7370100, 110442424264050, 1937203568, 123623862530920, 25209, 28526, 2003399784, 28530, 6385252, 7237492, 6650213, 109330211763570, 27980824761623908, 1752135026, 495690081125, 1835101817, 499967946343, 1802071652, 7825519]
def twF (w : Int) : List Int → Int → Int
  | [], _ => 37
  | c :: l, t => if w = c then t else twF w l (t + 1)
/-- the class's token of a packed word -/
def tw (w : Int) : Int := twF w cwL 0
theorem twF_is {w : Int} : ∀ (l : List Int) (t k : Int), l.Nodup → 0 ≤ t → t + l.length ≤ 37 → (twF w l t = k ∧ k ≠ 37 ↔ ∃ j : Nat, l[j]? = some w ∧ k = t + j) := by
  intro l
  induction l with
  | nil =>
    intro t k _ _ _
    unfold twF
    constructor
    · rintro ⟨h1, h2⟩; omega
    · rintro ⟨j, h, _⟩; simp at h
  | cons c l ih =>
    intro t k hn h0 hl
    rw [List.nodup_cons] at hn
    have hl' : t + 1 + (l.length : Int) ≤ 37 := by simp at hl; omega
    unfold twF
    by_cases e : w = c
    · rw [if_pos e]
      constructor
      · rintro ⟨h1, h2⟩
        exact ⟨0, by simp [e], by omega⟩
      · rintro ⟨j, h1, h2⟩
        cases j with
        | zero => exact ⟨by omega, by omega⟩
        | succ j =>
          simp at h1
          have : w ∈ l := List.mem_of_getElem? h1
          rw [e] at this
          exact absurd this hn.1
    · rw [if_neg e, ih (t + 1) k hn.2 (by omega) hl']
      constructor
      · rintro ⟨j, h1, h2⟩
        exact ⟨j + 1, by simpa using h1, by omega⟩
      · rintro ⟨j, h1, h2⟩
        cases j with
        | zero => simp at h1; exact absurd h1.symm e
        | succ j => exact ⟨j, by simpa using h1, by omega⟩
theorem cwL_nd : cwL.Nodup := by decide +kernel
theorem cwL_len : cwL.length = 22 := rfl
theorem tw_iff {w : Int} {k : Nat} (hk : k < 22) : tw w = (k : Int) ↔ w = cwL.getD k 0 := by
  have h := twF_is (w := w) cwL 0 (k : Int) cwL_nd (by omega) (by rw [cwL_len]; omega)
  have e : cwL[k]? = some (cwL.getD k 0) := by
    rw [List.getD_eq_getElem?_getD]
    rw [List.getElem?_eq_getElem (by rw [cwL_len]; exact hk)]
    rfl
  constructor
  · intro q
    obtain ⟨j, h1, h2⟩ := h.mp ⟨q, by omega⟩
    have : j = k := by omega
    subst this
    rw [e] at h1
    exact (Option.some.inj h1).symm
  · intro q
    exact (h.mpr ⟨k, by rw [e, q], by omega⟩).1
theorem tw_rng (w : Int) : (0 ≤ tw w ∧ tw w < 22) ∨ tw w = 37 := by
  by_cases q : tw w = 37
  · exact Or.inr q
  · have h := twF_is (w := w) cwL 0 (tw w) cwL_nd (by omega) (by rw [cwL_len]; omega)
    obtain ⟨j, h1, h2⟩ := h.mp ⟨rfl, q⟩
    have := (List.getElem?_eq_some_iff.mp h1).1
    rw [cwL_len] at this
    omega
/-- the class's token at q -/
def tkB (b : Nat → Int) (L q : Nat) : Int := if isLt (b q) then tw (wdv b q (en b L q)) else if isDg (b q) then 35 else
  if b q = 60 then (if en b L q = q + 2 then 23 else 22) else if b q = 62 then (if en b L q = q + 2 then 25 else 24) else if b q = 61 then 26 else if b q = 35 then 27 else if b q = 43 then 28 else if b q = 45 then 29 else if b q = 42 then 30 else if b q = 47 then 31 else if b q = 40 then 32 else if b q = 41 then 33 else if b q = 59 then 34 else 37
def nbB (b : Nat → Int) (L q : Nat) : Int := if isDg (b q) then nmC b q (en b L q - q) else 0
def tkI (b : Nat → Int) (L i : Nat) : Int := if plI b L i < L then tkB b L (plI b L i) else 36
def nbI (b : Nat → Int) (L i : Nat) : Int := nbB b L (plI b L i)
/-- the reference's token of the class's -/
def rtc (t : Int) : Int := if t = 22 then 60 else if t = 23 then 4 else if t = 24 then 62 else if t = 25 then 5 else if t = 26 then 61 else if t = 27 then 35 else if t = 28 then 43 else if t = 29 then 45 else if t = 30 then 42 else if t = 31 then 47 else if t = 32 then 40 else if t = 33 then 41 else if t = 34 then 59 else if t = 35 then 1 else 0
def RTk (t rt w : Int) : Prop := (rt = 2 ∧ t = tw w ∧ 0 ≤ w ∧ w < 72057594037927936) ∨ (t = 37 ∧ rt = 3) ∨ ((22 ≤ t ∧ t ≤ 36) ∧ rt = rtc t)
