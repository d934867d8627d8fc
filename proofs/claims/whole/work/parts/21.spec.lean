/-! ===== what the memory means =====
S : Nat → Int is a standing as the reference lays it out: 0 things, 1 eyes, 2 hour, 3 texts, 4 the text, 5 steps, 6 shown, 8+ kinds, 16+ shown things, 20+8e an eye (colour, chipped, worn, since, four places), 84+50k a step (eyes, hour, six numbers an eye).
W : Nat → Nat → Int are the eyes' six moving numbers. -/
def nowW (S : Nat → Int) (e q : Nat) : Int := S (20 + 8 * e + 2 + q)
def stW (S : Nat → Int) (k e q : Nat) : Int := S (84 + 50 * k + 2 + 6 * e + q)
def pkW (W : Nat → Nat → Int) (e : Nat) : Int := pk (W e 2) (W e 3) (W e 4) (W e 5)
/-- a Court object shows an hour and the eyes -/
def Crt (m : MM) (c : Nat) (hr : Int) (W : Nat → Nat → Int) : Prop := m c 0 = hr ∧ ∀ e, e < 8 → m (c + 1) e = W e 0 ∧ m (c + 2) e = W e 1 ∧ m (c + 3) e = pkW W e
/-- how many of the first n eyes one wears -/
def wcnt (f : Nat → Int) (who : Int) : Nat → Nat
  | 0 => 0
  | n + 1 => wcnt f who n + if f n = who then 1 else 0
def eyeOK (C : Int) (w : Nat → Int) : Prop := -1 ≤ w 0 ∧ w 0 < C ∧ 0 ≤ w 1 ∧ w 1 ≤ 999 ∧ th (w 2) ∧ th (w 3) ∧ th (w 4) ∧ th (w 5)
def eye0 (w : Nat → Int) : Prop := w 0 = -1 ∧ w 1 = 0 ∧ w 2 = -1 ∧ w 3 = -1 ∧ w 4 = -1 ∧ w 5 = -1
def WfV (C n hr : Int) (W : Nat → Nat → Int) : Prop := 0 ≤ hr ∧ hr ≤ 999 ∧ (∀ e, e < 8 → eyeOK C (W e)) ∧ (∀ e : Nat, e < 8 → n ≤ (e : Int) → eye0 (W e)) ∧ (∀ who, 0 ≤ who → wcnt (fun e => W e 0) who 8 ≤ 2)
def shw (S : Nat → Int) (k : Nat) : Int := if (k : Int) < S 6 then S (16 + k) else -1
def WfS (C : Int) (S : Nat → Int) : Prop :=
  (0 ≤ S 0 ∧ S 0 ≤ 8) ∧ (0 ≤ S 1 ∧ S 1 ≤ 8) ∧ (0 ≤ S 3 ∧ S 3 ≤ 4) ∧ (-1 ≤ S 4 ∧ S 4 < S 3) ∧ (0 ≤ S 5 ∧ S 5 ≤ 30) ∧ (0 ≤ S 6 ∧ S 6 ≤ 4) ∧
  (∀ j, j < 8 → 0 ≤ S (8 + j) ∧ S (8 + j) ≤ 3) ∧ (∀ k : Nat, k < 4 → (k : Int) < S 6 → 0 ≤ S (16 + k) ∧ S (16 + k) < S 0) ∧
  (∀ e, e < 8 → (0 ≤ S (20 + 8 * e) ∧ S (20 + 8 * e) ≤ 3) ∧ (S (20 + 8 * e + 1) = 0 ∨ S (20 + 8 * e + 1) = 1)) ∧
  WfV C (S 1) (S 2) (nowW S) ∧
  (∀ k : Nat, (k : Int) < S 5 → (0 ≤ S (84 + 50 * k) ∧ S (84 + 50 * k) ≤ S 1) ∧ WfV C (S (84 + 50 * k)) (S (84 + 50 * k + 1)) (stW S k))
/-- a Past object keeps the steps -/
def Pst (m : MM) (p : Nat) (S : Nat → Int) : Prop := m p 2 = S 5 ∧ ∃ nx : Nat, nx < 30 ∧ m p 1 = (nx : Int) ∧ ∀ k : Nat, (k : Int) < S 5 → ∀ r : Nat, (r : Int) = (nx + 30 - S 5 + k) % 30 → Crt m (p + 2 + 4 * r) (S (84 + 50 * k + 1)) (stW S k)
/-- a Standing object -/
def Std (m : MM) (c : Nat) (S : Nat → Int) : Prop :=
  m c 0 = S 0 ∧ m c 2 = S 1 ∧ m c 5 = S 3 ∧ m c 6 = S 4 ∧ m c 7 = S 6 ∧ m c 8 = pk (shw S 0) (shw S 1) (shw S 2) (shw S 3) ∧
  (∀ j, j < 8 → m (c + 1) j = S (8 + j)) ∧ (∀ e, e < 8 → m (c + 2) e = S (20 + 8 * e) ∧ m (c + 3) e = S (20 + 8 * e + 1)) ∧
  Crt m (c + 4) (S 2) (nowW S) ∧ Pst m (c + 8) S
/-! texts: the reference's row X, the class's Script at 284 + 5t -/
/-- a law's sign as the class writes it -/
def enc (o v : Int) : Int := if o = 0 then v else if o = 1 then -14 - v else if o = 2 then -39 else if o = 3 then -29 else if o = 4 then -30 else if o = 5 then -31 else if o = 6 then -32 else if o = 10 then -23 else if o = 11 then -24 else if o = 12 then -25 else if o = 13 then -26 else if o = 14 then -27 else if o = 15 then -28 else if o = 20 then -13 else if o = 21 then -12 else -11
/-- the heights of a law's two piles (truths, numbers) behind its signs from i on, n of them; all along 32 at most together -/
def chk (X : Nat → Int) (b : Nat) : Nat → Nat → Nat → Nat → Option (Nat × Nat)
  | 0, _, t, v => some (t, v)
  | n + 1, i, t, v =>
    let o := X (b + 75 + 2 * i)
    let w := X (b + 75 + 2 * i + 1)
    if 32 < t + v then none
    else if o = 0 then (if 0 ≤ w ∧ w ≤ 9999 ∧ t + v < 32 then chk X b n (i + 1) t (v + 1) else none)
    else if o = 1 then (if 0 ≤ w ∧ w ≤ 8 ∧ t + v < 32 then chk X b n (i + 1) t (v + 1) else none)
    else if o = 2 then (if 1 ≤ v then chk X b n (i + 1) t v else none)
    else if o = 3 ∨ o = 4 ∨ o = 5 ∨ o = 6 then (if 2 ≤ v then chk X b n (i + 1) t (v - 1) else none)
    else if o = 10 ∨ o = 11 ∨ o = 12 ∨ o = 13 ∨ o = 14 ∨ o = 15 then (if v = 2 then chk X b n (i + 1) (t + 1) 0 else none)
    else if o = 20 then (if 1 ≤ t ∧ v = 0 then chk X b n (i + 1) t 0 else none)
    else if o = 21 ∨ o = 22 then (if 2 ≤ t ∧ v = 0 then chk X b n (i + 1) (t - 1) 0 else none)
    else none
/-- a law's stretch in the row: where it lies, and that it is one -/
def lawOK (X : Nat → Int) (b : Nat) (f t : Int) (res : Nat × Nat) : Prop := ∃ i n : Nat, f = (i : Int) ∧ t = ((i + n : Nat) : Int) ∧ i + n ≤ 300 ∧ 1 ≤ n ∧ chk X b n i 0 0 = some res
def WfT (X : Nat → Int) (t : Nat) : Prop := ∃ n : Nat, n ≤ 24 ∧ X (680 * t) = (n : Int) ∧ ∀ i, i < n →
  (X (680 * t + 1 + 3 * i) = 0 ∧ lawOK X (680 * t) (X (680 * t + 2 + 3 * i)) (X (680 * t + 3 + 3 * i)) (1, 0)) ∨
  (X (680 * t + 1 + 3 * i) = 1 ∧ lawOK X (680 * t) (X (680 * t + 2 + 3 * i)) (X (680 * t + 3 + 3 * i)) (0, 1) ∧ ∀ q : Nat, X (680 * t + 2 + 3 * i) ≤ (q : Int) → (q : Int) < X (680 * t + 3 + 3 * i) → X (680 * t + 75 + 2 * q) = 1 → X (680 * t + 75 + 2 * q + 1) ≤ 5) ∨
  ((2 ≤ X (680 * t + 1 + 3 * i) ∧ X (680 * t + 1 + 3 * i) ≤ 6) ∧ (0 ≤ X (680 * t + 2 + 3 * i) ∧ X (680 * t + 2 + 3 * i) ≤ 7) ∧ (X (680 * t + 1 + 3 * i) ≠ 4 → X (680 * t + 1 + 3 * i) ≠ 6 → 0 ≤ X (680 * t + 3 + 3 * i) ∧ X (680 * t + 3 + 3 * i) ≤ 7))
/-- the class's script of a text -/
def Scr (m : MM) (c : Nat) (X : Nat → Int) (t : Nat) : Prop :=
  m c 0 = X (680 * t) ∧
  (∀ i : Nat, (i : Int) < X (680 * t) → m (c + 1) i = (if X (680 * t + 1 + 3 * i) = 4 then 3 else X (680 * t + 1 + 3 * i)) ∧
    (2 ≤ X (680 * t + 1 + 3 * i) → m (c + 2) i = X (680 * t + 2 + 3 * i) ∧ m (c + 3) i = (if X (680 * t + 1 + 3 * i) = 4 ∨ X (680 * t + 1 + 3 * i) = 6 then -1 else X (680 * t + 3 + 3 * i))) ∧
    (X (680 * t + 1 + 3 * i) = 0 → m c 6 = X (680 * t + 2 + 3 * i) ∧ m c 7 = X (680 * t + 3 + 3 * i)) ∧
    (X (680 * t + 1 + 3 * i) = 1 → m c 8 = X (680 * t + 2 + 3 * i) ∧ m c 9 = X (680 * t + 3 + 3 * i))) ∧
  ((∀ i : Nat, (i : Int) < X (680 * t) → X (680 * t + 1 + 3 * i) ≠ 0) → m c 6 = -1) ∧
  ((∀ i : Nat, (i : Int) < X (680 * t) → X (680 * t + 1 + 3 * i) ≠ 1) → m c 8 = -1) ∧
  (∀ i : Nat, (i : Int) < X (680 * t) → X (680 * t + 1 + 3 * i) ≤ 1 → ∀ q : Nat, X (680 * t + 2 + 3 * i) ≤ (q : Int) → (q : Int) < X (680 * t + 3 + 3 * i) → m (c + 4) q = enc (X (680 * t + 75 + 2 * q)) (X (680 * t + 75 + 2 * q + 1)))
/-- a byte as the class keeps it -/
def sby (z : Int) : Int := if z < 128 then z else z - 256
/-- everything: class cells out of mc, reference cells out of mr -/
def Rel (mc mr : MM) : Prop := ∃ C : Int, (1 ≤ C ∧ C ≤ 6) ∧ mc 0 0 = C ∧ mr 304 3 = C ∧
  Std mc 12 (mr 305) ∧ Std mc 142 (mr 306) ∧ WfS C (mr 305) ∧ WfS C (mr 306) ∧ mr 306 3 ≤ mr 305 3 ∧
  (∀ t : Nat, (t : Int) < mr 305 3 → Scr mc (284 + 5 * t) (mr 308) t ∧ WfT (mr 308) t) ∧
  mc 0 2 = mr 304 6 ∧ (0 ≤ mr 304 6 ∧ mr 304 6 ≤ 300) ∧ (∀ j : Nat, (j : Int) < mr 304 6 → (0 ≤ mr 309 j ∧ mr 309 j < 256) ∧ mc 1 j = sby (mr 309 j)) ∧
  mc 2 0 = mr 304 7 ∧ mc 2 1 = mr 304 8 ∧ rng (mr 304 7) ∧ rng (mr 304 8)
/-! cells that stay -/
theorem Crt.kept {m m' : MM} {c : Nat} {hr : Int} {W : Nat → Nat → Int} (h : Crt m c hr W) (e0 : m' c = m c) (e1 : m' (c + 1) = m (c + 1)) (e2 : m' (c + 2) = m (c + 2)) (e3 : m' (c + 3) = m (c + 3)) : Crt m' c hr W := by
  unfold Crt at h ⊢
  rw [e0, e1, e2, e3]
  exact h
theorem Pst.kept {m m' : MM} {p : Nat} {S : Nat → Int} (h : Pst m p S) (e : ∀ c, p ≤ c → c < p + 122 → m' c = m c) : Pst m' p S := by
  obtain ⟨h1, nx, h2, h3, h4⟩ := h
  refine ⟨by rw [e p (by omega) (by omega)]; exact h1, nx, h2, by rw [e p (by omega) (by omega)]; exact h3, fun k hk r hr => ?_⟩
  have hr30 : r < 30 := by omega
  exact (h4 k hk r hr).kept (e _ (by omega) (by omega)) (e _ (by omega) (by omega)) (e _ (by omega) (by omega)) (e _ (by omega) (by omega))
theorem Std.kept {m m' : MM} {c : Nat} {S : Nat → Int} (h : Std m c S) (e : ∀ j, c ≤ j → j < c + 130 → m' j = m j) : Std m' c S := by
  obtain ⟨h1, h2, h3, h4, h5, h6, h7, h8, h9, h10⟩ := h
  have e0 := e c (by omega) (by omega)
  refine ⟨by rw [e0]; exact h1, by rw [e0]; exact h2, by rw [e0]; exact h3, by rw [e0]; exact h4, by rw [e0]; exact h5, by rw [e0]; exact h6, fun j hj => by rw [e _ (by omega) (by omega)]; exact h7 j hj, fun j hj => by rw [e _ (by omega) (by omega), e _ (by omega) (by omega)]; exact h8 j hj, h9.kept (e _ (by omega) (by omega)) (e _ (by omega) (by omega)) (e _ (by omega) (by omega)) (e _ (by omega) (by omega)), h10.kept (fun j h1 h2 => e j (by omega) (by omega))⟩
theorem Scr.kept {m m' : MM} {c t : Nat} {X : Nat → Int} (h : Scr m c X t) (e : ∀ j, c ≤ j → j < c + 5 → m' j = m j) : Scr m' c X t := by
  unfold Scr at h ⊢
  rw [e c (by omega) (by omega), e (c + 1) (by omega) (by omega), e (c + 2) (by omega) (by omega), e (c + 3) (by omega) (by omega), e (c + 4) (by omega) (by omega)]
  exact h
theorem Rel.keptC {mc mc' mr : MM} (h : Rel mc mr) (e : ∀ c, c < 304 → mc' c = mc c) : Rel mc' mr := by
  obtain ⟨C, h1, h2, h3, h4, h5, h6, h7, h8, h9, h10, h11, h12, h13, h14, h15⟩ := h
  refine ⟨C, h1, by rw [e 0 (by omega)]; exact h2, h3, h4.kept (fun j _ _ => e j (by omega)), h5.kept (fun j _ _ => e j (by omega)), h6, h7, h8, fun t ht => ⟨(h9 t ht).1.kept (fun j _ _ => e j (by have := h6.2.2.1; omega)), (h9 t ht).2⟩, by rw [e 0 (by omega)]; exact h10, h11, fun j hj => by rw [e 1 (by omega)]; exact h12 j hj, by rw [e 2 (by omega)]; exact h13, by rw [e 2 (by omega)]; exact h14, h15⟩
