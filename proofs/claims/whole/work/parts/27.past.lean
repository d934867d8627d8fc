/-! ===== steps ===== -/
def KeepOf (S S' : Nat → Int) : Prop := ∃ n sh : Nat, n ≤ 29 ∧ ((S 5 = (n : Int) ∧ sh = 0) ∨ (S 5 = 30 ∧ n = 29 ∧ sh = 1)) ∧ S' 5 = (n : Int) + 1 ∧ (∀ j, j < 84 → j ≠ 5 → S' j = S j) ∧ S' (84 + 50 * n) = S 1 ∧ S' (84 + 50 * n + 1) = S 2 ∧ (∀ e, e < 8 → ∀ q, q < 6 → S' (84 + 50 * n + 2 + 6 * e + q) = S (20 + 8 * e + 2 + q)) ∧ (∀ k, k < n → ∀ i, i < 50 → S' (84 + 50 * k + i) = S (84 + 50 * (k + sh) + i))
theorem WfV.cong {C n hr : Int} {W W' : Nat → Nat → Int} (h : WfV C n hr W) (e : ∀ a, a < 8 → ∀ q, q < 6 → W' a q = W a q) : WfV C n hr W' := by
  obtain ⟨h1, h2, h3, h4, h5⟩ := h
  have ww : ∀ who (N : Nat), N ≤ 8 → wcnt (fun a => W' a 0) who N = wcnt (fun a => W a 0) who N := by
    intro who N
    induction N with
    | zero => intro _; rfl
    | succ N ih =>
      intro hN
      unfold wcnt
      rw [ih (by omega), e N (by omega) 0 (by omega)]
  refine ⟨h1, h2, fun a ha => ?_, fun a ha hn => ?_, fun who hw => by rw [ww who 8 (by omega)]; exact h5 who hw⟩
  · have := h3 a ha
    unfold eyeOK at this ⊢
    rw [e a ha 0 (by omega), e a ha 1 (by omega), e a ha 2 (by omega), e a ha 3 (by omega), e a ha 4 (by omega), e a ha 5 (by omega)]
    exact this
  · have := h4 a ha hn
    unfold eye0 at this ⊢
    rw [e a ha 0 (by omega), e a ha 1 (by omega), e a ha 2 (by omega), e a ha 3 (by omega), e a ha 4 (by omega), e a ha 5 (by omega)]
    exact this
theorem Crt.cong {m : MM} {c : Nat} {hr : Int} {W W' : Nat → Nat → Int} (h : Crt m c hr W) (e : ∀ a, a < 8 → ∀ q, q < 6 → W' a q = W a q) : Crt m c hr W' := by
  refine ⟨h.1, fun a ha => ?_⟩
  have := h.2 a ha
  unfold pkW at this ⊢
  rw [e a ha 0 (by omega), e a ha 1 (by omega), e a ha 2 (by omega), e a ha 3 (by omega), e a ha 4 (by omega), e a ha 5 (by omega)]
  exact this
theorem WfS.keep {C : Int} {S S' : Nat → Int} (h : WfS C S) (hk : KeepOf S S') : WfS C S' := by
  obtain ⟨n, sh, hn, hs, k5, kl, k1, k2, ke, ko⟩ := hk
  obtain ⟨h0, h1, h3, h4, h5, h6, h7, h8, h9, h10, h11⟩ := h
  refine ⟨by rw [kl 0 (by omega) (by omega)]; exact h0, by rw [kl 1 (by omega) (by omega)]; exact h1, by rw [kl 3 (by omega) (by omega)]; exact h3, by rw [kl 3 (by omega) (by omega), kl 4 (by omega) (by omega)]; exact h4, by rw [k5]; omega, by rw [kl 6 (by omega) (by omega)]; exact h6, fun j hj => by rw [kl _ (by omega) (by omega)]; exact h7 j hj, fun k hk => by rw [kl 6 (by omega) (by omega), kl _ (by omega) (by omega), kl 0 (by omega) (by omega)]; exact h8 k hk, fun e he => by rw [kl _ (by omega) (by omega), kl _ (by omega) (by omega)]; exact h9 e he, ?_, fun k hk => ?_⟩
  · rw [kl 1 (by omega) (by omega), kl 2 (by omega) (by omega)]
    refine h10.cong (fun a ha q hq => ?_)
    unfold nowW
    rw [kl _ (by omega) (by omega)]
  · rw [k5] at hk
    rw [kl 1 (by omega) (by omega)]
    by_cases hkn : k = n
    · subst hkn
      rw [k1, k2]
      refine ⟨by omega, h10.cong (fun a ha q hq => ?_)⟩
      unfold nowW stW
      exact ke a ha q hq
    · have g0 := ko k (by omega) 0 (by omega)
      have g1 := ko k (by omega) 1 (by omega)
      rw [Nat.add_zero] at g0
      rw [g0, g1, Nat.add_zero]
      have hh := h11 (k + sh) (by omega)
      refine ⟨hh.1, hh.2.cong (fun a ha q hq => ?_)⟩
      unfold stW
      have g := ko k (by omega) (2 + 6 * a + q) (by omega)
      rw [show 84 + 50 * k + (2 + 6 * a + q) = 84 + 50 * k + 2 + 6 * a + q by omega, show 84 + 50 * (k + sh) + (2 + 6 * a + q) = 84 + 50 * (k + sh) + 2 + 6 * a + q by omega] at g
      exact g
section Past
variable {G : GG} {d : Nat} {m : MM}
/-- the ring takes a court: the same steps as the reference's keep -/
theorem c1_keep {k : MM → Prop} (p c : Nat) (hp : SH p = .inr 1) (hc : SH c = .inr 0) (ha : c + 4 ≤ p) {S : Nat → Int} (hP : Pst m p S) (h5 : 0 ≤ S 5 ∧ S 5 ≤ 30) (hC : Crt m c (S 2) (nowW S)) (h : ∀ m', (∀ S', KeepOf S S' → Pst m' p S') → (∀ j, j < p ∨ p + 122 ≤ j → m' j = m j) → k m') : N G (d + 2) mi_X1_keep 0 [some (vr p), some (vr c)] [] m (RV k) := by
  obtain ⟨h2, nx, hnx, h1, hr⟩ := hP
  refine g_X1_keep_0 _ hp _ hc ⟨nx, ⟨h1, hnx⟩, ?_⟩
  refine c0_copyFrom _ c (pa_c hp hnx) hc (by omega) (fun m3 a3 b3 m4 e4 => ?_)
  have g3 : m3 p = m p := b3 p (by omega)
  have e42 : m4 p 2 = S 5 := by rw [e4]; simp [upm]; rw [g3]; exact h2
  refine ⟨by rw [e42]; omega, fun m5 e5 => ?_⟩
  have f5 : ∀ j, j ≠ p → m5 j = m3 j := fun j hj => by rw [e5, upm_c hj, e4, upm_c hj]
  refine h m5 (fun S' hk => ?_) (fun j hj => by rw [f5 j (by omega), b3 j (by omega)])
  obtain ⟨n, sh, hn, hs, k5, kl, k1, k2, ke, ko⟩ := hk
  have e51 : m5 p 1 = (((nx + 1) % 30 : Nat) : Int) := by
    rw [e5, e4]
    simp [upm]
    rw [g3, h1]
    exact irem_n (a := nx + 1) (b := 30) (by omega) (by omega) (by omega)
  have e52 : m5 p 2 = (n : Int) + 1 := by
    rw [e5]
    simp only [upm, and_self, if_true]
    rw [e42]
    unfold imin
    split <;> omega
  refine ⟨by rw [e52, k5], (nx + 1) % 30, Nat.mod_lt _ (by omega), e51, fun q hq r hr2 => ?_⟩
  rw [k5] at hq hr2
  by_cases hqn : q = n
  · subst hqn
    have er : r = nx := by omega
    subst er
    rw [k2]
    have hh := (a3 _ _ hC).kept (f5 _ (by omega)) (f5 _ (by omega)) (f5 _ (by omega)) (f5 _ (by omega))
    refine hh.cong (fun a ha t ht => ?_)
    unfold stW nowW
    exact ke a ha t ht
  · have g1 := ko q (by omega) 1 (by omega)
    rw [g1]
    have hr30 : r < 30 := by omega
    have hne : r ≠ nx := by omega
    have hh := hr (q + sh) (by omega) r (by omega)
    have far : ∀ i, i < 4 → m5 (p + 2 + 4 * r + i) = m (p + 2 + 4 * r + i) := fun i hi => by
      rw [f5 _ (by omega), b3 _ (by omega)]
    refine (hh.kept (far 0 (by omega)) (far 1 (by omega)) (far 2 (by omega)) (far 3 (by omega))).cong (fun a ha t ht => ?_)
    unfold stW
    have g := ko q (by omega) (2 + 6 * a + t) (by omega)
    rw [show 84 + 50 * q + (2 + 6 * a + t) = 84 + 50 * q + 2 + 6 * a + t by omega, show 84 + 50 * (q + sh) + (2 + 6 * a + t) = 84 + 50 * (q + sh) + 2 + 6 * a + t by omega] at g
    exact g
/-- the reference's keep -/
theorem c_keep {k : MM → Prop} (h5 : 0 ≤ m 305 5 ∧ m 305 5 ≤ 30) (h : ∀ S', KeepOf (m 305) S' → k (sc m 305 S')) : N G (d + 1) mi_X8_keep 0 [some (vr 304), none, none, none] [] m (RV k) := by
  -- behind the shift
  have tail : ∀ (n sh : Nat) (T : Nat → Int), n ≤ 29 → ((m 305 5 = (n : Int) ∧ sh = 0) ∨ (m 305 5 = 30 ∧ n = 29 ∧ sh = 1)) → T 5 = (n : Int) → (∀ j, j < 84 → j ≠ 5 → T j = m 305 j) → (∀ k, k < n → ∀ i, i < 50 → T (84 + 50 * k + i) = m 305 (84 + 50 * (k + sh) + i)) → N G (d + 1) mi_X8_keep 55 [some (vr 304), none, none, none] [] (sc m 305 T) (RV k) := by
    intro n sh T hn hs t5 tl to
    -- the inner loops
    have outer : ∀ (nn e : Nat) (x2 : Int) (U : Nat → Int), e + nn = 8 → x2 = (e : Int) → U 5 = (n : Int) → (∀ j, j < 84 → j ≠ 5 → U j = m 305 j) → (∀ k, k < n → ∀ i, i < 50 → U (84 + 50 * k + i) = m 305 (84 + 50 * (k + sh) + i)) → U (84 + 50 * n) = m 305 1 → U (84 + 50 * n + 1) = m 305 2 → (∀ a, a < e → ∀ q, q < 6 → U (84 + 50 * n + 2 + 6 * a + q) = m 305 (20 + 8 * a + 2 + q)) → N G (d + 1) mi_X8_keep 96 [some (vr 304), some (vi (84 + 50 * (n : Int))), some (vi x2), none] [] (sc m 305 U) (RV k) := by
      intro nn
      induction nn with
      | zero =>
        intro e x2 U he hx u5 ul uo u0 u1 ue
        refine g_X8_keep_96 _ _ (leT (by omega) (fun m1 e1 => ?_))
        rw [e1, upm_sc, sc_sc, sc_at, u5]
        refine h _ ⟨n, sh, hn, hs, up_at _ _ _, fun j hj hj5 => by rw [up_ne _ _ hj5]; exact ul j hj hj5, by rw [up_ne _ _ (by omega)]; exact u0, by rw [up_ne _ _ (by omega)]; exact u1, fun a ha q hq => by rw [up_ne _ _ (by omega)]; exact ue a (by omega) q hq, fun k hk i hi => by rw [up_ne _ _ (by omega)]; exact uo k hk i hi⟩
      | succ nn ih =>
        intro e x2 U he hx u5 ul uo u0 u1 ue
        refine g_X8_keep_96 _ _ (leF (by omega) ?_)
        have inner : ∀ (M q : Nat) (x3 : Int) (U : Nat → Int), q + M = 6 → x3 = (q : Int) → U 5 = (n : Int) → (∀ j, j < 84 → j ≠ 5 → U j = m 305 j) → (∀ k, k < n → ∀ i, i < 50 → U (84 + 50 * k + i) = m 305 (84 + 50 * (k + sh) + i)) → U (84 + 50 * n) = m 305 1 → U (84 + 50 * n + 1) = m 305 2 → (∀ a, a < e → ∀ q, q < 6 → U (84 + 50 * n + 2 + 6 * a + q) = m 305 (20 + 8 * a + 2 + q)) → (∀ t, t < q → U (84 + 50 * n + 2 + 6 * e + t) = m 305 (20 + 8 * e + 2 + t)) → N G (d + 1) mi_X8_keep 104 [some (vr 304), some (vi (84 + 50 * (n : Int))), some (vi x2), some (vi x3)] [] (sc m 305 U) (RV k) := by
          intro M
          induction M with
          | zero =>
            intro q x3 U hq hx3 u5 ul uo u0 u1 ue ut
            refine g_X8_keep_104 _ _ _ (leT (by omega) ?_)
            refine ih (e + 1) _ U (by omega) (by omega) u5 ul uo u0 u1 (fun a ha t ht => ?_)
            by_cases hae : a = e
            · subst hae
              exact ut t (by omega)
            · exact ue a (by omega) t ht
          | succ M ihM =>
            intro q x3 U hq hx3 u5 ul uo u0 u1 ue ut
            refine g_X8_keep_104 _ _ _ (leF (by omega) ?_)
            refine c_get (20 + 8 * e + 2 + q) (by omega) (by omega) ⟨84 + 50 * n + 2 + 6 * e + q, by omega, fun m3 e3 => ?_⟩
            rw [e3, upm_sc, sc_sc, sc_at, ul _ (by omega) (by omega)]
            refine ihM (q + 1) _ _ (by omega) (by omega) (by rw [up_ne _ _ (by omega)]; exact u5) (fun j hj hj5 => by rw [up_ne _ _ (by omega)]; exact ul j hj hj5) (fun k hk i hi => by rw [up_ne _ _ (by omega)]; exact uo k hk i hi) (by rw [up_ne _ _ (by omega)]; exact u0) (by rw [up_ne _ _ (by omega)]; exact u1) (fun a ha t ht => by rw [up_ne _ _ (by omega)]; exact ue a ha t ht) (fun t ht => ?_)
            by_cases htq : t = q
            · subst htq
              rw [up_at]
            · rw [up_ne _ _ (by omega)]
              exact ut t (by omega)
        exact inner 6 0 _ U rfl rfl u5 ul uo u0 u1 ue (fun t ht => absurd ht (by omega))
    refine g_X8_keep_55 ⟨84 + 50 * n, by rw [sc_at, t5]; omega, fun m1 e1 => ⟨84 + 50 * n + 1, by rw [sc_at, t5]; omega, fun m3 e3 => ?_⟩⟩
    rw [sc_at, t5]
    rw [e3, upm_sc, e1, upm_sc, sc_sc, sc_at, sc_sc, sc_at, up_ne _ _ (by omega), tl 1 (by omega) (by omega), tl 2 (by omega) (by omega)]
    exact outer 8 0 _ _ rfl rfl (by rw [up_ne _ _ (by omega), up_ne _ _ (by omega)]; exact t5) (fun j hj hj5 => by rw [up_ne _ _ (by omega), up_ne _ _ (by omega)]; exact tl j hj hj5) (fun k hk i hi => by rw [up_ne _ _ (by omega), up_ne _ _ (by omega)]; exact to k hk i hi) (by rw [up_ne _ _ (by omega), up_at]) (by rw [up_at]) (fun a ha => absurd ha (by omega))
  refine g_X8_keep_0 (eqI (by omega) (fun q => ?_) (fun q => ?_))
  · have loop : ∀ (nn i : Nat) (x1 : Int) (T : Nat → Int), i + nn = 1450 → x1 = (i : Int) → (∀ j, T j = if 84 ≤ j ∧ j < 84 + i then m 305 (j + 50) else m 305 j) → N G (d + 1) mi_X8_keep 13 [some (vr 304), some (vi x1), none, none] [] (sc m 305 T) (RV k) := by
      intro nn
      induction nn with
      | zero =>
        intro i x1 T hi hx hT
        have : i = 1450 := by omega
        subst this
        refine g_X8_keep_13 _ (leT (by omega) (fun m1 e1 => ?_))
        rw [e1, upm_sc, sc_sc, sc_at]
        refine tail 29 1 _ (by omega) (Or.inr ⟨q, rfl, rfl⟩) ?_ (fun j hj hj5 => ?_) (fun k hk i hi => ?_)
        · rw [up_at, hT, if_neg (by omega), q]; rfl
        · rw [up_ne _ _ hj5, hT, if_neg (by omega)]
        · rw [up_ne _ _ (by omega), hT, if_pos (by omega)]
          congr 1
          omega
      | succ nn ih =>
        intro i x1 T hi hx hT
        refine g_X8_keep_13 _ (leF (by omega) ⟨134 + i, by omega, 84 + i, by omega, fun m3 e3 => ?_⟩)
        rw [e3, upm_sc, sc_sc, sc_at]
        refine ih (i + 1) _ _ (by omega) (by omega) (fun j => ?_)
        by_cases hj : j = 84 + i
        · subst hj
          rw [up_at, hT, if_neg (by omega), if_pos (by omega)]
          congr 1
          omega
        · rw [up_ne _ _ hj, hT]
          split <;> split <;> first | rfl | (exfalso; omega)
    have := loop 1450 0 0 (m 305) rfl rfl (fun j => by rw [if_neg (by omega)])
    rw [sc_id] at this
    exact this
  · have := tail (m 305 5).toNat 0 (m 305) (by omega) (Or.inl ⟨by omega, rfl⟩) (by omega) (fun j _ _ => rfl) (fun k _ i _ => rfl)
    rw [sc_id] at this
    exact this
end Past
