/-! ===== text ===== -/
theorem chk_ckL (X : Nat → Int) (b : Nat) : ∀ (c : Cde) (i t v : Nat), (∀ q, q < c.length → X (b + 75 + 2 * (i + q)) = (c.getD q c0d).1 ∧ X (b + 75 + 2 * (i + q) + 1) = (c.getD q c0d).2) → chk X b c.length i t v = ckL c t v := by
  intro c
  induction c with
  | nil => intro i t v _; rfl
  | cons x c ih =>
    intro i t v h
    obtain ⟨o, w⟩ := x
    have h0 := h 0 (by simp)
    rw [Nat.add_zero] at h0
    have e1 : X (b + 75 + 2 * i) = o := h0.1
    have e2 : X (b + 75 + 2 * i + 1) = w := h0.2
    have hs : ∀ q, q < c.length → X (b + 75 + 2 * (i + 1 + q)) = (c.getD q c0d).1 ∧ X (b + 75 + 2 * (i + 1 + q) + 1) = (c.getD q c0d).2 := fun q hq => by
      have := h (q + 1) (by simp; omega)
      rw [show i + (q + 1) = i + 1 + q by omega] at this
      exact this
    show chk X b (c.length + 1) i t v = ckL ((o, w) :: c) t v
    rw [chk, ckL]
    simp only [e1, e2]
    simp only [ih (i + 1) _ _ hs]
theorem chk_cong {X X' : Nat → Int} {b : Nat} : ∀ (n i t v : Nat), (∀ j, b + 75 + 2 * i ≤ j → j < b + 75 + 2 * (i + n) → X' j = X j) → chk X' b n i t v = chk X b n i t v := by
  intro n
  induction n with
  | zero => intro i t v _; rfl
  | succ n ih =>
    intro i t v h
    have e1 := h (b + 75 + 2 * i) (by omega) (by omega)
    have e2 := h (b + 75 + 2 * i + 1) (by omega) (by omega)
    have hs : ∀ t v, chk X' b n (i + 1) t v = chk X b n (i + 1) t v := fun t v => ih (i + 1) t v (fun j h1 h2 => h j (by omega) (by omega))
    rw [chk, chk]
    simp only [e1, e2, hs]
theorem lawOK_cong {X X' : Nat → Int} {b : Nat} {f t : Int} {r : Nat × Nat} (h : lawOK X b f t r) (e : ∀ j, b ≤ j → j < b + 680 → X' j = X j) : lawOK X' b f t r := by
  obtain ⟨i, n, h1, h2, h3, h4, h5⟩ := h
  exact ⟨i, n, h1, h2, h3, h4, by rw [chk_cong n i 0 0 (fun j q1 q2 => e j (by omega) (by omega))]; exact h5⟩
theorem lawOK_300 {X : Nat → Int} {b : Nat} {f t : Int} {r : Nat × Nat} (h : lawOK X b f t r) : t ≤ 300 := by
  obtain ⟨i, n, h1, h2, h3, h4, h5⟩ := h
  omega
theorem WfT_cong {X X' : Nat → Int} {t : Nat} (h : WfT X t) (e : ∀ j, 680 * t ≤ j → j < 680 * t + 680 → X' j = X j) : WfT X' t := by
  obtain ⟨n, h1, h2, h3⟩ := h
  refine ⟨n, h1, by rw [e _ (by omega) (by omega)]; exact h2, fun i hi => ?_⟩
  rw [e (680 * t + 1 + 3 * i) (by omega) (by omega), e (680 * t + 2 + 3 * i) (by omega) (by omega), e (680 * t + 3 + 3 * i) (by omega) (by omega)]
  rcases h3 i hi with ⟨q1, q2⟩ | ⟨q1, q2, q3⟩ | q
  · exact Or.inl ⟨q1, lawOK_cong q2 e⟩
  · refine Or.inr (Or.inl ⟨q1, lawOK_cong q2 e, fun q a1 a2 a3 => ?_⟩)
    have := lawOK_300 q2
    rw [e _ (by omega) (by omega)] at a3 ⊢
    exact q3 q a1 a2 a3
  · exact Or.inr (Or.inr q)
theorem Scr_cong {m : MM} {c t : Nat} {X X' : Nat → Int} (h : Scr m c X t) (hw : WfT X t) (e : ∀ j, 680 * t ≤ j → j < 680 * t + 680 → X' j = X j) : Scr m c X' t := by
  obtain ⟨s1, s2, s3, s4, s5⟩ := h
  obtain ⟨n, h1, h2, h3⟩ := hw
  have e0 : X' (680 * t) = X (680 * t) := e _ (by omega) (by omega)
  have ei : ∀ i : Nat, (i : Int) < X (680 * t) → X' (680 * t + 1 + 3 * i) = X (680 * t + 1 + 3 * i) ∧ X' (680 * t + 2 + 3 * i) = X (680 * t + 2 + 3 * i) ∧ X' (680 * t + 3 + 3 * i) = X (680 * t + 3 + 3 * i) := fun i hi => ⟨e _ (by omega) (by omega), e _ (by omega) (by omega), e _ (by omega) (by omega)⟩
  refine ⟨by rw [e0]; exact s1, fun i hi => ?_, fun z => s3 (fun i hi => ?_), fun z => s4 (fun i hi => ?_), fun i hi h01 q a1 a2 => ?_⟩
  · rw [e0] at hi
    obtain ⟨b1, b2, b3⟩ := ei i hi
    rw [b1, b2, b3]
    exact s2 i hi
  · have := z i (by rw [e0]; exact hi)
    rw [(ei i hi).1] at this; exact this
  · have := z i (by rw [e0]; exact hi)
    rw [(ei i hi).1] at this; exact this
  · rw [e0] at hi
    obtain ⟨b1, b2, b3⟩ := ei i hi
    rw [b1] at h01
    rw [b2] at a1
    rw [b3] at a2
    have h300 : X (680 * t + 3 + 3 * i) ≤ 300 := by
      rcases h3 i (by omega) with q | q | q
      · exact lawOK_300 q.2
      · exact lawOK_300 q.2.1
      · have := q.1; omega
    rw [e _ (by omega) (by omega), e _ (by omega) (by omega)]
    exact s5 i hi h01 q a1 a2
theorem wrt_out : ∀ (c : Cde) (f : Nat → Int) (L j : Nat), j < L → wrt f L c j = f j := by
  intro c
  induction c with
  | nil => intro f L j _; rfl
  | cons x c ih =>
    intro f L j h
    obtain ⟨o, v⟩ := x
    rw [wrt, ih _ _ _ (by omega), up_ne _ _ (by omega)]
theorem wrt_at : ∀ (c : Cde) (f : Nat → Int) (L q : Nat), q < c.length → wrt f L c (L + q) = enc (c.getD q c0d).1 (c.getD q c0d).2 := by
  intro c
  induction c with
  | nil => intro f L q h; exact absurd h (Nat.not_lt_zero q)
  | cons x c ih =>
    intro f L q h
    obtain ⟨o, v⟩ := x
    rw [List.length_cons] at h
    rw [wrt]
    cases q with
    | zero =>
      show wrt _ (L + 1) c L = enc o v
      rw [wrt_out _ _ _ _ (by omega), up_at]
    | succ q =>
      have := ih (up f L (enc o v)) (L + 1) q (by omega)
      rw [show L + 1 + q = L + (q + 1) by omega] at this
      exact this
theorem getD_mem {cl : Cls} {q : Nat} (h : q < cl.length) : cl.getD q d0 ∈ cl := by
  rw [List.getD_eq_getElem?_getD, List.getElem?_eq_getElem h]
  exact List.getElem_mem h
theorem mem_getD {cl : Cls} {e : Int × Int × Int} (h : e ∈ cl) : ∃ q, q < cl.length ∧ cl.getD q d0 = e := by
  obtain ⟨q, hq, e1⟩ := List.mem_iff_getElem.mp h
  exact ⟨q, hq, by rw [List.getD_eq_getElem?_getD, List.getElem?_eq_getElem hq]; exact e1⟩
theorem getD_mid (a c b : Cde) {q : Nat} (h : q < c.length) : (a ++ (c ++ b)).getD (a.length + q) c0d = c.getD q c0d := by
  rw [List.getD_eq_getElem?_getD, List.getElem?_append_right (by omega), show a.length + q - a.length = q by omega, List.getElem?_append_left h, ← List.getD_eq_getElem?_getD]
theorem getD_memc {c : Cde} {q : Nat} (h : q < c.length) : c.getD q c0d ∈ c := by
  rw [List.getD_eq_getElem?_getD, List.getElem?_eq_getElem h]
  exact List.getElem_mem h
/-- the new text's row is one -/
theorem WfT_new {X0 X : Nat → Int} {T E : Nat} {y : Rds} (hE : E ≤ 300) (hy : RdOK E y) (hx : XR X0 (680 * T) X y) : WfT X T := by
  obtain ⟨y1, y2, y3, y4, y5, y6⟩ := hy
  obtain ⟨x1, x2, x3, x4⟩ := hx
  refine ⟨y.2.1.length, y2, x2, fun i hi => ?_⟩
  obtain ⟨a1, a2, a3⟩ := x3 i hi
  have hen := y4 _ (getD_mem hi)
  rw [a1, a2]
  -- a law's stretch
  have law : ∀ (a c b' : Cde) (r : Nat × Nat), y.2.2.1 = a ++ (c ++ b') → (y.2.1.getD i d0).2.1 = (a.length : Int) → (y.2.1.getD i d0).2.2 = ((a.length + c.length : Nat) : Int) → 1 ≤ c.length → ckL c 0 0 = some r → lawOK X (680 * T) (y.2.1.getD i d0).2.1 (y.2.1.getD i d0).2.2 r := by
    intro a c b' r e1 e2 e3 e4 e5
    have len : y.2.2.1.length = a.length + (c.length + b'.length) := by rw [e1, List.length_append, List.length_append]
    refine ⟨a.length, c.length, e2, e3, by omega, e4, ?_⟩
    rw [chk_ckL X (680 * T) c a.length 0 0 (fun q hq => ?_)]
    · exact e5
    · have := x4 (a.length + q) (by omega)
      rw [e1, getD_mid a c b' hq] at this
      exact this
  rcases hen with ⟨h1, a, c, b', e1, e2, e3, e4, e5⟩ | ⟨h1, a, c, b', e1, e2, e3, e4, e5, e6⟩ | ⟨h1, h2, h3⟩
  · rw [a3 (by omega) (by omega)]
    exact Or.inl ⟨h1, law a c b' _ e1 e2 e3 e4 e5⟩
  · rw [a3 (by omega) (by omega)]
    have len : y.2.2.1.length = a.length + (c.length + b'.length) := by rw [e1, List.length_append, List.length_append]
    refine Or.inr (Or.inl ⟨h1, law a c b' _ e1 e2 e3 e4 e5, fun q q1 q2 q3 => ?_⟩)
    have := x4 q (by omega)
    obtain ⟨q', hq'⟩ : ∃ q', q = a.length + q' := ⟨q - a.length, by omega⟩
    have hc : q' < c.length := by omega
    rw [e1, hq', getD_mid a c b' hc] at this
    rw [hq'] at q3 ⊢
    rw [this.1] at q3
    rw [this.2]
    exact e6 _ (getD_memc hc) q3
  · exact Or.inr (Or.inr ⟨h1, h2, fun n4 n6 => by rw [a3 n4 n6]; exact h3⟩)
theorem Scr_new {X0 X : Nat → Int} {m : MM} {c T E : Nat} {f0 : Nat → Int} {y : Rds} (hE : E ≤ 300) (hy : RdOK E y) (hx : XR X0 (680 * T) X y) (hc : ClC m c y) (h4 : m (c + 4) = wrt f0 0 y.2.2.1) : Scr m c X T := by
  obtain ⟨y1, y2, y3, y4, y5, y6⟩ := hy
  obtain ⟨x1, x2, x3, x4⟩ := hx
  obtain ⟨c0, c1, c2, c3, c4', c5⟩ := hc
  refine ⟨by rw [c0, x2], fun i hi => ?_, fun z => ?_, fun z => ?_, fun i hi h01 q q1 q2 => ?_⟩
  · rw [x2] at hi
    have hi' : i < y.2.1.length := by omega
    obtain ⟨a1, a2, a3⟩ := x3 i hi'
    obtain ⟨u1, u2, u3, u4⟩ := c1 i hi'
    rw [a1, a2]
    refine ⟨u1, fun h2 => ⟨(u2 h2).1, ?_⟩, fun h0 => ⟨(u3 h0).1, ?_⟩, fun h1 => ⟨(u4 h1).1, ?_⟩⟩
    · rw [(u2 h2).2]
      by_cases z : (y.2.1.getD i d0).1 = 4 ∨ (y.2.1.getD i d0).1 = 6
      · rw [if_pos z, if_pos z]
      · rw [if_neg z, if_neg z, a3 (fun q => z (Or.inl q)) (fun q => z (Or.inr q))]
    · rw [a3 (by omega) (by omega)]; exact (u3 h0).2
    · rw [a3 (by omega) (by omega)]; exact (u4 h1).2
  · cases hb : y.2.2.2.1 with
    | false => exact c2 hb
    | true =>
      exfalso
      obtain ⟨e, he, e0⟩ := y5.mp hb
      obtain ⟨q, hq, e1⟩ := mem_getD he
      have := z q (by rw [x2]; omega)
      rw [(x3 q hq).1, e1] at this
      exact this e0
  · cases hb : y.2.2.2.2 with
    | false => exact c4' hb
    | true =>
      exfalso
      obtain ⟨e, he, e0⟩ := y6.mp hb
      obtain ⟨q, hq, e1⟩ := mem_getD he
      have := z q (by rw [x2]; omega)
      rw [(x3 q hq).1, e1] at this
      exact this e0
  · rw [x2] at hi
    have hi' : i < y.2.1.length := by omega
    obtain ⟨a1, a2, a3⟩ := x3 i hi'
    rw [a1] at h01
    rw [a2] at q1
    rw [a3 (by omega) (by omega)] at q2
    have hql : q < y.2.2.1.length := by
      rcases y4 _ (getD_mem hi') with ⟨h1, a, cc, b', e1, e2, e3, -⟩ | ⟨h1, a, cc, b', e1, e2, e3, -⟩ | ⟨h1, -⟩
      · have len : y.2.2.1.length = a.length + (cc.length + b'.length) := by rw [e1, List.length_append, List.length_append]
        omega
      · have len : y.2.2.1.length = a.length + (cc.length + b'.length) := by rw [e1, List.length_append, List.length_append]
        omega
      · omega
    obtain ⟨b1, b2⟩ := x4 q hql
    rw [b1, b2, h4]
    have := wrt_at y.2.2.1 f0 0 q hql
    rw [Nat.zero_add] at this
    exact this
section Text
variable {G : GG} {d : Nat} {m : MM}
theorem P_text {k : Int → Int → MM → Prop} (h : Rel m m) (hk : ∀ z m', Rel m' m' → k z z m') : PR G d mi_X7_text mi_X8_text [some (vr 0), none] [some (vr 304)] m k := by
  have hkk : ∀ z, k z z m := fun z => hk z m h
  obtain ⟨C, h1, h2, h3, h4, h5, h6, h7, h8, h9, h10, h11, h12, h13, h14, h15, h16⟩ := h
  have w3 := h6.2.2.1
  have s5 := h4.2.2.1
  obtain ⟨T, hT⟩ : ∃ T : Nat, m 305 3 = (T : Int) := ⟨(m 305 3).toNat, by omega⟩
  obtain ⟨L, hL⟩ : ∃ L : Nat, m 304 6 = (L : Int) := ⟨(m 304 6).toNat, by omega⟩
  have e5 : m 12 5 = (T : Int) := by rw [s5]; exact hT
  by_cases hT4 : T < 4
  · have tc : TpC (m 309) L m := ⟨by omega, fun j hj => h12 j (by omega)⟩
    -- what stays, whatever came
    have keep : ∀ (m1 m2 : MM) (S' : Nat → Int), FrX (284 + 5 * T) m m1 → FrW (680 * T) m1 m2 → (∀ c, c < 304 → m2 c = m1 c) → m2 306 = m 306 → m2 305 = S' → (∀ j, j ≠ 3 → S' j = m 305 j) → m1 12 5 = S' 3 → (T : Int) ≤ S' 3 → S' 3 ≤ 4 → m1 2 0 = m2 304 7 → m1 2 1 = m2 304 8 → rng (m2 304 7) → rng (m2 304 8) → (∀ t : Nat, (t : Int) < S' 3 → T ≤ t → Scr m2 (284 + 5 * t) (m2 308) t ∧ WfT (m2 308) t) → Rel m2 m2 := by
      intro m1 m2 S' f1 f2 c1 e306 e305 hS e12 hT1 hT2 e20 e21 r7 r8 hnew
      obtain ⟨a1, a2, a3, a4⟩ := f1
      obtain ⟨b1, b2, b3, b4⟩ := f2
      have m1304 : m1 304 = m 304 := a1 304 (by omega) (by omega) (by omega) (by omega) (by omega) (by omega) (by omega)
      have oc : ∀ c, c < 304 → c ≠ 0 → c ≠ 2 → c ≠ 3 → c ≠ 4 → c ≠ 5 → c ≠ 12 → (c < 284 + 5 * T ∨ 284 + 5 * T + 5 ≤ c) → m2 c = m c := fun c c0 c1' c2 c3 c4 c5 c6 c7 => (c1 c c0).trans (a1 c c1' c2 c3 c4 c5 c6 c7)
      refine ⟨C, h1, ?_, ?_, ?_, ?_, ?_, ?_, ?_, fun t ht => ?_, ?_, ?_, fun j hj => ?_, ?_, ?_, r7, r8⟩
      · rw [c1 0 (by omega), a2 0 (by omega)]; exact h2
      · rw [b2 3 (by omega), m1304]; exact h3
      · obtain ⟨s0, s1, s2, s3, s4, s6, s7, s8, s9, s10⟩ := h4
        have g12 : ∀ bb, bb ≠ 5 → m2 12 bb = m 12 bb := fun bb hb => by rw [c1 12 (by omega), a3 bb hb]
        have shE : ∀ q, q < 4 → shw S' q = shw (m 305) q := fun q hq => by unfold shw; rw [hS 6 (by omega), hS (16 + q) (by omega)]
        rw [e305]
        refine ⟨by rw [g12 0 (by omega), hS 0 (by omega)]; exact s0, by rw [g12 2 (by omega), hS 1 (by omega)]; exact s1, by rw [c1 12 (by omega)]; exact e12, by rw [g12 6 (by omega), hS 4 (by omega)]; exact s3, by rw [g12 7 (by omega), hS 6 (by omega)]; exact s4, by rw [g12 8 (by omega), shE 0 (by omega), shE 1 (by omega), shE 2 (by omega), shE 3 (by omega)]; exact s6, fun j hj => by rw [oc 13 (by omega) (by omega) (by omega) (by omega) (by omega) (by omega) (by omega) (by omega), hS (8 + j) (by omega)]; exact s7 j hj, fun e he => ?_, ?_, ?_⟩
        · rw [oc 14 (by omega) (by omega) (by omega) (by omega) (by omega) (by omega) (by omega) (by omega), oc 15 (by omega) (by omega) (by omega) (by omega) (by omega) (by omega) (by omega) (by omega), hS (20 + 8 * e) (by omega), hS (20 + 8 * e + 1) (by omega)]; exact s8 e he
        · have hn : nowW S' = nowW (m 305) := by funext e q; unfold nowW; exact hS _ (by omega)
          rw [hS 2 (by omega), hn]
          exact s9.kept (oc _ (by omega) (by omega) (by omega) (by omega) (by omega) (by omega) (by omega) (by omega)) (oc _ (by omega) (by omega) (by omega) (by omega) (by omega) (by omega) (by omega) (by omega)) (oc _ (by omega) (by omega) (by omega) (by omega) (by omega) (by omega) (by omega) (by omega)) (oc _ (by omega) (by omega) (by omega) (by omega) (by omega) (by omega) (by omega) (by omega))
        · have p10 : Pst m2 (12 + 8) (m 305) := s10.kept (fun c q1 q2 => oc c (by omega) (by omega) (by omega) (by omega) (by omega) (by omega) (by omega) (by omega))
          obtain ⟨p1, nx, p2, p3, p4⟩ := p10
          refine ⟨by rw [hS 5 (by omega)]; exact p1, nx, p2, p3, fun k' hk' r hr => ?_⟩
          rw [hS 5 (by omega)] at hk' hr
          have hst : stW S' k' = stW (m 305) k' := by funext e q; unfold stW; exact hS _ (by omega)
          rw [hS (84 + 50 * k' + 1) (by omega), hst]
          exact p4 k' hk' r hr
      · rw [e306]
        exact h5.kept (fun j q1 q2 => oc j (by omega) (by omega) (by omega) (by omega) (by omega) (by omega) (by omega) (by omega))
      · rw [e305]
        obtain ⟨s0, s1, s2, s3, s4, s6, s7, s8, s9, s10, s11⟩ := h6
        have hn : nowW S' = nowW (m 305) := by funext e q; unfold nowW; exact hS _ (by omega)
        refine ⟨by rw [hS 0 (by omega)]; exact s0, by rw [hS 1 (by omega)]; exact s1, by omega, by rw [hS 4 (by omega)]; omega, by rw [hS 5 (by omega)]; exact s4, by rw [hS 6 (by omega)]; exact s6, fun j hj => by rw [hS (8 + j) (by omega)]; exact s7 j hj, fun k' hk' hk2 => by rw [hS 6 (by omega)] at hk2; rw [hS (16 + k') (by omega), hS 0 (by omega)]; exact s8 k' hk' hk2, fun e he => by rw [hS (20 + 8 * e) (by omega), hS (20 + 8 * e + 1) (by omega)]; exact s9 e he, by rw [hS 1 (by omega), hS 2 (by omega), hn]; exact s10, fun k' hk' => ?_⟩
        rw [hS 5 (by omega)] at hk'
        have hst : stW S' k' = stW (m 305) k' := by funext e q; unfold stW; exact hS _ (by omega)
        rw [hS (84 + 50 * k') (by omega), hS 1 (by omega), hS (84 + 50 * k' + 1) (by omega), hst]
        exact s11 k' hk'
      · rw [e306]; exact h7
      · rw [e306, e305]; omega
      · rw [e305] at ht
        by_cases htT : T ≤ t
        · exact hnew t ht htT
        · obtain ⟨sc1, wf1⟩ := h9 t (by omega)
          have m1308 : m1 308 = m 308 := a1 308 (by omega) (by omega) (by omega) (by omega) (by omega) (by omega) (by omega)
          have ex : ∀ j, 680 * t ≤ j → j < 680 * t + 680 → m2 308 j = m 308 j := fun j q1 q2 => by rw [b4 j (by omega), m1308]
          refine ⟨?_, WfT_cong wf1 ex⟩
          exact (Scr_cong sc1 wf1 ex).kept (fun j q1 q2 => oc j (by omega) (by omega) (by omega) (by omega) (by omega) (by omega) (by omega) (by omega))
      · rw [c1 0 (by omega), a4, b3]
      · rw [b3]; omega
      · rw [b3] at hj; omega
      · rw [c1 2 (by omega)]; exact e20
      · rw [c1 2 (by omega)]; exact e21
    have plr : ∀ j, rng (plI (m 309) L j : Int) := fun j => by have := pl_le (m 309) L j; omega
    -- the reference behind the class
    have ref : ∀ (z : Int) (m1 : MM), FrX (284 + 5 * T) m m1 → (∀ ft jx, pTx (tkI (m 309) L) (nbI (m 309) L) 300 x0 = .inl (ft, jx) → ∀ m2, FrW (680 * T) m1 m2 → m2 305 = m1 305 → m2 304 7 = ft → m2 304 8 = (plI (m 309) L jx : Int) → k z (-1) m2) → (∀ y, pTx (tkI (m 309) L) (nbI (m 309) L) 300 x0 = .inr y → (∃ E, E ≤ 300 ∧ RdOK E y) → ∀ m2, FrW (680 * T) m1 m2 → m2 305 = up (m1 305) 3 ((T : Int) + 1) → m2 304 7 = 0 → m2 304 8 = -1 → XR (m1 308) (680 * T) (m2 308) y → k z (T : Int) m2) → N G (d + 60) mi_X8_text 0 [some (vr 304)] [] m1 (RI fun z' m2 => k z z' m2) := by
      intro z m1 f1 hb ho
      have g : ∀ c, c ≠ 0 → c ≠ 2 → c ≠ 3 → c ≠ 4 → c ≠ 5 → c ≠ 12 → (c < 284 + 5 * T ∨ 284 + 5 * T + 5 ≤ c) → m1 c = m c := f1.1
      have g304 : m1 304 = m 304 := g 304 (by omega) (by omega) (by omega) (by omega) (by omega) (by omega) (by omega)
      have g305 : m1 305 = m 305 := g 305 (by omega) (by omega) (by omega) (by omega) (by omega) (by omega) (by omega)
      have g309 : m1 309 = m 309 := g 309 (by omega) (by omega) (by omega) (by omega) (by omega) (by omega) (by omega)
      have tp : Tp (m 309) L m1 := ⟨by rw [g304]; exact hL, by omega, fun j hj => ⟨(h12 j (by omega)).1, by rw [g309]⟩⟩
      exact c8_text (d := d + 50) tp T (by rw [g305]; exact hT) hT4 hb ho
    refine c7_text (d := d + 36) tc (by rw [h10]; exact hL) e5 hT4 (fun ft j e m1 f1 g12 g20 g21 hft => ?_) (fun y e m1 f0 f1 g12 g20 g21 hcl h4' hE => ?_)
    · refine ref (-1) m1 f1 (fun ft' j' e' m2 f2 g305 g7 g8 => ?_) (fun y e' => by rw [e] at e'; cases e')
      rw [e] at e'
      injection e' with e'
      injection e' with e1 e2
      subst e1 e2
      have m1305 : m1 305 = m 305 := f1.1 305 (by omega) (by omega) (by omega) (by omega) (by omega) (by omega) (by omega)
      have m1306 : m1 306 = m 306 := f1.1 306 (by omega) (by omega) (by omega) (by omega) (by omega) (by omega) (by omega)
      have p := plr j
      refine hk _ _ (keep m1 m2 (m 305) f1 f2 (fun c hc => f2.1 c (by omega) (by omega) (by omega) (by omega)) (by rw [f2.1 306 (by omega) (by omega) (by omega) (by omega)]; exact m1306) (by rw [g305]; exact m1305) (fun _ _ => rfl) (by rw [g12, hT]) (by omega) (by omega) (by rw [g20, g7]) (by rw [g21, g8]) (by rw [g7]; omega) (by rw [g8]; exact p) (fun t ht htT => by omega))
    · refine ref (T : Int) m1 f1 (fun ft' j' e' => by rw [e] at e'; cases e') (fun y' e' hy m2 f2 g305 g7 g8 hx => ?_)
      rw [e] at e'
      injection e' with e'
      subst e'
      obtain ⟨E, hE3, hy⟩ := hy
      have m1305 : m1 305 = m 305 := f1.1 305 (by omega) (by omega) (by omega) (by omega) (by omega) (by omega) (by omega)
      have m1306 : m1 306 = m 306 := f1.1 306 (by omega) (by omega) (by omega) (by omega) (by omega) (by omega) (by omega)
      have cc : ∀ c, c < 304 → m2 c = m1 c := fun c hc => f2.1 c (by omega) (by omega) (by omega) (by omega)
      refine hk _ _ (keep m1 m2 (up (m 305) 3 ((T : Int) + 1)) f1 f2 cc (by rw [f2.1 306 (by omega) (by omega) (by omega) (by omega)]; exact m1306) (by rw [g305, m1305]) (fun j hj => up_ne _ _ hj) (by rw [g12, up_at]) (by rw [up_at]; omega) (by rw [up_at]; omega) (by rw [g20, g7]) (by rw [g21, g8]) (by rw [g7]; omega) (by rw [g8]; omega) (fun t ht htT => ?_))
      rw [up_at] at ht
      have tT : t = T := by omega
      subst tT
      exact ⟨(Scr_new hE3 hy hx hcl h4').kept (fun j q1 q2 => cc j (by omega)), WfT_new hE3 hy hx⟩
  · have ref : N G (d + 60) mi_X8_text 0 [some (vr 304)] [] m (RI fun z' m2 => k (-1) z' m2) := by
      refine g_X8_text_0 ?_
      rw [hT]
      exact eqT (by omega) (hkk _)
    refine g_X7_text_0 ?_
    rw [e5]
    exact ltF (by omega) ref
end Text
