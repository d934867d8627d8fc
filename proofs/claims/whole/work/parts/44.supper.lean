/-! ===== supper ===== -/
/-- what the eyes know once two of them are exchanged and the story is told -/
def spW (S X : Nat → Int) (C : Int) (t lo hi : Nat) : Nat → Nat → Int := (tlF S X C t (X (680 * t)).toNat 0 (S 2, swW (nowW S) (S 2) lo hi)).2
abbrev okS (S X : Nat → Int) (C : Int) (t e lo hi : Nat) : Prop := spW S X C t lo hi e 2 = shw S 0 ∧ spW S X C t lo hi e 3 = shw S 1 ∧ spW S X C t lo hi e 4 = shw S 2 ∧ spW S X C t lo hi e 5 = shw S 3
def spI (S X : Nat → Int) (C : Int) (t e : Nat) (i : Int) (lo : Nat) : Nat → Nat → Int → Option Int × Int
  | 0, _, f => (none, f)
  | r + 1, hi, f => if okS S X C t e lo hi then (if f = i then (some (8 * (lo : Int) + (hi : Int)), f) else spI S X C t e i lo r (hi + 1) (f + 1)) else spI S X C t e i lo r (hi + 1) f
def spO (S X : Nat → Int) (C : Int) (t e : Nat) (i : Int) (n : Nat) : Nat → Nat → Int → Int
  | 0, _, f => if i = -1 then f else -1
  | r + 1, lo, f => match spI S X C t e i lo (n - (lo + 1)) (lo + 1) f with
    | (some z, _) => z
    | (none, f') => spO S X C t e i n r (lo + 1) f'
section Supper
variable {G : GG} {d : Nat} {m : MM}
theorem c_shownAt {k : Int → MM → Prop} {x1 : Int} (q : Nat) (e1 : x1 = (q : Int)) (hq : q < 4) (h6 : rng (m 305 6)) (h : k (shw (m 305) q) m) : N G d mi_X8_shownAt 0 [some (vr 304), some (vi x1)] [] m (RI k) := by
  unfold shw at h
  refine g_X8_shownAt_0 _ (leI (by omega) (fun z => ?_) (fun z => ⟨16 + q, by omega, ?_⟩))
  · rw [if_neg (by omega)] at h; exact h
  · rw [if_pos (by omega)] at h; exact h
theorem c_isSupper {k : Int → MM → Prop} {C x1 x2 x3 x4 : Int} {S X : Nat → Int} (hS : ∀ j, j < 1584 → m 305 j = S j) (hw : WfS C S) (hX : m 308 = X) (hW : ∀ t : Nat, (t : Int) < S 3 → WfT X t) (e3 : m 304 3 = C) (hCC : 1 ≤ C ∧ C ≤ 6) (t e lo hi : Nat) (e1 : x1 = (t : Int)) (ht : (t : Int) < S 3) (e2 : x2 = (e : Int)) (he : (e : Int) < S 1) (e3' : x3 = (lo : Int)) (hlo : (lo : Int) < S 1) (e4 : x4 = (hi : Int)) (hhi : (hi : Int) < S 1) (hne : lo ≠ hi)
    (hy : okS S X C t e lo hi → ∀ m', FrT m m' → (∀ j, j < 1584 → m' 305 j = S j) → k 1 m') (hn : ¬ okS S X C t e lo hi → ∀ m', FrT m m' → (∀ j, j < 1584 → m' 305 j = S j) → k 0 m') : N G (d + 7) mi_X8_isSupper 0 [some (vr 304), some (vi x1), some (vi x2), some (vi x3), some (vi x4), none, none] [] m (RI k) := by
  have w1 := hw.2.1
  have w3 := hw.2.2.1
  have w6 := hw.2.2.2.2.2.1
  have hv := hw.2.2.2.2.2.2.2.2.2.1
  refine g_X8_isSupper_0 _ _ _ _ (c_copy 305 307 sh_305 sh_307 (by omega) ?_)
  have g5 : ∀ f, sc m 307 f 305 = m 305 := fun f => sc_ne _ _ (by decide)
  have st : Sta S (m 305) := ⟨fun j h1 _ _ => hS j (by omega), fun a ha => ⟨hS _ (by omega), hS _ (by omega)⟩⟩
  have set0 : SetW (m 305) (m 305) (S 2) (nowW S) := ⟨hS 2 (by omega), fun a ha q hq => hS _ (by omega), fun _ _ => ⟨rfl, rfl⟩, fun _ _ => rfl⟩
  have hvs := hv.sw hlo (by omega) hhi (by omega) hne
  refine c_exchange lo hi e3' (by omega) e4 (by omega) (S0 := m 305) (hr := S 2) (W := nowW S) (by rw [g5]; exact set0) (fun S2 hs2 => ?_)
  generalize hm4 : sc (sc m 307 (fun j => if j < 1584 then m 305 j else m 307 j)) 305 S2 = m4
  have q5 : m4 305 = S2 := by rw [← hm4, sc_at]
  have q7 : m4 307 = fun j => if j < 1584 then m 305 j else m 307 j := by rw [← hm4, sc_ne _ _ (by decide), sc_at]
  have qo : ∀ c, c ≠ 305 → c ≠ 307 → m4 c = m c := fun c h1 h2 => by rw [← hm4, sc_ne _ _ h1, sc_ne _ _ h2]
  have hwm : WfS C (m 305) := hw.cong hS
  have e1' : m 305 1 = S 1 := hS 1 (by omega)
  have hw4 : WfS C (m4 305) := by rw [q5]; exact hwm.setW hs2 (by rw [e1']; exact hvs)
  have st4 : Sta S (m4 305) := by rw [q5]; exact st.tr hs2.sta
  have t3 : m4 305 3 = S 3 := st4.1 3 (by omega) (by omega) (by omega)
  refine c_tellOn (S := S) (C := C) (hr := S 2) (W := swW (nowW S) (S 2) lo hi) (X := X) st4 (by rw [q5]; exact hs2.vw) hw4 (by rw [qo 308 (by omega) (by omega)]; exact hX) (fun t' ht' => hW t' (by omega)) (by rw [qo 304 (by omega) (by omega)]; exact e3) hCC t e1 (by omega) (fun m6 f6 st6 vw6 wf6 => ?_)
  have kn : ∀ q, q < 4 → m6 305 (20 + 8 * e + 4 + q) = spW S X C t lo hi e (2 + q) := fun q hq => by
    have := vw6.2 e (by omega) (2 + q) (by omega)
    unfold spW
    rw [← this]; congr 1; omega
  have kt : ∀ q, q < 4 → rng (m6 305 (20 + 8 * e + 4 + q)) := fun q hq => by have := wf6.know (e := e) (by omega) hq; omega
  have sh6 : ∀ q, q < 4 → shw (m6 305) q = shw S q := fun q hq => by
    unfold shw
    rw [st6.1 6 (by omega) (by omega) (by omega), st6.1 (16 + q) (by omega) (by omega) (by omega)]
  have r6 : rng (m6 305 6) := by rw [st6.1 6 (by omega) (by omega) (by omega)]; omega
  have fin : ∀ (x5 x6 : Int), (x5 = 0 ∧ ¬ okS S X C t e lo hi ∨ x5 = 1 ∧ okS S X C t e lo hi) → x6 = 4 → N G (d + 7) mi_X8_isSupper 29 [some (vr 304), none, some (vi x2), none, none, some (vi x5), some (vi x6)] [] m6 (RI k) := by
    intro x5 x6 h5 h6
    refine g_X8_isSupper_29 _ _ _ (leT (by omega) (c_copy 307 305 sh_307 sh_305 (by omega) ⟨by omega, ?_⟩))
    have fr : FrT m (sc m6 305 (fun j => if j < 1584 then m6 307 j else m6 305 j)) := fun c h1 h2 h3 h4 h5 h6 => by
      rw [sc_ne _ _ h1, f6 c h1 h3 h4 h5, qo c h1 h2]
    have f5 : ∀ j, j < 1584 → sc m6 305 (fun j => if j < 1584 then m6 307 j else m6 305 j) 305 j = S j := fun j hj => by
      rw [sc_at]
      show (if j < 1584 then m6 307 j else m6 305 j) = S j
      rw [if_pos hj, f6 307 (by omega) (by omega) (by omega) (by omega), q7]
      show (if j < 1584 then m 305 j else m 307 j) = S j
      rw [if_pos hj]
      exact hS j hj
    rcases h5 with ⟨h5, hq⟩ | ⟨h5, hq⟩
    · rw [h5]; exact hn hq _ fr f5
    · rw [h5]; exact hy hq _ fr f5
  have zero : ∀ (r q : Nat) (x6 : Int), q + r = 4 → x6 = (q : Int) → ¬ okS S X C t e lo hi → N G (d + 7) mi_X8_isSupper 29 [some (vr 304), none, some (vi x2), none, none, some (vi 0), some (vi x6)] [] m6 (RI k) := by
    intro r
    induction r with
    | zero => intro q x6 hq h6 hno; exact fin 0 x6 (Or.inl ⟨rfl, hno⟩) (by omega)
    | succ r ih =>
      intro q x6 hq h6 hno
      exact g_X8_isSupper_29 _ _ _ (leF (by omega) (eqT (by omega) (ih (q + 1) _ (by omega) (by omega) hno)))
  have one : ∀ (r q : Nat) (x6 : Int), q + r = 4 → x6 = (q : Int) → (∀ q', q' < q → spW S X C t lo hi e (2 + q') = shw S q') → N G (d + 7) mi_X8_isSupper 29 [some (vr 304), none, some (vi x2), none, none, some (vi 1), some (vi x6)] [] m6 (RI k) := by
    intro r
    induction r with
    | zero =>
      intro q x6 hq h6 hal
      have q4 : q = 4 := by omega
      subst q4
      exact fin 1 x6 (Or.inr ⟨rfl, hal 0 (by omega), hal 1 (by omega), hal 2 (by omega), hal 3 (by omega)⟩) (by omega)
    | succ r ih =>
      intro q x6 hq h6 hal
      refine g_X8_isSupper_29 _ _ _ (leF (by omega) (eqF (by omega) (c_get (20 + 8 * e + 4 + q) (by omega) (by omega) (c_shownAt q h6 (by omega) r6 ?_))))
      have r1 := kt q (by omega)
      have r2 := shw_th hw (k := q) (by omega)
      rw [sh6 q (by omega)]
      rw [kn q (by omega)] at r1 ⊢
      refine eqI (by omega) (fun z => ?_) (fun z => ?_)
      · refine ih (q + 1) _ (by omega) (by omega) (fun q' hq' => ?_)
        by_cases ee : q' = q
        · rw [ee]; exact z
        · exact hal q' (by omega)
      · refine zero r (q + 1) _ (by omega) (by omega) (fun ok => z ?_)
        have : q = 0 ∨ q = 1 ∨ q = 2 ∨ q = 3 := by omega
        rcases this with rfl | rfl | rfl | rfl
        · exact ok.1
        · exact ok.2.1
        · exact ok.2.2.1
        · exact ok.2.2.2
  exact one 4 0 0 (by omega) rfl (fun q' hq' => absurd hq' (by omega))
theorem P_supper {k : Int → Int → MM → Prop} {x1 x2 x3 : Int} (hx1 : rng x1) (hx2 : rng x2) (hx3 : rng x3) (h : Rel m m) (hk : ∀ z m', Rel m' m' → k z z m') : PR G d mi_X7_supper mi_X8_supper [some (vr 0), some (vi x1), some (vi x2), some (vi x3), none, none, none] [some (vr 304), some (vi x1), some (vi x2), some (vi x3), none, none, none] m k := by
  have hR := h
  have hask := h.asks
  obtain ⟨C, hC, h2, h3', h4, h5, hw, h7, h8, h9, -⟩ := hR
  have w0 := hw.1
  have w1 := hw.2.1
  have w3 := hw.2.2.1
  obtain ⟨s0, s1, s3, s4, s6, s8, s7, sc', scr, sp⟩ := h4
  have hkk : ∀ z, k z z m := fun z => hk z m h
  have hv := hw.2.2.2.2.2.2.2.2.2.1
  by_cases hall : (0 ≤ x1 ∧ x1 < m 305 3) ∧ (0 ≤ x2 ∧ x2 < m 305 1) ∧ -1 ≤ x3
  · obtain ⟨ha, hb, hc⟩ := hall
    obtain ⟨t, ht⟩ : ∃ t : Nat, x1 = (t : Int) := ⟨x1.toNat, by omega⟩
    obtain ⟨e, he⟩ : ∃ e : Nat, x2 = (e : Int) := ⟨x2.toNat, by omega⟩
    obtain ⟨n, hn⟩ : ∃ n : Nat, m 305 1 = (n : Int) := ⟨(m 305 1).toNat, by omega⟩
    generalize hSS : m 305 = S at *
    generalize hXX : m 308 = X at *
    -- the class
    have outC : ∀ (r lo : Nat) (x4 x5 : Int) (m1 : MM) (k' : Int → MM → Prop), lo + r = n → x5 = (lo : Int) → (0 ≤ x4 ∧ x4 ≤ 8 * (lo : Int)) → (∀ c, c < 272 ∨ 284 ≤ c → m1 c = m c) → (∀ m', (∀ c, c < 272 ∨ 284 ≤ c → m' c = m c) → k' (spO S X C t e x3 n r lo x4) m') → N G (d + 60) mi_X7_supper 29 [some (vr 0), some (vi x1), some (vi x2), some (vi x3), some (vi x4), some (vi x5), none] [] m1 (RI k') := by
      intro r
      induction r with
      | zero =>
        intro lo x4 x5 m1 k' hlo h5 hx4 hf hk'
        refine g_X7_supper_29 _ _ _ _ _ ?_
        have g12 : m1 12 2 = (n : Int) := by rw [hf 12 (by omega)]; omega
        have hk2 := hk' m1 hf
        unfold spO at hk2
        refine leT (by omega) (eqI (by omega) (fun q => ?_) (fun q => ?_))
        · rw [if_pos q] at hk2; exact hk2
        · rw [if_neg q] at hk2; exact hk2
      | succ r ih =>
        intro lo x4 x5 m1 k' hlo h5 hx4 hf hk'
        have g12 : m1 12 2 = (n : Int) := by rw [hf 12 (by omega)]; omega
        refine g_X7_supper_29 _ _ _ _ _ (leF (by omega) ?_)
        rw [spO] at hk'
        have inn : ∀ (r' hi : Nat) (x4 x6 : Int) (m1 : MM), hi + r' = n → lo < hi → x6 = (hi : Int) → (0 ≤ x4 ∧ x4 ≤ 8 * (lo : Int) + ((hi : Int) - (lo : Int) - 1)) → (∀ c, c < 272 ∨ 284 ≤ c → m1 c = m c) → (∀ m', (∀ c, c < 272 ∨ 284 ≤ c → m' c = m c) → k' (match spI S X C t e x3 lo r' hi x4 with | (some z, _) => z | (none, f') => spO S X C t e x3 n r (lo + 1) f') m') → N G (d + 60) mi_X7_supper 47 [some (vr 0), some (vi x1), some (vi x2), some (vi x3), some (vi x4), some (vi x5), some (vi x6)] [] m1 (RI k') := by
          intro r'
          induction r' with
          | zero =>
            intro hi x4 x6 m1 hhi hlt h6 hx4 hf hk'
            have g12 : m1 12 2 = (n : Int) := by rw [hf 12 (by omega)]; omega
            exact g_X7_supper_47 _ _ _ _ _ _ (leT (by omega) (ih (lo + 1) _ _ m1 k' (by omega) (by omega) (by omega) hf hk'))
          | succ r' ih' =>
            intro hi x4 x6 m1 hhi hlt h6 hx4 hf hk'
            have g12 : m1 12 2 = (n : Int) := by rw [hf 12 (by omega)]; omega
            refine g_X7_supper_47 _ _ _ _ _ _ (leF (by omega) (c0_copyFrom 272 16 sh_272 sh_16 (by omega) (fun m2 cp2 f2 => ?_)))
            have scr1 : Crt m1 16 (S 2) (nowW S) := scr.kept (hf _ (by omega)) (hf _ (by omega)) (hf _ (by omega)) (hf _ (by omega))
            have hcr : Crt m2 272 (S 2) (nowW S) := cp2 _ _ scr1
            have fa : ∀ c, c < 272 ∨ 284 ≤ c → m2 c = m c := fun c hc => (f2 c (by omega)).trans (hf c hc)
            refine c0_exchange 272 sh_272 lo hi h5 h6 (by omega) (by omega) (fun m4 cp4 f4 => ⟨t, by omega, ?_⟩)
            have fb : ∀ c, c < 272 ∨ 284 ≤ c → m4 c = m c := fun c hc => (f4 c (by omega) (by omega)).trans (fa c hc)
            have hvs := hv.sw (i := lo) (j := hi) (by omega) (by omega) (by omega) (by omega) (by omega)
            refine c7_tell (S := S) (X := X) (C := C) t (by omega) hw hC (hask.fr (fun c hc => fb c (by omega)) (by omega)) (by rw [fb 0 (by omega)]; exact h2) (by rw [fb 12 (by omega)]; exact s0) (by rw [fb 12 (by omega)]; exact s1) (cp4 _ _ hcr) hvs (fun m7 f7 hc7 => ⟨e, by omega, ?_⟩)
            have fc : ∀ c, c < 272 ∨ 284 ≤ c → m7 c = m c := fun c hc => (f7 c (by omega) (by omega) (by omega)).trans (fb c hc)
            have okv := tl_ok (S := S) (X := X) (t := t) hC.1 w0 w1 (X (680 * t)).toNat 0 _ _ hvs
            have ie := okv.2.2.1 e (by omega)
            unfold eyeOK at ie
            have c275 : m7 275 e = pkW (spW S X C t lo hi) e := (hc7.2 e (by omega)).2.2
            have c128 : m7 12 8 = pk (shw S 0) (shw S 1) (shw S 2) (shw S 3) := by rw [fc 12 (by omega)]; exact s8
            have t0 := shw_th hw (k := 0) (by omega)
            have t1 := shw_th hw (k := 1) (by omega)
            have t2 := shw_th hw (k := 2) (by omega)
            have t3 := shw_th hw (k := 3) (by omega)
            obtain ⟨p1, hp1, hp1'⟩ := pk_nat ie.2.2.2.2.1 ie.2.2.2.2.2.1 ie.2.2.2.2.2.2.1 ie.2.2.2.2.2.2.2
            obtain ⟨p2, hp2, hp2'⟩ := pk_nat t0 t1 t2 t3
            have iff : m7 275 e = m7 12 8 ↔ okS S X C t e lo hi := by
              rw [c275, c128]
              exact pk_inj ie.2.2.2.2.1 ie.2.2.2.2.2.1 ie.2.2.2.2.2.2.1 ie.2.2.2.2.2.2.2 t0 t1 t2 t3
            have c275' : m7 275 e = (p1 : Int) := c275.trans hp1
            rw [spI] at hk'
            refine eqI (by omega) (fun z => ?_) (fun z => ?_)
            · rw [if_pos (iff.mp z)] at hk'
              refine eqI (by omega) (fun z2 => ?_) (fun z2 => ?_)
              · rw [if_pos z2] at hk'
                have := hk' m7 fc
                rw [h5, h6]
                exact this
              · rw [if_neg z2] at hk'
                exact ih' (hi + 1) _ _ m7 (by omega) (by omega) (by omega) (by omega) fc hk'
            · rw [if_neg (fun q => z (iff.mpr q))] at hk'
              exact ih' (hi + 1) _ _ m7 (by omega) (by omega) (by omega) (by omega) fc hk'
        exact inn (n - (lo + 1)) (lo + 1) x4 _ m1 (by omega) (by omega) (by omega) (by omega) hf hk'
    refine g_X7_supper_0 _ _ _ (c7_isText (by omega) (fun _ => eqF (by omega) (c7_isEye (by omega) (fun _ => eqF (by omega) (leT (by omega) ?_)) (fun z => absurd z (by omega)))) (fun z => absurd z (by omega)))
    refine outC n 0 0 0 m _ (by omega) rfl (by omega) (fun _ _ => rfl) (fun m1 fm1 => ?_)
    -- the reference
    have g4 := fm1 304 (by omega)
    have g5 := fm1 305 (by omega)
    have g8 := fm1 308 (by omega)
    have outR : ∀ (r lo : Nat) (x4 x5 : Int) (m2 : MM) (k' : Int → MM → Prop), lo + r = n → x5 = (lo : Int) → (0 ≤ x4 ∧ x4 ≤ 8 * (lo : Int)) → FrT m1 m2 → (∀ j, j < 1584 → m2 305 j = S j) → (∀ m', FrT m1 m' → (∀ j, j < 1584 → m' 305 j = S j) → k' (spO S X C t e x3 n r lo x4) m') → N G (d + 60) mi_X8_supper 29 [some (vr 304), some (vi x1), some (vi x2), some (vi x3), some (vi x4), some (vi x5), none] [] m2 (RI k') := by
      intro r
      induction r with
      | zero =>
        intro lo x4 x5 m2 k' hlo h5 hx4 hf hS hk'
        have g1 : m2 305 1 = (n : Int) := by rw [hS 1 (by omega)]; exact hn
        have hk2 := hk' m2 hf hS
        unfold spO at hk2
        refine g_X8_supper_29 _ _ _ _ _ (leT (by omega) (eqI (by omega) (fun q => ?_) (fun q => ?_)))
        · rw [if_pos q] at hk2; exact hk2
        · rw [if_neg q] at hk2; exact hk2
      | succ r ih =>
        intro lo x4 x5 m2 k' hlo h5 hx4 hf hS hk'
        have g1 : m2 305 1 = (n : Int) := by rw [hS 1 (by omega)]; exact hn
        refine g_X8_supper_29 _ _ _ _ _ (leF (by omega) ?_)
        rw [spO] at hk'
        have inn : ∀ (r' hi : Nat) (x4 x6 : Int) (m2 : MM), hi + r' = n → lo < hi → x6 = (hi : Int) → (0 ≤ x4 ∧ x4 ≤ 8 * (lo : Int) + ((hi : Int) - (lo : Int) - 1)) → FrT m1 m2 → (∀ j, j < 1584 → m2 305 j = S j) → (∀ m', FrT m1 m' → (∀ j, j < 1584 → m' 305 j = S j) → k' (match spI S X C t e x3 lo r' hi x4 with | (some z, _) => z | (none, f') => spO S X C t e x3 n r (lo + 1) f') m') → N G (d + 60) mi_X8_supper 46 [some (vr 304), some (vi x1), some (vi x2), some (vi x3), some (vi x4), some (vi x5), some (vi x6)] [] m2 (RI k') := by
          intro r'
          induction r' with
          | zero =>
            intro hi x4 x6 m2 hhi hlt h6 hx4 hf hS hk'
            have g1 : m2 305 1 = (n : Int) := by rw [hS 1 (by omega)]; exact hn
            exact g_X8_supper_46 _ _ _ _ _ _ (leT (by omega) (ih (lo + 1) _ _ m2 k' (by omega) (by omega) (by omega) hf hS hk'))
          | succ r' ih' =>
            intro hi x4 x6 m2 hhi hlt h6 hx4 hf hS hk'
            have g1 : m2 305 1 = (n : Int) := by rw [hS 1 (by omega)]; exact hn
            have m28 : m2 308 = X := by rw [hf 308 (by omega) (by omega) (by omega) (by omega) (by omega) (by omega), g8, hXX]
            have m24 : m2 304 3 = C := by rw [hf 304 (by omega) (by omega) (by omega) (by omega) (by omega) (by omega), g4]; exact h3'
            have trT : ∀ m3, FrT m2 m3 → FrT m1 m3 := fun m3 f3 c h1 h2 h3 h4 h5 h6 => (f3 c h1 h2 h3 h4 h5 h6).trans (hf c h1 h2 h3 h4 h5 h6)
            rw [spI] at hk'
            refine g_X8_supper_46 _ _ _ _ _ _ (leF (by omega) (c_isSupper (S := S) hS hw m28 (fun t' ht' => (h9 t' ht').2) m24 hC t e lo hi ht (by omega) he (by omega) h5 (by omega) h6 (by omega) (by omega) (fun ok m3 f3 e5 => ?_) (fun ok m3 f3 e5 => ?_)))
            · rw [if_pos ok] at hk'
              refine eqF (by omega) (eqI (by omega) (fun z2 => ?_) (fun z2 => ?_))
              · rw [if_pos z2] at hk'
                have := hk' m3 (trT _ f3) e5
                rw [h5, h6]
                exact this
              · rw [if_neg z2] at hk'
                exact ih' (hi + 1) _ _ m3 (by omega) (by omega) (by omega) (by omega) (trT _ f3) e5 hk'
            · rw [if_neg ok] at hk'
              exact eqT (by omega) (ih' (hi + 1) _ _ m3 (by omega) (by omega) (by omega) (by omega) (trT _ f3) e5 hk')
        exact inn (n - (lo + 1)) (lo + 1) x4 _ m2 (by omega) (by omega) (by omega) (by omega) hf hS hk'
    have g5' : m1 305 = S := g5.trans hSS
    refine g_X8_supper_0 _ _ _ (c_isText (by rw [g5']; omega) (fun _ => eqF (by omega) (c_isEye (by rw [g5']; omega) (fun _ => eqF (by omega) (leT (by omega) ?_)) (fun z => absurd z (by rw [g5']; omega)))) (fun z => absurd z (by rw [g5']; omega)))
    refine outR n 0 0 0 m1 _ (by omega) rfl (by omega) (fun _ _ _ _ _ _ _ => rfl) (fun j _ => by rw [g5']) (fun m3 f3 e5 => hk _ _ ?_)
    exact h.work fm1 f3.frR (fun j hj => by rw [e5 j hj, hSS])
  · have ref : N G (d + 60) mi_X8_supper 0 [some (vr 304), some (vi x1), some (vi x2), some (vi x3), none, none, none] [] m (RI fun z' m2 => k (-1) z' m2) := by
      refine g_X8_supper_0 _ _ _ (c_isText (by omega) (fun _ => eqF (by omega) (c_isEye (by omega) (fun _ => eqF (by omega) (leF (by omega) (hkk _))) (fun z => eqT (by omega) (hkk _)))) (fun z => eqT (by omega) (hkk _)))
    refine g_X7_supper_0 _ _ _ (c7_isText (by omega) (fun _ => eqF (by omega) (c7_isEye (by omega) (fun _ => eqF (by omega) (leF (by omega) ref)) (fun z => eqT (by omega) ref))) (fun z => eqT (by omega) ref))
end Supper
