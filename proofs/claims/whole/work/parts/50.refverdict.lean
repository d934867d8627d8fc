/-! ===== the reference's verdict ===== -/
def prP (S X : Nat → Int) (e : Nat) : Int := rubF X (S 4) (nmv S e (S 2) (nowW S e 1) (cmy (nowW S) e) 0 0)
theorem prP_bd (S X : Nat → Int) (e : Nat) : 0 ≤ prP S X e ∧ prP S X e ≤ 99 := rubF_bd _ _ _
section RefVerdict
variable {G : GG} {d : Nat} {m : MM}
theorem FrT.tr {a b c : MM} (h : FrT a b) (h2 : FrT b c) : FrT a c := fun j h1 h3 h4 h5 h6 h7 => (h2 j h1 h3 h4 h5 h6 h7).trans (h j h1 h3 h4 h5 h6 h7)
theorem c_rubsOfS {k : Int → MM → Prop} {C x1 : Int} {S X : Nat → Int} (hS : ∀ j, j < 1584 → m 305 j = S j) (hw : WfS C S) (hX : m 308 = X) (hW : ∀ t : Nat, (t : Int) < S 3 → WfT X t) (e : Nat) (e1 : x1 = (e : Int)) (he : e < 8) (hk : ∀ m', FrL m m' → k (prP S X e) m') : N G (d + 3) mi_X8_rubsOf 0 [some (vr 304), some (vi x1), none] [] m (RI k) := by
  refine c_rubsOf (C := C) (hw.cong hS) (fun t ht => by rw [hX]; exact hW t (by rw [hS 3 (by omega)] at ht; exact ht)) e e1 he (fun m' f => ?_)
  have ec : cnt (fun q => m 305 (20 + 8 * e + 4 + q)) 4 = cmy (nowW S) e := cnt_cmy (fun q hq => by rw [hS _ (by omega)]; unfold nowW; congr 1; omega)
  have st : Sta S (m 305) := ⟨fun j h1 _ _ => hS j (by omega), fun a ha => ⟨hS _ (by omega), hS _ (by omega)⟩⟩
  rw [ec, hX, hS 4 (by omega), hS 2 (by omega), hS (20 + 8 * e + 3) (by omega), nmv_cong st he (by omega)]
  exact hk m' f
theorem c_verdict {k : Int → MM → Prop} {C x1 : Int} {S X : Nat → Int} (hS : ∀ j, j < 1584 → m 305 j = S j) (hw : WfS C S) (hX : m 308 = X) (hW : ∀ t : Nat, (t : Int) < S 3 → WfT X t) (e3 : m 304 3 = C) (hCC : 1 ≤ C ∧ C ≤ 6) (x n T : Nat) (e1 : x1 = (x : Int)) (hT : S 3 = (T : Int)) (hn1 : S 1 = (n : Int)) (hx : x < 2 ^ T)
    (hno : (∀ s, s < 2 ^ n → ¬ apP (tdU S X C) x T n s) → ∀ m', FrT m m' → (∀ j, j < 1584 → m' 305 j = S j) → k (-1) m') (hb : ∀ b : Nat, Bst (apP (tdU S X C) x T n) (prP S X) n 0 (2 ^ n) b → ∀ m', FrT m m' → (∀ j, j < 1584 → m' 305 j = S j) → k (b : Int) m') : N G (d + 8) mi_X8_verdict 0 [some (vr 304), some (vi x1), none, none, none, none, none] [] m (RI k) := by
  have w0 := hw.1
  have w1 := hw.2.1
  have w3 := hw.2.2.1
  have hv := hw.2.2.2.2.2.2.2.2.2.1
  have h16 : 2 ^ T ≤ 16 := by
    have : 2 ^ T ≤ 2 ^ 4 := Nat.pow_le_pow_right (by decide) (by omega)
    omega
  have h256 : 2 ^ n ≤ 256 := by
    have : 2 ^ n ≤ 2 ^ 8 := Nat.pow_le_pow_right (by decide) (by omega)
    omega
  have hth : ∀ t e q, e < 8 → q < 4 → th (tdU S X C t e q) := by
    intro t e q he hq
    have okv := tl_ok (S := S) (X := X) (t := t) hCC.1 w0 w1 (X (680 * t)).toNat 0 _ _ hv
    have ie := okv.2.2.1 e he
    unfold eyeOK at ie
    have : q = 0 ∨ q = 1 ∨ q = 2 ∨ q = 3 := by omega
    rcases this with rfl | rfl | rfl | rfl
    · exact ie.2.2.2.2.1
    · exact ie.2.2.2.2.2.1
    · exact ie.2.2.2.2.2.2.1
    · exact ie.2.2.2.2.2.2.2
  have hP9 : ∀ e, e < n → 0 ≤ prP S X e ∧ prP S X e ≤ 99 := fun e _ => prP_bd S X e
  -- every set in turn
  have walk : ∀ (r c : Nat) (x2 x3 x4 : Int) (m1 : MM), c + r = 2 ^ n → x4 = (c : Int) → FrT m m1 → (∀ j, j < 1584 → m1 305 j = S j) → (∀ t, t < T → x / 2 ^ t % 2 = 1 → ∀ e, e < 8 → ∀ q, q < 4 → m1 314 (32 * t + 4 * e + q) = tdU S X C t e q) → ((x2 = -1 ∧ x3 = 1000000 ∧ ∀ s, s < c → ¬ apP (tdU S X C) x T n s) ∨ (∃ b : Nat, x2 = (b : Int) ∧ x3 = prc (prP S X) b n ∧ Bst (apP (tdU S X C) x T n) (prP S X) n 0 c b)) → N G (d + 8) mi_X8_verdict 60 [some (vr 304), some (vi x1), some (vi x2), some (vi x3), some (vi x4), none, none] [] m1 (RI k) := by
    intro r
    induction r with
    | zero =>
      intro c x2 x3 x4 m1 hc h4 hf hS1 hU hst
      refine g_X8_verdict_60 _ _ _ _ ?_
      rw [hS1 1 (by omega), hn1, ishl_1 (by omega)]
      refine leT (by omega) ?_
      have ec : c = 2 ^ n := by omega
      subst ec
      rcases hst with ⟨a1, a2, a3⟩ | ⟨b, a1, a2, a3⟩
      · rw [a1]; exact hno a3 m1 hf hS1
      · rw [a1]; exact hb b a3 m1 hf hS1
    | succ r ih =>
      intro c x2 x3 x4 m1 hc h4 hf hS1 hU hst
      refine g_X8_verdict_60 _ _ _ _ ?_
      rw [hS1 1 (by omega), hn1, ishl_1 (by omega)]
      refine leF (by omega) ?_
      have pc := prc_bd (s := c) n hP9
      have q1 := popN_le c 8
      have inn : ∀ (r' e : Nat) (x5 x6 : Int) (m2 : MM), e + r' = n → x6 = (e : Int) → x5 = prc (prP S X) c e → FrT m m2 → (∀ j, j < 1584 → m2 305 j = S j) → (∀ t, t < T → x / 2 ^ t % 2 = 1 → ∀ e, e < 8 → ∀ q, q < 4 → m2 314 (32 * t + 4 * e + q) = tdU S X C t e q) → N G (d + 8) mi_X8_verdict 79 [some (vr 304), some (vi x1), some (vi x2), some (vi x3), some (vi x4), some (vi x5), some (vi x6)] [] m2 (RI k) := by
        intro r'
        induction r' with
        | zero =>
          intro e x5 x6 m2 he h6 h5 hf hS2 hU2
          have en : e = n := by omega
          subst en
          have take : ∀ (bb : (x2 = -1 ∧ x3 = 1000000 ∧ ∀ s, s < c → ¬ apP (tdU S X C) x T e s) ∨ (∃ b : Nat, x2 = (b : Int) ∧ x3 = prc (prP S X) b e ∧ Bst (apP (tdU S X C) x T e) (prP S X) e 0 c b ∧ (prc (prP S X) c e < prc (prP S X) b e ∨ (prc (prP S X) c e = prc (prP S X) b e ∧ popN c 8 < popN b 8)))), N G (d + 8) mi_X8_verdict 145 [some (vr 304), some (vi x1), some (vi x2), some (vi x3), some (vi x4), some (vi x5), none] [] m2 (RI k) := by
            intro bb
            refine g_X8_verdict_145 _ _ _ _ _ (c_areApart (U := tdU S X C) x c e T e1 (by omega) h4 (by omega) (by rw [hS2 1 (by omega)]; exact hn1) (by omega) (by rw [hS2 3 (by omega)]; exact hT) (by omega) (fun t ht hbt e' he' q hq => ⟨hU2 t ht hbt e' he' q hq, hth t e' q he' hq⟩) (fun ap => eqF (by omega) ?_) (fun ap => eqT (by omega) ?_))
            · refine ih (c + 1) _ _ _ m2 (by omega) (by omega) hf hS2 hU2 (Or.inr ⟨c, h4, h5, ?_⟩)
              rcases bb with ⟨a1, a2, a3⟩ | ⟨b, a1, a2, a3, a4⟩
              · exact Bst.first a3 ap
              · exact a3.up ap a4
            · refine ih (c + 1) _ _ _ m2 (by omega) (by omega) hf hS2 hU2 ?_
              rcases bb with ⟨a1, a2, a3⟩ | ⟨b, a1, a2, a3, a4⟩
              · refine Or.inl ⟨a1, a2, fun s hs => ?_⟩
                by_cases es : s = c
                · subst es; exact ap
                · exact a3 s (by omega)
              · exact Or.inr ⟨b, a1, a2, a3.keep (fun q => ap q.1)⟩
          refine g_X8_verdict_79 _ _ _ _ _ _ ?_
          rw [hS2 1 (by omega), hn1]
          refine leT (by omega) ?_
          rcases hst with ⟨a1, a2, a3⟩ | ⟨b, a1, a2, a3⟩
          · exact ltF (by omega) (eqF (by omega) (take (Or.inl ⟨a1, a2, a3⟩)))
          · have pb := prc_bd (s := b) e hP9
            have q2 := popN_le b 8
            have b256 := a3.2.1
            have go : ¬ (prc (prP S X) c e < prc (prP S X) b e ∨ (prc (prP S X) c e = prc (prP S X) b e ∧ popN c 8 < popN b 8)) → N G (d + 8) mi_X8_verdict 60 [some (vr 304), some (vi x1), some (vi x2), some (vi x3), some (vi (x4 + 1)), none, none] [] m2 (RI k) := fun hl => ih (c + 1) _ _ _ m2 (by omega) (by omega) hf hS2 hU2 (Or.inr ⟨b, a1, a2, a3.keep (fun q => hl q.2)⟩)
            refine ltI (by omega) (fun z => go (by omega)) (fun z => eqI (by omega) (fun z2 => c_bits c h4 (by omega) (c_bits b a1 (by omega) (leI (by omega) (fun z3 => go (by omega)) (fun z3 => take (Or.inr ⟨b, a1, a2, a3, by omega⟩))))) (fun z2 => take (Or.inr ⟨b, a1, a2, a3, by omega⟩)))
        | succ r' ih' =>
          intro e x5 x6 m2 he h6 h5 hf hS2 hU2
          have pe := prc_bd (s := c) e (fun e' he' => hP9 e' (by omega))
          refine g_X8_verdict_79 _ _ _ _ _ _ ?_
          rw [hS2 1 (by omega), hn1]
          refine leF (by omega) (c_has c e h4 h6 (by omega) (by omega) (fun hbt => eqF (by omega) ?_) (fun hbt => eqT (by omega) ?_))
          · refine c_rubsOfS (S := S) (X := X) (C := C) hS2 hw (by rw [hf 308 (by omega) (by omega) (by omega) (by omega) (by omega) (by omega)]; exact hX) hW e h6 (by omega) (fun m3 f3 => ?_)
            refine ih' (e + 1) _ _ m3 (by omega) (by omega) ?_ (hf.tr (fun c h1 h2 h3 h4 h5 h6 => f3 c h3 h4 h5)) (fun j hj => by rw [f3 305 (by omega) (by omega) (by omega)]; exact hS2 j hj) (fun t ht hb' e' he' q hq => by rw [f3 314 (by omega) (by omega) (by omega)]; exact hU2 t ht hb' e' he' q hq)
            rw [prc, if_pos hbt, h5]
          · refine ih' (e + 1) _ _ m2 (by omega) (by omega) ?_ hf hS2 hU2
            rw [prc, if_neg (by omega), h5]
      exact inn n 0 0 0 m1 (by omega) rfl rfl hf hS1 hU
  -- the stories told
  have tells : ∀ (r t : Nat) (x2 : Int) (m1 : MM), t + r = T → x2 = (t : Int) → FrT m m1 → (∀ j, j < 1584 → m1 305 j = S j) → (∀ t', t' < t → x / 2 ^ t' % 2 = 1 → ∀ e, e < 8 → ∀ q, q < 4 → m1 314 (32 * t' + 4 * e + q) = tdU S X C t' e q) → N G (d + 8) mi_X8_verdict 22 [some (vr 304), some (vi x1), some (vi x2), none, none, none, none] [] m1 (RI k) := by
    intro r
    induction r with
    | zero =>
      intro t x2 m1 ht h2 hf hS1 hU
      refine g_X8_verdict_22 _ _ ?_
      rw [hS1 3 (by omega), hT]
      exact leT (by omega) (walk (2 ^ n) 0 _ _ _ m1 (by omega) rfl hf hS1 (fun t' ht' => hU t' (by omega)) (Or.inl ⟨rfl, rfl, fun s hs => absurd hs (by omega)⟩))
    | succ r ih =>
      intro t x2 m1 ht h2 hf hS1 hU
      refine g_X8_verdict_22 _ _ ?_
      rw [hS1 3 (by omega), hT]
      have st : Sta S (m1 305) := ⟨fun j h1 _ _ => hS1 j (by omega), fun a ha => ⟨hS1 _ (by omega), hS1 _ (by omega)⟩⟩
      have vw : Vw (m1 305) (S 2) (nowW S) := ⟨hS1 2 (by omega), fun a ha q hq => hS1 _ (by omega)⟩
      refine leF (by omega) (c_has x t e1 h2 (by omega) (by omega) (fun hbt => eqF (by omega) ?_) (fun hbt => eqT (by omega) (ih (t + 1) _ m1 (by omega) (by omega) hf hS1 (fun t' ht' hb' => ?_))))
      · refine c_tell (S := S) (X := X) (C := C) (hr := S 2) (W := nowW S) st vw (hw.cong hS1) (by rw [hf 308 (by omega) (by omega) (by omega) (by omega) (by omega) (by omega)]; exact hX) (fun t' ht' => hW t' (by rw [hS1 3 (by omega)] at ht'; exact ht')) (by rw [hf 304 (by omega) (by omega) (by omega) (by omega) (by omega) (by omega)]; exact e3) hCC t h2 (by rw [hS1 3 (by omega)]; omega) (fun m3 f3 e5 wd wo => ih (t + 1) _ m3 (by omega) (by omega) (hf.tr f3) (fun j hj => by rw [e5 j hj]; exact hS1 j hj) (fun t' ht' hb' e he q hq => ?_))
        by_cases ee : t' = t
        · subst ee; exact wd e he q hq
        · rw [wo _ (by omega)]; exact hU t' (by omega) hb' e he q hq
      · by_cases ee : t' = t
        · subst ee; omega
        · exact hU t' (by omega) hb'
  have hT0 : m 305 3 = (T : Int) := by rw [hS 3 (by omega)]; exact hT
  refine g_X8_verdict_0 _ ?_
  rw [hT0, ishl_1 (by omega)]
  exact c_isIn (by omega) (fun _ => eqF (by omega) (tells T 0 0 m (by omega) rfl (fun _ _ _ _ _ _ _ => rfl) hS (fun t' ht' => absurd ht' (by omega)))) (fun z => absurd z (by omega))
end RefVerdict
