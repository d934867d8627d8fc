/-! ===== the class does a deed ===== -/
theorem seeF_01 {X nm : Nat → Int} {T : Int} (hW : 0 ≤ T → WfT X T.toNat) (hnm : ∀ j, j < 9 → sm (nm j)) : b01 (seeF X T nm) := by
  unfold seeF
  cases hl : lawF X T 0 with
  | none => exact Or.inr rfl
  | some i =>
    obtain ⟨g0, gi, gs⟩ := lawF_some hl (fun h => by obtain ⟨n, _, q, _⟩ := (hW h).cl; omega)
    have lw := (sees_law (hW g0) gi).1 gs
    obtain ⟨i0, n, f1, f2, f3, f4, f5⟩ := (sees_law (hW g0) gi).1 gs
    have inv := ev_inv (L := 9) (i0 := i0) (E := i0 + n) hnm (fun q h1 h2 h3 => lawOK_name lw q (by omega) (by omega) h3) n i0 0 0 (fun _ => 0) (fun _ => 0) (fun _ => 0) (fun _ => 0) (by omega) rfl f5 (fun j hj => absurd hj (by omega)) (fun j hj => absurd hj (by omega))
    have ee : evF X T.toNat i nm = ev X (680 * T.toNat) nm n i0 0 0 (fun _ => 0) (fun _ => 0) := by
      unfold evF
      rw [f1, f2, show (((i0 + n : Nat) : Int) - (i0 : Int)).toNat = n by omega, show ((i0 : Nat) : Int).toNat = i0 by omega]
    show b01 ((evF X T.toNat i nm).2 0)
    rw [ee]
    exact (inv.2 0 (by decide)).2
theorem Crt.knows {m : MM} {c : Nat} {hr : Int} {W W' : Nat → Nat → Int} (h : Crt m c hr W) {e : Nat} (he : e < 8) {z : Int} (h1 : ∀ a, a < 8 → a ≠ e → ∀ q, W' a q = W a q) (h2 : W' e 0 = W e 0) (h3 : W' e 1 = W e 1) (hz : z = pkW W' e) : Crt (upm m (c + 3) e z) c hr W' := by
  refine ⟨by rw [upm_c (by omega)]; exact h.1, fun a ha => ?_⟩
  have q := h.2 a ha
  rw [upm_c (by omega), upm_c (by omega)]
  by_cases ea : a = e
  · subst ea
    refine ⟨by rw [h2]; exact q.1, by rw [h3]; exact q.2.1, ?_⟩
    rw [hz]; simp [upm]
  · refine ⟨by rw [h1 a ha ea]; exact q.1, by rw [h1 a ha ea]; exact q.2.1, ?_⟩
    have : upm m (c + 3) e z (c + 3) a = m (c + 3) a := by simp [upm, ea]
    rw [this, q.2.2]
    unfold pkW
    rw [h1 a ha ea, h1 a ha ea, h1 a ha ea, h1 a ha ea]
def FrP (c : Nat) (m m' : MM) : Prop := ∀ j, (j < c ∨ c + 4 ≤ j) → j ≠ 277 → j ≠ 278 → m' j = m j
theorem FrP.rf (c : Nat) (m : MM) : FrP c m m := fun _ _ _ _ => rfl
theorem FrP.tr {c : Nat} {a b e : MM} (h : FrP c a b) (h2 : FrP c b e) : FrP c a e := fun j h1 h3 h4 => (h2 j h1 h3 h4).trans (h j h1 h3 h4)
theorem lnW_0 (W : Nat → Nat → Int) (e : Nat) (z : Int) {q : Nat} (hq : q < 2) : lnW W e z e q = W e q := by
  unfold lnW
  rw [if_pos rfl, if_neg (by omega), if_neg (by omega), if_neg (by omega), if_neg (by omega)]
theorem lnW_ne (W : Nat → Nat → Int) {e a : Nat} (z : Int) (h : a ≠ e) (q : Nat) : lnW W e z a q = W a q := by
  unfold lnW
  rw [if_neg h]
theorem lnW_pk (W : Nat → Nat → Int) (e : Nat) (z : Int) : pkW (lnW W e z) e = pk z (W e 2) (W e 3) (W e 4) := by
  unfold pkW lnW
  simp
section Deed2
variable {G : GG} {d : Nat} {m : MM}
theorem c7_learned {k : Int → MM → Prop} {x1 x2 x3 : Int} {S : Nat → Int} {W : Nat → Nat → Int} (e : Nat) (e1 : x1 = pkW W e) (e2 : x2 = (e : Int)) (he : e < 8) (ht : th x3) (hth : th (W e 2) ∧ th (W e 3) ∧ th (W e 4) ∧ th (W e 5)) (hS : m 15 e = S (20 + 8 * e + 1)) (hs : S (20 + 8 * e + 1) = 0 ∨ S (20 + 8 * e + 1) = 1) (h : k (pkW (if S (20 + 8 * e + 1) = 1 then lnW (lnW W e x3) e x3 else lnW W e x3) e) m) : N G (d + 1) mi_X7_learned 0 [some (vr 0), some (vi x1), some (vi x2), some (vi x3), none] [] m (RI k) := by
  refine g_X7_learned_0 _ _ _ (c0_withAhead e1 hth.1 hth.2.1 hth.2.2.1 hth.2.2.2 ht ⟨e, ⟨e2, he⟩, ?_⟩)
  rw [hS]
  refine eqI (by omega) (fun q => ?_) (fun q => ?_)
  · refine c0_withAhead rfl ht hth.1 hth.2.1 hth.2.2.1 ht ?_
    rw [if_pos q, lnW_pk, show lnW W e x3 e 2 = x3 by simp [lnW], show lnW W e x3 e 3 = W e 2 by simp [lnW], show lnW W e x3 e 4 = W e 3 by simp [lnW]] at h
    exact h
  · rw [if_neg q, lnW_pk] at h
    exact h
theorem c7_feel {k : Int → MM → Prop} {C hr x2 x3 : Int} {S X : Nat → Int} {W : Nat → Nat → Int} (c : Nat) (h0 : SH c = .inr 0) (hc : c = 16 ∨ c = 272) (hw : WfS C S) (hCC : 1 ≤ C ∧ C ≤ 6) (ha : Asks m S X) (e12 : m 12 2 = S 1) (hC : Crt m c hr W) (hv : WfV C (S 1) hr W) (hh : hr < 999) (th' : Nat) (e2 : x2 = (th' : Int)) (ht : th' < 8) (hx3 : 0 ≤ x3 ∧ x3 < C)
    (hk : ∀ m', FrP c m m' → Crt m' c (hr + 1) (flW S X (hr + 1) th' x3 W (S 1).toNat).2 → k (flW S X (hr + 1) th' x3 W (S 1).toNat).1 m') : N G (d + 3) mi_X7_feel 0 [some (vr 0), some (vr c), some (vi x2), some (vi x3), none, none] [] m (RI k) := by
  have w1 := hw.2.1
  have w3 := hw.2.2.1
  have w4 := hw.2.2.2.1
  have hv1 := hv.1
  have hvv := hv.hour (hr' := hr + 1) (by omega)
  have loop : ∀ (r n : Nat) (x4 x5 : Int) (m1 : MM), n + r = (S 1).toNat → FrP c m m1 → Crt m1 c (hr + 1) (flW S X (hr + 1) th' x3 W n).2 → x4 = (flW S X (hr + 1) th' x3 W n).1 → x5 = (n : Int) → N G (d + 3) mi_X7_feel 16 [some (vr 0), some (vr c), some (vi x2), some (vi x3), some (vi x4), some (vi x5)] [] m1 (RI k) := by
    intro r
    induction r with
    | zero =>
      intro n x4 x5 m1 hn hf hC1 h4 h5
      refine g_X7_feel_16 c h0 _ _ _ _ ?_
      rw [hf 12 (by omega) (by omega) (by omega), e12]
      have en : n = (S 1).toNat := by omega
      subst en
      refine leT (by omega) ?_
      rw [h4]
      exact hk m1 hf hC1
    | succ r ih =>
      intro n x4 x5 m1 hn hf hC1 h4 h5
      obtain ⟨i1, i2, i3, i4, i5⟩ := fl_ok S X th' ht x3 hvv n (by omega)
      have step : flW S X (hr + 1) th' x3 W (n + 1) = if (flW S X (hr + 1) th' x3 W n).2 n 0 = x3 ∧ seeW S X (hr + 1) (flW S X (hr + 1) th' x3 W n).2 n th' x3 ≠ 0 then ((flW S X (hr + 1) th' x3 W n).1 + 1, if S (20 + 8 * n + 1) = 1 then lnW (lnW (flW S X (hr + 1) th' x3 W n).2 n th') n th' else lnW (flW S X (hr + 1) th' x3 W n).2 n th') else flW S X (hr + 1) th' x3 W n := rfl
      generalize flW S X (hr + 1) th' x3 W n = p at *
      have ie := i1.2.2.1 n (by omega)
      unfold eyeOK at ie
      have cn := hC1.2 n (by omega)
      refine g_X7_feel_16 c h0 _ _ _ _ ?_
      rw [hf 12 (by omega) (by omega) (by omega), e12]
      refine leF (by omega) ⟨n, by omega, ?_⟩
      rw [cn.1]
      have ha1 : Asks m1 S X := ha.fr (fun j hj => hf j (by omega) (by omega) (by omega)) (by omega)
      refine eqI (by omega) (fun q => ?_) (fun q => ?_)
      · refine c7_isSeen hw ha1 c h0 (by omega) hC1 n th' h5 (by omega) e2 ht ie.2.2.2.2 (by omega) (by omega) (by omega) (fun m2 f2 => ?_)
        have sm9 := nmv_sm hw (e := n) (by omega) (hr := hr + 1) (sn := p.2 n 1) (mny := cmy p.2 n) (by omega) (by omega) (by have := cnt_bd (fun q => pl (p.2 n 2) (p.2 n 3) (p.2 n 4) (p.2 n 5) q) 4; unfold cmy; omega) ht (who := x3) (by omega)
        have s01 := seeF_01 (X := X) (T := S 4) (fun h => (ha.2.2.2.2 _ (by omega)).2) sm9
        have hC2 : Crt m2 c (hr + 1) p.2 := hC1.kept (f2 _ (by omega) (by omega)) (f2 _ (by omega) (by omega)) (f2 _ (by omega) (by omega)) (f2 _ (by omega) (by omega))
        have hf2 : FrP c m m2 := fun j h1 h3 h4 => (f2 j h3 h4).trans (hf j h1 h3 h4)
        refine eqI (by omega) (fun q2 => ?_) (fun q2 => ?_)
        · rw [if_neg (fun z => z.2 q2)] at step
          exact ih (n + 1) _ _ m2 (by omega) hf2 (by rw [step]; exact hC2) (by rw [step]; exact h4) (by omega)
        · rw [if_pos ⟨q, q2⟩] at step
          refine ⟨n, by omega, c7_learned (S := S) (W := p.2) n (hC2.2 n (by omega)).2.2 h5 (by omega) (by omega) ie.2.2.2.2 ?_ (hw.2.2.2.2.2.2.2.2.1 n (by omega)).2 ⟨n, by omega, fun m7 q7 => ?_⟩⟩
          · rw [hf2 15 (by omega) (by omega) (by omega)]
            exact (ha.2.2.2.1 n (by omega)).2
          · refine ih (n + 1) _ _ m7 (by omega) ?_ ?_ (by rw [step, h4]) (by omega)
            · rw [q7]
              exact fun j h1 h3 h4 => by rw [upm_c (by omega)]; exact hf2 j h1 h3 h4
            · rw [q7, step, e2]
              dsimp only
              refine hC2.knows (by omega) (fun a ha hne q => ?_) ?_ ?_ rfl
              · split
                · rw [lnW_ne _ _ hne, lnW_ne _ _ hne]
                · rw [lnW_ne _ _ hne]
              · split
                · rw [lnW_0 _ _ _ (by omega), lnW_0 _ _ _ (by omega)]
                · rw [lnW_0 _ _ _ (by omega)]
              · split
                · rw [lnW_0 _ _ _ (by omega), lnW_0 _ _ _ (by omega)]
                · rw [lnW_0 _ _ _ (by omega)]
      · rw [if_neg (fun z => q z.1)] at step
        exact ih (n + 1) _ _ m1 (by omega) hf (by rw [step]; exact hC1) (by rw [step]; exact h4) (by omega)
  have hC0 := hC.1
  refine g_X7_feel_0 c h0 _ _ (fun m1 q1 => loop (S 1).toNat 0 0 0 m1 (by omega) (by rw [q1]; exact fun j h1 _ _ => by rw [upm_c (by omega)]) ?_ rfl rfl)
  rw [q1, hC0]
  refine ⟨by simp [upm], fun e he => ?_⟩
  rw [upm_c (by omega), upm_c (by omega), upm_c (by omega)]
  exact hC.2 e he
theorem c7_perform {k : Int → MM → Prop} {C hr x2 x3 x4 a hr' : Int} {S X : Nat → Int} {W W' : Nat → Nat → Int} (c : Nat) (h0 : SH c = .inr 0) (hc : c = 16 ∨ c = 272) (hw : WfS C S) (hCC : 1 ≤ C ∧ C ≤ 6) (ha : Asks m S X) (e12 : m 12 2 = S 1) (hC : Crt m c hr W) (hv : WfV C (S 1) hr W) (hdd : x2 = 2 ∨ x2 = 3 ∨ x2 = 5 ∨ x2 = 6) (hs : dF S X C hr W x2 x3 x4 = some (a, hr', W'))
    (hk : ∀ m', FrP c m m' → Crt m' c hr' W' → k a m') : N G (d + 4) mi_X7_perform 0 [some (vr 0), some (vr c), some (vi x2), some (vi x3), some (vi x4)] [] m (RI k) := by
  have w0 := hw.1
  have w1 := hw.2.1
  unfold dF at hs
  refine g_X7_perform_0 c h0 _ _ _ ⟨by omega, fun e => ?_, fun e => ?_, fun e => absurd e (by omega), fun e => ?_, fun e => ?_⟩
  · subst e
    simp only [if_true] at hs
    split at hs
    · rename_i q
      injection hs with hs
      injection hs with e1 hs
      injection hs with e2 e3
      subst e1 e2 e3
      exact c7_feel c h0 hc hw hCC ha e12 hC hv q.2.2 x3.toNat (by omega) (by omega) q.2.1 hk
    · cases hs
  · subst e
    simp only [show ¬ (3 : Int) = 2 by decide, if_false, if_true] at hs
    split at hs
    · rename_i q
      injection hs with hs
      injection hs with e1 hs
      injection hs with e2 e3
      subst e1 e2 e3
      exact c0_move c h0 x3.toNat (by omega) (by omega) (fun m' q1 q2 => hk m' (fun j h1 h2 h3 => q2 j (by omega) (by omega)) (q1 _ _ hC))
    · cases hs
  · subst e
    simp only [show ¬ (5 : Int) = 2 by decide, show ¬ (5 : Int) = 3 by decide, if_false, if_true] at hs
    split at hs
    · rename_i q
      injection hs with hs
      injection hs with e1 hs
      injection hs with e2 e3
      subst e1 e2 e3
      exact c0_exchange c h0 x3.toNat x4.toNat (by omega) (by omega) (by omega) (by omega) (fun m' q1 q2 => hk m' (fun j h1 h2 h3 => q2 j (by omega) (by omega)) (q1 _ _ hC))
    · cases hs
  · have e6 : x2 = 6 := by omega
    subst e6
    simp only [show ¬ (6 : Int) = 2 by decide, show ¬ (6 : Int) = 3 by decide, show ¬ (6 : Int) = 5 by decide, if_false] at hs
    split at hs
    · rename_i q
      injection hs with hs
      injection hs with e1 hs
      injection hs with e2 e3
      subst e1 e2 e3
      have ie := hv.2.2.1 x3.toNat (by omega)
      unfold eyeOK at ie
      exact g_X7_perform_59 c h0 _ (c0_forget c h0 x3.toNat (by omega) (by omega) hC ie.2.2.2.2 (fun m' q1 q2 => hk m' (fun j h1 h2 h3 => q2 j (by omega)) q1))
    · cases hs
end Deed2
