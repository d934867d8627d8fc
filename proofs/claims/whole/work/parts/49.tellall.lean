/-! ===== the class tells all stories of a set, and prices the eyes ===== -/
def tdW (S X : Nat → Int) (C : Int) (t : Nat) : Nat → Nat → Int := (tlF S X C t (X (680 * t)).toNat 0 (S 2, nowW S)).2
def tdU (S X : Nat → Int) (C : Int) (t e q : Nat) : Int := tdW S X C t e (2 + q)
theorem rub9_bd (z : Int) : 0 ≤ rub9 z ∧ rub9 z ≤ 99 := by unfold rub9; split <;> (try split) <;> omega
theorem rubF_bd (X : Nat → Int) (T : Int) (nm : Nat → Int) : 0 ≤ rubF X T nm ∧ rubF X T nm ≤ 99 := by
  unfold rubF
  split
  · omega
  · exact rub9_bd _
section TellAll
variable {G : GG} {d : Nat} {m : MM}
theorem c7_tellAll {k : MM → Prop} {C x1 : Int} {S X : Nat → Int} (hw : WfS C S) (hCC : 1 ≤ C ∧ C ≤ 6) (ha : Asks m S X) (e00 : m 0 0 = C) (e0 : m 12 0 = S 0) (e12 : m 12 2 = S 1) (hC : Crt m 16 (S 2) (nowW S)) (x T : Nat) (e1 : x1 = (x : Int)) (hx : x < 16) (hT : S 3 = (T : Int))
    (hk : ∀ m', (∀ c, c < 272 ∨ 284 ≤ c → m' c = m c) → (∀ t, t < T → x / 2 ^ t % 2 = 1 → ∀ e, e < 8 → m' 282 (8 * t + e) = pk (tdU S X C t e 0) (tdU S X C t e 1) (tdU S X C t e 2) (tdU S X C t e 3)) → k m') : N G (d + 6) mi_X7_tellAll 0 [some (vr 0), some (vi x1), none] [] m (RV k) := by
  have w3 := hw.2.2.1
  have hv := hw.2.2.2.2.2.2.2.2.2.1
  have e5 := ha.1
  have loop : ∀ (r t : Nat) (x2 : Int) (m1 : MM), t + r = T → x2 = (t : Int) → (∀ c, c < 272 ∨ 284 ≤ c → m1 c = m c) → (∀ t', t' < t → x / 2 ^ t' % 2 = 1 → ∀ e, e < 8 → m1 282 (8 * t' + e) = pk (tdU S X C t' e 0) (tdU S X C t' e 1) (tdU S X C t' e 2) (tdU S X C t' e 3)) → N G (d + 6) mi_X7_tellAll 2 [some (vr 0), some (vi x1), some (vi x2)] [] m1 (RV k) := by
    intro r
    induction r with
    | zero =>
      intro t x2 m1 ht h2 hf hal
      refine g_X7_tellAll_2 _ _ ?_
      rw [hf 12 (by omega)]
      exact leT (by omega) (hk m1 hf (fun t' ht' => hal t' (by omega)))
    | succ r ih =>
      intro t x2 m1 ht h2 hf hal
      refine g_X7_tellAll_2 _ _ ?_
      rw [hf 12 (by omega)]
      refine leF (by omega) ?_
      rw [e1, h2, bit_n (by omega) (by omega), ← e1, ← h2]
      refine eqI (by omega) (fun hb => ?_) (fun hb => ?_)
      · refine c0_copyFrom 272 16 sh_272 sh_16 (by omega) (fun m2 cp2 f2 => ⟨t, by omega, ?_⟩)
        have cr1 : Crt m1 16 (S 2) (nowW S) := hC.kept (hf _ (by omega)) (hf _ (by omega)) (hf _ (by omega)) (hf _ (by omega))
        have fa : ∀ c, c < 272 ∨ 284 ≤ c → m2 c = m c := fun c hc => (f2 c (by omega)).trans (hf c hc)
        refine c7_tell (S := S) (X := X) (C := C) t (by omega) hw hCC (ha.fr (fun c hc => fa c (by omega)) (by omega)) (by rw [fa 0 (by omega)]; exact e00) (by rw [fa 12 (by omega)]; exact e0) (by rw [fa 12 (by omega)]; exact e12) (cp2 _ _ cr1) hv (fun m5 f5 hc5 => ⟨8 * t, by omega, by omega, fun m6 q6 => ?_⟩)
        refine ih (t + 1) _ m6 (by omega) (by omega) (fun c hc => ?_) (fun t' ht' hb' e he => ?_)
        · rw [q6, cpm_c (by omega), f5 c (by omega) (by omega) (by omega), fa c hc]
        · rw [q6]
          by_cases ee : t' = t
          · subst ee
            have : cpm m5 275 0 282 (8 * t') 8 282 (8 * t' + e) = m5 275 e := by
              unfold cpm
              rw [if_pos (by omega)]
              congr 1
              omega
            rw [this]
            exact (hc5.2 e he).2.2
          · have : cpm m5 275 0 282 (8 * t) 8 282 (8 * t' + e) = m5 282 (8 * t' + e) := by
              unfold cpm
              rw [if_neg (by omega)]
            rw [this, f5 282 (by omega) (by omega) (by omega), f2 282 (by omega)]
            exact hal t' (by omega) hb' e he
      · refine ih (t + 1) _ m1 (by omega) (by omega) hf (fun t' ht' hb' e he => ?_)
        by_cases ee : t' = t
        · subst ee; omega
        · exact hal t' (by omega) hb' e he
  exact g_X7_tellAll_0 _ (loop T 0 0 m (by omega) rfl (fun _ _ => rfl) (fun t' ht' => absurd ht' (by omega)))
end TellAll
