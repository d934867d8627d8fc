/-! ===== text: the class's scan ===== -/
section Lex5
variable {G : GG} {d : Nat} {m : MM}
theorem c2_tokenOf {k : Int → MM → Prop} {x1 x2 : Int} {b : Nat → Int} {L : Nat} (ht : TpC b L m) (q : Nat) (e1 : x1 = (q : Int)) (hq : q < L) (e2 : x2 = (en b L q : Int)) (h : k (tkB b L q) m) : N G (d + 7) mi_X2_tokenOf 0 [some (vr 1), some (vi x1), some (vi x2), none] [] m (RI k) := by
  have ht' := ht
  obtain ⟨hL, hb⟩ := ht'
  have hq1 := (hb q hq).1
  have hq2 := (hb q hq).2
  have eb := en_bd b hq
  refine g_X2_tokenOf_0 _ _ ⟨q, by omega, ?_⟩
  rw [hq2]
  refine c2_isLetter (sby_rng hq1) (fun z => eqF (by omega) ?_) (fun z => eqT (by omega) ⟨q, by omega, ?_⟩)
  · rw [sby_lt hq1] at z
    have et : tkB b L q = tw (wdv b q (en b L q)) := by unfold tkB; rw [if_pos z]
    rw [et] at h
    refine c2_wordToken ht q (en b L q) e1 eb.1 eb.2 e2 (fun j h1 h2 => ?_) h
    by_cases ej : j = q
    · rw [ej]; exact z
    · refine runL_all b (L - (q + 1)) (q + 1) j (by omega) ?_
      unfold en at h2
      rw [if_pos z] at h2
      exact h2
  · rw [sby_lt hq1] at z
    rw [hq2]
    refine c2_isDigit (sby_rng hq1) (fun z2 => eqF (by omega) ?_) (fun z2 => eqT (by omega) ?_)
    · rw [sby_dg hq1] at z2
      have et : tkB b L q = 35 := by unfold tkB; rw [if_neg z, if_pos z2]
      rw [et] at h
      exact h
    · rw [sby_dg hq1] at z2
      have tB : tkB b L q = if b q = 60 then (if en b L q = q + 2 then 23 else 22) else if b q = 62 then (if en b L q = q + 2 then 25 else 24) else if b q = 61 then 26 else if b q = 35 then 27 else if b q = 43 then 28 else if b q = 45 then 29 else if b q = 42 then 30 else if b q = 47 then 31 else if b q = 40 then 32 else if b q = 41 then 33 else if b q = 59 then 34 else 37 := by unfold tkB; rw [if_neg z, if_neg z2]
      have sgn : ∀ s0 : Int, (s0 = 0 ∧ en b L q ≠ q + 2) ∨ (s0 = 1 ∧ en b L q = q + 2) → N G (d + 7) mi_X2_tokenOf 40 [some (vr 1), some (vi x1), none, none] [vi s0] m (RI k) := by
        intro s0 hs0
        refine g_X2_tokenOf_40 _ _ ⟨q, by omega, ?_⟩
        rw [hq2]
        refine ⟨sby_rng hq1, ?_⟩
        have e60 : sby (b q) = 60 → bEQ s0 0 (k 22 m) (k 23 m) := by
          intro e
          rw [sby_eq hq1 (by omega)] at e
          rw [if_pos e] at tB
          refine eqI (by omega) (fun y => ?_) (fun y => ?_)
          · rw [if_neg (by omega)] at tB; rw [tB] at h; exact h
          · rw [if_pos (by omega)] at tB; rw [tB] at h; exact h
        have e62 : sby (b q) = 62 → bEQ s0 0 (k 24 m) (k 25 m) := by
          intro e
          rw [sby_eq hq1 (by omega)] at e
          rw [if_neg (by omega), if_pos e] at tB
          refine eqI (by omega) (fun y => ?_) (fun y => ?_)
          · rw [if_neg (by omega)] at tB; rw [tB] at h; exact h
          · rw [if_pos (by omega)] at tB; rw [tB] at h; exact h
        have one : ∀ c v : Int, 0 ≤ c ∧ c < 128 → (c ≠ 60 ∧ c ≠ 62) → v = (if c = 61 then 26 else if c = 35 then 27 else if c = 43 then 28 else if c = 45 then 29 else if c = 42 then 30 else if c = 47 then 31 else if c = 40 then 32 else if c = 41 then 33 else if c = 59 then 34 else 37) → sby (b q) = c → k v m := by
          intro c v hc hne hv e
          rw [sby_eq hq1 hc] at e
          rw [e, if_neg hne.1, if_neg hne.2, ← hv] at tB
          rw [tB] at h
          exact h
        refine ⟨one 35 27 (by omega) (by omega) (by decide), one 36 37 (by omega) (by omega) (by decide), one 37 37 (by omega) (by omega) (by decide), one 38 37 (by omega) (by omega) (by decide), one 39 37 (by omega) (by omega) (by decide), one 40 32 (by omega) (by omega) (by decide), one 41 33 (by omega) (by omega) (by decide), one 42 30 (by omega) (by omega) (by decide), one 43 28 (by omega) (by omega) (by decide), one 44 37 (by omega) (by omega) (by decide), one 45 29 (by omega) (by omega) (by decide), one 46 37 (by omega) (by omega) (by decide), one 47 31 (by omega) (by omega) (by decide), one 48 37 (by omega) (by omega) (by decide), one 49 37 (by omega) (by omega) (by decide), one 50 37 (by omega) (by omega) (by decide), one 51 37 (by omega) (by omega) (by decide), one 52 37 (by omega) (by omega) (by decide), one 53 37 (by omega) (by omega) (by decide), one 54 37 (by omega) (by omega) (by decide), one 55 37 (by omega) (by omega) (by decide), one 56 37 (by omega) (by omega) (by decide), one 57 37 (by omega) (by omega) (by decide), one 58 37 (by omega) (by omega) (by decide), one 59 34 (by omega) (by omega) (by decide), e60, one 61 26 (by omega) (by omega) (by decide), e62, fun e => ?_⟩
        have hb2 : b q < 35 ∨ 62 < b q := by unfold sby at e; split at e <;> omega
        rw [if_neg (by omega), if_neg (by omega), if_neg (by omega), if_neg (by omega), if_neg (by omega), if_neg (by omega), if_neg (by omega), if_neg (by omega), if_neg (by omega), if_neg (by omega), if_neg (by omega)] at tB
        rw [tB] at h
        exact h
      refine eqI (by omega) (fun y => sgn 1 (Or.inr ⟨rfl, by omega⟩)) (fun y => sgn 0 (Or.inl ⟨rfl, by omega⟩))
/-- the class's rows of tokens -/
def Lx (b : Nat → Int) (L E : Nat) (m : MM) : Prop := m 2 5 = (E : Int) ∧ E ≤ 300 ∧ plI b L E = L ∧ ∀ j, j ≤ E → m 3 j = tkI b L j ∧ m 4 j = (plI b L j : Int) ∧ (j < E → m 5 j = nbI b L j ∧ plI b L j < L)
theorem c2_scan {Q : MM → Prop} {x2 : Int} {b : Nat → Int} {L : Nat} (ht : TpC b L m) (e2 : x2 = (L : Int)) (next : ∀ m' E, (∀ c, c ≠ 2 → c ≠ 3 → c ≠ 4 → c ≠ 5 → m' c = m c) → (∀ j, j ≠ 5 → m' 2 j = m 2 j) → Lx b L E m' → Q m') : N G (d + 8) mi_X2_scan 0 [some (vr 2), some (vr 1), some (vi x2), none, none, none] [] m (RV Q) := by
  have hL := ht.1
  have loop : ∀ (n p i : Nat) (x3 x4 : Int) (m1 : MM), n = L - p → p ≤ L → i ≤ p → x3 = (i : Int) → x4 = (p : Int) → skp b (L - p) p = plI b L i → (∀ c, c ≠ 3 → c ≠ 4 → c ≠ 5 → m1 c = m c) → (∀ j, j < i → m1 3 j = tkI b L j ∧ m1 4 j = (plI b L j : Int) ∧ m1 5 j = nbI b L j ∧ plI b L j < L) → N G (d + 8) mi_X2_scan 5 [some (vr 2), some (vr 1), some (vi x2), some (vi x3), some (vi x4), none] [] m1 (RV Q) := by
    intro n
    induction n using Nat.strongRecOn with
    | _ n IH =>
      intro p i x3 x4 m1 hn hp hip h3 h4 hs hf har
      have ht1 : TpC b L m1 := ⟨hL, fun j hj => by rw [hf 1 (by omega) (by omega) (by omega)]; exact ht.2 j hj⟩
      by_cases hpl : p = L
      · -- the end
        refine g_X2_scan_5 _ _ _ (leT (by omega) (g_X2_scan_111 _ _ ⟨i, by omega, fun m2 q2 => ⟨i, by omega, fun m3 q3 m5 q5 => ?_⟩⟩))
        have epl : plI b L i = L := by rw [← hs, hpl, Nat.sub_self]; rfl
        refine next m5 i (fun c c2 c3 c4 c5 => by rw [q5, upm_c c2, q3, upm_c c4, q2, upm_c c3, hf c c3 c4 c5]) (fun j hj => by rw [q5, upm_j _ _ hj, q3, upm_c (by omega), q2, upm_c (by omega), hf 2 (by omega) (by omega) (by omega)]) ⟨by rw [q5, upm_at]; exact h3, by omega, epl, fun j hj => ?_⟩
        by_cases ej : j = i
        · subst ej
          refine ⟨?_, ?_, fun z => absurd z (by omega)⟩
          · rw [q5, upm_c (by omega), q3, upm_c (by omega), q2, upm_at]
            unfold tkI
            rw [if_neg (by omega)]
          · rw [q5, upm_c (by omega), q3, upm_at, epl, e2]
        · obtain ⟨a1, a2, a3, a4⟩ := har j (by omega)
          refine ⟨?_, ?_, fun _ => ⟨?_, a4⟩⟩
          · rw [q5, upm_c (by omega), q3, upm_c (by omega), q2, upm_j _ _ ej]; exact a1
          · rw [q5, upm_c (by omega), q3, upm_j _ _ ej, q2, upm_c (by omega)]; exact a2
          · rw [q5, upm_c (by omega), q3, upm_c (by omega), q2, upm_c (by omega)]; exact a3
      · have hpL : p < L := by omega
        have hp1 := (ht1.2 p hpL).1
        have hp2 := (ht1.2 p hpL).2
        have esk : skp b (L - p) p = if b p = 32 ∨ b p = 10 then skp b (L - (p + 1)) (p + 1) else p := by
          rw [show L - p = (L - (p + 1)) + 1 by omega, skp]
        refine g_X2_scan_5 _ _ _ (leF (by omega) (leF (by omega) ⟨p, by omega, ?_⟩))
        rw [hp2]
        refine eqI ⟨sby_rng hp1, by omega⟩ (fun z => ?_) (fun z => ⟨p, by omega, ?_⟩)
        · rw [sby_eq hp1 (by omega)] at z
          exact IH (L - (p + 1)) (by omega) (p + 1) i _ _ m1 rfl (by omega) (by omega) h3 (by omega) (by rw [← hs, esk, if_pos (Or.inl z)]) hf har
        rw [hp2]
        refine eqI ⟨sby_rng hp1, by omega⟩ (fun z2 => ?_) (fun z2 => ?_)
        · rw [sby_eq hp1 (by omega)] at z2
          exact IH (L - (p + 1)) (by omega) (p + 1) i _ _ m1 rfl (by omega) (by omega) h3 (by omega) (by rw [← hs, esk, if_pos (Or.inr z2)]) hf har
        rw [sby_eq hp1 (by omega)] at z z2
        have epl : plI b L i = p := by rw [← hs, esk, if_neg (by omega)]
        have etk : tkI b L i = tkB b L p := by unfold tkI; rw [epl, if_pos hpL]
        have enb : nbI b L i = nbB b L p := by unfold nbI; rw [epl]
        have eps : ps b L (i + 1) = en b L p := by rw [ps_s, epl, if_pos hpL]
        have eb := en_bd b hpL
        refine c2_runEnd ht1 p h4 hpL e2 ⟨i, by omega, fun m5 q5 => ⟨p, by omega, ?_⟩⟩
        have o5 : ∀ c, c ≠ 4 → m5 c = m1 c := fun c hc => by rw [q5, upm_c hc]
        have ht5 : TpC b L m5 := ⟨hL, fun j hj => by rw [o5 1 (by omega)]; exact ht1.2 j hj⟩
        rw [(ht5.2 p hpL).2]
        -- behind the number
        have fin : ∀ (s0 s1 x5 : Int), s0 = nbB b L p → s1 = (i : Int) → x5 = (en b L p : Int) → N G (d + 8) mi_X2_scan 86 [some (vr 2), some (vr 1), some (vi x2), some (vi x3), some (vi x4), some (vi x5)] [vi s0, vi s1, vr 5] m5 (RV Q) := by
          intro s0 s1 x5 hs0 hs1 hx5
          refine g_X2_scan_86 _ _ _ _ _ _ ⟨i, by omega, fun m6 q6 => ?_⟩
          have o6 : ∀ c, c ≠ 4 → c ≠ 5 → m6 c = m1 c := fun c c4 c5 => by rw [q6, upm_c c5, o5 c c4]
          have ht6 : TpC b L m6 := ⟨hL, fun j hj => by rw [o6 1 (by omega) (by omega)]; exact ht1.2 j hj⟩
          refine c2_tokenOf ht6 p h4 hpL hx5 ⟨i, by omega, fun m7 q7 => ?_⟩
          refine IH (L - en b L p) (by omega) (en b L p) (i + 1) _ _ m7 rfl (by omega) (by omega) (by omega) hx5 (by rw [← eps]; rfl) (fun c c3 c4 c5 => by rw [q7, upm_c c3, o6 c c4 c5, hf c c3 c4 c5]) (fun j hj => ?_)
          by_cases ej : j = i
          · subst ej
            refine ⟨by rw [q7, upm_at, etk], ?_, ?_, by omega⟩
            · rw [q7, upm_c (by omega), q6, upm_c (by omega), q5, upm_at, epl]; exact h4
            · rw [q7, upm_c (by omega), q6, upm_at, enb]; exact hs0
          · obtain ⟨a1, a2, a3, a4⟩ := har j (by omega)
            refine ⟨?_, ?_, ?_, a4⟩
            · rw [q7, upm_j _ _ ej, o6 3 (by omega) (by omega)]; exact a1
            · rw [q7, upm_c (by omega), q6, upm_c (by omega), q5, upm_j _ _ ej]; exact a2
            · rw [q7, upm_c (by omega), q6, upm_j _ _ ej, o5 5 (by omega)]; exact a3
        refine c2_isDigit (sby_rng hp1) (fun z3 => eqF (by omega) ?_) (fun z3 => eqT (by omega) (fin _ _ _ ?_ h3 rfl))
        · rw [sby_dg hp1] at z3
          refine c2_numberOf ht5 p (en b L p) h4 (by omega) eb.2 rfl (fun j h1 h2 => ?_) (fin _ _ _ ?_ h3 rfl)
          · by_cases ej : j = p
            · rw [ej]; exact z3
            · refine runD_all b (L - (p + 1)) (p + 1) j (by omega) ?_
              unfold en at h2
              rw [if_neg (by omega), if_pos z3] at h2
              exact h2
          · unfold nbB; rw [if_pos z3]
        · rw [sby_dg hp1] at z3
          unfold nbB; rw [if_neg z3]
  exact g_X2_scan_0 _ (loop L 0 0 0 0 m (by omega) (by omega) (by omega) rfl rfl rfl (fun _ _ _ _ => rfl) (fun j hj => absurd hj (by omega)))
end Lex5
