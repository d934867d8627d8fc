/-! ===== the law's cases ===== -/
section Law1
variable {G : GG} {fr lo bc bs : Nat} {mi : MI} {pc : Nat} {lv : List (Option PV)} {st : List PV} {m : MM} {Z : ZZ}
theorem v_icmp_same {K : Nat} {M : Mem} {a off : Int} {tgt : Nat} (hd : decode mi.2.1 pc = .ok (.if_icmp .eq off, 3)) (ht : (pc : Int) + off = (tgt : Int)) (kt : V G fr lo bc bs mi tgt lv st K M Z) : V G fr lo bc bs mi pc lv (vi a :: vi a :: st) K M Z := by
  intro p e s m args below meth c mc ms H locs ls cells slots C hR hS hL hE h1 h2
  exact lv_icmp_eq C.1 C.2.1 hd ht (fun q => kt p e s m args below meth c mc ms H locs ls cells slots C hR hS hL hE h1 h2) (fun q => absurd rfl q)
theorem u_call {i o ci d : Nat} {rc : vw_C} {mi' : MI} {As st0 : List PV} {lv' : List (Option PV)} {k : Int → MM → Prop} (hd : decode mi.2.1 pc = .ok (.invokevirtual i, 3)) (hl : Cond.methodLink mi.1.cls i mi'.1 ∈ gtb) (hM : metOK mi' As.length) (hst : Cond.instanceMethod mi'.1 ∈ gtb ∧ Cond.selects mi'.1.cls mi'.1 mi'.1 ∈ gtb) (hs : SH o = .inr ci) (hrc : vwCl[ci]? = some rc) (hrn : rc.1 = mi'.1.cls) (e0 : st0 = As.reverse ++ vr o :: st) (hlv : entL (vr o :: As) mi'.2.2.1 = lv') (hlen : (lg_sl ((vr o :: As).map (tv G))).length ≤ mi'.2.2.1) (hw : (st.map pcat).sum ≤ 8) (hfr : d + 1 ≤ fr) (hlo : mi'.2.2.1 + 19 + 64 * d ≤ lo)
    (hc : N G d mi' 0 lv' [] m (RI k)) (kk : ∀ (z : Int) (m' : MM), k z m' → V G fr lo bc bs mi (pc + 3) lv (vi z :: st) KK (m', SR m') Z) : V G fr lo bc bs mi pc lv st0 KK (m, SR m) Z := by
  have := v_callV (Z := Z) (fr := fr) (lo := lo) (lv := lv) (bc := bc) (bs := bs) (bc' := 0) (bs' := 0) hd hl hM hst hs (sh_o hs) hrc hrn e0 hlv hlen hw hfr hlo hc (fun r M' hq => by
    obtain ⟨z, m', rfl, -, rfl, h⟩ := hq
    exact kk z m' h)
  rw [Nat.zero_add, Nat.zero_add] at this
  exact this
end Law1
def mi_L_law : MI := (yL_law, code, 4, ret)
def lL (x : Int) : List (Option PV) := [some (vr 999997), some (vr 0), some (vr 304), some (vi x)]
abbrev gI (G : GG) (j : Nat) : Int := (gX G j).toInt
section Law2
variable {G : GG} {bc bs : Nat} {m : MM} {Z : ZZ}
theorem lc_0 {x : Int} {i : Nat} (hN : gN G < 2147483648) (e : x = (i : Int)) (hi : i + 6 ≤ gN G) (h : Rel m m) (kk : ∀ m', Rel m' m' → V G 2048 84000 bc bs mi_L_law 840 (lL x) [] KK (m', SR m') Z) : V G 2048 84000 bc bs mi_L_law 152 (lL x) [] KK (m, SR m) Z := by
  refine v_aload_n dL_law_152 rfl rfl ?_
  refine v_aload_n dL_law_153 rfl rfl ?_
  refine v_iload_n dL_law_154 rfl rfl ?_
  refine v_iconst dL_law_155 ?_
  refine v_iadd dL_law_156 ?_
  refine v_sld (j := i + 1) dL_law_157 (by omega) (by omega) hN ?_
  refine u_call (d := 0 + 60) (As := [vi (gI G (i + 1))]) (st := []) dL_law_158 ml_L_21 mo_X7_thing mv_X7_thing sh_0 rfl rfl rfl rfl (Nat.le_of_ble_eq_true rfl) (Nat.le_of_ble_eq_true rfl) (Nat.le_of_ble_eq_true rfl) (Nat.le_of_ble_eq_true rfl) (P_thing (d := 0) (k := fun z z' m' => z = z' ∧ Rel m' m') (i32_rng _) h (fun z m' r => ⟨rfl, r⟩)) (fun z1 m1 hp => ?_)
  refine v_aload_n dL_law_161 rfl rfl ?_
  refine v_aload_n dL_law_162 rfl rfl ?_
  refine v_iload_n dL_law_163 rfl rfl ?_
  refine v_iconst dL_law_164 ?_
  refine v_iadd dL_law_165 ?_
  refine v_sld (j := i + 1) dL_law_166 (by omega) (by omega) hN ?_
  refine u_call (d := 0 + 60) (As := [vi (gI G (i + 1))]) (st := [vi z1]) dL_law_167 ml_L_25 mo_X8_thing mv_X8_thing sh_304 rfl rfl rfl rfl (Nat.le_of_ble_eq_true rfl) (Nat.le_of_ble_eq_true rfl) (Nat.le_of_ble_eq_true rfl) (Nat.le_of_ble_eq_true rfl) hp (fun z2 m2 hq => ?_)
  obtain ⟨rfl, hr⟩ := hq
  refine v_icmp_same (tgt := 840) dL_law_170 (by decide) ?_
  exact kk m2 hr
theorem lc_1 {x : Int} {i : Nat} (hN : gN G < 2147483648) (e : x = (i : Int)) (hi : i + 6 ≤ gN G) (h : Rel m m) (kk : ∀ m', Rel m' m' → V G 2048 84000 bc bs mi_L_law 840 (lL x) [] KK (m', SR m') Z) : V G 2048 84000 bc bs mi_L_law 175 (lL x) [] KK (m, SR m) Z := by
  by_cases hb : gI G (i + 2) = 0
  · refine v_aload_n dL_law_175 rfl rfl ?_
    refine v_aload_n dL_law_176 rfl rfl ?_
    refine v_iload_n dL_law_177 rfl rfl ?_
    refine v_iconst dL_law_178 ?_
    refine v_iadd dL_law_179 ?_
    refine v_sld (j := i + 1) dL_law_180 (by omega) (by omega) hN ?_
    refine v_aload_n dL_law_181 rfl rfl ?_
    refine v_iload_n dL_law_182 rfl rfl ?_
    refine v_iconst dL_law_183 ?_
    refine v_iadd dL_law_184 ?_
    refine v_sld (j := i + 2) dL_law_185 (by omega) (by omega) hN ?_
    refine v_if_eq (tgt := 193) dL_law_186 (by decide) (i32_rng _) (fun _ => ?_) (fun z => absurd hb z)
    refine v_iconst dL_law_193 ?_
    refine u_call (d := 0 + 60) (As := [vi (gI G (i + 1)), vi 0]) (st := []) dL_law_194 ml_L_26 mo_X7_eye mv_X7_eye sh_0 rfl rfl rfl rfl (Nat.le_of_ble_eq_true rfl) (Nat.le_of_ble_eq_true rfl) (Nat.le_of_ble_eq_true rfl) (Nat.le_of_ble_eq_true rfl) (P_eye (d := 0) (k := fun z z' m' => z = z' ∧ Rel m' m') (i32_rng _) (Or.inl rfl) h (fun z m' r => ⟨rfl, r⟩)) (fun z1 m1 hp => ?_)
    refine v_aload_n dL_law_197 rfl rfl ?_
    refine v_aload_n dL_law_198 rfl rfl ?_
    refine v_iload_n dL_law_199 rfl rfl ?_
    refine v_iconst dL_law_200 ?_
    refine v_iadd dL_law_201 ?_
    refine v_sld (j := i + 1) dL_law_202 (by omega) (by omega) hN ?_
    refine v_aload_n dL_law_203 rfl rfl ?_
    refine v_iload_n dL_law_204 rfl rfl ?_
    refine v_iconst dL_law_205 ?_
    refine v_iadd dL_law_206 ?_
    refine v_sld (j := i + 2) dL_law_207 (by omega) (by omega) hN ?_
    refine v_if_eq (tgt := 215) dL_law_208 (by decide) (i32_rng _) (fun _ => ?_) (fun z => absurd hb z)
    refine v_iconst dL_law_215 ?_
    refine u_call (d := 0 + 60) (As := [vi (gI G (i + 1)), vi 0]) (st := [vi z1]) dL_law_216 ml_L_30 mo_X8_eye mv_X8_eye sh_304 rfl rfl rfl rfl (Nat.le_of_ble_eq_true rfl) (Nat.le_of_ble_eq_true rfl) (Nat.le_of_ble_eq_true rfl) (Nat.le_of_ble_eq_true rfl) hp (fun z2 m2 hq => ?_)
    obtain ⟨rfl, hr⟩ := hq
    refine v_icmp_same (tgt := 840) dL_law_219 (by decide) ?_
    exact kk m2 hr
  · refine v_aload_n dL_law_175 rfl rfl ?_
    refine v_aload_n dL_law_176 rfl rfl ?_
    refine v_iload_n dL_law_177 rfl rfl ?_
    refine v_iconst dL_law_178 ?_
    refine v_iadd dL_law_179 ?_
    refine v_sld (j := i + 1) dL_law_180 (by omega) (by omega) hN ?_
    refine v_aload_n dL_law_181 rfl rfl ?_
    refine v_iload_n dL_law_182 rfl rfl ?_
    refine v_iconst dL_law_183 ?_
    refine v_iadd dL_law_184 ?_
    refine v_sld (j := i + 2) dL_law_185 (by omega) (by omega) hN ?_
    refine v_if_eq (tgt := 193) dL_law_186 (by decide) (i32_rng _) (fun z => absurd z hb) (fun _ => ?_)
    refine v_iconst dL_law_189 ?_
    refine v_goto (tgt := 194) dL_law_190 (by decide) ?_
    refine u_call (d := 0 + 60) (As := [vi (gI G (i + 1)), vi 1]) (st := []) dL_law_194 ml_L_26 mo_X7_eye mv_X7_eye sh_0 rfl rfl rfl rfl (Nat.le_of_ble_eq_true rfl) (Nat.le_of_ble_eq_true rfl) (Nat.le_of_ble_eq_true rfl) (Nat.le_of_ble_eq_true rfl) (P_eye (d := 0) (k := fun z z' m' => z = z' ∧ Rel m' m') (i32_rng _) (Or.inr rfl) h (fun z m' r => ⟨rfl, r⟩)) (fun z1 m1 hp => ?_)
    refine v_aload_n dL_law_197 rfl rfl ?_
    refine v_aload_n dL_law_198 rfl rfl ?_
    refine v_iload_n dL_law_199 rfl rfl ?_
    refine v_iconst dL_law_200 ?_
    refine v_iadd dL_law_201 ?_
    refine v_sld (j := i + 1) dL_law_202 (by omega) (by omega) hN ?_
    refine v_aload_n dL_law_203 rfl rfl ?_
    refine v_iload_n dL_law_204 rfl rfl ?_
    refine v_iconst dL_law_205 ?_
    refine v_iadd dL_law_206 ?_
    refine v_sld (j := i + 2) dL_law_207 (by omega) (by omega) hN ?_
    refine v_if_eq (tgt := 215) dL_law_208 (by decide) (i32_rng _) (fun z => absurd z hb) (fun _ => ?_)
    refine v_iconst dL_law_211 ?_
    refine v_goto (tgt := 216) dL_law_212 (by decide) ?_
    refine u_call (d := 0 + 60) (As := [vi (gI G (i + 1)), vi 1]) (st := [vi z1]) dL_law_216 ml_L_30 mo_X8_eye mv_X8_eye sh_304 rfl rfl rfl rfl (Nat.le_of_ble_eq_true rfl) (Nat.le_of_ble_eq_true rfl) (Nat.le_of_ble_eq_true rfl) (Nat.le_of_ble_eq_true rfl) hp (fun z2 m2 hq => ?_)
    obtain ⟨rfl, hr⟩ := hq
    refine v_icmp_same (tgt := 840) dL_law_219 (by decide) ?_
    exact kk m2 hr
theorem lc_2 {x : Int} {i : Nat} (hN : gN G < 2147483648) (e : x = (i : Int)) (hi : i + 6 ≤ gN G) (h : Rel m m) (kk : ∀ m', Rel m' m' → V G 2048 84000 bc bs mi_L_law 840 (lL x) [] KK (m', SR m') Z) : V G 2048 84000 bc bs mi_L_law 224 (lL x) [] KK (m, SR m) Z := by
  refine v_aload_n dL_law_224 rfl rfl ?_
  refine v_aload_n dL_law_225 rfl rfl ?_
  refine v_iload_n dL_law_226 rfl rfl ?_
  refine v_iconst dL_law_227 ?_
  refine v_iadd dL_law_228 ?_
  refine v_sld (j := i + 1) dL_law_229 (by omega) (by omega) hN ?_
  refine v_aload_n dL_law_230 rfl rfl ?_
  refine v_iload_n dL_law_231 rfl rfl ?_
  refine v_iconst dL_law_232 ?_
  refine v_iadd dL_law_233 ?_
  refine v_sld (j := i + 2) dL_law_234 (by omega) (by omega) hN ?_
  refine v_aload_n dL_law_235 rfl rfl ?_
  refine v_iload_n dL_law_236 rfl rfl ?_
  refine v_iconst dL_law_237 ?_
  refine v_iadd dL_law_238 ?_
  refine v_sld (j := i + 3) dL_law_239 (by omega) (by omega) hN ?_
  refine v_aload_n dL_law_240 rfl rfl ?_
  refine v_iload_n dL_law_241 rfl rfl ?_
  refine v_iconst dL_law_242 ?_
  refine v_iadd dL_law_243 ?_
  refine v_sld (j := i + 4) dL_law_244 (by omega) (by omega) hN ?_
  refine v_aload_n dL_law_245 rfl rfl ?_
  refine v_iload_n dL_law_246 rfl rfl ?_
  refine v_iconst dL_law_247 ?_
  refine v_iadd dL_law_248 ?_
  refine v_sld (j := i + 5) dL_law_249 (by omega) (by omega) hN ?_
  refine u_call (d := 0 + 60) (As := [vi (gI G (i + 1)), vi (gI G (i + 2)), vi (gI G (i + 3)), vi (gI G (i + 4)), vi (gI G (i + 5))]) (st := []) dL_law_250 ml_L_31 mo_X7_feed mv_X7_feed sh_0 rfl rfl rfl rfl (Nat.le_of_ble_eq_true rfl) (Nat.le_of_ble_eq_true rfl) (Nat.le_of_ble_eq_true rfl) (Nat.le_of_ble_eq_true rfl) (P_feed (d := 0) (k := fun z z' m' => z = z' ∧ Rel m' m')  h (fun z m' r => ⟨rfl, r⟩)) (fun z1 m1 hp => ?_)
  refine v_aload_n dL_law_253 rfl rfl ?_
  refine v_aload_n dL_law_254 rfl rfl ?_
  refine v_iload_n dL_law_255 rfl rfl ?_
  refine v_iconst dL_law_256 ?_
  refine v_iadd dL_law_257 ?_
  refine v_sld (j := i + 1) dL_law_258 (by omega) (by omega) hN ?_
  refine v_aload_n dL_law_259 rfl rfl ?_
  refine v_iload_n dL_law_260 rfl rfl ?_
  refine v_iconst dL_law_261 ?_
  refine v_iadd dL_law_262 ?_
  refine v_sld (j := i + 2) dL_law_263 (by omega) (by omega) hN ?_
  refine v_aload_n dL_law_264 rfl rfl ?_
  refine v_iload_n dL_law_265 rfl rfl ?_
  refine v_iconst dL_law_266 ?_
  refine v_iadd dL_law_267 ?_
  refine v_sld (j := i + 3) dL_law_268 (by omega) (by omega) hN ?_
  refine v_aload_n dL_law_269 rfl rfl ?_
  refine v_iload_n dL_law_270 rfl rfl ?_
  refine v_iconst dL_law_271 ?_
  refine v_iadd dL_law_272 ?_
  refine v_sld (j := i + 4) dL_law_273 (by omega) (by omega) hN ?_
  refine v_aload_n dL_law_274 rfl rfl ?_
  refine v_iload_n dL_law_275 rfl rfl ?_
  refine v_iconst dL_law_276 ?_
  refine v_iadd dL_law_277 ?_
  refine v_sld (j := i + 5) dL_law_278 (by omega) (by omega) hN ?_
  refine u_call (d := 0 + 60) (As := [vi (gI G (i + 1)), vi (gI G (i + 2)), vi (gI G (i + 3)), vi (gI G (i + 4)), vi (gI G (i + 5))]) (st := [vi z1]) dL_law_279 ml_L_35 mo_X8_feed mv_X8_feed sh_304 rfl rfl rfl rfl (Nat.le_of_ble_eq_true rfl) (Nat.le_of_ble_eq_true rfl) (Nat.le_of_ble_eq_true rfl) (Nat.le_of_ble_eq_true rfl) hp (fun z2 m2 hq => ?_)
  obtain ⟨rfl, hr⟩ := hq
  refine v_icmp_same (tgt := 840) dL_law_282 (by decide) ?_
  exact kk m2 hr
theorem lc_3 {x : Int} {i : Nat} (hN : gN G < 2147483648) (e : x = (i : Int)) (hi : i + 6 ≤ gN G) (h : Rel m m) (kk : ∀ m', Rel m' m' → V G 2048 84000 bc bs mi_L_law 840 (lL x) [] KK (m', SR m') Z) : V G 2048 84000 bc bs mi_L_law 287 (lL x) [] KK (m, SR m) Z := by
  refine v_aload_n dL_law_287 rfl rfl ?_
  refine v_aload_n dL_law_288 rfl rfl ?_
  refine v_iload_n dL_law_289 rfl rfl ?_
  refine v_iconst dL_law_290 ?_
  refine v_iadd dL_law_291 ?_
  refine v_sld (j := i + 1) dL_law_292 (by omega) (by omega) hN ?_
  refine u_call (d := 0 + 60) (As := [vi (gI G (i + 1))]) (st := []) dL_law_293 ml_L_36 mo_X7_end mv_X7_end sh_0 rfl rfl rfl rfl (Nat.le_of_ble_eq_true rfl) (Nat.le_of_ble_eq_true rfl) (Nat.le_of_ble_eq_true rfl) (Nat.le_of_ble_eq_true rfl) (P_end (d := 0) (k := fun z z' m' => z = z' ∧ Rel m' m') (i32_rng _) h (fun z m' r => ⟨rfl, r⟩)) (fun z1 m1 hp => ?_)
  refine v_aload_n dL_law_296 rfl rfl ?_
  refine v_aload_n dL_law_297 rfl rfl ?_
  refine v_iload_n dL_law_298 rfl rfl ?_
  refine v_iconst dL_law_299 ?_
  refine v_iadd dL_law_300 ?_
  refine v_sld (j := i + 1) dL_law_301 (by omega) (by omega) hN ?_
  refine u_call (d := 0 + 60) (As := [vi (gI G (i + 1))]) (st := [vi z1]) dL_law_302 ml_L_39 mo_X8_end mv_X8_end sh_304 rfl rfl rfl rfl (Nat.le_of_ble_eq_true rfl) (Nat.le_of_ble_eq_true rfl) (Nat.le_of_ble_eq_true rfl) (Nat.le_of_ble_eq_true rfl) hp (fun z2 m2 hq => ?_)
  obtain ⟨rfl, hr⟩ := hq
  refine v_icmp_same (tgt := 840) dL_law_305 (by decide) ?_
  exact kk m2 hr
theorem lc_4 {x : Int} {i : Nat} (hN : gN G < 2147483648) (e : x = (i : Int)) (hi : i + 6 ≤ gN G) (h : Rel m m) (kk : ∀ m', Rel m' m' → V G 2048 84000 bc bs mi_L_law 840 (lL x) [] KK (m', SR m') Z) : V G 2048 84000 bc bs mi_L_law 310 (lL x) [] KK (m, SR m) Z := by
  refine v_aload_n dL_law_310 rfl rfl ?_
  refine u_call (d := 0 + 60) (As := []) (st := []) dL_law_311 ml_L_40 mo_X7_text mv_X7_text sh_0 rfl rfl rfl rfl (Nat.le_of_ble_eq_true rfl) (Nat.le_of_ble_eq_true rfl) (Nat.le_of_ble_eq_true rfl) (Nat.le_of_ble_eq_true rfl) (P_text (d := 0) (k := fun z z' m' => z = z' ∧ Rel m' m')  h (fun z m' r => ⟨rfl, r⟩)) (fun z1 m1 hp => ?_)
  refine v_aload_n dL_law_314 rfl rfl ?_
  refine u_call (d := 0 + 60) (As := []) (st := [vi z1]) dL_law_315 ml_L_44 mo_X8_text mv_X8_text sh_304 rfl rfl rfl rfl (Nat.le_of_ble_eq_true rfl) (Nat.le_of_ble_eq_true rfl) (Nat.le_of_ble_eq_true rfl) (Nat.le_of_ble_eq_true rfl) hp (fun z2 m2 hq => ?_)
  obtain ⟨rfl, hr⟩ := hq
  refine v_icmp_same (tgt := 840) dL_law_318 (by decide) ?_
  exact kk m2 hr
theorem lc_5 {x : Int} {i : Nat} (hN : gN G < 2147483648) (e : x = (i : Int)) (hi : i + 6 ≤ gN G) (h : Rel m m) (kk : ∀ m', Rel m' m' → V G 2048 84000 bc bs mi_L_law 840 (lL x) [] KK (m', SR m') Z) : V G 2048 84000 bc bs mi_L_law 323 (lL x) [] KK (m, SR m) Z := by
  refine v_aload_n dL_law_323 rfl rfl ?_
  refine v_aload_n dL_law_324 rfl rfl ?_
  refine v_iload_n dL_law_325 rfl rfl ?_
  refine v_iconst dL_law_326 ?_
  refine v_iadd dL_law_327 ?_
  refine v_sld (j := i + 1) dL_law_328 (by omega) (by omega) hN ?_
  refine u_call (d := 0 + 60) (As := [vi (gI G (i + 1))]) (st := []) dL_law_329 ml_L_45 mo_X7_fault mv_X7_fault sh_0 rfl rfl rfl rfl (Nat.le_of_ble_eq_true rfl) (Nat.le_of_ble_eq_true rfl) (Nat.le_of_ble_eq_true rfl) (Nat.le_of_ble_eq_true rfl) (P_fault (d := 0) (k := fun z z' m' => z = z' ∧ Rel m' m') (i32_rng _) h (fun z m' r => ⟨rfl, r⟩)) (fun z1 m1 hp => ?_)
  refine v_aload_n dL_law_332 rfl rfl ?_
  refine v_aload_n dL_law_333 rfl rfl ?_
  refine v_iload_n dL_law_334 rfl rfl ?_
  refine v_iconst dL_law_335 ?_
  refine v_iadd dL_law_336 ?_
  refine v_sld (j := i + 1) dL_law_337 (by omega) (by omega) hN ?_
  refine u_call (d := 0 + 60) (As := [vi (gI G (i + 1))]) (st := [vi z1]) dL_law_338 ml_L_48 mo_X8_fault mv_X8_fault sh_304 rfl rfl rfl rfl (Nat.le_of_ble_eq_true rfl) (Nat.le_of_ble_eq_true rfl) (Nat.le_of_ble_eq_true rfl) (Nat.le_of_ble_eq_true rfl) hp (fun z2 m2 hq => ?_)
  obtain ⟨rfl, hr⟩ := hq
  refine v_icmp_same (tgt := 840) dL_law_341 (by decide) ?_
  exact kk m2 hr
theorem lc_6 {x : Int} {i : Nat} (hN : gN G < 2147483648) (e : x = (i : Int)) (hi : i + 6 ≤ gN G) (h : Rel m m) (kk : ∀ m', Rel m' m' → V G 2048 84000 bc bs mi_L_law 840 (lL x) [] KK (m', SR m') Z) : V G 2048 84000 bc bs mi_L_law 346 (lL x) [] KK (m, SR m) Z := by
  refine v_aload_n dL_law_346 rfl rfl ?_
  refine v_aload_n dL_law_347 rfl rfl ?_
  refine v_iload_n dL_law_348 rfl rfl ?_
  refine v_iconst dL_law_349 ?_
  refine v_iadd dL_law_350 ?_
  refine v_sld (j := i + 1) dL_law_351 (by omega) (by omega) hN ?_
  refine u_call (d := 0 + 60) (As := [vi (gI G (i + 1))]) (st := []) dL_law_352 ml_L_49 mo_X7_by mv_X7_by sh_0 rfl rfl rfl rfl (Nat.le_of_ble_eq_true rfl) (Nat.le_of_ble_eq_true rfl) (Nat.le_of_ble_eq_true rfl) (Nat.le_of_ble_eq_true rfl) (P_by (d := 0) (k := fun z z' m' => z = z' ∧ Rel m' m') (i32_rng _) h (fun z m' r => ⟨rfl, r⟩)) (fun z1 m1 hp => ?_)
  refine v_aload_n dL_law_355 rfl rfl ?_
  refine v_aload_n dL_law_356 rfl rfl ?_
  refine v_iload_n dL_law_357 rfl rfl ?_
  refine v_iconst dL_law_358 ?_
  refine v_iadd dL_law_359 ?_
  refine v_sld (j := i + 1) dL_law_360 (by omega) (by omega) hN ?_
  refine u_call (d := 0 + 60) (As := [vi (gI G (i + 1))]) (st := [vi z1]) dL_law_361 ml_L_53 mo_X8_by mv_X8_by sh_304 rfl rfl rfl rfl (Nat.le_of_ble_eq_true rfl) (Nat.le_of_ble_eq_true rfl) (Nat.le_of_ble_eq_true rfl) (Nat.le_of_ble_eq_true rfl) hp (fun z2 m2 hq => ?_)
  obtain ⟨rfl, hr⟩ := hq
  refine v_icmp_same (tgt := 840) dL_law_364 (by decide) ?_
  exact kk m2 hr
theorem lc_7 {x : Int} {i : Nat} (hN : gN G < 2147483648) (e : x = (i : Int)) (hi : i + 6 ≤ gN G) (h : Rel m m) (kk : ∀ m', Rel m' m' → V G 2048 84000 bc bs mi_L_law 840 (lL x) [] KK (m', SR m') Z) : V G 2048 84000 bc bs mi_L_law 369 (lL x) [] KK (m, SR m) Z := by
  refine v_aload_n dL_law_369 rfl rfl ?_
  refine v_aload_n dL_law_370 rfl rfl ?_
  refine v_iload_n dL_law_371 rfl rfl ?_
  refine v_iconst dL_law_372 ?_
  refine v_iadd dL_law_373 ?_
  refine v_sld (j := i + 1) dL_law_374 (by omega) (by omega) hN ?_
  refine v_aload_n dL_law_375 rfl rfl ?_
  refine v_iload_n dL_law_376 rfl rfl ?_
  refine v_iconst dL_law_377 ?_
  refine v_iadd dL_law_378 ?_
  refine v_sld (j := i + 2) dL_law_379 (by omega) (by omega) hN ?_
  refine u_call (d := 0 + 60) (As := [vi (gI G (i + 1)), vi (gI G (i + 2))]) (st := []) dL_law_380 ml_L_54 mo_X7_touch mv_X7_touch sh_0 rfl rfl rfl rfl (Nat.le_of_ble_eq_true rfl) (Nat.le_of_ble_eq_true rfl) (Nat.le_of_ble_eq_true rfl) (Nat.le_of_ble_eq_true rfl) (P_touch (d := 0) (k := fun z z' m' => z = z' ∧ Rel m' m') (i32_rng _) (i32_rng _) h (fun z m' r => ⟨rfl, r⟩)) (fun z1 m1 hp => ?_)
  refine v_aload_n dL_law_383 rfl rfl ?_
  refine v_aload_n dL_law_384 rfl rfl ?_
  refine v_iload_n dL_law_385 rfl rfl ?_
  refine v_iconst dL_law_386 ?_
  refine v_iadd dL_law_387 ?_
  refine v_sld (j := i + 1) dL_law_388 (by omega) (by omega) hN ?_
  refine v_aload_n dL_law_389 rfl rfl ?_
  refine v_iload_n dL_law_390 rfl rfl ?_
  refine v_iconst dL_law_391 ?_
  refine v_iadd dL_law_392 ?_
  refine v_sld (j := i + 2) dL_law_393 (by omega) (by omega) hN ?_
  refine u_call (d := 0 + 60) (As := [vi (gI G (i + 1)), vi (gI G (i + 2))]) (st := [vi z1]) dL_law_394 ml_L_58 mo_X8_touch mv_X8_touch sh_304 rfl rfl rfl rfl (Nat.le_of_ble_eq_true rfl) (Nat.le_of_ble_eq_true rfl) (Nat.le_of_ble_eq_true rfl) (Nat.le_of_ble_eq_true rfl) hp (fun z2 m2 hq => ?_)
  obtain ⟨rfl, hr⟩ := hq
  refine v_icmp_same (tgt := 840) dL_law_397 (by decide) ?_
  exact kk m2 hr
theorem lc_8 {x : Int} {i : Nat} (hN : gN G < 2147483648) (e : x = (i : Int)) (hi : i + 6 ≤ gN G) (h : Rel m m) (kk : ∀ m', Rel m' m' → V G 2048 84000 bc bs mi_L_law 840 (lL x) [] KK (m', SR m') Z) : V G 2048 84000 bc bs mi_L_law 402 (lL x) [] KK (m, SR m) Z := by
  refine v_aload_n dL_law_402 rfl rfl ?_
  refine v_aload_n dL_law_403 rfl rfl ?_
  refine v_iload_n dL_law_404 rfl rfl ?_
  refine v_iconst dL_law_405 ?_
  refine v_iadd dL_law_406 ?_
  refine v_sld (j := i + 1) dL_law_407 (by omega) (by omega) hN ?_
  refine v_aload_n dL_law_408 rfl rfl ?_
  refine v_iload_n dL_law_409 rfl rfl ?_
  refine v_iconst dL_law_410 ?_
  refine v_iadd dL_law_411 ?_
  refine v_sld (j := i + 2) dL_law_412 (by omega) (by omega) hN ?_
  refine u_call (d := 0 + 60) (As := [vi (gI G (i + 1)), vi (gI G (i + 2))]) (st := []) dL_law_413 ml_L_59 mo_X7_put mv_X7_put sh_0 rfl rfl rfl rfl (Nat.le_of_ble_eq_true rfl) (Nat.le_of_ble_eq_true rfl) (Nat.le_of_ble_eq_true rfl) (Nat.le_of_ble_eq_true rfl) (P_put (d := 0) (k := fun z z' m' => z = z' ∧ Rel m' m') (i32_rng _) (i32_rng _) h (fun z m' r => ⟨rfl, r⟩)) (fun z1 m1 hp => ?_)
  refine v_aload_n dL_law_416 rfl rfl ?_
  refine v_aload_n dL_law_417 rfl rfl ?_
  refine v_iload_n dL_law_418 rfl rfl ?_
  refine v_iconst dL_law_419 ?_
  refine v_iadd dL_law_420 ?_
  refine v_sld (j := i + 1) dL_law_421 (by omega) (by omega) hN ?_
  refine v_aload_n dL_law_422 rfl rfl ?_
  refine v_iload_n dL_law_423 rfl rfl ?_
  refine v_iconst dL_law_424 ?_
  refine v_iadd dL_law_425 ?_
  refine v_sld (j := i + 2) dL_law_426 (by omega) (by omega) hN ?_
  refine u_call (d := 0 + 60) (As := [vi (gI G (i + 1)), vi (gI G (i + 2))]) (st := [vi z1]) dL_law_427 ml_L_63 mo_X8_put mv_X8_put sh_304 rfl rfl rfl rfl (Nat.le_of_ble_eq_true rfl) (Nat.le_of_ble_eq_true rfl) (Nat.le_of_ble_eq_true rfl) (Nat.le_of_ble_eq_true rfl) hp (fun z2 m2 hq => ?_)
  obtain ⟨rfl, hr⟩ := hq
  refine v_icmp_same (tgt := 840) dL_law_430 (by decide) ?_
  exact kk m2 hr
theorem lc_9 {x : Int} {i : Nat} (hN : gN G < 2147483648) (e : x = (i : Int)) (hi : i + 6 ≤ gN G) (h : Rel m m) (kk : ∀ m', Rel m' m' → V G 2048 84000 bc bs mi_L_law 840 (lL x) [] KK (m', SR m') Z) : V G 2048 84000 bc bs mi_L_law 435 (lL x) [] KK (m, SR m) Z := by
  refine v_aload_n dL_law_435 rfl rfl ?_
  refine v_aload_n dL_law_436 rfl rfl ?_
  refine v_iload_n dL_law_437 rfl rfl ?_
  refine v_iconst dL_law_438 ?_
  refine v_iadd dL_law_439 ?_
  refine v_sld (j := i + 1) dL_law_440 (by omega) (by omega) hN ?_
  refine v_aload_n dL_law_441 rfl rfl ?_
  refine v_iload_n dL_law_442 rfl rfl ?_
  refine v_iconst dL_law_443 ?_
  refine v_iadd dL_law_444 ?_
  refine v_sld (j := i + 2) dL_law_445 (by omega) (by omega) hN ?_
  refine u_call (d := 0 + 60) (As := [vi (gI G (i + 1)), vi (gI G (i + 2))]) (st := []) dL_law_446 ml_L_64 mo_X7_swap mv_X7_swap sh_0 rfl rfl rfl rfl (Nat.le_of_ble_eq_true rfl) (Nat.le_of_ble_eq_true rfl) (Nat.le_of_ble_eq_true rfl) (Nat.le_of_ble_eq_true rfl) (P_swap (d := 0) (k := fun z z' m' => z = z' ∧ Rel m' m') (i32_rng _) (i32_rng _) h (fun z m' r => ⟨rfl, r⟩)) (fun z1 m1 hp => ?_)
  refine v_aload_n dL_law_449 rfl rfl ?_
  refine v_aload_n dL_law_450 rfl rfl ?_
  refine v_iload_n dL_law_451 rfl rfl ?_
  refine v_iconst dL_law_452 ?_
  refine v_iadd dL_law_453 ?_
  refine v_sld (j := i + 1) dL_law_454 (by omega) (by omega) hN ?_
  refine v_aload_n dL_law_455 rfl rfl ?_
  refine v_iload_n dL_law_456 rfl rfl ?_
  refine v_iconst dL_law_457 ?_
  refine v_iadd dL_law_458 ?_
  refine v_sld (j := i + 2) dL_law_459 (by omega) (by omega) hN ?_
  refine u_call (d := 0 + 60) (As := [vi (gI G (i + 1)), vi (gI G (i + 2))]) (st := [vi z1]) dL_law_460 ml_L_67 mo_X8_swap mv_X8_swap sh_304 rfl rfl rfl rfl (Nat.le_of_ble_eq_true rfl) (Nat.le_of_ble_eq_true rfl) (Nat.le_of_ble_eq_true rfl) (Nat.le_of_ble_eq_true rfl) hp (fun z2 m2 hq => ?_)
  obtain ⟨rfl, hr⟩ := hq
  refine v_icmp_same (tgt := 840) dL_law_463 (by decide) ?_
  exact kk m2 hr
theorem lc_10 {x : Int} {i : Nat} (hN : gN G < 2147483648) (e : x = (i : Int)) (hi : i + 6 ≤ gN G) (h : Rel m m) (kk : ∀ m', Rel m' m' → V G 2048 84000 bc bs mi_L_law 840 (lL x) [] KK (m', SR m') Z) : V G 2048 84000 bc bs mi_L_law 468 (lL x) [] KK (m, SR m) Z := by
  refine v_aload_n dL_law_468 rfl rfl ?_
  refine v_aload_n dL_law_469 rfl rfl ?_
  refine v_iload_n dL_law_470 rfl rfl ?_
  refine v_iconst dL_law_471 ?_
  refine v_iadd dL_law_472 ?_
  refine v_sld (j := i + 1) dL_law_473 (by omega) (by omega) hN ?_
  refine u_call (d := 0 + 60) (As := [vi (gI G (i + 1))]) (st := []) dL_law_474 ml_L_68 mo_X7_polish mv_X7_polish sh_0 rfl rfl rfl rfl (Nat.le_of_ble_eq_true rfl) (Nat.le_of_ble_eq_true rfl) (Nat.le_of_ble_eq_true rfl) (Nat.le_of_ble_eq_true rfl) (P_polish (d := 0) (k := fun z z' m' => z = z' ∧ Rel m' m') (i32_rng _) h (fun z m' r => ⟨rfl, r⟩)) (fun z1 m1 hp => ?_)
  refine v_aload_n dL_law_477 rfl rfl ?_
  refine v_aload_n dL_law_478 rfl rfl ?_
  refine v_iload_n dL_law_479 rfl rfl ?_
  refine v_iconst dL_law_480 ?_
  refine v_iadd dL_law_481 ?_
  refine v_sld (j := i + 1) dL_law_482 (by omega) (by omega) hN ?_
  refine u_call (d := 0 + 60) (As := [vi (gI G (i + 1))]) (st := [vi z1]) dL_law_483 ml_L_71 mo_X8_polish mv_X8_polish sh_304 rfl rfl rfl rfl (Nat.le_of_ble_eq_true rfl) (Nat.le_of_ble_eq_true rfl) (Nat.le_of_ble_eq_true rfl) (Nat.le_of_ble_eq_true rfl) hp (fun z2 m2 hq => ?_)
  obtain ⟨rfl, hr⟩ := hq
  refine v_icmp_same (tgt := 840) dL_law_486 (by decide) ?_
  exact kk m2 hr
theorem lc_11 {x : Int} {i : Nat} (hN : gN G < 2147483648) (e : x = (i : Int)) (hi : i + 6 ≤ gN G) (h : Rel m m) (kk : ∀ m', Rel m' m' → V G 2048 84000 bc bs mi_L_law 840 (lL x) [] KK (m', SR m') Z) : V G 2048 84000 bc bs mi_L_law 491 (lL x) [] KK (m, SR m) Z := by
  refine v_aload_n dL_law_491 rfl rfl ?_
  refine v_aload_n dL_law_492 rfl rfl ?_
  refine v_iload_n dL_law_493 rfl rfl ?_
  refine v_iconst dL_law_494 ?_
  refine v_iadd dL_law_495 ?_
  refine v_sld (j := i + 1) dL_law_496 (by omega) (by omega) hN ?_
  refine u_call (d := 0 + 60) (As := [vi (gI G (i + 1))]) (st := []) dL_law_497 ml_L_72 mo_X7_played mv_X7_played sh_0 rfl rfl rfl rfl (Nat.le_of_ble_eq_true rfl) (Nat.le_of_ble_eq_true rfl) (Nat.le_of_ble_eq_true rfl) (Nat.le_of_ble_eq_true rfl) (P_played (d := 0) (k := fun z z' m' => z = z' ∧ Rel m' m') (i32_rng _) h (fun z m' r => ⟨rfl, r⟩)) (fun z1 m1 hp => ?_)
  refine v_aload_n dL_law_500 rfl rfl ?_
  refine v_aload_n dL_law_501 rfl rfl ?_
  refine v_iload_n dL_law_502 rfl rfl ?_
  refine v_iconst dL_law_503 ?_
  refine v_iadd dL_law_504 ?_
  refine v_sld (j := i + 1) dL_law_505 (by omega) (by omega) hN ?_
  refine u_call (d := 0 + 60) (As := [vi (gI G (i + 1))]) (st := [vi z1]) dL_law_506 ml_L_75 mo_X8_played mv_X8_played sh_304 rfl rfl rfl rfl (Nat.le_of_ble_eq_true rfl) (Nat.le_of_ble_eq_true rfl) (Nat.le_of_ble_eq_true rfl) (Nat.le_of_ble_eq_true rfl) hp (fun z2 m2 hq => ?_)
  obtain ⟨rfl, hr⟩ := hq
  refine v_icmp_same (tgt := 840) dL_law_509 (by decide) ?_
  exact kk m2 hr
theorem lc_12 {x : Int} {i : Nat} (hN : gN G < 2147483648) (e : x = (i : Int)) (hi : i + 6 ≤ gN G) (h : Rel m m) (kk : ∀ m', Rel m' m' → V G 2048 84000 bc bs mi_L_law 840 (lL x) [] KK (m', SR m') Z) : V G 2048 84000 bc bs mi_L_law 514 (lL x) [] KK (m, SR m) Z := by
  refine v_aload_n dL_law_514 rfl rfl ?_
  refine v_aload_n dL_law_515 rfl rfl ?_
  refine v_iload_n dL_law_516 rfl rfl ?_
  refine v_iconst dL_law_517 ?_
  refine v_iadd dL_law_518 ?_
  refine v_sld (j := i + 1) dL_law_519 (by omega) (by omega) hN ?_
  refine v_aload_n dL_law_520 rfl rfl ?_
  refine v_iload_n dL_law_521 rfl rfl ?_
  refine v_iconst dL_law_522 ?_
  refine v_iadd dL_law_523 ?_
  refine v_sld (j := i + 2) dL_law_524 (by omega) (by omega) hN ?_
  refine u_call (d := 0 + 60) (As := [vi (gI G (i + 1)), vi (gI G (i + 2))]) (st := []) dL_law_525 ml_L_76 mo_X7_cat mv_X7_cat sh_0 rfl rfl rfl rfl (Nat.le_of_ble_eq_true rfl) (Nat.le_of_ble_eq_true rfl) (Nat.le_of_ble_eq_true rfl) (Nat.le_of_ble_eq_true rfl) (P_cat (d := 0) (k := fun z z' m' => z = z' ∧ Rel m' m') (i32_rng _) (i32_rng _) h (fun z m' r => ⟨rfl, r⟩)) (fun z1 m1 hp => ?_)
  refine v_aload_n dL_law_528 rfl rfl ?_
  refine v_aload_n dL_law_529 rfl rfl ?_
  refine v_iload_n dL_law_530 rfl rfl ?_
  refine v_iconst dL_law_531 ?_
  refine v_iadd dL_law_532 ?_
  refine v_sld (j := i + 1) dL_law_533 (by omega) (by omega) hN ?_
  refine v_aload_n dL_law_534 rfl rfl ?_
  refine v_iload_n dL_law_535 rfl rfl ?_
  refine v_iconst dL_law_536 ?_
  refine v_iadd dL_law_537 ?_
  refine v_sld (j := i + 2) dL_law_538 (by omega) (by omega) hN ?_
  refine u_call (d := 0 + 60) (As := [vi (gI G (i + 1)), vi (gI G (i + 2))]) (st := [vi z1]) dL_law_539 ml_L_79 mo_X8_cat mv_X8_cat sh_304 rfl rfl rfl rfl (Nat.le_of_ble_eq_true rfl) (Nat.le_of_ble_eq_true rfl) (Nat.le_of_ble_eq_true rfl) (Nat.le_of_ble_eq_true rfl) hp (fun z2 m2 hq => ?_)
  obtain ⟨rfl, hr⟩ := hq
  refine v_icmp_same (tgt := 840) dL_law_542 (by decide) ?_
  exact kk m2 hr
theorem lc_13 {x : Int} {i : Nat} (hN : gN G < 2147483648) (e : x = (i : Int)) (hi : i + 6 ≤ gN G) (h : Rel m m) (kk : ∀ m', Rel m' m' → V G 2048 84000 bc bs mi_L_law 840 (lL x) [] KK (m', SR m') Z) : V G 2048 84000 bc bs mi_L_law 547 (lL x) [] KK (m, SR m) Z := by
  refine v_aload_n dL_law_547 rfl rfl ?_
  refine u_call (d := 0 + 60) (As := []) (st := []) dL_law_548 ml_L_80 mo_X7_undo mv_X7_undo sh_0 rfl rfl rfl rfl (Nat.le_of_ble_eq_true rfl) (Nat.le_of_ble_eq_true rfl) (Nat.le_of_ble_eq_true rfl) (Nat.le_of_ble_eq_true rfl) (P_undo (d := 0) (k := fun z z' m' => z = z' ∧ Rel m' m')  h (fun z m' r => ⟨rfl, r⟩)) (fun z1 m1 hp => ?_)
  refine v_aload_n dL_law_551 rfl rfl ?_
  refine u_call (d := 0 + 60) (As := []) (st := [vi z1]) dL_law_552 ml_L_83 mo_X8_undo mv_X8_undo sh_304 rfl rfl rfl rfl (Nat.le_of_ble_eq_true rfl) (Nat.le_of_ble_eq_true rfl) (Nat.le_of_ble_eq_true rfl) (Nat.le_of_ble_eq_true rfl) hp (fun z2 m2 hq => ?_)
  obtain ⟨rfl, hr⟩ := hq
  refine v_icmp_same (tgt := 840) dL_law_555 (by decide) ?_
  exact kk m2 hr
theorem lc_14 {x : Int} {i : Nat} (hN : gN G < 2147483648) (e : x = (i : Int)) (hi : i + 6 ≤ gN G) (h : Rel m m) (kk : ∀ m', Rel m' m' → V G 2048 84000 bc bs mi_L_law 840 (lL x) [] KK (m', SR m') Z) : V G 2048 84000 bc bs mi_L_law 560 (lL x) [] KK (m, SR m) Z := by
  refine v_aload_n dL_law_560 rfl rfl ?_
  refine v_aload_n dL_law_561 rfl rfl ?_
  refine v_iload_n dL_law_562 rfl rfl ?_
  refine v_iconst dL_law_563 ?_
  refine v_iadd dL_law_564 ?_
  refine v_sld (j := i + 1) dL_law_565 (by omega) (by omega) hN ?_
  refine v_aload_n dL_law_566 rfl rfl ?_
  refine v_iload_n dL_law_567 rfl rfl ?_
  refine v_iconst dL_law_568 ?_
  refine v_iadd dL_law_569 ?_
  refine v_sld (j := i + 2) dL_law_570 (by omega) (by omega) hN ?_
  refine u_call (d := 0 + 60) (As := [vi (gI G (i + 1)), vi (gI G (i + 2))]) (st := []) dL_law_571 ml_L_84 mo_X7_of mv_X7_of sh_0 rfl rfl rfl rfl (Nat.le_of_ble_eq_true rfl) (Nat.le_of_ble_eq_true rfl) (Nat.le_of_ble_eq_true rfl) (Nat.le_of_ble_eq_true rfl) (P_of (d := 0) (k := fun z z' m' => z = z' ∧ Rel m' m') (i32_rng _) (i32_rng _) h (fun z m' r => ⟨rfl, r⟩)) (fun z1 m1 hp => ?_)
  refine v_aload_n dL_law_574 rfl rfl ?_
  refine v_aload_n dL_law_575 rfl rfl ?_
  refine v_iload_n dL_law_576 rfl rfl ?_
  refine v_iconst dL_law_577 ?_
  refine v_iadd dL_law_578 ?_
  refine v_sld (j := i + 1) dL_law_579 (by omega) (by omega) hN ?_
  refine v_aload_n dL_law_580 rfl rfl ?_
  refine v_iload_n dL_law_581 rfl rfl ?_
  refine v_iconst dL_law_582 ?_
  refine v_iadd dL_law_583 ?_
  refine v_sld (j := i + 2) dL_law_584 (by omega) (by omega) hN ?_
  refine u_call (d := 0 + 60) (As := [vi (gI G (i + 1)), vi (gI G (i + 2))]) (st := [vi z1]) dL_law_585 ml_L_87 mo_X8_of mv_X8_of sh_304 rfl rfl rfl rfl (Nat.le_of_ble_eq_true rfl) (Nat.le_of_ble_eq_true rfl) (Nat.le_of_ble_eq_true rfl) (Nat.le_of_ble_eq_true rfl) hp (fun z2 m2 hq => ?_)
  obtain ⟨rfl, hr⟩ := hq
  refine v_icmp_same (tgt := 840) dL_law_588 (by decide) ?_
  exact kk m2 hr
theorem lc_15 {x : Int} {i : Nat} (hN : gN G < 2147483648) (e : x = (i : Int)) (hi : i + 6 ≤ gN G) (h : Rel m m) (kk : ∀ m', Rel m' m' → V G 2048 84000 bc bs mi_L_law 840 (lL x) [] KK (m', SR m') Z) : V G 2048 84000 bc bs mi_L_law 593 (lL x) [] KK (m, SR m) Z := by
  refine v_aload_n dL_law_593 rfl rfl ?_
  refine v_aload_n dL_law_594 rfl rfl ?_
  refine v_iload_n dL_law_595 rfl rfl ?_
  refine v_iconst dL_law_596 ?_
  refine v_iadd dL_law_597 ?_
  refine v_sld (j := i + 1) dL_law_598 (by omega) (by omega) hN ?_
  refine v_aload_n dL_law_599 rfl rfl ?_
  refine v_iload_n dL_law_600 rfl rfl ?_
  refine v_iconst dL_law_601 ?_
  refine v_iadd dL_law_602 ?_
  refine v_sld (j := i + 2) dL_law_603 (by omega) (by omega) hN ?_
  refine v_aload_n dL_law_604 rfl rfl ?_
  refine v_iload_n dL_law_605 rfl rfl ?_
  refine v_iconst dL_law_606 ?_
  refine v_iadd dL_law_607 ?_
  refine v_sld (j := i + 3) dL_law_608 (by omega) (by omega) hN ?_
  refine u_call (d := 0 + 60) (As := [vi (gI G (i + 1)), vi (gI G (i + 2)), vi (gI G (i + 3))]) (st := []) dL_law_609 ml_L_88 mo_X7_told mv_X7_told sh_0 rfl rfl rfl rfl (Nat.le_of_ble_eq_true rfl) (Nat.le_of_ble_eq_true rfl) (Nat.le_of_ble_eq_true rfl) (Nat.le_of_ble_eq_true rfl) (P_told (d := 0) (k := fun z z' m' => z = z' ∧ Rel m' m') (i32_rng _) (i32_rng _) (i32_rng _) h (fun z m' r => ⟨rfl, r⟩)) (fun z1 m1 hp => ?_)
  refine v_aload_n dL_law_612 rfl rfl ?_
  refine v_aload_n dL_law_613 rfl rfl ?_
  refine v_iload_n dL_law_614 rfl rfl ?_
  refine v_iconst dL_law_615 ?_
  refine v_iadd dL_law_616 ?_
  refine v_sld (j := i + 1) dL_law_617 (by omega) (by omega) hN ?_
  refine v_aload_n dL_law_618 rfl rfl ?_
  refine v_iload_n dL_law_619 rfl rfl ?_
  refine v_iconst dL_law_620 ?_
  refine v_iadd dL_law_621 ?_
  refine v_sld (j := i + 2) dL_law_622 (by omega) (by omega) hN ?_
  refine v_aload_n dL_law_623 rfl rfl ?_
  refine v_iload_n dL_law_624 rfl rfl ?_
  refine v_iconst dL_law_625 ?_
  refine v_iadd dL_law_626 ?_
  refine v_sld (j := i + 3) dL_law_627 (by omega) (by omega) hN ?_
  refine u_call (d := 0 + 60) (As := [vi (gI G (i + 1)), vi (gI G (i + 2)), vi (gI G (i + 3))]) (st := [vi z1]) dL_law_628 ml_L_92 mo_X8_told mv_X8_told sh_304 rfl rfl rfl rfl (Nat.le_of_ble_eq_true rfl) (Nat.le_of_ble_eq_true rfl) (Nat.le_of_ble_eq_true rfl) (Nat.le_of_ble_eq_true rfl) hp (fun z2 m2 hq => ?_)
  obtain ⟨rfl, hr⟩ := hq
  refine v_icmp_same (tgt := 840) dL_law_631 (by decide) ?_
  exact kk m2 hr
theorem lc_16 {x : Int} {i : Nat} (hN : gN G < 2147483648) (e : x = (i : Int)) (hi : i + 6 ≤ gN G) (h : Rel m m) (kk : ∀ m', Rel m' m' → V G 2048 84000 bc bs mi_L_law 840 (lL x) [] KK (m', SR m') Z) : V G 2048 84000 bc bs mi_L_law 636 (lL x) [] KK (m, SR m) Z := by
  refine v_aload_n dL_law_636 rfl rfl ?_
  refine v_aload_n dL_law_637 rfl rfl ?_
  refine v_iload_n dL_law_638 rfl rfl ?_
  refine v_iconst dL_law_639 ?_
  refine v_iadd dL_law_640 ?_
  refine v_sld (j := i + 1) dL_law_641 (by omega) (by omega) hN ?_
  refine u_call (d := 0 + 60) (As := [vi (gI G (i + 1))]) (st := []) dL_law_642 ml_L_93 mo_X7_verdict mv_X7_verdict sh_0 rfl rfl rfl rfl (Nat.le_of_ble_eq_true rfl) (Nat.le_of_ble_eq_true rfl) (Nat.le_of_ble_eq_true rfl) (Nat.le_of_ble_eq_true rfl) (P_verdict (d := 0) (k := fun z z' m' => z = z' ∧ Rel m' m') (i32_rng _) h (fun z m' r => ⟨rfl, r⟩)) (fun z1 m1 hp => ?_)
  refine v_aload_n dL_law_645 rfl rfl ?_
  refine v_aload_n dL_law_646 rfl rfl ?_
  refine v_iload_n dL_law_647 rfl rfl ?_
  refine v_iconst dL_law_648 ?_
  refine v_iadd dL_law_649 ?_
  refine v_sld (j := i + 1) dL_law_650 (by omega) (by omega) hN ?_
  refine u_call (d := 0 + 60) (As := [vi (gI G (i + 1))]) (st := [vi z1]) dL_law_651 ml_L_96 mo_X8_verdict mv_X8_verdict sh_304 rfl rfl rfl rfl (Nat.le_of_ble_eq_true rfl) (Nat.le_of_ble_eq_true rfl) (Nat.le_of_ble_eq_true rfl) (Nat.le_of_ble_eq_true rfl) hp (fun z2 m2 hq => ?_)
  obtain ⟨rfl, hr⟩ := hq
  refine v_icmp_same (tgt := 840) dL_law_654 (by decide) ?_
  exact kk m2 hr
theorem lc_17 {x : Int} {i : Nat} (hN : gN G < 2147483648) (e : x = (i : Int)) (hi : i + 6 ≤ gN G) (h : Rel m m) (kk : ∀ m', Rel m' m' → V G 2048 84000 bc bs mi_L_law 840 (lL x) [] KK (m', SR m') Z) : V G 2048 84000 bc bs mi_L_law 659 (lL x) [] KK (m, SR m) Z := by
  refine v_aload_n dL_law_659 rfl rfl ?_
  refine v_aload_n dL_law_660 rfl rfl ?_
  refine v_iload_n dL_law_661 rfl rfl ?_
  refine v_iconst dL_law_662 ?_
  refine v_iadd dL_law_663 ?_
  refine v_sld (j := i + 1) dL_law_664 (by omega) (by omega) hN ?_
  refine u_call (d := 0 + 60) (As := [vi (gI G (i + 1))]) (st := []) dL_law_665 ml_L_97 mo_X7_quarrel mv_X7_quarrel sh_0 rfl rfl rfl rfl (Nat.le_of_ble_eq_true rfl) (Nat.le_of_ble_eq_true rfl) (Nat.le_of_ble_eq_true rfl) (Nat.le_of_ble_eq_true rfl) (P_quarrel (d := 0) (k := fun z z' m' => z = z' ∧ Rel m' m') (i32_rng _) h (fun z m' r => ⟨rfl, r⟩)) (fun z1 m1 hp => ?_)
  refine v_aload_n dL_law_668 rfl rfl ?_
  refine v_aload_n dL_law_669 rfl rfl ?_
  refine v_iload_n dL_law_670 rfl rfl ?_
  refine v_iconst dL_law_671 ?_
  refine v_iadd dL_law_672 ?_
  refine v_sld (j := i + 1) dL_law_673 (by omega) (by omega) hN ?_
  refine u_call (d := 0 + 60) (As := [vi (gI G (i + 1))]) (st := [vi z1]) dL_law_674 ml_L_100 mo_X8_quarrel mv_X8_quarrel sh_304 rfl rfl rfl rfl (Nat.le_of_ble_eq_true rfl) (Nat.le_of_ble_eq_true rfl) (Nat.le_of_ble_eq_true rfl) (Nat.le_of_ble_eq_true rfl) hp (fun z2 m2 hq => ?_)
  obtain ⟨rfl, hr⟩ := hq
  refine v_icmp_same (tgt := 840) dL_law_677 (by decide) ?_
  exact kk m2 hr
theorem lc_18 {x : Int} {i : Nat} (hN : gN G < 2147483648) (e : x = (i : Int)) (hi : i + 6 ≤ gN G) (h : Rel m m) (kk : ∀ m', Rel m' m' → V G 2048 84000 bc bs mi_L_law 840 (lL x) [] KK (m', SR m') Z) : V G 2048 84000 bc bs mi_L_law 682 (lL x) [] KK (m, SR m) Z := by
  refine v_aload_n dL_law_682 rfl rfl ?_
  refine v_aload_n dL_law_683 rfl rfl ?_
  refine v_iload_n dL_law_684 rfl rfl ?_
  refine v_iconst dL_law_685 ?_
  refine v_iadd dL_law_686 ?_
  refine v_sld (j := i + 1) dL_law_687 (by omega) (by omega) hN ?_
  refine u_call (d := 0 + 60) (As := [vi (gI G (i + 1))]) (st := []) dL_law_688 ml_L_101 mo_X7_shown mv_X7_shown sh_0 rfl rfl rfl rfl (Nat.le_of_ble_eq_true rfl) (Nat.le_of_ble_eq_true rfl) (Nat.le_of_ble_eq_true rfl) (Nat.le_of_ble_eq_true rfl) (P_shown (d := 0) (k := fun z z' m' => z = z' ∧ Rel m' m') (i32_rng _) h (fun z m' r => ⟨rfl, r⟩)) (fun z1 m1 hp => ?_)
  refine v_aload_n dL_law_691 rfl rfl ?_
  refine v_aload_n dL_law_692 rfl rfl ?_
  refine v_iload_n dL_law_693 rfl rfl ?_
  refine v_iconst dL_law_694 ?_
  refine v_iadd dL_law_695 ?_
  refine v_sld (j := i + 1) dL_law_696 (by omega) (by omega) hN ?_
  refine u_call (d := 0 + 60) (As := [vi (gI G (i + 1))]) (st := [vi z1]) dL_law_697 ml_L_104 mo_X8_shown mv_X8_shown sh_304 rfl rfl rfl rfl (Nat.le_of_ble_eq_true rfl) (Nat.le_of_ble_eq_true rfl) (Nat.le_of_ble_eq_true rfl) (Nat.le_of_ble_eq_true rfl) hp (fun z2 m2 hq => ?_)
  obtain ⟨rfl, hr⟩ := hq
  refine v_icmp_same (tgt := 840) dL_law_700 (by decide) ?_
  exact kk m2 hr
theorem lc_19 {x : Int} {i : Nat} (hN : gN G < 2147483648) (e : x = (i : Int)) (hi : i + 6 ≤ gN G) (h : Rel m m) (kk : ∀ m', Rel m' m' → V G 2048 84000 bc bs mi_L_law 840 (lL x) [] KK (m', SR m') Z) : V G 2048 84000 bc bs mi_L_law 705 (lL x) [] KK (m, SR m) Z := by
  refine v_aload_n dL_law_705 rfl rfl ?_
  refine v_aload_n dL_law_706 rfl rfl ?_
  refine v_iload_n dL_law_707 rfl rfl ?_
  refine v_iconst dL_law_708 ?_
  refine v_iadd dL_law_709 ?_
  refine v_sld (j := i + 1) dL_law_710 (by omega) (by omega) hN ?_
  refine v_aload_n dL_law_711 rfl rfl ?_
  refine v_iload_n dL_law_712 rfl rfl ?_
  refine v_iconst dL_law_713 ?_
  refine v_iadd dL_law_714 ?_
  refine v_sld (j := i + 2) dL_law_715 (by omega) (by omega) hN ?_
  refine v_aload_n dL_law_716 rfl rfl ?_
  refine v_iload_n dL_law_717 rfl rfl ?_
  refine v_iconst dL_law_718 ?_
  refine v_iadd dL_law_719 ?_
  refine v_sld (j := i + 3) dL_law_720 (by omega) (by omega) hN ?_
  refine u_call (d := 0 + 60) (As := [vi (gI G (i + 1)), vi (gI G (i + 2)), vi (gI G (i + 3))]) (st := []) dL_law_721 ml_L_105 mo_X7_how mv_X7_how sh_0 rfl rfl rfl rfl (Nat.le_of_ble_eq_true rfl) (Nat.le_of_ble_eq_true rfl) (Nat.le_of_ble_eq_true rfl) (Nat.le_of_ble_eq_true rfl) (P_how (d := 0) (k := fun z z' m' => z = z' ∧ Rel m' m') (i32_rng _) (i32_rng _) (i32_rng _) h (fun z m' r => ⟨rfl, r⟩)) (fun z1 m1 hp => ?_)
  refine v_aload_n dL_law_724 rfl rfl ?_
  refine v_aload_n dL_law_725 rfl rfl ?_
  refine v_iload_n dL_law_726 rfl rfl ?_
  refine v_iconst dL_law_727 ?_
  refine v_iadd dL_law_728 ?_
  refine v_sld (j := i + 1) dL_law_729 (by omega) (by omega) hN ?_
  refine v_aload_n dL_law_730 rfl rfl ?_
  refine v_iload_n dL_law_731 rfl rfl ?_
  refine v_iconst dL_law_732 ?_
  refine v_iadd dL_law_733 ?_
  refine v_sld (j := i + 2) dL_law_734 (by omega) (by omega) hN ?_
  refine v_aload_n dL_law_735 rfl rfl ?_
  refine v_iload_n dL_law_736 rfl rfl ?_
  refine v_iconst dL_law_737 ?_
  refine v_iadd dL_law_738 ?_
  refine v_sld (j := i + 3) dL_law_739 (by omega) (by omega) hN ?_
  refine u_call (d := 0 + 60) (As := [vi (gI G (i + 1)), vi (gI G (i + 2)), vi (gI G (i + 3))]) (st := [vi z1]) dL_law_740 ml_L_108 mo_X8_how mv_X8_how sh_304 rfl rfl rfl rfl (Nat.le_of_ble_eq_true rfl) (Nat.le_of_ble_eq_true rfl) (Nat.le_of_ble_eq_true rfl) (Nat.le_of_ble_eq_true rfl) hp (fun z2 m2 hq => ?_)
  obtain ⟨rfl, hr⟩ := hq
  refine v_icmp_same (tgt := 840) dL_law_743 (by decide) ?_
  exact kk m2 hr
theorem lc_20 {x : Int} {i : Nat} (hN : gN G < 2147483648) (e : x = (i : Int)) (hi : i + 6 ≤ gN G) (h : Rel m m) (kk : ∀ m', Rel m' m' → V G 2048 84000 bc bs mi_L_law 840 (lL x) [] KK (m', SR m') Z) : V G 2048 84000 bc bs mi_L_law 748 (lL x) [] KK (m, SR m) Z := by
  refine v_aload_n dL_law_748 rfl rfl ?_
  refine v_aload_n dL_law_749 rfl rfl ?_
  refine v_iload_n dL_law_750 rfl rfl ?_
  refine v_iconst dL_law_751 ?_
  refine v_iadd dL_law_752 ?_
  refine v_sld (j := i + 1) dL_law_753 (by omega) (by omega) hN ?_
  refine v_aload_n dL_law_754 rfl rfl ?_
  refine v_iload_n dL_law_755 rfl rfl ?_
  refine v_iconst dL_law_756 ?_
  refine v_iadd dL_law_757 ?_
  refine v_sld (j := i + 2) dL_law_758 (by omega) (by omega) hN ?_
  refine v_aload_n dL_law_759 rfl rfl ?_
  refine v_iload_n dL_law_760 rfl rfl ?_
  refine v_iconst dL_law_761 ?_
  refine v_iadd dL_law_762 ?_
  refine v_sld (j := i + 3) dL_law_763 (by omega) (by omega) hN ?_
  refine u_call (d := 0 + 60) (As := [vi (gI G (i + 1)), vi (gI G (i + 2)), vi (gI G (i + 3))]) (st := []) dL_law_764 ml_L_109 mo_X7_supper mv_X7_supper sh_0 rfl rfl rfl rfl (Nat.le_of_ble_eq_true rfl) (Nat.le_of_ble_eq_true rfl) (Nat.le_of_ble_eq_true rfl) (Nat.le_of_ble_eq_true rfl) (P_supper (d := 0) (k := fun z z' m' => z = z' ∧ Rel m' m') (i32_rng _) (i32_rng _) (i32_rng _) h (fun z m' r => ⟨rfl, r⟩)) (fun z1 m1 hp => ?_)
  refine v_aload_n dL_law_767 rfl rfl ?_
  refine v_aload_n dL_law_768 rfl rfl ?_
  refine v_iload_n dL_law_769 rfl rfl ?_
  refine v_iconst dL_law_770 ?_
  refine v_iadd dL_law_771 ?_
  refine v_sld (j := i + 1) dL_law_772 (by omega) (by omega) hN ?_
  refine v_aload_n dL_law_773 rfl rfl ?_
  refine v_iload_n dL_law_774 rfl rfl ?_
  refine v_iconst dL_law_775 ?_
  refine v_iadd dL_law_776 ?_
  refine v_sld (j := i + 2) dL_law_777 (by omega) (by omega) hN ?_
  refine v_aload_n dL_law_778 rfl rfl ?_
  refine v_iload_n dL_law_779 rfl rfl ?_
  refine v_iconst dL_law_780 ?_
  refine v_iadd dL_law_781 ?_
  refine v_sld (j := i + 3) dL_law_782 (by omega) (by omega) hN ?_
  refine u_call (d := 0 + 60) (As := [vi (gI G (i + 1)), vi (gI G (i + 2)), vi (gI G (i + 3))]) (st := [vi z1]) dL_law_783 ml_L_112 mo_X8_supper mv_X8_supper sh_304 rfl rfl rfl rfl (Nat.le_of_ble_eq_true rfl) (Nat.le_of_ble_eq_true rfl) (Nat.le_of_ble_eq_true rfl) (Nat.le_of_ble_eq_true rfl) hp (fun z2 m2 hq => ?_)
  obtain ⟨rfl, hr⟩ := hq
  refine v_icmp_same (tgt := 840) dL_law_786 (by decide) ?_
  exact kk m2 hr
theorem lc_21 {x : Int} {i : Nat} (hN : gN G < 2147483648) (e : x = (i : Int)) (hi : i + 6 ≤ gN G) (h : Rel m m) (kk : ∀ m', Rel m' m' → V G 2048 84000 bc bs mi_L_law 840 (lL x) [] KK (m', SR m') Z) : V G 2048 84000 bc bs mi_L_law 791 (lL x) [] KK (m, SR m) Z := by
  refine v_aload_n dL_law_791 rfl rfl ?_
  refine u_call (d := 0 + 60) (As := []) (st := []) dL_law_792 ml_L_113 mo_X7_image mv_X7_image sh_0 rfl rfl rfl rfl (Nat.le_of_ble_eq_true rfl) (Nat.le_of_ble_eq_true rfl) (Nat.le_of_ble_eq_true rfl) (Nat.le_of_ble_eq_true rfl) (P_image (d := 0) (k := fun z z' m' => z = z' ∧ Rel m' m')  h (fun z m' r => ⟨rfl, r⟩)) (fun z1 m1 hp => ?_)
  refine v_aload_n dL_law_795 rfl rfl ?_
  refine u_call (d := 0 + 60) (As := []) (st := [vi z1]) dL_law_796 ml_L_116 mo_X8_image mv_X8_image sh_304 rfl rfl rfl rfl (Nat.le_of_ble_eq_true rfl) (Nat.le_of_ble_eq_true rfl) (Nat.le_of_ble_eq_true rfl) (Nat.le_of_ble_eq_true rfl) hp (fun z2 m2 hq => ?_)
  obtain ⟨rfl, hr⟩ := hq
  refine v_icmp_same (tgt := 840) dL_law_799 (by decide) ?_
  exact kk m2 hr
theorem lc_22 {x : Int} {i : Nat} (hN : gN G < 2147483648) (e : x = (i : Int)) (hi : i + 6 ≤ gN G) (h : Rel m m) (kk : ∀ m', Rel m' m' → V G 2048 84000 bc bs mi_L_law 840 (lL x) [] KK (m', SR m') Z) : V G 2048 84000 bc bs mi_L_law 804 (lL x) [] KK (m, SR m) Z := by
  refine v_aload_n dL_law_804 rfl rfl ?_
  refine u_call (d := 0 + 60) (As := []) (st := []) dL_law_805 ml_L_117 mo_X7_back mv_X7_back sh_0 rfl rfl rfl rfl (Nat.le_of_ble_eq_true rfl) (Nat.le_of_ble_eq_true rfl) (Nat.le_of_ble_eq_true rfl) (Nat.le_of_ble_eq_true rfl) (P_back (d := 0) (k := fun z z' m' => z = z' ∧ Rel m' m')  h (fun z m' r => ⟨rfl, r⟩)) (fun z1 m1 hp => ?_)
  refine v_aload_n dL_law_808 rfl rfl ?_
  refine u_call (d := 0 + 60) (As := []) (st := [vi z1]) dL_law_809 ml_L_120 mo_X8_back mv_X8_back sh_304 rfl rfl rfl rfl (Nat.le_of_ble_eq_true rfl) (Nat.le_of_ble_eq_true rfl) (Nat.le_of_ble_eq_true rfl) (Nat.le_of_ble_eq_true rfl) hp (fun z2 m2 hq => ?_)
  obtain ⟨rfl, hr⟩ := hq
  refine v_icmp_same (tgt := 840) dL_law_812 (by decide) ?_
  exact kk m2 hr
theorem lc_23 {x : Int} {i : Nat} (hN : gN G < 2147483648) (e : x = (i : Int)) (hi : i + 6 ≤ gN G) (h : Rel m m) (kk : ∀ m', Rel m' m' → V G 2048 84000 bc bs mi_L_law 840 (lL x) [] KK (m', SR m') Z) : V G 2048 84000 bc bs mi_L_law 817 (lL x) [] KK (m, SR m) Z := by
  refine v_aload_n dL_law_817 rfl rfl ?_
  refine v_aload_n dL_law_818 rfl rfl ?_
  refine v_iload_n dL_law_819 rfl rfl ?_
  refine v_iconst dL_law_820 ?_
  refine v_iadd dL_law_821 ?_
  refine v_sld (j := i + 1) dL_law_822 (by omega) (by omega) hN ?_
  refine u_call (d := 0 + 60) (As := [vi (gI G (i + 1))]) (st := []) dL_law_823 ml_L_121 mo_X7_about mv_X7_about sh_0 rfl rfl rfl rfl (Nat.le_of_ble_eq_true rfl) (Nat.le_of_ble_eq_true rfl) (Nat.le_of_ble_eq_true rfl) (Nat.le_of_ble_eq_true rfl) (P_about (d := 0) (k := fun z z' m' => z = z' ∧ Rel m' m') (i32_rng _) h (fun z m' r => ⟨rfl, r⟩)) (fun z1 m1 hp => ?_)
  refine v_aload_n dL_law_826 rfl rfl ?_
  refine v_aload_n dL_law_827 rfl rfl ?_
  refine v_iload_n dL_law_828 rfl rfl ?_
  refine v_iconst dL_law_829 ?_
  refine v_iadd dL_law_830 ?_
  refine v_sld (j := i + 1) dL_law_831 (by omega) (by omega) hN ?_
  refine u_call (d := 0 + 60) (As := [vi (gI G (i + 1))]) (st := [vi z1]) dL_law_832 ml_L_124 mo_X8_about mv_X8_about sh_304 rfl rfl rfl rfl (Nat.le_of_ble_eq_true rfl) (Nat.le_of_ble_eq_true rfl) (Nat.le_of_ble_eq_true rfl) (Nat.le_of_ble_eq_true rfl) hp (fun z2 m2 hq => ?_)
  obtain ⟨rfl, hr⟩ := hq
  refine v_icmp_same (tgt := 840) dL_law_835 (by decide) ?_
  exact kk m2 hr
end Law2
