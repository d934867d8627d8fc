theorem sh_0 : SH 0 = .inr 7 := by decide +kernel
theorem sh_1 : SH 1 = .inl (.byte, 300) := by decide +kernel
theorem sh_2 : SH 2 = .inr 2 := by decide +kernel
theorem sh_3 : SH 3 = .inl (.int, 301) := by decide +kernel
theorem sh_4 : SH 4 = .inl (.int, 301) := by decide +kernel
theorem sh_5 : SH 5 = .inl (.int, 301) := by decide +kernel
theorem sh_6 : SH 6 = .inr 5 := by decide +kernel
theorem sh_7 : SH 7 = .inl (.int, 24) := by decide +kernel
theorem sh_8 : SH 8 = .inl (.int, 24) := by decide +kernel
theorem sh_9 : SH 9 = .inl (.int, 24) := by decide +kernel
theorem sh_10 : SH 10 = .inl (.int, 300) := by decide +kernel
theorem sh_11 : SH 11 = .inl (.object "GlassEyes$Script", 4) := by decide +kernel
theorem sh_12 : SH 12 = .inr 6 := by decide +kernel
theorem sh_13 : SH 13 = .inl (.int, 8) := by decide +kernel
theorem sh_14 : SH 14 = .inl (.int, 8) := by decide +kernel
theorem sh_15 : SH 15 = .inl (.int, 8) := by decide +kernel
theorem sh_16 : SH 16 = .inr 0 := by decide +kernel
theorem sh_17 : SH 17 = .inl (.int, 8) := by decide +kernel
theorem sh_18 : SH 18 = .inl (.int, 8) := by decide +kernel
theorem sh_19 : SH 19 = .inl (.int, 8) := by decide +kernel
theorem sh_20 : SH 20 = .inr 1 := by decide +kernel
theorem sh_21 : SH 21 = .inl (.object "GlassEyes$Court", 30) := by decide +kernel
theorem sh_142 : SH 142 = .inr 6 := by decide +kernel
theorem sh_143 : SH 143 = .inl (.int, 8) := by decide +kernel
theorem sh_144 : SH 144 = .inl (.int, 8) := by decide +kernel
theorem sh_145 : SH 145 = .inl (.int, 8) := by decide +kernel
theorem sh_146 : SH 146 = .inr 0 := by decide +kernel
theorem sh_147 : SH 147 = .inl (.int, 8) := by decide +kernel
theorem sh_148 : SH 148 = .inl (.int, 8) := by decide +kernel
theorem sh_149 : SH 149 = .inl (.int, 8) := by decide +kernel
theorem sh_150 : SH 150 = .inr 1 := by decide +kernel
theorem sh_151 : SH 151 = .inl (.object "GlassEyes$Court", 30) := by decide +kernel
theorem sh_272 : SH 272 = .inr 0 := by decide +kernel
theorem sh_273 : SH 273 = .inl (.int, 8) := by decide +kernel
theorem sh_274 : SH 274 = .inl (.int, 8) := by decide +kernel
theorem sh_275 : SH 275 = .inl (.int, 8) := by decide +kernel
theorem sh_276 : SH 276 = .inr 3 := by decide +kernel
theorem sh_277 : SH 277 = .inl (.int, 9) := by decide +kernel
theorem sh_278 : SH 278 = .inl (.int, 32) := by decide +kernel
theorem sh_279 : SH 279 = .inr 4 := by decide +kernel
theorem sh_280 : SH 280 = .inl (.int, 3) := by decide +kernel
theorem sh_281 : SH 281 = .inl (.int, 3) := by decide +kernel
theorem sh_282 : SH 282 = .inl (.int, 32) := by decide +kernel
theorem sh_283 : SH 283 = .inl (.int, 8) := by decide +kernel
theorem sh_284 : SH 284 = .inr 5 := by decide +kernel
theorem sh_285 : SH 285 = .inl (.int, 24) := by decide +kernel
theorem sh_286 : SH 286 = .inl (.int, 24) := by decide +kernel
theorem sh_287 : SH 287 = .inl (.int, 24) := by decide +kernel
theorem sh_288 : SH 288 = .inl (.int, 300) := by decide +kernel
theorem sh_289 : SH 289 = .inr 5 := by decide +kernel
theorem sh_290 : SH 290 = .inl (.int, 24) := by decide +kernel
theorem sh_291 : SH 291 = .inl (.int, 24) := by decide +kernel
theorem sh_292 : SH 292 = .inl (.int, 24) := by decide +kernel
theorem sh_293 : SH 293 = .inl (.int, 300) := by decide +kernel
theorem sh_294 : SH 294 = .inr 5 := by decide +kernel
theorem sh_295 : SH 295 = .inl (.int, 24) := by decide +kernel
theorem sh_296 : SH 296 = .inl (.int, 24) := by decide +kernel
theorem sh_297 : SH 297 = .inl (.int, 24) := by decide +kernel
theorem sh_298 : SH 298 = .inl (.int, 300) := by decide +kernel
theorem sh_299 : SH 299 = .inr 5 := by decide +kernel
theorem sh_300 : SH 300 = .inl (.int, 24) := by decide +kernel
theorem sh_301 : SH 301 = .inl (.int, 24) := by decide +kernel
theorem sh_302 : SH 302 = .inl (.int, 24) := by decide +kernel
theorem sh_303 : SH 303 = .inl (.int, 300) := by decide +kernel
theorem sh_304 : SH 304 = .inr 8 := by decide +kernel
theorem sh_305 : SH 305 = .inl (.int, 1584) := by decide +kernel
theorem sh_306 : SH 306 = .inl (.int, 1584) := by decide +kernel
theorem sh_307 : SH 307 = .inl (.int, 1584) := by decide +kernel
theorem sh_308 : SH 308 = .inl (.int, 2720) := by decide +kernel
theorem sh_309 : SH 309 = .inl (.int, 300) := by decide +kernel
theorem sh_310 : SH 310 = .inl (.int, 160) := by decide +kernel
theorem sh_311 : SH 311 = .inl (.int, 9) := by decide +kernel
theorem sh_312 : SH 312 = .inl (.long, 330) := by decide +kernel
theorem sh_313 : SH 313 = .inl (.boolean, 330) := by decide +kernel
theorem sh_314 : SH 314 = .inl (.int, 128) := by decide +kernel
theorem sh_315 : SH 315 = .inl (.int, 4) := by decide +kernel
theorem sh_316 : SH 316 = .inl (.int, 16) := by decide +kernel
theorem sh_317 : SH 317 = .inl (.int, 3) := by decide +kernel
theorem sr_0_1 {m : MM} : SR m 0 1 = some 1 := SR_o (k := 1) (o := 1) sh_0 rfl (by decide)
theorem sr_0_3 {m : MM} : SR m 0 3 = some 2 := SR_o (k := 3) (o := 2) sh_0 rfl (by decide)
theorem sr_0_4 {m : MM} : SR m 0 4 = some 11 := SR_o (k := 4) (o := 11) sh_0 rfl (by decide)
theorem sr_0_5 {m : MM} : SR m 0 5 = some 12 := SR_o (k := 5) (o := 12) sh_0 rfl (by decide)
theorem sr_0_6 {m : MM} : SR m 0 6 = some 142 := SR_o (k := 6) (o := 142) sh_0 rfl (by decide)
theorem sr_0_7 {m : MM} : SR m 0 7 = some 272 := SR_o (k := 7) (o := 272) sh_0 rfl (by decide)
theorem sr_0_8 {m : MM} : SR m 0 8 = some 276 := SR_o (k := 8) (o := 276) sh_0 rfl (by decide)
theorem sr_0_9 {m : MM} : SR m 0 9 = some 279 := SR_o (k := 9) (o := 279) sh_0 rfl (by decide)
theorem sr_0_10 {m : MM} : SR m 0 10 = some 282 := SR_o (k := 10) (o := 282) sh_0 rfl (by decide)
theorem sr_0_11 {m : MM} : SR m 0 11 = some 283 := SR_o (k := 11) (o := 283) sh_0 rfl (by decide)
theorem sr_2_2 {m : MM} : SR m 2 2 = some 3 := SR_o (k := 2) (o := 1) sh_2 rfl (by decide)
theorem sr_2_3 {m : MM} : SR m 2 3 = some 4 := SR_o (k := 3) (o := 2) sh_2 rfl (by decide)
theorem sr_2_4 {m : MM} : SR m 2 4 = some 5 := SR_o (k := 4) (o := 3) sh_2 rfl (by decide)
theorem sr_6_1 {m : MM} : SR m 6 1 = some 7 := SR_o (k := 1) (o := 1) sh_6 rfl (by decide)
theorem sr_6_2 {m : MM} : SR m 6 2 = some 8 := SR_o (k := 2) (o := 2) sh_6 rfl (by decide)
theorem sr_6_3 {m : MM} : SR m 6 3 = some 9 := SR_o (k := 3) (o := 3) sh_6 rfl (by decide)
theorem sr_6_4 {m : MM} : SR m 6 4 = some 10 := SR_o (k := 4) (o := 4) sh_6 rfl (by decide)
theorem sr_12_1 {m : MM} : SR m 12 1 = some 13 := SR_o (k := 1) (o := 1) sh_12 rfl (by decide)
theorem sr_12_3 {m : MM} : SR m 12 3 = some 14 := SR_o (k := 3) (o := 2) sh_12 rfl (by decide)
theorem sr_12_4 {m : MM} : SR m 12 4 = some 15 := SR_o (k := 4) (o := 3) sh_12 rfl (by decide)
theorem sr_12_9 {m : MM} : SR m 12 9 = some 16 := SR_o (k := 9) (o := 4) sh_12 rfl (by decide)
theorem sr_12_10 {m : MM} : SR m 12 10 = some 20 := SR_o (k := 10) (o := 8) sh_12 rfl (by decide)
theorem sr_16_1 {m : MM} : SR m 16 1 = some 17 := SR_o (k := 1) (o := 1) sh_16 rfl (by decide)
theorem sr_16_2 {m : MM} : SR m 16 2 = some 18 := SR_o (k := 2) (o := 2) sh_16 rfl (by decide)
theorem sr_16_3 {m : MM} : SR m 16 3 = some 19 := SR_o (k := 3) (o := 3) sh_16 rfl (by decide)
theorem sr_20_0 {m : MM} : SR m 20 0 = some 21 := SR_o (k := 0) (o := 1) sh_20 rfl (by decide)
theorem sr_142_1 {m : MM} : SR m 142 1 = some 143 := SR_o (k := 1) (o := 1) sh_142 rfl (by decide)
theorem sr_142_3 {m : MM} : SR m 142 3 = some 144 := SR_o (k := 3) (o := 2) sh_142 rfl (by decide)
theorem sr_142_4 {m : MM} : SR m 142 4 = some 145 := SR_o (k := 4) (o := 3) sh_142 rfl (by decide)
theorem sr_142_9 {m : MM} : SR m 142 9 = some 146 := SR_o (k := 9) (o := 4) sh_142 rfl (by decide)
theorem sr_142_10 {m : MM} : SR m 142 10 = some 150 := SR_o (k := 10) (o := 8) sh_142 rfl (by decide)
theorem sr_146_1 {m : MM} : SR m 146 1 = some 147 := SR_o (k := 1) (o := 1) sh_146 rfl (by decide)
theorem sr_146_2 {m : MM} : SR m 146 2 = some 148 := SR_o (k := 2) (o := 2) sh_146 rfl (by decide)
theorem sr_146_3 {m : MM} : SR m 146 3 = some 149 := SR_o (k := 3) (o := 3) sh_146 rfl (by decide)
theorem sr_150_0 {m : MM} : SR m 150 0 = some 151 := SR_o (k := 0) (o := 1) sh_150 rfl (by decide)
theorem sr_272_1 {m : MM} : SR m 272 1 = some 273 := SR_o (k := 1) (o := 1) sh_272 rfl (by decide)
theorem sr_272_2 {m : MM} : SR m 272 2 = some 274 := SR_o (k := 2) (o := 2) sh_272 rfl (by decide)
theorem sr_272_3 {m : MM} : SR m 272 3 = some 275 := SR_o (k := 3) (o := 3) sh_272 rfl (by decide)
theorem sr_276_0 {m : MM} : SR m 276 0 = some 277 := SR_o (k := 0) (o := 1) sh_276 rfl (by decide)
theorem sr_276_1 {m : MM} : SR m 276 1 = some 278 := SR_o (k := 1) (o := 2) sh_276 rfl (by decide)
theorem sr_279_7 {m : MM} : SR m 279 7 = some 280 := SR_o (k := 7) (o := 1) sh_279 rfl (by decide)
theorem sr_279_8 {m : MM} : SR m 279 8 = some 281 := SR_o (k := 8) (o := 2) sh_279 rfl (by decide)
theorem sr_284_1 {m : MM} : SR m 284 1 = some 285 := SR_o (k := 1) (o := 1) sh_284 rfl (by decide)
theorem sr_284_2 {m : MM} : SR m 284 2 = some 286 := SR_o (k := 2) (o := 2) sh_284 rfl (by decide)
theorem sr_284_3 {m : MM} : SR m 284 3 = some 287 := SR_o (k := 3) (o := 3) sh_284 rfl (by decide)
theorem sr_284_4 {m : MM} : SR m 284 4 = some 288 := SR_o (k := 4) (o := 4) sh_284 rfl (by decide)
theorem sr_289_1 {m : MM} : SR m 289 1 = some 290 := SR_o (k := 1) (o := 1) sh_289 rfl (by decide)
theorem sr_289_2 {m : MM} : SR m 289 2 = some 291 := SR_o (k := 2) (o := 2) sh_289 rfl (by decide)
theorem sr_289_3 {m : MM} : SR m 289 3 = some 292 := SR_o (k := 3) (o := 3) sh_289 rfl (by decide)
theorem sr_289_4 {m : MM} : SR m 289 4 = some 293 := SR_o (k := 4) (o := 4) sh_289 rfl (by decide)
theorem sr_294_1 {m : MM} : SR m 294 1 = some 295 := SR_o (k := 1) (o := 1) sh_294 rfl (by decide)
theorem sr_294_2 {m : MM} : SR m 294 2 = some 296 := SR_o (k := 2) (o := 2) sh_294 rfl (by decide)
theorem sr_294_3 {m : MM} : SR m 294 3 = some 297 := SR_o (k := 3) (o := 3) sh_294 rfl (by decide)
theorem sr_294_4 {m : MM} : SR m 294 4 = some 298 := SR_o (k := 4) (o := 4) sh_294 rfl (by decide)
theorem sr_299_1 {m : MM} : SR m 299 1 = some 300 := SR_o (k := 1) (o := 1) sh_299 rfl (by decide)
theorem sr_299_2 {m : MM} : SR m 299 2 = some 301 := SR_o (k := 2) (o := 2) sh_299 rfl (by decide)
theorem sr_299_3 {m : MM} : SR m 299 3 = some 302 := SR_o (k := 3) (o := 3) sh_299 rfl (by decide)
theorem sr_299_4 {m : MM} : SR m 299 4 = some 303 := SR_o (k := 4) (o := 4) sh_299 rfl (by decide)
theorem sr_304_0 {m : MM} : SR m 304 0 = some 305 := SR_o (k := 0) (o := 1) sh_304 rfl (by decide)
theorem sr_304_1 {m : MM} : SR m 304 1 = some 306 := SR_o (k := 1) (o := 2) sh_304 rfl (by decide)
theorem sr_304_2 {m : MM} : SR m 304 2 = some 307 := SR_o (k := 2) (o := 3) sh_304 rfl (by decide)
theorem sr_304_4 {m : MM} : SR m 304 4 = some 308 := SR_o (k := 4) (o := 4) sh_304 rfl (by decide)
theorem sr_304_5 {m : MM} : SR m 304 5 = some 309 := SR_o (k := 5) (o := 5) sh_304 rfl (by decide)
theorem sr_304_18 {m : MM} : SR m 304 18 = some 310 := SR_o (k := 18) (o := 6) sh_304 rfl (by decide)
theorem sr_304_24 {m : MM} : SR m 304 24 = some 311 := SR_o (k := 24) (o := 7) sh_304 rfl (by decide)
theorem sr_304_25 {m : MM} : SR m 304 25 = some 312 := SR_o (k := 25) (o := 8) sh_304 rfl (by decide)
theorem sr_304_26 {m : MM} : SR m 304 26 = some 313 := SR_o (k := 26) (o := 9) sh_304 rfl (by decide)
theorem sr_304_27 {m : MM} : SR m 304 27 = some 314 := SR_o (k := 27) (o := 10) sh_304 rfl (by decide)
theorem sr_304_28 {m : MM} : SR m 304 28 = some 315 := SR_o (k := 28) (o := 11) sh_304 rfl (by decide)
theorem sr_304_29 {m : MM} : SR m 304 29 = some 316 := SR_o (k := 29) (o := 12) sh_304 rfl (by decide)
theorem sr_304_30 {m : MM} : SR m 304 30 = some 317 := SR_o (k := 30) (o := 13) sh_304 rfl (by decide)
theorem sr_2_8 {m : MM} : SR m 2 8 = some (m 2 8).toNat := rfl
theorem sr_scr {m : MM} (j : Nat) : SR m 11 j = some (284 + 5 * j) := rfl
theorem sh_scr {j : Nat} (h : j < 4) : SH (284 + 5 * j) = .inr 5 := by
  have h2 : ∀ j, j < 4 → SH (284 + 5 * j) = .inr 5 := by decide +kernel
  exact h2 j h
theorem kn0_1 {c : Nat} (h : SH c = .inr 0) : SH (c + 1) = .inl (.int, 8) := by
  have h2 : ∀ c, c < 318 → SH c = .inr 0 → SH (c + 1) = .inl (.int, 8) := by decide +kernel
  exact h2 c (sh_o h) h
theorem kn0_2 {c : Nat} (h : SH c = .inr 0) : SH (c + 2) = .inl (.int, 8) := by
  have h2 : ∀ c, c < 318 → SH c = .inr 0 → SH (c + 2) = .inl (.int, 8) := by decide +kernel
  exact h2 c (sh_o h) h
theorem kn0_3 {c : Nat} (h : SH c = .inr 0) : SH (c + 3) = .inl (.int, 8) := by
  have h2 : ∀ c, c < 318 → SH c = .inr 0 → SH (c + 3) = .inl (.int, 8) := by decide +kernel
  exact h2 c (sh_o h) h
theorem kr0_1 {m : MM} {c : Nat} (h : SH c = .inr 0) : SR m c 1 = some (c + 1) := SR_o (k := 1) (o := 1) h rfl (fun q => by rw [q.1, sh2] at h; cases h)
theorem kr0_2 {m : MM} {c : Nat} (h : SH c = .inr 0) : SR m c 2 = some (c + 2) := SR_o (k := 2) (o := 2) h rfl (fun q => by rw [q.1, sh2] at h; cases h)
theorem kr0_3 {m : MM} {c : Nat} (h : SH c = .inr 0) : SR m c 3 = some (c + 3) := SR_o (k := 3) (o := 3) h rfl (fun q => by rw [q.1, sh2] at h; cases h)
theorem kn1_1 {c : Nat} (h : SH c = .inr 1) : SH (c + 1) = .inl (.object "GlassEyes$Court", 30) := by
  have h2 : ∀ c, c < 318 → SH c = .inr 1 → SH (c + 1) = .inl (.object "GlassEyes$Court", 30) := by decide +kernel
  exact h2 c (sh_o h) h
theorem kr1_0 {m : MM} {c : Nat} (h : SH c = .inr 1) : SR m c 0 = some (c + 1) := SR_o (k := 0) (o := 1) h rfl (fun q => by rw [q.1, sh2] at h; cases h)
theorem kn5_1 {c : Nat} (h : SH c = .inr 5) : SH (c + 1) = .inl (.int, 24) := by
  have h2 : ∀ c, c < 318 → SH c = .inr 5 → SH (c + 1) = .inl (.int, 24) := by decide +kernel
  exact h2 c (sh_o h) h
theorem kn5_2 {c : Nat} (h : SH c = .inr 5) : SH (c + 2) = .inl (.int, 24) := by
  have h2 : ∀ c, c < 318 → SH c = .inr 5 → SH (c + 2) = .inl (.int, 24) := by decide +kernel
  exact h2 c (sh_o h) h
theorem kn5_3 {c : Nat} (h : SH c = .inr 5) : SH (c + 3) = .inl (.int, 24) := by
  have h2 : ∀ c, c < 318 → SH c = .inr 5 → SH (c + 3) = .inl (.int, 24) := by decide +kernel
  exact h2 c (sh_o h) h
theorem kn5_4 {c : Nat} (h : SH c = .inr 5) : SH (c + 4) = .inl (.int, 300) := by
  have h2 : ∀ c, c < 318 → SH c = .inr 5 → SH (c + 4) = .inl (.int, 300) := by decide +kernel
  exact h2 c (sh_o h) h
theorem kr5_1 {m : MM} {c : Nat} (h : SH c = .inr 5) : SR m c 1 = some (c + 1) := SR_o (k := 1) (o := 1) h rfl (fun q => by rw [q.1, sh2] at h; cases h)
theorem kr5_2 {m : MM} {c : Nat} (h : SH c = .inr 5) : SR m c 2 = some (c + 2) := SR_o (k := 2) (o := 2) h rfl (fun q => by rw [q.1, sh2] at h; cases h)
theorem kr5_3 {m : MM} {c : Nat} (h : SH c = .inr 5) : SR m c 3 = some (c + 3) := SR_o (k := 3) (o := 3) h rfl (fun q => by rw [q.1, sh2] at h; cases h)
theorem kr5_4 {m : MM} {c : Nat} (h : SH c = .inr 5) : SR m c 4 = some (c + 4) := SR_o (k := 4) (o := 4) h rfl (fun q => by rw [q.1, sh2] at h; cases h)
theorem kn6_1 {c : Nat} (h : SH c = .inr 6) : SH (c + 1) = .inl (.int, 8) := by
  have h2 : ∀ c, c < 318 → SH c = .inr 6 → SH (c + 1) = .inl (.int, 8) := by decide +kernel
  exact h2 c (sh_o h) h
theorem kn6_2 {c : Nat} (h : SH c = .inr 6) : SH (c + 2) = .inl (.int, 8) := by
  have h2 : ∀ c, c < 318 → SH c = .inr 6 → SH (c + 2) = .inl (.int, 8) := by decide +kernel
  exact h2 c (sh_o h) h
theorem kn6_3 {c : Nat} (h : SH c = .inr 6) : SH (c + 3) = .inl (.int, 8) := by
  have h2 : ∀ c, c < 318 → SH c = .inr 6 → SH (c + 3) = .inl (.int, 8) := by decide +kernel
  exact h2 c (sh_o h) h
theorem kn6_4 {c : Nat} (h : SH c = .inr 6) : SH (c + 4) = .inr 0 := by
  have h2 : ∀ c, c < 318 → SH c = .inr 6 → SH (c + 4) = .inr 0 := by decide +kernel
  exact h2 c (sh_o h) h
theorem kn6_8 {c : Nat} (h : SH c = .inr 6) : SH (c + 8) = .inr 1 := by
  have h2 : ∀ c, c < 318 → SH c = .inr 6 → SH (c + 8) = .inr 1 := by decide +kernel
  exact h2 c (sh_o h) h
theorem kr6_1 {m : MM} {c : Nat} (h : SH c = .inr 6) : SR m c 1 = some (c + 1) := SR_o (k := 1) (o := 1) h rfl (fun q => by rw [q.1, sh2] at h; cases h)
theorem kr6_3 {m : MM} {c : Nat} (h : SH c = .inr 6) : SR m c 3 = some (c + 2) := SR_o (k := 3) (o := 2) h rfl (fun q => by rw [q.1, sh2] at h; cases h)
theorem kr6_4 {m : MM} {c : Nat} (h : SH c = .inr 6) : SR m c 4 = some (c + 3) := SR_o (k := 4) (o := 3) h rfl (fun q => by rw [q.1, sh2] at h; cases h)
theorem kr6_9 {m : MM} {c : Nat} (h : SH c = .inr 6) : SR m c 9 = some (c + 4) := SR_o (k := 9) (o := 4) h rfl (fun q => by rw [q.1, sh2] at h; cases h)
theorem kr6_10 {m : MM} {c : Nat} (h : SH c = .inr 6) : SR m c 10 = some (c + 8) := SR_o (k := 10) (o := 8) h rfl (fun q => by rw [q.1, sh2] at h; cases h)
theorem pa_is {c : Nat} (h : SH c = .inr 1) : c = 20 ∨ c = 150 := by
  have h2 : ∀ c, c < 318 → SH c = .inr 1 → c = 20 ∨ c = 150 := by decide +kernel
  exact h2 c (sh_o h) h
theorem pa_r {m : MM} {c : Nat} (h : SH c = .inr 1) (j : Nat) : SR m (c + 1) j = some (c + 2 + 4 * j) := by
  rcases pa_is h with rfl | rfl <;> rfl
theorem pa_c {c j : Nat} (h : SH c = .inr 1) (hj : j < 30) : SH (c + 2 + 4 * j) = .inr 0 := by
  have h2 : ∀ j, j < 30 → SH (20 + 2 + 4 * j) = .inr 0 ∧ SH (150 + 2 + 4 * j) = .inr 0 := by decide +kernel
  rcases pa_is h with rfl | rfl
  · exact (h2 j hj).1
  · exact (h2 j hj).2
def imax (a b : Int) : Int := if a < b then b else a
def imin (a b : Int) : Int := if b < a then b else a
section GeMath
variable {G : GG} {fr lo bc bs : Nat} {mi : MI} {pc : Nat} {lv : List (Option PV)} {st : List PV} {K : Nat} {M : Mem} {Z : ZZ}
theorem v_mmax {i : Nat} {a b : Int} (hd : decode mi.2.1 pc = .ok (.invokestatic i, 3)) (hl : Cond.methodLink mi.1.cls i Lib.Math.max.name ∈ gtb) (ha : rng a) (hb : rng b) (hfr : 1 ≤ fr) (h8 : (st.map pcat).sum ≤ 8) (hlo : 21 ≤ lo) (k : V G fr lo bc bs mi (pc + 3) lv (vi (imax a b) :: st) K M Z) : V G fr lo bc bs mi pc lv (vi b :: vi a :: st) K M Z := by
  intro p e s m args below meth c mc ms H locs ls cells slots C hR hS hL hE h1 h2
  have hts := C.2.2.2.2.2.1
  have h9 := lsum (G := G) h8
  have h := k p e s m args below meth c mc ms H locs ls cells slots C hR hS hL hE h1 h2
  have e1 : i32 (imax a b) = if i32 a < i32 b then i32 b else i32 a := by
    unfold imax
    by_cases q : a < b
    · rw [if_pos q, if_pos ((i32_lt ha hb).mpr q)]
    · rw [if_neg q, if_neg (fun z => q ((i32_lt ha hb).mp z))]
  rw [List.map_cons, show tv G (vi (imax a b)) = .int (i32 (imax a b)) from rfl, e1] at h
  exact va_mmax C.1 C.2.1 (C.2.2.2.1.trans hL.1.symm) C.2.2.2.2.1 (hts _ hl) (hts _ mm_max.1) (hts _ mm_max.2.1) (hts _ mm_max.2.2) hfr (by show _ + 13 ≤ lo; omega) (by show cells ≤ mc; omega) (by show slots ≤ ms; omega) hd h
theorem v_mmin {i : Nat} {a b : Int} (hd : decode mi.2.1 pc = .ok (.invokestatic i, 3)) (hl : Cond.methodLink mi.1.cls i Lib.Math.min.name ∈ gtb) (ha : rng a) (hb : rng b) (hfr : 1 ≤ fr) (h8 : (st.map pcat).sum ≤ 8) (hlo : 21 ≤ lo) (k : V G fr lo bc bs mi (pc + 3) lv (vi (imin a b) :: st) K M Z) : V G fr lo bc bs mi pc lv (vi b :: vi a :: st) K M Z := by
  intro p e s m args below meth c mc ms H locs ls cells slots C hR hS hL hE h1 h2
  have hts := C.2.2.2.2.2.1
  have h9 := lsum (G := G) h8
  have h := k p e s m args below meth c mc ms H locs ls cells slots C hR hS hL hE h1 h2
  have e1 : i32 (imin a b) = if i32 b < i32 a then i32 b else i32 a := by
    unfold imin
    by_cases q : b < a
    · rw [if_pos q, if_pos ((i32_lt hb ha).mpr q)]
    · rw [if_neg q, if_neg (fun z => q ((i32_lt hb ha).mp z))]
  rw [List.map_cons, show tv G (vi (imin a b)) = .int (i32 (imin a b)) from rfl, e1] at h
  exact va_mmin C.1 C.2.1 (C.2.2.2.1.trans hL.1.symm) C.2.2.2.2.1 (hts _ hl) (hts _ mm_min.1) (hts _ mm_min.2.1) (hts _ mm_min.2.2) hfr (by show _ + 13 ≤ lo; omega) (by show cells ≤ mc; omega) (by show slots ≤ ms; omega) hd h
end GeMath
