def wpX9_init_L687 (kA : Nat → ClassId) (Q : GG → Sg → Prop) : Nat → Nat → Int32 → GG → Sg → Nat → Nat → Prop
  | 0, _, _, _, _, _, _ => False
  | n + 1, a0, x3, G, σ, k, j => ((192 ≤ x3 → ∃ (c_345 : Nat) (p_345 : List (Option (Option Nat))) (a_345 : Nat), ga G c_345 = a0 ∧ isO G 9 p_345 c_345 ∧ p_345[73]? = some (some (some a_345)) ∧ ∃ (c_348 N_348 : Nat), ga G c_348 = a_345 ∧ isI G N_348 c_348 ∧ vp_in 0 N_348 ∧ ∀ σ348 : Sg, σ348 = up2 σ c_348 (0 : Int32).toNatClampNeg (-1) → ∃ (c_350 : Nat) (p_350 : List (Option (Option Nat))) (a_350 : Nat), ga G c_350 = a0 ∧ isO G 9 p_350 c_350 ∧ p_350[73]? = some (some (some a_350)) ∧ ∃ (c_353 N_353 : Nat), ga G c_353 = a_350 ∧ isI G N_353 c_353 ∧ vp_in 1 N_353 ∧ ∀ σ353 : Sg, σ353 = up2 σ348 c_353 (1 : Int32).toNatClampNeg (-1) → (k ≤ 72 ∧ j ≤ 459009 ∧ ∃ c_355 : Nat, c_355 = 0 ∧ ga G c_355 = a0 ∧ isModel G ∧ wpX9_makeBox σ353 (fun σ355 => (k ≤ 72 ∧ j ≤ 459009 ∧ Q G σ355)))) ∧ (¬ (192 ≤ x3) → ∃ (c_358 : Nat) (p_358 : List (Option (Option Nat))) (a_358 : Nat), ga G c_358 = a0 ∧ isO G 9 p_358 c_358 ∧ p_358[53]? = some (some (some a_358)) ∧ ∃ (c_361 N_361 : Nat), ga G c_361 = a_358 ∧ isI G N_361 c_361 ∧ vp_in x3 N_361 ∧ ∀ σ361 : Sg, σ361 = up2 σ c_361 (x3 : Int32).toNatClampNeg (-1) → ∀ x3_362 : Int32, x3_362 = x3 + 1 → (wpX9_init_L687 kA Q n) a0 x3_362 G σ361 k j))
def wpX9_init_L652 (kA : Nat → ClassId) (Q : GG → Sg → Prop) : Nat → Nat → Int32 → GG → Sg → Nat → Nat → Prop
  | 0, _, _, _, _, _, _ => False
  | n + 1, a0, x3, G, σ, k, j => ((6 ≤ x3 → ∃ nn, wpX9_init_L687 kA Q nn a0 0 G σ k j) ∧ (¬ (6 ≤ x3) → ∃ (c_325 : Nat) (p_325 : List (Option (Option Nat))) (a_325 : Nat), ga G c_325 = a0 ∧ isO G 9 p_325 c_325 ∧ p_325[58]? = some (some (some a_325)) ∧ ∃ (c_328 N_328 : Nat), ga G c_328 = a_325 ∧ isI G N_328 c_328 ∧ vp_in x3 N_328 ∧ ∀ σ328 : Sg, σ328 = up2 σ c_328 (x3 : Int32).toNatClampNeg (-1) → ∃ (c_330 : Nat) (p_330 : List (Option (Option Nat))) (a_330 : Nat), ga G c_330 = a0 ∧ isO G 9 p_330 c_330 ∧ p_330[48]? = some (some (some a_330)) ∧ ∃ (c_333 N_333 : Nat), ga G c_333 = a_330 ∧ isI G N_333 c_333 ∧ vp_in x3 N_333 ∧ ∀ σ333 : Sg, σ333 = up2 σ328 c_333 (x3 : Int32).toNatClampNeg (-1) → ∃ (c_335 : Nat) (p_335 : List (Option (Option Nat))) (a_335 : Nat), ga G c_335 = a0 ∧ isO G 9 p_335 c_335 ∧ p_335[15]? = some (some (some a_335)) ∧ ∃ (c_338 N_338 : Nat), ga G c_338 = a_335 ∧ isI G N_338 c_338 ∧ vp_in x3 N_338 ∧ ∀ σ338 : Sg, σ338 = up2 σ333 c_338 (x3 : Int32).toNatClampNeg (-1) → ∀ x3_339 : Int32, x3_339 = x3 + 1 → (wpX9_init_L652 kA Q n) a0 x3_339 G σ338 k j))
def wpX9_init_L631 (kA : Nat → ClassId) (Q : GG → Sg → Prop) : Nat → Nat → Int32 → GG → Sg → Nat → Nat → Prop
  | 0, _, _, _, _, _, _ => False
  | n + 1, a0, x3, G, σ, k, j => ((3 ≤ x3 → ∃ nn, wpX9_init_L652 kA Q nn a0 0 G σ k j) ∧ (¬ (3 ≤ x3) → ∃ (c_313 : Nat) (p_313 : List (Option (Option Nat))) (a_313 : Nat), ga G c_313 = a0 ∧ isO G 9 p_313 c_313 ∧ p_313[23]? = some (some (some a_313)) ∧ ∃ (c_316 N_316 : Nat), ga G c_316 = a_313 ∧ isI G N_316 c_316 ∧ vp_in x3 N_316 ∧ ∀ σ316 : Sg, σ316 = up2 σ c_316 (x3 : Int32).toNatClampNeg 16 → ∀ x3_317 : Int32, x3_317 = x3 + 1 → (wpX9_init_L631 kA Q n) a0 x3_317 G σ316 k j))
def wpX9_init_L621 (kA : Nat → ClassId) (Q : GG → Sg → Prop) (a0 : Nat) (x2 : Int32) (z0 : Int32) (b1 : Nat) (G : GG) (σ : Sg) (k j : Nat) : Prop := ∃ (c_301 : Nat) (p_301 : List (Option (Option Nat))), ga G c_301 = b1 ∧ isO G 9 p_301 c_301 ∧ p_301[0]? = some none ∧ ∀ σ301 : Sg, σ301 = up2 σ c_301 0 z0 → ∃ (c_304 : Nat) (p_304 : List (Option (Option Nat))), ga G c_304 = a0 ∧ isO G 9 p_304 c_304 ∧ p_304[1]? = some none ∧ ∀ σ304 : Sg, σ304 = up2 σ301 c_304 1 x2 → ∃ nn, wpX9_init_L631 kA Q nn a0 0 G σ304 k j
def wpX9_init_L616 (kA : Nat → ClassId) (Q : GG → Sg → Prop) (a0 : Nat) (x2 : Int32) (b0 : Nat) (G : GG) (σ : Sg) (k j : Nat) : Prop := wpX9_init_L621 kA Q a0 x2 2 b0 G σ k j
def wpX9_init_L605 (kA : Nat → ClassId) (Q : GG → Sg → Prop) (a0 : Nat) (x1 : Int32) (x2 : Int32) (G : GG) (σ : Sg) (k j : Nat) : Prop := ((x1 < 1 → wpX9_init_L616 kA Q a0 x2 a0 G σ k j) ∧ (¬ (x1 < 1) → ((x1 ≤ 3 → wpX9_init_L621 kA Q a0 x2 x1 a0 G σ k j) ∧ (¬ (x1 ≤ 3) → wpX9_init_L616 kA Q a0 x2 a0 G σ k j))))
def wpX9_init_L553 (kA : Nat → ClassId) (Q : GG → Sg → Prop) (a0 : Nat) (x1 : Int32) (x2 : Int32) (G : GG) (σ : Sg) (k j : Nat) : Prop := (k + 1 ≤ 72 ∧ j + 256 ≤ 459009 ∧ ∀ (a_269 : Nat) (G269 : GG) (σ269 : Sg), G269 = gext G a_269 (.inl (kA 0, 256)) → σ269 = va_up σ (gn G) (fun _ => 0) → ∃ (c_270 : Nat) (p_270 : List (Option (Option Nat))), ga G269 c_270 = a0 ∧ isO G269 9 p_270 c_270 ∧ 76 < p_270.length ∧ ∀ G270 : GG, G270 = gsh G269 c_270 (.inr (.inr (9, p_270.set 76 (some (some a_269))))) → (k + 1 + 1 ≤ 72 ∧ j + 256 + 176 ≤ 459009 ∧ ∀ (a_273 : Nat) (G273 : GG) (σ273 : Sg), G273 = gext G270 a_273 (.inl (kA 0, 176)) → σ273 = va_up σ269 (gn G270) (fun _ => 0) → ∃ (c_274 : Nat) (p_274 : List (Option (Option Nat))), ga G273 c_274 = a0 ∧ isO G273 9 p_274 c_274 ∧ 77 < p_274.length ∧ ∀ G274 : GG, G274 = gsh G273 c_274 (.inr (.inr (9, p_274.set 77 (some (some a_273))))) → (k + 1 + 1 + 1 ≤ 72 ∧ j + 256 + 176 + 16 ≤ 459009 ∧ ∀ (a_277 : Nat) (G277 : GG) (σ277 : Sg), G277 = gext G274 a_277 (.inl (kA 0, 16)) → σ277 = va_up σ273 (gn G274) (fun _ => 0) → ∃ (c_278 : Nat) (p_278 : List (Option (Option Nat))), ga G277 c_278 = a0 ∧ isO G277 9 p_278 c_278 ∧ 78 < p_278.length ∧ ∀ G278 : GG, G278 = gsh G277 c_278 (.inr (.inr (9, p_278.set 78 (some (some a_277))))) → (k + 1 + 1 + 1 + 1 ≤ 72 ∧ j + 256 + 176 + 16 + 16 ≤ 459009 ∧ ∀ (a_281 : Nat) (G281 : GG) (σ281 : Sg), G281 = gext G278 a_281 (.inl (kA 0, 16)) → σ281 = va_up σ277 (gn G278) (fun _ => 0) → ∃ (c_282 : Nat) (p_282 : List (Option (Option Nat))), ga G281 c_282 = a0 ∧ isO G281 9 p_282 c_282 ∧ 79 < p_282.length ∧ ∀ G282 : GG, G282 = gsh G281 c_282 (.inr (.inr (9, p_282.set 79 (some (some a_281))))) → (k + 1 + 1 + 1 + 1 + 1 ≤ 72 ∧ j + 256 + 176 + 16 + 16 + 128 ≤ 459009 ∧ ∀ (a_285 : Nat) (G285 : GG) (σ285 : Sg), G285 = gext G282 a_285 (.inl (kA 0, 128)) → σ285 = va_up σ281 (gn G282) (fun _ => 0) → ∃ (c_286 : Nat) (p_286 : List (Option (Option Nat))), ga G285 c_286 = a0 ∧ isO G285 9 p_286 c_286 ∧ 80 < p_286.length ∧ ∀ G286 : GG, G286 = gsh G285 c_286 (.inr (.inr (9, p_286.set 80 (some (some a_285))))) → (k + 1 + 1 + 1 + 1 + 1 + 1 ≤ 72 ∧ j + 256 + 176 + 16 + 16 + 128 + 250 ≤ 459009 ∧ ∀ (a_289 : Nat) (G289 : GG) (σ289 : Sg), G289 = gext G286 a_289 (.inl (kA 0, 250)) → σ289 = va_up σ285 (gn G286) (fun _ => 0) → ∃ (c_290 : Nat) (p_290 : List (Option (Option Nat))), ga G289 c_290 = a0 ∧ isO G289 9 p_290 c_290 ∧ 81 < p_290.length ∧ ∀ G290 : GG, G290 = gsh G289 c_290 (.inr (.inr (9, p_290.set 81 (some (some a_289))))) → wpX9_init_L605 kA Q a0 x1 x2 G290 σ289 (k + 1 + 1 + 1 + 1 + 1 + 1) (j + 256 + 176 + 16 + 16 + 128 + 250)))))))
def wpX9_init_L503 (kA : Nat → ClassId) (Q : GG → Sg → Prop) (a0 : Nat) (x1 : Int32) (x2 : Int32) (G : GG) (σ : Sg) (k j : Nat) : Prop := (k + 1 ≤ 72 ∧ j + 8 ≤ 459009 ∧ ∀ (a_245 : Nat) (G245 : GG) (σ245 : Sg), G245 = gext G a_245 (.inl (kA 0, 8)) → σ245 = va_up σ (gn G) (fun _ => 0) → ∃ (c_246 : Nat) (p_246 : List (Option (Option Nat))), ga G245 c_246 = a0 ∧ isO G245 9 p_246 c_246 ∧ 70 < p_246.length ∧ ∀ G246 : GG, G246 = gsh G245 c_246 (.inr (.inr (9, p_246.set 70 (some (some a_245))))) → (k + 1 + 1 ≤ 72 ∧ j + 8 + 2000 ≤ 459009 ∧ ∀ (a_249 : Nat) (G249 : GG) (σ249 : Sg), G249 = gext G246 a_249 (.inl (kA 0, 2000)) → σ249 = va_up σ245 (gn G246) (fun _ => 0) → ∃ (c_250 : Nat) (p_250 : List (Option (Option Nat))), ga G249 c_250 = a0 ∧ isO G249 9 p_250 c_250 ∧ 71 < p_250.length ∧ ∀ G250 : GG, G250 = gsh G249 c_250 (.inr (.inr (9, p_250.set 71 (some (some a_249))))) → (k + 1 + 1 + 1 ≤ 72 ∧ j + 8 + 2000 + 8 ≤ 459009 ∧ ∀ (a_253 : Nat) (G253 : GG) (σ253 : Sg), G253 = gext G250 a_253 (.inl (kA 1, 8)) → σ253 = va_up σ249 (gn G250) (fun _ => 0) → ∃ (c_254 : Nat) (p_254 : List (Option (Option Nat))), ga G253 c_254 = a0 ∧ isO G253 9 p_254 c_254 ∧ 72 < p_254.length ∧ ∀ G254 : GG, G254 = gsh G253 c_254 (.inr (.inr (9, p_254.set 72 (some (some a_253))))) → (k + 1 + 1 + 1 + 1 ≤ 72 ∧ j + 8 + 2000 + 8 + 2 ≤ 459009 ∧ ∀ (a_257 : Nat) (G257 : GG) (σ257 : Sg), G257 = gext G254 a_257 (.inl (kA 0, 2)) → σ257 = va_up σ253 (gn G254) (fun _ => 0) → ∃ (c_258 : Nat) (p_258 : List (Option (Option Nat))), ga G257 c_258 = a0 ∧ isO G257 9 p_258 c_258 ∧ 73 < p_258.length ∧ ∀ G258 : GG, G258 = gsh G257 c_258 (.inr (.inr (9, p_258.set 73 (some (some a_257))))) → (k + 1 + 1 + 1 + 1 + 1 ≤ 72 ∧ j + 8 + 2000 + 8 + 2 + 500 ≤ 459009 ∧ ∀ (a_261 : Nat) (G261 : GG) (σ261 : Sg), G261 = gext G258 a_261 (.inl (kA 0, 500)) → σ261 = va_up σ257 (gn G258) (fun _ => 0) → ∃ (c_262 : Nat) (p_262 : List (Option (Option Nat))), ga G261 c_262 = a0 ∧ isO G261 9 p_262 c_262 ∧ 74 < p_262.length ∧ ∀ G262 : GG, G262 = gsh G261 c_262 (.inr (.inr (9, p_262.set 74 (some (some a_261))))) → (k + 1 + 1 + 1 + 1 + 1 + 1 ≤ 72 ∧ j + 8 + 2000 + 8 + 2 + 500 + 250 ≤ 459009 ∧ ∀ (a_265 : Nat) (G265 : GG) (σ265 : Sg), G265 = gext G262 a_265 (.inl (kA 0, 250)) → σ265 = va_up σ261 (gn G262) (fun _ => 0) → ∃ (c_266 : Nat) (p_266 : List (Option (Option Nat))), ga G265 c_266 = a0 ∧ isO G265 9 p_266 c_266 ∧ 75 < p_266.length ∧ ∀ G266 : GG, G266 = gsh G265 c_266 (.inr (.inr (9, p_266.set 75 (some (some a_265))))) → wpX9_init_L553 kA Q a0 x1 x2 G266 σ265 (k + 1 + 1 + 1 + 1 + 1 + 1) (j + 8 + 2000 + 8 + 2 + 500 + 250)))))))
def wpX9_init_L451 (kA : Nat → ClassId) (Q : GG → Sg → Prop) (a0 : Nat) (x1 : Int32) (x2 : Int32) (G : GG) (σ : Sg) (k j : Nat) : Prop := (k + 1 ≤ 72 ∧ j + 6 ≤ 459009 ∧ ∀ (a_221 : Nat) (G221 : GG) (σ221 : Sg), G221 = gext G a_221 (.inl (kA 0, 6)) → σ221 = va_up σ (gn G) (fun _ => 0) → ∃ (c_222 : Nat) (p_222 : List (Option (Option Nat))), ga G221 c_222 = a0 ∧ isO G221 9 p_222 c_222 ∧ 64 < p_222.length ∧ ∀ G222 : GG, G222 = gsh G221 c_222 (.inr (.inr (9, p_222.set 64 (some (some a_221))))) → (k + 1 + 1 ≤ 72 ∧ j + 6 + 192 ≤ 459009 ∧ ∀ (a_225 : Nat) (G225 : GG) (σ225 : Sg), G225 = gext G222 a_225 (.inl (kA 0, 192)) → σ225 = va_up σ221 (gn G222) (fun _ => 0) → ∃ (c_226 : Nat) (p_226 : List (Option (Option Nat))), ga G225 c_226 = a0 ∧ isO G225 9 p_226 c_226 ∧ 65 < p_226.length ∧ ∀ G226 : GG, G226 = gsh G225 c_226 (.inr (.inr (9, p_226.set 65 (some (some a_225))))) → (k + 1 + 1 + 1 ≤ 72 ∧ j + 6 + 192 + 23040 ≤ 459009 ∧ ∀ (a_229 : Nat) (G229 : GG) (σ229 : Sg), G229 = gext G226 a_229 (.inl (kA 0, 23040)) → σ229 = va_up σ225 (gn G226) (fun _ => 0) → ∃ (c_230 : Nat) (p_230 : List (Option (Option Nat))), ga G229 c_230 = a0 ∧ isO G229 9 p_230 c_230 ∧ 66 < p_230.length ∧ ∀ G230 : GG, G230 = gsh G229 c_230 (.inr (.inr (9, p_230.set 66 (some (some a_229))))) → (k + 1 + 1 + 1 + 1 ≤ 72 ∧ j + 6 + 192 + 23040 + 720 ≤ 459009 ∧ ∀ (a_233 : Nat) (G233 : GG) (σ233 : Sg), G233 = gext G230 a_233 (.inl (kA 0, 720)) → σ233 = va_up σ229 (gn G230) (fun _ => 0) → ∃ (c_234 : Nat) (p_234 : List (Option (Option Nat))), ga G233 c_234 = a0 ∧ isO G233 9 p_234 c_234 ∧ 67 < p_234.length ∧ ∀ G234 : GG, G234 = gsh G233 c_234 (.inr (.inr (9, p_234.set 67 (some (some a_233))))) → (k + 1 + 1 + 1 + 1 + 1 ≤ 72 ∧ j + 6 + 192 + 23040 + 720 + 192 ≤ 459009 ∧ ∀ (a_237 : Nat) (G237 : GG) (σ237 : Sg), G237 = gext G234 a_237 (.inl (kA 1, 192)) → σ237 = va_up σ233 (gn G234) (fun _ => 0) → ∃ (c_238 : Nat) (p_238 : List (Option (Option Nat))), ga G237 c_238 = a0 ∧ isO G237 9 p_238 c_238 ∧ 68 < p_238.length ∧ ∀ G238 : GG, G238 = gsh G237 c_238 (.inr (.inr (9, p_238.set 68 (some (some a_237))))) → (k + 1 + 1 + 1 + 1 + 1 + 1 ≤ 72 ∧ j + 6 + 192 + 23040 + 720 + 192 + 8 ≤ 459009 ∧ ∀ (a_241 : Nat) (G241 : GG) (σ241 : Sg), G241 = gext G238 a_241 (.inl (kA 0, 8)) → σ241 = va_up σ237 (gn G238) (fun _ => 0) → ∃ (c_242 : Nat) (p_242 : List (Option (Option Nat))), ga G241 c_242 = a0 ∧ isO G241 9 p_242 c_242 ∧ 69 < p_242.length ∧ ∀ G242 : GG, G242 = gsh G241 c_242 (.inr (.inr (9, p_242.set 69 (some (some a_241))))) → wpX9_init_L503 kA Q a0 x1 x2 G242 σ241 (k + 1 + 1 + 1 + 1 + 1 + 1) (j + 6 + 192 + 23040 + 720 + 192 + 8)))))))
def wpX9_init_L402 (kA : Nat → ClassId) (Q : GG → Sg → Prop) (a0 : Nat) (x1 : Int32) (x2 : Int32) (G : GG) (σ : Sg) (k j : Nat) : Prop := (k + 1 ≤ 72 ∧ j + 6 ≤ 459009 ∧ ∀ (a_197 : Nat) (G197 : GG) (σ197 : Sg), G197 = gext G a_197 (.inl (kA 0, 6)) → σ197 = va_up σ (gn G) (fun _ => 0) → ∃ (c_198 : Nat) (p_198 : List (Option (Option Nat))), ga G197 c_198 = a0 ∧ isO G197 9 p_198 c_198 ∧ 58 < p_198.length ∧ ∀ G198 : GG, G198 = gsh G197 c_198 (.inr (.inr (9, p_198.set 58 (some (some a_197))))) → (k + 1 + 1 ≤ 72 ∧ j + 6 + 1536 ≤ 459009 ∧ ∀ (a_201 : Nat) (G201 : GG) (σ201 : Sg), G201 = gext G198 a_201 (.inl (kA 0, 1536)) → σ201 = va_up σ197 (gn G198) (fun _ => 0) → ∃ (c_202 : Nat) (p_202 : List (Option (Option Nat))), ga G201 c_202 = a0 ∧ isO G201 9 p_202 c_202 ∧ 59 < p_202.length ∧ ∀ G202 : GG, G202 = gsh G201 c_202 (.inr (.inr (9, p_202.set 59 (some (some a_201))))) → (k + 1 + 1 + 1 ≤ 72 ∧ j + 6 + 1536 + 6 ≤ 459009 ∧ ∀ (a_205 : Nat) (G205 : GG) (σ205 : Sg), G205 = gext G202 a_205 (.inl (kA 0, 6)) → σ205 = va_up σ201 (gn G202) (fun _ => 0) → ∃ (c_206 : Nat) (p_206 : List (Option (Option Nat))), ga G205 c_206 = a0 ∧ isO G205 9 p_206 c_206 ∧ 60 < p_206.length ∧ ∀ G206 : GG, G206 = gsh G205 c_206 (.inr (.inr (9, p_206.set 60 (some (some a_205))))) → (k + 1 + 1 + 1 + 1 ≤ 72 ∧ j + 6 + 1536 + 6 + 6 ≤ 459009 ∧ ∀ (a_209 : Nat) (G209 : GG) (σ209 : Sg), G209 = gext G206 a_209 (.inl (kA 0, 6)) → σ209 = va_up σ205 (gn G206) (fun _ => 0) → ∃ (c_210 : Nat) (p_210 : List (Option (Option Nat))), ga G209 c_210 = a0 ∧ isO G209 9 p_210 c_210 ∧ 61 < p_210.length ∧ ∀ G210 : GG, G210 = gsh G209 c_210 (.inr (.inr (9, p_210.set 61 (some (some a_209))))) → (k + 1 + 1 + 1 + 1 + 1 ≤ 72 ∧ j + 6 + 1536 + 6 + 6 + 6 ≤ 459009 ∧ ∀ (a_213 : Nat) (G213 : GG) (σ213 : Sg), G213 = gext G210 a_213 (.inl (kA 0, 6)) → σ213 = va_up σ209 (gn G210) (fun _ => 0) → ∃ (c_214 : Nat) (p_214 : List (Option (Option Nat))), ga G213 c_214 = a0 ∧ isO G213 9 p_214 c_214 ∧ 62 < p_214.length ∧ ∀ G214 : GG, G214 = gsh G213 c_214 (.inr (.inr (9, p_214.set 62 (some (some a_213))))) → (k + 1 + 1 + 1 + 1 + 1 + 1 ≤ 72 ∧ j + 6 + 1536 + 6 + 6 + 6 + 6 ≤ 459009 ∧ ∀ (a_217 : Nat) (G217 : GG) (σ217 : Sg), G217 = gext G214 a_217 (.inl (kA 0, 6)) → σ217 = va_up σ213 (gn G214) (fun _ => 0) → ∃ (c_218 : Nat) (p_218 : List (Option (Option Nat))), ga G217 c_218 = a0 ∧ isO G217 9 p_218 c_218 ∧ 63 < p_218.length ∧ ∀ G218 : GG, G218 = gsh G217 c_218 (.inr (.inr (9, p_218.set 63 (some (some a_217))))) → wpX9_init_L451 kA Q a0 x1 x2 G218 σ217 (k + 1 + 1 + 1 + 1 + 1 + 1) (j + 6 + 1536 + 6 + 6 + 6 + 6)))))))
def wpX9_init_L353 (kA : Nat → ClassId) (Q : GG → Sg → Prop) (a0 : Nat) (x1 : Int32) (x2 : Int32) (G : GG) (σ : Sg) (k j : Nat) : Prop := (k + 1 ≤ 72 ∧ j + 6 ≤ 459009 ∧ ∀ (a_173 : Nat) (G173 : GG) (σ173 : Sg), G173 = gext G a_173 (.inl (kA 1, 6)) → σ173 = va_up σ (gn G) (fun _ => 0) → ∃ (c_174 : Nat) (p_174 : List (Option (Option Nat))), ga G173 c_174 = a0 ∧ isO G173 9 p_174 c_174 ∧ 52 < p_174.length ∧ ∀ G174 : GG, G174 = gsh G173 c_174 (.inr (.inr (9, p_174.set 52 (some (some a_173))))) → (k + 1 + 1 ≤ 72 ∧ j + 6 + 192 ≤ 459009 ∧ ∀ (a_177 : Nat) (G177 : GG) (σ177 : Sg), G177 = gext G174 a_177 (.inl (kA 0, 192)) → σ177 = va_up σ173 (gn G174) (fun _ => 0) → ∃ (c_178 : Nat) (p_178 : List (Option (Option Nat))), ga G177 c_178 = a0 ∧ isO G177 9 p_178 c_178 ∧ 53 < p_178.length ∧ ∀ G178 : GG, G178 = gsh G177 c_178 (.inr (.inr (9, p_178.set 53 (some (some a_177))))) → (k + 1 + 1 + 1 ≤ 72 ∧ j + 6 + 192 + 46080 ≤ 459009 ∧ ∀ (a_181 : Nat) (G181 : GG) (σ181 : Sg), G181 = gext G178 a_181 (.inl (kA 0, 46080)) → σ181 = va_up σ177 (gn G178) (fun _ => 0) → ∃ (c_182 : Nat) (p_182 : List (Option (Option Nat))), ga G181 c_182 = a0 ∧ isO G181 9 p_182 c_182 ∧ 54 < p_182.length ∧ ∀ G182 : GG, G182 = gsh G181 c_182 (.inr (.inr (9, p_182.set 54 (some (some a_181))))) → (k + 1 + 1 + 1 + 1 ≤ 72 ∧ j + 6 + 192 + 46080 + 46080 ≤ 459009 ∧ ∀ (a_185 : Nat) (G185 : GG) (σ185 : Sg), G185 = gext G182 a_185 (.inl (kA 1, 46080)) → σ185 = va_up σ181 (gn G182) (fun _ => 0) → ∃ (c_186 : Nat) (p_186 : List (Option (Option Nat))), ga G185 c_186 = a0 ∧ isO G185 9 p_186 c_186 ∧ 55 < p_186.length ∧ ∀ G186 : GG, G186 = gsh G185 c_186 (.inr (.inr (9, p_186.set 55 (some (some a_185))))) → (k + 1 + 1 + 1 + 1 + 1 ≤ 72 ∧ j + 6 + 192 + 46080 + 46080 + 46080 ≤ 459009 ∧ ∀ (a_189 : Nat) (G189 : GG) (σ189 : Sg), G189 = gext G186 a_189 (.inl (kA 1, 46080)) → σ189 = va_up σ185 (gn G186) (fun _ => 0) → ∃ (c_190 : Nat) (p_190 : List (Option (Option Nat))), ga G189 c_190 = a0 ∧ isO G189 9 p_190 c_190 ∧ 56 < p_190.length ∧ ∀ G190 : GG, G190 = gsh G189 c_190 (.inr (.inr (9, p_190.set 56 (some (some a_189))))) → (k + 1 + 1 + 1 + 1 + 1 + 1 ≤ 72 ∧ j + 6 + 192 + 46080 + 46080 + 46080 + 46080 ≤ 459009 ∧ ∀ (a_193 : Nat) (G193 : GG) (σ193 : Sg), G193 = gext G190 a_193 (.inl (kA 1, 46080)) → σ193 = va_up σ189 (gn G190) (fun _ => 0) → ∃ (c_194 : Nat) (p_194 : List (Option (Option Nat))), ga G193 c_194 = a0 ∧ isO G193 9 p_194 c_194 ∧ 57 < p_194.length ∧ ∀ G194 : GG, G194 = gsh G193 c_194 (.inr (.inr (9, p_194.set 57 (some (some a_193))))) → wpX9_init_L402 kA Q a0 x1 x2 G194 σ193 (k + 1 + 1 + 1 + 1 + 1 + 1) (j + 6 + 192 + 46080 + 46080 + 46080 + 46080)))))))
def wpX9_init_L305 (kA : Nat → ClassId) (Q : GG → Sg → Prop) (a0 : Nat) (x1 : Int32) (x2 : Int32) (G : GG) (σ : Sg) (k j : Nat) : Prop := (k + 1 ≤ 72 ∧ j + 6 ≤ 459009 ∧ ∀ (a_149 : Nat) (G149 : GG) (σ149 : Sg), G149 = gext G a_149 (.inl (kA 0, 6)) → σ149 = va_up σ (gn G) (fun _ => 0) → ∃ (c_150 : Nat) (p_150 : List (Option (Option Nat))), ga G149 c_150 = a0 ∧ isO G149 9 p_150 c_150 ∧ 46 < p_150.length ∧ ∀ G150 : GG, G150 = gsh G149 c_150 (.inr (.inr (9, p_150.set 46 (some (some a_149))))) → (k + 1 + 1 ≤ 72 ∧ j + 6 + 6 ≤ 459009 ∧ ∀ (a_153 : Nat) (G153 : GG) (σ153 : Sg), G153 = gext G150 a_153 (.inl (kA 0, 6)) → σ153 = va_up σ149 (gn G150) (fun _ => 0) → ∃ (c_154 : Nat) (p_154 : List (Option (Option Nat))), ga G153 c_154 = a0 ∧ isO G153 9 p_154 c_154 ∧ 47 < p_154.length ∧ ∀ G154 : GG, G154 = gsh G153 c_154 (.inr (.inr (9, p_154.set 47 (some (some a_153))))) → (k + 1 + 1 + 1 ≤ 72 ∧ j + 6 + 6 + 6 ≤ 459009 ∧ ∀ (a_157 : Nat) (G157 : GG) (σ157 : Sg), G157 = gext G154 a_157 (.inl (kA 0, 6)) → σ157 = va_up σ153 (gn G154) (fun _ => 0) → ∃ (c_158 : Nat) (p_158 : List (Option (Option Nat))), ga G157 c_158 = a0 ∧ isO G157 9 p_158 c_158 ∧ 48 < p_158.length ∧ ∀ G158 : GG, G158 = gsh G157 c_158 (.inr (.inr (9, p_158.set 48 (some (some a_157))))) → (k + 1 + 1 + 1 + 1 ≤ 72 ∧ j + 6 + 6 + 6 + 6 ≤ 459009 ∧ ∀ (a_161 : Nat) (G161 : GG) (σ161 : Sg), G161 = gext G158 a_161 (.inl (kA 0, 6)) → σ161 = va_up σ157 (gn G158) (fun _ => 0) → ∃ (c_162 : Nat) (p_162 : List (Option (Option Nat))), ga G161 c_162 = a0 ∧ isO G161 9 p_162 c_162 ∧ 49 < p_162.length ∧ ∀ G162 : GG, G162 = gsh G161 c_162 (.inr (.inr (9, p_162.set 49 (some (some a_161))))) → (k + 1 + 1 + 1 + 1 + 1 ≤ 72 ∧ j + 6 + 6 + 6 + 6 + 6 ≤ 459009 ∧ ∀ (a_165 : Nat) (G165 : GG) (σ165 : Sg), G165 = gext G162 a_165 (.inl (kA 0, 6)) → σ165 = va_up σ161 (gn G162) (fun _ => 0) → ∃ (c_166 : Nat) (p_166 : List (Option (Option Nat))), ga G165 c_166 = a0 ∧ isO G165 9 p_166 c_166 ∧ 50 < p_166.length ∧ ∀ G166 : GG, G166 = gsh G165 c_166 (.inr (.inr (9, p_166.set 50 (some (some a_165))))) → (k + 1 + 1 + 1 + 1 + 1 + 1 ≤ 72 ∧ j + 6 + 6 + 6 + 6 + 6 + 6 ≤ 459009 ∧ ∀ (a_169 : Nat) (G169 : GG) (σ169 : Sg), G169 = gext G166 a_169 (.inl (kA 0, 6)) → σ169 = va_up σ165 (gn G166) (fun _ => 0) → ∃ (c_170 : Nat) (p_170 : List (Option (Option Nat))), ga G169 c_170 = a0 ∧ isO G169 9 p_170 c_170 ∧ 51 < p_170.length ∧ ∀ G170 : GG, G170 = gsh G169 c_170 (.inr (.inr (9, p_170.set 51 (some (some a_169))))) → wpX9_init_L353 kA Q a0 x1 x2 G170 σ169 (k + 1 + 1 + 1 + 1 + 1 + 1) (j + 6 + 6 + 6 + 6 + 6 + 6)))))))
def wpX9_init_L255 (kA : Nat → ClassId) (Q : GG → Sg → Prop) (a0 : Nat) (x1 : Int32) (x2 : Int32) (G : GG) (σ : Sg) (k j : Nat) : Prop := (k + 1 ≤ 72 ∧ j + 23040 ≤ 459009 ∧ ∀ (a_125 : Nat) (G125 : GG) (σ125 : Sg), G125 = gext G a_125 (.inl (kA 1, 23040)) → σ125 = va_up σ (gn G) (fun _ => 0) → ∃ (c_126 : Nat) (p_126 : List (Option (Option Nat))), ga G125 c_126 = a0 ∧ isO G125 9 p_126 c_126 ∧ 40 < p_126.length ∧ ∀ G126 : GG, G126 = gsh G125 c_126 (.inr (.inr (9, p_126.set 40 (some (some a_125))))) → (k + 1 + 1 ≤ 72 ∧ j + 23040 + 23040 ≤ 459009 ∧ ∀ (a_129 : Nat) (G129 : GG) (σ129 : Sg), G129 = gext G126 a_129 (.inl (kA 1, 23040)) → σ129 = va_up σ125 (gn G126) (fun _ => 0) → ∃ (c_130 : Nat) (p_130 : List (Option (Option Nat))), ga G129 c_130 = a0 ∧ isO G129 9 p_130 c_130 ∧ 41 < p_130.length ∧ ∀ G130 : GG, G130 = gsh G129 c_130 (.inr (.inr (9, p_130.set 41 (some (some a_129))))) → (k + 1 + 1 + 1 ≤ 72 ∧ j + 23040 + 23040 + 6 ≤ 459009 ∧ ∀ (a_133 : Nat) (G133 : GG) (σ133 : Sg), G133 = gext G130 a_133 (.inl (kA 0, 6)) → σ133 = va_up σ129 (gn G130) (fun _ => 0) → ∃ (c_134 : Nat) (p_134 : List (Option (Option Nat))), ga G133 c_134 = a0 ∧ isO G133 9 p_134 c_134 ∧ 42 < p_134.length ∧ ∀ G134 : GG, G134 = gsh G133 c_134 (.inr (.inr (9, p_134.set 42 (some (some a_133))))) → (k + 1 + 1 + 1 + 1 ≤ 72 ∧ j + 23040 + 23040 + 6 + 6 ≤ 459009 ∧ ∀ (a_137 : Nat) (G137 : GG) (σ137 : Sg), G137 = gext G134 a_137 (.inl (kA 0, 6)) → σ137 = va_up σ133 (gn G134) (fun _ => 0) → ∃ (c_138 : Nat) (p_138 : List (Option (Option Nat))), ga G137 c_138 = a0 ∧ isO G137 9 p_138 c_138 ∧ 43 < p_138.length ∧ ∀ G138 : GG, G138 = gsh G137 c_138 (.inr (.inr (9, p_138.set 43 (some (some a_137))))) → (k + 1 + 1 + 1 + 1 + 1 ≤ 72 ∧ j + 23040 + 23040 + 6 + 6 + 6 ≤ 459009 ∧ ∀ (a_141 : Nat) (G141 : GG) (σ141 : Sg), G141 = gext G138 a_141 (.inl (kA 0, 6)) → σ141 = va_up σ137 (gn G138) (fun _ => 0) → ∃ (c_142 : Nat) (p_142 : List (Option (Option Nat))), ga G141 c_142 = a0 ∧ isO G141 9 p_142 c_142 ∧ 44 < p_142.length ∧ ∀ G142 : GG, G142 = gsh G141 c_142 (.inr (.inr (9, p_142.set 44 (some (some a_141))))) → (k + 1 + 1 + 1 + 1 + 1 + 1 ≤ 72 ∧ j + 23040 + 23040 + 6 + 6 + 6 + 6 ≤ 459009 ∧ ∀ (a_145 : Nat) (G145 : GG) (σ145 : Sg), G145 = gext G142 a_145 (.inl (kA 0, 6)) → σ145 = va_up σ141 (gn G142) (fun _ => 0) → ∃ (c_146 : Nat) (p_146 : List (Option (Option Nat))), ga G145 c_146 = a0 ∧ isO G145 9 p_146 c_146 ∧ 45 < p_146.length ∧ ∀ G146 : GG, G146 = gsh G145 c_146 (.inr (.inr (9, p_146.set 45 (some (some a_145))))) → wpX9_init_L305 kA Q a0 x1 x2 G146 σ145 (k + 1 + 1 + 1 + 1 + 1 + 1) (j + 23040 + 23040 + 6 + 6 + 6 + 6)))))))
def wpX9_init_L204 (kA : Nat → ClassId) (Q : GG → Sg → Prop) (a0 : Nat) (x1 : Int32) (x2 : Int32) (G : GG) (σ : Sg) (k j : Nat) : Prop := (k + 1 ≤ 72 ∧ j + 96 ≤ 459009 ∧ ∀ (a_101 : Nat) (G101 : GG) (σ101 : Sg), G101 = gext G a_101 (.inl (kA 0, 96)) → σ101 = va_up σ (gn G) (fun _ => 0) → ∃ (c_102 : Nat) (p_102 : List (Option (Option Nat))), ga G101 c_102 = a0 ∧ isO G101 9 p_102 c_102 ∧ 34 < p_102.length ∧ ∀ G102 : GG, G102 = gsh G101 c_102 (.inr (.inr (9, p_102.set 34 (some (some a_101))))) → (k + 1 + 1 ≤ 72 ∧ j + 96 + 96 ≤ 459009 ∧ ∀ (a_105 : Nat) (G105 : GG) (σ105 : Sg), G105 = gext G102 a_105 (.inl (kA 0, 96)) → σ105 = va_up σ101 (gn G102) (fun _ => 0) → ∃ (c_106 : Nat) (p_106 : List (Option (Option Nat))), ga G105 c_106 = a0 ∧ isO G105 9 p_106 c_106 ∧ 35 < p_106.length ∧ ∀ G106 : GG, G106 = gsh G105 c_106 (.inr (.inr (9, p_106.set 35 (some (some a_105))))) → (k + 1 + 1 + 1 ≤ 72 ∧ j + 96 + 96 + 23040 ≤ 459009 ∧ ∀ (a_109 : Nat) (G109 : GG) (σ109 : Sg), G109 = gext G106 a_109 (.inl (kA 0, 23040)) → σ109 = va_up σ105 (gn G106) (fun _ => 0) → ∃ (c_110 : Nat) (p_110 : List (Option (Option Nat))), ga G109 c_110 = a0 ∧ isO G109 9 p_110 c_110 ∧ 36 < p_110.length ∧ ∀ G110 : GG, G110 = gsh G109 c_110 (.inr (.inr (9, p_110.set 36 (some (some a_109))))) → (k + 1 + 1 + 1 + 1 ≤ 72 ∧ j + 96 + 96 + 23040 + 23040 ≤ 459009 ∧ ∀ (a_113 : Nat) (G113 : GG) (σ113 : Sg), G113 = gext G110 a_113 (.inl (kA 0, 23040)) → σ113 = va_up σ109 (gn G110) (fun _ => 0) → ∃ (c_114 : Nat) (p_114 : List (Option (Option Nat))), ga G113 c_114 = a0 ∧ isO G113 9 p_114 c_114 ∧ 37 < p_114.length ∧ ∀ G114 : GG, G114 = gsh G113 c_114 (.inr (.inr (9, p_114.set 37 (some (some a_113))))) → (k + 1 + 1 + 1 + 1 + 1 ≤ 72 ∧ j + 96 + 96 + 23040 + 23040 + 96 ≤ 459009 ∧ ∀ (a_117 : Nat) (G117 : GG) (σ117 : Sg), G117 = gext G114 a_117 (.inl (kA 1, 96)) → σ117 = va_up σ113 (gn G114) (fun _ => 0) → ∃ (c_118 : Nat) (p_118 : List (Option (Option Nat))), ga G117 c_118 = a0 ∧ isO G117 9 p_118 c_118 ∧ 38 < p_118.length ∧ ∀ G118 : GG, G118 = gsh G117 c_118 (.inr (.inr (9, p_118.set 38 (some (some a_117))))) → (k + 1 + 1 + 1 + 1 + 1 + 1 ≤ 72 ∧ j + 96 + 96 + 23040 + 23040 + 96 + 23040 ≤ 459009 ∧ ∀ (a_121 : Nat) (G121 : GG) (σ121 : Sg), G121 = gext G118 a_121 (.inl (kA 1, 23040)) → σ121 = va_up σ117 (gn G118) (fun _ => 0) → ∃ (c_122 : Nat) (p_122 : List (Option (Option Nat))), ga G121 c_122 = a0 ∧ isO G121 9 p_122 c_122 ∧ 39 < p_122.length ∧ ∀ G122 : GG, G122 = gsh G121 c_122 (.inr (.inr (9, p_122.set 39 (some (some a_121))))) → wpX9_init_L255 kA Q a0 x1 x2 G122 σ121 (k + 1 + 1 + 1 + 1 + 1 + 1) (j + 96 + 96 + 23040 + 23040 + 96 + 23040)))))))
def wpX9_init_L151 (kA : Nat → ClassId) (Q : GG → Sg → Prop) (a0 : Nat) (x1 : Int32) (x2 : Int32) (G : GG) (σ : Sg) (k j : Nat) : Prop := (k + 1 ≤ 72 ∧ j + 23040 ≤ 459009 ∧ ∀ (a_77 : Nat) (G77 : GG) (σ77 : Sg), G77 = gext G a_77 (.inl (kA 0, 23040)) → σ77 = va_up σ (gn G) (fun _ => 0) → ∃ (c_78 : Nat) (p_78 : List (Option (Option Nat))), ga G77 c_78 = a0 ∧ isO G77 9 p_78 c_78 ∧ 28 < p_78.length ∧ ∀ G78 : GG, G78 = gsh G77 c_78 (.inr (.inr (9, p_78.set 28 (some (some a_77))))) → (k + 1 + 1 ≤ 72 ∧ j + 23040 + 26400 ≤ 459009 ∧ ∀ (a_81 : Nat) (G81 : GG) (σ81 : Sg), G81 = gext G78 a_81 (.inl (kA 0, 26400)) → σ81 = va_up σ77 (gn G78) (fun _ => 0) → ∃ (c_82 : Nat) (p_82 : List (Option (Option Nat))), ga G81 c_82 = a0 ∧ isO G81 9 p_82 c_82 ∧ 29 < p_82.length ∧ ∀ G82 : GG, G82 = gsh G81 c_82 (.inr (.inr (9, p_82.set 29 (some (some a_81))))) → (k + 1 + 1 + 1 ≤ 72 ∧ j + 23040 + 26400 + 26400 ≤ 459009 ∧ ∀ (a_85 : Nat) (G85 : GG) (σ85 : Sg), G85 = gext G82 a_85 (.inl (kA 0, 26400)) → σ85 = va_up σ81 (gn G82) (fun _ => 0) → ∃ (c_86 : Nat) (p_86 : List (Option (Option Nat))), ga G85 c_86 = a0 ∧ isO G85 9 p_86 c_86 ∧ 30 < p_86.length ∧ ∀ G86 : GG, G86 = gsh G85 c_86 (.inr (.inr (9, p_86.set 30 (some (some a_85))))) → (k + 1 + 1 + 1 + 1 ≤ 72 ∧ j + 23040 + 26400 + 26400 + 6 ≤ 459009 ∧ ∀ (a_89 : Nat) (G89 : GG) (σ89 : Sg), G89 = gext G86 a_89 (.inl (kA 0, 6)) → σ89 = va_up σ85 (gn G86) (fun _ => 0) → ∃ (c_90 : Nat) (p_90 : List (Option (Option Nat))), ga G89 c_90 = a0 ∧ isO G89 9 p_90 c_90 ∧ 31 < p_90.length ∧ ∀ G90 : GG, G90 = gsh G89 c_90 (.inr (.inr (9, p_90.set 31 (some (some a_89))))) → (k + 1 + 1 + 1 + 1 + 1 ≤ 72 ∧ j + 23040 + 26400 + 26400 + 6 + 26400 ≤ 459009 ∧ ∀ (a_93 : Nat) (G93 : GG) (σ93 : Sg), G93 = gext G90 a_93 (.inl (kA 1, 26400)) → σ93 = va_up σ89 (gn G90) (fun _ => 0) → ∃ (c_94 : Nat) (p_94 : List (Option (Option Nat))), ga G93 c_94 = a0 ∧ isO G93 9 p_94 c_94 ∧ 32 < p_94.length ∧ ∀ G94 : GG, G94 = gsh G93 c_94 (.inr (.inr (9, p_94.set 32 (some (some a_93))))) → (k + 1 + 1 + 1 + 1 + 1 + 1 ≤ 72 ∧ j + 23040 + 26400 + 26400 + 6 + 26400 + 26400 ≤ 459009 ∧ ∀ (a_97 : Nat) (G97 : GG) (σ97 : Sg), G97 = gext G94 a_97 (.inl (kA 1, 26400)) → σ97 = va_up σ93 (gn G94) (fun _ => 0) → ∃ (c_98 : Nat) (p_98 : List (Option (Option Nat))), ga G97 c_98 = a0 ∧ isO G97 9 p_98 c_98 ∧ 33 < p_98.length ∧ ∀ G98 : GG, G98 = gsh G97 c_98 (.inr (.inr (9, p_98.set 33 (some (some a_97))))) → wpX9_init_L204 kA Q a0 x1 x2 G98 σ97 (k + 1 + 1 + 1 + 1 + 1 + 1) (j + 23040 + 26400 + 26400 + 6 + 26400 + 26400)))))))
def wpX9_init_L100 (kA : Nat → ClassId) (Q : GG → Sg → Prop) (a0 : Nat) (x1 : Int32) (x2 : Int32) (G : GG) (σ : Sg) (k j : Nat) : Prop := (k + 1 ≤ 72 ∧ j + 6 ≤ 459009 ∧ ∀ (a_53 : Nat) (G53 : GG) (σ53 : Sg), G53 = gext G a_53 (.inl (kA 1, 6)) → σ53 = va_up σ (gn G) (fun _ => 0) → ∃ (c_54 : Nat) (p_54 : List (Option (Option Nat))), ga G53 c_54 = a0 ∧ isO G53 9 p_54 c_54 ∧ 22 < p_54.length ∧ ∀ G54 : GG, G54 = gsh G53 c_54 (.inr (.inr (9, p_54.set 22 (some (some a_53))))) → (k + 1 + 1 ≤ 72 ∧ j + 6 + 3 ≤ 459009 ∧ ∀ (a_57 : Nat) (G57 : GG) (σ57 : Sg), G57 = gext G54 a_57 (.inl (kA 0, 3)) → σ57 = va_up σ53 (gn G54) (fun _ => 0) → ∃ (c_58 : Nat) (p_58 : List (Option (Option Nat))), ga G57 c_58 = a0 ∧ isO G57 9 p_58 c_58 ∧ 23 < p_58.length ∧ ∀ G58 : GG, G58 = gsh G57 c_58 (.inr (.inr (9, p_58.set 23 (some (some a_57))))) → (k + 1 + 1 + 1 ≤ 72 ∧ j + 6 + 3 + 192 ≤ 459009 ∧ ∀ (a_61 : Nat) (G61 : GG) (σ61 : Sg), G61 = gext G58 a_61 (.inl (kA 1, 192)) → σ61 = va_up σ57 (gn G58) (fun _ => 0) → ∃ (c_62 : Nat) (p_62 : List (Option (Option Nat))), ga G61 c_62 = a0 ∧ isO G61 9 p_62 c_62 ∧ 24 < p_62.length ∧ ∀ G62 : GG, G62 = gsh G61 c_62 (.inr (.inr (9, p_62.set 24 (some (some a_61))))) → (k + 1 + 1 + 1 + 1 ≤ 72 ∧ j + 6 + 3 + 192 + 192 ≤ 459009 ∧ ∀ (a_65 : Nat) (G65 : GG) (σ65 : Sg), G65 = gext G62 a_65 (.inl (kA 0, 192)) → σ65 = va_up σ61 (gn G62) (fun _ => 0) → ∃ (c_66 : Nat) (p_66 : List (Option (Option Nat))), ga G65 c_66 = a0 ∧ isO G65 9 p_66 c_66 ∧ 25 < p_66.length ∧ ∀ G66 : GG, G66 = gsh G65 c_66 (.inr (.inr (9, p_66.set 25 (some (some a_65))))) → (k + 1 + 1 + 1 + 1 + 1 ≤ 72 ∧ j + 6 + 3 + 192 + 192 + 192 ≤ 459009 ∧ ∀ (a_69 : Nat) (G69 : GG) (σ69 : Sg), G69 = gext G66 a_69 (.inl (kA 0, 192)) → σ69 = va_up σ65 (gn G66) (fun _ => 0) → ∃ (c_70 : Nat) (p_70 : List (Option (Option Nat))), ga G69 c_70 = a0 ∧ isO G69 9 p_70 c_70 ∧ 26 < p_70.length ∧ ∀ G70 : GG, G70 = gsh G69 c_70 (.inr (.inr (9, p_70.set 26 (some (some a_69))))) → (k + 1 + 1 + 1 + 1 + 1 + 1 ≤ 72 ∧ j + 6 + 3 + 192 + 192 + 192 + 192 ≤ 459009 ∧ ∀ (a_73 : Nat) (G73 : GG) (σ73 : Sg), G73 = gext G70 a_73 (.inl (kA 0, 192)) → σ73 = va_up σ69 (gn G70) (fun _ => 0) → ∃ (c_74 : Nat) (p_74 : List (Option (Option Nat))), ga G73 c_74 = a0 ∧ isO G73 9 p_74 c_74 ∧ 27 < p_74.length ∧ ∀ G74 : GG, G74 = gsh G73 c_74 (.inr (.inr (9, p_74.set 27 (some (some a_73))))) → wpX9_init_L151 kA Q a0 x1 x2 G74 σ73 (k + 1 + 1 + 1 + 1 + 1 + 1) (j + 6 + 3 + 192 + 192 + 192 + 192)))))))
def wpX9_init_L52 (kA : Nat → ClassId) (Q : GG → Sg → Prop) (a0 : Nat) (x1 : Int32) (x2 : Int32) (G : GG) (σ : Sg) (k j : Nat) : Prop := (k + 1 ≤ 72 ∧ j + 6 ≤ 459009 ∧ ∀ (a_29 : Nat) (G29 : GG) (σ29 : Sg), G29 = gext G a_29 (.inl (kA 0, 6)) → σ29 = va_up σ (gn G) (fun _ => 0) → ∃ (c_30 : Nat) (p_30 : List (Option (Option Nat))), ga G29 c_30 = a0 ∧ isO G29 9 p_30 c_30 ∧ 16 < p_30.length ∧ ∀ G30 : GG, G30 = gsh G29 c_30 (.inr (.inr (9, p_30.set 16 (some (some a_29))))) → (k + 1 + 1 ≤ 72 ∧ j + 6 + 6 ≤ 459009 ∧ ∀ (a_33 : Nat) (G33 : GG) (σ33 : Sg), G33 = gext G30 a_33 (.inl (kA 0, 6)) → σ33 = va_up σ29 (gn G30) (fun _ => 0) → ∃ (c_34 : Nat) (p_34 : List (Option (Option Nat))), ga G33 c_34 = a0 ∧ isO G33 9 p_34 c_34 ∧ 17 < p_34.length ∧ ∀ G34 : GG, G34 = gsh G33 c_34 (.inr (.inr (9, p_34.set 17 (some (some a_33))))) → (k + 1 + 1 + 1 ≤ 72 ∧ j + 6 + 6 + 6 ≤ 459009 ∧ ∀ (a_37 : Nat) (G37 : GG) (σ37 : Sg), G37 = gext G34 a_37 (.inl (kA 0, 6)) → σ37 = va_up σ33 (gn G34) (fun _ => 0) → ∃ (c_38 : Nat) (p_38 : List (Option (Option Nat))), ga G37 c_38 = a0 ∧ isO G37 9 p_38 c_38 ∧ 18 < p_38.length ∧ ∀ G38 : GG, G38 = gsh G37 c_38 (.inr (.inr (9, p_38.set 18 (some (some a_37))))) → (k + 1 + 1 + 1 + 1 ≤ 72 ∧ j + 6 + 6 + 6 + 6 ≤ 459009 ∧ ∀ (a_41 : Nat) (G41 : GG) (σ41 : Sg), G41 = gext G38 a_41 (.inl (kA 0, 6)) → σ41 = va_up σ37 (gn G38) (fun _ => 0) → ∃ (c_42 : Nat) (p_42 : List (Option (Option Nat))), ga G41 c_42 = a0 ∧ isO G41 9 p_42 c_42 ∧ 19 < p_42.length ∧ ∀ G42 : GG, G42 = gsh G41 c_42 (.inr (.inr (9, p_42.set 19 (some (some a_41))))) → (k + 1 + 1 + 1 + 1 + 1 ≤ 72 ∧ j + 6 + 6 + 6 + 6 + 6 ≤ 459009 ∧ ∀ (a_45 : Nat) (G45 : GG) (σ45 : Sg), G45 = gext G42 a_45 (.inl (kA 0, 6)) → σ45 = va_up σ41 (gn G42) (fun _ => 0) → ∃ (c_46 : Nat) (p_46 : List (Option (Option Nat))), ga G45 c_46 = a0 ∧ isO G45 9 p_46 c_46 ∧ 20 < p_46.length ∧ ∀ G46 : GG, G46 = gsh G45 c_46 (.inr (.inr (9, p_46.set 20 (some (some a_45))))) → (k + 1 + 1 + 1 + 1 + 1 + 1 ≤ 72 ∧ j + 6 + 6 + 6 + 6 + 6 + 6 ≤ 459009 ∧ ∀ (a_49 : Nat) (G49 : GG) (σ49 : Sg), G49 = gext G46 a_49 (.inl (kA 1, 6)) → σ49 = va_up σ45 (gn G46) (fun _ => 0) → ∃ (c_50 : Nat) (p_50 : List (Option (Option Nat))), ga G49 c_50 = a0 ∧ isO G49 9 p_50 c_50 ∧ 21 < p_50.length ∧ ∀ G50 : GG, G50 = gsh G49 c_50 (.inr (.inr (9, p_50.set 21 (some (some a_49))))) → wpX9_init_L100 kA Q a0 x1 x2 G50 σ49 (k + 1 + 1 + 1 + 1 + 1 + 1) (j + 6 + 6 + 6 + 6 + 6 + 6)))))))
set_option maxRecDepth 100000 in
def wpX9_init (kA : Nat → ClassId) (G : GG) (a0 : Nat) (x1 : Int32) (x2 : Int32) (σ : Sg) (Q : GG → Sg → Prop) : Prop := (0 + 1 ≤ 72 ∧ 0 + 120 ≤ 459009 ∧ ∀ (a_5 : Nat) (G5 : GG) (σ5 : Sg), G5 = gext G a_5 (.inl (kA 0, 120)) → σ5 = va_up σ (gn G) (fun _ => 0) → ∃ (c_6 : Nat) (p_6 : List (Option (Option Nat))), ga G5 c_6 = a0 ∧ isO G5 9 p_6 c_6 ∧ 9 < p_6.length ∧ ∀ G6 : GG, G6 = gsh G5 c_6 (.inr (.inr (9, p_6.set 9 (some (some a_5))))) → (0 + 1 + 1 ≤ 72 ∧ 0 + 120 + 6 ≤ 459009 ∧ ∀ (a_9 : Nat) (G9 : GG) (σ9 : Sg), G9 = gext G6 a_9 (.inl (kA 0, 6)) → σ9 = va_up σ5 (gn G6) (fun _ => 0) → ∃ (c_10 : Nat) (p_10 : List (Option (Option Nat))), ga G9 c_10 = a0 ∧ isO G9 9 p_10 c_10 ∧ 11 < p_10.length ∧ ∀ G10 : GG, G10 = gsh G9 c_10 (.inr (.inr (9, p_10.set 11 (some (some a_9))))) → (0 + 1 + 1 + 1 ≤ 72 ∧ 0 + 120 + 6 + 6 ≤ 459009 ∧ ∀ (a_13 : Nat) (G13 : GG) (σ13 : Sg), G13 = gext G10 a_13 (.inl (kA 0, 6)) → σ13 = va_up σ9 (gn G10) (fun _ => 0) → ∃ (c_14 : Nat) (p_14 : List (Option (Option Nat))), ga G13 c_14 = a0 ∧ isO G13 9 p_14 c_14 ∧ 12 < p_14.length ∧ ∀ G14 : GG, G14 = gsh G13 c_14 (.inr (.inr (9, p_14.set 12 (some (some a_13))))) → (0 + 1 + 1 + 1 + 1 ≤ 72 ∧ 0 + 120 + 6 + 6 + 6 ≤ 459009 ∧ ∀ (a_17 : Nat) (G17 : GG) (σ17 : Sg), G17 = gext G14 a_17 (.inl (kA 0, 6)) → σ17 = va_up σ13 (gn G14) (fun _ => 0) → ∃ (c_18 : Nat) (p_18 : List (Option (Option Nat))), ga G17 c_18 = a0 ∧ isO G17 9 p_18 c_18 ∧ 13 < p_18.length ∧ ∀ G18 : GG, G18 = gsh G17 c_18 (.inr (.inr (9, p_18.set 13 (some (some a_17))))) → (0 + 1 + 1 + 1 + 1 + 1 ≤ 72 ∧ 0 + 120 + 6 + 6 + 6 + 6 ≤ 459009 ∧ ∀ (a_21 : Nat) (G21 : GG) (σ21 : Sg), G21 = gext G18 a_21 (.inl (kA 0, 6)) → σ21 = va_up σ17 (gn G18) (fun _ => 0) → ∃ (c_22 : Nat) (p_22 : List (Option (Option Nat))), ga G21 c_22 = a0 ∧ isO G21 9 p_22 c_22 ∧ 14 < p_22.length ∧ ∀ G22 : GG, G22 = gsh G21 c_22 (.inr (.inr (9, p_22.set 14 (some (some a_21))))) → (0 + 1 + 1 + 1 + 1 + 1 + 1 ≤ 72 ∧ 0 + 120 + 6 + 6 + 6 + 6 + 6 ≤ 459009 ∧ ∀ (a_25 : Nat) (G25 : GG) (σ25 : Sg), G25 = gext G22 a_25 (.inl (kA 0, 6)) → σ25 = va_up σ21 (gn G22) (fun _ => 0) → ∃ (c_26 : Nat) (p_26 : List (Option (Option Nat))), ga G25 c_26 = a0 ∧ isO G25 9 p_26 c_26 ∧ 15 < p_26.length ∧ ∀ G26 : GG, G26 = gsh G25 c_26 (.inr (.inr (9, p_26.set 15 (some (some a_25))))) → wpX9_init_L52 kA Q a0 x1 x2 G26 σ25 (0 + 1 + 1 + 1 + 1 + 1 + 1) (0 + 120 + 6 + 6 + 6 + 6 + 6)))))))
set_option maxHeartbeats 8000000 in
set_option maxRecDepth 100000 in
theorem tX9_init {l : Launch} {G : GG} {kA : Nat → ClassId} {tS : Nat × (Nat → Int32)} {a0 : Nat} {x1 : Int32} {x2 : Int32} {σ : Sg} {Q : GG → Sg → Prop} (hk : kOK kA G) (hgo : go G = some tS) (h : wpX9_init kA G a0 x1 x2 σ Q) : Kn l G yX9_init (wB yX9_init prog_11_method_1_code 4 none) ({ frames := 3, cells := 72, slots := 459009, locals := 68 }) [.ref a0, .int x1, .int x2] σ Q 72 459009 := by
  refine Kn_of (cc := cX9_init) (maxL := 4) (ret := none) (by decide) rfl (Nat.le_of_ble_eq_true rfl) ?_
  intro p e s m args below meth c ls hin B hH hl
  obtain ⟨hx, hb, hr, hts, hown, hlk, hml, hK, hX⟩ := B
  replace hin : meth.name = "<init>" := hin
  replace hl : lv_has ls 4 [(0, .ref a0), (1, .int x1), (2, .int x2)] := hl
  have hB : ∀ w ∈ BIG, w.before args s = true := fun w h9 => hts w (List.mem_cons_of_mem _ h9)
  clear hts
  have hg : SameG G G := SameG.rf
  have k9 := hB _ bw4_119
  have k13 := hB _ bw4_121
  have k16 := hB _ bw4_122
  have k19 := hB _ bw4_123
  have k22 := hB _ bw4_124
  have k25 := hB _ bw4_125
  have k28 := hB _ bw4_126
  have k31 := hB _ bw4_127
  have k34 := hB _ bw4_128
  have k37 := hB _ bw4_129
  have k40 := hB _ bw4_130
  have k43 := hB _ bw4_131
  have k47 := hB _ bw4_132
  have k50 := hB _ bw4_133
  have k53 := hB _ bw4_134
  have k56 := hB _ bw4_135
  have k59 := hB _ bw4_136
  have k62 := hB _ bw4_137
  have k65 := hB _ bw4_138
  have k68 := hB _ bw4_139
  have k71 := hB _ bw4_140
  have k74 := hB _ bw4_141
  have k77 := hB _ bw4_142
  have k80 := hB _ bw4_143
  have k83 := hB _ bw4_144
  have k86 := hB _ bw4_145
  have k89 := hB _ bw4_146
  have k92 := hB _ bw4_147
  have k95 := hB _ bw4_148
  have k98 := hB _ bw4_149
  have k101 := hB _ bw4_150
  have k104 := hB _ bw4_151
  have k107 := hB _ bw4_152
  have k110 := hB _ bw4_153
  have k113 := hB _ bw4_154
  have k116 := hB _ bw4_155
  have k119 := hB _ bw4_156
  have k122 := hB _ bw4_157
  have k125 := hB _ bw4_158
  have k128 := hB _ bw4_159
  have k131 := hB _ bw4_160
  have k134 := hB _ bw4_161
  have k137 := hB _ bw4_162
  have k140 := hB _ bw4_163
  have k144 := hB _ bw4_164
  have k147 := hB _ bw4_165
  have k150 := hB _ bw4_166
  have k153 := hB _ bw4_167
  have k156 := hB _ bw4_168
  have k159 := hB _ bw4_169
  have k162 := hB _ bw4_170
  have k165 := hB _ bw4_171
  have k168 := hB _ bw4_172
  have k171 := hB _ bw4_173
  have k174 := hB _ bw4_174
  have k177 := hB _ bw4_175
  have k180 := hB _ bw4_176
  have k183 := hB _ bw4_177
  have k186 := hB _ bw4_178
  have k189 := hB _ bw4_179
  have k192 := hB _ bw4_180
  have k195 := hB _ bw4_181
  have k198 := hB _ bw4_182
  have k201 := hB _ bw4_183
  have k204 := hB _ bw4_184
  have k207 := hB _ bw4_185
  have k210 := hB _ bw4_186
  have k213 := hB _ bw4_187
  have k216 := hB _ bw4_188
  have k219 := hB _ bw4_189
  have k222 := hB _ bw4_190
  have k225 := hB _ bw4_191
  have k228 := hB _ bw4_110
  have k232 := hB _ bw4_111
  have L687 : ∀ (n687 : Nat) (a0 : Nat) (x3 : Int32) (G1 : GG) (σ : Sg) (k j : Nat) (H : Heap) (locs : List Loc) (ls : Array Slot), SameG G G1 → Hx G1 (aA G s.heap.size) s σ H locs → lv_has ls 4 [(0, .ref a0), (3, .int x3)] → wpX9_init_L687 kA Q n687 a0 x3 G1 σ k j → W p l e ({ frames := 3, cells := 72, slots := 459009, locals := 68 }) s m args below meth c H locs k j (Zn G Q 72 459009 below args s) (F0 m 687 ls []) := by
    intro n687
    induction n687 with
    | zero =>
      intro a0 x3 G1 σ k j H locs ls hg hH hl h
      exact False.elim h
    | succ n687 ih687 =>
      intro a0 x3 G1 σ k j H locs ls hg hH hl h
      unfold wpX9_init_L687 at h
      refine lv_iload_n hx hb dX9_init_687 rfl (lv_at hl 1 rfl) ?_
      refine lv_sipush (v := 192) hx hb dX9_init_688 (by decide) ?_
      refine lv_icmp_ge (tgt := 707) hx hb dX9_init_691 (by decide) (fun q343 => ?_) (fun q343 => ?_)
      · replace h := h.1 q343
        refine lv_aload_n hx hb dX9_init_707 rfl (lv_at hl 0 rfl) ?_
        obtain ⟨c_345, p_345, a_345, ha345, ho345, hp345, h⟩ := h
        refine n_getr hx hb hB inB9 hown (hg.K hK) hH ha345 ho345 rfl 73 (by decide) k201 rfl hp345 dX9_init_708 ?_
        refine lv_iconst (v := 0) hx hb dX9_init_711 (by decide) ?_
        refine lv_iconst (v := (-1)) hx hb dX9_init_712 (by decide) ?_
        obtain ⟨c_348, N_348, ha348, ho348, hi348, h⟩ := h
        refine n_iast hx hb (hg.K hK) hH ha348 ho348 hi348 dX9_init_713 (fun σ348 eσ348 H locs hH => ?_)
        replace h := h σ348 eσ348
        refine lv_aload_n hx hb dX9_init_714 rfl (lv_at hl 0 rfl) ?_
        obtain ⟨c_350, p_350, a_350, ha350, ho350, hp350, h⟩ := h
        refine n_getr hx hb hB inB9 hown (hg.K hK) hH ha350 ho350 rfl 73 (by decide) k201 rfl hp350 dX9_init_715 ?_
        refine lv_iconst (v := 1) hx hb dX9_init_718 (by decide) ?_
        refine lv_iconst (v := (-1)) hx hb dX9_init_719 (by decide) ?_
        obtain ⟨c_353, N_353, ha353, ho353, hi353, h⟩ := h
        refine n_iast hx hb (hg.K hK) hH ha353 ho353 hi353 dX9_init_720 (fun σ353 eσ353 H locs hH => ?_)
        replace h := h σ353 eσ353
        refine lv_aload_n hx hb dX9_init_721 rfl (lv_at hl 0 rfl) ?_
        obtain ⟨hk355, hj355, h⟩ := h
        obtain ⟨c_355, rfl, ha355, ho355, h⟩ := h
        refine n_callVv (As := []) (rest := []) ⟨hx, hb, hml, hown, hB⟩ (hg.K hK) (hg.X hX) aA_hA hH ha355 (tX9_makeBox ho355 h) (cwV 0 hB gVX9_235 rfl rfl rfl (by decide +kernel) ⟨Nat.le_of_ble_eq_true rfl, Nat.le_of_ble_eq_true rfl⟩) ho355.1 rfl rfl hl.1 rfl (lv_room (Nat.le_of_ble_eq_true rfl)) ⟨hk355, hj355⟩ dX9_init_722 (fun σ355 H locs h hH => ?_)
        exact n_ret hx hb hr hK hlk hg h.1 h.2.1 h.2.2 hH dX9_init_725
      · replace h := h.2 q343
        refine lv_aload_n hx hb dX9_init_694 rfl (lv_at hl 0 rfl) ?_
        obtain ⟨c_358, p_358, a_358, ha358, ho358, hp358, h⟩ := h
        refine n_getr hx hb hB inB9 hown (hg.K hK) hH ha358 ho358 rfl 53 (by decide) k140 rfl hp358 dX9_init_695 ?_
        refine lv_iload_n hx hb dX9_init_698 rfl (lv_at hl 1 rfl) ?_
        refine lv_iconst (v := (-1)) hx hb dX9_init_699 (by decide) ?_
        obtain ⟨c_361, N_361, ha361, ho361, hi361, h⟩ := h
        refine n_iast hx hb (hg.K hK) hH ha361 ho361 hi361 dX9_init_700 (fun σ361 eσ361 H locs hH => ?_)
        replace h := h σ361 eσ361
        obtain ⟨x3_362, ex3_362⟩ : ∃ y : Int32, y = x3 + 1 := ⟨_, rfl⟩
        replace h := h x3_362 ex3_362
        refine lv_iinc (v := x3_362) (lv' := [(3, .int x3_362), (0, .ref a0)]) hx hb dX9_init_701 hl (k := 1) rfl (by rw [ex3_362]; rfl) (by decide) rfl (fun ls hl => ?_)
        refine lv_goto (tgt := 687) hx hb dX9_init_704 (by decide) ?_
        exact ih687 a0 x3_362 G1 σ361 k j _ _ ls hg hH (lv_sub hl [1, 0] rfl) h
  have L652 : ∀ (n652 : Nat) (a0 : Nat) (x3 : Int32) (G1 : GG) (σ : Sg) (k j : Nat) (H : Heap) (locs : List Loc) (ls : Array Slot), SameG G G1 → Hx G1 (aA G s.heap.size) s σ H locs → lv_has ls 4 [(0, .ref a0), (3, .int x3)] → wpX9_init_L652 kA Q n652 a0 x3 G1 σ k j → W p l e ({ frames := 3, cells := 72, slots := 459009, locals := 68 }) s m args below meth c H locs k j (Zn G Q 72 459009 below args s) (F0 m 652 ls []) := by
    intro n652
    induction n652 with
    | zero =>
      intro a0 x3 G1 σ k j H locs ls hg hH hl h
      exact False.elim h
    | succ n652 ih652 =>
      intro a0 x3 G1 σ k j H locs ls hg hH hl h
      unfold wpX9_init_L652 at h
      refine lv_iload_n hx hb dX9_init_652 rfl (lv_at hl 1 rfl) ?_
      refine lv_bipush (v := 6) hx hb dX9_init_653 (by decide) ?_
      refine lv_icmp_ge (tgt := 685) hx hb dX9_init_655 (by decide) (fun q321 => ?_) (fun q321 => ?_)
      · replace h := h.1 q321
        refine lv_iconst (v := 0) hx hb dX9_init_685 (by decide) ?_
        refine lv_istore_n (lv' := [(3, .int 0), (0, .ref a0)]) hx hb dX9_init_686 rfl hl (by decide) rfl (fun ls hl => ?_)
        obtain ⟨nn, h⟩ := h
        exact L687 nn a0 0 G1 σ k j _ _ ls hg hH (lv_sub hl [1, 0] rfl) h
      · replace h := h.2 q321
        refine lv_aload_n hx hb dX9_init_658 rfl (lv_at hl 0 rfl) ?_
        obtain ⟨c_325, p_325, a_325, ha325, ho325, hp325, h⟩ := h
        refine n_getr hx hb hB inB9 hown (hg.K hK) hH ha325 ho325 rfl 58 (by decide) k156 rfl hp325 dX9_init_659 ?_
        refine lv_iload_n hx hb dX9_init_662 rfl (lv_at hl 1 rfl) ?_
        refine lv_iconst (v := (-1)) hx hb dX9_init_663 (by decide) ?_
        obtain ⟨c_328, N_328, ha328, ho328, hi328, h⟩ := h
        refine n_iast hx hb (hg.K hK) hH ha328 ho328 hi328 dX9_init_664 (fun σ328 eσ328 H locs hH => ?_)
        replace h := h σ328 eσ328
        refine lv_aload_n hx hb dX9_init_665 rfl (lv_at hl 0 rfl) ?_
        obtain ⟨c_330, p_330, a_330, ha330, ho330, hp330, h⟩ := h
        refine n_getr hx hb hB inB9 hown (hg.K hK) hH ha330 ho330 rfl 48 (by decide) k125 rfl hp330 dX9_init_666 ?_
        refine lv_iload_n hx hb dX9_init_669 rfl (lv_at hl 1 rfl) ?_
        refine lv_iconst (v := (-1)) hx hb dX9_init_670 (by decide) ?_
        obtain ⟨c_333, N_333, ha333, ho333, hi333, h⟩ := h
        refine n_iast hx hb (hg.K hK) hH ha333 ho333 hi333 dX9_init_671 (fun σ333 eσ333 H locs hH => ?_)
        replace h := h σ333 eσ333
        refine lv_aload_n hx hb dX9_init_672 rfl (lv_at hl 0 rfl) ?_
        obtain ⟨c_335, p_335, a_335, ha335, ho335, hp335, h⟩ := h
        refine n_getr hx hb hB inB9 hown (hg.K hK) hH ha335 ho335 rfl 15 (by decide) k25 rfl hp335 dX9_init_673 ?_
        refine lv_iload_n hx hb dX9_init_676 rfl (lv_at hl 1 rfl) ?_
        refine lv_iconst (v := (-1)) hx hb dX9_init_677 (by decide) ?_
        obtain ⟨c_338, N_338, ha338, ho338, hi338, h⟩ := h
        refine n_iast hx hb (hg.K hK) hH ha338 ho338 hi338 dX9_init_678 (fun σ338 eσ338 H locs hH => ?_)
        replace h := h σ338 eσ338
        obtain ⟨x3_339, ex3_339⟩ : ∃ y : Int32, y = x3 + 1 := ⟨_, rfl⟩
        replace h := h x3_339 ex3_339
        refine lv_iinc (v := x3_339) (lv' := [(3, .int x3_339), (0, .ref a0)]) hx hb dX9_init_679 hl (k := 1) rfl (by rw [ex3_339]; rfl) (by decide) rfl (fun ls hl => ?_)
        refine lv_goto (tgt := 652) hx hb dX9_init_682 (by decide) ?_
        exact ih652 a0 x3_339 G1 σ338 k j _ _ ls hg hH (lv_sub hl [1, 0] rfl) h
  have L631 : ∀ (n631 : Nat) (a0 : Nat) (x3 : Int32) (G1 : GG) (σ : Sg) (k j : Nat) (H : Heap) (locs : List Loc) (ls : Array Slot), SameG G G1 → Hx G1 (aA G s.heap.size) s σ H locs → lv_has ls 4 [(0, .ref a0), (3, .int x3)] → wpX9_init_L631 kA Q n631 a0 x3 G1 σ k j → W p l e ({ frames := 3, cells := 72, slots := 459009, locals := 68 }) s m args below meth c H locs k j (Zn G Q 72 459009 below args s) (F0 m 631 ls []) := by
    intro n631
    induction n631 with
    | zero =>
      intro a0 x3 G1 σ k j H locs ls hg hH hl h
      exact False.elim h
    | succ n631 ih631 =>
      intro a0 x3 G1 σ k j H locs ls hg hH hl h
      unfold wpX9_init_L631 at h
      refine lv_iload_n hx hb dX9_init_631 rfl (lv_at hl 1 rfl) ?_
      refine lv_iconst (v := 3) hx hb dX9_init_632 (by decide) ?_
      refine lv_icmp_ge (tgt := 650) hx hb dX9_init_633 (by decide) (fun q309 => ?_) (fun q309 => ?_)
      · replace h := h.1 q309
        refine lv_iconst (v := 0) hx hb dX9_init_650 (by decide) ?_
        refine lv_istore_n (lv' := [(3, .int 0), (0, .ref a0)]) hx hb dX9_init_651 rfl hl (by decide) rfl (fun ls hl => ?_)
        obtain ⟨nn, h⟩ := h
        exact L652 nn a0 0 G1 σ k j _ _ ls hg hH (lv_sub hl [1, 0] rfl) h
      · replace h := h.2 q309
        refine lv_aload_n hx hb dX9_init_636 rfl (lv_at hl 0 rfl) ?_
        obtain ⟨c_313, p_313, a_313, ha313, ho313, hp313, h⟩ := h
        refine n_getr hx hb hB inB9 hown (hg.K hK) hH ha313 ho313 rfl 23 (by decide) k50 rfl hp313 dX9_init_637 ?_
        refine lv_iload_n hx hb dX9_init_640 rfl (lv_at hl 1 rfl) ?_
        refine lv_bipush (v := 16) hx hb dX9_init_641 (by decide) ?_
        obtain ⟨c_316, N_316, ha316, ho316, hi316, h⟩ := h
        refine n_iast hx hb (hg.K hK) hH ha316 ho316 hi316 dX9_init_643 (fun σ316 eσ316 H locs hH => ?_)
        replace h := h σ316 eσ316
        obtain ⟨x3_317, ex3_317⟩ : ∃ y : Int32, y = x3 + 1 := ⟨_, rfl⟩
        replace h := h x3_317 ex3_317
        refine lv_iinc (v := x3_317) (lv' := [(3, .int x3_317), (0, .ref a0)]) hx hb dX9_init_644 hl (k := 1) rfl (by rw [ex3_317]; rfl) (by decide) rfl (fun ls hl => ?_)
        refine lv_goto (tgt := 631) hx hb dX9_init_647 (by decide) ?_
        exact ih631 a0 x3_317 G1 σ316 k j _ _ ls hg hH (lv_sub hl [1, 0] rfl) h
  have L621 : ∀ (a0 : Nat) (x2 : Int32) (z0 : Int32) (b1 : Nat) (G1 : GG) (σ : Sg) (k j : Nat) (H : Heap) (locs : List Loc) (ls : Array Slot), SameG G G1 → Hx G1 (aA G s.heap.size) s σ H locs → lv_has ls 4 [(0, .ref a0), (2, .int x2)] → wpX9_init_L621 kA Q a0 x2 z0 b1 G1 σ k j → W p l e ({ frames := 3, cells := 72, slots := 459009, locals := 68 }) s m args below meth c H locs k j (Zn G Q 72 459009 below args s) (F0 m 621 ls [.int z0, .ref b1]) := by
    intro a0 x2 z0 b1 G1 σ k j H locs ls hg hH hl h
    unfold wpX9_init_L621 at h
    obtain ⟨c_301, p_301, ha301, ho301, hp301, h⟩ := h
    refine n_putFi hx hb hB inB9 tyX9 tyX9_ok nmX9 hown (hg.K hK) hH ha301 ho301 rfl 0 (by decide) k228 rfl hp301 rfl hin rfl rfl rfl dX9_init_621 (fun σ301 eσ301 H locs hH => ?_)
    replace h := h σ301 eσ301
    refine lv_aload_n hx hb dX9_init_624 rfl (lv_at hl 0 rfl) ?_
    refine lv_iload_n hx hb dX9_init_625 rfl (lv_at hl 1 rfl) ?_
    obtain ⟨c_304, p_304, ha304, ho304, hp304, h⟩ := h
    refine n_putFi hx hb hB inB9 tyX9 tyX9_ok nmX9 hown (hg.K hK) hH ha304 ho304 rfl 1 (by decide) k232 rfl hp304 rfl hin rfl rfl rfl dX9_init_626 (fun σ304 eσ304 H locs hH => ?_)
    replace h := h σ304 eσ304
    refine lv_iconst (v := 0) hx hb dX9_init_629 (by decide) ?_
    refine lv_istore_n (lv' := [(3, .int 0), (0, .ref a0), (2, .int x2)]) hx hb dX9_init_630 rfl hl (by decide) rfl (fun ls hl => ?_)
    obtain ⟨nn, h⟩ := h
    exact L631 nn a0 0 G1 σ304 k j _ _ ls hg hH (lv_sub hl [1, 0] rfl) h
  have L616 : ∀ (a0 : Nat) (x2 : Int32) (b0 : Nat) (G1 : GG) (σ : Sg) (k j : Nat) (H : Heap) (locs : List Loc) (ls : Array Slot), SameG G G1 → Hx G1 (aA G s.heap.size) s σ H locs → lv_has ls 4 [(0, .ref a0), (2, .int x2)] → wpX9_init_L616 kA Q a0 x2 b0 G1 σ k j → W p l e ({ frames := 3, cells := 72, slots := 459009, locals := 68 }) s m args below meth c H locs k j (Zn G Q 72 459009 below args s) (F0 m 616 ls [.ref b0]) := by
    intro a0 x2 b0 G1 σ k j H locs ls hg hH hl h
    unfold wpX9_init_L616 at h
    refine lv_iconst (v := 2) hx hb dX9_init_616 (by decide) ?_
    refine lv_goto (tgt := 621) hx hb dX9_init_617 (by decide) ?_
    exact L621 a0 x2 2 b0 G1 σ k j _ _ ls hg hH (lv_sub hl [0, 1] rfl) h
  have L605 : ∀ (a0 : Nat) (x1 : Int32) (x2 : Int32) (G1 : GG) (σ : Sg) (k j : Nat) (H : Heap) (locs : List Loc) (ls : Array Slot), SameG G G1 → Hx G1 (aA G s.heap.size) s σ H locs → lv_has ls 4 [(0, .ref a0), (1, .int x1), (2, .int x2)] → wpX9_init_L605 kA Q a0 x1 x2 G1 σ k j → W p l e ({ frames := 3, cells := 72, slots := 459009, locals := 68 }) s m args below meth c H locs k j (Zn G Q 72 459009 below args s) (F0 m 605 ls []) := by
    intro a0 x1 x2 G1 σ k j H locs ls hg hH hl h
    unfold wpX9_init_L605 at h
    refine lv_aload_n hx hb dX9_init_605 rfl (lv_at hl 0 rfl) ?_
    refine lv_iload_n hx hb dX9_init_606 rfl (lv_at hl 1 rfl) ?_
    refine lv_iconst (v := 1) hx hb dX9_init_607 (by decide) ?_
    refine lv_icmp_lt (tgt := 616) hx hb dX9_init_608 (by decide) (fun q294 => ?_) (fun q294 => ?_)
    · replace h := h.1 q294
      exact L616 a0 x2 a0 G1 σ k j _ _ ls hg hH (lv_sub hl [0, 2] rfl) h
    · replace h := h.2 q294
      refine lv_iload_n hx hb dX9_init_611 rfl (lv_at hl 1 rfl) ?_
      refine lv_iconst (v := 3) hx hb dX9_init_612 (by decide) ?_
      refine lv_icmp_le (tgt := 620) hx hb dX9_init_613 (by decide) (fun q297 => ?_) (fun q297 => ?_)
      · replace h := h.1 q297
        refine lv_iload_n hx hb dX9_init_620 rfl (lv_at hl 1 rfl) ?_
        exact L621 a0 x2 x1 a0 G1 σ k j _ _ ls hg hH (lv_sub hl [0, 2] rfl) h
      · replace h := h.2 q297
        exact L616 a0 x2 a0 G1 σ k j _ _ ls hg hH (lv_sub hl [0, 2] rfl) h
  have L553 : ∀ (a0 : Nat) (x1 : Int32) (x2 : Int32) (G1 : GG) (σ : Sg) (k j : Nat) (H : Heap) (locs : List Loc) (ls : Array Slot), SameG G G1 → Hx G1 (aA G s.heap.size) s σ H locs → lv_has ls 4 [(0, .ref a0), (1, .int x1), (2, .int x2)] → wpX9_init_L553 kA Q a0 x1 x2 G1 σ k j → W p l e ({ frames := 3, cells := 72, slots := 459009, locals := 68 }) s m args below meth c H locs k j (Zn G Q 72 459009 below args s) (F0 m 553 ls []) := by
    intro a0 x1 x2 G1 σ k j H locs ls hg hH hl h
    unfold wpX9_init_L553 at h
    refine lv_aload_n hx hb dX9_init_553 rfl (lv_at hl 0 rfl) ?_
    refine lv_sipush (v := 256) hx hb dX9_init_554 (by decide) ?_
    obtain ⟨hk269, hj269, h⟩ := h
    refine g_newI hx hb (hB _ bw1_38) (hg.K hK) hH aA_hA (kOK.at (hg.k hk) (t := 0) rfl) 256 (by decide) (by decide) (by decide) hk269 hj269 dX9_init_557 (fun a_269 G269 σ269 eG269 eσ269 H hH => ?_)
    replace h := h a_269 G269 σ269 eG269 eσ269
    replace hg := hg.ext eG269
    refine W.eq (g2 := F0 m 559 ls [.ref a_269, .ref a0]) (by rw [eG269, gext_at]) ?_
    obtain ⟨c_270, p_270, ha270, ho270, hp270, h⟩ := h
    refine n_putFr hx hb hB inB9 tyX9 tyX9_ok nmX9 hown (hg.K hK) hH ha270 ho270 rfl 76 (by decide) k210 rfl hp270 rfl hin rfl rfl rfl dX9_init_559 (fun G270 eG270 H locs hH => ?_)
    replace h := h G270 eG270
    replace hg := hg.sh eG270
    refine lv_aload_n hx hb dX9_init_562 rfl (lv_at hl 0 rfl) ?_
    refine lv_sipush (v := 176) hx hb dX9_init_563 (by decide) ?_
    obtain ⟨hk273, hj273, h⟩ := h
    refine g_newI hx hb (hB _ bw1_38) (hg.K hK) hH aA_hA (kOK.at (hg.k hk) (t := 0) rfl) 176 (by decide) (by decide) (by decide) hk273 hj273 dX9_init_566 (fun a_273 G273 σ273 eG273 eσ273 H hH => ?_)
    replace h := h a_273 G273 σ273 eG273 eσ273
    replace hg := hg.ext eG273
    refine W.eq (g2 := F0 m 568 ls [.ref a_273, .ref a0]) (by rw [eG273, gext_at]) ?_
    obtain ⟨c_274, p_274, ha274, ho274, hp274, h⟩ := h
    refine n_putFr hx hb hB inB9 tyX9 tyX9_ok nmX9 hown (hg.K hK) hH ha274 ho274 rfl 77 (by decide) k213 rfl hp274 rfl hin rfl rfl rfl dX9_init_568 (fun G274 eG274 H locs hH => ?_)
    replace h := h G274 eG274
    replace hg := hg.sh eG274
    refine lv_aload_n hx hb dX9_init_571 rfl (lv_at hl 0 rfl) ?_
    refine lv_bipush (v := 16) hx hb dX9_init_572 (by decide) ?_
    obtain ⟨hk277, hj277, h⟩ := h
    refine g_newI hx hb (hB _ bw1_38) (hg.K hK) hH aA_hA (kOK.at (hg.k hk) (t := 0) rfl) 16 (by decide) (by decide) (by decide) hk277 hj277 dX9_init_574 (fun a_277 G277 σ277 eG277 eσ277 H hH => ?_)
    replace h := h a_277 G277 σ277 eG277 eσ277
    replace hg := hg.ext eG277
    refine W.eq (g2 := F0 m 576 ls [.ref a_277, .ref a0]) (by rw [eG277, gext_at]) ?_
    obtain ⟨c_278, p_278, ha278, ho278, hp278, h⟩ := h
    refine n_putFr hx hb hB inB9 tyX9 tyX9_ok nmX9 hown (hg.K hK) hH ha278 ho278 rfl 78 (by decide) k216 rfl hp278 rfl hin rfl rfl rfl dX9_init_576 (fun G278 eG278 H locs hH => ?_)
    replace h := h G278 eG278
    replace hg := hg.sh eG278
    refine lv_aload_n hx hb dX9_init_579 rfl (lv_at hl 0 rfl) ?_
    refine lv_bipush (v := 16) hx hb dX9_init_580 (by decide) ?_
    obtain ⟨hk281, hj281, h⟩ := h
    refine g_newI hx hb (hB _ bw1_38) (hg.K hK) hH aA_hA (kOK.at (hg.k hk) (t := 0) rfl) 16 (by decide) (by decide) (by decide) hk281 hj281 dX9_init_582 (fun a_281 G281 σ281 eG281 eσ281 H hH => ?_)
    replace h := h a_281 G281 σ281 eG281 eσ281
    replace hg := hg.ext eG281
    refine W.eq (g2 := F0 m 584 ls [.ref a_281, .ref a0]) (by rw [eG281, gext_at]) ?_
    obtain ⟨c_282, p_282, ha282, ho282, hp282, h⟩ := h
    refine n_putFr hx hb hB inB9 tyX9 tyX9_ok nmX9 hown (hg.K hK) hH ha282 ho282 rfl 79 (by decide) k219 rfl hp282 rfl hin rfl rfl rfl dX9_init_584 (fun G282 eG282 H locs hH => ?_)
    replace h := h G282 eG282
    replace hg := hg.sh eG282
    refine lv_aload_n hx hb dX9_init_587 rfl (lv_at hl 0 rfl) ?_
    refine lv_sipush (v := 128) hx hb dX9_init_588 (by decide) ?_
    obtain ⟨hk285, hj285, h⟩ := h
    refine g_newI hx hb (hB _ bw1_38) (hg.K hK) hH aA_hA (kOK.at (hg.k hk) (t := 0) rfl) 128 (by decide) (by decide) (by decide) hk285 hj285 dX9_init_591 (fun a_285 G285 σ285 eG285 eσ285 H hH => ?_)
    replace h := h a_285 G285 σ285 eG285 eσ285
    replace hg := hg.ext eG285
    refine W.eq (g2 := F0 m 593 ls [.ref a_285, .ref a0]) (by rw [eG285, gext_at]) ?_
    obtain ⟨c_286, p_286, ha286, ho286, hp286, h⟩ := h
    refine n_putFr hx hb hB inB9 tyX9 tyX9_ok nmX9 hown (hg.K hK) hH ha286 ho286 rfl 80 (by decide) k222 rfl hp286 rfl hin rfl rfl rfl dX9_init_593 (fun G286 eG286 H locs hH => ?_)
    replace h := h G286 eG286
    replace hg := hg.sh eG286
    refine lv_aload_n hx hb dX9_init_596 rfl (lv_at hl 0 rfl) ?_
    refine lv_sipush (v := 250) hx hb dX9_init_597 (by decide) ?_
    obtain ⟨hk289, hj289, h⟩ := h
    refine g_newI hx hb (hB _ bw1_38) (hg.K hK) hH aA_hA (kOK.at (hg.k hk) (t := 0) rfl) 250 (by decide) (by decide) (by decide) hk289 hj289 dX9_init_600 (fun a_289 G289 σ289 eG289 eσ289 H hH => ?_)
    replace h := h a_289 G289 σ289 eG289 eσ289
    replace hg := hg.ext eG289
    refine W.eq (g2 := F0 m 602 ls [.ref a_289, .ref a0]) (by rw [eG289, gext_at]) ?_
    obtain ⟨c_290, p_290, ha290, ho290, hp290, h⟩ := h
    refine n_putFr hx hb hB inB9 tyX9 tyX9_ok nmX9 hown (hg.K hK) hH ha290 ho290 rfl 81 (by decide) k225 rfl hp290 rfl hin rfl rfl rfl dX9_init_602 (fun G290 eG290 H locs hH => ?_)
    replace h := h G290 eG290
    replace hg := hg.sh eG290
    exact L605 a0 x1 x2 G290 σ289 (k + 1 + 1 + 1 + 1 + 1 + 1) (j + 256 + 176 + 16 + 16 + 128 + 250) _ _ ls hg hH (lv_sub hl [0, 1, 2] rfl) h
  have L503 : ∀ (a0 : Nat) (x1 : Int32) (x2 : Int32) (G1 : GG) (σ : Sg) (k j : Nat) (H : Heap) (locs : List Loc) (ls : Array Slot), SameG G G1 → Hx G1 (aA G s.heap.size) s σ H locs → lv_has ls 4 [(0, .ref a0), (1, .int x1), (2, .int x2)] → wpX9_init_L503 kA Q a0 x1 x2 G1 σ k j → W p l e ({ frames := 3, cells := 72, slots := 459009, locals := 68 }) s m args below meth c H locs k j (Zn G Q 72 459009 below args s) (F0 m 503 ls []) := by
    intro a0 x1 x2 G1 σ k j H locs ls hg hH hl h
    unfold wpX9_init_L503 at h
    refine lv_aload_n hx hb dX9_init_503 rfl (lv_at hl 0 rfl) ?_
    refine lv_bipush (v := 8) hx hb dX9_init_504 (by decide) ?_
    obtain ⟨hk245, hj245, h⟩ := h
    refine g_newI hx hb (hB _ bw1_38) (hg.K hK) hH aA_hA (kOK.at (hg.k hk) (t := 0) rfl) 8 (by decide) (by decide) (by decide) hk245 hj245 dX9_init_506 (fun a_245 G245 σ245 eG245 eσ245 H hH => ?_)
    replace h := h a_245 G245 σ245 eG245 eσ245
    replace hg := hg.ext eG245
    refine W.eq (g2 := F0 m 508 ls [.ref a_245, .ref a0]) (by rw [eG245, gext_at]) ?_
    obtain ⟨c_246, p_246, ha246, ho246, hp246, h⟩ := h
    refine n_putFr hx hb hB inB9 tyX9 tyX9_ok nmX9 hown (hg.K hK) hH ha246 ho246 rfl 70 (by decide) k192 rfl hp246 rfl hin rfl rfl rfl dX9_init_508 (fun G246 eG246 H locs hH => ?_)
    replace h := h G246 eG246
    replace hg := hg.sh eG246
    refine lv_aload_n hx hb dX9_init_511 rfl (lv_at hl 0 rfl) ?_
    refine lv_sipush (v := 2000) hx hb dX9_init_512 (by decide) ?_
    obtain ⟨hk249, hj249, h⟩ := h
    refine g_newI hx hb (hB _ bw1_38) (hg.K hK) hH aA_hA (kOK.at (hg.k hk) (t := 0) rfl) 2000 (by decide) (by decide) (by decide) hk249 hj249 dX9_init_515 (fun a_249 G249 σ249 eG249 eσ249 H hH => ?_)
    replace h := h a_249 G249 σ249 eG249 eσ249
    replace hg := hg.ext eG249
    refine W.eq (g2 := F0 m 517 ls [.ref a_249, .ref a0]) (by rw [eG249, gext_at]) ?_
    obtain ⟨c_250, p_250, ha250, ho250, hp250, h⟩ := h
    refine n_putFr hx hb hB inB9 tyX9 tyX9_ok nmX9 hown (hg.K hK) hH ha250 ho250 rfl 71 (by decide) k195 rfl hp250 rfl hin rfl rfl rfl dX9_init_517 (fun G250 eG250 H locs hH => ?_)
    replace h := h G250 eG250
    replace hg := hg.sh eG250
    refine lv_aload_n hx hb dX9_init_520 rfl (lv_at hl 0 rfl) ?_
    refine lv_bipush (v := 8) hx hb dX9_init_521 (by decide) ?_
    obtain ⟨hk253, hj253, h⟩ := h
    refine g_newZ hx hb (hB _ bw1_112) (hg.K hK) hH aA_hA (kOK.at (hg.k hk) (t := 1) rfl) 8 (by decide) (by decide) (by decide) hk253 hj253 dX9_init_523 (fun a_253 G253 σ253 eG253 eσ253 H hH => ?_)
    replace h := h a_253 G253 σ253 eG253 eσ253
    replace hg := hg.ext eG253
    refine W.eq (g2 := F0 m 525 ls [.ref a_253, .ref a0]) (by rw [eG253, gext_at]) ?_
    obtain ⟨c_254, p_254, ha254, ho254, hp254, h⟩ := h
    refine n_putFr hx hb hB inB9 tyX9 tyX9_ok nmX9 hown (hg.K hK) hH ha254 ho254 rfl 72 (by decide) k198 rfl hp254 rfl hin rfl rfl rfl dX9_init_525 (fun G254 eG254 H locs hH => ?_)
    replace h := h G254 eG254
    replace hg := hg.sh eG254
    refine lv_aload_n hx hb dX9_init_528 rfl (lv_at hl 0 rfl) ?_
    refine lv_iconst (v := 2) hx hb dX9_init_529 (by decide) ?_
    obtain ⟨hk257, hj257, h⟩ := h
    refine g_newI hx hb (hB _ bw1_38) (hg.K hK) hH aA_hA (kOK.at (hg.k hk) (t := 0) rfl) 2 (by decide) (by decide) (by decide) hk257 hj257 dX9_init_530 (fun a_257 G257 σ257 eG257 eσ257 H hH => ?_)
    replace h := h a_257 G257 σ257 eG257 eσ257
    replace hg := hg.ext eG257
    refine W.eq (g2 := F0 m 532 ls [.ref a_257, .ref a0]) (by rw [eG257, gext_at]) ?_
    obtain ⟨c_258, p_258, ha258, ho258, hp258, h⟩ := h
    refine n_putFr hx hb hB inB9 tyX9 tyX9_ok nmX9 hown (hg.K hK) hH ha258 ho258 rfl 73 (by decide) k201 rfl hp258 rfl hin rfl rfl rfl dX9_init_532 (fun G258 eG258 H locs hH => ?_)
    replace h := h G258 eG258
    replace hg := hg.sh eG258
    refine lv_aload_n hx hb dX9_init_535 rfl (lv_at hl 0 rfl) ?_
    refine lv_sipush (v := 500) hx hb dX9_init_536 (by decide) ?_
    obtain ⟨hk261, hj261, h⟩ := h
    refine g_newI hx hb (hB _ bw1_38) (hg.K hK) hH aA_hA (kOK.at (hg.k hk) (t := 0) rfl) 500 (by decide) (by decide) (by decide) hk261 hj261 dX9_init_539 (fun a_261 G261 σ261 eG261 eσ261 H hH => ?_)
    replace h := h a_261 G261 σ261 eG261 eσ261
    replace hg := hg.ext eG261
    refine W.eq (g2 := F0 m 541 ls [.ref a_261, .ref a0]) (by rw [eG261, gext_at]) ?_
    obtain ⟨c_262, p_262, ha262, ho262, hp262, h⟩ := h
    refine n_putFr hx hb hB inB9 tyX9 tyX9_ok nmX9 hown (hg.K hK) hH ha262 ho262 rfl 74 (by decide) k204 rfl hp262 rfl hin rfl rfl rfl dX9_init_541 (fun G262 eG262 H locs hH => ?_)
    replace h := h G262 eG262
    replace hg := hg.sh eG262
    refine lv_aload_n hx hb dX9_init_544 rfl (lv_at hl 0 rfl) ?_
    refine lv_sipush (v := 250) hx hb dX9_init_545 (by decide) ?_
    obtain ⟨hk265, hj265, h⟩ := h
    refine g_newI hx hb (hB _ bw1_38) (hg.K hK) hH aA_hA (kOK.at (hg.k hk) (t := 0) rfl) 250 (by decide) (by decide) (by decide) hk265 hj265 dX9_init_548 (fun a_265 G265 σ265 eG265 eσ265 H hH => ?_)
    replace h := h a_265 G265 σ265 eG265 eσ265
    replace hg := hg.ext eG265
    refine W.eq (g2 := F0 m 550 ls [.ref a_265, .ref a0]) (by rw [eG265, gext_at]) ?_
    obtain ⟨c_266, p_266, ha266, ho266, hp266, h⟩ := h
    refine n_putFr hx hb hB inB9 tyX9 tyX9_ok nmX9 hown (hg.K hK) hH ha266 ho266 rfl 75 (by decide) k207 rfl hp266 rfl hin rfl rfl rfl dX9_init_550 (fun G266 eG266 H locs hH => ?_)
    replace h := h G266 eG266
    replace hg := hg.sh eG266
    exact L553 a0 x1 x2 G266 σ265 (k + 1 + 1 + 1 + 1 + 1 + 1) (j + 8 + 2000 + 8 + 2 + 500 + 250) _ _ ls hg hH (lv_sub hl [0, 1, 2] rfl) h
  have L451 : ∀ (a0 : Nat) (x1 : Int32) (x2 : Int32) (G1 : GG) (σ : Sg) (k j : Nat) (H : Heap) (locs : List Loc) (ls : Array Slot), SameG G G1 → Hx G1 (aA G s.heap.size) s σ H locs → lv_has ls 4 [(0, .ref a0), (1, .int x1), (2, .int x2)] → wpX9_init_L451 kA Q a0 x1 x2 G1 σ k j → W p l e ({ frames := 3, cells := 72, slots := 459009, locals := 68 }) s m args below meth c H locs k j (Zn G Q 72 459009 below args s) (F0 m 451 ls []) := by
    intro a0 x1 x2 G1 σ k j H locs ls hg hH hl h
    unfold wpX9_init_L451 at h
    refine lv_aload_n hx hb dX9_init_451 rfl (lv_at hl 0 rfl) ?_
    refine lv_bipush (v := 6) hx hb dX9_init_452 (by decide) ?_
    obtain ⟨hk221, hj221, h⟩ := h
    refine g_newI hx hb (hB _ bw1_38) (hg.K hK) hH aA_hA (kOK.at (hg.k hk) (t := 0) rfl) 6 (by decide) (by decide) (by decide) hk221 hj221 dX9_init_454 (fun a_221 G221 σ221 eG221 eσ221 H hH => ?_)
    replace h := h a_221 G221 σ221 eG221 eσ221
    replace hg := hg.ext eG221
    refine W.eq (g2 := F0 m 456 ls [.ref a_221, .ref a0]) (by rw [eG221, gext_at]) ?_
    obtain ⟨c_222, p_222, ha222, ho222, hp222, h⟩ := h
    refine n_putFr hx hb hB inB9 tyX9 tyX9_ok nmX9 hown (hg.K hK) hH ha222 ho222 rfl 64 (by decide) k174 rfl hp222 rfl hin rfl rfl rfl dX9_init_456 (fun G222 eG222 H locs hH => ?_)
    replace h := h G222 eG222
    replace hg := hg.sh eG222
    refine lv_aload_n hx hb dX9_init_459 rfl (lv_at hl 0 rfl) ?_
    refine lv_sipush (v := 192) hx hb dX9_init_460 (by decide) ?_
    obtain ⟨hk225, hj225, h⟩ := h
    refine g_newI hx hb (hB _ bw1_38) (hg.K hK) hH aA_hA (kOK.at (hg.k hk) (t := 0) rfl) 192 (by decide) (by decide) (by decide) hk225 hj225 dX9_init_463 (fun a_225 G225 σ225 eG225 eσ225 H hH => ?_)
    replace h := h a_225 G225 σ225 eG225 eσ225
    replace hg := hg.ext eG225
    refine W.eq (g2 := F0 m 465 ls [.ref a_225, .ref a0]) (by rw [eG225, gext_at]) ?_
    obtain ⟨c_226, p_226, ha226, ho226, hp226, h⟩ := h
    refine n_putFr hx hb hB inB9 tyX9 tyX9_ok nmX9 hown (hg.K hK) hH ha226 ho226 rfl 65 (by decide) k177 rfl hp226 rfl hin rfl rfl rfl dX9_init_465 (fun G226 eG226 H locs hH => ?_)
    replace h := h G226 eG226
    replace hg := hg.sh eG226
    refine lv_aload_n hx hb dX9_init_468 rfl (lv_at hl 0 rfl) ?_
    refine lv_sipush (v := 23040) hx hb dX9_init_469 (by decide) ?_
    obtain ⟨hk229, hj229, h⟩ := h
    refine g_newI hx hb (hB _ bw1_38) (hg.K hK) hH aA_hA (kOK.at (hg.k hk) (t := 0) rfl) 23040 (by decide) (by decide) (by decide) hk229 hj229 dX9_init_472 (fun a_229 G229 σ229 eG229 eσ229 H hH => ?_)
    replace h := h a_229 G229 σ229 eG229 eσ229
    replace hg := hg.ext eG229
    refine W.eq (g2 := F0 m 474 ls [.ref a_229, .ref a0]) (by rw [eG229, gext_at]) ?_
    obtain ⟨c_230, p_230, ha230, ho230, hp230, h⟩ := h
    refine n_putFr hx hb hB inB9 tyX9 tyX9_ok nmX9 hown (hg.K hK) hH ha230 ho230 rfl 66 (by decide) k180 rfl hp230 rfl hin rfl rfl rfl dX9_init_474 (fun G230 eG230 H locs hH => ?_)
    replace h := h G230 eG230
    replace hg := hg.sh eG230
    refine lv_aload_n hx hb dX9_init_477 rfl (lv_at hl 0 rfl) ?_
    refine lv_sipush (v := 720) hx hb dX9_init_478 (by decide) ?_
    obtain ⟨hk233, hj233, h⟩ := h
    refine g_newI hx hb (hB _ bw1_38) (hg.K hK) hH aA_hA (kOK.at (hg.k hk) (t := 0) rfl) 720 (by decide) (by decide) (by decide) hk233 hj233 dX9_init_481 (fun a_233 G233 σ233 eG233 eσ233 H hH => ?_)
    replace h := h a_233 G233 σ233 eG233 eσ233
    replace hg := hg.ext eG233
    refine W.eq (g2 := F0 m 483 ls [.ref a_233, .ref a0]) (by rw [eG233, gext_at]) ?_
    obtain ⟨c_234, p_234, ha234, ho234, hp234, h⟩ := h
    refine n_putFr hx hb hB inB9 tyX9 tyX9_ok nmX9 hown (hg.K hK) hH ha234 ho234 rfl 67 (by decide) k183 rfl hp234 rfl hin rfl rfl rfl dX9_init_483 (fun G234 eG234 H locs hH => ?_)
    replace h := h G234 eG234
    replace hg := hg.sh eG234
    refine lv_aload_n hx hb dX9_init_486 rfl (lv_at hl 0 rfl) ?_
    refine lv_sipush (v := 192) hx hb dX9_init_487 (by decide) ?_
    obtain ⟨hk237, hj237, h⟩ := h
    refine g_newZ hx hb (hB _ bw1_112) (hg.K hK) hH aA_hA (kOK.at (hg.k hk) (t := 1) rfl) 192 (by decide) (by decide) (by decide) hk237 hj237 dX9_init_490 (fun a_237 G237 σ237 eG237 eσ237 H hH => ?_)
    replace h := h a_237 G237 σ237 eG237 eσ237
    replace hg := hg.ext eG237
    refine W.eq (g2 := F0 m 492 ls [.ref a_237, .ref a0]) (by rw [eG237, gext_at]) ?_
    obtain ⟨c_238, p_238, ha238, ho238, hp238, h⟩ := h
    refine n_putFr hx hb hB inB9 tyX9 tyX9_ok nmX9 hown (hg.K hK) hH ha238 ho238 rfl 68 (by decide) k186 rfl hp238 rfl hin rfl rfl rfl dX9_init_492 (fun G238 eG238 H locs hH => ?_)
    replace h := h G238 eG238
    replace hg := hg.sh eG238
    refine lv_aload_n hx hb dX9_init_495 rfl (lv_at hl 0 rfl) ?_
    refine lv_bipush (v := 8) hx hb dX9_init_496 (by decide) ?_
    obtain ⟨hk241, hj241, h⟩ := h
    refine g_newI hx hb (hB _ bw1_38) (hg.K hK) hH aA_hA (kOK.at (hg.k hk) (t := 0) rfl) 8 (by decide) (by decide) (by decide) hk241 hj241 dX9_init_498 (fun a_241 G241 σ241 eG241 eσ241 H hH => ?_)
    replace h := h a_241 G241 σ241 eG241 eσ241
    replace hg := hg.ext eG241
    refine W.eq (g2 := F0 m 500 ls [.ref a_241, .ref a0]) (by rw [eG241, gext_at]) ?_
    obtain ⟨c_242, p_242, ha242, ho242, hp242, h⟩ := h
    refine n_putFr hx hb hB inB9 tyX9 tyX9_ok nmX9 hown (hg.K hK) hH ha242 ho242 rfl 69 (by decide) k189 rfl hp242 rfl hin rfl rfl rfl dX9_init_500 (fun G242 eG242 H locs hH => ?_)
    replace h := h G242 eG242
    replace hg := hg.sh eG242
    exact L503 a0 x1 x2 G242 σ241 (k + 1 + 1 + 1 + 1 + 1 + 1) (j + 6 + 192 + 23040 + 720 + 192 + 8) _ _ ls hg hH (lv_sub hl [0, 1, 2] rfl) h
  have L402 : ∀ (a0 : Nat) (x1 : Int32) (x2 : Int32) (G1 : GG) (σ : Sg) (k j : Nat) (H : Heap) (locs : List Loc) (ls : Array Slot), SameG G G1 → Hx G1 (aA G s.heap.size) s σ H locs → lv_has ls 4 [(0, .ref a0), (1, .int x1), (2, .int x2)] → wpX9_init_L402 kA Q a0 x1 x2 G1 σ k j → W p l e ({ frames := 3, cells := 72, slots := 459009, locals := 68 }) s m args below meth c H locs k j (Zn G Q 72 459009 below args s) (F0 m 402 ls []) := by
    intro a0 x1 x2 G1 σ k j H locs ls hg hH hl h
    unfold wpX9_init_L402 at h
    refine lv_aload_n hx hb dX9_init_402 rfl (lv_at hl 0 rfl) ?_
    refine lv_bipush (v := 6) hx hb dX9_init_403 (by decide) ?_
    obtain ⟨hk197, hj197, h⟩ := h
    refine g_newI hx hb (hB _ bw1_38) (hg.K hK) hH aA_hA (kOK.at (hg.k hk) (t := 0) rfl) 6 (by decide) (by decide) (by decide) hk197 hj197 dX9_init_405 (fun a_197 G197 σ197 eG197 eσ197 H hH => ?_)
    replace h := h a_197 G197 σ197 eG197 eσ197
    replace hg := hg.ext eG197
    refine W.eq (g2 := F0 m 407 ls [.ref a_197, .ref a0]) (by rw [eG197, gext_at]) ?_
    obtain ⟨c_198, p_198, ha198, ho198, hp198, h⟩ := h
    refine n_putFr hx hb hB inB9 tyX9 tyX9_ok nmX9 hown (hg.K hK) hH ha198 ho198 rfl 58 (by decide) k156 rfl hp198 rfl hin rfl rfl rfl dX9_init_407 (fun G198 eG198 H locs hH => ?_)
    replace h := h G198 eG198
    replace hg := hg.sh eG198
    refine lv_aload_n hx hb dX9_init_410 rfl (lv_at hl 0 rfl) ?_
    refine lv_sipush (v := 1536) hx hb dX9_init_411 (by decide) ?_
    obtain ⟨hk201, hj201, h⟩ := h
    refine g_newI hx hb (hB _ bw1_38) (hg.K hK) hH aA_hA (kOK.at (hg.k hk) (t := 0) rfl) 1536 (by decide) (by decide) (by decide) hk201 hj201 dX9_init_414 (fun a_201 G201 σ201 eG201 eσ201 H hH => ?_)
    replace h := h a_201 G201 σ201 eG201 eσ201
    replace hg := hg.ext eG201
    refine W.eq (g2 := F0 m 416 ls [.ref a_201, .ref a0]) (by rw [eG201, gext_at]) ?_
    obtain ⟨c_202, p_202, ha202, ho202, hp202, h⟩ := h
    refine n_putFr hx hb hB inB9 tyX9 tyX9_ok nmX9 hown (hg.K hK) hH ha202 ho202 rfl 59 (by decide) k159 rfl hp202 rfl hin rfl rfl rfl dX9_init_416 (fun G202 eG202 H locs hH => ?_)
    replace h := h G202 eG202
    replace hg := hg.sh eG202
    refine lv_aload_n hx hb dX9_init_419 rfl (lv_at hl 0 rfl) ?_
    refine lv_bipush (v := 6) hx hb dX9_init_420 (by decide) ?_
    obtain ⟨hk205, hj205, h⟩ := h
    refine g_newI hx hb (hB _ bw1_38) (hg.K hK) hH aA_hA (kOK.at (hg.k hk) (t := 0) rfl) 6 (by decide) (by decide) (by decide) hk205 hj205 dX9_init_422 (fun a_205 G205 σ205 eG205 eσ205 H hH => ?_)
    replace h := h a_205 G205 σ205 eG205 eσ205
    replace hg := hg.ext eG205
    refine W.eq (g2 := F0 m 424 ls [.ref a_205, .ref a0]) (by rw [eG205, gext_at]) ?_
    obtain ⟨c_206, p_206, ha206, ho206, hp206, h⟩ := h
    refine n_putFr hx hb hB inB9 tyX9 tyX9_ok nmX9 hown (hg.K hK) hH ha206 ho206 rfl 60 (by decide) k162 rfl hp206 rfl hin rfl rfl rfl dX9_init_424 (fun G206 eG206 H locs hH => ?_)
    replace h := h G206 eG206
    replace hg := hg.sh eG206
    refine lv_aload_n hx hb dX9_init_427 rfl (lv_at hl 0 rfl) ?_
    refine lv_bipush (v := 6) hx hb dX9_init_428 (by decide) ?_
    obtain ⟨hk209, hj209, h⟩ := h
    refine g_newI hx hb (hB _ bw1_38) (hg.K hK) hH aA_hA (kOK.at (hg.k hk) (t := 0) rfl) 6 (by decide) (by decide) (by decide) hk209 hj209 dX9_init_430 (fun a_209 G209 σ209 eG209 eσ209 H hH => ?_)
    replace h := h a_209 G209 σ209 eG209 eσ209
    replace hg := hg.ext eG209
    refine W.eq (g2 := F0 m 432 ls [.ref a_209, .ref a0]) (by rw [eG209, gext_at]) ?_
    obtain ⟨c_210, p_210, ha210, ho210, hp210, h⟩ := h
    refine n_putFr hx hb hB inB9 tyX9 tyX9_ok nmX9 hown (hg.K hK) hH ha210 ho210 rfl 61 (by decide) k165 rfl hp210 rfl hin rfl rfl rfl dX9_init_432 (fun G210 eG210 H locs hH => ?_)
    replace h := h G210 eG210
    replace hg := hg.sh eG210
    refine lv_aload_n hx hb dX9_init_435 rfl (lv_at hl 0 rfl) ?_
    refine lv_bipush (v := 6) hx hb dX9_init_436 (by decide) ?_
    obtain ⟨hk213, hj213, h⟩ := h
    refine g_newI hx hb (hB _ bw1_38) (hg.K hK) hH aA_hA (kOK.at (hg.k hk) (t := 0) rfl) 6 (by decide) (by decide) (by decide) hk213 hj213 dX9_init_438 (fun a_213 G213 σ213 eG213 eσ213 H hH => ?_)
    replace h := h a_213 G213 σ213 eG213 eσ213
    replace hg := hg.ext eG213
    refine W.eq (g2 := F0 m 440 ls [.ref a_213, .ref a0]) (by rw [eG213, gext_at]) ?_
    obtain ⟨c_214, p_214, ha214, ho214, hp214, h⟩ := h
    refine n_putFr hx hb hB inB9 tyX9 tyX9_ok nmX9 hown (hg.K hK) hH ha214 ho214 rfl 62 (by decide) k168 rfl hp214 rfl hin rfl rfl rfl dX9_init_440 (fun G214 eG214 H locs hH => ?_)
    replace h := h G214 eG214
    replace hg := hg.sh eG214
    refine lv_aload_n hx hb dX9_init_443 rfl (lv_at hl 0 rfl) ?_
    refine lv_bipush (v := 6) hx hb dX9_init_444 (by decide) ?_
    obtain ⟨hk217, hj217, h⟩ := h
    refine g_newI hx hb (hB _ bw1_38) (hg.K hK) hH aA_hA (kOK.at (hg.k hk) (t := 0) rfl) 6 (by decide) (by decide) (by decide) hk217 hj217 dX9_init_446 (fun a_217 G217 σ217 eG217 eσ217 H hH => ?_)
    replace h := h a_217 G217 σ217 eG217 eσ217
    replace hg := hg.ext eG217
    refine W.eq (g2 := F0 m 448 ls [.ref a_217, .ref a0]) (by rw [eG217, gext_at]) ?_
    obtain ⟨c_218, p_218, ha218, ho218, hp218, h⟩ := h
    refine n_putFr hx hb hB inB9 tyX9 tyX9_ok nmX9 hown (hg.K hK) hH ha218 ho218 rfl 63 (by decide) k171 rfl hp218 rfl hin rfl rfl rfl dX9_init_448 (fun G218 eG218 H locs hH => ?_)
    replace h := h G218 eG218
    replace hg := hg.sh eG218
    exact L451 a0 x1 x2 G218 σ217 (k + 1 + 1 + 1 + 1 + 1 + 1) (j + 6 + 1536 + 6 + 6 + 6 + 6) _ _ ls hg hH (lv_sub hl [0, 1, 2] rfl) h
  have L353 : ∀ (a0 : Nat) (x1 : Int32) (x2 : Int32) (G1 : GG) (σ : Sg) (k j : Nat) (H : Heap) (locs : List Loc) (ls : Array Slot), SameG G G1 → Hx G1 (aA G s.heap.size) s σ H locs → lv_has ls 4 [(0, .ref a0), (1, .int x1), (2, .int x2)] → wpX9_init_L353 kA Q a0 x1 x2 G1 σ k j → W p l e ({ frames := 3, cells := 72, slots := 459009, locals := 68 }) s m args below meth c H locs k j (Zn G Q 72 459009 below args s) (F0 m 353 ls []) := by
    intro a0 x1 x2 G1 σ k j H locs ls hg hH hl h
    unfold wpX9_init_L353 at h
    refine lv_aload_n hx hb dX9_init_353 rfl (lv_at hl 0 rfl) ?_
    refine lv_bipush (v := 6) hx hb dX9_init_354 (by decide) ?_
    obtain ⟨hk173, hj173, h⟩ := h
    refine g_newZ hx hb (hB _ bw1_112) (hg.K hK) hH aA_hA (kOK.at (hg.k hk) (t := 1) rfl) 6 (by decide) (by decide) (by decide) hk173 hj173 dX9_init_356 (fun a_173 G173 σ173 eG173 eσ173 H hH => ?_)
    replace h := h a_173 G173 σ173 eG173 eσ173
    replace hg := hg.ext eG173
    refine W.eq (g2 := F0 m 358 ls [.ref a_173, .ref a0]) (by rw [eG173, gext_at]) ?_
    obtain ⟨c_174, p_174, ha174, ho174, hp174, h⟩ := h
    refine n_putFr hx hb hB inB9 tyX9 tyX9_ok nmX9 hown (hg.K hK) hH ha174 ho174 rfl 52 (by decide) k137 rfl hp174 rfl hin rfl rfl rfl dX9_init_358 (fun G174 eG174 H locs hH => ?_)
    replace h := h G174 eG174
    replace hg := hg.sh eG174
    refine lv_aload_n hx hb dX9_init_361 rfl (lv_at hl 0 rfl) ?_
    refine lv_sipush (v := 192) hx hb dX9_init_362 (by decide) ?_
    obtain ⟨hk177, hj177, h⟩ := h
    refine g_newI hx hb (hB _ bw1_38) (hg.K hK) hH aA_hA (kOK.at (hg.k hk) (t := 0) rfl) 192 (by decide) (by decide) (by decide) hk177 hj177 dX9_init_365 (fun a_177 G177 σ177 eG177 eσ177 H hH => ?_)
    replace h := h a_177 G177 σ177 eG177 eσ177
    replace hg := hg.ext eG177
    refine W.eq (g2 := F0 m 367 ls [.ref a_177, .ref a0]) (by rw [eG177, gext_at]) ?_
    obtain ⟨c_178, p_178, ha178, ho178, hp178, h⟩ := h
    refine n_putFr hx hb hB inB9 tyX9 tyX9_ok nmX9 hown (hg.K hK) hH ha178 ho178 rfl 53 (by decide) k140 rfl hp178 rfl hin rfl rfl rfl dX9_init_367 (fun G178 eG178 H locs hH => ?_)
    replace h := h G178 eG178
    replace hg := hg.sh eG178
    refine lv_aload_n hx hb dX9_init_370 rfl (lv_at hl 0 rfl) ?_
    refine lv_ldc (v := 46080) hx hb hown (hB _ bw4_99) dX9_init_371 ?_
    obtain ⟨hk181, hj181, h⟩ := h
    refine g_newI hx hb (hB _ bw1_38) (hg.K hK) hH aA_hA (kOK.at (hg.k hk) (t := 0) rfl) 46080 (by decide) (by decide) (by decide) hk181 hj181 dX9_init_373 (fun a_181 G181 σ181 eG181 eσ181 H hH => ?_)
    replace h := h a_181 G181 σ181 eG181 eσ181
    replace hg := hg.ext eG181
    refine W.eq (g2 := F0 m 375 ls [.ref a_181, .ref a0]) (by rw [eG181, gext_at]) ?_
    obtain ⟨c_182, p_182, ha182, ho182, hp182, h⟩ := h
    refine n_putFr hx hb hB inB9 tyX9 tyX9_ok nmX9 hown (hg.K hK) hH ha182 ho182 rfl 54 (by decide) k144 rfl hp182 rfl hin rfl rfl rfl dX9_init_375 (fun G182 eG182 H locs hH => ?_)
    replace h := h G182 eG182
    replace hg := hg.sh eG182
    refine lv_aload_n hx hb dX9_init_378 rfl (lv_at hl 0 rfl) ?_
    refine lv_ldc (v := 46080) hx hb hown (hB _ bw4_99) dX9_init_379 ?_
    obtain ⟨hk185, hj185, h⟩ := h
    refine g_newZ hx hb (hB _ bw1_112) (hg.K hK) hH aA_hA (kOK.at (hg.k hk) (t := 1) rfl) 46080 (by decide) (by decide) (by decide) hk185 hj185 dX9_init_381 (fun a_185 G185 σ185 eG185 eσ185 H hH => ?_)
    replace h := h a_185 G185 σ185 eG185 eσ185
    replace hg := hg.ext eG185
    refine W.eq (g2 := F0 m 383 ls [.ref a_185, .ref a0]) (by rw [eG185, gext_at]) ?_
    obtain ⟨c_186, p_186, ha186, ho186, hp186, h⟩ := h
    refine n_putFr hx hb hB inB9 tyX9 tyX9_ok nmX9 hown (hg.K hK) hH ha186 ho186 rfl 55 (by decide) k147 rfl hp186 rfl hin rfl rfl rfl dX9_init_383 (fun G186 eG186 H locs hH => ?_)
    replace h := h G186 eG186
    replace hg := hg.sh eG186
    refine lv_aload_n hx hb dX9_init_386 rfl (lv_at hl 0 rfl) ?_
    refine lv_ldc (v := 46080) hx hb hown (hB _ bw4_99) dX9_init_387 ?_
    obtain ⟨hk189, hj189, h⟩ := h
    refine g_newZ hx hb (hB _ bw1_112) (hg.K hK) hH aA_hA (kOK.at (hg.k hk) (t := 1) rfl) 46080 (by decide) (by decide) (by decide) hk189 hj189 dX9_init_389 (fun a_189 G189 σ189 eG189 eσ189 H hH => ?_)
    replace h := h a_189 G189 σ189 eG189 eσ189
    replace hg := hg.ext eG189
    refine W.eq (g2 := F0 m 391 ls [.ref a_189, .ref a0]) (by rw [eG189, gext_at]) ?_
    obtain ⟨c_190, p_190, ha190, ho190, hp190, h⟩ := h
    refine n_putFr hx hb hB inB9 tyX9 tyX9_ok nmX9 hown (hg.K hK) hH ha190 ho190 rfl 56 (by decide) k150 rfl hp190 rfl hin rfl rfl rfl dX9_init_391 (fun G190 eG190 H locs hH => ?_)
    replace h := h G190 eG190
    replace hg := hg.sh eG190
    refine lv_aload_n hx hb dX9_init_394 rfl (lv_at hl 0 rfl) ?_
    refine lv_ldc (v := 46080) hx hb hown (hB _ bw4_99) dX9_init_395 ?_
    obtain ⟨hk193, hj193, h⟩ := h
    refine g_newZ hx hb (hB _ bw1_112) (hg.K hK) hH aA_hA (kOK.at (hg.k hk) (t := 1) rfl) 46080 (by decide) (by decide) (by decide) hk193 hj193 dX9_init_397 (fun a_193 G193 σ193 eG193 eσ193 H hH => ?_)
    replace h := h a_193 G193 σ193 eG193 eσ193
    replace hg := hg.ext eG193
    refine W.eq (g2 := F0 m 399 ls [.ref a_193, .ref a0]) (by rw [eG193, gext_at]) ?_
    obtain ⟨c_194, p_194, ha194, ho194, hp194, h⟩ := h
    refine n_putFr hx hb hB inB9 tyX9 tyX9_ok nmX9 hown (hg.K hK) hH ha194 ho194 rfl 57 (by decide) k153 rfl hp194 rfl hin rfl rfl rfl dX9_init_399 (fun G194 eG194 H locs hH => ?_)
    replace h := h G194 eG194
    replace hg := hg.sh eG194
    exact L402 a0 x1 x2 G194 σ193 (k + 1 + 1 + 1 + 1 + 1 + 1) (j + 6 + 192 + 46080 + 46080 + 46080 + 46080) _ _ ls hg hH (lv_sub hl [0, 1, 2] rfl) h
  have L305 : ∀ (a0 : Nat) (x1 : Int32) (x2 : Int32) (G1 : GG) (σ : Sg) (k j : Nat) (H : Heap) (locs : List Loc) (ls : Array Slot), SameG G G1 → Hx G1 (aA G s.heap.size) s σ H locs → lv_has ls 4 [(0, .ref a0), (1, .int x1), (2, .int x2)] → wpX9_init_L305 kA Q a0 x1 x2 G1 σ k j → W p l e ({ frames := 3, cells := 72, slots := 459009, locals := 68 }) s m args below meth c H locs k j (Zn G Q 72 459009 below args s) (F0 m 305 ls []) := by
    intro a0 x1 x2 G1 σ k j H locs ls hg hH hl h
    unfold wpX9_init_L305 at h
    refine lv_aload_n hx hb dX9_init_305 rfl (lv_at hl 0 rfl) ?_
    refine lv_bipush (v := 6) hx hb dX9_init_306 (by decide) ?_
    obtain ⟨hk149, hj149, h⟩ := h
    refine g_newI hx hb (hB _ bw1_38) (hg.K hK) hH aA_hA (kOK.at (hg.k hk) (t := 0) rfl) 6 (by decide) (by decide) (by decide) hk149 hj149 dX9_init_308 (fun a_149 G149 σ149 eG149 eσ149 H hH => ?_)
    replace h := h a_149 G149 σ149 eG149 eσ149
    replace hg := hg.ext eG149
    refine W.eq (g2 := F0 m 310 ls [.ref a_149, .ref a0]) (by rw [eG149, gext_at]) ?_
    obtain ⟨c_150, p_150, ha150, ho150, hp150, h⟩ := h
    refine n_putFr hx hb hB inB9 tyX9 tyX9_ok nmX9 hown (hg.K hK) hH ha150 ho150 rfl 46 (by decide) k119 rfl hp150 rfl hin rfl rfl rfl dX9_init_310 (fun G150 eG150 H locs hH => ?_)
    replace h := h G150 eG150
    replace hg := hg.sh eG150
    refine lv_aload_n hx hb dX9_init_313 rfl (lv_at hl 0 rfl) ?_
    refine lv_bipush (v := 6) hx hb dX9_init_314 (by decide) ?_
    obtain ⟨hk153, hj153, h⟩ := h
    refine g_newI hx hb (hB _ bw1_38) (hg.K hK) hH aA_hA (kOK.at (hg.k hk) (t := 0) rfl) 6 (by decide) (by decide) (by decide) hk153 hj153 dX9_init_316 (fun a_153 G153 σ153 eG153 eσ153 H hH => ?_)
    replace h := h a_153 G153 σ153 eG153 eσ153
    replace hg := hg.ext eG153
    refine W.eq (g2 := F0 m 318 ls [.ref a_153, .ref a0]) (by rw [eG153, gext_at]) ?_
    obtain ⟨c_154, p_154, ha154, ho154, hp154, h⟩ := h
    refine n_putFr hx hb hB inB9 tyX9 tyX9_ok nmX9 hown (hg.K hK) hH ha154 ho154 rfl 47 (by decide) k122 rfl hp154 rfl hin rfl rfl rfl dX9_init_318 (fun G154 eG154 H locs hH => ?_)
    replace h := h G154 eG154
    replace hg := hg.sh eG154
    refine lv_aload_n hx hb dX9_init_321 rfl (lv_at hl 0 rfl) ?_
    refine lv_bipush (v := 6) hx hb dX9_init_322 (by decide) ?_
    obtain ⟨hk157, hj157, h⟩ := h
    refine g_newI hx hb (hB _ bw1_38) (hg.K hK) hH aA_hA (kOK.at (hg.k hk) (t := 0) rfl) 6 (by decide) (by decide) (by decide) hk157 hj157 dX9_init_324 (fun a_157 G157 σ157 eG157 eσ157 H hH => ?_)
    replace h := h a_157 G157 σ157 eG157 eσ157
    replace hg := hg.ext eG157
    refine W.eq (g2 := F0 m 326 ls [.ref a_157, .ref a0]) (by rw [eG157, gext_at]) ?_
    obtain ⟨c_158, p_158, ha158, ho158, hp158, h⟩ := h
    refine n_putFr hx hb hB inB9 tyX9 tyX9_ok nmX9 hown (hg.K hK) hH ha158 ho158 rfl 48 (by decide) k125 rfl hp158 rfl hin rfl rfl rfl dX9_init_326 (fun G158 eG158 H locs hH => ?_)
    replace h := h G158 eG158
    replace hg := hg.sh eG158
    refine lv_aload_n hx hb dX9_init_329 rfl (lv_at hl 0 rfl) ?_
    refine lv_bipush (v := 6) hx hb dX9_init_330 (by decide) ?_
    obtain ⟨hk161, hj161, h⟩ := h
    refine g_newI hx hb (hB _ bw1_38) (hg.K hK) hH aA_hA (kOK.at (hg.k hk) (t := 0) rfl) 6 (by decide) (by decide) (by decide) hk161 hj161 dX9_init_332 (fun a_161 G161 σ161 eG161 eσ161 H hH => ?_)
    replace h := h a_161 G161 σ161 eG161 eσ161
    replace hg := hg.ext eG161
    refine W.eq (g2 := F0 m 334 ls [.ref a_161, .ref a0]) (by rw [eG161, gext_at]) ?_
    obtain ⟨c_162, p_162, ha162, ho162, hp162, h⟩ := h
    refine n_putFr hx hb hB inB9 tyX9 tyX9_ok nmX9 hown (hg.K hK) hH ha162 ho162 rfl 49 (by decide) k128 rfl hp162 rfl hin rfl rfl rfl dX9_init_334 (fun G162 eG162 H locs hH => ?_)
    replace h := h G162 eG162
    replace hg := hg.sh eG162
    refine lv_aload_n hx hb dX9_init_337 rfl (lv_at hl 0 rfl) ?_
    refine lv_bipush (v := 6) hx hb dX9_init_338 (by decide) ?_
    obtain ⟨hk165, hj165, h⟩ := h
    refine g_newI hx hb (hB _ bw1_38) (hg.K hK) hH aA_hA (kOK.at (hg.k hk) (t := 0) rfl) 6 (by decide) (by decide) (by decide) hk165 hj165 dX9_init_340 (fun a_165 G165 σ165 eG165 eσ165 H hH => ?_)
    replace h := h a_165 G165 σ165 eG165 eσ165
    replace hg := hg.ext eG165
    refine W.eq (g2 := F0 m 342 ls [.ref a_165, .ref a0]) (by rw [eG165, gext_at]) ?_
    obtain ⟨c_166, p_166, ha166, ho166, hp166, h⟩ := h
    refine n_putFr hx hb hB inB9 tyX9 tyX9_ok nmX9 hown (hg.K hK) hH ha166 ho166 rfl 50 (by decide) k131 rfl hp166 rfl hin rfl rfl rfl dX9_init_342 (fun G166 eG166 H locs hH => ?_)
    replace h := h G166 eG166
    replace hg := hg.sh eG166
    refine lv_aload_n hx hb dX9_init_345 rfl (lv_at hl 0 rfl) ?_
    refine lv_bipush (v := 6) hx hb dX9_init_346 (by decide) ?_
    obtain ⟨hk169, hj169, h⟩ := h
    refine g_newI hx hb (hB _ bw1_38) (hg.K hK) hH aA_hA (kOK.at (hg.k hk) (t := 0) rfl) 6 (by decide) (by decide) (by decide) hk169 hj169 dX9_init_348 (fun a_169 G169 σ169 eG169 eσ169 H hH => ?_)
    replace h := h a_169 G169 σ169 eG169 eσ169
    replace hg := hg.ext eG169
    refine W.eq (g2 := F0 m 350 ls [.ref a_169, .ref a0]) (by rw [eG169, gext_at]) ?_
    obtain ⟨c_170, p_170, ha170, ho170, hp170, h⟩ := h
    refine n_putFr hx hb hB inB9 tyX9 tyX9_ok nmX9 hown (hg.K hK) hH ha170 ho170 rfl 51 (by decide) k134 rfl hp170 rfl hin rfl rfl rfl dX9_init_350 (fun G170 eG170 H locs hH => ?_)
    replace h := h G170 eG170
    replace hg := hg.sh eG170
    exact L353 a0 x1 x2 G170 σ169 (k + 1 + 1 + 1 + 1 + 1 + 1) (j + 6 + 6 + 6 + 6 + 6 + 6) _ _ ls hg hH (lv_sub hl [0, 1, 2] rfl) h
  have L255 : ∀ (a0 : Nat) (x1 : Int32) (x2 : Int32) (G1 : GG) (σ : Sg) (k j : Nat) (H : Heap) (locs : List Loc) (ls : Array Slot), SameG G G1 → Hx G1 (aA G s.heap.size) s σ H locs → lv_has ls 4 [(0, .ref a0), (1, .int x1), (2, .int x2)] → wpX9_init_L255 kA Q a0 x1 x2 G1 σ k j → W p l e ({ frames := 3, cells := 72, slots := 459009, locals := 68 }) s m args below meth c H locs k j (Zn G Q 72 459009 below args s) (F0 m 255 ls []) := by
    intro a0 x1 x2 G1 σ k j H locs ls hg hH hl h
    unfold wpX9_init_L255 at h
    refine lv_aload_n hx hb dX9_init_255 rfl (lv_at hl 0 rfl) ?_
    refine lv_sipush (v := 23040) hx hb dX9_init_256 (by decide) ?_
    obtain ⟨hk125, hj125, h⟩ := h
    refine g_newZ hx hb (hB _ bw1_112) (hg.K hK) hH aA_hA (kOK.at (hg.k hk) (t := 1) rfl) 23040 (by decide) (by decide) (by decide) hk125 hj125 dX9_init_259 (fun a_125 G125 σ125 eG125 eσ125 H hH => ?_)
    replace h := h a_125 G125 σ125 eG125 eσ125
    replace hg := hg.ext eG125
    refine W.eq (g2 := F0 m 261 ls [.ref a_125, .ref a0]) (by rw [eG125, gext_at]) ?_
    obtain ⟨c_126, p_126, ha126, ho126, hp126, h⟩ := h
    refine n_putFr hx hb hB inB9 tyX9 tyX9_ok nmX9 hown (hg.K hK) hH ha126 ho126 rfl 40 (by decide) k101 rfl hp126 rfl hin rfl rfl rfl dX9_init_261 (fun G126 eG126 H locs hH => ?_)
    replace h := h G126 eG126
    replace hg := hg.sh eG126
    refine lv_aload_n hx hb dX9_init_264 rfl (lv_at hl 0 rfl) ?_
    refine lv_sipush (v := 23040) hx hb dX9_init_265 (by decide) ?_
    obtain ⟨hk129, hj129, h⟩ := h
    refine g_newZ hx hb (hB _ bw1_112) (hg.K hK) hH aA_hA (kOK.at (hg.k hk) (t := 1) rfl) 23040 (by decide) (by decide) (by decide) hk129 hj129 dX9_init_268 (fun a_129 G129 σ129 eG129 eσ129 H hH => ?_)
    replace h := h a_129 G129 σ129 eG129 eσ129
    replace hg := hg.ext eG129
    refine W.eq (g2 := F0 m 270 ls [.ref a_129, .ref a0]) (by rw [eG129, gext_at]) ?_
    obtain ⟨c_130, p_130, ha130, ho130, hp130, h⟩ := h
    refine n_putFr hx hb hB inB9 tyX9 tyX9_ok nmX9 hown (hg.K hK) hH ha130 ho130 rfl 41 (by decide) k104 rfl hp130 rfl hin rfl rfl rfl dX9_init_270 (fun G130 eG130 H locs hH => ?_)
    replace h := h G130 eG130
    replace hg := hg.sh eG130
    refine lv_aload_n hx hb dX9_init_273 rfl (lv_at hl 0 rfl) ?_
    refine lv_bipush (v := 6) hx hb dX9_init_274 (by decide) ?_
    obtain ⟨hk133, hj133, h⟩ := h
    refine g_newI hx hb (hB _ bw1_38) (hg.K hK) hH aA_hA (kOK.at (hg.k hk) (t := 0) rfl) 6 (by decide) (by decide) (by decide) hk133 hj133 dX9_init_276 (fun a_133 G133 σ133 eG133 eσ133 H hH => ?_)
    replace h := h a_133 G133 σ133 eG133 eσ133
    replace hg := hg.ext eG133
    refine W.eq (g2 := F0 m 278 ls [.ref a_133, .ref a0]) (by rw [eG133, gext_at]) ?_
    obtain ⟨c_134, p_134, ha134, ho134, hp134, h⟩ := h
    refine n_putFr hx hb hB inB9 tyX9 tyX9_ok nmX9 hown (hg.K hK) hH ha134 ho134 rfl 42 (by decide) k107 rfl hp134 rfl hin rfl rfl rfl dX9_init_278 (fun G134 eG134 H locs hH => ?_)
    replace h := h G134 eG134
    replace hg := hg.sh eG134
    refine lv_aload_n hx hb dX9_init_281 rfl (lv_at hl 0 rfl) ?_
    refine lv_bipush (v := 6) hx hb dX9_init_282 (by decide) ?_
    obtain ⟨hk137, hj137, h⟩ := h
    refine g_newI hx hb (hB _ bw1_38) (hg.K hK) hH aA_hA (kOK.at (hg.k hk) (t := 0) rfl) 6 (by decide) (by decide) (by decide) hk137 hj137 dX9_init_284 (fun a_137 G137 σ137 eG137 eσ137 H hH => ?_)
    replace h := h a_137 G137 σ137 eG137 eσ137
    replace hg := hg.ext eG137
    refine W.eq (g2 := F0 m 286 ls [.ref a_137, .ref a0]) (by rw [eG137, gext_at]) ?_
    obtain ⟨c_138, p_138, ha138, ho138, hp138, h⟩ := h
    refine n_putFr hx hb hB inB9 tyX9 tyX9_ok nmX9 hown (hg.K hK) hH ha138 ho138 rfl 43 (by decide) k110 rfl hp138 rfl hin rfl rfl rfl dX9_init_286 (fun G138 eG138 H locs hH => ?_)
    replace h := h G138 eG138
    replace hg := hg.sh eG138
    refine lv_aload_n hx hb dX9_init_289 rfl (lv_at hl 0 rfl) ?_
    refine lv_bipush (v := 6) hx hb dX9_init_290 (by decide) ?_
    obtain ⟨hk141, hj141, h⟩ := h
    refine g_newI hx hb (hB _ bw1_38) (hg.K hK) hH aA_hA (kOK.at (hg.k hk) (t := 0) rfl) 6 (by decide) (by decide) (by decide) hk141 hj141 dX9_init_292 (fun a_141 G141 σ141 eG141 eσ141 H hH => ?_)
    replace h := h a_141 G141 σ141 eG141 eσ141
    replace hg := hg.ext eG141
    refine W.eq (g2 := F0 m 294 ls [.ref a_141, .ref a0]) (by rw [eG141, gext_at]) ?_
    obtain ⟨c_142, p_142, ha142, ho142, hp142, h⟩ := h
    refine n_putFr hx hb hB inB9 tyX9 tyX9_ok nmX9 hown (hg.K hK) hH ha142 ho142 rfl 44 (by decide) k113 rfl hp142 rfl hin rfl rfl rfl dX9_init_294 (fun G142 eG142 H locs hH => ?_)
    replace h := h G142 eG142
    replace hg := hg.sh eG142
    refine lv_aload_n hx hb dX9_init_297 rfl (lv_at hl 0 rfl) ?_
    refine lv_bipush (v := 6) hx hb dX9_init_298 (by decide) ?_
    obtain ⟨hk145, hj145, h⟩ := h
    refine g_newI hx hb (hB _ bw1_38) (hg.K hK) hH aA_hA (kOK.at (hg.k hk) (t := 0) rfl) 6 (by decide) (by decide) (by decide) hk145 hj145 dX9_init_300 (fun a_145 G145 σ145 eG145 eσ145 H hH => ?_)
    replace h := h a_145 G145 σ145 eG145 eσ145
    replace hg := hg.ext eG145
    refine W.eq (g2 := F0 m 302 ls [.ref a_145, .ref a0]) (by rw [eG145, gext_at]) ?_
    obtain ⟨c_146, p_146, ha146, ho146, hp146, h⟩ := h
    refine n_putFr hx hb hB inB9 tyX9 tyX9_ok nmX9 hown (hg.K hK) hH ha146 ho146 rfl 45 (by decide) k116 rfl hp146 rfl hin rfl rfl rfl dX9_init_302 (fun G146 eG146 H locs hH => ?_)
    replace h := h G146 eG146
    replace hg := hg.sh eG146
    exact L305 a0 x1 x2 G146 σ145 (k + 1 + 1 + 1 + 1 + 1 + 1) (j + 23040 + 23040 + 6 + 6 + 6 + 6) _ _ ls hg hH (lv_sub hl [0, 1, 2] rfl) h
  have L204 : ∀ (a0 : Nat) (x1 : Int32) (x2 : Int32) (G1 : GG) (σ : Sg) (k j : Nat) (H : Heap) (locs : List Loc) (ls : Array Slot), SameG G G1 → Hx G1 (aA G s.heap.size) s σ H locs → lv_has ls 4 [(0, .ref a0), (1, .int x1), (2, .int x2)] → wpX9_init_L204 kA Q a0 x1 x2 G1 σ k j → W p l e ({ frames := 3, cells := 72, slots := 459009, locals := 68 }) s m args below meth c H locs k j (Zn G Q 72 459009 below args s) (F0 m 204 ls []) := by
    intro a0 x1 x2 G1 σ k j H locs ls hg hH hl h
    unfold wpX9_init_L204 at h
    refine lv_aload_n hx hb dX9_init_204 rfl (lv_at hl 0 rfl) ?_
    refine lv_bipush (v := 96) hx hb dX9_init_205 (by decide) ?_
    obtain ⟨hk101, hj101, h⟩ := h
    refine g_newI hx hb (hB _ bw1_38) (hg.K hK) hH aA_hA (kOK.at (hg.k hk) (t := 0) rfl) 96 (by decide) (by decide) (by decide) hk101 hj101 dX9_init_207 (fun a_101 G101 σ101 eG101 eσ101 H hH => ?_)
    replace h := h a_101 G101 σ101 eG101 eσ101
    replace hg := hg.ext eG101
    refine W.eq (g2 := F0 m 209 ls [.ref a_101, .ref a0]) (by rw [eG101, gext_at]) ?_
    obtain ⟨c_102, p_102, ha102, ho102, hp102, h⟩ := h
    refine n_putFr hx hb hB inB9 tyX9 tyX9_ok nmX9 hown (hg.K hK) hH ha102 ho102 rfl 34 (by decide) k83 rfl hp102 rfl hin rfl rfl rfl dX9_init_209 (fun G102 eG102 H locs hH => ?_)
    replace h := h G102 eG102
    replace hg := hg.sh eG102
    refine lv_aload_n hx hb dX9_init_212 rfl (lv_at hl 0 rfl) ?_
    refine lv_bipush (v := 96) hx hb dX9_init_213 (by decide) ?_
    obtain ⟨hk105, hj105, h⟩ := h
    refine g_newI hx hb (hB _ bw1_38) (hg.K hK) hH aA_hA (kOK.at (hg.k hk) (t := 0) rfl) 96 (by decide) (by decide) (by decide) hk105 hj105 dX9_init_215 (fun a_105 G105 σ105 eG105 eσ105 H hH => ?_)
    replace h := h a_105 G105 σ105 eG105 eσ105
    replace hg := hg.ext eG105
    refine W.eq (g2 := F0 m 217 ls [.ref a_105, .ref a0]) (by rw [eG105, gext_at]) ?_
    obtain ⟨c_106, p_106, ha106, ho106, hp106, h⟩ := h
    refine n_putFr hx hb hB inB9 tyX9 tyX9_ok nmX9 hown (hg.K hK) hH ha106 ho106 rfl 35 (by decide) k86 rfl hp106 rfl hin rfl rfl rfl dX9_init_217 (fun G106 eG106 H locs hH => ?_)
    replace h := h G106 eG106
    replace hg := hg.sh eG106
    refine lv_aload_n hx hb dX9_init_220 rfl (lv_at hl 0 rfl) ?_
    refine lv_sipush (v := 23040) hx hb dX9_init_221 (by decide) ?_
    obtain ⟨hk109, hj109, h⟩ := h
    refine g_newI hx hb (hB _ bw1_38) (hg.K hK) hH aA_hA (kOK.at (hg.k hk) (t := 0) rfl) 23040 (by decide) (by decide) (by decide) hk109 hj109 dX9_init_224 (fun a_109 G109 σ109 eG109 eσ109 H hH => ?_)
    replace h := h a_109 G109 σ109 eG109 eσ109
    replace hg := hg.ext eG109
    refine W.eq (g2 := F0 m 226 ls [.ref a_109, .ref a0]) (by rw [eG109, gext_at]) ?_
    obtain ⟨c_110, p_110, ha110, ho110, hp110, h⟩ := h
    refine n_putFr hx hb hB inB9 tyX9 tyX9_ok nmX9 hown (hg.K hK) hH ha110 ho110 rfl 36 (by decide) k89 rfl hp110 rfl hin rfl rfl rfl dX9_init_226 (fun G110 eG110 H locs hH => ?_)
    replace h := h G110 eG110
    replace hg := hg.sh eG110
    refine lv_aload_n hx hb dX9_init_229 rfl (lv_at hl 0 rfl) ?_
    refine lv_sipush (v := 23040) hx hb dX9_init_230 (by decide) ?_
    obtain ⟨hk113, hj113, h⟩ := h
    refine g_newI hx hb (hB _ bw1_38) (hg.K hK) hH aA_hA (kOK.at (hg.k hk) (t := 0) rfl) 23040 (by decide) (by decide) (by decide) hk113 hj113 dX9_init_233 (fun a_113 G113 σ113 eG113 eσ113 H hH => ?_)
    replace h := h a_113 G113 σ113 eG113 eσ113
    replace hg := hg.ext eG113
    refine W.eq (g2 := F0 m 235 ls [.ref a_113, .ref a0]) (by rw [eG113, gext_at]) ?_
    obtain ⟨c_114, p_114, ha114, ho114, hp114, h⟩ := h
    refine n_putFr hx hb hB inB9 tyX9 tyX9_ok nmX9 hown (hg.K hK) hH ha114 ho114 rfl 37 (by decide) k92 rfl hp114 rfl hin rfl rfl rfl dX9_init_235 (fun G114 eG114 H locs hH => ?_)
    replace h := h G114 eG114
    replace hg := hg.sh eG114
    refine lv_aload_n hx hb dX9_init_238 rfl (lv_at hl 0 rfl) ?_
    refine lv_bipush (v := 96) hx hb dX9_init_239 (by decide) ?_
    obtain ⟨hk117, hj117, h⟩ := h
    refine g_newZ hx hb (hB _ bw1_112) (hg.K hK) hH aA_hA (kOK.at (hg.k hk) (t := 1) rfl) 96 (by decide) (by decide) (by decide) hk117 hj117 dX9_init_241 (fun a_117 G117 σ117 eG117 eσ117 H hH => ?_)
    replace h := h a_117 G117 σ117 eG117 eσ117
    replace hg := hg.ext eG117
    refine W.eq (g2 := F0 m 243 ls [.ref a_117, .ref a0]) (by rw [eG117, gext_at]) ?_
    obtain ⟨c_118, p_118, ha118, ho118, hp118, h⟩ := h
    refine n_putFr hx hb hB inB9 tyX9 tyX9_ok nmX9 hown (hg.K hK) hH ha118 ho118 rfl 38 (by decide) k95 rfl hp118 rfl hin rfl rfl rfl dX9_init_243 (fun G118 eG118 H locs hH => ?_)
    replace h := h G118 eG118
    replace hg := hg.sh eG118
    refine lv_aload_n hx hb dX9_init_246 rfl (lv_at hl 0 rfl) ?_
    refine lv_sipush (v := 23040) hx hb dX9_init_247 (by decide) ?_
    obtain ⟨hk121, hj121, h⟩ := h
    refine g_newZ hx hb (hB _ bw1_112) (hg.K hK) hH aA_hA (kOK.at (hg.k hk) (t := 1) rfl) 23040 (by decide) (by decide) (by decide) hk121 hj121 dX9_init_250 (fun a_121 G121 σ121 eG121 eσ121 H hH => ?_)
    replace h := h a_121 G121 σ121 eG121 eσ121
    replace hg := hg.ext eG121
    refine W.eq (g2 := F0 m 252 ls [.ref a_121, .ref a0]) (by rw [eG121, gext_at]) ?_
    obtain ⟨c_122, p_122, ha122, ho122, hp122, h⟩ := h
    refine n_putFr hx hb hB inB9 tyX9 tyX9_ok nmX9 hown (hg.K hK) hH ha122 ho122 rfl 39 (by decide) k98 rfl hp122 rfl hin rfl rfl rfl dX9_init_252 (fun G122 eG122 H locs hH => ?_)
    replace h := h G122 eG122
    replace hg := hg.sh eG122
    exact L255 a0 x1 x2 G122 σ121 (k + 1 + 1 + 1 + 1 + 1 + 1) (j + 96 + 96 + 23040 + 23040 + 96 + 23040) _ _ ls hg hH (lv_sub hl [0, 1, 2] rfl) h
  have L151 : ∀ (a0 : Nat) (x1 : Int32) (x2 : Int32) (G1 : GG) (σ : Sg) (k j : Nat) (H : Heap) (locs : List Loc) (ls : Array Slot), SameG G G1 → Hx G1 (aA G s.heap.size) s σ H locs → lv_has ls 4 [(0, .ref a0), (1, .int x1), (2, .int x2)] → wpX9_init_L151 kA Q a0 x1 x2 G1 σ k j → W p l e ({ frames := 3, cells := 72, slots := 459009, locals := 68 }) s m args below meth c H locs k j (Zn G Q 72 459009 below args s) (F0 m 151 ls []) := by
    intro a0 x1 x2 G1 σ k j H locs ls hg hH hl h
    unfold wpX9_init_L151 at h
    refine lv_aload_n hx hb dX9_init_151 rfl (lv_at hl 0 rfl) ?_
    refine lv_sipush (v := 23040) hx hb dX9_init_152 (by decide) ?_
    obtain ⟨hk77, hj77, h⟩ := h
    refine g_newI hx hb (hB _ bw1_38) (hg.K hK) hH aA_hA (kOK.at (hg.k hk) (t := 0) rfl) 23040 (by decide) (by decide) (by decide) hk77 hj77 dX9_init_155 (fun a_77 G77 σ77 eG77 eσ77 H hH => ?_)
    replace h := h a_77 G77 σ77 eG77 eσ77
    replace hg := hg.ext eG77
    refine W.eq (g2 := F0 m 157 ls [.ref a_77, .ref a0]) (by rw [eG77, gext_at]) ?_
    obtain ⟨c_78, p_78, ha78, ho78, hp78, h⟩ := h
    refine n_putFr hx hb hB inB9 tyX9 tyX9_ok nmX9 hown (hg.K hK) hH ha78 ho78 rfl 28 (by decide) k65 rfl hp78 rfl hin rfl rfl rfl dX9_init_157 (fun G78 eG78 H locs hH => ?_)
    replace h := h G78 eG78
    replace hg := hg.sh eG78
    refine lv_aload_n hx hb dX9_init_160 rfl (lv_at hl 0 rfl) ?_
    refine lv_sipush (v := 26400) hx hb dX9_init_161 (by decide) ?_
    obtain ⟨hk81, hj81, h⟩ := h
    refine g_newI hx hb (hB _ bw1_38) (hg.K hK) hH aA_hA (kOK.at (hg.k hk) (t := 0) rfl) 26400 (by decide) (by decide) (by decide) hk81 hj81 dX9_init_164 (fun a_81 G81 σ81 eG81 eσ81 H hH => ?_)
    replace h := h a_81 G81 σ81 eG81 eσ81
    replace hg := hg.ext eG81
    refine W.eq (g2 := F0 m 166 ls [.ref a_81, .ref a0]) (by rw [eG81, gext_at]) ?_
    obtain ⟨c_82, p_82, ha82, ho82, hp82, h⟩ := h
    refine n_putFr hx hb hB inB9 tyX9 tyX9_ok nmX9 hown (hg.K hK) hH ha82 ho82 rfl 29 (by decide) k68 rfl hp82 rfl hin rfl rfl rfl dX9_init_166 (fun G82 eG82 H locs hH => ?_)
    replace h := h G82 eG82
    replace hg := hg.sh eG82
    refine lv_aload_n hx hb dX9_init_169 rfl (lv_at hl 0 rfl) ?_
    refine lv_sipush (v := 26400) hx hb dX9_init_170 (by decide) ?_
    obtain ⟨hk85, hj85, h⟩ := h
    refine g_newI hx hb (hB _ bw1_38) (hg.K hK) hH aA_hA (kOK.at (hg.k hk) (t := 0) rfl) 26400 (by decide) (by decide) (by decide) hk85 hj85 dX9_init_173 (fun a_85 G85 σ85 eG85 eσ85 H hH => ?_)
    replace h := h a_85 G85 σ85 eG85 eσ85
    replace hg := hg.ext eG85
    refine W.eq (g2 := F0 m 175 ls [.ref a_85, .ref a0]) (by rw [eG85, gext_at]) ?_
    obtain ⟨c_86, p_86, ha86, ho86, hp86, h⟩ := h
    refine n_putFr hx hb hB inB9 tyX9 tyX9_ok nmX9 hown (hg.K hK) hH ha86 ho86 rfl 30 (by decide) k71 rfl hp86 rfl hin rfl rfl rfl dX9_init_175 (fun G86 eG86 H locs hH => ?_)
    replace h := h G86 eG86
    replace hg := hg.sh eG86
    refine lv_aload_n hx hb dX9_init_178 rfl (lv_at hl 0 rfl) ?_
    refine lv_bipush (v := 6) hx hb dX9_init_179 (by decide) ?_
    obtain ⟨hk89, hj89, h⟩ := h
    refine g_newI hx hb (hB _ bw1_38) (hg.K hK) hH aA_hA (kOK.at (hg.k hk) (t := 0) rfl) 6 (by decide) (by decide) (by decide) hk89 hj89 dX9_init_181 (fun a_89 G89 σ89 eG89 eσ89 H hH => ?_)
    replace h := h a_89 G89 σ89 eG89 eσ89
    replace hg := hg.ext eG89
    refine W.eq (g2 := F0 m 183 ls [.ref a_89, .ref a0]) (by rw [eG89, gext_at]) ?_
    obtain ⟨c_90, p_90, ha90, ho90, hp90, h⟩ := h
    refine n_putFr hx hb hB inB9 tyX9 tyX9_ok nmX9 hown (hg.K hK) hH ha90 ho90 rfl 31 (by decide) k74 rfl hp90 rfl hin rfl rfl rfl dX9_init_183 (fun G90 eG90 H locs hH => ?_)
    replace h := h G90 eG90
    replace hg := hg.sh eG90
    refine lv_aload_n hx hb dX9_init_186 rfl (lv_at hl 0 rfl) ?_
    refine lv_sipush (v := 26400) hx hb dX9_init_187 (by decide) ?_
    obtain ⟨hk93, hj93, h⟩ := h
    refine g_newZ hx hb (hB _ bw1_112) (hg.K hK) hH aA_hA (kOK.at (hg.k hk) (t := 1) rfl) 26400 (by decide) (by decide) (by decide) hk93 hj93 dX9_init_190 (fun a_93 G93 σ93 eG93 eσ93 H hH => ?_)
    replace h := h a_93 G93 σ93 eG93 eσ93
    replace hg := hg.ext eG93
    refine W.eq (g2 := F0 m 192 ls [.ref a_93, .ref a0]) (by rw [eG93, gext_at]) ?_
    obtain ⟨c_94, p_94, ha94, ho94, hp94, h⟩ := h
    refine n_putFr hx hb hB inB9 tyX9 tyX9_ok nmX9 hown (hg.K hK) hH ha94 ho94 rfl 32 (by decide) k77 rfl hp94 rfl hin rfl rfl rfl dX9_init_192 (fun G94 eG94 H locs hH => ?_)
    replace h := h G94 eG94
    replace hg := hg.sh eG94
    refine lv_aload_n hx hb dX9_init_195 rfl (lv_at hl 0 rfl) ?_
    refine lv_sipush (v := 26400) hx hb dX9_init_196 (by decide) ?_
    obtain ⟨hk97, hj97, h⟩ := h
    refine g_newZ hx hb (hB _ bw1_112) (hg.K hK) hH aA_hA (kOK.at (hg.k hk) (t := 1) rfl) 26400 (by decide) (by decide) (by decide) hk97 hj97 dX9_init_199 (fun a_97 G97 σ97 eG97 eσ97 H hH => ?_)
    replace h := h a_97 G97 σ97 eG97 eσ97
    replace hg := hg.ext eG97
    refine W.eq (g2 := F0 m 201 ls [.ref a_97, .ref a0]) (by rw [eG97, gext_at]) ?_
    obtain ⟨c_98, p_98, ha98, ho98, hp98, h⟩ := h
    refine n_putFr hx hb hB inB9 tyX9 tyX9_ok nmX9 hown (hg.K hK) hH ha98 ho98 rfl 33 (by decide) k80 rfl hp98 rfl hin rfl rfl rfl dX9_init_201 (fun G98 eG98 H locs hH => ?_)
    replace h := h G98 eG98
    replace hg := hg.sh eG98
    exact L204 a0 x1 x2 G98 σ97 (k + 1 + 1 + 1 + 1 + 1 + 1) (j + 23040 + 26400 + 26400 + 6 + 26400 + 26400) _ _ ls hg hH (lv_sub hl [0, 1, 2] rfl) h
  have L100 : ∀ (a0 : Nat) (x1 : Int32) (x2 : Int32) (G1 : GG) (σ : Sg) (k j : Nat) (H : Heap) (locs : List Loc) (ls : Array Slot), SameG G G1 → Hx G1 (aA G s.heap.size) s σ H locs → lv_has ls 4 [(0, .ref a0), (1, .int x1), (2, .int x2)] → wpX9_init_L100 kA Q a0 x1 x2 G1 σ k j → W p l e ({ frames := 3, cells := 72, slots := 459009, locals := 68 }) s m args below meth c H locs k j (Zn G Q 72 459009 below args s) (F0 m 100 ls []) := by
    intro a0 x1 x2 G1 σ k j H locs ls hg hH hl h
    unfold wpX9_init_L100 at h
    refine lv_aload_n hx hb dX9_init_100 rfl (lv_at hl 0 rfl) ?_
    refine lv_bipush (v := 6) hx hb dX9_init_101 (by decide) ?_
    obtain ⟨hk53, hj53, h⟩ := h
    refine g_newZ hx hb (hB _ bw1_112) (hg.K hK) hH aA_hA (kOK.at (hg.k hk) (t := 1) rfl) 6 (by decide) (by decide) (by decide) hk53 hj53 dX9_init_103 (fun a_53 G53 σ53 eG53 eσ53 H hH => ?_)
    replace h := h a_53 G53 σ53 eG53 eσ53
    replace hg := hg.ext eG53
    refine W.eq (g2 := F0 m 105 ls [.ref a_53, .ref a0]) (by rw [eG53, gext_at]) ?_
    obtain ⟨c_54, p_54, ha54, ho54, hp54, h⟩ := h
    refine n_putFr hx hb hB inB9 tyX9 tyX9_ok nmX9 hown (hg.K hK) hH ha54 ho54 rfl 22 (by decide) k47 rfl hp54 rfl hin rfl rfl rfl dX9_init_105 (fun G54 eG54 H locs hH => ?_)
    replace h := h G54 eG54
    replace hg := hg.sh eG54
    refine lv_aload_n hx hb dX9_init_108 rfl (lv_at hl 0 rfl) ?_
    refine lv_iconst (v := 3) hx hb dX9_init_109 (by decide) ?_
    obtain ⟨hk57, hj57, h⟩ := h
    refine g_newI hx hb (hB _ bw1_38) (hg.K hK) hH aA_hA (kOK.at (hg.k hk) (t := 0) rfl) 3 (by decide) (by decide) (by decide) hk57 hj57 dX9_init_110 (fun a_57 G57 σ57 eG57 eσ57 H hH => ?_)
    replace h := h a_57 G57 σ57 eG57 eσ57
    replace hg := hg.ext eG57
    refine W.eq (g2 := F0 m 112 ls [.ref a_57, .ref a0]) (by rw [eG57, gext_at]) ?_
    obtain ⟨c_58, p_58, ha58, ho58, hp58, h⟩ := h
    refine n_putFr hx hb hB inB9 tyX9 tyX9_ok nmX9 hown (hg.K hK) hH ha58 ho58 rfl 23 (by decide) k50 rfl hp58 rfl hin rfl rfl rfl dX9_init_112 (fun G58 eG58 H locs hH => ?_)
    replace h := h G58 eG58
    replace hg := hg.sh eG58
    refine lv_aload_n hx hb dX9_init_115 rfl (lv_at hl 0 rfl) ?_
    refine lv_sipush (v := 192) hx hb dX9_init_116 (by decide) ?_
    obtain ⟨hk61, hj61, h⟩ := h
    refine g_newZ hx hb (hB _ bw1_112) (hg.K hK) hH aA_hA (kOK.at (hg.k hk) (t := 1) rfl) 192 (by decide) (by decide) (by decide) hk61 hj61 dX9_init_119 (fun a_61 G61 σ61 eG61 eσ61 H hH => ?_)
    replace h := h a_61 G61 σ61 eG61 eσ61
    replace hg := hg.ext eG61
    refine W.eq (g2 := F0 m 121 ls [.ref a_61, .ref a0]) (by rw [eG61, gext_at]) ?_
    obtain ⟨c_62, p_62, ha62, ho62, hp62, h⟩ := h
    refine n_putFr hx hb hB inB9 tyX9 tyX9_ok nmX9 hown (hg.K hK) hH ha62 ho62 rfl 24 (by decide) k53 rfl hp62 rfl hin rfl rfl rfl dX9_init_121 (fun G62 eG62 H locs hH => ?_)
    replace h := h G62 eG62
    replace hg := hg.sh eG62
    refine lv_aload_n hx hb dX9_init_124 rfl (lv_at hl 0 rfl) ?_
    refine lv_sipush (v := 192) hx hb dX9_init_125 (by decide) ?_
    obtain ⟨hk65, hj65, h⟩ := h
    refine g_newI hx hb (hB _ bw1_38) (hg.K hK) hH aA_hA (kOK.at (hg.k hk) (t := 0) rfl) 192 (by decide) (by decide) (by decide) hk65 hj65 dX9_init_128 (fun a_65 G65 σ65 eG65 eσ65 H hH => ?_)
    replace h := h a_65 G65 σ65 eG65 eσ65
    replace hg := hg.ext eG65
    refine W.eq (g2 := F0 m 130 ls [.ref a_65, .ref a0]) (by rw [eG65, gext_at]) ?_
    obtain ⟨c_66, p_66, ha66, ho66, hp66, h⟩ := h
    refine n_putFr hx hb hB inB9 tyX9 tyX9_ok nmX9 hown (hg.K hK) hH ha66 ho66 rfl 25 (by decide) k56 rfl hp66 rfl hin rfl rfl rfl dX9_init_130 (fun G66 eG66 H locs hH => ?_)
    replace h := h G66 eG66
    replace hg := hg.sh eG66
    refine lv_aload_n hx hb dX9_init_133 rfl (lv_at hl 0 rfl) ?_
    refine lv_sipush (v := 192) hx hb dX9_init_134 (by decide) ?_
    obtain ⟨hk69, hj69, h⟩ := h
    refine g_newI hx hb (hB _ bw1_38) (hg.K hK) hH aA_hA (kOK.at (hg.k hk) (t := 0) rfl) 192 (by decide) (by decide) (by decide) hk69 hj69 dX9_init_137 (fun a_69 G69 σ69 eG69 eσ69 H hH => ?_)
    replace h := h a_69 G69 σ69 eG69 eσ69
    replace hg := hg.ext eG69
    refine W.eq (g2 := F0 m 139 ls [.ref a_69, .ref a0]) (by rw [eG69, gext_at]) ?_
    obtain ⟨c_70, p_70, ha70, ho70, hp70, h⟩ := h
    refine n_putFr hx hb hB inB9 tyX9 tyX9_ok nmX9 hown (hg.K hK) hH ha70 ho70 rfl 26 (by decide) k59 rfl hp70 rfl hin rfl rfl rfl dX9_init_139 (fun G70 eG70 H locs hH => ?_)
    replace h := h G70 eG70
    replace hg := hg.sh eG70
    refine lv_aload_n hx hb dX9_init_142 rfl (lv_at hl 0 rfl) ?_
    refine lv_sipush (v := 192) hx hb dX9_init_143 (by decide) ?_
    obtain ⟨hk73, hj73, h⟩ := h
    refine g_newI hx hb (hB _ bw1_38) (hg.K hK) hH aA_hA (kOK.at (hg.k hk) (t := 0) rfl) 192 (by decide) (by decide) (by decide) hk73 hj73 dX9_init_146 (fun a_73 G73 σ73 eG73 eσ73 H hH => ?_)
    replace h := h a_73 G73 σ73 eG73 eσ73
    replace hg := hg.ext eG73
    refine W.eq (g2 := F0 m 148 ls [.ref a_73, .ref a0]) (by rw [eG73, gext_at]) ?_
    obtain ⟨c_74, p_74, ha74, ho74, hp74, h⟩ := h
    refine n_putFr hx hb hB inB9 tyX9 tyX9_ok nmX9 hown (hg.K hK) hH ha74 ho74 rfl 27 (by decide) k62 rfl hp74 rfl hin rfl rfl rfl dX9_init_148 (fun G74 eG74 H locs hH => ?_)
    replace h := h G74 eG74
    replace hg := hg.sh eG74
    exact L151 a0 x1 x2 G74 σ73 (k + 1 + 1 + 1 + 1 + 1 + 1) (j + 6 + 3 + 192 + 192 + 192 + 192) _ _ ls hg hH (lv_sub hl [0, 1, 2] rfl) h
  have L52 : ∀ (a0 : Nat) (x1 : Int32) (x2 : Int32) (G1 : GG) (σ : Sg) (k j : Nat) (H : Heap) (locs : List Loc) (ls : Array Slot), SameG G G1 → Hx G1 (aA G s.heap.size) s σ H locs → lv_has ls 4 [(0, .ref a0), (1, .int x1), (2, .int x2)] → wpX9_init_L52 kA Q a0 x1 x2 G1 σ k j → W p l e ({ frames := 3, cells := 72, slots := 459009, locals := 68 }) s m args below meth c H locs k j (Zn G Q 72 459009 below args s) (F0 m 52 ls []) := by
    intro a0 x1 x2 G1 σ k j H locs ls hg hH hl h
    unfold wpX9_init_L52 at h
    refine lv_aload_n hx hb dX9_init_52 rfl (lv_at hl 0 rfl) ?_
    refine lv_bipush (v := 6) hx hb dX9_init_53 (by decide) ?_
    obtain ⟨hk29, hj29, h⟩ := h
    refine g_newI hx hb (hB _ bw1_38) (hg.K hK) hH aA_hA (kOK.at (hg.k hk) (t := 0) rfl) 6 (by decide) (by decide) (by decide) hk29 hj29 dX9_init_55 (fun a_29 G29 σ29 eG29 eσ29 H hH => ?_)
    replace h := h a_29 G29 σ29 eG29 eσ29
    replace hg := hg.ext eG29
    refine W.eq (g2 := F0 m 57 ls [.ref a_29, .ref a0]) (by rw [eG29, gext_at]) ?_
    obtain ⟨c_30, p_30, ha30, ho30, hp30, h⟩ := h
    refine n_putFr hx hb hB inB9 tyX9 tyX9_ok nmX9 hown (hg.K hK) hH ha30 ho30 rfl 16 (by decide) k28 rfl hp30 rfl hin rfl rfl rfl dX9_init_57 (fun G30 eG30 H locs hH => ?_)
    replace h := h G30 eG30
    replace hg := hg.sh eG30
    refine lv_aload_n hx hb dX9_init_60 rfl (lv_at hl 0 rfl) ?_
    refine lv_bipush (v := 6) hx hb dX9_init_61 (by decide) ?_
    obtain ⟨hk33, hj33, h⟩ := h
    refine g_newI hx hb (hB _ bw1_38) (hg.K hK) hH aA_hA (kOK.at (hg.k hk) (t := 0) rfl) 6 (by decide) (by decide) (by decide) hk33 hj33 dX9_init_63 (fun a_33 G33 σ33 eG33 eσ33 H hH => ?_)
    replace h := h a_33 G33 σ33 eG33 eσ33
    replace hg := hg.ext eG33
    refine W.eq (g2 := F0 m 65 ls [.ref a_33, .ref a0]) (by rw [eG33, gext_at]) ?_
    obtain ⟨c_34, p_34, ha34, ho34, hp34, h⟩ := h
    refine n_putFr hx hb hB inB9 tyX9 tyX9_ok nmX9 hown (hg.K hK) hH ha34 ho34 rfl 17 (by decide) k31 rfl hp34 rfl hin rfl rfl rfl dX9_init_65 (fun G34 eG34 H locs hH => ?_)
    replace h := h G34 eG34
    replace hg := hg.sh eG34
    refine lv_aload_n hx hb dX9_init_68 rfl (lv_at hl 0 rfl) ?_
    refine lv_bipush (v := 6) hx hb dX9_init_69 (by decide) ?_
    obtain ⟨hk37, hj37, h⟩ := h
    refine g_newI hx hb (hB _ bw1_38) (hg.K hK) hH aA_hA (kOK.at (hg.k hk) (t := 0) rfl) 6 (by decide) (by decide) (by decide) hk37 hj37 dX9_init_71 (fun a_37 G37 σ37 eG37 eσ37 H hH => ?_)
    replace h := h a_37 G37 σ37 eG37 eσ37
    replace hg := hg.ext eG37
    refine W.eq (g2 := F0 m 73 ls [.ref a_37, .ref a0]) (by rw [eG37, gext_at]) ?_
    obtain ⟨c_38, p_38, ha38, ho38, hp38, h⟩ := h
    refine n_putFr hx hb hB inB9 tyX9 tyX9_ok nmX9 hown (hg.K hK) hH ha38 ho38 rfl 18 (by decide) k34 rfl hp38 rfl hin rfl rfl rfl dX9_init_73 (fun G38 eG38 H locs hH => ?_)
    replace h := h G38 eG38
    replace hg := hg.sh eG38
    refine lv_aload_n hx hb dX9_init_76 rfl (lv_at hl 0 rfl) ?_
    refine lv_bipush (v := 6) hx hb dX9_init_77 (by decide) ?_
    obtain ⟨hk41, hj41, h⟩ := h
    refine g_newI hx hb (hB _ bw1_38) (hg.K hK) hH aA_hA (kOK.at (hg.k hk) (t := 0) rfl) 6 (by decide) (by decide) (by decide) hk41 hj41 dX9_init_79 (fun a_41 G41 σ41 eG41 eσ41 H hH => ?_)
    replace h := h a_41 G41 σ41 eG41 eσ41
    replace hg := hg.ext eG41
    refine W.eq (g2 := F0 m 81 ls [.ref a_41, .ref a0]) (by rw [eG41, gext_at]) ?_
    obtain ⟨c_42, p_42, ha42, ho42, hp42, h⟩ := h
    refine n_putFr hx hb hB inB9 tyX9 tyX9_ok nmX9 hown (hg.K hK) hH ha42 ho42 rfl 19 (by decide) k37 rfl hp42 rfl hin rfl rfl rfl dX9_init_81 (fun G42 eG42 H locs hH => ?_)
    replace h := h G42 eG42
    replace hg := hg.sh eG42
    refine lv_aload_n hx hb dX9_init_84 rfl (lv_at hl 0 rfl) ?_
    refine lv_bipush (v := 6) hx hb dX9_init_85 (by decide) ?_
    obtain ⟨hk45, hj45, h⟩ := h
    refine g_newI hx hb (hB _ bw1_38) (hg.K hK) hH aA_hA (kOK.at (hg.k hk) (t := 0) rfl) 6 (by decide) (by decide) (by decide) hk45 hj45 dX9_init_87 (fun a_45 G45 σ45 eG45 eσ45 H hH => ?_)
    replace h := h a_45 G45 σ45 eG45 eσ45
    replace hg := hg.ext eG45
    refine W.eq (g2 := F0 m 89 ls [.ref a_45, .ref a0]) (by rw [eG45, gext_at]) ?_
    obtain ⟨c_46, p_46, ha46, ho46, hp46, h⟩ := h
    refine n_putFr hx hb hB inB9 tyX9 tyX9_ok nmX9 hown (hg.K hK) hH ha46 ho46 rfl 20 (by decide) k40 rfl hp46 rfl hin rfl rfl rfl dX9_init_89 (fun G46 eG46 H locs hH => ?_)
    replace h := h G46 eG46
    replace hg := hg.sh eG46
    refine lv_aload_n hx hb dX9_init_92 rfl (lv_at hl 0 rfl) ?_
    refine lv_bipush (v := 6) hx hb dX9_init_93 (by decide) ?_
    obtain ⟨hk49, hj49, h⟩ := h
    refine g_newZ hx hb (hB _ bw1_112) (hg.K hK) hH aA_hA (kOK.at (hg.k hk) (t := 1) rfl) 6 (by decide) (by decide) (by decide) hk49 hj49 dX9_init_95 (fun a_49 G49 σ49 eG49 eσ49 H hH => ?_)
    replace h := h a_49 G49 σ49 eG49 eσ49
    replace hg := hg.ext eG49
    refine W.eq (g2 := F0 m 97 ls [.ref a_49, .ref a0]) (by rw [eG49, gext_at]) ?_
    obtain ⟨c_50, p_50, ha50, ho50, hp50, h⟩ := h
    refine n_putFr hx hb hB inB9 tyX9 tyX9_ok nmX9 hown (hg.K hK) hH ha50 ho50 rfl 21 (by decide) k43 rfl hp50 rfl hin rfl rfl rfl dX9_init_97 (fun G50 eG50 H locs hH => ?_)
    replace h := h G50 eG50
    replace hg := hg.sh eG50
    exact L100 a0 x1 x2 G50 σ49 (k + 1 + 1 + 1 + 1 + 1 + 1) (j + 6 + 6 + 6 + 6 + 6 + 6) _ _ ls hg hH (lv_sub hl [0, 1, 2] rfl) h
  unfold wpX9_init at h
  refine lv_aload_n hx hb dX9_init_0 rfl (lv_at hl 0 rfl) ?_
  refine W.objInit hx hb hown (hB _ bw4_98) (hB _ bw1_20) (hB _ bw1_21) rfl (by rw [hml]; exact hl.1) rfl dX9_init_1 (Nat.le_of_ble_eq_true rfl) (Nat.le_of_ble_eq_true rfl) ?_
  refine W.eq (g2 := F0 m 4 ls []) rfl ?_
  refine lv_aload_n hx hb dX9_init_4 rfl (lv_at hl 0 rfl) ?_
  refine lv_bipush (v := 120) hx hb dX9_init_5 (by decide) ?_
  obtain ⟨hk5, hj5, h⟩ := h
  refine g_newI hx hb (hB _ bw1_38) (hg.K hK) hH aA_hA (kOK.at (hg.k hk) (t := 0) rfl) 120 (by decide) (by decide) (by decide) hk5 hj5 dX9_init_7 (fun a_5 G5 σ5 eG5 eσ5 H hH => ?_)
  replace h := h a_5 G5 σ5 eG5 eσ5
  replace hg := hg.ext eG5
  refine W.eq (g2 := F0 m 9 ls [.ref a_5, .ref a0]) (by rw [eG5, gext_at]) ?_
  obtain ⟨c_6, p_6, ha6, ho6, hp6, h⟩ := h
  refine n_putFr hx hb hB inB9 tyX9 tyX9_ok nmX9 hown (hg.K hK) hH ha6 ho6 rfl 9 (by decide) k9 rfl hp6 rfl hin rfl rfl rfl dX9_init_9 (fun G6 eG6 H locs hH => ?_)
  replace h := h G6 eG6
  replace hg := hg.sh eG6
  refine lv_aload_n hx hb dX9_init_12 rfl (lv_at hl 0 rfl) ?_
  refine lv_bipush (v := 6) hx hb dX9_init_13 (by decide) ?_
  obtain ⟨hk9, hj9, h⟩ := h
  refine g_newI hx hb (hB _ bw1_38) (hg.K hK) hH aA_hA (kOK.at (hg.k hk) (t := 0) rfl) 6 (by decide) (by decide) (by decide) hk9 hj9 dX9_init_15 (fun a_9 G9 σ9 eG9 eσ9 H hH => ?_)
  replace h := h a_9 G9 σ9 eG9 eσ9
  replace hg := hg.ext eG9
  refine W.eq (g2 := F0 m 17 ls [.ref a_9, .ref a0]) (by rw [eG9, gext_at]) ?_
  obtain ⟨c_10, p_10, ha10, ho10, hp10, h⟩ := h
  refine n_putFr hx hb hB inB9 tyX9 tyX9_ok nmX9 hown (hg.K hK) hH ha10 ho10 rfl 11 (by decide) k13 rfl hp10 rfl hin rfl rfl rfl dX9_init_17 (fun G10 eG10 H locs hH => ?_)
  replace h := h G10 eG10
  replace hg := hg.sh eG10
  refine lv_aload_n hx hb dX9_init_20 rfl (lv_at hl 0 rfl) ?_
  refine lv_bipush (v := 6) hx hb dX9_init_21 (by decide) ?_
  obtain ⟨hk13, hj13, h⟩ := h
  refine g_newI hx hb (hB _ bw1_38) (hg.K hK) hH aA_hA (kOK.at (hg.k hk) (t := 0) rfl) 6 (by decide) (by decide) (by decide) hk13 hj13 dX9_init_23 (fun a_13 G13 σ13 eG13 eσ13 H hH => ?_)
  replace h := h a_13 G13 σ13 eG13 eσ13
  replace hg := hg.ext eG13
  refine W.eq (g2 := F0 m 25 ls [.ref a_13, .ref a0]) (by rw [eG13, gext_at]) ?_
  obtain ⟨c_14, p_14, ha14, ho14, hp14, h⟩ := h
  refine n_putFr hx hb hB inB9 tyX9 tyX9_ok nmX9 hown (hg.K hK) hH ha14 ho14 rfl 12 (by decide) k16 rfl hp14 rfl hin rfl rfl rfl dX9_init_25 (fun G14 eG14 H locs hH => ?_)
  replace h := h G14 eG14
  replace hg := hg.sh eG14
  refine lv_aload_n hx hb dX9_init_28 rfl (lv_at hl 0 rfl) ?_
  refine lv_bipush (v := 6) hx hb dX9_init_29 (by decide) ?_
  obtain ⟨hk17, hj17, h⟩ := h
  refine g_newI hx hb (hB _ bw1_38) (hg.K hK) hH aA_hA (kOK.at (hg.k hk) (t := 0) rfl) 6 (by decide) (by decide) (by decide) hk17 hj17 dX9_init_31 (fun a_17 G17 σ17 eG17 eσ17 H hH => ?_)
  replace h := h a_17 G17 σ17 eG17 eσ17
  replace hg := hg.ext eG17
  refine W.eq (g2 := F0 m 33 ls [.ref a_17, .ref a0]) (by rw [eG17, gext_at]) ?_
  obtain ⟨c_18, p_18, ha18, ho18, hp18, h⟩ := h
  refine n_putFr hx hb hB inB9 tyX9 tyX9_ok nmX9 hown (hg.K hK) hH ha18 ho18 rfl 13 (by decide) k19 rfl hp18 rfl hin rfl rfl rfl dX9_init_33 (fun G18 eG18 H locs hH => ?_)
  replace h := h G18 eG18
  replace hg := hg.sh eG18
  refine lv_aload_n hx hb dX9_init_36 rfl (lv_at hl 0 rfl) ?_
  refine lv_bipush (v := 6) hx hb dX9_init_37 (by decide) ?_
  obtain ⟨hk21, hj21, h⟩ := h
  refine g_newI hx hb (hB _ bw1_38) (hg.K hK) hH aA_hA (kOK.at (hg.k hk) (t := 0) rfl) 6 (by decide) (by decide) (by decide) hk21 hj21 dX9_init_39 (fun a_21 G21 σ21 eG21 eσ21 H hH => ?_)
  replace h := h a_21 G21 σ21 eG21 eσ21
  replace hg := hg.ext eG21
  refine W.eq (g2 := F0 m 41 ls [.ref a_21, .ref a0]) (by rw [eG21, gext_at]) ?_
  obtain ⟨c_22, p_22, ha22, ho22, hp22, h⟩ := h
  refine n_putFr hx hb hB inB9 tyX9 tyX9_ok nmX9 hown (hg.K hK) hH ha22 ho22 rfl 14 (by decide) k22 rfl hp22 rfl hin rfl rfl rfl dX9_init_41 (fun G22 eG22 H locs hH => ?_)
  replace h := h G22 eG22
  replace hg := hg.sh eG22
  refine lv_aload_n hx hb dX9_init_44 rfl (lv_at hl 0 rfl) ?_
  refine lv_bipush (v := 6) hx hb dX9_init_45 (by decide) ?_
  obtain ⟨hk25, hj25, h⟩ := h
  refine g_newI hx hb (hB _ bw1_38) (hg.K hK) hH aA_hA (kOK.at (hg.k hk) (t := 0) rfl) 6 (by decide) (by decide) (by decide) hk25 hj25 dX9_init_47 (fun a_25 G25 σ25 eG25 eσ25 H hH => ?_)
  replace h := h a_25 G25 σ25 eG25 eσ25
  replace hg := hg.ext eG25
  refine W.eq (g2 := F0 m 49 ls [.ref a_25, .ref a0]) (by rw [eG25, gext_at]) ?_
  obtain ⟨c_26, p_26, ha26, ho26, hp26, h⟩ := h
  refine n_putFr hx hb hB inB9 tyX9 tyX9_ok nmX9 hown (hg.K hK) hH ha26 ho26 rfl 15 (by decide) k25 rfl hp26 rfl hin rfl rfl rfl dX9_init_49 (fun G26 eG26 H locs hH => ?_)
  replace h := h G26 eG26
  replace hg := hg.sh eG26
  exact L52 a0 x1 x2 G26 σ25 (0 + 1 + 1 + 1 + 1 + 1 + 1) (0 + 120 + 6 + 6 + 6 + 6 + 6) _ _ ls hg hH (lv_sub hl [0, 1, 2] rfl) h
