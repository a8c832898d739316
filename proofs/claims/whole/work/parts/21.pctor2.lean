def patM (ad : Nat → Nat) : Nat → List (Option (Option Nat)) → List (Nat × Nat × Nat) → List (Option (Option Nat))
  | _, pat, [] => pat
  | b, pat, q :: r => patM ad (b + 1) (pat.set q.1 (some (some (ad b)))) r
theorem patM_app (ad : Nat → Nat) : ∀ (as : List (Nat × Nat × Nat)) (b : Nat) (pat : List (Option (Option Nat))) (q : Nat × Nat × Nat), patM ad b pat (as ++ [q]) = (patM ad b pat as).set q.1 (some (some (ad (b + as.length))))
  | [], b, pat, q => by simp [patM]
  | r :: as, b, pat, q => by
    simp only [List.cons_append, patM, List.length_cons]
    rw [patM_app ad as (b + 1) _ q]
    rw [show b + 1 + as.length = b + (as.length + 1) by omega]
theorem patM_len (ad : Nat → Nat) : ∀ (as : List (Nat × Nat × Nat)) (b : Nat) (pat : List (Option (Option Nat))), (patM ad b pat as).length = pat.length
  | [], b, pat => rfl
  | r :: as, b, pat => by simp only [patM]; rw [patM_len ad as]; simp
theorem patM_congr {ad ad' : Nat → Nat} : ∀ (as : List (Nat × Nat × Nat)) (b : Nat) (pat : List (Option (Option Nat))), (∀ c, b ≤ c → c < b + as.length → ad c = ad' c) → patM ad b pat as = patM ad' b pat as
  | [], b, pat, _ => rfl
  | r :: as, b, pat, h => by
    simp only [patM]
    rw [h b (Nat.le_refl b) (by simp)]
    exact patM_congr as (b + 1) _ (fun c h1 h2 => h c (by omega) (by simp only [List.length_cons]; omega))
def Mid (kA : Nat → ClassId) (G0 G : GG) (c0 ci : Nat) (pat0 : List (Option (Option Nat))) (as : List (Nat × Nat × Nat)) : Prop := kOK kA G ∧ gn G = c0 + 1 + as.length ∧ (∀ c, c ≤ c0 → ga G c = ga G0 c) ∧ (∀ c, c < c0 → gs G c = gs G0 c) ∧ gs G c0 = .inr (.inr (ci, patM (ga G) (c0 + 1) pat0 as)) ∧ ∀ (j : Nat) (q : Nat × Nat × Nat), as[j]? = some q → gs G (c0 + 1 + j) = .inl (kA q.2.1, q.2.2)
theorem Mid.zero {kA : Nat → ClassId} {G : GG} {c0 ci : Nat} {pat0 : List (Option (Option Nat))} (hk : kOK kA G) (hn : gn G = c0 + 1) (hs : gs G c0 = .inr (.inr (ci, pat0))) : Mid kA G G c0 ci pat0 [] := ⟨hk, hn, fun _ _ => rfl, fun _ _ => rfl, hs, fun j q h => by simp at h⟩
theorem Mid.o {kA : Nat → ClassId} {G0 G : GG} {c0 ci : Nat} {pat0 : List (Option (Option Nat))} {as : List (Nat × Nat × Nat)} (h : Mid kA G0 G c0 ci pat0 as) : isO G ci (patM (ga G) (c0 + 1) pat0 as) c0 := ⟨by rw [h.2.1]; omega, h.2.2.2.2.1⟩
theorem Mid.oe {kA : Nat → ClassId} {G0 G : GG} {c0 ci : Nat} {pat0 : List (Option (Option Nat))} {as : List (Nat × Nat × Nat)} (h : Mid kA G0 G c0 ci pat0 as) (a : Nat) (x : Sh) : isO (gext G a x) ci (patM (ga G) (c0 + 1) pat0 as) c0 := ⟨by rw [gn_ext, h.2.1]; omega, by rw [gs_ext, if_neg (by rw [h.2.1]; omega)]; exact h.2.2.2.2.1⟩
theorem Mid.ae {kA : Nat → ClassId} {G0 G : GG} {c0 ci : Nat} {pat0 : List (Option (Option Nat))} {as : List (Nat × Nat × Nat)} (h : Mid kA G0 G c0 ci pat0 as) (a : Nat) (x : Sh) : ga (gext G a x) c0 = ga G0 c0 := by rw [ga_ext, if_neg (by rw [h.2.1]; omega)]; exact h.2.2.1 c0 (Nat.le_refl c0)
theorem Mid.a {kA : Nat → ClassId} {G0 G : GG} {c0 ci : Nat} {pat0 : List (Option (Option Nat))} {as : List (Nat × Nat × Nat)} (h : Mid kA G0 G c0 ci pat0 as) : ga G c0 = ga G0 c0 := h.2.2.1 c0 (Nat.le_refl c0)
theorem Mid.step {kA : Nat → ClassId} {G0 G : GG} {c0 ci : Nat} {pat0 : List (Option (Option Nat))} {as : List (Nat × Nat × Nat)} (h : Mid kA G0 G c0 ci pat0 as) (a k t N : Nat) : Mid kA G0 (gsh (gext G a (.inl (kA t, N))) c0 (.inr (.inr (ci, (patM (ga G) (c0 + 1) pat0 as).set k (some (some a)))))) c0 ci pat0 (as ++ [(k, t, N)]) := by
  obtain ⟨h1, h2, h3, h4, h5, h6⟩ := h
  have hga : ∀ c, c < gn G → ga (gsh (gext G a (.inl (kA t, N))) c0 (.inr (.inr (ci, (patM (ga G) (c0 + 1) pat0 as).set k (some (some a)))))) c = ga G c := fun c hc => by rw [ga_sh, ga_ext, if_neg (by omega)]
  refine ⟨k_sh (k_ext h1), ?_, fun c hc => ?_, fun c hc => ?_, ?_, fun j q hj => ?_⟩
  · rw [gn_sh, gn_ext, h2, List.length_append]
    simp
    omega
  · rw [hga c (by omega)]; exact h3 c hc
  · rw [gs_sh, if_neg (by omega), gs_ext, if_neg (by omega)]; exact h4 c hc
  · rw [gs_sh, if_pos rfl, patM_app]
    have e1 : ga (gsh (gext G a (.inl (kA t, N))) c0 (.inr (.inr (ci, (patM (ga G) (c0 + 1) pat0 as).set k (some (some a)))))) (c0 + 1 + as.length) = a := by rw [ga_sh, ga_ext, if_pos h2.symm]
    rw [e1]
    congr 4
    exact patM_congr as (c0 + 1) pat0 (fun c hc1 hc2 => (hga c (by omega)).symm)
  · rw [gs_sh, if_neg (by omega), gs_ext]
    rw [List.getElem?_append] at hj
    split at hj
    · rename_i hl
      rw [if_neg (by omega)]
      exact h6 j q hj
    · rename_i hl
      have hz : j - as.length < 1 := (List.getElem?_eq_some_iff.mp hj).1
      have hje : j = as.length := by omega
      subst hje
      simp at hj
      subst hj
      rw [if_pos (by omega)]
theorem iX2 {kA : Nat → ClassId} {G : GG} {c0 a0 : Nat} {σ : Sg} {Q : GG → Sg → Prop} (hk : kOK kA G) (hn : gn G = c0 + 1) (ha : ga G c0 = a0) (hs : gs G c0 = .inr (.inr (2, [some none, some none, some none]))) (hz : Zr0 σ (c0 + 1)) (hQ : ∀ G1, New kA G G1 c0 4 → isCipher G1 c0 → Q G1 (σ)) : wpX2_init kA G a0 σ Q := by
  unfold wpX2_init
  have hM := Mid.zero hk hn hs
  subst ha
  refine ⟨by decide, by decide, ?_⟩
  rintro a0 _ _ rfl rfl
  rw [(hz.mono (show c0 + 1 ≤ gn _ by rw [hM.2.1]; omega)).up]
  refine ⟨c0, _, hM.ae _ _, hM.oe _ _, by rw [patM_len]; decide, ?_⟩
  rintro _ rfl
  replace hM := hM.step a0 0 0 176
  refine ⟨by decide, by decide, ?_⟩
  rintro a1 _ _ rfl rfl
  rw [(hz.mono (show c0 + 1 ≤ gn _ by rw [hM.2.1]; omega)).up]
  refine ⟨c0, _, hM.ae _ _, hM.oe _ _, by rw [patM_len]; decide, ?_⟩
  rintro _ rfl
  replace hM := hM.step a1 1 0 16
  refine ⟨by decide, by decide, ?_⟩
  rintro a2 _ _ rfl rfl
  rw [(hz.mono (show c0 + 1 ≤ gn _ by rw [hM.2.1]; omega)).up]
  refine ⟨c0, _, hM.ae _ _, hM.oe _ _, by rw [patM_len]; decide, ?_⟩
  rintro _ rfl
  replace hM := hM.step a2 2 0 16
  refine ⟨by decide, by decide, hQ _ ⟨hM.1, by rw [hM.2.1]; rfl, hM.2.2.1, hM.2.2.2.1⟩ ⟨hM.o, isI_mk hM.1 (by rw [hM.2.1]; simp; try omega) (hM.2.2.2.2.2 0 _ rfl), isI_mk hM.1 (by rw [hM.2.1]; simp; try omega) (hM.2.2.2.2.2 1 _ rfl), isI_mk hM.1 (by rw [hM.2.1]; simp; try omega) (hM.2.2.2.2.2 2 _ rfl)⟩⟩
theorem iX3 {kA : Nat → ClassId} {G : GG} {c0 a0 : Nat} {x1 : Int32} {σ : Sg} {Q : GG → Sg → Prop} (hk : kOK kA G) (hn : gn G = c0 + 1) (ha : ga G c0 = a0) (hs : gs G c0 = .inr (.inr (3, [none, some none, none, none, some none, some none, none, none, none, none, none, some none, none]))) (hz : Zr0 σ (c0 + 1)) (hQ : ∀ G1, New kA G G1 c0 5 → isInbox G1 c0 → Q G1 (up2 σ c0 0 x1)) : wpX3_init kA G a0 x1 σ Q := by
  unfold wpX3_init
  have hM := Mid.zero hk hn hs
  subst ha
  refine ⟨by decide, by decide, ?_⟩
  rintro a0 _ _ rfl rfl
  rw [(hz.mono (show c0 + 1 ≤ gn _ by rw [hM.2.1]; omega)).up]
  refine ⟨c0, _, hM.ae _ _, hM.oe _ _, by rw [patM_len]; decide, ?_⟩
  rintro _ rfl
  replace hM := hM.step a0 1 0 121
  refine ⟨by decide, by decide, ?_⟩
  rintro a1 _ _ rfl rfl
  rw [(hz.mono (show c0 + 1 ≤ gn _ by rw [hM.2.1]; omega)).up]
  refine ⟨c0, _, hM.ae _ _, hM.oe _ _, by rw [patM_len]; decide, ?_⟩
  rintro _ rfl
  replace hM := hM.step a1 4 0 3840
  refine ⟨by decide, by decide, ?_⟩
  rintro a2 _ _ rfl rfl
  rw [(hz.mono (show c0 + 1 ≤ gn _ by rw [hM.2.1]; omega)).up]
  refine ⟨c0, _, hM.ae _ _, hM.oe _ _, by rw [patM_len]; decide, ?_⟩
  rintro _ rfl
  replace hM := hM.step a2 5 0 32
  refine ⟨by decide, by decide, ?_⟩
  rintro a3 _ _ rfl rfl
  rw [(hz.mono (show c0 + 1 ≤ gn _ by rw [hM.2.1]; omega)).up]
  refine ⟨c0, _, hM.ae _ _, hM.oe _ _, by rw [patM_len]; decide, ?_⟩
  rintro _ rfl
  replace hM := hM.step a3 11 0 120
  refine ⟨c0, _, hM.a, hM.o, rfl, ?_⟩
  rintro _ rfl
  refine ⟨by decide, by decide, hQ _ ⟨hM.1, by rw [hM.2.1]; rfl, hM.2.2.1, hM.2.2.2.1⟩ ⟨hM.o, isI_mk hM.1 (by rw [hM.2.1]; simp; try omega) (hM.2.2.2.2.2 0 _ rfl), isI_mk hM.1 (by rw [hM.2.1]; simp; try omega) (hM.2.2.2.2.2 1 _ rfl), isI_mk hM.1 (by rw [hM.2.1]; simp; try omega) (hM.2.2.2.2.2 2 _ rfl), isI_mk hM.1 (by rw [hM.2.1]; simp; try omega) (hM.2.2.2.2.2 3 _ rfl)⟩⟩
theorem iX4 {kA : Nat → ClassId} {G : GG} {c0 a0 : Nat} {x1 : Int32} {σ : Sg} {Q : GG → Sg → Prop} (hk : kOK kA G) (hn : gn G = c0 + 1) (ha : ga G c0 = a0) (hs : gs G c0 = .inr (.inr (4, [none, some none, some none, some none, some none, none, none, none, some none, none, some none, none, none, some none, none]))) (hz : Zr0 σ (c0 + 1)) (hQ : ∀ G1, New kA G G1 c0 8 → isOutbox G1 c0 → Q G1 (up2 σ c0 0 x1)) : wpX4_init kA G a0 x1 σ Q := by
  unfold wpX4_init
  have hM := Mid.zero hk hn hs
  subst ha
  refine ⟨by decide, by decide, ?_⟩
  rintro a0 _ _ rfl rfl
  rw [(hz.mono (show c0 + 1 ≤ gn _ by rw [hM.2.1]; omega)).up]
  refine ⟨c0, _, hM.ae _ _, hM.oe _ _, by rw [patM_len]; decide, ?_⟩
  rintro _ rfl
  replace hM := hM.step a0 1 0 3840
  refine ⟨by decide, by decide, ?_⟩
  rintro a1 _ _ rfl rfl
  rw [(hz.mono (show c0 + 1 ≤ gn _ by rw [hM.2.1]; omega)).up]
  refine ⟨c0, _, hM.ae _ _, hM.oe _ _, by rw [patM_len]; decide, ?_⟩
  rintro _ rfl
  replace hM := hM.step a1 2 0 32
  refine ⟨by decide, by decide, ?_⟩
  rintro a2 _ _ rfl rfl
  rw [(hz.mono (show c0 + 1 ≤ gn _ by rw [hM.2.1]; omega)).up]
  refine ⟨c0, _, hM.ae _ _, hM.oe _ _, by rw [patM_len]; decide, ?_⟩
  rintro _ rfl
  replace hM := hM.step a2 3 1 32
  refine ⟨by decide, by decide, ?_⟩
  rintro a3 _ _ rfl rfl
  rw [(hz.mono (show c0 + 1 ≤ gn _ by rw [hM.2.1]; omega)).up]
  refine ⟨c0, _, hM.ae _ _, hM.oe _ _, by rw [patM_len]; decide, ?_⟩
  rintro _ rfl
  replace hM := hM.step a3 4 0 32
  refine ⟨by decide, by decide, ?_⟩
  rintro a4 _ _ rfl rfl
  rw [(hz.mono (show c0 + 1 ≤ gn _ by rw [hM.2.1]; omega)).up]
  refine ⟨c0, _, hM.ae _ _, hM.oe _ _, by rw [patM_len]; decide, ?_⟩
  rintro _ rfl
  replace hM := hM.step a4 8 0 32
  refine ⟨by decide, by decide, ?_⟩
  rintro a5 _ _ rfl rfl
  rw [(hz.mono (show c0 + 1 ≤ gn _ by rw [hM.2.1]; omega)).up]
  refine ⟨c0, _, hM.ae _ _, hM.oe _ _, by rw [patM_len]; decide, ?_⟩
  rintro _ rfl
  replace hM := hM.step a5 10 0 121
  refine ⟨by decide, by decide, ?_⟩
  rintro a6 _ _ rfl rfl
  rw [(hz.mono (show c0 + 1 ≤ gn _ by rw [hM.2.1]; omega)).up]
  refine ⟨c0, _, hM.ae _ _, hM.oe _ _, by rw [patM_len]; decide, ?_⟩
  rintro _ rfl
  replace hM := hM.step a6 13 0 8
  refine ⟨c0, _, hM.a, hM.o, rfl, ?_⟩
  rintro _ rfl
  refine ⟨by decide, by decide, hQ _ ⟨hM.1, by rw [hM.2.1]; rfl, hM.2.2.1, hM.2.2.2.1⟩ ⟨hM.o, isI_mk hM.1 (by rw [hM.2.1]; simp; try omega) (hM.2.2.2.2.2 0 _ rfl), isI_mk hM.1 (by rw [hM.2.1]; simp; try omega) (hM.2.2.2.2.2 1 _ rfl), isZ_mk hM.1 (by rw [hM.2.1]; simp; try omega) (hM.2.2.2.2.2 2 _ rfl), isI_mk hM.1 (by rw [hM.2.1]; simp; try omega) (hM.2.2.2.2.2 3 _ rfl), isI_mk hM.1 (by rw [hM.2.1]; simp; try omega) (hM.2.2.2.2.2 4 _ rfl), isI_mk hM.1 (by rw [hM.2.1]; simp; try omega) (hM.2.2.2.2.2 5 _ rfl), isI_mk hM.1 (by rw [hM.2.1]; simp; try omega) (hM.2.2.2.2.2 6 _ rfl)⟩⟩
