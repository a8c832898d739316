/-! PURE: the places of the house -/
def hmS (B i : Nat) (z : Int32) : Int32 := (8 * (nI i - (z * nI B))) + (4 * z)
def hmR (B i : Nat) (z : Int32) : Int32 := (8 * (nI i - (z * nI B))) + (4 * (1 - z))
def hpz (B i : Nat) : Int32 := if B ≤ i then 1 else 0
def hst1 (σ : Sg) (B i : Nat) : Sg := up2 (up2 (up2 σ (9 + 113 * i) 2 16) (9 + 113 * i) 9 (-1)) (9 + 113 * i + 2) 0 (hmS B i (hpz B i))
def hst2 (σ : Sg) (B i : Nat) : Sg := rcvS (up2 (up2 σ (51 + 113 * i) 6 (-1)) (51 + 113 * i + 2) 0 (hmR B i (hpz B i))) (51 + 113 * i) 32
def hst (σ : Sg) (B : Nat) : Nat → Sg
  | 0 => σ
  | i + 1 => hst2 (hst1 (hst σ B i) B i) B i
theorem rcvS_o {σ : Sg} {c0 c : Nat} (h : c < c0 + 7) : ∀ i, rcvS σ c0 i c = σ c
  | 0 => rfl
  | i + 1 => by
    unfold rcvS
    rw [up2_o (by omega)]
    exact rcvS_o h i
theorem hst_o {σ : Sg} {B c : Nat} (h : c < 9) : ∀ i, hst σ B i c = σ c
  | 0 => rfl
  | i + 1 => by
    show hst2 (hst1 (hst σ B i) B i) B i c = σ c
    unfold hst2
    rw [rcvS_o (by omega), up2_o (by omega), up2_o (by omega)]
    unfold hst1
    rw [up2_o (by omega), up2_o (by omega), up2_o (by omega)]
    exact hst_o h i
theorem hst1_z {σ : Sg} {B i : Nat} (h : Zr0 σ (9 + 113 * i)) : Zr0 (hst1 σ B i) (51 + 113 * i) := (((h.mono (by omega)).put (by omega)).put (by omega)).put (by omega)
theorem hst_z {σ : Sg} {B : Nat} (h : Zr0 σ 9) : ∀ i, Zr0 (hst σ B i) (9 + 113 * i)
  | 0 => h
  | i + 1 => by
    have h1 := hst1_z (B := B) (hst_z (B := B) h i)
    have h2 : Zr0 (up2 (up2 (hst1 (hst σ B i) B i) (51 + 113 * i) 6 (-1)) (51 + 113 * i + 2) 0 (hmR B i (hpz B i))) (51 + 113 * i + 7) := ((h1.mono (by omega)).put (by omega)).put (by omega)
    exact (rcvS_z h2 32).mono (by omega)
def PM (kA : Nat → ClassId) (G : GG) (a0 P i : Nat) : Prop := HM kA G P i ∧ gn G = 9 + 113 * i ∧ ga G 0 = a0 ∧ isO G 8 (pat8 (ga G) none) 0
theorem plLoop {kA : Nat → ClassId} {tb : Nat → Int32} {a0 P B : Nat} {σ : Sg} {Q : GG → Sg → Prop} (hP : P ≤ 6) (hB : P = 2 * B) (hz : Zr0 σ 9) (hb : σ 0 0 = nI B) (hQ : ∀ G1, CM kA G1 a0 P 8 → Q G1 (hst σ B P)) : ∀ (m i k j : Nat) (G : GG), i + m = P → k ≤ 8 + 113 * i → j ≤ 345 + 20122 * i → PM kA G a0 P i → wpX8_init_L89 kA tb Q (m + 1) a0 (nI P) (nI i) G (hst σ B i) k j := by
  intro m
  induction m with
  | zero =>
    intro i k j G hi hk hj hM
    have e : i = P := by omega
    subst e
    unfold wpX8_init_L89
    refine ⟨fun _ => ⟨by omega, by omega, ?_⟩, fun hc => absurd (nI_le (Nat.le_refl _) (by omega)) hc⟩
    obtain ⟨h1, h2, h3, h4⟩ := hM
    intro a G5 σ5 e5 es5
    have hs5 : σ5 = hst σ B i := by rw [es5]; exact ((hst_z hz i).mono (by omega)).up
    rw [hs5]
    refine ⟨0, _, by rw [e5, ga_ext, if_neg (by omega)]; exact h3, ⟨by rw [e5, gn_ext]; omega, by rw [e5, gs_ext, if_neg (by omega)]; exact h4.2⟩, by simp [pat8], ?_⟩
    intro G6 e6
    refine ⟨9, ?_⟩
    have n6 : gn G6 = 10 + 113 * i + 3 * 0 := by rw [e6, gn_sh, e5, gn_ext]; omega
    have kp : Kp G G6 1 (9 + 113 * i) := by rw [e6, e5]; exact (Kp.ex (by omega)).tr (Kp.shp (by omega))
    have k6 : kOK kA G6 := by rw [e6, e5]; exact k_sh (k_ext h1.1)
    have a6 : ga G6 (9 + 113 * i) = a := by rw [e6, ga_sh, e5, ga_ext, if_pos (by omega)]
    have g6 : ∀ c, c < gn G → ga G6 c = ga G c := fun c hc => by rw [e6, ga_sh, e5, ga_ext, if_neg (by omega)]
    refine carLoop (P := i) (by omega) (hst_z hz i) hQ 8 0 (k + 1) (j + 8) G6 (by omega) (by omega) (by omega) ⟨HM_keep h1 k6 kp, n6, by rw [g6 0 (by omega)]; exact h3, ⟨by omega, ?_⟩, ⟨by omega, fun _ => none, by rw [e6, gs_sh, if_neg (by omega), e5, gs_ext, if_pos (by omega)], fun j hj => by omega⟩, fun j hj => by omega⟩
    rw [a6, pat8_congr (fun c hc => g6 c (by omega)), e6, gs_sh, if_pos rfl]
    rfl
  | succ m ih =>
    intro i k j G hi hk hj hM
    unfold wpX8_init_L89
    refine ⟨fun hc => absurd hc (nI_ge (a := i) (b := P) (by omega) (by omega)), fun _ => ?_⟩
    obtain ⟨h1, h2, h3, h4⟩ := hM
    have hbi : hst σ B i 0 0 = nI B := by rw [hst_o (by omega)]; exact hb
    refine ⟨0, _, h3, h4, rfl, ?_⟩
    have go : ∀ z0 : Int32, z0 = hpz B i → wpX8_init_L109 kA tb Q (wpX8_init_L89 kA tb Q (m + 1)) a0 (nI P) (nI i) z0 G (hst σ B i) k j := by
      intro z0 hz0
      unfold wpX8_init_L109
      refine ⟨0, _, h3, h4, rfl, ?_⟩
      rintro _ rfl
      rw [hbi]
      obtain ⟨r70, f7, r71, r72⟩ := h1.2.2.2.2.1
      refine ⟨0, _, ga G 7, h3, h4, rfl, by omega, by omega, ?_⟩
      intro a G5 σ5 e5 es5
      have hs5 : σ5 = hst σ B i := by rw [es5]; exact ((hst_z hz i).mono (by omega)).up
      rw [hs5]
      have kx : ∀ x y, y ≤ gn G → Kp G G5 x y := fun x y hy => by rw [e5]; exact Kp.ex hy
      have kk5 : kOK kA G5 := by rw [e5]; exact k_ext h1.1
      have n5 : gn G5 = 9 + 113 * i + 1 := by rw [e5, gn_ext]; omega
      have a5 : ga G5 (9 + 113 * i) = a := by rw [e5, ga_ext, if_pos (by omega)]
      have s5 : gs G5 (9 + 113 * i) = .inr (.inr (7, [some none, some none, none, none, none, none, none, none, none, none, none, none, none, none, none])) := by rw [e5, gs_ext, if_pos (by omega)]
      clear e5
      refine ⟨by omega, by omega, iX7 (c0 := 9 + 113 * i) kk5 n5 a5 s5 ((hst_z hz i).mono (by omega)) ?_⟩
      intro G1 hG hA
      have k1 : ∀ x y, y ≤ gn G → Kp G G1 x y := fun x y hy => (kx x y hy).tr (Kp.new kk5 hG n5 (by omega) (by omega))
      have g1 : ∀ c, c < gn G → ga G1 c = ga G c := fun c hc => ((k1 0 (gn G) (Nat.le_refl _)).2.2 c (by omega) hc).2
      have s1 : ∀ c, c < gn G → gs G1 c = gs G c := fun c hc => ((k1 0 (gn G) (Nat.le_refl _)).2.2 c (by omega) hc).1
      have ax : ga G1 (9 + 113 * i) = a := by rw [hG.2.2.1 _ (Nat.le_refl _)]; exact a5
      have n1 : gn G1 = 51 + 113 * i := by rw [hG.2.1]; omega
      refine ⟨7, 9 + 113 * i, P, f7, _, g1 _ (by omega), ax, ⟨by omega, by rw [s1 _ (by omega)]; exact r71⟩, hA.1, vp_in_nI (by omega) (by omega), ?_⟩
      intro G3 e3
      rw [nI_clamp (by omega)] at e3
      have g3 : ∀ c, ga G3 c = ga G1 c := fun c => by rw [e3, ga_sh]
      have n3 : gn G3 = 51 + 113 * i := by rw [e3, gn_sh, n1]
      have kk3 : kOK kA G3 := by rw [e3]; exact k_sh hG.1
      have k3 : ∀ x y, 8 ≤ x → Kp G1 G3 x y := fun x y hx => by rw [e3]; exact Kp.shp (by omega)
      have k3b : ∀ x y, y ≤ 7 → Kp G1 G3 x y := fun x y hx => by rw [e3]; exact Kp.shp (by omega)
      have row7 : rowM kA G3 7 3 P (i + 1) (fun j => 9 + 113 * j) := by
        rw [e3]
        exact rowM_put (by omega) (fun j hj => by rw [r72 j hj, g1 _ (by omega)]) ax
      have o3 : isO G3 8 (pat8 (ga G3) none) 0 := by
        refine ⟨by omega, ?_⟩
        rw [((k3b 0 1 (by omega)).2.2 0 (by omega) (by omega)).1, s1 0 (by omega), h4.2]
        rw [pat8_congr (a := ga G) (b := ga G3) (fun c hc => by rw [g3, g1 c (by omega)])]
      have a30 : ga G3 0 = a0 := by rw [g3, g1 0 (by omega)]; exact h3
      have hm1 : Kp G G1 1 (9 + 113 * i) := k1 _ _ (by omega)
      have i1 : isI G3 120 1 := isI_keep (isI_keep h1.2.1 (k1 _ _ (by omega))) (k3b _ _ (by omega))
      have i2 : isI G3 2 2 := isI_keep (isI_keep h1.2.2.1 (k1 _ _ (by omega))) (k3b _ _ (by omega))
      have i3 : isCipher G3 3 := isCipher_keep (isCipher_keep h1.2.2.2.1 (k1 _ _ (by omega))) (k3b _ _ (by omega))
      have row8 : rowM kA G3 8 4 P i (fun j => 51 + 113 * j) := rowM_keep (rowM_keep h1.2.2.2.2.2.1 (k1 _ _ (by omega)) (fun j hj => g1 _ (by omega))) (k3 _ _ (by omega)) (fun j hj => g3 _)
      have sn3 : ∀ j, j < i + 1 → isSender G3 (9 + 113 * j) := fun j hj => by
        by_cases e : j = i
        · subst e
          exact isSender_keep hA (k3 _ _ (by omega))
        · exact isSender_keep (isSender_keep (h1.2.2.2.2.2.2.1 j (by omega)) (k1 _ _ (by omega))) (k3 _ _ (by omega))
      have rc3 : ∀ j, j < i → isReceiver G3 (51 + 113 * j) := fun j hj => isReceiver_keep (isReceiver_keep (h1.2.2.2.2.2.2.2 j hj) (k1 _ _ (by omega))) (k3 _ _ (by omega))
      have eS : up2 (up2 (up2 (hst σ B i) (9 + 113 * i) 2 16) (9 + 113 * i) 9 (-1)) (9 + 113 * i + 2) 0 ((8 * (nI i - (z0 * nI B))) + (4 * z0)) = hst1 (hst σ B i) B i := by rw [hz0]; rfl
      rw [eS]
      clear e3 kx s1 hA
      obtain ⟨r80, f8, r81, r82⟩ := id row8
      refine ⟨0, _, ga G3 8, a30, o3, rfl, by omega, by omega, ?_⟩
      intro b G6 σ6 e6 es6
      have hs6 : σ6 = hst1 (hst σ B i) B i := by rw [es6]; exact ((hst1_z (hst_z hz i)).mono (by omega)).up
      rw [hs6]
      have kx6 : ∀ x y, y ≤ gn G3 → Kp G3 G6 x y := fun x y hy => by rw [e6]; exact Kp.ex hy
      have kk6 : kOK kA G6 := by rw [e6]; exact k_ext kk3
      have n6 : gn G6 = 51 + 113 * i + 1 := by rw [e6, gn_ext]; omega
      have a6 : ga G6 (51 + 113 * i) = b := by rw [e6, ga_ext, if_pos (by omega)]
      have s6 : gs G6 (51 + 113 * i) = .inr (.inr (6, [some none, some none, none, none, none, none, none, none, none, none, none, none, none])) := by rw [e6, gs_ext, if_pos (by omega)]
      clear e6
      refine ⟨by omega, by omega, iX6 (c0 := 51 + 113 * i) kk6 n6 a6 s6 ((hst1_z (hst_z hz i)).mono (by omega)) ?_⟩
      intro G7 hG7 hA7
      have k7 : ∀ x y, y ≤ gn G3 → Kp G3 G7 x y := fun x y hy => (kx6 x y hy).tr (Kp.new kk6 hG7 n6 (by omega) (by omega))
      have g7 : ∀ c, c < gn G3 → ga G7 c = ga G3 c := fun c hc => ((k7 0 (gn G3) (Nat.le_refl _)).2.2 c (by omega) hc).2
      have s7 : ∀ c, c < gn G3 → gs G7 c = gs G3 c := fun c hc => ((k7 0 (gn G3) (Nat.le_refl _)).2.2 c (by omega) hc).1
      have ax7 : ga G7 (51 + 113 * i) = b := by rw [hG7.2.2.1 _ (Nat.le_refl _)]; exact a6
      have n7 : gn G7 = 9 + 113 * (i + 1) := by rw [hG7.2.1]; omega
      refine ⟨8, 51 + 113 * i, P, f8, _, g7 _ (by omega), ax7, ⟨by omega, by rw [s7 _ (by omega)]; exact r81⟩, hA7.1, vp_in_nI (by omega) (by omega), ?_⟩
      intro G8 e8 _ ex
      subst ex
      rw [nI_clamp (by omega)] at e8
      have g8 : ∀ c, ga G8 c = ga G7 c := fun c => by rw [e8, ga_sh]
      have k8 : ∀ x y, 9 ≤ x → Kp G7 G8 x y := fun x y hx => by rw [e8]; exact Kp.shp (by omega)
      have k8b : ∀ x y, y ≤ 8 → Kp G7 G8 x y := fun x y hx => by rw [e8]; exact Kp.shp (by omega)
      have row8' : rowM kA G8 8 4 P (i + 1) (fun j => 51 + 113 * j) := by
        rw [e8]
        exact rowM_put (by omega) (fun j hj => by rw [r82 j hj, g7 _ (by omega)]) ax7
      have kk8 : kOK kA G8 := by rw [e8]; exact k_sh hG7.1
      have n8 : gn G8 = 9 + 113 * (i + 1) := by rw [e8, gn_sh, n7]
      have eR : rcvS (up2 (up2 (hst1 (hst σ B i) B i) (51 + 113 * i) 6 (-1)) (51 + 113 * i + 2) 0 ((8 * (nI i - (z0 * nI B))) + (4 * (1 - z0)))) (51 + 113 * i) 32 = hst σ B (i + 1) := by rw [hz0]; rfl
      rw [eR, nI_1]
      clear e8
      refine ih (i + 1) _ _ G8 (by omega) (by omega) (by omega) ⟨⟨kk8, isI_keep (isI_keep i1 (k7 _ _ (by omega))) (k8b _ _ (by omega)), isI_keep (isI_keep i2 (k7 _ _ (by omega))) (k8b _ _ (by omega)), isCipher_keep (isCipher_keep i3 (k7 _ _ (by omega))) (k8b _ _ (by omega)), rowM_keep (rowM_keep row7 (k7 _ _ (by omega)) (fun j hj => g7 _ (by omega))) (k8b _ _ (by omega)) (fun j hj => g8 _), row8', fun j hj => isSender_keep (isSender_keep (sn3 j hj) (k7 _ _ (by omega))) (k8 _ _ (by omega)), fun j hj => ?_⟩, n8, by rw [g8, g7 0 (by omega)]; exact a30, ⟨by omega, ?_⟩⟩
      · by_cases e : j = i
        · subst e
          exact isReceiver_keep hA7 (k8 _ _ (by omega))
        · exact isReceiver_keep (isReceiver_keep (rc3 j (by omega)) (k7 _ _ (by omega))) (k8 _ _ (by omega))
      · rw [((k8b 0 1 (by omega)).2.2 0 (by omega) (by omega)).1, s7 0 (by omega), o3.2]
        rw [pat8_congr (a := ga G3) (b := ga G8) (fun c hc => by rw [g8, g7 c (by omega)])]
    rw [hbi]
    refine ⟨fun hc => go 1 ?_, fun hc => go 0 ?_⟩
    · unfold hpz
      rw [if_pos ((nI_leI (by omega) (by omega)).mp hc)]
    · unfold hpz
      rw [if_neg (fun h9 => hc ((nI_leI (by omega) (by omega)).mpr h9))]
def hs0 (tb : Nat → Int32) (B : Nat) (y : Int32) : Sg := va_up (up2 (up2 (fun _ _ => 0) 0 0 (nI B)) 0 1 y) 4 (kF tb y 0 (fun _ => 0))
def INC (x y : Int32) (P : Nat) (σ : Sg) : Prop := ∃ B : Nat, 1 ≤ B ∧ B ≤ 3 ∧ P = 2 * B ∧ (if x < 1 ∨ 3 < x then 2 else x) = nI B ∧ σ = hst (hs0 sbT B y) B P
theorem init35 {kA : Nat → ClassId} {a0 B : Nat} {y : Int32} {Q : GG → Sg → Prop} {G0 G : GG} (h1 : 1 ≤ B) (h2 : B ≤ 3) (hM : Mid kA G0 G 0 8 [none, none, some none, none, some none, some none, some none, some none, some none, none, none, none, none, none, none, none] [(2, 0, 120), (8, 0, 2)]) (ha : ga G 0 = a0) (hQ : ∀ G1, isHouse G1 (2 * B) → ga G1 0 = a0 → Q G1 (hst (hs0 sbT B y) B (2 * B))) : wpX8_init_L35 kA sbT Q a0 y (nI B) a0 G (fun _ _ => 0) 2 122 := by
  unfold wpX8_init_L35
  have hn : gn G = 3 := hM.2.1
  have o1 := hM.o
  refine ⟨0, _, ha, o1, rfl, ?_⟩
  rintro _ rfl
  refine ⟨0, _, ha, o1, rfl, ?_⟩
  rintro _ rfl
  have z0 : Zr0 (up2 (up2 (fun _ _ => 0) 0 0 (nI B)) 0 1 y) 3 := Zr0.put (Zr0.put (fun c _ => rfl) (by omega)) (by omega)
  refine ⟨by decide, by decide, ?_⟩
  intro a G5 σ5 e5 es5
  have hs5 : σ5 = up2 (up2 (fun _ _ => 0) 0 0 (nI B)) 0 1 y := by rw [es5, hn]; exact z0.up
  rw [hs5]
  have n5 : gn G5 = 3 + 1 := by rw [e5, gn_ext, hn]
  have k5 : kOK kA G5 := by rw [e5]; exact k_ext hM.1
  have g5 : ∀ c, c < 3 → ga G5 c = ga G c := fun c hc => by rw [e5, ga_ext, if_neg (by omega)]
  have s5 : ∀ c, c < 3 → gs G5 c = gs G c := fun c hc => by rw [e5, gs_ext, if_neg (by omega)]
  have a5 : ga G5 3 = a := by rw [e5, ga_ext, if_pos hn.symm]
  have x5 : gs G5 3 = .inr (.inr (2, [some none, some none, some none])) := by rw [e5, gs_ext, if_pos hn.symm]
  clear e5
  refine ⟨by decide, by decide, iX2 (c0 := 3) k5 n5 a5 x5 (z0.mono (by omega)) ?_⟩
  intro G1 hG hA
  have g1 : ∀ c, c < 3 → ga G1 c = ga G c := fun c hc => by rw [hG.2.2.1 c (by omega), g5 c hc]
  have s1 : ∀ c, c < 3 → gs G1 c = gs G c := fun c hc => by rw [hG.2.2.2 c (by omega), s5 c hc]
  have a1 : ga G1 3 = a := by rw [hG.2.2.1 3 (by omega), a5]
  have n1 : gn G1 = 7 := hG.2.1
  refine ⟨0, _, by rw [g1 0 (by omega)]; exact ha, ⟨by omega, by rw [s1 0 (by omega)]; exact o1.2⟩, by rw [patM_len]; decide, ?_⟩
  intro G2 e2
  have n2 : gn G2 = 7 := by rw [e2, gn_sh, n1]
  have g2 : ∀ c, ga G2 c = ga G1 c := fun c => by rw [e2, ga_sh]
  have k2 : kOK kA G2 := by rw [e2]; exact k_sh hG.1
  have kp2 : ∀ b, Kp G1 G2 1 b := fun b => by rw [e2]; exact Kp.shp (by omega)
  have o2 : isO G2 8 [none, none, some (some (ga G2 1)), none, some (some (ga G2 3)), some none, some none, some none, some (some (ga G2 2)), none, none, none, none, none, none, none] 0 := by
    refine ⟨by omega, ?_⟩
    rw [e2, gs_sh, if_pos rfl, ga_sh, ga_sh, ga_sh, a1, g1 1 (by omega), g1 2 (by omega)]
    rfl
  have a20 : ga G2 0 = a0 := by rw [g2, g1 0 (by omega)]; exact ha
  have c2 : isCipher G2 3 := isCipher_keep hA (kp2 _ |>.sub (by omega) (Nat.le_refl _))
  have kp1 : Kp G G1 1 3 := ⟨hM.1.gt hG.1, by omega, fun d h1 h2 => ⟨s1 d h2, g1 d h2⟩⟩
  have i1 : isI G2 120 1 := isI_keep (isI_keep (isI_mk hM.1 (by omega) (hM.2.2.2.2.2 0 _ rfl)) (kp1.sub (by omega) (by omega))) (kp2 _)
  have i2 : isI G2 2 2 := isI_keep (isI_keep (isI_mk hM.1 (by omega) (hM.2.2.2.2.2 1 _ rfl)) (kp1.sub (by omega) (by omega))) (kp2 _ |>.sub (by omega) (Nat.le_refl _))
  clear e2
  refine ⟨0, _, ga G2 3, a20, o2, rfl, by decide, by decide, 3, rfl, c2, setKey_ok ?_⟩
  have eK : va_up (up2 (up2 (fun _ _ => 0) 0 0 (nI B)) 0 1 y) (3 + 1) (kF sbT y 0 ((up2 (up2 (fun _ _ => 0) 0 0 (nI B)) 0 1 y) (3 + 1))) = hs0 sbT B y := by
    unfold hs0
    rw [z0 4 (by omega)]
  rw [eK]
  have zz : Zr0 (hs0 sbT B y) 7 := fun c hc => by
    unfold hs0
    rw [vu_o (by omega)]
    exact z0 c (by omega)
  have hb0 : hs0 sbT B y 0 0 = nI B := by
    unfold hs0
    rw [vu_o (by omega), up2_e, up2_e]
    simp
  refine ⟨0, _, a20, o2, rfl, ?_⟩
  intro x3 ex3
  have ex : x3 = nI (2 * B) := by rw [ex3, hb0]; exact pk_mul 2 B
  subst ex
  refine ⟨2 * B, nI_pos (by omega), nI_clamp (by omega), by omega, by omega, by omega, ?_⟩
  intro b G3 σ3 e3 es3
  have hs3 : σ3 = hs0 sbT B y := by rw [es3, n2]; exact zz.up
  rw [hs3]
  refine ⟨0, _, by rw [e3, ga_ext, if_neg (by omega)]; exact a20, ⟨by rw [e3, gn_ext]; omega, by rw [e3, gs_ext, if_neg (by omega)]; exact o2.2⟩, by simp, ?_⟩
  intro G4 e4
  have n4 : gn G4 = 8 := by rw [e4, gn_sh, e3, gn_ext, n2]
  have g4 : ∀ c, c < 7 → ga G4 c = ga G2 c := fun c hc => by rw [e4, ga_sh, e3, ga_ext, if_neg (by omega)]
  have a47 : ga G4 7 = b := by rw [e4, ga_sh, e3, ga_ext, if_pos n2.symm]
  have k4 : kOK kA G4 := by rw [e4, e3]; exact k_sh (k_ext k2)
  have kp4 : ∀ x y, 1 ≤ x → y ≤ 7 → Kp G2 G4 x y := fun x y hx hy => by rw [e4, e3]; exact (Kp.ex (by omega)).tr (Kp.shp (by omega))
  have r47 : gs G4 7 = .inr (.inl (kA 3, 2 * B, fun _ => none)) := by rw [e4, gs_sh, if_neg (by omega), e3, gs_ext, if_pos n2.symm]
  have o4 : isO G4 8 [none, none, some (some (ga G4 1)), none, some (some (ga G4 3)), some (some (ga G4 7)), some none, some none, some (some (ga G4 2)), none, none, none, none, none, none, none] 0 := by
    refine ⟨by omega, ?_⟩
    rw [g4 1 (by omega), g4 3 (by omega), g4 2 (by omega), a47, e4, gs_sh, if_pos rfl]
    rfl
  clear e4 e3
  refine ⟨2 * B, nI_pos (by omega), nI_clamp (by omega), by omega, by omega, by omega, ?_⟩
  intro d G6 σ6 e6 es6
  have hs6 : σ6 = hs0 sbT B y := by rw [es6, n4]; exact (zz.mono (by omega)).up
  rw [hs6]
  refine ⟨0, _, by rw [e6, ga_ext, if_neg (by omega), g4 0 (by omega)]; exact a20, ⟨by rw [e6, gn_ext]; omega, by rw [e6, gs_ext, if_neg (by omega)]; exact o4.2⟩, by simp, ?_⟩
  intro G7 e7
  have n7 : gn G7 = 9 := by rw [e7, gn_sh, e6, gn_ext, n4]
  have g7 : ∀ c, c < 8 → ga G7 c = ga G4 c := fun c hc => by rw [e7, ga_sh, e6, ga_ext, if_neg (by omega)]
  have a78 : ga G7 8 = d := by rw [e7, ga_sh, e6, ga_ext, if_pos n4.symm]
  have k7 : kOK kA G7 := by rw [e7, e6]; exact k_sh (k_ext k4)
  have kp7 : ∀ x y, 1 ≤ x → y ≤ 8 → Kp G4 G7 x y := fun x y hx hy => by rw [e7, e6]; exact (Kp.ex (by omega)).tr (Kp.shp (by omega))
  refine ⟨2 * B + 1, plLoop (P := 2 * B) (B := B) (by omega) rfl (zz.mono (by omega)) hb0 (fun G1 h => hQ G1 (CM_house h) h.2.2.1) (2 * B) 0 _ _ G7 (by omega) (by omega) (by omega) ⟨⟨k7, isI_keep (isI_keep i1 (kp4 _ _ (by omega) (by omega))) (kp7 _ _ (by omega) (by omega)), isI_keep (isI_keep i2 (kp4 _ _ (by omega) (by omega))) (kp7 _ _ (by omega) (by omega)), isCipher_keep (isCipher_keep c2 (kp4 _ _ (by omega) (by omega))) (kp7 _ _ (by omega) (by omega)), ⟨by omega, fun _ => none, by rw [((kp7 7 8 (by omega) (by omega)).2.2 7 (by omega) (by omega)).1]; exact r47, fun j hj => by omega⟩, ⟨by omega, fun _ => none, by rw [e7, gs_sh, if_neg (by omega), e6, gs_ext, if_pos n4.symm], fun j hj => by omega⟩, fun j hj => by omega, fun j hj => by omega⟩, n7, by rw [g7 0 (by omega), g4 0 (by omega)]; exact a20, ⟨by omega, ?_⟩⟩⟩
  unfold pat8
  rw [g7 1 (by omega), g7 3 (by omega), g7 7 (by omega), g7 2 (by omega), a78, e7, gs_sh, if_pos rfl]
  rfl
theorem initC_ok : InitC INC := by
  intro kA G a0 x y Q hn ha hs hk hQ
  unfold wpX8_init
  have hM := Mid.zero (c0 := 0) hk hn hs
  subst ha
  refine ⟨by decide, by decide, ?_⟩
  intro b1 G5 σ5 e5 es5
  have hs5 : σ5 = fun _ _ => 0 := by rw [es5]; exact Zr0.up (fun c _ => rfl)
  rw [hs5, e5]
  refine ⟨0, _, hM.ae _ _, hM.oe _ _, by rw [patM_len]; decide, ?_⟩
  rintro _ rfl
  replace hM := hM.step b1 2 0 120
  refine ⟨by decide, by decide, ?_⟩
  intro b2 G9 σ9 e9 es9
  have hs9 : σ9 = fun _ _ => 0 := by rw [es9]; exact Zr0.up (fun c _ => rfl)
  rw [hs9, e9]
  refine ⟨0, _, hM.ae _ _, hM.oe _ _, by rw [patM_len]; decide, ?_⟩
  rintro _ rfl
  replace hM := hM.step b2 8 0 2
  have h2 : x < 1 ∨ 3 < x → (if x < 1 ∨ 3 < x then (2 : Int32) else x) = nI 2 := fun h => by rw [if_pos h]; rfl
  refine ⟨fun hc => ?_, fun hc => ⟨fun hd => ?_, fun hd => ?_⟩⟩
  · unfold wpX8_init_L30
    exact init35 (B := 2) (by omega) (by omega) hM hM.a (fun G1 a1 a2 => hQ 4 G1 _ a1 a2 ⟨2, by omega, by omega, rfl, h2 (Or.inl hc), rfl⟩)
  · have h1 : ¬ x < 0 := fun h => hc (by
      rw [Int32.lt_iff_toInt_lt] at h ⊢
      have e0 : (0 : Int32).toInt = 0 := rfl
      have e1 : (1 : Int32).toInt = 1 := rfl
      omega)
    obtain ⟨B, hB, eB⟩ := nI_of2 (x := x) (M := 3) (n := 3) rfl h1 hd
    have hB1 : 1 ≤ B := by
      rcases Nat.eq_zero_or_pos B with z | z
      · exact absurd (by rw [eB, z]; decide) hc
      · exact z
    rw [eB]
    exact init35 (B := B) hB1 hB hM hM.a (fun G1 a1 a2 => hQ (2 * B) G1 _ a1 a2 ⟨B, hB1, hB, rfl, by
      have hne : ¬ (x < 1 ∨ 3 < x) := by
        rintro (h | h)
        · exact hc h
        · rw [Int32.lt_iff_toInt_lt] at h
          rw [Int32.le_iff_toInt_le] at hd
          omega
      rw [if_neg hne]
      exact eB, rfl⟩)
  · unfold wpX8_init_L30
    exact init35 (B := 2) (by omega) (by omega) hM hM.a (fun G1 a1 a2 => hQ 4 G1 _ a1 a2 ⟨2, by omega, by omega, rfl, h2 (Or.inr (by
      rw [Int32.lt_iff_toInt_lt]
      rw [Int32.le_iff_toInt_le] at hd
      omega)), rfl⟩)
