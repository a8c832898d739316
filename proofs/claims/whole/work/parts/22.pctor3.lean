/-! PURE: what an object is stays while the table grows elsewhere -/
def Kp (G G1 : GG) (a b : Nat) : Prop := gt G1 = gt G ∧ gn G ≤ gn G1 ∧ ∀ d, a ≤ d → d < b → gs G1 d = gs G d ∧ ga G1 d = ga G d
theorem Kp.sub {G G1 : GG} {a b a' b' : Nat} (h : Kp G G1 a b) (h1 : a ≤ a') (h2 : b' ≤ b) : Kp G G1 a' b' := ⟨h.1, h.2.1, fun d x y => h.2.2 d (Nat.le_trans h1 x) (Nat.lt_of_lt_of_le y h2)⟩
theorem isI_keep {G G1 : GG} {N c : Nat} (h : isI G N c) (k : Kp G G1 c (c + 1)) : isI G1 N c := by
  obtain ⟨cA, ⟨h1, h2⟩, h3⟩ := h
  exact ⟨cA, ⟨Nat.lt_of_lt_of_le h1 k.2.1, by rw [(k.2.2 c (Nat.le_refl c) (by omega)).1]; exact h2⟩, by rw [k.1]; exact h3⟩
theorem isZ_keep {G G1 : GG} {N c : Nat} (h : isZ G N c) (k : Kp G G1 c (c + 1)) : isZ G1 N c := by
  obtain ⟨cA, ⟨h1, h2⟩, h3⟩ := h
  exact ⟨cA, ⟨Nat.lt_of_lt_of_le h1 k.2.1, by rw [(k.2.2 c (Nat.le_refl c) (by omega)).1]; exact h2⟩, by rw [k.1]; exact h3⟩
theorem isR_keep {G G1 : GG} {t0 N c : Nat} {C : String} {f : Nat → Nat} (h : isR G t0 C N f c) (k : Kp G G1 c (c + 1)) (ka : ∀ j, j < N → ga G1 (f j) = ga G (f j)) : isR G1 t0 C N f c := by
  obtain ⟨cA, g, ⟨h1, h2⟩, h3, h4⟩ := h
  exact ⟨cA, g, ⟨Nat.lt_of_lt_of_le h1 k.2.1, by rw [(k.2.2 c (Nat.le_refl c) (by omega)).1]; exact h2⟩, by rw [k.1]; exact h3, fun j hj => by rw [h4 j hj, ka j hj]⟩
theorem isPiece_keep {G G1 : GG} {c : Nat} (h : isPiece G c) (k : Kp G G1 c (c + 2)) : isPiece G1 c := by
  refine ⟨⟨Nat.lt_of_lt_of_le h.1.1 k.2.1, ?_⟩, isI_keep h.2 (k.sub (by omega) (by omega))⟩
  rw [(k.2.2 c (by omega) (by omega)).1, (k.2.2 (c + 1) (by omega) (by omega)).2]
  exact h.1.2
theorem isAir_keep {G G1 : GG} {c : Nat} (h : isAir G c) (k : Kp G G1 c (c + 2)) : isAir G1 c := by
  refine ⟨⟨Nat.lt_of_lt_of_le h.1.1 k.2.1, ?_⟩, isI_keep h.2 (k.sub (by omega) (by omega))⟩
  rw [(k.2.2 c (by omega) (by omega)).1, (k.2.2 (c + 1) (by omega) (by omega)).2]
  exact h.1.2
theorem isCarrier_keep {G G1 : GG} {c : Nat} (h : isCarrier G c) (k : Kp G G1 c (c + 3)) : isCarrier G1 c := by
  refine ⟨⟨Nat.lt_of_lt_of_le h.1.1 k.2.1, ?_⟩, isAir_keep h.2 (k.sub (by omega) (by omega))⟩
  rw [(k.2.2 c (by omega) (by omega)).1, (k.2.2 (c + 1) (by omega) (by omega)).2]
  exact h.1.2
theorem isCipher_keep {G G1 : GG} {c : Nat} (h : isCipher G c) (k : Kp G G1 c (c + 4)) : isCipher G1 c := by
  refine ⟨⟨Nat.lt_of_lt_of_le h.1.1 k.2.1, ?_⟩, isI_keep h.2.1 (k.sub (by omega) (by omega)), isI_keep h.2.2.1 (k.sub (by omega) (by omega)), isI_keep h.2.2.2 (k.sub (by omega) (by omega))⟩
  rw [(k.2.2 c (by omega) (by omega)).1, (k.2.2 (c + 1) (by omega) (by omega)).2, (k.2.2 (c + 2) (by omega) (by omega)).2, (k.2.2 (c + 3) (by omega) (by omega)).2]
  exact h.1.2
theorem isInbox_keep {G G1 : GG} {c : Nat} (h : isInbox G c) (k : Kp G G1 c (c + 5)) : isInbox G1 c := by
  refine ⟨⟨Nat.lt_of_lt_of_le h.1.1 k.2.1, ?_⟩, isI_keep h.2.1 (k.sub (by omega) (by omega)), isI_keep h.2.2.1 (k.sub (by omega) (by omega)), isI_keep h.2.2.2.1 (k.sub (by omega) (by omega)), isI_keep h.2.2.2.2 (k.sub (by omega) (by omega))⟩
  rw [(k.2.2 c (by omega) (by omega)).1, (k.2.2 (c + 1) (by omega) (by omega)).2, (k.2.2 (c + 2) (by omega) (by omega)).2, (k.2.2 (c + 3) (by omega) (by omega)).2, (k.2.2 (c + 4) (by omega) (by omega)).2]
  exact h.1.2
theorem isOutbox_keep {G G1 : GG} {c : Nat} (h : isOutbox G c) (k : Kp G G1 c (c + 8)) : isOutbox G1 c := by
  refine ⟨⟨Nat.lt_of_lt_of_le h.1.1 k.2.1, ?_⟩, isI_keep h.2.1 (k.sub (by omega) (by omega)), isI_keep h.2.2.1 (k.sub (by omega) (by omega)), isZ_keep h.2.2.2.1 (k.sub (by omega) (by omega)), isI_keep h.2.2.2.2.1 (k.sub (by omega) (by omega)), isI_keep h.2.2.2.2.2.1 (k.sub (by omega) (by omega)), isI_keep h.2.2.2.2.2.2.1 (k.sub (by omega) (by omega)), isI_keep h.2.2.2.2.2.2.2 (k.sub (by omega) (by omega))⟩
  rw [(k.2.2 c (by omega) (by omega)).1, (k.2.2 (c + 1) (by omega) (by omega)).2, (k.2.2 (c + 2) (by omega) (by omega)).2, (k.2.2 (c + 3) (by omega) (by omega)).2, (k.2.2 (c + 4) (by omega) (by omega)).2, (k.2.2 (c + 5) (by omega) (by omega)).2, (k.2.2 (c + 6) (by omega) (by omega)).2, (k.2.2 (c + 7) (by omega) (by omega)).2]
  exact h.1.2
theorem isSender_keep {G G1 : GG} {c : Nat} (h : isSender G c) (k : Kp G G1 c (c + 42)) : isSender G1 c := by
  refine ⟨⟨Nat.lt_of_lt_of_le h.1.1 k.2.1, ?_⟩, isR_keep h.2.1 (k.sub (by omega) (by omega)) (fun j hj => (k.2.2 _ (by omega) (by omega)).2), isOutbox_keep h.2.2.1 (k.sub (by omega) (by omega)), fun j hj => isPiece_keep (h.2.2.2 j hj) (k.sub (by omega) (by omega))⟩
  rw [(k.2.2 c (by omega) (by omega)).1, (k.2.2 (c + 1) (by omega) (by omega)).2, (k.2.2 (c + 2) (by omega) (by omega)).2]
  exact h.1.2
theorem isReceiver_keep {G G1 : GG} {c : Nat} (h : isReceiver G c) (k : Kp G G1 c (c + 71)) : isReceiver G1 c := by
  refine ⟨⟨Nat.lt_of_lt_of_le h.1.1 k.2.1, ?_⟩, isR_keep h.2.1 (k.sub (by omega) (by omega)) (fun j hj => (k.2.2 _ (by omega) (by omega)).2), isInbox_keep h.2.2.1 (k.sub (by omega) (by omega)), fun j hj => isPiece_keep (h.2.2.2 j hj) (k.sub (by omega) (by omega))⟩
  rw [(k.2.2 c (by omega) (by omega)).1, (k.2.2 (c + 1) (by omega) (by omega)).2, (k.2.2 (c + 2) (by omega) (by omega)).2]
  exact h.1.2
theorem kOK.gt {kA : Nat → ClassId} {G G1 : GG} (h : kOK kA G) (h1 : kOK kA G1) : gt G1 = gt G := Eq.trans h1 h.symm
/-! the sender -/
def pat7 (G : GG) (c0 : Nat) : List (Option (Option Nat)) := [some (some (ga G (c0 + 2))), some (some (ga G (c0 + 1))), none, none, none, none, none, none, none, none, none, none, none, none, none]
def SndM (kA : Nat → ClassId) (G0 G : GG) (c0 i : Nat) : Prop := kOK kA G ∧ gn G = c0 + 10 + 2 * i ∧ (∀ c, c ≤ c0 → ga G c = ga G0 c) ∧ (∀ c, c < c0 → gs G c = gs G0 c) ∧ isO G 7 (pat7 G c0) c0 ∧ (∃ f : Nat → Option Nat, gs G (c0 + 1) = .inr (.inl (kA 2, 16, f)) ∧ ∀ j, j < i → f j = some (ga G (c0 + 10 + 2 * j))) ∧ isOutbox G (c0 + 2) ∧ ∀ j, j < i → isPiece G (c0 + 10 + 2 * j)
theorem sndLoop {kA : Nat → ClassId} {G0 : GG} {c0 : Nat} {σ : Sg} {Q : GG → Sg → Prop} (hz : Zr0 σ (c0 + 10)) (hQ : ∀ G1, SndM kA G0 G1 c0 16 → Q G1 σ) : ∀ (m i : Nat) (G : GG), i + m = 16 → SndM kA G0 G c0 i → wpX7_init_L38 kA Q (m + 1) (ga G0 c0) (nI i) G σ (9 + 2 * i) (4128 + 246 * i) := by
  intro m
  induction m with
  | zero =>
    intro i G hi hM
    unfold wpX7_init_L38
    obtain ⟨h1, h2, h3, h4, h5, ⟨f, h6, h7⟩, h8, h9⟩ := id hM
    refine ⟨c0, _, ga G (c0 + 1), h3 c0 (Nat.le_refl c0), h5, rfl, c0 + 1, 16, f, rfl, ⟨by omega, h6⟩, fun _ => ⟨by omega, by omega, ?_⟩, fun hc => ?_⟩
    · have : i = 16 := by omega
      subst this
      exact hQ G hM
    · exact absurd (nI_le (a := 16) (b := i) (by omega) (by omega)) hc
  | succ m ih =>
    intro i G hi hM
    unfold wpX7_init_L38
    obtain ⟨h1, h2, h3, h4, h5, ⟨f, h6, h7⟩, h8, h9⟩ := id hM
    refine ⟨c0, _, ga G (c0 + 1), h3 c0 (Nat.le_refl c0), h5, rfl, c0 + 1, 16, f, rfl, ⟨by omega, h6⟩, fun hc => ?_, fun _ => ?_⟩
    · exact absurd hc (nI_ge (a := i) (b := 16) (by omega) (by decide))
    · refine ⟨c0, _, ga G (c0 + 1), h3 c0 (Nat.le_refl c0), h5, rfl, by omega, by omega, ?_⟩
      rintro a _ _ rfl rfl
      rw [(hz.mono (show c0 + 10 ≤ gn G by omega)).up]
      have hga : ∀ c, c < gn G → ga (gext G a (.inr (.inr (5, [some none, none, none, none, none, none])))) c = ga G c := fun c hc => by rw [ga_ext, if_neg (by omega)]
      have hgs : ∀ c, c < gn G → gs (gext G a (.inr (.inr (5, [some none, none, none, none, none, none])))) c = gs G c := fun c hc => by rw [gs_ext, if_neg (by omega)]
      refine ⟨by omega, by omega, iX5 (c0 := c0 + 10 + 2 * i) (k_ext h1) (by rw [gn_ext]; omega) (by rw [ga_ext, if_pos (by omega)]) (by rw [gs_ext, if_pos (by omega)]) (hz.mono (by omega)) ?_⟩
      intro G1 hG hA
      have ka : ∀ c, c < gn G → ga G1 c = ga G c := fun c hc => by rw [hG.2.2.1 c (by omega), hga c hc]
      have ks : ∀ c, c < gn G → gs G1 c = gs G c := fun c hc => by rw [hG.2.2.2 c (by omega), hgs c hc]
      have kx : ga G1 (c0 + 10 + 2 * i) = a := by rw [hG.2.2.1 _ (Nat.le_refl _), ga_ext, if_pos (by omega)]
      refine ⟨c0 + 1, c0 + 10 + 2 * i, 16, f, _, ka _ (by omega), kx, ⟨by rw [hG.2.1]; omega, by rw [ks _ (by omega)]; exact h6⟩, hA.1, vp_in_nI (by omega) (by decide), ?_⟩
      rintro _ rfl _ rfl
      have hi2 : (nI i).toNatClampNeg = i := nI_clamp (by omega)
      have k2 : ∀ b c, c0 + 2 ≤ b → Kp G1 (gsh G1 (c0 + 1) (.inr (.inl (kA 2, 16, va_up f (nI i).toNatClampNeg (some a))))) b c := fun b c hb => ⟨rfl, Nat.le_refl _, fun d hd _ => ⟨by rw [gs_sh, if_neg (by omega)], rfl⟩⟩
      have k1 : ∀ b c, c ≤ gn G → Kp G G1 b c := fun b c hb => ⟨h1.gt hG.1, by rw [hG.2.1]; omega, fun d _ hd => ⟨ks d (by omega), ka d (by omega)⟩⟩
      have hx1 : nI i + 1 = nI (i + 1) := nI_1 i
      rw [hx1, show 9 + 2 * i + 1 + 1 = 9 + 2 * (i + 1) by omega, show 4128 + 246 * i + 6 + 240 = 4128 + 246 * (i + 1) by omega]
      refine ih (i + 1) _ (by omega) ⟨k_sh hG.1, by rw [gn_sh, hG.2.1]; omega, fun c hc => by rw [ga_sh, ka c (by omega)]; exact h3 c hc, fun c hc => by rw [gs_sh, if_neg (by omega), ks c (by omega)]; exact h4 c hc, ⟨by rw [gn_sh, hG.2.1]; omega, ?_⟩, ⟨_, by rw [gs_sh, if_pos rfl], fun j hj => ?_⟩, ?_, fun j hj => ?_⟩
      · rw [gs_sh, if_neg (by omega), ks c0 (by omega), h5.2]
        unfold pat7
        rw [ga_sh, ga_sh, ka (c0 + 2) (by omega), ka (c0 + 1) (by omega)]
      · rw [hi2]
        by_cases e : j = i
        · subst e
          simp only [va_up, if_pos, ga_sh, kx]
        · simp only [va_up, if_neg e, ga_sh]
          rw [h7 j (by omega), ka _ (by omega)]
      · exact isOutbox_keep (isOutbox_keep h8 (k1 _ _ (by omega))) (k2 _ _ (by omega))
      · by_cases e : j = i
        · subst e
          exact isPiece_keep hA (k2 _ _ (by omega))
        · exact isPiece_keep (isPiece_keep (h9 j (by omega)) (k1 _ _ (by omega))) (k2 _ _ (by omega))
theorem iX7 {kA : Nat → ClassId} {G : GG} {c0 a0 : Nat} {x1 : Int32} {σ : Sg} {Q : GG → Sg → Prop} (hk : kOK kA G) (hn : gn G = c0 + 1) (ha : ga G c0 = a0) (hs : gs G c0 = .inr (.inr (7, [some none, some none, none, none, none, none, none, none, none, none, none, none, none, none, none]))) (hz : Zr0 σ (c0 + 1)) (hQ : ∀ G1, New kA G G1 c0 42 → isSender G1 c0 → Q G1 (up2 (up2 (up2 σ c0 2 16) c0 9 (-1)) (c0 + 2) 0 x1)) : wpX7_init kA G a0 x1 σ Q := by
  subst ha
  unfold wpX7_init
  refine ⟨by decide, by decide, ?_⟩
  rintro a1 _ _ rfl rfl
  rw [hn, hz.up]
  refine ⟨c0, [some none, some none, none, none, none, none, none, none, none, none, none, none, none, none, none], by rw [ga_ext, if_neg (by omega)], ⟨by rw [gn_ext]; omega, by rw [gs_ext, if_neg (by omega)]; exact hs⟩, by decide, ?_⟩
  intro G6 e6
  have n6 : gn G6 = c0 + 2 := by rw [e6, gn_sh, gn_ext]; omega
  have k6 : kOK kA G6 := by rw [e6]; exact k_sh (k_ext hk)
  have a6 : ∀ c, c ≤ c0 → ga G6 c = ga G c := fun c hc => by rw [e6, ga_sh, ga_ext, if_neg (by omega)]
  have b6 : ga G6 (c0 + 1) = a1 := by rw [e6, ga_sh, ga_ext, if_pos (by omega)]
  have s6 : ∀ c, c < c0 → gs G6 c = gs G c := fun c hc => by rw [e6, gs_sh, if_neg (by omega), gs_ext, if_neg (by omega)]
  have o6 : isO G6 7 [some none, some (some a1), none, none, none, none, none, none, none, none, none, none, none, none, none] c0 := ⟨by omega, by rw [e6, gs_sh, if_pos rfl]; rfl⟩
  have r6 : gs G6 (c0 + 1) = .inr (.inl (kA 2, 16, fun _ => none)) := by rw [e6, gs_sh, if_neg (by omega), gs_ext, if_pos (by omega)]
  clear e6
  refine ⟨c0, _, a6 c0 (Nat.le_refl c0), o6, rfl, ?_⟩
  rintro _ rfl
  refine ⟨c0, _, a6 c0 (Nat.le_refl c0), o6, rfl, ?_⟩
  rintro _ rfl
  have hz2 : Zr0 (up2 (up2 σ c0 2 16) c0 9 (-1)) (c0 + 1) := (hz.put (by omega)).put (by omega)
  refine ⟨by decide, by decide, ?_⟩
  rintro a2 _ _ rfl rfl
  rw [n6, (hz2.mono (show c0 + 1 ≤ c0 + 2 by omega)).up]
  refine ⟨by decide, by decide, iX4 (c0 := c0 + 2) (k_ext k6) (by rw [gn_ext, n6]) (by rw [ga_ext, if_pos n6.symm]) (by rw [gs_ext, if_pos n6.symm]) (hz2.mono (by omega)) ?_⟩
  intro G2 hG hA
  have ka : ∀ c, c < c0 + 2 → ga G2 c = ga G6 c := fun c hc => by rw [hG.2.2.1 c (by omega), ga_ext, if_neg (by omega)]
  have kb : ga G2 (c0 + 2) = a2 := by rw [hG.2.2.1 _ (Nat.le_refl _), ga_ext, if_pos n6.symm]
  have ks : ∀ c, c < c0 + 2 → gs G2 c = gs G6 c := fun c hc => by rw [hG.2.2.2 c hc, gs_ext, if_neg (by omega)]
  refine ⟨c0, _, by rw [ka c0 (by omega)]; exact a6 c0 (Nat.le_refl c0), ⟨by rw [hG.2.1]; omega, by rw [ks c0 (by omega)]; exact o6.2⟩, by simp, ?_⟩
  rintro _ rfl
  refine ⟨17, ?_⟩
  have hz3 : Zr0 (up2 (up2 (up2 σ c0 2 16) c0 9 (-1)) (c0 + 2) 0 x1) (c0 + 10) := (hz2.mono (by omega)).put (by omega)
  refine sndLoop (G0 := G) (c0 := c0) hz3 ?_ 16 0 _ (by omega) ⟨k_sh hG.1, by rw [gn_sh, hG.2.1], fun c hc => by rw [ga_sh, ka c (by omega)]; exact a6 c hc, fun c hc => by rw [gs_sh, if_neg (by omega), ks c (by omega)]; exact s6 c hc, ⟨by rw [gn_sh, hG.2.1]; omega, ?_⟩, ⟨_, by rw [gs_sh, if_neg (by omega), ks _ (by omega)]; exact r6, fun j hj => by omega⟩, ?_, fun j hj => by omega⟩
  · intro G1 hM
    obtain ⟨h1, h2, h3, h4, h5, ⟨f, h6, h7⟩, h8, h9⟩ := hM
    exact hQ G1 ⟨h1, h2, h3, h4⟩ ⟨h5, isR_mk (kA := kA) (kOK.at h1 (t := 2) rfl) (by omega) h6 h7, h8, h9⟩
  · rw [gs_sh, if_pos rfl]
    unfold pat7
    rw [ga_sh, ga_sh, kb, ka _ (by omega), b6]
    rfl
  · exact isOutbox_keep hA ⟨rfl, Nat.le_refl _, fun d hd _ => ⟨by rw [gs_sh, if_neg (by omega)], rfl⟩⟩
/-! the receiver -/
def pat6 (G : GG) (c0 : Nat) : List (Option (Option Nat)) := [some (some (ga G (c0 + 2))), some (some (ga G (c0 + 1))), none, none, none, none, none, none, none, none, none, none, none]
def rcvS (σ : Sg) (c0 : Nat) : Nat → Sg
  | 0 => σ
  | i + 1 => up2 (rcvS σ c0 i) (c0 + 7 + 2 * i) 1 (-1)
theorem rcvS_z {σ : Sg} {c0 : Nat} (hz : Zr0 σ (c0 + 7)) : ∀ i, Zr0 (rcvS σ c0 i) (c0 + 7 + 2 * i)
  | 0 => hz
  | i + 1 => by
    have := rcvS_z hz i
    exact (this.mono (show c0 + 7 + 2 * i ≤ c0 + 7 + 2 * (i + 1) by omega)).put (by omega)
def RcvM (kA : Nat → ClassId) (G0 G : GG) (c0 i : Nat) : Prop := kOK kA G ∧ gn G = c0 + 7 + 2 * i ∧ (∀ c, c ≤ c0 → ga G c = ga G0 c) ∧ (∀ c, c < c0 → gs G c = gs G0 c) ∧ isO G 6 (pat6 G c0) c0 ∧ (∃ f : Nat → Option Nat, gs G (c0 + 1) = .inr (.inl (kA 2, 32, f)) ∧ ∀ j, j < i → f j = some (ga G (c0 + 7 + 2 * j))) ∧ isInbox G (c0 + 2) ∧ ∀ j, j < i → isPiece G (c0 + 7 + 2 * j)
theorem rcvLoop {kA : Nat → ClassId} {G0 : GG} {c0 : Nat} {σ : Sg} {Q : GG → Sg → Prop} (hz : Zr0 σ (c0 + 7)) (hQ : ∀ G1, RcvM kA G0 G1 c0 32 → Q G1 (rcvS σ c0 32)) : ∀ (m i : Nat) (G : GG), i + m = 32 → RcvM kA G0 G c0 i → wpX6_init_L32 kA Q (m + 1) (ga G0 c0) (nI i) G (rcvS σ c0 i) (6 + 2 * i) (4158 + 246 * i) := by
  intro m
  induction m with
  | zero =>
    intro i G hi hM
    unfold wpX6_init_L32
    obtain ⟨h1, h2, h3, h4, h5, ⟨f, h6, h7⟩, h8, h9⟩ := id hM
    refine ⟨c0, _, ga G (c0 + 1), h3 c0 (Nat.le_refl c0), h5, rfl, c0 + 1, 32, f, rfl, ⟨by omega, h6⟩, fun _ => ⟨by omega, by omega, ?_⟩, fun hc => ?_⟩
    · have : i = 32 := by omega
      subst this
      exact hQ G hM
    · exact absurd (nI_le (a := 32) (b := i) (by omega) (by omega)) hc
  | succ m ih =>
    intro i G hi hM
    unfold wpX6_init_L32
    obtain ⟨h1, h2, h3, h4, h5, ⟨f, h6, h7⟩, h8, h9⟩ := id hM
    refine ⟨c0, _, ga G (c0 + 1), h3 c0 (Nat.le_refl c0), h5, rfl, c0 + 1, 32, f, rfl, ⟨by omega, h6⟩, fun hc => ?_, fun _ => ?_⟩
    · exact absurd hc (nI_ge (a := i) (b := 32) (by omega) (by decide))
    · refine ⟨c0, _, ga G (c0 + 1), h3 c0 (Nat.le_refl c0), h5, rfl, by omega, by omega, ?_⟩
      rintro a _ _ rfl rfl
      have hzi := rcvS_z hz i
      rw [(hzi.mono (show c0 + 7 + 2 * i ≤ gn G by omega)).up]
      have hga : ∀ c, c < gn G → ga (gext G a (.inr (.inr (5, [some none, none, none, none, none, none])))) c = ga G c := fun c hc => by rw [ga_ext, if_neg (by omega)]
      have hgs : ∀ c, c < gn G → gs (gext G a (.inr (.inr (5, [some none, none, none, none, none, none])))) c = gs G c := fun c hc => by rw [gs_ext, if_neg (by omega)]
      refine ⟨by omega, by omega, iX5 (c0 := c0 + 7 + 2 * i) (k_ext h1) (by rw [gn_ext]; omega) (by rw [ga_ext, if_pos (by omega)]) (by rw [gs_ext, if_pos (by omega)]) (hzi.mono (by omega)) ?_⟩
      intro G1 hG hA
      have ka : ∀ c, c < gn G → ga G1 c = ga G c := fun c hc => by rw [hG.2.2.1 c (by omega), hga c hc]
      have ks : ∀ c, c < gn G → gs G1 c = gs G c := fun c hc => by rw [hG.2.2.2 c (by omega), hgs c hc]
      have kx : ga G1 (c0 + 7 + 2 * i) = a := by rw [hG.2.2.1 _ (Nat.le_refl _), ga_ext, if_pos (by omega)]
      have hi2 : (nI i).toNatClampNeg = i := nI_clamp (by omega)
      refine ⟨c0 + 1, c0 + 7 + 2 * i, 32, f, _, ka _ (by omega), kx, ⟨by rw [hG.2.1]; omega, by rw [ks _ (by omega)]; exact h6⟩, hA.1, vp_in_nI (by omega) (by decide), ?_⟩
      intro G3 e3
      rw [hi2] at e3
      have k2 : ∀ b c, c0 + 2 ≤ b → Kp G1 G3 b c := fun b c hb => ⟨by rw [e3]; rfl, by rw [e3, gn_sh]; omega, fun d hd _ => ⟨by rw [e3, gs_sh, if_neg (by omega)], by rw [e3, ga_sh]⟩⟩
      have k1 : ∀ b c, c ≤ gn G → Kp G G1 b c := fun b c hb => ⟨h1.gt hG.1, by rw [hG.2.1]; omega, fun d _ hd => ⟨ks d (by omega), ka d (by omega)⟩⟩
      have g3a : ∀ c, ga G3 c = ga G1 c := fun c => by rw [e3, ga_sh]
      have g3n : gn G3 = c0 + 7 + 2 * (i + 1) := by rw [e3, gn_sh, hG.2.1]; omega
      have g3k : kOK kA G3 := by rw [e3]; exact k_sh hG.1
      have g3f : gs G3 (c0 + 1) = .inr (.inl (kA 2, 32, va_up f i (some a))) := by rw [e3, gs_sh, if_pos rfl]
      have g3s : ∀ c, c < c0 + 1 → gs G3 c = gs G c := fun c hc => by rw [e3, gs_sh, if_neg (by omega), ks c (by omega)]
      have g3o : isO G3 6 (pat6 G3 c0) c0 := by
        refine ⟨by omega, ?_⟩
        rw [g3s c0 (by omega), h5.2]
        unfold pat6
        rw [g3a, g3a, ka (c0 + 2) (by omega), ka (c0 + 1) (by omega)]
      clear e3
      have g3p : isPiece G3 (c0 + 7 + 2 * i) := isPiece_keep hA (k2 _ _ (by omega))
      refine ⟨c0, _, ga G3 (c0 + 1), by rw [g3a, ka c0 (by omega)]; exact h3 c0 (Nat.le_refl c0), g3o, rfl, c0 + 1, 32, _, a, rfl, ⟨by omega, g3f⟩, vp_in_nI (by omega) (by decide), by rw [hi2]; simp [va_up], c0 + 7 + 2 * i, _, by rw [g3a, kx], g3p.1, rfl, ?_⟩
      rintro _ rfl _ rfl
      have hx1 : nI i + 1 = nI (i + 1) := nI_1 i
      rw [hx1, show 6 + 2 * i + 1 + 1 = 6 + 2 * (i + 1) by omega, show 4158 + 246 * i + 6 + 240 = 4158 + 246 * (i + 1) by omega]
      refine ih (i + 1) G3 (by omega) ⟨g3k, g3n, fun c hc => by rw [g3a, ka c (by omega)]; exact h3 c hc, fun c hc => by rw [g3s c (by omega)]; exact h4 c hc, g3o, ⟨_, g3f, fun j hj => ?_⟩, ?_, fun j hj => ?_⟩
      · by_cases e : j = i
        · subst e
          simp only [va_up, if_pos, g3a, kx]
        · simp only [va_up, if_neg e, g3a]
          rw [h7 j (by omega), ka _ (by omega)]
      · exact isInbox_keep (isInbox_keep h8 (k1 _ _ (by omega))) (k2 _ _ (by omega))
      · by_cases e : j = i
        · subst e
          exact g3p
        · exact isPiece_keep (isPiece_keep (h9 j (by omega)) (k1 _ _ (by omega))) (k2 _ _ (by omega))
theorem iX6 {kA : Nat → ClassId} {G : GG} {c0 a0 : Nat} {x1 : Int32} {σ : Sg} {Q : GG → Sg → Prop} (hk : kOK kA G) (hn : gn G = c0 + 1) (ha : ga G c0 = a0) (hs : gs G c0 = .inr (.inr (6, [some none, some none, none, none, none, none, none, none, none, none, none, none, none]))) (hz : Zr0 σ (c0 + 1)) (hQ : ∀ G1, New kA G G1 c0 71 → isReceiver G1 c0 → Q G1 (rcvS (up2 (up2 σ c0 6 (-1)) (c0 + 2) 0 x1) c0 32)) : wpX6_init kA G a0 x1 σ Q := by
  subst ha
  unfold wpX6_init
  refine ⟨by decide, by decide, ?_⟩
  rintro a1 _ _ rfl rfl
  rw [hn, hz.up]
  refine ⟨c0, [some none, some none, none, none, none, none, none, none, none, none, none, none, none], by rw [ga_ext, if_neg (by omega)], ⟨by rw [gn_ext]; omega, by rw [gs_ext, if_neg (by omega)]; exact hs⟩, by decide, ?_⟩
  intro G6 e6
  have n6 : gn G6 = c0 + 2 := by rw [e6, gn_sh, gn_ext]; omega
  have k6 : kOK kA G6 := by rw [e6]; exact k_sh (k_ext hk)
  have a6 : ∀ c, c ≤ c0 → ga G6 c = ga G c := fun c hc => by rw [e6, ga_sh, ga_ext, if_neg (by omega)]
  have b6 : ga G6 (c0 + 1) = a1 := by rw [e6, ga_sh, ga_ext, if_pos (by omega)]
  have s6 : ∀ c, c < c0 → gs G6 c = gs G c := fun c hc => by rw [e6, gs_sh, if_neg (by omega), gs_ext, if_neg (by omega)]
  have o6 : isO G6 6 [some none, some (some a1), none, none, none, none, none, none, none, none, none, none, none] c0 := ⟨by omega, by rw [e6, gs_sh, if_pos rfl]; rfl⟩
  have r6 : gs G6 (c0 + 1) = .inr (.inl (kA 2, 32, fun _ => none)) := by rw [e6, gs_sh, if_neg (by omega), gs_ext, if_pos (by omega)]
  clear e6
  refine ⟨c0, _, a6 c0 (Nat.le_refl c0), o6, rfl, ?_⟩
  rintro _ rfl
  have hz2 : Zr0 (up2 σ c0 6 (-1)) (c0 + 1) := hz.put (by omega)
  refine ⟨by decide, by decide, ?_⟩
  rintro a2 _ _ rfl rfl
  rw [n6, (hz2.mono (show c0 + 1 ≤ c0 + 2 by omega)).up]
  refine ⟨by decide, by decide, iX3 (c0 := c0 + 2) (k_ext k6) (by rw [gn_ext, n6]) (by rw [ga_ext, if_pos n6.symm]) (by rw [gs_ext, if_pos n6.symm]) (hz2.mono (by omega)) ?_⟩
  intro G2 hG hA
  have ka : ∀ c, c < c0 + 2 → ga G2 c = ga G6 c := fun c hc => by rw [hG.2.2.1 c (by omega), ga_ext, if_neg (by omega)]
  have kb : ga G2 (c0 + 2) = a2 := by rw [hG.2.2.1 _ (Nat.le_refl _), ga_ext, if_pos n6.symm]
  have ks : ∀ c, c < c0 + 2 → gs G2 c = gs G6 c := fun c hc => by rw [hG.2.2.2 c hc, gs_ext, if_neg (by omega)]
  refine ⟨c0, _, by rw [ka c0 (by omega)]; exact a6 c0 (Nat.le_refl c0), ⟨by rw [hG.2.1]; omega, by rw [ks c0 (by omega)]; exact o6.2⟩, by simp, ?_⟩
  rintro _ rfl
  refine ⟨33, ?_⟩
  have hz3 : Zr0 (up2 (up2 σ c0 6 (-1)) (c0 + 2) 0 x1) (c0 + 7) := (hz2.mono (by omega)).put (by omega)
  refine rcvLoop (G0 := G) (c0 := c0) hz3 ?_ 32 0 _ (by omega) ⟨k_sh hG.1, by rw [gn_sh, hG.2.1], fun c hc => by rw [ga_sh, ka c (by omega)]; exact a6 c hc, fun c hc => by rw [gs_sh, if_neg (by omega), ks c (by omega)]; exact s6 c hc, ⟨by rw [gn_sh, hG.2.1]; omega, ?_⟩, ⟨_, by rw [gs_sh, if_neg (by omega), ks _ (by omega)]; exact r6, fun j hj => by omega⟩, ?_, fun j hj => by omega⟩
  · intro G1 hM
    obtain ⟨h1, h2, h3, h4, h5, ⟨f, h6, h7⟩, h8, h9⟩ := hM
    exact hQ G1 ⟨h1, h2, h3, h4⟩ ⟨h5, isR_mk (kA := kA) (kOK.at h1 (t := 2) rfl) (by omega) h6 h7, h8, h9⟩
  · rw [gs_sh, if_pos rfl]
    unfold pat6
    rw [ga_sh, ga_sh, kb, ka _ (by omega), b6]
    rfl
  · exact isInbox_keep hA ⟨rfl, Nat.le_refl _, fun d hd _ => ⟨by rw [gs_sh, if_neg (by omega)], rfl⟩⟩
