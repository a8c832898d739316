/-! PURE: the house's constructor -/
def pat8 (a : Nat → Nat) (car : Option Nat) : List (Option (Option Nat)) := [none, none, some (some (a 1)), none, some (some (a 3)), some (some (a 7)), some (some (a 8)), some car, some (some (a 2)), none, none, none, none, none, none, none]
theorem pat8_congr {a b : Nat → Nat} {car : Option Nat} (h : ∀ c, c < 9 → a c = b c) : pat8 a car = pat8 b car := by
  unfold pat8
  rw [h 1 (by omega), h 3 (by omega), h 7 (by omega), h 8 (by omega), h 2 (by omega)]
def rowM (kA : Nat → ClassId) (G : GG) (c t N i : Nat) (at' : Nat → Nat) : Prop := c < gn G ∧ ∃ f : Nat → Option Nat, gs G c = .inr (.inl (kA t, N, f)) ∧ ∀ j, j < i → f j = some (ga G (at' j))
theorem rowM_keep {kA : Nat → ClassId} {G G1 : GG} {c t N i : Nat} {at' : Nat → Nat} (h : rowM kA G c t N i at') (k : Kp G G1 c (c + 1)) (ka : ∀ j, j < i → ga G1 (at' j) = ga G (at' j)) : rowM kA G1 c t N i at' := by
  obtain ⟨h0, f, h1, h2⟩ := h
  exact ⟨Nat.lt_of_lt_of_le h0 k.2.1, f, by rw [(k.2.2 c (Nat.le_refl c) (by omega)).1]; exact h1, fun j hj => by rw [h2 j hj, ka j hj]⟩
theorem rowM_put {kA : Nat → ClassId} {G : GG} {c t N i a : Nat} {at' : Nat → Nat} {f : Nat → Option Nat} (h0 : c < gn G) (h2 : ∀ j, j < i → f j = some (ga G (at' j))) (ha : ga G (at' i) = a) : rowM kA (gsh G c (.inr (.inl (kA t, N, va_up f i (some a))))) c t N (i + 1) at' := by
  refine ⟨h0, _, by rw [gs_sh, if_pos rfl], fun j hj => ?_⟩
  rw [ga_sh]
  by_cases e : j = i
  · subst e
    simp [va_up, ha]
  · simp only [va_up, if_neg e]
    exact h2 j (by omega)
theorem Kp.shp {G : GG} {c a b : Nat} {x : Sh} (h : c < a ∨ b ≤ c) : Kp G (gsh G c x) a b := ⟨rfl, Nat.le_refl _, fun d h1 h2 => ⟨by rw [gs_sh, if_neg (by omega)], rfl⟩⟩
theorem Kp.tr {G G1 G2 : GG} {a b : Nat} (h : Kp G G1 a b) (h2 : Kp G1 G2 a b) : Kp G G2 a b := ⟨h2.1.trans h.1, Nat.le_trans h.2.1 h2.2.1, fun d x y => ⟨(h2.2.2 d x y).1.trans (h.2.2 d x y).1, (h2.2.2 d x y).2.trans (h.2.2 d x y).2⟩⟩
theorem Kp.ex {G : GG} {a b q : Nat} {x : Sh} (h : b ≤ gn G) : Kp G (gext G q x) a b := ⟨rfl, Nat.le_succ _, fun d h1 h2 => ⟨by rw [gs_ext, if_neg (by omega)], by rw [ga_ext, if_neg (by omega)]⟩⟩
theorem Kp.new {kA : Nat → ClassId} {G G1 : GG} {c0 k a b : Nat} (hk : kOK kA G) (h : New kA G G1 c0 k) (hn : gn G = c0 + 1) (hk1 : 1 ≤ k) (hb : b ≤ c0) : Kp G G1 a b := ⟨hk.gt h.1, by rw [h.2.1]; omega, fun d _ h2 => ⟨h.2.2.2 d (by omega), h.2.2.1 d (by omega)⟩⟩
/-- all but the carriers; i places are made -/
def HM (kA : Nat → ClassId) (G : GG) (P i : Nat) : Prop := kOK kA G ∧ isI G 120 1 ∧ isI G 2 2 ∧ isCipher G 3 ∧ rowM kA G 7 3 P i (fun j => 9 + 113 * j) ∧ rowM kA G 8 4 P i (fun j => 51 + 113 * j) ∧ (∀ j, j < i → isSender G (9 + 113 * j)) ∧ ∀ j, j < i → isReceiver G (51 + 113 * j)
theorem HM_keep {kA : Nat → ClassId} {G G1 : GG} {P i : Nat} (h : HM kA G P i) (hk1 : kOK kA G1) (k : Kp G G1 1 (9 + 113 * i)) : HM kA G1 P i := by
  obtain ⟨h1, h2, h3, h4, h5, h6, h7, h8⟩ := h
  exact ⟨hk1, isI_keep h2 (k.sub (by omega) (by omega)), isI_keep h3 (k.sub (by omega) (by omega)), isCipher_keep h4 (k.sub (by omega) (by omega)), rowM_keep h5 (k.sub (by omega) (by omega)) (fun j hj => (k.2.2 _ (by omega) (by omega)).2), rowM_keep h6 (k.sub (by omega) (by omega)) (fun j hj => (k.2.2 _ (by omega) (by omega)).2), fun j hj => isSender_keep (h7 j hj) (k.sub (by omega) (by omega)), fun j hj => isReceiver_keep (h8 j hj) (k.sub (by omega) (by omega))⟩
def CM (kA : Nat → ClassId) (G : GG) (a0 P i : Nat) : Prop := HM kA G P P ∧ gn G = 10 + 113 * P + 3 * i ∧ ga G 0 = a0 ∧ isO G 8 (pat8 (ga G) (some (ga G (9 + 113 * P)))) 0 ∧ rowM kA G (9 + 113 * P) 5 8 i (fun j => 10 + 113 * P + 3 * j) ∧ ∀ j, j < i → isCarrier G (10 + 113 * P + 3 * j)
theorem CM_house {kA : Nat → ClassId} {G : GG} {a0 P : Nat} (h : CM kA G a0 P 8) : isHouse G P := by
  obtain ⟨⟨h1, h2, h3, h4, ⟨h50, f5, h51, h52⟩, ⟨h60, f6, h61, h62⟩, h7, h8⟩, -, -, c4, ⟨c50, f7, c51, c52⟩, c6⟩ := h
  exact ⟨c4, h2, h3, h4, isR_mk (kA := kA) (kOK.at h1 (t := 3) rfl) h50 h51 h52, isR_mk (kA := kA) (kOK.at h1 (t := 4) rfl) h60 h61 h62, isR_mk (kA := kA) (kOK.at h1 (t := 5) rfl) c50 c51 c52, h7, h8, c6⟩
theorem carLoop {kA : Nat → ClassId} {tb : Nat → Int32} {a0 P : Nat} {σ : Sg} {Q : GG → Sg → Prop} (hP : P ≤ 6) (hz : Zr0 σ (9 + 113 * P)) (hQ : ∀ G1, CM kA G1 a0 P 8 → Q G1 σ) : ∀ (m i k j : Nat) (G : GG), i + m = 8 → k = 687 + 3 * i ∨ k ≤ 687 + 3 * i → j ≤ 121085 + 256 * i → CM kA G a0 P i → wpX8_init_L191 kA tb Q (m + 1) a0 (nI i) G σ k j := by
  intro m
  induction m with
  | zero =>
    intro i k j G hi hk hj hM
    unfold wpX8_init_L191
    obtain ⟨c1, c2, c3, c4, ⟨c50, f, c51, c52⟩, c6⟩ := id hM
    refine ⟨0, _, ga G (9 + 113 * P), c3, c4, rfl, 9 + 113 * P, 8, f, rfl, ⟨c50, c51⟩, fun _ => ⟨by omega, by omega, ?_⟩, fun hc => ?_⟩
    · have : i = 8 := by omega
      subst this
      exact hQ G hM
    · exact absurd (nI_le (a := 8) (b := i) (by omega) (by omega)) hc
  | succ m ih =>
    intro i k j G hi hk hj hM
    unfold wpX8_init_L191
    obtain ⟨c1, c2, c3, c4, ⟨c50, f, c51, c52⟩, c6⟩ := id hM
    refine ⟨0, _, ga G (9 + 113 * P), c3, c4, rfl, 9 + 113 * P, 8, f, rfl, ⟨c50, c51⟩, fun hc => ?_, fun _ => ?_⟩
    · exact absurd hc (nI_ge (a := i) (b := 8) (by omega) (by decide))
    · refine ⟨0, _, ga G (9 + 113 * P), c3, c4, rfl, by omega, by omega, ?_⟩
      intro a G5 σ5 e5 es5
      have hs5 : σ5 = σ := by rw [es5]; exact (hz.mono (by omega)).up
      rw [hs5]
      have kx : ∀ x y, y ≤ gn G → Kp G G5 x y := fun x y hy => by rw [e5]; exact Kp.ex hy
      have kk5 : kOK kA G5 := by rw [e5]; exact k_ext c1.1
      have n5 : gn G5 = 10 + 113 * P + 3 * i + 1 := by rw [e5, gn_ext]; omega
      have a5 : ga G5 (10 + 113 * P + 3 * i) = a := by rw [e5, ga_ext, if_pos (by omega)]
      have s5 : gs G5 (10 + 113 * P + 3 * i) = .inr (.inr (1, [some none, none, none, none])) := by rw [e5, gs_ext, if_pos (by omega)]
      clear e5
      refine ⟨by omega, by omega, iX1 (c0 := 10 + 113 * P + 3 * i) kk5 n5 a5 s5 (hz.mono (by omega)) ?_⟩
      intro G1 hG hA
      have k1 : ∀ x y, y ≤ gn G → Kp G G1 x y := fun x y hy => (kx x y hy).tr (Kp.new kk5 hG n5 (by omega) (by omega))
      have g1 : ∀ c, c < gn G → ga G1 c = ga G c := fun c hc => ((k1 0 (gn G) (Nat.le_refl _)).2.2 c (by omega) hc).2
      have s1 : ∀ c, c < gn G → gs G1 c = gs G c := fun c hc => ((k1 0 (gn G) (Nat.le_refl _)).2.2 c (by omega) hc).1
      have ax : ga G1 (10 + 113 * P + 3 * i) = a := by rw [hG.2.2.1 _ (Nat.le_refl _)]; exact a5
      have n1 : gn G1 = 10 + 113 * P + 3 * (i + 1) := by rw [hG.2.1]; omega
      refine ⟨9 + 113 * P, 10 + 113 * P + 3 * i, 8, f, _, g1 _ (by omega), ax, ⟨by omega, by rw [s1 _ (by omega)]; exact c51⟩, hA.1, vp_in_nI (by omega) (by decide), ?_⟩
      intro G3 e3 _ ex
      subst ex
      rw [nI_clamp (by omega)] at e3
      subst e3
      rw [nI_1]
      refine ih (i + 1) _ _ _ (by omega) (by omega) (by omega) ⟨HM_keep (HM_keep c1 hG.1 (k1 _ _ (by omega))) (k_sh hG.1) (Kp.shp (by omega)), by rw [gn_sh, n1], by rw [ga_sh, g1 0 (by omega)]; exact c3, ⟨by rw [gn_sh]; omega, ?_⟩, rowM_put (by omega) (fun j hj => by rw [c52 j hj, g1 _ (by omega)]) ax, fun j hj => ?_⟩
      · rw [gs_sh, if_neg (by omega), s1 0 (by omega), c4.2, ga_sh, g1 _ (by omega)]
        rw [pat8_congr (a := ga G) (b := ga (gsh G1 (9 + 113 * P) (.inr (.inl (kA 5, 8, va_up f i (some a)))))) (fun c hc => by rw [ga_sh, g1 c (by omega)])]
      · by_cases e : j = i
        · subst e
          exact isCarrier_keep hA (Kp.shp (by omega))
        · exact isCarrier_keep (isCarrier_keep (c6 j (by omega)) (k1 _ _ (by omega))) (Kp.shp (by omega))
