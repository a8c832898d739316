/-! PURE: the constructors -/
theorem ga_ext {G : GG} {q : Nat} {x : Sh} (c : Nat) : ga (gext G q x) c = if c = gn G then q else ga G c := rfl
theorem gs_ext {G : GG} {q : Nat} {x : Sh} (c : Nat) : gs (gext G q x) c = if c = gn G then x else gs G c := rfl
theorem gn_ext {G : GG} {q : Nat} {x : Sh} : gn (gext G q x) = gn G + 1 := rfl
theorem ga_sh {G : GG} {d : Nat} {x : Sh} (c : Nat) : ga (gsh G d x) c = ga G c := rfl
theorem gs_sh {G : GG} {d : Nat} {x : Sh} (c : Nat) : gs (gsh G d x) c = if c = d then x else gs G c := rfl
theorem gn_sh {G : GG} {d : Nat} {x : Sh} : gn (gsh G d x) = gn G := rfl
theorem k_ext {kA : Nat → ClassId} {G : GG} {q : Nat} {x : Sh} (h : kOK kA G) : kOK kA (gext G q x) := h
theorem k_sh {kA : Nat → ClassId} {G : GG} {d : Nat} {x : Sh} (h : kOK kA G) : kOK kA (gsh G d x) := h
theorem isI_mk {kA : Nat → ClassId} {G : GG} {N c : Nat} (hk : kOK kA G) (hc : c < gn G) (hs : gs G c = .inl (kA 0, N)) : isI G N c := ⟨kA 0, ⟨hc, hs⟩, kOK.at hk (t := 0) rfl⟩
theorem isZ_mk {kA : Nat → ClassId} {G : GG} {N c : Nat} (hk : kOK kA G) (hc : c < gn G) (hs : gs G c = .inl (kA 1, N)) : isZ G N c := ⟨kA 1, ⟨hc, hs⟩, kOK.at hk (t := 1) rfl⟩
theorem isR_mk {kA : Nat → ClassId} {G : GG} {t0 N c : Nat} {C : String} {f : Nat → Nat} {g : Nat → Option Nat} (ht : (gt G)[t0]? = some (kA t0, .object C)) (hc : c < gn G) (hs : gs G c = .inr (.inl (kA t0, N, g))) (hg : ∀ j, j < N → g j = some (ga G (f j))) : isR G t0 C N f c := ⟨kA t0, g, ⟨hc, hs⟩, ht, hg⟩
def New (kA : Nat → ClassId) (G G1 : GG) (c0 k : Nat) : Prop := kOK kA G1 ∧ gn G1 = c0 + k ∧ (∀ c, c ≤ c0 → ga G1 c = ga G c) ∧ ∀ c, c < c0 → gs G1 c = gs G c
def Zr0 (σ : Sg) (n : Nat) : Prop := ∀ c, n ≤ c → σ c = fun _ => 0
theorem Zr0.up {σ : Sg} {n : Nat} (h : Zr0 σ n) : va_up σ n (fun _ => 0) = σ := by
  funext c
  by_cases e : c = n
  · subst e
    simp [va_up, h c (Nat.le_refl c)]
  · simp [va_up, e]
theorem Zr0.mono {σ : Sg} {n m : Nat} (h : Zr0 σ n) (hm : n ≤ m) : Zr0 σ m := fun c hc => h c (Nat.le_trans hm hc)
theorem Zr0.put {σ : Sg} {n c k : Nat} {v : Int32} (h : Zr0 σ n) (hc : c < n) : Zr0 (up2 σ c k v) n := fun d hd => by rw [up2_o (by omega)]; exact h d hd
theorem iX0 {kA : Nat → ClassId} {G : GG} {c0 a0 : Nat} {σ : Sg} {Q : GG → Sg → Prop} (hk : kOK kA G) (hn : gn G = c0 + 1) (ha : ga G c0 = a0) (hs : gs G c0 = .inr (.inr (0, [some none, none]))) (hz : Zr0 σ (c0 + 1)) (hQ : ∀ G1, New kA G G1 c0 2 → isAir G1 c0 → Q G1 σ) : wpX0_init kA G a0 σ Q := by
  unfold wpX0_init
  refine ⟨by decide, by decide, ?_⟩
  rintro a _ _ rfl rfl
  rw [hn, hz.up]
  refine ⟨c0, [some none, none], by simp [ga_ext, hn, ha], ⟨by rw [gn_ext, hn]; omega, by simp [gs_ext, hn, hs]⟩, by decide, ?_⟩
  rintro _ rfl
  refine ⟨by decide, by decide, hQ _ ⟨k_sh (k_ext hk), by simp [gn_sh, gn_ext, hn], fun c hc => ?_, fun c hc => ?_⟩ ⟨⟨?_, ?_⟩, isI_mk (kA := kA) (k_sh (k_ext hk)) ?_ ?_⟩⟩
  · simp [ga_sh, ga_ext, hn, show ¬ c = c0 + 1 by omega]
  · simp [gs_sh, gs_ext, hn, show ¬ c = c0 + 1 by omega, show ¬ c = c0 by omega]
  · rw [gn_sh, gn_ext, hn]; omega
  · simp [gs_sh, ga_sh, ga_ext, hn]
  · rw [gn_sh, gn_ext, hn]; omega
  · simp [gs_sh, gs_ext, hn]
theorem iX5 {kA : Nat → ClassId} {G : GG} {c0 a0 : Nat} {σ : Sg} {Q : GG → Sg → Prop} (hk : kOK kA G) (hn : gn G = c0 + 1) (ha : ga G c0 = a0) (hs : gs G c0 = .inr (.inr (5, [some none, none, none, none, none, none]))) (hz : Zr0 σ (c0 + 1)) (hQ : ∀ G1, New kA G G1 c0 2 → isPiece G1 c0 → Q G1 σ) : wpX5_init kA G a0 σ Q := by
  unfold wpX5_init
  refine ⟨by decide, by decide, ?_⟩
  rintro a _ _ rfl rfl
  rw [hn, hz.up]
  refine ⟨c0, [some none, none, none, none, none, none], by simp [ga_ext, hn, ha], ⟨by rw [gn_ext, hn]; omega, by simp [gs_ext, hn, hs]⟩, by decide, ?_⟩
  rintro _ rfl
  refine ⟨by decide, by decide, hQ _ ⟨k_sh (k_ext hk), by simp [gn_sh, gn_ext, hn], fun c hc => ?_, fun c hc => ?_⟩ ⟨⟨?_, ?_⟩, isI_mk (kA := kA) (k_sh (k_ext hk)) ?_ ?_⟩⟩
  · simp [ga_sh, ga_ext, hn, show ¬ c = c0 + 1 by omega]
  · simp [gs_sh, gs_ext, hn, show ¬ c = c0 + 1 by omega, show ¬ c = c0 by omega]
  · rw [gn_sh, gn_ext, hn]; omega
  · simp [gs_sh, ga_sh, ga_ext, hn]
  · rw [gn_sh, gn_ext, hn]; omega
  · simp [gs_sh, gs_ext, hn]
theorem iX1 {kA : Nat → ClassId} {G : GG} {c0 a0 : Nat} {σ : Sg} {Q : GG → Sg → Prop} (hk : kOK kA G) (hn : gn G = c0 + 1) (ha : ga G c0 = a0) (hs : gs G c0 = .inr (.inr (1, [some none, none, none, none]))) (hz : Zr0 σ (c0 + 1)) (hQ : ∀ G1, New kA G G1 c0 3 → isCarrier G1 c0 → Q G1 σ) : wpX1_init kA G a0 σ Q := by
  unfold wpX1_init
  refine ⟨by decide, by decide, ?_⟩
  rintro a _ _ rfl rfl
  rw [hn, hz.up]
  refine ⟨by decide, by decide, iX0 (c0 := c0 + 1) (k_ext hk) (by simp [gn_ext, hn]) (by simp [ga_ext, hn]) (by simp [gs_ext, hn]) (hz.mono (by omega)) ?_⟩
  intro G1 hG hA
  have e0 : gs G1 c0 = .inr (.inr (1, [some none, none, none, none])) := by rw [hG.2.2.2 c0 (by omega)]; simp [gs_ext, hn, hs]
  have e1 : ga G1 c0 = a0 := by rw [hG.2.2.1 c0 (by omega)]; simp [ga_ext, hn, ha]
  have e2 : ga G1 (c0 + 1) = a := by rw [hG.2.2.1 (c0 + 1) (by omega)]; simp [ga_ext, hn]
  refine ⟨c0, [some none, none, none, none], e1, ⟨by rw [hG.2.1]; omega, e0⟩, by decide, ?_⟩
  rintro _ rfl
  refine ⟨by decide, by decide, hQ _ ⟨k_sh hG.1, by rw [gn_sh, hG.2.1], fun c hc => ?_, fun c hc => ?_⟩ ⟨⟨?_, ?_⟩, ⟨⟨?_, ?_⟩, isI_mk (kA := kA) (k_sh hG.1) ?_ ?_⟩⟩⟩
  · rw [ga_sh, hG.2.2.1 c (by omega)]; simp [ga_ext, hn, show ¬ c = c0 + 1 by omega]
  · rw [gs_sh, if_neg (by omega), hG.2.2.2 c (by omega)]; simp [gs_ext, hn, show ¬ c = c0 + 1 by omega]
  · rw [gn_sh, hG.2.1]; omega
  · rw [gs_sh, if_pos rfl]; simp [ga_sh, e2]
  · rw [gn_sh, hG.2.1]; omega
  · rw [gs_sh, if_neg (by omega)]; exact hA.1.2
  · rw [gn_sh, hG.2.1]; omega
  · obtain ⟨cA, ⟨h1, h2⟩, h3⟩ := hA.2
    rw [gs_sh, if_neg (by omega), h2]
    have := h3.symm.trans (kOK.at hG.1 (t := 0) rfl)
    cases this
    rfl
