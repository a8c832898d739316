/-! PURE: renew, in the class -/
def hdS (B : Nat) (key : Nat → Int32) (hs : Nat → Smd) (hr : Nat → Rmd) (pl : Nat) : Hst := rnH (fldS (hs (opp B pl))) (ksI key (mkN B (opp B pl))) (hs pl) (hr pl)
def r1S (B : Nat) (key : Nat → Int32) (hs : Nat → Smd) (hr : Nat → Rmd) (pl : Nat) : Smd := rnS (hdS B key hs hr pl) (hs pl)
def r1R (B : Nat) (key : Nat → Int32) (hs : Nat → Smd) (hr : Nat → Rmd) (pl : Nat) : Rmd := rnR (hdS B key hs hr pl) (hr pl)
def anS (s : Smd) : Smd := (anwS s.1, s.2.1, fun _ => ([], mnA, 0, false), s.2.2.2)
def r2S (B : Nat) (key : Nat → Int32) (hs : Nat → Smd) (hr : Nat → Rmd) (pl : Nat) : Smd := anS (r1S B key hs hr pl)
def wtA (ks : Nat → Nat → Int32) (r : Inr) (nc : Nat) (un : Nat → Un) : Wt := ((0, rpL r) :: kpL (kpt un) (fun c => pkU ks c (un c).1) (nc - lowK (kpt un) nc) (lowK (kpt un) nc), 0)
def anU (ks : Nat → Nat → Int32) (r : Inr) (s : Smd) : Smd := (s.1, s.2.1, s.2.2.1, s.2.2.2.1, unA s.2.2.2.2.1, wtA ks r s.2.2.2.1 s.2.2.2.2.1)
def r3S (B : Nat) (key key' : Nat → Int32) (hs : Nat → Smd) (hr : Nat → Rmd) (pl : Nat) : Smd := anU (ksS key' (mkN B pl)) (r1R B key hs hr pl).2.2.2 (r2S B key hs hr pl)
def crE (c : Car) : Car := (0, 0, false, c.2.2.2)
def rnM (B : Nat) (y : Int32) (M : Hm) : Hm := (r3S B (keyF y (M.2.2.2.2 10)) (keyF y (M.2.2.2.2 10 + 1)) M.1 M.2.1, r1R B (keyF y (M.2.2.2.2 10)) M.1 M.2.1, fun j => crE (M.2.2.1 j), M.2.2.2.1, fup M.2.2.2.2 10 (M.2.2.2.2 10 + 1))
def SA (σ : Sg) (B : Nat) (hs : Nat → Smd) : Prop := ∀ pl, pl < 2 * B → SmC σ (9 + 113 * pl) (mkN B pl) (hs pl)
def RA (σ : Sg) (B : Nat) (G : Nat → Nat → List Cel) (hr : Nat → Rmd) : Prop := ∀ pl, pl < 2 * B → RmC σ (51 + 113 * pl) (mkN B (opp B pl)) (G pl) (hr pl)
def FrN (P : Nat) (σ σ' : Sg) : Prop := ∀ d, d < 9 ∨ 9 + 113 * P ≤ d → d ≠ 5 → d ≠ 6 → σ' d = σ d
theorem SA.put {σ σ' : Sg} {B pl : Nat} {hs : Nat → Smd} {s : Smd} (h : SA σ B hs) (h1 : SmC σ' (9 + 113 * pl) (mkN B pl) s) (hd : ∀ d, (d < 9 + 113 * pl ∨ 122 + 113 * pl ≤ d) → 9 ≤ d → d < 9 + 113 * (2 * B) → σ' d = σ d) : SA σ' B (fup hs pl s) := by
  intro q hq
  by_cases e : q = pl
  · subst e
    rw [fup_s]
    exact h1
  · rw [fup_o e]
    exact (h q hq).of (fun d d1 d2 => hd d (by omega) (by omega) (by omega))
theorem RA.put {σ σ' : Sg} {B pl : Nat} {G : Nat → Nat → List Cel} {g : Nat → List Cel} {hr : Nat → Rmd} {r : Rmd} (h : RA σ B G hr) (h1 : RmC σ' (51 + 113 * pl) (mkN B (opp B pl)) g r) (hd : ∀ d, (d < 9 + 113 * pl ∨ 122 + 113 * pl ≤ d) → 9 ≤ d → d < 9 + 113 * (2 * B) → σ' d = σ d) : RA σ' B (fup G pl g) (fup hr pl r) := by
  intro q hq
  by_cases e : q = pl
  · subst e
    rw [fup_s, fup_s]
    exact h1
  · rw [fup_o e, fup_o e]
    exact (h q hq).of (fun d d1 d2 => hd d (by omega) (by omega) (by omega))
theorem mix_all {α : Type} {f g : Nat → α} {k pl : Nat} (h : pl < k) : mix f g k pl = f pl := by
  unfold mix
  rw [if_pos h]
theorem HwV.mk {T : Nat} {s : Smd} {r : Rmd} (h : SndV T s) (hj : JntV s r) : HwV (fldS s) (r.1 2) (r.1 3) := by
  intro x x1 x2 bg hb
  have h3 : r.1 3 ≤ s.1 5 := hj.1.2.2.2.2.1
  have hc := h.2.2.2.2.2.1 x (by omega)
  rcases hb with e | e
  · rw [e]
    exact chn_V _ _ hc
  · rw [e]
    exact hndV_none _ _ (chn_V _ _ hc)
theorem cn2 {P B T : Nat} {key : Nat → Int32} {hs : Nat → Smd} {hr : Nat → Rmd} {Q : Int32 → Sg → Prop} {σ0 : Sg} (hB3 : B ≤ 3) (hP : P = 2 * B) (hC : Cor T B key hs hr) (hk0 : ksI (σ0 4) = ksI key) : ∀ (m k : Nat) (σ : Sg), k + m = P → SA σ B (mix (r1S B key hs hr) hs k) → RA σ B (mix (fun _ _ => []) (fun pl => fldS (hs (opp B pl))) k) (mix (r1R B key hs hr) hr k) → FrN P σ0 σ → (∀ σ' : Sg, SA σ' B (r1S B key hs hr) → RA σ' B (fun _ _ => []) (r1R B key hs hr) → FrN P σ0 σ' → ∃ nn, wpX8_renew_L33 P sbT Q nn 0 σ') → wpX8_renew_L2 P sbT Q (m + 1) (nI k) σ := by
  intro m
  induction m with
  | zero =>
    intro k σ hk hS hR hF h
    have hk : k = P := by omega
    subst hk
    unfold wpX8_renew_L2
    refine brt (nI_le (Nat.le_refl _) (by omega)) (h σ (fun pl hpl => ?_) (fun pl hpl => ?_) hF)
    · have := hS pl hpl
      rw [mix_all (by omega)] at this
      exact this
    · have := hR pl hpl
      rw [mix_all (by omega), mix_all (by omega)] at this
      exact this
  | succ m ih =>
    intro k σ hk hS hR hF h
    have hkB : k < 2 * B := by omega
    obtain ⟨o1, o2, o3⟩ := opp_lt hkB
    have l1 := hS k hkB
    have l2 := hR k hkB
    rw [mix_at] at l1
    rw [mix_at, mix_at] at l2
    obtain ⟨k1, k2, k3⟩ := hC k hkB
    have hj := (hC _ o1).2.2
    rw [o3] at hj
    have hsv := (hC _ o1).1
    have hks : ksI (σ 4) = ksI key := by rw [hF 4 (by omega) (by decide) (by decide)]; exact hk0
    have hrv := hj.rv
    unfold wpX8_renew_L2
    refine brf (nI_ge (by omega) (by omega)) (handAll_ok (by omega) (by omega) l1 l2 k1.2.1 hrv (HwV.mk hsv hj) hj.2.2.2.2 (fun σ1 g1 g2 g3 g4 => ?_))
    rw [hks] at g1 g3
    refine ⟨vin rfl (by omega) (by omega), ?_⟩
    rw [nI_clamp (n := k) (by omega)]
    rintro _ rfl
    have e53 : 51 + 113 * k + 2 = 53 + 113 * k := by omega
    have e11 : 9 + 113 * k + 2 = 11 + 113 * k := by omega
    refine rstartAnew_ok (G' := fun _ => []) (l2.1.of (g4 _ (by omega) (by omega) (by omega) (by omega))) hrv.1 (l2.2.1.of (fun d d1 d2 => g4 d (by omega) (by omega) (by omega) (by omega))) (by have := hrv; unfold RvV at this; omega) hrv.2.2.2.2 hj.2.1.1 (fun x => ⟨Nat.zero_le _, fun q hq => absurd hq List.not_mem_nil⟩) (fun σ2 q1 q2 q3 => ?_)
    rw [nI_1]
    rintro _ rfl
    have fr : ∀ d, (d < 9 + 113 * k ∨ 122 + 113 * k ≤ d) → d ≠ 5 → d ≠ 6 → σ2 d = σ d := fun d hd d5 d6 => by rw [q3 d (by omega) (by omega), g4 d (by omega) (by omega) d5 d6]
    refine ih (k + 1) σ2 (by omega) ?_ ?_ (fun d hd d5 d6 => by rw [fr d (by omega) d5 d6, hF d hd d5 d6]) h
    · rw [← mix_up]
      refine hS.put ⟨?_, ?_, ?_⟩ (fun d d1 d2 d3 => fr d d1 (by omega) (by omega))
      · exact l1.1.of (by rw [q3 _ (by omega) (by omega), g4 _ (by omega) (by omega) (by omega) (by omega)])
      · exact l1.2.1.of (fun d d1 d2 => by rw [q3 d (by omega) (by omega), g4 d (by omega) (by omega) (by omega) (by omega)])
      · rw [e11]
        exact g3.of (fun d d1 d2 => q3 d (by omega) (by omega))
    · rw [← mix_up, ← mix_up]
      refine hR.put ⟨q1, q2, ?_, ?_⟩ (fun d d1 d2 d3 => fr d d1 (by omega) (by omega))
      · rw [e53]
        exact g2.of (fun d d1 d2 => q3 d (by omega) (by omega))
      · rw [e53]
        exact g1.of' (fun d d1 d2 => q3 d (by omega) (by omega))
theorem cn33 {P B : Nat} {hs : Nat → Smd} {Q : Int32 → Sg → Prop} {σ0 : Sg} (hB3 : B ≤ 3) (hP : P = 2 * B) : ∀ (m k : Nat) (σ : Sg), k + m = P → SA σ B (mix (fun pl => anS (hs pl)) hs k) → (∀ d, (∀ pl, pl < 2 * B → d ≠ 9 + 113 * pl) → σ d = σ0 d) → (∀ σ' : Sg, SA σ' B (fun pl => anS (hs pl)) → (∀ d, (∀ pl, pl < 2 * B → d ≠ 9 + 113 * pl) → σ' d = σ0 d) → ∃ nn, wpX8_renew_L59 P sbT Q nn 0 σ') → wpX8_renew_L33 P sbT Q (m + 1) (nI k) σ := by
  intro m
  induction m with
  | zero =>
    intro k σ hk hS hF h
    have hk : k = P := by omega
    subst hk
    unfold wpX8_renew_L33
    refine brt (nI_le (Nat.le_refl _) (by omega)) (h σ (fun pl hpl => ?_) hF)
    have := hS pl hpl
    rw [mix_all (by omega)] at this
    exact this
  | succ m ih =>
    intro k σ hk hS hF h
    have hkB : k < 2 * B := by omega
    have l1 := hS k hkB
    rw [mix_at] at l1
    unfold wpX8_renew_L33
    refine brf (nI_ge (by omega) (by omega)) ⟨vin rfl (by omega) (by omega), ?_⟩
    rw [nI_clamp (n := k) (by omega)]
    rintro _ rfl
    refine sstartAnew_ok l1.1 (fun σ1 g1 g2 => ?_)
    rw [nI_1]
    rintro _ rfl
    refine ih (k + 1) σ1 (by omega) ?_ (fun d hd => by rw [g2 d (hd k hkB), hF d hd]) h
    rw [← mix_up]
    refine hS.put ⟨g1, fun x x1 x2 => absurd x2 (Nat.not_lt_zero x), l1.2.2.of (fun d d1 d2 => g2 d (by omega))⟩ (fun d d1 d2 d3 => g2 d (by omega))
theorem cn59 {P : Nat} {cr : Nat → Car} {Q : Int32 → Sg → Prop} {σ0 : Sg} (hP6 : P ≤ 6) : ∀ (m k : Nat) (σ : Sg), k + m = 8 → (∀ j, j < 8 → CrC σ (10 + 113 * P + 3 * j) (mix (fun j => crE (cr j)) cr k j)) → (∀ d, d < 10 + 113 * P → σ d = σ0 d) → (∀ σ' : Sg, (∀ j, j < 8 → CrC σ' (10 + 113 * P + 3 * j) (crE (cr j))) → (∀ d, d < 10 + 113 * P → σ' d = σ0 d) → wpX8_renew_L59 P sbT Q 1 (nI 8) σ') → wpX8_renew_L59 P sbT Q (m + 1) (nI k) σ := by
  intro m
  induction m with
  | zero =>
    intro k σ hk hc hF h
    have hk : k = 8 := by omega
    subst hk
    refine h σ (fun j hj => ?_) hF
    have := hc j hj
    rw [mix_all hj] at this
    exact this
  | succ m ih =>
    intro k σ hk hc hF h
    have l1 := hc k (by omega)
    rw [mix_at] at l1
    unfold wpX8_renew_L59
    refine brf (nI_ge (by omega) (by omega)) ⟨vin rfl (by omega) (by omega), ?_⟩
    rw [nI_clamp (n := k) (by omega)]
    rintro _ rfl
    unfold wpX1_makeEmpty
    rintro _ rfl _ rfl _ rfl
    rw [nI_1]
    rintro _ rfl
    refine ih (k + 1) _ (by omega) (fun j hj => ?_) (fun d hd => by rw [up2_o (by omega), up2_o (by omega), up2_o (by omega), hF d hd]) h
    rw [← mix_up]
    by_cases e : j = k
    · subst e
      rw [fup_s]
      refine ⟨?_, ?_, ?_, ?_⟩
      · rw [up2_e, if_neg (by omega), up2_e, if_neg (by omega), up2_e, if_pos ⟨rfl, rfl⟩]
        rfl
      · rw [up2_e, if_neg (by omega), up2_e, if_pos ⟨rfl, rfl⟩]
        rfl
      · rw [up2_e, if_pos ⟨rfl, rfl⟩]
        rfl
      · exact l1.2.2.2.of (by rw [up2_o (by omega), up2_o (by omega), up2_o (by omega)]) (by rw [up2_o (by omega), up2_o (by omega), up2_o (by omega)])
    · rw [fup_o e]
      exact (hc j hj).of (by rw [up2_o (by omega), up2_o (by omega), up2_o (by omega)]) (by rw [up2_o (by omega), up2_o (by omega), up2_o (by omega)]) (by rw [up2_o (by omega), up2_o (by omega), up2_o (by omega)])
theorem cn110 {P B : Nat} {ks : Nat → Nat → Nat → Int32} {hs : Nat → Smd} {hr : Nat → Rmd} {G : Nat → Nat → List Cel} {Q : Int32 → Sg → Prop} {σ0 : Sg} (hB3 : B ≤ 3) (hP : P = 2 * B) (hV : ∀ pl, pl < 2 * B → (hs pl).2.2.2.1 < 2 ^ 17 ∧ (hs pl).2.2.2.1 ≤ lowK (kpt (hs pl).2.2.2.2.1) (hs pl).2.2.2.1 + 24) (h : ∀ σ' : Sg, SA σ' B (fun pl => anU (ks pl) (hr pl).2.2.2 (hs pl)) → RA σ' B G hr → (∀ d, d < 9 ∨ 9 + 113 * P ≤ d → σ' d = σ0 d) → Q (σ' 0 10) σ') : ∀ (m k : Nat) (σ : Sg), k + m = P → SA σ B (mix (fun pl => anU (ks pl) (hr pl).2.2.2 (hs pl)) hs k) → RA σ B G hr → (∀ d, d < 9 ∨ 9 + 113 * P ≤ d → σ d = σ0 d) → wpX8_renew_L110 P sbT Q (m + 1) (nI k) σ := by
  intro m
  induction m with
  | zero =>
    intro k σ hk hS hR hF
    have hk : k = P := by omega
    subst hk
    unfold wpX8_renew_L110
    refine brt (nI_le (Nat.le_refl _) (by omega)) (h σ (fun pl hpl => ?_) hR hF)
    have := hS pl hpl
    rw [mix_all (by omega)] at this
    exact this
  | succ m ih =>
    intro k σ hk hS hR hF
    have hkB : k < 2 * B := by omega
    have l1 := hS k hkB
    have l2 := hR k hkB
    rw [mix_at] at l1
    obtain ⟨v1, v2⟩ := hV k hkB
    unfold wpX8_renew_L110
    refine brf (nI_ge (by omega) (by omega)) ⟨vin rfl (by omega) (by omega), ?_⟩
    rw [nI_clamp (n := k) (by omega)]
    rintro _ rfl
    refine ⟨vin rfl (by omega) (by omega), ?_⟩
    rintro _ rfl
    refine waitAnew_ok (pc := fun c => pkU (ks k) c ((hs k).2.2.2.2.1 c).1) l1.2.2 v1 v2 l2.2.2.2 (by omega) (fun σ1 g1 g2 => ?_)
    rw [nI_1]
    rintro _ rfl
    have fr : ∀ d, (d < 11 + 113 * k ∨ 19 + 113 * k ≤ d) → σ1 d = σ d := fun d hd => g2 d (by omega)
    refine ih (k + 1) σ1 (by omega) ?_ (fun pl hpl => (hR pl hpl).of (fun d d1 d2 => fr d (by omega))) (fun d hd => by rw [fr d (by omega), hF d hd])
    rw [← mix_up]
    refine hS.put ⟨l1.1.of (fr _ (by omega)), l1.2.1.of (fun d d1 d2 => fr d (by omega)), g1⟩ (fun d d1 d2 d3 => fr d (by omega))
theorem crenew_ok {n P B tk : Nat} {y : Int32} {σ : Sg} {M : Hm} {tp : List Int32} {Q : Int32 → Sg → Prop} (hB1 : 1 ≤ B) (hB3 : B ≤ 3) (hP : P = 2 * B) (hR : RepC σ B y tk tp M) (hI : InvH n B tk (keyF y (M.2.2.2.2 10)) M) (hV : ∀ pl, pl < 2 * B → ObV (r1S B (keyF y (M.2.2.2.2 10)) M.1 M.2.1 pl).2.2.2.1 (r1S B (keyF y (M.2.2.2.2 10)) M.1 M.2.1 pl).2.2.2.2.1 (r1S B (keyF y (M.2.2.2.2 10)) M.1 M.2.1 pl).2.2.2.2.2) (h : ∀ σ' : Sg, RepC σ' B y tk tp (rnM B y M) → Q (M.2.2.2.2 10 + 1) σ') : wpX8_renew P sbT σ Q := by
  obtain ⟨a1, a2, a3, a4, a5, ⟨a6, a7⟩, a8, a9, a10⟩ := hR
  have hC := hI.1.1
  unfold wpX8_renew
  refine ⟨P + 1, cn2 (σ0 := σ) hB3 hP hC (ksI_key a5) P 0 σ (by omega) (fun pl hpl => (a8 pl hpl).1) (fun pl hpl => (a8 pl hpl).2) (fun _ _ _ _ => rfl) (fun σ1 s1 r1 f1 => ⟨P + 1, ?_⟩)⟩
  refine cn33 (σ0 := σ1) (hs := r1S B (keyF y (M.2.2.2.2 10)) M.1 M.2.1) hB3 hP P 0 σ1 (by omega) s1 (fun _ _ => rfl) (fun σ2 s2 f2 => ⟨9, ?_⟩)
  have r2 : RA σ2 B (fun _ _ => []) (r1R B (keyF y (M.2.2.2.2 10)) M.1 M.2.1) := fun pl hpl => (r1 pl hpl).of (fun d d1 d2 => f2 d (fun q hq => by omega))
  have g2 : ∀ d, d < 9 ∨ 9 + 113 * P ≤ d → d ≠ 5 → d ≠ 6 → σ2 d = σ d := fun d hd d5 d6 => by rw [f2 d (fun q hq => by omega), f1 d hd d5 d6]
  refine cn59 (σ0 := σ2) (cr := M.2.2.1) (by omega) 8 0 σ2 (by omega) (fun j hj => ?_) (fun _ _ => rfl) (fun σ3 c3 f3 => ?_)
  · have := a9 j hj
    rw [← hP] at this
    exact this.of (g2 _ (by omega) (by omega) (by omega)) (g2 _ (by omega) (by omega) (by omega)) (g2 _ (by omega) (by omega) (by omega))
  unfold wpX8_renew_L59
  refine brt (nI_le (Nat.le_refl _) (by decide)) ?_
  rintro _ rfl
  refine setKey_ok ?_
  have e10 : σ3 0 10 = M.2.2.2.2 10 := by rw [f3 0 (by omega), g2 0 (by omega) (by decide) (by decide)]; exact a4 10 (by decide) (by decide)
  have e1 : up2 σ3 0 10 (σ3 0 10 + 1) 0 1 = y := by
    rw [up2_e, if_neg (by omega), f3 0 (by omega), g2 0 (by omega) (by decide) (by decide)]
    exact a2
  have e10' : up2 σ3 0 10 (σ3 0 10 + 1) 0 10 = M.2.2.2.2 10 + 1 := by rw [up2_e, if_pos ⟨rfl, rfl⟩, e10]
  rw [e1, e10']
  have y4 : ∀ k, k < 176 → va_up (up2 σ3 0 10 (σ3 0 10 + 1)) 4 (kF sbT y (M.2.2.2.2 10 + 1) (up2 σ3 0 10 (σ3 0 10 + 1) 4)) 4 k = keyF y (M.2.2.2.2 10 + 1) k := fun k hk => by
    show (if 4 = 4 then _ else _ : Nat → Int32) k = _
    rw [if_pos rfl]
    exact kF_congr (fun _ _ => rfl) k hk
  have y0 : ∀ k, va_up (up2 σ3 0 10 (σ3 0 10 + 1)) 4 (kF sbT y (M.2.2.2.2 10 + 1) (up2 σ3 0 10 (σ3 0 10 + 1) 4)) 0 k = if k = 10 then M.2.2.2.2 10 + 1 else σ 0 k := fun k => by
    show (if 0 = 4 then _ else _ : Nat → Int32) k = _
    rw [if_neg (by decide), up2_e, e10]
    by_cases e : k = 10
    · rw [if_pos ⟨rfl, e⟩, if_pos e]
    · rw [if_neg (fun hh => e hh.2), if_neg e, f3 0 (by omega), g2 0 (by omega) (by decide) (by decide)]
  have yo : ∀ d, d ≠ 0 → d ≠ 4 → va_up (up2 σ3 0 10 (σ3 0 10 + 1)) 4 (kF sbT y (M.2.2.2.2 10 + 1) (up2 σ3 0 10 (σ3 0 10 + 1) 4)) d = σ3 d := fun d d0 d4 => by
    show (if d = 4 then _ else _ : Nat → Int32) = _
    rw [if_neg d4, up2_o d0]
  have e31 : 3 + 1 = 4 := rfl
  rw [e31]
  generalize va_up (up2 σ3 0 10 (σ3 0 10 + 1)) 4 (kF sbT y (M.2.2.2.2 10 + 1) (up2 σ3 0 10 (σ3 0 10 + 1) 4)) = σ4 at *
  have z4 : ∀ d, 9 ≤ d → d < 9 + 113 * P → σ4 d = σ2 d := fun d d1 d2 => by rw [yo d (by omega) (by omega), f3 d (by omega)]
  refine ⟨P + 1, cn110 (σ0 := σ4) (ks := fun pl => ksS (keyF y (M.2.2.2.2 10 + 1)) (mkN B pl)) (hs := r2S B (keyF y (M.2.2.2.2 10)) M.1 M.2.1) (hr := r1R B (keyF y (M.2.2.2.2 10)) M.1 M.2.1) (G := fun _ _ => []) hB3 hP (fun pl hpl => ⟨(hV pl hpl).1, (hV pl hpl).2.1⟩) (fun σ5 s5 r5 f5 => ?_) P 0 σ4 (by omega) (fun pl hpl => (s2 pl hpl).of (fun d d1 d2 => z4 d (by omega) (by omega))) (fun pl hpl => (r2 pl hpl).of (fun d d1 d2 => z4 d (by omega) (by omega))) (fun _ _ => rfl)⟩
  rw [f5 0 (by omega), y0 10, if_pos rfl]
  have x0 : ∀ k, k ≠ 10 → σ5 0 k = σ 0 k := fun k hk => by rw [f5 0 (by omega), y0 k, if_neg hk]
  have xo : ∀ d, d ≠ 0 → d ≠ 4 → d ≠ 5 → d ≠ 6 → d < 9 → σ5 d = σ d := fun d d0 d4 d5 d6 d9 => by rw [f5 d (by omega), yo d d0 d4, f3 d (by omega), g2 d (by omega) d5 d6]
  refine h σ5 ⟨by rw [x0 0 (by decide)]; exact a1, by rw [x0 1 (by decide)]; exact a2, by rw [x0 9 (by decide)]; exact a3, fun k k1 k2 => ?_, fun k hk => ?_, ⟨by rw [x0 3 (by decide)]; exact a6, fun k hk => by rw [xo 1 (by decide) (by decide) (by decide) (by decide) (by decide)]; exact a7 k hk⟩, fun pl hpl => ⟨s5 pl hpl, r5 pl hpl⟩, fun j hj => ?_, fun p hp => by rw [xo 2 (by decide) (by decide) (by decide) (by decide) (by decide)]; exact a10 p hp⟩
  · show σ5 0 k = fup M.2.2.2.2 10 (M.2.2.2.2 10 + 1) k
    by_cases e : k = 10
    · rw [e, fup_s, f5 0 (by omega), y0 10, if_pos rfl]
    · rw [fup_o e, x0 k e]
      exact a4 k k1 k2
  · show σ5 4 k = keyF y (fup M.2.2.2.2 10 (M.2.2.2.2 10 + 1) 10) k
    rw [fup_s, f5 4 (by omega)]
    exact y4 k hk
  · rw [← hP]
    have ex : ∀ d, 9 + 113 * P ≤ d → σ5 d = σ3 d := fun d hd => by rw [f5 d (by omega), yo d (by omega) (by omega)]
    exact (c3 j hj).of (ex _ (by omega)) (ex _ (by omega)) (ex _ (by omega))
