/-! PURE: timers of all places: class and reference -/
def mix {α : Type} (f g : Nat → α) (k : Nat) : Nat → α := fun pl => if pl < k then f pl else g pl
theorem mix_up {α : Type} {f g : Nat → α} {k : Nat} : fup (mix f g k) k (f k) = mix f g (k + 1) := by
  funext j
  unfold fup mix
  by_cases e : j = k
  · rw [if_pos e, if_pos (by omega), e]
  · rw [if_neg e]
    by_cases e2 : j < k
    · rw [if_pos e2, if_pos (by omega)]
    · rw [if_neg e2, if_neg (by omega)]
theorem mix_at {α : Type} {f g : Nat → α} {k : Nat} : mix f g k k = g k := by
  unfold mix
  rw [if_neg (by omega)]
theorem LkC_congr {σ : Sg} {B : Nat} {hs hs' : Nat → Smd} {hr hr' : Nat → Rmd} (h : LkC σ B hs hr) (h1 : ∀ pl, pl < 2 * B → hs' pl = hs pl) (h2 : ∀ pl, pl < 2 * B → hr' pl = hr pl) : LkC σ B hs' hr' := by
  intro pl hpl
  rw [h1 pl hpl, h2 pl hpl, h1 _ (opp_lt hpl).1]
  exact h pl hpl
theorem LkM_congr {τ : Sg} {B : Nat} {hs hs' : Nat → Smd} {hr hr' : Nat → Rmd} (h : LkM τ B hs hr) (h1 : ∀ pl, pl < 2 * B → hs' pl = hs pl) (h2 : ∀ pl, pl < 2 * B → hr' pl = hr pl) : LkM τ B hs' hr' := by
  intro pl hpl
  rw [h1 pl hpl, h2 pl hpl, h1 _ (opp_lt hpl).1]
  exact h pl hpl
def Fr9 (P : Nat) (σ σ' : Sg) : Prop := ∀ d, d < 9 ∨ 9 + 113 * P ≤ d → σ' d = σ d
theorem mix_fld {T B k : Nat} {key : Nat → Int32} {hs : Nat → Smd} {hr : Nat → Rmd} (hC : Cor T B key hs hr) {pl : Nat} (hpl : pl < 2 * B) : fldS (mix (tmH hs) hs k pl) = fldS (hs pl) := by
  unfold mix
  split
  · exact (tmS_V (hC pl hpl).1).2.1
  · rfl
theorem ct76 {P B : Nat} {hs : Nat → Smd} {hr : Nat → Rmd} {x1 x2 x3 : Int32} {Q : Int32 → Sg → Prop} {σ0 : Sg} (hB3 : B ≤ 3) (hP : P = 2 * B) (hC : ∀ pl, pl < 2 * B → SvB (hs pl).1 ∧ (hs pl).2.2.2.2.2.1.length < 2 ^ 20) : ∀ (m k : Nat) (σ : Sg), k + m = P → LkC σ B (mix (prH hs) hs k) hr → Fr9 P σ0 σ → (∀ σ' : Sg, LkC σ' B (prH hs) hr → Fr9 P σ0 σ' → ∃ nn, wpX8_tick_L108 P sbT Q nn x1 x2 x3 0 0 σ') → wpX8_tick_L76 P sbT Q (m + 1) x1 x2 x3 (nI k) σ := by
  intro m
  induction m with
  | zero =>
    intro k σ hk hL hF h
    have hk : k = P := by omega
    subst hk
    unfold wpX8_tick_L76
    exact brt (nI_le (Nat.le_refl _) (by omega)) (h σ (LkC_congr hL (fun pl hpl => by unfold mix; rw [if_pos (by omega)]) (fun _ _ => rfl)) hF)
  | succ m ih =>
    intro k σ hk hL hF h
    have hkB : k < 2 * B := by omega
    obtain ⟨l1, l2⟩ := hL k hkB
    rw [mix_at] at l1
    obtain ⟨c1, c2⟩ := hC k hkB
    unfold wpX8_tick_L76
    refine brf (nI_ge (by omega) (by omega)) ⟨vin rfl (by omega) (by omega), ?_⟩
    rw [nI_clamp (n := k) (by omega)]
    rintro _ rfl
    refine prepare_ok l1.1 c1 l1.2.2.2.2.2.2.2.1 c2 (fun σ1 g1 g2 => ?_)
    rw [nI_1]
    rintro _ rfl
    refine ih (k + 1) σ1 (by omega) ?_ (fun d hd => by rw [g2 d (by omega), hF d hd]) h
    have hput := hL.put (σ' := σ1) (s := prH hs k) (r := hr k) hkB (by rw [mix_at]; rfl) ⟨g1, ?_, l1.2.2.of (fun d d1 d2 => g2 d (by omega))⟩ (l2.of (fun d d1 d2 => g2 d (by omega))) (fun d d1 d2 d3 => g2 d (by omega))
    · rw [mix_up] at hput
      have er : fup hr k (hr k) = hr := by
        funext j
        unfold fup
        split
        · next e => rw [e]
        · rfl
      rw [er] at hput
      exact hput
    · show SpsC σ1 _ (prV _ _ 4) (prV _ _ 5) _
      rw [prV_k (by decide), prV_k (by decide)]
      exact l1.2.1.of (fun d d1 d2 => g2 d (by omega))
theorem ct37 {P B T : Nat} {key : Nat → Int32} {hs : Nat → Smd} {hr : Nat → Rmd} {x1 x2 x3 : Int32} {Q : Int32 → Sg → Prop} {σ0 : Sg} (hB3 : B ≤ 3) (hP : P = 2 * B) (hC : Cor T B key hs hr) (hT : T < 2 ^ 20) : ∀ (m k : Nat) (σ : Sg), k + m = P → LkC σ B (mix (tmH hs) hs k) (mix (tmG B hs hr) hr k) → Fr9 P σ0 σ → (∀ σ' : Sg, LkC σ' B (tmH hs) (tmG B hs hr) → Fr9 P σ0 σ' → ∃ nn, wpX8_tick_L76 P sbT Q nn x1 x2 x3 0 σ') → wpX8_tick_L37 P sbT Q (m + 1) x1 x2 x3 (nI k) σ := by
  intro m
  induction m with
  | zero =>
    intro k σ hk hL hF h
    have hk : k = P := by omega
    subst hk
    unfold wpX8_tick_L37
    exact brt (nI_le (Nat.le_refl _) (by omega)) (h σ (LkC_congr hL (fun pl hpl => by unfold mix; rw [if_pos (by omega)]) (fun pl hpl => by unfold mix; rw [if_pos (by omega)])) hF)
  | succ m ih =>
    intro k σ hk hL hF h
    have hkB : k < 2 * B := by omega
    obtain ⟨o1, o2, o3⟩ := opp_lt hkB
    obtain ⟨l1, l2⟩ := hL k hkB
    rw [mix_at] at l1 l2
    rw [mix_fld hC o1] at l2
    obtain ⟨k1, k2, k3⟩ := hC k hkB
    obtain ⟨i1, i2, i3, i4, i5⟩ := id k1.1
    have hj := (hC _ o1).2.2
    rw [o3] at hj
    obtain ⟨w1, w2, w3, w4, w5⟩ := hj.rv
    have hwl := k1.2.1.len
    obtain ⟨t1, t2, t3, t4, t5, t6⟩ := tmS_V k1
    unfold wpX8_tick_L37
    refine brf (nI_ge (by omega) (by omega)) ⟨vin rfl (by omega) (by omega), ?_⟩
    rw [nI_clamp (n := k) (by omega)]
    rintro _ rfl
    refine scountDown_ok l1.1 i1 l1.2.1 i2 i3 l1.2.2.2.2.2.2.2.1 (by omega) (fun hlt => ⟨k1.2.2.2.1 hlt, by have := (i5 _ (Nat.le_refl _) hlt).2; omega⟩) (fun σ1 g1 g2 g3 => ⟨vin rfl (by omega) (by omega), ?_⟩)
    rintro _ rfl
    have l2' : RmC σ1 (51 + 113 * k) (mkN B (opp B k)) (fldS (hs (opp B k))) (hr k) := l2.of (fun d d1 d2 => g3 d (by omega) (by omega))
    refine rcountDown_ok l2'.1 w1 l2'.2.1 w2 w3 w4 w5 (fun σ2 q1 q2 => ?_)
    rw [nI_1]
    rintro _ rfl
    have q3 : ∀ d, (d < 9 + 113 * k ∨ 122 + 113 * k ≤ d) → σ2 d = σ d := fun d hd => by rw [q2 d (by omega), g3 d (by omega) (by omega)]
    refine ih (k + 1) σ2 (by omega) ?_ (fun d hd => by rw [q3 d (by omega), hF d hd]) h
    have hput := hL.put (σ' := σ2) (s := tmH hs k) (r := tmG B hs hr k) hkB (by rw [mix_at]; exact t2) ⟨g1.of (q2 _ (by omega)), ?_, l1.2.2.of (fun d d1 d2 => by rw [q2 d (by omega), g3 d (by omega) (by omega)])⟩ ?_ (fun d d1 d2 d3 => q3 d d1)
    · rw [mix_up, mix_up] at hput
      exact hput
    · show SpsC σ2 _ (tmSv _ _ _ 4) (tmSv _ _ _ 5) _
      rw [tmSv_k (by decide) (by decide) (by decide) (by decide), tmSv_k (by decide) (by decide) (by decide) (by decide)]
      exact g2.of (fun d d1 d2 => q2 d (by omega))
    · rw [mix_fld hC o1]
      refine ⟨q1, ?_, l2'.2.2.1.of (fun d d1 d2 => q2 d (by omega)), l2'.2.2.2.of' (fun d d1 d2 => q2 d (by omega))⟩
      show RpsC σ2 _ (tmR _ _ _ 2) _ _
      rw [tmR_k (by decide) (by decide) (by decide) (by decide) (by decide) (by decide)]
      exact l2'.2.1.of (fun d d1 d2 => q2 d (by omega))
/-! the reference -/
def LTk : List Nat := [5, 8, 12, 13, 26, 32, 35, 36, 37, 38, 39, 43]
def FrT (τ τ' : Sg) : Prop := ∀ c, c ∉ LTk → τ' c = τ c
theorem atI {p b : Nat} : (3 : Int32) * nI p + nI b = nI (3 * p + b) := by
  have : (3 : Int32) * nI p = nI (3 * p) := pk_mul 3 p
  rw [this, nI_add]
theorem rt46 {B p T : Nat} {key : Nat → Int32} {hs : Nat → Smd} {hr : Nat → Rmd} {x1 x2 x3 : Int32} {Q : Int32 → Sg → Prop} {K37 : Int32 → Int32 → Int32 → Int32 → Sg → Prop} {τ0 : Sg} (hB3 : B ≤ 3) (hp : p < 2) (h0 : τ0 0 0 = nI B) (hC : Cor T B key hs hr) (hT : T + 1 < 2 ^ 20) : ∀ (m b : Nat) (τ : Sg), b + m = B → LkM τ B (mix (tmH hs) hs (p * B + b)) (mix (tmG B hs hr) hr (p * B + b)) → FrT τ0 τ → (∀ τ' : Sg, LkM τ' B (mix (tmH hs) hs (p * B + B)) (mix (tmG B hs hr) hr (p * B + B)) → FrT τ0 τ' → K37 x1 x2 x3 (nI (p + 1)) τ') → wpX9_tick_L46 Q K37 (m + 1) x1 x2 x3 (nI p) (nI b) τ := by
  intro m
  induction m with
  | zero =>
    intro b τ hb hL hF h
    have hb : b = B := by omega
    subst hb
    unfold wpX9_tick_L46
    rw [hF 0 (by decide), h0, nI_1]
    refine brt (nI_le (Nat.le_refl _) (by omega)) ?_
    rintro _ rfl
    exact h τ hL hF
  | succ m ih =>
    intro b τ hbm hL hF h
    have hb : b < B := by omega
    have hpl := pl_lt hp hb
    have ei : iOf B (p * B + b) = 3 * p + b := iOf_pb hp hb
    obtain ⟨o1, o2, o3⟩ := opp_lt hpl
    obtain ⟨l1, l2⟩ := hL _ hpl
    rw [mix_at, ei] at l1
    rw [mix_at, mix_fld hC o1, ei] at l2
    obtain ⟨k1, k2, k3⟩ := hC _ hpl
    have hj := (hC _ o1).2.2
    rw [o3] at hj
    have hOA : OkA B (mix (tmH hs) hs (p * B + b)) (mix (tmG B hs hr) hr (p * B + b)) := by
      intro q hq
      have := hC.ok q hq
      refine ⟨?_, ?_⟩
      · unfold mix
        split
        · exact this.1
        · exact this.1
      · unfold mix
        split
        · exact this.2
        · exact this.2
    obtain ⟨t1, t2, t3, t4, t5, t6⟩ := tmS_V k1
    unfold wpX9_tick_L46 wpX9_at
    rw [hF 0 (by decide), h0]
    refine brf (nI_ge (by omega) (by omega)) ?_
    rw [atI]
    dsimp only
    refine rtimers_ok (by omega) l1 l2 k1.1 hT k1.2.2.1 k1.2.1 k1.2.2.2.1 hj.rv hj.2.1.1 (fun τ1 g1 g2 g3 => ?_)
    rw [nI_1]
    rintro _ rfl
    refine ih (b + 1) τ1 (by omega) ?_ (fun c hc => by rw [g3.1 c (fun h9 => hc ((show ∀ c, c ∈ LTm → c ∈ LTk by decide) c h9)), hF c hc]) h
    have hput := hL.put (τ' := τ1) (s := tmH hs (p * B + b)) (r := tmG B hs hr (p * B + b)) hB3 hpl hOA (by rw [mix_at]; show Grw _ (fldS (tmS _)) _; rw [t2]; exact Grw.rf) (by rw [ei]; exact g1) (by rw [ei, mix_fld hC o1]; exact g2) (by rw [ei]; exact g3.o)
    rw [mix_up, mix_up] at hput
    exact hput
def pr1 (s : Smd) : Smd := (prV s.1 s.2.2.2.2.2.1.length, s.2)
def pr2 (s : Smd) : Smd := (s.1, bkF (nI (s.1 2)) s.2.1, s.2.2)
theorem pr12 {s : Smd} : pr2 (pr1 s) = prS s := by
  unfold pr2 pr1 prS
  show (prV s.1 _, bkF (nI (prV s.1 _ 2)) s.2.1, s.2.2) = _
  rw [prV_k (by decide)]
theorem rt90 {B p T : Nat} {hs : Nat → Smd} {hr : Nat → Rmd} {x1 x2 x3 : Int32} {Q : Int32 → Sg → Prop} {K81 : Int32 → Int32 → Int32 → Int32 → Sg → Prop} {τ0 : Sg} (hB3 : B ≤ 3) (hp : p < 2) (h0 : τ0 0 0 = nI B) (hC : ∀ pl, pl < 2 * B → SI T (hs pl).1 (hs pl).2.2.1) (hO : OkA B hs hr) : ∀ (m b : Nat) (τ : Sg), b + m = B → LkM τ B (mix (fun pl => pr1 (hs pl)) hs (p * B + b)) hr → FrT τ0 τ → (∀ τ' : Sg, LkM τ' B (mix (fun pl => pr1 (hs pl)) hs (p * B + B)) hr → FrT τ0 τ' → K81 x1 x2 x3 (nI (p + 1)) τ') → wpX9_tick_L90 Q K81 (m + 1) x1 x2 x3 (nI p) (nI b) τ := by
  intro m
  induction m with
  | zero =>
    intro b τ hb hL hF h
    have hb : b = B := by omega
    subst hb
    unfold wpX9_tick_L90
    rw [hF 0 (by decide), h0, nI_1]
    refine brt (nI_le (Nat.le_refl _) (by omega)) ?_
    rintro _ rfl
    exact h τ hL hF
  | succ m ih =>
    intro b τ hbm hL hF h
    have hb : b < B := by omega
    have hpl := pl_lt hp hb
    have ei : iOf B (p * B + b) = 3 * p + b := iOf_pb hp hb
    have hi : 3 * p + b < 6 := by omega
    obtain ⟨o1, o2, o3⟩ := opp_lt hpl
    obtain ⟨l1, l2⟩ := hL _ hpl
    rw [mix_at, ei] at l1
    rw [ei] at l2
    obtain ⟨i1, i2, i3, i4, i5⟩ := hC _ hpl
    have hpos := fltW_pos (hO _ hpl).1
    have b8 := i1 8 (by decide) (by decide)
    have b10 := i1 10 (by decide) (by decide)
    have b5 := i1 5 (by decide) (by decide)
    have b4 := i1 4 (by decide) (by decide)
    have b6 := i1 6 (by decide) (by decide)
    have hOA : OkA B (mix (fun pl => pr1 (hs pl)) hs (p * B + b)) hr := by
      intro q hq
      refine ⟨?_, (hO q hq).2⟩
      unfold mix
      split
      · exact (hO q hq).1
      · exact (hO q hq).1
    have emx : ∀ q, fldS (mix (fun pl => pr1 (hs pl)) hs (p * B + b) q) = fldS (hs q) := fun q => by
      unfold mix
      split <;> rfl
    -- the next one
    have next : ∀ τ1 : Sg, SmM τ1 (3 * p + b) (pr1 (hs (p * B + b))) → FrA [5] (3 * p + b) τ τ1 → wpX9_tick_L173 Q K81 (wpX9_tick_L90 Q K81 (m + 1)) x1 x2 x3 (nI p) (nI b) τ1 := by
      intro τ1 g1 g3
      unfold wpX9_tick_L173
      rw [nI_1]
      rintro _ rfl
      refine ih (b + 1) τ1 (by omega) ?_ (fun c hc => by rw [g3.1 c (fun h9 => hc ((show ∀ c, c ∈ [5] → c ∈ LTk by decide) c h9)), hF c hc]) h
      have l2' : RmM τ1 (3 * p + b) (fldS (mix (fun pl => pr1 (hs pl)) hs (p * B + b) (opp B (p * B + b)))) (hr (p * B + b)) := l2.of (fun c c1 c2 => g3.1 c (by simp only [List.mem_cons, List.not_mem_nil, or_false]; omega))
      have hput := hL.put (τ' := τ1) (s := pr1 (hs (p * B + b))) (r := hr (p * B + b)) hB3 hpl hOA (by rw [emx]; exact Grw.rf) (by rw [ei]; exact g1) (by rw [ei]; exact l2') (by rw [ei]; exact g3.o)
      have e1 := mix_up (f := fun pl => pr1 (hs pl)) (g := hs) (k := p * B + b)
      have er : fup hr (p * B + b) (hr (p * B + b)) = hr := by
        funext j
        unfold fup
        split
        · next e => rw [e]
        · rfl
      rw [er] at hput
      have hput : LkM τ1 B (fup (mix (fun pl => pr1 (hs pl)) hs (p * B + b)) (p * B + b) ((fun pl => pr1 (hs pl)) (p * B + b))) hr := hput
      rw [e1] at hput
      exact hput
    have same : ¬ ((hs (p * B + b)).1 8 = 0 ∧ (hs (p * B + b)).1 10 = 0 ∧ (hs (p * B + b)).1 4 < (hs (p * B + b)).1 5 ∧ (hs (p * B + b)).2.2.2.2.2.1.length = 0 ∧ (hs (p * B + b)).1 6 = 0) → wpX9_tick_L173 Q K81 (wpX9_tick_L90 Q K81 (m + 1)) x1 x2 x3 (nI p) (nI b) τ := by
      intro hn
      refine next τ ?_ FrA.rf
      have : pr1 (hs (p * B + b)) = hs (p * B + b) := by
        unfold pr1 prV
        rw [if_neg hn]
      rw [this]
      exact l1
    obtain ⟨m1, m2, m3, m4⟩ := l1
    obtain ⟨n3, n4, n5, n6, n7, n8, n9, n10, n11, n12, n13⟩ := id m1
    unfold wpX9_tick_L90 wpX9_at
    rw [hF 0 (by decide), h0]
    refine brf (nI_ge (by omega) (by omega)) ?_
    rw [atI]
    dsimp only
    rw [nI_clamp (n := 3 * p + b) (by omega), n13, n5, n4, n3, m4.1]
    refine ⟨vin rfl hi (by decide), fun h8 => ?_, fun h8 => ⟨vin rfl hi (by decide), fun h10 => ?_, fun h10 => ⟨vin rfl hi (by decide), vin rfl hi (by decide), pk_le _ _ (fun h45 => ?_) (fun h45 => ⟨vin rfl hi (by decide), fun hw => ?_, fun hw => ?_⟩)⟩⟩⟩
    · exact same (fun hh => h8 (by rw [hh.1]; rfl))
    · exact same (fun hh => h10 (by rw [hh.2.1]; rfl))
    · exact same (fun hh => by omega)
    · exact same (fun hh => hw (by rw [hpos.mpr hh.2.2.2.1]; rfl))
    · have h8 : (hs (p * B + b)).1 8 = 0 := (nI_eq (b := 0) (by omega) (by decide)).mp h8
      have h10 : (hs (p * B + b)).1 10 = 0 := (nI_eq (b := 0) (by omega) (by decide)).mp h10
      have hw : (fltW (hs (p * B + b)).2.2.2.2.2).length = 0 := (nI_eq (b := 0) (by have := m4.2.1; omega) (by decide)).mp hw
      refine allAgain_ok hi n3 n4 i2 b5 m2 ?_
      rw [← i4]
      refine ⟨fun h6 => same (fun hh => h6 (by rw [hh.2.2.2.2]; rfl)), fun h6 => ⟨vin rfl hi (by decide), ?_⟩⟩
      have h6 : (hs (p * B + b)).1 6 = 0 := (nI_eq (b := 0) (by omega) (by decide)).mp h6
      rintro _ rfl
      refine next _ ⟨?_, ?_, m3.of (fun c hc => up2_o (by omega)), m4.of (fun c c1 c2 => up2_o (by omega))⟩ (FrA.rf.up (by decide) (fun _ => Nat.div_one _))
      · show SnM _ _ (prV _ _) _
        unfold prV
        rw [if_pos ⟨h8, h10, h45, hpos.mp hw, h6⟩]
        exact m1.p5 (z := 10)
      · show PsM _ _ (prV _ _ 4) (prV _ _ 5) _
        rw [prV_k (by decide), prV_k (by decide)]
        exact m2.of (fun c hc => up2_o (by omega))
theorem rt197 {B p : Nat} {hs : Nat → Smd} {hr : Nat → Rmd} {x1 x2 x3 : Int32} {Q : Int32 → Sg → Prop} {K188 : Int32 → Int32 → Int32 → Int32 → Sg → Prop} {τ0 : Sg} (hB3 : B ≤ 3) (hp : p < 2) (h0 : τ0 0 0 = nI B) (h14 : ∀ b, b < B → τ0 14 b = nI ((hs (p * B + b)).1 2)) (hO : OkA B hs hr) : ∀ (m b : Nat) (τ : Sg), b + m = B → LkM τ B (mix (fun pl => pr2 (hs pl)) hs (p * B + b)) hr → FrT τ0 τ → (∀ τ' : Sg, LkM τ' B (mix (fun pl => pr2 (hs pl)) hs (p * B + B)) hr → FrT τ0 τ' → K188 x1 x2 x3 (nI (p + 1)) τ') → wpX9_tick_L197 Q K188 (m + 1) x1 x2 x3 (nI p) (nI b) τ := by
  intro m
  induction m with
  | zero =>
    intro b τ hb hL hF h
    have hb : b = B := by omega
    subst hb
    unfold wpX9_tick_L197
    rw [hF 0 (by decide), h0, nI_1]
    refine brt (nI_le (Nat.le_refl _) (by omega)) ?_
    rintro _ rfl
    exact h τ hL hF
  | succ m ih =>
    intro b τ hbm hL hF h
    have hb : b < B := by omega
    have hpl := pl_lt hp hb
    have ei : iOf B (p * B + b) = 3 * p + b := iOf_pb hp hb
    have hi : 3 * p + b < 6 := by omega
    obtain ⟨l1, l2⟩ := hL _ hpl
    rw [mix_at, ei] at l1
    rw [ei] at l2
    have hOA : OkA B (mix (fun pl => pr2 (hs pl)) hs (p * B + b)) hr := by
      intro q hq
      refine ⟨?_, (hO q hq).2⟩
      unfold mix
      split
      · exact (hO q hq).1
      · exact (hO q hq).1
    have emx : ∀ q, fldS (mix (fun pl => pr2 (hs pl)) hs (p * B + b) q) = fldS (hs q) := fun q => by
      unfold mix
      split <;> rfl
    have next : ∀ τ1 : Sg, SmM τ1 (3 * p + b) (pr2 (hs (p * B + b))) → FrA [8] (3 * p + b) τ τ1 → wpX9_tick_L285 Q K188 (wpX9_tick_L197 Q K188 (m + 1)) x1 x2 x3 (nI p) (nI b) τ1 := by
      intro τ1 g1 g3
      unfold wpX9_tick_L285
      rw [nI_1]
      rintro _ rfl
      refine ih (b + 1) τ1 (by omega) ?_ (fun c hc => by rw [g3.1 c (fun h9 => hc ((show ∀ c, c ∈ [8] → c ∈ LTk by decide) c h9)), hF c hc]) h
      have l2' : RmM τ1 (3 * p + b) (fldS (mix (fun pl => pr2 (hs pl)) hs (p * B + b) (opp B (p * B + b)))) (hr (p * B + b)) := l2.of (fun c c1 c2 => g3.1 c (by simp only [List.mem_cons, List.not_mem_nil, or_false]; omega))
      have hput := hL.put (τ' := τ1) (s := pr2 (hs (p * B + b))) (r := hr (p * B + b)) hB3 hpl hOA (by rw [emx]; exact Grw.rf) (by rw [ei]; exact g1) (by rw [ei]; exact l2') (by rw [ei]; exact g3.o)
      have e1 := mix_up (f := fun pl => pr2 (hs pl)) (g := hs) (k := p * B + b)
      have er : fup hr (p * B + b) (hr (p * B + b)) = hr := by
        funext j
        unfold fup
        split
        · next e => rw [e]
        · rfl
      rw [er] at hput
      have hput : LkM τ1 B (fup (mix (fun pl => pr2 (hs pl)) hs (p * B + b)) (p * B + b) ((fun pl => pr2 (hs pl)) (p * B + b))) hr := hput
      rw [e1] at hput
      exact hput
    obtain ⟨m1, m2, m3, m4⟩ := l1
    have n8 := m1.2.2.2.2.2.1
    have e14 : τ 14 b = nI ((hs (p * B + b)).1 2) := by rw [hF 14 (by decide)]; exact h14 b hb
    have put8 : ∀ z : Int32, z = bkF (nI ((hs (p * B + b)).1 2)) (hs (p * B + b)).2.1 → SmM (up2 τ 8 (3 * p + b) z) (3 * p + b) (pr2 (hs (p * B + b))) := by
      intro z hz
      subst hz
      exact ⟨m1.p8, m2.of (fun c hc => up2_o (by omega)), m3.of (fun c hc => up2_o (by omega)), m4.of (fun c c1 c2 => up2_o (by omega))⟩
    have L284 : ∀ z : Int32, z = bkF (nI ((hs (p * B + b)).1 2)) (hs (p * B + b)).2.1 → wpX9_tick_L284 Q K188 (wpX9_tick_L197 Q K188 (m + 1)) x1 x2 x3 (nI p) (nI b) z (nI (3 * p + b)) 8 τ := by
      intro z hz
      unfold wpX9_tick_L284
      rw [nI_clamp (n := 3 * p + b) (by omega)]
      refine ⟨vin rfl hi (by decide), ?_⟩
      rintro _ rfl
      exact next _ (put8 z hz) (FrA.rf.up (by decide) (fun _ => Nat.div_one _))
    unfold wpX9_tick_L197 wpX9_at
    rw [hF 0 (by decide), h0]
    refine brf (nI_ge (by omega) (by omega)) ?_
    rw [atI]
    dsimp only
    rw [nI_clamp (n := 3 * p + b) (by omega), nI_clamp (n := b) (by omega), e14, n8]
    refine ⟨vin rfl (by omega) (by decide), ?_⟩
    rintro _ rfl
    refine ⟨vin rfl hi (by decide), fun h1 => ?_, fun h1 => ⟨vin rfl hi (by decide), vin rfl (by omega) (by decide), fun h2 => ?_, fun h2 => ⟨vin rfl hi (by decide), vin rfl (by omega) (by decide), ?_⟩⟩⟩
    · refine next τ ?_ FrA.rf
      have : pr2 (hs (p * B + b)) = hs (p * B + b) := by
        unfold pr2 bkF
        rw [if_pos h1]
      rw [this]
      exact ⟨m1, m2, m3, m4⟩
    · refine L284 _ ?_
      unfold bkF
      rw [if_neg h1]
      split
      · rfl
      · next h3 => exact Int32.le_antisymm h2 (Int32.not_lt.mp h3)
    · refine L284 _ ?_
      unfold bkF
      rw [if_neg h1, if_neg (fun h3 => h2 (Int32.le_of_lt h3))]
