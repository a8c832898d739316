/-! PURE: renew: what is whole is handed; receivers start anew -/
def hawF (G : Nat → List Cel) (wh : Nat → Bool) (ks : Int32 → Nat → Int32) (nc : Nat) : Nat → Nat → Hst → Hst
  | 0, _, s => (none, s.2)
  | m + 1, x, s => hawF G wh ks nc m (x + 1) (if wh x then hndL ks nc (G x) s else (none, s.2))
theorem bgL_none : ∀ (l : List Cel) (bg : Option (List Int32)), bgL none l = bgL bg l ∨ bgL none l = none
  | [], _ => Or.inr rfl
  | q :: l, bg => by
    show bgL (nxtB none q) l = bgL (nxtB bg q) l ∨ bgL (nxtB none q) l = none
    by_cases e : q.2.1 = true
    · have : nxtB none q = nxtB bg q := by
        unfold nxtB curB
        rw [if_pos e, if_pos e]
      rw [this]
      exact Or.inl rfl
    · have : nxtB none q = none := by
        unfold nxtB curB
        rw [if_neg e]
      rw [this]
      exact bgL_none l _
/-- what the handing of all needs -/
def HwV (G : Nat → List Cel) (R H : Nat) : Prop := ∀ x, R ≤ x → x < H → ∀ bg, (bg = bgN G x ∨ bg = none) → hndV bg (G x)
theorem HwV.nx {G : Nat → List Cel} {ks : Int32 → Nat → Int32} {nc x : Nat} {s : Hst} (hs : s.1 = bgN G x ∨ s.1 = none) : (hndL ks nc (G x) s).1 = bgN G (x + 1) ∨ (hndL ks nc (G x) s).1 = none := by
  rw [hndL_bg]
  rcases hs with e | e
  · rw [e]
    exact Or.inl rfl
  · rw [e]
    exact bgL_none (G x) (bgN G x)
theorem hw12 {P pl mkI mkO nc : Nat} {key : Nat → Int32} {v : Nat → Nat} {G : Nat → List Cel} {pc : Rpc} {Q : Sg → Prop} {σ0 : Sg} (hpl : pl < P) (hP6 : P ≤ 6) (hb : RvB v) (h3 : v 3 ≤ v 2 + 31) (hW : HwV G (v 2) (v 3)) : ∀ (m x : Nat) (σ : Sg) (s : Hst), x + m = v 3 → v 2 ≤ x → (s.1 = bgN G x ∨ s.1 = none) → RcS σ (51 + 113 * pl) v → RpsC σ (51 + 113 * pl) (v 2) G pc → InR σ (53 + 113 * pl) mkI s.2.1 → BgC σ (53 + 113 * pl) s.1 → ObC σ (11 + 113 * pl) mkO nc s.2.2.1 s.2.2.2 → ObV nc s.2.2.1 s.2.2.2 → σ 4 = key → FrH pl σ0 σ → (∀ σ' : Sg, InR σ' (53 + 113 * pl) mkI (hawF G (whl G (v 2) (v 3) pc) (ksI key mkI) nc m x s).2.1 → BgC σ' (53 + 113 * pl) none → ObC σ' (11 + 113 * pl) mkO nc (hawF G (whl G (v 2) (v 3) pc) (ksI key mkI) nc m x s).2.2.1 (hawF G (whl G (v 2) (v 3) pc) (ksI key mkI) nc m x s).2.2.2 → FrH pl σ0 σ' → Q σ') → wpX8_handAllWhole_L12 P sbT Q (m + 1) (nI pl) (51 + 113 * pl) (nI x) σ := by
  have e53 : 51 + 113 * pl + 2 = 53 + 113 * pl := by omega
  have b2 := hb 2 (by decide) (by decide)
  have b3 := hb 3 (by decide) (by decide)
  -- what was begun is gone
  have gone : ∀ (σ : Sg) (r : Inr) (un : Nat → Un) (w : Wt), InR σ (53 + 113 * pl) mkI r → ObC σ (11 + 113 * pl) mkO nc un w → FrH pl σ0 σ → InR (up2 σ (53 + 113 * pl) 3 0) (53 + 113 * pl) mkI r ∧ BgC (up2 σ (53 + 113 * pl) 3 0) (53 + 113 * pl) none ∧ ObC (up2 σ (53 + 113 * pl) 3 0) (11 + 113 * pl) mkO nc un w ∧ FrH pl σ0 (up2 σ (53 + 113 * pl) 3 0) := by
    intro σ r un w hI hC hF
    refine ⟨hI.of (fun k k2 k3 => by rw [up2_e, if_neg (fun hh => k3 hh.2)]) (up2_o (by omega)) (up2_o (by omega)) (up2_o (by omega)), ?_, hC.of (fun d d1 d2 => up2_o (by omega)), fun d d1 d2 d3 d4 => by rw [up2_o (by omega), hF d d1 d2 d3 d4]⟩
    show up2 σ (53 + 113 * pl) 3 0 (53 + 113 * pl) 3 = 0
    rw [up2_e, if_pos ⟨rfl, rfl⟩]
  intro m
  induction m with
  | zero =>
    intro x σ s hx h2 hs hS hP hI hB hC hV h4 hF h
    unfold wpX8_handAllWhole_L12
    rw [hS.1 3 (by decide) (by decide) (by decide), e53]
    refine brt (nI_le (by omega) (by omega)) ?_
    rintro _ rfl
    obtain ⟨g1, g2, g3, g4⟩ := gone σ s.2.1 s.2.2.1 s.2.2.2 hI hC hF
    exact h _ g1 g2 g3 g4
  | succ m ih =>
    intro x σ s hx h2 hs hS hP hI hB hC hV h4 hF h
    unfold wpX8_handAllWhole_L12
    rw [hS.1 3 (by decide) (by decide) (by decide), e53]
    refine brf (nI_ge (by omega) (by omega)) (isWhole_ok hS hb hP h2 (by omega) (br01 (fun e => ?_) (fun e => ?_)))
    · rintro _ rfl
      unfold wpX8_handAllWhole_L49
      rw [nI_1]
      rintro _ rfl
      obtain ⟨g1, g2, g3, g4⟩ := gone σ s.2.1 s.2.2.1 s.2.2.2 hI hC hF
      refine ih (x + 1) _ (none, s.2) (by omega) (by omega) (Or.inr rfl) (hS.of (up2_o (by omega))) (hP.of (fun d d1 d2 => up2_o (by omega))) g1 g2 g3 hV (by rw [up2_o (by omega)]; exact h4) g4 (fun σ' => ?_)
      have eh : hawF G (whl G (v 2) (v 3) pc) (ksI key mkI) nc (m + 1) x s = hawF G (whl G (v 2) (v 3) pc) (ksI key mkI) nc m (x + 1) (none, s.2) := by
        show hawF _ _ _ _ m (x + 1) (if whl G (v 2) (v 3) pc x then _ else _) = _
        rw [e]
        rfl
      rw [← eh]
      exact h σ'
    · have hw := of_decide_eq_true e
      obtain ⟨p1, p2, p3, p4, p5, p6⟩ := hP x h2 (by omega)
      unfold wpX6_pieceAt
      rw [a31 (by omega), nI_clamp (by omega)]
      refine ⟨vin rfl (by omega) (by decide), ?_⟩
      rintro _ rfl
      have hall : ∀ k, k < (G x).length → (pc x).2 k = true := by
        have hsp := cnt_split (f := (pc x).2) (a := 0) (m := (G x).length) (240 - (G x).length)
        rw [show (G x).length + (240 - (G x).length) = 240 by omega] at hsp
        have h0 : cnt (pc x).2 (0 + (G x).length) (240 - (G x).length) = 0 := cnt_0 _ (fun k k1 k2 => by
          cases ek : (pc x).2 k with
          | false => rfl
          | true => have := p5 k ek; omega)
        have hc := (cnt_all (f := (pc x).2) (a := 0) (G x).length).mp (by omega)
        exact fun k hk => hc k (Nat.zero_le _) (by omega)
      refine hand_ok (s := s) (l := G x) hpl hP6 (by omega) p2 ?_ (fun k hk => ?_) hI hB hC hV (hW x h2 (by omega) s.1 hs) (fun σ1 g1 g2 g3 g4 => ?_)
      · rw [p1, if_pos hw.2.2.1]
      · rw [p6 k (by omega), if_pos (hall k hk)]
      · rw [h4] at g1 g2 g3
        unfold wpX8_handAllWhole_L49
        rw [nI_1]
        rintro _ rfl
        refine ih (x + 1) σ1 (hndL (ksI key mkI) nc (G x) s) (by omega) (by omega) (HwV.nx hs) (hS.of (g4 _ (by omega) (by omega) (by omega) (by omega))) (hP.of (fun d q1 q2 => g4.cells (by omega))) g1 g2 g3 (obV_hndL _ _ hV) (by rw [g4 4 (by omega) (by omega) (by omega) (by omega)]; exact h4) (fun d d1 d2 d3 d4 => by rw [g4 d d1 d2 d3 d4, hF d d1 d2 d3 d4]) (fun σ' => ?_)
        have eh : hawF G (whl G (v 2) (v 3) pc) (ksI key mkI) nc (m + 1) x s = hawF G (whl G (v 2) (v 3) pc) (ksI key mkI) nc m (x + 1) (hndL (ksI key mkI) nc (G x) s) := by
          show hawF _ _ _ _ m (x + 1) (if whl G (v 2) (v 3) pc x then _ else _) = _
          rw [e]
          rfl
        rw [← eh]
        exact h σ'
/-- the middle -/
def rnH (G : Nat → List Cel) (ks : Int32 → Nat → Int32) (s : Smd) (r : Rmd) : Hst := hawF G (whl G (r.1 2) (r.1 3) r.2.1) ks s.2.2.2.1 (r.1 3 - r.1 2) (r.1 2) (r.2.2.1, r.2.2.2, s.2.2.2.2)
def rnS (h : Hst) (s : Smd) : Smd := (s.1, s.2.1, s.2.2.1, s.2.2.2.1, h.2.2)
def rnR (h : Hst) (r : Rmd) : Rmd := (anwV r.1, rp0, none, h.2.1)
theorem handAll_ok {P pl mkI mkO : Nat} {σ : Sg} {G : Nat → List Cel} {s : Smd} {r : Rmd} {Q : Sg → Prop} (hpl : pl < P) (hP6 : P ≤ 6) (hS : SmC σ (9 + 113 * pl) mkO s) (hR : RmC σ (51 + 113 * pl) mkI G r) (hV : ObV s.2.2.2.1 s.2.2.2.2.1 s.2.2.2.2.2) (hRV : RvV r.1) (hW : HwV G (r.1 2) (r.1 3)) (hbg : r.2.2.1 = bgN G (r.1 2)) (h : ∀ σ' : Sg, InR σ' (53 + 113 * pl) mkI (rnH G (ksI (σ 4) mkI) s r).2.1 → BgC σ' (53 + 113 * pl) none → ObC σ' (11 + 113 * pl) mkO s.2.2.2.1 (rnH G (ksI (σ 4) mkI) s r).2.2.1 (rnH G (ksI (σ 4) mkI) s r).2.2.2 → FrH pl σ σ' → Q σ') : wpX8_handAllWhole P sbT (nI pl) σ Q := by
  obtain ⟨hR1, hR2, hR3, hR4⟩ := hR
  obtain ⟨v1, v2, v3, v4, v5⟩ := hRV
  have e53 : 51 + 113 * pl + 2 = 53 + 113 * pl := by omega
  have e11 : 9 + 113 * pl + 2 = 11 + 113 * pl := by omega
  rw [e53] at hR3 hR4
  have hC := hS.2.2
  rw [e11] at hC
  unfold wpX8_handAllWhole
  refine ⟨vin rfl hpl (by omega), ?_⟩
  rw [nI_clamp (n := pl) (by omega)]
  rintro _ rfl
  rw [hR1.1 2 (by decide) (by decide) (by decide)]
  rintro _ rfl
  exact ⟨r.1 3 - r.1 2 + 1, hw12 (σ0 := σ) (key := σ 4) hpl hP6 v1 v5 hW (r.1 3 - r.1 2) (r.1 2) σ (r.2.2.1, r.2.2.2, s.2.2.2.2) (by omega) (Nat.le_refl _) (Or.inl hbg) hR1 hR2 hR4 hR3 hC hV rfl (fun _ _ _ _ _ => rfl) h⟩
/-- the reference -/
theorem rr14 {p b i nc : Nat} {y ep : Int32} {v : Nat → Nat} {G : Nat → List Cel} {pc : Rpc} {Q : Sg → Prop} {τ0 : Sg} (hp : p < 2) (hbb : b < 3) (hip : i = 3 * p + b) (hK0 : KyM τ0 y ep) (hb : RvB v) (hc : clrP v pc) (h3 : v 3 ≤ v 2 + 31) (hW : HwV G (v 2) (v 3)) : ∀ (m x : Nat) (τ : Sg) (s : Hst), x + m = v 3 → v 2 ≤ x → (s.1 = bgN G x ∨ s.1 = none) → RsM τ i v → RpsM τ i (v 2) G pc → HdM τ i nc s → ObV nc s.2.2.1 s.2.2.2 → FrA LH i τ0 τ → (∀ τ' : Sg, HdM τ' i nc (hawF G (whl G (v 2) (v 3) pc) (ksI (keyF y ep) (8 * b + 4 * (1 - p))) nc m x s) → FrA LH i τ0 τ' → ∃ nn, wpX9_renewReceiver_L69 Q nn (nI i) 0 τ') → wpX9_renewReceiver_L14 Q (m + 1) (nI p) (nI b) (nI i) (nI x) τ := by
  have hi : i < 6 := by omega
  have b2 := hb 2 (by decide) (by decide)
  have b3 := hb 3 (by decide) (by decide)
  have gone : ∀ (τ : Sg) (s : Hst), HdM τ i nc s → HdM (up2 τ 49 i (-1)) i nc (none, s.2) := by
    intro τ s hH
    obtain ⟨q1, q2, q3, q4⟩ := hH
    refine ⟨?_, q2.of (fun c c1 c2 => up2_o (by omega)), q3.of (fun c hc => up2_o (by omega)), q4.of (fun c c1 c2 => up2_o (by omega))⟩
    show up2 τ 49 i (-1) 49 i = -1
    rw [up2_e, if_pos ⟨rfl, rfl⟩]
  intro m
  induction m with
  | zero =>
    intro x τ s hx h2 hs hS hP hH hV hF h
    unfold wpX9_renewReceiver_L14
    rw [nI_clamp (n := i) (by omega), hS.g3]
    refine ⟨vin rfl hi (by decide), brt (nI_le (by omega) (by omega)) ⟨vin rfl hi (by decide), ?_⟩⟩
    rintro _ rfl
    exact h _ (gone τ s hH) (hF.up (by decide) (fun _ => Nat.div_one i))
  | succ m ih =>
    intro x τ s hx h2 hs hS hP hH hV hF h
    unfold wpX9_renewReceiver_L14
    rw [nI_clamp (n := i) (by omega), hS.g3]
    refine ⟨vin rfl hi (by decide), brf (nI_ge (by omega) (by omega)) (risWhole_ok hi hS hb hP hc h2 (by omega) (br01 (fun e => ⟨vin rfl hi (by decide), ?_⟩) (fun e => ?_)))⟩
    · rintro _ rfl
      unfold wpX9_renewReceiver_L53
      rw [nI_1]
      rintro _ rfl
      refine ih (x + 1) _ (none, s.2) (by omega) (by omega) (Or.inr rfl) (hS.of (fun c c1 c2 => by rw [up2_o (by omega)])) (hP.of (fun c c1 c2 => up2_o (by omega))) (gone τ s hH) hV (hF.up (by decide) (fun _ => Nat.div_one i)) (fun τ' => ?_)
      have eh : hawF G (whl G (v 2) (v 3) pc) (ksI (keyF y ep) (8 * b + 4 * (1 - p))) nc (m + 1) x s = hawF G (whl G (v 2) (v 3) pc) (ksI (keyF y ep) (8 * b + 4 * (1 - p))) nc m (x + 1) (none, s.2) := by
        show hawF _ _ _ _ m (x + 1) (if whl G (v 2) (v 3) pc x then _ else _) = _
        rw [e]
        rfl
      rw [← eh]
      exact h τ'
    · have hw := of_decide_eq_true e
      have hpx := hP x h2 (by omega)
      rw [hw.2.2.1] at hpx
      refine rhand_ok hp hbb hip (by omega) (hK0.of (hF.1 0 (by decide)) (hF.1 67 (by decide))) (hpx.all hw.2.2.2) hH hV (hW x h2 (by omega) s.1 hs) (fun τ1 g1 g2 => ?_)
      unfold wpX9_renewReceiver_L53
      rw [nI_1]
      rintro _ rfl
      refine ih (x + 1) τ1 (hndL (ksI (keyF y ep) (8 * b + 4 * (1 - p))) nc (G x) s) (by omega) (by omega) (HwV.nx hs) (hS.of (fun c c1 c2 => by rw [g2.1 c (by unfold LH; simp only [List.mem_cons, List.not_mem_nil, or_false]; omega)])) (hP.of (fun c c1 c2 => g2.1 c (by unfold LH; simp only [List.mem_cons, List.not_mem_nil, or_false]; omega))) g1 (obV_hndL _ _ hV) (hF.tr g2) (fun τ' => ?_)
      have eh : hawF G (whl G (v 2) (v 3) pc) (ksI (keyF y ep) (8 * b + 4 * (1 - p))) nc (m + 1) x s = hawF G (whl G (v 2) (v 3) pc) (ksI (keyF y ep) (8 * b + 4 * (1 - p))) nc m (x + 1) (hndL (ksI (keyF y ep) (8 * b + 4 * (1 - p))) nc (G x) s) := by
        show hawF _ _ _ _ m (x + 1) (if whl G (v 2) (v 3) pc x then _ else _) = _
        rw [e]
        rfl
      rw [← eh]
      exact h τ'
def LRn : List Nat := [33, 34, 35, 36, 37, 38, 39, 43, 44, 46, 47, 48]
theorem rr69 {i : Nat} {v : Nat → Nat} {Q : Sg → Prop} {τ0 : Sg} (hi : i < 6) (hS0 : RsM τ0 i v) (h : ∀ τ' : Sg, RsM τ' i (anwV v) → (∀ s, s < 32 → τ' 44 (32 * i + s) = -1 ∧ ∀ k, k < 240 → τ' 46 (240 * (32 * i + s) + k) = 0) → FrA LRn i τ0 τ' → Q τ') : ∀ (m x : Nat) (τ : Sg), x + m = 32 → (∀ s, s < x → τ 44 (32 * i + s) = -1 ∧ ∀ k, k < 240 → τ 46 (240 * (32 * i + s) + k) = 0) → (∀ c, 33 ≤ c → c ≤ 43 → τ c = τ0 c) → FrA LRn i τ0 τ → wpX9_renewReceiver_L69 Q (m + 1) (nI i) (nI x) τ := by
  intro m
  induction m with
  | zero =>
    intro x τ hx h1 h2 hF
    unfold wpX9_renewReceiver_L69
    rw [nI_clamp (n := i) (by omega)]
    refine brt (nI_le (a := 32) (b := x) (by omega) (by omega)) ⟨vin rfl hi (by decide), ?_⟩
    rintro _ rfl
    refine ⟨vin rfl hi (by decide), ?_⟩
    rintro _ rfl
    refine ⟨vin rfl hi (by decide), ?_⟩
    rintro _ rfl
    refine ⟨vin rfl hi (by decide), ?_⟩
    rintro _ rfl
    refine ⟨vin rfl hi (by decide), ?_⟩
    rintro _ rfl
    refine ⟨vin rfl hi (by decide), ?_⟩
    rintro _ rfl
    refine ⟨vin rfl hi (by decide), ?_⟩
    rintro _ rfl
    refine ⟨vin rfl hi (by decide), ?_⟩
    rintro _ rfl
    refine h _ ⟨fun c c1 c2 c9 => ?_, ?_⟩ (fun s hs => ⟨?_, fun k hk => ?_⟩) ((((((((hF.up (by decide) (fun _ => Nat.div_one i)).up (by decide) (fun _ => Nat.div_one i)).up (by decide) (fun _ => Nat.div_one i)).up (by decide) (fun _ => Nat.div_one i)).up (by decide) (fun _ => Nat.div_one i)).up (by decide) (fun _ => Nat.div_one i)).up (by decide) (fun _ => Nat.div_one i)).up (by decide) (fun _ => Nat.div_one i))
    · have hcc : c = 33 ∨ c = 34 ∨ c = 35 ∨ c = 36 ∨ c = 37 ∨ c = 38 ∨ c = 40 ∨ c = 41 ∨ c = 42 ∨ c = 43 := by omega
      simp only [up2_e]
      rcases hcc with rfl | rfl | rfl | rfl | rfl | rfl | rfl | rfl | rfl | rfl
      · rfl
      · rfl
      · rfl
      · rfl
      · rfl
      · rfl
      · simp
        rw [h2 40 (by decide) (by decide)]
        exact hS0.g10
      · simp
        rw [h2 41 (by decide) (by decide)]
        exact hS0.g11
      · simp
        rw [h2 42 (by decide) (by decide)]
        exact hS0.g12
      · simp
        rfl
    · simp only [up2_e]
      simp
      rfl
    · rw [up2_o (by decide), up2_o (by decide), up2_o (by decide), up2_o (by decide), up2_o (by decide), up2_o (by decide), up2_o (by decide), up2_o (by decide)]
      exact (h1 s (by omega)).1
    · rw [up2_o (by decide), up2_o (by decide), up2_o (by decide), up2_o (by decide), up2_o (by decide), up2_o (by decide), up2_o (by decide), up2_o (by decide)]
      exact (h1 s (by omega)).2 k hk
  | succ m ih =>
    intro x τ hx h1 h2 hF
    unfold wpX9_renewReceiver_L69
    refine brf (nI_ge (a := x) (b := 32) (by omega) (by decide)) (rclear_ok hi (by omega) (fun τ1 k1 k2 k3 k4 => ?_))
    rw [nI_1]
    rintro _ rfl
    have em : x % 32 = x := Nat.mod_eq_of_lt (by omega)
    rw [em] at k1 k2 k3
    refine ih (x + 1) τ1 (by omega) (fun s hs => ?_) (fun c c1 c2 => by rw [k4.1 c (by unfold LC; simp only [List.mem_cons, List.not_mem_nil, or_false]; omega), h2 c c1 c2]) (hF.tr (k4.mono (by decide)))
    by_cases es : s = x
    · rw [es]
      exact ⟨k1, k2⟩
    · obtain ⟨z1, z2⟩ := k3 (32 * i + s) (by omega)
      exact ⟨by rw [z1]; exact (h1 s (by omega)).1, fun k hk => by rw [z2 46 k (by omega) hk]; exact (h1 s (by omega)).2 k hk⟩
def LRr : List Nat := [15, 18, 20, 21, 22, 23, 24, 33, 34, 35, 36, 37, 38, 39, 43, 44, 46, 47, 48, 49, 50, 51, 52, 53, 54, 55, 56, 57, 58, 59, 68, 69, 70, 71]
theorem renewReceiver_ok {τ : Sg} {p b i : Nat} {y ep : Int32} {G G' : Nat → List Cel} {s : Smd} {r : Rmd} {Q : Sg → Prop} (hp : p < 2) (hbb : b < 3) (hip : i = 3 * p + b) (hK : KyM τ y ep) (hS : SmM τ i s) (hR : RmM τ i G r) (hV : ObV s.2.2.2.1 s.2.2.2.2.1 s.2.2.2.2.2) (hRV : RvV r.1) (hc : clrP r.1 r.2.1) (hW : HwV G (r.1 2) (r.1 3)) (hbg : r.2.2.1 = bgN G (r.1 2)) (hG : ∀ x, (G' x).length ≤ 240) (h : ∀ τ' : Sg, SmM τ' i (rnS (rnH G (ksI (keyF y ep) (8 * b + 4 * (1 - p))) s r) s) → RmM τ' i G' (rnR (rnH G (ksI (keyF y ep) (8 * b + 4 * (1 - p))) s r) r) → FrA LRr i τ τ' → Q τ') : wpX9_renewReceiver (nI p) (nI b) τ Q := by
  have hi : i < 6 := by omega
  obtain ⟨m1, m2, m3, m4⟩ := hS
  obtain ⟨r1, r2, r3, r4⟩ := hR
  obtain ⟨v1, v2, v3, v4, v5⟩ := hRV
  unfold wpX9_renewReceiver wpX9_at
  rw [atI, ← hip]
  dsimp only
  rw [nI_clamp (n := i) (by omega), r1.g2]
  refine ⟨vin rfl hi (by decide), ?_⟩
  rintro _ rfl
  refine ⟨r.1 3 - r.1 2 + 1, rr14 (τ0 := τ) (nc := s.2.2.2.1) hp hbb hip hK v1 hc v5 hW (r.1 3 - r.1 2) (r.1 2) τ (r.2.2.1, r.2.2.2, s.2.2.2.2) (by omega) (Nat.le_refl _) (Or.inl hbg) r1 r2 ⟨r3, r4, m3, m4⟩ hV FrA.rf (fun τ1 g1 g2 => ⟨33, ?_⟩)⟩
  obtain ⟨q1, q2, q3, q4⟩ := g1
  refine rr69 (τ0 := τ1) (v := r.1) hi (r1.of (fun c c1 c2 => by rw [g2.1 c (by unfold LH; simp only [List.mem_cons, List.not_mem_nil, or_false]; omega)])) (fun τ2 k1 k2 k3 => ?_) 32 0 τ1 (by omega) (fun s hs => by omega) (fun _ _ _ => rfl) FrA.rf
  have u2 : ∀ c, c ≤ 32 ∨ 49 ≤ c → τ2 c = τ1 c := fun c hc => k3.1 c (by unfold LRn; simp only [List.mem_cons, List.not_mem_nil, or_false]; omega)
  have u1 : ∀ c, c ≤ 14 ∨ (25 ≤ c ∧ c ≤ 32) → τ2 c = τ c := fun c hc => by rw [u2 c (by omega), g2.1 c (by unfold LH; simp only [List.mem_cons, List.not_mem_nil, or_false]; omega)]
  have q1 : τ1 49 i = -1 := by
    have := q1
    have e : (rnH G (ksI (keyF y ep) (8 * b + 4 * (1 - p))) s r).1 = none := by
      unfold rnH
      have key : ∀ (m x : Nat) (t : Hst), (hawF G (whl G (r.1 2) (r.1 3) r.2.1) (ksI (keyF y ep) (8 * b + 4 * (1 - p))) s.2.2.2.1 m x t).1 = none := by
        intro m
        induction m with
        | zero => intro x t; rfl
        | succ m ihm => intro x t; exact ihm (x + 1) _
      exact key _ _ _
    have this : BgM τ1 i (rnH G (ksI (keyF y ep) (8 * b + 4 * (1 - p))) s r).1 := this
    rw [e] at this
    exact this
  refine h τ2 ⟨m1.of (fun c c1 c2 => u1 c (by omega)), m2.of (fun c hc => u1 c (by omega)), q3.of (fun c hc => u2 c (by omega)), q4.of (fun c c1 c2 => u2 c (by omega))⟩ ⟨k1, fun x x1 x2 => ?_, ?_, q2.of (fun c c1 c2 => u2 c (by omega))⟩ ((g2.mono (by decide)).tr (k3.mono (by decide)))
  · obtain ⟨z1, z2⟩ := k2 (x % 32) (Nat.mod_lt _ (by decide))
    exact ⟨z1, hG x, fun k hk => by rw [z2 k hk]; rfl, fun k hk => absurd hk Bool.false_ne_true, fun k hk ht => absurd ht Bool.false_ne_true⟩
  · show τ2 49 i = -1
    rw [u2 49 (by omega)]
    exact q1
