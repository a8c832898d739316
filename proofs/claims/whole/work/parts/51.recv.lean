/-! PURE: a RECEIVER's numbers, in the class -/
def vup (v : Nat → Nat) (k x : Nat) : Nat → Nat := fun j => if j = k then x else v j
theorem vup_s {v : Nat → Nat} {k x : Nat} : vup v k x k = x := if_pos rfl
theorem vup_o {v : Nat → Nat} {k x j : Nat} (h : j ≠ k) : vup v k x j = v j := if_neg h
def RcS (σ : Sg) (c : Nat) (v : Nat → Nat) : Prop := (∀ k, 2 ≤ k → k ≤ 12 → k ≠ 6 → σ c k = nI (v k)) ∧ σ c 6 = nI (v 6) - 1
abbrev Rpc : Type := Nat → Bool × (Nat → Bool)
def RpsC (σ : Sg) (c R : Nat) (G : Nat → List Cel) (pc : Rpc) : Prop := ∀ x, R ≤ x → x < R + 32 → RpC σ (c + 7 + 2 * (x % 32)) (G x) (pc x).1 (pc x).2
def RvB (v : Nat → Nat) : Prop := ∀ k, 2 ≤ k → k ≤ 9 → v k < 2 ^ 20
def FrS (c : Nat) (σ σ' : Sg) : Prop := ∀ d, d ≠ c → σ' d = σ d
theorem RcS.put {σ : Sg} {c k x : Nat} {v : Nat → Nat} (h : RcS σ c v) (h6 : k ≠ 6) : RcS (up2 σ c k (nI x)) c (vup v k x) := by
  refine ⟨fun j h1 h2 h3 => ?_, ?_⟩
  · rw [up2_e]
    by_cases e : j = k
    · subst e
      rw [if_pos ⟨rfl, rfl⟩, vup_s]
    · rw [if_neg (fun hh => e hh.2), vup_o e]
      exact h.1 j h1 h2 h3
  · rw [up2_e, if_neg (fun hh => h6 hh.2.symm), vup_o (fun hh => h6 hh.symm)]
    exact h.2
theorem RcS.put6 {σ : Sg} {c x : Nat} {v : Nat → Nat} (h : RcS σ c v) : RcS (up2 σ c 6 (nI x - 1)) c (vup v 6 x) := by
  refine ⟨fun j h1 h2 h3 => ?_, ?_⟩
  · rw [up2_e, if_neg (fun hh => h3 hh.2), vup_o h3]
    exact h.1 j h1 h2 h3
  · rw [up2_e, if_pos ⟨rfl, rfl⟩, vup_s]
theorem RcS.of {σ σ' : Sg} {c : Nat} {v : Nat → Nat} (h : RcS σ c v) (he : σ' c = σ c) : RcS σ' c v := by
  unfold RcS at *
  rw [he]
  exact h
theorem RpsC.of {σ σ' : Sg} {c R : Nat} {G : Nat → List Cel} {pc : Rpc} (h : RpsC σ c R G pc) (hd : ∀ d, c + 7 ≤ d → d < c + 71 → σ' d = σ d) : RpsC σ' c R G pc := fun x h1 h2 => (h x h1 h2).of (by rw [hd _ (by omega) (by omega)]) (by rw [hd _ (by omega) (by omega)]) (hd _ (by omega) (by omega))
theorem RvB.put {v : Nat → Nat} {k x : Nat} (h : RvB v) (hx : x < 2 ^ 20) : RvB (vup v k x) := by
  intro j h1 h2
  unfold vup
  split
  · exact hx
  · exact h j h1 h2
theorem m1z : (-1 : Int32) = nI 0 - 1 := by decide
theorem maxI {a b : Nat} (ha : a < 2 ^ 31) (hb : b < 2 ^ 31) : (if nI a < nI b then nI b else nI a) = nI (max a b) := by
  by_cases h : a < b
  · rw [if_pos ((nI_ltI ha hb).mpr h), Nat.max_eq_right (by omega)]
  · rw [if_neg (fun hh => h ((nI_ltI ha hb).mp hh)), Nat.max_eq_left (by omega)]
/-- polls that are answered -/
def ansV (v : Nat → Nat) : Nat → Nat := if v 6 = 0 ∨ v 4 + 1 ≤ v 6 then v else vup (vup v 7 1) 6 0
theorem answerPolls_ok {σ : Sg} {c : Nat} {v : Nat → Nat} {Q : Sg → Prop} (hS : RcS σ c v) (hb : RvB v) (h : ∀ σ' : Sg, RcS σ' c (ansV v) → FrS c σ σ' → Q σ') : wpX6_answerPolls c σ Q := by
  have h4 := hS.1 4 (by decide) (by decide) (by decide)
  have h6 := hS.2
  have b4 := hb 4 (by decide) (by decide)
  have b6 := hb 6 (by decide) (by decide)
  unfold wpX6_answerPolls
  rw [h6, h4]
  unfold ansV at h
  cases e : v 6 with
  | zero =>
    rw [e] at h
    rw [if_pos (Or.inl rfl)] at h
    exact brt m1z.symm (h σ hS (fun _ _ => rfl))
  | succ p =>
    rw [e] at h b6
    rw [nI_pred]
    refine brf (neg1 (by omega)) ⟨fun hh => ?_, fun hh => ?_⟩
    · have := (nI_leI (by omega) (by omega)).mp hh
      rw [if_pos (Or.inr (by omega))] at h
      exact h σ hS (fun _ _ => rfl)
    · have : ¬ v 4 ≤ p := fun h9 => hh ((nI_leI (by omega) (by omega)).mpr h9)
      rw [if_neg (by omega)] at h
      rintro _ rfl _ rfl
      refine h _ ?_ (fun d hd => by rw [up2_o hd, up2_o hd])
      rw [m1z]
      exact (hS.put (k := 7) (x := 1) (by decide)).put6
/-- pieces that are whole -/
def whl (G : Nat → List Cel) (R H : Nat) (pc : Rpc) (x : Nat) : Bool := decide (R ≤ x ∧ x < H ∧ (pc x).1 = true ∧ cnt (pc x).2 0 240 = (G x).length)
theorem isWhole_ok {σ : Sg} {c x : Nat} {v : Nat → Nat} {G : Nat → List Cel} {pc : Rpc} {Q : Int32 → Sg → Prop} (hS : RcS σ c v) (hb : RvB v) (hP : RpsC σ c (v 2) G pc) (h1 : v 2 ≤ x) (h2 : x < v 2 + 32) (h : Q (b01 (whl G (v 2) (v 3) pc x)) σ) : wpX6_isWhole c (nI x) σ Q := by
  have b2 := hb 2 (by decide) (by decide)
  have b3 := hb 3 (by decide) (by decide)
  obtain ⟨p1, p2, p3, p4, p5, p6⟩ := hP x h1 h2
  unfold wpX6_isWhole wpX6_pieceAt
  rw [a31 (by omega), nI_clamp (by omega)]
  refine ⟨vin rfl (by omega) (by decide), ?_⟩
  rintro _ rfl
  rw [hS.1 2 (by decide) (by decide) (by decide), hS.1 3 (by decide) (by decide) (by decide), p1, p3]
  unfold whl at h
  refine pk_lt x (v 2) (fun hh => by omega) (fun _ => pk_le (v 3) x (fun hh => ?_) (fun hh => ?_))
  · rw [show decide (v 2 ≤ x ∧ x < v 3 ∧ (pc x).1 = true ∧ cnt (pc x).2 0 240 = (G x).length) = false from decide_eq_false (by omega)] at h
    exact h
  · cases ek : (pc x).1 with
    | false =>
      rw [show decide (v 2 ≤ x ∧ x < v 3 ∧ (pc x).1 = true ∧ cnt (pc x).2 0 240 = (G x).length) = false from decide_eq_false (by rw [ek]; simp)] at h
      exact brt rfl h
    | true =>
      have hc := cnt_le (f := (pc x).2) (a := 0) 240
      refine brf (by rw [if_pos rfl]; exact neg1 (by omega)) ?_
      rw [if_pos rfl]
      by_cases e : cnt (pc x).2 0 240 = (G x).length
      · rw [show decide (v 2 ≤ x ∧ x < v 3 ∧ (pc x).1 = true ∧ cnt (pc x).2 0 240 = (G x).length) = true from decide_eq_true ⟨h1, by omega, ek, e⟩] at h
        exact brt' (by rw [e]) h
      · rw [show decide (v 2 ≤ x ∧ x < v 3 ∧ (pc x).1 = true ∧ cnt (pc x).2 0 240 = (G x).length) = false from decide_eq_false (fun hh => e hh.2.2.2)] at h
        exact brf' (fun hh => e ((nI_eq (by omega) (by omega)).mp hh)) h
def rsT (wh : Nat → Bool) : Nat → Nat → Nat
  | 0, t => t
  | m + 1, t => if wh t then rsT wh m (t + 1) else t
theorem rsT_spec {wh : Nat → Bool} : ∀ (m t : Nat), t ≤ rsT wh m t ∧ rsT wh m t ≤ t + m ∧ (∀ k, t ≤ k → k < rsT wh m t → wh k = true) ∧ (rsT wh m t < t + m → wh (rsT wh m t) = false)
  | 0, t => ⟨Nat.le_refl _, Nat.le_refl _, fun k h1 h2 => by unfold rsT at h2; omega, fun h => by unfold rsT at h; omega⟩
  | m + 1, t => by
    unfold rsT
    by_cases e : wh t = true
    · rw [if_pos e]
      obtain ⟨h1, h2, h3, h4⟩ := rsT_spec (wh := wh) m (t + 1)
      refine ⟨by omega, by omega, fun k g1 g2 => ?_, fun h => h4 (by omega)⟩
      by_cases ek : k = t
      · subst ek; exact e
      · exact h3 k (by omega) g2
    · rw [if_neg e]
      exact ⟨Nat.le_refl _, by omega, fun k h1 h2 => by omega, fun _ => by simpa using e⟩
theorem rt1 {c : Nat} {G : Nat → List Cel} {pc : Rpc} {Q : Sg → Prop} : ∀ (m i : Nat) (σ : Sg) (v : Nat → Nat), i + m = 32 → RcS σ c v → RvB v → RpsC σ c (v 2) G pc → v 2 ≤ v 4 → v 4 ≤ v 3 → v 3 ≤ v 2 + 31 → (∀ σ' : Sg, RcS σ' c (vup v 4 (rsT (whl G (v 2) (v 3) pc) m (v 4))) → FrS c σ σ' → Q σ') → wpX6_raiseTold_L2 Q (m + 1) c (nI i) σ := by
  intro m
  induction m with
  | zero =>
    intro i σ v hi hS hb hP h2 h3 h4 h
    unfold wpX6_raiseTold_L2
    have e : vup v 4 (rsT (whl G (v 2) (v 3) pc) 0 (v 4)) = v := by
      funext j
      unfold vup
      split
      · next e => rw [e]; rfl
      · rfl
    rw [e] at h
    exact pk_le 32 i (fun _ => h σ hS (fun _ _ => rfl)) (fun hh => by omega)
  | succ m ih =>
    intro i σ v hi hS hb hP h2 h3 h4 h
    have b3 := hb 3 (by decide) (by decide)
    unfold wpX6_raiseTold_L2
    rw [hS.1 4 (by decide) (by decide) (by decide)]
    refine pk_le 32 i (fun hh => by omega) (fun _ => isWhole_ok hS hb hP h2 (by omega) (br01 (fun e => ?_) (fun e => ?_)))
    · have e2 : vup v 4 (rsT (whl G (v 2) (v 3) pc) (m + 1) (v 4)) = v := by
        funext j
        unfold vup
        split
        · next ej => rw [ej]; unfold rsT; rw [e]; rfl
        · rfl
      rw [e2] at h
      exact h σ hS (fun _ _ => rfl)
    · rintro _ rfl _ rfl
      rw [hS.1 4 (by decide) (by decide) (by decide), nI_1, nI_1]
      have hlt : v 4 < v 3 := by
        unfold whl at e
        have := of_decide_eq_true e
        omega
      refine ih (i + 1) _ (vup v 4 (v 4 + 1)) (by omega) (hS.put (by decide)) (hb.put (by omega)) ?_ ?_ ?_ ?_ (fun σ' g1 g2 => h σ' ?_ (fun d hd => by rw [g2 d hd, up2_o hd]))
      · rw [vup_o (by decide)]
        exact hP.of (fun d d1 d2 => up2_o (by omega))
      · rw [vup_o (by decide), vup_s]; omega
      · rw [vup_s, vup_o (by decide)]; omega
      · rw [vup_o (by decide), vup_o (by decide)]; omega
      · rw [vup_o (by decide), vup_o (by decide), vup_s] at g1
        have e2 : vup (vup v 4 (v 4 + 1)) 4 (rsT (whl G (v 2) (v 3) pc) m (v 4 + 1)) = vup v 4 (rsT (whl G (v 2) (v 3) pc) (m + 1) (v 4)) := by
          funext j
          unfold vup
          split
          · next ej => rw [rsT, if_pos e]
          · rfl
        rw [e2] at g1
        exact g1
def raiV (G : Nat → List Cel) (pc : Rpc) (v : Nat → Nat) : Nat → Nat := vup v 4 (rsT (whl G (v 2) (v 3) pc) 32 (v 4))
theorem raiseTold_ok {σ : Sg} {c : Nat} {v : Nat → Nat} {G : Nat → List Cel} {pc : Rpc} {Q : Sg → Prop} (hS : RcS σ c v) (hb : RvB v) (hP : RpsC σ c (v 2) G pc) (h2 : v 2 ≤ v 4) (h3 : v 4 ≤ v 3) (h4 : v 3 ≤ v 2 + 31) (h : ∀ σ' : Sg, RcS σ' c (raiV G pc v) → FrS c σ σ' → Q σ') : wpX6_raiseTold c σ Q := ⟨33, rt1 32 0 σ v rfl hS hb hP h2 h3 h4 h⟩
theorem rai_le {G : Nat → List Cel} {pc : Rpc} {v : Nat → Nat} (h : v 4 ≤ v 3) : v 4 ≤ raiV G pc v 4 ∧ raiV G pc v 4 ≤ v 3 := by
  unfold raiV
  rw [vup_s]
  obtain ⟨h1, h2, h3, h4⟩ := rsT_spec (wh := whl G (v 2) (v 3) pc) 32 (v 4)
  refine ⟨h1, ?_⟩
  rcases Nat.lt_or_ge (v 3) (rsT (whl G (v 2) (v 3) pc) 32 (v 4)) with hlt | hge
  · have := h3 (v 3) h hlt
    unfold whl at this
    have := of_decide_eq_true this
    omega
  · exact hge
/-- the timers of a receiver -/
theorem RvB.ans {v : Nat → Nat} (h : RvB v) : RvB (ansV v) := by
  unfold ansV
  split
  · exact h
  · exact (h.put (by decide)).put (by decide)
theorem RvB.rai {v : Nat → Nat} {G : Nat → List Cel} {pc : Rpc} (h : RvB v) (h4 : v 4 ≤ v 3) : RvB (raiV G pc v) := by
  have := (rai_le (G := G) (pc := pc) h4).2
  have b3 := h 3 (by decide) (by decide)
  unfold raiV at *
  rw [vup_s] at this
  exact h.put (by omega)
def rstV (u : Nat → Nat) : Nat → Nat := if u 3 ≤ u 4 then u else vup (vup u 8 6) 5 (u 3)
def gupV (G : Nat → List Cel) (pc : Rpc) (v : Nat → Nat) : Nat → Nat := rstV (ansV (vup (raiV G pc (vup v 4 (max (v 4) (v 5)))) 7 1))
theorem giveUp_ok {σ : Sg} {c : Nat} {v : Nat → Nat} {G : Nat → List Cel} {pc : Rpc} {Q : Sg → Prop} (hS : RcS σ c v) (hb : RvB v) (hP : RpsC σ c (v 2) G pc) (h2 : v 2 ≤ v 4) (h3 : v 4 ≤ v 3) (h5 : v 5 ≤ v 3) (h4 : v 3 ≤ v 2 + 31) (h : ∀ σ' : Sg, RcS σ' c (gupV G pc v) → FrS c σ σ' → Q σ') : wpX6_giveUpAwaiting c σ Q := by
  have b3 := hb 3 (by decide) (by decide)
  have b4 := hb 4 (by decide) (by decide)
  have b5 := hb 5 (by decide) (by decide)
  unfold wpX6_giveUpAwaiting
  rw [hS.1 4 (by decide) (by decide) (by decide), hS.1 5 (by decide) (by decide) (by decide), maxI (by omega) (by omega)]
  rintro _ rfl _ rfl
  have hb1 : RvB (vup v 4 (max (v 4) (v 5))) := hb.put (by omega)
  have e2 : vup v 4 (max (v 4) (v 5)) 2 = v 2 := vup_o (by decide)
  have e3 : vup v 4 (max (v 4) (v 5)) 3 = v 3 := vup_o (by decide)
  have e4 : vup v 4 (max (v 4) (v 5)) 4 = max (v 4) (v 5) := vup_s
  refine raiseTold_ok (G := G) (pc := pc) (hS.put (k := 4) (x := max (v 4) (v 5)) (by decide)) hb1 ?_ (by omega) (by omega) (by omega) (fun σ1 g1 g2 => ?_)
  · rw [e2]
    exact hP.of (fun d d1 d2 => up2_o (by omega))
  · rintro _ rfl
    have hb2 : RvB (vup (raiV G pc (vup v 4 (max (v 4) (v 5)))) 7 1) := (hb1.rai (by omega)).put (by decide)
    refine answerPolls_ok (g1.put (k := 7) (x := 1) (by decide)) hb2 (fun σ2 k1 k2 => ?_)
    have hb3 := hb2.ans
    unfold gupV at h
    generalize ansV (vup (raiV G pc (vup v 4 (max (v 4) (v 5)))) 7 1) = u at *
    have c3 := hb3 3 (by decide) (by decide)
    have c4 := hb3 4 (by decide) (by decide)
    rw [k1.1 3 (by decide) (by decide) (by decide), k1.1 4 (by decide) (by decide) (by decide)]
    unfold rstV at h
    refine pk_le (u 3) (u 4) (fun hh => ?_) (fun hh => ?_)
    · rw [if_pos hh] at h
      exact h σ2 k1 (fun d hd => by rw [k2 d hd, up2_o hd, g2 d hd, up2_o hd])
    · rw [if_neg (by omega)] at h
      rintro _ rfl _ rfl
      rw [up2_e, if_neg (by omega), k1.1 3 (by decide) (by decide) (by decide)]
      exact h _ ((k1.put (k := 8) (x := 6) (by decide)).put (k := 5) (by decide)) (fun d hd => by rw [up2_o hd, up2_o hd, k2 d hd, up2_o hd, g2 d hd, up2_o hd])
def tmR8 (G : Nat → List Cel) (pc : Rpc) (v : Nat → Nat) : Nat → Nat := if v 8 = 0 then v else if v 8 = 1 then gupV G pc (vup v 8 0) else vup v 8 (v 8 - 1)
def tmR (G : Nat → List Cel) (pc : Rpc) (v : Nat → Nat) : Nat → Nat := tmR8 G pc (if v 9 = 0 then v else vup v 9 (v 9 - 1))
theorem rcd17 {σ : Sg} {c : Nat} {v : Nat → Nat} {G : Nat → List Cel} {pc : Rpc} {Q : Sg → Prop} (hS : RcS σ c v) (hb : RvB v) (hP : RpsC σ c (v 2) G pc) (h2 : v 2 ≤ v 4) (h3 : v 4 ≤ v 3) (h5 : v 5 ≤ v 3) (h4 : v 3 ≤ v 2 + 31) (h : ∀ σ' : Sg, RcS σ' c (tmR8 G pc v) → FrS c σ σ' → Q σ') : wpX6_countDown_L17 Q c σ := by
  have b8 := hb 8 (by decide) (by decide)
  unfold wpX6_countDown_L17
  rw [hS.1 8 (by decide) (by decide) (by decide)]
  unfold tmR8 at h
  refine pk_le (v 8) 0 (fun hh => ?_) (fun hh => ?_)
  · rw [if_pos (by omega)] at h
    exact h σ hS (fun _ _ => rfl)
  · rintro _ rfl
    have e8 : nI (v 8) - 1 = nI (v 8 - 1) := pk_sub (a := v 8) (b := 1) (by omega)
    rw [up2_e, if_pos ⟨rfl, rfl⟩, e8]
    rw [if_neg (by omega)] at h
    have hS1 := hS.put (k := 8) (x := v 8 - 1) (by decide)
    have hP1 : RpsC (up2 σ c 8 (nI (v 8 - 1))) c (v 2) G pc := hP.of (fun d d1 d2 => up2_o (by omega))
    refine ⟨fun hne => ?_, fun he => ?_⟩
    · rw [if_neg (fun hh => hne (by rw [hh]; rfl))] at h
      exact h _ hS1 (fun d hd => up2_o hd)
    · have e1 : v 8 = 1 := by
        have := (nI_eq (a := v 8 - 1) (b := 0) (by omega) (by decide)).mp he
        omega
      rw [if_pos e1] at h
      rw [e1] at hS1 hP1 ⊢
      have o2 : vup v 8 0 2 = v 2 := vup_o (by decide)
      have o3 : vup v 8 0 3 = v 3 := vup_o (by decide)
      have o4 : vup v 8 0 4 = v 4 := vup_o (by decide)
      have o5 : vup v 8 0 5 = v 5 := vup_o (by decide)
      exact giveUp_ok hS1 (hb.put (by decide)) (by rw [show vup v 8 (1 - 1) 2 = v 2 from o2]; exact hP1) (by rw [show vup v 8 (1 - 1) 2 = v 2 from o2, show vup v 8 (1 - 1) 4 = v 4 from o4]; exact h2) (by rw [show vup v 8 (1 - 1) 3 = v 3 from o3, show vup v 8 (1 - 1) 4 = v 4 from o4]; exact h3) (by rw [show vup v 8 (1 - 1) 3 = v 3 from o3, show vup v 8 (1 - 1) 5 = v 5 from o5]; exact h5) (by rw [show vup v 8 (1 - 1) 3 = v 3 from o3, show vup v 8 (1 - 1) 2 = v 2 from o2]; exact h4) (fun σ' g1 g2 => h σ' g1 (fun d hd => by rw [g2 d hd, up2_o hd]))
theorem rcountDown_ok {σ : Sg} {c : Nat} {v : Nat → Nat} {G : Nat → List Cel} {pc : Rpc} {Q : Sg → Prop} (hS : RcS σ c v) (hb : RvB v) (hP : RpsC σ c (v 2) G pc) (h2 : v 2 ≤ v 4) (h3 : v 4 ≤ v 3) (h5 : v 5 ≤ v 3) (h4 : v 3 ≤ v 2 + 31) (h : ∀ σ' : Sg, RcS σ' c (tmR G pc v) → FrS c σ σ' → Q σ') : wpX6_countDown c σ Q := by
  have b9 := hb 9 (by decide) (by decide)
  unfold wpX6_countDown
  rw [hS.1 9 (by decide) (by decide) (by decide)]
  unfold tmR at h
  refine pk_le (v 9) 0 (fun hh => ?_) (fun hh => ?_)
  · rw [if_pos (by omega)] at h
    exact rcd17 hS hb hP h2 h3 h5 h4 h
  · rw [if_neg (by omega)] at h
    rintro _ rfl
    have e9 : nI (v 9) - 1 = nI (v 9 - 1) := pk_sub (a := v 9) (b := 1) (by omega)
    rw [e9]
    have o : ∀ k, k ≠ 9 → vup v 9 (v 9 - 1) k = v k := fun k hk => vup_o hk
    refine rcd17 (hS.put (by decide)) (hb.put (by omega)) ?_ ?_ ?_ ?_ ?_ (fun σ' g1 g2 => h σ' g1 (fun d hd => by rw [g2 d hd, up2_o hd]))
    · rw [o 2 (by decide)]; exact hP.of (fun d d1 d2 => up2_o (by omega))
    · rw [o 2 (by decide), o 4 (by decide)]; exact h2
    · rw [o 3 (by decide), o 4 (by decide)]; exact h3
    · rw [o 3 (by decide), o 5 (by decide)]; exact h5
    · rw [o 3 (by decide), o 2 (by decide)]; exact h4
/-- what follows the bytes -/
def setV1 (v : Nat → Nat) : Nat → Nat := if v 8 = 0 ∨ v 2 < v 5 then v else vup v 8 0
def setV2 (v : Nat → Nat) : Nat → Nat := if v 8 = 0 ∧ v 2 < v 3 then vup (vup v 8 6) 5 (v 3) else v
def setV (x : Nat) (poll : Bool) (v : Nat → Nat) : Nat → Nat := if poll then ansV (vup (setV2 (setV1 (ansV v))) 6 (x + 1)) else setV2 (setV1 (ansV v))
theorem RvB.set1 {v : Nat → Nat} (h : RvB v) : RvB (setV1 v) := by
  unfold setV1
  split
  · exact h
  · exact h.put (by decide)
theorem RvB.set2 {v : Nat → Nat} (h : RvB v) : RvB (setV2 v) := by
  unfold setV2
  split
  · exact (h.put (by decide)).put (h 3 (by decide) (by decide))
  · exact h
theorem settle_ok {σ : Sg} {c x : Nat} {v : Nat → Nat} {poll : Bool} {Q : Sg → Prop} (hS : RcS σ c v) (hb : RvB v) (hx : x + 1 < 2 ^ 20) (h : ∀ σ' : Sg, RcS σ' c (setV x poll v) → FrS c σ σ' → Q σ') : wpX6_settle c (nI x) (b01 poll) σ Q := by
  unfold wpX6_settle
  refine answerPolls_ok hS hb (fun σ1 g1 g2 => ?_)
  have hb1 := hb.ans
  unfold setV at h
  generalize ansV v = u at *
  have L59 : ∀ (σ2 : Sg) (u2 : Nat → Nat), u2 = setV2 (setV1 u) → RcS σ2 c u2 → FrS c σ σ2 → wpX6_settle_L59 Q c (nI x) (b01 poll) σ2 := by
    intro σ2 u2 eu k1 k2
    unfold wpX6_settle_L59
    rw [← eu] at h
    refine br01 (fun e => ?_) (fun e => ?_)
    · rw [e] at h
      exact h σ2 k1 k2
    · rw [e, if_pos rfl] at h
      rintro _ rfl
      have hb2 : RvB u2 := by rw [eu]; exact hb1.set1.set2
      have e6 : nI x = nI (x + 1) - 1 := (nI_pred x).symm
      rw [e6]
      exact answerPolls_ok k1.put6 (hb2.put hx) (fun σ3 q1 q2 => h σ3 q1 (fun d hd => by rw [q2 d hd, up2_o hd, k2 d hd]))
  have L27 : ∀ (σ2 : Sg) (u1 : Nat → Nat), u1 = setV1 u → RcS σ2 c u1 → FrS c σ σ2 → wpX6_settle_L27 Q c (nI x) (b01 poll) σ2 := by
    intro σ2 u1 eu k1 k2
    have hb2 : RvB u1 := by rw [eu]; exact hb1.set1
    have b8 := hb2 8 (by decide) (by decide)
    have b2 := hb2 2 (by decide) (by decide)
    have b3 := hb2 3 (by decide) (by decide)
    unfold wpX6_settle_L27
    rw [k1.1 8 (by decide) (by decide) (by decide), k1.1 2 (by decide) (by decide) (by decide), k1.1 3 (by decide) (by decide) (by decide)]
    refine ⟨fun hne => ?_, fun he => ?_⟩
    · refine L59 σ2 u1 ?_ k1 k2
      rw [← eu]
      unfold setV2
      rw [if_neg (fun hh => hne (by rw [hh.1]; rfl))]
    · have he : u1 8 = 0 := (nI_eq (a := u1 8) (b := 0) (by omega) (by decide)).mp he
      refine pk_le (u1 3) (u1 2) (fun hh => ?_) (fun hh => ?_)
      · refine L59 σ2 u1 ?_ k1 k2
        rw [← eu]
        unfold setV2
        rw [if_neg (by omega)]
      · rintro _ rfl _ rfl
        rw [up2_e, if_neg (by omega), k1.1 3 (by decide) (by decide) (by decide)]
        refine L59 _ (vup (vup u1 8 6) 5 (u1 3)) ?_ ((k1.put (k := 8) (x := 6) (by decide)).put (by decide)) (fun d hd => by rw [up2_o hd, up2_o hd, k2 d hd])
        rw [← eu]
        unfold setV2
        rw [if_pos ⟨he, by omega⟩]
  have b8 := hb1 8 (by decide) (by decide)
  have b2 := hb1 2 (by decide) (by decide)
  have b5 := hb1 5 (by decide) (by decide)
  rw [g1.1 8 (by decide) (by decide) (by decide), g1.1 2 (by decide) (by decide) (by decide), g1.1 5 (by decide) (by decide) (by decide)]
  refine pk_le (u 8) 0 (fun hh => ?_) (fun hh => pk_lt (u 2) (u 5) (fun h9 => ?_) (fun h9 => ?_))
  · refine L27 σ1 u ?_ g1 g2
    unfold setV1
    rw [if_pos (Or.inl (by omega))]
  · refine L27 σ1 u ?_ g1 g2
    unfold setV1
    rw [if_pos (Or.inr h9)]
  · rintro _ rfl
    refine L27 _ (vup u 8 0) ?_ (g1.put (k := 8) (x := 0) (by decide)) (fun d hd => by rw [up2_o hd, g2 d hd])
    unfold setV1
    rw [if_neg (by omega)]
/-- R goes on -/
def pasV (v : Nat → Nat) : Nat → Nat := vup (vup v 2 (v 2 + 1)) 4 (max (v 4) (v 2 + 1))
theorem RpC.empty {σ : Sg} {c : Nat} {l : List Cel} (hl : l.length ≤ 240) (hq : ∀ q ∈ l, celOK q) (h1 : σ c 1 = -1) (h2 : σ c 2 = 0) (h3 : ∀ k, k < 240 → σ (c + 1) k = 0) : RpC σ c l false (fun _ => false) := by
  refine ⟨h1, hl, ?_, hq, fun k hk => absurd hk Bool.false_ne_true, fun k hk => h3 k hk⟩
  rw [h2, cnt_0 240 (fun _ _ _ => rfl)]
  rfl
theorem passLow_ok {σ : Sg} {c : Nat} {v : Nat → Nat} {G : Nat → List Cel} {pc : Rpc} {Q : Sg → Prop} (hS : RcS σ c v) (hb : RvB v) (hP : RpsC σ c (v 2) G pc) (hn : pc (v 2 + 32) = (false, fun _ => false)) (hG : (G (v 2 + 32)).length ≤ 240 ∧ ∀ q ∈ G (v 2 + 32), celOK q) (h : ∀ σ' : Sg, RcS σ' c (pasV v) → RpsC σ' c (v 2 + 1) G pc → (∀ d, d ≠ c → d < c + 7 ∨ c + 71 ≤ d → σ' d = σ d) → Q σ') : wpX6_passLow c σ Q := by
  have b2 := hb 2 (by decide) (by decide)
  have b4 := hb 4 (by decide) (by decide)
  unfold wpX6_passLow wpX6_pieceAt
  rw [hS.1 2 (by decide) (by decide) (by decide), a31 (by omega), nI_clamp (by omega)]
  refine ⟨vin rfl (by omega) (by decide), ?_⟩
  rintro _ rfl
  refine clear_ok (fun σ1 g1 g2 g3 g4 g5 g6 g7 => ?_)
  have hS1 : RcS σ1 c v := hS.of (g7 c (by omega) (by omega))
  rintro _ rfl
  have hS2 := hS1.put (k := 2) (x := v 2 + 1) (by decide)
  rw [hS1.1 2 (by decide) (by decide) (by decide), nI_1, hS2.1 4 (by decide) (by decide) (by decide), hS2.1 2 (by decide) (by decide) (by decide), maxI (by rw [vup_o (by decide)]; omega) (by rw [vup_s]; omega), vup_s, vup_o (by decide)]
  rintro _ rfl _ rfl
  refine h _ (hS2.put (by decide)) (fun x h1 h2 => ?_) (fun d h1 h2 => ?_)
  · by_cases e : x = v 2 + 32
    · subst e
      rw [hn]
      refine RpC.empty hG.1 hG.2 ?_ ?_ (fun k hk => ?_)
      · rw [up2_o (by omega), up2_o (by omega), show (v 2 + 32) % 32 = v 2 % 32 by omega]; exact g2
      · rw [up2_o (by omega), up2_o (by omega), show (v 2 + 32) % 32 = v 2 % 32 by omega]; exact g3
      · rw [up2_o (by omega), up2_o (by omega), show (v 2 + 32) % 32 = v 2 % 32 by omega]; exact g1 k hk
    · have hne : x % 32 ≠ v 2 % 32 := by omega
      have hx := hP x (by omega) (by omega)
      have e0 : ∀ d, d = c + 7 + 2 * (x % 32) ∨ d = c + 7 + 2 * (x % 32) + 1 → up2 (up2 σ1 c 2 (nI (v 2 + 1))) c 4 (nI (max (v 4) (v 2 + 1))) d = σ d := fun d hd => by
        rw [up2_o (by omega), up2_o (by omega), g7 d (by omega) (by omega)]
      exact hx.of (by rw [e0 _ (Or.inl rfl)]) (by rw [e0 _ (Or.inl rfl)]) (e0 _ (Or.inr rfl))
  · rw [up2_o h1, up2_o h1, g7 d (by omega) (by omega)]
