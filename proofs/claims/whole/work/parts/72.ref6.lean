/-! PURE: the reference: a RECEIVER's numbers and pieces -/
def rk (c : Nat) : Nat := if c = 37 then 8 else if c = 38 then 9 else if c = 43 then 7 else if 40 ≤ c then c - 30 else c - 31
def ri (k : Nat) : Nat := if k = 8 then 37 else if k = 9 then 38 else if k = 7 then 43 else if 10 ≤ k then k + 30 else k + 31
theorem ri_rk {c : Nat} (h1 : 33 ≤ c) (h2 : c ≤ 43) (hc : c ≠ 39) : ri (rk c) = c := by
  have : c = 33 ∨ c = 34 ∨ c = 35 ∨ c = 36 ∨ c = 37 ∨ c = 38 ∨ c = 40 ∨ c = 41 ∨ c = 42 ∨ c = 43 := by omega
  rcases this with rfl | rfl | rfl | rfl | rfl | rfl | rfl | rfl | rfl | rfl <;> rfl
theorem rk_inj {c d : Nat} (h1 : 33 ≤ c) (h2 : c ≤ 43) (h3 : 33 ≤ d) (h4 : d ≤ 43) (hc : c ≠ 39) (hd : d ≠ 39) (h : rk c = rk d) : c = d := by
  rw [← ri_rk h1 h2 hc, ← ri_rk h3 h4 hd, h]
theorem rk_6 {c : Nat} (h1 : 33 ≤ c) (h2 : c ≤ 43) (hc : c ≠ 39) : (6 : Nat) ≠ rk c := by
  unfold rk
  split
  · decide
  · split
    · decide
    · split
      · decide
      · split <;> omega
def RsM (τ : Sg) (i : Nat) (v : Nat → Nat) : Prop := (∀ c, 33 ≤ c → c ≤ 43 → c ≠ 39 → τ c i = nI (v (rk c))) ∧ τ 39 i = nI (v 6) - 1
theorem RsM.put {τ : Sg} {i c x : Nat} {v : Nat → Nat} (h : RsM τ i v) (h1 : 33 ≤ c) (h2 : c ≤ 43) (h9 : c ≠ 39) : RsM (up2 τ c i (nI x)) i (vup v (rk c) x) := by
  refine ⟨fun d d1 d2 d9 => ?_, ?_⟩
  · rw [up2_e]
    by_cases e : d = c
    · subst e
      rw [if_pos ⟨rfl, rfl⟩, vup_s]
    · rw [if_neg (fun hh => e hh.1), vup_o (fun hh => e (rk_inj d1 d2 h1 h2 d9 h9 hh))]
      exact h.1 d d1 d2 d9
  · rw [up2_o (by omega), vup_o (rk_6 h1 h2 h9)]
    exact h.2
theorem RsM.put6 {τ : Sg} {i x : Nat} {v : Nat → Nat} (h : RsM τ i v) : RsM (up2 τ 39 i (nI x - 1)) i (vup v 6 x) := by
  refine ⟨fun d d1 d2 d9 => ?_, ?_⟩
  · rw [up2_o d9, vup_o (fun hh => rk_6 d1 d2 d9 hh.symm)]
    exact h.1 d d1 d2 d9
  · rw [up2_e, if_pos ⟨rfl, rfl⟩, vup_s]
theorem RsM.of {τ τ' : Sg} {i : Nat} {v : Nat → Nat} (h : RsM τ i v) (hc : ∀ c, 33 ≤ c → c ≤ 43 → τ' c i = τ c i) : RsM τ' i v := ⟨fun c c1 c2 c9 => by rw [hc c c1 c2]; exact h.1 c c1 c2 c9, by rw [hc 39 (by decide) (by decide)]; exact h.2⟩
theorem RsM.g2 {τ : Sg} {i : Nat} {v : Nat → Nat} (h : RsM τ i v) : τ 33 i = nI (v 2) := h.1 33 (by decide) (by decide) (by decide)
theorem RsM.g3 {τ : Sg} {i : Nat} {v : Nat → Nat} (h : RsM τ i v) : τ 34 i = nI (v 3) := h.1 34 (by decide) (by decide) (by decide)
theorem RsM.g4 {τ : Sg} {i : Nat} {v : Nat → Nat} (h : RsM τ i v) : τ 35 i = nI (v 4) := h.1 35 (by decide) (by decide) (by decide)
theorem RsM.g5 {τ : Sg} {i : Nat} {v : Nat → Nat} (h : RsM τ i v) : τ 36 i = nI (v 5) := h.1 36 (by decide) (by decide) (by decide)
theorem RsM.g8 {τ : Sg} {i : Nat} {v : Nat → Nat} (h : RsM τ i v) : τ 37 i = nI (v 8) := h.1 37 (by decide) (by decide) (by decide)
theorem RsM.g9 {τ : Sg} {i : Nat} {v : Nat → Nat} (h : RsM τ i v) : τ 38 i = nI (v 9) := h.1 38 (by decide) (by decide) (by decide)
theorem RsM.g10 {τ : Sg} {i : Nat} {v : Nat → Nat} (h : RsM τ i v) : τ 40 i = nI (v 10) := h.1 40 (by decide) (by decide) (by decide)
theorem RsM.g11 {τ : Sg} {i : Nat} {v : Nat → Nat} (h : RsM τ i v) : τ 41 i = nI (v 11) := h.1 41 (by decide) (by decide) (by decide)
theorem RsM.g12 {τ : Sg} {i : Nat} {v : Nat → Nat} (h : RsM τ i v) : τ 42 i = nI (v 12) := h.1 42 (by decide) (by decide) (by decide)
theorem RsM.g7 {τ : Sg} {i : Nat} {v : Nat → Nat} (h : RsM τ i v) : τ 43 i = nI (v 7) := h.1 43 (by decide) (by decide) (by decide)
def RpM (τ : Sg) (s : Nat) (l : List Cel) (kn : Bool) (th : Nat → Bool) : Prop := τ 44 s = (if kn then nI l.length else -1) ∧ l.length ≤ 240 ∧ (∀ k, k < 240 → τ 46 (240 * s + k) = b01 (th k)) ∧ (∀ k, th k = true → k < l.length) ∧ ∀ k, k < 240 → th k = true → τ 45 (240 * s + k) = (gc l k).1 ∧ τ 47 (240 * s + k) = b01 (gc l k).2.1 ∧ τ 48 (240 * s + k) = b01 (gc l k).2.2.1
def RpsM (τ : Sg) (i R : Nat) (G : Nat → List Cel) (pc : Rpc) : Prop := ∀ x, R ≤ x → x < R + 32 → RpM τ (32 * i + x % 32) (G x) (pc x).1 (pc x).2
theorem RpM.of {τ τ' : Sg} {s : Nat} {l : List Cel} {kn : Bool} {th : Nat → Bool} (h : RpM τ s l kn th) (h1 : τ' 44 s = τ 44 s) (h2 : ∀ c k, c = 45 ∨ c = 46 ∨ c = 47 ∨ c = 48 → k < 240 → τ' c (240 * s + k) = τ c (240 * s + k)) : RpM τ' s l kn th := by
  obtain ⟨a, b, c, d, e⟩ := h
  refine ⟨h1.trans a, b, fun k hk => by rw [h2 46 k (by simp) hk]; exact c k hk, d, fun k hk ht => ?_⟩
  rw [h2 45 k (by simp) hk, h2 47 k (by simp) hk, h2 48 k (by simp) hk]
  exact e k hk ht
theorem RpsM.of {τ τ' : Sg} {i R : Nat} {G : Nat → List Cel} {pc : Rpc} (h : RpsM τ i R G pc) (hc : ∀ c, 44 ≤ c → c ≤ 48 → τ' c = τ c) : RpsM τ' i R G pc := fun x h1 h2 => (h x h1 h2).of (by rw [hc 44 (by decide) (by decide)]) (fun c k hk _ => by rw [hc c (by omega) (by omega)])
def clrP (v : Nat → Nat) (pc : Rpc) : Prop := ∀ x, v 3 ≤ x → pc x = (false, fun _ => false)
theorem iw55 {τ : Sg} {s : Nat} {l : List Cel} {th : Nat → Bool} {Q : Int32 → Sg → Prop} (hs : s < 192) (hP : RpM τ s l true th) : ∀ (m k : Nat), k + m = l.length → (∀ j, j < k → th j = true) → Q (b01 (decide (cnt th 0 240 = l.length))) τ → wpX9_isWhole_L55 Q (m + 2) (nI s) 1 (nI k) τ := by
  obtain ⟨p1, p2, p3, p4, p5⟩ := hP
  have hall : cnt th 0 240 = l.length ↔ ∀ j, j < l.length → th j = true := by
    have hsp := cnt_split (f := th) (a := 0) (m := l.length) (240 - l.length)
    rw [show l.length + (240 - l.length) = 240 by omega] at hsp
    have h0 : cnt th (0 + l.length) (240 - l.length) = 0 := cnt_0 _ (fun k k1 k2 => by
      cases ek : th k with
      | false => rfl
      | true => have := p4 k ek; omega)
    have hc := cnt_all (f := th) (a := 0) l.length
    constructor
    · intro h j hj
      exact hc.mp (by omega) j (Nat.zero_le _) (by omega)
    · intro h
      have := hc.mpr (fun k _ hk => h k (by omega))
      omega
  rw [if_pos rfl] at p1
  intro m
  induction m with
  | zero =>
    intro k hk hj h
    unfold wpX9_isWhole_L55
    rw [nI_clamp (by omega), p1]
    rw [decide_eq_true (hall.mpr (fun j h9 => hj j (by omega)))] at h
    exact ⟨vin rfl hs (by decide), brt (nI_le (by omega) (by omega)) ⟨vz1, h⟩⟩
  | succ m ih =>
    intro k hk hj h
    unfold wpX9_isWhole_L55
    rw [nI_clamp (n := s) (by omega), p1]
    refine ⟨vin rfl hs (by decide), brf (nI_ge (by omega) (by omega)) (brf (by decide) ?_)⟩
    rw [i240, nI_clamp (n := 240 * s + k) (by omega), p3 k (by omega)]
    refine ⟨vin rfl (by omega) (by decide), ?_⟩
    rintro _ rfl _ rfl
    rw [nI_1]
    cases e : th k with
    | true =>
      exact ih (k + 1) (by omega) (fun j h9 => by
        by_cases ej : j = k
        · rw [ej]; exact e
        · exact hj j (by omega)) h
    | false =>
      have hf : decide (cnt th 0 240 = l.length) = false := decide_eq_false (fun hh => by
        have := hall.mp hh k (by omega)
        rw [e] at this
        cases this)
      rw [hf] at h
      show wpX9_isWhole_L55 Q (m + 2) (nI s) 0 (nI (k + 1)) τ
      unfold wpX9_isWhole_L55
      rw [nI_clamp (n := s) (by omega), p1]
      exact ⟨vin rfl hs (by decide), pk_le l.length (k + 1) (fun _ => ⟨vz0, h⟩) (fun _ => brt rfl ⟨vz0, h⟩)⟩
theorem risWhole_ok {τ : Sg} {i x : Nat} {v : Nat → Nat} {G : Nat → List Cel} {pc : Rpc} {Q : Int32 → Sg → Prop} (hi : i < 6) (hS : RsM τ i v) (hb : RvB v) (hP : RpsM τ i (v 2) G pc) (hc : clrP v pc) (h1 : v 2 ≤ x) (h2 : x < v 2 + 32) (h : Q (b01 (whl G (v 2) (v 3) pc x)) τ) : wpX9_isWhole (nI i) (nI x) τ Q := by
  have b2 := hb 2 (by decide) (by decide)
  have hp := hP x h1 h2
  unfold wpX9_isWhole
  rw [nI_clamp (by omega), hS.g2, a31 (by omega), i32]
  have e32 : nI (v 2) + 32 = nI (v 2 + 32) := nI_add (v 2) 32
  rw [e32]
  refine ⟨vin rfl hi (by decide), pk_lt x (v 2) (fun hh => by omega) (fun _ => ⟨vin rfl hi (by decide), pk_lt x (v 2 + 32) (fun _ => ?_) (fun hh => by omega)⟩)⟩
  rintro _ rfl
  rw [nI_clamp (n := 32 * i + x % 32) (by omega)]
  refine ⟨vin rfl (by omega) (by decide), ?_⟩
  have hs192 : 32 * i + x % 32 < 192 := by omega
  generalize 32 * i + x % 32 = s at *
  have p1 := hp.1
  rw [p1]
  cases ek : (pc x).1 with
  | false =>
    have hw : whl G (v 2) (v 3) pc x = false := decide_eq_false (fun hh => by rw [ek] at hh; cases hh.2.2.1)
    rw [hw] at h
    refine brt rfl ?_
    unfold wpX9_isWhole_L50
    refine ⟨1, ?_⟩
    unfold wpX9_isWhole_L55
    rw [nI_clamp (n := s) (by omega), p1, ek]
    exact ⟨vin rfl hs192 (by decide), brt (show (-1 : Int32) ≤ 0 by decide) ⟨vz0, h⟩⟩
  | true =>
    have hlt : x < v 3 := by
      rcases Nat.lt_or_ge x (v 3) with h9 | h9
      · exact h9
      · rw [hc x h9] at ek
        cases ek
    rw [ek] at hp
    refine brf (by rw [if_pos rfl]; exact neg1 (by have := hp.2.1; omega)) ?_
    unfold wpX9_isWhole_L50
    refine ⟨(G x).length + 2, iw55 hs192 hp (G x).length 0 (by omega) (fun j hj => by omega) ?_⟩
    have hw : whl G (v 2) (v 3) pc x = decide (cnt (pc x).2 0 240 = (G x).length) := by
      unfold whl
      by_cases e : cnt (pc x).2 0 240 = (G x).length
      · rw [decide_eq_true e, decide_eq_true ⟨h1, hlt, ek, e⟩]
      · rw [decide_eq_false e, decide_eq_false (fun hh => e hh.2.2.2)]
    rw [hw] at h
    exact h
theorem asks_ok {τ : Sg} {i : Nat} {v : Nat → Nat} {Q : Sg → Prop} (hi : i < 6) (hS : RsM τ i v) (hb : RvB v) (h : ∀ τ' : Sg, RsM τ' i (ansV v) → FrA [39, 43] i τ τ' → Q τ') : wpX9_asksStatus (nI i) τ Q := by
  have b4 := hb 4 (by decide) (by decide)
  have b6 := hb 6 (by decide) (by decide)
  unfold wpX9_asksStatus
  rw [nI_clamp (by omega), hS.2, hS.g4]
  unfold ansV at h
  cases e : v 6 with
  | zero =>
    rw [e, if_pos (Or.inl rfl)] at h
    exact ⟨vin rfl hi (by decide), brt m1z.symm (h τ hS FrA.rf)⟩
  | succ p =>
    rw [e] at h b6
    rw [nI_pred]
    refine ⟨vin rfl hi (by decide), brf (neg1 (by omega)) ⟨vin rfl hi (by decide), vin rfl hi (by decide), pk_lt p (v 4) (fun hh => ⟨vin rfl hi (by decide), ?_⟩) (fun hh => ?_)⟩⟩
    · rw [if_neg (by omega)] at h
      rintro _ rfl
      refine ⟨vin rfl hi (by decide), ?_⟩
      rintro _ rfl
      have h2 := (hS.put (c := 43) (x := 1) (by decide) (by decide) (by decide)).put6 (x := 0)
      rw [← m1z] at h2
      exact h _ h2 ((FrA.rf.up (by decide) (fun _ => Nat.div_one i)).up (by decide) (fun _ => Nat.div_one i))
    · rw [if_pos (Or.inr (by omega))] at h
      exact h τ hS FrA.rf
theorem rsT_end {wh : Nat → Bool} {H t : Nat} (hw : ∀ k, wh k = true → k < H) (hH : H ≤ t + 31) : wh (rsT wh 32 t) = false := by
  obtain ⟨h1, h2, h3, h4⟩ := rsT_spec (wh := wh) 32 t
  refine h4 ?_
  rcases Nat.lt_or_ge (rsT wh 32 t) (t + 32) with h9 | h9
  · exact h9
  · have := hw _ (h3 (t + 31) (by omega) (by omega))
    omega
theorem go0 {i : Nat} {G : Nat → List Cel} {pc : Rpc} {t R H : Nat} {Q : Sg → Prop} {τ0 : Sg} (hi : i < 6) (hH : H ≤ R + 31) (hte : whl G R H pc t = false) (htH : t ≤ H) : ∀ (m : Nat) (τ : Sg) (v : Nat → Nat), v 4 + m = t → v 2 = R → v 3 = H → R ≤ v 4 → (∀ k, v 4 ≤ k → k < t → whl G R H pc k = true) → RsM τ i v → RvB v → RpsM τ i (v 2) G pc → clrP v pc → FrA [35] i τ0 τ → (∀ τ' : Sg, RsM τ' i (vup v 4 t) → FrA [35] i τ0 τ' → Q τ') → wpX9_goOn_L0 Q (m + 1) (nI i) τ := by
  intro m
  induction m with
  | zero =>
    intro τ v hm hR hHv hR4 hw hS hb hP hc hF h
    have hm : v 4 = t := by omega
    unfold wpX9_goOn_L0
    rw [nI_clamp (by omega), hS.g4]
    refine ⟨vin rfl hi (by decide), risWhole_ok hi hS hb hP hc (by omega) (by omega) ?_⟩
    rw [hm, hR, hHv, hte]
    have ev : vup v 4 t = v := by
      funext j
      unfold vup
      split
      · next e => rw [e]; exact hm.symm
      · rfl
    rw [ev] at h
    exact brt rfl (h τ hS hF)
  | succ m ih =>
    intro τ v hm hR hHv hR4 hw hS hb hP hc hF h
    have b3 := hb 3 (by decide) (by decide)
    unfold wpX9_goOn_L0
    rw [nI_clamp (by omega), hS.g4]
    refine ⟨vin rfl hi (by decide), risWhole_ok hi hS hb hP hc (by omega) (by omega) ?_⟩
    rw [hR, hHv, hw (v 4) (Nat.le_refl _) (by omega)]
    refine brf (by decide) ⟨vin rfl hi (by decide), vin rfl hi (by decide), ?_⟩
    rw [hS.g4, nI_1]
    rintro _ rfl
    have o2 : vup v 4 (v 4 + 1) 2 = v 2 := vup_o (by decide)
    have o3 : vup v 4 (v 4 + 1) 3 = v 3 := vup_o (by decide)
    have o4 : vup v 4 (v 4 + 1) 4 = v 4 + 1 := vup_s
    refine ih _ (vup v 4 (v 4 + 1)) (by omega) (by omega) (by omega) (by omega) (fun k k1 k2 => hw k (by omega) k2) (hS.put (c := 35) (by decide) (by decide) (by decide)) (hb.put (by omega)) ?_ ?_ (hF.up (by decide) (fun _ => Nat.div_one i)) (fun τ' g1 g2 => h τ' ?_ g2)
    · rw [o2]
      exact hP.of (fun c c1 c2 => up2_o (by omega))
    · intro x hx
      rw [o3] at hx
      exact hc x hx
    · have e : vup (vup v 4 (v 4 + 1)) 4 t = vup v 4 t := by
        funext j
        unfold vup
        split <;> rfl
      rw [e] at g1
      exact g1
theorem goOn_ok {τ : Sg} {i : Nat} {v : Nat → Nat} {G : Nat → List Cel} {pc : Rpc} {Q : Sg → Prop} (hi : i < 6) (hS : RsM τ i v) (hb : RvB v) (hP : RpsM τ i (v 2) G pc) (hc : clrP v pc) (h2 : v 2 ≤ v 4) (h3 : v 4 ≤ v 3) (h4 : v 3 ≤ v 2 + 31) (h : ∀ τ' : Sg, RsM τ' i (raiV G pc v) → FrA [35] i τ τ' → Q τ') : wpX9_goOn (nI i) τ Q := by
  have b3 := hb 3 (by decide) (by decide)
  obtain ⟨t1, t2, t3, t4⟩ := rsT_spec (wh := whl G (v 2) (v 3) pc) 32 (v 4)
  have hte := rsT_end (wh := whl G (v 2) (v 3) pc) (H := v 3) (t := v 4) (fun k hk => (of_decide_eq_true hk).2.1) (by omega)
  have htH := (rai_le (G := G) (pc := pc) h3).2
  unfold raiV at htH h
  rw [vup_s] at htH
  generalize rsT (whl G (v 2) (v 3) pc) 32 (v 4) = t at *
  unfold wpX9_goOn
  rw [nI_clamp (by omega), hS.g4]
  refine ⟨vin rfl hi (by decide), risWhole_ok hi hS hb hP hc h2 (by omega) ?_⟩
  rcases Nat.lt_or_ge (v 4) t with hlt | hge
  · rw [t3 (v 4) (Nat.le_refl _) hlt]
    refine brf (by decide) ⟨vin rfl hi (by decide), vin rfl hi (by decide), ?_⟩
    rw [hS.g4, nI_1]
    rintro _ rfl
    have o2 : vup v 4 (v 4 + 1) 2 = v 2 := vup_o (by decide)
    have o3 : vup v 4 (v 4 + 1) 3 = v 3 := vup_o (by decide)
    have o4 : vup v 4 (v 4 + 1) 4 = v 4 + 1 := vup_s
    refine ⟨t - (v 4 + 1) + 1, go0 (R := v 2) (H := v 3) (G := G) (pc := pc) (t := t) (τ0 := τ) hi h4 hte htH (t - (v 4 + 1)) _ (vup v 4 (v 4 + 1)) (by omega) o2 o3 (by omega) (fun k k1 k2 => t3 k (by omega) k2) (hS.put (c := 35) (by decide) (by decide) (by decide)) (hb.put (by omega)) ?_ ?_ (FrA.rf.up (by decide) (fun _ => Nat.div_one i)) (fun τ' g1 g2 => h τ' ?_ g2)⟩
    · rw [o2]
      exact hP.of (fun c c1 c2 => up2_o (by omega))
    · intro x hx
      rw [o3] at hx
      exact hc x hx
    · have e : vup (vup v 4 (v 4 + 1)) 4 t = vup v 4 t := by
        funext j
        unfold vup
        split <;> rfl
      rw [e] at g1
      exact g1
  · have et : t = v 4 := by omega
    subst et
    rw [hte]
    have ev : vup v 4 (v 4) = v := by
      funext j
      unfold vup
      split
      · next e => rw [e]
      · rfl
    rw [ev] at h
    exact brt rfl (h τ hS FrA.rf)
/-- a piece is cleared -/
def LC : List Nat := [44, 46, 47, 48]
theorem cl20 {s : Nat} {Q : Sg → Prop} {τ0 : Sg} (hs : s < 192) (h : ∀ τ' : Sg, (∀ k, k < 240 → τ' 46 (240 * s + k) = 0) → (∀ c j, c = 46 ∨ c = 47 ∨ c = 48 → j < 240 * s ∨ 240 * s + 240 ≤ j → τ' c j = τ0 c j) → (∀ c, c ≠ 46 → c ≠ 47 → c ≠ 48 → τ' c = τ0 c) → Q τ') : ∀ (m k : Nat) (τ : Sg), k + m = 240 → (∀ j, j < k → τ 46 (240 * s + j) = 0) → (∀ c j, c = 46 ∨ c = 47 ∨ c = 48 → j < 240 * s ∨ 240 * s + 240 ≤ j → τ c j = τ0 c j) → (∀ c, c ≠ 46 → c ≠ 47 → c ≠ 48 → τ c = τ0 c) → wpX9_clear_L20 Q (m + 1) (nI s) (nI k) τ := by
  intro m
  induction m with
  | zero =>
    intro k τ hk h1 h2 h3
    unfold wpX9_clear_L20
    exact pk_le 240 k (fun _ => h τ (fun j hj => h1 j (by omega)) h2 h3) (fun hh => by omega)
  | succ m ih =>
    intro k τ hk h1 h2 h3
    unfold wpX9_clear_L20
    rw [i240, nI_clamp (by omega)]
    refine pk_le 240 k (fun hh => by omega) (fun _ => ⟨vin rfl (by omega) (by decide), ?_⟩)
    rintro _ rfl
    refine ⟨vin rfl (by omega) (by decide), ?_⟩
    rintro _ rfl
    refine ⟨vin rfl (by omega) (by decide), ?_⟩
    rintro _ rfl _ rfl
    rw [nI_1]
    refine ih (k + 1) _ (by omega) (fun j hj => ?_) (fun c j hc hj => ?_) (fun c c1 c2 c3 => by rw [up2_o c3, up2_o c2, up2_o c1, h3 c c1 c2 c3])
    · rw [up2_o (d := 46) (by decide), up2_o (d := 46) (by decide), up2_e]
      by_cases e : j = k
      · rw [if_pos ⟨rfl, by omega⟩]
      · rw [if_neg (by omega)]
        exact h1 j (by omega)
    · rw [up2_e, if_neg (by omega), up2_e, if_neg (by omega), up2_e, if_neg (by omega)]
      exact h2 c j hc hj
theorem rclear_ok {τ : Sg} {i x : Nat} {Q : Sg → Prop} (hi : i < 6) (hx : x < 2 ^ 20) (h : ∀ τ' : Sg, τ' 44 (32 * i + x % 32) = -1 → (∀ k, k < 240 → τ' 46 (240 * (32 * i + x % 32) + k) = 0) → (∀ s, s ≠ 32 * i + x % 32 → τ' 44 s = τ 44 s ∧ ∀ c k, c = 45 ∨ c = 46 ∨ c = 47 ∨ c = 48 → k < 240 → τ' c (240 * s + k) = τ c (240 * s + k)) → FrA LC i τ τ' → Q τ') : wpX9_clear (nI i) (nI x) τ Q := by
  unfold wpX9_clear
  rw [a31 (by omega), i32]
  rintro _ rfl
  have hs192 : 32 * i + x % 32 < 192 := by omega
  rw [nI_clamp (n := 32 * i + x % 32) (by omega)]
  refine ⟨vin rfl (by omega) (by decide), ?_⟩
  rintro _ rfl
  have hdv : (32 * i + x % 32) / 32 = i := by omega
  generalize 32 * i + x % 32 = s at *
  refine ⟨241, cl20 (τ0 := up2 τ 44 s (-1)) hs192 (fun τ' g1 g2 g3 => h τ' ?_ g1 (fun s' hs' => ⟨?_, fun c k hc hk => ?_⟩) ⟨fun c hc => ?_, fun c k hc hk => ?_⟩) 240 0 _ rfl (fun j hj => by omega) (fun _ _ _ _ => rfl) (fun _ _ _ _ => rfl)⟩
  · rw [g3 44 (by decide) (by decide) (by decide), up2_e, if_pos ⟨rfl, rfl⟩]
  · rw [g3 44 (by decide) (by decide) (by decide), up2_e, if_neg (fun hh => hs' hh.2)]
  · by_cases e : c = 45
    · rw [g3 c (by omega) (by omega) (by omega), up2_o (by omega)]
    · rw [g2 c _ (by omega) (by omega), up2_o (by omega)]
  · simp only [LC, List.mem_cons, List.not_mem_nil, or_false, not_or] at hc
    rw [g3 c hc.2.1 hc.2.2.1 hc.2.2.2, up2_o hc.1]
  · by_cases e : c = 46 ∨ c = 47 ∨ c = 48
    · rw [g2 c k e, up2_o (by omega)]
      have hk3 : k / 7680 ≠ i := by rcases e with rfl | rfl | rfl <;> exact hk
      omega
    · rw [g3 c (by omega) (by omega) (by omega), up2_e]
      by_cases e4 : c = 44
      · subst e4
        rw [if_neg (fun hh => hk (by rw [hh.2]; exact hdv))]
      · rw [if_neg (fun hh => e4 hh.1)]
