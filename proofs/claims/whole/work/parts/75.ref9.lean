/-! PURE: the reference: bytes come again, pieces are confirmed -/
def SF (v : Nat → Nat) (pc : Nat → Pce) : Prop := v 8 ≤ 1 ∧ ∀ x, v 4 ≤ x → x < v 5 → 5 ≤ (pc x).2.2.1 → v 8 = 1
def LB : List Nat := [13, 26, 32]
theorem ca52 {f fr to : Nat} {q : Pce} {Q : Sg → Prop} {τ0 : Sg} (hf : f < 96) (hcf : q.2.2.2 = false) (hto : to < 2 ^ 18) (hfr : fr < 2 ^ 18) (h25 : τ0 25 f = nI q.1.length) (hl : q.1.length ≤ 240) (h32 : ∀ k, k < q.1.length → τ0 32 (240 * f + k) = b01 (q.2.1 k)) (h : ∀ τ' : Sg, (∀ k, k < q.1.length → τ' 32 (240 * f + k) = b01 (orT q.2.1 fr (min (to + 1) q.1.length) k)) → (∀ j, j < 240 * f ∨ 240 * f + 240 ≤ j → τ' 32 j = τ0 32 j) → (∀ c, c ≠ 32 → τ' c = τ0 c) → Q τ') : ∀ (m k : Nat) (τ : Sg), min (to + 1) q.1.length ≤ k + m → k + m < 2 ^ 19 → fr ≤ k → (fr < k → k ≤ min (to + 1) q.1.length) → (∀ j, j < q.1.length → τ 32 (240 * f + j) = b01 (orT q.2.1 fr k j)) → (∀ j, j < 240 * f ∨ 240 * f + 240 ≤ j → τ 32 j = τ0 32 j) → (∀ c, c ≠ 32 → τ c = τ0 c) → wpX9_comesAgain_L52 Q (m + 1) (nI to) (nI f) (nI k) τ := by
  intro m
  induction m with
  | zero =>
    intro k τ hm hb hfk hle h1 h2 h3
    have fin : Q τ := by
      refine h τ (fun j hj => ?_) h2 h3
      rw [h1 j hj]
      congr 1
      unfold orT
      congr 1
      by_cases e : fr ≤ j ∧ j < k
      · rw [decide_eq_true e, decide_eq_true (by omega)]
      · rw [decide_eq_false e, decide_eq_false (by omega)]
    unfold wpX9_comesAgain_L52
    rw [nI_clamp (n := f) (by omega), h3 25 (by decide), h25]
    exact pk_lt to k (fun _ => fin) (fun h9 => ⟨vin rfl hf (by decide), pk_le q.1.length k (fun _ => fin) (fun h8 => by omega)⟩)
  | succ m ih =>
    intro k τ hm hb hfk hle h1 h2 h3
    have fin : min (to + 1) q.1.length ≤ k → Q τ := by
      intro h0
      refine h τ (fun j hj => ?_) h2 h3
      rw [h1 j hj]
      congr 1
      unfold orT
      congr 1
      by_cases e : fr ≤ j ∧ j < k
      · rw [decide_eq_true e, decide_eq_true (by omega)]
      · rw [decide_eq_false e, decide_eq_false (by omega)]
    unfold wpX9_comesAgain_L52
    rw [nI_clamp (n := f) (by omega), h3 25 (by decide), h25]
    refine pk_lt to k (fun h9 => fin (by omega)) (fun h9 => ⟨vin rfl hf (by decide), pk_le q.1.length k (fun h8 => fin (by omega)) (fun h8 => ?_)⟩)
    rw [i240, nI_clamp (n := 240 * f + k) (by omega)]
    refine ⟨vin rfl (by omega) (by decide), ?_⟩
    rintro _ rfl _ rfl
    rw [nI_1]
    refine ih (k + 1) _ (by omega) (by omega) (by omega) (fun _ => by omega) (fun j hj => ?_) (fun j hj => ?_) (fun c hc => by rw [up2_o hc, h3 c hc])
    · rw [up2_e, ← orT_step hfk]
      unfold bup
      by_cases e : j = k
      · rw [if_pos ⟨rfl, by omega⟩, if_pos e]
        rfl
      · rw [if_neg (by omega), if_neg e]
        exact h1 j hj
    · rw [up2_e, if_neg (by omega)]
      exact h2 j hj
theorem comesAgain_ok {τ : Sg} {i x fr to T : Nat} {v : Nat → Nat} {bk : Int32} {pc : Nat → Pce} {Q : Sg → Prop} (hi : i < 6) (hS : SnM τ i v bk) (hI : SI T v pc) (hT : T + 1 < 2 ^ 20) (hSF : SF v pc) (hP : PsM τ i (v 4) (v 5) pc) (h1 : v 4 ≤ x) (h2 : x < v 5) (hcf : (pc x).2.2.2 = false) (hfr : fr < 2 ^ 18) (hto : to < 2 ^ 18) (h : ∀ τ' : Sg, SnM τ' i (brV v (pc x) fr (to + 1)) bk → PsM τ' i (v 4) (v 5) (spu pc x (brP (pc x) fr (to + 1))) → FrA LB i τ τ' → Q τ') : wpX9_comesAgain (nI i) (nI x) (nI fr) (nI to) τ Q := by
  obtain ⟨hb, h45, h16, h6, hpl⟩ := hI
  have b5 := hb 5 (by decide) (by decide)
  have hpx := hP x h1 h2
  obtain ⟨p1, p2, p3, p4, p5⟩ := hpx
  have ht := (hpl x h1 h2).2
  have hag : ∀ k, agR (pc x) k = (pc x).2.1 k := fun k => by unfold agR; rw [hcf]; rfl
  obtain ⟨s3, s4, s5, s6, s7, s8, s9, s10, s11, s12, s13⟩ := hS
  have hn240 := nAg_le (pc x)
  unfold wpX9_comesAgain
  rw [a15 (by omega), i16]
  rintro _ rfl
  refine isAgain_ok hi hP h1 h2 (by omega) ?_
  rw [nMk_f hcf]
  have hf96 : 16 * i + x % 16 < 96 := by omega
  have hfi : (16 * i + x % 16) / 16 = i := by omega
  have hupd := fun τ9 : Sg => hP.upd (τ' := τ9) (x := x) (q := brP (pc x) fr (to + 1)) h16 h1 h2
  generalize hf0 : 16 * i + x % 16 = f at *
  -- the marks
  have L49 : ∀ (τ1 : Sg) (t1 z8 : Nat), t1 = (if nAg (pc x) = 0 then (pc x).2.2.1 + 1 else (pc x).2.2.1) → z8 = brV v (pc x) fr (to + 1) 8 → τ1 26 f = nI t1 → τ1 13 i = nI z8 → (∀ c, c ≠ 26 → c ≠ 13 → τ1 c = τ c) → (∀ j, j ≠ f → τ1 26 j = τ 26 j) → (∀ j, j ≠ i → τ1 13 j = τ 13 j) → wpX9_comesAgain_L49 Q (nI fr) (nI to) (nI f) τ1 := by
    intro τ1 t1 z8 ht1 hz8 k1 k2 k3 k4 k5
    unfold wpX9_comesAgain_L49
    refine ⟨max fr (min (to + 1) (pc x).1.length) - fr + 1, ca52 (q := pc x) (τ0 := τ1) hf96 hcf hto hfr (by rw [k3 25 (by decide) (by decide)]; exact p1) p2 (fun k hk => by rw [k3 32 (by decide) (by decide), (p5 k hk).2.2.2.2, hag]) (fun τ2 g1 g2 g3 => ?_) (max fr (min (to + 1) (pc x).1.length) - fr) fr τ1 (by omega) (by omega) (Nat.le_refl _) (fun hh => by omega) (fun j hj => by rw [orT_0, k3 32 (by decide) (by decide), (p5 j hj).2.2.2.2, hag]) (fun _ _ => rfl) (fun _ _ => rfl)⟩
    have u : ∀ c, c ≠ 32 → c ≠ 26 → c ≠ 13 → τ2 c = τ c := fun c q1 q2 q3 => by rw [g3 c q1, k3 c q2 q3]
    refine h τ2 ?_ ?_ ⟨fun c hc => ?_, fun c k hc hk => ?_⟩
    · have o : ∀ k, k ≠ 6 → k ≠ 8 → brV v (pc x) fr (to + 1) k = v k := fun k q1 q2 => brV_45 q1 q2
      refine ⟨?_, ?_, ?_, ?_, ?_, ?_, ?_, ?_, ?_, ?_, ?_⟩
      · rw [u 3 (by decide) (by decide) (by decide), o 4 (by decide) (by decide)]; exact s3
      · rw [u 4 (by decide) (by decide) (by decide), o 5 (by decide) (by decide)]; exact s4
      · rw [u 5 (by decide) (by decide) (by decide), o 10 (by decide) (by decide)]; exact s5
      · rw [u 6 (by decide) (by decide) (by decide), o 9 (by decide) (by decide)]; exact s6
      · rw [u 7 (by decide) (by decide) (by decide), o 11 (by decide) (by decide)]; exact s7
      · rw [u 8 (by decide) (by decide) (by decide)]; exact s8
      · rw [u 9 (by decide) (by decide) (by decide), o 12 (by decide) (by decide)]; exact s9
      · rw [u 10 (by decide) (by decide) (by decide), o 13 (by decide) (by decide)]; exact s10
      · rw [u 11 (by decide) (by decide) (by decide), o 14 (by decide) (by decide)]; exact s11
      · rw [u 12 (by decide) (by decide) (by decide), o 7 (by decide) (by decide)]; exact s12
      · rw [g3 13 (by decide), k2, hz8]
    · refine hupd τ2 ?_ (fun f' hf' => ⟨by rw [u 25 (by decide) (by decide) (by decide)], by rw [g3 26 (by decide), k4 f' hf'], by rw [u 29 (by decide) (by decide) (by decide)], fun c k hc hk => ?_⟩)
      · refine ⟨by rw [u 25 (by decide) (by decide) (by decide)]; exact p1, p2, ?_, by rw [u 29 (by decide) (by decide) (by decide)]; exact p4, fun k hk => ?_⟩
        · rw [g3 26 (by decide), k1, ht1]
          rfl
        · have hk : k < (pc x).1.length := hk
          rw [u 27 (by decide) (by decide) (by decide), u 28 (by decide) (by decide) (by decide), u 30 (by decide) (by decide) (by decide), u 31 (by decide) (by decide) (by decide), g1 k hk]
          obtain ⟨z1, z2, z3, z4, z5⟩ := p5 k hk
          refine ⟨z1, z2, z3, z4, ?_⟩
          unfold agR
          show _ = b01 (!(pc x).2.2.2 && _)
          rw [hcf]
          rfl
      · by_cases ec : c = 32
        · subst ec
          rw [g2 _ (by omega), k3 32 (by decide) (by decide)]
        · rw [u c ec (by omega) (by omega)]
    · simp only [LB, List.mem_cons, List.not_mem_nil, or_false, not_or] at hc
      exact u c hc.2.2 hc.2.1 hc.1
    · by_cases e32 : c = 32
      · subst e32
        have hk : k / 3840 ≠ i := hk
        rw [g2 k (by omega), k3 32 (by decide) (by decide)]
      · rw [g3 c e32]
        by_cases e26 : c = 26
        · subst e26
          have hk : k / 16 ≠ i := hk
          rw [k4 k (by omega)]
        · by_cases e13 : c = 13
          · subst e13
            have hk : k / 1 ≠ i := hk
            rw [Nat.div_one] at hk
            rw [k5 k hk]
          · rw [k3 c e26 e13]
  have e8 : brV v (pc x) fr (to + 1) 8 = if nAg (pc x) = 0 then (if v 8 = 0 ∧ (pc x).2.2.1 + 1 < 5 then 0 else 1) else v 8 := by
    unfold brV
    rw [vup_o (by decide)]
    split
    · rw [vup_s]
    · rfl
  refine ⟨fun hne => ?_, fun he => ?_⟩
  · have hne : ¬ nAg (pc x) = 0 := fun hh => hne (by rw [hh]; rfl)
    exact L49 τ (pc x).2.2.1 (v 8) (by rw [if_neg hne]) (by rw [e8, if_neg hne]) p3 s13 (fun _ _ _ => rfl) (fun _ _ => rfl) (fun _ _ => rfl)
  · have he : nAg (pc x) = 0 := (nI_eq (a := nAg (pc x)) (b := 0) (by omega) (by decide)).mp he
    rw [nI_clamp (n := f) (by omega)]
    refine ⟨vin rfl hf96 (by decide), vin rfl hf96 (by decide), ?_⟩
    rw [p3, nI_1]
    rintro _ rfl
    rw [up2_e, if_pos ⟨rfl, rfl⟩]
    have hsf := hSF.2 x h1 h2
    have h81 := hSF.1
    refine ⟨vin rfl hf96 (by decide), fun hne => ?_, fun h5 => ⟨vin rfl hi (by decide), ?_⟩⟩
    · have hne : ¬ (pc x).2.2.1 + 1 = 5 := fun hh => hne (by rw [hh]; rfl)
      refine L49 _ ((pc x).2.2.1 + 1) (v 8) (by rw [if_pos he]) ?_ (by rw [up2_e, if_pos ⟨rfl, rfl⟩]) (by rw [up2_o (by decide)]; exact s13) (fun c c1 c2 => up2_o c1) (fun j hj => by rw [up2_e, if_neg (fun hh => hj hh.2)]) (fun j hj => by rw [up2_o (by decide)])
      rw [e8, if_pos he]
      split <;> omega
    · have h5 : (pc x).2.2.1 + 1 = 5 := (nI_eq (a := (pc x).2.2.1 + 1) (b := 5) (by omega) (by decide)).mp h5
      rintro _ rfl
      rw [nI_clamp (n := i) (by omega)]
      refine L49 _ ((pc x).2.2.1 + 1) 1 (by rw [if_pos he]) ?_ (by rw [up2_o (by decide), up2_e, if_pos ⟨rfl, rfl⟩]) (by rw [up2_e, if_pos ⟨rfl, rfl⟩]; rfl) (fun c c1 c2 => by rw [up2_o c2, up2_o c1]) (fun j hj => by rw [up2_o (by decide), up2_e, if_neg (fun hh => hj hh.2)]) (fun j hj => by rw [up2_e, if_neg (fun hh => hj hh.2), up2_o (by decide)])
      rw [e8, if_pos he, if_neg (by omega)]
/-- a byte of a unit's packet is confirmed, in the reference -/
def LU : List Nat := [15, 18, 20, 21, 22, 23, 24]
theorem KpM.uO {τ : Sg} {i nc c : Nat} {un : Nat → Un} {z : Int32} (h : KpM τ i nc un) (hc : c < nc) (h32 : nc ≤ c + 32) : KpM (up2 τ 18 (32 * i + c % 32) z) i nc (unO un c z) := by
  obtain ⟨k1, k2, k3, k4⟩ := h
  refine ⟨by rw [up2_o (by decide)]; exact k1, fun d d1 d2 => by rw [up2_o (by decide), kpt_unO]; exact k2 d d1 d2, fun s s1 s2 => by rw [up2_o (by decide)]; exact k3 s s1 s2, fun d d1 d2 hk => ?_⟩
  rw [kpt_unO] at hk
  obtain ⟨q1, q2, q3, q4⟩ := k4 d d1 d2 hk
  rw [up2_o (d := 16) (by decide), up2_o (d := 17) (by decide), up2_o (d := 19) (by decide), up2_e]
  by_cases e : d = c
  · subst e
    have eu : unO un d z d = ((un d).1, z, (un d).2.2) := if_pos rfl
    rw [eu, if_pos ⟨rfl, rfl⟩]
    exact ⟨q1, q2, rfl, q4⟩
  · have eu : unO un c z d = un d := if_neg e
    rw [eu, if_neg (by omega)]
    exact ⟨q1, q2, q3, q4⟩
theorem KpM.uK {τ τ' : Sg} {i nc c : Nat} {un : Nat → Un} (h : KpM τ i nc un) (hc : c < nc) (h32 : nc ≤ c + 32) (h15 : τ' 15 = upd (τ 15) (32 * i + c % 32) 0) (ho : ∀ d, d = 2 ∨ (16 ≤ d ∧ d ≤ 19) → τ' d = τ d) : KpM τ' i nc (unK un c) := by
  obtain ⟨k1, k2, k3, k4⟩ := h
  have e15 : ∀ j, τ' 15 j = if j = 32 * i + c % 32 then 0 else τ 15 j := fun j => by rw [h15]; rfl
  refine ⟨by rw [ho 2 (by omega)]; exact k1, fun d d1 d2 => ?_, fun s s1 s2 => ?_, fun d d1 d2 hk => ?_⟩
  · rw [e15, kpt_unK]
    unfold bup
    by_cases e : d = c
    · subst e
      rw [if_pos rfl, if_pos rfl]
      rfl
    · rw [if_neg (by omega), if_neg e]
      exact k2 d d1 d2
  · rw [e15]
    split
    · rfl
    · exact k3 s s1 s2
  · rw [kpt_unK] at hk
    unfold bup at hk
    by_cases e : d = c
    · rw [if_pos e] at hk
      cases hk
    · rw [if_neg e] at hk
      have eu : unK un c d = un d := if_neg e
      rw [eu, ho 16 (by omega), ho 17 (by omega), ho 18 (by omega), ho 19 (by omega)]
      exact k4 d d1 d2 hk
theorem ObV.win {nc c : Nat} {un : Nat → Un} {w : Wt} (hV : ObV nc un w) (hk : kpt un c = true) : c < nc ∧ nc ≤ c + 24 := by
  obtain ⟨v1, v2, v3, v4, v5, v6, v7, v8, v9⟩ := hV
  obtain ⟨l1, l2, l3⟩ := lowK_spec (kpt un) nc
  refine ⟨?_, ?_⟩
  · rcases Nat.lt_or_ge c nc with h | h
    · exact h
    · rw [v3 c h] at hk; cases hk
  · rcases Nat.lt_or_ge c (lowK (kpt un) nc) with h | h
    · rw [l2 c h] at hk; cases hk
    · omega
/-- confirm of a KEPT unit -/
theorem rcfU_ok {τ : Sg} {i nc c : Nat} {un : Nat → Un} {w : Wt} {Q : Sg → Prop} (hi : i < 6) (hK : KpM τ i nc un) (hW : WtM τ i (fltW w)) (hV : ObV nc un w) (hk : kpt un c = true) (h : ∀ τ' : Sg, KpM τ' i nc (unK un c) → WtM τ' i (fltW (cutW w (c + 1))) → FrA LU i τ τ' → Q τ') : wpX9_confirm (nI i) (nI c) τ Q := by
  obtain ⟨w1, w2⟩ := hV.win hk
  have hn := hV.1
  refine rconfirm_ok hi (by omega) hW (fun k hk9 => by have := (fltW_own hV hk9).1; omega) (fun τ' g1 g2 g3 => h τ' ?_ ?_ (g3.mono (by decide)))
  · exact hK.uK w1 (by omega) g2 (fun d hd => g3.1 d (by
      have : d = 2 ∨ d = 16 ∨ d = 17 ∨ d = 18 ∨ d = 19 := by omega
      rcases this with rfl | rfl | rfl | rfl | rfl <;> decide))
  · rw [← fltW_cut hV]
    exact g1
theorem cp30 {i f n : Nat} {Q : Sg → Prop} {τ0 : Sg} {nc : Nat} {l0 : List Cel} (hi : i < 6) (hf : f < 96) (hn : n ≤ 240) (hnc : nc < 2 ^ 17) (h25 : τ0 25 f = nI n) (hln : l0.length = n) (hO : ∀ k, k < n → (gc l0 k).2.2.2 ≤ nc ∧ τ0 28 (240 * f + k) = nI (gc l0 k).2.2.2 - 1) : ∀ (l : List Cel) (k : Nat) (τ : Sg) (uw : (Nat → Un) × Wt), k + l.length = n → (∀ j, j < l.length → gc l j = gc l0 (k + j)) → KpM τ i nc uw.1 → WtM τ i (fltW uw.2) → ObV nc uw.1 uw.2 → (∀ j, j < k → τ 32 (240 * f + j) = 0) → (∀ j, j < 240 * f ∨ 240 * f + 240 ≤ j → τ 32 j = τ0 32 j) → (∀ c, c ∉ 32 :: LU → τ c = τ0 c) → (∀ c k, c ≤ 59 → c ≠ 32 → k / wid c ≠ i → τ c k = τ0 c k) → (∀ τ' : Sg, KpM τ' i nc (cfO uw l).1 → WtM τ' i (fltW (cfO uw l).2) → (∀ j, j < n → τ' 32 (240 * f + j) = 0) → (∀ j, j < 240 * f ∨ 240 * f + 240 ≤ j → τ' 32 j = τ0 32 j) → (∀ c, c ∉ 32 :: LU → τ' c = τ0 c) → (∀ c k, c ≤ 59 → c ≠ 32 → k / wid c ≠ i → τ' c k = τ0 c k) → Q τ') → wpX9_confirmPiece_L30 Q (l.length + 1) (nI i) (nI f) (nI k) τ := by
  intro l
  induction l with
  | nil =>
    intro k τ uw hk hg hK hW hV h1 h2 h3 h4 hQ
    rw [List.length_nil] at hk
    unfold wpX9_confirmPiece_L30
    rw [nI_clamp (n := f) (by omega), h3 25 (by decide), h25]
    exact ⟨vin rfl hf (by decide), brt (nI_le (by omega) (by omega)) (hQ τ hK hW (fun j hj => h1 j (by omega)) h2 h3 h4)⟩
  | cons q l ih =>
    intro k τ uw hk hg hK hW hV h1 h2 h3 h4 hQ
    rw [List.length_cons] at hk
    have hgk := hg 0 (by simp)
    have hgk : q = gc l0 k := hgk
    obtain ⟨o1, o2⟩ := hO k (by omega)
    rw [← hgk] at o1 o2
    show wpX9_confirmPiece_L30 Q (l.length + 1 + 1) (nI i) (nI f) (nI k) τ
    unfold wpX9_confirmPiece_L30
    rw [nI_clamp (n := f) (by omega), h3 25 (by decide), h25, i240, nI_clamp (n := 240 * f + k) (by omega)]
    refine ⟨vin rfl hf (by decide), brf (nI_ge (by omega) (by omega)) ⟨vin rfl (by omega) (by decide), ?_⟩⟩
    rintro _ rfl
    refine ⟨vin rfl (by omega) (by decide), ?_⟩
    rw [up2_o (d := 28) (by decide), h3 28 (by decide), o2]
    rintro _ rfl
    have hK1 : KpM (up2 τ 32 (240 * f + k) 0) i nc uw.1 := hK.of (fun c hc => up2_o (by omega))
    have hW1 : WtM (up2 τ 32 (240 * f + k) 0) i (fltW uw.2) := hW.of (fun c c1 c2 => up2_o (by omega))
    have h11 : ∀ j, j < k + 1 → up2 τ 32 (240 * f + k) 0 32 (240 * f + j) = 0 := fun j hj => by
      rw [up2_e]
      by_cases e : j = k
      · rw [if_pos ⟨rfl, by omega⟩]
      · rw [if_neg (by omega)]; exact h1 j (by omega)
    have h21 : ∀ j, j < 240 * f ∨ 240 * f + 240 ≤ j → up2 τ 32 (240 * f + k) 0 32 j = τ0 32 j := fun j hj => by rw [up2_e, if_neg (by omega)]; exact h2 j hj
    have h31 : ∀ c, c ∉ 32 :: LU → up2 τ 32 (240 * f + k) 0 c = τ0 c := fun c hc => by rw [up2_o (fun e => hc (by rw [e]; decide)), h3 c hc]
    have h41 : ∀ c j, c ≤ 59 → c ≠ 32 → j / wid c ≠ i → up2 τ 32 (240 * f + k) 0 c j = τ0 c j := fun c j c1 c2 c3 => by rw [up2_o c2, h4 c j c1 c2 c3]
    generalize up2 τ 32 (240 * f + k) 0 = τ1 at *
    -- the next one
    have next : ∀ τ2 : Sg, KpM τ2 i nc (cfB uw q.2.2.2).1 → WtM τ2 i (fltW (cfB uw q.2.2.2).2) → FrA LU i τ1 τ2 → wpX9_confirmPiece_L144 Q (wpX9_confirmPiece_L30 Q (l.length + 1)) (nI i) (nI f) (nI k) τ2 := by
      intro τ2 n1 n2 n3
      unfold wpX9_confirmPiece_L144
      rintro _ rfl
      rw [nI_1]
      refine ih (k + 1) τ2 (cfB uw q.2.2.2) (by omega) (fun j hj => ?_) n1 n2 (obV_cfB hV) (fun j hj => by rw [n3.1 32 (by decide)]; exact h11 j hj) (fun j hj => by rw [n3.1 32 (by decide)]; exact h21 j hj) (fun c hc => by rw [n3.1 c (fun e => hc (List.mem_cons_of_mem _ e))]; exact h31 c hc) (fun c j c1 c2 c3 => by rw [n3.2 c j c1 c3]; exact h41 c j c1 c2 c3) hQ
      have := hg (j + 1) (by rw [List.length_cons]; omega)
      rw [show k + 1 + j = k + (j + 1) by omega]
      exact this
    have same : cfB uw q.2.2.2 = uw → wpX9_confirmPiece_L144 Q (wpX9_confirmPiece_L30 Q (l.length + 1)) (nI i) (nI f) (nI k) τ1 := fun e => next τ1 (by rw [e]; exact hK1) (by rw [e]; exact hW1) FrA.rf
    cases eo : q.2.2.2 with
    | zero =>
      rw [eo] at same
      exact brt' m1z.symm (same (if_pos (Or.inl rfl)))
    | succ c =>
      rw [eo] at o1 next same
      rw [nI_pred]
      refine brf' (neg1 (by omega)) ?_
      rw [a31 (by omega), i32]
      rintro _ rfl
      rw [nI_clamp (n := 32 * i + c % 32) (by omega)]
      refine ⟨vin rfl (by omega) (by decide), ?_⟩
      by_cases hk : kpt uw.1 c = true
      · obtain ⟨wi1, wi2⟩ := hV.win hk
        obtain ⟨q1, q2, q3, q4⟩ := hK1.2.2.2 c wi1 (by omega) hk
        rw [hK1.2.1 c wi1 (by omega), hk]
        refine brf (by decide) ⟨vin rfl (by omega) (by decide), brt q2 ⟨vin rfl (by omega) (by decide), vin rfl (by omega) (by decide), ?_⟩⟩
        rw [q3]
        rintro _ rfl
        rw [up2_e, if_pos ⟨rfl, rfl⟩]
        have hcf : cfB uw (c + 1) = if (uw.1 c).2.1 - 1 = 0 then (unK (unO uw.1 c ((uw.1 c).2.1 - 1)) c, cutW uw.2 (c + 1)) else (unO uw.1 c ((uw.1 c).2.1 - 1), uw.2) := by
          unfold cfB
          rw [if_neg (by rw [Nat.add_sub_cancel, hk]; simp)]
          rfl
        rw [hcf] at next
        have hK2 := hK1.uO (z := (uw.1 c).2.1 - 1) wi1 (by omega)
        have hW2 : WtM (up2 τ1 18 (32 * i + c % 32) ((uw.1 c).2.1 - 1)) i (fltW uw.2) := hW1.of (fun d d1 d2 => up2_o (by omega))
        have hF2 : FrA LU i τ1 (up2 τ1 18 (32 * i + c % 32) ((uw.1 c).2.1 - 1)) := FrA.rf.up (by decide) (fun _ => show (32 * i + c % 32) / 32 = i by omega)
        refine ⟨vin rfl (by omega) (by decide), fun hne => ?_, fun he => ?_⟩
        · rw [if_neg hne] at next
          exact next _ hK2 hW2 hF2
        · rw [if_pos he] at next
          refine rcfU_ok hi hK2 hW2 (obV_unO hV) (by rw [kpt_unO]; exact hk) (fun τ3 g1 g2 g3 => next τ3 g1 g2 (hF2.tr g3))
      · have hkf : kpt uw.1 c = false := by simpa using hk
        have same := same (if_pos (Or.inr (by rw [Nat.add_sub_cancel]; exact hkf)))
        by_cases hwin : nc ≤ c + 32
        · rw [hK1.2.1 c (by omega) hwin, hkf]
          exact brt rfl same
        · -- the slot is another's
          obtain ⟨d, d1, d2, d3⟩ : ∃ d, d < nc ∧ nc ≤ d + 32 ∧ d % 32 = c % 32 := ⟨nc - 1 - (nc - 1 + 32 - c % 32) % 32, by omega, by omega, by omega⟩
          rw [← d3, hK1.2.1 d d1 d2]
          refine br01 (fun _ => same) (fun ek => ⟨vin rfl (by omega) (by decide), ?_⟩)
          obtain ⟨q1, q2, q3, q4⟩ := hK1.2.2.2 d d1 d2 ek
          rw [q2]
          refine brf (fun hh => ?_) same
          have := (nI_eq (by omega) (by omega)).mp hh
          omega
def LPc : List Nat := [15, 18, 20, 21, 22, 23, 24, 29, 32]
theorem confirmPiece_ok {τ : Sg} {i x nc : Nat} {A S : Nat} {pc : Nat → Pce} {un : Nat → Un} {w : Wt} {Q : Sg → Prop} (hi : i < 6) (h16 : S ≤ A + 16) (hS20 : S < 2 ^ 20) (hP : PsM τ i A S pc) (hK : KpM τ i nc un) (hW : WtM τ i (fltW w)) (hV : ObV nc un w) (h1 : A ≤ x) (h2 : x < S) (hO : ∀ k, k < (pc x).1.length → (gc (pc x).1 k).2.2.2 ≤ nc) (hn : (pc x).2.2.2 = true → Q τ) (h : (pc x).2.2.2 = false → ∀ τ' : Sg, PsM τ' i A S (spu pc x (cfQ (pc x))) → KpM τ' i nc (cfO (un, w) (pc x).1).1 → WtM τ' i (fltW (cfO (un, w) (pc x).1).2) → FrA LPc i τ τ' → Q τ') : wpX9_confirmPiece (nI i) (nI x) τ Q := by
  have hpx := hP x h1 h2
  obtain ⟨p1, p2, p3, p4, p5⟩ := hpx
  unfold wpX9_confirmPiece
  rw [a15 (by omega), i16]
  rintro _ rfl
  have hf96 : 16 * i + x % 16 < 96 := by omega
  have hfi : (16 * i + x % 16) / 16 = i := by omega
  have hupd := fun τ9 : Sg => hP.upd (τ' := τ9) (x := x) (q := cfQ (pc x)) h16 h1 h2
  generalize hf0 : 16 * i + x % 16 = f at *
  rw [nI_clamp (n := f) (by omega), p4]
  refine ⟨vin rfl hf96 (by decide), br01 (fun e => ⟨vin rfl hf96 (by decide), ?_⟩) (fun e => hn e)⟩
  rintro _ rfl
  have h := h e
  refine ⟨(pc x).1.length + 1, cp30 (τ0 := up2 τ 29 f 1) (l0 := (pc x).1) (n := (pc x).1.length) hi hf96 p2 hV.1 (by rw [up2_o (by decide)]; exact p1) rfl (fun k hk => ⟨hO k hk, by rw [up2_o (by decide)]; exact (p5 k hk).2.1⟩) (pc x).1 0 _ (un, w) (by omega) (fun j _ => by rw [Nat.zero_add]) (hK.of (fun c hc => up2_o (by omega))) (hW.of (fun c c1 c2 => up2_o (by omega))) hV (fun j hj => by omega) (fun _ _ => rfl) (fun _ _ => rfl) (fun _ _ _ _ _ => rfl) (fun τ' g1 g2 g3 g4 g5 g6 => h τ' ?_ g1 g2 ⟨fun c hc => ?_, fun c k hc hk => ?_⟩)⟩
  · have u : ∀ c, c ≠ 29 → c ∉ 32 :: LU → τ' c = τ c := fun c c1 c2 => by rw [g5 c c2, up2_o c1]
    refine hupd τ' ?_ (fun f' hf' => ⟨by rw [u 25 (by decide) (by decide)], by rw [u 26 (by decide) (by decide)], by rw [g5 29 (by decide), up2_e, if_neg (fun hh => hf' hh.2)], fun c k hc hk => ?_⟩)
    · refine ⟨by rw [u 25 (by decide) (by decide)]; exact p1, p2, by rw [u 26 (by decide) (by decide)]; exact p3, by rw [g5 29 (by decide), up2_e, if_pos ⟨rfl, rfl⟩]; rfl, fun k hk => ?_⟩
      have hk : k < (pc x).1.length := hk
      rw [u 27 (by decide) (by decide), u 28 (by decide) (by decide), u 30 (by decide) (by decide), u 31 (by decide) (by decide), g3 k hk]
      obtain ⟨z1, z2, z3, z4, z5⟩ := p5 k hk
      exact ⟨z1, z2, z3, z4, rfl⟩
    · by_cases ec : c = 32
      · subst ec
        rw [g4 _ (by omega), up2_o (by decide)]
      · rw [u c (by omega) (by
          have : c = 27 ∨ c = 28 ∨ c = 30 ∨ c = 31 := by omega
          rcases this with rfl | rfl | rfl | rfl <;> decide)]
  · rw [g5 c (fun hh => hc (by
      have key : ∀ c, c ∈ 32 :: LU → c ∈ LPc := by decide
      exact key c hh)), up2_o (fun e9 => hc (by rw [e9]; decide))]
  · by_cases e32 : c = 32
    · subst e32
      have hk : k / 3840 ≠ i := hk
      rw [g4 k (by omega), up2_o (by decide)]
    · rw [g6 c k hc e32 hk, up2_e]
      by_cases e29 : c = 29
      · subst e29
        have hk : k / 16 ≠ i := hk
        rw [if_neg (by omega)]
      · rw [if_neg (fun hh => e29 hh.1)]
