/-! PURE: tick -/
theorem FsV.mono {T T' : Nat} {ks : Nat → Nat → Int32} {lo : Int} {s : Fst} (h : FsV T ks lo s) (ht : T ≤ T') : FsV T' ks lo s := ⟨h.1.mono ht, h.2⟩
theorem cpeer {P B p tk n' g T N nn : Nat} {y g0 g1 f x4 : Int32} {σ : Sg} {M : Hm} {tp : List Int32} {ad as' : Nat → Nat} {lost turned : Bool} {Q : Int32 → Sg → Prop} (hB1 : 1 ≤ B) (hB3 : B ≤ 3) (hP : P = 2 * B) (hp : p < 2) (hR : RepC σ B y tk tp M) (hI : InvM T N nn B (keyF y (M.2.2.2.2 10)) ad as' M) (hg : g ≤ 250) (hgg : (if p = 0 then g0 else g1) = nI g) (htk : tk < 2 ^ 31) (hN : N + 300 < 2 ^ 20) (hT : T + 2000 < 2 ^ 20) (had : slO (M.2.2.1 (pj p tk)) (ad (pj p tk)) ≤ 16) (has : slO (M.2.2.1 (pj p tk)) (as' (pj p tk)) ≤ 31) (hlost : lost = decide (¬ (f >>> (nI p &&& 31)) &&& 1 = 0)) (hturn : turned = decide (¬ (f >>> ((nI p + 2) &&& 31)) &&& 1 = 0)) (h : ∀ σ' : Sg, RepC σ' B y tk tp (sdM B p tk (keyF y (M.2.2.2.2 10)) lost turned (flM B p g tk M)) → wpX8_tick_L108 P sbT Q n' g0 g1 f (sBit p (snt p tk (flM B p g tk M)) (fs1 lost ((flM B p g tk M).2.2.1 (pj p tk))) x4) (nI (p + 1)) σ') : wpX8_tick_L108 P sbT Q (n' + 1) g0 g1 f x4 (nI p) σ := by
  have hj := pj_lt (tk := tk) hp
  have hlo : -(2 ^ 20 : Int) ≤ -(N : Int) := by omega
  obtain ⟨-, -, -, -, -, -, z, hz⟩ := send_V (lost := lost) (turned := turned) hB1 hp hg hN hT hI had has rfl rfl
  obtain ⟨-, -, -, -, -, hG0⟩ := fl_V (t := flT B p g M) hB1 hp hg hN hI.1 hI.2.1 rfl
  obtain ⟨q1, q2, q3, q4⟩ := hI.2.2 _ hj
  exact csend_ok (T := T + 15 * 125) (z := z) (lo := -(N : Int)) (Gd1 := GdF T p B g (keyF y (M.2.2.2.2 10)) (-(N : Int)) M.1 M.2.1) (Gd2 := GdW T 125 B p (slO (M.2.2.1 (pj p tk)) (ad (pj p tk))) (slO (M.2.2.1 (pj p tk)) (as' (pj p tk))) (keyF y (M.2.2.2.2 10)) (flM B p g tk M).1 (flM B p g tk M).2.1) hB1 hB3 hP hp hR hg hgg htk hlo hlost hturn q1 q2 q3 (fun _ => hG0) (fun i s hi hs => ⟨(hs.g1 hp hg hlo hi).1.mono (by omega), (hs.g1 hp hg hlo hi).2.1⟩) (fun i s hi hs => hs.g2 hp hg hlo hi) (fun a b => ⟨(hz lost rfl a b).1, (hz lost rfl a b).2.2⟩) (fun q r s hs => ⟨(hs.nx hp had has (by omega)).1.w, (hs.nx hp had has (by omega)).2⟩) h
theorem rpeer {B p tk g T N nn : Nat} {y : Int32} {τ : Sg} {M : Hm} {tp : List Int32} {ad as' : Nat → Nat} {lost turned : Bool} {Q : Int32 → Sg → Prop} (hB1 : 1 ≤ B) (hB3 : B ≤ 3) (hp : p < 2) (hR : RepM τ B y tk tp p M) (hI : InvM T N nn B (keyF y (M.2.2.2.2 10)) ad as' M) (hg : g ≤ 250) (htk : tk < 2 ^ 31) (hN : N + 300 < 2 ^ 20) (hT : T + 2000 < 2 ^ 20) (had : slO (M.2.2.1 (pj p tk)) (ad (pj p tk)) ≤ 16) (has : slO (M.2.2.1 (pj p tk)) (as' (pj p tk)) ≤ 31) (hsh : ∀ q, q < p → M.2.2.2.1 q ≤ 250) (h : ∀ τ' : Sg, RepM τ' B y tk tp (p + 1) (sdM B p tk (keyF y (M.2.2.2.2 10)) lost turned (flM B p g tk M)) → Q (sAn (snt p tk (flM B p g tk M)) (fs1 lost ((flM B p g tk M).2.2.1 (pj p tk)))) τ') : wpX9_sends (nI p) (nI g) (b01 lost) (b01 turned) τ Q := by
  have hj := pj_lt (tk := tk) hp
  have hlo : -(2 ^ 20 : Int) ≤ -(N : Int) := by omega
  obtain ⟨-, hrt, -, -, -, -, z, hz⟩ := send_V (lost := lost) (turned := turned) hB1 hp hg hN hT hI had has rfl rfl
  obtain ⟨-, -, -, -, -, hG0⟩ := fl_V (t := flT B p g M) hB1 hp hg hN hI.1 hI.2.1 rfl
  obtain ⟨q1, q2, q3, q4⟩ := hI.2.2 _ hj
  exact rsends_ok (T := T + 15 * 125) (z := z) (lo := -(N : Int)) (Gd1 := GdF T p B g (keyF y (M.2.2.2.2 10)) (-(N : Int)) M.1 M.2.1) (Gd2 := GdW T 125 B p (slO (M.2.2.1 (pj p tk)) (ad (pj p tk))) (slO (M.2.2.1 (pj p tk)) (as' (pj p tk))) (keyF y (M.2.2.2.2 10)) (flM B p g tk M).1 (flM B p g tk M).2.1) hB1 hB3 hp hR hg htk hlo q1 (fun hh => (q4 hh).1) (fun i hi => (hI.2.2 i hi).2.2.1) hsh (fun _ => hG0) (fun i s hi hs => ⟨(hs.g1 hp hg hlo hi).1.mono (by omega), (hs.g1 hp hg hlo hi).2⟩) (fun i s hi hs => hs.g2 hp hg hlo hi) (fun a b => hz lost rfl a b) (fun q r s hs => hs.nx hp had has (by omega)) (fun b hb => hrt b (by omega)) h
theorem tick_no {a b c : Int32} {τ : Sg} {Q : Int32 → Sg → Prop} (h : a < 0 ∨ 250 < a ∨ b < 0 ∨ ¬ b ≤ 250) (hQ : Q (-1) τ) : wpX9_tick a b c τ Q := by
  unfold wpX9_tick
  refine ⟨fun _ => hQ, fun h1 => ⟨fun _ => hQ, fun h2 => ⟨fun _ => hQ, fun h3 => ⟨fun h4 => ?_, fun _ => hQ⟩⟩⟩⟩
  rcases h with h | h | h | h
  · exact absurd h h1
  · exact absurd h h2
  · exact absurd h h3
  · exact absurd h4 h
/-- the reference's tick -/
theorem rtick_ok {n B tk g0 g1 : Nat} {y c : Int32} {τ : Sg} {M M0 M1 M2 : Hm} {tp : List Int32} {l0 t0 l1 t1 : Bool} {Q : Int32 → Sg → Prop} (hn : n < 64) (hB1 : 1 ≤ B) (hB3 : B ≤ 3) (hg0 : g0 ≤ 250) (hg1 : g1 ≤ 250) (hR : RepM τ B y tk tp 2 M) (hI : InvH n B tk (keyF y (M.2.2.2.2 10)) M) (e0 : M0 = tk0 B M) (e1 : M1 = sdM B 0 (tk + 1) (keyF y (M.2.2.2.2 10)) l0 t0 (flM B 0 g0 (tk + 1) M0)) (e2 : M2 = sdM B 1 (tk + 1) (keyF y (M.2.2.2.2 10)) l1 t1 (flM B 1 g1 (tk + 1) M1)) (hl0 : l0 = decide (¬ c &&& 1 = 0)) (ht0 : t0 = decide (¬ c &&& 4 = 0)) (hl1 : l1 = decide (¬ c &&& 2 = 0)) (ht1 : t1 = decide (¬ c &&& 8 = 0)) (h : ∀ τ' : Sg, RepM τ' B y (tk + 1) tp 2 M2 → Q (sBit 1 (snt 1 (tk + 1) (flM B 1 g1 (tk + 1) M1)) (fs1 l1 ((flM B 1 g1 (tk + 1) M1).2.2.1 (pj 1 (tk + 1)))) (sBit 0 (snt 0 (tk + 1) (flM B 0 g0 (tk + 1) M0)) (fs1 l0 ((flM B 0 g0 (tk + 1) M0).2.2.1 (pj 0 (tk + 1)))) 0)) τ') : wpX9_tick (nI g0) (nI g1) c τ Q := by
  obtain ⟨k1, k2, k3, k4, k5, k6, k7, k8, k9⟩ := tick_mid hn hB1 hg0 hg1 hI e0 e1 e2
  have htk := hI.2.1
  have hC := hI.1.1
  obtain ⟨⟨a1, a2, a3, a4, ⟨a5, a6⟩, a7⟩, a8, a9, a10⟩ := hR
  have ec : M0.2.2 = M.2.2 := by rw [e0]; rfl
  -- the end: the two peers
  have fin : ∀ τ7 : Sg, LkM τ7 B M0.1 M0.2.1 → (∀ d, d ∉ LTk → d ≠ 0 → τ7 d = τ d) → (∀ j, τ7 0 j = if j = 2 then nI (tk + 1) else τ 0 j) → (((c &&& 1) = 0 → wpX9_tick_L311 Q (nI g1) c 0 (nI g0) 0 τ7) ∧ (¬ ((c &&& 1) = 0) → wpX9_tick_L311 Q (nI g1) c 1 (nI g0) 0 τ7)) := by
    intro τ7 l7 f7 z7
    have r7 : RepM τ7 B y (tk + 1) tp 0 M0 := by
      refine ⟨⟨by rw [z7 0, if_neg (by decide)]; exact a1, ⟨fun k hk => by rw [f7 67 (by decide) (by decide)]; exact a2.1 k hk, by rw [z7 1, if_neg (by decide)]; exact a2.2.1, by rw [z7 3, if_neg (by decide), ec]; exact a2.2.2⟩, by rw [z7 2, if_pos rfl], fun k j1 j2 => by rw [z7 k, if_neg (by omega), ec]; exact a4 k j1 j2, ⟨by rw [z7 10, if_neg (by decide)]; exact a5, fun k hk => by rw [f7 1 (by decide) (by decide)]; exact a6 k hk⟩, l7⟩, fun j hj => ?_, fun p hp => by omega, fun b hb => ?_⟩
      · rw [ec]
        exact (a8 j hj).of (fun d d1 d2 => f7 d (by unfold LTk; simp only [List.mem_cons, List.not_mem_nil, or_false]; omega) (by omega))
      · rw [f7 14 (by decide) (by decide), a10 b hb, (k8 b hb).2.2]
    have hkey0 : keyF y (M0.2.2.2.2 10) = keyF y (M.2.2.2.2 10) := by rw [ec]
    have hkey1 : keyF y (M1.2.2.2.2 10) = keyF y (M.2.2.2.2 10) := by rw [k2]
    -- peer 1
    have S1 : ∀ (τ8 : Sg) (s0 f0 : Bool), s0 = snt 0 (tk + 1) (flM B 0 g0 (tk + 1) M0) → f0 = fs1 l0 ((flM B 0 g0 (tk + 1) M0).2.2.1 (pj 0 (tk + 1))) → RepM τ8 B y (tk + 1) tp 1 M1 → wpX9_tick_L353 Q (sAn s0 f0) (b01 t1) (b01 l1) (nI g1) 1 τ8 := by
      intro τ8 s0 f0 es0 ef0 r8
      unfold wpX9_tick_L353
      have hk9 : ∀ q, q < 1 → M1.2.2.2.1 q ≤ 250 := fun q hq => by
        have : q = 0 := by omega
        rw [this]
        exact k9
      refine rpeer (p := 1) (N := 1000 * n + 250) (T := 4000 * n + 1 + 1875) (nn := n) hB1 hB3 (by decide) r8 (by rw [hkey1]; exact k5) hg1 (by omega) (by omega) (by omega) k7.1 k7.2 hk9 (fun τ9 r9 => ?_)
      refine tick_an ?_
      rw [es0, ef0]
      refine h τ9 ?_
      rw [hkey1, ← e2] at r9
      exact r9
    have S0 : wpX9_tick_L322 Q (nI g1) c (b01 t0) (b01 l0) (nI g0) 0 τ7 := by
      unfold wpX9_tick_L322
      refine rpeer (p := 0) (N := 1000 * n) (T := 4000 * n + 1) (nn := n) hB1 hB3 (by decide) r7 (by rw [hkey0]; exact k4) hg0 (by omega) (by omega) (by omega) k6.1 k6.2 (fun q hq => by omega) (fun τ8 r8 => ?_)
      rw [hkey0, ← e1] at r8
      have S := S1 τ8 _ _ rfl rfl r8
      have L341 : ∀ z : Bool, z = l1 → wpX9_tick_L341 Q c (sAn (snt 0 (tk + 1) (flM B 0 g0 (tk + 1) M0)) (fs1 l0 ((flM B 0 g0 (tk + 1) M0).2.2.1 (pj 0 (tk + 1))))) (b01 z) (nI g1) 1 τ8 := by
        intro z hz
        subst hz
        unfold wpX9_tick_L341
        refine ⟨fun h8 => ?_, fun h8 => ?_⟩
        · rw [ht1, decide_eq_false (fun h9 => h9 h8)] at S
          exact S
        · rw [ht1, decide_eq_true h8] at S
          exact S
      refine ⟨fun h2 => ?_, fun h2 => ?_⟩
      · exact L341 false (by rw [hl1, decide_eq_false (fun h9 => h9 h2)])
      · exact L341 true (by rw [hl1, decide_eq_true h2])
    have L311 : ∀ z : Bool, z = l0 → wpX9_tick_L311 Q (nI g1) c (b01 z) (nI g0) 0 τ7 := by
      intro z hz
      subst hz
      unfold wpX9_tick_L311
      refine ⟨fun h4 => ?_, fun h4 => ?_⟩
      · rw [ht0, decide_eq_false (fun h9 => h9 h4)] at S0
        exact S0
      · rw [ht0, decide_eq_true h4] at S0
        exact S0
    refine ⟨fun h1 => ?_, fun h1 => ?_⟩
    · exact L311 false (by rw [hl0, decide_eq_false (fun h9 => h9 h1)])
    · exact L311 true (by rw [hl0, decide_eq_true h1])
  unfold wpX9_tick
  refine brf (nI_pos (by omega)) (brf (nI_nlt (a := 250) (b := g0) hg0 (by decide)) (brf (nI_pos (by omega)) (brt (nI_le (a := g1) (b := 250) hg1 (by decide)) ?_)))
  rw [a3, nI_1]
  rintro _ rfl
  have z5 : ∀ j, up2 τ 0 2 (nI (tk + 1)) 0 j = if j = 2 then nI (tk + 1) else τ 0 j := fun j => by
    rw [up2_e]
    by_cases e : j = 2
    · rw [if_pos ⟨rfl, e⟩, if_pos e]
    · rw [if_neg (fun hh => e hh.2), if_neg e]
  have f5 : ∀ d, d ≠ 0 → up2 τ 0 2 (nI (tk + 1)) d = τ d := fun d hd => up2_o hd
  have l5 : LkM (up2 τ 0 2 (nI (tk + 1))) B M.1 M.2.1 := a7.of (fun c c1 c2 _ => up2_o (by omega))
  generalize up2 τ 0 2 (nI (tk + 1)) = τ5 at *
  have h00 : τ5 0 0 = nI B := by rw [z5 0, if_neg (by decide)]; exact a1
  -- the frame, in one
  have fr : ∀ τ' : Sg, FrT τ5 τ' → (∀ d, d ∉ LTk → d ≠ 0 → τ' d = τ d) ∧ (∀ j, τ' 0 j = if j = 2 then nI (tk + 1) else τ 0 j) := fun τ' hF => ⟨fun d d1 d2 => by rw [hF d d1, f5 d d2], fun j => by rw [hF 0 (by decide), z5 j]⟩
  have hOt : OkA B (tmH M.1) (tmG B M.1 M.2.1) := fun q hq => hC.ok q hq
  have hOp : OkA B (fun pl => pr1 (tmH M.1 pl)) (tmG B M.1 M.2.1) := fun q hq => hC.ok q hq
  -- buckets
  have L188 : ∀ τ6 : Sg, LkM τ6 B (fun pl => pr1 (tmH M.1 pl)) (tmG B M.1 M.2.1) → FrT τ5 τ6 → ∃ nn, wpX9_tick_L188 Q nn (nI g0) (nI g1) c 0 τ6 := by
    intro τ6 l6 f6
    have h14 : ∀ p, p < 2 → ∀ b, b < B → τ5 14 b = nI (((fun pl => pr1 (tmH M.1 pl)) (p * B + b)).1 2) := by
      intro p hp b hb
      have hpl := pl_lt hp hb
      have e : ((fun pl => pr1 (tmH M.1 pl)) (p * B + b)).1 2 = (M.1 (p * B + b)).1 2 := by
        show prV (tmS (M.1 (p * B + b))).1 _ 2 = _
        rw [prV_k (by decide)]
        exact (tmS_V (hC _ hpl).1).2.2.2.2.2
      rw [f5 14 (by decide), a10 b hb, e]
      have hp2 : p = 0 ∨ p = 1 := by omega
      rcases hp2 with rfl | rfl
      · rw [Nat.zero_mul, Nat.zero_add]
      · rw [Nat.one_mul, hI.2.2.1 b hb]
    refine ⟨3, ?_⟩
    unfold wpX9_tick_L188
    refine brf (by decide) ⟨B + 1, rt197 (p := 0) (hs := fun pl => pr1 (tmH M.1 pl)) (hr := tmG B M.1 M.2.1) (τ0 := τ5) hB3 (by decide) h00 (h14 0 (by decide)) hOp B 0 τ6 (by omega) (LkM_congr l6 (fun pl hpl => by unfold mix; rw [if_neg (by omega)]) (fun _ _ => rfl)) f6 (fun τ7 l7 f7 => ?_)⟩
    show wpX9_tick_L188 Q 2 (nI g0) (nI g1) c (nI (0 + 1)) τ7
    unfold wpX9_tick_L188
    rw [show 0 * B + B = 1 * B + 0 by omega] at l7
    refine brf (by decide) ⟨B + 1, rt197 (p := 1) (hs := fun pl => pr1 (tmH M.1 pl)) (hr := tmG B M.1 M.2.1) (τ0 := τ5) hB3 (by decide) h00 (h14 1 (by decide)) hOp B 0 τ7 (by omega) l7 f7 (fun τ8 l8 f8 => ?_)⟩
    show wpX9_tick_L188 Q 1 (nI g0) (nI g1) c (nI (1 + 1)) τ8
    unfold wpX9_tick_L188
    refine brt (by decide) (fin τ8 ?_ (fr τ8 f8).1 (fr τ8 f8).2)
    rw [e0]
    refine LkM_congr l8 (fun pl hpl => ?_) (fun _ _ => rfl)
    unfold mix
    rw [if_pos (by omega)]
    exact (pr12 (s := tmH M.1 pl)).symm
  have L81 : ∀ τ6 : Sg, LkM τ6 B (tmH M.1) (tmG B M.1 M.2.1) → FrT τ5 τ6 → ∃ nn, wpX9_tick_L81 Q nn (nI g0) (nI g1) c 0 τ6 := by
    intro τ6 l6 f6
    have hSI : ∀ pl, pl < 2 * B → SI (4000 * n + 1) (tmH M.1 pl).1 (tmH M.1 pl).2.2.1 := fun pl hpl => (tmS_V (hC pl hpl).1).1.1
    refine ⟨3, ?_⟩
    unfold wpX9_tick_L81
    refine brf (by decide) ⟨B + 1, rt90 (p := 0) (T := 4000 * n + 1) (hs := tmH M.1) (hr := tmG B M.1 M.2.1) (τ0 := τ5) hB3 (by decide) h00 hSI hOt B 0 τ6 (by omega) (LkM_congr l6 (fun pl hpl => by unfold mix; rw [if_neg (by omega)]) (fun _ _ => rfl)) f6 (fun τ7 l7 f7 => ?_)⟩
    show wpX9_tick_L81 Q 2 (nI g0) (nI g1) c (nI (0 + 1)) τ7
    unfold wpX9_tick_L81
    rw [show 0 * B + B = 1 * B + 0 by omega] at l7
    refine brf (by decide) ⟨B + 1, rt90 (p := 1) (T := 4000 * n + 1) (hs := tmH M.1) (hr := tmG B M.1 M.2.1) (τ0 := τ5) hB3 (by decide) h00 hSI hOt B 0 τ7 (by omega) l7 f7 (fun τ8 l8 f8 => ?_)⟩
    show wpX9_tick_L81 Q 1 (nI g0) (nI g1) c (nI (1 + 1)) τ8
    unfold wpX9_tick_L81
    refine brt (by decide) (L188 τ8 (LkM_congr l8 (fun pl hpl => ?_) (fun _ _ => rfl)) f8)
    unfold mix
    rw [if_pos (by omega)]
  refine ⟨3, ?_⟩
  unfold wpX9_tick_L37
  refine brf (by decide) ⟨B + 1, rt46 (p := 0) (T := 4000 * n) (τ0 := τ5) hB3 (by decide) h00 hC (by omega) B 0 τ5 (by omega) (LkM_congr l5 (fun pl hpl => by unfold mix; rw [if_neg (by omega)]) (fun pl hpl => by unfold mix; rw [if_neg (by omega)])) (fun _ _ => rfl) (fun τ6 l6 f6 => ?_)⟩
  show wpX9_tick_L37 Q 2 (nI g0) (nI g1) c (nI (0 + 1)) τ6
  unfold wpX9_tick_L37
  rw [show 0 * B + B = 1 * B + 0 by omega] at l6
  refine brf (by decide) ⟨B + 1, rt46 (p := 1) (T := 4000 * n) (τ0 := τ5) hB3 (by decide) h00 hC (by omega) B 0 τ6 (by omega) l6 f6 (fun τ7 l7 f7 => ?_)⟩
  show wpX9_tick_L37 Q 1 (nI g0) (nI g1) c (nI (1 + 1)) τ7
  unfold wpX9_tick_L37
  refine brt (by decide) (L81 τ7 (LkM_congr l7 (fun pl hpl => ?_) (fun pl hpl => ?_)) f7)
  · unfold mix
    rw [if_pos (by omega)]
  · unfold mix
    rw [if_pos (by omega)]
theorem st_tick : St_tick Rel := by
  intro n P σ τ a b c hn hR
  have hup := Rel_up hR
  obtain ⟨B, y, tk, tp, M, hB1, hB3, hP, hC, hM, hI, htp, htb⟩ := hR
  unfold wpX8_tick
  refine ⟨fun h1 => tick_no (Or.inl h1) ⟨rfl, hup⟩, fun h1 => ⟨fun h2 => tick_no (Or.inr (Or.inl h2)) ⟨rfl, hup⟩, fun h2 => ⟨fun h3 => tick_no (Or.inr (Or.inr (Or.inl h3))) ⟨rfl, hup⟩, fun h3 => ⟨fun h4 => ?_, fun h4 => tick_no (Or.inr (Or.inr (Or.inr h4))) ⟨rfl, hup⟩⟩⟩⟩⟩
  obtain ⟨g0, hg0, rfl⟩ := nI_of2 (M := 250) (n := 250) rfl h1 (Int32.not_lt.mp h2)
  obtain ⟨g1, hg1, rfl⟩ := nI_of2 (M := 250) (n := 250) rfl h3 h4
  obtain ⟨l0, hl0⟩ : ∃ l0, l0 = decide (¬ (c >>> (nI 0 &&& 31)) &&& 1 = 0) := ⟨_, rfl⟩
  obtain ⟨t0, ht0⟩ : ∃ t0, t0 = decide (¬ (c >>> ((nI 0 + 2) &&& 31)) &&& 1 = 0) := ⟨_, rfl⟩
  obtain ⟨l1, hl1⟩ : ∃ l1, l1 = decide (¬ (c >>> (nI 1 &&& 31)) &&& 1 = 0) := ⟨_, rfl⟩
  obtain ⟨t1, ht1⟩ : ∃ t1, t1 = decide (¬ (c >>> ((nI 1 + 2) &&& 31)) &&& 1 = 0) := ⟨_, rfl⟩
  obtain ⟨M0, e0⟩ : ∃ M0, M0 = tk0 B M := ⟨_, rfl⟩
  obtain ⟨M1, e1⟩ : ∃ M1, M1 = sdM B 0 (tk + 1) (keyF y (M.2.2.2.2 10)) l0 t0 (flM B 0 g0 (tk + 1) M0) := ⟨_, rfl⟩
  obtain ⟨M2, e2⟩ : ∃ M2, M2 = sdM B 1 (tk + 1) (keyF y (M.2.2.2.2 10)) l1 t1 (flM B 1 g1 (tk + 1) M1) := ⟨_, rfl⟩
  obtain ⟨k1, k2, k3, k4, k5, k6, k7, k8, k9⟩ := tick_mid hn hB1 hg0 hg1 hI e0 e1 e2
  have htk := hI.2.1
  have ec : M0.2.2 = M.2.2 := by rw [e0]; rfl
  have hkey0 : keyF y (M0.2.2.2.2 10) = keyF y (M.2.2.2.2 10) := by rw [ec]
  have hkey1 : keyF y (M1.2.2.2.2 10) = keyF y (M.2.2.2.2 10) := by rw [k2]
  obtain ⟨a1, a2, a3, a4, a5, ⟨a6, a7⟩, a8, a9, a10⟩ := hC
  rw [a3, nI_1]
  rintro _ rfl
  have z5 : ∀ j, up2 σ 0 9 (nI (tk + 1)) 0 j = if j = 9 then nI (tk + 1) else σ 0 j := fun j => by
    rw [up2_e]
    by_cases e : j = 9
    · rw [if_pos ⟨rfl, e⟩, if_pos e]
    · rw [if_neg (fun hh => e hh.2), if_neg e]
  have f5 : ∀ d, d ≠ 0 → up2 σ 0 9 (nI (tk + 1)) d = σ d := fun d hd => up2_o hd
  have l5 : LkC (up2 σ 0 9 (nI (tk + 1))) B M.1 M.2.1 := a8.of (fun d d1 d2 => up2_o (by omega))
  generalize up2 σ 0 9 (nI (tk + 1)) = σ5 at *
  -- the two peers
  have fin : ∀ σ7 : Sg, LkC σ7 B M0.1 M0.2.1 → Fr9 P σ5 σ7 → wpX8_tick_L108 P sbT (fun r σ1 => wpX9_tick (nI g0) (nI g1) c τ (fun q τ1 => r = q ∧ Rel (n + 1) P σ1 τ1)) 3 (nI g0) (nI g1) c 0 0 σ7 := by
    intro σ7 l7 f7
    have r7 : RepC σ7 B y (tk + 1) tp M0 := by
      have e0' : σ7 0 = σ5 0 := f7 0 (by omega)
      refine ⟨by rw [e0', z5 0, if_neg (by decide)]; exact a1, by rw [e0', z5 1, if_neg (by decide)]; exact a2, by rw [e0', z5 9, if_pos rfl], fun k j1 j2 => by rw [e0', z5 k, if_neg (by omega), ec]; exact a4 k j1 j2, fun k hk => by rw [f7 4 (by omega), f5 4 (by decide), hkey0]; exact a5 k hk, ⟨by rw [e0', z5 3, if_neg (by decide)]; exact a6, fun k hk => by rw [f7 1 (by omega), f5 1 (by decide)]; exact a7 k hk⟩, l7, fun j hj => ?_, fun p hp => by rw [f7 2 (by omega), f5 2 (by decide), ec]; exact a10 p hp⟩
      rw [ec]
      exact (a9 j hj).of (by rw [f7 _ (by omega), f5 _ (by omega)]) (by rw [f7 _ (by omega), f5 _ (by omega)]) (by rw [f7 _ (by omega), f5 _ (by omega)])
    refine cpeer (p := 0) (n' := 2) (N := 1000 * n) (T := 4000 * n + 1) (nn := n) hB1 hB3 hP (by decide) r7 (by rw [hkey0]; exact k4) hg0 rfl (by omega) (by omega) (by omega) k6.1 k6.2 hl0 ht0 (fun σ8 r8 => ?_)
    rw [hkey0, ← e1] at r8
    refine cpeer (p := 1) (n' := 1) (N := 1000 * n + 250) (T := 4000 * n + 1 + 1875) (nn := n) hB1 hB3 hP (by decide) r8 (by rw [hkey1]; exact k5) hg1 rfl (by omega) (by omega) (by omega) k7.1 k7.2 hl1 ht1 (fun σ9 r9 => ?_)
    rw [hkey1, ← e2] at r9
    unfold wpX8_tick_L108
    refine brt (by decide) ?_
    refine rtick_ok hn hB1 hB3 hg0 hg1 hM hI e0 e1 e2 ?_ ?_ ?_ ?_ (fun τ' r' => ⟨rfl, B, y, tk + 1, tp, M2, hB1, hB3, hP, r9, r', ?_, htp, htb⟩)
    · rw [hl0]
      exact decide_eq_decide.mpr (not_congr fb_l0)
    · rw [ht0]
      exact decide_eq_decide.mpr (not_congr fb_t0)
    · rw [hl1]
      exact decide_eq_decide.mpr (not_congr fb_l1)
    · rw [ht1]
      exact decide_eq_decide.mpr (not_congr fb_t1)
    · rw [k3]
      exact k1
  have hCor := hI.1.1
  refine ⟨P + 1, ct37 (T := 4000 * n) (key := keyF y (M.2.2.2.2 10)) (σ0 := σ5) hB3 hP hCor (by omega) P 0 σ5 (by omega) (LkC_congr l5 (fun pl hpl => by unfold mix; rw [if_neg (by omega)]) (fun pl hpl => by unfold mix; rw [if_neg (by omega)])) (fun _ _ => rfl) (fun σ6 l6 f6 => ⟨P + 1, ct76 (hs := tmH M.1) (hr := tmG B M.1 M.2.1) (σ0 := σ5) hB3 hP (fun pl hpl => ⟨(tmS_V (hCor pl hpl).1).1.1.1, ?_⟩) P 0 σ6 (by omega) (LkC_congr l6 (fun pl hpl => by unfold mix; rw [if_neg (by omega)]) (fun _ _ => rfl)) f6 (fun σ7 l7 f7 => ⟨3, fin σ7 (by rw [e0]; exact l7) f7⟩)⟩)⟩
  have := (hCor pl hpl).1.2.1.len
  show (M.1 pl).2.2.2.2.2.1.length < 2 ^ 20
  omega
