/-! PURE: feed -/
def fbY (x : Int32) (k : Nat) : Int32 := (x >>> (nI (24 - 8 * k) &&& 31)) &&& 255
def by4 (x : Int32) : List Int32 := [fbY x 0, fbY x 1, fbY x 2, fbY x 3]
def TpC (σ : Sg) (tp : List Int32) : Prop := σ 0 3 = nI tp.length ∧ ∀ k, k < tp.length → σ 1 k = tp.getD k 0
def FrT1 (σ σ' : Sg) : Prop := (∀ d, d ≠ 0 → d ≠ 1 → σ' d = σ d) ∧ ∀ j, j ≠ 3 → σ' 0 j = σ 0 j
theorem FrT1.tr {σ σ1 σ2 : Sg} (h : FrT1 σ σ1) (h2 : FrT1 σ1 σ2) : FrT1 σ σ2 := ⟨fun d d0 d1 => by rw [h2.1 d d0 d1, h.1 d d0 d1], fun j hj => by rw [h2.2 j hj, h.2 j hj]⟩
theorem fw1 {P n s : Nat} {x : Int32} {σ : Sg} {tp : List Int32} {Q : Sg → Prop} (h : TpC σ tp) (hl : tp.length < 120) (hs : s < 100) (hQ : ∀ σ' : Sg, TpC σ' (tp ++ [(x >>> (nI s &&& 31)) &&& 255]) → FrT1 σ σ' → wpX8_feedWord_L3 P Q n x (nI s + (-8)) σ') : wpX8_feedWord_L3 P Q (n + 1) x (nI s) σ := by
  obtain ⟨h1, h2⟩ := h
  unfold wpX8_feedWord_L3
  rw [h1]
  refine brf (nI_pos (by omega)) (brf (nI_ge (a := tp.length) (b := 120) hl (by decide)) ?_)
  rw [nI_1, nI_clamp (n := tp.length) (by omega)]
  rintro _ rfl
  refine ⟨vin rfl hl (by decide), ?_⟩
  rintro _ rfl _ rfl
  refine hQ _ ⟨?_, fun k hk => ?_⟩ ⟨fun d d0 d1 => by rw [up2_o d1, up2_o d0], fun j hj => by rw [up2_o (by decide), up2_e, if_neg (fun hh => hj hh.2)]⟩
  · rw [up2_o (by decide), up2_e, if_pos ⟨rfl, rfl⟩, List.length_append]
    rfl
  · rw [List.length_append, List.length_singleton] at hk
    rw [up2_e]
    by_cases e : k = tp.length
    · rw [if_pos ⟨rfl, e⟩, e, getD_end]
    · rw [if_neg (fun hh => e hh.2), up2_o (by decide), getD_app (by omega)]
      exact h2 k (by omega)
theorem feedWord_ok {P : Nat} {x : Int32} {σ : Sg} {tp : List Int32} {Q : Sg → Prop} (h : TpC σ tp) (hl : tp.length + 4 ≤ 120) (hQ : ∀ σ' : Sg, TpC σ' (tp ++ by4 x) → FrT1 σ σ' → Q σ') : wpX8_feedWord P x σ Q := by
  unfold wpX8_feedWord
  refine ⟨5, fw1 (s := 24) h (by omega) (by decide) (fun σ1 g1 f1 => ?_)⟩
  rw [show nI 24 + (-8) = nI 16 by decide]
  refine fw1 (s := 16) g1 (by rw [List.length_append, List.length_singleton]; omega) (by decide) (fun σ2 g2 f2 => ?_)
  rw [show nI 16 + (-8) = nI 8 by decide]
  refine fw1 (s := 8) g2 (by rw [List.length_append, List.length_append, List.length_singleton, List.length_singleton]; omega) (by decide) (fun σ3 g3 f3 => ?_)
  rw [show nI 8 + (-8) = nI 0 by decide]
  refine fw1 (s := 0) g3 (by rw [List.length_append, List.length_append, List.length_append, List.length_singleton, List.length_singleton, List.length_singleton]; omega) (by decide) (fun σ4 g4 f4 => ?_)
  unfold wpX8_feedWord_L3
  refine brt (by decide) (hQ σ4 ?_ (((f1.tr f2).tr f3).tr f4))
  rw [List.append_assoc, List.append_assoc, List.append_assoc] at g4
  exact g4
def fdW (a b c d e : Int32) (k : Nat) : Int32 := if 4 ≤ k then (if 8 ≤ k then (if 12 ≤ k then (if 16 ≤ k then e else d) else c) else b) else a
def fdB (a b c d e : Int32) (k : Nat) : Int32 := fbY (fdW a b c d e k) (k % 4)
theorem fd_all {a b c d e : Int32} : (List.range 20).map (fdB a b c d e) = by4 a ++ by4 b ++ by4 c ++ by4 d ++ by4 e := rfl
theorem rf17 {a b c d e : Int32} {tp : List Int32} {τ0 : Sg} {Q : Int32 → Sg → Prop} (hl : tp.length + 20 ≤ 120) (h10 : τ0 0 10 = nI tp.length) (hQ : ∀ τ' : Sg, (∀ j, j < 20 → τ' 1 (tp.length + j) = fdB a b c d e j) → (∀ j, j < tp.length → τ' 1 j = τ0 1 j) → (∀ q, q ≠ 1 → τ' q = τ0 q) → ∀ σ3 : Sg, σ3 = up2 τ' 0 10 (nI tp.length + 20) → Q (σ3 0 10) σ3) : ∀ (m k : Nat) (τ : Sg), k + m = 20 → (∀ j, j < k → τ 1 (tp.length + j) = fdB a b c d e j) → (∀ j, j < tp.length → τ 1 j = τ0 1 j) → (∀ q, q ≠ 1 → τ q = τ0 q) → wpX9_feed_L17 Q (m + 1) a b c d e (nI k) τ := by
  intro m
  induction m with
  | zero =>
    intro k τ hk h1 h2 h3
    unfold wpX9_feed_L17
    rw [h3 0 (by decide), h10]
    refine brt (nI_le (a := 20) (b := k) (by omega) (by omega)) (fun σ3 es => hQ τ (fun j hj => h1 j (by omega)) h2 h3 σ3 es)
  | succ m ih =>
    intro k τ hk h1 h2 h3
    have L70 : ∀ z : Int32, z = fdW a b c d e k → wpX9_feed_L70 Q (wpX9_feed_L17 Q (m + 1)) a b c d e (nI k) z τ := by
      intro z hz
      unfold wpX9_feed_L70
      have e4 : nI k - nI k / 4 * 4 = nI (k % 4) := pk_rem (a := k) (d := 4) (by omega) (by decide) (by decide)
      rw [e4]
      rintro _ rfl
      have e8 : (24 : Int32) - 8 * nI (k % 4) = nI (24 - 8 * (k % 4)) := by
        have : (8 : Int32) * nI (k % 4) = nI (8 * (k % 4)) := pk_mul 8 (k % 4)
        rw [this]
        exact pk_sub (a := 24) (by omega)
      rw [e8, h3 0 (by decide), h10, nI_add, nI_clamp (n := tp.length + k) (by omega), nI_1]
      refine ⟨vin rfl (by omega) (by decide), ?_⟩
      rintro _ rfl _ rfl
      refine ih (k + 1) _ (by omega) (fun j hj => ?_) (fun j hj => ?_) (fun q hq => by rw [up2_o hq, h3 q hq])
      · rw [up2_e]
        by_cases ej : j = k
        · rw [if_pos ⟨rfl, by omega⟩, ej, hz]
          rfl
        · rw [if_neg (by omega)]
          exact h1 j (by omega)
      · rw [up2_e, if_neg (by omega)]
        exact h2 j hj
    unfold wpX9_feed_L17
    refine brf (nI_ge (a := k) (b := 20) (by omega) (by decide)) (pk_le 4 k (fun h4 => pk_le 8 k (fun h8 => pk_le 12 k (fun h12 => pk_le 16 k (fun h16 => L70 _ ?_) (fun h16 => L70 _ ?_)) (fun h12 => L70 _ ?_)) (fun h8 => L70 _ ?_)) (fun h4 => L70 _ ?_))
    · unfold fdW; rw [if_pos h4, if_pos h8, if_pos h12, if_pos h16]
    · unfold fdW; rw [if_pos h4, if_pos h8, if_pos h12, if_neg (by omega)]
    · unfold fdW; rw [if_pos h4, if_pos h8, if_neg (by omega)]
    · unfold fdW; rw [if_pos h4, if_neg (by omega)]
    · unfold fdW; rw [if_neg (by omega)]
theorem st_feed : St_feed Rel := by
  intro n P σ τ a b c d e hn hR
  have hup := Rel_up hR
  obtain ⟨B, y, tk, tp, M, hB1, hB3, hP, hC, hM, hI, htp, htb⟩ := hR
  obtain ⟨a1, a2, a3, a4, a5, ⟨a6, a7⟩, a8, a9, a10⟩ := hC
  obtain ⟨⟨b1, b2, b3, b4, ⟨b5, b6⟩, b7⟩, b8, b9, b10⟩ := hM
  unfold wpX8_feed wpX9_feed
  have e20 : nI tp.length + 20 = nI (tp.length + 20) := nI_add tp.length 20
  rw [a6, b5, e20]
  refine ⟨fun h1 => ?_, fun h1 => ⟨fun h => absurd h h1, fun _ => ⟨rfl, hup⟩⟩⟩
  have hl : tp.length + 20 ≤ 120 := (nI_leI (a := tp.length + 20) (b := 120) (by omega) (by decide)).mp h1
  have l4 : ∀ x, (by4 x).length = 4 := fun _ => rfl
  refine feedWord_ok (tp := tp) ⟨a6, a7⟩ (by omega) (fun σ1 g1 f1 => feedWord_ok g1 (by rw [List.length_append, l4]; omega) (fun σ2 g2 f2 => feedWord_ok g2 (by rw [List.length_append, List.length_append, l4, l4]; omega) (fun σ3 g3 f3 => feedWord_ok g3 (by rw [List.length_append, List.length_append, List.length_append, l4, l4, l4]; omega) (fun σ4 g4 f4 => feedWord_ok g4 (by rw [List.length_append, List.length_append, List.length_append, List.length_append, l4, l4, l4, l4]; omega) (fun σ5 g5 f5 => ?_)))))
  have f := (((f1.tr f2).tr f3).tr f4).tr f5
  have etp : tp ++ by4 a ++ by4 b ++ by4 c ++ by4 d ++ by4 e = tp ++ (List.range 20).map (fdB a b c d e) := by
    rw [fd_all, List.append_assoc, List.append_assoc, List.append_assoc, List.append_assoc, List.append_assoc, List.append_assoc, List.append_assoc]
  rw [etp] at g5
  have hlen : (tp ++ (List.range 20).map (fdB a b c d e)).length = tp.length + 20 := by
    rw [List.length_append, List.length_map, List.length_range]
  refine ⟨fun _ => ⟨21, rf17 (tp := tp) (τ0 := τ) hl b5 (fun τ1 q1 q2 q3 => ?_) 20 0 τ (by omega) (fun j hj => by omega) (fun _ _ => rfl) (fun _ _ => rfl)⟩, fun h => absurd h1 h⟩
  rw [e20]
  rintro _ rfl
  rw [g5.1, hlen, up2_e, if_pos ⟨rfl, rfl⟩]
  have e0 : ∀ j, j ≠ 10 → up2 τ1 0 10 (nI (tp.length + 20)) 0 j = τ 0 j := fun j hj => by rw [up2_e, if_neg (fun hh => hj hh.2), q3 0 (by decide)]
  have ec : ∀ q, q ≠ 0 → q ≠ 1 → up2 τ1 0 10 (nI (tp.length + 20)) q = τ q := fun q h0 h1 => by rw [up2_o h0, q3 q h1]
  refine ⟨rfl, B, y, tk, tp ++ (List.range 20).map (fdB a b c d e), M, hB1, hB3, hP, ⟨by rw [f.2 0 (by decide)]; exact a1, by rw [f.2 1 (by decide)]; exact a2, by rw [f.2 9 (by decide)]; exact a3, fun k k1 k2 => by rw [f.2 k (by omega)]; exact a4 k k1 k2, fun k hk => by rw [f.1 4 (by decide) (by decide)]; exact a5 k hk, g5, a8.of (fun d d1 d2 => f.1 d (by omega) (by omega)), fun i hi => (a9 i hi).of (f.1 _ (by omega) (by omega)) (f.1 _ (by omega) (by omega)) (f.1 _ (by omega) (by omega)), fun p hp => by rw [f.1 2 (by decide) (by decide)]; exact a10 p hp⟩, ⟨⟨by rw [e0 0 (by decide)]; exact b1, ⟨fun k hk => by rw [ec 67 (by decide) (by decide)]; exact b2.1 k hk, by rw [e0 1 (by decide)]; exact b2.2.1, by rw [e0 3 (by decide)]; exact b2.2.2⟩, by rw [e0 2 (by decide)]; exact b3, fun k k1 k2 => by rw [e0 k (by omega)]; exact b4 k k1 k2, ⟨?_, fun k hk => ?_⟩, b7.of (fun c c1 c2 _ => ec c (by omega) (by omega))⟩, fun i hi => (b8 i hi).of (fun d d1 d2 => ec d (by omega) (by omega)), fun p hp => ⟨by rw [ec 64 (by decide) (by decide)]; exact (b9 p hp).1, fun k hk => by rw [ec 65 (by decide) (by decide)]; exact (b9 p hp).2 k hk⟩, fun b hb => by rw [ec 14 (by decide) (by decide)]; exact b10 b hb⟩, hI.up, by omega, fun x hx => ?_⟩
  · rw [up2_e, if_pos ⟨rfl, rfl⟩, hlen]
  · rw [up2_o (by decide)]
    rw [hlen] at hk
    rcases Nat.lt_or_ge k tp.length with hk1 | hk1
    · rw [gD_l hk1, q2 k hk1]
      exact b6 k hk1
    · obtain ⟨j, rfl⟩ : ∃ j, k = tp.length + j := ⟨k - tp.length, by omega⟩
      rw [gD_r (by omega), Nat.add_sub_cancel_left, q1 j (by omega), List.getD_eq_getElem?_getD, List.getElem?_map, List.getElem?_range (by omega)]
      rfl
  · rcases List.mem_append.mp hx with h9 | h9
    · exact htb x h9
    · obtain ⟨j, -, rfl⟩ := List.mem_map.mp h9
      exact isB.and _
