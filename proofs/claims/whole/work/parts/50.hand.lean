/-! PURE: a piece is HANDED, in the class -/
abbrev Hst : Type := Option (List Int32) × Inr × (Nat → Un) × Wt
def repU (nc : Nat) (uw : (Nat → Un) × Wt) (pk : List Int32) : (Nat → Un) × Wt := cfRF (hasR pk) (nc - lowK (kpt uw.1) nc) (lowK (kpt uw.1) nc) uw
def hnd1 (ks : Int32 → Nat → Int32) (nc : Nat) (s : Hst) (q : Cel) : Hst := match donB s.1 q with
  | none => (nxtB s.1 q, s.2)
  | some pk => if 128 ≤ pk.getD 0 0 then (nxtB s.1 q, untR ks s.2.1 pk, s.2.2) else (nxtB s.1 q, s.2.1, repU nc s.2.2 pk)
def hndL (ks : Int32 → Nat → Int32) (nc : Nat) : List Cel → Hst → Hst
  | [], s => s
  | q :: l, s => hndL ks nc l (hnd1 ks nc s q)
def pkOK (pk : List Int32) : Prop := 2 ≤ pk.length ∧ pk.length ≤ 121 ∧ (∃ b, pk.getD 0 0 = nI b ∧ b < 256 ∧ (b < 64 ∨ 128 ≤ b)) ∧ ∀ x ∈ pk, isB x
def okS (bg : Option (List Int32)) (q : Cel) : Prop := celOK q ∧ (∀ pk, curB bg q = some pk → pk.length < 121) ∧ ∀ pk, donB bg q = some pk → pkOK pk
def hndV : Option (List Int32) → List Cel → Prop
  | _, [] => True
  | bg, q :: l => okS bg q ∧ hndV (nxtB bg q) l
theorem hnd1_bg {ks : Int32 → Nat → Int32} {nc : Nat} {s : Hst} {q : Cel} : (hnd1 ks nc s q).1 = nxtB s.1 q := by
  unfold hnd1
  split
  · rfl
  · split <;> rfl
theorem obV_rep {nc : Nat} {uw : (Nat → Un) × Wt} {pk : List Int32} (h : ObV nc uw.1 uw.2) : ObV nc (repU nc uw pk).1 (repU nc uw pk).2 := obV_cfRF _ _ _ h
theorem obK_rep {ks : Nat → Nat → Int32} {nc : Nat} {uw : (Nat → Un) × Wt} {pk : List Int32} (h : ObK ks uw.1 uw.2) : ObK ks (repU nc uw pk).1 (repU nc uw pk).2 := obK_cfRF _ _ _ h
theorem obV_hnd1 {ks : Int32 → Nat → Int32} {nc : Nat} {s : Hst} {q : Cel} (h : ObV nc s.2.2.1 s.2.2.2) : ObV nc (hnd1 ks nc s q).2.2.1 (hnd1 ks nc s q).2.2.2 := by
  unfold hnd1
  split
  · exact h
  · split
    · exact h
    · exact obV_rep (uw := s.2.2) h
theorem obV_hndL {ks : Int32 → Nat → Int32} {nc : Nat} : ∀ (l : List Cel) (s : Hst), ObV nc s.2.2.1 s.2.2.2 → ObV nc (hndL ks nc l s).2.2.1 (hndL ks nc l s).2.2.2
  | [], _, h => h
  | _ :: l, _, h => obV_hndL l _ (obV_hnd1 h)
theorem obK_hndL {ks : Int32 → Nat → Int32} {kc : Nat → Nat → Int32} {nc : Nat} : ∀ (l : List Cel) (s : Hst), ObK kc s.2.2.1 s.2.2.2 → ObK kc (hndL ks nc l s).2.2.1 (hndL ks nc l s).2.2.2
  | [], _, h => h
  | q :: l, s, h => by
    refine obK_hndL l _ ?_
    unfold hnd1
    split
    · exact h
    · split
      · exact h
      · exact obK_rep (uw := s.2.2) h
def FrH (pl : Nat) (σ σ' : Sg) : Prop := ∀ d, (d < 11 + 113 * pl ∨ 19 + 113 * pl ≤ d) → (d < 53 + 113 * pl ∨ 58 + 113 * pl ≤ d) → d ≠ 5 → d ≠ 6 → σ' d = σ d
theorem ObC.of {σ σ' : Sg} {o mk nc : Nat} {un : Nat → Un} {w : Wt} (h : ObC σ o mk nc un w) (hd : ∀ d, o ≤ d → d < o + 8 → σ' d = σ d) : ObC σ' o mk nc un w := by
  unfold ObC ObU UnC ObW at *
  rw [hd o (by omega) (by omega), hd (o + 1) (by omega) (by omega), hd (o + 2) (by omega) (by omega), hd (o + 3) (by omega) (by omega), hd (o + 4) (by omega) (by omega), hd (o + 5) (by omega) (by omega), hd (o + 6) (by omega) (by omega), hd (o + 7) (by omega) (by omega)]
  exact h
theorem InR.of' {σ σ' : Sg} {o mk : Nat} {r : Inr} (h : InR σ o mk r) (hd : ∀ d, o ≤ d → d < o + 5 → σ' d = σ d) : InR σ' o mk r := h.of (fun k _ _ => by rw [hd o (by omega) (by omega)]) (hd _ (by omega) (by omega)) (hd _ (by omega) (by omega)) (hd _ (by omega) (by omega))
theorem BgC.of {σ σ' : Sg} {o : Nat} {bg : Option (List Int32)} (h : BgC σ o bg) (hd : ∀ d, o ≤ d → d < o + 5 → σ' d = σ d) : BgC σ' o bg := by
  cases bg with
  | none =>
    show σ' o 3 = 0
    rw [hd o (by omega) (by omega)]
    exact h
  | some pk =>
    obtain ⟨h1, h2, h3⟩ := h
    exact ⟨by rw [hd o (by omega) (by omega)]; exact h1, by rw [hd o (by omega) (by omega)]; exact h2, fun k hk => by rw [hd _ (by omega) (by omega)]; exact h3 k hk⟩
theorem donB_none {bg : Option (List Int32)} {q : Cel} {pk : List Int32} (h : donB bg q = some pk) : nxtB bg q = none := by
  unfold donB at h
  unfold nxtB
  split at h
  · cases h
  · split at h
    · next e2 => simp [e2]
    · cases h
theorem takePacket_ok {P pl : Nat} {σ : Sg} {mkI mkO nc : Nat} {r : Inr} {un : Nat → Un} {w : Wt} {pk : List Int32} {Q : Sg → Prop} (hpl : pl < P) (hP6 : P ≤ 6) (hI : InR σ (53 + 113 * pl) mkI r) (hP : PkC σ (53 + 113 * pl) pk) (h3 : σ (53 + 113 * pl) 3 = 0) (hpk : pkOK pk) (hC : ObC σ (11 + 113 * pl) mkO nc un w) (hV : ObV nc un w) (h : ∀ (σ' : Sg) (s : Hst), s = (if 128 ≤ pk.getD 0 0 then (none, untR (ksI (σ 4) mkI) r pk, un, w) else (none, r, repU nc (un, w) pk)) → InR σ' (53 + 113 * pl) mkI s.2.1 → BgC σ' (53 + 113 * pl) s.1 → ObC σ' (11 + 113 * pl) mkO nc s.2.2.1 s.2.2.2 → FrH pl σ σ' → Q σ') : wpX8_takePacket P sbT (nI pl) (53 + 113 * pl) σ Q := by
  obtain ⟨p1, p2, ⟨b, eb, hb1, hb2⟩, p4⟩ := hpk
  rcases hb2 with hb2 | hb2
  · have hn : ¬ (128 : Int32) ≤ pk.getD 0 0 := by
      rw [eb]
      exact nI_ge (a := b) (b := 128) (by omega) (by decide)
    have e0 : σ (53 + 113 * pl + 1) 0 = pk.getD 0 0 := hP.2 0 (by omega)
    unfold wpX8_takePacket
    rw [e0, hP.1]
    refine brf hn ⟨vin rfl hpl (by omega), ?_⟩
    rintro _ rfl
    rw [nI_clamp (by omega), show 9 + 113 * pl + 2 = 11 + 113 * pl by omega]
    refine confirmReported_ok hC hV p1 p2 p4 hP.2 (by omega) (fun σ' g1 g2 => h σ' _ (if_neg hn).symm ?_ ?_ g1 (fun d h1 h2 h3 h4 => g2 d (by omega)))
    · exact hI.of' (fun d d1 d2 => g2 d (by omega))
    · show σ' (53 + 113 * pl) 3 = 0
      rw [g2 _ (by omega)]
      exact h3
  · have hn : (128 : Int32) ≤ pk.getD 0 0 := by
      rw [eb]
      exact nI_le (a := 128) hb2 (by omega)
    refine takeU_ok hI hP p1 p2 ⟨b, eb, hb2, hb1⟩ (by omega) (fun σ' g1 g2 g3 => h σ' _ (if_pos hn).symm g1 ?_ (hC.of (fun d d1 d2 => g3 d (by omega) (by omega) (by omega))) (fun d h1 h2 h3 h4 => g3 d (by omega) h3 h4))
    show σ' (53 + 113 * pl) 3 = 0
    rw [g2]
    exact h3
theorem hd1 {P pl p : Nat} {mkI mkO nc : Nat} {key : Nat → Int32} {n : Nat} {Q : Sg → Prop} (hpl : pl < P) (hP6 : P ≤ 6) (hp : 58 + 113 * pl ≤ p ∧ p + 1 < 122 + 113 * pl) (hn : n ≤ 240) : ∀ (l : List Cel) (i : Nat) (σ : Sg) (s : Hst), i + l.length = n → σ p 1 = nI n → (∀ k, k < l.length → σ (p + 1) (i + k) = cod (rc (gc l k)) true) → σ 4 = key → InR σ (53 + 113 * pl) mkI s.2.1 → BgC σ (53 + 113 * pl) s.1 → ObC σ (11 + 113 * pl) mkO nc s.2.2.1 s.2.2.2 → ObV nc s.2.2.1 s.2.2.2 → hndV s.1 l → (∀ σ' : Sg, InR σ' (53 + 113 * pl) mkI (hndL (ksI key mkI) nc l s).2.1 → BgC σ' (53 + 113 * pl) (hndL (ksI key mkI) nc l s).1 → ObC σ' (11 + 113 * pl) mkO nc (hndL (ksI key mkI) nc l s).2.2.1 (hndL (ksI key mkI) nc l s).2.2.2 → FrH pl σ σ' → Q σ') → wpX8_hand_L13 P sbT Q (l.length + 1) (nI pl) p (53 + 113 * pl) (nI i) σ := by
  intro l
  induction l with
  | nil =>
    intro i σ s hi h1 hc hk hI hB hC hV hW h
    unfold wpX8_hand_L13
    rw [h1]
    rw [List.length_nil] at hi
    exact brt (nI_le (by omega) (by omega)) (h σ hI hB hC (fun _ _ _ _ _ => rfl))
  | cons q l ih =>
    intro i σ s hi h1 hc hk hI hB hC hV hW h
    rw [List.length_cons] at hi
    show wpX8_hand_L13 P sbT Q (l.length + 1 + 1) (nI pl) p (53 + 113 * pl) (nI i) σ
    unfold wpX8_hand_L13
    rw [h1]
    refine brf (nI_ge (by omega) (by omega)) (cell_ok (by omega) ?_)
    have hc0 : σ (p + 1) i = cod (rc q) true := hc 0 (by simp)
    obtain ⟨⟨w1, w2, w3⟩, w4⟩ := hW
    rw [hc0]
    refine completes_ok (q := rc q) hI hB w1.rc w2 (fun σ1 g1 g2 g3 g4 => ?_)
    have hC1 : ObC σ1 (11 + 113 * pl) mkO nc s.2.2.1 s.2.2.2 := hC.of (fun d d1 d2 => g4 d (by omega))
    have hnx : ∀ σ2 : Sg, InR σ2 (53 + 113 * pl) mkI (hnd1 (ksI key mkI) nc s q).2.1 → BgC σ2 (53 + 113 * pl) (hnd1 (ksI key mkI) nc s q).1 → ObC σ2 (11 + 113 * pl) mkO nc (hnd1 (ksI key mkI) nc s q).2.2.1 (hnd1 (ksI key mkI) nc s q).2.2.2 → FrH pl σ σ2 → wpX8_hand_L41 P sbT Q (wpX8_hand_L13 P sbT Q (l.length + 1)) (nI pl) p (53 + 113 * pl) (nI i) σ2 := by
      intro σ2 k1 k2 k3 k4
      unfold wpX8_hand_L41
      rintro _ rfl
      rw [nI_1]
      refine ih (i + 1) σ2 (hnd1 (ksI key mkI) nc s q) (by omega) ?_ (fun k hk9 => ?_) ?_ k1 k2 k3 (obV_hnd1 hV) (by rw [hnd1_bg]; exact w4) (fun σ' j1 j2 j3 j4 => h σ' j1 j2 j3 (fun d d1 d2 d3 d4 => by rw [j4 d d1 d2 d3 d4, k4 d d1 d2 d3 d4]))
      · rw [k4 p (by omega) (by omega) (by omega) (by omega)]; exact h1
      · rw [k4 (p + 1) (by omega) (by omega) (by omega) (by omega)]
        have := hc (k + 1) (by simp; omega)
        rw [show i + 1 + k = i + (k + 1) by omega]
        exact this
      · rw [k4 4 (by omega) (by omega) (by omega) (by omega)]; exact hk
    cases ed : donB s.1 q with
    | none =>
      have ed' : donB s.1 (rc q) = none := ed
      rw [ed']
      have e1 : hnd1 (ksI key mkI) nc s q = (nxtB s.1 q, s.2) := by unfold hnd1; rw [ed]
      rw [e1] at hnx
      exact brt rfl (hnx σ1 g1 g2 hC1 (fun d d1 d2 d3 d4 => g4 d (by omega)))
    | some pk =>
      have ed' : donB s.1 (rc q) = some pk := ed
      rw [ed']
      have hB1 : σ1 (53 + 113 * pl) 3 = 0 := by
        have e9 : nxtB s.1 (rc q) = none := donB_none ed
        rw [e9] at g2
        exact g2
      refine brf (show ¬ (1 : Int32) = 0 by decide) (takePacket_ok hpl hP6 g1 (g3 pk ed) hB1 (w3 pk ed) hC1 hV (fun σ2 s2 es k1 k2 k3 k4 => hnx σ2 ?_ ?_ ?_ (fun d d1 d2 d3 d4 => by rw [k4 d d1 d2 d3 d4, g4 d (by omega)])))
      all_goals
        have e4 : σ1 4 = key := by rw [g4 4 (by omega)]; exact hk
        have e1 : hnd1 (ksI key mkI) nc s q = s2 := by
          rw [es, e4]
          unfold hnd1
          rw [ed, donB_none ed]
        rw [e1]
        first | exact k1 | exact k2 | exact k3
theorem hand_ok {P pl p : Nat} {mkI mkO nc : Nat} {σ : Sg} {s : Hst} {l : List Cel} {Q : Sg → Prop} (hpl : pl < P) (hP6 : P ≤ 6) (hp : 58 + 113 * pl ≤ p ∧ p + 1 < 122 + 113 * pl) (hn : l.length ≤ 240) (h1 : σ p 1 = nI l.length) (hc : ∀ k, k < l.length → σ (p + 1) k = cod (rc (gc l k)) true) (hI : InR σ (53 + 113 * pl) mkI s.2.1) (hB : BgC σ (53 + 113 * pl) s.1) (hC : ObC σ (11 + 113 * pl) mkO nc s.2.2.1 s.2.2.2) (hV : ObV nc s.2.2.1 s.2.2.2) (hW : hndV s.1 l) (h : ∀ σ' : Sg, InR σ' (53 + 113 * pl) mkI (hndL (ksI (σ 4) mkI) nc l s).2.1 → BgC σ' (53 + 113 * pl) (hndL (ksI (σ 4) mkI) nc l s).1 → ObC σ' (11 + 113 * pl) mkO nc (hndL (ksI (σ 4) mkI) nc l s).2.2.1 (hndL (ksI (σ 4) mkI) nc l s).2.2.2 → FrH pl σ σ' → Q σ') : wpX8_hand P sbT (nI pl) p σ Q := by
  unfold wpX8_hand
  refine ⟨vin rfl hpl (by omega), ?_⟩
  rintro _ rfl
  rw [nI_clamp (by omega), show 51 + 113 * pl + 2 = 53 + 113 * pl by omega]
  exact ⟨l.length + 1, hd1 hpl hP6 hp hn l 0 σ s (by omega) h1 (fun k hk => by rw [Nat.zero_add]; exact hc k hk) rfl hI hB hC hV hW h⟩
