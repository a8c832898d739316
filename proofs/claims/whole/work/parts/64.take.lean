/-! PURE: DATA is taken, in the class -/
abbrev Dst : Type := (Nat → Nat) × Hst
def dlS (G : Nat → List Cel) (ks : Int32 → Nat → Int32) (nc : Nat) (s : Dst) : Dst := (pasV s.1, hndL ks nc (G (s.1 2)) s.2)
def dlL (G : Nat → List Cel) (pc : Rpc) (ks : Int32 → Nat → Int32) (nc : Nat) : Nat → Dst → Dst
  | 0, s => s
  | m + 1, s => if whl G (s.1 2) (s.1 3) pc (s.1 2) = true then dlL G pc ks nc m (dlS G ks nc s) else s
/-- what the handing of pieces needs -/
def DlV (G : Nat → List Cel) (pc : Rpc) (s : Dst) : Prop := RvB s.1 ∧ s.1 2 ≤ s.1 4 ∧ s.1 4 ≤ s.1 3 ∧ s.1 3 ≤ s.1 2 + 31 ∧ pc (s.1 2 + 32) = (false, fun _ => false) ∧ ((G (s.1 2 + 32)).length ≤ 240 ∧ ∀ q ∈ G (s.1 2 + 32), celOK q) ∧ hndV s.2.1 (G (s.1 2))
theorem FrH.cells {pl : Nat} {σ σ' : Sg} (h : FrH pl σ σ') {d : Nat} (h1 : 58 + 113 * pl ≤ d) : σ' d = σ d := h d (by omega) (by omega) (by omega) (by omega)
theorem td34 {P pl a mkI mkO nc f0 : Nat} {key : Nat → Int32} {x6 : Int32} {G : Nat → List Cel} {pc : Rpc} {Gd : Dst → Prop} {Q : Sg → Prop} {σ0 : Sg} (hpl : pl < P) (hP6 : P ≤ 6) (hG1 : ∀ s : Dst, Gd s → whl G (s.1 2) (s.1 3) pc (s.1 2) = true → DlV G pc s) (hG2 : ∀ s : Dst, Gd s → whl G (s.1 2) (s.1 3) pc (s.1 2) = true → Gd (dlS G (ksI key mkI) nc s)) (hGb : ∀ s : Dst, Gd s → RvB s.1) : ∀ (m i : Nat) (σ : Sg) (s : Dst), i + m = 32 → Gd s → RcS σ (51 + 113 * pl) s.1 → RpsC σ (51 + 113 * pl) (s.1 2) G pc → InR σ (53 + 113 * pl) mkI s.2.2.1 → BgC σ (53 + 113 * pl) s.2.1 → ObC σ (11 + 113 * pl) mkO nc s.2.2.2.1 s.2.2.2.2 → ObV nc s.2.2.2.1 s.2.2.2.2 → σ 4 = key → (∀ d, (d < 11 + 113 * pl ∨ 19 + 113 * pl ≤ d) → (d < 51 + 113 * pl ∨ 122 + 113 * pl ≤ d) → d ≠ 5 → d ≠ 6 → σ d = σ0 d) → (∀ (σ' : Sg) (t : Dst), t = dlL G pc (ksI key mkI) nc m s → Gd t → RcS σ' (51 + 113 * pl) t.1 → RpsC σ' (51 + 113 * pl) (t.1 2) G pc → InR σ' (53 + 113 * pl) mkI t.2.2.1 → BgC σ' (53 + 113 * pl) t.2.1 → ObC σ' (11 + 113 * pl) mkO nc t.2.2.2.1 t.2.2.2.2 → (∀ d, (d < 11 + 113 * pl ∨ 19 + 113 * pl ≤ d) → (d < 51 + 113 * pl ∨ 122 + 113 * pl ≤ d) → d ≠ 5 → d ≠ 6 → σ' d = σ0 d) → wpX8_takeData_L80 P sbT Q a (nI f0) (51 + 113 * pl) x6 σ') → wpX8_takeData_L34 P sbT Q (m + 1) (nI pl) a (nI f0) (51 + 113 * pl) x6 (nI i) σ := by
  intro m
  induction m with
  | zero =>
    intro i σ s hi hGd hS hP hI hB hC hV h4 hF h
    unfold wpX8_takeData_L34
    exact pk_le 32 i (fun _ => h σ s rfl hGd hS hP hI hB hC hF) (fun hh => by omega)
  | succ m ih =>
    intro i σ s hi hGd hS hP hI hB hC hV h4 hF h
    have hb := hGb s hGd
    have b2 := hb 2 (by decide) (by decide)
    unfold wpX8_takeData_L34
    rw [hS.1 2 (by decide) (by decide) (by decide)]
    refine pk_le 32 i (fun hh => by omega) (fun _ => isWhole_ok hS hb hP (Nat.le_refl _) (by omega) (br01 (fun e => ?_) (fun e => ?_)))
    · refine h σ s ?_ hGd hS hP hI hB hC hF
      unfold dlL
      rw [if_neg (by rw [e]; decide)]
    · obtain ⟨d1, d2, d3, d4, d5, d6, d7⟩ := hG1 s hGd e
      have hw := of_decide_eq_true e
      have hpx := hP (s.1 2) (Nat.le_refl _) (by omega)
      obtain ⟨p1, p2, p3, p4, p5, p6⟩ := hpx
      rw [hS.1 2 (by decide) (by decide) (by decide)]
      unfold wpX6_pieceAt
      rw [a31 (by omega), nI_clamp (by omega)]
      refine ⟨vin rfl (by omega) (by decide), ?_⟩
      rintro _ rfl
      -- all its bytes are there
      have hall : ∀ k, k < (G (s.1 2)).length → (pc (s.1 2)).2 k = true := by
        have hsp := cnt_split (f := (pc (s.1 2)).2) (a := 0) (m := (G (s.1 2)).length) (240 - (G (s.1 2)).length)
        rw [show (G (s.1 2)).length + (240 - (G (s.1 2)).length) = 240 by omega] at hsp
        have h0 : cnt (pc (s.1 2)).2 (0 + (G (s.1 2)).length) (240 - (G (s.1 2)).length) = 0 := cnt_0 _ (fun k k1 k2 => by
          cases ek : (pc (s.1 2)).2 k with
          | false => rfl
          | true => have := p5 k ek; omega)
        have hc := (cnt_all (f := (pc (s.1 2)).2) (a := 0) (G (s.1 2)).length).mp (by omega)
        exact fun k hk => hc k (Nat.zero_le _) (by omega)
      refine hand_ok (s := s.2) (l := G (s.1 2)) hpl hP6 (by omega) p2 ?_ (fun k hk => ?_) hI hB hC hV d7 (fun σ1 g1 g2 g3 g4 => ?_)
      · rw [p1, if_pos hw.2.2.1]
      · rw [p6 k (by omega), if_pos (hall k hk)]
      · rw [h4] at g1 g2 g3
        have hS1 : RcS σ1 (51 + 113 * pl) s.1 := hS.of (g4 _ (by omega) (by omega) (by omega) (by omega))
        have hP1 : RpsC σ1 (51 + 113 * pl) (s.1 2) G pc := hP.of (fun d q1 q2 => g4.cells (by omega))
        refine passLow_ok hS1 hb hP1 d5 d6 (fun σ2 k1 k2 k3 => ?_)
        rintro _ rfl
        rw [nI_1]
        have e2 : pasV s.1 2 = s.1 2 + 1 := by unfold pasV; rw [vup_o (by decide), vup_s]
        refine ih (i + 1) σ2 (dlS G (ksI key mkI) nc s) (by omega) (hG2 s hGd e) k1 (by show RpsC σ2 _ (pasV s.1 2) G pc; rw [e2]; exact k2) (g1.of' (fun d q1 q2 => k3 d (by omega) (by omega))) (g2.of (fun d q1 q2 => k3 d (by omega) (by omega))) (g3.of (fun d q1 q2 => k3 d (by omega) (by omega))) (obV_hndL _ _ hV) ?_ (fun d q1 q2 q3 q4 => ?_) (fun σ' t et => h σ' t ?_)
        · rw [k3 4 (by omega) (by omega), g4 4 (by omega) (by omega) (by omega) (by omega)]; exact h4
        · rw [k3 d (by omega) (by omega), g4 d q1 (by omega) q3 q4, hF d q1 q2 q3 q4]
        · rw [et, dlL, if_pos e]
/-- DATA at a place -/
def tdN (G : Nat → List Cel) (ks : Int32 → Nat → Int32) (x fr to : Nat) (poll : Bool) (s : Smd) (r : Rmd) : Dst := dlL G (pcu r.2.1 x ((r.2.1 x).1 || decide (to = (G x).length)) (orT (r.2.1 x).2 fr to)) ks s.2.2.2.1 32 (raiV G (pcu r.2.1 x ((r.2.1 x).1 || decide (to = (G x).length)) (orT (r.2.1 x).2 fr to)) (novV r.2.1 x fr to r.1), r.2.2.1, r.2.2.2, s.2.2.2.2)
def tdM (G : Nat → List Cel) (ks : Int32 → Nat → Int32) (x fr to : Nat) (poll : Bool) (sr : Smd × Rmd) : Smd × Rmd := if x < sr.2.1 2 then (sr.1, oldV poll sr.2.1, sr.2.2) else ((sr.1.1, sr.1.2.1, sr.1.2.2.1, sr.1.2.2.2.1, (tdN G ks x fr to poll sr.1 sr.2).2.2.2), (setV x poll (tdN G ks x fr to poll sr.1 sr.2).1, pcu sr.2.2.1 x ((sr.2.2.1 x).1 || decide (to = (G x).length)) (orT (sr.2.2.1 x).2 fr to), (tdN G ks x fr to poll sr.1 sr.2).2.1, (tdN G ks x fr to poll sr.1 sr.2).2.2.1))
theorem takeData_ok {P pl a f0 x fr to mkI mkO : Nat} {σ : Sg} {G : Nat → List Cel} {s : Smd} {r : Rmd} {poll : Bool} {bs : List Int32} {Gd : Dst → Prop} {Q : Sg → Prop} (hpl : pl < P) (hP6 : P ≤ 6) (ha : 9 + 113 * P ≤ a) (hS : SmC σ (9 + 113 * pl) mkO s) (hR : RmC σ (51 + 113 * pl) mkI G r) (hOV : ObV s.2.2.2.1 s.2.2.2.2.1 s.2.2.2.2.2) (hRV : RvV r.1) (h7 : r.1 7 ≤ 1) (hA : Air σ a bs) (hw : wfF (G x)) (hto : to ≤ (G x).length) (hft : fr < to) (hD : ∀ k, k < (prB G (.inl (x, fr, to, poll))).length → bs.getD (f0 + k) 0 = (prB G (.inl (x, fr, to, poll))).getD k 0) (hf : f0 + (prB G (.inl (x, fr, to, poll))).length ≤ bs.length) (hx1 : r.1 2 ≤ x + 32) (hx2 : x < r.1 2 + 31) (hx3 : x + 1 < 2 ^ 20) (hG0 : r.1 2 ≤ x → Gd (raiV G (pcu r.2.1 x ((r.2.1 x).1 || decide (to = (G x).length)) (orT (r.2.1 x).2 fr to)) (novV r.2.1 x fr to r.1), r.2.2.1, r.2.2.2, s.2.2.2.2)) (hG1 : ∀ t : Dst, Gd t → whl G (t.1 2) (t.1 3) (pcu r.2.1 x ((r.2.1 x).1 || decide (to = (G x).length)) (orT (r.2.1 x).2 fr to)) (t.1 2) = true → DlV G (pcu r.2.1 x ((r.2.1 x).1 || decide (to = (G x).length)) (orT (r.2.1 x).2 fr to)) t) (hG2 : ∀ t : Dst, Gd t → whl G (t.1 2) (t.1 3) (pcu r.2.1 x ((r.2.1 x).1 || decide (to = (G x).length)) (orT (r.2.1 x).2 fr to)) (t.1 2) = true → Gd (dlS G (ksI (σ 4) mkI) s.2.2.2.1 t)) (hGb : ∀ t : Dst, Gd t → RvB t.1) (h : ∀ (σ' : Sg) (t : Smd × Rmd), t = tdM G (ksI (σ 4) mkI) x fr to poll (s, r) → SmC σ' (9 + 113 * pl) mkO t.1 → RmC σ' (51 + 113 * pl) mkI G t.2 → (∀ d, (d < 9 + 113 * pl ∨ 122 + 113 * pl ≤ d) → d ≠ 5 → d ≠ 6 → σ' d = σ d) → Q σ') : wpX8_takeData P sbT (nI pl) a (nI f0) (nI (f0 + (prB G (.inl (x, fr, to, poll))).length)) σ Q := by
  obtain ⟨hS1, hS2, hS3⟩ := hS
  obtain ⟨hR1, hR2, hR3, hR4⟩ := hR
  obtain ⟨v1, v2, v3, v4, v5⟩ := hRV
  have hS3o := hS3
  have hR3o := hR3
  have hR4o := hR4
  have e53 : 51 + 113 * pl + 2 = 53 + 113 * pl := by omega
  have e11 : 9 + 113 * pl + 2 = 11 + 113 * pl := by omega
  rw [e53] at hR3 hR4
  rw [e11] at hS3
  have b2 := v1 2 (by decide) (by decide)
  have b3 := v1 3 (by decide) (by decide)
  have hbs := hA.2.1
  have epr : prB G (.inl (x, fr, to, poll)) = datL (G x) x fr to (decide (0 < fr ∨ to < (G x).length)) poll := rfl
  rw [epr] at hD hf ⊢
  unfold wpX8_takeData
  refine ⟨vin rfl hpl (by omega), ?_⟩
  rintro _ rfl
  rw [nI_clamp (by omega)]
  by_cases hx : r.1 2 ≤ x
  · have hG0 := hG0 hx
    refine takeBytes_ok hR1 v1 hR2 hA (by omega) hw hto hft rfl hD hf hx (by omega) (fun σ1 g1 g2 g3 => ?_)
    have e2 : novV r.2.1 x fr to r.1 2 = r.1 2 := by
      unfold novV novV1
      rw [vup_o (by decide)]
      split
      · rw [vup_o (by decide), vup_o (by decide)]
      · rw [vup_o (by decide)]
    have e4 : novV r.2.1 x fr to r.1 4 = r.1 4 := by
      unfold novV novV1
      rw [vup_o (by decide)]
      split
      · rw [vup_o (by decide), vup_o (by decide)]
      · rw [vup_o (by decide)]
    have e3 : novV r.2.1 x fr to r.1 3 = max (r.1 3) (x + 1) := by unfold novV; exact vup_s
    have hbn : RvB (novV r.2.1 x fr to r.1) := by
      unfold novV
      refine RvB.put ?_ (by omega)
      unfold novV1
      intro k k1 k2
      split
      · rw [vup_o (by omega), vup_o (by omega)]; exact v1 k k1 k2
      · rw [vup_o (by omega)]; exact v1 k k1 k2
    refine brf' (neg1 (by omega)) ?_
    have hF1 : ∀ d, (d < 9 + 113 * pl ∨ 122 + 113 * pl ≤ d) → σ1 d = σ d := fun d hd => g3 d (by omega) (by omega)
    refine raiseTold_ok g1 hbn (by rw [e2]; exact g2) (by omega) (by omega) (by omega) (fun σ2 k1 k2 => ?_)
    have er2 : raiV G (pcu r.2.1 x ((r.2.1 x).1 || decide (to = (G x).length)) (orT (r.2.1 x).2 fr to)) (novV r.2.1 x fr to r.1) 2 = r.1 2 := by
      unfold raiV
      rw [vup_o (by decide)]
      exact e2
    have hd2 : ∀ d, d ≠ 51 + 113 * pl → d < 58 + 113 * pl ∨ 122 + 113 * pl ≤ d → σ2 d = σ d := fun d d1 d2 => by rw [k2 d d1, g3 d d1 (by omega)]
    have h42 : σ2 4 = σ 4 := hd2 4 (by omega) (by omega)
    refine ⟨33, td34 (mkI := mkI) (mkO := mkO) (nc := s.2.2.2.1) (key := σ 4) (G := G) (Gd := Gd) (pc := pcu r.2.1 x ((r.2.1 x).1 || decide (to = (G x).length)) (orT (r.2.1 x).2 fr to)) (σ0 := σ2) hpl hP6 hG1 hG2 hGb 32 0 σ2 (raiV G (pcu r.2.1 x ((r.2.1 x).1 || decide (to = (G x).length)) (orT (r.2.1 x).2 fr to)) (novV r.2.1 x fr to r.1), r.2.2.1, r.2.2.2, s.2.2.2.2) rfl hG0 k1 ?_ ?_ ?_ ?_ hOV h42 (fun _ _ _ _ _ => rfl) (fun σ3 t et tG t1 t2 t3 t4 t5 t6 => ?_)⟩
    · have hg := g2.of (σ' := σ2) (fun d d1 d2 => k2 d (by omega))
      rw [← er2] at hg
      exact hg
    · exact hR4.of' (fun d d1 d2 => hd2 d (by omega) (by omega))
    · exact hR3.of (fun d d1 d2 => hd2 d (by omega) (by omega))
    · exact hS3.of (fun d d1 d2 => hd2 d (by omega) (by omega))
    · have hA3 : Air σ3 a bs := hA.of (by rw [t6 a (by omega) (by omega) (by omega) (by omega), hd2 a (by omega) (by omega)]) (by rw [t6 (a + 1) (by omega) (by omega) (by omega) (by omega), hd2 _ (by omega) (by omega)])
      have hlen := datL_len (l := G x) (x := x) (fr := fr) (to := to) (part := decide (0 < fr ∨ to < (G x).length)) (poll := poll)
      have d0 := hD 0 (by omega)
      rw [Nat.add_zero, datL_0] at d0
      unfold wpX8_takeData_L80
      refine at_ok hA3 (by omega) ?_
      rw [d0]
      have et' : t = tdN G (ksI (σ 4) mkI) x fr to poll s r := et
      have em : tdM G (ksI (σ 4) mkI) x fr to poll (s, r) = ((s.1, s.2.1, s.2.2.1, s.2.2.2.1, t.2.2.2), (setV x poll t.1, pcu r.2.1 x ((r.2.1 x).1 || decide (to = (G x).length)) (orT (r.2.1 x).2 fr to), t.2.1, t.2.2.1)) := by
        unfold tdM
        rw [if_neg (by show ¬ x < r.1 2; omega), et']
      have fin : wpX8_takeData_L100 P sbT Q (b01 poll) (nI x) (51 + 113 * pl) σ3 := by
        unfold wpX8_takeData_L100
        refine settle_ok t1 (hGb t tG) (by omega) (fun σ4 q1 q2 => h σ4 _ em.symm ⟨?_, ?_, ?_⟩ ⟨q1, ?_, ?_, ?_⟩ (fun d d1 d2 d3 => ?_))
        · exact hS1.of (by rw [q2 _ (by omega), t6 _ (by omega) (by omega) (by omega) (by omega), hd2 _ (by omega) (by omega)])
        · exact hS2.of (fun d d1 d2 => by rw [q2 _ (by omega), t6 _ (by omega) (by omega) (by omega) (by omega), hd2 _ (by omega) (by omega)])
        · rw [e11]
          exact t5.of (fun d d1 d2 => q2 d (by omega))
        · have es : setV x poll t.1 2 = t.1 2 := by
            have ea : ∀ u : Nat → Nat, ansV u 2 = u 2 := fun u => by
              unfold ansV
              split
              · rfl
              · rw [vup_o (by decide), vup_o (by decide)]
            have e1 : ∀ u : Nat → Nat, setV1 u 2 = u 2 := fun u => by
              unfold setV1
              split
              · rfl
              · rw [vup_o (by decide)]
            have e2 : ∀ u : Nat → Nat, setV2 u 2 = u 2 := fun u => by
              unfold setV2
              split
              · rw [vup_o (by decide), vup_o (by decide)]
              · rfl
            unfold setV
            split
            · rw [ea, vup_o (by decide), e2, e1, ea]
            · rw [e2, e1, ea]
          have hg := t2.of (σ' := σ4) (fun d d1 d2 => q2 d (by omega))
          rw [← es] at hg
          exact hg
        · rw [e53]
          exact t4.of (fun d d1 d2 => q2 d (by omega))
        · rw [e53]
          exact t3.of' (fun d d1 d2 => q2 d (by omega))
        · rw [q2 d (by omega), t6 d (by omega) (by omega) d2 d3, hd2 d (by omega) (by omega)]
      refine brbit hdI_32 (fun e => ?_) (fun e => ?_)
      · rw [e] at fin
        exact fin
      · rw [e] at fin
        exact fin
  · refine takeOld_ok hR1 v1 h7 hA (by omega) hD (by omega) (by omega) hx1 (fun σ1 g1 g2 => ?_)
    have em : tdM G (ksI (σ 4) mkI) x fr to poll (s, r) = (s, oldV poll r.1, r.2) := by
      unfold tdM
      rw [if_pos (by show x < r.1 2; omega)]
    refine brt' rfl (h σ1 _ em.symm (SmC.of ⟨hS1, hS2, hS3o⟩ (fun d d1 d2 => g2 d (by omega))) ⟨g1, ?_, hR3o.of (fun d d1 d2 => g2 d (by omega)), hR4o.of' (fun d d1 d2 => g2 d (by omega))⟩ (fun d d1 d2 d3 => g2 d (by omega)))
    have eo : oldV poll r.1 2 = r.1 2 := by unfold oldV; rw [vup_o (by decide), vup_o (by decide), vup_o (by decide)]
    show RpsC σ1 _ (oldV poll r.1 2) G r.2.1
    rw [eo]
    exact hR2.of (fun d d1 d2 => g2 d (by omega))
