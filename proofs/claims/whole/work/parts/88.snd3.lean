/-! PURE: the house: a peer sends, in the reference, with the laying -/
theorem rsends_ok {B p tk g T z : Nat} {y : Int32} {τ : Sg} {M : Hm} {tp : List Int32} {lo : Int} {lost turned : Bool} {Gd1 : Nat → Ost → Prop} {Gd2 : List (Nat × Prt) → Wst → Prop} {Q : Int32 → Sg → Prop} (hB1 : 1 ≤ B) (hB3 : B ≤ 3) (hp : p < 2) (hR : RepM τ B y tk tp p M) (hg : g ≤ 250) (htk : tk < 2 ^ 31) (hlo : -(2 ^ 20 : Int) ≤ lo) (hc2 : (M.2.2.1 (pj p tk)).1 ≤ 2) (hcp : 0 < (M.2.2.1 (pj p tk)).1 → 0 < (M.2.2.1 (pj p tk)).2.1) (hcz : ∀ i, i < 8 → (M.2.2.1 i).2.1 ≤ 250) (hsh : ∀ q, q < p → M.2.2.2.1 q ≤ 250)
    (hG0 : (M.2.2.1 (pj p tk)).1 = 0 → Gd1 0 (M.1, M.2.1, [], [])) (hG1 : ∀ (i : Nat) (s : Ost), i < 2 * B → Gd1 i s → FsV T (ksS (keyF y (M.2.2.2.2 10)) (mkN B (p * B + bOf B i))) lo (s.1 (p * B + bOf B i), s.2.1 (p * B + bOf B i), s.2.2.1, s.2.2.2) ∧ Grw (fldS (s.1 (p * B + bOf B i))) (fldS (fbT p B g i s).1) (s.2.1 (opp B (p * B + bOf B i))).2.1 ∧ clrP (s.2.1 (p * B + bOf B i)).1 (s.2.1 (p * B + bOf B i)).2.1 ∧ knP (s.2.1 (p * B + bOf B i)).2.1 ∧ OkA B s.1 s.2.1) (hG2 : ∀ (i : Nat) (s : Ost), i < 2 * B → Gd1 i s → Gd1 (i + 1) (fbS p B g i s))
    (hW0 : 0 < ((flM B p g tk M).2.2.1 (pj p tk)).2.1 → fs1 lost ((flM B p g tk M).2.2.1 (pj p tk)) = true → ((flM B p g tk M).2.2.1 (pj p tk)).2.2.2.1 = blB (fun b => fldS ((flM B p g tk M).1 (p * B + b))) ((flM B p g tk M).2.2.1 (pj p tk)).2.2.2.2 ++ fil z ∧ ((flM B p g tk M).2.2.1 (pj p tk)).2.2.2.1.length = ((flM B p g tk M).2.2.1 (pj p tk)).2.1 ∧ Gd2 ((flM B p g tk M).2.2.1 (pj p tk)).2.2.2.2 ((flM B p g tk M).1, (flM B p g tk M).2.1)) (hW1 : ∀ (q : Nat × Prt) (r : List (Nat × Prt)) (s : Wst), Gd2 (q :: r) s → OkW2 T (1 - p) B (keyF y (M.2.2.2.2 10)) s q ∧ Gd2 r (wk1 (1 - p) B (keyF y (M.2.2.2.2 10)) s q))
    (hrt : ∀ b, b < B → ((sdM B p tk (keyF y (M.2.2.2.2 10)) lost turned (flM B p g tk M)).1 b).1 2 = (M.1 b).1 2)
    (h : ∀ τ' : Sg, RepM τ' B y tk tp (p + 1) (sdM B p tk (keyF y (M.2.2.2.2 10)) lost turned (flM B p g tk M)) → Q (if snt p tk (flM B p g tk M) then (if fs1 lost ((flM B p g tk M).2.2.1 (pj p tk)) then 2 else 1) else 0) τ') : wpX9_sends (nI p) (nI g) (b01 lost) (b01 turned) τ Q := by
  have hj := pj_lt (tk := tk) hp
  have hne : ∀ q, q < p → pj q tk ≠ pj p tk := fun q hq => by unfold pj; omega
  obtain ⟨⟨a1, a2, a3, a4, ⟨a5, a6⟩, a7⟩, a8, a9, a10⟩ := hR
  have ej : (4 * nI p) + ((τ 0 2) &&& 3) = nI (pj p tk) := by
    have e1 : 4 * nI p = nI (4 * p) := pk_mul 4 p
    have e2 : nI tk &&& 3 = nI (tk % 4) := pk_andN (n := tk) (by omega) (k := 2) (by decide)
    rw [a3, e1, e2, nI_add]
    rfl
  have e10 : (flM B p g tk M).2.2.2.2 = M.2.2.2.2 := by
    unfold flM
    split <;> rfl
  have esh : (flM B p g tk M).2.2.2.1 = M.2.2.2.1 := by
    unfold flM
    split <;> rfl
  -- with a block
  have L92 : ∀ τ1 : Sg, Rp0 τ1 B y tk tp (flM B p g tk M).1 (flM B p g tk M).2.1 M.2.2.2.2 → 0 < ((flM B p g tk M).2.2.1 (pj p tk)).2.1 → ((flM B p g tk M).2.2.1 (pj p tk)).2.1 ≤ 250 → ((flM B p g tk M).2.2.1 (pj p tk)).1 ≤ 2 → (∀ i, i < 8 → i ≠ pj p tk → CrM τ1 i ((flM B p g tk M).2.2.1 i)) → τ1 60 (pj p tk) = nI ((flM B p g tk M).2.2.1 (pj p tk)).1 → CrD τ1 (pj p tk) ((flM B p g tk M).2.2.1 (pj p tk)) → (∀ q, q < p → ShM τ1 tk q (flM B p g tk M)) → τ1 14 = τ 14 → wpX9_sends_L92 Q (nI p) (b01 lost) (b01 turned) (nI (pj p tk)) τ1 := by
    intro τ1 r1 s1 s2 s3 o1 a60 d1 sh1 a14
    generalize flM B p g tk M = M1 at *
    have esd : sdM B p tk (keyF y (M.2.2.2.2 10)) lost turned M1 = sdC turned (pj p tk) (sdB B p (keyF y (M.2.2.2.2 10)) (fs1 lost (M1.2.2.1 (pj p tk))) (M1.2.2.1 (pj p tk)).2.2.2.2 (sdA lost p (pj p tk) (M1.2.2.1 (pj p tk)) M1)) := by
      unfold sdM
      rw [if_neg (by omega)]
    have esn : snt p tk M1 = true := decide_eq_true s1
    rw [esd, esn, if_pos rfl] at h
    rw [esd] at hrt
    refine rs92 (T := T) (z := z) (M := M1) (key := keyF y (M.2.2.2.2 10)) (Gd2 := Gd2) hB1 hB3 hp (by rw [e10]) rfl s1 s2 s3 (by rw [e10]; exact r1) o1 a60 d1 sh1 (fun q hq => by rw [esh]; exact hsh q hq) (fun e => hW0 s1 e) hW1 (fun τ' k1 k2 k3 k4 => h τ' ⟨k1, k2, k3, fun b hb => ?_⟩)
    rw [k4, a14, hrt b hb]
    exact a10 b hb
  have hcM := a8 _ hj
  unfold wpX9_sends
  rw [ej]
  rintro _ rfl
  rw [nI_clamp (n := p) (by omega), nI_clamp (n := pj p tk) (by omega)]
  refine ⟨vin rfl hp (by decide), ?_⟩
  rintro _ rfl
  have U1 : ∀ c, c ≠ 64 → up2 τ 64 p (-1) c = τ c := fun c hc => up2_o hc
  have A64 : ∀ i, up2 τ 64 p (-1) 64 i = if i = p then -1 else τ 64 i := fun i => by
    rw [up2_e]
    by_cases e : i = p
    · rw [if_pos ⟨rfl, e⟩, if_pos e]
    · rw [if_neg (fun hh => e hh.2), if_neg e]
  generalize up2 τ 64 p (-1) = τ1 at *
  rw [U1 60 (by decide), hcM.1]
  refine ⟨vin rfl hj (by decide), fun hnz => ?_, fun hz => ?_⟩
  · have hnz : ¬ (M.2.2.1 (pj p tk)).1 = 0 := fun hh => hnz (by rw [hh]; rfl)
    have e1 : flM B p g tk M = M := by unfold flM; rw [if_neg hnz]
    rw [e1] at L92
    have hd := hcM.2 (by omega)
    refine L92 τ1 (Rp0.of ⟨a1, a2, a3, a4, ⟨a5, a6⟩, a7⟩ (fun c hc => U1 c (by omega))) (hcp (by omega)) (hcz _ hj) hc2 (fun i hi hij => (a8 i hi).of (fun d d1 d2 => U1 d (by omega))) (by rw [U1 60 (by decide)]; exact hcM.1) ⟨by rw [U1 61 (by decide)]; exact hd.1, by rw [U1 63 (by decide)]; exact hd.2.1, fun k hk => by rw [U1 62 (by decide)]; exact hd.2.2 k hk⟩ (fun q hq => ⟨by rw [A64 q, if_neg (by omega)]; exact (a9 q hq).1, fun k hk => by rw [U1 65 (by decide)]; exact (a9 q hq).2 k hk⟩) (U1 14 (by decide))
  · have hz : (M.2.2.1 (pj p tk)).1 = 0 := (nI_eq (b := 0) (by omega) (by decide)).mp hz
    have e1 : flM B p g tk M = ((flT B p g M).1, (flT B p g M).2.1, fup M.2.2.1 (pj p tk) (flC g (flT B p g M)), M.2.2.2) := by unfold flM; rw [if_pos hz]
    refine rlay_ok (T := T) (key := keyF y (M.2.2.2.2 10)) (lo := lo) (Gd := Gd1) (hs := M.1) (hr := M.2.1) hB1 hB3 hp hg hlo (by rw [U1 0 (by decide)]; exact a1) hG1 hG2 (hG0 hz) (a7.of (fun c c1 c2 _ => U1 c (by omega))) (fun τ2 t et t1 t2 t3 t4 => ?_)
    have et : t = flT B p g M := et
    rw [← et] at e1
    have U2 : ∀ c, c = 0 ∨ c = 1 ∨ c = 14 ∨ (60 ≤ c ∧ c ≤ 65) ∨ c = 67 → τ2 c = τ1 c := fun c hc => t4 c (by unfold LY2; simp only [List.mem_cons, List.not_mem_nil, or_false]; omega)
    have R2 : Rp0 τ2 B y tk tp t.1 t.2.1 M.2.2.2.2 := by
      have e0 : τ2 0 = τ 0 := by rw [U2 0 (by omega), U1 0 (by decide)]
      exact ⟨by rw [e0]; exact a1, a2.of e0 (by rw [U2 67 (by omega), U1 67 (by decide)]), by rw [e0]; exact a3, fun k k1 k2 => by rw [e0]; exact a4 k k1 k2, ⟨by rw [e0]; exact a5, fun k hk => by rw [U2 1 (by omega), U1 1 (by decide)]; exact a6 k hk⟩, t3⟩
    have O2 : ∀ i, i < 8 → i ≠ pj p tk → CrM τ2 i (M.2.2.1 i) := fun i hi hij => (a8 i hi).of (fun d d1 d2 => by rw [U2 d (by omega), U1 d (by omega)])
    have S2 : ∀ q, q < p → τ2 64 q = (if M.2.2.2.1 q = 0 then -1 else nI (M.2.2.2.1 q)) ∧ ∀ k, k < M.2.2.2.1 q → τ2 65 (250 * q + k) = (M.2.2.1 (pj q tk)).2.2.2.1.getD k 0 := fun q hq => ⟨by rw [U2 64 (by omega), A64 q, if_neg (by omega)]; exact (a9 q hq).1, fun k hk => by rw [U2 65 (by omega), U1 65 (by decide)]; exact (a9 q hq).2 k hk⟩
    have A14 : τ2 14 = τ 14 := by rw [U2 14 (by omega), U1 14 (by decide)]
    refine ⟨fun ez => ?_, fun ez hby => ?_⟩
    · have eC : flC g t = (0, 0, false, [], []) := by unfold flC; rw [if_pos ez]
      have ecr : (flM B p g tk M).2.2.1 (pj p tk) = (0, 0, false, [], []) := by
        rw [e1]
        show fup M.2.2.1 (pj p tk) (flC g t) (pj p tk) = _
        rw [fup_s, eC]
      have esn : snt p tk (flM B p g tk M) = false := decide_eq_false (by rw [ecr]; show ¬ 0 < 0; decide)
      have esd : sdM B p tk (keyF y (M.2.2.2.2 10)) lost turned (flM B p g tk M) = ((flM B p g tk M).1, (flM B p g tk M).2.1, (flM B p g tk M).2.2.1, fup (flM B p g tk M).2.2.2.1 p 0, (flM B p g tk M).2.2.2.2) := by
        unfold sdM
        rw [ecr, if_pos rfl]
      rw [esd, esn, if_neg (by decide)] at h
      rw [esd] at hrt
      refine brt' rfl (h τ2 ⟨?_, fun i hi => ?_, fun q hq => ?_, fun b hb => ?_⟩)
      · show Rp0 τ2 B y tk tp (flM B p g tk M).1 (flM B p g tk M).2.1 (flM B p g tk M).2.2.2.2
        rw [e1]
        exact R2
      · show CrM τ2 i ((flM B p g tk M).2.2.1 i)
        by_cases e : i = pj p tk
        · rw [e, ecr]
          refine ⟨?_, fun h0 => absurd h0 (by show ¬ 0 < 0; decide)⟩
          rw [U2 60 (by omega), U1 60 (by decide), hcM.1, hz]
        · rw [e1]
          show CrM τ2 i (fup M.2.2.1 (pj p tk) (flC g t) i)
          rw [fup_o e]
          exact O2 i hi e
      · unfold ShM
        show τ2 64 q = (if fup (flM B p g tk M).2.2.2.1 p 0 q = 0 then -1 else nI (fup (flM B p g tk M).2.2.2.1 p 0 q)) ∧ ∀ k, k < fup (flM B p g tk M).2.2.2.1 p 0 q → τ2 65 (250 * q + k) = ((flM B p g tk M).2.2.1 (pj q tk)).2.2.2.1.getD k 0
        by_cases e : q = p
        · rw [e, fup_s, if_pos rfl]
          refine ⟨by rw [U2 64 (by omega), A64 p, if_pos rfl], fun k hk => by omega⟩
        · rw [fup_o e, e1]
          show τ2 64 q = (if M.2.2.2.1 q = 0 then -1 else nI (M.2.2.2.1 q)) ∧ ∀ k, k < M.2.2.2.1 q → τ2 65 (250 * q + k) = (fup M.2.2.1 (pj p tk) (flC g t) (pj q tk)).2.2.2.1.getD k 0
          rw [fup_o (hne q (by omega))]
          exact S2 q (by omega)
      · rw [A14, hrt b hb]
        exact a10 b hb
    · have eC : flC g t = (0, g, false, t.2.2.1 ++ fil (g - t.2.2.1.length), t.2.2.2) := by unfold flC; rw [if_neg ez]
      have ecr : (flM B p g tk M).2.2.1 (pj p tk) = (0, g, false, t.2.2.1 ++ fil (g - t.2.2.1.length), t.2.2.2) := by
        rw [e1]
        show fup M.2.2.1 (pj p tk) (flC g t) (pj p tk) = _
        rw [fup_s, eC]
      refine brf' (by decide) ⟨vin rfl hj (by decide), ?_⟩
      rintro _ rfl
      refine ⟨vin rfl hj (by decide), ?_⟩
      rintro _ rfl
      have V2 : ∀ c, c ≠ 61 → c ≠ 63 → up2 (up2 τ2 61 (pj p tk) (nI g)) 63 (pj p tk) 0 c = τ2 c := fun c c1 c2 => by rw [up2_o c2, up2_o c1]
      have V61 : up2 (up2 τ2 61 (pj p tk) (nI g)) 63 (pj p tk) 0 61 (pj p tk) = nI g := by rw [up2_o (by decide), up2_e, if_pos ⟨rfl, rfl⟩]
      have V63 : up2 (up2 τ2 61 (pj p tk) (nI g)) 63 (pj p tk) 0 63 (pj p tk) = 0 := by rw [up2_e, if_pos ⟨rfl, rfl⟩]
      have O3 : ∀ i, i < 8 → i ≠ pj p tk → CrM (up2 (up2 τ2 61 (pj p tk) (nI g)) 63 (pj p tk) 0) i (M.2.2.1 i) := fun i hi hij => CrM.up (CrM.up (O2 i hi hij) hij (by decide)) hij (by decide)
      generalize up2 (up2 τ2 61 (pj p tk) (nI g)) 63 (pj p tk) 0 = τ3 at *
      refine ⟨g + 1, rs59 (τ0 := τ3) (bs := t.2.2.1 ++ fil (g - t.2.2.1.length)) hj hg (fun k hk => by rw [V2 72 (by decide) (by decide)]; exact hby k hk) (fun τ4 g1 g2 g3 => ?_) g 0 τ3 (by omega) (fun i hi => by omega) (fun _ _ => rfl) (fun _ _ => rfl)⟩
      have W4 : ∀ c, c ≠ 61 → c ≠ 62 → c ≠ 63 → τ4 c = τ2 c := fun c c1 c2 c3 => by rw [g3 c c2, V2 c c1 c3]
      refine L92 τ4 ?_ ?_ ?_ ?_ (fun i hi hij => ?_) ?_ ?_ (fun q hq => ?_) ?_
      · rw [e1]
        exact R2.of (fun c hc => W4 c (by omega) (by omega) (by omega))
      · rw [ecr]
        show 0 < g
        omega
      · rw [ecr]
        exact hg
      · rw [ecr]
        show 0 ≤ 2
        omega
      · rw [e1]
        show CrM τ4 i (fup M.2.2.1 (pj p tk) (flC g t) i)
        rw [fup_o hij]
        obtain ⟨z1, z2⟩ := O3 i hi hij
        refine ⟨by rw [g3 60 (by decide)]; exact z1, fun h0 => ?_⟩
        obtain ⟨y1, y2, y3⟩ := z2 h0
        refine ⟨by rw [g3 61 (by decide)]; exact y1, by rw [g3 63 (by decide)]; exact y2, fun k hk => ?_⟩
        have hk2 : k < 250 := Nat.lt_of_lt_of_le hk (hcz i hi)
        rw [g2 _ (by omega)]
        exact y3 k hk
      · rw [ecr, W4 60 (by decide) (by decide) (by decide), U2 60 (by omega), U1 60 (by decide), hcM.1, hz]
      · rw [ecr]
        exact ⟨by rw [g3 61 (by decide)]; exact V61, by rw [g3 63 (by decide), V63]; rfl, g1⟩
      · unfold ShM
        rw [e1]
        show τ4 64 q = (if M.2.2.2.1 q = 0 then -1 else nI (M.2.2.2.1 q)) ∧ ∀ k, k < M.2.2.2.1 q → τ4 65 (250 * q + k) = (fup M.2.2.1 (pj p tk) (flC g t) (pj q tk)).2.2.2.1.getD k 0
        rw [fup_o (hne q hq), W4 64 (by decide) (by decide) (by decide), W4 65 (by decide) (by decide) (by decide)]
        exact S2 q hq
      · rw [W4 14 (by decide) (by decide) (by decide)]
        exact A14
