/-! PURE: the reference: DATA -/
def OutM (τ : Sg) (l : List Int32) : Prop := ∀ k, k < l.length → τ 66 k = l.getD k 0
theorem OutM.app {τ : Sg} {l : List Int32} {v : Int32} (h : OutM τ l) : OutM (up2 τ 66 l.length v) (l ++ [v]) := by
  intro k hk
  rw [List.length_append, List.length_singleton] at hk
  rw [up2_e]
  by_cases e : k = l.length
  · subst e
    rw [if_pos ⟨rfl, rfl⟩, getD_end]
  · rw [if_neg (fun hh => e hh.2), getD_app (by omega)]
    exact h k (by omega)
def Fr66 (τ τ' : Sg) : Prop := ∀ c, c ≠ 66 → τ' c = τ c
theorem dt431 {f to : Nat} {l0 : List Cel} {Q : Int32 → Sg → Prop} (hf : f < 96) (hto : to ≤ 240) : ∀ (m i : Nat) (τ : Sg) (l : List Int32), i + m = to → OutM τ l → l.length + m ≤ 250 → (∀ k, i ≤ k → k < to → τ 27 (240 * f + k) = (gc l0 k).1) → (∀ τ' : Sg, OutM τ' (l ++ byL l0 m i) → Fr66 τ τ' → Q (nI (l ++ byL l0 m i).length) τ') → wpX9_data_L431 Q (m + 1) (nI to) (nI f) (nI l.length) (nI i) τ := by
  intro m
  induction m with
  | zero =>
    intro i τ l hi hO hl hb h
    unfold wpX9_data_L431
    have e : l ++ byL l0 0 i = l := by unfold byL; rw [List.append_nil]
    rw [e] at h
    exact brt (nI_le (by omega) (by omega)) (h τ hO (fun _ _ => rfl))
  | succ m ih =>
    intro i τ l hi hO hl hb h
    unfold wpX9_data_L431
    rw [i240, nI_clamp (by omega), nI_clamp (by omega), nI_1]
    refine brf (nI_ge (by omega) (by omega)) ?_
    rintro _ rfl
    refine ⟨vin rfl (by omega) (by decide), vin rfl (by omega) (by decide), ?_⟩
    rintro _ rfl _ rfl
    rw [hb i (Nat.le_refl _) (by omega), nI_1]
    have hl1 : (l ++ [(gc l0 i).1]).length = l.length + 1 := by simp
    have := ih (i + 1) (up2 τ 66 l.length (gc l0 i).1) (l ++ [(gc l0 i).1]) (by omega) hO.app (by omega) (fun k k1 k2 => by rw [up2_o (by decide)]; exact hb k (by omega) k2) (fun τ' g1 g2 => ?_)
    · rw [hl1] at this
      exact this
    · have e : l ++ [(gc l0 i).1] ++ byL l0 m (i + 1) = l ++ byL l0 (m + 1) i := by
        rw [List.append_assoc]
        rfl
      rw [e] at g1 ⊢
      exact h τ' g1 (fun c hc => by rw [g2 c hc, up2_o hc])
theorem dt354 {f fr to : Nat} {l0 : List Cel} {Q : Int32 → Sg → Prop} (hf : f < 96) (hto : to ≤ 240) (hft : fr < to) : ∀ (m k s : Nat) (τ : Sg) (l : List Int32), k + 1 + m = to → fr ≤ k → s ≤ k → OutM τ l → l.length + cnt (lasF l0) k m + (to - fr) ≤ 250 → (∀ j, fr ≤ j → j < to → τ 27 (240 * f + j) = (gc l0 j).1 ∧ τ 31 (240 * f + j) = b01 (lasF l0 j)) → (∀ τ' : Sg, OutM τ' (l ++ lenL (lasF l0) m k s ++ byL l0 (to - fr) fr) → Fr66 τ τ' → Q (nI (l ++ lenL (lasF l0) m k s ++ byL l0 (to - fr) fr).length) τ') → wpX9_data_L354 Q (m + 1) (nI fr) (nI to) (nI f) (nI (cnt (lasF l0) k m)) (nI l.length) (nI s) (nI k) τ := by
  intro m
  induction m with
  | zero =>
    intro k s τ l hk hfr hs hO hl hb h
    unfold wpX9_data_L354
    rw [nI_1]
    have e : l ++ lenL (lasF l0) 0 k s = l := by unfold lenL; rw [List.append_nil]
    rw [e] at h
    have hc : cnt (lasF l0) k 0 = 0 := rfl
    refine brt (nI_le (by omega) (by omega)) ⟨to - fr + 1, dt431 hf hto (to - fr) fr τ l (by omega) hO (by omega) (fun j j1 j2 => (hb j j1 j2).1) h⟩
  | succ m ih =>
    intro k s τ l hk hfr hs hO hl hb h
    unfold wpX9_data_L354
    rw [nI_1, i240, nI_clamp (by omega), (hb k hfr (by omega)).2]
    refine brf (nI_ge (by omega) (by omega)) ⟨vin rfl (by omega) (by decide), br01' (fun e => ?_) (fun e => ?_)⟩
    · unfold wpX9_data_L422
      rintro _ rfl
      rw [nI_1]
      rw [cnt_pos_F e] at hl ⊢
      refine ih (k + 1) s τ l (by omega) (by omega) (by omega) hO hl hb ?_
      rw [lenL, if_neg (by rw [e]; decide)] at h
      exact h
    · rw [cnt_pos_T e] at hl ⊢
      have hcm := cnt_le (f := lasF l0) (a := k + 1) m
      have e9 : nI (cnt (lasF l0) (k + 1) m + 1) + -1 = nI (cnt (lasF l0) (k + 1) m) := by
        rw [← nI_1, Int32.add_assoc, show (1 : Int32) + -1 = 0 by decide, Int32.add_zero]
      rw [e9]
      rintro _ rfl _ rfl
      rw [pk_sub (by omega)]
      have go : ∀ z : Nat, z = (if 0 < cnt (lasF l0) (k + 1) m then 128 else 0) → wpX9_data_L414 Q (wpX9_data_L354 Q (m + 1)) (nI fr) (nI to) (nI f) (nI (cnt (lasF l0) (k + 1) m)) (nI l.length + 1) (nI k) (nI z) (nI (k + 1 - s)) (nI l.length) 66 τ := by
        intro z hz
        unfold wpX9_data_L414
        rw [nI_clamp (by omega), nI_add, nI_1, nI_1]
        refine ⟨vin rfl (by omega) (by decide), ?_⟩
        rintro _ rfl _ rfl
        unfold wpX9_data_L422
        rintro _ rfl
        rw [nI_1]
        have hl1 : (l ++ [nI (k + 1 - s + z)]).length = l.length + 1 := by simp
        have := ih (k + 1) (k + 1) (up2 τ 66 l.length (nI (k + 1 - s + z))) (l ++ [nI (k + 1 - s + z)]) (by omega) (by omega) (Nat.le_refl _) hO.app (by omega) (fun j j1 j2 => by rw [up2_o (by decide), up2_o (by decide)]; exact hb j j1 j2) (fun τ' g1 g2 => ?_)
        · rw [hl1] at this
          exact this
        · have e2 : l ++ [nI (k + 1 - s + z)] ++ lenL (lasF l0) m (k + 1) (k + 1) = l ++ lenL (lasF l0) (m + 1) k s := by
            rw [List.append_assoc, lenL, if_pos e, hz]
            rfl
          rw [e2] at g1 ⊢
          exact h τ' g1 (fun c hc => by rw [g2 c hc, up2_o hc])
      refine pk_le (cnt (lasF l0) (k + 1) m) 0 (fun h0 => go 0 (by rw [if_neg (by omega)])) (fun h0 => go 128 (by rw [if_pos h0]))
theorem polB_1 {v : Nat → Nat} {wl : Nat} (h : ¬ v 7 = 0) : polB v wl = true := decide_eq_true (Or.inl h)
def LD : List Nat := [5, 6, 7, 9, 12, 66]
theorem data_ok {τ : Sg} {i x fr to wl : Nat} {v : Nat → Nat} {bk : Int32} {pc : Nat → Pce} {fl : List Cel} {part : Bool} {Q : Int32 → Sg → Prop} (hi : i < 6) (hS : SnM τ i v bk) (hb : SvB v) (h45 : v 4 ≤ v 5) (h6 : v 6 = aSum pc (v 4) (v 5 - v 4)) (hP : PsM τ i (v 4) (v 5) pc) (hW : WtM τ i fl) (hwl : fl.length = 0 ↔ wl = 0) (hx1 : v 4 ≤ x) (hx2 : x < v 5) (hft : fr < to) (hto : to ≤ (pc x).1.length) (hlen : 2 + b2n part + cnt (lasF (pc x).1) fr (to - 1 - fr) + (to - fr) ≤ 250) (h : ∀ τ' : Sg, SnM τ' i (cdV v wl) bk → OutM τ' (datL (pc x).1 x fr to part (polB v wl)) → FrA LD i τ τ' → Q (nI (datL (pc x).1 x fr to part (polB v wl)).length) τ') : wpX9_data (nI i) (nI x) (nI fr) (nI to) (b01 part) τ Q := by
  have b4 := hb 4 (by decide) (by decide)
  have b5 := hb 5 (by decide) (by decide)
  have b6 := hb 6 (by decide) (by decide)
  have b7 := hb 7 (by decide) (by decide)
  have b11 := hb 11 (by decide) (by decide)
  obtain ⟨s3, s4, s5, s6, s7, s8, s9, s10, s11, s12, s13⟩ := hS
  obtain ⟨w1, w2, w3⟩ := hW
  obtain ⟨p1, p2, p3, p4, p5⟩ := hP x hx1 hx2
  -- the bytes
  have L145 : ∀ τ1 : Sg, (∀ c, c = 25 ∨ c = 27 ∨ c = 30 ∨ c = 31 → τ1 c = τ c) → SnM τ1 i (cdV v wl) bk → FrA LD i τ τ1 → wpX9_data_L145 Q (nI x) (nI fr) (nI to) (b01 part) (nI (16 * i + x % 16)) (b01 (polB v wl)) τ1 := by
    intro τ1 hc hS1 hF1
    have h25 : τ1 25 (16 * i + x % 16) = nI (pc x).1.length := by rw [hc 25 (by simp)]; exact p1
    have hby : ∀ j, fr ≤ j → j < to → τ1 27 (240 * (16 * i + x % 16) + j) = (gc (pc x).1 j).1 ∧ τ1 31 (240 * (16 * i + x % 16) + j) = b01 (lasF (pc x).1 j) := fun j j1 j2 => by
      rw [hc 27 (by simp), hc 31 (by simp)]
      exact ⟨(p5 j (by omega)).1, (p5 j (by omega)).2.2.2.1⟩
    have hfi : τ1 30 (240 * (16 * i + x % 16) + fr) = b01 (gc (pc x).1 fr).2.1 := by
      rw [hc 30 (by simp)]
      exact (p5 fr (by omega)).2.2.1
    have hf96 : 16 * i + x % 16 < 96 := by omega
    generalize 16 * i + x % 16 = f at *
    -- from the counting of LENGTHS on
    have L151e : ∀ k : Nat, k + 1 = to → wpX9_data_L151 Q 1 (nI x) (nI fr) (nI to) (b01 part) (nI f) (b01 (polB v wl)) (nI (cnt (lasF (pc x).1) fr (k - fr))) (nI k) τ1 := by
      intro k hk
      unfold wpX9_data_L151
      rw [nI_1]
      refine brt (nI_le (by omega) (by omega)) ?_
      rintro _ rfl
      have ek : k - fr = to - 1 - fr := by omega
      rw [ek]
      have hcl := cnt_le (f := lasF (pc x).1) (a := fr) (to - 1 - fr)
      generalize hpo : polB v wl = poll at *
      -- the head is written
      have L291 : wpX9_data_L291 Q (nI x) (nI fr) (nI to) (b01 part) (nI f) (nI (cnt (lasF (pc x).1) fr (to - 1 - fr))) (0 + 1) (if 0 < cnt (lasF (pc x).1) fr (to - 1 - fr) then 4 else 0) ((((128 + (if part then 64 else 0)) + (if poll then 32 else 0)) + (if (gc (pc x).1 fr).2.1 then 0 else 16)) + (if lasF (pc x).1 (to - 1) then 0 else 8)) 0 66 τ1 := by
        unfold wpX9_data_L291
        refine ⟨vin0 (by decide) (by decide), ?_⟩
        rintro _ rfl
        have ehd : ((((128 + (if part then 64 else 0)) + (if poll then 32 else 0)) + (if (gc (pc x).1 fr).2.1 then 0 else 16)) + (if lasF (pc x).1 (to - 1) then 0 else 8)) + (if 0 < cnt (lasF (pc x).1) fr (to - 1 - fr) then 4 else 0) = hdI part poll (gc (pc x).1 fr).2.1 (lasF (pc x).1 (to - 1)) (cnt (lasF (pc x).1) fr (to - 1 - fr)) := rfl
        rw [ehd, show (0 : Int32).toNatClampNeg = 0 from rfl, a63 (by omega)]
        rintro _ rfl
        have hO1 : OutM (up2 τ1 66 0 (hdI part poll (gc (pc x).1 fr).2.1 (lasF (pc x).1 (to - 1)) (cnt (lasF (pc x).1) fr (to - 1 - fr)))) [hdI part poll (gc (pc x).1 fr).2.1 (lasF (pc x).1 (to - 1)) (cnt (lasF (pc x).1) fr (to - 1 - fr))] := by
          have := OutM.app (τ := τ1) (l := []) (v := hdI part poll (gc (pc x).1 fr).2.1 (lasF (pc x).1 (to - 1)) (cnt (lasF (pc x).1) fr (to - 1 - fr))) (fun k hk => by simp at hk)
          exact this
        have hF66 : Fr66 τ1 (up2 τ1 66 0 (hdI part poll (gc (pc x).1 fr).2.1 (lasF (pc x).1 (to - 1)) (cnt (lasF (pc x).1) fr (to - 1 - fr)))) := fun c hc9 => up2_o hc9
        have h25' : up2 τ1 66 0 (hdI part poll (gc (pc x).1 fr).2.1 (lasF (pc x).1 (to - 1)) (cnt (lasF (pc x).1) fr (to - 1 - fr))) 25 f = nI (pc x).1.length := by rw [up2_o (by decide)]; exact h25
        generalize up2 τ1 66 0 (hdI part poll (gc (pc x).1 fr).2.1 (lasF (pc x).1 (to - 1)) (cnt (lasF (pc x).1) fr (to - 1 - fr))) = τ2 at *
        have L330 : ∀ z : Int32, z = (if part = true ∧ to = (pc x).1.length then 128 else 0) → wpX9_data_L330 Q (nI fr) (nI to) (b01 part) (nI f) (nI (cnt (lasF (pc x).1) fr (to - 1 - fr))) (0 + 1 + 1) z (nI (x % 64)) (0 + 1) 66 τ2 := by
          intro z hz
          unfold wpX9_data_L330
          refine ⟨vin1 (by decide) (by decide), ?_⟩
          rintro _ rfl
          rw [show ((0 : Int32) + 1).toNatClampNeg = 1 from rfl]
          have hO2 : OutM (up2 τ2 66 1 (nI (x % 64) + z)) [hdI part poll (gc (pc x).1 fr).2.1 (lasF (pc x).1 (to - 1)) (cnt (lasF (pc x).1) fr (to - 1 - fr)), nI (x % 64) + z] := hO1.app
          -- the LENGTHS and the bytes
          have L348 : ∀ (τ4 : Sg) (hd : List Int32), hd = [hdI part poll (gc (pc x).1 fr).2.1 (lasF (pc x).1 (to - 1)) (cnt (lasF (pc x).1) fr (to - 1 - fr)), nI (x % 64) + z] ++ (if part then [nI fr] else []) → OutM τ4 hd → Fr66 τ1 τ4 → wpX9_data_L348 Q (nI fr) (nI to) (nI f) (nI (cnt (lasF (pc x).1) fr (to - 1 - fr))) (nI hd.length) τ4 := by
            intro τ4 hd ehd9 hO4 hF4
            have hhl : hd.length = 2 + b2n part := by
              rw [ehd9]
              cases part <;> rfl
            unfold wpX9_data_L348
            refine ⟨to - 1 - fr + 1, dt354 hf96 (by omega) hft (to - 1 - fr) fr fr τ4 hd (by omega) (Nat.le_refl _) (Nat.le_refl _) hO4 (by omega) (fun j j1 j2 => by rw [hF4 27 (by decide), hF4 31 (by decide)]; exact hby j j1 j2) (fun τ5 g1 g2 => ?_)⟩
            have eD : hd ++ lenL (lasF (pc x).1) (to - 1 - fr) fr fr ++ byL (pc x).1 (to - fr) fr = datL (pc x).1 x fr to part poll := by
              unfold datL
              rw [ehd9, hz]
            rw [eD] at g1 ⊢
            have hk5 : ∀ c, c ≠ 66 → τ5 c = τ1 c := fun c hc9 => by rw [g2 c hc9, hF4 c hc9]
            refine h τ5 ?_ g1 (hF1.tr ⟨fun c hc9 => hk5 c (fun e => hc9 (by rw [e]; decide)), fun c k hc9 hk9 => by rw [hk5 c (by omega)]⟩)
            obtain ⟨q3, q4, q5, q6, q7, q8, q9, q10, q11, q12, q13⟩ := hS1
            refine ⟨?_, ?_, ?_, ?_, ?_, ?_, ?_, ?_, ?_, ?_, ?_⟩
            · rw [hk5 3 (by decide)]; exact q3
            · rw [hk5 4 (by decide)]; exact q4
            · rw [hk5 5 (by decide)]; exact q5
            · rw [hk5 6 (by decide)]; exact q6
            · rw [hk5 7 (by decide)]; exact q7
            · rw [hk5 8 (by decide)]; exact q8
            · rw [hk5 9 (by decide)]; exact q9
            · rw [hk5 10 (by decide)]; exact q10
            · rw [hk5 11 (by decide)]; exact q11
            · rw [hk5 12 (by decide)]; exact q12
            · rw [hk5 13 (by decide)]; exact q13
          refine br01 (fun e => ?_) (fun e => ?_)
          · exact L348 _ _ (by rw [if_neg (by rw [e]; decide), List.append_nil]) hO2 (fun c hc9 => by rw [up2_o hc9, hF66 c hc9])
          · rintro _ rfl
            refine ⟨vp_in_nI (n := 2) (by decide) (by decide), ?_⟩
            rintro _ rfl
            rw [show ((0 : Int32) + 1 + 1).toNatClampNeg = 2 from rfl]
            have hO3 : OutM (up2 (up2 τ2 66 1 (nI (x % 64) + z)) 66 2 (nI fr)) ([hdI part poll (gc (pc x).1 fr).2.1 (lasF (pc x).1 (to - 1)) (cnt (lasF (pc x).1) fr (to - 1 - fr)), nI (x % 64) + z] ++ [nI fr]) := hO2.app
            exact L348 _ _ (by rw [if_pos e]) hO3 (fun c hc9 => by rw [up2_o hc9, up2_o hc9, hF66 c hc9])
        refine br01 (fun e => ?_) (fun e => ⟨vin rfl hf96 (by decide), ?_⟩)
        · unfold wpX9_data_L329
          exact L330 0 (by rw [if_neg (by rw [e]; simp)])
        · rw [nI_clamp (by omega), h25']
          refine ⟨fun hne => ?_, fun he => ?_⟩
          · unfold wpX9_data_L329
            exact L330 0 (by rw [if_neg (fun hh => hne (by rw [hh.2]))])
          · have he := (nI_eq (by omega) (by omega)).mp he
            exact L330 128 (by rw [if_pos ⟨e, he⟩])
      have L280 : wpX9_data_L280 Q (nI x) (nI fr) (nI to) (b01 part) (nI f) (nI (cnt (lasF (pc x).1) fr (to - 1 - fr))) (0 + 1) (if lasF (pc x).1 (to - 1) then 0 else 8) (((128 + (if part then 64 else 0)) + (if poll then 32 else 0)) + (if (gc (pc x).1 fr).2.1 then 0 else 16)) 0 66 τ1 := by
        unfold wpX9_data_L280
        refine pk_le (cnt (lasF (pc x).1) fr (to - 1 - fr)) 0 (fun h0 => ?_) (fun h0 => ?_)
        · rw [if_neg (by omega)] at L291
          exact L291
        · rw [if_pos h0] at L291
          exact L291
      have L254 : wpX9_data_L254 Q (nI x) (nI fr) (nI to) (b01 part) (nI f) (nI (cnt (lasF (pc x).1) fr (to - 1 - fr))) (0 + 1) (if (gc (pc x).1 fr).2.1 then 0 else 16) ((128 + (if part then 64 else 0)) + (if poll then 32 else 0)) 0 66 τ1 := by
        unfold wpX9_data_L254
        have e1 : ((240 : Int32) * nI f + nI to) - 1 = nI (240 * f + (to - 1)) := by
          rw [i240]
          have : nI (240 * f + to) - 1 = nI (240 * f + to - 1) := pk_sub (a := 240 * f + to) (b := 1) (by omega)
          rw [this]
          congr 1
          omega
        rw [e1, nI_clamp (by omega), (hby (to - 1) (by omega) (by omega)).2]
        refine ⟨vin rfl (by omega) (by decide), br01 (fun e => ?_) (fun e => ?_)⟩
        · rw [e] at L280
          exact L280
        · rw [e] at L280
          exact L280
      have L231 : wpX9_data_L231 Q (nI x) (nI fr) (nI to) (b01 part) (nI f) (nI (cnt (lasF (pc x).1) fr (to - 1 - fr))) (0 + 1) (if poll then 32 else 0) (128 + (if part then 64 else 0)) 0 66 τ1 := by
        unfold wpX9_data_L231
        rw [i240, nI_clamp (by omega), hfi]
        refine ⟨vin rfl (by omega) (by decide), br01 (fun e => ?_) (fun e => ?_)⟩
        · rw [e] at L254
          exact L254
        · rw [e] at L254
          exact L254
      have L219 : wpX9_data_L219 Q (nI x) (nI fr) (nI to) (b01 part) (nI f) (b01 poll) (nI (cnt (lasF (pc x).1) fr (to - 1 - fr))) (0 + 1) (if part then 64 else 0) 128 0 66 τ1 := by
        unfold wpX9_data_L219
        refine br01 (fun e => ?_) (fun e => ?_)
        · rw [e] at L231
          exact L231
        · rw [e] at L231
          exact L231
      refine br01 (fun e => ?_) (fun e => ?_)
      · rw [e] at L219 ⊢
        exact L219
      · rw [e] at L219 ⊢
        exact L219
    have L151 : ∀ (m k : Nat), k + 1 + m = to → fr ≤ k → wpX9_data_L151 Q (m + 1) (nI x) (nI fr) (nI to) (b01 part) (nI f) (b01 (polB v wl)) (nI (cnt (lasF (pc x).1) fr (k - fr))) (nI k) τ1 := by
      intro m
      induction m with
      | zero => intro k hk _; exact L151e k (by omega)
      | succ m ih =>
        intro k hk hfk
        have hn := ih (k + 1) (by omega) (by omega)
        have ec : cnt (lasF (pc x).1) fr (k + 1 - fr) = cnt (lasF (pc x).1) fr (k - fr) + if lasF (pc x).1 k then 1 else 0 := by
          rw [show k + 1 - fr = (k - fr) + 1 by omega]
          show cnt _ fr (k - fr) + (if lasF (pc x).1 (fr + (k - fr)) then 1 else 0) = _
          rw [show fr + (k - fr) = k by omega]
        rw [ec] at hn
        unfold wpX9_data_L151
        rw [nI_1, i240, nI_clamp (by omega), (hby k hfk (by omega)).2]
        refine brf (nI_ge (by omega) (by omega)) ⟨vin rfl (by omega) (by decide), br01 (fun e => ?_) (fun e => ?_)⟩
        · unfold wpX9_data_L184
          rintro _ rfl _ rfl
          rw [e] at hn
          have e0 : nI (cnt (lasF (pc x).1) fr (k - fr)) + 0 = nI (cnt (lasF (pc x).1) fr (k - fr) + 0) := nI_add _ 0
          rw [e0, nI_1]
          exact hn
        · unfold wpX9_data_L184
          rintro _ rfl _ rfl
          rw [e] at hn
          rw [nI_1, nI_1]
          exact hn
    unfold wpX9_data_L145
    refine ⟨to - 1 - fr + 1, ?_⟩
    have := L151 (to - 1 - fr) fr (by omega) (Nat.le_refl _)
    rw [Nat.sub_self] at this
    exact this
  -- the numbers
  have L82 : ∀ pb : Bool, pb = polB v wl → wpX9_data_L82 Q (nI i) (nI x) (nI fr) (nI to) (b01 part) (nI (16 * i + x % 16)) (b01 pb) τ := by
    intro pb hpb
    unfold wpX9_data_L82
    rw [nI_clamp (by omega)]
    refine ⟨vin rfl hi (by decide), vin rfl hi (by decide), ?_⟩
    rintro _ rfl
    refine ⟨vin rfl hi (by decide), vin rfl hi (by decide), ?_⟩
    rintro _ rfl
    rw [up2_o (d := 7) (by decide), s9, s7, nI_1, nI_1]
    have hF17 : FrA LD i τ (up2 (up2 τ 9 i (nI (v 12 + 1))) 7 i (nI (v 11 + 1))) := (FrA.rf.up (by decide) (fun _ => Nat.div_one i)).up (by decide) (fun _ => Nat.div_one i)
    refine br01 (fun e => ?_) (fun e => ?_)
    · have := L145 _ ?_ ?_ hF17
      · rw [← hpb] at this
        exact this
      · intro c hc
        rw [up2_o (by omega), up2_o (by omega)]
      · have ev : cdV v wl = vup (vup v 12 (v 12 + 1)) 11 (v 11 + 1) := by unfold cdV; rw [← hpb, e]; rfl
        rw [ev]
        have o : ∀ k, k ≠ 11 → k ≠ 12 → vup (vup v 12 (v 12 + 1)) 11 (v 11 + 1) k = v k := fun k h1 h2 => by rw [vup_o h1, vup_o h2]
        refine ⟨?_, ?_, ?_, ?_, ?_, ?_, ?_, ?_, ?_, ?_, ?_⟩
        · rw [up2_o (by decide), up2_o (by decide), o 4 (by decide) (by decide)]; exact s3
        · rw [up2_o (by decide), up2_o (by decide), o 5 (by decide) (by decide)]; exact s4
        · rw [up2_o (by decide), up2_o (by decide), o 10 (by decide) (by decide)]; exact s5
        · rw [up2_o (by decide), up2_o (by decide), o 9 (by decide) (by decide)]; exact s6
        · rw [up2_e, if_pos ⟨rfl, rfl⟩, vup_s]
        · rw [up2_o (by decide), up2_o (by decide)]; exact s8
        · rw [up2_o (by decide), up2_e, if_pos ⟨rfl, rfl⟩, vup_o (by decide), vup_s]
        · rw [up2_o (by decide), up2_o (by decide), o 13 (by decide) (by decide)]; exact s10
        · rw [up2_o (by decide), up2_o (by decide), o 14 (by decide) (by decide)]; exact s11
        · rw [up2_o (by decide), up2_o (by decide), o 7 (by decide) (by decide)]; exact s12
        · rw [up2_o (by decide), up2_o (by decide), o 8 (by decide) (by decide)]; exact s13
    · refine ⟨vin rfl hi (by decide), ?_⟩
      rintro _ rfl
      refine ⟨vin rfl hi (by decide), ?_⟩
      rintro _ rfl
      refine ⟨vin rfl hi (by decide), vin rfl hi (by decide), ?_⟩
      rintro _ rfl
      refine ⟨vin rfl hi (by decide), ?_⟩
      rintro _ rfl
      rw [up2_o (d := 4) (by decide), up2_o (d := 4) (by decide), up2_o (d := 4) (by decide), up2_o (d := 4) (by decide), s4]
      have := L145 _ ?_ ?_ ((((hF17.up (c := 7) (k := i) (v := 0) (by decide) (fun _ => Nat.div_one i)).up (c := 12) (k := i) (v := 0) (by decide) (fun _ => Nat.div_one i)).up (c := 6) (k := i) (v := nI (v 5) - 1) (by decide) (fun _ => Nat.div_one i)).up (c := 5) (k := i) (v := 10) (by decide) (fun _ => Nat.div_one i))
      · rw [← hpb] at this
        exact this
      · intro c hc
        rw [up2_o (by omega), up2_o (by omega), up2_o (by omega), up2_o (by omega), up2_o (by omega), up2_o (by omega)]
      · have ev : cdV v wl = vup (vup (vup (vup (vup v 12 (v 12 + 1)) 7 0) 11 0) 9 (v 5)) 10 10 := by unfold cdV; rw [← hpb, e]; rfl
        rw [ev]
        have o : ∀ k, k ≠ 10 → k ≠ 9 → k ≠ 11 → k ≠ 7 → k ≠ 12 → vup (vup (vup (vup (vup v 12 (v 12 + 1)) 7 0) 11 0) 9 (v 5)) 10 10 k = v k := fun k h1 h2 h3 h4 h5 => by rw [vup_o h1, vup_o h2, vup_o h3, vup_o h4, vup_o h5]
        have u : ∀ (τ9 : Sg) (c : Nat), c ≠ 5 → c ≠ 6 → c ≠ 12 → c ≠ 7 → c ≠ 9 → up2 (up2 (up2 (up2 (up2 (up2 τ9 9 i (nI (v 12 + 1))) 7 i (nI (v 11 + 1))) 7 i 0) 12 i 0) 6 i (nI (v 5) - 1)) 5 i 10 c = τ9 c := fun τ9 c h1 h2 h3 h4 h5 => by rw [up2_o h1, up2_o h2, up2_o h3, up2_o h4, up2_o h4, up2_o h5]
        refine ⟨?_, ?_, ?_, ?_, ?_, ?_, ?_, ?_, ?_, ?_, ?_⟩
        · rw [u τ 3 (by decide) (by decide) (by decide) (by decide) (by decide), o 4 (by decide) (by decide) (by decide) (by decide) (by decide)]; exact s3
        · rw [u τ 4 (by decide) (by decide) (by decide) (by decide) (by decide), o 5 (by decide) (by decide) (by decide) (by decide) (by decide)]; exact s4
        · rw [up2_e, if_pos ⟨rfl, rfl⟩, vup_s]; rfl
        · rw [up2_o (by decide), up2_e, if_pos ⟨rfl, rfl⟩, vup_o (by decide), vup_s]
        · rw [up2_o (by decide), up2_o (by decide), up2_o (by decide), up2_e, if_pos ⟨rfl, rfl⟩, vup_o (by decide), vup_o (by decide), vup_s]; rfl
        · rw [u τ 8 (by decide) (by decide) (by decide) (by decide) (by decide)]; exact s8
        · rw [up2_o (by decide), up2_o (by decide), up2_o (by decide), up2_o (by decide), up2_o (by decide), up2_e, if_pos ⟨rfl, rfl⟩, vup_o (by decide), vup_o (by decide), vup_o (by decide), vup_o (by decide), vup_s]
        · rw [u τ 10 (by decide) (by decide) (by decide) (by decide) (by decide), o 13 (by decide) (by decide) (by decide) (by decide) (by decide)]; exact s10
        · rw [u τ 11 (by decide) (by decide) (by decide) (by decide) (by decide), o 14 (by decide) (by decide) (by decide) (by decide) (by decide)]; exact s11
        · rw [up2_o (by decide), up2_o (by decide), up2_e, if_pos ⟨rfl, rfl⟩, vup_o (by decide), vup_o (by decide), vup_o (by decide), vup_s]; rfl
        · rw [u τ 13 (by decide) (by decide) (by decide) (by decide) (by decide), o 8 (by decide) (by decide) (by decide) (by decide) (by decide)]; exact s13
  have L33 : ∀ nz : Bool, nz = decide (wl = 0 ∧ v 6 = 0) → wpX9_data_L33 Q (nI i) (nI x) (nI fr) (nI to) (b01 part) (nI (16 * i + x % 16)) (b01 nz) τ := by
    intro nz hnz
    unfold wpX9_data_L33 wpX9_data_L77
    rw [nI_clamp (by omega), s12, s7, s4, s3, pk_sub h45]
    refine ⟨vin rfl hi (by decide), fun hn => L82 true (polB_1 (fun hh => hn (by rw [hh]; rfl))).symm, fun h7 => ⟨vin rfl hi (by decide), pk_le 3 (v 11) (fun h3 => L82 true (decide_eq_true (Or.inr (Or.inl h3))).symm) (fun h3 => br01' (fun e => ⟨vin rfl hi (by decide), vin rfl hi (by decide), fun hn => ?_, fun hn => ?_⟩) (fun e => ?_))⟩⟩
    · have h7 : v 7 = 0 := (nI_eq (a := v 7) (b := 0) (by omega) (by decide)).mp h7
      have hn : ¬ v 5 - v 4 = 16 := fun hh => hn (by rw [hh]; rfl)
      rw [hnz] at e
      have e := of_decide_eq_false e
      refine L82 false (decide_eq_false (fun hh => ?_)).symm
      rcases hh with hh | hh | hh | hh
      · exact hh h7
      · omega
      · exact e hh
      · omega
    · have hn : v 5 - v 4 = 16 := (nI_eq (a := v 5 - v 4) (b := 16) (by omega) (by decide)).mp hn
      exact L82 true (decide_eq_true (Or.inr (Or.inr (Or.inr (by omega))))).symm
    · rw [hnz] at e
      exact L82 true (decide_eq_true (Or.inr (Or.inr (Or.inl (of_decide_eq_true e))))).symm
  unfold wpX9_data
  rw [a15 (by omega), i16]
  rintro _ rfl
  rw [nI_clamp (by omega), w1]
  refine ⟨vin rfl hi (by decide), fun hn => ?_, fun h0 => ?_⟩
  · have hn : ¬ wl = 0 := fun hh => hn (by rw [hwl.mpr hh]; rfl)
    unfold wpX9_data_L32
    exact L33 false (decide_eq_false (fun hh => hn hh.1)).symm
  · have h0 : wl = 0 := hwl.mp ((nI_eq (a := fl.length) (b := 0) (by omega) (by decide)).mp h0)
    refine allAgain_ok hi s3 s4 h45 (by omega) hP ?_
    rw [← h6]
    refine ⟨fun hn => ?_, fun hn => ?_⟩
    · have hn : ¬ v 6 = 0 := fun hh => hn (by rw [hh]; rfl)
      unfold wpX9_data_L32
      exact L33 false (decide_eq_false (fun hh => hn hh.2)).symm
    · have hn : v 6 = 0 := (nI_eq (a := v 6) (b := 0) (by omega) (by decide)).mp hn
      exact L33 true (decide_eq_true ⟨h0, hn⟩).symm
