/-! PURE: the reference: a REPORT comes, a piece is HANDED -/
theorem and1 (x : Int32) : (x &&& 1 = 1) ↔ ¬ x &&& 1 = 0 := by
  obtain ⟨j, hj, e⟩ := pk_andE x (m := 1) 1 (by decide)
  rw [e]
  have : j = 0 ∨ j = 1 := by
    have : j < 2 := hj
    omega
  rcases this with rfl | rfl
  · exact ⟨fun h => absurd h (by decide), fun h => absurd rfl h⟩
  · exact ⟨fun _ => by decide, fun _ => rfl⟩
theorem report_ok {τ : Sg} {i nc : Nat} {un : Nat → Un} {w : Wt} {pk : List Int32} {Q : Sg → Prop} (hi : i < 6) (hK : KpM τ i nc un) (hW : WtM τ i (fltW w)) (hV : ObV nc un w) (hpk : pkOK pk) (h64 : ∃ b, pk.getD 0 0 = nI b ∧ b < 64) (hP : ∀ k, k < pk.length → τ 50 (256 * i + k) = pk.getD k 0) (h : ∀ τ' : Sg, KpM τ' i nc (repU nc (un, w) pk).1 → WtM τ' i (fltW (repU nc (un, w) pk).2) → FrA LU i τ τ' → Q τ') : wpX9_report (nI i) (nI pk.length) τ Q := by
  obtain ⟨k1, k2, k3, k4⟩ := hpk
  obtain ⟨b0, e0, hb0⟩ := h64
  have hnc := hV.1
  obtain ⟨l1, l2, l3⟩ := lowK_spec (kpt un) nc
  have e256 : (256 : Int32) * nI i = nI (256 * i) := pk_mul 256 i
  have b1 : isB (pk.getD 1 0) := k4 _ (getD_mem (by omega))
  obtain ⟨c1, hc1, e1⟩ := b1
  have hnx : nxR pk = b0 * 256 + c1 := by
    unfold nxR
    rw [e0, e1, nI_clamp (by omega), nI_clamp (by omega)]
    omega
  unfold wpX9_report
  rw [e256, nI_1, nI_clamp (n := 256 * i) (by omega), nI_clamp (n := 256 * i + 1) (by omega)]
  have p0 : τ 50 (256 * i) = nI b0 := by have := hP 0 (by omega); rw [Nat.add_zero] at this; rw [this, e0]
  have p1 : τ 50 (256 * i + 1) = nI c1 := by rw [hP 1 (by omega), e1]
  rw [p0, p1]
  have esh : nI b0 <<< ((8 : Int32) &&& 31) = nI (b0 * 256) := pk_shlN _ 8 (by decide) (by omega)
  rw [esh, or8 hc1, ← hnx]
  have hnxb : nxR pk < 2 ^ 14 := by omega
  refine ⟨vin rfl (by omega) (by decide), vin rfl (by omega) (by decide), ?_⟩
  rintro _ rfl
  refine lowest_ok hi hK (by omega) hV.2.1 ?_
  -- the loop
  have L34 : ∀ (m c : Nat) (τ1 : Sg) (uw : (Nat → Un) × Wt), c + m = nc → nc ≤ c + 24 → KpM τ1 i nc uw.1 → WtM τ1 i (fltW uw.2) → ObV nc uw.1 uw.2 → FrA LU i τ τ1 → (∀ τ' : Sg, KpM τ' i nc (cfRF (hasR pk) m c uw).1 → WtM τ' i (fltW (cfRF (hasR pk) m c uw).2) → FrA LU i τ τ' → Q τ') → wpX9_report_L34 Q (m + 1) (nI i) (nI pk.length) (nI (nxR pk)) (nI c) τ1 := by
    intro m
    induction m with
    | zero =>
      intro c τ1 uw hc h24 hK1 hW1 hV1 hF1 h
      unfold wpX9_report_L34
      rw [nI_clamp (n := i) (by omega), hK1.1]
      exact ⟨vin rfl hi (by decide), brt (nI_le (by omega) (by omega)) (h τ1 hK1 hW1 hF1)⟩
    | succ m ih =>
      intro c τ1 uw hc h24 hK1 hW1 hV1 hF1 h
      have same : ¬ (kpt uw.1 c = true ∧ hasR pk c = true) → wpX9_report_L148 Q (wpX9_report_L34 Q (m + 1)) (nI i) (nI pk.length) (nI (nxR pk)) (nI c) τ1 := by
        intro hh
        unfold wpX9_report_L148
        rintro _ rfl
        rw [nI_1]
        rw [cfRF, if_neg hh] at h
        exact ih (c + 1) τ1 uw (by omega) (by omega) hK1 hW1 hV1 hF1 h
      unfold wpX9_report_L34
      rw [nI_clamp (n := i) (by omega), hK1.1, a31 (by omega), i32, nI_clamp (n := 32 * i + c % 32) (by omega), hK1.2.1 c (by omega) (by omega)]
      refine ⟨vin rfl hi (by decide), brf (nI_ge (by omega) (by omega)) ⟨vin rfl (by omega) (by decide), br01' (fun ek => same (fun hh => by rw [hh.1] at ek; cases ek)) (fun ek => ?_)⟩⟩
      have L129 : hasR pk c = true → wpX9_report_L129 Q (wpX9_report_L34 Q (m + 1)) (nI i) (nI pk.length) (nI (nxR pk)) (nI c) τ1 := by
        intro eh
        unfold wpX9_report_L129 wpX9_report_L134
        refine brf (by decide) (rcfU_ok hi hK1 hW1 hV1 ek (fun τ2 g1 g2 g3 => ?_))
        unfold wpX9_report_L148
        rintro _ rfl
        rw [nI_1]
        rw [cfRF, if_pos ⟨ek, eh⟩] at h
        exact ih (c + 1) τ2 (cfU uw c) (by omega) (by omega) g1 g2 (obV_cut hV1) (hF1.tr g3) h
      have L133 : hasR pk c = false → wpX9_report_L133 Q (wpX9_report_L34 Q (m + 1)) (nI i) (nI pk.length) (nI (nxR pk)) (nI c) τ1 := by
        intro eh
        unfold wpX9_report_L133 wpX9_report_L134
        exact brt rfl (same (fun hh => by rw [hh.2] at eh; cases eh))
      intro x5 hx5
      rw [hx5]
      clear hx5
      refine pk_lt c (nxR pk) (fun hlt => L129 (by unfold hasR; rw [decide_eq_true hlt, Bool.true_or])) (fun hge => ?_)
      rcases Nat.eq_or_lt_of_le hge with heq | hgt
      · -- the one that comes next
        rw [← heq]
        have ez : nI (nxR pk) - nI (nxR pk) - 1 = (-1 : Int32) := by
          rw [pk_sub (Nat.le_refl _), Nat.sub_self]
          exact m1z.symm
        rw [ez]
        rw [← heq] at L133
        exact brt (by decide) (L133 (by unfold hasR; rw [decide_eq_false (by omega)]; rfl))
      · have e5 : (nI c - nI (nxR pk)) - 1 = nI (c - nxR pk - 1) := by
          rw [pk_sub (by omega)]
          exact pk_sub (a := c - nxR pk) (b := 1) (by omega)
        have e8 : (8 : Int32) * (nI pk.length - 2) = nI (8 * (pk.length - 2)) := by
          have : nI pk.length - 2 = nI (pk.length - 2) := pk_sub (a := pk.length) (b := 2) (by omega)
          rw [this]
          exact pk_mul 8 (pk.length - 2)
        have ed : nI (c - nxR pk - 1) / 8 = nI ((c - nxR pk - 1) / 8) := pk_div (a := c - nxR pk - 1) (d := 8) (by omega) (by decide) (by decide)
        have er : nI (c - nxR pk - 1) - nI (c - nxR pk - 1) / 8 * 8 = nI ((c - nxR pk - 1) % 8) := pk_rem (a := c - nxR pk - 1) (d := 8) (by omega) (by decide) (by decide)
        rw [e5, e8]
        have hh : hasR pk c = btR pk (c - nxR pk - 1) := by
          unfold hasR
          rw [decide_eq_false (by omega), decide_eq_true hgt, Bool.false_or, Bool.true_and]
        rw [hh] at L129 L133
        have ht20 : c - nxR pk - 1 < 2 ^ 20 := by omega
        generalize c - nxR pk - 1 = t at *
        refine brf (nI_pos (by omega)) (pk_le (8 * (pk.length - 2)) t (fun h9 => L133 ?_) (fun h9 => ?_))
        · unfold btR
          exact decide_eq_false (fun hh => by omega)
        · rw [er, ed]
          have e2 : nI (256 * i) + 2 + nI (t / 8) = nI (256 * i + (2 + t / 8)) := by
            show (nI (256 * i) + nI 2) + _ = _
            rw [nI_add, nI_add, Nat.add_assoc]
          rw [e256, e2, nI_clamp (n := 256 * i + (2 + t / 8)) (by omega)]
          have hp1 : τ1 50 (256 * i + (2 + t / 8)) = pk.getD (2 + t / 8) 0 := by
            rw [hF1.1 50 (by decide)]
            exact hP _ (by omega)
          rw [hp1]
          refine ⟨vin rfl (by omega) (by decide), ?_⟩
          rintro _ rfl
          refine ⟨fun hne => L133 ?_, fun he => L129 ?_⟩
          · unfold btR
            exact decide_eq_false (fun hh => hne ((and1 _).mpr hh.2))
          · unfold btR
            exact decide_eq_true ⟨by omega, (and1 _).mp he⟩
  exact ⟨nc - lowK (kpt un) nc + 1, L34 (nc - lowK (kpt un) nc) (lowK (kpt un) nc) τ (un, w) (by omega) hV.2.1 hK hW hV FrA.rf h⟩
/-- rows that the handing touches -/
def LH : List Nat := [15, 18, 20, 21, 22, 23, 24, 49, 50, 51, 52, 53, 54, 55, 56, 57, 58, 59, 68, 69, 70, 71]
def HdM (τ : Sg) (i nc : Nat) (s : Hst) : Prop := BgM τ i s.1 ∧ IbM τ i s.2.1 ∧ KpM τ i nc s.2.2.1 ∧ WtM τ i (fltW s.2.2.2)
theorem rh22 {p b i sl nc n : Nat} {y ep : Int32} {Q : Sg → Prop} {τ0 : Sg} (hp : p < 2) (hb : b < 3) (hip : i = 3 * p + b) (hsl : sl < 192) (hn : n ≤ 240) (h44 : τ0 44 sl = nI n) (hK0 : KyM τ0 y ep) : ∀ (l : List Cel) (k : Nat) (τ : Sg) (s : Hst), k + l.length = n → (∀ j, j < l.length → τ0 45 (240 * sl + (k + j)) = (gc l j).1 ∧ τ0 47 (240 * sl + (k + j)) = b01 (gc l j).2.1 ∧ τ0 48 (240 * sl + (k + j)) = b01 (gc l j).2.2.1) → HdM τ i nc s → ObV nc s.2.2.1 s.2.2.2 → hndV s.1 l → FrA LH i τ0 τ → (∀ τ' : Sg, HdM τ' i nc (hndL (ksI (keyF y ep) (8 * b + 4 * (1 - p))) nc l s) → FrA LH i τ0 τ' → Q τ') → wpX9_hand_L22 Q (l.length + 1) (nI p) (nI b) (nI i) (nI sl) (nI k) τ := by
  have hi : i < 6 := by omega
  have e256 : (256 : Int32) * nI i = nI (256 * i) := pk_mul 256 i
  intro l
  induction l with
  | nil =>
    intro k τ s hk hc hH hV hW hF h
    rw [List.length_nil] at hk
    unfold wpX9_hand_L22
    rw [nI_clamp (n := sl) (by omega), hF.1 44 (by decide), h44]
    exact ⟨vin rfl hsl (by decide), brt (nI_le (by omega) (by omega)) (h τ hH hF)⟩
  | cons q l ih =>
    intro k τ s hk hc hH hV hW hF h
    rw [List.length_cons] at hk
    obtain ⟨⟨w1, w2, w3⟩, w4⟩ := hW
    obtain ⟨hB, hI, hK, hWt⟩ := hH
    have hc0 := hc 0 (by simp)
    rw [Nat.add_zero, ← hF.1 45 (by decide), ← hF.1 47 (by decide), ← hF.1 48 (by decide)] at hc0
    obtain ⟨c1, c2, c3⟩ := hc0
    have c1 : τ 45 (240 * sl + k) = q.1 := c1
    have c2 : τ 47 (240 * sl + k) = b01 q.2.1 := c2
    have c3 : τ 48 (240 * sl + k) = b01 q.2.2.1 := c3
    -- the next one
    have next : ∀ τ2 : Sg, HdM τ2 i nc (hnd1 (ksI (keyF y ep) (8 * b + 4 * (1 - p))) nc s q) → FrA LH i τ0 τ2 → wpX9_hand_L179 Q (wpX9_hand_L22 Q (l.length + 1)) (nI p) (nI b) (nI i) (nI sl) (nI k) τ2 := by
      intro τ2 n1 n2
      unfold wpX9_hand_L179
      rintro _ rfl
      rw [nI_1]
      refine ih (k + 1) τ2 _ (by omega) (fun j hj => ?_) n1 (obV_hnd1 hV) (by rw [hnd1_bg]; exact w4) n2 h
      have := hc (j + 1) (by rw [List.length_cons]; omega)
      rw [show k + 1 + j = k + (j + 1) by omega]
      exact this
    -- with the packet that is begun
    have L63 : ∀ τ1 : Sg, BgM τ1 i (curB s.1 q) → (∀ c, c ≠ 49 → τ1 c = τ c) → FrA LH i τ0 τ1 → wpX9_hand_L63 Q (wpX9_hand_L22 Q (l.length + 1)) (nI p) (nI b) (nI i) (nI sl) (nI k) (nI (240 * sl + k)) τ1 := by
      intro τ1 hB1 ho hF1
      have hI1 : IbM τ1 i s.2.1 := hI.of (fun c c1 c2 => ho c (by omega))
      have hK1 : KpM τ1 i nc s.2.2.1 := hK.of (fun c hc => ho c (by omega))
      have hW1 : WtM τ1 i (fltW s.2.2.2) := hWt.of (fun c c1 c2 => ho c (by omega))
      unfold wpX9_hand_L63
      rw [nI_clamp (n := i) (by omega), nI_clamp (n := 240 * sl + k) (by omega), ho 45 (by decide), c1]
      refine ⟨vin rfl hi (by decide), ?_⟩
      cases ec : curB s.1 q with
      | none =>
        rw [ec] at hB1
        have hB1 : τ1 49 i = -1 := hB1
        have e1 : nxtB s.1 q = none := by unfold nxtB; rw [ec]
        have e2 : donB s.1 q = none := by unfold donB; rw [ec]
        have e3 : hnd1 (ksI (keyF y ep) (8 * b + 4 * (1 - p))) nc s q = (none, s.2) := by unfold hnd1; rw [e2, e1]
        rw [hB1]
        exact brt' rfl (next τ1 (by rw [e3]; exact ⟨hB1, hI1, hK1, hW1⟩) hF1)
      | some pk =>
        rw [ec] at hB1
        obtain ⟨g1, g2⟩ := hB1
        have hpl := w2 pk ec
        rw [g1, i256, nI_clamp (n := 256 * i + pk.length) (by omega)]
        refine brf' (neg1 (by omega)) ⟨vin rfl hi (by decide), vin rfl (by omega) (by decide), vin rfl (by omega) (by decide), ?_⟩
        rintro _ rfl
        refine ⟨vin rfl hi (by decide), vin rfl hi (by decide), ?_⟩
        rw [up2_o (d := 49) (by decide), g1, nI_1]
        rintro _ rfl
        rw [up2_o (d := 48) (by decide), up2_o (d := 48) (by decide), ho 48 (by decide), c3]
        have hp2 : ∀ j, j < (pk ++ [q.1]).length → up2 (up2 τ1 50 (256 * i + pk.length) q.1) 49 i (nI (pk.length + 1)) 50 (256 * i + j) = (pk ++ [q.1]).getD j 0 := fun j hj => by
          rw [List.length_append, List.length_singleton] at hj
          rw [up2_o (by decide), up2_e]
          by_cases ej : j = pk.length
          · subst ej
            rw [if_pos ⟨rfl, rfl⟩, getD_end]
          · rw [if_neg (by omega), getD_app (by omega)]
            exact g2 j (by omega)
        have hpl1 : (pk ++ [q.1]).length = pk.length + 1 := by simp
        have ho2 : ∀ c, c ≠ 49 → c ≠ 50 → up2 (up2 τ1 50 (256 * i + pk.length) q.1) 49 i (nI (pk.length + 1)) c = τ1 c := fun c c1 c2 => by rw [up2_o c1, up2_o c2]
        have hF2 : FrA LH i τ0 (up2 (up2 τ1 50 (256 * i + pk.length) q.1) 49 i (nI (pk.length + 1))) := (hF1.up (by decide) (fun _ => show (256 * i + pk.length) / 256 = i by omega)).up (by decide) (fun _ => Nat.div_one i)
        have h49 : up2 (up2 τ1 50 (256 * i + pk.length) q.1) 49 i (nI (pk.length + 1)) 49 i = nI (pk.length + 1) := by rw [up2_e, if_pos ⟨rfl, rfl⟩]
        generalize up2 (up2 τ1 50 (256 * i + pk.length) q.1) 49 i (nI (pk.length + 1)) = τ2 at *
        have hI2 : IbM τ2 i s.2.1 := hI1.of (fun c c1 c2 => ho2 c (by omega) (by omega))
        have hK2 : KpM τ2 i nc s.2.2.1 := hK1.of (fun c hc => ho2 c (by omega) (by omega))
        have hW2 : WtM τ2 i (fltW s.2.2.2) := hW1.of (fun c c1 c2 => ho2 c (by omega) (by omega))
        refine ⟨vin rfl (by omega) (by decide), br01' (fun el => ?_) (fun el => ?_)⟩
        · have e1 : nxtB s.1 q = some (pk ++ [q.1]) := by unfold nxtB; rw [ec]; simp [el]
          have e2 : donB s.1 q = none := by unfold donB; rw [ec]; simp [el]
          have e3 : hnd1 (ksI (keyF y ep) (8 * b + 4 * (1 - p))) nc s q = (some (pk ++ [q.1]), s.2) := by unfold hnd1; rw [e2, e1]
          exact next τ2 (by rw [e3]; exact ⟨⟨by rw [h49, hpl1], hp2⟩, hI2, hK2, hW2⟩) hF2
        · have e1 : nxtB s.1 q = none := by unfold nxtB; rw [ec]; simp [el]
          have e2 : donB s.1 q = some (pk ++ [q.1]) := by unfold donB; rw [ec]; simp [el]
          have hok := w3 _ e2
          refine ⟨vin rfl hi (by decide), ?_⟩
          rw [h49, ← hpl1]
          rintro _ rfl
          refine ⟨vin rfl hi (by decide), ?_⟩
          rintro _ rfl
          have hF3 : FrA LH i τ0 (up2 τ2 49 i (-1)) := hF2.up (by decide) (fun _ => Nat.div_one i)
          have ho3 : ∀ c, c ≠ 49 → up2 τ2 49 i (-1) c = τ2 c := fun c hc => up2_o hc
          have h493 : up2 τ2 49 i (-1) 49 i = -1 := by rw [up2_e, if_pos ⟨rfl, rfl⟩]
          generalize up2 τ2 49 i (-1) = τ3 at *
          have hI3 : IbM τ3 i s.2.1 := hI2.of (fun c c1 c2 => ho3 c (by omega))
          have hK3 : KpM τ3 i nc s.2.2.1 := hK2.of (fun c hc => ho3 c (by omega))
          have hW3 : WtM τ3 i (fltW s.2.2.2) := hW2.of (fun c c1 c2 => ho3 c (by omega))
          have hp3 : ∀ j, j < (pk ++ [q.1]).length → τ3 50 (256 * i + j) = (pk ++ [q.1]).getD j 0 := fun j hj => by rw [ho3 50 (by decide)]; exact hp2 j hj
          have hp30 : τ3 50 (256 * i) = (pk ++ [q.1]).getD 0 0 := by have := hp3 0 (by rw [hpl1]; omega); rw [Nat.add_zero] at this; exact this
          rw [e256, nI_clamp (n := 256 * i) (by omega), hp30]
          have e3 : hnd1 (ksI (keyF y ep) (8 * b + 4 * (1 - p))) nc s q = if 128 ≤ (pk ++ [q.1]).getD 0 0 then (none, untR (ksI (keyF y ep) (8 * b + 4 * (1 - p))) s.2.1 (pk ++ [q.1]), s.2.2) else (none, s.2.1, repU nc s.2.2 (pk ++ [q.1])) := by
            unfold hnd1
            rw [e2, e1]
          rw [e3] at next
          generalize pk ++ [q.1] = pk1 at *
          obtain ⟨z1, z2, ⟨b0, z3, z4, z5⟩, z6⟩ := hok
          refine ⟨vin rfl (by omega) (by decide), ?_⟩
          rcases z5 with z5 | z5
          · rw [if_neg (by rw [z3]; exact nI_ge (a := b0) (b := 128) (by omega) (by decide))] at next
            refine brt (by rw [z3]; exact nI_le (b := 127) (by omega) (by decide)) (report_ok hi hK3 hW3 hV ⟨z1, z2, ⟨b0, z3, z4, Or.inl z5⟩, z6⟩ ⟨b0, z3, z5⟩ hp3 (fun τ4 q1 q2 q3 => next τ4 ⟨?_, ?_, q1, q2⟩ (hF3.tr (q3.mono (by decide)))))
            · show τ4 49 i = -1
              rw [q3.1 49 (by decide)]
              exact h493
            · exact hI3.of (fun c c1 c2 => q3.1 c (by unfold LU; simp only [List.mem_cons, List.not_mem_nil, or_false]; omega))
          · rw [if_pos (by rw [z3]; exact nI_le (a := 128) z5 (by omega))] at next
            refine brf (by rw [z3]; exact nI_ge (a := 127) (by omega) (by omega)) (unitComes_ok hp hb hip (hK0.of ?_ ?_) hI3 ⟨z1, z2, ⟨b0, z3, z4, Or.inr z5⟩, z6⟩ hp3 (fun τ4 q1 q2 => next τ4 ⟨?_, q1, ?_, ?_⟩ (hF3.tr (q2.mono (by decide)))))
            · exact hF3.1 0 (by decide)
            · exact hF3.1 67 (by decide)
            · show τ4 49 i = -1
              rw [q2.1 49 (by decide)]
              exact h493
            · exact hK3.of (fun c hc => q2.1 c (by unfold LY; simp only [List.mem_cons, List.not_mem_nil, or_false]; omega))
            · exact hW3.of (fun c c1 c2 => q2.1 c (by unfold LY; simp only [List.mem_cons, List.not_mem_nil, or_false]; omega))
    show wpX9_hand_L22 Q (l.length + 1 + 1) (nI p) (nI b) (nI i) (nI sl) (nI k) τ
    unfold wpX9_hand_L22
    rw [nI_clamp (n := sl) (by omega), hF.1 44 (by decide), h44, i240]
    refine ⟨vin rfl hsl (by decide), brf (nI_ge (by omega) (by omega)) ?_⟩
    rintro _ rfl
    rw [nI_clamp (n := 240 * sl + k) (by omega), c2]
    refine ⟨vin rfl (by omega) (by decide), br01 (fun ef => ?_) (fun ef => ⟨vin rfl hi (by decide), ?_⟩)⟩
    · refine L63 τ ?_ (fun _ _ => rfl) hF
      have ec : curB s.1 q = s.1 := by unfold curB; simp [ef]
      rw [ec]
      exact hB
    · rw [nI_clamp (n := i) (by omega)]
      rintro _ rfl
      refine L63 _ ?_ (fun c hc => up2_o hc) (hF.up (by decide) (fun _ => Nat.div_one i))
      have ec : curB s.1 q = some [] := by unfold curB; simp [ef]
      rw [ec]
      exact ⟨by rw [up2_e, if_pos ⟨rfl, rfl⟩]; rfl, fun j hj => absurd hj (Nat.not_lt_zero j)⟩
theorem rhand_ok {τ : Sg} {p b i x nc : Nat} {y ep : Int32} {l : List Cel} {s : Hst} {Q : Sg → Prop} (hp : p < 2) (hb : b < 3) (hip : i = 3 * p + b) (hx : x < 2 ^ 20) (hK0 : KyM τ y ep) (hP : RpM τ (32 * i + x % 32) l true (fun k => decide (k < l.length))) (hH : HdM τ i nc s) (hV : ObV nc s.2.2.1 s.2.2.2) (hW : hndV s.1 l) (h : ∀ τ' : Sg, HdM τ' i nc (hndL (ksI (keyF y ep) (8 * b + 4 * (1 - p))) nc l s) → FrA LH i τ τ' → Q τ') : wpX9_hand (nI p) (nI b) (nI x) τ Q := by
  have hat : (3 : Int32) * nI p + nI b = nI i := by
    have : (3 : Int32) * nI p = nI (3 * p) := pk_mul 3 p
    rw [this, nI_add, hip]
  obtain ⟨p1, p2, p3, p4, p5⟩ := hP
  unfold wpX9_hand wpX9_at
  rw [hat]
  dsimp only
  rw [a31 (by omega), i32]
  rintro _ rfl
  exact ⟨l.length + 1, rh22 hp hb hip (by omega) p2 (by rw [p1, if_pos rfl]) hK0 l 0 τ s (by omega) (fun j hj => by rw [Nat.zero_add]; exact p5 j (by omega) (decide_eq_true hj)) hH hV hW FrA.rf h⟩
