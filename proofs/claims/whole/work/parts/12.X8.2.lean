def wpX8_delivered (P : Nat) (x1 : Int32) (x2 : Int32) (x3 : Int32) (σ : Sg) (Q : Int32 → Sg → Prop) : Prop := wpX8_isPlace P x1 x2 σ (fun r1 σ1 => ((¬ r1 = 0 → wpX8_placeOf P x1 x2 σ1 (fun r3 σ3 => (vp_in r3 P ∧ ∀ c_4 : Nat, c_4 = 51 + 113 * r3.toNatClampNeg → ((x3 = 0 → Q (σ3 (c_4 + 2) 7) σ3) ∧ (x3 = 1 → Q (σ3 (c_4 + 2) 8) σ3) ∧ (x3 = 2 → Q (σ3 (c_4 + 2) 9) σ3) ∧ (x3 = 3 → Q (σ3 (c_4 + 2) 6) σ3) ∧ (x3 = 4 → Q (σ3 (c_4 + 2) 10) σ3) ∧ (x3 = 5 → Q (σ3 (c_4 + 2) 12) σ3) ∧ (¬ (x3 = 0 ∨ x3 = 1 ∨ x3 = 2 ∨ x3 = 3 ∨ x3 = 4 ∨ x3 = 5) → Q (-1) σ3))))) ∧ (r1 = 0 → Q (-1) σ1)))
set_option maxHeartbeats 8000000 in
set_option maxRecDepth 100000 in
theorem tX8_delivered {l : Launch} {G : GG} {P : Nat} {tS : Nat × (Nat → Int32)} (hgo : go G = some tS) {x1 : Int32} {x2 : Int32} {x3 : Int32} {σ : Sg} {Q : Int32 → Sg → Prop} (h0 : isHouse G P) (h : wpX8_delivered P x1 x2 x3 σ Q) : Ki l G yX8_delivered (wB yX8_delivered prog_1_method_12_code 5 (Option.some FieldType.int)) ({ frames := 1, cells := 0, slots := 0, locals := 22 }) [.ref (ga G 0), .int x1, .int x2, .int x3] σ Q := by
  refine K_of (cc := cX8_delivered) (maxL := 5) (ret := (some .int)) (by decide) rfl (Nat.le_of_ble_eq_true rfl) ?_
  intro p e s m args below meth c ls B hH hl
  obtain ⟨hx, hb, hr, hts, hown, hlk, hml, hK, hX⟩ := B
  replace hl : lv_has ls 5 [(0, .ref (ga G 0)), (1, .int x1), (2, .int x2), (3, .int x3)] := hl
  have hXN : NWs s := XS.nw hX hgo
  have hB : ∀ w ∈ BIG, w.before args s = true := fun w h9 => hts w (List.mem_cons_of_mem _ h9)
  clear hts
  have k42 := hB _ bw2_122
  have k133 : (Cond.fieldLinkNest RX8 133 "BearerHouse$Receiver" "inbox" "LBearerHouse$Inbox;" "BearerHouse").before args s = true := va_Nw.use rfl (hXN.1 ("BearerHouse", 133, "BearerHouse$Receiver", "inbox", "LBearerHouse$Inbox;", "BearerHouse") (List.mem_of_getElem? (i := 2) rfl))
  have k219 : (Cond.fieldLinkNest RX8 219 "BearerHouse$Inbox" "next" "I" "BearerHouse").before args s = true := va_Nw.use rfl (hXN.1 ("BearerHouse", 219, "BearerHouse$Inbox", "next", "I", "BearerHouse") (List.mem_of_getElem? (i := 25) rfl))
  have k222 : (Cond.fieldLinkNest RX8 222 "BearerHouse$Inbox" "bytes" "I" "BearerHouse").before args s = true := va_Nw.use rfl (hXN.1 ("BearerHouse", 222, "BearerHouse$Inbox", "bytes", "I", "BearerHouse") (List.mem_of_getElem? (i := 26) rfl))
  have k225 : (Cond.fieldLinkNest RX8 225 "BearerHouse$Inbox" "doubles" "I" "BearerHouse").before args s = true := va_Nw.use rfl (hXN.1 ("BearerHouse", 225, "BearerHouse$Inbox", "doubles", "I", "BearerHouse") (List.mem_of_getElem? (i := 27) rfl))
  have k228 : (Cond.fieldLinkNest RX8 228 "BearerHouse$Inbox" "stored" "I" "BearerHouse").before args s = true := va_Nw.use rfl (hXN.1 ("BearerHouse", 228, "BearerHouse$Inbox", "stored", "I", "BearerHouse") (List.mem_of_getElem? (i := 28) rfl))
  have k231 : (Cond.fieldLinkNest RX8 231 "BearerHouse$Inbox" "sum" "I" "BearerHouse").before args s = true := va_Nw.use rfl (hXN.1 ("BearerHouse", 231, "BearerHouse$Inbox", "sum", "I", "BearerHouse") (List.mem_of_getElem? (i := 29) rfl))
  have k234 : (Cond.fieldLinkNest RX8 234 "BearerHouse$Inbox" "latestSize" "I" "BearerHouse").before args s = true := va_Nw.use rfl (hXN.1 ("BearerHouse", 234, "BearerHouse$Inbox", "latestSize", "I", "BearerHouse") (List.mem_of_getElem? (i := 30) rfl))
  unfold wpX8_delivered at h
  refine lv_aload_n hx hb dX8_delivered_0 rfl (lv_at hl 0 rfl) ?_
  refine lv_iload_n hx hb dX8_delivered_1 rfl (lv_at hl 1 rfl) ?_
  refine lv_iload_n hx hb dX8_delivered_2 rfl (lv_at hl 2 rfl) ?_
  refine g_callVi (As := [.int x1, .int x2]) (rest := []) ⟨hx, hb, hml, hown, hB⟩ hK hX aA_hA hH (c0 := 0) (tX8_isPlace h0 h) (cwV 2 hB gVX8_63 rfl rfl rfl (by decide +kernel) ⟨Nat.le_of_ble_eq_true rfl, Nat.le_of_ble_eq_true rfl⟩) h0.1 rfl rfl hl.1 rfl (lv_room (Nat.le_of_ble_eq_true rfl)) ⟨Nat.zero_le _, Nat.zero_le _⟩ dX8_delivered_3 (fun r1 σ1 H locs h hH => ?_)
  refine lv_if_ne (tgt := 11) hx hb dX8_delivered_6 (by decide) (fun q2 => ?_) (fun q2 => ?_)
  · replace h := h.1 q2
    refine lv_aload_n hx hb dX8_delivered_11 rfl (lv_at hl 0 rfl) ?_
    refine g_getr hx hb hB inB8 hown hK hH (c0 := 0) h0.1 rfl 6 (by decide) k42 rfl (c1 := 8) rfl dX8_delivered_12 ?_
    refine lv_aload_n hx hb dX8_delivered_15 rfl (lv_at hl 0 rfl) ?_
    refine lv_iload_n hx hb dX8_delivered_16 rfl (lv_at hl 1 rfl) ?_
    refine lv_iload_n hx hb dX8_delivered_17 rfl (lv_at hl 2 rfl) ?_
    refine g_callVi (As := [.int x1, .int x2]) (rest := [.ref (ga G 8)]) ⟨hx, hb, hml, hown, hB⟩ hK hX aA_hA hH (c0 := 0) (tX8_placeOf h0 h) (cwV 2 hB gVX8_67 rfl rfl rfl (by decide +kernel) ⟨Nat.le_of_ble_eq_true rfl, Nat.le_of_ble_eq_true rfl⟩) h0.1 rfl rfl hl.1 rfl (lv_room (Nat.le_of_ble_eq_true rfl)) ⟨Nat.zero_le _, Nat.zero_le _⟩ dX8_delivered_18 (fun r3 σ3 H locs h hH => ?_)
    obtain ⟨hi4, h⟩ := h
    refine g_aald hx hb hK hH (c0 := 8) h0.2.2.2.2.2.1 hi4 dX8_delivered_21 ?_
    have hp4 : isReceiver G (51 + 113 * r3.toNatClampNeg) := h0.2.2.2.2.2.2.2.2.1 _ (vp_lt hi4)
    obtain ⟨c_4, ec_4⟩ : ∃ y : Nat, y = 51 + 113 * r3.toNatClampNeg := ⟨_, rfl⟩
    replace h := h c_4 ec_4
    rw [← ec_4] at hp4
    refine W.eq (g2 := F0 m 22 ls [.ref (ga G c_4)]) (by rw [ec_4]) ?_
    refine g_getrN hx hb hB inB6 hown hK hH (c0 := c_4) hp4.1 rfl 0 (by decide) k133 rfl (c1 := c_4 + 2) rfl dX8_delivered_22 ?_
    refine lv_astore (lv' := [(4, .ref (ga G (c_4 + 2))), (0, .ref (ga G 0)), (1, .int x1), (2, .int x2), (3, .int x3)]) hx hb dX8_delivered_25 hl (by decide) rfl (fun ls hl => ?_)
    refine lv_iload_n hx hb dX8_delivered_27 rfl (lv_at hl 4 rfl) ?_
    by_cases g5_0 : x3 = 0
    · refine lv_tableIn (off := 40) (tgt := 68) hx hb dX8_delivered_28 (by rw [g5_0]; decide) (by rw [g5_0]; decide) (by rw [g5_0]; rfl) (by decide) ?_
      replace h := h.1 g5_0
      refine lv_aload hx hb dX8_delivered_68 (lv_at hl 0 rfl) ?_
      refine g_getiN hx hb hB inB3 hown hK hH (c0 := c_4 + 2) hp4.2.2.1.1 rfl 7 (by decide) k219 rfl rfl dX8_delivered_70 ?_
      exact g_iret hx hb hr hK hlk h hH dX8_delivered_73
    by_cases g5_1 : x3 = 1
    · refine lv_tableIn (off := 46) (tgt := 74) hx hb dX8_delivered_28 (by rw [g5_1]; decide) (by rw [g5_1]; decide) (by rw [g5_1]; rfl) (by decide) ?_
      replace h := h.2.1 g5_1
      refine lv_aload hx hb dX8_delivered_74 (lv_at hl 0 rfl) ?_
      refine g_getiN hx hb hB inB3 hown hK hH (c0 := c_4 + 2) hp4.2.2.1.1 rfl 8 (by decide) k222 rfl rfl dX8_delivered_76 ?_
      exact g_iret hx hb hr hK hlk h hH dX8_delivered_79
    by_cases g5_2 : x3 = 2
    · refine lv_tableIn (off := 52) (tgt := 80) hx hb dX8_delivered_28 (by rw [g5_2]; decide) (by rw [g5_2]; decide) (by rw [g5_2]; rfl) (by decide) ?_
      replace h := h.2.2.1 g5_2
      refine lv_aload hx hb dX8_delivered_80 (lv_at hl 0 rfl) ?_
      refine g_getiN hx hb hB inB3 hown hK hH (c0 := c_4 + 2) hp4.2.2.1.1 rfl 9 (by decide) k225 rfl rfl dX8_delivered_82 ?_
      exact g_iret hx hb hr hK hlk h hH dX8_delivered_85
    by_cases g5_3 : x3 = 3
    · refine lv_tableIn (off := 58) (tgt := 86) hx hb dX8_delivered_28 (by rw [g5_3]; decide) (by rw [g5_3]; decide) (by rw [g5_3]; rfl) (by decide) ?_
      replace h := h.2.2.2.1 g5_3
      refine lv_aload hx hb dX8_delivered_86 (lv_at hl 0 rfl) ?_
      refine g_getiN hx hb hB inB3 hown hK hH (c0 := c_4 + 2) hp4.2.2.1.1 rfl 6 (by decide) k228 rfl rfl dX8_delivered_88 ?_
      exact g_iret hx hb hr hK hlk h hH dX8_delivered_91
    by_cases g5_4 : x3 = 4
    · refine lv_tableIn (off := 64) (tgt := 92) hx hb dX8_delivered_28 (by rw [g5_4]; decide) (by rw [g5_4]; decide) (by rw [g5_4]; rfl) (by decide) ?_
      replace h := h.2.2.2.2.1 g5_4
      refine lv_aload hx hb dX8_delivered_92 (lv_at hl 0 rfl) ?_
      refine g_getiN hx hb hB inB3 hown hK hH (c0 := c_4 + 2) hp4.2.2.1.1 rfl 10 (by decide) k231 rfl rfl dX8_delivered_94 ?_
      exact g_iret hx hb hr hK hlk h hH dX8_delivered_97
    by_cases g5_5 : x3 = 5
    · refine lv_tableIn (off := 70) (tgt := 98) hx hb dX8_delivered_28 (by rw [g5_5]; decide) (by rw [g5_5]; decide) (by rw [g5_5]; rfl) (by decide) ?_
      replace h := h.2.2.2.2.2.1 g5_5
      refine lv_aload hx hb dX8_delivered_98 (lv_at hl 0 rfl) ?_
      refine g_getiN hx hb hB inB3 hown hK hH (c0 := c_4 + 2) hp4.2.2.1.1 rfl 12 (by decide) k234 rfl rfl dX8_delivered_100 ?_
      exact g_iret hx hb hr hK hlk h hH dX8_delivered_103
    have gg5 : ∀ k : Nat, k < 6 → ¬ x3 = nI k := by
      intro k hk
      rcases (show k = 0 ∨ k = 1 ∨ k = 2 ∨ k = 3 ∨ k = 4 ∨ k = 5 by omega) with rfl | rfl | rfl | rfl | rfl | rfl <;> assumption
    refine lv_tableOut (tgt := 104) hx hb dX8_delivered_28 (sw_out (n := 6) (by decide) (by decide) gg5) (by decide) ?_
    replace h := h.2.2.2.2.2.2 (by simp only [not_or]; exact ⟨g5_0, g5_1, g5_2, g5_3, g5_4, g5_5⟩)
    refine lv_iconst (v := (-1)) hx hb dX8_delivered_104 (by decide) ?_
    exact g_iret hx hb hr hK hlk h hH dX8_delivered_105
  · replace h := h.2 q2
    refine lv_iconst (v := (-1)) hx hb dX8_delivered_9 (by decide) ?_
    exact g_iret hx hb hr hK hlk h hH dX8_delivered_10
def wpX8_unit (P : Nat) (x1 : Int32) (x2 : Int32) (x3 : Int32) (σ : Sg) (Q : Int32 → Sg → Prop) : Prop := wpX8_isPlace P x1 x2 σ (fun r1 σ1 => ((¬ r1 = 0 → wpX8_placeOf P x1 x2 σ1 (fun r3 σ3 => (vp_in r3 P ∧ ∀ c_4 : Nat, c_4 = 51 + 113 * r3.toNatClampNeg → ((x3 < 0 → Q (-1) σ3) ∧ (¬ (x3 < 0) → (((σ3 (c_4 + 2) 12) ≤ x3 → Q (-1) σ3) ∧ (¬ ((σ3 (c_4 + 2) 12) ≤ x3) → (((nI 120) ≤ x3 → Q (-1) σ3) ∧ (¬ ((nI 120) ≤ x3) → (vp_in x3 120 ∧ Q (σ3 ((c_4 + 2) + 4) x3.toNatClampNeg) σ3)))))))))) ∧ (r1 = 0 → Q (-1) σ1)))
set_option maxHeartbeats 8000000 in
set_option maxRecDepth 100000 in
theorem tX8_unit {l : Launch} {G : GG} {P : Nat} {tS : Nat × (Nat → Int32)} (hgo : go G = some tS) {x1 : Int32} {x2 : Int32} {x3 : Int32} {σ : Sg} {Q : Int32 → Sg → Prop} (h0 : isHouse G P) (h : wpX8_unit P x1 x2 x3 σ Q) : Ki l G yX8_unit (wB yX8_unit prog_1_method_13_code 5 (Option.some FieldType.int)) ({ frames := 1, cells := 0, slots := 0, locals := 22 }) [.ref (ga G 0), .int x1, .int x2, .int x3] σ Q := by
  refine K_of (cc := cX8_unit) (maxL := 5) (ret := (some .int)) (by decide) rfl (Nat.le_of_ble_eq_true rfl) ?_
  intro p e s m args below meth c ls B hH hl
  obtain ⟨hx, hb, hr, hts, hown, hlk, hml, hK, hX⟩ := B
  replace hl : lv_has ls 5 [(0, .ref (ga G 0)), (1, .int x1), (2, .int x2), (3, .int x3)] := hl
  have hXN : NWs s := XS.nw hX hgo
  have hB : ∀ w ∈ BIG, w.before args s = true := fun w h9 => hts w (List.mem_cons_of_mem _ h9)
  clear hts
  have k42 := hB _ bw2_122
  have k133 : (Cond.fieldLinkNest RX8 133 "BearerHouse$Receiver" "inbox" "LBearerHouse$Inbox;" "BearerHouse").before args s = true := va_Nw.use rfl (hXN.1 ("BearerHouse", 133, "BearerHouse$Receiver", "inbox", "LBearerHouse$Inbox;", "BearerHouse") (List.mem_of_getElem? (i := 2) rfl))
  have k234 : (Cond.fieldLinkNest RX8 234 "BearerHouse$Inbox" "latestSize" "I" "BearerHouse").before args s = true := va_Nw.use rfl (hXN.1 ("BearerHouse", 234, "BearerHouse$Inbox", "latestSize", "I", "BearerHouse") (List.mem_of_getElem? (i := 30) rfl))
  have k237 : (Cond.fieldLinkNest RX8 237 "BearerHouse$Inbox" "latest" "[I" "BearerHouse").before args s = true := va_Nw.use rfl (hXN.1 ("BearerHouse", 237, "BearerHouse$Inbox", "latest", "[I", "BearerHouse") (List.mem_of_getElem? (i := 31) rfl))
  unfold wpX8_unit at h
  refine lv_aload_n hx hb dX8_unit_0 rfl (lv_at hl 0 rfl) ?_
  refine lv_iload_n hx hb dX8_unit_1 rfl (lv_at hl 1 rfl) ?_
  refine lv_iload_n hx hb dX8_unit_2 rfl (lv_at hl 2 rfl) ?_
  refine g_callVi (As := [.int x1, .int x2]) (rest := []) ⟨hx, hb, hml, hown, hB⟩ hK hX aA_hA hH (c0 := 0) (tX8_isPlace h0 h) (cwV 2 hB gVX8_63 rfl rfl rfl (by decide +kernel) ⟨Nat.le_of_ble_eq_true rfl, Nat.le_of_ble_eq_true rfl⟩) h0.1 rfl rfl hl.1 rfl (lv_room (Nat.le_of_ble_eq_true rfl)) ⟨Nat.zero_le _, Nat.zero_le _⟩ dX8_unit_3 (fun r1 σ1 H locs h hH => ?_)
  refine lv_if_ne (tgt := 11) hx hb dX8_unit_6 (by decide) (fun q2 => ?_) (fun q2 => ?_)
  · replace h := h.1 q2
    refine lv_aload_n hx hb dX8_unit_11 rfl (lv_at hl 0 rfl) ?_
    refine g_getr hx hb hB inB8 hown hK hH (c0 := 0) h0.1 rfl 6 (by decide) k42 rfl (c1 := 8) rfl dX8_unit_12 ?_
    refine lv_aload_n hx hb dX8_unit_15 rfl (lv_at hl 0 rfl) ?_
    refine lv_iload_n hx hb dX8_unit_16 rfl (lv_at hl 1 rfl) ?_
    refine lv_iload_n hx hb dX8_unit_17 rfl (lv_at hl 2 rfl) ?_
    refine g_callVi (As := [.int x1, .int x2]) (rest := [.ref (ga G 8)]) ⟨hx, hb, hml, hown, hB⟩ hK hX aA_hA hH (c0 := 0) (tX8_placeOf h0 h) (cwV 2 hB gVX8_67 rfl rfl rfl (by decide +kernel) ⟨Nat.le_of_ble_eq_true rfl, Nat.le_of_ble_eq_true rfl⟩) h0.1 rfl rfl hl.1 rfl (lv_room (Nat.le_of_ble_eq_true rfl)) ⟨Nat.zero_le _, Nat.zero_le _⟩ dX8_unit_18 (fun r3 σ3 H locs h hH => ?_)
    obtain ⟨hi4, h⟩ := h
    refine g_aald hx hb hK hH (c0 := 8) h0.2.2.2.2.2.1 hi4 dX8_unit_21 ?_
    have hp4 : isReceiver G (51 + 113 * r3.toNatClampNeg) := h0.2.2.2.2.2.2.2.2.1 _ (vp_lt hi4)
    obtain ⟨c_4, ec_4⟩ : ∃ y : Nat, y = 51 + 113 * r3.toNatClampNeg := ⟨_, rfl⟩
    replace h := h c_4 ec_4
    rw [← ec_4] at hp4
    refine W.eq (g2 := F0 m 22 ls [.ref (ga G c_4)]) (by rw [ec_4]) ?_
    refine g_getrN hx hb hB inB6 hown hK hH (c0 := c_4) hp4.1 rfl 0 (by decide) k133 rfl (c1 := c_4 + 2) rfl dX8_unit_22 ?_
    refine lv_astore (lv' := [(4, .ref (ga G (c_4 + 2))), (0, .ref (ga G 0)), (1, .int x1), (2, .int x2), (3, .int x3)]) hx hb dX8_unit_25 hl (by decide) rfl (fun ls hl => ?_)
    refine lv_iload_n hx hb dX8_unit_27 rfl (lv_at hl 4 rfl) ?_
    refine lv_if_lt (tgt := 60) hx hb dX8_unit_28 (by decide) (fun q5 => ?_) (fun q5 => ?_)
    · replace h := h.1 q5
      refine lv_iconst (v := (-1)) hx hb dX8_unit_60 (by decide) ?_
      exact g_iret hx hb hr hK hlk h hH dX8_unit_61
    · replace h := h.2 q5
      refine lv_iload_n hx hb dX8_unit_31 rfl (lv_at hl 4 rfl) ?_
      refine lv_aload hx hb dX8_unit_32 (lv_at hl 0 rfl) ?_
      refine g_getiN hx hb hB inB3 hown hK hH (c0 := c_4 + 2) hp4.2.2.1.1 rfl 12 (by decide) k234 rfl rfl dX8_unit_34 ?_
      refine lv_icmp_ge (tgt := 60) hx hb dX8_unit_37 (by decide) (fun q6 => ?_) (fun q6 => ?_)
      · replace h := h.1 q6
        refine lv_iconst (v := (-1)) hx hb dX8_unit_60 (by decide) ?_
        exact g_iret hx hb hr hK hlk h hH dX8_unit_61
      · replace h := h.2 q6
        refine lv_iload_n hx hb dX8_unit_40 rfl (lv_at hl 4 rfl) ?_
        refine lv_aload hx hb dX8_unit_41 (lv_at hl 0 rfl) ?_
        refine g_getrN hx hb hB inB3 hown hK hH (c0 := c_4 + 2) hp4.2.2.1.1 rfl 11 (by decide) k237 rfl (c1 := (c_4 + 2) + 4) rfl dX8_unit_43 ?_
        refine g_aleni hx hb hK hH (c0 := (c_4 + 2) + 4) hp4.2.2.1.2.2.2.2 dX8_unit_46 ?_
        refine lv_icmp_ge (tgt := 60) hx hb dX8_unit_47 (by decide) (fun q7 => ?_) (fun q7 => ?_)
        · replace h := h.1 q7
          refine lv_iconst (v := (-1)) hx hb dX8_unit_60 (by decide) ?_
          exact g_iret hx hb hr hK hlk h hH dX8_unit_61
        · replace h := h.2 q7
          refine lv_aload hx hb dX8_unit_50 (lv_at hl 0 rfl) ?_
          refine g_getrN hx hb hB inB3 hown hK hH (c0 := c_4 + 2) hp4.2.2.1.1 rfl 11 (by decide) k237 rfl (c1 := (c_4 + 2) + 4) rfl dX8_unit_52 ?_
          refine lv_iload_n hx hb dX8_unit_55 rfl (lv_at hl 4 rfl) ?_
          obtain ⟨hi8, h⟩ := h
          refine g_iald hx hb hK hH (c0 := (c_4 + 2) + 4) hp4.2.2.1.2.2.2.2 hi8 dX8_unit_56 ?_
          refine lv_goto (tgt := 61) hx hb dX8_unit_57 (by decide) ?_
          exact g_iret hx hb hr hK hlk h hH dX8_unit_61
  · replace h := h.2 q2
    refine lv_iconst (v := (-1)) hx hb dX8_unit_9 (by decide) ?_
    exact g_iret hx hb hr hK hlk h hH dX8_unit_10
def wpX8_process (P : Nat) (x1 : Int32) (x2 : Int32) (x3 : Int32) (σ : Sg) (Q : Int32 → Sg → Prop) : Prop := ((x1 < 0 → Q (-1) σ) ∧ (¬ (x1 < 0) → ((1 < x1 → Q (-1) σ) ∧ (¬ (1 < x1) → ((x2 < 0 → Q (-1) σ) ∧ (¬ (x2 < 0) → ((x2 < 4 → (vp_in ((x1 * 4) + x2) 8 ∧ ∀ c_5 : Nat, c_5 = 10 + 113 * P + 3 * ((x1 * 4) + x2).toNatClampNeg → ((x3 = 0 → Q (σ c_5 2) σ) ∧ (x3 = 1 → Q (σ c_5 1) σ) ∧ (x3 = 2 → (((σ c_5 3) = 0 → Q 0 σ) ∧ (¬ ((σ c_5 3) = 0) → Q 1 σ))) ∧ (¬ (x3 = 0 ∨ x3 = 1 ∨ x3 = 2) → Q (-1) σ)))) ∧ (¬ (x2 < 4) → Q (-1) σ))))))))
set_option maxHeartbeats 8000000 in
set_option maxRecDepth 100000 in
theorem tX8_process {l : Launch} {G : GG} {P : Nat} {tS : Nat × (Nat → Int32)} (hgo : go G = some tS) {x1 : Int32} {x2 : Int32} {x3 : Int32} {σ : Sg} {Q : Int32 → Sg → Prop} (h0 : isHouse G P) (h : wpX8_process P x1 x2 x3 σ Q) : Ki l G yX8_process (wB yX8_process prog_1_method_14_code 5 (Option.some FieldType.int)) ({ frames := 0, cells := 0, slots := 0, locals := 0 }) [.ref (ga G 0), .int x1, .int x2, .int x3] σ Q := by
  refine K_of (cc := cX8_process) (maxL := 5) (ret := (some .int)) (by decide) rfl (Nat.le_of_ble_eq_true rfl) ?_
  intro p e s m args below meth c ls B hH hl
  obtain ⟨hx, hb, hr, hts, hown, hlk, hml, hK, hX⟩ := B
  replace hl : lv_has ls 5 [(0, .ref (ga G 0)), (1, .int x1), (2, .int x2), (3, .int x3)] := hl
  have hXN : NWs s := XS.nw hX hgo
  have hB : ∀ w ∈ BIG, w.before args s = true := fun w h9 => hts w (List.mem_cons_of_mem _ h9)
  clear hts
  have k52 := hB _ bw2_123
  have k94 : (Cond.fieldLinkNest RX8 94 "BearerHouse$Carrier" "sendings" "I" "BearerHouse").before args s = true := va_Nw.use rfl (hXN.1 ("BearerHouse", 94, "BearerHouse$Carrier", "sendings", "I", "BearerHouse") (List.mem_of_getElem? (i := 41) rfl))
  have k101 : (Cond.fieldLinkNest RX8 101 "BearerHouse$Carrier" "size" "I" "BearerHouse").before args s = true := va_Nw.use rfl (hXN.1 ("BearerHouse", 101, "BearerHouse$Carrier", "size", "I", "BearerHouse") (List.mem_of_getElem? (i := 0) rfl))
  have k240 : (Cond.fieldLinkNest RX8 240 "BearerHouse$Carrier" "hasCome" "Z" "BearerHouse").before args s = true := va_Nw.use rfl (hXN.1 ("BearerHouse", 240, "BearerHouse$Carrier", "hasCome", "Z", "BearerHouse") (List.mem_of_getElem? (i := 32) rfl))
  unfold wpX8_process at h
  refine lv_iload_n hx hb dX8_process_0 rfl (lv_at hl 1 rfl) ?_
  refine lv_if_lt (tgt := 18) hx hb dX8_process_1 (by decide) (fun q1 => ?_) (fun q1 => ?_)
  · replace h := h.1 q1
    refine lv_iconst (v := (-1)) hx hb dX8_process_18 (by decide) ?_
    exact g_iret hx hb hr hK hlk h hH dX8_process_19
  · replace h := h.2 q1
    refine lv_iload_n hx hb dX8_process_4 rfl (lv_at hl 1 rfl) ?_
    refine lv_iconst (v := 1) hx hb dX8_process_5 (by decide) ?_
    refine lv_icmp_gt (tgt := 18) hx hb dX8_process_6 (by decide) (fun q2 => ?_) (fun q2 => ?_)
    · replace h := h.1 q2
      refine lv_iconst (v := (-1)) hx hb dX8_process_18 (by decide) ?_
      exact g_iret hx hb hr hK hlk h hH dX8_process_19
    · replace h := h.2 q2
      refine lv_iload_n hx hb dX8_process_9 rfl (lv_at hl 2 rfl) ?_
      refine lv_if_lt (tgt := 18) hx hb dX8_process_10 (by decide) (fun q3 => ?_) (fun q3 => ?_)
      · replace h := h.1 q3
        refine lv_iconst (v := (-1)) hx hb dX8_process_18 (by decide) ?_
        exact g_iret hx hb hr hK hlk h hH dX8_process_19
      · replace h := h.2 q3
        refine lv_iload_n hx hb dX8_process_13 rfl (lv_at hl 2 rfl) ?_
        refine lv_iconst (v := 4) hx hb dX8_process_14 (by decide) ?_
        refine lv_icmp_lt (tgt := 20) hx hb dX8_process_15 (by decide) (fun q4 => ?_) (fun q4 => ?_)
        · replace h := h.1 q4
          refine lv_aload_n hx hb dX8_process_20 rfl (lv_at hl 0 rfl) ?_
          refine g_getr hx hb hB inB8 hown hK hH (c0 := 0) h0.1 rfl 7 (by decide) k52 rfl (c1 := 9 + 113 * P) rfl dX8_process_21 ?_
          refine lv_iload_n hx hb dX8_process_24 rfl (lv_at hl 1 rfl) ?_
          refine lv_iconst (v := 4) hx hb dX8_process_25 (by decide) ?_
          refine lv_imul hx hb dX8_process_26 ?_
          refine lv_iload_n hx hb dX8_process_27 rfl (lv_at hl 2 rfl) ?_
          refine lv_iadd hx hb dX8_process_28 ?_
          obtain ⟨hi5, h⟩ := h
          refine g_aald hx hb hK hH (c0 := 9 + 113 * P) h0.2.2.2.2.2.2.1 hi5 dX8_process_29 ?_
          have hp5 : isCarrier G (10 + 113 * P + 3 * ((x1 * 4) + x2).toNatClampNeg) := h0.2.2.2.2.2.2.2.2.2 _ (vp_lt hi5)
          obtain ⟨c_5, ec_5⟩ : ∃ y : Nat, y = 10 + 113 * P + 3 * ((x1 * 4) + x2).toNatClampNeg := ⟨_, rfl⟩
          replace h := h c_5 ec_5
          rw [← ec_5] at hp5
          refine W.eq (g2 := F0 m 30 ls [.ref (ga G c_5)]) (by rw [ec_5]) ?_
          refine lv_astore (lv' := [(4, .ref (ga G c_5)), (0, .ref (ga G 0)), (1, .int x1), (2, .int x2), (3, .int x3)]) hx hb dX8_process_30 hl (by decide) rfl (fun ls hl => ?_)
          refine lv_iload_n hx hb dX8_process_32 rfl (lv_at hl 4 rfl) ?_
          by_cases g6_0 : x3 = 0
          · refine lv_tableIn (off := 27) (tgt := 60) hx hb dX8_process_33 (by rw [g6_0]; decide) (by rw [g6_0]; decide) (by rw [g6_0]; rfl) (by decide) ?_
            replace h := h.1 g6_0
            refine lv_aload hx hb dX8_process_60 (lv_at hl 0 rfl) ?_
            refine g_getiN hx hb hB inB1 hown hK hH (c0 := c_5) hp5.1 rfl 2 (by decide) k94 rfl rfl dX8_process_62 ?_
            exact g_iret hx hb hr hK hlk h hH dX8_process_65
          by_cases g6_1 : x3 = 1
          · refine lv_tableIn (off := 33) (tgt := 66) hx hb dX8_process_33 (by rw [g6_1]; decide) (by rw [g6_1]; decide) (by rw [g6_1]; rfl) (by decide) ?_
            replace h := h.2.1 g6_1
            refine lv_aload hx hb dX8_process_66 (lv_at hl 0 rfl) ?_
            refine g_getiN hx hb hB inB1 hown hK hH (c0 := c_5) hp5.1 rfl 1 (by decide) k101 rfl rfl dX8_process_68 ?_
            exact g_iret hx hb hr hK hlk h hH dX8_process_71
          by_cases g6_2 : x3 = 2
          · refine lv_tableIn (off := 39) (tgt := 72) hx hb dX8_process_33 (by rw [g6_2]; decide) (by rw [g6_2]; decide) (by rw [g6_2]; rfl) (by decide) ?_
            replace h := h.2.2.1 g6_2
            refine lv_aload hx hb dX8_process_72 (lv_at hl 0 rfl) ?_
            refine g_getiN hx hb hB inB1 hown hK hH (c0 := c_5) hp5.1 rfl 3 (by decide) k240 rfl rfl dX8_process_74 ?_
            refine lv_if_eq (tgt := 84) hx hb dX8_process_77 (by decide) (fun q7 => ?_) (fun q7 => ?_)
            · replace h := h.1 q7
              refine lv_iconst (v := 0) hx hb dX8_process_84 (by decide) ?_
              exact g_iret hx hb hr hK hlk h hH dX8_process_85
            · replace h := h.2 q7
              refine lv_iconst (v := 1) hx hb dX8_process_80 (by decide) ?_
              refine lv_goto (tgt := 85) hx hb dX8_process_81 (by decide) ?_
              exact g_iret hx hb hr hK hlk h hH dX8_process_85
          have gg6 : ∀ k : Nat, k < 3 → ¬ x3 = nI k := by
            intro k hk
            rcases (show k = 0 ∨ k = 1 ∨ k = 2 by omega) with rfl | rfl | rfl <;> assumption
          refine lv_tableOut (tgt := 86) hx hb dX8_process_33 (sw_out (n := 3) (by decide) (by decide) gg6) (by decide) ?_
          replace h := h.2.2.2 (by simp only [not_or]; exact ⟨g6_0, g6_1, g6_2⟩)
          refine lv_iconst (v := (-1)) hx hb dX8_process_86 (by decide) ?_
          exact g_iret hx hb hr hK hlk h hH dX8_process_87
        · replace h := h.2 q4
          refine lv_iconst (v := (-1)) hx hb dX8_process_18 (by decide) ?_
          exact g_iret hx hb hr hK hlk h hH dX8_process_19
def wpX8_world (P : Nat) (x1 : Int32) (σ : Sg) (Q : Int32 → Sg → Prop) : Prop := ((x1 = 0 → Q (σ 0 9) σ) ∧ (x1 = 1 → Q (σ 0 10) σ) ∧ (x1 = 2 → Q (σ 0 11) σ) ∧ (x1 = 3 → Q (σ 0 12) σ) ∧ (x1 = 4 → Q (σ 0 13) σ) ∧ (x1 = 5 → Q (σ 0 14) σ) ∧ (x1 = 6 → Q (σ 0 15) σ) ∧ (¬ (x1 = 0 ∨ x1 = 1 ∨ x1 = 2 ∨ x1 = 3 ∨ x1 = 4 ∨ x1 = 5 ∨ x1 = 6) → Q (-1) σ))
set_option maxHeartbeats 8000000 in
set_option maxRecDepth 100000 in
theorem tX8_world {l : Launch} {G : GG} {P : Nat} {x1 : Int32} {σ : Sg} {Q : Int32 → Sg → Prop} (h0 : isHouse G P) (h : wpX8_world P x1 σ Q) : Ki l G yX8_world (wB yX8_world prog_1_method_15_code 2 (Option.some FieldType.int)) ({ frames := 0, cells := 0, slots := 0, locals := 0 }) [.ref (ga G 0), .int x1] σ Q := by
  refine K_of (cc := cX8_world) (maxL := 2) (ret := (some .int)) (by decide) rfl (Nat.le_of_ble_eq_true rfl) ?_
  intro p e s m args below meth c ls B hH hl
  obtain ⟨hx, hb, hr, hts, hown, hlk, hml, hK, hX⟩ := B
  replace hl : lv_has ls 2 [(0, .ref (ga G 0)), (1, .int x1)] := hl
  have hB : ∀ w ∈ BIG, w.before args s = true := fun w h9 => hts w (List.mem_cons_of_mem _ h9)
  clear hts
  have k84 := hB _ bw2_125
  have k130 := hB _ bw2_126
  have k243 := hB _ bw2_127
  have k244 := hB _ bw2_128
  have k247 := hB _ bw2_129
  have k250 := hB _ bw2_130
  have k253 := hB _ bw2_131
  unfold wpX8_world at h
  refine lv_iload_n hx hb dX8_world_0 rfl (lv_at hl 1 rfl) ?_
  by_cases g1_0 : x1 = 0
  · refine lv_tableIn (off := 43) (tgt := 44) hx hb dX8_world_1 (by rw [g1_0]; decide) (by rw [g1_0]; decide) (by rw [g1_0]; rfl) (by decide) ?_
    replace h := h.1 g1_0
    refine lv_aload_n hx hb dX8_world_44 rfl (lv_at hl 0 rfl) ?_
    refine g_geti hx hb hB inB8 hown hK hH (c0 := 0) h0.1 rfl 9 (by decide) k84 rfl rfl dX8_world_45 ?_
    exact g_iret hx hb hr hK hlk h hH dX8_world_48
  by_cases g1_1 : x1 = 1
  · refine lv_tableIn (off := 48) (tgt := 49) hx hb dX8_world_1 (by rw [g1_1]; decide) (by rw [g1_1]; decide) (by rw [g1_1]; rfl) (by decide) ?_
    replace h := h.2.1 g1_1
    refine lv_aload_n hx hb dX8_world_49 rfl (lv_at hl 0 rfl) ?_
    refine g_geti hx hb hB inB8 hown hK hH (c0 := 0) h0.1 rfl 10 (by decide) k130 rfl rfl dX8_world_50 ?_
    exact g_iret hx hb hr hK hlk h hH dX8_world_53
  by_cases g1_2 : x1 = 2
  · refine lv_tableIn (off := 53) (tgt := 54) hx hb dX8_world_1 (by rw [g1_2]; decide) (by rw [g1_2]; decide) (by rw [g1_2]; rfl) (by decide) ?_
    replace h := h.2.2.1 g1_2
    refine lv_aload_n hx hb dX8_world_54 rfl (lv_at hl 0 rfl) ?_
    refine g_geti hx hb hB inB8 hown hK hH (c0 := 0) h0.1 rfl 11 (by decide) k243 rfl rfl dX8_world_55 ?_
    exact g_iret hx hb hr hK hlk h hH dX8_world_58
  by_cases g1_3 : x1 = 3
  · refine lv_tableIn (off := 58) (tgt := 59) hx hb dX8_world_1 (by rw [g1_3]; decide) (by rw [g1_3]; decide) (by rw [g1_3]; rfl) (by decide) ?_
    replace h := h.2.2.2.1 g1_3
    refine lv_aload_n hx hb dX8_world_59 rfl (lv_at hl 0 rfl) ?_
    refine g_geti hx hb hB inB8 hown hK hH (c0 := 0) h0.1 rfl 12 (by decide) k244 rfl rfl dX8_world_60 ?_
    exact g_iret hx hb hr hK hlk h hH dX8_world_63
  by_cases g1_4 : x1 = 4
  · refine lv_tableIn (off := 63) (tgt := 64) hx hb dX8_world_1 (by rw [g1_4]; decide) (by rw [g1_4]; decide) (by rw [g1_4]; rfl) (by decide) ?_
    replace h := h.2.2.2.2.1 g1_4
    refine lv_aload_n hx hb dX8_world_64 rfl (lv_at hl 0 rfl) ?_
    refine g_geti hx hb hB inB8 hown hK hH (c0 := 0) h0.1 rfl 13 (by decide) k247 rfl rfl dX8_world_65 ?_
    exact g_iret hx hb hr hK hlk h hH dX8_world_68
  by_cases g1_5 : x1 = 5
  · refine lv_tableIn (off := 68) (tgt := 69) hx hb dX8_world_1 (by rw [g1_5]; decide) (by rw [g1_5]; decide) (by rw [g1_5]; rfl) (by decide) ?_
    replace h := h.2.2.2.2.2.1 g1_5
    refine lv_aload_n hx hb dX8_world_69 rfl (lv_at hl 0 rfl) ?_
    refine g_geti hx hb hB inB8 hown hK hH (c0 := 0) h0.1 rfl 14 (by decide) k250 rfl rfl dX8_world_70 ?_
    exact g_iret hx hb hr hK hlk h hH dX8_world_73
  by_cases g1_6 : x1 = 6
  · refine lv_tableIn (off := 73) (tgt := 74) hx hb dX8_world_1 (by rw [g1_6]; decide) (by rw [g1_6]; decide) (by rw [g1_6]; rfl) (by decide) ?_
    replace h := h.2.2.2.2.2.2.1 g1_6
    refine lv_aload_n hx hb dX8_world_74 rfl (lv_at hl 0 rfl) ?_
    refine g_geti hx hb hB inB8 hown hK hH (c0 := 0) h0.1 rfl 15 (by decide) k253 rfl rfl dX8_world_75 ?_
    exact g_iret hx hb hr hK hlk h hH dX8_world_78
  have gg1 : ∀ k : Nat, k < 7 → ¬ x1 = nI k := by
    intro k hk
    rcases (show k = 0 ∨ k = 1 ∨ k = 2 ∨ k = 3 ∨ k = 4 ∨ k = 5 ∨ k = 6 by omega) with rfl | rfl | rfl | rfl | rfl | rfl | rfl <;> assumption
  refine lv_tableOut (tgt := 79) hx hb dX8_world_1 (sw_out (n := 7) (by decide) (by decide) gg1) (by decide) ?_
  replace h := h.2.2.2.2.2.2.2 (by simp only [not_or]; exact ⟨g1_0, g1_1, g1_2, g1_3, g1_4, g1_5, g1_6⟩)
  refine lv_iconst (v := (-1)) hx hb dX8_world_79 (by decide) ?_
  exact g_iret hx hb hr hK hlk h hH dX8_world_80
