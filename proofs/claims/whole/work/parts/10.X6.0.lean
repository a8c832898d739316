def wpX6_pieceAt (c0 : Nat) (x1 : Int32) (σ : Sg) (Q : Nat → Sg → Prop) : Prop := (vp_in (x1 &&& 31) 32 ∧ ∀ c_1 : Nat, c_1 = c0 + 7 + 2 * (x1 &&& 31).toNatClampNeg → Q c_1 σ)
set_option maxHeartbeats 8000000 in
set_option maxRecDepth 100000 in
theorem tX6_pieceAt {l : Launch} {G : GG} {c0 : Nat} {x1 : Int32} {σ : Sg} {Q : Nat → Sg → Prop} (hc0 : isReceiver G c0) (h : wpX6_pieceAt c0 x1 σ Q) : Kr l G yX6_pieceAt (wB yX6_pieceAt prog_8_method_2_code 2 (Option.some (FieldType.object "BearerHouse$Piece"))) ({ frames := 0, cells := 0, slots := 0, locals := 0 }) [.ref (ga G c0), .int x1] σ (fun r σ1 => Q r σ1 ∧ isPiece G r) := by
  refine K_of (cc := cX6_pieceAt) (maxL := 2) (ret := (some (.object "BearerHouse$Piece"))) (by decide) rfl (Nat.le_of_ble_eq_true rfl) ?_
  intro p e s m args below meth c ls B hH hl
  obtain ⟨hx, hb, hr, hts, hown, hlk, hml, hK, hX⟩ := B
  replace hl : lv_has ls 2 [(0, .ref (ga G c0)), (1, .int x1)] := hl
  have hB : ∀ w ∈ BIG, w.before args s = true := fun w h9 => hts w (List.mem_cons_of_mem _ h9)
  clear hts
  have k11 := hB _ bw2_27
  unfold wpX6_pieceAt at h
  refine lv_aload_n hx hb dX6_pieceAt_0 rfl (lv_at hl 0 rfl) ?_
  refine g_getr hx hb hB inB6 hown hK hH (c0 := c0) hc0.1 rfl 1 (by decide) k11 rfl (c1 := c0 + 1) rfl dX6_pieceAt_1 ?_
  refine lv_iload_n hx hb dX6_pieceAt_4 rfl (lv_at hl 1 rfl) ?_
  refine lv_bipush (v := 31) hx hb dX6_pieceAt_5 (by decide) ?_
  refine lv_iand hx hb dX6_pieceAt_7 ?_
  obtain ⟨hi1, h⟩ := h
  refine g_aald hx hb hK hH (c0 := c0 + 1) hc0.2.1 hi1 dX6_pieceAt_8 ?_
  have hp1 : isPiece G (c0 + 7 + 2 * (x1 &&& 31).toNatClampNeg) := hc0.2.2.2 _ (vp_lt hi1)
  obtain ⟨c_1, ec_1⟩ : ∃ y : Nat, y = c0 + 7 + 2 * (x1 &&& 31).toNatClampNeg := ⟨_, rfl⟩
  replace h := h c_1 ec_1
  rw [← ec_1] at hp1
  refine W.eq (g2 := F0 m 9 ls [.ref (ga G c_1)]) (by rw [ec_1]) ?_
  exact g_aret hx hb hr hK hlk ⟨h, hp1⟩ hH dX6_pieceAt_9
def wpX6_startAnew_L5 (Q : Sg → Prop) : Nat → Nat → Int32 → Sg → Prop
  | 0, _, _, _ => False
  | n + 1, c0, x1, σ => (((σ c0 3) ≤ x1 → ∀ σ3 : Sg, σ3 = up2 σ c0 2 0 → ∀ σ4 : Sg, σ4 = up2 σ3 c0 3 0 → ∀ σ5 : Sg, σ5 = up2 σ4 c0 4 0 → ∀ σ6 : Sg, σ6 = up2 σ5 c0 5 0 → ∀ σ7 : Sg, σ7 = up2 σ6 c0 6 (-1) → ∀ σ8 : Sg, σ8 = up2 σ7 c0 7 0 → ∀ σ9 : Sg, σ9 = up2 σ8 c0 8 0 → ∀ σ10 : Sg, σ10 = up2 σ9 c0 9 0 → Q σ10) ∧ (¬ ((σ c0 3) ≤ x1) → wpX6_pieceAt c0 x1 σ (fun r11 σ11 => wpX5_clear r11 (-1) σ11 (fun σ12 => ∀ x1_13 : Int32, x1_13 = x1 + 1 → (wpX6_startAnew_L5 Q n) c0 x1_13 σ12))))
def wpX6_startAnew (c0 : Nat) (σ : Sg) (Q : Sg → Prop) : Prop := ∀ x1_1 : Int32, x1_1 = σ c0 2 → ∃ nn, wpX6_startAnew_L5 Q nn c0 x1_1 σ
set_option maxHeartbeats 8000000 in
set_option maxRecDepth 100000 in
theorem tX6_startAnew {l : Launch} {G : GG} {c0 : Nat} {σ : Sg} {Q : Sg → Prop} (hc0 : isReceiver G c0) (h : wpX6_startAnew c0 σ Q) : Kv l G yX6_startAnew (wB yX6_startAnew prog_8_method_3_code 2 none) ({ frames := 2, cells := 0, slots := 0, locals := 44 }) [.ref (ga G c0)] σ Q := by
  refine K_of (cc := cX6_startAnew) (maxL := 2) (ret := none) (by decide) rfl (Nat.le_of_ble_eq_true rfl) ?_
  intro p e s m args below meth c ls B hH hl
  obtain ⟨hx, hb, hr, hts, hown, hlk, hml, hK, hX⟩ := B
  replace hl : lv_has ls 2 [(0, .ref (ga G c0))] := hl
  have hB : ∀ w ∈ BIG, w.before args s = true := fun w h9 => hts w (List.mem_cons_of_mem _ h9)
  clear hts
  have k17 := hB _ bw2_36
  have k34 := hB _ bw2_28
  have k37 := hB _ bw2_30
  have k47 := hB _ bw2_32
  have k50 := hB _ bw2_34
  have k53 := hB _ bw2_38
  have k57 := hB _ bw2_40
  have k60 := hB _ bw2_42
  have L5 : ∀ (n5 : Nat) (c0 : Nat) (hc0 : isReceiver G c0) (x1 : Int32) (σ : Sg) (H : Heap) (locs : List Loc) (ls : Array Slot), Hx G (aA G s.heap.size) s σ H locs → lv_has ls 2 [(0, .ref (ga G c0)), (1, .int x1)] → wpX6_startAnew_L5 Q n5 c0 x1 σ → W p l e ({ frames := 2, cells := 0, slots := 0, locals := 44 }) s m args below meth c H locs 0 0 (Zv G Q below args s) (F0 m 5 ls []) := by
    intro n5
    induction n5 with
    | zero =>
      intro c0 hc0 x1 σ H locs ls hH hl h
      exact False.elim h
    | succ n5 ih5 =>
      intro c0 hc0 x1 σ H locs ls hH hl h
      unfold wpX6_startAnew_L5 at h
      refine lv_iload_n hx hb dX6_startAnew_5 rfl (lv_at hl 1 rfl) ?_
      refine lv_aload_n hx hb dX6_startAnew_6 rfl (lv_at hl 0 rfl) ?_
      refine g_geti hx hb hB inB6 hown hK hH (c0 := c0) hc0.1 rfl 3 (by decide) k37 rfl rfl dX6_startAnew_7 ?_
      refine lv_icmp_ge (tgt := 28) hx hb dX6_startAnew_10 (by decide) (fun q2 => ?_) (fun q2 => ?_)
      · replace h := h.1 q2
        refine lv_aload_n hx hb dX6_startAnew_28 rfl (lv_at hl 0 rfl) ?_
        refine lv_iconst (v := 0) hx hb dX6_startAnew_29 (by decide) ?_
        refine g_put hx hb hB inB6 tyX6 tyX6_ok nmX6 hown hK hH (c0 := c0) hc0.1 rfl 2 (by decide) k34 rfl rfl rfl rfl rfl dX6_startAnew_30 (fun σ3 eσ3 H locs hH => ?_)
        replace h := h σ3 eσ3
        refine lv_aload_n hx hb dX6_startAnew_33 rfl (lv_at hl 0 rfl) ?_
        refine lv_iconst (v := 0) hx hb dX6_startAnew_34 (by decide) ?_
        refine g_put hx hb hB inB6 tyX6 tyX6_ok nmX6 hown hK hH (c0 := c0) hc0.1 rfl 3 (by decide) k37 rfl rfl rfl rfl rfl dX6_startAnew_35 (fun σ4 eσ4 H locs hH => ?_)
        replace h := h σ4 eσ4
        refine lv_aload_n hx hb dX6_startAnew_38 rfl (lv_at hl 0 rfl) ?_
        refine lv_iconst (v := 0) hx hb dX6_startAnew_39 (by decide) ?_
        refine g_put hx hb hB inB6 tyX6 tyX6_ok nmX6 hown hK hH (c0 := c0) hc0.1 rfl 4 (by decide) k47 rfl rfl rfl rfl rfl dX6_startAnew_40 (fun σ5 eσ5 H locs hH => ?_)
        replace h := h σ5 eσ5
        refine lv_aload_n hx hb dX6_startAnew_43 rfl (lv_at hl 0 rfl) ?_
        refine lv_iconst (v := 0) hx hb dX6_startAnew_44 (by decide) ?_
        refine g_put hx hb hB inB6 tyX6 tyX6_ok nmX6 hown hK hH (c0 := c0) hc0.1 rfl 5 (by decide) k50 rfl rfl rfl rfl rfl dX6_startAnew_45 (fun σ6 eσ6 H locs hH => ?_)
        replace h := h σ6 eσ6
        refine lv_aload_n hx hb dX6_startAnew_48 rfl (lv_at hl 0 rfl) ?_
        refine lv_iconst (v := (-1)) hx hb dX6_startAnew_49 (by decide) ?_
        refine g_put hx hb hB inB6 tyX6 tyX6_ok nmX6 hown hK hH (c0 := c0) hc0.1 rfl 6 (by decide) k17 rfl rfl rfl rfl rfl dX6_startAnew_50 (fun σ7 eσ7 H locs hH => ?_)
        replace h := h σ7 eσ7
        refine lv_aload_n hx hb dX6_startAnew_53 rfl (lv_at hl 0 rfl) ?_
        refine lv_iconst (v := 0) hx hb dX6_startAnew_54 (by decide) ?_
        refine g_put hx hb hB inB6 tyX6 tyX6_ok nmX6 hown hK hH (c0 := c0) hc0.1 rfl 7 (by decide) k53 rfl rfl rfl (vz_n vz0) (vz_f vz0) dX6_startAnew_55 (fun σ8 eσ8 H locs hH => ?_)
        replace h := h σ8 eσ8
        refine lv_aload_n hx hb dX6_startAnew_58 rfl (lv_at hl 0 rfl) ?_
        refine lv_iconst (v := 0) hx hb dX6_startAnew_59 (by decide) ?_
        refine g_put hx hb hB inB6 tyX6 tyX6_ok nmX6 hown hK hH (c0 := c0) hc0.1 rfl 8 (by decide) k57 rfl rfl rfl rfl rfl dX6_startAnew_60 (fun σ9 eσ9 H locs hH => ?_)
        replace h := h σ9 eσ9
        refine lv_aload_n hx hb dX6_startAnew_63 rfl (lv_at hl 0 rfl) ?_
        refine lv_iconst (v := 0) hx hb dX6_startAnew_64 (by decide) ?_
        refine g_put hx hb hB inB6 tyX6 tyX6_ok nmX6 hown hK hH (c0 := c0) hc0.1 rfl 9 (by decide) k60 rfl rfl rfl rfl rfl dX6_startAnew_65 (fun σ10 eσ10 H locs hH => ?_)
        replace h := h σ10 eσ10
        exact g_vret hx hb hr hK hlk h hH dX6_startAnew_68
      · replace h := h.2 q2
        refine lv_aload_n hx hb dX6_startAnew_13 rfl (lv_at hl 0 rfl) ?_
        refine lv_iload_n hx hb dX6_startAnew_14 rfl (lv_at hl 1 rfl) ?_
        refine g_callVr (As := [.int x1]) (rest := []) ⟨hx, hb, hml, hown, hB⟩ hK hX aA_hA hH (c0 := c0) (tX6_pieceAt hc0 h) (cwV 1 hB gVX6_40 rfl rfl rfl (by decide +kernel) ⟨Nat.le_of_ble_eq_true rfl, Nat.le_of_ble_eq_true rfl⟩) hc0.1 rfl rfl hl.1 rfl (lv_room (Nat.le_of_ble_eq_true rfl)) ⟨Nat.zero_le _, Nat.zero_le _⟩ dX6_startAnew_15 (fun r11 σ11 H locs h hH => ?_)
        obtain ⟨h, hp11⟩ := h
        refine lv_iconst (v := (-1)) hx hb dX6_startAnew_18 (by decide) ?_
        refine g_callVv (As := [.int (-1)]) (rest := []) ⟨hx, hb, hml, hown, hB⟩ hK hX aA_hA hH (c0 := r11) (tX5_clear hp11 h) (cwV 1 hB gVX6_44 rfl rfl rfl (by decide +kernel) ⟨Nat.le_of_ble_eq_true rfl, Nat.le_of_ble_eq_true rfl⟩) hp11.1 rfl rfl hl.1 rfl (lv_room (Nat.le_of_ble_eq_true rfl)) ⟨Nat.zero_le _, Nat.zero_le _⟩ dX6_startAnew_19 (fun σ12 H locs h hH => ?_)
        obtain ⟨x1_13, ex1_13⟩ : ∃ y : Int32, y = x1 + 1 := ⟨_, rfl⟩
        replace h := h x1_13 ex1_13
        refine lv_iinc (v := x1_13) (lv' := [(1, .int x1_13), (0, .ref (ga G c0))]) hx hb dX6_startAnew_22 hl (k := 1) rfl (by rw [ex1_13]; rfl) (by decide) rfl (fun ls hl => ?_)
        refine lv_goto (tgt := 5) hx hb dX6_startAnew_25 (by decide) ?_
        exact ih5 c0 hc0 x1_13 σ12 _ _ ls hH (lv_sub hl [1, 0] rfl) h
  unfold wpX6_startAnew at h
  refine lv_aload_n hx hb dX6_startAnew_0 rfl (lv_at hl 0 rfl) ?_
  refine g_geti hx hb hB inB6 hown hK hH (c0 := c0) hc0.1 rfl 2 (by decide) k34 rfl rfl dX6_startAnew_1 ?_
  refine lv_topi (fun x1_1 ex1_1 => ?_)
  replace h := h x1_1 ex1_1
  refine lv_istore_n (lv' := [(1, .int x1_1), (0, .ref (ga G c0))]) hx hb dX6_startAnew_4 rfl hl (by decide) rfl (fun ls hl => ?_)
  obtain ⟨nn, h⟩ := h
  exact L5 nn c0 hc0 x1_1 σ _ _ ls hH (lv_sub hl [1, 0] rfl) h
def wpX6_isWhole (c0 : Nat) (x1 : Int32) (σ : Sg) (Q : Int32 → Sg → Prop) : Prop := wpX6_pieceAt c0 x1 σ (fun r1 σ1 => ((x1 < (σ1 c0 2) → Q 0 σ1) ∧ (¬ (x1 < (σ1 c0 2)) → (((σ1 c0 3) ≤ x1 → Q 0 σ1) ∧ (¬ ((σ1 c0 3) ≤ x1) → (((σ1 r1 1) = (-1) → Q 0 σ1) ∧ (¬ ((σ1 r1 1) = (-1)) → ((¬ (σ1 r1 2) = (σ1 r1 1) → Q 0 σ1) ∧ ((σ1 r1 2) = (σ1 r1 1) → Q 1 σ1)))))))))
set_option maxHeartbeats 8000000 in
set_option maxRecDepth 100000 in
theorem tX6_isWhole {l : Launch} {G : GG} {tS : Nat × (Nat → Int32)} (hgo : go G = some tS) {c0 : Nat} {x1 : Int32} {σ : Sg} {Q : Int32 → Sg → Prop} (hc0 : isReceiver G c0) (h : wpX6_isWhole c0 x1 σ Q) : Ki l G yX6_isWhole (wB yX6_isWhole prog_8_method_4_code 3 (Option.some FieldType.boolean)) ({ frames := 1, cells := 0, slots := 0, locals := 21 }) [.ref (ga G c0), .int x1] σ Q := by
  refine K_of (cc := cX6_isWhole) (maxL := 3) (ret := (some .boolean)) (by decide) rfl (Nat.le_of_ble_eq_true rfl) ?_
  intro p e s m args below meth c ls B hH hl
  obtain ⟨hx, hb, hr, hts, hown, hlk, hml, hK, hX⟩ := B
  replace hl : lv_has ls 3 [(0, .ref (ga G c0)), (1, .int x1)] := hl
  have hXN : NWs s := XS.nw hX hgo
  have hB : ∀ w ∈ BIG, w.before args s = true := fun w h9 => hts w (List.mem_cons_of_mem _ h9)
  clear hts
  have k31 : (Cond.fieldLinkNest RX6 31 "BearerHouse$Piece" "size" "I" "BearerHouse").before args s = true := va_Nw.use rfl (hXN.1 ("BearerHouse$Receiver", 31, "BearerHouse$Piece", "size", "I", "BearerHouse") (List.mem_of_getElem? (i := 44) rfl))
  have k34 := hB _ bw2_28
  have k37 := hB _ bw2_30
  have k63 : (Cond.fieldLinkNest RX6 63 "BearerHouse$Piece" "marks" "I" "BearerHouse").before args s = true := va_Nw.use rfl (hXN.1 ("BearerHouse$Receiver", 63, "BearerHouse$Piece", "marks", "I", "BearerHouse") (List.mem_of_getElem? (i := 45) rfl))
  unfold wpX6_isWhole at h
  refine lv_aload_n hx hb dX6_isWhole_0 rfl (lv_at hl 0 rfl) ?_
  refine lv_iload_n hx hb dX6_isWhole_1 rfl (lv_at hl 1 rfl) ?_
  refine g_callVr (As := [.int x1]) (rest := []) ⟨hx, hb, hml, hown, hB⟩ hK hX aA_hA hH (c0 := c0) (tX6_pieceAt hc0 h) (cwV 1 hB gVX6_40 rfl rfl rfl (by decide +kernel) ⟨Nat.le_of_ble_eq_true rfl, Nat.le_of_ble_eq_true rfl⟩) hc0.1 rfl rfl hl.1 rfl (lv_room (Nat.le_of_ble_eq_true rfl)) ⟨Nat.zero_le _, Nat.zero_le _⟩ dX6_isWhole_2 (fun r1 σ1 H locs h hH => ?_)
  obtain ⟨h, hp1⟩ := h
  refine lv_astore_n (lv' := [(2, .ref (ga G r1)), (0, .ref (ga G c0)), (1, .int x1)]) hx hb dX6_isWhole_5 rfl hl (by decide) rfl (fun ls hl => ?_)
  refine lv_iload_n hx hb dX6_isWhole_6 rfl (lv_at hl 2 rfl) ?_
  refine lv_aload_n hx hb dX6_isWhole_7 rfl (lv_at hl 1 rfl) ?_
  refine g_geti hx hb hB inB6 hown hK hH (c0 := c0) hc0.1 rfl 2 (by decide) k34 rfl rfl dX6_isWhole_8 ?_
  refine lv_icmp_lt (tgt := 45) hx hb dX6_isWhole_11 (by decide) (fun q2 => ?_) (fun q2 => ?_)
  · replace h := h.1 q2
    refine lv_iconst (v := 0) hx hb dX6_isWhole_45 (by decide) ?_
    exact g_zret hx hb hr hK hlk vz0 h hH dX6_isWhole_46
  · replace h := h.2 q2
    refine lv_iload_n hx hb dX6_isWhole_14 rfl (lv_at hl 2 rfl) ?_
    refine lv_aload_n hx hb dX6_isWhole_15 rfl (lv_at hl 1 rfl) ?_
    refine g_geti hx hb hB inB6 hown hK hH (c0 := c0) hc0.1 rfl 3 (by decide) k37 rfl rfl dX6_isWhole_16 ?_
    refine lv_icmp_ge (tgt := 45) hx hb dX6_isWhole_19 (by decide) (fun q3 => ?_) (fun q3 => ?_)
    · replace h := h.1 q3
      refine lv_iconst (v := 0) hx hb dX6_isWhole_45 (by decide) ?_
      exact g_zret hx hb hr hK hlk vz0 h hH dX6_isWhole_46
    · replace h := h.2 q3
      refine lv_aload_n hx hb dX6_isWhole_22 rfl (lv_at hl 0 rfl) ?_
      refine g_getiN hx hb hB inB5 hown hK hH (c0 := r1) hp1.1 rfl 1 (by decide) k31 rfl rfl dX6_isWhole_23 ?_
      refine lv_iconst (v := (-1)) hx hb dX6_isWhole_26 (by decide) ?_
      refine lv_icmp_eq (tgt := 45) hx hb dX6_isWhole_27 (by decide) (fun q4 => ?_) (fun q4 => ?_)
      · replace h := h.1 q4
        refine lv_iconst (v := 0) hx hb dX6_isWhole_45 (by decide) ?_
        exact g_zret hx hb hr hK hlk vz0 h hH dX6_isWhole_46
      · replace h := h.2 q4
        refine lv_aload_n hx hb dX6_isWhole_30 rfl (lv_at hl 0 rfl) ?_
        refine g_getiN hx hb hB inB5 hown hK hH (c0 := r1) hp1.1 rfl 2 (by decide) k63 rfl rfl dX6_isWhole_31 ?_
        refine lv_aload_n hx hb dX6_isWhole_34 rfl (lv_at hl 0 rfl) ?_
        refine g_getiN hx hb hB inB5 hown hK hH (c0 := r1) hp1.1 rfl 1 (by decide) k31 rfl rfl dX6_isWhole_35 ?_
        refine lv_icmp_ne (tgt := 45) hx hb dX6_isWhole_38 (by decide) (fun q5 => ?_) (fun q5 => ?_)
        · replace h := h.1 q5
          refine lv_iconst (v := 0) hx hb dX6_isWhole_45 (by decide) ?_
          exact g_zret hx hb hr hK hlk vz0 h hH dX6_isWhole_46
        · replace h := h.2 q5
          refine lv_iconst (v := 1) hx hb dX6_isWhole_41 (by decide) ?_
          refine lv_goto (tgt := 46) hx hb dX6_isWhole_42 (by decide) ?_
          exact g_zret hx hb hr hK hlk vz1 h hH dX6_isWhole_46
def wpX6_heldBytes_L7 (Q : Int32 → Sg → Prop) : Nat → Nat → Int32 → Int32 → Sg → Prop
  | 0, _, _, _, _ => False
  | n + 1, c0, x1, x2, σ => (((σ c0 3) ≤ x2 → Q x1 σ) ∧ (¬ ((σ c0 3) ≤ x2) → wpX6_pieceAt c0 x2 σ (fun r3 σ3 => ∀ x1_4 : Int32, x1_4 = x1 + (σ3 r3 2) → ∀ x2_5 : Int32, x2_5 = x2 + 1 → (wpX6_heldBytes_L7 Q n) c0 x1_4 x2_5 σ3)))
def wpX6_heldBytes (c0 : Nat) (σ : Sg) (Q : Int32 → Sg → Prop) : Prop := ∀ x2_1 : Int32, x2_1 = σ c0 2 → ∃ nn, wpX6_heldBytes_L7 Q nn c0 0 x2_1 σ
set_option maxHeartbeats 8000000 in
set_option maxRecDepth 100000 in
theorem tX6_heldBytes {l : Launch} {G : GG} {tS : Nat × (Nat → Int32)} (hgo : go G = some tS) {c0 : Nat} {σ : Sg} {Q : Int32 → Sg → Prop} (hc0 : isReceiver G c0) (h : wpX6_heldBytes c0 σ Q) : Ki l G yX6_heldBytes (wB yX6_heldBytes prog_8_method_5_code 3 (Option.some FieldType.int)) ({ frames := 1, cells := 0, slots := 0, locals := 21 }) [.ref (ga G c0)] σ Q := by
  refine K_of (cc := cX6_heldBytes) (maxL := 3) (ret := (some .int)) (by decide) rfl (Nat.le_of_ble_eq_true rfl) ?_
  intro p e s m args below meth c ls B hH hl
  obtain ⟨hx, hb, hr, hts, hown, hlk, hml, hK, hX⟩ := B
  replace hl : lv_has ls 3 [(0, .ref (ga G c0))] := hl
  have hXN : NWs s := XS.nw hX hgo
  have hB : ∀ w ∈ BIG, w.before args s = true := fun w h9 => hts w (List.mem_cons_of_mem _ h9)
  clear hts
  have k34 := hB _ bw2_28
  have k37 := hB _ bw2_30
  have k63 : (Cond.fieldLinkNest RX6 63 "BearerHouse$Piece" "marks" "I" "BearerHouse").before args s = true := va_Nw.use rfl (hXN.1 ("BearerHouse$Receiver", 63, "BearerHouse$Piece", "marks", "I", "BearerHouse") (List.mem_of_getElem? (i := 45) rfl))
  have L7 : ∀ (n7 : Nat) (c0 : Nat) (hc0 : isReceiver G c0) (x1 : Int32) (x2 : Int32) (σ : Sg) (H : Heap) (locs : List Loc) (ls : Array Slot), Hx G (aA G s.heap.size) s σ H locs → lv_has ls 3 [(0, .ref (ga G c0)), (1, .int x1), (2, .int x2)] → wpX6_heldBytes_L7 Q n7 c0 x1 x2 σ → W p l e ({ frames := 1, cells := 0, slots := 0, locals := 21 }) s m args below meth c H locs 0 0 (Zi G Q below args s) (F0 m 7 ls []) := by
    intro n7
    induction n7 with
    | zero =>
      intro c0 hc0 x1 x2 σ H locs ls hH hl h
      exact False.elim h
    | succ n7 ih7 =>
      intro c0 hc0 x1 x2 σ H locs ls hH hl h
      unfold wpX6_heldBytes_L7 at h
      refine lv_iload_n hx hb dX6_heldBytes_7 rfl (lv_at hl 2 rfl) ?_
      refine lv_aload_n hx hb dX6_heldBytes_8 rfl (lv_at hl 0 rfl) ?_
      refine g_geti hx hb hB inB6 hown hK hH (c0 := c0) hc0.1 rfl 3 (by decide) k37 rfl rfl dX6_heldBytes_9 ?_
      refine lv_icmp_ge (tgt := 32) hx hb dX6_heldBytes_12 (by decide) (fun q2 => ?_) (fun q2 => ?_)
      · replace h := h.1 q2
        refine lv_iload_n hx hb dX6_heldBytes_32 rfl (lv_at hl 1 rfl) ?_
        exact g_iret hx hb hr hK hlk h hH dX6_heldBytes_33
      · replace h := h.2 q2
        refine lv_iload_n hx hb dX6_heldBytes_15 rfl (lv_at hl 1 rfl) ?_
        refine lv_aload_n hx hb dX6_heldBytes_16 rfl (lv_at hl 0 rfl) ?_
        refine lv_iload_n hx hb dX6_heldBytes_17 rfl (lv_at hl 2 rfl) ?_
        refine g_callVr (As := [.int x2]) (rest := [.int x1]) ⟨hx, hb, hml, hown, hB⟩ hK hX aA_hA hH (c0 := c0) (tX6_pieceAt hc0 h) (cwV 1 hB gVX6_40 rfl rfl rfl (by decide +kernel) ⟨Nat.le_of_ble_eq_true rfl, Nat.le_of_ble_eq_true rfl⟩) hc0.1 rfl rfl hl.1 rfl (lv_room (Nat.le_of_ble_eq_true rfl)) ⟨Nat.zero_le _, Nat.zero_le _⟩ dX6_heldBytes_18 (fun r3 σ3 H locs h hH => ?_)
        obtain ⟨h, hp3⟩ := h
        refine g_getiN hx hb hB inB5 hown hK hH (c0 := r3) hp3.1 rfl 2 (by decide) k63 rfl rfl dX6_heldBytes_21 ?_
        refine lv_iadd hx hb dX6_heldBytes_24 ?_
        refine lv_topi (fun x1_4 ex1_4 => ?_)
        replace h := h x1_4 ex1_4
        refine lv_istore_n (lv' := [(1, .int x1_4), (0, .ref (ga G c0)), (2, .int x2)]) hx hb dX6_heldBytes_25 rfl hl (by decide) rfl (fun ls hl => ?_)
        obtain ⟨x2_5, ex2_5⟩ : ∃ y : Int32, y = x2 + 1 := ⟨_, rfl⟩
        replace h := h x2_5 ex2_5
        refine lv_iinc (v := x2_5) (lv' := [(2, .int x2_5), (1, .int x1_4), (0, .ref (ga G c0))]) hx hb dX6_heldBytes_26 hl (k := 2) rfl (by rw [ex2_5]; rfl) (by decide) rfl (fun ls hl => ?_)
        refine lv_goto (tgt := 7) hx hb dX6_heldBytes_29 (by decide) ?_
        exact ih7 c0 hc0 x1_4 x2_5 σ3 _ _ ls hH (lv_sub hl [2, 1, 0] rfl) h
  unfold wpX6_heldBytes at h
  refine lv_iconst (v := 0) hx hb dX6_heldBytes_0 (by decide) ?_
  refine lv_istore_n (lv' := [(1, .int 0), (0, .ref (ga G c0))]) hx hb dX6_heldBytes_1 rfl hl (by decide) rfl (fun ls hl => ?_)
  refine lv_aload_n hx hb dX6_heldBytes_2 rfl (lv_at hl 1 rfl) ?_
  refine g_geti hx hb hB inB6 hown hK hH (c0 := c0) hc0.1 rfl 2 (by decide) k34 rfl rfl dX6_heldBytes_3 ?_
  refine lv_topi (fun x2_1 ex2_1 => ?_)
  replace h := h x2_1 ex2_1
  refine lv_istore_n (lv' := [(2, .int x2_1), (1, .int 0), (0, .ref (ga G c0))]) hx hb dX6_heldBytes_6 rfl hl (by decide) rfl (fun ls hl => ?_)
  obtain ⟨nn, h⟩ := h
  exact L7 nn c0 hc0 0 x2_1 σ _ _ ls hH (lv_sub hl [2, 1, 0] rfl) h
def wpX6_raiseTold_L2 (Q : Sg → Prop) : Nat → Nat → Int32 → Sg → Prop
  | 0, _, _, _ => False
  | n + 1, c0, x1, σ => ((32 ≤ x1 → Q σ) ∧ (¬ (32 ≤ x1) → wpX6_isWhole c0 (σ c0 4) σ (fun r2 σ2 => ((r2 = 0 → Q σ2) ∧ (¬ (r2 = 0) → ∀ σ4 : Sg, σ4 = up2 σ2 c0 4 ((σ2 c0 4) + 1) → ∀ x1_5 : Int32, x1_5 = x1 + 1 → (wpX6_raiseTold_L2 Q n) c0 x1_5 σ4)))))
def wpX6_raiseTold (c0 : Nat) (σ : Sg) (Q : Sg → Prop) : Prop := ∃ nn, wpX6_raiseTold_L2 Q nn c0 0 σ
set_option maxHeartbeats 8000000 in
set_option maxRecDepth 100000 in
theorem tX6_raiseTold {l : Launch} {G : GG} {tS : Nat × (Nat → Int32)} (hgo : go G = some tS) {c0 : Nat} {σ : Sg} {Q : Sg → Prop} (hc0 : isReceiver G c0) (h : wpX6_raiseTold c0 σ Q) : Kv l G yX6_raiseTold (wB yX6_raiseTold prog_8_method_11_code 2 none) ({ frames := 2, cells := 0, slots := 0, locals := 43 }) [.ref (ga G c0)] σ Q := by
  refine K_of (cc := cX6_raiseTold) (maxL := 2) (ret := none) (by decide) rfl (Nat.le_of_ble_eq_true rfl) ?_
  intro p e s m args below meth c ls B hH hl
  obtain ⟨hx, hb, hr, hts, hown, hlk, hml, hK, hX⟩ := B
  replace hl : lv_has ls 2 [(0, .ref (ga G c0))] := hl
  have hB : ∀ w ∈ BIG, w.before args s = true := fun w h9 => hts w (List.mem_cons_of_mem _ h9)
  clear hts
  have k47 := hB _ bw2_32
  have L2 : ∀ (n2 : Nat) (c0 : Nat) (hc0 : isReceiver G c0) (x1 : Int32) (σ : Sg) (H : Heap) (locs : List Loc) (ls : Array Slot), Hx G (aA G s.heap.size) s σ H locs → lv_has ls 2 [(0, .ref (ga G c0)), (1, .int x1)] → wpX6_raiseTold_L2 Q n2 c0 x1 σ → W p l e ({ frames := 2, cells := 0, slots := 0, locals := 43 }) s m args below meth c H locs 0 0 (Zv G Q below args s) (F0 m 2 ls []) := by
    intro n2
    induction n2 with
    | zero =>
      intro c0 hc0 x1 σ H locs ls hH hl h
      exact False.elim h
    | succ n2 ih2 =>
      intro c0 hc0 x1 σ H locs ls hH hl h
      unfold wpX6_raiseTold_L2 at h
      refine lv_iload_n hx hb dX6_raiseTold_2 rfl (lv_at hl 1 rfl) ?_
      refine lv_bipush (v := 32) hx hb dX6_raiseTold_3 (by decide) ?_
      refine lv_icmp_ge (tgt := 35) hx hb dX6_raiseTold_5 (by decide) (fun q1 => ?_) (fun q1 => ?_)
      · replace h := h.1 q1
        exact g_vret hx hb hr hK hlk h hH dX6_raiseTold_35
      · replace h := h.2 q1
        refine lv_aload_n hx hb dX6_raiseTold_8 rfl (lv_at hl 0 rfl) ?_
        refine lv_aload_n hx hb dX6_raiseTold_9 rfl (lv_at hl 0 rfl) ?_
        refine g_geti hx hb hB inB6 hown hK hH (c0 := c0) hc0.1 rfl 4 (by decide) k47 rfl rfl dX6_raiseTold_10 ?_
        refine g_callVi (As := [.int (σ c0 4)]) (rest := []) ⟨hx, hb, hml, hown, hB⟩ hK hX aA_hA hH (c0 := c0) (tX6_isWhole (tS := tS) hgo hc0 h) (cwV 1 hB gVX6_109 rfl rfl rfl (by decide +kernel) ⟨Nat.le_of_ble_eq_true rfl, Nat.le_of_ble_eq_true rfl⟩) hc0.1 rfl rfl hl.1 rfl (lv_room (Nat.le_of_ble_eq_true rfl)) ⟨Nat.zero_le _, Nat.zero_le _⟩ dX6_raiseTold_13 (fun r2 σ2 H locs h hH => ?_)
        refine lv_if_eq (tgt := 35) hx hb dX6_raiseTold_16 (by decide) (fun q3 => ?_) (fun q3 => ?_)
        · replace h := h.1 q3
          exact g_vret hx hb hr hK hlk h hH dX6_raiseTold_35
        · replace h := h.2 q3
          refine lv_aload_n hx hb dX6_raiseTold_19 rfl (lv_at hl 0 rfl) ?_
          refine lv_dup hx hb dX6_raiseTold_20 rfl ?_
          refine g_geti hx hb hB inB6 hown hK hH (c0 := c0) hc0.1 rfl 4 (by decide) k47 rfl rfl dX6_raiseTold_21 ?_
          refine lv_iconst (v := 1) hx hb dX6_raiseTold_24 (by decide) ?_
          refine lv_iadd hx hb dX6_raiseTold_25 ?_
          refine g_put hx hb hB inB6 tyX6 tyX6_ok nmX6 hown hK hH (c0 := c0) hc0.1 rfl 4 (by decide) k47 rfl rfl rfl rfl rfl dX6_raiseTold_26 (fun σ4 eσ4 H locs hH => ?_)
          replace h := h σ4 eσ4
          obtain ⟨x1_5, ex1_5⟩ : ∃ y : Int32, y = x1 + 1 := ⟨_, rfl⟩
          replace h := h x1_5 ex1_5
          refine lv_iinc (v := x1_5) (lv' := [(1, .int x1_5), (0, .ref (ga G c0))]) hx hb dX6_raiseTold_29 hl (k := 1) rfl (by rw [ex1_5]; rfl) (by decide) rfl (fun ls hl => ?_)
          refine lv_goto (tgt := 2) hx hb dX6_raiseTold_32 (by decide) ?_
          exact ih2 c0 hc0 x1_5 σ4 _ _ ls hH (lv_sub hl [1, 0] rfl) h
  unfold wpX6_raiseTold at h
  refine lv_iconst (v := 0) hx hb dX6_raiseTold_0 (by decide) ?_
  refine lv_istore_n (lv' := [(1, .int 0), (0, .ref (ga G c0))]) hx hb dX6_raiseTold_1 rfl hl (by decide) rfl (fun ls hl => ?_)
  obtain ⟨nn, h⟩ := h
  exact L2 nn c0 hc0 0 σ _ _ ls hH (lv_sub hl [1, 0] rfl) h
def wpX6_answerPolls (c0 : Nat) (σ : Sg) (Q : Sg → Prop) : Prop := (((σ c0 6) = (-1) → Q σ) ∧ (¬ ((σ c0 6) = (-1)) → (((σ c0 4) ≤ (σ c0 6) → Q σ) ∧ (¬ ((σ c0 4) ≤ (σ c0 6)) → ∀ σ3 : Sg, σ3 = up2 σ c0 7 1 → ∀ σ4 : Sg, σ4 = up2 σ3 c0 6 (-1) → Q σ4))))
set_option maxHeartbeats 8000000 in
set_option maxRecDepth 100000 in
theorem tX6_answerPolls {l : Launch} {G : GG} {c0 : Nat} {σ : Sg} {Q : Sg → Prop} (hc0 : isReceiver G c0) (h : wpX6_answerPolls c0 σ Q) : Kv l G yX6_answerPolls (wB yX6_answerPolls prog_8_method_14_code 1 none) ({ frames := 0, cells := 0, slots := 0, locals := 0 }) [.ref (ga G c0)] σ Q := by
  refine K_of (cc := cX6_answerPolls) (maxL := 1) (ret := none) (by decide) rfl (Nat.le_of_ble_eq_true rfl) ?_
  intro p e s m args below meth c ls B hH hl
  obtain ⟨hx, hb, hr, hts, hown, hlk, hml, hK, hX⟩ := B
  replace hl : lv_has ls 1 [(0, .ref (ga G c0))] := hl
  have hB : ∀ w ∈ BIG, w.before args s = true := fun w h9 => hts w (List.mem_cons_of_mem _ h9)
  clear hts
  have k17 := hB _ bw2_36
  have k47 := hB _ bw2_32
  have k53 := hB _ bw2_38
  unfold wpX6_answerPolls at h
  refine lv_aload_n hx hb dX6_answerPolls_0 rfl (lv_at hl 0 rfl) ?_
  refine g_geti hx hb hB inB6 hown hK hH (c0 := c0) hc0.1 rfl 6 (by decide) k17 rfl rfl dX6_answerPolls_1 ?_
  refine lv_iconst (v := (-1)) hx hb dX6_answerPolls_4 (by decide) ?_
  refine lv_icmp_eq (tgt := 29) hx hb dX6_answerPolls_5 (by decide) (fun q1 => ?_) (fun q1 => ?_)
  · replace h := h.1 q1
    exact g_vret hx hb hr hK hlk h hH dX6_answerPolls_29
  · replace h := h.2 q1
    refine lv_aload_n hx hb dX6_answerPolls_8 rfl (lv_at hl 0 rfl) ?_
    refine g_geti hx hb hB inB6 hown hK hH (c0 := c0) hc0.1 rfl 6 (by decide) k17 rfl rfl dX6_answerPolls_9 ?_
    refine lv_aload_n hx hb dX6_answerPolls_12 rfl (lv_at hl 0 rfl) ?_
    refine g_geti hx hb hB inB6 hown hK hH (c0 := c0) hc0.1 rfl 4 (by decide) k47 rfl rfl dX6_answerPolls_13 ?_
    refine lv_icmp_ge (tgt := 29) hx hb dX6_answerPolls_16 (by decide) (fun q2 => ?_) (fun q2 => ?_)
    · replace h := h.1 q2
      exact g_vret hx hb hr hK hlk h hH dX6_answerPolls_29
    · replace h := h.2 q2
      refine lv_aload_n hx hb dX6_answerPolls_19 rfl (lv_at hl 0 rfl) ?_
      refine lv_iconst (v := 1) hx hb dX6_answerPolls_20 (by decide) ?_
      refine g_put hx hb hB inB6 tyX6 tyX6_ok nmX6 hown hK hH (c0 := c0) hc0.1 rfl 7 (by decide) k53 rfl rfl rfl (vz_n vz1) (vz_f vz1) dX6_answerPolls_21 (fun σ3 eσ3 H locs hH => ?_)
      replace h := h σ3 eσ3
      refine lv_aload_n hx hb dX6_answerPolls_24 rfl (lv_at hl 0 rfl) ?_
      refine lv_iconst (v := (-1)) hx hb dX6_answerPolls_25 (by decide) ?_
      refine g_put hx hb hB inB6 tyX6 tyX6_ok nmX6 hown hK hH (c0 := c0) hc0.1 rfl 6 (by decide) k17 rfl rfl rfl rfl rfl dX6_answerPolls_26 (fun σ4 eσ4 H locs hH => ?_)
      replace h := h σ4 eσ4
      exact g_vret hx hb hr hK hlk h hH dX6_answerPolls_29
def wpX6_giveUpAwaiting (c0 : Nat) (σ : Sg) (Q : Sg → Prop) : Prop := ∀ w1 : Int32, w1 = (if (σ c0 4) < (σ c0 5) then (σ c0 5) else (σ c0 4)) → ∀ σ2 : Sg, σ2 = up2 σ c0 4 w1 → wpX6_raiseTold c0 σ2 (fun σ3 => ∀ σ4 : Sg, σ4 = up2 σ3 c0 7 1 → wpX6_answerPolls c0 σ4 (fun σ5 => (((σ5 c0 3) ≤ (σ5 c0 4) → Q σ5) ∧ (¬ ((σ5 c0 3) ≤ (σ5 c0 4)) → ∀ σ7 : Sg, σ7 = up2 σ5 c0 8 6 → ∀ σ8 : Sg, σ8 = up2 σ7 c0 5 (σ7 c0 3) → Q σ8))))
set_option maxHeartbeats 8000000 in
set_option maxRecDepth 100000 in
theorem tX6_giveUpAwaiting {l : Launch} {G : GG} {tS : Nat × (Nat → Int32)} (hgo : go G = some tS) {c0 : Nat} {σ : Sg} {Q : Sg → Prop} (hc0 : isReceiver G c0) (h : wpX6_giveUpAwaiting c0 σ Q) : Kv l G yX6_giveUpAwaiting (wB yX6_giveUpAwaiting prog_8_method_7_code 1 none) ({ frames := 3, cells := 0, slots := 0, locals := 64 }) [.ref (ga G c0)] σ Q := by
  refine K_of (cc := cX6_giveUpAwaiting) (maxL := 1) (ret := none) (by decide) rfl (Nat.le_of_ble_eq_true rfl) ?_
  intro p e s m args below meth c ls B hH hl
  obtain ⟨hx, hb, hr, hts, hown, hlk, hml, hK, hX⟩ := B
  replace hl : lv_has ls 1 [(0, .ref (ga G c0))] := hl
  have hB : ∀ w ∈ BIG, w.before args s = true := fun w h9 => hts w (List.mem_cons_of_mem _ h9)
  clear hts
  have k37 := hB _ bw2_30
  have k47 := hB _ bw2_32
  have k50 := hB _ bw2_34
  have k53 := hB _ bw2_38
  have k57 := hB _ bw2_40
  have k69 := hB _ bw2_232
  have kmmax1 := hB _ bw2_233
  have km2 := hB _ bw1_12
  have kmmax3 : (Cond.code Lib.Math.max.name Lib.Math.max.code 2 (some .int)).before args s = true := hB _ bw2_234
  unfold wpX6_giveUpAwaiting at h
  refine lv_aload_n hx hb dX6_giveUpAwaiting_0 rfl (lv_at hl 0 rfl) ?_
  refine lv_aload_n hx hb dX6_giveUpAwaiting_1 rfl (lv_at hl 0 rfl) ?_
  refine g_geti hx hb hB inB6 hown hK hH (c0 := c0) hc0.1 rfl 4 (by decide) k47 rfl rfl dX6_giveUpAwaiting_2 ?_
  refine lv_aload_n hx hb dX6_giveUpAwaiting_5 rfl (lv_at hl 0 rfl) ?_
  refine g_geti hx hb hB inB6 hown hK hH (c0 := c0) hc0.1 rfl 5 (by decide) k50 rfl rfl dX6_giveUpAwaiting_6 ?_
  refine va_mmax hx hb (hml.trans hl.1.symm) hown k69 kmmax1 km2 kmmax3 (Nat.le_of_ble_eq_true rfl) (Nat.le_of_ble_eq_true rfl) (Nat.zero_le _) (Nat.zero_le _) dX6_giveUpAwaiting_9 ?_
  refine lv_topi (fun w1 ew1 => ?_)
  replace h := h w1 ew1
  refine g_put hx hb hB inB6 tyX6 tyX6_ok nmX6 hown hK hH (c0 := c0) hc0.1 rfl 4 (by decide) k47 rfl rfl rfl rfl rfl dX6_giveUpAwaiting_12 (fun σ2 eσ2 H locs hH => ?_)
  replace h := h σ2 eσ2
  refine lv_aload_n hx hb dX6_giveUpAwaiting_15 rfl (lv_at hl 0 rfl) ?_
  refine g_callVv (As := []) (rest := []) ⟨hx, hb, hml, hown, hB⟩ hK hX aA_hA hH (c0 := c0) (tX6_raiseTold (tS := tS) hgo hc0 h) (cwV 0 hB gVX6_75 rfl rfl rfl (by decide +kernel) ⟨Nat.le_of_ble_eq_true rfl, Nat.le_of_ble_eq_true rfl⟩) hc0.1 rfl rfl hl.1 rfl (lv_room (Nat.le_of_ble_eq_true rfl)) ⟨Nat.zero_le _, Nat.zero_le _⟩ dX6_giveUpAwaiting_16 (fun σ3 H locs h hH => ?_)
  refine lv_aload_n hx hb dX6_giveUpAwaiting_19 rfl (lv_at hl 0 rfl) ?_
  refine lv_iconst (v := 1) hx hb dX6_giveUpAwaiting_20 (by decide) ?_
  refine g_put hx hb hB inB6 tyX6 tyX6_ok nmX6 hown hK hH (c0 := c0) hc0.1 rfl 7 (by decide) k53 rfl rfl rfl (vz_n vz1) (vz_f vz1) dX6_giveUpAwaiting_21 (fun σ4 eσ4 H locs hH => ?_)
  replace h := h σ4 eσ4
  refine lv_aload_n hx hb dX6_giveUpAwaiting_24 rfl (lv_at hl 0 rfl) ?_
  refine g_callVv (As := []) (rest := []) ⟨hx, hb, hml, hown, hB⟩ hK hX aA_hA hH (c0 := c0) (tX6_answerPolls hc0 h) (cwV 0 hB gVX6_78 rfl rfl rfl (by decide +kernel) ⟨Nat.le_of_ble_eq_true rfl, Nat.le_of_ble_eq_true rfl⟩) hc0.1 rfl rfl hl.1 rfl (lv_room (Nat.le_of_ble_eq_true rfl)) ⟨Nat.zero_le _, Nat.zero_le _⟩ dX6_giveUpAwaiting_25 (fun σ5 H locs h hH => ?_)
  refine lv_aload_n hx hb dX6_giveUpAwaiting_28 rfl (lv_at hl 0 rfl) ?_
  refine g_geti hx hb hB inB6 hown hK hH (c0 := c0) hc0.1 rfl 3 (by decide) k37 rfl rfl dX6_giveUpAwaiting_29 ?_
  refine lv_aload_n hx hb dX6_giveUpAwaiting_32 rfl (lv_at hl 0 rfl) ?_
  refine g_geti hx hb hB inB6 hown hK hH (c0 := c0) hc0.1 rfl 4 (by decide) k47 rfl rfl dX6_giveUpAwaiting_33 ?_
  refine lv_icmp_le (tgt := 53) hx hb dX6_giveUpAwaiting_36 (by decide) (fun q6 => ?_) (fun q6 => ?_)
  · replace h := h.1 q6
    exact g_vret hx hb hr hK hlk h hH dX6_giveUpAwaiting_53
  · replace h := h.2 q6
    refine lv_aload_n hx hb dX6_giveUpAwaiting_39 rfl (lv_at hl 0 rfl) ?_
    refine lv_bipush (v := 6) hx hb dX6_giveUpAwaiting_40 (by decide) ?_
    refine g_put hx hb hB inB6 tyX6 tyX6_ok nmX6 hown hK hH (c0 := c0) hc0.1 rfl 8 (by decide) k57 rfl rfl rfl rfl rfl dX6_giveUpAwaiting_42 (fun σ7 eσ7 H locs hH => ?_)
    replace h := h σ7 eσ7
    refine lv_aload_n hx hb dX6_giveUpAwaiting_45 rfl (lv_at hl 0 rfl) ?_
    refine lv_aload_n hx hb dX6_giveUpAwaiting_46 rfl (lv_at hl 0 rfl) ?_
    refine g_geti hx hb hB inB6 hown hK hH (c0 := c0) hc0.1 rfl 3 (by decide) k37 rfl rfl dX6_giveUpAwaiting_47 ?_
    refine g_put hx hb hB inB6 tyX6 tyX6_ok nmX6 hown hK hH (c0 := c0) hc0.1 rfl 5 (by decide) k50 rfl rfl rfl rfl rfl dX6_giveUpAwaiting_50 (fun σ8 eσ8 H locs hH => ?_)
    replace h := h σ8 eσ8
    exact g_vret hx hb hr hK hlk h hH dX6_giveUpAwaiting_53
def wpX6_countDown_L17 (Q : Sg → Prop) (c0 : Nat) (σ : Sg) : Prop := (((σ c0 8) ≤ 0 → Q σ) ∧ (¬ ((σ c0 8) ≤ 0) → ∀ σ4 : Sg, σ4 = up2 σ c0 8 ((σ c0 8) - 1) → ((¬ (σ4 c0 8) = 0 → Q σ4) ∧ ((σ4 c0 8) = 0 → wpX6_giveUpAwaiting c0 σ4 (fun σ6 => Q σ6)))))
def wpX6_countDown (c0 : Nat) (σ : Sg) (Q : Sg → Prop) : Prop := (((σ c0 9) ≤ 0 → wpX6_countDown_L17 Q c0 σ) ∧ (¬ ((σ c0 9) ≤ 0) → ∀ σ2 : Sg, σ2 = up2 σ c0 9 ((σ c0 9) - 1) → wpX6_countDown_L17 Q c0 σ2))
set_option maxHeartbeats 8000000 in
set_option maxRecDepth 100000 in
theorem tX6_countDown {l : Launch} {G : GG} {tS : Nat × (Nat → Int32)} (hgo : go G = some tS) {c0 : Nat} {σ : Sg} {Q : Sg → Prop} (hc0 : isReceiver G c0) (h : wpX6_countDown c0 σ Q) : Kv l G yX6_countDown (wB yX6_countDown prog_8_method_6_code 1 none) ({ frames := 4, cells := 0, slots := 0, locals := 84 }) [.ref (ga G c0)] σ Q := by
  refine K_of (cc := cX6_countDown) (maxL := 1) (ret := none) (by decide) rfl (Nat.le_of_ble_eq_true rfl) ?_
  intro p e s m args below meth c ls B hH hl
  obtain ⟨hx, hb, hr, hts, hown, hlk, hml, hK, hX⟩ := B
  replace hl : lv_has ls 1 [(0, .ref (ga G c0))] := hl
  have hB : ∀ w ∈ BIG, w.before args s = true := fun w h9 => hts w (List.mem_cons_of_mem _ h9)
  clear hts
  have k57 := hB _ bw2_40
  have k60 := hB _ bw2_42
  have L17 : ∀ (c0 : Nat) (hc0 : isReceiver G c0) (σ : Sg) (H : Heap) (locs : List Loc) (ls : Array Slot), Hx G (aA G s.heap.size) s σ H locs → lv_has ls 1 [(0, .ref (ga G c0))] → wpX6_countDown_L17 Q c0 σ → W p l e ({ frames := 4, cells := 0, slots := 0, locals := 84 }) s m args below meth c H locs 0 0 (Zv G Q below args s) (F0 m 17 ls []) := by
    intro c0 hc0 σ H locs ls hH hl h
    unfold wpX6_countDown_L17 at h
    refine lv_aload_n hx hb dX6_countDown_17 rfl (lv_at hl 0 rfl) ?_
    refine g_geti hx hb hB inB6 hown hK hH (c0 := c0) hc0.1 rfl 8 (by decide) k57 rfl rfl dX6_countDown_18 ?_
    refine lv_if_le (tgt := 45) hx hb dX6_countDown_21 (by decide) (fun q3 => ?_) (fun q3 => ?_)
    · replace h := h.1 q3
      exact g_vret hx hb hr hK hlk h hH dX6_countDown_45
    · replace h := h.2 q3
      refine lv_aload_n hx hb dX6_countDown_24 rfl (lv_at hl 0 rfl) ?_
      refine lv_dup hx hb dX6_countDown_25 rfl ?_
      refine g_geti hx hb hB inB6 hown hK hH (c0 := c0) hc0.1 rfl 8 (by decide) k57 rfl rfl dX6_countDown_26 ?_
      refine lv_iconst (v := 1) hx hb dX6_countDown_29 (by decide) ?_
      refine lv_isub hx hb dX6_countDown_30 ?_
      refine g_put hx hb hB inB6 tyX6 tyX6_ok nmX6 hown hK hH (c0 := c0) hc0.1 rfl 8 (by decide) k57 rfl rfl rfl rfl rfl dX6_countDown_31 (fun σ4 eσ4 H locs hH => ?_)
      replace h := h σ4 eσ4
      refine lv_aload_n hx hb dX6_countDown_34 rfl (lv_at hl 0 rfl) ?_
      refine g_geti hx hb hB inB6 hown hK hH (c0 := c0) hc0.1 rfl 8 (by decide) k57 rfl rfl dX6_countDown_35 ?_
      refine lv_if_ne (tgt := 45) hx hb dX6_countDown_38 (by decide) (fun q5 => ?_) (fun q5 => ?_)
      · replace h := h.1 q5
        exact g_vret hx hb hr hK hlk h hH dX6_countDown_45
      · replace h := h.2 q5
        refine lv_aload_n hx hb dX6_countDown_41 rfl (lv_at hl 0 rfl) ?_
        refine g_callVv (As := []) (rest := []) ⟨hx, hb, hml, hown, hB⟩ hK hX aA_hA hH (c0 := c0) (tX6_giveUpAwaiting (tS := tS) hgo hc0 h) (cwV 0 hB gVX6_66 rfl rfl rfl (by decide +kernel) ⟨Nat.le_of_ble_eq_true rfl, Nat.le_of_ble_eq_true rfl⟩) hc0.1 rfl rfl hl.1 rfl (lv_room (Nat.le_of_ble_eq_true rfl)) ⟨Nat.zero_le _, Nat.zero_le _⟩ dX6_countDown_42 (fun σ6 H locs h hH => ?_)
        exact g_vret hx hb hr hK hlk h hH dX6_countDown_45
  unfold wpX6_countDown at h
  refine lv_aload_n hx hb dX6_countDown_0 rfl (lv_at hl 0 rfl) ?_
  refine g_geti hx hb hB inB6 hown hK hH (c0 := c0) hc0.1 rfl 9 (by decide) k60 rfl rfl dX6_countDown_1 ?_
  refine lv_if_le (tgt := 17) hx hb dX6_countDown_4 (by decide) (fun q1 => ?_) (fun q1 => ?_)
  · replace h := h.1 q1
    exact L17 c0 hc0 σ _ _ ls hH (lv_sub hl [0] rfl) h
  · replace h := h.2 q1
    refine lv_aload_n hx hb dX6_countDown_7 rfl (lv_at hl 0 rfl) ?_
    refine lv_dup hx hb dX6_countDown_8 rfl ?_
    refine g_geti hx hb hB inB6 hown hK hH (c0 := c0) hc0.1 rfl 9 (by decide) k60 rfl rfl dX6_countDown_9 ?_
    refine lv_iconst (v := 1) hx hb dX6_countDown_12 (by decide) ?_
    refine lv_isub hx hb dX6_countDown_13 ?_
    refine g_put hx hb hB inB6 tyX6 tyX6_ok nmX6 hown hK hH (c0 := c0) hc0.1 rfl 9 (by decide) k60 rfl rfl rfl rfl rfl dX6_countDown_14 (fun σ2 eσ2 H locs hH => ?_)
    replace h := h σ2 eσ2
    exact L17 c0 hc0 σ2 _ _ ls hH (lv_sub hl [0] rfl) h
def wpX6_countLengths_L4 (Q : Int32 → Sg → Prop) : Nat → Nat → Int32 → Int32 → Sg → Prop
  | 0, _, _, _, _ => False
  | n + 1, c0, x2, x3, σ => (((σ c0 1) ≤ x3 → Q x2 σ) ∧ (¬ ((σ c0 1) ≤ x3) → wpX0_at c0 x3 σ (fun r2 σ2 => (((r2 &&& 128) = 0 → Q x2 σ2) ∧ (¬ ((r2 &&& 128) = 0) → ∀ x2_4 : Int32, x2_4 = x2 + 1 → ∀ x3_5 : Int32, x3_5 = x3 + 1 → (wpX6_countLengths_L4 Q n) c0 x2_4 x3_5 σ2)))))
def wpX6_countLengths (c0 : Nat) (x1 : Int32) (σ : Sg) (Q : Int32 → Sg → Prop) : Prop := ∃ nn, wpX6_countLengths_L4 Q nn c0 1 x1 σ
set_option maxHeartbeats 8000000 in
set_option maxRecDepth 100000 in
theorem tX6_countLengths {l : Launch} {G : GG} {tS : Nat × (Nat → Int32)} (hgo : go G = some tS) {c0 : Nat} {x1 : Int32} {σ : Sg} {Q : Int32 → Sg → Prop} (hc0 : isAir G c0) (h : wpX6_countLengths c0 x1 σ Q) : Ki l G yX6_countLengths (wB yX6_countLengths prog_8_method_10_code 4 (Option.some FieldType.int)) ({ frames := 1, cells := 0, slots := 0, locals := 21 }) [.ref (ga G c0), .int x1] σ Q := by
  refine K_of (cc := cX6_countLengths) (maxL := 4) (ret := (some .int)) (by decide) rfl (Nat.le_of_ble_eq_true rfl) ?_
  intro p e s m args below meth c ls B hH hl
  obtain ⟨hx, hb, hr, hts, hown, hlk, hml, hK, hX⟩ := B
  replace hl : lv_has ls 4 [(0, .ref (ga G c0)), (1, .int x1)] := hl
  have hXN : NWs s := XS.nw hX hgo
  have hB : ∀ w ∈ BIG, w.before args s = true := fun w h9 => hts w (List.mem_cons_of_mem _ h9)
  clear hts
  have k108 : (Cond.fieldLinkNest RX6 108 "BearerHouse$Air" "size" "I" "BearerHouse").before args s = true := va_Nw.use rfl (hXN.1 ("BearerHouse$Receiver", 108, "BearerHouse$Air", "size", "I", "BearerHouse") (List.mem_of_getElem? (i := 43) rfl))
  have L4 : ∀ (n4 : Nat) (c0 : Nat) (hc0 : isAir G c0) (x2 : Int32) (x3 : Int32) (σ : Sg) (H : Heap) (locs : List Loc) (ls : Array Slot), Hx G (aA G s.heap.size) s σ H locs → lv_has ls 4 [(0, .ref (ga G c0)), (2, .int x2), (3, .int x3)] → wpX6_countLengths_L4 Q n4 c0 x2 x3 σ → W p l e ({ frames := 1, cells := 0, slots := 0, locals := 21 }) s m args below meth c H locs 0 0 (Zi G Q below args s) (F0 m 4 ls []) := by
    intro n4
    induction n4 with
    | zero =>
      intro c0 hc0 x2 x3 σ H locs ls hH hl h
      exact False.elim h
    | succ n4 ih4 =>
      intro c0 hc0 x2 x3 σ H locs ls hH hl h
      unfold wpX6_countLengths_L4 at h
      refine lv_iload_n hx hb dX6_countLengths_4 rfl (lv_at hl 2 rfl) ?_
      refine lv_aload_n hx hb dX6_countLengths_5 rfl (lv_at hl 0 rfl) ?_
      refine g_getiN hx hb hB inB0 hown hK hH (c0 := c0) hc0.1 rfl 1 (by decide) k108 rfl rfl dX6_countLengths_6 ?_
      refine lv_icmp_ge (tgt := 33) hx hb dX6_countLengths_9 (by decide) (fun q1 => ?_) (fun q1 => ?_)
      · replace h := h.1 q1
        refine lv_iload_n hx hb dX6_countLengths_33 rfl (lv_at hl 1 rfl) ?_
        exact g_iret hx hb hr hK hlk h hH dX6_countLengths_34
      · replace h := h.2 q1
        refine lv_aload_n hx hb dX6_countLengths_12 rfl (lv_at hl 0 rfl) ?_
        refine lv_iload_n hx hb dX6_countLengths_13 rfl (lv_at hl 2 rfl) ?_
        refine g_callVi (As := [.int x3]) (rest := []) ⟨hx, hb, hml, hown, hB⟩ hK hX aA_hA hH (c0 := c0) (tX0_at hc0 h) (cwV 1 hB gVX6_84 rfl rfl rfl (by decide +kernel) ⟨Nat.le_of_ble_eq_true rfl, Nat.le_of_ble_eq_true rfl⟩) hc0.1 rfl rfl hl.1 rfl (lv_room (Nat.le_of_ble_eq_true rfl)) ⟨Nat.zero_le _, Nat.zero_le _⟩ dX6_countLengths_14 (fun r2 σ2 H locs h hH => ?_)
        refine lv_sipush (v := 128) hx hb dX6_countLengths_17 (by decide) ?_
        refine lv_iand hx hb dX6_countLengths_20 ?_
        refine lv_if_eq (tgt := 33) hx hb dX6_countLengths_21 (by decide) (fun q3 => ?_) (fun q3 => ?_)
        · replace h := h.1 q3
          refine lv_iload_n hx hb dX6_countLengths_33 rfl (lv_at hl 1 rfl) ?_
          exact g_iret hx hb hr hK hlk h hH dX6_countLengths_34
        · replace h := h.2 q3
          obtain ⟨x2_4, ex2_4⟩ : ∃ y : Int32, y = x2 + 1 := ⟨_, rfl⟩
          replace h := h x2_4 ex2_4
          refine lv_iinc (v := x2_4) (lv' := [(2, .int x2_4), (0, .ref (ga G c0)), (3, .int x3)]) hx hb dX6_countLengths_24 hl (k := 1) rfl (by rw [ex2_4]; rfl) (by decide) rfl (fun ls hl => ?_)
          obtain ⟨x3_5, ex3_5⟩ : ∃ y : Int32, y = x3 + 1 := ⟨_, rfl⟩
          replace h := h x3_5 ex3_5
          refine lv_iinc (v := x3_5) (lv' := [(3, .int x3_5), (2, .int x2_4), (0, .ref (ga G c0))]) hx hb dX6_countLengths_27 hl (k := 2) rfl (by rw [ex3_5]; rfl) (by decide) rfl (fun ls hl => ?_)
          refine lv_goto (tgt := 4) hx hb dX6_countLengths_30 (by decide) ?_
          exact ih4 c0 hc0 x2_4 x3_5 σ2 _ _ ls hH (lv_sub hl [2, 1, 0] rfl) h
  unfold wpX6_countLengths at h
  refine lv_iconst (v := 1) hx hb dX6_countLengths_0 (by decide) ?_
  refine lv_istore_n (lv' := [(2, .int 1), (0, .ref (ga G c0)), (1, .int x1)]) hx hb dX6_countLengths_1 rfl hl (by decide) rfl (fun ls hl => ?_)
  refine lv_iload_n hx hb dX6_countLengths_2 rfl (lv_at hl 2 rfl) ?_
  refine lv_istore_n (lv' := [(3, .int x1), (2, .int 1), (0, .ref (ga G c0)), (1, .int x1)]) hx hb dX6_countLengths_3 rfl hl (by decide) rfl (fun ls hl => ?_)
  obtain ⟨nn, h⟩ := h
  exact L4 nn c0 hc0 1 x1 σ _ _ ls hH (lv_sub hl [2, 1, 0] rfl) h
def wpX6_takeCells_L161 (Q : Int32 → Sg → Prop) (K53 : Nat → Int32 → Nat → Int32 → Int32 → Int32 → Int32 → Int32 → Int32 → Int32 → Sg → Prop) (c1 : Nat) (x2 : Int32) (c3 : Nat) (x5 : Int32) (x6 : Int32) (x8 : Int32) (x9 : Int32) (x10 : Int32) (x12 : Int32) (x13 : Int32) (z0 : Int32) (z1 : Int32) (z2 : Int32) (y3 : Nat) (σ : Sg) : Prop := wpX5_putArrived y3 z2 (z1 + z0) σ (fun σ16 => ∀ x12_17 : Int32, x12_17 = x12 + 1 → K53 c1 x2 c3 x5 x6 x8 x9 x10 x13 x12_17 σ16)
def wpX6_takeCells_L148 (Q : Int32 → Sg → Prop) (K53 : Nat → Int32 → Nat → Int32 → Int32 → Int32 → Int32 → Int32 → Int32 → Int32 → Sg → Prop) (c1 : Nat) (x2 : Int32) (c3 : Nat) (x5 : Int32) (x6 : Int32) (x8 : Int32) (x9 : Int32) (x10 : Int32) (x12 : Int32) (x13 : Int32) (z0 : Int32) (z1 : Int32) (z2 : Int32) (y3 : Nat) (σ : Sg) : Prop := ((x13 = 0 → wpX6_takeCells_L161 Q K53 c1 x2 c3 x5 x6 x8 x9 x10 x12 x13 0 (z1 + z0) z2 y3 σ) ∧ (¬ (x13 = 0) → wpX6_takeCells_L161 Q K53 c1 x2 c3 x5 x6 x8 x9 x10 x12 x13 512 (z1 + z0) z2 y3 σ))
def wpX6_takeCells_L122 (Q : Int32 → Sg → Prop) (K53 : Nat → Int32 → Nat → Int32 → Int32 → Int32 → Int32 → Int32 → Int32 → Int32 → Sg → Prop) (c1 : Nat) (x2 : Int32) (c3 : Nat) (x5 : Int32) (x6 : Int32) (x8 : Int32) (x9 : Int32) (x10 : Int32) (x11 : Int32) (x12 : Int32) (x13 : Int32) (σ : Sg) : Prop := wpX0_at c3 x12 σ (fun r13 σ13 => ((x11 = 0 → wpX6_takeCells_L148 Q K53 c1 x2 c3 x5 x6 x8 x9 x10 x12 x13 0 r13 ((x2 + x12) - x8) c1 σ13) ∧ (¬ (x11 = 0) → wpX6_takeCells_L148 Q K53 c1 x2 c3 x5 x6 x8 x9 x10 x12 x13 256 r13 ((x2 + x12) - x8) c1 σ13)))
def wpX6_takeCells_L82 (Q : Int32 → Sg → Prop) (K53 : Nat → Int32 → Nat → Int32 → Int32 → Int32 → Int32 → Int32 → Int32 → Int32 → Sg → Prop) (c1 : Nat) (x2 : Int32) (c3 : Nat) (x5 : Int32) (x6 : Int32) (x8 : Int32) (x9 : Int32) (x10 : Int32) (x11 : Int32) (x12 : Int32) (z0 : Int32) (σ : Sg) : Prop := ((x8 ≤ x9 → wpX6_takeCells_L122 Q K53 c1 x2 c3 x5 x6 x8 x9 x10 x11 x12 z0 σ) ∧ (¬ (x8 ≤ x9) → wpX0_at c3 x9 σ (fun r9 σ9 => ((¬ ((x12 + 1) - x10) = (r9 &&& 127) → wpX6_takeCells_L122 Q K53 c1 x2 c3 x5 x6 x8 x9 x10 x11 x12 z0 σ9) ∧ (((x12 + 1) - x10) = (r9 &&& 127) → ∀ x9_11 : Int32, x9_11 = x9 + 1 → ∀ x10_12 : Int32, x10_12 = x12 + 1 → wpX6_takeCells_L122 Q K53 c1 x2 c3 x5 x6 x8 x9_11 x10_12 x11 x12 1 σ9)))))
def wpX6_takeCells_L81 (Q : Int32 → Sg → Prop) (K53 : Nat → Int32 → Nat → Int32 → Int32 → Int32 → Int32 → Int32 → Int32 → Int32 → Sg → Prop) (c1 : Nat) (x2 : Int32) (c3 : Nat) (x5 : Int32) (x6 : Int32) (x8 : Int32) (x9 : Int32) (x10 : Int32) (x11 : Int32) (x12 : Int32) (σ : Sg) : Prop := wpX6_takeCells_L82 Q K53 c1 x2 c3 x5 x6 x8 x9 x10 x11 x12 0 σ
def wpX6_takeCells_L53 (Q : Int32 → Sg → Prop) : Nat → Nat → Int32 → Nat → Int32 → Int32 → Int32 → Int32 → Int32 → Int32 → Int32 → Sg → Prop
  | 0, _, _, _, _, _, _, _, _, _, _, _ => False
  | n + 1, c1, x2, c3, x5, x6, x8, x9, x10, x11, x12, σ => ((x5 ≤ x12 → Q ((x2 + x5) - x8) σ) ∧ (¬ (x5 ≤ x12) → ((¬ x12 = (x5 - 1) → wpX6_takeCells_L81 Q (wpX6_takeCells_L53 Q n) c1 x2 c3 x5 x6 x8 x9 x10 x11 x12 σ) ∧ (x12 = (x5 - 1) → ((¬ (x6 &&& 8) = 0 → wpX6_takeCells_L81 Q (wpX6_takeCells_L53 Q n) c1 x2 c3 x5 x6 x8 x9 x10 x11 x12 σ) ∧ ((x6 &&& 8) = 0 → wpX6_takeCells_L82 Q (wpX6_takeCells_L53 Q n) c1 x2 c3 x5 x6 x8 x9 x10 x11 x12 1 σ))))))
def wpX6_takeCells_L47 (Q : Int32 → Sg → Prop) (c1 : Nat) (x2 : Int32) (c3 : Nat) (x5 : Int32) (x6 : Int32) (x8 : Int32) (x9 : Int32) (x10 : Int32) (z0 : Int32) (σ : Sg) : Prop := ∃ nn, wpX6_takeCells_L53 Q nn c1 x2 c3 x5 x6 x8 x9 x10 z0 x8 σ
def wpX6_takeCells_L17 (Q : Int32 → Sg → Prop) (c1 : Nat) (x2 : Int32) (c3 : Nat) (x4 : Int32) (x5 : Int32) (x6 : Int32) (z0 : Int32) (σ : Sg) : Prop := ∀ x8_3 : Int32, x8_3 = x4 + z0 → ((¬ (x6 &&& 16) = 0 → wpX6_takeCells_L47 Q c1 x2 c3 x5 x6 x8_3 x4 x8_3 0 σ) ∧ ((x6 &&& 16) = 0 → wpX6_takeCells_L47 Q c1 x2 c3 x5 x6 x8_3 x4 x8_3 1 σ))
def wpX6_takeCells (c0 : Nat) (c1 : Nat) (x2 : Int32) (c3 : Nat) (x4 : Int32) (x5 : Int32) (x6 : Int32) (σ : Sg) (Q : Int32 → Sg → Prop) : Prop := (((x6 &&& 4) = 0 → wpX6_takeCells_L17 Q c1 x2 c3 x4 x5 x6 0 σ) ∧ (¬ ((x6 &&& 4) = 0) → wpX6_countLengths c3 x4 σ (fun r2 σ2 => wpX6_takeCells_L17 Q c1 x2 c3 x4 x5 x6 r2 σ2)))
set_option maxHeartbeats 8000000 in
set_option maxRecDepth 100000 in
theorem tX6_takeCells {l : Launch} {G : GG} {tS : Nat × (Nat → Int32)} (hgo : go G = some tS) {c0 : Nat} {c1 : Nat} {x2 : Int32} {c3 : Nat} {x4 : Int32} {x5 : Int32} {x6 : Int32} {σ : Sg} {Q : Int32 → Sg → Prop} (hc0 : isReceiver G c0) (hc1 : isPiece G c1) (hc3 : isAir G c3) (h : wpX6_takeCells c0 c1 x2 c3 x4 x5 x6 σ Q) : Ki l G yX6_takeCells (wB yX6_takeCells prog_8_method_9_code 14 (Option.some FieldType.int)) ({ frames := 2, cells := 0, slots := 0, locals := 44 }) [.ref (ga G c0), .ref (ga G c1), .int x2, .ref (ga G c3), .int x4, .int x5, .int x6] σ Q := by
  refine K_of (cc := cX6_takeCells) (maxL := 14) (ret := (some .int)) (by decide) rfl (Nat.le_of_ble_eq_true rfl) ?_
  intro p e s m args below meth c ls B hH hl
  obtain ⟨hx, hb, hr, hts, hown, hlk, hml, hK, hX⟩ := B
  replace hl : lv_has ls 14 [(0, .ref (ga G c0)), (1, .ref (ga G c1)), (2, .int x2), (3, .ref (ga G c3)), (4, .int x4), (5, .int x5), (6, .int x6)] := hl
  have hB : ∀ w ∈ BIG, w.before args s = true := fun w h9 => hts w (List.mem_cons_of_mem _ h9)
  clear hts
  have L53 : ∀ (n53 : Nat) (c1 : Nat) (hc1 : isPiece G c1) (x2 : Int32) (c3 : Nat) (hc3 : isAir G c3) (x5 : Int32) (x6 : Int32) (x8 : Int32) (x9 : Int32) (x10 : Int32) (x11 : Int32) (x12 : Int32) (σ : Sg) (H : Heap) (locs : List Loc) (ls : Array Slot), Hx G (aA G s.heap.size) s σ H locs → lv_has ls 14 [(1, .ref (ga G c1)), (2, .int x2), (3, .ref (ga G c3)), (5, .int x5), (6, .int x6), (8, .int x8), (9, .int x9), (10, .int x10), (11, .int x11), (12, .int x12)] → wpX6_takeCells_L53 Q n53 c1 x2 c3 x5 x6 x8 x9 x10 x11 x12 σ → W p l e ({ frames := 2, cells := 0, slots := 0, locals := 44 }) s m args below meth c H locs 0 0 (Zi G Q below args s) (F0 m 53 ls []) := by
    intro n53
    induction n53 with
    | zero =>
      intro c1 hc1 x2 c3 hc3 x5 x6 x8 x9 x10 x11 x12 σ H locs ls hH hl h
      exact False.elim h
    | succ n53 ih53 =>
      have L161 : ∀ (c1 : Nat) (hc1 : isPiece G c1) (x2 : Int32) (c3 : Nat) (hc3 : isAir G c3) (x5 : Int32) (x6 : Int32) (x8 : Int32) (x9 : Int32) (x10 : Int32) (x12 : Int32) (x13 : Int32) (z0 : Int32) (z1 : Int32) (z2 : Int32) (y3 : Nat) (hy3 : isPiece G y3) (σ : Sg) (H : Heap) (locs : List Loc) (ls : Array Slot), Hx G (aA G s.heap.size) s σ H locs → lv_has ls 14 [(1, .ref (ga G c1)), (2, .int x2), (3, .ref (ga G c3)), (5, .int x5), (6, .int x6), (8, .int x8), (9, .int x9), (10, .int x10), (12, .int x12), (13, .int x13)] → wpX6_takeCells_L161 Q (wpX6_takeCells_L53 Q n53) c1 x2 c3 x5 x6 x8 x9 x10 x12 x13 z0 z1 z2 y3 σ → W p l e ({ frames := 2, cells := 0, slots := 0, locals := 44 }) s m args below meth c H locs 0 0 (Zi G Q below args s) (F0 m 161 ls [.int z0, .int z1, .int z2, .ref (ga G y3)]) := by
        intro c1 hc1 x2 c3 hc3 x5 x6 x8 x9 x10 x12 x13 z0 z1 z2 y3 hy3 σ H locs ls hH hl h
        unfold wpX6_takeCells_L161 at h
        refine lv_iadd hx hb dX6_takeCells_161 ?_
        refine g_callVv (As := [.int z2, .int (z1 + z0)]) (rest := []) ⟨hx, hb, hml, hown, hB⟩ hK hX aA_hA hH (c0 := y3) (tX5_putArrived hy3 h) (cwV 2 hB gVX6_104 rfl rfl rfl (by decide +kernel) ⟨Nat.le_of_ble_eq_true rfl, Nat.le_of_ble_eq_true rfl⟩) hy3.1 rfl rfl hl.1 rfl (lv_room (Nat.le_of_ble_eq_true rfl)) ⟨Nat.zero_le _, Nat.zero_le _⟩ dX6_takeCells_162 (fun σ16 H locs h hH => ?_)
        refine lv_iload hx hb dX6_takeCells_165 (lv_at hl 9 rfl) ?_
        refine lv_istore (lv' := [(11, .int x13), (1, .ref (ga G c1)), (2, .int x2), (3, .ref (ga G c3)), (5, .int x5), (6, .int x6), (8, .int x8), (9, .int x9), (10, .int x10), (12, .int x12), (13, .int x13)]) hx hb dX6_takeCells_167 hl (by decide) rfl (fun ls hl => ?_)
        obtain ⟨x12_17, ex12_17⟩ : ∃ y : Int32, y = x12 + 1 := ⟨_, rfl⟩
        replace h := h x12_17 ex12_17
        refine lv_iinc (v := x12_17) (lv' := [(12, .int x12_17), (11, .int x13), (1, .ref (ga G c1)), (2, .int x2), (3, .ref (ga G c3)), (5, .int x5), (6, .int x6), (8, .int x8), (9, .int x9), (10, .int x10), (13, .int x13)]) hx hb dX6_takeCells_169 hl (k := 9) rfl (by rw [ex12_17]; rfl) (by decide) rfl (fun ls hl => ?_)
        refine lv_goto (tgt := 53) hx hb dX6_takeCells_172 (by decide) ?_
        exact ih53 c1 hc1 x2 c3 hc3 x5 x6 x8 x9 x10 x13 x12_17 σ16 _ _ ls hH (lv_sub hl [2, 3, 4, 5, 6, 7, 8, 9, 1, 0] rfl) h
      have L148 : ∀ (c1 : Nat) (hc1 : isPiece G c1) (x2 : Int32) (c3 : Nat) (hc3 : isAir G c3) (x5 : Int32) (x6 : Int32) (x8 : Int32) (x9 : Int32) (x10 : Int32) (x12 : Int32) (x13 : Int32) (z0 : Int32) (z1 : Int32) (z2 : Int32) (y3 : Nat) (hy3 : isPiece G y3) (σ : Sg) (H : Heap) (locs : List Loc) (ls : Array Slot), Hx G (aA G s.heap.size) s σ H locs → lv_has ls 14 [(1, .ref (ga G c1)), (2, .int x2), (3, .ref (ga G c3)), (5, .int x5), (6, .int x6), (8, .int x8), (9, .int x9), (10, .int x10), (12, .int x12), (13, .int x13)] → wpX6_takeCells_L148 Q (wpX6_takeCells_L53 Q n53) c1 x2 c3 x5 x6 x8 x9 x10 x12 x13 z0 z1 z2 y3 σ → W p l e ({ frames := 2, cells := 0, slots := 0, locals := 44 }) s m args below meth c H locs 0 0 (Zi G Q below args s) (F0 m 148 ls [.int z0, .int z1, .int z2, .ref (ga G y3)]) := by
        intro c1 hc1 x2 c3 hc3 x5 x6 x8 x9 x10 x12 x13 z0 z1 z2 y3 hy3 σ H locs ls hH hl h
        unfold wpX6_takeCells_L148 at h
        refine lv_iadd hx hb dX6_takeCells_148 ?_
        refine lv_iload hx hb dX6_takeCells_149 (lv_at hl 9 rfl) ?_
        refine lv_if_eq (tgt := 160) hx hb dX6_takeCells_151 (by decide) (fun q15 => ?_) (fun q15 => ?_)
        · replace h := h.1 q15
          refine lv_iconst (v := 0) hx hb dX6_takeCells_160 (by decide) ?_
          exact L161 c1 hc1 x2 c3 hc3 x5 x6 x8 x9 x10 x12 x13 0 (z1 + z0) z2 y3 hy3 σ _ _ ls hH (lv_sub hl [0, 1, 2, 3, 4, 5, 6, 7, 8, 9] rfl) h
        · replace h := h.2 q15
          refine lv_sipush (v := 512) hx hb dX6_takeCells_154 (by decide) ?_
          refine lv_goto (tgt := 161) hx hb dX6_takeCells_157 (by decide) ?_
          exact L161 c1 hc1 x2 c3 hc3 x5 x6 x8 x9 x10 x12 x13 512 (z1 + z0) z2 y3 hy3 σ _ _ ls hH (lv_sub hl [0, 1, 2, 3, 4, 5, 6, 7, 8, 9] rfl) h
      have L122 : ∀ (c1 : Nat) (hc1 : isPiece G c1) (x2 : Int32) (c3 : Nat) (hc3 : isAir G c3) (x5 : Int32) (x6 : Int32) (x8 : Int32) (x9 : Int32) (x10 : Int32) (x11 : Int32) (x12 : Int32) (x13 : Int32) (σ : Sg) (H : Heap) (locs : List Loc) (ls : Array Slot), Hx G (aA G s.heap.size) s σ H locs → lv_has ls 14 [(1, .ref (ga G c1)), (2, .int x2), (3, .ref (ga G c3)), (5, .int x5), (6, .int x6), (8, .int x8), (9, .int x9), (10, .int x10), (11, .int x11), (12, .int x12), (13, .int x13)] → wpX6_takeCells_L122 Q (wpX6_takeCells_L53 Q n53) c1 x2 c3 x5 x6 x8 x9 x10 x11 x12 x13 σ → W p l e ({ frames := 2, cells := 0, slots := 0, locals := 44 }) s m args below meth c H locs 0 0 (Zi G Q below args s) (F0 m 122 ls []) := by
        intro c1 hc1 x2 c3 hc3 x5 x6 x8 x9 x10 x11 x12 x13 σ H locs ls hH hl h
        unfold wpX6_takeCells_L122 at h
        refine lv_aload_n hx hb dX6_takeCells_122 rfl (lv_at hl 0 rfl) ?_
        refine lv_iload_n hx hb dX6_takeCells_123 rfl (lv_at hl 1 rfl) ?_
        refine lv_iload hx hb dX6_takeCells_124 (lv_at hl 9 rfl) ?_
        refine lv_iadd hx hb dX6_takeCells_126 ?_
        refine lv_iload hx hb dX6_takeCells_127 (lv_at hl 5 rfl) ?_
        refine lv_isub hx hb dX6_takeCells_129 ?_
        refine lv_aload_n hx hb dX6_takeCells_130 rfl (lv_at hl 2 rfl) ?_
        refine lv_iload hx hb dX6_takeCells_131 (lv_at hl 9 rfl) ?_
        refine g_callVi (As := [.int x12]) (rest := [.int ((x2 + x12) - x8), .ref (ga G c1)]) ⟨hx, hb, hml, hown, hB⟩ hK hX aA_hA hH (c0 := c3) (tX0_at hc3 h) (cwV 1 hB gVX6_84 rfl rfl rfl (by decide +kernel) ⟨Nat.le_of_ble_eq_true rfl, Nat.le_of_ble_eq_true rfl⟩) hc3.1 rfl rfl hl.1 rfl (lv_room (Nat.le_of_ble_eq_true rfl)) ⟨Nat.zero_le _, Nat.zero_le _⟩ dX6_takeCells_133 (fun r13 σ13 H locs h hH => ?_)
        refine lv_iload hx hb dX6_takeCells_136 (lv_at hl 8 rfl) ?_
        refine lv_if_eq (tgt := 147) hx hb dX6_takeCells_138 (by decide) (fun q14 => ?_) (fun q14 => ?_)
        · replace h := h.1 q14
          refine lv_iconst (v := 0) hx hb dX6_takeCells_147 (by decide) ?_
          exact L148 c1 hc1 x2 c3 hc3 x5 x6 x8 x9 x10 x12 x13 0 r13 ((x2 + x12) - x8) c1 hc1 σ13 _ _ ls hH (lv_sub hl [0, 1, 2, 3, 4, 5, 6, 7, 9, 10] rfl) h
        · replace h := h.2 q14
          refine lv_sipush (v := 256) hx hb dX6_takeCells_141 (by decide) ?_
          refine lv_goto (tgt := 148) hx hb dX6_takeCells_144 (by decide) ?_
          exact L148 c1 hc1 x2 c3 hc3 x5 x6 x8 x9 x10 x12 x13 256 r13 ((x2 + x12) - x8) c1 hc1 σ13 _ _ ls hH (lv_sub hl [0, 1, 2, 3, 4, 5, 6, 7, 9, 10] rfl) h
      have L82 : ∀ (c1 : Nat) (hc1 : isPiece G c1) (x2 : Int32) (c3 : Nat) (hc3 : isAir G c3) (x5 : Int32) (x6 : Int32) (x8 : Int32) (x9 : Int32) (x10 : Int32) (x11 : Int32) (x12 : Int32) (z0 : Int32) (σ : Sg) (H : Heap) (locs : List Loc) (ls : Array Slot), Hx G (aA G s.heap.size) s σ H locs → lv_has ls 14 [(1, .ref (ga G c1)), (2, .int x2), (3, .ref (ga G c3)), (5, .int x5), (6, .int x6), (8, .int x8), (9, .int x9), (10, .int x10), (11, .int x11), (12, .int x12)] → wpX6_takeCells_L82 Q (wpX6_takeCells_L53 Q n53) c1 x2 c3 x5 x6 x8 x9 x10 x11 x12 z0 σ → W p l e ({ frames := 2, cells := 0, slots := 0, locals := 44 }) s m args below meth c H locs 0 0 (Zi G Q below args s) (F0 m 82 ls [.int z0]) := by
        intro c1 hc1 x2 c3 hc3 x5 x6 x8 x9 x10 x11 x12 z0 σ H locs ls hH hl h
        unfold wpX6_takeCells_L82 at h
        refine lv_istore (lv' := [(13, .int z0), (1, .ref (ga G c1)), (2, .int x2), (3, .ref (ga G c3)), (5, .int x5), (6, .int x6), (8, .int x8), (9, .int x9), (10, .int x10), (11, .int x11), (12, .int x12)]) hx hb dX6_takeCells_82 hl (by decide) rfl (fun ls hl => ?_)
        refine lv_iload hx hb dX6_takeCells_84 (lv_at hl 7 rfl) ?_
        refine lv_iload hx hb dX6_takeCells_86 (lv_at hl 6 rfl) ?_
        refine lv_icmp_ge (tgt := 122) hx hb dX6_takeCells_88 (by decide) (fun q8 => ?_) (fun q8 => ?_)
        · replace h := h.1 q8
          exact L122 c1 hc1 x2 c3 hc3 x5 x6 x8 x9 x10 x11 x12 z0 σ _ _ ls hH (lv_sub hl [1, 2, 3, 4, 5, 6, 7, 8, 9, 10, 0] rfl) h
        · replace h := h.2 q8
          refine lv_iload hx hb dX6_takeCells_91 (lv_at hl 10 rfl) ?_
          refine lv_iconst (v := 1) hx hb dX6_takeCells_93 (by decide) ?_
          refine lv_iadd hx hb dX6_takeCells_94 ?_
          refine lv_iload hx hb dX6_takeCells_95 (lv_at hl 8 rfl) ?_
          refine lv_isub hx hb dX6_takeCells_97 ?_
          refine lv_aload_n hx hb dX6_takeCells_98 rfl (lv_at hl 3 rfl) ?_
          refine lv_iload hx hb dX6_takeCells_99 (lv_at hl 7 rfl) ?_
          refine g_callVi (As := [.int x9]) (rest := [.int ((x12 + 1) - x10)]) ⟨hx, hb, hml, hown, hB⟩ hK hX aA_hA hH (c0 := c3) (tX0_at hc3 h) (cwV 1 hB gVX6_84 rfl rfl rfl (by decide +kernel) ⟨Nat.le_of_ble_eq_true rfl, Nat.le_of_ble_eq_true rfl⟩) hc3.1 rfl rfl hl.1 rfl (lv_room (Nat.le_of_ble_eq_true rfl)) ⟨Nat.zero_le _, Nat.zero_le _⟩ dX6_takeCells_101 (fun r9 σ9 H locs h hH => ?_)
          refine lv_bipush (v := 127) hx hb dX6_takeCells_104 (by decide) ?_
          refine lv_iand hx hb dX6_takeCells_106 ?_
          refine lv_icmp_ne (tgt := 122) hx hb dX6_takeCells_107 (by decide) (fun q10 => ?_) (fun q10 => ?_)
          · replace h := h.1 q10
            exact L122 c1 hc1 x2 c3 hc3 x5 x6 x8 x9 x10 x11 x12 z0 σ9 _ _ ls hH (lv_sub hl [1, 2, 3, 4, 5, 6, 7, 8, 9, 10, 0] rfl) h
          · replace h := h.2 q10
            refine lv_iconst (v := 1) hx hb dX6_takeCells_110 (by decide) ?_
            refine lv_istore (lv' := [(13, .int 1), (1, .ref (ga G c1)), (2, .int x2), (3, .ref (ga G c3)), (5, .int x5), (6, .int x6), (8, .int x8), (9, .int x9), (10, .int x10), (11, .int x11), (12, .int x12)]) hx hb dX6_takeCells_111 hl (by decide) rfl (fun ls hl => ?_)
            obtain ⟨x9_11, ex9_11⟩ : ∃ y : Int32, y = x9 + 1 := ⟨_, rfl⟩
            replace h := h x9_11 ex9_11
            refine lv_iinc (v := x9_11) (lv' := [(9, .int x9_11), (13, .int 1), (1, .ref (ga G c1)), (2, .int x2), (3, .ref (ga G c3)), (5, .int x5), (6, .int x6), (8, .int x8), (10, .int x10), (11, .int x11), (12, .int x12)]) hx hb dX6_takeCells_113 hl (k := 7) rfl (by rw [ex9_11]; rfl) (by decide) rfl (fun ls hl => ?_)
            refine lv_iload hx hb dX6_takeCells_116 (lv_at hl 10 rfl) ?_
            refine lv_iconst (v := 1) hx hb dX6_takeCells_118 (by decide) ?_
            refine lv_iadd hx hb dX6_takeCells_119 ?_
            refine lv_topi (fun x10_12 ex10_12 => ?_)
            replace h := h x10_12 ex10_12
            refine lv_istore (lv' := [(10, .int x10_12), (9, .int x9_11), (13, .int 1), (1, .ref (ga G c1)), (2, .int x2), (3, .ref (ga G c3)), (5, .int x5), (6, .int x6), (8, .int x8), (11, .int x11), (12, .int x12)]) hx hb dX6_takeCells_120 hl (by decide) rfl (fun ls hl => ?_)
            exact L122 c1 hc1 x2 c3 hc3 x5 x6 x8 x9_11 x10_12 x11 x12 1 σ9 _ _ ls hH (lv_sub hl [3, 4, 5, 6, 7, 8, 1, 0, 9, 10, 2] rfl) h
      have L81 : ∀ (c1 : Nat) (hc1 : isPiece G c1) (x2 : Int32) (c3 : Nat) (hc3 : isAir G c3) (x5 : Int32) (x6 : Int32) (x8 : Int32) (x9 : Int32) (x10 : Int32) (x11 : Int32) (x12 : Int32) (σ : Sg) (H : Heap) (locs : List Loc) (ls : Array Slot), Hx G (aA G s.heap.size) s σ H locs → lv_has ls 14 [(1, .ref (ga G c1)), (2, .int x2), (3, .ref (ga G c3)), (5, .int x5), (6, .int x6), (8, .int x8), (9, .int x9), (10, .int x10), (11, .int x11), (12, .int x12)] → wpX6_takeCells_L81 Q (wpX6_takeCells_L53 Q n53) c1 x2 c3 x5 x6 x8 x9 x10 x11 x12 σ → W p l e ({ frames := 2, cells := 0, slots := 0, locals := 44 }) s m args below meth c H locs 0 0 (Zi G Q below args s) (F0 m 81 ls []) := by
        intro c1 hc1 x2 c3 hc3 x5 x6 x8 x9 x10 x11 x12 σ H locs ls hH hl h
        unfold wpX6_takeCells_L81 at h
        refine lv_iconst (v := 0) hx hb dX6_takeCells_81 (by decide) ?_
        exact L82 c1 hc1 x2 c3 hc3 x5 x6 x8 x9 x10 x11 x12 0 σ _ _ ls hH (lv_sub hl [0, 1, 2, 3, 4, 5, 6, 7, 8, 9] rfl) h
      intro c1 hc1 x2 c3 hc3 x5 x6 x8 x9 x10 x11 x12 σ H locs ls hH hl h
      unfold wpX6_takeCells_L53 at h
      refine lv_iload hx hb dX6_takeCells_53 (lv_at hl 9 rfl) ?_
      refine lv_iload hx hb dX6_takeCells_55 (lv_at hl 3 rfl) ?_
      refine lv_icmp_ge (tgt := 175) hx hb dX6_takeCells_57 (by decide) (fun q5 => ?_) (fun q5 => ?_)
      · replace h := h.1 q5
        refine lv_iload_n hx hb dX6_takeCells_175 rfl (lv_at hl 1 rfl) ?_
        refine lv_iload hx hb dX6_takeCells_176 (lv_at hl 3 rfl) ?_
        refine lv_iadd hx hb dX6_takeCells_178 ?_
        refine lv_iload hx hb dX6_takeCells_179 (lv_at hl 5 rfl) ?_
        refine lv_isub hx hb dX6_takeCells_181 ?_
        exact g_iret hx hb hr hK hlk h hH dX6_takeCells_182
      · replace h := h.2 q5
        refine lv_iload hx hb dX6_takeCells_60 (lv_at hl 9 rfl) ?_
        refine lv_iload hx hb dX6_takeCells_62 (lv_at hl 3 rfl) ?_
        refine lv_iconst (v := 1) hx hb dX6_takeCells_64 (by decide) ?_
        refine lv_isub hx hb dX6_takeCells_65 ?_
        refine lv_icmp_ne (tgt := 81) hx hb dX6_takeCells_66 (by decide) (fun q6 => ?_) (fun q6 => ?_)
        · replace h := h.1 q6
          exact L81 c1 hc1 x2 c3 hc3 x5 x6 x8 x9 x10 x11 x12 σ _ _ ls hH (lv_sub hl [0, 1, 2, 3, 4, 5, 6, 7, 8, 9] rfl) h
        · replace h := h.2 q6
          refine lv_iload hx hb dX6_takeCells_69 (lv_at hl 4 rfl) ?_
          refine lv_bipush (v := 8) hx hb dX6_takeCells_71 (by decide) ?_
          refine lv_iand hx hb dX6_takeCells_73 ?_
          refine lv_if_ne (tgt := 81) hx hb dX6_takeCells_74 (by decide) (fun q7 => ?_) (fun q7 => ?_)
          · replace h := h.1 q7
            exact L81 c1 hc1 x2 c3 hc3 x5 x6 x8 x9 x10 x11 x12 σ _ _ ls hH (lv_sub hl [0, 1, 2, 3, 4, 5, 6, 7, 8, 9] rfl) h
          · replace h := h.2 q7
            refine lv_iconst (v := 1) hx hb dX6_takeCells_77 (by decide) ?_
            refine lv_goto (tgt := 82) hx hb dX6_takeCells_78 (by decide) ?_
            exact L82 c1 hc1 x2 c3 hc3 x5 x6 x8 x9 x10 x11 x12 1 σ _ _ ls hH (lv_sub hl [0, 1, 2, 3, 4, 5, 6, 7, 8, 9] rfl) h
  have L47 : ∀ (c1 : Nat) (hc1 : isPiece G c1) (x2 : Int32) (c3 : Nat) (hc3 : isAir G c3) (x5 : Int32) (x6 : Int32) (x8 : Int32) (x9 : Int32) (x10 : Int32) (z0 : Int32) (σ : Sg) (H : Heap) (locs : List Loc) (ls : Array Slot), Hx G (aA G s.heap.size) s σ H locs → lv_has ls 14 [(1, .ref (ga G c1)), (2, .int x2), (3, .ref (ga G c3)), (5, .int x5), (6, .int x6), (8, .int x8), (9, .int x9), (10, .int x10)] → wpX6_takeCells_L47 Q c1 x2 c3 x5 x6 x8 x9 x10 z0 σ → W p l e ({ frames := 2, cells := 0, slots := 0, locals := 44 }) s m args below meth c H locs 0 0 (Zi G Q below args s) (F0 m 47 ls [.int z0]) := by
    intro c1 hc1 x2 c3 hc3 x5 x6 x8 x9 x10 z0 σ H locs ls hH hl h
    unfold wpX6_takeCells_L47 at h
    refine lv_istore (lv' := [(11, .int z0), (1, .ref (ga G c1)), (2, .int x2), (3, .ref (ga G c3)), (5, .int x5), (6, .int x6), (8, .int x8), (9, .int x9), (10, .int x10)]) hx hb dX6_takeCells_47 hl (by decide) rfl (fun ls hl => ?_)
    refine lv_iload hx hb dX6_takeCells_49 (lv_at hl 6 rfl) ?_
    refine lv_istore (lv' := [(12, .int x8), (11, .int z0), (1, .ref (ga G c1)), (2, .int x2), (3, .ref (ga G c3)), (5, .int x5), (6, .int x6), (8, .int x8), (9, .int x9), (10, .int x10)]) hx hb dX6_takeCells_51 hl (by decide) rfl (fun ls hl => ?_)
    obtain ⟨nn, h⟩ := h
    exact L53 nn c1 hc1 x2 c3 hc3 x5 x6 x8 x9 x10 z0 x8 σ _ _ ls hH (lv_sub hl [2, 3, 4, 5, 6, 7, 8, 9, 1, 0] rfl) h
  have L17 : ∀ (c1 : Nat) (hc1 : isPiece G c1) (x2 : Int32) (c3 : Nat) (hc3 : isAir G c3) (x4 : Int32) (x5 : Int32) (x6 : Int32) (z0 : Int32) (σ : Sg) (H : Heap) (locs : List Loc) (ls : Array Slot), Hx G (aA G s.heap.size) s σ H locs → lv_has ls 14 [(1, .ref (ga G c1)), (2, .int x2), (3, .ref (ga G c3)), (4, .int x4), (5, .int x5), (6, .int x6)] → wpX6_takeCells_L17 Q c1 x2 c3 x4 x5 x6 z0 σ → W p l e ({ frames := 2, cells := 0, slots := 0, locals := 44 }) s m args below meth c H locs 0 0 (Zi G Q below args s) (F0 m 17 ls [.int z0]) := by
    intro c1 hc1 x2 c3 hc3 x4 x5 x6 z0 σ H locs ls hH hl h
    unfold wpX6_takeCells_L17 at h
    refine lv_istore (lv' := [(7, .int z0), (1, .ref (ga G c1)), (2, .int x2), (3, .ref (ga G c3)), (4, .int x4), (5, .int x5), (6, .int x6)]) hx hb dX6_takeCells_17 hl (by decide) rfl (fun ls hl => ?_)
    refine lv_iload hx hb dX6_takeCells_19 (lv_at hl 4 rfl) ?_
    refine lv_iload hx hb dX6_takeCells_21 (lv_at hl 0 rfl) ?_
    refine lv_iadd hx hb dX6_takeCells_23 ?_
    refine lv_topi (fun x8_3 ex8_3 => ?_)
    replace h := h x8_3 ex8_3
    refine lv_istore (lv' := [(8, .int x8_3), (7, .int z0), (1, .ref (ga G c1)), (2, .int x2), (3, .ref (ga G c3)), (4, .int x4), (5, .int x5), (6, .int x6)]) hx hb dX6_takeCells_24 hl (by decide) rfl (fun ls hl => ?_)
    refine lv_iload hx hb dX6_takeCells_26 (lv_at hl 5 rfl) ?_
    refine lv_istore (lv' := [(9, .int x4), (8, .int x8_3), (7, .int z0), (1, .ref (ga G c1)), (2, .int x2), (3, .ref (ga G c3)), (4, .int x4), (5, .int x5), (6, .int x6)]) hx hb dX6_takeCells_28 hl (by decide) rfl (fun ls hl => ?_)
    refine lv_iload hx hb dX6_takeCells_30 (lv_at hl 1 rfl) ?_
    refine lv_istore (lv' := [(10, .int x8_3), (9, .int x4), (8, .int x8_3), (7, .int z0), (1, .ref (ga G c1)), (2, .int x2), (3, .ref (ga G c3)), (4, .int x4), (5, .int x5), (6, .int x6)]) hx hb dX6_takeCells_32 hl (by decide) rfl (fun ls hl => ?_)
    refine lv_iload hx hb dX6_takeCells_34 (lv_at hl 9 rfl) ?_
    refine lv_bipush (v := 16) hx hb dX6_takeCells_36 (by decide) ?_
    refine lv_iand hx hb dX6_takeCells_38 ?_
    refine lv_if_ne (tgt := 46) hx hb dX6_takeCells_39 (by decide) (fun q4 => ?_) (fun q4 => ?_)
    · replace h := h.1 q4
      refine lv_iconst (v := 0) hx hb dX6_takeCells_46 (by decide) ?_
      exact L47 c1 hc1 x2 c3 hc3 x5 x6 x8_3 x4 x8_3 0 σ _ _ ls hH (lv_sub hl [4, 5, 6, 8, 9, 2, 1, 0] rfl) h
    · replace h := h.2 q4
      refine lv_iconst (v := 1) hx hb dX6_takeCells_42 (by decide) ?_
      refine lv_goto (tgt := 47) hx hb dX6_takeCells_43 (by decide) ?_
      exact L47 c1 hc1 x2 c3 hc3 x5 x6 x8_3 x4 x8_3 1 σ _ _ ls hH (lv_sub hl [4, 5, 6, 8, 9, 2, 1, 0] rfl) h
  unfold wpX6_takeCells at h
  refine lv_iload hx hb dX6_takeCells_0 (lv_at hl 6 rfl) ?_
  refine lv_iconst (v := 4) hx hb dX6_takeCells_2 (by decide) ?_
  refine lv_iand hx hb dX6_takeCells_3 ?_
  refine lv_if_eq (tgt := 16) hx hb dX6_takeCells_4 (by decide) (fun q1 => ?_) (fun q1 => ?_)
  · replace h := h.1 q1
    refine lv_iconst (v := 0) hx hb dX6_takeCells_16 (by decide) ?_
    exact L17 c1 hc1 x2 c3 hc3 x4 x5 x6 0 σ _ _ ls hH (lv_sub hl [1, 2, 3, 4, 5, 6] rfl) h
  · replace h := h.2 q1
    refine lv_aload_n hx hb dX6_takeCells_7 rfl (lv_at hl 3 rfl) ?_
    refine lv_iload hx hb dX6_takeCells_8 (lv_at hl 4 rfl) ?_
    refine g_callSi (As := [.ref (ga G c3), .int x4]) (rest := []) ⟨hx, hb, hml, hown, hB⟩ hK hX aA_hA hH (tX6_countLengths (tS := tS) hgo hc3 h) (va_cwS 2 hB gSX6_100 rfl rfl rfl (by decide +kernel) ⟨Nat.le_of_ble_eq_true rfl, Nat.le_of_ble_eq_true rfl⟩) rfl hl.1 rfl (lv_room (Nat.le_of_ble_eq_true rfl)) ⟨Nat.zero_le _, Nat.zero_le _⟩ dX6_takeCells_10 (fun r2 σ2 H locs h hH => ?_)
    refine lv_goto (tgt := 17) hx hb dX6_takeCells_13 (by decide) ?_
    exact L17 c1 hc1 x2 c3 hc3 x4 x5 x6 r2 σ2 _ _ ls hH (lv_sub hl [1, 2, 3, 4, 5, 6] rfl) h
def wpX6_takeBytes_L217 (Q : Int32 → Sg → Prop) (c0 : Nat) (x5 : Int32) (σ : Sg) : Prop := ∀ w26 : Int32, w26 = (if (σ c0 3) < (x5 + 1) then (x5 + 1) else (σ c0 3)) → ∀ σ27 : Sg, σ27 = up2 σ c0 3 w26 → Q x5 σ27
def wpX6_takeBytes_L197 (Q : Int32 → Sg → Prop) (c0 : Nat) (x5 : Int32) (c6 : Nat) (x10 : Int32) (σ : Sg) : Prop := ((¬ (σ c6 2) = x10 → wpX6_takeBytes_L217 Q c0 x5 σ) ∧ ((σ c6 2) = x10 → ∀ σ25 : Sg, σ25 = up2 σ c0 12 ((σ c0 12) + 1) → wpX6_takeBytes_L217 Q c0 x5 σ25))
def wpX6_takeBytes_L184 (Q : Int32 → Sg → Prop) (c0 : Nat) (x5 : Int32) (c6 : Nat) (x10 : Int32) (x11 : Int32) (σ : Sg) : Prop := ∀ w22 : Int32, w22 = (if 240 < x11 then 240 else x11) → ∀ σ23 : Sg, σ23 = up2 σ c6 1 w22 → wpX6_takeBytes_L197 Q c0 x5 c6 x10 σ23
def wpX6_takeBytes_L139 (Q : Int32 → Sg → Prop) (c0 : Nat) (c1 : Nat) (x2 : Int32) (x3 : Int32) (x4 : Int32) (x5 : Int32) (c6 : Nat) (x7 : Int32) (x8 : Int32) (z0 : Int32) (z1 : Int32) (σ : Sg) : Prop := ∀ x9_16 : Int32, x9_16 = z1 + z0 → ∀ x10_17 : Int32, x10_17 = σ c6 2 → wpX6_takeCells c0 c6 x8 c1 x9_16 x3 x4 σ (fun r18 σ18 => ((x7 = 0 → wpX6_takeBytes_L184 Q c0 x5 c6 x10_17 r18 σ18) ∧ (¬ (x7 = 0) → wpX0_at c1 (x2 + 1) σ18 (fun r20 σ20 => (((r20 &&& 128) = 0 → wpX6_takeBytes_L197 Q c0 x5 c6 x10_17 σ20) ∧ (¬ ((r20 &&& 128) = 0) → wpX6_takeBytes_L184 Q c0 x5 c6 x10_17 r18 σ20))))))
def wpX6_takeBytes_L126 (Q : Int32 → Sg → Prop) (c0 : Nat) (c1 : Nat) (x2 : Int32) (x3 : Int32) (x4 : Int32) (x5 : Int32) (c6 : Nat) (x7 : Int32) (z0 : Int32) (σ : Sg) : Prop := ((x7 = 0 → wpX6_takeBytes_L139 Q c0 c1 x2 x3 x4 x5 c6 x7 z0 2 x2 σ) ∧ (¬ (x7 = 0) → wpX6_takeBytes_L139 Q c0 c1 x2 x3 x4 x5 c6 x7 z0 3 x2 σ))
def wpX6_takeBytes_L108 (Q : Int32 → Sg → Prop) (c0 : Nat) (c1 : Nat) (x2 : Int32) (x3 : Int32) (x4 : Int32) (x5 : Int32) (c6 : Nat) (z0 : Int32) (σ : Sg) : Prop := ((z0 = 0 → wpX6_takeBytes_L126 Q c0 c1 x2 x3 x4 x5 c6 z0 0 σ) ∧ (¬ (z0 = 0) → wpX0_at c1 (x2 + 2) σ (fun r13 σ13 => wpX6_takeBytes_L126 Q c0 c1 x2 x3 x4 x5 c6 z0 r13 σ13)))
def wpX6_takeBytes_L77 (Q : Int32 → Sg → Prop) (y0 : Nat) (σ : Sg) : Prop := ∀ σ14 : Sg, σ14 = up2 σ y0 7 1 → Q (-1) σ14
def wpX6_takeBytes (c0 : Nat) (c1 : Nat) (x2 : Int32) (x3 : Int32) (σ : Sg) (Q : Int32 → Sg → Prop) : Prop := ∀ σ1 : Sg, σ1 = up2 σ c0 11 ((σ c0 11) + 1) → wpX0_at c1 x2 σ1 (fun r2 σ2 => wpX0_at c1 (x2 + 1) σ2 (fun r3 σ3 => ∀ x5_4 : Int32, x5_4 = (σ2 c0 2) + ((r3 - (σ3 c0 2)) &&& 63) → ((x5_4 < ((σ3 c0 2) + 32) → wpX6_pieceAt c0 x5_4 σ3 (fun r6 σ6 => (((r2 &&& 64) = 0 → wpX6_takeBytes_L108 Q c0 c1 x2 x3 r2 x5_4 r6 0 σ6) ∧ (¬ ((r2 &&& 64) = 0) → wpX6_takeBytes_L108 Q c0 c1 x2 x3 r2 x5_4 r6 1 σ6)))) ∧ (¬ (x5_4 < ((σ3 c0 2) + 32)) → ∀ σ8 : Sg, σ8 = up2 σ3 c0 12 ((σ3 c0 12) + 1) → ((¬ (σ8 c0 7) = 0 → wpX6_takeBytes_L77 Q c0 σ8) ∧ ((σ8 c0 7) = 0 → (((r2 &&& 32) = 0 → ∀ σ11 : Sg, σ11 = up2 σ8 c0 7 0 → Q (-1) σ11) ∧ (¬ ((r2 &&& 32) = 0) → wpX6_takeBytes_L77 Q c0 σ8))))))))
set_option maxHeartbeats 8000000 in
set_option maxRecDepth 100000 in
theorem tX6_takeBytes {l : Launch} {G : GG} {tS : Nat × (Nat → Int32)} (hgo : go G = some tS) {c0 : Nat} {c1 : Nat} {x2 : Int32} {x3 : Int32} {σ : Sg} {Q : Int32 → Sg → Prop} (hc0 : isReceiver G c0) (hc1 : isAir G c1) (h : wpX6_takeBytes c0 c1 x2 x3 σ Q) : Ki l G yX6_takeBytes (wB yX6_takeBytes prog_8_method_8_code 12 (Option.some FieldType.int)) ({ frames := 3, cells := 0, slots := 0, locals := 77 }) [.ref (ga G c0), .ref (ga G c1), .int x2, .int x3] σ Q := by
  refine K_of (cc := cX6_takeBytes) (maxL := 12) (ret := (some .int)) (by decide) rfl (Nat.le_of_ble_eq_true rfl) ?_
  intro p e s m args below meth c ls B hH hl
  obtain ⟨hx, hb, hr, hts, hown, hlk, hml, hK, hX⟩ := B
  replace hl : lv_has ls 12 [(0, .ref (ga G c0)), (1, .ref (ga G c1)), (2, .int x2), (3, .int x3)] := hl
  have hXN : NWs s := XS.nw hX hgo
  have hB : ∀ w ∈ BIG, w.before args s = true := fun w h9 => hts w (List.mem_cons_of_mem _ h9)
  clear hts
  have k31 : (Cond.fieldLinkNest RX6 31 "BearerHouse$Piece" "size" "I" "BearerHouse").before args s = true := va_Nw.use rfl (hXN.1 ("BearerHouse$Receiver", 31, "BearerHouse$Piece", "size", "I", "BearerHouse") (List.mem_of_getElem? (i := 44) rfl))
  have k34 := hB _ bw2_28
  have k37 := hB _ bw2_30
  have k53 := hB _ bw2_38
  have k63 : (Cond.fieldLinkNest RX6 63 "BearerHouse$Piece" "marks" "I" "BearerHouse").before args s = true := va_Nw.use rfl (hXN.1 ("BearerHouse$Receiver", 63, "BearerHouse$Piece", "marks", "I", "BearerHouse") (List.mem_of_getElem? (i := 45) rfl))
  have k81 := hB _ bw2_46
  have k90 := hB _ bw2_48
  have k69 := hB _ bw2_232
  have kmmax1 := hB _ bw2_233
  have km2 := hB _ bw1_12
  have kmmax3 : (Cond.code Lib.Math.max.name Lib.Math.max.code 2 (some .int)).before args s = true := hB _ bw2_234
  have k97 := hB _ bw3_178
  have kmmin1 := hB _ bw3_16
  have km2 := hB _ bw1_12
  have kmmin3 : (Cond.code Lib.Math.min.name Lib.Math.min.code 2 (some .int)).before args s = true := hB _ bw3_17
  have L217 : ∀ (c0 : Nat) (hc0 : isReceiver G c0) (x5 : Int32) (σ : Sg) (H : Heap) (locs : List Loc) (ls : Array Slot), Hx G (aA G s.heap.size) s σ H locs → lv_has ls 12 [(0, .ref (ga G c0)), (5, .int x5)] → wpX6_takeBytes_L217 Q c0 x5 σ → W p l e ({ frames := 3, cells := 0, slots := 0, locals := 77 }) s m args below meth c H locs 0 0 (Zi G Q below args s) (F0 m 217 ls []) := by
    intro c0 hc0 x5 σ H locs ls hH hl h
    unfold wpX6_takeBytes_L217 at h
    refine lv_aload_n hx hb dX6_takeBytes_217 rfl (lv_at hl 0 rfl) ?_
    refine lv_aload_n hx hb dX6_takeBytes_218 rfl (lv_at hl 0 rfl) ?_
    refine g_geti hx hb hB inB6 hown hK hH (c0 := c0) hc0.1 rfl 3 (by decide) k37 rfl rfl dX6_takeBytes_219 ?_
    refine lv_iload hx hb dX6_takeBytes_222 (lv_at hl 1 rfl) ?_
    refine lv_iconst (v := 1) hx hb dX6_takeBytes_224 (by decide) ?_
    refine lv_iadd hx hb dX6_takeBytes_225 ?_
    refine va_mmax hx hb (hml.trans hl.1.symm) hown k69 kmmax1 km2 kmmax3 (Nat.le_of_ble_eq_true rfl) (Nat.le_of_ble_eq_true rfl) (Nat.zero_le _) (Nat.zero_le _) dX6_takeBytes_226 ?_
    refine lv_topi (fun w26 ew26 => ?_)
    replace h := h w26 ew26
    refine g_put hx hb hB inB6 tyX6 tyX6_ok nmX6 hown hK hH (c0 := c0) hc0.1 rfl 3 (by decide) k37 rfl rfl rfl rfl rfl dX6_takeBytes_229 (fun σ27 eσ27 H locs hH => ?_)
    replace h := h σ27 eσ27
    refine lv_iload hx hb dX6_takeBytes_232 (lv_at hl 1 rfl) ?_
    exact g_iret hx hb hr hK hlk h hH dX6_takeBytes_234
  have L197 : ∀ (c0 : Nat) (hc0 : isReceiver G c0) (x5 : Int32) (c6 : Nat) (hc6 : isPiece G c6) (x10 : Int32) (σ : Sg) (H : Heap) (locs : List Loc) (ls : Array Slot), Hx G (aA G s.heap.size) s σ H locs → lv_has ls 12 [(0, .ref (ga G c0)), (5, .int x5), (6, .ref (ga G c6)), (10, .int x10)] → wpX6_takeBytes_L197 Q c0 x5 c6 x10 σ → W p l e ({ frames := 3, cells := 0, slots := 0, locals := 77 }) s m args below meth c H locs 0 0 (Zi G Q below args s) (F0 m 197 ls []) := by
    intro c0 hc0 x5 c6 hc6 x10 σ H locs ls hH hl h
    unfold wpX6_takeBytes_L197 at h
    refine lv_aload hx hb dX6_takeBytes_197 (lv_at hl 2 rfl) ?_
    refine g_getiN hx hb hB inB5 hown hK hH (c0 := c6) hc6.1 rfl 2 (by decide) k63 rfl rfl dX6_takeBytes_199 ?_
    refine lv_iload hx hb dX6_takeBytes_202 (lv_at hl 3 rfl) ?_
    refine lv_icmp_ne (tgt := 217) hx hb dX6_takeBytes_204 (by decide) (fun q24 => ?_) (fun q24 => ?_)
    · replace h := h.1 q24
      exact L217 c0 hc0 x5 σ _ _ ls hH (lv_sub hl [0, 1] rfl) h
    · replace h := h.2 q24
      refine lv_aload_n hx hb dX6_takeBytes_207 rfl (lv_at hl 0 rfl) ?_
      refine lv_dup hx hb dX6_takeBytes_208 rfl ?_
      refine g_geti hx hb hB inB6 hown hK hH (c0 := c0) hc0.1 rfl 12 (by decide) k90 rfl rfl dX6_takeBytes_209 ?_
      refine lv_iconst (v := 1) hx hb dX6_takeBytes_212 (by decide) ?_
      refine lv_iadd hx hb dX6_takeBytes_213 ?_
      refine g_put hx hb hB inB6 tyX6 tyX6_ok nmX6 hown hK hH (c0 := c0) hc0.1 rfl 12 (by decide) k90 rfl rfl rfl rfl rfl dX6_takeBytes_214 (fun σ25 eσ25 H locs hH => ?_)
      replace h := h σ25 eσ25
      exact L217 c0 hc0 x5 σ25 _ _ ls hH (lv_sub hl [0, 1] rfl) h
  have L184 : ∀ (c0 : Nat) (hc0 : isReceiver G c0) (x5 : Int32) (c6 : Nat) (hc6 : isPiece G c6) (x10 : Int32) (x11 : Int32) (σ : Sg) (H : Heap) (locs : List Loc) (ls : Array Slot), Hx G (aA G s.heap.size) s σ H locs → lv_has ls 12 [(0, .ref (ga G c0)), (5, .int x5), (6, .ref (ga G c6)), (10, .int x10), (11, .int x11)] → wpX6_takeBytes_L184 Q c0 x5 c6 x10 x11 σ → W p l e ({ frames := 3, cells := 0, slots := 0, locals := 77 }) s m args below meth c H locs 0 0 (Zi G Q below args s) (F0 m 184 ls []) := by
    intro c0 hc0 x5 c6 hc6 x10 x11 σ H locs ls hH hl h
    unfold wpX6_takeBytes_L184 at h
    refine lv_aload hx hb dX6_takeBytes_184 (lv_at hl 2 rfl) ?_
    refine lv_iload hx hb dX6_takeBytes_186 (lv_at hl 4 rfl) ?_
    refine lv_sipush (v := 240) hx hb dX6_takeBytes_188 (by decide) ?_
    refine va_mmin hx hb (hml.trans hl.1.symm) hown k97 kmmin1 km2 kmmin3 (Nat.le_of_ble_eq_true rfl) (Nat.le_of_ble_eq_true rfl) (Nat.zero_le _) (Nat.zero_le _) dX6_takeBytes_191 ?_
    refine lv_topi (fun w22 ew22 => ?_)
    replace h := h w22 ew22
    refine g_putN hx hb hB inB5 tyX5 tyX5_ok nmX5 hown hK hH (c0 := c6) hc6.1 rfl 1 (by decide) k31 rfl rfl rfl rfl rfl dX6_takeBytes_194 (fun σ23 eσ23 H locs hH => ?_)
    replace h := h σ23 eσ23
    exact L197 c0 hc0 x5 c6 hc6 x10 σ23 _ _ ls hH (lv_sub hl [0, 1, 2, 3] rfl) h
  have L139 : ∀ (c0 : Nat) (hc0 : isReceiver G c0) (c1 : Nat) (hc1 : isAir G c1) (x2 : Int32) (x3 : Int32) (x4 : Int32) (x5 : Int32) (c6 : Nat) (hc6 : isPiece G c6) (x7 : Int32) (x8 : Int32) (z0 : Int32) (z1 : Int32) (σ : Sg) (H : Heap) (locs : List Loc) (ls : Array Slot), Hx G (aA G s.heap.size) s σ H locs → lv_has ls 12 [(0, .ref (ga G c0)), (1, .ref (ga G c1)), (2, .int x2), (3, .int x3), (4, .int x4), (5, .int x5), (6, .ref (ga G c6)), (7, .int x7), (8, .int x8)] → wpX6_takeBytes_L139 Q c0 c1 x2 x3 x4 x5 c6 x7 x8 z0 z1 σ → W p l e ({ frames := 3, cells := 0, slots := 0, locals := 77 }) s m args below meth c H locs 0 0 (Zi G Q below args s) (F0 m 139 ls [.int z0, .int z1]) := by
    intro c0 hc0 c1 hc1 x2 x3 x4 x5 c6 hc6 x7 x8 z0 z1 σ H locs ls hH hl h
    unfold wpX6_takeBytes_L139 at h
    refine lv_iadd hx hb dX6_takeBytes_139 ?_
    refine lv_topi (fun x9_16 ex9_16 => ?_)
    replace h := h x9_16 ex9_16
    refine lv_istore (lv' := [(9, .int x9_16), (0, .ref (ga G c0)), (1, .ref (ga G c1)), (2, .int x2), (3, .int x3), (4, .int x4), (5, .int x5), (6, .ref (ga G c6)), (7, .int x7), (8, .int x8)]) hx hb dX6_takeBytes_140 hl (by decide) rfl (fun ls hl => ?_)
    refine lv_aload hx hb dX6_takeBytes_142 (lv_at hl 7 rfl) ?_
    refine g_getiN hx hb hB inB5 hown hK hH (c0 := c6) hc6.1 rfl 2 (by decide) k63 rfl rfl dX6_takeBytes_144 ?_
    refine lv_topi (fun x10_17 ex10_17 => ?_)
    replace h := h x10_17 ex10_17
    refine lv_istore (lv' := [(10, .int x10_17), (9, .int x9_16), (0, .ref (ga G c0)), (1, .ref (ga G c1)), (2, .int x2), (3, .int x3), (4, .int x4), (5, .int x5), (6, .ref (ga G c6)), (7, .int x7), (8, .int x8)]) hx hb dX6_takeBytes_147 hl (by decide) rfl (fun ls hl => ?_)
    refine lv_aload_n hx hb dX6_takeBytes_149 rfl (lv_at hl 2 rfl) ?_
    refine lv_aload hx hb dX6_takeBytes_150 (lv_at hl 8 rfl) ?_
    refine lv_iload hx hb dX6_takeBytes_152 (lv_at hl 10 rfl) ?_
    refine lv_aload_n hx hb dX6_takeBytes_154 rfl (lv_at hl 3 rfl) ?_
    refine lv_iload hx hb dX6_takeBytes_155 (lv_at hl 1 rfl) ?_
    refine lv_iload_n hx hb dX6_takeBytes_157 rfl (lv_at hl 5 rfl) ?_
    refine lv_iload hx hb dX6_takeBytes_158 (lv_at hl 6 rfl) ?_
    refine g_callVi (As := [.ref (ga G c6), .int x8, .ref (ga G c1), .int x9_16, .int x3, .int x4]) (rest := []) ⟨hx, hb, hml, hown, hB⟩ hK hX aA_hA hH (c0 := c0) (tX6_takeCells (tS := tS) hgo hc0 hc6 hc1 h) (cwV 6 hB gVX6_93 rfl rfl rfl (by decide +kernel) ⟨Nat.le_of_ble_eq_true rfl, Nat.le_of_ble_eq_true rfl⟩) hc0.1 rfl rfl hl.1 rfl (lv_room (Nat.le_of_ble_eq_true rfl)) ⟨Nat.zero_le _, Nat.zero_le _⟩ dX6_takeBytes_160 (fun r18 σ18 H locs h hH => ?_)
    refine lv_istore (lv' := [(11, .int r18), (10, .int x10_17), (9, .int x9_16), (0, .ref (ga G c0)), (1, .ref (ga G c1)), (2, .int x2), (3, .int x3), (4, .int x4), (5, .int x5), (6, .ref (ga G c6)), (7, .int x7), (8, .int x8)]) hx hb dX6_takeBytes_163 hl (by decide) rfl (fun ls hl => ?_)
    refine lv_iload hx hb dX6_takeBytes_165 (lv_at hl 10 rfl) ?_
    refine lv_if_eq (tgt := 184) hx hb dX6_takeBytes_167 (by decide) (fun q19 => ?_) (fun q19 => ?_)
    · replace h := h.1 q19
      exact L184 c0 hc0 x5 c6 hc6 x10_17 r18 σ18 _ _ ls hH (lv_sub hl [3, 8, 9, 1, 0] rfl) h
    · replace h := h.2 q19
      refine lv_aload_n hx hb dX6_takeBytes_170 rfl (lv_at hl 4 rfl) ?_
      refine lv_iload_n hx hb dX6_takeBytes_171 rfl (lv_at hl 5 rfl) ?_
      refine lv_iconst (v := 1) hx hb dX6_takeBytes_172 (by decide) ?_
      refine lv_iadd hx hb dX6_takeBytes_173 ?_
      refine g_callVi (As := [.int (x2 + 1)]) (rest := []) ⟨hx, hb, hml, hown, hB⟩ hK hX aA_hA hH (c0 := c1) (tX0_at hc1 h) (cwV 1 hB gVX6_84 rfl rfl rfl (by decide +kernel) ⟨Nat.le_of_ble_eq_true rfl, Nat.le_of_ble_eq_true rfl⟩) hc1.1 rfl rfl hl.1 rfl (lv_room (Nat.le_of_ble_eq_true rfl)) ⟨Nat.zero_le _, Nat.zero_le _⟩ dX6_takeBytes_174 (fun r20 σ20 H locs h hH => ?_)
      refine lv_sipush (v := 128) hx hb dX6_takeBytes_177 (by decide) ?_
      refine lv_iand hx hb dX6_takeBytes_180 ?_
      refine lv_if_eq (tgt := 197) hx hb dX6_takeBytes_181 (by decide) (fun q21 => ?_) (fun q21 => ?_)
      · replace h := h.1 q21
        exact L197 c0 hc0 x5 c6 hc6 x10_17 σ20 _ _ ls hH (lv_sub hl [3, 8, 9, 1] rfl) h
      · replace h := h.2 q21
        exact L184 c0 hc0 x5 c6 hc6 x10_17 r18 σ20 _ _ ls hH (lv_sub hl [3, 8, 9, 1, 0] rfl) h
  have L126 : ∀ (c0 : Nat) (hc0 : isReceiver G c0) (c1 : Nat) (hc1 : isAir G c1) (x2 : Int32) (x3 : Int32) (x4 : Int32) (x5 : Int32) (c6 : Nat) (hc6 : isPiece G c6) (x7 : Int32) (z0 : Int32) (σ : Sg) (H : Heap) (locs : List Loc) (ls : Array Slot), Hx G (aA G s.heap.size) s σ H locs → lv_has ls 12 [(0, .ref (ga G c0)), (1, .ref (ga G c1)), (2, .int x2), (3, .int x3), (4, .int x4), (5, .int x5), (6, .ref (ga G c6)), (7, .int x7)] → wpX6_takeBytes_L126 Q c0 c1 x2 x3 x4 x5 c6 x7 z0 σ → W p l e ({ frames := 3, cells := 0, slots := 0, locals := 77 }) s m args below meth c H locs 0 0 (Zi G Q below args s) (F0 m 126 ls [.int z0]) := by
    intro c0 hc0 c1 hc1 x2 x3 x4 x5 c6 hc6 x7 z0 σ H locs ls hH hl h
    unfold wpX6_takeBytes_L126 at h
    refine lv_istore (lv' := [(8, .int z0), (0, .ref (ga G c0)), (1, .ref (ga G c1)), (2, .int x2), (3, .int x3), (4, .int x4), (5, .int x5), (6, .ref (ga G c6)), (7, .int x7)]) hx hb dX6_takeBytes_126 hl (by decide) rfl (fun ls hl => ?_)
    refine lv_iload_n hx hb dX6_takeBytes_128 rfl (lv_at hl 3 rfl) ?_
    refine lv_iload hx hb dX6_takeBytes_129 (lv_at hl 8 rfl) ?_
    refine lv_if_eq (tgt := 138) hx hb dX6_takeBytes_131 (by decide) (fun q15 => ?_) (fun q15 => ?_)
    · replace h := h.1 q15
      refine lv_iconst (v := 2) hx hb dX6_takeBytes_138 (by decide) ?_
      exact L139 c0 hc0 c1 hc1 x2 x3 x4 x5 c6 hc6 x7 z0 2 x2 σ _ _ ls hH (lv_sub hl [1, 2, 3, 4, 5, 6, 7, 8, 0] rfl) h
    · replace h := h.2 q15
      refine lv_iconst (v := 3) hx hb dX6_takeBytes_134 (by decide) ?_
      refine lv_goto (tgt := 139) hx hb dX6_takeBytes_135 (by decide) ?_
      exact L139 c0 hc0 c1 hc1 x2 x3 x4 x5 c6 hc6 x7 z0 3 x2 σ _ _ ls hH (lv_sub hl [1, 2, 3, 4, 5, 6, 7, 8, 0] rfl) h
  have L108 : ∀ (c0 : Nat) (hc0 : isReceiver G c0) (c1 : Nat) (hc1 : isAir G c1) (x2 : Int32) (x3 : Int32) (x4 : Int32) (x5 : Int32) (c6 : Nat) (hc6 : isPiece G c6) (z0 : Int32) (σ : Sg) (H : Heap) (locs : List Loc) (ls : Array Slot), Hx G (aA G s.heap.size) s σ H locs → lv_has ls 12 [(0, .ref (ga G c0)), (1, .ref (ga G c1)), (2, .int x2), (3, .int x3), (4, .int x4), (5, .int x5), (6, .ref (ga G c6))] → wpX6_takeBytes_L108 Q c0 c1 x2 x3 x4 x5 c6 z0 σ → W p l e ({ frames := 3, cells := 0, slots := 0, locals := 77 }) s m args below meth c H locs 0 0 (Zi G Q below args s) (F0 m 108 ls [.int z0]) := by
    intro c0 hc0 c1 hc1 x2 x3 x4 x5 c6 hc6 z0 σ H locs ls hH hl h
    unfold wpX6_takeBytes_L108 at h
    refine lv_istore (lv' := [(7, .int z0), (0, .ref (ga G c0)), (1, .ref (ga G c1)), (2, .int x2), (3, .int x3), (4, .int x4), (5, .int x5), (6, .ref (ga G c6))]) hx hb dX6_takeBytes_108 hl (by decide) rfl (fun ls hl => ?_)
    refine lv_iload hx hb dX6_takeBytes_110 (lv_at hl 0 rfl) ?_
    refine lv_if_eq (tgt := 125) hx hb dX6_takeBytes_112 (by decide) (fun q12 => ?_) (fun q12 => ?_)
    · replace h := h.1 q12
      refine lv_iconst (v := 0) hx hb dX6_takeBytes_125 (by decide) ?_
      exact L126 c0 hc0 c1 hc1 x2 x3 x4 x5 c6 hc6 z0 0 σ _ _ ls hH (lv_sub hl [1, 2, 3, 4, 5, 6, 7, 0] rfl) h
    · replace h := h.2 q12
      refine lv_aload_n hx hb dX6_takeBytes_115 rfl (lv_at hl 2 rfl) ?_
      refine lv_iload_n hx hb dX6_takeBytes_116 rfl (lv_at hl 3 rfl) ?_
      refine lv_iconst (v := 2) hx hb dX6_takeBytes_117 (by decide) ?_
      refine lv_iadd hx hb dX6_takeBytes_118 ?_
      refine g_callVi (As := [.int (x2 + 2)]) (rest := []) ⟨hx, hb, hml, hown, hB⟩ hK hX aA_hA hH (c0 := c1) (tX0_at hc1 h) (cwV 1 hB gVX6_84 rfl rfl rfl (by decide +kernel) ⟨Nat.le_of_ble_eq_true rfl, Nat.le_of_ble_eq_true rfl⟩) hc1.1 rfl rfl hl.1 rfl (lv_room (Nat.le_of_ble_eq_true rfl)) ⟨Nat.zero_le _, Nat.zero_le _⟩ dX6_takeBytes_119 (fun r13 σ13 H locs h hH => ?_)
      refine lv_goto (tgt := 126) hx hb dX6_takeBytes_122 (by decide) ?_
      exact L126 c0 hc0 c1 hc1 x2 x3 x4 x5 c6 hc6 z0 r13 σ13 _ _ ls hH (lv_sub hl [1, 2, 3, 4, 5, 6, 7, 0] rfl) h
  have L77 : ∀ (y0 : Nat) (hy0 : isReceiver G y0) (σ : Sg) (H : Heap) (locs : List Loc) (ls : Array Slot), Hx G (aA G s.heap.size) s σ H locs → lv_has ls 12 [] → wpX6_takeBytes_L77 Q y0 σ → W p l e ({ frames := 3, cells := 0, slots := 0, locals := 77 }) s m args below meth c H locs 0 0 (Zi G Q below args s) (F0 m 77 ls [.ref (ga G y0)]) := by
    intro y0 hy0 σ H locs ls hH hl h
    unfold wpX6_takeBytes_L77 at h
    refine lv_iconst (v := 1) hx hb dX6_takeBytes_77 (by decide) ?_
    refine lv_goto (tgt := 82) hx hb dX6_takeBytes_78 (by decide) ?_
    refine g_put hx hb hB inB6 tyX6 tyX6_ok nmX6 hown hK hH (c0 := y0) hy0.1 rfl 7 (by decide) k53 rfl rfl rfl (vz_n vz1) (vz_f vz1) dX6_takeBytes_82 (fun σ14 eσ14 H locs hH => ?_)
    replace h := h σ14 eσ14
    refine lv_iconst (v := (-1)) hx hb dX6_takeBytes_85 (by decide) ?_
    exact g_iret hx hb hr hK hlk h hH dX6_takeBytes_86
  unfold wpX6_takeBytes at h
  refine lv_aload_n hx hb dX6_takeBytes_0 rfl (lv_at hl 0 rfl) ?_
  refine lv_dup hx hb dX6_takeBytes_1 rfl ?_
  refine g_geti hx hb hB inB6 hown hK hH (c0 := c0) hc0.1 rfl 11 (by decide) k81 rfl rfl dX6_takeBytes_2 ?_
  refine lv_iconst (v := 1) hx hb dX6_takeBytes_5 (by decide) ?_
  refine lv_iadd hx hb dX6_takeBytes_6 ?_
  refine g_put hx hb hB inB6 tyX6 tyX6_ok nmX6 hown hK hH (c0 := c0) hc0.1 rfl 11 (by decide) k81 rfl rfl rfl rfl rfl dX6_takeBytes_7 (fun σ1 eσ1 H locs hH => ?_)
  replace h := h σ1 eσ1
  refine lv_aload_n hx hb dX6_takeBytes_10 rfl (lv_at hl 1 rfl) ?_
  refine lv_iload_n hx hb dX6_takeBytes_11 rfl (lv_at hl 2 rfl) ?_
  refine g_callVi (As := [.int x2]) (rest := []) ⟨hx, hb, hml, hown, hB⟩ hK hX aA_hA hH (c0 := c1) (tX0_at hc1 h) (cwV 1 hB gVX6_84 rfl rfl rfl (by decide +kernel) ⟨Nat.le_of_ble_eq_true rfl, Nat.le_of_ble_eq_true rfl⟩) hc1.1 rfl rfl hl.1 rfl (lv_room (Nat.le_of_ble_eq_true rfl)) ⟨Nat.zero_le _, Nat.zero_le _⟩ dX6_takeBytes_12 (fun r2 σ2 H locs h hH => ?_)
  refine lv_istore (lv' := [(4, .int r2), (0, .ref (ga G c0)), (1, .ref (ga G c1)), (2, .int x2), (3, .int x3)]) hx hb dX6_takeBytes_15 hl (by decide) rfl (fun ls hl => ?_)
  refine lv_aload_n hx hb dX6_takeBytes_17 rfl (lv_at hl 1 rfl) ?_
  refine g_geti hx hb hB inB6 hown hK hH (c0 := c0) hc0.1 rfl 2 (by decide) k34 rfl rfl dX6_takeBytes_18 ?_
  refine lv_aload_n hx hb dX6_takeBytes_21 rfl (lv_at hl 2 rfl) ?_
  refine lv_iload_n hx hb dX6_takeBytes_22 rfl (lv_at hl 3 rfl) ?_
  refine lv_iconst (v := 1) hx hb dX6_takeBytes_23 (by decide) ?_
  refine lv_iadd hx hb dX6_takeBytes_24 ?_
  refine g_callVi (As := [.int (x2 + 1)]) (rest := [.int (σ2 c0 2)]) ⟨hx, hb, hml, hown, hB⟩ hK hX aA_hA hH (c0 := c1) (tX0_at hc1 h) (cwV 1 hB gVX6_84 rfl rfl rfl (by decide +kernel) ⟨Nat.le_of_ble_eq_true rfl, Nat.le_of_ble_eq_true rfl⟩) hc1.1 rfl rfl hl.1 rfl (lv_room (Nat.le_of_ble_eq_true rfl)) ⟨Nat.zero_le _, Nat.zero_le _⟩ dX6_takeBytes_25 (fun r3 σ3 H locs h hH => ?_)
  refine lv_aload_n hx hb dX6_takeBytes_28 rfl (lv_at hl 1 rfl) ?_
  refine g_geti hx hb hB inB6 hown hK hH (c0 := c0) hc0.1 rfl 2 (by decide) k34 rfl rfl dX6_takeBytes_29 ?_
  refine lv_isub hx hb dX6_takeBytes_32 ?_
  refine lv_bipush (v := 63) hx hb dX6_takeBytes_33 (by decide) ?_
  refine lv_iand hx hb dX6_takeBytes_35 ?_
  refine lv_iadd hx hb dX6_takeBytes_36 ?_
  refine lv_topi (fun x5_4 ex5_4 => ?_)
  replace h := h x5_4 ex5_4
  refine lv_istore (lv' := [(5, .int x5_4), (4, .int r2), (0, .ref (ga G c0)), (1, .ref (ga G c1)), (2, .int x2), (3, .int x3)]) hx hb dX6_takeBytes_37 hl (by decide) rfl (fun ls hl => ?_)
  refine lv_iload hx hb dX6_takeBytes_39 (lv_at hl 0 rfl) ?_
  refine lv_aload_n hx hb dX6_takeBytes_41 rfl (lv_at hl 2 rfl) ?_
  refine g_geti hx hb hB inB6 hown hK hH (c0 := c0) hc0.1 rfl 2 (by decide) k34 rfl rfl dX6_takeBytes_42 ?_
  refine lv_bipush (v := 32) hx hb dX6_takeBytes_45 (by decide) ?_
  refine lv_iadd hx hb dX6_takeBytes_47 ?_
  refine lv_icmp_lt (tgt := 87) hx hb dX6_takeBytes_48 (by decide) (fun q5 => ?_) (fun q5 => ?_)
  · replace h := h.1 q5
    refine lv_aload_n hx hb dX6_takeBytes_87 rfl (lv_at hl 2 rfl) ?_
    refine lv_iload hx hb dX6_takeBytes_88 (lv_at hl 0 rfl) ?_
    refine g_callVr (As := [.int x5_4]) (rest := []) ⟨hx, hb, hml, hown, hB⟩ hK hX aA_hA hH (c0 := c0) (tX6_pieceAt hc0 h) (cwV 1 hB gVX6_40 rfl rfl rfl (by decide +kernel) ⟨Nat.le_of_ble_eq_true rfl, Nat.le_of_ble_eq_true rfl⟩) hc0.1 rfl rfl hl.1 rfl (lv_room (Nat.le_of_ble_eq_true rfl)) ⟨Nat.zero_le _, Nat.zero_le _⟩ dX6_takeBytes_90 (fun r6 σ6 H locs h hH => ?_)
    obtain ⟨h, hp6⟩ := h
    refine lv_astore (lv' := [(6, .ref (ga G r6)), (5, .int x5_4), (4, .int r2), (0, .ref (ga G c0)), (1, .ref (ga G c1)), (2, .int x2), (3, .int x3)]) hx hb dX6_takeBytes_93 hl (by decide) rfl (fun ls hl => ?_)
    refine lv_iload hx hb dX6_takeBytes_95 (lv_at hl 2 rfl) ?_
    refine lv_bipush (v := 64) hx hb dX6_takeBytes_97 (by decide) ?_
    refine lv_iand hx hb dX6_takeBytes_99 ?_
    refine lv_if_eq (tgt := 107) hx hb dX6_takeBytes_100 (by decide) (fun q7 => ?_) (fun q7 => ?_)
    · replace h := h.1 q7
      refine lv_iconst (v := 0) hx hb dX6_takeBytes_107 (by decide) ?_
      exact L108 c0 hc0 c1 hc1 x2 x3 r2 x5_4 r6 hp6 0 σ6 _ _ ls hH (lv_sub hl [3, 4, 5, 6, 2, 1, 0] rfl) h
    · replace h := h.2 q7
      refine lv_iconst (v := 1) hx hb dX6_takeBytes_103 (by decide) ?_
      refine lv_goto (tgt := 108) hx hb dX6_takeBytes_104 (by decide) ?_
      exact L108 c0 hc0 c1 hc1 x2 x3 r2 x5_4 r6 hp6 1 σ6 _ _ ls hH (lv_sub hl [3, 4, 5, 6, 2, 1, 0] rfl) h
  · replace h := h.2 q5
    refine lv_aload_n hx hb dX6_takeBytes_51 rfl (lv_at hl 2 rfl) ?_
    refine lv_dup hx hb dX6_takeBytes_52 rfl ?_
    refine g_geti hx hb hB inB6 hown hK hH (c0 := c0) hc0.1 rfl 12 (by decide) k90 rfl rfl dX6_takeBytes_53 ?_
    refine lv_iconst (v := 1) hx hb dX6_takeBytes_56 (by decide) ?_
    refine lv_iadd hx hb dX6_takeBytes_57 ?_
    refine g_put hx hb hB inB6 tyX6 tyX6_ok nmX6 hown hK hH (c0 := c0) hc0.1 rfl 12 (by decide) k90 rfl rfl rfl rfl rfl dX6_takeBytes_58 (fun σ8 eσ8 H locs hH => ?_)
    replace h := h σ8 eσ8
    refine lv_aload_n hx hb dX6_takeBytes_61 rfl (lv_at hl 2 rfl) ?_
    refine lv_aload_n hx hb dX6_takeBytes_62 rfl (lv_at hl 2 rfl) ?_
    refine g_geti hx hb hB inB6 hown hK hH (c0 := c0) hc0.1 rfl 7 (by decide) k53 rfl rfl dX6_takeBytes_63 ?_
    refine lv_if_ne (tgt := 77) hx hb dX6_takeBytes_66 (by decide) (fun q9 => ?_) (fun q9 => ?_)
    · replace h := h.1 q9
      exact L77 c0 hc0 σ8 _ _ ls hH (lv_sub hl [] rfl) h
    · replace h := h.2 q9
      refine lv_iload hx hb dX6_takeBytes_69 (lv_at hl 1 rfl) ?_
      refine lv_bipush (v := 32) hx hb dX6_takeBytes_71 (by decide) ?_
      refine lv_iand hx hb dX6_takeBytes_73 ?_
      refine lv_if_eq (tgt := 81) hx hb dX6_takeBytes_74 (by decide) (fun q10 => ?_) (fun q10 => ?_)
      · replace h := h.1 q10
        refine lv_iconst (v := 0) hx hb dX6_takeBytes_81 (by decide) ?_
        refine g_put hx hb hB inB6 tyX6 tyX6_ok nmX6 hown hK hH (c0 := c0) hc0.1 rfl 7 (by decide) k53 rfl rfl rfl (vz_n vz0) (vz_f vz0) dX6_takeBytes_82 (fun σ11 eσ11 H locs hH => ?_)
        replace h := h σ11 eσ11
        refine lv_iconst (v := (-1)) hx hb dX6_takeBytes_85 (by decide) ?_
        exact g_iret hx hb hr hK hlk h hH dX6_takeBytes_86
      · replace h := h.2 q10
        exact L77 c0 hc0 σ8 _ _ ls hH (lv_sub hl [] rfl) h
def wpX6_passLow (c0 : Nat) (σ : Sg) (Q : Sg → Prop) : Prop := wpX6_pieceAt c0 (σ c0 2) σ (fun r1 σ1 => wpX5_clear r1 (-1) σ1 (fun σ2 => ∀ σ3 : Sg, σ3 = up2 σ2 c0 2 ((σ2 c0 2) + 1) → ∀ w4 : Int32, w4 = (if (σ3 c0 4) < (σ3 c0 2) then (σ3 c0 2) else (σ3 c0 4)) → ∀ σ5 : Sg, σ5 = up2 σ3 c0 4 w4 → Q σ5))
set_option maxHeartbeats 8000000 in
set_option maxRecDepth 100000 in
theorem tX6_passLow {l : Launch} {G : GG} {c0 : Nat} {σ : Sg} {Q : Sg → Prop} (hc0 : isReceiver G c0) (h : wpX6_passLow c0 σ Q) : Kv l G yX6_passLow (wB yX6_passLow prog_8_method_12_code 1 none) ({ frames := 2, cells := 0, slots := 0, locals := 44 }) [.ref (ga G c0)] σ Q := by
  refine K_of (cc := cX6_passLow) (maxL := 1) (ret := none) (by decide) rfl (Nat.le_of_ble_eq_true rfl) ?_
  intro p e s m args below meth c ls B hH hl
  obtain ⟨hx, hb, hr, hts, hown, hlk, hml, hK, hX⟩ := B
  replace hl : lv_has ls 1 [(0, .ref (ga G c0))] := hl
  have hB : ∀ w ∈ BIG, w.before args s = true := fun w h9 => hts w (List.mem_cons_of_mem _ h9)
  clear hts
  have k34 := hB _ bw2_28
  have k47 := hB _ bw2_32
  have k69 := hB _ bw2_232
  have kmmax1 := hB _ bw2_233
  have km2 := hB _ bw1_12
  have kmmax3 : (Cond.code Lib.Math.max.name Lib.Math.max.code 2 (some .int)).before args s = true := hB _ bw2_234
  unfold wpX6_passLow at h
  refine lv_aload_n hx hb dX6_passLow_0 rfl (lv_at hl 0 rfl) ?_
  refine lv_aload_n hx hb dX6_passLow_1 rfl (lv_at hl 0 rfl) ?_
  refine g_geti hx hb hB inB6 hown hK hH (c0 := c0) hc0.1 rfl 2 (by decide) k34 rfl rfl dX6_passLow_2 ?_
  refine g_callVr (As := [.int (σ c0 2)]) (rest := []) ⟨hx, hb, hml, hown, hB⟩ hK hX aA_hA hH (c0 := c0) (tX6_pieceAt hc0 h) (cwV 1 hB gVX6_40 rfl rfl rfl (by decide +kernel) ⟨Nat.le_of_ble_eq_true rfl, Nat.le_of_ble_eq_true rfl⟩) hc0.1 rfl rfl hl.1 rfl (lv_room (Nat.le_of_ble_eq_true rfl)) ⟨Nat.zero_le _, Nat.zero_le _⟩ dX6_passLow_5 (fun r1 σ1 H locs h hH => ?_)
  obtain ⟨h, hp1⟩ := h
  refine lv_iconst (v := (-1)) hx hb dX6_passLow_8 (by decide) ?_
  refine g_callVv (As := [.int (-1)]) (rest := []) ⟨hx, hb, hml, hown, hB⟩ hK hX aA_hA hH (c0 := r1) (tX5_clear hp1 h) (cwV 1 hB gVX6_44 rfl rfl rfl (by decide +kernel) ⟨Nat.le_of_ble_eq_true rfl, Nat.le_of_ble_eq_true rfl⟩) hp1.1 rfl rfl hl.1 rfl (lv_room (Nat.le_of_ble_eq_true rfl)) ⟨Nat.zero_le _, Nat.zero_le _⟩ dX6_passLow_9 (fun σ2 H locs h hH => ?_)
  refine lv_aload_n hx hb dX6_passLow_12 rfl (lv_at hl 0 rfl) ?_
  refine lv_dup hx hb dX6_passLow_13 rfl ?_
  refine g_geti hx hb hB inB6 hown hK hH (c0 := c0) hc0.1 rfl 2 (by decide) k34 rfl rfl dX6_passLow_14 ?_
  refine lv_iconst (v := 1) hx hb dX6_passLow_17 (by decide) ?_
  refine lv_iadd hx hb dX6_passLow_18 ?_
  refine g_put hx hb hB inB6 tyX6 tyX6_ok nmX6 hown hK hH (c0 := c0) hc0.1 rfl 2 (by decide) k34 rfl rfl rfl rfl rfl dX6_passLow_19 (fun σ3 eσ3 H locs hH => ?_)
  replace h := h σ3 eσ3
  refine lv_aload_n hx hb dX6_passLow_22 rfl (lv_at hl 0 rfl) ?_
  refine lv_aload_n hx hb dX6_passLow_23 rfl (lv_at hl 0 rfl) ?_
  refine g_geti hx hb hB inB6 hown hK hH (c0 := c0) hc0.1 rfl 4 (by decide) k47 rfl rfl dX6_passLow_24 ?_
  refine lv_aload_n hx hb dX6_passLow_27 rfl (lv_at hl 0 rfl) ?_
  refine g_geti hx hb hB inB6 hown hK hH (c0 := c0) hc0.1 rfl 2 (by decide) k34 rfl rfl dX6_passLow_28 ?_
  refine va_mmax hx hb (hml.trans hl.1.symm) hown k69 kmmax1 km2 kmmax3 (Nat.le_of_ble_eq_true rfl) (Nat.le_of_ble_eq_true rfl) (Nat.zero_le _) (Nat.zero_le _) dX6_passLow_31 ?_
  refine lv_topi (fun w4 ew4 => ?_)
  replace h := h w4 ew4
  refine g_put hx hb hB inB6 tyX6 tyX6_ok nmX6 hown hK hH (c0 := c0) hc0.1 rfl 4 (by decide) k47 rfl rfl rfl rfl rfl dX6_passLow_34 (fun σ5 eσ5 H locs hH => ?_)
  replace h := h σ5 eσ5
  exact g_vret hx hb hr hK hlk h hH dX6_passLow_37
def wpX6_settle_L59 (Q : Sg → Prop) (c0 : Nat) (x1 : Int32) (x2 : Int32) (σ : Sg) : Prop := ((x2 = 0 → Q σ) ∧ (¬ (x2 = 0) → ∀ σ10 : Sg, σ10 = up2 σ c0 6 x1 → wpX6_answerPolls c0 σ10 (fun σ11 => Q σ11)))
def wpX6_settle_L27 (Q : Sg → Prop) (c0 : Nat) (x1 : Int32) (x2 : Int32) (σ : Sg) : Prop := ((¬ (σ c0 8) = 0 → wpX6_settle_L59 Q c0 x1 x2 σ) ∧ ((σ c0 8) = 0 → (((σ c0 3) ≤ (σ c0 2) → wpX6_settle_L59 Q c0 x1 x2 σ) ∧ (¬ ((σ c0 3) ≤ (σ c0 2)) → ∀ σ7 : Sg, σ7 = up2 σ c0 8 6 → ∀ σ8 : Sg, σ8 = up2 σ7 c0 5 (σ7 c0 3) → wpX6_settle_L59 Q c0 x1 x2 σ8))))
def wpX6_settle (c0 : Nat) (x1 : Int32) (x2 : Int32) (σ : Sg) (Q : Sg → Prop) : Prop := wpX6_answerPolls c0 σ (fun σ1 => (((σ1 c0 8) ≤ 0 → wpX6_settle_L27 Q c0 x1 x2 σ1) ∧ (¬ ((σ1 c0 8) ≤ 0) → (((σ1 c0 2) < (σ1 c0 5) → wpX6_settle_L27 Q c0 x1 x2 σ1) ∧ (¬ ((σ1 c0 2) < (σ1 c0 5)) → ∀ σ4 : Sg, σ4 = up2 σ1 c0 8 0 → wpX6_settle_L27 Q c0 x1 x2 σ4)))))
set_option maxHeartbeats 8000000 in
set_option maxRecDepth 100000 in
theorem tX6_settle {l : Launch} {G : GG} {c0 : Nat} {x1 : Int32} {x2 : Int32} {σ : Sg} {Q : Sg → Prop} (hc0 : isReceiver G c0) (h : wpX6_settle c0 x1 x2 σ Q) : Kv l G yX6_settle (wB yX6_settle prog_8_method_13_code 3 none) ({ frames := 1, cells := 0, slots := 0, locals := 20 }) [.ref (ga G c0), .int x1, .int x2] σ Q := by
  refine K_of (cc := cX6_settle) (maxL := 3) (ret := none) (by decide) rfl (Nat.le_of_ble_eq_true rfl) ?_
  intro p e s m args below meth c ls B hH hl
  obtain ⟨hx, hb, hr, hts, hown, hlk, hml, hK, hX⟩ := B
  replace hl : lv_has ls 3 [(0, .ref (ga G c0)), (1, .int x1), (2, .int x2)] := hl
  have hB : ∀ w ∈ BIG, w.before args s = true := fun w h9 => hts w (List.mem_cons_of_mem _ h9)
  clear hts
  have k17 := hB _ bw2_36
  have k34 := hB _ bw2_28
  have k37 := hB _ bw2_30
  have k50 := hB _ bw2_34
  have k57 := hB _ bw2_40
  have L59 : ∀ (c0 : Nat) (hc0 : isReceiver G c0) (x1 : Int32) (x2 : Int32) (σ : Sg) (H : Heap) (locs : List Loc) (ls : Array Slot), Hx G (aA G s.heap.size) s σ H locs → lv_has ls 3 [(0, .ref (ga G c0)), (1, .int x1), (2, .int x2)] → wpX6_settle_L59 Q c0 x1 x2 σ → W p l e ({ frames := 1, cells := 0, slots := 0, locals := 20 }) s m args below meth c H locs 0 0 (Zv G Q below args s) (F0 m 59 ls []) := by
    intro c0 hc0 x1 x2 σ H locs ls hH hl h
    unfold wpX6_settle_L59 at h
    refine lv_iload_n hx hb dX6_settle_59 rfl (lv_at hl 2 rfl) ?_
    refine lv_if_eq (tgt := 72) hx hb dX6_settle_60 (by decide) (fun q9 => ?_) (fun q9 => ?_)
    · replace h := h.1 q9
      exact g_vret hx hb hr hK hlk h hH dX6_settle_72
    · replace h := h.2 q9
      refine lv_aload_n hx hb dX6_settle_63 rfl (lv_at hl 0 rfl) ?_
      refine lv_iload_n hx hb dX6_settle_64 rfl (lv_at hl 1 rfl) ?_
      refine g_put hx hb hB inB6 tyX6 tyX6_ok nmX6 hown hK hH (c0 := c0) hc0.1 rfl 6 (by decide) k17 rfl rfl rfl rfl rfl dX6_settle_65 (fun σ10 eσ10 H locs hH => ?_)
      replace h := h σ10 eσ10
      refine lv_aload_n hx hb dX6_settle_68 rfl (lv_at hl 0 rfl) ?_
      refine g_callVv (As := []) (rest := []) ⟨hx, hb, hml, hown, hB⟩ hK hX aA_hA hH (c0 := c0) (tX6_answerPolls hc0 h) (cwV 0 hB gVX6_78 rfl rfl rfl (by decide +kernel) ⟨Nat.le_of_ble_eq_true rfl, Nat.le_of_ble_eq_true rfl⟩) hc0.1 rfl rfl hl.1 rfl (lv_room (Nat.le_of_ble_eq_true rfl)) ⟨Nat.zero_le _, Nat.zero_le _⟩ dX6_settle_69 (fun σ11 H locs h hH => ?_)
      exact g_vret hx hb hr hK hlk h hH dX6_settle_72
  have L27 : ∀ (c0 : Nat) (hc0 : isReceiver G c0) (x1 : Int32) (x2 : Int32) (σ : Sg) (H : Heap) (locs : List Loc) (ls : Array Slot), Hx G (aA G s.heap.size) s σ H locs → lv_has ls 3 [(0, .ref (ga G c0)), (1, .int x1), (2, .int x2)] → wpX6_settle_L27 Q c0 x1 x2 σ → W p l e ({ frames := 1, cells := 0, slots := 0, locals := 20 }) s m args below meth c H locs 0 0 (Zv G Q below args s) (F0 m 27 ls []) := by
    intro c0 hc0 x1 x2 σ H locs ls hH hl h
    unfold wpX6_settle_L27 at h
    refine lv_aload_n hx hb dX6_settle_27 rfl (lv_at hl 0 rfl) ?_
    refine g_geti hx hb hB inB6 hown hK hH (c0 := c0) hc0.1 rfl 8 (by decide) k57 rfl rfl dX6_settle_28 ?_
    refine lv_if_ne (tgt := 59) hx hb dX6_settle_31 (by decide) (fun q5 => ?_) (fun q5 => ?_)
    · replace h := h.1 q5
      exact L59 c0 hc0 x1 x2 σ _ _ ls hH (lv_sub hl [0, 1, 2] rfl) h
    · replace h := h.2 q5
      refine lv_aload_n hx hb dX6_settle_34 rfl (lv_at hl 0 rfl) ?_
      refine g_geti hx hb hB inB6 hown hK hH (c0 := c0) hc0.1 rfl 3 (by decide) k37 rfl rfl dX6_settle_35 ?_
      refine lv_aload_n hx hb dX6_settle_38 rfl (lv_at hl 0 rfl) ?_
      refine g_geti hx hb hB inB6 hown hK hH (c0 := c0) hc0.1 rfl 2 (by decide) k34 rfl rfl dX6_settle_39 ?_
      refine lv_icmp_le (tgt := 59) hx hb dX6_settle_42 (by decide) (fun q6 => ?_) (fun q6 => ?_)
      · replace h := h.1 q6
        exact L59 c0 hc0 x1 x2 σ _ _ ls hH (lv_sub hl [0, 1, 2] rfl) h
      · replace h := h.2 q6
        refine lv_aload_n hx hb dX6_settle_45 rfl (lv_at hl 0 rfl) ?_
        refine lv_bipush (v := 6) hx hb dX6_settle_46 (by decide) ?_
        refine g_put hx hb hB inB6 tyX6 tyX6_ok nmX6 hown hK hH (c0 := c0) hc0.1 rfl 8 (by decide) k57 rfl rfl rfl rfl rfl dX6_settle_48 (fun σ7 eσ7 H locs hH => ?_)
        replace h := h σ7 eσ7
        refine lv_aload_n hx hb dX6_settle_51 rfl (lv_at hl 0 rfl) ?_
        refine lv_aload_n hx hb dX6_settle_52 rfl (lv_at hl 0 rfl) ?_
        refine g_geti hx hb hB inB6 hown hK hH (c0 := c0) hc0.1 rfl 3 (by decide) k37 rfl rfl dX6_settle_53 ?_
        refine g_put hx hb hB inB6 tyX6 tyX6_ok nmX6 hown hK hH (c0 := c0) hc0.1 rfl 5 (by decide) k50 rfl rfl rfl rfl rfl dX6_settle_56 (fun σ8 eσ8 H locs hH => ?_)
        replace h := h σ8 eσ8
        exact L59 c0 hc0 x1 x2 σ8 _ _ ls hH (lv_sub hl [0, 1, 2] rfl) h
  unfold wpX6_settle at h
  refine lv_aload_n hx hb dX6_settle_0 rfl (lv_at hl 0 rfl) ?_
  refine g_callVv (As := []) (rest := []) ⟨hx, hb, hml, hown, hB⟩ hK hX aA_hA hH (c0 := c0) (tX6_answerPolls hc0 h) (cwV 0 hB gVX6_78 rfl rfl rfl (by decide +kernel) ⟨Nat.le_of_ble_eq_true rfl, Nat.le_of_ble_eq_true rfl⟩) hc0.1 rfl rfl hl.1 rfl (lv_room (Nat.le_of_ble_eq_true rfl)) ⟨Nat.zero_le _, Nat.zero_le _⟩ dX6_settle_1 (fun σ1 H locs h hH => ?_)
  refine lv_aload_n hx hb dX6_settle_4 rfl (lv_at hl 0 rfl) ?_
  refine g_geti hx hb hB inB6 hown hK hH (c0 := c0) hc0.1 rfl 8 (by decide) k57 rfl rfl dX6_settle_5 ?_
  refine lv_if_le (tgt := 27) hx hb dX6_settle_8 (by decide) (fun q2 => ?_) (fun q2 => ?_)
  · replace h := h.1 q2
    exact L27 c0 hc0 x1 x2 σ1 _ _ ls hH (lv_sub hl [0, 1, 2] rfl) h
  · replace h := h.2 q2
    refine lv_aload_n hx hb dX6_settle_11 rfl (lv_at hl 0 rfl) ?_
    refine g_geti hx hb hB inB6 hown hK hH (c0 := c0) hc0.1 rfl 5 (by decide) k50 rfl rfl dX6_settle_12 ?_
    refine lv_aload_n hx hb dX6_settle_15 rfl (lv_at hl 0 rfl) ?_
    refine g_geti hx hb hB inB6 hown hK hH (c0 := c0) hc0.1 rfl 2 (by decide) k34 rfl rfl dX6_settle_16 ?_
    refine lv_icmp_gt (tgt := 27) hx hb dX6_settle_19 (by decide) (fun q3 => ?_) (fun q3 => ?_)
    · replace h := h.1 q3
      exact L27 c0 hc0 x1 x2 σ1 _ _ ls hH (lv_sub hl [0, 1, 2] rfl) h
    · replace h := h.2 q3
      refine lv_aload_n hx hb dX6_settle_22 rfl (lv_at hl 0 rfl) ?_
      refine lv_iconst (v := 0) hx hb dX6_settle_23 (by decide) ?_
      refine g_put hx hb hB inB6 tyX6 tyX6_ok nmX6 hown hK hH (c0 := c0) hc0.1 rfl 8 (by decide) k57 rfl rfl rfl rfl rfl dX6_settle_24 (fun σ4 eσ4 H locs hH => ?_)
      replace h := h σ4 eσ4
      exact L27 c0 hc0 x1 x2 σ4 _ _ ls hH (lv_sub hl [0, 1, 2] rfl) h
