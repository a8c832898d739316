def wpX7_pieceAt (c0 : Nat) (x1 : Int32) (σ : Sg) (Q : Nat → Sg → Prop) : Prop := (vp_in (x1 &&& 15) 16 ∧ ∀ c_1 : Nat, c_1 = c0 + 10 + 2 * (x1 &&& 15).toNatClampNeg → Q c_1 σ)
set_option maxHeartbeats 8000000 in
set_option maxRecDepth 100000 in
theorem tX7_pieceAt {l : Launch} {G : GG} {c0 : Nat} {x1 : Int32} {σ : Sg} {Q : Nat → Sg → Prop} (hc0 : isSender G c0) (h : wpX7_pieceAt c0 x1 σ Q) : Kr l G yX7_pieceAt (wB yX7_pieceAt prog_9_method_2_code 2 (Option.some (FieldType.object "BearerHouse$Piece"))) ({ frames := 0, cells := 0, slots := 0, locals := 0 }) [.ref (ga G c0), .int x1] σ (fun r σ1 => Q r σ1 ∧ isPiece G r) := by
  refine K_of (cc := cX7_pieceAt) (maxL := 2) (ret := (some (.object "BearerHouse$Piece"))) (by decide) rfl (Nat.le_of_ble_eq_true rfl) ?_
  intro p e s m args below meth c ls B hH hl
  obtain ⟨hx, hb, hr, hts, hown, hlk, hml, hK, hX⟩ := B
  replace hl : lv_has ls 2 [(0, .ref (ga G c0)), (1, .int x1)] := hl
  have hB : ∀ w ∈ BIG, w.before args s = true := fun w h9 => hts w (List.mem_cons_of_mem _ h9)
  clear hts
  have k11 := hB _ bw1_147
  unfold wpX7_pieceAt at h
  refine lv_aload_n hx hb dX7_pieceAt_0 rfl (lv_at hl 0 rfl) ?_
  refine g_getr hx hb hB inB7 hown hK hH (c0 := c0) hc0.1 rfl 1 (by decide) k11 rfl (c1 := c0 + 1) rfl dX7_pieceAt_1 ?_
  refine lv_iload_n hx hb dX7_pieceAt_4 rfl (lv_at hl 1 rfl) ?_
  refine lv_bipush (v := 15) hx hb dX7_pieceAt_5 (by decide) ?_
  refine lv_iand hx hb dX7_pieceAt_7 ?_
  obtain ⟨hi1, h⟩ := h
  refine g_aald hx hb hK hH (c0 := c0 + 1) hc0.2.1 hi1 dX7_pieceAt_8 ?_
  have hp1 : isPiece G (c0 + 10 + 2 * (x1 &&& 15).toNatClampNeg) := hc0.2.2.2 _ (vp_lt hi1)
  obtain ⟨c_1, ec_1⟩ : ∃ y : Nat, y = c0 + 10 + 2 * (x1 &&& 15).toNatClampNeg := ⟨_, rfl⟩
  replace h := h c_1 ec_1
  rw [← ec_1] at hp1
  refine W.eq (g2 := F0 m 9 ls [.ref (ga G c_1)]) (by rw [ec_1]) ?_
  exact g_aret hx hb hr hK hlk ⟨h, hp1⟩ hH dX7_pieceAt_9
def wpX7_startAnew (c0 : Nat) (σ : Sg) (Q : Sg → Prop) : Prop := ∀ σ1 : Sg, σ1 = up2 σ c0 4 0 → ∀ σ2 : Sg, σ2 = up2 σ1 c0 5 0 → ∀ σ3 : Sg, σ3 = up2 σ2 c0 6 0 → ∀ σ4 : Sg, σ4 = up2 σ3 c0 7 0 → ∀ σ5 : Sg, σ5 = up2 σ4 c0 8 0 → ∀ σ6 : Sg, σ6 = up2 σ5 c0 9 (-1) → ∀ σ7 : Sg, σ7 = up2 σ6 c0 10 0 → ∀ σ8 : Sg, σ8 = up2 σ7 c0 11 0 → Q σ8
set_option maxHeartbeats 8000000 in
set_option maxRecDepth 100000 in
theorem tX7_startAnew {l : Launch} {G : GG} {c0 : Nat} {σ : Sg} {Q : Sg → Prop} (hc0 : isSender G c0) (h : wpX7_startAnew c0 σ Q) : Kv l G yX7_startAnew (wB yX7_startAnew prog_9_method_3_code 1 none) ({ frames := 0, cells := 0, slots := 0, locals := 0 }) [.ref (ga G c0)] σ Q := by
  refine K_of (cc := cX7_startAnew) (maxL := 1) (ret := none) (by decide) rfl (Nat.le_of_ble_eq_true rfl) ?_
  intro p e s m args below meth c ls B hH hl
  obtain ⟨hx, hb, hr, hts, hown, hlk, hml, hK, hX⟩ := B
  replace hl : lv_has ls 1 [(0, .ref (ga G c0))] := hl
  have hB : ∀ w ∈ BIG, w.before args s = true := fun w h9 => hts w (List.mem_cons_of_mem _ h9)
  clear hts
  have k21 := hB _ bw1_161
  have k34 := hB _ bw1_152
  have k37 := hB _ bw1_154
  have k40 := hB _ bw1_156
  have k43 := hB _ bw1_158
  have k47 := hB _ bw1_159
  have k50 := hB _ bw1_162
  have k53 := hB _ bw1_164
  unfold wpX7_startAnew at h
  refine lv_aload_n hx hb dX7_startAnew_0 rfl (lv_at hl 0 rfl) ?_
  refine lv_iconst (v := 0) hx hb dX7_startAnew_1 (by decide) ?_
  refine g_put hx hb hB inB7 tyX7 tyX7_ok nmX7 hown hK hH (c0 := c0) hc0.1 rfl 4 (by decide) k34 rfl rfl rfl rfl rfl dX7_startAnew_2 (fun σ1 eσ1 H locs hH => ?_)
  replace h := h σ1 eσ1
  refine lv_aload_n hx hb dX7_startAnew_5 rfl (lv_at hl 0 rfl) ?_
  refine lv_iconst (v := 0) hx hb dX7_startAnew_6 (by decide) ?_
  refine g_put hx hb hB inB7 tyX7 tyX7_ok nmX7 hown hK hH (c0 := c0) hc0.1 rfl 5 (by decide) k37 rfl rfl rfl rfl rfl dX7_startAnew_7 (fun σ2 eσ2 H locs hH => ?_)
  replace h := h σ2 eσ2
  refine lv_aload_n hx hb dX7_startAnew_10 rfl (lv_at hl 0 rfl) ?_
  refine lv_iconst (v := 0) hx hb dX7_startAnew_11 (by decide) ?_
  refine g_put hx hb hB inB7 tyX7 tyX7_ok nmX7 hown hK hH (c0 := c0) hc0.1 rfl 6 (by decide) k40 rfl rfl rfl rfl rfl dX7_startAnew_12 (fun σ3 eσ3 H locs hH => ?_)
  replace h := h σ3 eσ3
  refine lv_aload_n hx hb dX7_startAnew_15 rfl (lv_at hl 0 rfl) ?_
  refine lv_iconst (v := 0) hx hb dX7_startAnew_16 (by decide) ?_
  refine g_put hx hb hB inB7 tyX7 tyX7_ok nmX7 hown hK hH (c0 := c0) hc0.1 rfl 7 (by decide) k43 rfl rfl rfl (vz_n vz0) (vz_f vz0) dX7_startAnew_17 (fun σ4 eσ4 H locs hH => ?_)
  replace h := h σ4 eσ4
  refine lv_aload_n hx hb dX7_startAnew_20 rfl (lv_at hl 0 rfl) ?_
  refine lv_iconst (v := 0) hx hb dX7_startAnew_21 (by decide) ?_
  refine g_put hx hb hB inB7 tyX7 tyX7_ok nmX7 hown hK hH (c0 := c0) hc0.1 rfl 8 (by decide) k47 rfl rfl rfl (vz_n vz0) (vz_f vz0) dX7_startAnew_22 (fun σ5 eσ5 H locs hH => ?_)
  replace h := h σ5 eσ5
  refine lv_aload_n hx hb dX7_startAnew_25 rfl (lv_at hl 0 rfl) ?_
  refine lv_iconst (v := (-1)) hx hb dX7_startAnew_26 (by decide) ?_
  refine g_put hx hb hB inB7 tyX7 tyX7_ok nmX7 hown hK hH (c0 := c0) hc0.1 rfl 9 (by decide) k21 rfl rfl rfl rfl rfl dX7_startAnew_27 (fun σ6 eσ6 H locs hH => ?_)
  replace h := h σ6 eσ6
  refine lv_aload_n hx hb dX7_startAnew_30 rfl (lv_at hl 0 rfl) ?_
  refine lv_iconst (v := 0) hx hb dX7_startAnew_31 (by decide) ?_
  refine g_put hx hb hB inB7 tyX7 tyX7_ok nmX7 hown hK hH (c0 := c0) hc0.1 rfl 10 (by decide) k50 rfl rfl rfl rfl rfl dX7_startAnew_32 (fun σ7 eσ7 H locs hH => ?_)
  replace h := h σ7 eσ7
  refine lv_aload_n hx hb dX7_startAnew_35 rfl (lv_at hl 0 rfl) ?_
  refine lv_iconst (v := 0) hx hb dX7_startAnew_36 (by decide) ?_
  refine g_put hx hb hB inB7 tyX7 tyX7_ok nmX7 hown hK hH (c0 := c0) hc0.1 rfl 11 (by decide) k53 rfl rfl rfl rfl rfl dX7_startAnew_37 (fun σ8 eσ8 H locs hH => ?_)
  replace h := h σ8 eσ8
  exact g_vret hx hb hr hK hlk h hH dX7_startAnew_40
def wpX7_bringAgain_L77 (Q : Sg → Prop) (c0 : Nat) (c1 : Nat) (x4 : Int32) (σ : Sg) : Prop := ∀ σ12 : Sg, σ12 = up2 σ c0 6 ((σ c0 6) + ((σ c1 2) - x4)) → Q σ12
def wpX7_bringAgain_L50 (Q : Sg → Prop) : Nat → Nat → Nat → Int32 → Int32 → Int32 → Sg → Prop
  | 0, _, _, _, _, _, _ => False
  | n + 1, c0, c1, x3, x4, x5, σ => ((x3 ≤ x5 → wpX7_bringAgain_L77 Q c0 c1 x4 σ) ∧ (¬ (x3 ≤ x5) → (((σ c1 1) ≤ x5 → wpX7_bringAgain_L77 Q c0 c1 x4 σ) ∧ (¬ ((σ c1 1) ≤ x5) → wpX5_markCell c1 x5 σ (fun σ10 => ∀ x5_11 : Int32, x5_11 = x5 + 1 → (wpX7_bringAgain_L50 Q n) c0 c1 x3 x4 x5_11 σ10)))))
def wpX7_bringAgain_L41 (Q : Sg → Prop) (c0 : Nat) (c1 : Nat) (x2 : Int32) (x3 : Int32) (σ : Sg) : Prop := ∀ x4_5 : Int32, x4_5 = σ c1 2 → ∃ nn, wpX7_bringAgain_L50 Q nn c0 c1 x3 x4_5 x2 σ
def wpX7_bringAgain_L38 (Q : Sg → Prop) (c0 : Nat) (c1 : Nat) (x2 : Int32) (x3 : Int32) (z0 : Int32) (y1 : Nat) (σ : Sg) : Prop := (vz z0 ∧ ∀ σ7 : Sg, σ7 = up2 σ y1 8 z0 → wpX7_bringAgain_L41 Q c0 c1 x2 x3 σ7)
def wpX7_bringAgain_L33 (Q : Sg → Prop) (c0 : Nat) (c1 : Nat) (x2 : Int32) (x3 : Int32) (y0 : Nat) (σ : Sg) : Prop := wpX7_bringAgain_L38 Q c0 c1 x2 x3 1 y0 σ
def wpX7_bringAgain (c0 : Nat) (c1 : Nat) (x2 : Int32) (x3 : Int32) (σ : Sg) (Q : Sg → Prop) : Prop := ((¬ (σ c1 2) = 0 → wpX7_bringAgain_L41 Q c0 c1 x2 x3 σ) ∧ ((σ c1 2) = 0 → ∀ σ2 : Sg, σ2 = up2 σ c1 3 ((σ c1 3) + 1) → ((¬ (σ2 c0 8) = 0 → wpX7_bringAgain_L33 Q c0 c1 x2 x3 c0 σ2) ∧ ((σ2 c0 8) = 0 → (((σ2 c1 3) < 5 → wpX7_bringAgain_L38 Q c0 c1 x2 x3 0 c0 σ2) ∧ (¬ ((σ2 c1 3) < 5) → wpX7_bringAgain_L33 Q c0 c1 x2 x3 c0 σ2))))))
set_option maxHeartbeats 8000000 in
set_option maxRecDepth 100000 in
theorem tX7_bringAgain {l : Launch} {G : GG} {tS : Nat × (Nat → Int32)} (hgo : go G = some tS) {c0 : Nat} {c1 : Nat} {x2 : Int32} {x3 : Int32} {σ : Sg} {Q : Sg → Prop} (hc0 : isSender G c0) (hc1 : isPiece G c1) (h : wpX7_bringAgain c0 c1 x2 x3 σ Q) : Kv l G yX7_bringAgain (wB yX7_bringAgain prog_9_method_6_code 6 none) ({ frames := 1, cells := 0, slots := 0, locals := 21 }) [.ref (ga G c0), .ref (ga G c1), .int x2, .int x3] σ Q := by
  refine K_of (cc := cX7_bringAgain) (maxL := 6) (ret := none) (by decide) rfl (Nat.le_of_ble_eq_true rfl) ?_
  intro p e s m args below meth c ls B hH hl
  obtain ⟨hx, hb, hr, hts, hown, hlk, hml, hK, hX⟩ := B
  replace hl : lv_has ls 6 [(0, .ref (ga G c0)), (1, .ref (ga G c1)), (2, .int x2), (3, .int x3)] := hl
  have hXN : NWs s := XS.nw hX hgo
  have hB : ∀ w ∈ BIG, w.before args s = true := fun w h9 => hts w (List.mem_cons_of_mem _ h9)
  clear hts
  have k40 := hB _ bw1_156
  have k47 := hB _ bw1_159
  have k76 : (Cond.fieldLinkNest RX7 76 "BearerHouse$Piece" "marks" "I" "BearerHouse").before args s = true := va_Nw.use rfl (hXN.1 ("BearerHouse$Sender", 76, "BearerHouse$Piece", "marks", "I", "BearerHouse") (List.mem_of_getElem? (i := 50) rfl))
  have k79 : (Cond.fieldLinkNest RX7 79 "BearerHouse$Piece" "tries" "I" "BearerHouse").before args s = true := va_Nw.use rfl (hXN.1 ("BearerHouse$Sender", 79, "BearerHouse$Piece", "tries", "I", "BearerHouse") (List.mem_of_getElem? (i := 51) rfl))
  have k82 : (Cond.fieldLinkNest RX7 82 "BearerHouse$Piece" "size" "I" "BearerHouse").before args s = true := va_Nw.use rfl (hXN.1 ("BearerHouse$Sender", 82, "BearerHouse$Piece", "size", "I", "BearerHouse") (List.mem_of_getElem? (i := 52) rfl))
  have L77 : ∀ (c0 : Nat) (hc0 : isSender G c0) (c1 : Nat) (hc1 : isPiece G c1) (x4 : Int32) (σ : Sg) (H : Heap) (locs : List Loc) (ls : Array Slot), Hx G (aA G s.heap.size) s σ H locs → lv_has ls 6 [(0, .ref (ga G c0)), (1, .ref (ga G c1)), (4, .int x4)] → wpX7_bringAgain_L77 Q c0 c1 x4 σ → W p l e ({ frames := 1, cells := 0, slots := 0, locals := 21 }) s m args below meth c H locs 0 0 (Zv G Q below args s) (F0 m 77 ls []) := by
    intro c0 hc0 c1 hc1 x4 σ H locs ls hH hl h
    unfold wpX7_bringAgain_L77 at h
    refine lv_aload_n hx hb dX7_bringAgain_77 rfl (lv_at hl 0 rfl) ?_
    refine lv_dup hx hb dX7_bringAgain_78 rfl ?_
    refine g_geti hx hb hB inB7 hown hK hH (c0 := c0) hc0.1 rfl 6 (by decide) k40 rfl rfl dX7_bringAgain_79 ?_
    refine lv_aload_n hx hb dX7_bringAgain_82 rfl (lv_at hl 1 rfl) ?_
    refine g_getiN hx hb hB inB5 hown hK hH (c0 := c1) hc1.1 rfl 2 (by decide) k76 rfl rfl dX7_bringAgain_83 ?_
    refine lv_iload hx hb dX7_bringAgain_86 (lv_at hl 2 rfl) ?_
    refine lv_isub hx hb dX7_bringAgain_88 ?_
    refine lv_iadd hx hb dX7_bringAgain_89 ?_
    refine g_put hx hb hB inB7 tyX7 tyX7_ok nmX7 hown hK hH (c0 := c0) hc0.1 rfl 6 (by decide) k40 rfl rfl rfl rfl rfl dX7_bringAgain_90 (fun σ12 eσ12 H locs hH => ?_)
    replace h := h σ12 eσ12
    exact g_vret hx hb hr hK hlk h hH dX7_bringAgain_93
  have L50 : ∀ (n50 : Nat) (c0 : Nat) (hc0 : isSender G c0) (c1 : Nat) (hc1 : isPiece G c1) (x3 : Int32) (x4 : Int32) (x5 : Int32) (σ : Sg) (H : Heap) (locs : List Loc) (ls : Array Slot), Hx G (aA G s.heap.size) s σ H locs → lv_has ls 6 [(0, .ref (ga G c0)), (1, .ref (ga G c1)), (3, .int x3), (4, .int x4), (5, .int x5)] → wpX7_bringAgain_L50 Q n50 c0 c1 x3 x4 x5 σ → W p l e ({ frames := 1, cells := 0, slots := 0, locals := 21 }) s m args below meth c H locs 0 0 (Zv G Q below args s) (F0 m 50 ls []) := by
    intro n50
    induction n50 with
    | zero =>
      intro c0 hc0 c1 hc1 x3 x4 x5 σ H locs ls hH hl h
      exact False.elim h
    | succ n50 ih50 =>
      intro c0 hc0 c1 hc1 x3 x4 x5 σ H locs ls hH hl h
      unfold wpX7_bringAgain_L50 at h
      refine lv_iload hx hb dX7_bringAgain_50 (lv_at hl 4 rfl) ?_
      refine lv_iload_n hx hb dX7_bringAgain_52 rfl (lv_at hl 2 rfl) ?_
      refine lv_icmp_ge (tgt := 77) hx hb dX7_bringAgain_53 (by decide) (fun q8 => ?_) (fun q8 => ?_)
      · replace h := h.1 q8
        exact L77 c0 hc0 c1 hc1 x4 σ _ _ ls hH (lv_sub hl [0, 1, 3] rfl) h
      · replace h := h.2 q8
        refine lv_iload hx hb dX7_bringAgain_56 (lv_at hl 4 rfl) ?_
        refine lv_aload_n hx hb dX7_bringAgain_58 rfl (lv_at hl 1 rfl) ?_
        refine g_getiN hx hb hB inB5 hown hK hH (c0 := c1) hc1.1 rfl 1 (by decide) k82 rfl rfl dX7_bringAgain_59 ?_
        refine lv_icmp_ge (tgt := 77) hx hb dX7_bringAgain_62 (by decide) (fun q9 => ?_) (fun q9 => ?_)
        · replace h := h.1 q9
          exact L77 c0 hc0 c1 hc1 x4 σ _ _ ls hH (lv_sub hl [0, 1, 3] rfl) h
        · replace h := h.2 q9
          refine lv_aload_n hx hb dX7_bringAgain_65 rfl (lv_at hl 1 rfl) ?_
          refine lv_iload hx hb dX7_bringAgain_66 (lv_at hl 4 rfl) ?_
          refine g_callVv (As := [.int x5]) (rest := []) ⟨hx, hb, hml, hown, hB⟩ hK hX aA_hA hH (c0 := c1) (tX5_markCell hc1 h) (cwV 1 hB gVX7_85 rfl rfl rfl (by decide +kernel) ⟨Nat.le_of_ble_eq_true rfl, Nat.le_of_ble_eq_true rfl⟩) hc1.1 rfl rfl hl.1 rfl (lv_room (Nat.le_of_ble_eq_true rfl)) ⟨Nat.zero_le _, Nat.zero_le _⟩ dX7_bringAgain_68 (fun σ10 H locs h hH => ?_)
          obtain ⟨x5_11, ex5_11⟩ : ∃ y : Int32, y = x5 + 1 := ⟨_, rfl⟩
          replace h := h x5_11 ex5_11
          refine lv_iinc (v := x5_11) (lv' := [(5, .int x5_11), (0, .ref (ga G c0)), (1, .ref (ga G c1)), (3, .int x3), (4, .int x4)]) hx hb dX7_bringAgain_71 hl (k := 4) rfl (by rw [ex5_11]; rfl) (by decide) rfl (fun ls hl => ?_)
          refine lv_goto (tgt := 50) hx hb dX7_bringAgain_74 (by decide) ?_
          exact ih50 c0 hc0 c1 hc1 x3 x4 x5_11 σ10 _ _ ls hH (lv_sub hl [1, 2, 3, 4, 0] rfl) h
  have L41 : ∀ (c0 : Nat) (hc0 : isSender G c0) (c1 : Nat) (hc1 : isPiece G c1) (x2 : Int32) (x3 : Int32) (σ : Sg) (H : Heap) (locs : List Loc) (ls : Array Slot), Hx G (aA G s.heap.size) s σ H locs → lv_has ls 6 [(0, .ref (ga G c0)), (1, .ref (ga G c1)), (2, .int x2), (3, .int x3)] → wpX7_bringAgain_L41 Q c0 c1 x2 x3 σ → W p l e ({ frames := 1, cells := 0, slots := 0, locals := 21 }) s m args below meth c H locs 0 0 (Zv G Q below args s) (F0 m 41 ls []) := by
    intro c0 hc0 c1 hc1 x2 x3 σ H locs ls hH hl h
    unfold wpX7_bringAgain_L41 at h
    refine lv_aload_n hx hb dX7_bringAgain_41 rfl (lv_at hl 1 rfl) ?_
    refine g_getiN hx hb hB inB5 hown hK hH (c0 := c1) hc1.1 rfl 2 (by decide) k76 rfl rfl dX7_bringAgain_42 ?_
    refine lv_topi (fun x4_5 ex4_5 => ?_)
    replace h := h x4_5 ex4_5
    refine lv_istore (lv' := [(4, .int x4_5), (0, .ref (ga G c0)), (1, .ref (ga G c1)), (2, .int x2), (3, .int x3)]) hx hb dX7_bringAgain_45 hl (by decide) rfl (fun ls hl => ?_)
    refine lv_iload_n hx hb dX7_bringAgain_47 rfl (lv_at hl 3 rfl) ?_
    refine lv_istore (lv' := [(5, .int x2), (4, .int x4_5), (0, .ref (ga G c0)), (1, .ref (ga G c1)), (2, .int x2), (3, .int x3)]) hx hb dX7_bringAgain_48 hl (by decide) rfl (fun ls hl => ?_)
    obtain ⟨nn, h⟩ := h
    exact L50 nn c0 hc0 c1 hc1 x3 x4_5 x2 σ _ _ ls hH (lv_sub hl [2, 3, 5, 1, 0] rfl) h
  have L38 : ∀ (c0 : Nat) (hc0 : isSender G c0) (c1 : Nat) (hc1 : isPiece G c1) (x2 : Int32) (x3 : Int32) (z0 : Int32) (y1 : Nat) (hy1 : isSender G y1) (σ : Sg) (H : Heap) (locs : List Loc) (ls : Array Slot), Hx G (aA G s.heap.size) s σ H locs → lv_has ls 6 [(0, .ref (ga G c0)), (1, .ref (ga G c1)), (2, .int x2), (3, .int x3)] → wpX7_bringAgain_L38 Q c0 c1 x2 x3 z0 y1 σ → W p l e ({ frames := 1, cells := 0, slots := 0, locals := 21 }) s m args below meth c H locs 0 0 (Zv G Q below args s) (F0 m 38 ls [.int z0, .ref (ga G y1)]) := by
    intro c0 hc0 c1 hc1 x2 x3 z0 y1 hy1 σ H locs ls hH hl h
    unfold wpX7_bringAgain_L38 at h
    obtain ⟨hz6, h⟩ := h
    refine g_put hx hb hB inB7 tyX7 tyX7_ok nmX7 hown hK hH (c0 := y1) hy1.1 rfl 8 (by decide) k47 rfl rfl rfl (vz_n hz6) (vz_f hz6) dX7_bringAgain_38 (fun σ7 eσ7 H locs hH => ?_)
    replace h := h σ7 eσ7
    exact L41 c0 hc0 c1 hc1 x2 x3 σ7 _ _ ls hH (lv_sub hl [0, 1, 2, 3] rfl) h
  have L33 : ∀ (c0 : Nat) (hc0 : isSender G c0) (c1 : Nat) (hc1 : isPiece G c1) (x2 : Int32) (x3 : Int32) (y0 : Nat) (hy0 : isSender G y0) (σ : Sg) (H : Heap) (locs : List Loc) (ls : Array Slot), Hx G (aA G s.heap.size) s σ H locs → lv_has ls 6 [(0, .ref (ga G c0)), (1, .ref (ga G c1)), (2, .int x2), (3, .int x3)] → wpX7_bringAgain_L33 Q c0 c1 x2 x3 y0 σ → W p l e ({ frames := 1, cells := 0, slots := 0, locals := 21 }) s m args below meth c H locs 0 0 (Zv G Q below args s) (F0 m 33 ls [.ref (ga G y0)]) := by
    intro c0 hc0 c1 hc1 x2 x3 y0 hy0 σ H locs ls hH hl h
    unfold wpX7_bringAgain_L33 at h
    refine lv_iconst (v := 1) hx hb dX7_bringAgain_33 (by decide) ?_
    refine lv_goto (tgt := 38) hx hb dX7_bringAgain_34 (by decide) ?_
    exact L38 c0 hc0 c1 hc1 x2 x3 1 y0 hy0 σ _ _ ls hH (lv_sub hl [0, 1, 2, 3] rfl) h
  unfold wpX7_bringAgain at h
  refine lv_aload_n hx hb dX7_bringAgain_0 rfl (lv_at hl 1 rfl) ?_
  refine g_getiN hx hb hB inB5 hown hK hH (c0 := c1) hc1.1 rfl 2 (by decide) k76 rfl rfl dX7_bringAgain_1 ?_
  refine lv_if_ne (tgt := 41) hx hb dX7_bringAgain_4 (by decide) (fun q1 => ?_) (fun q1 => ?_)
  · replace h := h.1 q1
    exact L41 c0 hc0 c1 hc1 x2 x3 σ _ _ ls hH (lv_sub hl [0, 1, 2, 3] rfl) h
  · replace h := h.2 q1
    refine lv_aload_n hx hb dX7_bringAgain_7 rfl (lv_at hl 1 rfl) ?_
    refine lv_dup hx hb dX7_bringAgain_8 rfl ?_
    refine g_getiN hx hb hB inB5 hown hK hH (c0 := c1) hc1.1 rfl 3 (by decide) k79 rfl rfl dX7_bringAgain_9 ?_
    refine lv_iconst (v := 1) hx hb dX7_bringAgain_12 (by decide) ?_
    refine lv_iadd hx hb dX7_bringAgain_13 ?_
    refine g_putN hx hb hB inB5 tyX5 tyX5_ok nmX5 hown hK hH (c0 := c1) hc1.1 rfl 3 (by decide) k79 rfl rfl rfl rfl rfl dX7_bringAgain_14 (fun σ2 eσ2 H locs hH => ?_)
    replace h := h σ2 eσ2
    refine lv_aload_n hx hb dX7_bringAgain_17 rfl (lv_at hl 0 rfl) ?_
    refine lv_aload_n hx hb dX7_bringAgain_18 rfl (lv_at hl 0 rfl) ?_
    refine g_geti hx hb hB inB7 hown hK hH (c0 := c0) hc0.1 rfl 8 (by decide) k47 rfl rfl dX7_bringAgain_19 ?_
    refine lv_if_ne (tgt := 33) hx hb dX7_bringAgain_22 (by decide) (fun q3 => ?_) (fun q3 => ?_)
    · replace h := h.1 q3
      exact L33 c0 hc0 c1 hc1 x2 x3 c0 hc0 σ2 _ _ ls hH (lv_sub hl [0, 1, 2, 3] rfl) h
    · replace h := h.2 q3
      refine lv_aload_n hx hb dX7_bringAgain_25 rfl (lv_at hl 1 rfl) ?_
      refine g_getiN hx hb hB inB5 hown hK hH (c0 := c1) hc1.1 rfl 3 (by decide) k79 rfl rfl dX7_bringAgain_26 ?_
      refine lv_iconst (v := 5) hx hb dX7_bringAgain_29 (by decide) ?_
      refine lv_icmp_lt (tgt := 37) hx hb dX7_bringAgain_30 (by decide) (fun q4 => ?_) (fun q4 => ?_)
      · replace h := h.1 q4
        refine lv_iconst (v := 0) hx hb dX7_bringAgain_37 (by decide) ?_
        exact L38 c0 hc0 c1 hc1 x2 x3 0 c0 hc0 σ2 _ _ ls hH (lv_sub hl [0, 1, 2, 3] rfl) h
      · replace h := h.2 q4
        exact L33 c0 hc0 c1 hc1 x2 x3 c0 hc0 σ2 _ _ ls hH (lv_sub hl [0, 1, 2, 3] rfl) h
def wpX7_countDown_L60 (Q : Sg → Prop) (c0 : Nat) (z0 : Int32) (σ : Sg) : Prop := ((¬ (σ c0 6) = 0 → Q σ) ∧ ((σ c0 6) = 0 → (((σ c0 5) ≤ (σ c0 4) → Q σ) ∧ (¬ ((σ c0 5) ≤ (σ c0 4)) → ((z0 = 0 → Q σ) ∧ (¬ (z0 = 0) → wpX7_pieceAt c0 (σ c0 4) σ (fun r10 σ10 => wpX7_bringAgain c0 r10 0 240 σ10 (fun σ11 => Q σ11))))))))
def wpX7_countDown_L55 (Q : Sg → Prop) (c0 : Nat) (σ : Sg) : Prop := wpX7_countDown_L60 Q c0 1 σ
def wpX7_countDown (c0 : Nat) (σ : Sg) (Q : Sg → Prop) : Prop := ((¬ (σ c0 10) = 0 → ∀ σ2 : Sg, σ2 = up2 σ c0 10 ((σ c0 10) - 1) → (((σ2 c0 10) ≤ 0 → ∀ σ4 : Sg, σ4 = up2 σ2 c0 7 1 → (((σ4 (c0 + 2) 9) = 0 → wpX7_countDown_L55 Q c0 σ4) ∧ (¬ ((σ4 (c0 + 2) 9) = 0) → ((¬ ((σ4 c0 5) - (σ4 c0 4)) = 16 → wpX7_countDown_L60 Q c0 0 σ4) ∧ (((σ4 c0 5) - (σ4 c0 4)) = 16 → wpX7_countDown_L55 Q c0 σ4))))) ∧ (¬ ((σ2 c0 10) ≤ 0) → Q σ2))) ∧ ((σ c0 10) = 0 → Q σ))
set_option maxHeartbeats 8000000 in
set_option maxRecDepth 100000 in
theorem tX7_countDown {l : Launch} {G : GG} {tS : Nat × (Nat → Int32)} (hgo : go G = some tS) {c0 : Nat} {σ : Sg} {Q : Sg → Prop} (hc0 : isSender G c0) (h : wpX7_countDown c0 σ Q) : Kv l G yX7_countDown (wB yX7_countDown prog_9_method_4_code 2 none) ({ frames := 2, cells := 0, slots := 0, locals := 46 }) [.ref (ga G c0)] σ Q := by
  refine K_of (cc := cX7_countDown) (maxL := 2) (ret := none) (by decide) rfl (Nat.le_of_ble_eq_true rfl) ?_
  intro p e s m args below meth c ls B hH hl
  obtain ⟨hx, hb, hr, hts, hown, hlk, hml, hK, hX⟩ := B
  replace hl : lv_has ls 2 [(0, .ref (ga G c0))] := hl
  have hXN : NWs s := XS.nw hX hgo
  have hB : ∀ w ∈ BIG, w.before args s = true := fun w h9 => hts w (List.mem_cons_of_mem _ h9)
  clear hts
  have k29 := hB _ bw1_145
  have k34 := hB _ bw1_152
  have k37 := hB _ bw1_154
  have k40 := hB _ bw1_156
  have k43 := hB _ bw1_158
  have k50 := hB _ bw1_162
  have k56 : (Cond.fieldLinkNest RX7 56 "BearerHouse$Outbox" "waiting" "I" "BearerHouse").before args s = true := va_Nw.use rfl (hXN.1 ("BearerHouse$Sender", 56, "BearerHouse$Outbox", "waiting", "I", "BearerHouse") (List.mem_of_getElem? (i := 49) rfl))
  have L60 : ∀ (c0 : Nat) (hc0 : isSender G c0) (z0 : Int32) (σ : Sg) (H : Heap) (locs : List Loc) (ls : Array Slot), Hx G (aA G s.heap.size) s σ H locs → lv_has ls 2 [(0, .ref (ga G c0))] → wpX7_countDown_L60 Q c0 z0 σ → W p l e ({ frames := 2, cells := 0, slots := 0, locals := 46 }) s m args below meth c H locs 0 0 (Zv G Q below args s) (F0 m 60 ls [.int z0]) := by
    intro c0 hc0 z0 σ H locs ls hH hl h
    unfold wpX7_countDown_L60 at h
    refine lv_istore_n (lv' := [(1, .int z0), (0, .ref (ga G c0))]) hx hb dX7_countDown_60 rfl hl (by decide) rfl (fun ls hl => ?_)
    refine lv_aload_n hx hb dX7_countDown_61 rfl (lv_at hl 1 rfl) ?_
    refine g_geti hx hb hB inB7 hown hK hH (c0 := c0) hc0.1 rfl 6 (by decide) k40 rfl rfl dX7_countDown_62 ?_
    refine lv_if_ne (tgt := 99) hx hb dX7_countDown_65 (by decide) (fun q7 => ?_) (fun q7 => ?_)
    · replace h := h.1 q7
      exact g_vret hx hb hr hK hlk h hH dX7_countDown_99
    · replace h := h.2 q7
      refine lv_aload_n hx hb dX7_countDown_68 rfl (lv_at hl 1 rfl) ?_
      refine g_geti hx hb hB inB7 hown hK hH (c0 := c0) hc0.1 rfl 4 (by decide) k34 rfl rfl dX7_countDown_69 ?_
      refine lv_aload_n hx hb dX7_countDown_72 rfl (lv_at hl 1 rfl) ?_
      refine g_geti hx hb hB inB7 hown hK hH (c0 := c0) hc0.1 rfl 5 (by decide) k37 rfl rfl dX7_countDown_73 ?_
      refine lv_icmp_ge (tgt := 99) hx hb dX7_countDown_76 (by decide) (fun q8 => ?_) (fun q8 => ?_)
      · replace h := h.1 q8
        exact g_vret hx hb hr hK hlk h hH dX7_countDown_99
      · replace h := h.2 q8
        refine lv_iload_n hx hb dX7_countDown_79 rfl (lv_at hl 0 rfl) ?_
        refine lv_if_eq (tgt := 99) hx hb dX7_countDown_80 (by decide) (fun q9 => ?_) (fun q9 => ?_)
        · replace h := h.1 q9
          exact g_vret hx hb hr hK hlk h hH dX7_countDown_99
        · replace h := h.2 q9
          refine lv_aload_n hx hb dX7_countDown_83 rfl (lv_at hl 1 rfl) ?_
          refine lv_aload_n hx hb dX7_countDown_84 rfl (lv_at hl 1 rfl) ?_
          refine lv_aload_n hx hb dX7_countDown_85 rfl (lv_at hl 1 rfl) ?_
          refine g_geti hx hb hB inB7 hown hK hH (c0 := c0) hc0.1 rfl 4 (by decide) k34 rfl rfl dX7_countDown_86 ?_
          refine g_callVr (As := [.int (σ c0 4)]) (rest := [.ref (ga G c0)]) ⟨hx, hb, hml, hown, hB⟩ hK hX aA_hA hH (c0 := c0) (tX7_pieceAt hc0 h) (cwV 1 hB gVX7_59 rfl rfl rfl (by decide +kernel) ⟨Nat.le_of_ble_eq_true rfl, Nat.le_of_ble_eq_true rfl⟩) hc0.1 rfl rfl hl.1 rfl (lv_room (Nat.le_of_ble_eq_true rfl)) ⟨Nat.zero_le _, Nat.zero_le _⟩ dX7_countDown_89 (fun r10 σ10 H locs h hH => ?_)
          obtain ⟨h, hp10⟩ := h
          refine lv_iconst (v := 0) hx hb dX7_countDown_92 (by decide) ?_
          refine lv_sipush (v := 240) hx hb dX7_countDown_93 (by decide) ?_
          refine g_callVv (As := [.ref (ga G r10), .int 0, .int 240]) (rest := []) ⟨hx, hb, hml, hown, hB⟩ hK hX aA_hA hH (c0 := c0) (tX7_bringAgain (tS := tS) hgo hc0 hp10 h) (cwV 3 hB gVX7_63 rfl rfl rfl (by decide +kernel) ⟨Nat.le_of_ble_eq_true rfl, Nat.le_of_ble_eq_true rfl⟩) hc0.1 rfl rfl hl.1 rfl (lv_room (Nat.le_of_ble_eq_true rfl)) ⟨Nat.zero_le _, Nat.zero_le _⟩ dX7_countDown_96 (fun σ11 H locs h hH => ?_)
          exact g_vret hx hb hr hK hlk h hH dX7_countDown_99
  have L55 : ∀ (c0 : Nat) (hc0 : isSender G c0) (σ : Sg) (H : Heap) (locs : List Loc) (ls : Array Slot), Hx G (aA G s.heap.size) s σ H locs → lv_has ls 2 [(0, .ref (ga G c0))] → wpX7_countDown_L55 Q c0 σ → W p l e ({ frames := 2, cells := 0, slots := 0, locals := 46 }) s m args below meth c H locs 0 0 (Zv G Q below args s) (F0 m 55 ls []) := by
    intro c0 hc0 σ H locs ls hH hl h
    unfold wpX7_countDown_L55 at h
    refine lv_iconst (v := 1) hx hb dX7_countDown_55 (by decide) ?_
    refine lv_goto (tgt := 60) hx hb dX7_countDown_56 (by decide) ?_
    exact L60 c0 hc0 1 σ _ _ ls hH (lv_sub hl [0] rfl) h
  unfold wpX7_countDown at h
  refine lv_aload_n hx hb dX7_countDown_0 rfl (lv_at hl 0 rfl) ?_
  refine g_geti hx hb hB inB7 hown hK hH (c0 := c0) hc0.1 rfl 10 (by decide) k50 rfl rfl dX7_countDown_1 ?_
  refine lv_if_ne (tgt := 8) hx hb dX7_countDown_4 (by decide) (fun q1 => ?_) (fun q1 => ?_)
  · replace h := h.1 q1
    refine lv_aload_n hx hb dX7_countDown_8 rfl (lv_at hl 0 rfl) ?_
    refine lv_dup hx hb dX7_countDown_9 rfl ?_
    refine g_geti hx hb hB inB7 hown hK hH (c0 := c0) hc0.1 rfl 10 (by decide) k50 rfl rfl dX7_countDown_10 ?_
    refine lv_iconst (v := 1) hx hb dX7_countDown_13 (by decide) ?_
    refine lv_isub hx hb dX7_countDown_14 ?_
    refine g_put hx hb hB inB7 tyX7 tyX7_ok nmX7 hown hK hH (c0 := c0) hc0.1 rfl 10 (by decide) k50 rfl rfl rfl rfl rfl dX7_countDown_15 (fun σ2 eσ2 H locs hH => ?_)
    replace h := h σ2 eσ2
    refine lv_aload_n hx hb dX7_countDown_18 rfl (lv_at hl 0 rfl) ?_
    refine g_geti hx hb hB inB7 hown hK hH (c0 := c0) hc0.1 rfl 10 (by decide) k50 rfl rfl dX7_countDown_19 ?_
    refine lv_if_le (tgt := 26) hx hb dX7_countDown_22 (by decide) (fun q3 => ?_) (fun q3 => ?_)
    · replace h := h.1 q3
      refine lv_aload_n hx hb dX7_countDown_26 rfl (lv_at hl 0 rfl) ?_
      refine lv_iconst (v := 1) hx hb dX7_countDown_27 (by decide) ?_
      refine g_put hx hb hB inB7 tyX7 tyX7_ok nmX7 hown hK hH (c0 := c0) hc0.1 rfl 7 (by decide) k43 rfl rfl rfl (vz_n vz1) (vz_f vz1) dX7_countDown_28 (fun σ4 eσ4 H locs hH => ?_)
      replace h := h σ4 eσ4
      refine lv_aload_n hx hb dX7_countDown_31 rfl (lv_at hl 0 rfl) ?_
      refine g_getr hx hb hB inB7 hown hK hH (c0 := c0) hc0.1 rfl 0 (by decide) k29 rfl (c1 := c0 + 2) rfl dX7_countDown_32 ?_
      refine g_getiN hx hb hB inB4 hown hK hH (c0 := c0 + 2) hc0.2.2.1.1 rfl 9 (by decide) k56 rfl rfl dX7_countDown_35 ?_
      refine lv_if_eq (tgt := 55) hx hb dX7_countDown_38 (by decide) (fun q5 => ?_) (fun q5 => ?_)
      · replace h := h.1 q5
        exact L55 c0 hc0 σ4 _ _ ls hH (lv_sub hl [0] rfl) h
      · replace h := h.2 q5
        refine lv_aload_n hx hb dX7_countDown_41 rfl (lv_at hl 0 rfl) ?_
        refine g_geti hx hb hB inB7 hown hK hH (c0 := c0) hc0.1 rfl 5 (by decide) k37 rfl rfl dX7_countDown_42 ?_
        refine lv_aload_n hx hb dX7_countDown_45 rfl (lv_at hl 0 rfl) ?_
        refine g_geti hx hb hB inB7 hown hK hH (c0 := c0) hc0.1 rfl 4 (by decide) k34 rfl rfl dX7_countDown_46 ?_
        refine lv_isub hx hb dX7_countDown_49 ?_
        refine lv_bipush (v := 16) hx hb dX7_countDown_50 (by decide) ?_
        refine lv_icmp_ne (tgt := 59) hx hb dX7_countDown_52 (by decide) (fun q6 => ?_) (fun q6 => ?_)
        · replace h := h.1 q6
          refine lv_iconst (v := 0) hx hb dX7_countDown_59 (by decide) ?_
          exact L60 c0 hc0 0 σ4 _ _ ls hH (lv_sub hl [0] rfl) h
        · replace h := h.2 q6
          exact L55 c0 hc0 σ4 _ _ ls hH (lv_sub hl [0] rfl) h
    · replace h := h.2 q3
      exact g_vret hx hb hr hK hlk h hH dX7_countDown_25
  · replace h := h.2 q1
    exact g_vret hx hb hr hK hlk h hH dX7_countDown_7
def wpX7_prepare_L48 (Q : Sg → Prop) (c0 : Nat) (σ : Sg) : Prop := (((5 * (σ c0 2)) ≤ (σ c0 3) → Q σ) ∧ (¬ ((5 * (σ c0 2)) ≤ (σ c0 3)) → ∀ w8 : Int32, w8 = (if (5 * (σ c0 2)) < ((σ c0 3) + (σ c0 2)) then (5 * (σ c0 2)) else ((σ c0 3) + (σ c0 2))) → ∀ σ9 : Sg, σ9 = up2 σ c0 3 w8 → Q σ9))
def wpX7_prepare (c0 : Nat) (σ : Sg) (Q : Sg → Prop) : Prop := ((¬ (σ c0 8) = 0 → wpX7_prepare_L48 Q c0 σ) ∧ ((σ c0 8) = 0 → ((¬ (σ c0 10) = 0 → wpX7_prepare_L48 Q c0 σ) ∧ ((σ c0 10) = 0 → (((σ c0 5) ≤ (σ c0 4) → wpX7_prepare_L48 Q c0 σ) ∧ (¬ ((σ c0 5) ≤ (σ c0 4)) → ((¬ (σ (c0 + 2) 9) = 0 → wpX7_prepare_L48 Q c0 σ) ∧ ((σ (c0 + 2) 9) = 0 → ((¬ (σ c0 6) = 0 → wpX7_prepare_L48 Q c0 σ) ∧ ((σ c0 6) = 0 → ∀ σ6 : Sg, σ6 = up2 σ c0 10 10 → wpX7_prepare_L48 Q c0 σ6))))))))))
set_option maxHeartbeats 8000000 in
set_option maxRecDepth 100000 in
theorem tX7_prepare {l : Launch} {G : GG} {tS : Nat × (Nat → Int32)} (hgo : go G = some tS) {c0 : Nat} {σ : Sg} {Q : Sg → Prop} (hc0 : isSender G c0) (h : wpX7_prepare c0 σ Q) : Kv l G yX7_prepare (wB yX7_prepare prog_9_method_5_code 1 none) ({ frames := 1, cells := 0, slots := 0, locals := 14 }) [.ref (ga G c0)] σ Q := by
  refine K_of (cc := cX7_prepare) (maxL := 1) (ret := none) (by decide) rfl (Nat.le_of_ble_eq_true rfl) ?_
  intro p e s m args below meth c ls B hH hl
  obtain ⟨hx, hb, hr, hts, hown, hlk, hml, hK, hX⟩ := B
  replace hl : lv_has ls 1 [(0, .ref (ga G c0))] := hl
  have hXN : NWs s := XS.nw hX hgo
  have hB : ∀ w ∈ BIG, w.before args s = true := fun w h9 => hts w (List.mem_cons_of_mem _ h9)
  clear hts
  have k17 := hB _ bw1_148
  have k29 := hB _ bw1_145
  have k34 := hB _ bw1_152
  have k37 := hB _ bw1_154
  have k40 := hB _ bw1_156
  have k47 := hB _ bw1_159
  have k50 := hB _ bw1_162
  have k56 : (Cond.fieldLinkNest RX7 56 "BearerHouse$Outbox" "waiting" "I" "BearerHouse").before args s = true := va_Nw.use rfl (hXN.1 ("BearerHouse$Sender", 56, "BearerHouse$Outbox", "waiting", "I", "BearerHouse") (List.mem_of_getElem? (i := 49) rfl))
  have k67 := hB _ bw1_150
  have k70 := hB _ bw3_15
  have kmmin1 := hB _ bw3_16
  have km2 := hB _ bw1_12
  have kmmin3 : (Cond.code Lib.Math.min.name Lib.Math.min.code 2 (some .int)).before args s = true := hB _ bw3_17
  have L48 : ∀ (c0 : Nat) (hc0 : isSender G c0) (σ : Sg) (H : Heap) (locs : List Loc) (ls : Array Slot), Hx G (aA G s.heap.size) s σ H locs → lv_has ls 1 [(0, .ref (ga G c0))] → wpX7_prepare_L48 Q c0 σ → W p l e ({ frames := 1, cells := 0, slots := 0, locals := 14 }) s m args below meth c H locs 0 0 (Zv G Q below args s) (F0 m 48 ls []) := by
    intro c0 hc0 σ H locs ls hH hl h
    unfold wpX7_prepare_L48 at h
    refine lv_aload_n hx hb dX7_prepare_48 rfl (lv_at hl 0 rfl) ?_
    refine g_geti hx hb hB inB7 hown hK hH (c0 := c0) hc0.1 rfl 3 (by decide) k67 rfl rfl dX7_prepare_49 ?_
    refine lv_iconst (v := 5) hx hb dX7_prepare_52 (by decide) ?_
    refine lv_aload_n hx hb dX7_prepare_53 rfl (lv_at hl 0 rfl) ?_
    refine g_geti hx hb hB inB7 hown hK hH (c0 := c0) hc0.1 rfl 2 (by decide) k17 rfl rfl dX7_prepare_54 ?_
    refine lv_imul hx hb dX7_prepare_57 ?_
    refine lv_icmp_ge (tgt := 83) hx hb dX7_prepare_58 (by decide) (fun q7 => ?_) (fun q7 => ?_)
    · replace h := h.1 q7
      exact g_vret hx hb hr hK hlk h hH dX7_prepare_83
    · replace h := h.2 q7
      refine lv_aload_n hx hb dX7_prepare_61 rfl (lv_at hl 0 rfl) ?_
      refine lv_aload_n hx hb dX7_prepare_62 rfl (lv_at hl 0 rfl) ?_
      refine g_geti hx hb hB inB7 hown hK hH (c0 := c0) hc0.1 rfl 3 (by decide) k67 rfl rfl dX7_prepare_63 ?_
      refine lv_aload_n hx hb dX7_prepare_66 rfl (lv_at hl 0 rfl) ?_
      refine g_geti hx hb hB inB7 hown hK hH (c0 := c0) hc0.1 rfl 2 (by decide) k17 rfl rfl dX7_prepare_67 ?_
      refine lv_iadd hx hb dX7_prepare_70 ?_
      refine lv_iconst (v := 5) hx hb dX7_prepare_71 (by decide) ?_
      refine lv_aload_n hx hb dX7_prepare_72 rfl (lv_at hl 0 rfl) ?_
      refine g_geti hx hb hB inB7 hown hK hH (c0 := c0) hc0.1 rfl 2 (by decide) k17 rfl rfl dX7_prepare_73 ?_
      refine lv_imul hx hb dX7_prepare_76 ?_
      refine va_mmin hx hb (hml.trans hl.1.symm) hown k70 kmmin1 km2 kmmin3 (Nat.le_of_ble_eq_true rfl) (Nat.le_of_ble_eq_true rfl) (Nat.zero_le _) (Nat.zero_le _) dX7_prepare_77 ?_
      refine lv_topi (fun w8 ew8 => ?_)
      replace h := h w8 ew8
      refine g_put hx hb hB inB7 tyX7 tyX7_ok nmX7 hown hK hH (c0 := c0) hc0.1 rfl 3 (by decide) k67 rfl rfl rfl rfl rfl dX7_prepare_80 (fun σ9 eσ9 H locs hH => ?_)
      replace h := h σ9 eσ9
      exact g_vret hx hb hr hK hlk h hH dX7_prepare_83
  unfold wpX7_prepare at h
  refine lv_aload_n hx hb dX7_prepare_0 rfl (lv_at hl 0 rfl) ?_
  refine g_geti hx hb hB inB7 hown hK hH (c0 := c0) hc0.1 rfl 8 (by decide) k47 rfl rfl dX7_prepare_1 ?_
  refine lv_if_ne (tgt := 48) hx hb dX7_prepare_4 (by decide) (fun q1 => ?_) (fun q1 => ?_)
  · replace h := h.1 q1
    exact L48 c0 hc0 σ _ _ ls hH (lv_sub hl [0] rfl) h
  · replace h := h.2 q1
    refine lv_aload_n hx hb dX7_prepare_7 rfl (lv_at hl 0 rfl) ?_
    refine g_geti hx hb hB inB7 hown hK hH (c0 := c0) hc0.1 rfl 10 (by decide) k50 rfl rfl dX7_prepare_8 ?_
    refine lv_if_ne (tgt := 48) hx hb dX7_prepare_11 (by decide) (fun q2 => ?_) (fun q2 => ?_)
    · replace h := h.1 q2
      exact L48 c0 hc0 σ _ _ ls hH (lv_sub hl [0] rfl) h
    · replace h := h.2 q2
      refine lv_aload_n hx hb dX7_prepare_14 rfl (lv_at hl 0 rfl) ?_
      refine g_geti hx hb hB inB7 hown hK hH (c0 := c0) hc0.1 rfl 4 (by decide) k34 rfl rfl dX7_prepare_15 ?_
      refine lv_aload_n hx hb dX7_prepare_18 rfl (lv_at hl 0 rfl) ?_
      refine g_geti hx hb hB inB7 hown hK hH (c0 := c0) hc0.1 rfl 5 (by decide) k37 rfl rfl dX7_prepare_19 ?_
      refine lv_icmp_ge (tgt := 48) hx hb dX7_prepare_22 (by decide) (fun q3 => ?_) (fun q3 => ?_)
      · replace h := h.1 q3
        exact L48 c0 hc0 σ _ _ ls hH (lv_sub hl [0] rfl) h
      · replace h := h.2 q3
        refine lv_aload_n hx hb dX7_prepare_25 rfl (lv_at hl 0 rfl) ?_
        refine g_getr hx hb hB inB7 hown hK hH (c0 := c0) hc0.1 rfl 0 (by decide) k29 rfl (c1 := c0 + 2) rfl dX7_prepare_26 ?_
        refine g_getiN hx hb hB inB4 hown hK hH (c0 := c0 + 2) hc0.2.2.1.1 rfl 9 (by decide) k56 rfl rfl dX7_prepare_29 ?_
        refine lv_if_ne (tgt := 48) hx hb dX7_prepare_32 (by decide) (fun q4 => ?_) (fun q4 => ?_)
        · replace h := h.1 q4
          exact L48 c0 hc0 σ _ _ ls hH (lv_sub hl [0] rfl) h
        · replace h := h.2 q4
          refine lv_aload_n hx hb dX7_prepare_35 rfl (lv_at hl 0 rfl) ?_
          refine g_geti hx hb hB inB7 hown hK hH (c0 := c0) hc0.1 rfl 6 (by decide) k40 rfl rfl dX7_prepare_36 ?_
          refine lv_if_ne (tgt := 48) hx hb dX7_prepare_39 (by decide) (fun q5 => ?_) (fun q5 => ?_)
          · replace h := h.1 q5
            exact L48 c0 hc0 σ _ _ ls hH (lv_sub hl [0] rfl) h
          · replace h := h.2 q5
            refine lv_aload_n hx hb dX7_prepare_42 rfl (lv_at hl 0 rfl) ?_
            refine lv_bipush (v := 10) hx hb dX7_prepare_43 (by decide) ?_
            refine g_put hx hb hB inB7 tyX7 tyX7_ok nmX7 hown hK hH (c0 := c0) hc0.1 rfl 10 (by decide) k50 rfl rfl rfl rfl rfl dX7_prepare_45 (fun σ6 eσ6 H locs hH => ?_)
            replace h := h σ6 eσ6
            exact L48 c0 hc0 σ6 _ _ ls hH (lv_sub hl [0] rfl) h
def wpX7_countData_L88 (Q : Int32 → Sg → Prop) (c0 : Nat) (σ : Sg) : Prop := ∀ σ10 : Sg, σ10 = up2 σ c0 7 0 → ∀ σ11 : Sg, σ11 = up2 σ10 c0 11 0 → ∀ σ12 : Sg, σ12 = up2 σ11 c0 9 ((σ11 c0 5) - 1) → ∀ σ13 : Sg, σ13 = up2 σ12 c0 10 10 → Q 1 σ13
def wpX7_countData_L52 (Q : Int32 → Sg → Prop) (c0 : Nat) (x1 : Int32) (z0 : Int32) (σ : Sg) : Prop := ((¬ (σ c0 7) = 0 → wpX7_countData_L88 Q c0 σ) ∧ ((σ c0 7) = 0 → ((3 ≤ (σ c0 11) → wpX7_countData_L88 Q c0 σ) ∧ (¬ (3 ≤ (σ c0 11)) → ((¬ x1 = 0 → wpX7_countData_L88 Q c0 σ) ∧ (x1 = 0 → ((¬ z0 = 0 → wpX7_countData_L88 Q c0 σ) ∧ (z0 = 0 → ∀ σ9 : Sg, σ9 = up2 σ c0 11 ((σ c0 11) + 1) → Q 0 σ9))))))))
def wpX7_countData_L32 (Q : Int32 → Sg → Prop) (c0 : Nat) (z0 : Int32) (σ : Sg) : Prop := ((¬ ((σ c0 5) - (σ c0 4)) = 16 → wpX7_countData_L52 Q c0 z0 0 σ) ∧ (((σ c0 5) - (σ c0 4)) = 16 → wpX7_countData_L52 Q c0 z0 1 σ))
def wpX7_countData_L31 (Q : Int32 → Sg → Prop) (c0 : Nat) (σ : Sg) : Prop := wpX7_countData_L32 Q c0 0 σ
def wpX7_countData (c0 : Nat) (σ : Sg) (Q : Int32 → Sg → Prop) : Prop := ∀ σ1 : Sg, σ1 = up2 σ c0 12 ((σ c0 12) + 1) → ((¬ (σ1 (c0 + 2) 9) = 0 → wpX7_countData_L31 Q c0 σ1) ∧ ((σ1 (c0 + 2) 9) = 0 → ((¬ (σ1 c0 6) = 0 → wpX7_countData_L31 Q c0 σ1) ∧ ((σ1 c0 6) = 0 → wpX7_countData_L32 Q c0 1 σ1))))
set_option maxHeartbeats 8000000 in
set_option maxRecDepth 100000 in
theorem tX7_countData {l : Launch} {G : GG} {tS : Nat × (Nat → Int32)} (hgo : go G = some tS) {c0 : Nat} {σ : Sg} {Q : Int32 → Sg → Prop} (hc0 : isSender G c0) (h : wpX7_countData c0 σ Q) : Ki l G yX7_countData (wB yX7_countData prog_9_method_9_code 3 (Option.some FieldType.boolean)) ({ frames := 0, cells := 0, slots := 0, locals := 0 }) [.ref (ga G c0)] σ Q := by
  refine K_of (cc := cX7_countData) (maxL := 3) (ret := (some .boolean)) (by decide) rfl (Nat.le_of_ble_eq_true rfl) ?_
  intro p e s m args below meth c ls B hH hl
  obtain ⟨hx, hb, hr, hts, hown, hlk, hml, hK, hX⟩ := B
  replace hl : lv_has ls 3 [(0, .ref (ga G c0))] := hl
  have hXN : NWs s := XS.nw hX hgo
  have hB : ∀ w ∈ BIG, w.before args s = true := fun w h9 => hts w (List.mem_cons_of_mem _ h9)
  clear hts
  have k21 := hB _ bw1_161
  have k29 := hB _ bw1_145
  have k34 := hB _ bw1_152
  have k37 := hB _ bw1_154
  have k40 := hB _ bw1_156
  have k43 := hB _ bw1_158
  have k50 := hB _ bw1_162
  have k53 := hB _ bw1_164
  have k56 : (Cond.fieldLinkNest RX7 56 "BearerHouse$Outbox" "waiting" "I" "BearerHouse").before args s = true := va_Nw.use rfl (hXN.1 ("BearerHouse$Sender", 56, "BearerHouse$Outbox", "waiting", "I", "BearerHouse") (List.mem_of_getElem? (i := 49) rfl))
  have k134 := hB _ bw1_165
  have L88 : ∀ (c0 : Nat) (hc0 : isSender G c0) (σ : Sg) (H : Heap) (locs : List Loc) (ls : Array Slot), Hx G (aA G s.heap.size) s σ H locs → lv_has ls 3 [(0, .ref (ga G c0))] → wpX7_countData_L88 Q c0 σ → W p l e ({ frames := 0, cells := 0, slots := 0, locals := 0 }) s m args below meth c H locs 0 0 (Zi G Q below args s) (F0 m 88 ls []) := by
    intro c0 hc0 σ H locs ls hH hl h
    unfold wpX7_countData_L88 at h
    refine lv_aload_n hx hb dX7_countData_88 rfl (lv_at hl 0 rfl) ?_
    refine lv_iconst (v := 0) hx hb dX7_countData_89 (by decide) ?_
    refine g_put hx hb hB inB7 tyX7 tyX7_ok nmX7 hown hK hH (c0 := c0) hc0.1 rfl 7 (by decide) k43 rfl rfl rfl (vz_n vz0) (vz_f vz0) dX7_countData_90 (fun σ10 eσ10 H locs hH => ?_)
    replace h := h σ10 eσ10
    refine lv_aload_n hx hb dX7_countData_93 rfl (lv_at hl 0 rfl) ?_
    refine lv_iconst (v := 0) hx hb dX7_countData_94 (by decide) ?_
    refine g_put hx hb hB inB7 tyX7 tyX7_ok nmX7 hown hK hH (c0 := c0) hc0.1 rfl 11 (by decide) k53 rfl rfl rfl rfl rfl dX7_countData_95 (fun σ11 eσ11 H locs hH => ?_)
    replace h := h σ11 eσ11
    refine lv_aload_n hx hb dX7_countData_98 rfl (lv_at hl 0 rfl) ?_
    refine lv_aload_n hx hb dX7_countData_99 rfl (lv_at hl 0 rfl) ?_
    refine g_geti hx hb hB inB7 hown hK hH (c0 := c0) hc0.1 rfl 5 (by decide) k37 rfl rfl dX7_countData_100 ?_
    refine lv_iconst (v := 1) hx hb dX7_countData_103 (by decide) ?_
    refine lv_isub hx hb dX7_countData_104 ?_
    refine g_put hx hb hB inB7 tyX7 tyX7_ok nmX7 hown hK hH (c0 := c0) hc0.1 rfl 9 (by decide) k21 rfl rfl rfl rfl rfl dX7_countData_105 (fun σ12 eσ12 H locs hH => ?_)
    replace h := h σ12 eσ12
    refine lv_aload_n hx hb dX7_countData_108 rfl (lv_at hl 0 rfl) ?_
    refine lv_bipush (v := 10) hx hb dX7_countData_109 (by decide) ?_
    refine g_put hx hb hB inB7 tyX7 tyX7_ok nmX7 hown hK hH (c0 := c0) hc0.1 rfl 10 (by decide) k50 rfl rfl rfl rfl rfl dX7_countData_111 (fun σ13 eσ13 H locs hH => ?_)
    replace h := h σ13 eσ13
    refine lv_iconst (v := 1) hx hb dX7_countData_114 (by decide) ?_
    exact g_zret hx hb hr hK hlk vz1 h hH dX7_countData_115
  have L52 : ∀ (c0 : Nat) (hc0 : isSender G c0) (x1 : Int32) (z0 : Int32) (σ : Sg) (H : Heap) (locs : List Loc) (ls : Array Slot), Hx G (aA G s.heap.size) s σ H locs → lv_has ls 3 [(0, .ref (ga G c0)), (1, .int x1)] → wpX7_countData_L52 Q c0 x1 z0 σ → W p l e ({ frames := 0, cells := 0, slots := 0, locals := 0 }) s m args below meth c H locs 0 0 (Zi G Q below args s) (F0 m 52 ls [.int z0]) := by
    intro c0 hc0 x1 z0 σ H locs ls hH hl h
    unfold wpX7_countData_L52 at h
    refine lv_istore_n (lv' := [(2, .int z0), (0, .ref (ga G c0)), (1, .int x1)]) hx hb dX7_countData_52 rfl hl (by decide) rfl (fun ls hl => ?_)
    refine lv_aload_n hx hb dX7_countData_53 rfl (lv_at hl 1 rfl) ?_
    refine g_geti hx hb hB inB7 hown hK hH (c0 := c0) hc0.1 rfl 7 (by decide) k43 rfl rfl dX7_countData_54 ?_
    refine lv_if_ne (tgt := 88) hx hb dX7_countData_57 (by decide) (fun q5 => ?_) (fun q5 => ?_)
    · replace h := h.1 q5
      exact L88 c0 hc0 σ _ _ ls hH (lv_sub hl [1] rfl) h
    · replace h := h.2 q5
      refine lv_aload_n hx hb dX7_countData_60 rfl (lv_at hl 1 rfl) ?_
      refine g_geti hx hb hB inB7 hown hK hH (c0 := c0) hc0.1 rfl 11 (by decide) k53 rfl rfl dX7_countData_61 ?_
      refine lv_iconst (v := 3) hx hb dX7_countData_64 (by decide) ?_
      refine lv_icmp_ge (tgt := 88) hx hb dX7_countData_65 (by decide) (fun q6 => ?_) (fun q6 => ?_)
      · replace h := h.1 q6
        exact L88 c0 hc0 σ _ _ ls hH (lv_sub hl [1] rfl) h
      · replace h := h.2 q6
        refine lv_iload_n hx hb dX7_countData_68 rfl (lv_at hl 2 rfl) ?_
        refine lv_if_ne (tgt := 88) hx hb dX7_countData_69 (by decide) (fun q7 => ?_) (fun q7 => ?_)
        · replace h := h.1 q7
          exact L88 c0 hc0 σ _ _ ls hH (lv_sub hl [1] rfl) h
        · replace h := h.2 q7
          refine lv_iload_n hx hb dX7_countData_72 rfl (lv_at hl 0 rfl) ?_
          refine lv_if_ne (tgt := 88) hx hb dX7_countData_73 (by decide) (fun q8 => ?_) (fun q8 => ?_)
          · replace h := h.1 q8
            exact L88 c0 hc0 σ _ _ ls hH (lv_sub hl [1] rfl) h
          · replace h := h.2 q8
            refine lv_aload_n hx hb dX7_countData_76 rfl (lv_at hl 1 rfl) ?_
            refine lv_dup hx hb dX7_countData_77 rfl ?_
            refine g_geti hx hb hB inB7 hown hK hH (c0 := c0) hc0.1 rfl 11 (by decide) k53 rfl rfl dX7_countData_78 ?_
            refine lv_iconst (v := 1) hx hb dX7_countData_81 (by decide) ?_
            refine lv_iadd hx hb dX7_countData_82 ?_
            refine g_put hx hb hB inB7 tyX7 tyX7_ok nmX7 hown hK hH (c0 := c0) hc0.1 rfl 11 (by decide) k53 rfl rfl rfl rfl rfl dX7_countData_83 (fun σ9 eσ9 H locs hH => ?_)
            replace h := h σ9 eσ9
            refine lv_iconst (v := 0) hx hb dX7_countData_86 (by decide) ?_
            exact g_zret hx hb hr hK hlk vz0 h hH dX7_countData_87
  have L32 : ∀ (c0 : Nat) (hc0 : isSender G c0) (z0 : Int32) (σ : Sg) (H : Heap) (locs : List Loc) (ls : Array Slot), Hx G (aA G s.heap.size) s σ H locs → lv_has ls 3 [(0, .ref (ga G c0))] → wpX7_countData_L32 Q c0 z0 σ → W p l e ({ frames := 0, cells := 0, slots := 0, locals := 0 }) s m args below meth c H locs 0 0 (Zi G Q below args s) (F0 m 32 ls [.int z0]) := by
    intro c0 hc0 z0 σ H locs ls hH hl h
    unfold wpX7_countData_L32 at h
    refine lv_istore_n (lv' := [(1, .int z0), (0, .ref (ga G c0))]) hx hb dX7_countData_32 rfl hl (by decide) rfl (fun ls hl => ?_)
    refine lv_aload_n hx hb dX7_countData_33 rfl (lv_at hl 1 rfl) ?_
    refine g_geti hx hb hB inB7 hown hK hH (c0 := c0) hc0.1 rfl 5 (by decide) k37 rfl rfl dX7_countData_34 ?_
    refine lv_aload_n hx hb dX7_countData_37 rfl (lv_at hl 1 rfl) ?_
    refine g_geti hx hb hB inB7 hown hK hH (c0 := c0) hc0.1 rfl 4 (by decide) k34 rfl rfl dX7_countData_38 ?_
    refine lv_isub hx hb dX7_countData_41 ?_
    refine lv_bipush (v := 16) hx hb dX7_countData_42 (by decide) ?_
    refine lv_icmp_ne (tgt := 51) hx hb dX7_countData_44 (by decide) (fun q4 => ?_) (fun q4 => ?_)
    · replace h := h.1 q4
      refine lv_iconst (v := 0) hx hb dX7_countData_51 (by decide) ?_
      exact L52 c0 hc0 z0 0 σ _ _ ls hH (lv_sub hl [1, 0] rfl) h
    · replace h := h.2 q4
      refine lv_iconst (v := 1) hx hb dX7_countData_47 (by decide) ?_
      refine lv_goto (tgt := 52) hx hb dX7_countData_48 (by decide) ?_
      exact L52 c0 hc0 z0 1 σ _ _ ls hH (lv_sub hl [1, 0] rfl) h
  have L31 : ∀ (c0 : Nat) (hc0 : isSender G c0) (σ : Sg) (H : Heap) (locs : List Loc) (ls : Array Slot), Hx G (aA G s.heap.size) s σ H locs → lv_has ls 3 [(0, .ref (ga G c0))] → wpX7_countData_L31 Q c0 σ → W p l e ({ frames := 0, cells := 0, slots := 0, locals := 0 }) s m args below meth c H locs 0 0 (Zi G Q below args s) (F0 m 31 ls []) := by
    intro c0 hc0 σ H locs ls hH hl h
    unfold wpX7_countData_L31 at h
    refine lv_iconst (v := 0) hx hb dX7_countData_31 (by decide) ?_
    exact L32 c0 hc0 0 σ _ _ ls hH (lv_sub hl [0] rfl) h
  unfold wpX7_countData at h
  refine lv_aload_n hx hb dX7_countData_0 rfl (lv_at hl 0 rfl) ?_
  refine lv_dup hx hb dX7_countData_1 rfl ?_
  refine g_geti hx hb hB inB7 hown hK hH (c0 := c0) hc0.1 rfl 12 (by decide) k134 rfl rfl dX7_countData_2 ?_
  refine lv_iconst (v := 1) hx hb dX7_countData_5 (by decide) ?_
  refine lv_iadd hx hb dX7_countData_6 ?_
  refine g_put hx hb hB inB7 tyX7 tyX7_ok nmX7 hown hK hH (c0 := c0) hc0.1 rfl 12 (by decide) k134 rfl rfl rfl rfl rfl dX7_countData_7 (fun σ1 eσ1 H locs hH => ?_)
  replace h := h σ1 eσ1
  refine lv_aload_n hx hb dX7_countData_10 rfl (lv_at hl 0 rfl) ?_
  refine g_getr hx hb hB inB7 hown hK hH (c0 := c0) hc0.1 rfl 0 (by decide) k29 rfl (c1 := c0 + 2) rfl dX7_countData_11 ?_
  refine g_getiN hx hb hB inB4 hown hK hH (c0 := c0 + 2) hc0.2.2.1.1 rfl 9 (by decide) k56 rfl rfl dX7_countData_14 ?_
  refine lv_if_ne (tgt := 31) hx hb dX7_countData_17 (by decide) (fun q2 => ?_) (fun q2 => ?_)
  · replace h := h.1 q2
    exact L31 c0 hc0 σ1 _ _ ls hH (lv_sub hl [0] rfl) h
  · replace h := h.2 q2
    refine lv_aload_n hx hb dX7_countData_20 rfl (lv_at hl 0 rfl) ?_
    refine g_geti hx hb hB inB7 hown hK hH (c0 := c0) hc0.1 rfl 6 (by decide) k40 rfl rfl dX7_countData_21 ?_
    refine lv_if_ne (tgt := 31) hx hb dX7_countData_24 (by decide) (fun q3 => ?_) (fun q3 => ?_)
    · replace h := h.1 q3
      exact L31 c0 hc0 σ1 _ _ ls hH (lv_sub hl [0] rfl) h
    · replace h := h.2 q3
      refine lv_iconst (v := 1) hx hb dX7_countData_27 (by decide) ?_
      refine lv_goto (tgt := 32) hx hb dX7_countData_28 (by decide) ?_
      exact L32 c0 hc0 1 σ1 _ _ ls hH (lv_sub hl [0] rfl) h
def wpX7_makeAgain_L139 (Q : Sg → Prop) : Nat → Nat → Nat → Int32 → Nat → Int32 → Int32 → Int32 → Sg → Prop
  | 0, _, _, _, _, _, _, _, _ => False
  | n + 1, c0, c1, x3, c4, x5, x6, x8, σ => ((x6 ≤ x8 → ∀ σ18 : Sg, σ18 = up2 σ c0 6 ((σ c0 6) - (x6 - x5)) → ∀ σ19 : Sg, σ19 = up2 σ18 c0 13 ((σ18 c0 13) + 1) → wpX7_countData c0 σ19 (fun r20 σ20 => wpX5_writeData c4 c1 x3 x5 x6 r20 σ20 (fun σ21 => Q σ21))) ∧ (¬ (x6 ≤ x8) → wpX5_unmarkCell c4 x8 σ (fun σ22 => ∀ x8_23 : Int32, x8_23 = x8 + 1 → (wpX7_makeAgain_L139 Q n) c0 c1 x3 c4 x5 x6 x8_23 σ22)))
def wpX7_makeAgain_L135 (Q : Sg → Prop) (c0 : Nat) (c1 : Nat) (x3 : Int32) (c4 : Nat) (x5 : Int32) (x6 : Int32) (σ : Sg) : Prop := ∃ nn, wpX7_makeAgain_L139 Q nn c0 c1 x3 c4 x5 x6 x5 σ
def wpX7_makeAgain_L115 (Q : Sg → Prop) (c0 : Nat) (c1 : Nat) (x2 : Int32) (x3 : Int32) (c4 : Nat) (x5 : Int32) (x6 : Int32) (σ : Sg) : Prop := ((4 ≤ x2 → wpX5_fitting c4 x5 x6 (x2 - 3) σ (fun r16 σ16 => wpX7_makeAgain_L135 Q c0 c1 x3 c4 x5 r16 σ16)) ∧ (¬ (4 ≤ x2) → Q σ))
def wpX7_makeAgain_L91 (Q : Sg → Prop) (c0 : Nat) (c1 : Nat) (x2 : Int32) (x3 : Int32) (c4 : Nat) (x5 : Int32) (x6 : Int32) (z0 : Int32) (σ : Sg) : Prop := ((z0 = 0 → wpX7_makeAgain_L115 Q c0 c1 x2 x3 c4 x5 x6 σ) ∧ (¬ (z0 = 0) → wpX5_innerEnds c4 0 x6 σ (fun r13 σ13 => ((((2 + r13) + x6) ≤ x2 → wpX7_makeAgain_L135 Q c0 c1 x3 c4 x5 x6 σ13) ∧ (¬ (((2 + r13) + x6) ≤ x2) → wpX7_makeAgain_L115 Q c0 c1 x2 x3 c4 x5 x6 σ13)))))
def wpX7_makeAgain_L90 (Q : Sg → Prop) (c0 : Nat) (c1 : Nat) (x2 : Int32) (x3 : Int32) (c4 : Nat) (x5 : Int32) (x6 : Int32) (σ : Sg) : Prop := wpX7_makeAgain_L91 Q c0 c1 x2 x3 c4 x5 x6 0 σ
def wpX7_makeAgain_L35 (Q : Sg → Prop) (c0 : Nat) (c1 : Nat) (x2 : Int32) (x3 : Int32) (σ : Sg) : Prop := wpX7_pieceAt c0 x3 σ (fun r7 σ7 => wpX5_nextMark r7 0 (σ7 r7 1) 1 σ7 (fun r8 σ8 => wpX5_nextMark r7 r8 (σ8 r7 1) 0 σ8 (fun r9 σ9 => ((¬ r8 = 0 → wpX7_makeAgain_L90 Q c0 c1 x2 x3 r7 r8 r9 σ9) ∧ (r8 = 0 → ((¬ r9 = (σ9 r7 1) → wpX7_makeAgain_L90 Q c0 c1 x2 x3 r7 r8 r9 σ9) ∧ (r9 = (σ9 r7 1) → wpX7_makeAgain_L91 Q c0 c1 x2 x3 r7 r8 r9 1 σ9)))))))
def wpX7_makeAgain_L8 (Q : Sg → Prop) : Nat → Nat → Nat → Int32 → Int32 → Int32 → Sg → Prop
  | 0, _, _, _, _, _, _ => False
  | n + 1, c0, c1, x2, x3, x4, σ => ((16 ≤ x4 → wpX7_makeAgain_L35 Q c0 c1 x2 x3 σ) ∧ (¬ (16 ≤ x4) → wpX7_pieceAt c0 x3 σ (fun r3 σ3 => ((¬ (σ3 r3 2) = 0 → wpX7_makeAgain_L35 Q c0 c1 x2 x3 σ3) ∧ ((σ3 r3 2) = 0 → ∀ x3_5 : Int32, x3_5 = x3 + 1 → ∀ x4_6 : Int32, x4_6 = x4 + 1 → (wpX7_makeAgain_L8 Q n) c0 c1 x2 x3_5 x4_6 σ3)))))
def wpX7_makeAgain (c0 : Nat) (c1 : Nat) (x2 : Int32) (σ : Sg) (Q : Sg → Prop) : Prop := ∀ x3_1 : Int32, x3_1 = σ c0 4 → ∃ nn, wpX7_makeAgain_L8 Q nn c0 c1 x2 x3_1 0 σ
set_option maxHeartbeats 8000000 in
set_option maxRecDepth 100000 in
theorem tX7_makeAgain {l : Launch} {G : GG} {tS : Nat × (Nat → Int32)} (hgo : go G = some tS) {c0 : Nat} {c1 : Nat} {x2 : Int32} {σ : Sg} {Q : Sg → Prop} (hc0 : isSender G c0) (hc1 : isAir G c1) (h : wpX7_makeAgain c0 c1 x2 σ Q) : Kv l G yX7_makeAgain (wB yX7_makeAgain prog_9_method_7_code 9 none) ({ frames := 3, cells := 0, slots := 0, locals := 77 }) [.ref (ga G c0), .ref (ga G c1), .int x2] σ Q := by
  refine K_of (cc := cX7_makeAgain) (maxL := 9) (ret := none) (by decide) rfl (Nat.le_of_ble_eq_true rfl) ?_
  intro p e s m args below meth c ls B hH hl
  obtain ⟨hx, hb, hr, hts, hown, hlk, hml, hK, hX⟩ := B
  replace hl : lv_has ls 9 [(0, .ref (ga G c0)), (1, .ref (ga G c1)), (2, .int x2)] := hl
  have hXN : NWs s := XS.nw hX hgo
  have hB : ∀ w ∈ BIG, w.before args s = true := fun w h9 => hts w (List.mem_cons_of_mem _ h9)
  clear hts
  have k34 := hB _ bw1_152
  have k40 := hB _ bw1_156
  have k76 : (Cond.fieldLinkNest RX7 76 "BearerHouse$Piece" "marks" "I" "BearerHouse").before args s = true := va_Nw.use rfl (hXN.1 ("BearerHouse$Sender", 76, "BearerHouse$Piece", "marks", "I", "BearerHouse") (List.mem_of_getElem? (i := 50) rfl))
  have k82 : (Cond.fieldLinkNest RX7 82 "BearerHouse$Piece" "size" "I" "BearerHouse").before args s = true := va_Nw.use rfl (hXN.1 ("BearerHouse$Sender", 82, "BearerHouse$Piece", "size", "I", "BearerHouse") (List.mem_of_getElem? (i := 52) rfl))
  have k102 := hB _ bw1_167
  have L139 : ∀ (n139 : Nat) (c0 : Nat) (hc0 : isSender G c0) (c1 : Nat) (hc1 : isAir G c1) (x3 : Int32) (c4 : Nat) (hc4 : isPiece G c4) (x5 : Int32) (x6 : Int32) (x8 : Int32) (σ : Sg) (H : Heap) (locs : List Loc) (ls : Array Slot), Hx G (aA G s.heap.size) s σ H locs → lv_has ls 9 [(0, .ref (ga G c0)), (1, .ref (ga G c1)), (3, .int x3), (4, .ref (ga G c4)), (5, .int x5), (6, .int x6), (8, .int x8)] → wpX7_makeAgain_L139 Q n139 c0 c1 x3 c4 x5 x6 x8 σ → W p l e ({ frames := 3, cells := 0, slots := 0, locals := 77 }) s m args below meth c H locs 0 0 (Zv G Q below args s) (F0 m 139 ls []) := by
    intro n139
    induction n139 with
    | zero =>
      intro c0 hc0 c1 hc1 x3 c4 hc4 x5 x6 x8 σ H locs ls hH hl h
      exact False.elim h
    | succ n139 ih139 =>
      intro c0 hc0 c1 hc1 x3 c4 hc4 x5 x6 x8 σ H locs ls hH hl h
      unfold wpX7_makeAgain_L139 at h
      refine lv_iload hx hb dX7_makeAgain_139 (lv_at hl 6 rfl) ?_
      refine lv_iload hx hb dX7_makeAgain_141 (lv_at hl 5 rfl) ?_
      refine lv_icmp_ge (tgt := 159) hx hb dX7_makeAgain_143 (by decide) (fun q17 => ?_) (fun q17 => ?_)
      · replace h := h.1 q17
        refine lv_aload_n hx hb dX7_makeAgain_159 rfl (lv_at hl 0 rfl) ?_
        refine lv_dup hx hb dX7_makeAgain_160 rfl ?_
        refine g_geti hx hb hB inB7 hown hK hH (c0 := c0) hc0.1 rfl 6 (by decide) k40 rfl rfl dX7_makeAgain_161 ?_
        refine lv_iload hx hb dX7_makeAgain_164 (lv_at hl 5 rfl) ?_
        refine lv_iload hx hb dX7_makeAgain_166 (lv_at hl 4 rfl) ?_
        refine lv_isub hx hb dX7_makeAgain_168 ?_
        refine lv_isub hx hb dX7_makeAgain_169 ?_
        refine g_put hx hb hB inB7 tyX7 tyX7_ok nmX7 hown hK hH (c0 := c0) hc0.1 rfl 6 (by decide) k40 rfl rfl rfl rfl rfl dX7_makeAgain_170 (fun σ18 eσ18 H locs hH => ?_)
        replace h := h σ18 eσ18
        refine lv_aload_n hx hb dX7_makeAgain_173 rfl (lv_at hl 0 rfl) ?_
        refine lv_dup hx hb dX7_makeAgain_174 rfl ?_
        refine g_geti hx hb hB inB7 hown hK hH (c0 := c0) hc0.1 rfl 13 (by decide) k102 rfl rfl dX7_makeAgain_175 ?_
        refine lv_iconst (v := 1) hx hb dX7_makeAgain_178 (by decide) ?_
        refine lv_iadd hx hb dX7_makeAgain_179 ?_
        refine g_put hx hb hB inB7 tyX7 tyX7_ok nmX7 hown hK hH (c0 := c0) hc0.1 rfl 13 (by decide) k102 rfl rfl rfl rfl rfl dX7_makeAgain_180 (fun σ19 eσ19 H locs hH => ?_)
        replace h := h σ19 eσ19
        refine lv_aload hx hb dX7_makeAgain_183 (lv_at hl 3 rfl) ?_
        refine lv_aload_n hx hb dX7_makeAgain_185 rfl (lv_at hl 1 rfl) ?_
        refine lv_iload_n hx hb dX7_makeAgain_186 rfl (lv_at hl 2 rfl) ?_
        refine lv_iload hx hb dX7_makeAgain_187 (lv_at hl 4 rfl) ?_
        refine lv_iload hx hb dX7_makeAgain_189 (lv_at hl 5 rfl) ?_
        refine lv_aload_n hx hb dX7_makeAgain_191 rfl (lv_at hl 0 rfl) ?_
        refine g_callVi (As := []) (rest := [.int x6, .int x5, .int x3, .ref (ga G c1), .ref (ga G c4)]) ⟨hx, hb, hml, hown, hB⟩ hK hX aA_hA hH (c0 := c0) (tX7_countData (tS := tS) hgo hc0 h) (cwV 0 hB gVX7_105 rfl rfl rfl (by decide +kernel) ⟨Nat.le_of_ble_eq_true rfl, Nat.le_of_ble_eq_true rfl⟩) hc0.1 rfl rfl hl.1 rfl (lv_room (Nat.le_of_ble_eq_true rfl)) ⟨Nat.zero_le _, Nat.zero_le _⟩ dX7_makeAgain_192 (fun r20 σ20 H locs h hH => ?_)
        refine g_callVv (As := [.ref (ga G c1), .int x3, .int x5, .int x6, .int r20]) (rest := []) ⟨hx, hb, hml, hown, hB⟩ hK hX aA_hA hH (c0 := c4) (tX5_writeData hc4 hc1 h) (cwV 5 hB gVX7_109 rfl rfl rfl (by decide +kernel) ⟨Nat.le_of_ble_eq_true rfl, Nat.le_of_ble_eq_true rfl⟩) hc4.1 rfl rfl hl.1 rfl (lv_room (Nat.le_of_ble_eq_true rfl)) ⟨Nat.zero_le _, Nat.zero_le _⟩ dX7_makeAgain_195 (fun σ21 H locs h hH => ?_)
        exact g_vret hx hb hr hK hlk h hH dX7_makeAgain_198
      · replace h := h.2 q17
        refine lv_aload hx hb dX7_makeAgain_146 (lv_at hl 3 rfl) ?_
        refine lv_iload hx hb dX7_makeAgain_148 (lv_at hl 6 rfl) ?_
        refine g_callVv (As := [.int x8]) (rest := []) ⟨hx, hb, hml, hown, hB⟩ hK hX aA_hA hH (c0 := c4) (tX5_unmarkCell hc4 h) (cwV 1 hB gVX7_99 rfl rfl rfl (by decide +kernel) ⟨Nat.le_of_ble_eq_true rfl, Nat.le_of_ble_eq_true rfl⟩) hc4.1 rfl rfl hl.1 rfl (lv_room (Nat.le_of_ble_eq_true rfl)) ⟨Nat.zero_le _, Nat.zero_le _⟩ dX7_makeAgain_150 (fun σ22 H locs h hH => ?_)
        obtain ⟨x8_23, ex8_23⟩ : ∃ y : Int32, y = x8 + 1 := ⟨_, rfl⟩
        replace h := h x8_23 ex8_23
        refine lv_iinc (v := x8_23) (lv' := [(8, .int x8_23), (0, .ref (ga G c0)), (1, .ref (ga G c1)), (3, .int x3), (4, .ref (ga G c4)), (5, .int x5), (6, .int x6)]) hx hb dX7_makeAgain_153 hl (k := 6) rfl (by rw [ex8_23]; rfl) (by decide) rfl (fun ls hl => ?_)
        refine lv_goto (tgt := 139) hx hb dX7_makeAgain_156 (by decide) ?_
        exact ih139 c0 hc0 c1 hc1 x3 c4 hc4 x5 x6 x8_23 σ22 _ _ ls hH (lv_sub hl [1, 2, 3, 4, 5, 6, 0] rfl) h
  have L135 : ∀ (c0 : Nat) (hc0 : isSender G c0) (c1 : Nat) (hc1 : isAir G c1) (x3 : Int32) (c4 : Nat) (hc4 : isPiece G c4) (x5 : Int32) (x6 : Int32) (σ : Sg) (H : Heap) (locs : List Loc) (ls : Array Slot), Hx G (aA G s.heap.size) s σ H locs → lv_has ls 9 [(0, .ref (ga G c0)), (1, .ref (ga G c1)), (3, .int x3), (4, .ref (ga G c4)), (5, .int x5), (6, .int x6)] → wpX7_makeAgain_L135 Q c0 c1 x3 c4 x5 x6 σ → W p l e ({ frames := 3, cells := 0, slots := 0, locals := 77 }) s m args below meth c H locs 0 0 (Zv G Q below args s) (F0 m 135 ls []) := by
    intro c0 hc0 c1 hc1 x3 c4 hc4 x5 x6 σ H locs ls hH hl h
    unfold wpX7_makeAgain_L135 at h
    refine lv_iload hx hb dX7_makeAgain_135 (lv_at hl 4 rfl) ?_
    refine lv_istore (lv' := [(8, .int x5), (0, .ref (ga G c0)), (1, .ref (ga G c1)), (3, .int x3), (4, .ref (ga G c4)), (5, .int x5), (6, .int x6)]) hx hb dX7_makeAgain_137 hl (by decide) rfl (fun ls hl => ?_)
    obtain ⟨nn, h⟩ := h
    exact L139 nn c0 hc0 c1 hc1 x3 c4 hc4 x5 x6 x5 σ _ _ ls hH (lv_sub hl [1, 2, 3, 4, 5, 6, 0] rfl) h
  have L115 : ∀ (c0 : Nat) (hc0 : isSender G c0) (c1 : Nat) (hc1 : isAir G c1) (x2 : Int32) (x3 : Int32) (c4 : Nat) (hc4 : isPiece G c4) (x5 : Int32) (x6 : Int32) (σ : Sg) (H : Heap) (locs : List Loc) (ls : Array Slot), Hx G (aA G s.heap.size) s σ H locs → lv_has ls 9 [(0, .ref (ga G c0)), (1, .ref (ga G c1)), (2, .int x2), (3, .int x3), (4, .ref (ga G c4)), (5, .int x5), (6, .int x6)] → wpX7_makeAgain_L115 Q c0 c1 x2 x3 c4 x5 x6 σ → W p l e ({ frames := 3, cells := 0, slots := 0, locals := 77 }) s m args below meth c H locs 0 0 (Zv G Q below args s) (F0 m 115 ls []) := by
    intro c0 hc0 c1 hc1 x2 x3 c4 hc4 x5 x6 σ H locs ls hH hl h
    unfold wpX7_makeAgain_L115 at h
    refine lv_iload_n hx hb dX7_makeAgain_115 rfl (lv_at hl 2 rfl) ?_
    refine lv_iconst (v := 4) hx hb dX7_makeAgain_116 (by decide) ?_
    refine lv_icmp_ge (tgt := 121) hx hb dX7_makeAgain_117 (by decide) (fun q15 => ?_) (fun q15 => ?_)
    · replace h := h.1 q15
      refine lv_aload hx hb dX7_makeAgain_121 (lv_at hl 4 rfl) ?_
      refine lv_iload hx hb dX7_makeAgain_123 (lv_at hl 5 rfl) ?_
      refine lv_iload hx hb dX7_makeAgain_125 (lv_at hl 6 rfl) ?_
      refine lv_iload_n hx hb dX7_makeAgain_127 rfl (lv_at hl 2 rfl) ?_
      refine lv_iconst (v := 3) hx hb dX7_makeAgain_128 (by decide) ?_
      refine lv_isub hx hb dX7_makeAgain_129 ?_
      refine g_callVi (As := [.int x5, .int x6, .int (x2 - 3)]) (rest := []) ⟨hx, hb, hml, hown, hB⟩ hK hX aA_hA hH (c0 := c4) (tX5_fitting hc4 h) (cwV 3 hB gVX7_95 rfl rfl rfl (by decide +kernel) ⟨Nat.le_of_ble_eq_true rfl, Nat.le_of_ble_eq_true rfl⟩) hc4.1 rfl rfl hl.1 rfl (lv_room (Nat.le_of_ble_eq_true rfl)) ⟨Nat.zero_le _, Nat.zero_le _⟩ dX7_makeAgain_130 (fun r16 σ16 H locs h hH => ?_)
      refine lv_istore (lv' := [(6, .int r16), (0, .ref (ga G c0)), (1, .ref (ga G c1)), (2, .int x2), (3, .int x3), (4, .ref (ga G c4)), (5, .int x5)]) hx hb dX7_makeAgain_133 hl (by decide) rfl (fun ls hl => ?_)
      exact L135 c0 hc0 c1 hc1 x3 c4 hc4 x5 r16 σ16 _ _ ls hH (lv_sub hl [1, 2, 4, 5, 6, 0] rfl) h
    · replace h := h.2 q15
      exact g_vret hx hb hr hK hlk h hH dX7_makeAgain_120
  have L91 : ∀ (c0 : Nat) (hc0 : isSender G c0) (c1 : Nat) (hc1 : isAir G c1) (x2 : Int32) (x3 : Int32) (c4 : Nat) (hc4 : isPiece G c4) (x5 : Int32) (x6 : Int32) (z0 : Int32) (σ : Sg) (H : Heap) (locs : List Loc) (ls : Array Slot), Hx G (aA G s.heap.size) s σ H locs → lv_has ls 9 [(0, .ref (ga G c0)), (1, .ref (ga G c1)), (2, .int x2), (3, .int x3), (4, .ref (ga G c4)), (5, .int x5), (6, .int x6)] → wpX7_makeAgain_L91 Q c0 c1 x2 x3 c4 x5 x6 z0 σ → W p l e ({ frames := 3, cells := 0, slots := 0, locals := 77 }) s m args below meth c H locs 0 0 (Zv G Q below args s) (F0 m 91 ls [.int z0]) := by
    intro c0 hc0 c1 hc1 x2 x3 c4 hc4 x5 x6 z0 σ H locs ls hH hl h
    unfold wpX7_makeAgain_L91 at h
    refine lv_istore (lv' := [(7, .int z0), (0, .ref (ga G c0)), (1, .ref (ga G c1)), (2, .int x2), (3, .int x3), (4, .ref (ga G c4)), (5, .int x5), (6, .int x6)]) hx hb dX7_makeAgain_91 hl (by decide) rfl (fun ls hl => ?_)
    refine lv_iload hx hb dX7_makeAgain_93 (lv_at hl 0 rfl) ?_
    refine lv_if_eq (tgt := 115) hx hb dX7_makeAgain_95 (by decide) (fun q12 => ?_) (fun q12 => ?_)
    · replace h := h.1 q12
      exact L115 c0 hc0 c1 hc1 x2 x3 c4 hc4 x5 x6 σ _ _ ls hH (lv_sub hl [1, 2, 3, 4, 5, 6, 7] rfl) h
    · replace h := h.2 q12
      refine lv_iconst (v := 2) hx hb dX7_makeAgain_98 (by decide) ?_
      refine lv_aload hx hb dX7_makeAgain_99 (lv_at hl 5 rfl) ?_
      refine lv_iconst (v := 0) hx hb dX7_makeAgain_101 (by decide) ?_
      refine lv_iload hx hb dX7_makeAgain_102 (lv_at hl 7 rfl) ?_
      refine g_callVi (As := [.int 0, .int x6]) (rest := [.int 2]) ⟨hx, hb, hml, hown, hB⟩ hK hX aA_hA hH (c0 := c4) (tX5_innerEnds hc4 h) (cwV 2 hB gVX7_92 rfl rfl rfl (by decide +kernel) ⟨Nat.le_of_ble_eq_true rfl, Nat.le_of_ble_eq_true rfl⟩) hc4.1 rfl rfl hl.1 rfl (lv_room (Nat.le_of_ble_eq_true rfl)) ⟨Nat.zero_le _, Nat.zero_le _⟩ dX7_makeAgain_104 (fun r13 σ13 H locs h hH => ?_)
      refine lv_iadd hx hb dX7_makeAgain_107 ?_
      refine lv_iload hx hb dX7_makeAgain_108 (lv_at hl 7 rfl) ?_
      refine lv_iadd hx hb dX7_makeAgain_110 ?_
      refine lv_iload_n hx hb dX7_makeAgain_111 rfl (lv_at hl 3 rfl) ?_
      refine lv_icmp_le (tgt := 135) hx hb dX7_makeAgain_112 (by decide) (fun q14 => ?_) (fun q14 => ?_)
      · replace h := h.1 q14
        exact L135 c0 hc0 c1 hc1 x3 c4 hc4 x5 x6 σ13 _ _ ls hH (lv_sub hl [1, 2, 4, 5, 6, 7] rfl) h
      · replace h := h.2 q14
        exact L115 c0 hc0 c1 hc1 x2 x3 c4 hc4 x5 x6 σ13 _ _ ls hH (lv_sub hl [1, 2, 3, 4, 5, 6, 7] rfl) h
  have L90 : ∀ (c0 : Nat) (hc0 : isSender G c0) (c1 : Nat) (hc1 : isAir G c1) (x2 : Int32) (x3 : Int32) (c4 : Nat) (hc4 : isPiece G c4) (x5 : Int32) (x6 : Int32) (σ : Sg) (H : Heap) (locs : List Loc) (ls : Array Slot), Hx G (aA G s.heap.size) s σ H locs → lv_has ls 9 [(0, .ref (ga G c0)), (1, .ref (ga G c1)), (2, .int x2), (3, .int x3), (4, .ref (ga G c4)), (5, .int x5), (6, .int x6)] → wpX7_makeAgain_L90 Q c0 c1 x2 x3 c4 x5 x6 σ → W p l e ({ frames := 3, cells := 0, slots := 0, locals := 77 }) s m args below meth c H locs 0 0 (Zv G Q below args s) (F0 m 90 ls []) := by
    intro c0 hc0 c1 hc1 x2 x3 c4 hc4 x5 x6 σ H locs ls hH hl h
    unfold wpX7_makeAgain_L90 at h
    refine lv_iconst (v := 0) hx hb dX7_makeAgain_90 (by decide) ?_
    exact L91 c0 hc0 c1 hc1 x2 x3 c4 hc4 x5 x6 0 σ _ _ ls hH (lv_sub hl [0, 1, 2, 3, 4, 5, 6] rfl) h
  have L35 : ∀ (c0 : Nat) (hc0 : isSender G c0) (c1 : Nat) (hc1 : isAir G c1) (x2 : Int32) (x3 : Int32) (σ : Sg) (H : Heap) (locs : List Loc) (ls : Array Slot), Hx G (aA G s.heap.size) s σ H locs → lv_has ls 9 [(0, .ref (ga G c0)), (1, .ref (ga G c1)), (2, .int x2), (3, .int x3)] → wpX7_makeAgain_L35 Q c0 c1 x2 x3 σ → W p l e ({ frames := 3, cells := 0, slots := 0, locals := 77 }) s m args below meth c H locs 0 0 (Zv G Q below args s) (F0 m 35 ls []) := by
    intro c0 hc0 c1 hc1 x2 x3 σ H locs ls hH hl h
    unfold wpX7_makeAgain_L35 at h
    refine lv_aload_n hx hb dX7_makeAgain_35 rfl (lv_at hl 0 rfl) ?_
    refine lv_iload_n hx hb dX7_makeAgain_36 rfl (lv_at hl 3 rfl) ?_
    refine g_callVr (As := [.int x3]) (rest := []) ⟨hx, hb, hml, hown, hB⟩ hK hX aA_hA hH (c0 := c0) (tX7_pieceAt hc0 h) (cwV 1 hB gVX7_59 rfl rfl rfl (by decide +kernel) ⟨Nat.le_of_ble_eq_true rfl, Nat.le_of_ble_eq_true rfl⟩) hc0.1 rfl rfl hl.1 rfl (lv_room (Nat.le_of_ble_eq_true rfl)) ⟨Nat.zero_le _, Nat.zero_le _⟩ dX7_makeAgain_37 (fun r7 σ7 H locs h hH => ?_)
    obtain ⟨h, hp7⟩ := h
    refine lv_astore (lv' := [(4, .ref (ga G r7)), (0, .ref (ga G c0)), (1, .ref (ga G c1)), (2, .int x2), (3, .int x3)]) hx hb dX7_makeAgain_40 hl (by decide) rfl (fun ls hl => ?_)
    refine lv_aload hx hb dX7_makeAgain_42 (lv_at hl 0 rfl) ?_
    refine lv_iconst (v := 0) hx hb dX7_makeAgain_44 (by decide) ?_
    refine lv_aload hx hb dX7_makeAgain_45 (lv_at hl 0 rfl) ?_
    refine g_getiN hx hb hB inB5 hown hK hH (c0 := r7) hp7.1 rfl 1 (by decide) k82 rfl rfl dX7_makeAgain_47 ?_
    refine lv_iconst (v := 1) hx hb dX7_makeAgain_50 (by decide) ?_
    refine g_callVi (As := [.int 0, .int (σ7 r7 1), .int 1]) (rest := []) ⟨hx, hb, hml, hown, hB⟩ hK hX aA_hA hH (c0 := r7) (tX5_nextMark hp7 h) (cwV 3 hB gVX7_88 rfl rfl rfl (by decide +kernel) ⟨Nat.le_of_ble_eq_true rfl, Nat.le_of_ble_eq_true rfl⟩) hp7.1 rfl rfl hl.1 rfl (lv_room (Nat.le_of_ble_eq_true rfl)) ⟨Nat.zero_le _, Nat.zero_le _⟩ dX7_makeAgain_51 (fun r8 σ8 H locs h hH => ?_)
    refine lv_istore (lv' := [(5, .int r8), (4, .ref (ga G r7)), (0, .ref (ga G c0)), (1, .ref (ga G c1)), (2, .int x2), (3, .int x3)]) hx hb dX7_makeAgain_54 hl (by decide) rfl (fun ls hl => ?_)
    refine lv_aload hx hb dX7_makeAgain_56 (lv_at hl 1 rfl) ?_
    refine lv_iload hx hb dX7_makeAgain_58 (lv_at hl 0 rfl) ?_
    refine lv_aload hx hb dX7_makeAgain_60 (lv_at hl 1 rfl) ?_
    refine g_getiN hx hb hB inB5 hown hK hH (c0 := r7) hp7.1 rfl 1 (by decide) k82 rfl rfl dX7_makeAgain_62 ?_
    refine lv_iconst (v := 0) hx hb dX7_makeAgain_65 (by decide) ?_
    refine g_callVi (As := [.int r8, .int (σ8 r7 1), .int 0]) (rest := []) ⟨hx, hb, hml, hown, hB⟩ hK hX aA_hA hH (c0 := r7) (tX5_nextMark hp7 h) (cwV 3 hB gVX7_88 rfl rfl rfl (by decide +kernel) ⟨Nat.le_of_ble_eq_true rfl, Nat.le_of_ble_eq_true rfl⟩) hp7.1 rfl rfl hl.1 rfl (lv_room (Nat.le_of_ble_eq_true rfl)) ⟨Nat.zero_le _, Nat.zero_le _⟩ dX7_makeAgain_66 (fun r9 σ9 H locs h hH => ?_)
    refine lv_istore (lv' := [(6, .int r9), (5, .int r8), (4, .ref (ga G r7)), (0, .ref (ga G c0)), (1, .ref (ga G c1)), (2, .int x2), (3, .int x3)]) hx hb dX7_makeAgain_69 hl (by decide) rfl (fun ls hl => ?_)
    refine lv_iload hx hb dX7_makeAgain_71 (lv_at hl 1 rfl) ?_
    refine lv_if_ne (tgt := 90) hx hb dX7_makeAgain_73 (by decide) (fun q10 => ?_) (fun q10 => ?_)
    · replace h := h.1 q10
      exact L90 c0 hc0 c1 hc1 x2 x3 r7 hp7 r8 r9 σ9 _ _ ls hH (lv_sub hl [3, 4, 5, 6, 2, 1, 0] rfl) h
    · replace h := h.2 q10
      refine lv_iload hx hb dX7_makeAgain_76 (lv_at hl 0 rfl) ?_
      refine lv_aload hx hb dX7_makeAgain_78 (lv_at hl 2 rfl) ?_
      refine g_getiN hx hb hB inB5 hown hK hH (c0 := r7) hp7.1 rfl 1 (by decide) k82 rfl rfl dX7_makeAgain_80 ?_
      refine lv_icmp_ne (tgt := 90) hx hb dX7_makeAgain_83 (by decide) (fun q11 => ?_) (fun q11 => ?_)
      · replace h := h.1 q11
        exact L90 c0 hc0 c1 hc1 x2 x3 r7 hp7 r8 r9 σ9 _ _ ls hH (lv_sub hl [3, 4, 5, 6, 2, 1, 0] rfl) h
      · replace h := h.2 q11
        refine lv_iconst (v := 1) hx hb dX7_makeAgain_86 (by decide) ?_
        refine lv_goto (tgt := 91) hx hb dX7_makeAgain_87 (by decide) ?_
        exact L91 c0 hc0 c1 hc1 x2 x3 r7 hp7 r8 r9 1 σ9 _ _ ls hH (lv_sub hl [3, 4, 5, 6, 2, 1, 0] rfl) h
  have L8 : ∀ (n8 : Nat) (c0 : Nat) (hc0 : isSender G c0) (c1 : Nat) (hc1 : isAir G c1) (x2 : Int32) (x3 : Int32) (x4 : Int32) (σ : Sg) (H : Heap) (locs : List Loc) (ls : Array Slot), Hx G (aA G s.heap.size) s σ H locs → lv_has ls 9 [(0, .ref (ga G c0)), (1, .ref (ga G c1)), (2, .int x2), (3, .int x3), (4, .int x4)] → wpX7_makeAgain_L8 Q n8 c0 c1 x2 x3 x4 σ → W p l e ({ frames := 3, cells := 0, slots := 0, locals := 77 }) s m args below meth c H locs 0 0 (Zv G Q below args s) (F0 m 8 ls []) := by
    intro n8
    induction n8 with
    | zero =>
      intro c0 hc0 c1 hc1 x2 x3 x4 σ H locs ls hH hl h
      exact False.elim h
    | succ n8 ih8 =>
      intro c0 hc0 c1 hc1 x2 x3 x4 σ H locs ls hH hl h
      unfold wpX7_makeAgain_L8 at h
      refine lv_iload hx hb dX7_makeAgain_8 (lv_at hl 4 rfl) ?_
      refine lv_bipush (v := 16) hx hb dX7_makeAgain_10 (by decide) ?_
      refine lv_icmp_ge (tgt := 35) hx hb dX7_makeAgain_12 (by decide) (fun q2 => ?_) (fun q2 => ?_)
      · replace h := h.1 q2
        exact L35 c0 hc0 c1 hc1 x2 x3 σ _ _ ls hH (lv_sub hl [0, 1, 2, 3] rfl) h
      · replace h := h.2 q2
        refine lv_aload_n hx hb dX7_makeAgain_15 rfl (lv_at hl 0 rfl) ?_
        refine lv_iload_n hx hb dX7_makeAgain_16 rfl (lv_at hl 3 rfl) ?_
        refine g_callVr (As := [.int x3]) (rest := []) ⟨hx, hb, hml, hown, hB⟩ hK hX aA_hA hH (c0 := c0) (tX7_pieceAt hc0 h) (cwV 1 hB gVX7_59 rfl rfl rfl (by decide +kernel) ⟨Nat.le_of_ble_eq_true rfl, Nat.le_of_ble_eq_true rfl⟩) hc0.1 rfl rfl hl.1 rfl (lv_room (Nat.le_of_ble_eq_true rfl)) ⟨Nat.zero_le _, Nat.zero_le _⟩ dX7_makeAgain_17 (fun r3 σ3 H locs h hH => ?_)
        obtain ⟨h, hp3⟩ := h
        refine g_getiN hx hb hB inB5 hown hK hH (c0 := r3) hp3.1 rfl 2 (by decide) k76 rfl rfl dX7_makeAgain_20 ?_
        refine lv_if_ne (tgt := 35) hx hb dX7_makeAgain_23 (by decide) (fun q4 => ?_) (fun q4 => ?_)
        · replace h := h.1 q4
          exact L35 c0 hc0 c1 hc1 x2 x3 σ3 _ _ ls hH (lv_sub hl [0, 1, 2, 3] rfl) h
        · replace h := h.2 q4
          obtain ⟨x3_5, ex3_5⟩ : ∃ y : Int32, y = x3 + 1 := ⟨_, rfl⟩
          replace h := h x3_5 ex3_5
          refine lv_iinc (v := x3_5) (lv' := [(3, .int x3_5), (0, .ref (ga G c0)), (1, .ref (ga G c1)), (2, .int x2), (4, .int x4)]) hx hb dX7_makeAgain_26 hl (k := 3) rfl (by rw [ex3_5]; rfl) (by decide) rfl (fun ls hl => ?_)
          obtain ⟨x4_6, ex4_6⟩ : ∃ y : Int32, y = x4 + 1 := ⟨_, rfl⟩
          replace h := h x4_6 ex4_6
          refine lv_iinc (v := x4_6) (lv' := [(4, .int x4_6), (3, .int x3_5), (0, .ref (ga G c0)), (1, .ref (ga G c1)), (2, .int x2)]) hx hb dX7_makeAgain_29 hl (k := 4) rfl (by rw [ex4_6]; rfl) (by decide) rfl (fun ls hl => ?_)
          refine lv_goto (tgt := 8) hx hb dX7_makeAgain_32 (by decide) ?_
          exact ih8 c0 hc0 c1 hc1 x2 x3_5 x4_6 σ3 _ _ ls hH (lv_sub hl [2, 3, 4, 1, 0] rfl) h
  unfold wpX7_makeAgain at h
  refine lv_aload_n hx hb dX7_makeAgain_0 rfl (lv_at hl 0 rfl) ?_
  refine g_geti hx hb hB inB7 hown hK hH (c0 := c0) hc0.1 rfl 4 (by decide) k34 rfl rfl dX7_makeAgain_1 ?_
  refine lv_topi (fun x3_1 ex3_1 => ?_)
  replace h := h x3_1 ex3_1
  refine lv_istore_n (lv' := [(3, .int x3_1), (0, .ref (ga G c0)), (1, .ref (ga G c1)), (2, .int x2)]) hx hb dX7_makeAgain_4 rfl hl (by decide) rfl (fun ls hl => ?_)
  refine lv_iconst (v := 0) hx hb dX7_makeAgain_5 (by decide) ?_
  refine lv_istore (lv' := [(4, .int 0), (3, .int x3_1), (0, .ref (ga G c0)), (1, .ref (ga G c1)), (2, .int x2)]) hx hb dX7_makeAgain_6 hl (by decide) rfl (fun ls hl => ?_)
  obtain ⟨nn, h⟩ := h
  exact L8 nn c0 hc0 c1 hc1 x2 x3_1 0 σ _ _ ls hH (lv_sub hl [2, 3, 4, 1, 0] rfl) h
def wpX7_makeNew_L141 (tb : Nat → Int32) (Q : Sg → Prop) (c0 : Nat) (c1 : Nat) (c4 : Nat) (σ : Sg) : Prop := ∀ σ11 : Sg, σ11 = up2 σ c0 5 ((σ c0 5) + 1) → wpX7_countData c0 σ11 (fun r12 σ12 => wpX5_writeData c4 c1 ((σ11 c0 5) - 1) 0 (σ11 c4 1) r12 σ12 (fun σ13 => Q σ13))
def wpX7_makeNew_L123 (tb : Nat → Int32) (Q : Sg → Prop) (K54 : Nat → Nat → Nat → Nat → Int32 → Int32 → Sg → Prop) (c0 : Nat) (c1 : Nat) (c3 : Nat) (c4 : Nat) (x5 : Int32) (x6 : Int32) (σ : Sg) : Prop := wpX4_takeCell (c0 + 2) σ (fun r18 σ18 => wpX5_append c4 r18 σ18 (fun σ19 => ∀ x6_20 : Int32, x6_20 = x6 + 1 → K54 c0 c1 c3 c4 x5 x6_20 σ19))
def wpX7_makeNew_L94 (tb : Nat → Int32) (Q : Sg → Prop) (K54 : Nat → Nat → Nat → Nat → Int32 → Int32 → Sg → Prop) (c0 : Nat) (c1 : Nat) (c3 : Nat) (c4 : Nat) (x6 : Int32) (z0 : Int32) (z1 : Int32) (σ : Sg) : Prop := ∀ x5_14 : Int32, x5_14 = z1 - z0 → ((0 ≤ x5_14 → ((¬ (σ (c0 + 2) 12) = 0 → wpX7_makeNew_L123 tb Q K54 c0 c1 c3 c4 x5_14 x6 σ) ∧ ((σ (c0 + 2) 12) = 0 → wpX4_openFront tb (c0 + 2) c3 σ (fun σ17 => wpX7_makeNew_L123 tb Q K54 c0 c1 c3 c4 x5_14 x6 σ17)))) ∧ (¬ (0 ≤ x5_14) → wpX7_makeNew_L141 tb Q c0 c1 c4 σ))
def wpX7_makeNew_L54 (tb : Nat → Int32) (Q : Sg → Prop) : Nat → Nat → Nat → Nat → Nat → Int32 → Int32 → Sg → Prop
  | 0, _, _, _, _, _, _, _ => False
  | n + 1, c0, c1, c3, c4, x5, x6, σ => ((240 ≤ x6 → wpX7_makeNew_L141 tb Q c0 c1 c4 σ) ∧ (¬ (240 ≤ x6) → (((σ (c0 + 2) 9) ≤ 0 → wpX7_makeNew_L141 tb Q c0 c1 c4 σ) ∧ (¬ ((σ (c0 + 2) 9) ≤ 0) → wpX5_has c4 (x6 - 1) 512 σ (fun r9 σ9 => ((r9 = 0 → wpX7_makeNew_L94 tb Q (wpX7_makeNew_L54 tb Q n) c0 c1 c3 c4 x6 1 x5 σ9) ∧ (¬ (r9 = 0) → wpX7_makeNew_L94 tb Q (wpX7_makeNew_L54 tb Q n) c0 c1 c3 c4 x6 2 x5 σ9)))))))
def wpX7_makeNew (tb : Nat → Int32) (c0 : Nat) (c1 : Nat) (x2 : Int32) (c3 : Nat) (σ : Sg) (Q : Sg → Prop) : Prop := (((σ (c0 + 2) 9) = 0 → Q σ) ∧ (¬ ((σ (c0 + 2) 9) = 0) → ((16 ≤ ((σ c0 5) - (σ c0 4)) → Q σ) ∧ (¬ (16 ≤ ((σ c0 5) - (σ c0 4))) → ((3 ≤ x2 → wpX7_pieceAt c0 (σ c0 5) σ (fun r4 σ4 => wpX5_clear r4 0 σ4 (fun σ5 => ∀ x5_6 : Int32, x5_6 = x2 - 2 → ∃ nn, wpX7_makeNew_L54 tb Q nn c0 c1 c3 r4 x5_6 0 σ5))) ∧ (¬ (3 ≤ x2) → Q σ))))))
set_option maxHeartbeats 8000000 in
set_option maxRecDepth 100000 in
theorem tX7_makeNew {l : Launch} {G : GG} {tS : Nat × (Nat → Int32)} (hgo : go G = some tS) {c0 : Nat} {c1 : Nat} {x2 : Int32} {c3 : Nat} {σ : Sg} {Q : Sg → Prop} (hc0 : isSender G c0) (hc1 : isAir G c1) (hc3 : isCipher G c3) (h : wpX7_makeNew tS.2 c0 c1 x2 c3 σ Q) : Kv l G yX7_makeNew (wB yX7_makeNew prog_9_method_8_code 7 none) ({ frames := 4, cells := 0, slots := 0, locals := 96 }) [.ref (ga G c0), .ref (ga G c1), .int x2, .ref (ga G c3)] σ Q := by
  refine K_of (cc := cX7_makeNew) (maxL := 7) (ret := none) (by decide) rfl (Nat.le_of_ble_eq_true rfl) ?_
  intro p e s m args below meth c ls B hH hl
  obtain ⟨hx, hb, hr, hts, hown, hlk, hml, hK, hX⟩ := B
  replace hl : lv_has ls 7 [(0, .ref (ga G c0)), (1, .ref (ga G c1)), (2, .int x2), (3, .ref (ga G c3))] := hl
  have hXN : NWs s := XS.nw hX hgo
  have hB : ∀ w ∈ BIG, w.before args s = true := fun w h9 => hts w (List.mem_cons_of_mem _ h9)
  clear hts
  have k29 := hB _ bw1_145
  have k34 := hB _ bw1_152
  have k37 := hB _ bw1_154
  have k56 : (Cond.fieldLinkNest RX7 56 "BearerHouse$Outbox" "waiting" "I" "BearerHouse").before args s = true := va_Nw.use rfl (hXN.1 ("BearerHouse$Sender", 56, "BearerHouse$Outbox", "waiting", "I", "BearerHouse") (List.mem_of_getElem? (i := 49) rfl))
  have k82 : (Cond.fieldLinkNest RX7 82 "BearerHouse$Piece" "size" "I" "BearerHouse").before args s = true := va_Nw.use rfl (hXN.1 ("BearerHouse$Sender", 82, "BearerHouse$Piece", "size", "I", "BearerHouse") (List.mem_of_getElem? (i := 52) rfl))
  have k120 : (Cond.fieldLinkNest RX7 120 "BearerHouse$Outbox" "gone" "I" "BearerHouse").before args s = true := va_Nw.use rfl (hXN.1 ("BearerHouse$Sender", 120, "BearerHouse$Outbox", "gone", "I", "BearerHouse") (List.mem_of_getElem? (i := 46) rfl))
  have L141 : ∀ (c0 : Nat) (hc0 : isSender G c0) (c1 : Nat) (hc1 : isAir G c1) (c4 : Nat) (hc4 : isPiece G c4) (σ : Sg) (H : Heap) (locs : List Loc) (ls : Array Slot), Hx G (aA G s.heap.size) s σ H locs → lv_has ls 7 [(0, .ref (ga G c0)), (1, .ref (ga G c1)), (4, .ref (ga G c4))] → wpX7_makeNew_L141 tS.2 Q c0 c1 c4 σ → W p l e ({ frames := 4, cells := 0, slots := 0, locals := 96 }) s m args below meth c H locs 0 0 (Zv G Q below args s) (F0 m 141 ls []) := by
    intro c0 hc0 c1 hc1 c4 hc4 σ H locs ls hH hl h
    unfold wpX7_makeNew_L141 at h
    refine lv_aload_n hx hb dX7_makeNew_141 rfl (lv_at hl 0 rfl) ?_
    refine lv_dup hx hb dX7_makeNew_142 rfl ?_
    refine g_geti hx hb hB inB7 hown hK hH (c0 := c0) hc0.1 rfl 5 (by decide) k37 rfl rfl dX7_makeNew_143 ?_
    refine lv_iconst (v := 1) hx hb dX7_makeNew_146 (by decide) ?_
    refine lv_iadd hx hb dX7_makeNew_147 ?_
    refine g_put hx hb hB inB7 tyX7 tyX7_ok nmX7 hown hK hH (c0 := c0) hc0.1 rfl 5 (by decide) k37 rfl rfl rfl rfl rfl dX7_makeNew_148 (fun σ11 eσ11 H locs hH => ?_)
    replace h := h σ11 eσ11
    refine lv_aload hx hb dX7_makeNew_151 (lv_at hl 2 rfl) ?_
    refine lv_aload_n hx hb dX7_makeNew_153 rfl (lv_at hl 1 rfl) ?_
    refine lv_aload_n hx hb dX7_makeNew_154 rfl (lv_at hl 0 rfl) ?_
    refine g_geti hx hb hB inB7 hown hK hH (c0 := c0) hc0.1 rfl 5 (by decide) k37 rfl rfl dX7_makeNew_155 ?_
    refine lv_iconst (v := 1) hx hb dX7_makeNew_158 (by decide) ?_
    refine lv_isub hx hb dX7_makeNew_159 ?_
    refine lv_iconst (v := 0) hx hb dX7_makeNew_160 (by decide) ?_
    refine lv_aload hx hb dX7_makeNew_161 (lv_at hl 2 rfl) ?_
    refine g_getiN hx hb hB inB5 hown hK hH (c0 := c4) hc4.1 rfl 1 (by decide) k82 rfl rfl dX7_makeNew_163 ?_
    refine lv_aload_n hx hb dX7_makeNew_166 rfl (lv_at hl 0 rfl) ?_
    refine g_callVi (As := []) (rest := [.int (σ11 c4 1), .int 0, .int ((σ11 c0 5) - 1), .ref (ga G c1), .ref (ga G c4)]) ⟨hx, hb, hml, hown, hB⟩ hK hX aA_hA hH (c0 := c0) (tX7_countData (tS := tS) hgo hc0 h) (cwV 0 hB gVX7_105 rfl rfl rfl (by decide +kernel) ⟨Nat.le_of_ble_eq_true rfl, Nat.le_of_ble_eq_true rfl⟩) hc0.1 rfl rfl hl.1 rfl (lv_room (Nat.le_of_ble_eq_true rfl)) ⟨Nat.zero_le _, Nat.zero_le _⟩ dX7_makeNew_167 (fun r12 σ12 H locs h hH => ?_)
    refine g_callVv (As := [.ref (ga G c1), .int ((σ11 c0 5) - 1), .int 0, .int (σ11 c4 1), .int r12]) (rest := []) ⟨hx, hb, hml, hown, hB⟩ hK hX aA_hA hH (c0 := c4) (tX5_writeData hc4 hc1 h) (cwV 5 hB gVX7_109 rfl rfl rfl (by decide +kernel) ⟨Nat.le_of_ble_eq_true rfl, Nat.le_of_ble_eq_true rfl⟩) hc4.1 rfl rfl hl.1 rfl (lv_room (Nat.le_of_ble_eq_true rfl)) ⟨Nat.zero_le _, Nat.zero_le _⟩ dX7_makeNew_170 (fun σ13 H locs h hH => ?_)
    exact g_vret hx hb hr hK hlk h hH dX7_makeNew_173
  have L54 : ∀ (n54 : Nat) (c0 : Nat) (hc0 : isSender G c0) (c1 : Nat) (hc1 : isAir G c1) (c3 : Nat) (hc3 : isCipher G c3) (c4 : Nat) (hc4 : isPiece G c4) (x5 : Int32) (x6 : Int32) (σ : Sg) (H : Heap) (locs : List Loc) (ls : Array Slot), Hx G (aA G s.heap.size) s σ H locs → lv_has ls 7 [(0, .ref (ga G c0)), (1, .ref (ga G c1)), (3, .ref (ga G c3)), (4, .ref (ga G c4)), (5, .int x5), (6, .int x6)] → wpX7_makeNew_L54 tS.2 Q n54 c0 c1 c3 c4 x5 x6 σ → W p l e ({ frames := 4, cells := 0, slots := 0, locals := 96 }) s m args below meth c H locs 0 0 (Zv G Q below args s) (F0 m 54 ls []) := by
    intro n54
    induction n54 with
    | zero =>
      intro c0 hc0 c1 hc1 c3 hc3 c4 hc4 x5 x6 σ H locs ls hH hl h
      exact False.elim h
    | succ n54 ih54 =>
      have L123 : ∀ (c0 : Nat) (hc0 : isSender G c0) (c1 : Nat) (hc1 : isAir G c1) (c3 : Nat) (hc3 : isCipher G c3) (c4 : Nat) (hc4 : isPiece G c4) (x5 : Int32) (x6 : Int32) (σ : Sg) (H : Heap) (locs : List Loc) (ls : Array Slot), Hx G (aA G s.heap.size) s σ H locs → lv_has ls 7 [(0, .ref (ga G c0)), (1, .ref (ga G c1)), (3, .ref (ga G c3)), (4, .ref (ga G c4)), (5, .int x5), (6, .int x6)] → wpX7_makeNew_L123 tS.2 Q (wpX7_makeNew_L54 tS.2 Q n54) c0 c1 c3 c4 x5 x6 σ → W p l e ({ frames := 4, cells := 0, slots := 0, locals := 96 }) s m args below meth c H locs 0 0 (Zv G Q below args s) (F0 m 123 ls []) := by
        intro c0 hc0 c1 hc1 c3 hc3 c4 hc4 x5 x6 σ H locs ls hH hl h
        unfold wpX7_makeNew_L123 at h
        refine lv_aload hx hb dX7_makeNew_123 (lv_at hl 3 rfl) ?_
        refine lv_aload_n hx hb dX7_makeNew_125 rfl (lv_at hl 0 rfl) ?_
        refine g_getr hx hb hB inB7 hown hK hH (c0 := c0) hc0.1 rfl 0 (by decide) k29 rfl (c1 := c0 + 2) rfl dX7_makeNew_126 ?_
        refine g_callVi (As := []) (rest := [.ref (ga G c4)]) ⟨hx, hb, hml, hown, hB⟩ hK hX aA_hA hH (c0 := c0 + 2) (tX4_takeCell hc0.2.2.1 h) (cwV 0 hB gVX7_127 rfl rfl rfl (by decide +kernel) ⟨Nat.le_of_ble_eq_true rfl, Nat.le_of_ble_eq_true rfl⟩) hc0.2.2.1.1 rfl rfl hl.1 rfl (lv_room (Nat.le_of_ble_eq_true rfl)) ⟨Nat.zero_le _, Nat.zero_le _⟩ dX7_makeNew_129 (fun r18 σ18 H locs h hH => ?_)
        refine g_callVv (As := [.int r18]) (rest := []) ⟨hx, hb, hml, hown, hB⟩ hK hX aA_hA hH (c0 := c4) (tX5_append hc4 h) (cwV 1 hB gVX7_131 rfl rfl rfl (by decide +kernel) ⟨Nat.le_of_ble_eq_true rfl, Nat.le_of_ble_eq_true rfl⟩) hc4.1 rfl rfl hl.1 rfl (lv_room (Nat.le_of_ble_eq_true rfl)) ⟨Nat.zero_le _, Nat.zero_le _⟩ dX7_makeNew_132 (fun σ19 H locs h hH => ?_)
        obtain ⟨x6_20, ex6_20⟩ : ∃ y : Int32, y = x6 + 1 := ⟨_, rfl⟩
        replace h := h x6_20 ex6_20
        refine lv_iinc (v := x6_20) (lv' := [(6, .int x6_20), (0, .ref (ga G c0)), (1, .ref (ga G c1)), (3, .ref (ga G c3)), (4, .ref (ga G c4)), (5, .int x5)]) hx hb dX7_makeNew_135 hl (k := 5) rfl (by rw [ex6_20]; rfl) (by decide) rfl (fun ls hl => ?_)
        refine lv_goto (tgt := 54) hx hb dX7_makeNew_138 (by decide) ?_
        exact ih54 c0 hc0 c1 hc1 c3 hc3 c4 hc4 x5 x6_20 σ19 _ _ ls hH (lv_sub hl [1, 2, 3, 4, 5, 0] rfl) h
      have L94 : ∀ (c0 : Nat) (hc0 : isSender G c0) (c1 : Nat) (hc1 : isAir G c1) (c3 : Nat) (hc3 : isCipher G c3) (c4 : Nat) (hc4 : isPiece G c4) (x6 : Int32) (z0 : Int32) (z1 : Int32) (σ : Sg) (H : Heap) (locs : List Loc) (ls : Array Slot), Hx G (aA G s.heap.size) s σ H locs → lv_has ls 7 [(0, .ref (ga G c0)), (1, .ref (ga G c1)), (3, .ref (ga G c3)), (4, .ref (ga G c4)), (6, .int x6)] → wpX7_makeNew_L94 tS.2 Q (wpX7_makeNew_L54 tS.2 Q n54) c0 c1 c3 c4 x6 z0 z1 σ → W p l e ({ frames := 4, cells := 0, slots := 0, locals := 96 }) s m args below meth c H locs 0 0 (Zv G Q below args s) (F0 m 94 ls [.int z0, .int z1]) := by
        intro c0 hc0 c1 hc1 c3 hc3 c4 hc4 x6 z0 z1 σ H locs ls hH hl h
        unfold wpX7_makeNew_L94 at h
        refine lv_isub hx hb dX7_makeNew_94 ?_
        refine lv_topi (fun x5_14 ex5_14 => ?_)
        replace h := h x5_14 ex5_14
        refine lv_istore (lv' := [(5, .int x5_14), (0, .ref (ga G c0)), (1, .ref (ga G c1)), (3, .ref (ga G c3)), (4, .ref (ga G c4)), (6, .int x6)]) hx hb dX7_makeNew_95 hl (by decide) rfl (fun ls hl => ?_)
        refine lv_iload hx hb dX7_makeNew_97 (lv_at hl 0 rfl) ?_
        refine lv_if_ge (tgt := 105) hx hb dX7_makeNew_99 (by decide) (fun q15 => ?_) (fun q15 => ?_)
        · replace h := h.1 q15
          refine lv_aload_n hx hb dX7_makeNew_105 rfl (lv_at hl 1 rfl) ?_
          refine g_getr hx hb hB inB7 hown hK hH (c0 := c0) hc0.1 rfl 0 (by decide) k29 rfl (c1 := c0 + 2) rfl dX7_makeNew_106 ?_
          refine g_getiN hx hb hB inB4 hown hK hH (c0 := c0 + 2) hc0.2.2.1.1 rfl 12 (by decide) k120 rfl rfl dX7_makeNew_109 ?_
          refine lv_if_ne (tgt := 123) hx hb dX7_makeNew_112 (by decide) (fun q16 => ?_) (fun q16 => ?_)
          · replace h := h.1 q16
            exact L123 c0 hc0 c1 hc1 c3 hc3 c4 hc4 x5_14 x6 σ _ _ ls hH (lv_sub hl [1, 2, 3, 4, 0, 5] rfl) h
          · replace h := h.2 q16
            refine lv_aload_n hx hb dX7_makeNew_115 rfl (lv_at hl 1 rfl) ?_
            refine g_getr hx hb hB inB7 hown hK hH (c0 := c0) hc0.1 rfl 0 (by decide) k29 rfl (c1 := c0 + 2) rfl dX7_makeNew_116 ?_
            refine lv_aload_n hx hb dX7_makeNew_119 rfl (lv_at hl 3 rfl) ?_
            refine g_callVv (As := [.ref (ga G c3)]) (rest := []) ⟨hx, hb, hml, hown, hB⟩ hK hX aA_hA hH (c0 := c0 + 2) (tX4_openFront (tS := tS) hgo hc0.2.2.1 hc3 h) (cwV 1 hB gVX7_123 rfl rfl rfl (by decide +kernel) ⟨Nat.le_of_ble_eq_true rfl, Nat.le_of_ble_eq_true rfl⟩) hc0.2.2.1.1 rfl rfl hl.1 rfl (lv_room (Nat.le_of_ble_eq_true rfl)) ⟨Nat.zero_le _, Nat.zero_le _⟩ dX7_makeNew_120 (fun σ17 H locs h hH => ?_)
            exact L123 c0 hc0 c1 hc1 c3 hc3 c4 hc4 x5_14 x6 σ17 _ _ ls hH (lv_sub hl [1, 2, 3, 4, 0, 5] rfl) h
        · replace h := h.2 q15
          refine lv_goto (tgt := 141) hx hb dX7_makeNew_102 (by decide) ?_
          exact L141 c0 hc0 c1 hc1 c4 hc4 σ _ _ ls hH (lv_sub hl [1, 2, 4] rfl) h
      intro c0 hc0 c1 hc1 c3 hc3 c4 hc4 x5 x6 σ H locs ls hH hl h
      unfold wpX7_makeNew_L54 at h
      refine lv_iload hx hb dX7_makeNew_54 (lv_at hl 5 rfl) ?_
      refine lv_sipush (v := 240) hx hb dX7_makeNew_56 (by decide) ?_
      refine lv_icmp_ge (tgt := 141) hx hb dX7_makeNew_59 (by decide) (fun q7 => ?_) (fun q7 => ?_)
      · replace h := h.1 q7
        exact L141 c0 hc0 c1 hc1 c4 hc4 σ _ _ ls hH (lv_sub hl [0, 1, 3] rfl) h
      · replace h := h.2 q7
        refine lv_aload_n hx hb dX7_makeNew_62 rfl (lv_at hl 0 rfl) ?_
        refine g_getr hx hb hB inB7 hown hK hH (c0 := c0) hc0.1 rfl 0 (by decide) k29 rfl (c1 := c0 + 2) rfl dX7_makeNew_63 ?_
        refine g_getiN hx hb hB inB4 hown hK hH (c0 := c0 + 2) hc0.2.2.1.1 rfl 9 (by decide) k56 rfl rfl dX7_makeNew_66 ?_
        refine lv_if_le (tgt := 141) hx hb dX7_makeNew_69 (by decide) (fun q8 => ?_) (fun q8 => ?_)
        · replace h := h.1 q8
          exact L141 c0 hc0 c1 hc1 c4 hc4 σ _ _ ls hH (lv_sub hl [0, 1, 3] rfl) h
        · replace h := h.2 q8
          refine lv_iload hx hb dX7_makeNew_72 (lv_at hl 4 rfl) ?_
          refine lv_aload hx hb dX7_makeNew_74 (lv_at hl 3 rfl) ?_
          refine lv_iload hx hb dX7_makeNew_76 (lv_at hl 5 rfl) ?_
          refine lv_iconst (v := 1) hx hb dX7_makeNew_78 (by decide) ?_
          refine lv_isub hx hb dX7_makeNew_79 ?_
          refine lv_sipush (v := 512) hx hb dX7_makeNew_80 (by decide) ?_
          refine g_callVi (As := [.int (x6 - 1), .int 512]) (rest := [.int x5]) ⟨hx, hb, hml, hown, hB⟩ hK hX aA_hA hH (c0 := c4) (tX5_has hc4 h) (cwV 2 hB gVX7_116 rfl rfl rfl (by decide +kernel) ⟨Nat.le_of_ble_eq_true rfl, Nat.le_of_ble_eq_true rfl⟩) hc4.1 rfl rfl hl.1 rfl (lv_room (Nat.le_of_ble_eq_true rfl)) ⟨Nat.zero_le _, Nat.zero_le _⟩ dX7_makeNew_83 (fun r9 σ9 H locs h hH => ?_)
          refine lv_if_eq (tgt := 93) hx hb dX7_makeNew_86 (by decide) (fun q10 => ?_) (fun q10 => ?_)
          · replace h := h.1 q10
            refine lv_iconst (v := 1) hx hb dX7_makeNew_93 (by decide) ?_
            exact L94 c0 hc0 c1 hc1 c3 hc3 c4 hc4 x6 1 x5 σ9 _ _ ls hH (lv_sub hl [0, 1, 2, 3, 5] rfl) h
          · replace h := h.2 q10
            refine lv_iconst (v := 2) hx hb dX7_makeNew_89 (by decide) ?_
            refine lv_goto (tgt := 94) hx hb dX7_makeNew_90 (by decide) ?_
            exact L94 c0 hc0 c1 hc1 c3 hc3 c4 hc4 x6 2 x5 σ9 _ _ ls hH (lv_sub hl [0, 1, 2, 3, 5] rfl) h
  unfold wpX7_makeNew at h
  refine lv_aload_n hx hb dX7_makeNew_0 rfl (lv_at hl 0 rfl) ?_
  refine g_getr hx hb hB inB7 hown hK hH (c0 := c0) hc0.1 rfl 0 (by decide) k29 rfl (c1 := c0 + 2) rfl dX7_makeNew_1 ?_
  refine g_getiN hx hb hB inB4 hown hK hH (c0 := c0 + 2) hc0.2.2.1.1 rfl 9 (by decide) k56 rfl rfl dX7_makeNew_4 ?_
  refine lv_if_eq (tgt := 29) hx hb dX7_makeNew_7 (by decide) (fun q1 => ?_) (fun q1 => ?_)
  · replace h := h.1 q1
    exact g_vret hx hb hr hK hlk h hH dX7_makeNew_29
  · replace h := h.2 q1
    refine lv_aload_n hx hb dX7_makeNew_10 rfl (lv_at hl 0 rfl) ?_
    refine g_geti hx hb hB inB7 hown hK hH (c0 := c0) hc0.1 rfl 5 (by decide) k37 rfl rfl dX7_makeNew_11 ?_
    refine lv_aload_n hx hb dX7_makeNew_14 rfl (lv_at hl 0 rfl) ?_
    refine g_geti hx hb hB inB7 hown hK hH (c0 := c0) hc0.1 rfl 4 (by decide) k34 rfl rfl dX7_makeNew_15 ?_
    refine lv_isub hx hb dX7_makeNew_18 ?_
    refine lv_bipush (v := 16) hx hb dX7_makeNew_19 (by decide) ?_
    refine lv_icmp_ge (tgt := 29) hx hb dX7_makeNew_21 (by decide) (fun q2 => ?_) (fun q2 => ?_)
    · replace h := h.1 q2
      exact g_vret hx hb hr hK hlk h hH dX7_makeNew_29
    · replace h := h.2 q2
      refine lv_iload_n hx hb dX7_makeNew_24 rfl (lv_at hl 2 rfl) ?_
      refine lv_iconst (v := 3) hx hb dX7_makeNew_25 (by decide) ?_
      refine lv_icmp_ge (tgt := 30) hx hb dX7_makeNew_26 (by decide) (fun q3 => ?_) (fun q3 => ?_)
      · replace h := h.1 q3
        refine lv_aload_n hx hb dX7_makeNew_30 rfl (lv_at hl 0 rfl) ?_
        refine lv_aload_n hx hb dX7_makeNew_31 rfl (lv_at hl 0 rfl) ?_
        refine g_geti hx hb hB inB7 hown hK hH (c0 := c0) hc0.1 rfl 5 (by decide) k37 rfl rfl dX7_makeNew_32 ?_
        refine g_callVr (As := [.int (σ c0 5)]) (rest := []) ⟨hx, hb, hml, hown, hB⟩ hK hX aA_hA hH (c0 := c0) (tX7_pieceAt hc0 h) (cwV 1 hB gVX7_59 rfl rfl rfl (by decide +kernel) ⟨Nat.le_of_ble_eq_true rfl, Nat.le_of_ble_eq_true rfl⟩) hc0.1 rfl rfl hl.1 rfl (lv_room (Nat.le_of_ble_eq_true rfl)) ⟨Nat.zero_le _, Nat.zero_le _⟩ dX7_makeNew_35 (fun r4 σ4 H locs h hH => ?_)
        obtain ⟨h, hp4⟩ := h
        refine lv_astore (lv' := [(4, .ref (ga G r4)), (0, .ref (ga G c0)), (1, .ref (ga G c1)), (2, .int x2), (3, .ref (ga G c3))]) hx hb dX7_makeNew_38 hl (by decide) rfl (fun ls hl => ?_)
        refine lv_aload hx hb dX7_makeNew_40 (lv_at hl 0 rfl) ?_
        refine lv_iconst (v := 0) hx hb dX7_makeNew_42 (by decide) ?_
        refine g_callVv (As := [.int 0]) (rest := []) ⟨hx, hb, hml, hown, hB⟩ hK hX aA_hA hH (c0 := r4) (tX5_clear hp4 h) (cwV 1 hB gVX7_113 rfl rfl rfl (by decide +kernel) ⟨Nat.le_of_ble_eq_true rfl, Nat.le_of_ble_eq_true rfl⟩) hp4.1 rfl rfl hl.1 rfl (lv_room (Nat.le_of_ble_eq_true rfl)) ⟨Nat.zero_le _, Nat.zero_le _⟩ dX7_makeNew_43 (fun σ5 H locs h hH => ?_)
        refine lv_iload_n hx hb dX7_makeNew_46 rfl (lv_at hl 3 rfl) ?_
        refine lv_iconst (v := 2) hx hb dX7_makeNew_47 (by decide) ?_
        refine lv_isub hx hb dX7_makeNew_48 ?_
        refine lv_topi (fun x5_6 ex5_6 => ?_)
        replace h := h x5_6 ex5_6
        refine lv_istore (lv' := [(5, .int x5_6), (4, .ref (ga G r4)), (0, .ref (ga G c0)), (1, .ref (ga G c1)), (2, .int x2), (3, .ref (ga G c3))]) hx hb dX7_makeNew_49 hl (by decide) rfl (fun ls hl => ?_)
        refine lv_iconst (v := 0) hx hb dX7_makeNew_51 (by decide) ?_
        refine lv_istore (lv' := [(6, .int 0), (5, .int x5_6), (4, .ref (ga G r4)), (0, .ref (ga G c0)), (1, .ref (ga G c1)), (2, .int x2), (3, .ref (ga G c3))]) hx hb dX7_makeNew_52 hl (by decide) rfl (fun ls hl => ?_)
        obtain ⟨nn, h⟩ := h
        exact L54 nn c0 hc0 c1 hc1 c3 hc3 r4 hp4 x5_6 0 σ5 _ _ ls hH (lv_sub hl [3, 4, 6, 2, 1, 0] rfl) h
      · replace h := h.2 q3
        exact g_vret hx hb hr hK hlk h hH dX7_makeNew_29
def wpX7_meant (c0 : Nat) (x1 : Int32) (σ : Sg) (Q : Int32 → Sg → Prop) : Prop := Q ((σ c0 4) + ((x1 - (σ c0 4)) &&& 63)) σ
set_option maxHeartbeats 8000000 in
set_option maxRecDepth 100000 in
theorem tX7_meant {l : Launch} {G : GG} {c0 : Nat} {x1 : Int32} {σ : Sg} {Q : Int32 → Sg → Prop} (hc0 : isSender G c0) (h : wpX7_meant c0 x1 σ Q) : Ki l G yX7_meant (wB yX7_meant prog_9_method_10_code 2 (Option.some FieldType.int)) ({ frames := 0, cells := 0, slots := 0, locals := 0 }) [.ref (ga G c0), .int x1] σ Q := by
  refine K_of (cc := cX7_meant) (maxL := 2) (ret := (some .int)) (by decide) rfl (Nat.le_of_ble_eq_true rfl) ?_
  intro p e s m args below meth c ls B hH hl
  obtain ⟨hx, hb, hr, hts, hown, hlk, hml, hK, hX⟩ := B
  replace hl : lv_has ls 2 [(0, .ref (ga G c0)), (1, .int x1)] := hl
  have hB : ∀ w ∈ BIG, w.before args s = true := fun w h9 => hts w (List.mem_cons_of_mem _ h9)
  clear hts
  have k34 := hB _ bw1_152
  unfold wpX7_meant at h
  refine lv_aload_n hx hb dX7_meant_0 rfl (lv_at hl 0 rfl) ?_
  refine g_geti hx hb hB inB7 hown hK hH (c0 := c0) hc0.1 rfl 4 (by decide) k34 rfl rfl dX7_meant_1 ?_
  refine lv_iload_n hx hb dX7_meant_4 rfl (lv_at hl 1 rfl) ?_
  refine lv_aload_n hx hb dX7_meant_5 rfl (lv_at hl 0 rfl) ?_
  refine g_geti hx hb hB inB7 hown hK hH (c0 := c0) hc0.1 rfl 4 (by decide) k34 rfl rfl dX7_meant_6 ?_
  refine lv_isub hx hb dX7_meant_9 ?_
  refine lv_bipush (v := 63) hx hb dX7_meant_10 (by decide) ?_
  refine lv_iand hx hb dX7_meant_12 ?_
  refine lv_iadd hx hb dX7_meant_13 ?_
  exact g_iret hx hb hr hK hlk h hH dX7_meant_14
def wpX7_nameEntries_L92 (Q : Sg → Prop) (K35 : Nat → Nat → Int32 → Int32 → Int32 → Sg → Prop) (c0 : Nat) (c1 : Nat) (x2 : Int32) (x4 : Int32) (z0 : Int32) (z1 : Int32) (σ : Sg) : Prop := ∀ x3_16 : Int32, x3_16 = z1 + z0 → ∀ x4_17 : Int32, x4_17 = x4 + 1 → K35 c0 c1 x2 x3_16 x4_17 σ
def wpX7_nameEntries_L75 (Q : Sg → Prop) (K35 : Nat → Nat → Int32 → Int32 → Int32 → Sg → Prop) (c0 : Nat) (c1 : Nat) (x2 : Int32) (x3 : Int32) (x4 : Int32) (σ : Sg) : Prop := wpX0_at c1 x3 σ (fun r14 σ14 => ((128 ≤ r14 → wpX7_nameEntries_L92 Q K35 c0 c1 x2 x4 3 x3 σ14) ∧ (¬ (128 ≤ r14) → wpX7_nameEntries_L92 Q K35 c0 c1 x2 x4 1 x3 σ14)))
def wpX7_nameEntries_L35 (Q : Sg → Prop) : Nat → Nat → Nat → Int32 → Int32 → Int32 → Sg → Prop
  | 0, _, _, _, _, _, _ => False
  | n + 1, c0, c1, x2, x3, x4, σ => wpX0_at c1 x2 σ (fun r7 σ7 => ((r7 ≤ x4 → Q σ7) ∧ (¬ (r7 ≤ x4) → wpX0_at c1 x3 σ7 (fun r9 σ9 => wpX7_meant c0 r9 σ9 (fun r10 σ10 => (((σ10 c0 5) ≤ r10 → wpX7_nameEntries_L75 Q (wpX7_nameEntries_L35 Q n) c0 c1 x2 x3 x4 σ10) ∧ (¬ ((σ10 c0 5) ≤ r10) → wpX7_pieceAt c0 r10 σ10 (fun r12 σ12 => ∀ σ13 : Sg, σ13 = up2 σ12 r12 5 1 → wpX7_nameEntries_L75 Q (wpX7_nameEntries_L35 Q n) c0 c1 x2 x3 x4 σ13))))))))
def wpX7_nameEntries_L5 (Q : Sg → Prop) : Nat → Nat → Nat → Int32 → Int32 → Sg → Prop
  | 0, _, _, _, _, _ => False
  | n + 1, c0, c1, x2, x3, σ => (((σ c0 5) ≤ x3 → ∀ x3_3 : Int32, x3_3 = x2 + 2 → ∃ nn, wpX7_nameEntries_L35 Q nn c0 c1 x2 x3_3 0 σ) ∧ (¬ ((σ c0 5) ≤ x3) → wpX7_pieceAt c0 x3 σ (fun r4 σ4 => ∀ σ5 : Sg, σ5 = up2 σ4 r4 5 0 → ∀ x3_6 : Int32, x3_6 = x3 + 1 → (wpX7_nameEntries_L5 Q n) c0 c1 x2 x3_6 σ5)))
def wpX7_nameEntries (c0 : Nat) (c1 : Nat) (x2 : Int32) (σ : Sg) (Q : Sg → Prop) : Prop := ∀ x3_1 : Int32, x3_1 = σ c0 4 → ∃ nn, wpX7_nameEntries_L5 Q nn c0 c1 x2 x3_1 σ
set_option maxHeartbeats 8000000 in
set_option maxRecDepth 100000 in
theorem tX7_nameEntries {l : Launch} {G : GG} {tS : Nat × (Nat → Int32)} (hgo : go G = some tS) {c0 : Nat} {c1 : Nat} {x2 : Int32} {σ : Sg} {Q : Sg → Prop} (hc0 : isSender G c0) (hc1 : isAir G c1) (h : wpX7_nameEntries c0 c1 x2 σ Q) : Kv l G yX7_nameEntries (wB yX7_nameEntries prog_9_method_12_code 6 none) ({ frames := 1, cells := 0, slots := 0, locals := 21 }) [.ref (ga G c0), .ref (ga G c1), .int x2] σ Q := by
  refine K_of (cc := cX7_nameEntries) (maxL := 6) (ret := none) (by decide) rfl (Nat.le_of_ble_eq_true rfl) ?_
  intro p e s m args below meth c ls B hH hl
  obtain ⟨hx, hb, hr, hts, hown, hlk, hml, hK, hX⟩ := B
  replace hl : lv_has ls 6 [(0, .ref (ga G c0)), (1, .ref (ga G c1)), (2, .int x2)] := hl
  have hXN : NWs s := XS.nw hX hgo
  have hB : ∀ w ∈ BIG, w.before args s = true := fun w h9 => hts w (List.mem_cons_of_mem _ h9)
  clear hts
  have k34 := hB _ bw1_152
  have k37 := hB _ bw1_154
  have k153 : (Cond.fieldLinkNest RX7 153 "BearerHouse$Piece" "isNamed" "Z" "BearerHouse").before args s = true := va_Nw.use rfl (hXN.1 ("BearerHouse$Sender", 153, "BearerHouse$Piece", "isNamed", "Z", "BearerHouse") (List.mem_of_getElem? (i := 47) rfl))
  have L35 : ∀ (n35 : Nat) (c0 : Nat) (hc0 : isSender G c0) (c1 : Nat) (hc1 : isAir G c1) (x2 : Int32) (x3 : Int32) (x4 : Int32) (σ : Sg) (H : Heap) (locs : List Loc) (ls : Array Slot), Hx G (aA G s.heap.size) s σ H locs → lv_has ls 6 [(0, .ref (ga G c0)), (1, .ref (ga G c1)), (2, .int x2), (3, .int x3), (4, .int x4)] → wpX7_nameEntries_L35 Q n35 c0 c1 x2 x3 x4 σ → W p l e ({ frames := 1, cells := 0, slots := 0, locals := 21 }) s m args below meth c H locs 0 0 (Zv G Q below args s) (F0 m 35 ls []) := by
    intro n35
    induction n35 with
    | zero =>
      intro c0 hc0 c1 hc1 x2 x3 x4 σ H locs ls hH hl h
      exact False.elim h
    | succ n35 ih35 =>
      have L92 : ∀ (c0 : Nat) (hc0 : isSender G c0) (c1 : Nat) (hc1 : isAir G c1) (x2 : Int32) (x4 : Int32) (z0 : Int32) (z1 : Int32) (σ : Sg) (H : Heap) (locs : List Loc) (ls : Array Slot), Hx G (aA G s.heap.size) s σ H locs → lv_has ls 6 [(0, .ref (ga G c0)), (1, .ref (ga G c1)), (2, .int x2), (4, .int x4)] → wpX7_nameEntries_L92 Q (wpX7_nameEntries_L35 Q n35) c0 c1 x2 x4 z0 z1 σ → W p l e ({ frames := 1, cells := 0, slots := 0, locals := 21 }) s m args below meth c H locs 0 0 (Zv G Q below args s) (F0 m 92 ls [.int z0, .int z1]) := by
        intro c0 hc0 c1 hc1 x2 x4 z0 z1 σ H locs ls hH hl h
        unfold wpX7_nameEntries_L92 at h
        refine lv_iadd hx hb dX7_nameEntries_92 ?_
        refine lv_topi (fun x3_16 ex3_16 => ?_)
        replace h := h x3_16 ex3_16
        refine lv_istore_n (lv' := [(3, .int x3_16), (0, .ref (ga G c0)), (1, .ref (ga G c1)), (2, .int x2), (4, .int x4)]) hx hb dX7_nameEntries_93 rfl hl (by decide) rfl (fun ls hl => ?_)
        obtain ⟨x4_17, ex4_17⟩ : ∃ y : Int32, y = x4 + 1 := ⟨_, rfl⟩
        replace h := h x4_17 ex4_17
        refine lv_iinc (v := x4_17) (lv' := [(4, .int x4_17), (3, .int x3_16), (0, .ref (ga G c0)), (1, .ref (ga G c1)), (2, .int x2)]) hx hb dX7_nameEntries_94 hl (k := 4) rfl (by rw [ex4_17]; rfl) (by decide) rfl (fun ls hl => ?_)
        refine lv_goto (tgt := 35) hx hb dX7_nameEntries_97 (by decide) ?_
        exact ih35 c0 hc0 c1 hc1 x2 x3_16 x4_17 σ _ _ ls hH (lv_sub hl [2, 3, 4, 1, 0] rfl) h
      have L75 : ∀ (c0 : Nat) (hc0 : isSender G c0) (c1 : Nat) (hc1 : isAir G c1) (x2 : Int32) (x3 : Int32) (x4 : Int32) (σ : Sg) (H : Heap) (locs : List Loc) (ls : Array Slot), Hx G (aA G s.heap.size) s σ H locs → lv_has ls 6 [(0, .ref (ga G c0)), (1, .ref (ga G c1)), (2, .int x2), (3, .int x3), (4, .int x4)] → wpX7_nameEntries_L75 Q (wpX7_nameEntries_L35 Q n35) c0 c1 x2 x3 x4 σ → W p l e ({ frames := 1, cells := 0, slots := 0, locals := 21 }) s m args below meth c H locs 0 0 (Zv G Q below args s) (F0 m 75 ls []) := by
        intro c0 hc0 c1 hc1 x2 x3 x4 σ H locs ls hH hl h
        unfold wpX7_nameEntries_L75 at h
        refine lv_iload_n hx hb dX7_nameEntries_75 rfl (lv_at hl 3 rfl) ?_
        refine lv_aload_n hx hb dX7_nameEntries_76 rfl (lv_at hl 1 rfl) ?_
        refine lv_iload_n hx hb dX7_nameEntries_77 rfl (lv_at hl 3 rfl) ?_
        refine g_callVi (As := [.int x3]) (rest := [.int x3]) ⟨hx, hb, hml, hown, hB⟩ hK hX aA_hA hH (c0 := c1) (tX0_at hc1 h) (cwV 1 hB gVX7_140 rfl rfl rfl (by decide +kernel) ⟨Nat.le_of_ble_eq_true rfl, Nat.le_of_ble_eq_true rfl⟩) hc1.1 rfl rfl hl.1 rfl (lv_room (Nat.le_of_ble_eq_true rfl)) ⟨Nat.zero_le _, Nat.zero_le _⟩ dX7_nameEntries_78 (fun r14 σ14 H locs h hH => ?_)
        refine lv_sipush (v := 128) hx hb dX7_nameEntries_81 (by decide) ?_
        refine lv_icmp_ge (tgt := 91) hx hb dX7_nameEntries_84 (by decide) (fun q15 => ?_) (fun q15 => ?_)
        · replace h := h.1 q15
          refine lv_iconst (v := 3) hx hb dX7_nameEntries_91 (by decide) ?_
          exact L92 c0 hc0 c1 hc1 x2 x4 3 x3 σ14 _ _ ls hH (lv_sub hl [0, 1, 2, 4] rfl) h
        · replace h := h.2 q15
          refine lv_iconst (v := 1) hx hb dX7_nameEntries_87 (by decide) ?_
          refine lv_goto (tgt := 92) hx hb dX7_nameEntries_88 (by decide) ?_
          exact L92 c0 hc0 c1 hc1 x2 x4 1 x3 σ14 _ _ ls hH (lv_sub hl [0, 1, 2, 4] rfl) h
      intro c0 hc0 c1 hc1 x2 x3 x4 σ H locs ls hH hl h
      unfold wpX7_nameEntries_L35 at h
      refine lv_iload hx hb dX7_nameEntries_35 (lv_at hl 4 rfl) ?_
      refine lv_aload_n hx hb dX7_nameEntries_37 rfl (lv_at hl 1 rfl) ?_
      refine lv_iload_n hx hb dX7_nameEntries_38 rfl (lv_at hl 2 rfl) ?_
      refine g_callVi (As := [.int x2]) (rest := [.int x4]) ⟨hx, hb, hml, hown, hB⟩ hK hX aA_hA hH (c0 := c1) (tX0_at hc1 h) (cwV 1 hB gVX7_140 rfl rfl rfl (by decide +kernel) ⟨Nat.le_of_ble_eq_true rfl, Nat.le_of_ble_eq_true rfl⟩) hc1.1 rfl rfl hl.1 rfl (lv_room (Nat.le_of_ble_eq_true rfl)) ⟨Nat.zero_le _, Nat.zero_le _⟩ dX7_nameEntries_39 (fun r7 σ7 H locs h hH => ?_)
      refine lv_icmp_ge (tgt := 100) hx hb dX7_nameEntries_42 (by decide) (fun q8 => ?_) (fun q8 => ?_)
      · replace h := h.1 q8
        exact g_vret hx hb hr hK hlk h hH dX7_nameEntries_100
      · replace h := h.2 q8
        refine lv_aload_n hx hb dX7_nameEntries_45 rfl (lv_at hl 0 rfl) ?_
        refine lv_aload_n hx hb dX7_nameEntries_46 rfl (lv_at hl 1 rfl) ?_
        refine lv_iload_n hx hb dX7_nameEntries_47 rfl (lv_at hl 3 rfl) ?_
        refine g_callVi (As := [.int x3]) (rest := [.ref (ga G c0)]) ⟨hx, hb, hml, hown, hB⟩ hK hX aA_hA hH (c0 := c1) (tX0_at hc1 h) (cwV 1 hB gVX7_140 rfl rfl rfl (by decide +kernel) ⟨Nat.le_of_ble_eq_true rfl, Nat.le_of_ble_eq_true rfl⟩) hc1.1 rfl rfl hl.1 rfl (lv_room (Nat.le_of_ble_eq_true rfl)) ⟨Nat.zero_le _, Nat.zero_le _⟩ dX7_nameEntries_48 (fun r9 σ9 H locs h hH => ?_)
        refine g_callVi (As := [.int r9]) (rest := []) ⟨hx, hb, hml, hown, hB⟩ hK hX aA_hA hH (c0 := c0) (tX7_meant hc0 h) (cwV 1 hB gVX7_146 rfl rfl rfl (by decide +kernel) ⟨Nat.le_of_ble_eq_true rfl, Nat.le_of_ble_eq_true rfl⟩) hc0.1 rfl rfl hl.1 rfl (lv_room (Nat.le_of_ble_eq_true rfl)) ⟨Nat.zero_le _, Nat.zero_le _⟩ dX7_nameEntries_51 (fun r10 σ10 H locs h hH => ?_)
        refine lv_istore (lv' := [(5, .int r10), (0, .ref (ga G c0)), (1, .ref (ga G c1)), (2, .int x2), (3, .int x3), (4, .int x4)]) hx hb dX7_nameEntries_54 hl (by decide) rfl (fun ls hl => ?_)
        refine lv_iload hx hb dX7_nameEntries_56 (lv_at hl 0 rfl) ?_
        refine lv_aload_n hx hb dX7_nameEntries_58 rfl (lv_at hl 1 rfl) ?_
        refine g_geti hx hb hB inB7 hown hK hH (c0 := c0) hc0.1 rfl 5 (by decide) k37 rfl rfl dX7_nameEntries_59 ?_
        refine lv_icmp_ge (tgt := 75) hx hb dX7_nameEntries_62 (by decide) (fun q11 => ?_) (fun q11 => ?_)
        · replace h := h.1 q11
          exact L75 c0 hc0 c1 hc1 x2 x3 x4 σ10 _ _ ls hH (lv_sub hl [1, 2, 3, 4, 5] rfl) h
        · replace h := h.2 q11
          refine lv_aload_n hx hb dX7_nameEntries_65 rfl (lv_at hl 1 rfl) ?_
          refine lv_iload hx hb dX7_nameEntries_66 (lv_at hl 0 rfl) ?_
          refine g_callVr (As := [.int r10]) (rest := []) ⟨hx, hb, hml, hown, hB⟩ hK hX aA_hA hH (c0 := c0) (tX7_pieceAt hc0 h) (cwV 1 hB gVX7_59 rfl rfl rfl (by decide +kernel) ⟨Nat.le_of_ble_eq_true rfl, Nat.le_of_ble_eq_true rfl⟩) hc0.1 rfl rfl hl.1 rfl (lv_room (Nat.le_of_ble_eq_true rfl)) ⟨Nat.zero_le _, Nat.zero_le _⟩ dX7_nameEntries_68 (fun r12 σ12 H locs h hH => ?_)
          obtain ⟨h, hp12⟩ := h
          refine lv_iconst (v := 1) hx hb dX7_nameEntries_71 (by decide) ?_
          refine g_putN hx hb hB inB5 tyX5 tyX5_ok nmX5 hown hK hH (c0 := r12) hp12.1 rfl 5 (by decide) k153 rfl rfl rfl (vz_n vz1) (vz_f vz1) dX7_nameEntries_72 (fun σ13 eσ13 H locs hH => ?_)
          replace h := h σ13 eσ13
          exact L75 c0 hc0 c1 hc1 x2 x3 x4 σ13 _ _ ls hH (lv_sub hl [1, 2, 3, 4, 5] rfl) h
  have L5 : ∀ (n5 : Nat) (c0 : Nat) (hc0 : isSender G c0) (c1 : Nat) (hc1 : isAir G c1) (x2 : Int32) (x3 : Int32) (σ : Sg) (H : Heap) (locs : List Loc) (ls : Array Slot), Hx G (aA G s.heap.size) s σ H locs → lv_has ls 6 [(0, .ref (ga G c0)), (1, .ref (ga G c1)), (2, .int x2), (3, .int x3)] → wpX7_nameEntries_L5 Q n5 c0 c1 x2 x3 σ → W p l e ({ frames := 1, cells := 0, slots := 0, locals := 21 }) s m args below meth c H locs 0 0 (Zv G Q below args s) (F0 m 5 ls []) := by
    intro n5
    induction n5 with
    | zero =>
      intro c0 hc0 c1 hc1 x2 x3 σ H locs ls hH hl h
      exact False.elim h
    | succ n5 ih5 =>
      intro c0 hc0 c1 hc1 x2 x3 σ H locs ls hH hl h
      unfold wpX7_nameEntries_L5 at h
      refine lv_iload_n hx hb dX7_nameEntries_5 rfl (lv_at hl 3 rfl) ?_
      refine lv_aload_n hx hb dX7_nameEntries_6 rfl (lv_at hl 0 rfl) ?_
      refine g_geti hx hb hB inB7 hown hK hH (c0 := c0) hc0.1 rfl 5 (by decide) k37 rfl rfl dX7_nameEntries_7 ?_
      refine lv_icmp_ge (tgt := 28) hx hb dX7_nameEntries_10 (by decide) (fun q2 => ?_) (fun q2 => ?_)
      · replace h := h.1 q2
        refine lv_iload_n hx hb dX7_nameEntries_28 rfl (lv_at hl 2 rfl) ?_
        refine lv_iconst (v := 2) hx hb dX7_nameEntries_29 (by decide) ?_
        refine lv_iadd hx hb dX7_nameEntries_30 ?_
        refine lv_topi (fun x3_3 ex3_3 => ?_)
        replace h := h x3_3 ex3_3
        refine lv_istore_n (lv' := [(3, .int x3_3), (0, .ref (ga G c0)), (1, .ref (ga G c1)), (2, .int x2)]) hx hb dX7_nameEntries_31 rfl hl (by decide) rfl (fun ls hl => ?_)
        refine lv_iconst (v := 0) hx hb dX7_nameEntries_32 (by decide) ?_
        refine lv_istore (lv' := [(4, .int 0), (3, .int x3_3), (0, .ref (ga G c0)), (1, .ref (ga G c1)), (2, .int x2)]) hx hb dX7_nameEntries_33 hl (by decide) rfl (fun ls hl => ?_)
        obtain ⟨nn, h⟩ := h
        exact L35 nn c0 hc0 c1 hc1 x2 x3_3 0 σ _ _ ls hH (lv_sub hl [2, 3, 4, 1, 0] rfl) h
      · replace h := h.2 q2
        refine lv_aload_n hx hb dX7_nameEntries_13 rfl (lv_at hl 0 rfl) ?_
        refine lv_iload_n hx hb dX7_nameEntries_14 rfl (lv_at hl 3 rfl) ?_
        refine g_callVr (As := [.int x3]) (rest := []) ⟨hx, hb, hml, hown, hB⟩ hK hX aA_hA hH (c0 := c0) (tX7_pieceAt hc0 h) (cwV 1 hB gVX7_59 rfl rfl rfl (by decide +kernel) ⟨Nat.le_of_ble_eq_true rfl, Nat.le_of_ble_eq_true rfl⟩) hc0.1 rfl rfl hl.1 rfl (lv_room (Nat.le_of_ble_eq_true rfl)) ⟨Nat.zero_le _, Nat.zero_le _⟩ dX7_nameEntries_15 (fun r4 σ4 H locs h hH => ?_)
        obtain ⟨h, hp4⟩ := h
        refine lv_iconst (v := 0) hx hb dX7_nameEntries_18 (by decide) ?_
        refine g_putN hx hb hB inB5 tyX5 tyX5_ok nmX5 hown hK hH (c0 := r4) hp4.1 rfl 5 (by decide) k153 rfl rfl rfl (vz_n vz0) (vz_f vz0) dX7_nameEntries_19 (fun σ5 eσ5 H locs hH => ?_)
        replace h := h σ5 eσ5
        obtain ⟨x3_6, ex3_6⟩ : ∃ y : Int32, y = x3 + 1 := ⟨_, rfl⟩
        replace h := h x3_6 ex3_6
        refine lv_iinc (v := x3_6) (lv' := [(3, .int x3_6), (0, .ref (ga G c0)), (1, .ref (ga G c1)), (2, .int x2)]) hx hb dX7_nameEntries_22 hl (k := 3) rfl (by rw [ex3_6]; rfl) (by decide) rfl (fun ls hl => ?_)
        refine lv_goto (tgt := 5) hx hb dX7_nameEntries_25 (by decide) ?_
        exact ih5 c0 hc0 c1 hc1 x2 x3_6 σ5 _ _ ls hH (lv_sub hl [1, 2, 3, 0] rfl) h
  unfold wpX7_nameEntries at h
  refine lv_aload_n hx hb dX7_nameEntries_0 rfl (lv_at hl 0 rfl) ?_
  refine g_geti hx hb hB inB7 hown hK hH (c0 := c0) hc0.1 rfl 4 (by decide) k34 rfl rfl dX7_nameEntries_1 ?_
  refine lv_topi (fun x3_1 ex3_1 => ?_)
  replace h := h x3_1 ex3_1
  refine lv_istore_n (lv' := [(3, .int x3_1), (0, .ref (ga G c0)), (1, .ref (ga G c1)), (2, .int x2)]) hx hb dX7_nameEntries_4 rfl hl (by decide) rfl (fun ls hl => ?_)
  obtain ⟨nn, h⟩ := h
  exact L5 nn c0 hc0 c1 hc1 x2 x3_1 σ _ _ ls hH (lv_sub hl [1, 2, 3, 0] rfl) h
def wpX7_confirm_L25 (Q : Sg → Prop) : Nat → Nat → Nat → Int32 → Sg → Prop
  | 0, _, _, _, _ => False
  | n + 1, c0, c1, x2, σ => (((σ c1 1) ≤ x2 → Q σ) ∧ (¬ ((σ c1 1) ≤ x2) → wpX5_cell c1 x2 σ (fun r5 σ5 => wpX4_confirmByte (c0 + 2) r5 σ5 (fun σ6 => ∀ x2_7 : Int32, x2_7 = x2 + 1 → (wpX7_confirm_L25 Q n) c0 c1 x2_7 σ6))))
def wpX7_confirm (c0 : Nat) (c1 : Nat) (σ : Sg) (Q : Sg → Prop) : Prop := ∀ σ1 : Sg, σ1 = up2 σ c1 4 1 → ∀ σ2 : Sg, σ2 = up2 σ1 c0 6 ((σ1 c0 6) - (σ1 c1 2)) → ∀ σ3 : Sg, σ3 = up2 σ2 c1 2 0 → ∃ nn, wpX7_confirm_L25 Q nn c0 c1 0 σ3
set_option maxHeartbeats 8000000 in
set_option maxRecDepth 100000 in
theorem tX7_confirm {l : Launch} {G : GG} {tS : Nat × (Nat → Int32)} (hgo : go G = some tS) {c0 : Nat} {c1 : Nat} {σ : Sg} {Q : Sg → Prop} (hc0 : isSender G c0) (hc1 : isPiece G c1) (h : wpX7_confirm c0 c1 σ Q) : Kv l G yX7_confirm (wB yX7_confirm prog_9_method_14_code 3 none) ({ frames := 2, cells := 0, slots := 0, locals := 46 }) [.ref (ga G c0), .ref (ga G c1)] σ Q := by
  refine K_of (cc := cX7_confirm) (maxL := 3) (ret := none) (by decide) rfl (Nat.le_of_ble_eq_true rfl) ?_
  intro p e s m args below meth c ls B hH hl
  obtain ⟨hx, hb, hr, hts, hown, hlk, hml, hK, hX⟩ := B
  replace hl : lv_has ls 3 [(0, .ref (ga G c0)), (1, .ref (ga G c1))] := hl
  have hXN : NWs s := XS.nw hX hgo
  have hB : ∀ w ∈ BIG, w.before args s = true := fun w h9 => hts w (List.mem_cons_of_mem _ h9)
  clear hts
  have k29 := hB _ bw1_145
  have k40 := hB _ bw1_156
  have k76 : (Cond.fieldLinkNest RX7 76 "BearerHouse$Piece" "marks" "I" "BearerHouse").before args s = true := va_Nw.use rfl (hXN.1 ("BearerHouse$Sender", 76, "BearerHouse$Piece", "marks", "I", "BearerHouse") (List.mem_of_getElem? (i := 50) rfl))
  have k82 : (Cond.fieldLinkNest RX7 82 "BearerHouse$Piece" "size" "I" "BearerHouse").before args s = true := va_Nw.use rfl (hXN.1 ("BearerHouse$Sender", 82, "BearerHouse$Piece", "size", "I", "BearerHouse") (List.mem_of_getElem? (i := 52) rfl))
  have k156 : (Cond.fieldLinkNest RX7 156 "BearerHouse$Piece" "isConfirmed" "Z" "BearerHouse").before args s = true := va_Nw.use rfl (hXN.1 ("BearerHouse$Sender", 156, "BearerHouse$Piece", "isConfirmed", "Z", "BearerHouse") (List.mem_of_getElem? (i := 48) rfl))
  have L25 : ∀ (n25 : Nat) (c0 : Nat) (hc0 : isSender G c0) (c1 : Nat) (hc1 : isPiece G c1) (x2 : Int32) (σ : Sg) (H : Heap) (locs : List Loc) (ls : Array Slot), Hx G (aA G s.heap.size) s σ H locs → lv_has ls 3 [(0, .ref (ga G c0)), (1, .ref (ga G c1)), (2, .int x2)] → wpX7_confirm_L25 Q n25 c0 c1 x2 σ → W p l e ({ frames := 2, cells := 0, slots := 0, locals := 46 }) s m args below meth c H locs 0 0 (Zv G Q below args s) (F0 m 25 ls []) := by
    intro n25
    induction n25 with
    | zero =>
      intro c0 hc0 c1 hc1 x2 σ H locs ls hH hl h
      exact False.elim h
    | succ n25 ih25 =>
      intro c0 hc0 c1 hc1 x2 σ H locs ls hH hl h
      unfold wpX7_confirm_L25 at h
      refine lv_iload_n hx hb dX7_confirm_25 rfl (lv_at hl 2 rfl) ?_
      refine lv_aload_n hx hb dX7_confirm_26 rfl (lv_at hl 1 rfl) ?_
      refine g_getiN hx hb hB inB5 hown hK hH (c0 := c1) hc1.1 rfl 1 (by decide) k82 rfl rfl dX7_confirm_27 ?_
      refine lv_icmp_ge (tgt := 51) hx hb dX7_confirm_30 (by decide) (fun q4 => ?_) (fun q4 => ?_)
      · replace h := h.1 q4
        exact g_vret hx hb hr hK hlk h hH dX7_confirm_51
      · replace h := h.2 q4
        refine lv_aload_n hx hb dX7_confirm_33 rfl (lv_at hl 0 rfl) ?_
        refine g_getr hx hb hB inB7 hown hK hH (c0 := c0) hc0.1 rfl 0 (by decide) k29 rfl (c1 := c0 + 2) rfl dX7_confirm_34 ?_
        refine lv_aload_n hx hb dX7_confirm_37 rfl (lv_at hl 1 rfl) ?_
        refine lv_iload_n hx hb dX7_confirm_38 rfl (lv_at hl 2 rfl) ?_
        refine g_callVi (As := [.int x2]) (rest := [.ref (ga G (c0 + 2))]) ⟨hx, hb, hml, hown, hB⟩ hK hX aA_hA hH (c0 := c1) (tX5_cell hc1 h) (cwV 1 hB gVX7_166 rfl rfl rfl (by decide +kernel) ⟨Nat.le_of_ble_eq_true rfl, Nat.le_of_ble_eq_true rfl⟩) hc1.1 rfl rfl hl.1 rfl (lv_room (Nat.le_of_ble_eq_true rfl)) ⟨Nat.zero_le _, Nat.zero_le _⟩ dX7_confirm_39 (fun r5 σ5 H locs h hH => ?_)
        refine g_callVv (As := [.int r5]) (rest := []) ⟨hx, hb, hml, hown, hB⟩ hK hX aA_hA hH (c0 := c0 + 2) (tX4_confirmByte hc0.2.2.1 h) (cwV 1 hB gVX7_169 rfl rfl rfl (by decide +kernel) ⟨Nat.le_of_ble_eq_true rfl, Nat.le_of_ble_eq_true rfl⟩) hc0.2.2.1.1 rfl rfl hl.1 rfl (lv_room (Nat.le_of_ble_eq_true rfl)) ⟨Nat.zero_le _, Nat.zero_le _⟩ dX7_confirm_42 (fun σ6 H locs h hH => ?_)
        obtain ⟨x2_7, ex2_7⟩ : ∃ y : Int32, y = x2 + 1 := ⟨_, rfl⟩
        replace h := h x2_7 ex2_7
        refine lv_iinc (v := x2_7) (lv' := [(2, .int x2_7), (0, .ref (ga G c0)), (1, .ref (ga G c1))]) hx hb dX7_confirm_45 hl (k := 2) rfl (by rw [ex2_7]; rfl) (by decide) rfl (fun ls hl => ?_)
        refine lv_goto (tgt := 25) hx hb dX7_confirm_48 (by decide) ?_
        exact ih25 c0 hc0 c1 hc1 x2_7 σ6 _ _ ls hH (lv_sub hl [1, 2, 0] rfl) h
  unfold wpX7_confirm at h
  refine lv_aload_n hx hb dX7_confirm_0 rfl (lv_at hl 1 rfl) ?_
  refine lv_iconst (v := 1) hx hb dX7_confirm_1 (by decide) ?_
  refine g_putN hx hb hB inB5 tyX5 tyX5_ok nmX5 hown hK hH (c0 := c1) hc1.1 rfl 4 (by decide) k156 rfl rfl rfl (vz_n vz1) (vz_f vz1) dX7_confirm_2 (fun σ1 eσ1 H locs hH => ?_)
  replace h := h σ1 eσ1
  refine lv_aload_n hx hb dX7_confirm_5 rfl (lv_at hl 0 rfl) ?_
  refine lv_dup hx hb dX7_confirm_6 rfl ?_
  refine g_geti hx hb hB inB7 hown hK hH (c0 := c0) hc0.1 rfl 6 (by decide) k40 rfl rfl dX7_confirm_7 ?_
  refine lv_aload_n hx hb dX7_confirm_10 rfl (lv_at hl 1 rfl) ?_
  refine g_getiN hx hb hB inB5 hown hK hH (c0 := c1) hc1.1 rfl 2 (by decide) k76 rfl rfl dX7_confirm_11 ?_
  refine lv_isub hx hb dX7_confirm_14 ?_
  refine g_put hx hb hB inB7 tyX7 tyX7_ok nmX7 hown hK hH (c0 := c0) hc0.1 rfl 6 (by decide) k40 rfl rfl rfl rfl rfl dX7_confirm_15 (fun σ2 eσ2 H locs hH => ?_)
  replace h := h σ2 eσ2
  refine lv_aload_n hx hb dX7_confirm_18 rfl (lv_at hl 1 rfl) ?_
  refine lv_iconst (v := 0) hx hb dX7_confirm_19 (by decide) ?_
  refine g_putN hx hb hB inB5 tyX5 tyX5_ok nmX5 hown hK hH (c0 := c1) hc1.1 rfl 2 (by decide) k76 rfl rfl rfl rfl rfl dX7_confirm_20 (fun σ3 eσ3 H locs hH => ?_)
  replace h := h σ3 eσ3
  refine lv_iconst (v := 0) hx hb dX7_confirm_23 (by decide) ?_
  refine lv_istore_n (lv' := [(2, .int 0), (0, .ref (ga G c0)), (1, .ref (ga G c1))]) hx hb dX7_confirm_24 rfl hl (by decide) rfl (fun ls hl => ?_)
  obtain ⟨nn, h⟩ := h
  exact L25 nn c0 hc0 c1 hc1 0 σ3 _ _ ls hH (lv_sub hl [1, 2, 0] rfl) h
