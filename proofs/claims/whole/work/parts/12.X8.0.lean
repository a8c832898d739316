def wpX8_feedWord_L3 (P : Nat) (Q : Sg → Prop) : Nat → Int32 → Int32 → Sg → Prop
  | 0, _, _, _ => False
  | n + 1, x1, x2, σ => ((x2 < 0 → Q σ) ∧ (¬ (x2 < 0) → ((120 ≤ (σ 0 3) → Q σ) ∧ (¬ (120 ≤ (σ 0 3)) → ∀ σ3 : Sg, σ3 = up2 σ 0 3 ((σ 0 3) + 1) → (vp_in (σ 0 3) 120 ∧ ∀ σ4 : Sg, σ4 = up2 σ3 1 ((σ 0 3).toNatClampNeg) ((x1 >>> (x2 &&& 31)) &&& 255) → ∀ x2_5 : Int32, x2_5 = x2 + (-8) → (wpX8_feedWord_L3 P Q n) x1 x2_5 σ4)))))
def wpX8_feedWord (P : Nat) (x1 : Int32) (σ : Sg) (Q : Sg → Prop) : Prop := ∃ nn, wpX8_feedWord_L3 P Q nn x1 24 σ
set_option maxHeartbeats 8000000 in
set_option maxRecDepth 100000 in
theorem tX8_feedWord {l : Launch} {G : GG} {P : Nat} {x1 : Int32} {σ : Sg} {Q : Sg → Prop} (h0 : isHouse G P) (h : wpX8_feedWord P x1 σ Q) : Kv l G yX8_feedWord (wB yX8_feedWord prog_1_method_3_code 3 none) ({ frames := 0, cells := 0, slots := 0, locals := 0 }) [.ref (ga G 0), .int x1] σ Q := by
  refine K_of (cc := cX8_feedWord) (maxL := 3) (ret := none) (by decide) rfl (Nat.le_of_ble_eq_true rfl) ?_
  intro p e s m args below meth c ls B hH hl
  obtain ⟨hx, hb, hr, hts, hown, hlk, hml, hK, hX⟩ := B
  replace hl : lv_has ls 3 [(0, .ref (ga G 0)), (1, .int x1)] := hl
  have hB : ∀ w ∈ BIG, w.before args s = true := fun w h9 => hts w (List.mem_cons_of_mem _ h9)
  clear hts
  have k9 := hB _ bw2_118
  have k57 := hB _ bw2_119
  have L3 : ∀ (n3 : Nat) (x1 : Int32) (x2 : Int32) (σ : Sg) (H : Heap) (locs : List Loc) (ls : Array Slot), Hx G (aA G s.heap.size) s σ H locs → lv_has ls 3 [(0, .ref (ga G 0)), (1, .int x1), (2, .int x2)] → wpX8_feedWord_L3 P Q n3 x1 x2 σ → W p l e ({ frames := 0, cells := 0, slots := 0, locals := 0 }) s m args below meth c H locs 0 0 (Zv G Q below args s) (F0 m 3 ls []) := by
    intro n3
    induction n3 with
    | zero =>
      intro x1 x2 σ H locs ls hH hl h
      exact False.elim h
    | succ n3 ih3 =>
      intro x1 x2 σ H locs ls hH hl h
      unfold wpX8_feedWord_L3 at h
      refine lv_iload_n hx hb dX8_feedWord_3 rfl (lv_at hl 2 rfl) ?_
      refine lv_if_lt (tgt := 45) hx hb dX8_feedWord_4 (by decide) (fun q1 => ?_) (fun q1 => ?_)
      · replace h := h.1 q1
        exact g_vret hx hb hr hK hlk h hH dX8_feedWord_45
      · replace h := h.2 q1
        refine lv_aload_n hx hb dX8_feedWord_7 rfl (lv_at hl 0 rfl) ?_
        refine g_geti hx hb hB inB8 hown hK hH (c0 := 0) h0.1 rfl 3 (by decide) k57 rfl rfl dX8_feedWord_8 ?_
        refine lv_bipush (v := 120) hx hb dX8_feedWord_11 (by decide) ?_
        refine lv_icmp_ge (tgt := 45) hx hb dX8_feedWord_13 (by decide) (fun q2 => ?_) (fun q2 => ?_)
        · replace h := h.1 q2
          exact g_vret hx hb hr hK hlk h hH dX8_feedWord_45
        · replace h := h.2 q2
          refine lv_aload_n hx hb dX8_feedWord_16 rfl (lv_at hl 0 rfl) ?_
          refine g_getr hx hb hB inB8 hown hK hH (c0 := 0) h0.1 rfl 2 (by decide) k9 rfl (c1 := 1) rfl dX8_feedWord_17 ?_
          refine lv_aload_n hx hb dX8_feedWord_20 rfl (lv_at hl 0 rfl) ?_
          refine lv_dup hx hb dX8_feedWord_21 rfl ?_
          refine g_geti hx hb hB inB8 hown hK hH (c0 := 0) h0.1 rfl 3 (by decide) k57 rfl rfl dX8_feedWord_22 ?_
          refine lv_dup_x1 hx hb dX8_feedWord_25 rfl rfl ?_
          refine lv_iconst (v := 1) hx hb dX8_feedWord_26 (by decide) ?_
          refine lv_iadd hx hb dX8_feedWord_27 ?_
          refine g_put hx hb hB inB8 tyX8 tyX8_ok nmX8 hown hK hH (c0 := 0) h0.1 rfl 3 (by decide) k57 rfl rfl rfl rfl rfl dX8_feedWord_28 (fun σ3 eσ3 H locs hH => ?_)
          replace h := h σ3 eσ3
          refine lv_iload_n hx hb dX8_feedWord_31 rfl (lv_at hl 1 rfl) ?_
          refine lv_iload_n hx hb dX8_feedWord_32 rfl (lv_at hl 2 rfl) ?_
          refine lv_ishr hx hb dX8_feedWord_33 ?_
          refine lv_sipush (v := 255) hx hb dX8_feedWord_34 (by decide) ?_
          refine lv_iand hx hb dX8_feedWord_37 ?_
          obtain ⟨hi4, h⟩ := h
          refine g_iast hx hb hK hH (c0 := 1) (i := σ 0 3) h0.2.1 hi4 dX8_feedWord_38 (fun σ4 eσ4 H locs hH => ?_)
          replace h := h σ4 eσ4
          obtain ⟨x2_5, ex2_5⟩ : ∃ y : Int32, y = x2 + (-8) := ⟨_, rfl⟩
          replace h := h x2_5 ex2_5
          refine lv_iinc (v := x2_5) (lv' := [(2, .int x2_5), (0, .ref (ga G 0)), (1, .int x1)]) hx hb dX8_feedWord_39 hl (k := 2) rfl (by rw [ex2_5]; rfl) (by decide) rfl (fun ls hl => ?_)
          refine lv_goto (tgt := 3) hx hb dX8_feedWord_42 (by decide) ?_
          exact ih3 x1 x2_5 σ4 _ _ ls hH (lv_sub hl [1, 2, 0] rfl) h
  unfold wpX8_feedWord at h
  refine lv_bipush (v := 24) hx hb dX8_feedWord_0 (by decide) ?_
  refine lv_istore_n (lv' := [(2, .int 24), (0, .ref (ga G 0)), (1, .int x1)]) hx hb dX8_feedWord_2 rfl hl (by decide) rfl (fun ls hl => ?_)
  obtain ⟨nn, h⟩ := h
  exact L3 nn x1 24 σ _ _ ls hH (lv_sub hl [1, 2, 0] rfl) h
def wpX8_feed (P : Nat) (x1 : Int32) (x2 : Int32) (x3 : Int32) (x4 : Int32) (x5 : Int32) (σ : Sg) (Q : Int32 → Sg → Prop) : Prop := ((((σ 0 3) + 20) ≤ 120 → wpX8_feedWord P x1 σ (fun σ2 => wpX8_feedWord P x2 σ2 (fun σ3 => wpX8_feedWord P x3 σ3 (fun σ4 => wpX8_feedWord P x4 σ4 (fun σ5 => wpX8_feedWord P x5 σ5 (fun σ6 => Q (σ6 0 3) σ6)))))) ∧ (¬ (((σ 0 3) + 20) ≤ 120) → Q (-1) σ))
set_option maxHeartbeats 8000000 in
set_option maxRecDepth 100000 in
theorem tX8_feed {l : Launch} {G : GG} {P : Nat} {x1 : Int32} {x2 : Int32} {x3 : Int32} {x4 : Int32} {x5 : Int32} {σ : Sg} {Q : Int32 → Sg → Prop} (h0 : isHouse G P) (h : wpX8_feed P x1 x2 x3 x4 x5 σ Q) : Ki l G yX8_feed (wB yX8_feed prog_1_method_2_code 6 (Option.some FieldType.int)) ({ frames := 1, cells := 0, slots := 0, locals := 22 }) [.ref (ga G 0), .int x1, .int x2, .int x3, .int x4, .int x5] σ Q := by
  refine K_of (cc := cX8_feed) (maxL := 6) (ret := (some .int)) (by decide) rfl (Nat.le_of_ble_eq_true rfl) ?_
  intro p e s m args below meth c ls B hH hl
  obtain ⟨hx, hb, hr, hts, hown, hlk, hml, hK, hX⟩ := B
  replace hl : lv_has ls 6 [(0, .ref (ga G 0)), (1, .int x1), (2, .int x2), (3, .int x3), (4, .int x4), (5, .int x5)] := hl
  have hB : ∀ w ∈ BIG, w.before args s = true := fun w h9 => hts w (List.mem_cons_of_mem _ h9)
  clear hts
  have k57 := hB _ bw2_119
  unfold wpX8_feed at h
  refine lv_aload_n hx hb dX8_feed_0 rfl (lv_at hl 0 rfl) ?_
  refine g_geti hx hb hB inB8 hown hK hH (c0 := 0) h0.1 rfl 3 (by decide) k57 rfl rfl dX8_feed_1 ?_
  refine lv_bipush (v := 20) hx hb dX8_feed_4 (by decide) ?_
  refine lv_iadd hx hb dX8_feed_6 ?_
  refine lv_bipush (v := 120) hx hb dX8_feed_7 (by decide) ?_
  refine lv_icmp_le (tgt := 14) hx hb dX8_feed_9 (by decide) (fun q1 => ?_) (fun q1 => ?_)
  · replace h := h.1 q1
    refine lv_aload_n hx hb dX8_feed_14 rfl (lv_at hl 0 rfl) ?_
    refine lv_iload_n hx hb dX8_feed_15 rfl (lv_at hl 1 rfl) ?_
    refine g_callVv (As := [.int x1]) (rest := []) ⟨hx, hb, hml, hown, hB⟩ hK hX aA_hA hH (c0 := 0) (tX8_feedWord h0 h) (cwV 1 hB gVX8_60 rfl rfl rfl (by decide +kernel) ⟨Nat.le_of_ble_eq_true rfl, Nat.le_of_ble_eq_true rfl⟩) h0.1 rfl rfl hl.1 rfl (lv_room (Nat.le_of_ble_eq_true rfl)) ⟨Nat.zero_le _, Nat.zero_le _⟩ dX8_feed_16 (fun σ2 H locs h hH => ?_)
    refine lv_aload_n hx hb dX8_feed_19 rfl (lv_at hl 0 rfl) ?_
    refine lv_iload_n hx hb dX8_feed_20 rfl (lv_at hl 2 rfl) ?_
    refine g_callVv (As := [.int x2]) (rest := []) ⟨hx, hb, hml, hown, hB⟩ hK hX aA_hA hH (c0 := 0) (tX8_feedWord h0 h) (cwV 1 hB gVX8_60 rfl rfl rfl (by decide +kernel) ⟨Nat.le_of_ble_eq_true rfl, Nat.le_of_ble_eq_true rfl⟩) h0.1 rfl rfl hl.1 rfl (lv_room (Nat.le_of_ble_eq_true rfl)) ⟨Nat.zero_le _, Nat.zero_le _⟩ dX8_feed_21 (fun σ3 H locs h hH => ?_)
    refine lv_aload_n hx hb dX8_feed_24 rfl (lv_at hl 0 rfl) ?_
    refine lv_iload_n hx hb dX8_feed_25 rfl (lv_at hl 3 rfl) ?_
    refine g_callVv (As := [.int x3]) (rest := []) ⟨hx, hb, hml, hown, hB⟩ hK hX aA_hA hH (c0 := 0) (tX8_feedWord h0 h) (cwV 1 hB gVX8_60 rfl rfl rfl (by decide +kernel) ⟨Nat.le_of_ble_eq_true rfl, Nat.le_of_ble_eq_true rfl⟩) h0.1 rfl rfl hl.1 rfl (lv_room (Nat.le_of_ble_eq_true rfl)) ⟨Nat.zero_le _, Nat.zero_le _⟩ dX8_feed_26 (fun σ4 H locs h hH => ?_)
    refine lv_aload_n hx hb dX8_feed_29 rfl (lv_at hl 0 rfl) ?_
    refine lv_iload hx hb dX8_feed_30 (lv_at hl 4 rfl) ?_
    refine g_callVv (As := [.int x4]) (rest := []) ⟨hx, hb, hml, hown, hB⟩ hK hX aA_hA hH (c0 := 0) (tX8_feedWord h0 h) (cwV 1 hB gVX8_60 rfl rfl rfl (by decide +kernel) ⟨Nat.le_of_ble_eq_true rfl, Nat.le_of_ble_eq_true rfl⟩) h0.1 rfl rfl hl.1 rfl (lv_room (Nat.le_of_ble_eq_true rfl)) ⟨Nat.zero_le _, Nat.zero_le _⟩ dX8_feed_32 (fun σ5 H locs h hH => ?_)
    refine lv_aload_n hx hb dX8_feed_35 rfl (lv_at hl 0 rfl) ?_
    refine lv_iload hx hb dX8_feed_36 (lv_at hl 5 rfl) ?_
    refine g_callVv (As := [.int x5]) (rest := []) ⟨hx, hb, hml, hown, hB⟩ hK hX aA_hA hH (c0 := 0) (tX8_feedWord h0 h) (cwV 1 hB gVX8_60 rfl rfl rfl (by decide +kernel) ⟨Nat.le_of_ble_eq_true rfl, Nat.le_of_ble_eq_true rfl⟩) h0.1 rfl rfl hl.1 rfl (lv_room (Nat.le_of_ble_eq_true rfl)) ⟨Nat.zero_le _, Nat.zero_le _⟩ dX8_feed_38 (fun σ6 H locs h hH => ?_)
    refine lv_aload_n hx hb dX8_feed_41 rfl (lv_at hl 0 rfl) ?_
    refine g_geti hx hb hB inB8 hown hK hH (c0 := 0) h0.1 rfl 3 (by decide) k57 rfl rfl dX8_feed_42 ?_
    exact g_iret hx hb hr hK hlk h hH dX8_feed_45
  · replace h := h.2 q1
    refine lv_iconst (v := (-1)) hx hb dX8_feed_12 (by decide) ?_
    exact g_iret hx hb hr hK hlk h hH dX8_feed_13
def wpX8_end (P : Nat) (x1 : Int32) (σ : Sg) (Q : Int32 → Sg → Prop) : Prop := ((x1 < 0 → Q (-1) σ) ∧ (¬ (x1 < 0) → ((x1 ≤ (σ 0 3) → ∀ σ3 : Sg, σ3 = up2 σ 0 3 x1 → Q x1 σ3) ∧ (¬ (x1 ≤ (σ 0 3)) → Q (-1) σ))))
set_option maxHeartbeats 8000000 in
set_option maxRecDepth 100000 in
theorem tX8_end {l : Launch} {G : GG} {P : Nat} {x1 : Int32} {σ : Sg} {Q : Int32 → Sg → Prop} (h0 : isHouse G P) (h : wpX8_end P x1 σ Q) : Ki l G yX8_end (wB yX8_end prog_1_method_4_code 2 (Option.some FieldType.int)) ({ frames := 0, cells := 0, slots := 0, locals := 0 }) [.ref (ga G 0), .int x1] σ Q := by
  refine K_of (cc := cX8_end) (maxL := 2) (ret := (some .int)) (by decide) rfl (Nat.le_of_ble_eq_true rfl) ?_
  intro p e s m args below meth c ls B hH hl
  obtain ⟨hx, hb, hr, hts, hown, hlk, hml, hK, hX⟩ := B
  replace hl : lv_has ls 2 [(0, .ref (ga G 0)), (1, .int x1)] := hl
  have hB : ∀ w ∈ BIG, w.before args s = true := fun w h9 => hts w (List.mem_cons_of_mem _ h9)
  clear hts
  have k57 := hB _ bw2_119
  unfold wpX8_end at h
  refine lv_iload_n hx hb dX8_end_0 rfl (lv_at hl 1 rfl) ?_
  refine lv_if_lt (tgt := 12) hx hb dX8_end_1 (by decide) (fun q1 => ?_) (fun q1 => ?_)
  · replace h := h.1 q1
    refine lv_iconst (v := (-1)) hx hb dX8_end_12 (by decide) ?_
    exact g_iret hx hb hr hK hlk h hH dX8_end_13
  · replace h := h.2 q1
    refine lv_iload_n hx hb dX8_end_4 rfl (lv_at hl 1 rfl) ?_
    refine lv_aload_n hx hb dX8_end_5 rfl (lv_at hl 0 rfl) ?_
    refine g_geti hx hb hB inB8 hown hK hH (c0 := 0) h0.1 rfl 3 (by decide) k57 rfl rfl dX8_end_6 ?_
    refine lv_icmp_le (tgt := 14) hx hb dX8_end_9 (by decide) (fun q2 => ?_) (fun q2 => ?_)
    · replace h := h.1 q2
      refine lv_aload_n hx hb dX8_end_14 rfl (lv_at hl 0 rfl) ?_
      refine lv_iload_n hx hb dX8_end_15 rfl (lv_at hl 1 rfl) ?_
      refine g_put hx hb hB inB8 tyX8 tyX8_ok nmX8 hown hK hH (c0 := 0) h0.1 rfl 3 (by decide) k57 rfl rfl rfl rfl rfl dX8_end_16 (fun σ3 eσ3 H locs hH => ?_)
      replace h := h σ3 eσ3
      refine lv_iload_n hx hb dX8_end_19 rfl (lv_at hl 1 rfl) ?_
      exact g_iret hx hb hr hK hlk h hH dX8_end_20
    · replace h := h.2 q2
      refine lv_iconst (v := (-1)) hx hb dX8_end_12 (by decide) ?_
      exact g_iret hx hb hr hK hlk h hH dX8_end_13
def wpX8_isPlace (P : Nat) (x1 : Int32) (x2 : Int32) (σ : Sg) (Q : Int32 → Sg → Prop) : Prop := ((x1 < 0 → Q 0 σ) ∧ (¬ (x1 < 0) → ((1 < x1 → Q 0 σ) ∧ (¬ (1 < x1) → ((x2 < 0 → Q 0 σ) ∧ (¬ (x2 < 0) → (((σ 0 0) ≤ x2 → Q 0 σ) ∧ (¬ ((σ 0 0) ≤ x2) → Q 1 σ))))))))
set_option maxHeartbeats 8000000 in
set_option maxRecDepth 100000 in
theorem tX8_isPlace {l : Launch} {G : GG} {P : Nat} {x1 : Int32} {x2 : Int32} {σ : Sg} {Q : Int32 → Sg → Prop} (h0 : isHouse G P) (h : wpX8_isPlace P x1 x2 σ Q) : Ki l G yX8_isPlace (wB yX8_isPlace prog_1_method_16_code 3 (Option.some FieldType.boolean)) ({ frames := 0, cells := 0, slots := 0, locals := 0 }) [.ref (ga G 0), .int x1, .int x2] σ Q := by
  refine K_of (cc := cX8_isPlace) (maxL := 3) (ret := (some .boolean)) (by decide) rfl (Nat.le_of_ble_eq_true rfl) ?_
  intro p e s m args below meth c ls B hH hl
  obtain ⟨hx, hb, hr, hts, hown, hlk, hml, hK, hX⟩ := B
  replace hl : lv_has ls 3 [(0, .ref (ga G 0)), (1, .int x1), (2, .int x2)] := hl
  have hB : ∀ w ∈ BIG, w.before args s = true := fun w h9 => hts w (List.mem_cons_of_mem _ h9)
  clear hts
  have k16 := hB _ bw2_116
  unfold wpX8_isPlace at h
  refine lv_iload_n hx hb dX8_isPlace_0 rfl (lv_at hl 1 rfl) ?_
  refine lv_if_lt (tgt := 25) hx hb dX8_isPlace_1 (by decide) (fun q1 => ?_) (fun q1 => ?_)
  · replace h := h.1 q1
    refine lv_iconst (v := 0) hx hb dX8_isPlace_25 (by decide) ?_
    exact g_zret hx hb hr hK hlk vz0 h hH dX8_isPlace_26
  · replace h := h.2 q1
    refine lv_iload_n hx hb dX8_isPlace_4 rfl (lv_at hl 1 rfl) ?_
    refine lv_iconst (v := 1) hx hb dX8_isPlace_5 (by decide) ?_
    refine lv_icmp_gt (tgt := 25) hx hb dX8_isPlace_6 (by decide) (fun q2 => ?_) (fun q2 => ?_)
    · replace h := h.1 q2
      refine lv_iconst (v := 0) hx hb dX8_isPlace_25 (by decide) ?_
      exact g_zret hx hb hr hK hlk vz0 h hH dX8_isPlace_26
    · replace h := h.2 q2
      refine lv_iload_n hx hb dX8_isPlace_9 rfl (lv_at hl 2 rfl) ?_
      refine lv_if_lt (tgt := 25) hx hb dX8_isPlace_10 (by decide) (fun q3 => ?_) (fun q3 => ?_)
      · replace h := h.1 q3
        refine lv_iconst (v := 0) hx hb dX8_isPlace_25 (by decide) ?_
        exact g_zret hx hb hr hK hlk vz0 h hH dX8_isPlace_26
      · replace h := h.2 q3
        refine lv_iload_n hx hb dX8_isPlace_13 rfl (lv_at hl 2 rfl) ?_
        refine lv_aload_n hx hb dX8_isPlace_14 rfl (lv_at hl 0 rfl) ?_
        refine g_geti hx hb hB inB8 hown hK hH (c0 := 0) h0.1 rfl 0 (by decide) k16 rfl rfl dX8_isPlace_15 ?_
        refine lv_icmp_ge (tgt := 25) hx hb dX8_isPlace_18 (by decide) (fun q4 => ?_) (fun q4 => ?_)
        · replace h := h.1 q4
          refine lv_iconst (v := 0) hx hb dX8_isPlace_25 (by decide) ?_
          exact g_zret hx hb hr hK hlk vz0 h hH dX8_isPlace_26
        · replace h := h.2 q4
          refine lv_iconst (v := 1) hx hb dX8_isPlace_21 (by decide) ?_
          refine lv_goto (tgt := 26) hx hb dX8_isPlace_22 (by decide) ?_
          exact g_zret hx hb hr hK hlk vz1 h hH dX8_isPlace_26
def wpX8_placeOf (P : Nat) (x1 : Int32) (x2 : Int32) (σ : Sg) (Q : Int32 → Sg → Prop) : Prop := Q ((x1 * (σ 0 0)) + x2) σ
set_option maxHeartbeats 8000000 in
set_option maxRecDepth 100000 in
theorem tX8_placeOf {l : Launch} {G : GG} {P : Nat} {x1 : Int32} {x2 : Int32} {σ : Sg} {Q : Int32 → Sg → Prop} (h0 : isHouse G P) (h : wpX8_placeOf P x1 x2 σ Q) : Ki l G yX8_placeOf (wB yX8_placeOf prog_1_method_17_code 3 (Option.some FieldType.int)) ({ frames := 0, cells := 0, slots := 0, locals := 0 }) [.ref (ga G 0), .int x1, .int x2] σ Q := by
  refine K_of (cc := cX8_placeOf) (maxL := 3) (ret := (some .int)) (by decide) rfl (Nat.le_of_ble_eq_true rfl) ?_
  intro p e s m args below meth c ls B hH hl
  obtain ⟨hx, hb, hr, hts, hown, hlk, hml, hK, hX⟩ := B
  replace hl : lv_has ls 3 [(0, .ref (ga G 0)), (1, .int x1), (2, .int x2)] := hl
  have hB : ∀ w ∈ BIG, w.before args s = true := fun w h9 => hts w (List.mem_cons_of_mem _ h9)
  clear hts
  have k16 := hB _ bw2_116
  unfold wpX8_placeOf at h
  refine lv_iload_n hx hb dX8_placeOf_0 rfl (lv_at hl 1 rfl) ?_
  refine lv_aload_n hx hb dX8_placeOf_1 rfl (lv_at hl 0 rfl) ?_
  refine g_geti hx hb hB inB8 hown hK hH (c0 := 0) h0.1 rfl 0 (by decide) k16 rfl rfl dX8_placeOf_2 ?_
  refine lv_imul hx hb dX8_placeOf_5 ?_
  refine lv_iload_n hx hb dX8_placeOf_6 rfl (lv_at hl 2 rfl) ?_
  refine lv_iadd hx hb dX8_placeOf_7 ?_
  exact g_iret hx hb hr hK hlk h hH dX8_placeOf_8
def wpX8_send (P : Nat) (x1 : Int32) (x2 : Int32) (σ : Sg) (Q : Int32 → Sg → Prop) : Prop := wpX8_isPlace P x1 x2 σ (fun r1 σ1 => ((r1 = 0 → Q (-1) σ1) ∧ (¬ (r1 = 0) → ((¬ (σ1 0 3) = 0 → wpX8_placeOf P x1 x2 σ1 (fun r4 σ4 => (vp_in r4 P ∧ ∀ c_5 : Nat, c_5 = 9 + 113 * r4.toNatClampNeg → wpX4_takeUnit (c_5 + 2) 1 (σ4 0 3) σ4 (fun r6 σ6 => ((r6 = (-1) → Q r6 σ6) ∧ (¬ (r6 = (-1)) → ∀ σ8 : Sg, σ8 = up2 σ6 0 3 0 → Q r6 σ8)))))) ∧ ((σ1 0 3) = 0 → Q (-1) σ1)))))
set_option maxHeartbeats 8000000 in
set_option maxRecDepth 100000 in
theorem tX8_send {l : Launch} {G : GG} {P : Nat} {tS : Nat × (Nat → Int32)} (hgo : go G = some tS) {x1 : Int32} {x2 : Int32} {σ : Sg} {Q : Int32 → Sg → Prop} (h0 : isHouse G P) (h : wpX8_send P x1 x2 σ Q) : Ki l G yX8_send (wB yX8_send prog_1_method_5_code 4 (Option.some FieldType.int)) ({ frames := 2, cells := 0, slots := 0, locals := 44 }) [.ref (ga G 0), .int x1, .int x2] σ Q := by
  refine K_of (cc := cX8_send) (maxL := 4) (ret := (some .int)) (by decide) rfl (Nat.le_of_ble_eq_true rfl) ?_
  intro p e s m args below meth c ls B hH hl
  obtain ⟨hx, hb, hr, hts, hown, hlk, hml, hK, hX⟩ := B
  replace hl : lv_has ls 4 [(0, .ref (ga G 0)), (1, .int x1), (2, .int x2)] := hl
  have hXN : NWs s := XS.nw hX hgo
  have hB : ∀ w ∈ BIG, w.before args s = true := fun w h9 => hts w (List.mem_cons_of_mem _ h9)
  clear hts
  have k9 := hB _ bw2_118
  have k36 := hB _ bw2_121
  have k57 := hB _ bw2_119
  have k71 : (Cond.fieldLinkNest RX8 71 "BearerHouse$Sender" "outbox" "LBearerHouse$Outbox;" "BearerHouse").before args s = true := va_Nw.use rfl (hXN.1 ("BearerHouse", 71, "BearerHouse$Sender", "outbox", "LBearerHouse$Outbox;", "BearerHouse") (List.mem_of_getElem? (i := 39) rfl))
  unfold wpX8_send at h
  refine lv_aload_n hx hb dX8_send_0 rfl (lv_at hl 0 rfl) ?_
  refine lv_iload_n hx hb dX8_send_1 rfl (lv_at hl 1 rfl) ?_
  refine lv_iload_n hx hb dX8_send_2 rfl (lv_at hl 2 rfl) ?_
  refine g_callVi (As := [.int x1, .int x2]) (rest := []) ⟨hx, hb, hml, hown, hB⟩ hK hX aA_hA hH (c0 := 0) (tX8_isPlace h0 h) (cwV 2 hB gVX8_63 rfl rfl rfl (by decide +kernel) ⟨Nat.le_of_ble_eq_true rfl, Nat.le_of_ble_eq_true rfl⟩) h0.1 rfl rfl hl.1 rfl (lv_room (Nat.le_of_ble_eq_true rfl)) ⟨Nat.zero_le _, Nat.zero_le _⟩ dX8_send_3 (fun r1 σ1 H locs h hH => ?_)
  refine lv_if_eq (tgt := 16) hx hb dX8_send_6 (by decide) (fun q2 => ?_) (fun q2 => ?_)
  · replace h := h.1 q2
    refine lv_iconst (v := (-1)) hx hb dX8_send_16 (by decide) ?_
    exact g_iret hx hb hr hK hlk h hH dX8_send_17
  · replace h := h.2 q2
    refine lv_aload_n hx hb dX8_send_9 rfl (lv_at hl 0 rfl) ?_
    refine g_geti hx hb hB inB8 hown hK hH (c0 := 0) h0.1 rfl 3 (by decide) k57 rfl rfl dX8_send_10 ?_
    refine lv_if_ne (tgt := 18) hx hb dX8_send_13 (by decide) (fun q3 => ?_) (fun q3 => ?_)
    · replace h := h.1 q3
      refine lv_aload_n hx hb dX8_send_18 rfl (lv_at hl 0 rfl) ?_
      refine g_getr hx hb hB inB8 hown hK hH (c0 := 0) h0.1 rfl 5 (by decide) k36 rfl (c1 := 7) rfl dX8_send_19 ?_
      refine lv_aload_n hx hb dX8_send_22 rfl (lv_at hl 0 rfl) ?_
      refine lv_iload_n hx hb dX8_send_23 rfl (lv_at hl 1 rfl) ?_
      refine lv_iload_n hx hb dX8_send_24 rfl (lv_at hl 2 rfl) ?_
      refine g_callVi (As := [.int x1, .int x2]) (rest := [.ref (ga G 7)]) ⟨hx, hb, hml, hown, hB⟩ hK hX aA_hA hH (c0 := 0) (tX8_placeOf h0 h) (cwV 2 hB gVX8_67 rfl rfl rfl (by decide +kernel) ⟨Nat.le_of_ble_eq_true rfl, Nat.le_of_ble_eq_true rfl⟩) h0.1 rfl rfl hl.1 rfl (lv_room (Nat.le_of_ble_eq_true rfl)) ⟨Nat.zero_le _, Nat.zero_le _⟩ dX8_send_25 (fun r4 σ4 H locs h hH => ?_)
      obtain ⟨hi5, h⟩ := h
      refine g_aald hx hb hK hH (c0 := 7) h0.2.2.2.2.1 hi5 dX8_send_28 ?_
      have hp5 : isSender G (9 + 113 * r4.toNatClampNeg) := h0.2.2.2.2.2.2.2.1 _ (vp_lt hi5)
      obtain ⟨c_5, ec_5⟩ : ∃ y : Nat, y = 9 + 113 * r4.toNatClampNeg := ⟨_, rfl⟩
      replace h := h c_5 ec_5
      rw [← ec_5] at hp5
      refine W.eq (g2 := F0 m 29 ls [.ref (ga G c_5)]) (by rw [ec_5]) ?_
      refine g_getrN hx hb hB inB7 hown hK hH (c0 := c_5) hp5.1 rfl 0 (by decide) k71 rfl (c1 := c_5 + 2) rfl dX8_send_29 ?_
      refine lv_aload_n hx hb dX8_send_32 rfl (lv_at hl 0 rfl) ?_
      refine g_getr hx hb hB inB8 hown hK hH (c0 := 0) h0.1 rfl 2 (by decide) k9 rfl (c1 := 1) rfl dX8_send_33 ?_
      refine lv_aload_n hx hb dX8_send_36 rfl (lv_at hl 0 rfl) ?_
      refine g_geti hx hb hB inB8 hown hK hH (c0 := 0) h0.1 rfl 3 (by decide) k57 rfl rfl dX8_send_37 ?_
      refine g_callVi (As := [.ref (ga G 1), .int (σ4 0 3)]) (rest := []) ⟨hx, hb, hml, hown, hB⟩ hK hX aA_hA hH (c0 := c_5 + 2) (tX4_takeUnit hp5.2.2.1 h0.2.1 h) (cwV 2 hB gVX8_75 rfl rfl rfl (by decide +kernel) ⟨Nat.le_of_ble_eq_true rfl, Nat.le_of_ble_eq_true rfl⟩) hp5.2.2.1.1 rfl rfl hl.1 rfl (lv_room (Nat.le_of_ble_eq_true rfl)) ⟨Nat.zero_le _, Nat.zero_le _⟩ dX8_send_40 (fun r6 σ6 H locs h hH => ?_)
      refine lv_istore_n (lv' := [(3, .int r6), (0, .ref (ga G 0)), (1, .int x1), (2, .int x2)]) hx hb dX8_send_43 rfl hl (by decide) rfl (fun ls hl => ?_)
      refine lv_iload_n hx hb dX8_send_44 rfl (lv_at hl 0 rfl) ?_
      refine lv_iconst (v := (-1)) hx hb dX8_send_45 (by decide) ?_
      refine lv_icmp_eq (tgt := 54) hx hb dX8_send_46 (by decide) (fun q7 => ?_) (fun q7 => ?_)
      · replace h := h.1 q7
        refine lv_iload_n hx hb dX8_send_54 rfl (lv_at hl 0 rfl) ?_
        exact g_iret hx hb hr hK hlk h hH dX8_send_55
      · replace h := h.2 q7
        refine lv_aload_n hx hb dX8_send_49 rfl (lv_at hl 1 rfl) ?_
        refine lv_iconst (v := 0) hx hb dX8_send_50 (by decide) ?_
        refine g_put hx hb hB inB8 tyX8 tyX8_ok nmX8 hown hK hH (c0 := 0) h0.1 rfl 3 (by decide) k57 rfl rfl rfl rfl rfl dX8_send_51 (fun σ8 eσ8 H locs hH => ?_)
        replace h := h σ8 eσ8
        refine lv_iload_n hx hb dX8_send_54 rfl (lv_at hl 0 rfl) ?_
        exact g_iret hx hb hr hK hlk h hH dX8_send_55
    · replace h := h.2 q3
      refine lv_iconst (v := (-1)) hx hb dX8_send_16 (by decide) ?_
      exact g_iret hx hb hr hK hlk h hH dX8_send_17
def wpX8_rate (P : Nat) (x1 : Int32) (x2 : Int32) (σ : Sg) (Q : Int32 → Sg → Prop) : Prop := wpX8_isPlace P 0 x1 σ (fun r1 σ1 => ((r1 = 0 → Q 0 σ1) ∧ (¬ (r1 = 0) → ((x2 < 0 → Q 0 σ1) ∧ (¬ (x2 < 0) → ((x2 ≤ 200 → wpX8_placeOf P 0 x1 σ1 (fun r5 σ5 => (vp_in r5 P ∧ ∀ c_6 : Nat, c_6 = 9 + 113 * r5.toNatClampNeg → ∀ σ7 : Sg, σ7 = up2 σ5 c_6 2 x2 → wpX8_placeOf P 1 x1 σ7 (fun r8 σ8 => (vp_in r8 P ∧ ∀ c_9 : Nat, c_9 = 9 + 113 * r8.toNatClampNeg → ∀ σ10 : Sg, σ10 = up2 σ8 c_9 2 x2 → Q 1 σ10))))) ∧ (¬ (x2 ≤ 200) → Q 0 σ1)))))))
set_option maxHeartbeats 8000000 in
set_option maxRecDepth 100000 in
theorem tX8_rate {l : Launch} {G : GG} {P : Nat} {tS : Nat × (Nat → Int32)} (hgo : go G = some tS) {x1 : Int32} {x2 : Int32} {σ : Sg} {Q : Int32 → Sg → Prop} (h0 : isHouse G P) (h : wpX8_rate P x1 x2 σ Q) : Ki l G yX8_rate (wB yX8_rate prog_1_method_6_code 3 (Option.some FieldType.boolean)) ({ frames := 1, cells := 0, slots := 0, locals := 22 }) [.ref (ga G 0), .int x1, .int x2] σ Q := by
  refine K_of (cc := cX8_rate) (maxL := 3) (ret := (some .boolean)) (by decide) rfl (Nat.le_of_ble_eq_true rfl) ?_
  intro p e s m args below meth c ls B hH hl
  obtain ⟨hx, hb, hr, hts, hown, hlk, hml, hK, hX⟩ := B
  replace hl : lv_has ls 3 [(0, .ref (ga G 0)), (1, .int x1), (2, .int x2)] := hl
  have hXN : NWs s := XS.nw hX hgo
  have hB : ∀ w ∈ BIG, w.before args s = true := fun w h9 => hts w (List.mem_cons_of_mem _ h9)
  clear hts
  have k36 := hB _ bw2_121
  have k81 : (Cond.fieldLinkNest RX8 81 "BearerHouse$Sender" "rate" "I" "BearerHouse").before args s = true := va_Nw.use rfl (hXN.1 ("BearerHouse", 81, "BearerHouse$Sender", "rate", "I", "BearerHouse") (List.mem_of_getElem? (i := 40) rfl))
  unfold wpX8_rate at h
  refine lv_aload_n hx hb dX8_rate_0 rfl (lv_at hl 0 rfl) ?_
  refine lv_iconst (v := 0) hx hb dX8_rate_1 (by decide) ?_
  refine lv_iload_n hx hb dX8_rate_2 rfl (lv_at hl 1 rfl) ?_
  refine g_callVi (As := [.int 0, .int x1]) (rest := []) ⟨hx, hb, hml, hown, hB⟩ hK hX aA_hA hH (c0 := 0) (tX8_isPlace h0 h) (cwV 2 hB gVX8_63 rfl rfl rfl (by decide +kernel) ⟨Nat.le_of_ble_eq_true rfl, Nat.le_of_ble_eq_true rfl⟩) h0.1 rfl rfl hl.1 rfl (lv_room (Nat.le_of_ble_eq_true rfl)) ⟨Nat.zero_le _, Nat.zero_le _⟩ dX8_rate_3 (fun r1 σ1 H locs h hH => ?_)
  refine lv_if_eq (tgt := 20) hx hb dX8_rate_6 (by decide) (fun q2 => ?_) (fun q2 => ?_)
  · replace h := h.1 q2
    refine lv_iconst (v := 0) hx hb dX8_rate_20 (by decide) ?_
    exact g_zret hx hb hr hK hlk vz0 h hH dX8_rate_21
  · replace h := h.2 q2
    refine lv_iload_n hx hb dX8_rate_9 rfl (lv_at hl 2 rfl) ?_
    refine lv_if_lt (tgt := 20) hx hb dX8_rate_10 (by decide) (fun q3 => ?_) (fun q3 => ?_)
    · replace h := h.1 q3
      refine lv_iconst (v := 0) hx hb dX8_rate_20 (by decide) ?_
      exact g_zret hx hb hr hK hlk vz0 h hH dX8_rate_21
    · replace h := h.2 q3
      refine lv_iload_n hx hb dX8_rate_13 rfl (lv_at hl 2 rfl) ?_
      refine lv_sipush (v := 200) hx hb dX8_rate_14 (by decide) ?_
      refine lv_icmp_le (tgt := 22) hx hb dX8_rate_17 (by decide) (fun q4 => ?_) (fun q4 => ?_)
      · replace h := h.1 q4
        refine lv_aload_n hx hb dX8_rate_22 rfl (lv_at hl 0 rfl) ?_
        refine g_getr hx hb hB inB8 hown hK hH (c0 := 0) h0.1 rfl 5 (by decide) k36 rfl (c1 := 7) rfl dX8_rate_23 ?_
        refine lv_aload_n hx hb dX8_rate_26 rfl (lv_at hl 0 rfl) ?_
        refine lv_iconst (v := 0) hx hb dX8_rate_27 (by decide) ?_
        refine lv_iload_n hx hb dX8_rate_28 rfl (lv_at hl 1 rfl) ?_
        refine g_callVi (As := [.int 0, .int x1]) (rest := [.ref (ga G 7)]) ⟨hx, hb, hml, hown, hB⟩ hK hX aA_hA hH (c0 := 0) (tX8_placeOf h0 h) (cwV 2 hB gVX8_67 rfl rfl rfl (by decide +kernel) ⟨Nat.le_of_ble_eq_true rfl, Nat.le_of_ble_eq_true rfl⟩) h0.1 rfl rfl hl.1 rfl (lv_room (Nat.le_of_ble_eq_true rfl)) ⟨Nat.zero_le _, Nat.zero_le _⟩ dX8_rate_29 (fun r5 σ5 H locs h hH => ?_)
        obtain ⟨hi6, h⟩ := h
        refine g_aald hx hb hK hH (c0 := 7) h0.2.2.2.2.1 hi6 dX8_rate_32 ?_
        have hp6 : isSender G (9 + 113 * r5.toNatClampNeg) := h0.2.2.2.2.2.2.2.1 _ (vp_lt hi6)
        obtain ⟨c_6, ec_6⟩ : ∃ y : Nat, y = 9 + 113 * r5.toNatClampNeg := ⟨_, rfl⟩
        replace h := h c_6 ec_6
        rw [← ec_6] at hp6
        refine W.eq (g2 := F0 m 33 ls [.ref (ga G c_6)]) (by rw [ec_6]) ?_
        refine lv_iload_n hx hb dX8_rate_33 rfl (lv_at hl 2 rfl) ?_
        refine g_putN hx hb hB inB7 tyX7 tyX7_ok nmX7 hown hK hH (c0 := c_6) hp6.1 rfl 2 (by decide) k81 rfl rfl rfl rfl rfl dX8_rate_34 (fun σ7 eσ7 H locs hH => ?_)
        replace h := h σ7 eσ7
        refine lv_aload_n hx hb dX8_rate_37 rfl (lv_at hl 0 rfl) ?_
        refine g_getr hx hb hB inB8 hown hK hH (c0 := 0) h0.1 rfl 5 (by decide) k36 rfl (c1 := 7) rfl dX8_rate_38 ?_
        refine lv_aload_n hx hb dX8_rate_41 rfl (lv_at hl 0 rfl) ?_
        refine lv_iconst (v := 1) hx hb dX8_rate_42 (by decide) ?_
        refine lv_iload_n hx hb dX8_rate_43 rfl (lv_at hl 1 rfl) ?_
        refine g_callVi (As := [.int 1, .int x1]) (rest := [.ref (ga G 7)]) ⟨hx, hb, hml, hown, hB⟩ hK hX aA_hA hH (c0 := 0) (tX8_placeOf h0 h) (cwV 2 hB gVX8_67 rfl rfl rfl (by decide +kernel) ⟨Nat.le_of_ble_eq_true rfl, Nat.le_of_ble_eq_true rfl⟩) h0.1 rfl rfl hl.1 rfl (lv_room (Nat.le_of_ble_eq_true rfl)) ⟨Nat.zero_le _, Nat.zero_le _⟩ dX8_rate_44 (fun r8 σ8 H locs h hH => ?_)
        obtain ⟨hi9, h⟩ := h
        refine g_aald hx hb hK hH (c0 := 7) h0.2.2.2.2.1 hi9 dX8_rate_47 ?_
        have hp9 : isSender G (9 + 113 * r8.toNatClampNeg) := h0.2.2.2.2.2.2.2.1 _ (vp_lt hi9)
        obtain ⟨c_9, ec_9⟩ : ∃ y : Nat, y = 9 + 113 * r8.toNatClampNeg := ⟨_, rfl⟩
        replace h := h c_9 ec_9
        rw [← ec_9] at hp9
        refine W.eq (g2 := F0 m 48 ls [.ref (ga G c_9)]) (by rw [ec_9]) ?_
        refine lv_iload_n hx hb dX8_rate_48 rfl (lv_at hl 2 rfl) ?_
        refine g_putN hx hb hB inB7 tyX7 tyX7_ok nmX7 hown hK hH (c0 := c_9) hp9.1 rfl 2 (by decide) k81 rfl rfl rfl rfl rfl dX8_rate_49 (fun σ10 eσ10 H locs hH => ?_)
        replace h := h σ10 eσ10
        refine lv_iconst (v := 1) hx hb dX8_rate_52 (by decide) ?_
        exact g_zret hx hb hr hK hlk vz1 h hH dX8_rate_53
      · replace h := h.2 q4
        refine lv_iconst (v := 0) hx hb dX8_rate_20 (by decide) ?_
        exact g_zret hx hb hr hK hlk vz0 h hH dX8_rate_21
def wpX8_makePart_L124 (P : Nat) (tb : Nat → Int32) (Q : Int32 → Sg → Prop) (c4 : Nat) (c5 : Nat) (x7 : Int32) (σ : Sg) : Prop := ∀ x8_15 : Int32, x8_15 = ((σ c4 1) - x7) - 2 → ((¬ x8_15 = 0 → wpX0_set c4 (x7 + 1) x8_15 σ (fun σ17 => ∀ σ18 : Sg, σ18 = up2 σ17 c5 3 ((σ17 c5 3) - (x8_15 + 2)) → Q 1 σ18)) ∧ (x8_15 = 0 → ∀ σ19 : Sg, σ19 = up2 σ c4 1 x7 → Q 0 σ19))
def wpX8_makePart_L104 (P : Nat) (tb : Nat → Int32) (Q : Int32 → Sg → Prop) (x3 : Int32) (c4 : Nat) (c5 : Nat) (x7 : Int32) (σ : Sg) : Prop := ((¬ (σ c5 8) = 0 → wpX8_makePart_L124 P tb Q c4 c5 x7 σ) ∧ ((σ c5 8) = 0 → wpX7_makeNew tb c5 c4 x3 3 σ (fun σ21 => wpX8_makePart_L124 P tb Q c4 c5 x7 σ21)))
def wpX8_makePart_L77 (P : Nat) (tb : Nat → Int32) (Q : Int32 → Sg → Prop) (x3 : Int32) (c4 : Nat) (c5 : Nat) (x7 : Int32) (σ : Sg) : Prop := ((¬ (σ c5 8) = 0 → wpX8_makePart_L104 P tb Q x3 c4 c5 x7 σ) ∧ ((σ c5 8) = 0 → (((σ c5 6) ≤ 0 → wpX8_makePart_L104 P tb Q x3 c4 c5 x7 σ) ∧ (¬ ((σ c5 6) ≤ 0) → wpX7_makeAgain c5 c4 x3 σ (fun σ14 => wpX8_makePart_L124 P tb Q c4 c5 x7 σ14)))))
def wpX8_makePart (P : Nat) (tb : Nat → Int32) (x1 : Int32) (x2 : Int32) (x3 : Int32) (c4 : Nat) (σ : Sg) (Q : Int32 → Sg → Prop) : Prop := wpX8_placeOf P x1 x2 σ (fun r1 σ1 => (vp_in r1 P ∧ ∀ c_2 : Nat, c_2 = 9 + 113 * r1.toNatClampNeg → wpX8_placeOf P x1 x2 σ1 (fun r3 σ3 => (vp_in r3 P ∧ ∀ c_4 : Nat, c_4 = 51 + 113 * r3.toNatClampNeg → ∀ x7_5 : Int32, x7_5 = σ3 c4 1 → wpX0_put c4 x2 σ3 (fun σ6 => wpX0_put c4 0 σ6 (fun σ7 => (((σ7 c_4 7) = 0 → wpX8_makePart_L77 P tb Q x3 c4 c_2 x7_5 σ7) ∧ (¬ ((σ7 c_4 7) = 0) → ((¬ (σ7 c_4 9) = 0 → wpX8_makePart_L77 P tb Q x3 c4 c_2 x7_5 σ7) ∧ ((σ7 c_4 9) = 0 → ((x3 < 2 → wpX8_makePart_L77 P tb Q x3 c4 c_2 x7_5 σ7) ∧ (¬ (x3 < 2) → wpX6_makeStatus c_4 c4 x3 σ7 (fun σ11 => wpX8_makePart_L124 P tb Q c4 c_2 x7_5 σ11)))))))))))))
set_option maxHeartbeats 8000000 in
set_option maxRecDepth 100000 in
theorem tX8_makePart {l : Launch} {G : GG} {P : Nat} {tS : Nat × (Nat → Int32)} (hgo : go G = some tS) {x1 : Int32} {x2 : Int32} {x3 : Int32} {c4 : Nat} {σ : Sg} {Q : Int32 → Sg → Prop} (h0 : isHouse G P) (hc4 : isAir G c4) (h : wpX8_makePart P tS.2 x1 x2 x3 c4 σ Q) : Ki l G yX8_makePart (wB yX8_makePart prog_1_method_20_code 9 (Option.some FieldType.boolean)) ({ frames := 5, cells := 0, slots := 0, locals := 122 }) [.ref (ga G 0), .int x1, .int x2, .int x3, .ref (ga G c4)] σ Q := by
  refine K_of (cc := cX8_makePart) (maxL := 9) (ret := (some .boolean)) (by decide) rfl (Nat.le_of_ble_eq_true rfl) ?_
  intro p e s m args below meth c ls B hH hl
  obtain ⟨hx, hb, hr, hts, hown, hlk, hml, hK, hX⟩ := B
  replace hl : lv_has ls 9 [(0, .ref (ga G 0)), (1, .int x1), (2, .int x2), (3, .int x3), (4, .ref (ga G c4))] := hl
  have hXN : NWs s := XS.nw hX hgo
  have hB : ∀ w ∈ BIG, w.before args s = true := fun w h9 => hts w (List.mem_cons_of_mem _ h9)
  clear hts
  have k26 := hB _ bw2_120
  have k36 := hB _ bw2_121
  have k42 := hB _ bw2_122
  have k160 : (Cond.fieldLinkNest RX8 160 "BearerHouse$Sender" "again" "I" "BearerHouse").before args s = true := va_Nw.use rfl (hXN.1 ("BearerHouse", 160, "BearerHouse$Sender", "again", "I", "BearerHouse") (List.mem_of_getElem? (i := 6) rfl))
  have k166 : (Cond.fieldLinkNest RX8 166 "BearerHouse$Sender" "failed" "Z" "BearerHouse").before args s = true := va_Nw.use rfl (hXN.1 ("BearerHouse", 166, "BearerHouse$Sender", "failed", "Z", "BearerHouse") (List.mem_of_getElem? (i := 8) rfl))
  have k170 : (Cond.fieldLinkNest RX8 170 "BearerHouse$Sender" "bucket" "I" "BearerHouse").before args s = true := va_Nw.use rfl (hXN.1 ("BearerHouse", 170, "BearerHouse$Sender", "bucket", "I", "BearerHouse") (List.mem_of_getElem? (i := 9) rfl))
  have k198 : (Cond.fieldLinkNest RX8 198 "BearerHouse$Receiver" "prohibitTimer" "I" "BearerHouse").before args s = true := va_Nw.use rfl (hXN.1 ("BearerHouse", 198, "BearerHouse$Receiver", "prohibitTimer", "I", "BearerHouse") (List.mem_of_getElem? (i := 19) rfl))
  have k201 : (Cond.fieldLinkNest RX8 201 "BearerHouse$Receiver" "wanted" "Z" "BearerHouse").before args s = true := va_Nw.use rfl (hXN.1 ("BearerHouse", 201, "BearerHouse$Receiver", "wanted", "Z", "BearerHouse") (List.mem_of_getElem? (i := 20) rfl))
  have k256 : (Cond.fieldLinkNest RX8 256 "BearerHouse$Air" "size" "I" "BearerHouse").before args s = true := va_Nw.use rfl (hXN.1 ("BearerHouse", 256, "BearerHouse$Air", "size", "I", "BearerHouse") (List.mem_of_getElem? (i := 33) rfl))
  have L124 : ∀ (c4 : Nat) (hc4 : isAir G c4) (c5 : Nat) (hc5 : isSender G c5) (x7 : Int32) (σ : Sg) (H : Heap) (locs : List Loc) (ls : Array Slot), Hx G (aA G s.heap.size) s σ H locs → lv_has ls 9 [(4, .ref (ga G c4)), (5, .ref (ga G c5)), (7, .int x7)] → wpX8_makePart_L124 P tS.2 Q c4 c5 x7 σ → W p l e ({ frames := 5, cells := 0, slots := 0, locals := 122 }) s m args below meth c H locs 0 0 (Zi G Q below args s) (F0 m 124 ls []) := by
    intro c4 hc4 c5 hc5 x7 σ H locs ls hH hl h
    unfold wpX8_makePart_L124 at h
    refine lv_aload hx hb dX8_makePart_124 (lv_at hl 0 rfl) ?_
    refine g_getiN hx hb hB inB0 hown hK hH (c0 := c4) hc4.1 rfl 1 (by decide) k256 rfl rfl dX8_makePart_126 ?_
    refine lv_iload hx hb dX8_makePart_129 (lv_at hl 2 rfl) ?_
    refine lv_isub hx hb dX8_makePart_131 ?_
    refine lv_iconst (v := 2) hx hb dX8_makePart_132 (by decide) ?_
    refine lv_isub hx hb dX8_makePart_133 ?_
    refine lv_topi (fun x8_15 ex8_15 => ?_)
    replace h := h x8_15 ex8_15
    refine lv_istore (lv' := [(8, .int x8_15), (4, .ref (ga G c4)), (5, .ref (ga G c5)), (7, .int x7)]) hx hb dX8_makePart_134 hl (by decide) rfl (fun ls hl => ?_)
    refine lv_iload hx hb dX8_makePart_136 (lv_at hl 0 rfl) ?_
    refine lv_if_ne (tgt := 150) hx hb dX8_makePart_138 (by decide) (fun q16 => ?_) (fun q16 => ?_)
    · replace h := h.1 q16
      refine lv_aload hx hb dX8_makePart_150 (lv_at hl 1 rfl) ?_
      refine lv_iload hx hb dX8_makePart_152 (lv_at hl 3 rfl) ?_
      refine lv_iconst (v := 1) hx hb dX8_makePart_154 (by decide) ?_
      refine lv_iadd hx hb dX8_makePart_155 ?_
      refine lv_iload hx hb dX8_makePart_156 (lv_at hl 0 rfl) ?_
      refine g_callVv (As := [.int (x7 + 1), .int x8_15]) (rest := []) ⟨hx, hb, hml, hown, hB⟩ hK hX aA_hA hH (c0 := c4) (tX0_set hc4 h) (cwV 2 hB gVX8_283 rfl rfl rfl (by decide +kernel) ⟨Nat.le_of_ble_eq_true rfl, Nat.le_of_ble_eq_true rfl⟩) hc4.1 rfl rfl hl.1 rfl (lv_room (Nat.le_of_ble_eq_true rfl)) ⟨Nat.zero_le _, Nat.zero_le _⟩ dX8_makePart_158 (fun σ17 H locs h hH => ?_)
      refine lv_aload hx hb dX8_makePart_161 (lv_at hl 2 rfl) ?_
      refine lv_dup hx hb dX8_makePart_163 rfl ?_
      refine g_getiN hx hb hB inB7 hown hK hH (c0 := c5) hc5.1 rfl 3 (by decide) k170 rfl rfl dX8_makePart_164 ?_
      refine lv_iload hx hb dX8_makePart_167 (lv_at hl 0 rfl) ?_
      refine lv_iconst (v := 2) hx hb dX8_makePart_169 (by decide) ?_
      refine lv_iadd hx hb dX8_makePart_170 ?_
      refine lv_isub hx hb dX8_makePart_171 ?_
      refine g_putN hx hb hB inB7 tyX7 tyX7_ok nmX7 hown hK hH (c0 := c5) hc5.1 rfl 3 (by decide) k170 rfl rfl rfl rfl rfl dX8_makePart_172 (fun σ18 eσ18 H locs hH => ?_)
      replace h := h σ18 eσ18
      refine lv_iconst (v := 1) hx hb dX8_makePart_175 (by decide) ?_
      exact g_zret hx hb hr hK hlk vz1 h hH dX8_makePart_176
    · replace h := h.2 q16
      refine lv_aload hx hb dX8_makePart_141 (lv_at hl 1 rfl) ?_
      refine lv_iload hx hb dX8_makePart_143 (lv_at hl 3 rfl) ?_
      refine g_putN hx hb hB inB0 tyX0 tyX0_ok nmX0 hown hK hH (c0 := c4) hc4.1 rfl 1 (by decide) k256 rfl rfl rfl rfl rfl dX8_makePart_145 (fun σ19 eσ19 H locs hH => ?_)
      replace h := h σ19 eσ19
      refine lv_iconst (v := 0) hx hb dX8_makePart_148 (by decide) ?_
      exact g_zret hx hb hr hK hlk vz0 h hH dX8_makePart_149
  have L104 : ∀ (x3 : Int32) (c4 : Nat) (hc4 : isAir G c4) (c5 : Nat) (hc5 : isSender G c5) (x7 : Int32) (σ : Sg) (H : Heap) (locs : List Loc) (ls : Array Slot), Hx G (aA G s.heap.size) s σ H locs → lv_has ls 9 [(0, .ref (ga G 0)), (3, .int x3), (4, .ref (ga G c4)), (5, .ref (ga G c5)), (7, .int x7)] → wpX8_makePart_L104 P tS.2 Q x3 c4 c5 x7 σ → W p l e ({ frames := 5, cells := 0, slots := 0, locals := 122 }) s m args below meth c H locs 0 0 (Zi G Q below args s) (F0 m 104 ls []) := by
    intro x3 c4 hc4 c5 hc5 x7 σ H locs ls hH hl h
    unfold wpX8_makePart_L104 at h
    refine lv_aload hx hb dX8_makePart_104 (lv_at hl 3 rfl) ?_
    refine g_getiN hx hb hB inB7 hown hK hH (c0 := c5) hc5.1 rfl 8 (by decide) k166 rfl rfl dX8_makePart_106 ?_
    refine lv_if_ne (tgt := 124) hx hb dX8_makePart_109 (by decide) (fun q20 => ?_) (fun q20 => ?_)
    · replace h := h.1 q20
      exact L124 c4 hc4 c5 hc5 x7 σ _ _ ls hH (lv_sub hl [2, 3, 4] rfl) h
    · replace h := h.2 q20
      refine lv_aload hx hb dX8_makePart_112 (lv_at hl 3 rfl) ?_
      refine lv_aload hx hb dX8_makePart_114 (lv_at hl 2 rfl) ?_
      refine lv_iload_n hx hb dX8_makePart_116 rfl (lv_at hl 1 rfl) ?_
      refine lv_aload_n hx hb dX8_makePart_117 rfl (lv_at hl 0 rfl) ?_
      refine g_getr hx hb hB inB8 hown hK hH (c0 := 0) h0.1 rfl 4 (by decide) k26 rfl (c1 := 3) rfl dX8_makePart_118 ?_
      refine g_callVv (As := [.ref (ga G c4), .int x3, .ref (ga G 3)]) (rest := []) ⟨hx, hb, hml, hown, hB⟩ hK hX aA_hA hH (c0 := c5) (tX7_makeNew (tS := tS) hgo hc5 hc4 h0.2.2.2.1 h) (cwV 3 hB gVX8_279 rfl rfl rfl (by decide +kernel) ⟨Nat.le_of_ble_eq_true rfl, Nat.le_of_ble_eq_true rfl⟩) hc5.1 rfl rfl hl.1 rfl (lv_room (Nat.le_of_ble_eq_true rfl)) ⟨Nat.zero_le _, Nat.zero_le _⟩ dX8_makePart_121 (fun σ21 H locs h hH => ?_)
      exact L124 c4 hc4 c5 hc5 x7 σ21 _ _ ls hH (lv_sub hl [2, 3, 4] rfl) h
  have L77 : ∀ (x3 : Int32) (c4 : Nat) (hc4 : isAir G c4) (c5 : Nat) (hc5 : isSender G c5) (x7 : Int32) (σ : Sg) (H : Heap) (locs : List Loc) (ls : Array Slot), Hx G (aA G s.heap.size) s σ H locs → lv_has ls 9 [(0, .ref (ga G 0)), (3, .int x3), (4, .ref (ga G c4)), (5, .ref (ga G c5)), (7, .int x7)] → wpX8_makePart_L77 P tS.2 Q x3 c4 c5 x7 σ → W p l e ({ frames := 5, cells := 0, slots := 0, locals := 122 }) s m args below meth c H locs 0 0 (Zi G Q below args s) (F0 m 77 ls []) := by
    intro x3 c4 hc4 c5 hc5 x7 σ H locs ls hH hl h
    unfold wpX8_makePart_L77 at h
    refine lv_aload hx hb dX8_makePart_77 (lv_at hl 3 rfl) ?_
    refine g_getiN hx hb hB inB7 hown hK hH (c0 := c5) hc5.1 rfl 8 (by decide) k166 rfl rfl dX8_makePart_79 ?_
    refine lv_if_ne (tgt := 104) hx hb dX8_makePart_82 (by decide) (fun q12 => ?_) (fun q12 => ?_)
    · replace h := h.1 q12
      exact L104 x3 c4 hc4 c5 hc5 x7 σ _ _ ls hH (lv_sub hl [0, 1, 2, 3, 4] rfl) h
    · replace h := h.2 q12
      refine lv_aload hx hb dX8_makePart_85 (lv_at hl 3 rfl) ?_
      refine g_getiN hx hb hB inB7 hown hK hH (c0 := c5) hc5.1 rfl 6 (by decide) k160 rfl rfl dX8_makePart_87 ?_
      refine lv_if_le (tgt := 104) hx hb dX8_makePart_90 (by decide) (fun q13 => ?_) (fun q13 => ?_)
      · replace h := h.1 q13
        exact L104 x3 c4 hc4 c5 hc5 x7 σ _ _ ls hH (lv_sub hl [0, 1, 2, 3, 4] rfl) h
      · replace h := h.2 q13
        refine lv_aload hx hb dX8_makePart_93 (lv_at hl 3 rfl) ?_
        refine lv_aload hx hb dX8_makePart_95 (lv_at hl 2 rfl) ?_
        refine lv_iload_n hx hb dX8_makePart_97 rfl (lv_at hl 1 rfl) ?_
        refine g_callVv (As := [.ref (ga G c4), .int x3]) (rest := []) ⟨hx, hb, hml, hown, hB⟩ hK hX aA_hA hH (c0 := c5) (tX7_makeAgain (tS := tS) hgo hc5 hc4 h) (cwV 2 hB gVX8_276 rfl rfl rfl (by decide +kernel) ⟨Nat.le_of_ble_eq_true rfl, Nat.le_of_ble_eq_true rfl⟩) hc5.1 rfl rfl hl.1 rfl (lv_room (Nat.le_of_ble_eq_true rfl)) ⟨Nat.zero_le _, Nat.zero_le _⟩ dX8_makePart_98 (fun σ14 H locs h hH => ?_)
        refine lv_goto (tgt := 124) hx hb dX8_makePart_101 (by decide) ?_
        exact L124 c4 hc4 c5 hc5 x7 σ14 _ _ ls hH (lv_sub hl [2, 3, 4] rfl) h
  unfold wpX8_makePart at h
  refine lv_aload_n hx hb dX8_makePart_0 rfl (lv_at hl 0 rfl) ?_
  refine g_getr hx hb hB inB8 hown hK hH (c0 := 0) h0.1 rfl 5 (by decide) k36 rfl (c1 := 7) rfl dX8_makePart_1 ?_
  refine lv_aload_n hx hb dX8_makePart_4 rfl (lv_at hl 0 rfl) ?_
  refine lv_iload_n hx hb dX8_makePart_5 rfl (lv_at hl 1 rfl) ?_
  refine lv_iload_n hx hb dX8_makePart_6 rfl (lv_at hl 2 rfl) ?_
  refine g_callVi (As := [.int x1, .int x2]) (rest := [.ref (ga G 7)]) ⟨hx, hb, hml, hown, hB⟩ hK hX aA_hA hH (c0 := 0) (tX8_placeOf h0 h) (cwV 2 hB gVX8_67 rfl rfl rfl (by decide +kernel) ⟨Nat.le_of_ble_eq_true rfl, Nat.le_of_ble_eq_true rfl⟩) h0.1 rfl rfl hl.1 rfl (lv_room (Nat.le_of_ble_eq_true rfl)) ⟨Nat.zero_le _, Nat.zero_le _⟩ dX8_makePart_7 (fun r1 σ1 H locs h hH => ?_)
  obtain ⟨hi2, h⟩ := h
  refine g_aald hx hb hK hH (c0 := 7) h0.2.2.2.2.1 hi2 dX8_makePart_10 ?_
  have hp2 : isSender G (9 + 113 * r1.toNatClampNeg) := h0.2.2.2.2.2.2.2.1 _ (vp_lt hi2)
  obtain ⟨c_2, ec_2⟩ : ∃ y : Nat, y = 9 + 113 * r1.toNatClampNeg := ⟨_, rfl⟩
  replace h := h c_2 ec_2
  rw [← ec_2] at hp2
  refine W.eq (g2 := F0 m 11 ls [.ref (ga G c_2)]) (by rw [ec_2]) ?_
  refine lv_astore (lv' := [(5, .ref (ga G c_2)), (0, .ref (ga G 0)), (1, .int x1), (2, .int x2), (3, .int x3), (4, .ref (ga G c4))]) hx hb dX8_makePart_11 hl (by decide) rfl (fun ls hl => ?_)
  refine lv_aload_n hx hb dX8_makePart_13 rfl (lv_at hl 1 rfl) ?_
  refine g_getr hx hb hB inB8 hown hK hH (c0 := 0) h0.1 rfl 6 (by decide) k42 rfl (c1 := 8) rfl dX8_makePart_14 ?_
  refine lv_aload_n hx hb dX8_makePart_17 rfl (lv_at hl 1 rfl) ?_
  refine lv_iload_n hx hb dX8_makePart_18 rfl (lv_at hl 2 rfl) ?_
  refine lv_iload_n hx hb dX8_makePart_19 rfl (lv_at hl 3 rfl) ?_
  refine g_callVi (As := [.int x1, .int x2]) (rest := [.ref (ga G 8)]) ⟨hx, hb, hml, hown, hB⟩ hK hX aA_hA hH (c0 := 0) (tX8_placeOf h0 h) (cwV 2 hB gVX8_67 rfl rfl rfl (by decide +kernel) ⟨Nat.le_of_ble_eq_true rfl, Nat.le_of_ble_eq_true rfl⟩) h0.1 rfl rfl hl.1 rfl (lv_room (Nat.le_of_ble_eq_true rfl)) ⟨Nat.zero_le _, Nat.zero_le _⟩ dX8_makePart_20 (fun r3 σ3 H locs h hH => ?_)
  obtain ⟨hi4, h⟩ := h
  refine g_aald hx hb hK hH (c0 := 8) h0.2.2.2.2.2.1 hi4 dX8_makePart_23 ?_
  have hp4 : isReceiver G (51 + 113 * r3.toNatClampNeg) := h0.2.2.2.2.2.2.2.2.1 _ (vp_lt hi4)
  obtain ⟨c_4, ec_4⟩ : ∃ y : Nat, y = 51 + 113 * r3.toNatClampNeg := ⟨_, rfl⟩
  replace h := h c_4 ec_4
  rw [← ec_4] at hp4
  refine W.eq (g2 := F0 m 24 ls [.ref (ga G c_4)]) (by rw [ec_4]) ?_
  refine lv_astore (lv' := [(6, .ref (ga G c_4)), (5, .ref (ga G c_2)), (0, .ref (ga G 0)), (1, .int x1), (2, .int x2), (3, .int x3), (4, .ref (ga G c4))]) hx hb dX8_makePart_24 hl (by decide) rfl (fun ls hl => ?_)
  refine lv_aload hx hb dX8_makePart_26 (lv_at hl 6 rfl) ?_
  refine g_getiN hx hb hB inB0 hown hK hH (c0 := c4) hc4.1 rfl 1 (by decide) k256 rfl rfl dX8_makePart_28 ?_
  refine lv_topi (fun x7_5 ex7_5 => ?_)
  replace h := h x7_5 ex7_5
  refine lv_istore (lv' := [(7, .int x7_5), (6, .ref (ga G c_4)), (5, .ref (ga G c_2)), (0, .ref (ga G 0)), (1, .int x1), (2, .int x2), (3, .int x3), (4, .ref (ga G c4))]) hx hb dX8_makePart_31 hl (by decide) rfl (fun ls hl => ?_)
  refine lv_aload hx hb dX8_makePart_33 (lv_at hl 7 rfl) ?_
  refine lv_iload_n hx hb dX8_makePart_35 rfl (lv_at hl 5 rfl) ?_
  refine g_callVv (As := [.int x2]) (rest := []) ⟨hx, hb, hml, hown, hB⟩ hK hX aA_hA hH (c0 := c4) (tX0_put hc4 h) (cwV 1 hB gVX8_270 rfl rfl rfl (by decide +kernel) ⟨Nat.le_of_ble_eq_true rfl, Nat.le_of_ble_eq_true rfl⟩) hc4.1 rfl rfl hl.1 rfl (lv_room (Nat.le_of_ble_eq_true rfl)) ⟨Nat.zero_le _, Nat.zero_le _⟩ dX8_makePart_36 (fun σ6 H locs h hH => ?_)
  refine lv_aload hx hb dX8_makePart_39 (lv_at hl 7 rfl) ?_
  refine lv_iconst (v := 0) hx hb dX8_makePart_41 (by decide) ?_
  refine g_callVv (As := [.int 0]) (rest := []) ⟨hx, hb, hml, hown, hB⟩ hK hX aA_hA hH (c0 := c4) (tX0_put hc4 h) (cwV 1 hB gVX8_270 rfl rfl rfl (by decide +kernel) ⟨Nat.le_of_ble_eq_true rfl, Nat.le_of_ble_eq_true rfl⟩) hc4.1 rfl rfl hl.1 rfl (lv_room (Nat.le_of_ble_eq_true rfl)) ⟨Nat.zero_le _, Nat.zero_le _⟩ dX8_makePart_42 (fun σ7 H locs h hH => ?_)
  refine lv_aload hx hb dX8_makePart_45 (lv_at hl 1 rfl) ?_
  refine g_getiN hx hb hB inB6 hown hK hH (c0 := c_4) hp4.1 rfl 7 (by decide) k201 rfl rfl dX8_makePart_47 ?_
  refine lv_if_eq (tgt := 77) hx hb dX8_makePart_50 (by decide) (fun q8 => ?_) (fun q8 => ?_)
  · replace h := h.1 q8
    exact L77 x3 c4 hc4 c_2 hp2 x7_5 σ7 _ _ ls hH (lv_sub hl [3, 6, 7, 2, 0] rfl) h
  · replace h := h.2 q8
    refine lv_aload hx hb dX8_makePart_53 (lv_at hl 1 rfl) ?_
    refine g_getiN hx hb hB inB6 hown hK hH (c0 := c_4) hp4.1 rfl 9 (by decide) k198 rfl rfl dX8_makePart_55 ?_
    refine lv_if_ne (tgt := 77) hx hb dX8_makePart_58 (by decide) (fun q9 => ?_) (fun q9 => ?_)
    · replace h := h.1 q9
      exact L77 x3 c4 hc4 c_2 hp2 x7_5 σ7 _ _ ls hH (lv_sub hl [3, 6, 7, 2, 0] rfl) h
    · replace h := h.2 q9
      refine lv_iload_n hx hb dX8_makePart_61 rfl (lv_at hl 6 rfl) ?_
      refine lv_iconst (v := 2) hx hb dX8_makePart_62 (by decide) ?_
      refine lv_icmp_lt (tgt := 77) hx hb dX8_makePart_63 (by decide) (fun q10 => ?_) (fun q10 => ?_)
      · replace h := h.1 q10
        exact L77 x3 c4 hc4 c_2 hp2 x7_5 σ7 _ _ ls hH (lv_sub hl [3, 6, 7, 2, 0] rfl) h
      · replace h := h.2 q10
        refine lv_aload hx hb dX8_makePart_66 (lv_at hl 1 rfl) ?_
        refine lv_aload hx hb dX8_makePart_68 (lv_at hl 7 rfl) ?_
        refine lv_iload_n hx hb dX8_makePart_70 rfl (lv_at hl 6 rfl) ?_
        refine g_callVv (As := [.ref (ga G c4), .int x3]) (rest := []) ⟨hx, hb, hml, hown, hB⟩ hK hX aA_hA hH (c0 := c_4) (tX6_makeStatus (tS := tS) hgo hp4 hc4 h) (cwV 2 hB gVX8_273 rfl rfl rfl (by decide +kernel) ⟨Nat.le_of_ble_eq_true rfl, Nat.le_of_ble_eq_true rfl⟩) hp4.1 rfl rfl hl.1 rfl (lv_room (Nat.le_of_ble_eq_true rfl)) ⟨Nat.zero_le _, Nat.zero_le _⟩ dX8_makePart_71 (fun σ11 H locs h hH => ?_)
        refine lv_goto (tgt := 124) hx hb dX8_makePart_74 (by decide) ?_
        exact L124 c4 hc4 c_2 hp2 x7_5 σ11 _ _ ls hH (lv_sub hl [7, 2, 0] rfl) h
def wpX8_fillUp_L20 (P : Nat) (Q : Sg → Prop) : Nat → Nat → Int32 → Int32 → Sg → Prop
  | 0, _, _, _, _ => False
  | n + 1, c0, x1, x2, σ => ((x1 ≤ x2 → Q σ) ∧ (¬ (x1 ≤ x2) → wpX0_put c0 0 σ (fun σ5 => ∀ x2_6 : Int32, x2_6 = x2 + 1 → (wpX8_fillUp_L20 P Q n) c0 x1 x2_6 σ5)))
def wpX8_fillUp_L15 (P : Nat) (Q : Sg → Prop) (c0 : Nat) (x1 : Int32) (σ : Sg) : Prop := ∀ x2_3 : Int32, x2_3 = σ c0 1 → ∃ nn, wpX8_fillUp_L20 P Q nn c0 x1 x2_3 σ
def wpX8_fillUp (P : Nat) (c0 : Nat) (x1 : Int32) (σ : Sg) (Q : Sg → Prop) : Prop := ((x1 ≤ (σ c0 1) → wpX8_fillUp_L15 P Q c0 x1 σ) ∧ (¬ (x1 ≤ (σ c0 1)) → wpX0_put c0 255 σ (fun σ2 => wpX8_fillUp_L15 P Q c0 x1 σ2)))
set_option maxHeartbeats 8000000 in
set_option maxRecDepth 100000 in
theorem tX8_fillUp {l : Launch} {G : GG} {P : Nat} {tS : Nat × (Nat → Int32)} (hgo : go G = some tS) {c0 : Nat} {x1 : Int32} {σ : Sg} {Q : Sg → Prop} (hc0 : isAir G c0) (h : wpX8_fillUp P c0 x1 σ Q) : Kv l G yX8_fillUp (wB yX8_fillUp prog_1_method_19_code 3 none) ({ frames := 1, cells := 0, slots := 0, locals := 21 }) [.ref (ga G c0), .int x1] σ Q := by
  refine K_of (cc := cX8_fillUp) (maxL := 3) (ret := none) (by decide) rfl (Nat.le_of_ble_eq_true rfl) ?_
  intro p e s m args below meth c ls B hH hl
  obtain ⟨hx, hb, hr, hts, hown, hlk, hml, hK, hX⟩ := B
  replace hl : lv_has ls 3 [(0, .ref (ga G c0)), (1, .int x1)] := hl
  have hXN : NWs s := XS.nw hX hgo
  have hB : ∀ w ∈ BIG, w.before args s = true := fun w h9 => hts w (List.mem_cons_of_mem _ h9)
  clear hts
  have k256 : (Cond.fieldLinkNest RX8 256 "BearerHouse$Air" "size" "I" "BearerHouse").before args s = true := va_Nw.use rfl (hXN.1 ("BearerHouse", 256, "BearerHouse$Air", "size", "I", "BearerHouse") (List.mem_of_getElem? (i := 33) rfl))
  have L20 : ∀ (n20 : Nat) (c0 : Nat) (hc0 : isAir G c0) (x1 : Int32) (x2 : Int32) (σ : Sg) (H : Heap) (locs : List Loc) (ls : Array Slot), Hx G (aA G s.heap.size) s σ H locs → lv_has ls 3 [(0, .ref (ga G c0)), (1, .int x1), (2, .int x2)] → wpX8_fillUp_L20 P Q n20 c0 x1 x2 σ → W p l e ({ frames := 1, cells := 0, slots := 0, locals := 21 }) s m args below meth c H locs 0 0 (Zv G Q below args s) (F0 m 20 ls []) := by
    intro n20
    induction n20 with
    | zero =>
      intro c0 hc0 x1 x2 σ H locs ls hH hl h
      exact False.elim h
    | succ n20 ih20 =>
      intro c0 hc0 x1 x2 σ H locs ls hH hl h
      unfold wpX8_fillUp_L20 at h
      refine lv_iload_n hx hb dX8_fillUp_20 rfl (lv_at hl 2 rfl) ?_
      refine lv_iload_n hx hb dX8_fillUp_21 rfl (lv_at hl 1 rfl) ?_
      refine lv_icmp_ge (tgt := 36) hx hb dX8_fillUp_22 (by decide) (fun q4 => ?_) (fun q4 => ?_)
      · replace h := h.1 q4
        exact g_vret hx hb hr hK hlk h hH dX8_fillUp_36
      · replace h := h.2 q4
        refine lv_aload_n hx hb dX8_fillUp_25 rfl (lv_at hl 0 rfl) ?_
        refine lv_iconst (v := 0) hx hb dX8_fillUp_26 (by decide) ?_
        refine g_callVv (As := [.int 0]) (rest := []) ⟨hx, hb, hml, hown, hB⟩ hK hX aA_hA hH (c0 := c0) (tX0_put hc0 h) (cwV 1 hB gVX8_270 rfl rfl rfl (by decide +kernel) ⟨Nat.le_of_ble_eq_true rfl, Nat.le_of_ble_eq_true rfl⟩) hc0.1 rfl rfl hl.1 rfl (lv_room (Nat.le_of_ble_eq_true rfl)) ⟨Nat.zero_le _, Nat.zero_le _⟩ dX8_fillUp_27 (fun σ5 H locs h hH => ?_)
        obtain ⟨x2_6, ex2_6⟩ : ∃ y : Int32, y = x2 + 1 := ⟨_, rfl⟩
        replace h := h x2_6 ex2_6
        refine lv_iinc (v := x2_6) (lv' := [(2, .int x2_6), (0, .ref (ga G c0)), (1, .int x1)]) hx hb dX8_fillUp_30 hl (k := 2) rfl (by rw [ex2_6]; rfl) (by decide) rfl (fun ls hl => ?_)
        refine lv_goto (tgt := 20) hx hb dX8_fillUp_33 (by decide) ?_
        exact ih20 c0 hc0 x1 x2_6 σ5 _ _ ls hH (lv_sub hl [1, 2, 0] rfl) h
  have L15 : ∀ (c0 : Nat) (hc0 : isAir G c0) (x1 : Int32) (σ : Sg) (H : Heap) (locs : List Loc) (ls : Array Slot), Hx G (aA G s.heap.size) s σ H locs → lv_has ls 3 [(0, .ref (ga G c0)), (1, .int x1)] → wpX8_fillUp_L15 P Q c0 x1 σ → W p l e ({ frames := 1, cells := 0, slots := 0, locals := 21 }) s m args below meth c H locs 0 0 (Zv G Q below args s) (F0 m 15 ls []) := by
    intro c0 hc0 x1 σ H locs ls hH hl h
    unfold wpX8_fillUp_L15 at h
    refine lv_aload_n hx hb dX8_fillUp_15 rfl (lv_at hl 0 rfl) ?_
    refine g_getiN hx hb hB inB0 hown hK hH (c0 := c0) hc0.1 rfl 1 (by decide) k256 rfl rfl dX8_fillUp_16 ?_
    refine lv_topi (fun x2_3 ex2_3 => ?_)
    replace h := h x2_3 ex2_3
    refine lv_istore_n (lv' := [(2, .int x2_3), (0, .ref (ga G c0)), (1, .int x1)]) hx hb dX8_fillUp_19 rfl hl (by decide) rfl (fun ls hl => ?_)
    obtain ⟨nn, h⟩ := h
    exact L20 nn c0 hc0 x1 x2_3 σ _ _ ls hH (lv_sub hl [1, 2, 0] rfl) h
  unfold wpX8_fillUp at h
  refine lv_aload_n hx hb dX8_fillUp_0 rfl (lv_at hl 0 rfl) ?_
  refine g_getiN hx hb hB inB0 hown hK hH (c0 := c0) hc0.1 rfl 1 (by decide) k256 rfl rfl dX8_fillUp_1 ?_
  refine lv_iload_n hx hb dX8_fillUp_4 rfl (lv_at hl 1 rfl) ?_
  refine lv_icmp_ge (tgt := 15) hx hb dX8_fillUp_5 (by decide) (fun q1 => ?_) (fun q1 => ?_)
  · replace h := h.1 q1
    exact L15 c0 hc0 x1 σ _ _ ls hH (lv_sub hl [0, 1] rfl) h
  · replace h := h.2 q1
    refine lv_aload_n hx hb dX8_fillUp_8 rfl (lv_at hl 0 rfl) ?_
    refine lv_sipush (v := 255) hx hb dX8_fillUp_9 (by decide) ?_
    refine g_callVv (As := [.int 255]) (rest := []) ⟨hx, hb, hml, hown, hB⟩ hK hX aA_hA hH (c0 := c0) (tX0_put hc0 h) (cwV 1 hB gVX8_270 rfl rfl rfl (by decide +kernel) ⟨Nat.le_of_ble_eq_true rfl, Nat.le_of_ble_eq_true rfl⟩) hc0.1 rfl rfl hl.1 rfl (lv_room (Nat.le_of_ble_eq_true rfl)) ⟨Nat.zero_le _, Nat.zero_le _⟩ dX8_fillUp_12 (fun σ2 H locs h hH => ?_)
    exact L15 c0 hc0 x1 σ2 _ _ ls hH (lv_sub hl [0, 1] rfl) h
def wpX8_fillBlock_L160 (P : Nat) (tb : Nat → Int32) (Q : Sg → Prop) (K15 : Int32 → Nat → Int32 → Nat → Int32 → Sg → Prop) (x1 : Int32) (c2 : Nat) (x3 : Int32) (c4 : Nat) (x5 : Int32) (σ : Sg) : Prop := ∀ x5_15 : Int32, x5_15 = x5 + 1 → K15 x1 c2 x3 c4 x5_15 σ
def wpX8_fillBlock_L152 (P : Nat) (tb : Nat → Int32) (Q : Sg → Prop) (K15 : Int32 → Nat → Int32 → Nat → Int32 → Sg → Prop) (K81 : Int32 → Nat → Int32 → Nat → Int32 → Int32 → Int32 → Nat → Int32 → Int32 → Sg → Prop) (x1 : Int32) (c2 : Nat) (x3 : Int32) (c4 : Nat) (x5 : Int32) (x6 : Int32) (x7 : Int32) (c8 : Nat) (x10 : Int32) (z0 : Int32) (σ : Sg) : Prop := ∀ x10_20 : Int32, x10_20 = x10 + 1 → K81 x1 c2 x3 c4 x5 x6 x7 c8 z0 x10_20 σ
def wpX8_fillBlock_L151 (P : Nat) (tb : Nat → Int32) (Q : Sg → Prop) (K15 : Int32 → Nat → Int32 → Nat → Int32 → Sg → Prop) (K81 : Int32 → Nat → Int32 → Nat → Int32 → Int32 → Int32 → Nat → Int32 → Int32 → Sg → Prop) (x1 : Int32) (c2 : Nat) (x3 : Int32) (c4 : Nat) (x5 : Int32) (x6 : Int32) (x7 : Int32) (c8 : Nat) (x10 : Int32) (σ : Sg) : Prop := wpX8_fillBlock_L152 P tb Q K15 K81 x1 c2 x3 c4 x5 x6 x7 c8 x10 0 σ
def wpX8_fillBlock_L123 (P : Nat) (tb : Nat → Int32) (Q : Sg → Prop) (K15 : Int32 → Nat → Int32 → Nat → Int32 → Sg → Prop) (K81 : Int32 → Nat → Int32 → Nat → Int32 → Int32 → Int32 → Nat → Int32 → Int32 → Sg → Prop) (x1 : Int32) (c2 : Nat) (x3 : Int32) (c4 : Nat) (x5 : Int32) (x6 : Int32) (x7 : Int32) (c8 : Nat) (x10 : Int32) (z0 : Int32) (σ : Sg) : Prop := ∀ x12_16 : Int32, x12_16 = z0 - 2 → ((x12_16 < 1 → wpX8_fillBlock_L151 P tb Q K15 K81 x1 c2 x3 c4 x5 x6 x7 c8 x10 σ) ∧ (¬ (x12_16 < 1) → wpX8_makePart P tb x1 x7 x12_16 c4 σ (fun r18 σ18 => ((r18 = 0 → wpX8_fillBlock_L151 P tb Q K15 K81 x1 c2 x3 c4 x5 x6 x7 c8 x10 σ18) ∧ (¬ (r18 = 0) → wpX8_fillBlock_L152 P tb Q K15 K81 x1 c2 x3 c4 x5 x6 x7 c8 x10 1 σ18)))))
def wpX8_fillBlock_L81 (P : Nat) (tb : Nat → Int32) (Q : Sg → Prop) (K15 : Int32 → Nat → Int32 → Nat → Int32 → Sg → Prop) : Nat → Int32 → Nat → Int32 → Nat → Int32 → Int32 → Int32 → Nat → Int32 → Int32 → Sg → Prop
  | 0, _, _, _, _, _, _, _, _, _, _, _ => False
  | n + 1, x1, c2, x3, c4, x5, x6, x7, c8, x9, x10, σ => ((250 ≤ x10 → wpX8_fillBlock_L160 P tb Q K15 x1 c2 x3 c4 x5 σ) ∧ (¬ (250 ≤ x10) → ((x9 = 0 → wpX8_fillBlock_L160 P tb Q K15 x1 c2 x3 c4 x5 σ) ∧ (¬ (x9 = 0) → ∀ x11_12 : Int32, x11_12 = x3 - (σ c4 1) → ((x6 = 0 → wpX8_fillBlock_L123 P tb Q K15 (wpX8_fillBlock_L81 P tb Q K15 n) x1 c2 x3 c4 x5 x6 x7 c8 x10 x11_12 σ) ∧ (¬ (x6 = 0) → ∀ w14 : Int32, w14 = (if (σ c8 3) < x11_12 then (σ c8 3) else x11_12) → wpX8_fillBlock_L123 P tb Q K15 (wpX8_fillBlock_L81 P tb Q K15 n) x1 c2 x3 c4 x5 x6 x7 c8 x10 w14 σ))))))
def wpX8_fillBlock_L59 (P : Nat) (tb : Nat → Int32) (Q : Sg → Prop) (K15 : Int32 → Nat → Int32 → Nat → Int32 → Sg → Prop) (x1 : Int32) (c2 : Nat) (x3 : Int32) (c4 : Nat) (x5 : Int32) (x6 : Int32) (z0 : Int32) (σ : Sg) : Prop := wpX8_placeOf P x1 z0 σ (fun r8 σ8 => (vp_in r8 P ∧ ∀ c_9 : Nat, c_9 = 9 + 113 * r8.toNatClampNeg → ∃ nn, wpX8_fillBlock_L81 P tb Q K15 nn x1 c2 x3 c4 x5 x6 z0 c_9 1 0 σ8))
def wpX8_fillBlock_L40 (P : Nat) (tb : Nat → Int32) (Q : Sg → Prop) (K15 : Int32 → Nat → Int32 → Nat → Int32 → Sg → Prop) (x1 : Int32) (c2 : Nat) (x3 : Int32) (c4 : Nat) (x5 : Int32) (z0 : Int32) (σ : Sg) : Prop := ((z0 = 0 → wpX8_fillBlock_L59 P tb Q K15 x1 c2 x3 c4 x5 z0 (x5 - (σ 0 0)) σ) ∧ (¬ (z0 = 0) → wpX8_fillBlock_L59 P tb Q K15 x1 c2 x3 c4 x5 z0 x5 σ))
def wpX8_fillBlock_L15 (P : Nat) (tb : Nat → Int32) (Q : Sg → Prop) : Nat → Int32 → Nat → Int32 → Nat → Int32 → Sg → Prop
  | 0, _, _, _, _, _, _ => False
  | n + 1, x1, c2, x3, c4, x5, σ => (((2 * (σ 0 0)) ≤ x5 → (((σ c4 1) ≤ 0 → Q σ) ∧ (¬ ((σ c4 1) ≤ 0) → wpX8_fillUp P c4 x3 σ (fun σ4 => ∀ σ5 : Sg, σ5 = up2 σ4 c2 1 x3 → Q σ5)))) ∧ (¬ ((2 * (σ 0 0)) ≤ x5) → (((σ 0 0) ≤ x5 → wpX8_fillBlock_L40 P tb Q (wpX8_fillBlock_L15 P tb Q n) x1 c2 x3 c4 x5 0 σ) ∧ (¬ ((σ 0 0) ≤ x5) → wpX8_fillBlock_L40 P tb Q (wpX8_fillBlock_L15 P tb Q n) x1 c2 x3 c4 x5 1 σ))))
def wpX8_fillBlock (P : Nat) (tb : Nat → Int32) (x1 : Int32) (c2 : Nat) (x3 : Int32) (σ : Sg) (Q : Sg → Prop) : Prop := ∀ σ1 : Sg, σ1 = up2 σ (c2 + 1) 1 0 → ∃ nn, wpX8_fillBlock_L15 P tb Q nn x1 c2 x3 (c2 + 1) 0 σ1
set_option maxHeartbeats 8000000 in
set_option maxRecDepth 100000 in
theorem tX8_fillBlock {l : Launch} {G : GG} {P : Nat} {tS : Nat × (Nat → Int32)} (hgo : go G = some tS) {x1 : Int32} {c2 : Nat} {x3 : Int32} {σ : Sg} {Q : Sg → Prop} (h0 : isHouse G P) (hc2 : isCarrier G c2) (h : wpX8_fillBlock P tS.2 x1 c2 x3 σ Q) : Kv l G yX8_fillBlock (wB yX8_fillBlock prog_1_method_18_code 13 none) ({ frames := 6, cells := 0, slots := 0, locals := 150 }) [.ref (ga G 0), .int x1, .ref (ga G c2), .int x3] σ Q := by
  refine K_of (cc := cX8_fillBlock) (maxL := 13) (ret := none) (by decide) rfl (Nat.le_of_ble_eq_true rfl) ?_
  intro p e s m args below meth c ls B hH hl
  obtain ⟨hx, hb, hr, hts, hown, hlk, hml, hK, hX⟩ := B
  replace hl : lv_has ls 13 [(0, .ref (ga G 0)), (1, .int x1), (2, .ref (ga G c2)), (3, .int x3)] := hl
  have hXN : NWs s := XS.nw hX hgo
  have hB : ∀ w ∈ BIG, w.before args s = true := fun w h9 => hts w (List.mem_cons_of_mem _ h9)
  clear hts
  have k16 := hB _ bw2_116
  have k36 := hB _ bw2_121
  have k101 : (Cond.fieldLinkNest RX8 101 "BearerHouse$Carrier" "size" "I" "BearerHouse").before args s = true := va_Nw.use rfl (hXN.1 ("BearerHouse", 101, "BearerHouse$Carrier", "size", "I", "BearerHouse") (List.mem_of_getElem? (i := 0) rfl))
  have k108 : (Cond.fieldLinkNest RX8 108 "BearerHouse$Carrier" "air" "LBearerHouse$Air;" "BearerHouse").before args s = true := va_Nw.use rfl (hXN.1 ("BearerHouse", 108, "BearerHouse$Carrier", "air", "LBearerHouse$Air;", "BearerHouse") (List.mem_of_getElem? (i := 1) rfl))
  have k170 : (Cond.fieldLinkNest RX8 170 "BearerHouse$Sender" "bucket" "I" "BearerHouse").before args s = true := va_Nw.use rfl (hXN.1 ("BearerHouse", 170, "BearerHouse$Sender", "bucket", "I", "BearerHouse") (List.mem_of_getElem? (i := 9) rfl))
  have k256 : (Cond.fieldLinkNest RX8 256 "BearerHouse$Air" "size" "I" "BearerHouse").before args s = true := va_Nw.use rfl (hXN.1 ("BearerHouse", 256, "BearerHouse$Air", "size", "I", "BearerHouse") (List.mem_of_getElem? (i := 33) rfl))
  have k257 := hB _ bw3_22
  have kmmin1 := hB _ bw3_16
  have km2 := hB _ bw1_12
  have kmmin3 : (Cond.code Lib.Math.min.name Lib.Math.min.code 2 (some .int)).before args s = true := hB _ bw3_17
  have L15 : ∀ (n15 : Nat) (x1 : Int32) (c2 : Nat) (hc2 : isCarrier G c2) (x3 : Int32) (c4 : Nat) (hc4 : isAir G c4) (x5 : Int32) (σ : Sg) (H : Heap) (locs : List Loc) (ls : Array Slot), Hx G (aA G s.heap.size) s σ H locs → lv_has ls 13 [(0, .ref (ga G 0)), (1, .int x1), (2, .ref (ga G c2)), (3, .int x3), (4, .ref (ga G c4)), (5, .int x5)] → wpX8_fillBlock_L15 P tS.2 Q n15 x1 c2 x3 c4 x5 σ → W p l e ({ frames := 6, cells := 0, slots := 0, locals := 150 }) s m args below meth c H locs 0 0 (Zv G Q below args s) (F0 m 15 ls []) := by
    intro n15
    induction n15 with
    | zero =>
      intro x1 c2 hc2 x3 c4 hc4 x5 σ H locs ls hH hl h
      exact False.elim h
    | succ n15 ih15 =>
      have L160 : ∀ (x1 : Int32) (c2 : Nat) (hc2 : isCarrier G c2) (x3 : Int32) (c4 : Nat) (hc4 : isAir G c4) (x5 : Int32) (σ : Sg) (H : Heap) (locs : List Loc) (ls : Array Slot), Hx G (aA G s.heap.size) s σ H locs → lv_has ls 13 [(0, .ref (ga G 0)), (1, .int x1), (2, .ref (ga G c2)), (3, .int x3), (4, .ref (ga G c4)), (5, .int x5)] → wpX8_fillBlock_L160 P tS.2 Q (wpX8_fillBlock_L15 P tS.2 Q n15) x1 c2 x3 c4 x5 σ → W p l e ({ frames := 6, cells := 0, slots := 0, locals := 150 }) s m args below meth c H locs 0 0 (Zv G Q below args s) (F0 m 160 ls []) := by
        intro x1 c2 hc2 x3 c4 hc4 x5 σ H locs ls hH hl h
        unfold wpX8_fillBlock_L160 at h
        obtain ⟨x5_15, ex5_15⟩ : ∃ y : Int32, y = x5 + 1 := ⟨_, rfl⟩
        replace h := h x5_15 ex5_15
        refine lv_iinc (v := x5_15) (lv' := [(5, .int x5_15), (0, .ref (ga G 0)), (1, .int x1), (2, .ref (ga G c2)), (3, .int x3), (4, .ref (ga G c4))]) hx hb dX8_fillBlock_160 hl (k := 5) rfl (by rw [ex5_15]; rfl) (by decide) rfl (fun ls hl => ?_)
        refine lv_goto (tgt := 15) hx hb dX8_fillBlock_163 (by decide) ?_
        exact ih15 x1 c2 hc2 x3 c4 hc4 x5_15 σ _ _ ls hH (lv_sub hl [1, 2, 3, 4, 5, 0] rfl) h
      have L81 : ∀ (n81 : Nat) (x1 : Int32) (c2 : Nat) (hc2 : isCarrier G c2) (x3 : Int32) (c4 : Nat) (hc4 : isAir G c4) (x5 : Int32) (x6 : Int32) (x7 : Int32) (c8 : Nat) (hc8 : isSender G c8) (x9 : Int32) (x10 : Int32) (σ : Sg) (H : Heap) (locs : List Loc) (ls : Array Slot), Hx G (aA G s.heap.size) s σ H locs → lv_has ls 13 [(0, .ref (ga G 0)), (1, .int x1), (2, .ref (ga G c2)), (3, .int x3), (4, .ref (ga G c4)), (5, .int x5), (6, .int x6), (7, .int x7), (8, .ref (ga G c8)), (9, .int x9), (10, .int x10)] → wpX8_fillBlock_L81 P tS.2 Q (wpX8_fillBlock_L15 P tS.2 Q n15) n81 x1 c2 x3 c4 x5 x6 x7 c8 x9 x10 σ → W p l e ({ frames := 6, cells := 0, slots := 0, locals := 150 }) s m args below meth c H locs 0 0 (Zv G Q below args s) (F0 m 81 ls []) := by
        intro n81
        induction n81 with
        | zero =>
          intro x1 c2 hc2 x3 c4 hc4 x5 x6 x7 c8 hc8 x9 x10 σ H locs ls hH hl h
          exact False.elim h
        | succ n81 ih81 =>
          have L152 : ∀ (x1 : Int32) (c2 : Nat) (hc2 : isCarrier G c2) (x3 : Int32) (c4 : Nat) (hc4 : isAir G c4) (x5 : Int32) (x6 : Int32) (x7 : Int32) (c8 : Nat) (hc8 : isSender G c8) (x10 : Int32) (z0 : Int32) (σ : Sg) (H : Heap) (locs : List Loc) (ls : Array Slot), Hx G (aA G s.heap.size) s σ H locs → lv_has ls 13 [(0, .ref (ga G 0)), (1, .int x1), (2, .ref (ga G c2)), (3, .int x3), (4, .ref (ga G c4)), (5, .int x5), (6, .int x6), (7, .int x7), (8, .ref (ga G c8)), (10, .int x10)] → wpX8_fillBlock_L152 P tS.2 Q (wpX8_fillBlock_L15 P tS.2 Q n15) (wpX8_fillBlock_L81 P tS.2 Q (wpX8_fillBlock_L15 P tS.2 Q n15) n81) x1 c2 x3 c4 x5 x6 x7 c8 x10 z0 σ → W p l e ({ frames := 6, cells := 0, slots := 0, locals := 150 }) s m args below meth c H locs 0 0 (Zv G Q below args s) (F0 m 152 ls [.int z0]) := by
            intro x1 c2 hc2 x3 c4 hc4 x5 x6 x7 c8 hc8 x10 z0 σ H locs ls hH hl h
            unfold wpX8_fillBlock_L152 at h
            refine lv_istore (lv' := [(9, .int z0), (0, .ref (ga G 0)), (1, .int x1), (2, .ref (ga G c2)), (3, .int x3), (4, .ref (ga G c4)), (5, .int x5), (6, .int x6), (7, .int x7), (8, .ref (ga G c8)), (10, .int x10)]) hx hb dX8_fillBlock_152 hl (by decide) rfl (fun ls hl => ?_)
            obtain ⟨x10_20, ex10_20⟩ : ∃ y : Int32, y = x10 + 1 := ⟨_, rfl⟩
            replace h := h x10_20 ex10_20
            refine lv_iinc (v := x10_20) (lv' := [(10, .int x10_20), (9, .int z0), (0, .ref (ga G 0)), (1, .int x1), (2, .ref (ga G c2)), (3, .int x3), (4, .ref (ga G c4)), (5, .int x5), (6, .int x6), (7, .int x7), (8, .ref (ga G c8))]) hx hb dX8_fillBlock_154 hl (k := 10) rfl (by rw [ex10_20]; rfl) (by decide) rfl (fun ls hl => ?_)
            refine lv_goto (tgt := 81) hx hb dX8_fillBlock_157 (by decide) ?_
            exact ih81 x1 c2 hc2 x3 c4 hc4 x5 x6 x7 c8 hc8 z0 x10_20 σ _ _ ls hH (lv_sub hl [2, 3, 4, 5, 6, 7, 8, 9, 10, 1, 0] rfl) h
          have L151 : ∀ (x1 : Int32) (c2 : Nat) (hc2 : isCarrier G c2) (x3 : Int32) (c4 : Nat) (hc4 : isAir G c4) (x5 : Int32) (x6 : Int32) (x7 : Int32) (c8 : Nat) (hc8 : isSender G c8) (x10 : Int32) (σ : Sg) (H : Heap) (locs : List Loc) (ls : Array Slot), Hx G (aA G s.heap.size) s σ H locs → lv_has ls 13 [(0, .ref (ga G 0)), (1, .int x1), (2, .ref (ga G c2)), (3, .int x3), (4, .ref (ga G c4)), (5, .int x5), (6, .int x6), (7, .int x7), (8, .ref (ga G c8)), (10, .int x10)] → wpX8_fillBlock_L151 P tS.2 Q (wpX8_fillBlock_L15 P tS.2 Q n15) (wpX8_fillBlock_L81 P tS.2 Q (wpX8_fillBlock_L15 P tS.2 Q n15) n81) x1 c2 x3 c4 x5 x6 x7 c8 x10 σ → W p l e ({ frames := 6, cells := 0, slots := 0, locals := 150 }) s m args below meth c H locs 0 0 (Zv G Q below args s) (F0 m 151 ls []) := by
            intro x1 c2 hc2 x3 c4 hc4 x5 x6 x7 c8 hc8 x10 σ H locs ls hH hl h
            unfold wpX8_fillBlock_L151 at h
            refine lv_iconst (v := 0) hx hb dX8_fillBlock_151 (by decide) ?_
            exact L152 x1 c2 hc2 x3 c4 hc4 x5 x6 x7 c8 hc8 x10 0 σ _ _ ls hH (lv_sub hl [0, 1, 2, 3, 4, 5, 6, 7, 8, 9] rfl) h
          have L123 : ∀ (x1 : Int32) (c2 : Nat) (hc2 : isCarrier G c2) (x3 : Int32) (c4 : Nat) (hc4 : isAir G c4) (x5 : Int32) (x6 : Int32) (x7 : Int32) (c8 : Nat) (hc8 : isSender G c8) (x10 : Int32) (z0 : Int32) (σ : Sg) (H : Heap) (locs : List Loc) (ls : Array Slot), Hx G (aA G s.heap.size) s σ H locs → lv_has ls 13 [(0, .ref (ga G 0)), (1, .int x1), (2, .ref (ga G c2)), (3, .int x3), (4, .ref (ga G c4)), (5, .int x5), (6, .int x6), (7, .int x7), (8, .ref (ga G c8)), (10, .int x10)] → wpX8_fillBlock_L123 P tS.2 Q (wpX8_fillBlock_L15 P tS.2 Q n15) (wpX8_fillBlock_L81 P tS.2 Q (wpX8_fillBlock_L15 P tS.2 Q n15) n81) x1 c2 x3 c4 x5 x6 x7 c8 x10 z0 σ → W p l e ({ frames := 6, cells := 0, slots := 0, locals := 150 }) s m args below meth c H locs 0 0 (Zv G Q below args s) (F0 m 123 ls [.int z0]) := by
            intro x1 c2 hc2 x3 c4 hc4 x5 x6 x7 c8 hc8 x10 z0 σ H locs ls hH hl h
            unfold wpX8_fillBlock_L123 at h
            refine lv_iconst (v := 2) hx hb dX8_fillBlock_123 (by decide) ?_
            refine lv_isub hx hb dX8_fillBlock_124 ?_
            refine lv_topi (fun x12_16 ex12_16 => ?_)
            replace h := h x12_16 ex12_16
            refine lv_istore (lv' := [(12, .int x12_16), (0, .ref (ga G 0)), (1, .int x1), (2, .ref (ga G c2)), (3, .int x3), (4, .ref (ga G c4)), (5, .int x5), (6, .int x6), (7, .int x7), (8, .ref (ga G c8)), (10, .int x10)]) hx hb dX8_fillBlock_125 hl (by decide) rfl (fun ls hl => ?_)
            refine lv_iload hx hb dX8_fillBlock_127 (lv_at hl 0 rfl) ?_
            refine lv_iconst (v := 1) hx hb dX8_fillBlock_129 (by decide) ?_
            refine lv_icmp_lt (tgt := 151) hx hb dX8_fillBlock_130 (by decide) (fun q17 => ?_) (fun q17 => ?_)
            · replace h := h.1 q17
              exact L151 x1 c2 hc2 x3 c4 hc4 x5 x6 x7 c8 hc8 x10 σ _ _ ls hH (lv_sub hl [1, 2, 3, 4, 5, 6, 7, 8, 9, 10] rfl) h
            · replace h := h.2 q17
              refine lv_aload_n hx hb dX8_fillBlock_133 rfl (lv_at hl 1 rfl) ?_
              refine lv_iload_n hx hb dX8_fillBlock_134 rfl (lv_at hl 2 rfl) ?_
              refine lv_iload hx hb dX8_fillBlock_135 (lv_at hl 8 rfl) ?_
              refine lv_iload hx hb dX8_fillBlock_137 (lv_at hl 0 rfl) ?_
              refine lv_aload hx hb dX8_fillBlock_139 (lv_at hl 5 rfl) ?_
              refine g_callVi (As := [.int x1, .int x7, .int x12_16, .ref (ga G c4)]) (rest := []) ⟨hx, hb, hml, hown, hB⟩ hK hX aA_hA hH (c0 := 0) (tX8_makePart (tS := tS) hgo h0 hc4 h) (cwV 4 hB gVX8_262 rfl rfl rfl (by decide +kernel) ⟨Nat.le_of_ble_eq_true rfl, Nat.le_of_ble_eq_true rfl⟩) h0.1 rfl rfl hl.1 rfl (lv_room (Nat.le_of_ble_eq_true rfl)) ⟨Nat.zero_le _, Nat.zero_le _⟩ dX8_fillBlock_141 (fun r18 σ18 H locs h hH => ?_)
              refine lv_if_eq (tgt := 151) hx hb dX8_fillBlock_144 (by decide) (fun q19 => ?_) (fun q19 => ?_)
              · replace h := h.1 q19
                exact L151 x1 c2 hc2 x3 c4 hc4 x5 x6 x7 c8 hc8 x10 σ18 _ _ ls hH (lv_sub hl [1, 2, 3, 4, 5, 6, 7, 8, 9, 10] rfl) h
              · replace h := h.2 q19
                refine lv_iconst (v := 1) hx hb dX8_fillBlock_147 (by decide) ?_
                refine lv_goto (tgt := 152) hx hb dX8_fillBlock_148 (by decide) ?_
                exact L152 x1 c2 hc2 x3 c4 hc4 x5 x6 x7 c8 hc8 x10 1 σ18 _ _ ls hH (lv_sub hl [1, 2, 3, 4, 5, 6, 7, 8, 9, 10] rfl) h
          intro x1 c2 hc2 x3 c4 hc4 x5 x6 x7 c8 hc8 x9 x10 σ H locs ls hH hl h
          unfold wpX8_fillBlock_L81 at h
          refine lv_iload hx hb dX8_fillBlock_81 (lv_at hl 10 rfl) ?_
          refine lv_sipush (v := 250) hx hb dX8_fillBlock_83 (by decide) ?_
          refine lv_icmp_ge (tgt := 160) hx hb dX8_fillBlock_86 (by decide) (fun q10 => ?_) (fun q10 => ?_)
          · replace h := h.1 q10
            exact L160 x1 c2 hc2 x3 c4 hc4 x5 σ _ _ ls hH (lv_sub hl [0, 1, 2, 3, 4, 5] rfl) h
          · replace h := h.2 q10
            refine lv_iload hx hb dX8_fillBlock_89 (lv_at hl 9 rfl) ?_
            refine lv_if_eq (tgt := 160) hx hb dX8_fillBlock_91 (by decide) (fun q11 => ?_) (fun q11 => ?_)
            · replace h := h.1 q11
              exact L160 x1 c2 hc2 x3 c4 hc4 x5 σ _ _ ls hH (lv_sub hl [0, 1, 2, 3, 4, 5] rfl) h
            · replace h := h.2 q11
              refine lv_iload_n hx hb dX8_fillBlock_94 rfl (lv_at hl 3 rfl) ?_
              refine lv_aload hx hb dX8_fillBlock_95 (lv_at hl 4 rfl) ?_
              refine g_getiN hx hb hB inB0 hown hK hH (c0 := c4) hc4.1 rfl 1 (by decide) k256 rfl rfl dX8_fillBlock_97 ?_
              refine lv_isub hx hb dX8_fillBlock_100 ?_
              refine lv_topi (fun x11_12 ex11_12 => ?_)
              replace h := h x11_12 ex11_12
              refine lv_istore (lv' := [(11, .int x11_12), (0, .ref (ga G 0)), (1, .int x1), (2, .ref (ga G c2)), (3, .int x3), (4, .ref (ga G c4)), (5, .int x5), (6, .int x6), (7, .int x7), (8, .ref (ga G c8)), (9, .int x9), (10, .int x10)]) hx hb dX8_fillBlock_101 hl (by decide) rfl (fun ls hl => ?_)
              refine lv_iload hx hb dX8_fillBlock_103 (lv_at hl 7 rfl) ?_
              refine lv_if_eq (tgt := 121) hx hb dX8_fillBlock_105 (by decide) (fun q13 => ?_) (fun q13 => ?_)
              · replace h := h.1 q13
                refine lv_iload hx hb dX8_fillBlock_121 (lv_at hl 0 rfl) ?_
                exact L123 x1 c2 hc2 x3 c4 hc4 x5 x6 x7 c8 hc8 x10 x11_12 σ _ _ ls hH (lv_sub hl [1, 2, 3, 4, 5, 6, 7, 8, 9, 11] rfl) h
              · replace h := h.2 q13
                refine lv_iload hx hb dX8_fillBlock_108 (lv_at hl 0 rfl) ?_
                refine lv_aload hx hb dX8_fillBlock_110 (lv_at hl 9 rfl) ?_
                refine g_getiN hx hb hB inB7 hown hK hH (c0 := c8) hc8.1 rfl 3 (by decide) k170 rfl rfl dX8_fillBlock_112 ?_
                refine va_mmin hx hb (hml.trans hl.1.symm) hown k257 kmmin1 km2 kmmin3 (Nat.le_of_ble_eq_true rfl) (Nat.le_of_ble_eq_true rfl) (Nat.zero_le _) (Nat.zero_le _) dX8_fillBlock_115 ?_
                refine lv_topi (fun w14 ew14 => ?_)
                replace h := h w14 ew14
                refine lv_goto (tgt := 123) hx hb dX8_fillBlock_118 (by decide) ?_
                exact L123 x1 c2 hc2 x3 c4 hc4 x5 x6 x7 c8 hc8 x10 w14 σ _ _ ls hH (lv_sub hl [1, 2, 3, 4, 5, 6, 7, 8, 9, 11] rfl) h
      have L59 : ∀ (x1 : Int32) (c2 : Nat) (hc2 : isCarrier G c2) (x3 : Int32) (c4 : Nat) (hc4 : isAir G c4) (x5 : Int32) (x6 : Int32) (z0 : Int32) (σ : Sg) (H : Heap) (locs : List Loc) (ls : Array Slot), Hx G (aA G s.heap.size) s σ H locs → lv_has ls 13 [(0, .ref (ga G 0)), (1, .int x1), (2, .ref (ga G c2)), (3, .int x3), (4, .ref (ga G c4)), (5, .int x5), (6, .int x6)] → wpX8_fillBlock_L59 P tS.2 Q (wpX8_fillBlock_L15 P tS.2 Q n15) x1 c2 x3 c4 x5 x6 z0 σ → W p l e ({ frames := 6, cells := 0, slots := 0, locals := 150 }) s m args below meth c H locs 0 0 (Zv G Q below args s) (F0 m 59 ls [.int z0]) := by
        intro x1 c2 hc2 x3 c4 hc4 x5 x6 z0 σ H locs ls hH hl h
        unfold wpX8_fillBlock_L59 at h
        refine lv_istore (lv' := [(7, .int z0), (0, .ref (ga G 0)), (1, .int x1), (2, .ref (ga G c2)), (3, .int x3), (4, .ref (ga G c4)), (5, .int x5), (6, .int x6)]) hx hb dX8_fillBlock_59 hl (by decide) rfl (fun ls hl => ?_)
        refine lv_aload_n hx hb dX8_fillBlock_61 rfl (lv_at hl 1 rfl) ?_
        refine g_getr hx hb hB inB8 hown hK hH (c0 := 0) h0.1 rfl 5 (by decide) k36 rfl (c1 := 7) rfl dX8_fillBlock_62 ?_
        refine lv_aload_n hx hb dX8_fillBlock_65 rfl (lv_at hl 1 rfl) ?_
        refine lv_iload_n hx hb dX8_fillBlock_66 rfl (lv_at hl 2 rfl) ?_
        refine lv_iload hx hb dX8_fillBlock_67 (lv_at hl 0 rfl) ?_
        refine g_callVi (As := [.int x1, .int z0]) (rest := [.ref (ga G 7)]) ⟨hx, hb, hml, hown, hB⟩ hK hX aA_hA hH (c0 := 0) (tX8_placeOf h0 h) (cwV 2 hB gVX8_67 rfl rfl rfl (by decide +kernel) ⟨Nat.le_of_ble_eq_true rfl, Nat.le_of_ble_eq_true rfl⟩) h0.1 rfl rfl hl.1 rfl (lv_room (Nat.le_of_ble_eq_true rfl)) ⟨Nat.zero_le _, Nat.zero_le _⟩ dX8_fillBlock_69 (fun r8 σ8 H locs h hH => ?_)
        obtain ⟨hi9, h⟩ := h
        refine g_aald hx hb hK hH (c0 := 7) h0.2.2.2.2.1 hi9 dX8_fillBlock_72 ?_
        have hp9 : isSender G (9 + 113 * r8.toNatClampNeg) := h0.2.2.2.2.2.2.2.1 _ (vp_lt hi9)
        obtain ⟨c_9, ec_9⟩ : ∃ y : Nat, y = 9 + 113 * r8.toNatClampNeg := ⟨_, rfl⟩
        replace h := h c_9 ec_9
        rw [← ec_9] at hp9
        refine W.eq (g2 := F0 m 73 ls [.ref (ga G c_9)]) (by rw [ec_9]) ?_
        refine lv_astore (lv' := [(8, .ref (ga G c_9)), (7, .int z0), (0, .ref (ga G 0)), (1, .int x1), (2, .ref (ga G c2)), (3, .int x3), (4, .ref (ga G c4)), (5, .int x5), (6, .int x6)]) hx hb dX8_fillBlock_73 hl (by decide) rfl (fun ls hl => ?_)
        refine lv_iconst (v := 1) hx hb dX8_fillBlock_75 (by decide) ?_
        refine lv_istore (lv' := [(9, .int 1), (8, .ref (ga G c_9)), (7, .int z0), (0, .ref (ga G 0)), (1, .int x1), (2, .ref (ga G c2)), (3, .int x3), (4, .ref (ga G c4)), (5, .int x5), (6, .int x6)]) hx hb dX8_fillBlock_76 hl (by decide) rfl (fun ls hl => ?_)
        refine lv_iconst (v := 0) hx hb dX8_fillBlock_78 (by decide) ?_
        refine lv_istore (lv' := [(10, .int 0), (9, .int 1), (8, .ref (ga G c_9)), (7, .int z0), (0, .ref (ga G 0)), (1, .int x1), (2, .ref (ga G c2)), (3, .int x3), (4, .ref (ga G c4)), (5, .int x5), (6, .int x6)]) hx hb dX8_fillBlock_79 hl (by decide) rfl (fun ls hl => ?_)
        obtain ⟨nn, h⟩ := h
        exact L81 nn x1 c2 hc2 x3 c4 hc4 x5 x6 z0 c_9 hp9 1 0 σ8 _ _ ls hH (lv_sub hl [4, 5, 6, 7, 8, 9, 10, 3, 2, 1, 0] rfl) h
      have L40 : ∀ (x1 : Int32) (c2 : Nat) (hc2 : isCarrier G c2) (x3 : Int32) (c4 : Nat) (hc4 : isAir G c4) (x5 : Int32) (z0 : Int32) (σ : Sg) (H : Heap) (locs : List Loc) (ls : Array Slot), Hx G (aA G s.heap.size) s σ H locs → lv_has ls 13 [(0, .ref (ga G 0)), (1, .int x1), (2, .ref (ga G c2)), (3, .int x3), (4, .ref (ga G c4)), (5, .int x5)] → wpX8_fillBlock_L40 P tS.2 Q (wpX8_fillBlock_L15 P tS.2 Q n15) x1 c2 x3 c4 x5 z0 σ → W p l e ({ frames := 6, cells := 0, slots := 0, locals := 150 }) s m args below meth c H locs 0 0 (Zv G Q below args s) (F0 m 40 ls [.int z0]) := by
        intro x1 c2 hc2 x3 c4 hc4 x5 z0 σ H locs ls hH hl h
        unfold wpX8_fillBlock_L40 at h
        refine lv_istore (lv' := [(6, .int z0), (0, .ref (ga G 0)), (1, .int x1), (2, .ref (ga G c2)), (3, .int x3), (4, .ref (ga G c4)), (5, .int x5)]) hx hb dX8_fillBlock_40 hl (by decide) rfl (fun ls hl => ?_)
        refine lv_iload hx hb dX8_fillBlock_42 (lv_at hl 0 rfl) ?_
        refine lv_if_eq (tgt := 52) hx hb dX8_fillBlock_44 (by decide) (fun q7 => ?_) (fun q7 => ?_)
        · replace h := h.1 q7
          refine lv_iload hx hb dX8_fillBlock_52 (lv_at hl 6 rfl) ?_
          refine lv_aload_n hx hb dX8_fillBlock_54 rfl (lv_at hl 1 rfl) ?_
          refine g_geti hx hb hB inB8 hown hK hH (c0 := 0) h0.1 rfl 0 (by decide) k16 rfl rfl dX8_fillBlock_55 ?_
          refine lv_isub hx hb dX8_fillBlock_58 ?_
          exact L59 x1 c2 hc2 x3 c4 hc4 x5 z0 (x5 - (σ 0 0)) σ _ _ ls hH (lv_sub hl [1, 2, 3, 4, 5, 6, 0] rfl) h
        · replace h := h.2 q7
          refine lv_iload hx hb dX8_fillBlock_47 (lv_at hl 6 rfl) ?_
          refine lv_goto (tgt := 59) hx hb dX8_fillBlock_49 (by decide) ?_
          exact L59 x1 c2 hc2 x3 c4 hc4 x5 z0 x5 σ _ _ ls hH (lv_sub hl [1, 2, 3, 4, 5, 6, 0] rfl) h
      intro x1 c2 hc2 x3 c4 hc4 x5 σ H locs ls hH hl h
      unfold wpX8_fillBlock_L15 at h
      refine lv_iload hx hb dX8_fillBlock_15 (lv_at hl 5 rfl) ?_
      refine lv_iconst (v := 2) hx hb dX8_fillBlock_17 (by decide) ?_
      refine lv_aload_n hx hb dX8_fillBlock_18 rfl (lv_at hl 0 rfl) ?_
      refine g_geti hx hb hB inB8 hown hK hH (c0 := 0) h0.1 rfl 0 (by decide) k16 rfl rfl dX8_fillBlock_19 ?_
      refine lv_imul hx hb dX8_fillBlock_22 ?_
      refine lv_icmp_ge (tgt := 166) hx hb dX8_fillBlock_23 (by decide) (fun q2 => ?_) (fun q2 => ?_)
      · replace h := h.1 q2
        refine lv_aload hx hb dX8_fillBlock_166 (lv_at hl 4 rfl) ?_
        refine g_getiN hx hb hB inB0 hown hK hH (c0 := c4) hc4.1 rfl 1 (by decide) k256 rfl rfl dX8_fillBlock_168 ?_
        refine lv_if_le (tgt := 185) hx hb dX8_fillBlock_171 (by decide) (fun q3 => ?_) (fun q3 => ?_)
        · replace h := h.1 q3
          exact g_vret hx hb hr hK hlk h hH dX8_fillBlock_185
        · replace h := h.2 q3
          refine lv_aload hx hb dX8_fillBlock_174 (lv_at hl 4 rfl) ?_
          refine lv_iload_n hx hb dX8_fillBlock_176 rfl (lv_at hl 3 rfl) ?_
          refine g_callSv (As := [.ref (ga G c4), .int x3]) (rest := []) ⟨hx, hb, hml, hown, hB⟩ hK hX aA_hA hH (tX8_fillUp (tS := tS) hgo hc4 h) (va_cwS 2 hB gSX8_266 rfl rfl rfl (by decide +kernel) ⟨Nat.le_of_ble_eq_true rfl, Nat.le_of_ble_eq_true rfl⟩) rfl hl.1 rfl (lv_room (Nat.le_of_ble_eq_true rfl)) ⟨Nat.zero_le _, Nat.zero_le _⟩ dX8_fillBlock_177 (fun σ4 H locs h hH => ?_)
          refine lv_aload_n hx hb dX8_fillBlock_180 rfl (lv_at hl 2 rfl) ?_
          refine lv_iload_n hx hb dX8_fillBlock_181 rfl (lv_at hl 3 rfl) ?_
          refine g_putN hx hb hB inB1 tyX1 tyX1_ok nmX1 hown hK hH (c0 := c2) hc2.1 rfl 1 (by decide) k101 rfl rfl rfl rfl rfl dX8_fillBlock_182 (fun σ5 eσ5 H locs hH => ?_)
          replace h := h σ5 eσ5
          exact g_vret hx hb hr hK hlk h hH dX8_fillBlock_185
      · replace h := h.2 q2
        refine lv_iload hx hb dX8_fillBlock_26 (lv_at hl 5 rfl) ?_
        refine lv_aload_n hx hb dX8_fillBlock_28 rfl (lv_at hl 0 rfl) ?_
        refine g_geti hx hb hB inB8 hown hK hH (c0 := 0) h0.1 rfl 0 (by decide) k16 rfl rfl dX8_fillBlock_29 ?_
        refine lv_icmp_ge (tgt := 39) hx hb dX8_fillBlock_32 (by decide) (fun q6 => ?_) (fun q6 => ?_)
        · replace h := h.1 q6
          refine lv_iconst (v := 0) hx hb dX8_fillBlock_39 (by decide) ?_
          exact L40 x1 c2 hc2 x3 c4 hc4 x5 0 σ _ _ ls hH (lv_sub hl [0, 1, 2, 3, 4, 5] rfl) h
        · replace h := h.2 q6
          refine lv_iconst (v := 1) hx hb dX8_fillBlock_35 (by decide) ?_
          refine lv_goto (tgt := 40) hx hb dX8_fillBlock_36 (by decide) ?_
          exact L40 x1 c2 hc2 x3 c4 hc4 x5 1 σ _ _ ls hH (lv_sub hl [0, 1, 2, 3, 4, 5] rfl) h
  unfold wpX8_fillBlock at h
  refine lv_aload_n hx hb dX8_fillBlock_0 rfl (lv_at hl 2 rfl) ?_
  refine g_getrN hx hb hB inB1 hown hK hH (c0 := c2) hc2.1 rfl 0 (by decide) k108 rfl (c1 := c2 + 1) rfl dX8_fillBlock_1 ?_
  refine lv_astore (lv' := [(4, .ref (ga G (c2 + 1))), (0, .ref (ga G 0)), (1, .int x1), (2, .ref (ga G c2)), (3, .int x3)]) hx hb dX8_fillBlock_4 hl (by decide) rfl (fun ls hl => ?_)
  refine lv_aload hx hb dX8_fillBlock_6 (lv_at hl 0 rfl) ?_
  refine lv_iconst (v := 0) hx hb dX8_fillBlock_8 (by decide) ?_
  refine g_putN hx hb hB inB0 tyX0 tyX0_ok nmX0 hown hK hH (c0 := c2 + 1) hc2.2.1 rfl 1 (by decide) k256 rfl rfl rfl rfl rfl dX8_fillBlock_9 (fun σ1 eσ1 H locs hH => ?_)
  replace h := h σ1 eσ1
  refine lv_iconst (v := 0) hx hb dX8_fillBlock_12 (by decide) ?_
  refine lv_istore (lv' := [(5, .int 0), (4, .ref (ga G (c2 + 1))), (0, .ref (ga G 0)), (1, .int x1), (2, .ref (ga G c2)), (3, .int x3)]) hx hb dX8_fillBlock_13 hl (by decide) rfl (fun ls hl => ?_)
  obtain ⟨nn, h⟩ := h
  exact L15 nn x1 c2 hc2 x3 (c2 + 1) hc2.2 0 σ1 _ _ ls hH (lv_sub hl [2, 3, 4, 5, 1, 0] rfl) h
def wpX8_countSending_L48 (P : Nat) (Q : Int32 → Sg → Prop) (c1 : Nat) (z0 : Int32) (σ : Sg) : Prop := ∀ σ6 : Sg, σ6 = up2 σ c1 3 1 → (vz z0 ∧ Q z0 σ6)
def wpX8_countSending (P : Nat) (c1 : Nat) (x2 : Int32) (σ : Sg) (Q : Int32 → Sg → Prop) : Prop := ∀ σ1 : Sg, σ1 = up2 σ 0 11 ((σ 0 11) + 1) → ∀ σ2 : Sg, σ2 = up2 σ1 c1 2 ((σ1 c1 2) + 1) → ((x2 = 0 → ((¬ (σ2 c1 3) = 0 → wpX8_countSending_L48 P Q c1 0 σ2) ∧ ((σ2 c1 3) = 0 → wpX8_countSending_L48 P Q c1 1 σ2))) ∧ (¬ (x2 = 0) → ∀ σ5 : Sg, σ5 = up2 σ2 0 12 ((σ2 0 12) + 1) → Q 0 σ5))
set_option maxHeartbeats 8000000 in
set_option maxRecDepth 100000 in
theorem tX8_countSending {l : Launch} {G : GG} {P : Nat} {tS : Nat × (Nat → Int32)} (hgo : go G = some tS) {c1 : Nat} {x2 : Int32} {σ : Sg} {Q : Int32 → Sg → Prop} (h0 : isHouse G P) (hc1 : isCarrier G c1) (h : wpX8_countSending P c1 x2 σ Q) : Ki l G yX8_countSending (wB yX8_countSending prog_1_method_21_code 4 (Option.some FieldType.boolean)) ({ frames := 0, cells := 0, slots := 0, locals := 0 }) [.ref (ga G 0), .ref (ga G c1), .int x2] σ Q := by
  refine K_of (cc := cX8_countSending) (maxL := 4) (ret := (some .boolean)) (by decide) rfl (Nat.le_of_ble_eq_true rfl) ?_
  intro p e s m args below meth c ls B hH hl
  obtain ⟨hx, hb, hr, hts, hown, hlk, hml, hK, hX⟩ := B
  replace hl : lv_has ls 4 [(0, .ref (ga G 0)), (1, .ref (ga G c1)), (2, .int x2)] := hl
  have hXN : NWs s := XS.nw hX hgo
  have hB : ∀ w ∈ BIG, w.before args s = true := fun w h9 => hts w (List.mem_cons_of_mem _ h9)
  clear hts
  have k94 : (Cond.fieldLinkNest RX8 94 "BearerHouse$Carrier" "sendings" "I" "BearerHouse").before args s = true := va_Nw.use rfl (hXN.1 ("BearerHouse", 94, "BearerHouse$Carrier", "sendings", "I", "BearerHouse") (List.mem_of_getElem? (i := 41) rfl))
  have k240 : (Cond.fieldLinkNest RX8 240 "BearerHouse$Carrier" "hasCome" "Z" "BearerHouse").before args s = true := va_Nw.use rfl (hXN.1 ("BearerHouse", 240, "BearerHouse$Carrier", "hasCome", "Z", "BearerHouse") (List.mem_of_getElem? (i := 32) rfl))
  have k243 := hB _ bw2_127
  have k244 := hB _ bw2_128
  have L48 : ∀ (c1 : Nat) (hc1 : isCarrier G c1) (z0 : Int32) (σ : Sg) (H : Heap) (locs : List Loc) (ls : Array Slot), Hx G (aA G s.heap.size) s σ H locs → lv_has ls 4 [(1, .ref (ga G c1))] → wpX8_countSending_L48 P Q c1 z0 σ → W p l e ({ frames := 0, cells := 0, slots := 0, locals := 0 }) s m args below meth c H locs 0 0 (Zi G Q below args s) (F0 m 48 ls [.int z0]) := by
    intro c1 hc1 z0 σ H locs ls hH hl h
    unfold wpX8_countSending_L48 at h
    refine lv_istore_n (lv' := [(3, .int z0), (1, .ref (ga G c1))]) hx hb dX8_countSending_48 rfl hl (by decide) rfl (fun ls hl => ?_)
    refine lv_aload_n hx hb dX8_countSending_49 rfl (lv_at hl 1 rfl) ?_
    refine lv_iconst (v := 1) hx hb dX8_countSending_50 (by decide) ?_
    refine g_putN hx hb hB inB1 tyX1 tyX1_ok nmX1 hown hK hH (c0 := c1) hc1.1 rfl 3 (by decide) k240 rfl rfl rfl (vz_n vz1) (vz_f vz1) dX8_countSending_51 (fun σ6 eσ6 H locs hH => ?_)
    replace h := h σ6 eσ6
    refine lv_iload_n hx hb dX8_countSending_54 rfl (lv_at hl 0 rfl) ?_
    exact g_zret hx hb hr hK hlk h.1 h.2 hH dX8_countSending_55
  unfold wpX8_countSending at h
  refine lv_aload_n hx hb dX8_countSending_0 rfl (lv_at hl 0 rfl) ?_
  refine lv_dup hx hb dX8_countSending_1 rfl ?_
  refine g_geti hx hb hB inB8 hown hK hH (c0 := 0) h0.1 rfl 11 (by decide) k243 rfl rfl dX8_countSending_2 ?_
  refine lv_iconst (v := 1) hx hb dX8_countSending_5 (by decide) ?_
  refine lv_iadd hx hb dX8_countSending_6 ?_
  refine g_put hx hb hB inB8 tyX8 tyX8_ok nmX8 hown hK hH (c0 := 0) h0.1 rfl 11 (by decide) k243 rfl rfl rfl rfl rfl dX8_countSending_7 (fun σ1 eσ1 H locs hH => ?_)
  replace h := h σ1 eσ1
  refine lv_aload_n hx hb dX8_countSending_10 rfl (lv_at hl 1 rfl) ?_
  refine lv_dup hx hb dX8_countSending_11 rfl ?_
  refine g_getiN hx hb hB inB1 hown hK hH (c0 := c1) hc1.1 rfl 2 (by decide) k94 rfl rfl dX8_countSending_12 ?_
  refine lv_iconst (v := 1) hx hb dX8_countSending_15 (by decide) ?_
  refine lv_iadd hx hb dX8_countSending_16 ?_
  refine g_putN hx hb hB inB1 tyX1 tyX1_ok nmX1 hown hK hH (c0 := c1) hc1.1 rfl 2 (by decide) k94 rfl rfl rfl rfl rfl dX8_countSending_17 (fun σ2 eσ2 H locs hH => ?_)
  replace h := h σ2 eσ2
  refine lv_iload_n hx hb dX8_countSending_20 rfl (lv_at hl 2 rfl) ?_
  refine lv_if_eq (tgt := 36) hx hb dX8_countSending_21 (by decide) (fun q3 => ?_) (fun q3 => ?_)
  · replace h := h.1 q3
    refine lv_aload_n hx hb dX8_countSending_36 rfl (lv_at hl 1 rfl) ?_
    refine g_getiN hx hb hB inB1 hown hK hH (c0 := c1) hc1.1 rfl 3 (by decide) k240 rfl rfl dX8_countSending_37 ?_
    refine lv_if_ne (tgt := 47) hx hb dX8_countSending_40 (by decide) (fun q4 => ?_) (fun q4 => ?_)
    · replace h := h.1 q4
      refine lv_iconst (v := 0) hx hb dX8_countSending_47 (by decide) ?_
      exact L48 c1 hc1 0 σ2 _ _ ls hH (lv_sub hl [1] rfl) h
    · replace h := h.2 q4
      refine lv_iconst (v := 1) hx hb dX8_countSending_43 (by decide) ?_
      refine lv_goto (tgt := 48) hx hb dX8_countSending_44 (by decide) ?_
      exact L48 c1 hc1 1 σ2 _ _ ls hH (lv_sub hl [1] rfl) h
  · replace h := h.2 q3
    refine lv_aload_n hx hb dX8_countSending_24 rfl (lv_at hl 0 rfl) ?_
    refine lv_dup hx hb dX8_countSending_25 rfl ?_
    refine g_geti hx hb hB inB8 hown hK hH (c0 := 0) h0.1 rfl 12 (by decide) k244 rfl rfl dX8_countSending_26 ?_
    refine lv_iconst (v := 1) hx hb dX8_countSending_29 (by decide) ?_
    refine lv_iadd hx hb dX8_countSending_30 ?_
    refine g_put hx hb hB inB8 tyX8 tyX8_ok nmX8 hown hK hH (c0 := 0) h0.1 rfl 12 (by decide) k244 rfl rfl rfl rfl rfl dX8_countSending_31 (fun σ5 eσ5 H locs hH => ?_)
    replace h := h σ5 eσ5
    refine lv_iconst (v := 0) hx hb dX8_countSending_34 (by decide) ?_
    exact g_zret hx hb hr hK hlk vz0 h hH dX8_countSending_35
def wpX8_takePacket (P : Nat) (tb : Nat → Int32) (x1 : Int32) (c2 : Nat) (σ : Sg) (Q : Sg → Prop) : Prop := ((128 ≤ (σ (c2 + 1) 0) → wpX3_meantCount c2 σ (fun r2 σ2 => wpX3_isDouble c2 r2 σ2 (fun r3 σ3 => ((r3 = 0 → wpX2_mask tb 3 (c2 + 1) (σ3 c2 2) r2 (σ3 c2 0) σ3 (fun σ5 => wpX3_store c2 r2 σ5 (fun σ6 => wpX3_deliverStored c2 σ6 (fun σ7 => Q σ7)))) ∧ (¬ (r3 = 0) → ∀ σ8 : Sg, σ8 = up2 σ3 c2 9 ((σ3 c2 9) + 1) → Q σ8))))) ∧ (¬ (128 ≤ (σ (c2 + 1) 0)) → (vp_in x1 P ∧ ∀ c_9 : Nat, c_9 = 9 + 113 * x1.toNatClampNeg → wpX4_confirmReported (c_9 + 2) (c2 + 1) (σ c2 2) σ (fun σ10 => Q σ10))))
set_option maxHeartbeats 8000000 in
set_option maxRecDepth 100000 in
theorem tX8_takePacket {l : Launch} {G : GG} {P : Nat} {tS : Nat × (Nat → Int32)} (hgo : go G = some tS) {x1 : Int32} {c2 : Nat} {σ : Sg} {Q : Sg → Prop} (h0 : isHouse G P) (hc2 : isInbox G c2) (h : wpX8_takePacket P tS.2 x1 c2 σ Q) : Kv l G yX8_takePacket (wB yX8_takePacket prog_1_method_27_code 4 none) ({ frames := 3, cells := 0, slots := 0, locals := 73 }) [.ref (ga G 0), .int x1, .ref (ga G c2)] σ Q := by
  refine K_of (cc := cX8_takePacket) (maxL := 4) (ret := none) (by decide) rfl (Nat.le_of_ble_eq_true rfl) ?_
  intro p e s m args below meth c ls B hH hl
  obtain ⟨hx, hb, hr, hts, hown, hlk, hml, hK, hX⟩ := B
  replace hl : lv_has ls 4 [(0, .ref (ga G 0)), (1, .int x1), (2, .ref (ga G c2))] := hl
  have hXN : NWs s := XS.nw hX hgo
  have hB : ∀ w ∈ BIG, w.before args s = true := fun w h9 => hts w (List.mem_cons_of_mem _ h9)
  clear hts
  have k26 := hB _ bw2_120
  have k36 := hB _ bw2_121
  have k71 : (Cond.fieldLinkNest RX8 71 "BearerHouse$Sender" "outbox" "LBearerHouse$Outbox;" "BearerHouse").before args s = true := va_Nw.use rfl (hXN.1 ("BearerHouse", 71, "BearerHouse$Sender", "outbox", "LBearerHouse$Outbox;", "BearerHouse") (List.mem_of_getElem? (i := 39) rfl))
  have k225 : (Cond.fieldLinkNest RX8 225 "BearerHouse$Inbox" "doubles" "I" "BearerHouse").before args s = true := va_Nw.use rfl (hXN.1 ("BearerHouse", 225, "BearerHouse$Inbox", "doubles", "I", "BearerHouse") (List.mem_of_getElem? (i := 27) rfl))
  have k335 : (Cond.fieldLinkNest RX8 335 "BearerHouse$Inbox" "packet" "[I" "BearerHouse").before args s = true := va_Nw.use rfl (hXN.1 ("BearerHouse", 335, "BearerHouse$Inbox", "packet", "[I", "BearerHouse") (List.mem_of_getElem? (i := 36) rfl))
  have k338 : (Cond.fieldLinkNest RX8 338 "BearerHouse$Inbox" "packetSize" "I" "BearerHouse").before args s = true := va_Nw.use rfl (hXN.1 ("BearerHouse", 338, "BearerHouse$Inbox", "packetSize", "I", "BearerHouse") (List.mem_of_getElem? (i := 37) rfl))
  have k351 : (Cond.fieldLinkNest RX8 351 "BearerHouse$Inbox" "mark" "I" "BearerHouse").before args s = true := va_Nw.use rfl (hXN.1 ("BearerHouse", 351, "BearerHouse$Inbox", "mark", "I", "BearerHouse") (List.mem_of_getElem? (i := 38) rfl))
  unfold wpX8_takePacket at h
  refine lv_aload_n hx hb dX8_takePacket_0 rfl (lv_at hl 2 rfl) ?_
  refine g_getrN hx hb hB inB3 hown hK hH (c0 := c2) hc2.1 rfl 1 (by decide) k335 rfl (c1 := c2 + 1) rfl dX8_takePacket_1 ?_
  refine lv_iconst (v := 0) hx hb dX8_takePacket_4 (by decide) ?_
  refine g_iald (i := 0) hx hb hK hH (c0 := c2 + 1) hc2.2.1 (vp_in_nI (n := 0) (by decide) (by decide)) dX8_takePacket_5 ?_
  refine lv_sipush (v := 128) hx hb dX8_takePacket_6 (by decide) ?_
  refine lv_icmp_ge (tgt := 33) hx hb dX8_takePacket_9 (by decide) (fun q1 => ?_) (fun q1 => ?_)
  · replace h := h.1 q1
    refine lv_aload_n hx hb dX8_takePacket_33 rfl (lv_at hl 2 rfl) ?_
    refine g_callVi (As := []) (rest := []) ⟨hx, hb, hml, hown, hB⟩ hK hX aA_hA hH (c0 := c2) (tX3_meantCount hc2 h) (cwV 0 hB gVX8_345 rfl rfl rfl (by decide +kernel) ⟨Nat.le_of_ble_eq_true rfl, Nat.le_of_ble_eq_true rfl⟩) hc2.1 rfl rfl hl.1 rfl (lv_room (Nat.le_of_ble_eq_true rfl)) ⟨Nat.zero_le _, Nat.zero_le _⟩ dX8_takePacket_34 (fun r2 σ2 H locs h hH => ?_)
    refine lv_istore_n (lv' := [(3, .int r2), (0, .ref (ga G 0)), (1, .int x1), (2, .ref (ga G c2))]) hx hb dX8_takePacket_37 rfl hl (by decide) rfl (fun ls hl => ?_)
    refine lv_aload_n hx hb dX8_takePacket_38 rfl (lv_at hl 3 rfl) ?_
    refine lv_iload_n hx hb dX8_takePacket_39 rfl (lv_at hl 0 rfl) ?_
    refine g_callVi (As := [.int r2]) (rest := []) ⟨hx, hb, hml, hown, hB⟩ hK hX aA_hA hH (c0 := c2) (tX3_isDouble hc2 h) (cwV 1 hB gVX8_348 rfl rfl rfl (by decide +kernel) ⟨Nat.le_of_ble_eq_true rfl, Nat.le_of_ble_eq_true rfl⟩) hc2.1 rfl rfl hl.1 rfl (lv_room (Nat.le_of_ble_eq_true rfl)) ⟨Nat.zero_le _, Nat.zero_le _⟩ dX8_takePacket_40 (fun r3 σ3 H locs h hH => ?_)
    refine lv_if_eq (tgt := 57) hx hb dX8_takePacket_43 (by decide) (fun q4 => ?_) (fun q4 => ?_)
    · replace h := h.1 q4
      refine lv_aload_n hx hb dX8_takePacket_57 rfl (lv_at hl 1 rfl) ?_
      refine g_getr hx hb hB inB8 hown hK hH (c0 := 0) h0.1 rfl 4 (by decide) k26 rfl (c1 := 3) rfl dX8_takePacket_58 ?_
      refine lv_aload_n hx hb dX8_takePacket_61 rfl (lv_at hl 3 rfl) ?_
      refine g_getrN hx hb hB inB3 hown hK hH (c0 := c2) hc2.1 rfl 1 (by decide) k335 rfl (c1 := c2 + 1) rfl dX8_takePacket_62 ?_
      refine lv_aload_n hx hb dX8_takePacket_65 rfl (lv_at hl 3 rfl) ?_
      refine g_getiN hx hb hB inB3 hown hK hH (c0 := c2) hc2.1 rfl 2 (by decide) k338 rfl rfl dX8_takePacket_66 ?_
      refine lv_iload_n hx hb dX8_takePacket_69 rfl (lv_at hl 0 rfl) ?_
      refine lv_aload_n hx hb dX8_takePacket_70 rfl (lv_at hl 3 rfl) ?_
      refine g_getiN hx hb hB inB3 hown hK hH (c0 := c2) hc2.1 rfl 0 (by decide) k351 rfl rfl dX8_takePacket_71 ?_
      refine g_callVv (As := [.ref (ga G (c2 + 1)), .int (σ3 c2 2), .int r2, .int (σ3 c2 0)]) (rest := []) ⟨hx, hb, hml, hown, hB⟩ hK hX aA_hA hH (c0 := 3) (tX2_mask (tS := tS) hgo h0.2.2.2.1 hc2.2.1 h) (cwV 4 hB gVX8_354 rfl rfl rfl (by decide +kernel) ⟨Nat.le_of_ble_eq_true rfl, Nat.le_of_ble_eq_true rfl⟩) h0.2.2.2.1.1 rfl rfl hl.1 rfl (lv_room (Nat.le_of_ble_eq_true rfl)) ⟨Nat.zero_le _, Nat.zero_le _⟩ dX8_takePacket_74 (fun σ5 H locs h hH => ?_)
      refine lv_aload_n hx hb dX8_takePacket_77 rfl (lv_at hl 3 rfl) ?_
      refine lv_iload_n hx hb dX8_takePacket_78 rfl (lv_at hl 0 rfl) ?_
      refine g_callVv (As := [.int r2]) (rest := []) ⟨hx, hb, hml, hown, hB⟩ hK hX aA_hA hH (c0 := c2) (tX3_store hc2 h) (cwV 1 hB gVX8_358 rfl rfl rfl (by decide +kernel) ⟨Nat.le_of_ble_eq_true rfl, Nat.le_of_ble_eq_true rfl⟩) hc2.1 rfl rfl hl.1 rfl (lv_room (Nat.le_of_ble_eq_true rfl)) ⟨Nat.zero_le _, Nat.zero_le _⟩ dX8_takePacket_79 (fun σ6 H locs h hH => ?_)
      refine lv_aload_n hx hb dX8_takePacket_82 rfl (lv_at hl 3 rfl) ?_
      refine g_callVv (As := []) (rest := []) ⟨hx, hb, hml, hown, hB⟩ hK hX aA_hA hH (c0 := c2) (tX3_deliverStored hc2 h) (cwV 0 hB gVX8_361 rfl rfl rfl (by decide +kernel) ⟨Nat.le_of_ble_eq_true rfl, Nat.le_of_ble_eq_true rfl⟩) hc2.1 rfl rfl hl.1 rfl (lv_room (Nat.le_of_ble_eq_true rfl)) ⟨Nat.zero_le _, Nat.zero_le _⟩ dX8_takePacket_83 (fun σ7 H locs h hH => ?_)
      exact g_vret hx hb hr hK hlk h hH dX8_takePacket_86
    · replace h := h.2 q4
      refine lv_aload_n hx hb dX8_takePacket_46 rfl (lv_at hl 3 rfl) ?_
      refine lv_dup hx hb dX8_takePacket_47 rfl ?_
      refine g_getiN hx hb hB inB3 hown hK hH (c0 := c2) hc2.1 rfl 9 (by decide) k225 rfl rfl dX8_takePacket_48 ?_
      refine lv_iconst (v := 1) hx hb dX8_takePacket_51 (by decide) ?_
      refine lv_iadd hx hb dX8_takePacket_52 ?_
      refine g_putN hx hb hB inB3 tyX3 tyX3_ok nmX3 hown hK hH (c0 := c2) hc2.1 rfl 9 (by decide) k225 rfl rfl rfl rfl rfl dX8_takePacket_53 (fun σ8 eσ8 H locs hH => ?_)
      replace h := h σ8 eσ8
      exact g_vret hx hb hr hK hlk h hH dX8_takePacket_56
  · replace h := h.2 q1
    refine lv_aload_n hx hb dX8_takePacket_12 rfl (lv_at hl 0 rfl) ?_
    refine g_getr hx hb hB inB8 hown hK hH (c0 := 0) h0.1 rfl 5 (by decide) k36 rfl (c1 := 7) rfl dX8_takePacket_13 ?_
    refine lv_iload_n hx hb dX8_takePacket_16 rfl (lv_at hl 1 rfl) ?_
    obtain ⟨hi9, h⟩ := h
    refine g_aald hx hb hK hH (c0 := 7) h0.2.2.2.2.1 hi9 dX8_takePacket_17 ?_
    have hp9 : isSender G (9 + 113 * x1.toNatClampNeg) := h0.2.2.2.2.2.2.2.1 _ (vp_lt hi9)
    obtain ⟨c_9, ec_9⟩ : ∃ y : Nat, y = 9 + 113 * x1.toNatClampNeg := ⟨_, rfl⟩
    replace h := h c_9 ec_9
    rw [← ec_9] at hp9
    refine W.eq (g2 := F0 m 18 ls [.ref (ga G c_9)]) (by rw [ec_9]) ?_
    refine g_getrN hx hb hB inB7 hown hK hH (c0 := c_9) hp9.1 rfl 0 (by decide) k71 rfl (c1 := c_9 + 2) rfl dX8_takePacket_18 ?_
    refine lv_aload_n hx hb dX8_takePacket_21 rfl (lv_at hl 2 rfl) ?_
    refine g_getrN hx hb hB inB3 hown hK hH (c0 := c2) hc2.1 rfl 1 (by decide) k335 rfl (c1 := c2 + 1) rfl dX8_takePacket_22 ?_
    refine lv_aload_n hx hb dX8_takePacket_25 rfl (lv_at hl 2 rfl) ?_
    refine g_getiN hx hb hB inB3 hown hK hH (c0 := c2) hc2.1 rfl 2 (by decide) k338 rfl rfl dX8_takePacket_26 ?_
    refine g_callVv (As := [.ref (ga G (c2 + 1)), .int (σ c2 2)]) (rest := []) ⟨hx, hb, hml, hown, hB⟩ hK hX aA_hA hH (c0 := c_9 + 2) (tX4_confirmReported hp9.2.2.1 hc2.2.1 h) (cwV 2 hB gVX8_341 rfl rfl rfl (by decide +kernel) ⟨Nat.le_of_ble_eq_true rfl, Nat.le_of_ble_eq_true rfl⟩) hp9.2.2.1.1 rfl rfl hl.1 rfl (lv_room (Nat.le_of_ble_eq_true rfl)) ⟨Nat.zero_le _, Nat.zero_le _⟩ dX8_takePacket_29 (fun σ10 H locs h hH => ?_)
    exact g_vret hx hb hr hK hlk h hH dX8_takePacket_32
def wpX8_hand_L41 (P : Nat) (tb : Nat → Int32) (Q : Sg → Prop) (K13 : Int32 → Nat → Nat → Int32 → Sg → Prop) (x1 : Int32) (c2 : Nat) (c3 : Nat) (x4 : Int32) (σ : Sg) : Prop := ∀ x4_7 : Int32, x4_7 = x4 + 1 → K13 x1 c2 c3 x4_7 σ
def wpX8_hand_L13 (P : Nat) (tb : Nat → Int32) (Q : Sg → Prop) : Nat → Int32 → Nat → Nat → Int32 → Sg → Prop
  | 0, _, _, _, _, _ => False
  | n + 1, x1, c2, c3, x4, σ => (((σ c2 1) ≤ x4 → Q σ) ∧ (¬ ((σ c2 1) ≤ x4) → wpX5_cell c2 x4 σ (fun r3 σ3 => wpX3_completes c3 r3 σ3 (fun r4 σ4 => ((r4 = 0 → wpX8_hand_L41 P tb Q (wpX8_hand_L13 P tb Q n) x1 c2 c3 x4 σ4) ∧ (¬ (r4 = 0) → wpX8_takePacket P tb x1 c3 σ4 (fun σ6 => wpX8_hand_L41 P tb Q (wpX8_hand_L13 P tb Q n) x1 c2 c3 x4 σ6)))))))
def wpX8_hand (P : Nat) (tb : Nat → Int32) (x1 : Int32) (c2 : Nat) (σ : Sg) (Q : Sg → Prop) : Prop := (vp_in x1 P ∧ ∀ c_1 : Nat, c_1 = 51 + 113 * x1.toNatClampNeg → ∃ nn, wpX8_hand_L13 P tb Q nn x1 c2 (c_1 + 2) 0 σ)
set_option maxHeartbeats 8000000 in
set_option maxRecDepth 100000 in
theorem tX8_hand {l : Launch} {G : GG} {P : Nat} {tS : Nat × (Nat → Int32)} (hgo : go G = some tS) {x1 : Int32} {c2 : Nat} {σ : Sg} {Q : Sg → Prop} (h0 : isHouse G P) (hc2 : isPiece G c2) (h : wpX8_hand P tS.2 x1 c2 σ Q) : Kv l G yX8_hand (wB yX8_hand prog_1_method_26_code 5 none) ({ frames := 4, cells := 0, slots := 0, locals := 96 }) [.ref (ga G 0), .int x1, .ref (ga G c2)] σ Q := by
  refine K_of (cc := cX8_hand) (maxL := 5) (ret := none) (by decide) rfl (Nat.le_of_ble_eq_true rfl) ?_
  intro p e s m args below meth c ls B hH hl
  obtain ⟨hx, hb, hr, hts, hown, hlk, hml, hK, hX⟩ := B
  replace hl : lv_has ls 5 [(0, .ref (ga G 0)), (1, .int x1), (2, .ref (ga G c2))] := hl
  have hXN : NWs s := XS.nw hX hgo
  have hB : ∀ w ∈ BIG, w.before args s = true := fun w h9 => hts w (List.mem_cons_of_mem _ h9)
  clear hts
  have k42 := hB _ bw2_122
  have k133 : (Cond.fieldLinkNest RX8 133 "BearerHouse$Receiver" "inbox" "LBearerHouse$Inbox;" "BearerHouse").before args s = true := va_Nw.use rfl (hXN.1 ("BearerHouse", 133, "BearerHouse$Receiver", "inbox", "LBearerHouse$Inbox;", "BearerHouse") (List.mem_of_getElem? (i := 2) rfl))
  have k322 : (Cond.fieldLinkNest RX8 322 "BearerHouse$Piece" "size" "I" "BearerHouse").before args s = true := va_Nw.use rfl (hXN.1 ("BearerHouse", 322, "BearerHouse$Piece", "size", "I", "BearerHouse") (List.mem_of_getElem? (i := 35) rfl))
  have L13 : ∀ (n13 : Nat) (x1 : Int32) (c2 : Nat) (hc2 : isPiece G c2) (c3 : Nat) (hc3 : isInbox G c3) (x4 : Int32) (σ : Sg) (H : Heap) (locs : List Loc) (ls : Array Slot), Hx G (aA G s.heap.size) s σ H locs → lv_has ls 5 [(0, .ref (ga G 0)), (1, .int x1), (2, .ref (ga G c2)), (3, .ref (ga G c3)), (4, .int x4)] → wpX8_hand_L13 P tS.2 Q n13 x1 c2 c3 x4 σ → W p l e ({ frames := 4, cells := 0, slots := 0, locals := 96 }) s m args below meth c H locs 0 0 (Zv G Q below args s) (F0 m 13 ls []) := by
    intro n13
    induction n13 with
    | zero =>
      intro x1 c2 hc2 c3 hc3 x4 σ H locs ls hH hl h
      exact False.elim h
    | succ n13 ih13 =>
      have L41 : ∀ (x1 : Int32) (c2 : Nat) (hc2 : isPiece G c2) (c3 : Nat) (hc3 : isInbox G c3) (x4 : Int32) (σ : Sg) (H : Heap) (locs : List Loc) (ls : Array Slot), Hx G (aA G s.heap.size) s σ H locs → lv_has ls 5 [(0, .ref (ga G 0)), (1, .int x1), (2, .ref (ga G c2)), (3, .ref (ga G c3)), (4, .int x4)] → wpX8_hand_L41 P tS.2 Q (wpX8_hand_L13 P tS.2 Q n13) x1 c2 c3 x4 σ → W p l e ({ frames := 4, cells := 0, slots := 0, locals := 96 }) s m args below meth c H locs 0 0 (Zv G Q below args s) (F0 m 41 ls []) := by
        intro x1 c2 hc2 c3 hc3 x4 σ H locs ls hH hl h
        unfold wpX8_hand_L41 at h
        obtain ⟨x4_7, ex4_7⟩ : ∃ y : Int32, y = x4 + 1 := ⟨_, rfl⟩
        replace h := h x4_7 ex4_7
        refine lv_iinc (v := x4_7) (lv' := [(4, .int x4_7), (0, .ref (ga G 0)), (1, .int x1), (2, .ref (ga G c2)), (3, .ref (ga G c3))]) hx hb dX8_hand_41 hl (k := 4) rfl (by rw [ex4_7]; rfl) (by decide) rfl (fun ls hl => ?_)
        refine lv_goto (tgt := 13) hx hb dX8_hand_44 (by decide) ?_
        exact ih13 x1 c2 hc2 c3 hc3 x4_7 σ _ _ ls hH (lv_sub hl [1, 2, 3, 4, 0] rfl) h
      intro x1 c2 hc2 c3 hc3 x4 σ H locs ls hH hl h
      unfold wpX8_hand_L13 at h
      refine lv_iload hx hb dX8_hand_13 (lv_at hl 4 rfl) ?_
      refine lv_aload_n hx hb dX8_hand_15 rfl (lv_at hl 2 rfl) ?_
      refine g_getiN hx hb hB inB5 hown hK hH (c0 := c2) hc2.1 rfl 1 (by decide) k322 rfl rfl dX8_hand_16 ?_
      refine lv_icmp_ge (tgt := 47) hx hb dX8_hand_19 (by decide) (fun q2 => ?_) (fun q2 => ?_)
      · replace h := h.1 q2
        exact g_vret hx hb hr hK hlk h hH dX8_hand_47
      · replace h := h.2 q2
        refine lv_aload_n hx hb dX8_hand_22 rfl (lv_at hl 3 rfl) ?_
        refine lv_aload_n hx hb dX8_hand_23 rfl (lv_at hl 2 rfl) ?_
        refine lv_iload hx hb dX8_hand_24 (lv_at hl 4 rfl) ?_
        refine g_callVi (As := [.int x4]) (rest := [.ref (ga G c3)]) ⟨hx, hb, hml, hown, hB⟩ hK hX aA_hA hH (c0 := c2) (tX5_cell hc2 h) (cwV 1 hB gVX8_325 rfl rfl rfl (by decide +kernel) ⟨Nat.le_of_ble_eq_true rfl, Nat.le_of_ble_eq_true rfl⟩) hc2.1 rfl rfl hl.1 rfl (lv_room (Nat.le_of_ble_eq_true rfl)) ⟨Nat.zero_le _, Nat.zero_le _⟩ dX8_hand_26 (fun r3 σ3 H locs h hH => ?_)
        refine g_callVi (As := [.int r3]) (rest := []) ⟨hx, hb, hml, hown, hB⟩ hK hX aA_hA hH (c0 := c3) (tX3_completes hc3 h) (cwV 1 hB gVX8_328 rfl rfl rfl (by decide +kernel) ⟨Nat.le_of_ble_eq_true rfl, Nat.le_of_ble_eq_true rfl⟩) hc3.1 rfl rfl hl.1 rfl (lv_room (Nat.le_of_ble_eq_true rfl)) ⟨Nat.zero_le _, Nat.zero_le _⟩ dX8_hand_29 (fun r4 σ4 H locs h hH => ?_)
        refine lv_if_eq (tgt := 41) hx hb dX8_hand_32 (by decide) (fun q5 => ?_) (fun q5 => ?_)
        · replace h := h.1 q5
          exact L41 x1 c2 hc2 c3 hc3 x4 σ4 _ _ ls hH (lv_sub hl [0, 1, 2, 3, 4] rfl) h
        · replace h := h.2 q5
          refine lv_aload_n hx hb dX8_hand_35 rfl (lv_at hl 0 rfl) ?_
          refine lv_iload_n hx hb dX8_hand_36 rfl (lv_at hl 1 rfl) ?_
          refine lv_aload_n hx hb dX8_hand_37 rfl (lv_at hl 3 rfl) ?_
          refine g_callVv (As := [.int x1, .ref (ga G c3)]) (rest := []) ⟨hx, hb, hml, hown, hB⟩ hK hX aA_hA hH (c0 := 0) (tX8_takePacket (tS := tS) hgo h0 hc3 h) (cwV 2 hB gVX8_331 rfl rfl rfl (by decide +kernel) ⟨Nat.le_of_ble_eq_true rfl, Nat.le_of_ble_eq_true rfl⟩) h0.1 rfl rfl hl.1 rfl (lv_room (Nat.le_of_ble_eq_true rfl)) ⟨Nat.zero_le _, Nat.zero_le _⟩ dX8_hand_38 (fun σ6 H locs h hH => ?_)
          exact L41 x1 c2 hc2 c3 hc3 x4 σ6 _ _ ls hH (lv_sub hl [0, 1, 2, 3, 4] rfl) h
  unfold wpX8_hand at h
  refine lv_aload_n hx hb dX8_hand_0 rfl (lv_at hl 0 rfl) ?_
  refine g_getr hx hb hB inB8 hown hK hH (c0 := 0) h0.1 rfl 6 (by decide) k42 rfl (c1 := 8) rfl dX8_hand_1 ?_
  refine lv_iload_n hx hb dX8_hand_4 rfl (lv_at hl 1 rfl) ?_
  obtain ⟨hi1, h⟩ := h
  refine g_aald hx hb hK hH (c0 := 8) h0.2.2.2.2.2.1 hi1 dX8_hand_5 ?_
  have hp1 : isReceiver G (51 + 113 * x1.toNatClampNeg) := h0.2.2.2.2.2.2.2.2.1 _ (vp_lt hi1)
  obtain ⟨c_1, ec_1⟩ : ∃ y : Nat, y = 51 + 113 * x1.toNatClampNeg := ⟨_, rfl⟩
  replace h := h c_1 ec_1
  rw [← ec_1] at hp1
  refine W.eq (g2 := F0 m 6 ls [.ref (ga G c_1)]) (by rw [ec_1]) ?_
  refine g_getrN hx hb hB inB6 hown hK hH (c0 := c_1) hp1.1 rfl 0 (by decide) k133 rfl (c1 := c_1 + 2) rfl dX8_hand_6 ?_
  refine lv_astore_n (lv' := [(3, .ref (ga G (c_1 + 2))), (0, .ref (ga G 0)), (1, .int x1), (2, .ref (ga G c2))]) hx hb dX8_hand_9 rfl hl (by decide) rfl (fun ls hl => ?_)
  refine lv_iconst (v := 0) hx hb dX8_hand_10 (by decide) ?_
  refine lv_istore (lv' := [(4, .int 0), (3, .ref (ga G (c_1 + 2))), (0, .ref (ga G 0)), (1, .int x1), (2, .ref (ga G c2))]) hx hb dX8_hand_11 hl (by decide) rfl (fun ls hl => ?_)
  obtain ⟨nn, h⟩ := h
  exact L13 nn x1 c2 hc2 (c_1 + 2) hp1.2.2.1 0 σ _ _ ls hH (lv_sub hl [2, 3, 4, 1, 0] rfl) h
def wpX8_takeData_L100 (P : Nat) (tb : Nat → Int32) (Q : Sg → Prop) (z0 : Int32) (z1 : Int32) (y2 : Nat) (σ : Sg) : Prop := wpX6_settle y2 z1 z0 σ (fun σ14 => Q σ14)
def wpX8_takeData_L80 (P : Nat) (tb : Nat → Int32) (Q : Sg → Prop) (c2 : Nat) (x3 : Int32) (c5 : Nat) (x6 : Int32) (σ : Sg) : Prop := wpX0_at c2 x3 σ (fun r12 σ12 => (((r12 &&& 32) = 0 → wpX8_takeData_L100 P tb Q 0 x6 c5 σ12) ∧ (¬ ((r12 &&& 32) = 0) → wpX8_takeData_L100 P tb Q 1 x6 c5 σ12)))
def wpX8_takeData_L34 (P : Nat) (tb : Nat → Int32) (Q : Sg → Prop) : Nat → Int32 → Nat → Int32 → Nat → Int32 → Int32 → Sg → Prop
  | 0, _, _, _, _, _, _, _ => False
  | n + 1, x1, c2, x3, c5, x6, x7, σ => ((32 ≤ x7 → wpX8_takeData_L80 P tb Q c2 x3 c5 x6 σ) ∧ (¬ (32 ≤ x7) → wpX6_isWhole c5 (σ c5 2) σ (fun r6 σ6 => ((r6 = 0 → wpX8_takeData_L80 P tb Q c2 x3 c5 x6 σ6) ∧ (¬ (r6 = 0) → wpX6_pieceAt c5 (σ6 c5 2) σ6 (fun r8 σ8 => wpX8_hand P tb x1 r8 σ8 (fun σ9 => wpX6_passLow c5 σ9 (fun σ10 => ∀ x7_11 : Int32, x7_11 = x7 + 1 → (wpX8_takeData_L34 P tb Q n) x1 c2 x3 c5 x6 x7_11 σ10))))))))
def wpX8_takeData (P : Nat) (tb : Nat → Int32) (x1 : Int32) (c2 : Nat) (x3 : Int32) (x4 : Int32) (σ : Sg) (Q : Sg → Prop) : Prop := (vp_in x1 P ∧ ∀ c_1 : Nat, c_1 = 51 + 113 * x1.toNatClampNeg → wpX6_takeBytes c_1 c2 x3 x4 σ (fun r2 σ2 => ((¬ r2 = (-1) → wpX6_raiseTold c_1 σ2 (fun σ4 => ∃ nn, wpX8_takeData_L34 P tb Q nn x1 c2 x3 c_1 r2 0 σ4)) ∧ (r2 = (-1) → Q σ2))))
set_option maxHeartbeats 8000000 in
set_option maxRecDepth 100000 in
theorem tX8_takeData {l : Launch} {G : GG} {P : Nat} {tS : Nat × (Nat → Int32)} (hgo : go G = some tS) {x1 : Int32} {c2 : Nat} {x3 : Int32} {x4 : Int32} {σ : Sg} {Q : Sg → Prop} (h0 : isHouse G P) (hc2 : isAir G c2) (h : wpX8_takeData P tS.2 x1 c2 x3 x4 σ Q) : Kv l G yX8_takeData (wB yX8_takeData prog_1_method_24_code 8 none) ({ frames := 5, cells := 0, slots := 0, locals := 120 }) [.ref (ga G 0), .int x1, .ref (ga G c2), .int x3, .int x4] σ Q := by
  refine K_of (cc := cX8_takeData) (maxL := 8) (ret := none) (by decide) rfl (Nat.le_of_ble_eq_true rfl) ?_
  intro p e s m args below meth c ls B hH hl
  obtain ⟨hx, hb, hr, hts, hown, hlk, hml, hK, hX⟩ := B
  replace hl : lv_has ls 8 [(0, .ref (ga G 0)), (1, .int x1), (2, .ref (ga G c2)), (3, .int x3), (4, .int x4)] := hl
  have hXN : NWs s := XS.nw hX hgo
  have hB : ∀ w ∈ BIG, w.before args s = true := fun w h9 => hts w (List.mem_cons_of_mem _ h9)
  clear hts
  have k42 := hB _ bw2_122
  have k185 : (Cond.fieldLinkNest RX8 185 "BearerHouse$Receiver" "low" "I" "BearerHouse").before args s = true := va_Nw.use rfl (hXN.1 ("BearerHouse", 185, "BearerHouse$Receiver", "low", "I", "BearerHouse") (List.mem_of_getElem? (i := 14) rfl))
  have L100 : ∀ (z0 : Int32) (z1 : Int32) (y2 : Nat) (hy2 : isReceiver G y2) (σ : Sg) (H : Heap) (locs : List Loc) (ls : Array Slot), Hx G (aA G s.heap.size) s σ H locs → lv_has ls 8 [] → wpX8_takeData_L100 P tS.2 Q z0 z1 y2 σ → W p l e ({ frames := 5, cells := 0, slots := 0, locals := 120 }) s m args below meth c H locs 0 0 (Zv G Q below args s) (F0 m 100 ls [.int z0, .int z1, .ref (ga G y2)]) := by
    intro z0 z1 y2 hy2 σ H locs ls hH hl h
    unfold wpX8_takeData_L100 at h
    refine g_callVv (As := [.int z1, .int z0]) (rest := []) ⟨hx, hb, hml, hown, hB⟩ hK hX aA_hA hH (c0 := y2) (tX6_settle hy2 h) (cwV 2 hB gVX8_315 rfl rfl rfl (by decide +kernel) ⟨Nat.le_of_ble_eq_true rfl, Nat.le_of_ble_eq_true rfl⟩) hy2.1 rfl rfl hl.1 rfl (lv_room (Nat.le_of_ble_eq_true rfl)) ⟨Nat.zero_le _, Nat.zero_le _⟩ dX8_takeData_100 (fun σ14 H locs h hH => ?_)
    exact g_vret hx hb hr hK hlk h hH dX8_takeData_103
  have L80 : ∀ (c2 : Nat) (hc2 : isAir G c2) (x3 : Int32) (c5 : Nat) (hc5 : isReceiver G c5) (x6 : Int32) (σ : Sg) (H : Heap) (locs : List Loc) (ls : Array Slot), Hx G (aA G s.heap.size) s σ H locs → lv_has ls 8 [(2, .ref (ga G c2)), (3, .int x3), (5, .ref (ga G c5)), (6, .int x6)] → wpX8_takeData_L80 P tS.2 Q c2 x3 c5 x6 σ → W p l e ({ frames := 5, cells := 0, slots := 0, locals := 120 }) s m args below meth c H locs 0 0 (Zv G Q below args s) (F0 m 80 ls []) := by
    intro c2 hc2 x3 c5 hc5 x6 σ H locs ls hH hl h
    unfold wpX8_takeData_L80 at h
    refine lv_aload hx hb dX8_takeData_80 (lv_at hl 2 rfl) ?_
    refine lv_iload hx hb dX8_takeData_82 (lv_at hl 3 rfl) ?_
    refine lv_aload_n hx hb dX8_takeData_84 rfl (lv_at hl 0 rfl) ?_
    refine lv_iload_n hx hb dX8_takeData_85 rfl (lv_at hl 1 rfl) ?_
    refine g_callVi (As := [.int x3]) (rest := [.int x6, .ref (ga G c5)]) ⟨hx, hb, hml, hown, hB⟩ hK hX aA_hA hH (c0 := c2) (tX0_at hc2 h) (cwV 1 hB gVX8_141 rfl rfl rfl (by decide +kernel) ⟨Nat.le_of_ble_eq_true rfl, Nat.le_of_ble_eq_true rfl⟩) hc2.1 rfl rfl hl.1 rfl (lv_room (Nat.le_of_ble_eq_true rfl)) ⟨Nat.zero_le _, Nat.zero_le _⟩ dX8_takeData_86 (fun r12 σ12 H locs h hH => ?_)
    refine lv_bipush (v := 32) hx hb dX8_takeData_89 (by decide) ?_
    refine lv_iand hx hb dX8_takeData_91 ?_
    refine lv_if_eq (tgt := 99) hx hb dX8_takeData_92 (by decide) (fun q13 => ?_) (fun q13 => ?_)
    · replace h := h.1 q13
      refine lv_iconst (v := 0) hx hb dX8_takeData_99 (by decide) ?_
      exact L100 0 x6 c5 hc5 σ12 _ _ ls hH (lv_sub hl [] rfl) h
    · replace h := h.2 q13
      refine lv_iconst (v := 1) hx hb dX8_takeData_95 (by decide) ?_
      refine lv_goto (tgt := 100) hx hb dX8_takeData_96 (by decide) ?_
      exact L100 1 x6 c5 hc5 σ12 _ _ ls hH (lv_sub hl [] rfl) h
  have L34 : ∀ (n34 : Nat) (x1 : Int32) (c2 : Nat) (hc2 : isAir G c2) (x3 : Int32) (c5 : Nat) (hc5 : isReceiver G c5) (x6 : Int32) (x7 : Int32) (σ : Sg) (H : Heap) (locs : List Loc) (ls : Array Slot), Hx G (aA G s.heap.size) s σ H locs → lv_has ls 8 [(0, .ref (ga G 0)), (1, .int x1), (2, .ref (ga G c2)), (3, .int x3), (5, .ref (ga G c5)), (6, .int x6), (7, .int x7)] → wpX8_takeData_L34 P tS.2 Q n34 x1 c2 x3 c5 x6 x7 σ → W p l e ({ frames := 5, cells := 0, slots := 0, locals := 120 }) s m args below meth c H locs 0 0 (Zv G Q below args s) (F0 m 34 ls []) := by
    intro n34
    induction n34 with
    | zero =>
      intro x1 c2 hc2 x3 c5 hc5 x6 x7 σ H locs ls hH hl h
      exact False.elim h
    | succ n34 ih34 =>
      intro x1 c2 hc2 x3 c5 hc5 x6 x7 σ H locs ls hH hl h
      unfold wpX8_takeData_L34 at h
      refine lv_iload hx hb dX8_takeData_34 (lv_at hl 6 rfl) ?_
      refine lv_bipush (v := 32) hx hb dX8_takeData_36 (by decide) ?_
      refine lv_icmp_ge (tgt := 80) hx hb dX8_takeData_38 (by decide) (fun q5 => ?_) (fun q5 => ?_)
      · replace h := h.1 q5
        exact L80 c2 hc2 x3 c5 hc5 x6 σ _ _ ls hH (lv_sub hl [2, 3, 4, 5] rfl) h
      · replace h := h.2 q5
        refine lv_aload hx hb dX8_takeData_41 (lv_at hl 4 rfl) ?_
        refine lv_aload hx hb dX8_takeData_43 (lv_at hl 4 rfl) ?_
        refine g_getiN hx hb hB inB6 hown hK hH (c0 := c5) hc5.1 rfl 2 (by decide) k185 rfl rfl dX8_takeData_45 ?_
        refine g_callVi (As := [.int (σ c5 2)]) (rest := []) ⟨hx, hb, hml, hown, hB⟩ hK hX aA_hA hH (c0 := c5) (tX6_isWhole (tS := tS) hgo hc5 h) (cwV 1 hB gVX8_300 rfl rfl rfl (by decide +kernel) ⟨Nat.le_of_ble_eq_true rfl, Nat.le_of_ble_eq_true rfl⟩) hc5.1 rfl rfl hl.1 rfl (lv_room (Nat.le_of_ble_eq_true rfl)) ⟨Nat.zero_le _, Nat.zero_le _⟩ dX8_takeData_48 (fun r6 σ6 H locs h hH => ?_)
        refine lv_if_eq (tgt := 80) hx hb dX8_takeData_51 (by decide) (fun q7 => ?_) (fun q7 => ?_)
        · replace h := h.1 q7
          exact L80 c2 hc2 x3 c5 hc5 x6 σ6 _ _ ls hH (lv_sub hl [2, 3, 4, 5] rfl) h
        · replace h := h.2 q7
          refine lv_aload_n hx hb dX8_takeData_54 rfl (lv_at hl 0 rfl) ?_
          refine lv_iload_n hx hb dX8_takeData_55 rfl (lv_at hl 1 rfl) ?_
          refine lv_aload hx hb dX8_takeData_56 (lv_at hl 4 rfl) ?_
          refine lv_aload hx hb dX8_takeData_58 (lv_at hl 4 rfl) ?_
          refine g_getiN hx hb hB inB6 hown hK hH (c0 := c5) hc5.1 rfl 2 (by decide) k185 rfl rfl dX8_takeData_60 ?_
          refine g_callVr (As := [.int (σ6 c5 2)]) (rest := [.int x1, .ref (ga G 0)]) ⟨hx, hb, hml, hown, hB⟩ hK hX aA_hA hH (c0 := c5) (tX6_pieceAt hc5 h) (cwV 1 hB gVX8_304 rfl rfl rfl (by decide +kernel) ⟨Nat.le_of_ble_eq_true rfl, Nat.le_of_ble_eq_true rfl⟩) hc5.1 rfl rfl hl.1 rfl (lv_room (Nat.le_of_ble_eq_true rfl)) ⟨Nat.zero_le _, Nat.zero_le _⟩ dX8_takeData_63 (fun r8 σ8 H locs h hH => ?_)
          obtain ⟨h, hp8⟩ := h
          refine g_callVv (As := [.int x1, .ref (ga G r8)]) (rest := []) ⟨hx, hb, hml, hown, hB⟩ hK hX aA_hA hH (c0 := 0) (tX8_hand (tS := tS) hgo h0 hp8 h) (cwV 2 hB gVX8_308 rfl rfl rfl (by decide +kernel) ⟨Nat.le_of_ble_eq_true rfl, Nat.le_of_ble_eq_true rfl⟩) h0.1 rfl rfl hl.1 rfl (lv_room (Nat.le_of_ble_eq_true rfl)) ⟨Nat.zero_le _, Nat.zero_le _⟩ dX8_takeData_66 (fun σ9 H locs h hH => ?_)
          refine lv_aload hx hb dX8_takeData_69 (lv_at hl 4 rfl) ?_
          refine g_callVv (As := []) (rest := []) ⟨hx, hb, hml, hown, hB⟩ hK hX aA_hA hH (c0 := c5) (tX6_passLow hc5 h) (cwV 0 hB gVX8_312 rfl rfl rfl (by decide +kernel) ⟨Nat.le_of_ble_eq_true rfl, Nat.le_of_ble_eq_true rfl⟩) hc5.1 rfl rfl hl.1 rfl (lv_room (Nat.le_of_ble_eq_true rfl)) ⟨Nat.zero_le _, Nat.zero_le _⟩ dX8_takeData_71 (fun σ10 H locs h hH => ?_)
          obtain ⟨x7_11, ex7_11⟩ : ∃ y : Int32, y = x7 + 1 := ⟨_, rfl⟩
          replace h := h x7_11 ex7_11
          refine lv_iinc (v := x7_11) (lv' := [(7, .int x7_11), (0, .ref (ga G 0)), (1, .int x1), (2, .ref (ga G c2)), (3, .int x3), (5, .ref (ga G c5)), (6, .int x6)]) hx hb dX8_takeData_74 hl (k := 6) rfl (by rw [ex7_11]; rfl) (by decide) rfl (fun ls hl => ?_)
          refine lv_goto (tgt := 34) hx hb dX8_takeData_77 (by decide) ?_
          exact ih34 x1 c2 hc2 x3 c5 hc5 x6 x7_11 σ10 _ _ ls hH (lv_sub hl [1, 2, 3, 4, 5, 6, 0] rfl) h
  unfold wpX8_takeData at h
  refine lv_aload_n hx hb dX8_takeData_0 rfl (lv_at hl 0 rfl) ?_
  refine g_getr hx hb hB inB8 hown hK hH (c0 := 0) h0.1 rfl 6 (by decide) k42 rfl (c1 := 8) rfl dX8_takeData_1 ?_
  refine lv_iload_n hx hb dX8_takeData_4 rfl (lv_at hl 1 rfl) ?_
  obtain ⟨hi1, h⟩ := h
  refine g_aald hx hb hK hH (c0 := 8) h0.2.2.2.2.2.1 hi1 dX8_takeData_5 ?_
  have hp1 : isReceiver G (51 + 113 * x1.toNatClampNeg) := h0.2.2.2.2.2.2.2.2.1 _ (vp_lt hi1)
  obtain ⟨c_1, ec_1⟩ : ∃ y : Nat, y = 51 + 113 * x1.toNatClampNeg := ⟨_, rfl⟩
  replace h := h c_1 ec_1
  rw [← ec_1] at hp1
  refine W.eq (g2 := F0 m 6 ls [.ref (ga G c_1)]) (by rw [ec_1]) ?_
  refine lv_astore (lv' := [(5, .ref (ga G c_1)), (0, .ref (ga G 0)), (1, .int x1), (2, .ref (ga G c2)), (3, .int x3), (4, .int x4)]) hx hb dX8_takeData_6 hl (by decide) rfl (fun ls hl => ?_)
  refine lv_aload hx hb dX8_takeData_8 (lv_at hl 0 rfl) ?_
  refine lv_aload_n hx hb dX8_takeData_10 rfl (lv_at hl 3 rfl) ?_
  refine lv_iload_n hx hb dX8_takeData_11 rfl (lv_at hl 4 rfl) ?_
  refine lv_iload hx hb dX8_takeData_12 (lv_at hl 5 rfl) ?_
  refine g_callVi (As := [.ref (ga G c2), .int x3, .int x4]) (rest := []) ⟨hx, hb, hml, hown, hB⟩ hK hX aA_hA hH (c0 := c_1) (tX6_takeBytes (tS := tS) hgo hp1 hc2 h) (cwV 3 hB gVX8_293 rfl rfl rfl (by decide +kernel) ⟨Nat.le_of_ble_eq_true rfl, Nat.le_of_ble_eq_true rfl⟩) hp1.1 rfl rfl hl.1 rfl (lv_room (Nat.le_of_ble_eq_true rfl)) ⟨Nat.zero_le _, Nat.zero_le _⟩ dX8_takeData_14 (fun r2 σ2 H locs h hH => ?_)
  refine lv_istore (lv' := [(6, .int r2), (5, .ref (ga G c_1)), (0, .ref (ga G 0)), (1, .int x1), (2, .ref (ga G c2)), (3, .int x3), (4, .int x4)]) hx hb dX8_takeData_17 hl (by decide) rfl (fun ls hl => ?_)
  refine lv_iload hx hb dX8_takeData_19 (lv_at hl 0 rfl) ?_
  refine lv_iconst (v := (-1)) hx hb dX8_takeData_21 (by decide) ?_
  refine lv_icmp_ne (tgt := 26) hx hb dX8_takeData_22 (by decide) (fun q3 => ?_) (fun q3 => ?_)
  · replace h := h.1 q3
    refine lv_aload hx hb dX8_takeData_26 (lv_at hl 1 rfl) ?_
    refine g_callVv (As := []) (rest := []) ⟨hx, hb, hml, hown, hB⟩ hK hX aA_hA hH (c0 := c_1) (tX6_raiseTold (tS := tS) hgo hp1 h) (cwV 0 hB gVX8_297 rfl rfl rfl (by decide +kernel) ⟨Nat.le_of_ble_eq_true rfl, Nat.le_of_ble_eq_true rfl⟩) hp1.1 rfl rfl hl.1 rfl (lv_room (Nat.le_of_ble_eq_true rfl)) ⟨Nat.zero_le _, Nat.zero_le _⟩ dX8_takeData_28 (fun σ4 H locs h hH => ?_)
    refine lv_iconst (v := 0) hx hb dX8_takeData_31 (by decide) ?_
    refine lv_istore (lv' := [(7, .int 0), (6, .int r2), (5, .ref (ga G c_1)), (0, .ref (ga G 0)), (1, .int x1), (2, .ref (ga G c2)), (3, .int x3), (4, .int x4)]) hx hb dX8_takeData_32 hl (by decide) rfl (fun ls hl => ?_)
    obtain ⟨nn, h⟩ := h
    exact L34 nn x1 c2 hc2 x3 c_1 hp1 r2 0 σ4 _ _ ls hH (lv_sub hl [3, 4, 5, 6, 2, 1, 0] rfl) h
  · replace h := h.2 q3
    exact g_vret hx hb hr hK hlk h hH dX8_takeData_25
