def wpX6_makeStatus_L167 (Q : Sg → Prop) (c0 : Nat) (c1 : Nat) (x3 : Int32) (x4 : Int32) (x5 : Int32) (σ : Sg) : Prop := wpX0_set c1 x3 x4 σ (fun σ12 => wpX0_set c1 (x3 + 1) (x5 &&& 63) σ12 (fun σ13 => ∀ σ14 : Sg, σ14 = up2 σ13 c0 7 0 → ∀ σ15 : Sg, σ15 = up2 σ14 c0 9 5 → ∀ σ16 : Sg, σ16 = up2 σ15 c0 10 ((σ15 c0 10) + 1) → Q σ16))
def wpX6_makeStatus_L161 (Q : Sg → Prop) (K30 : Nat → Nat → Int32 → Int32 → Int32 → Int32 → Int32 → Sg → Prop) (c0 : Nat) (c1 : Nat) (x2 : Int32) (x3 : Int32) (x4 : Int32) (x5 : Int32) (x6 : Int32) (σ : Sg) : Prop := ∀ x6_18 : Int32, x6_18 = x6 + 1 → K30 c0 c1 x2 x3 x4 x5 x6_18 σ
def wpX6_makeStatus_L154 (Q : Sg → Prop) (K30 : Nat → Nat → Int32 → Int32 → Int32 → Int32 → Int32 → Sg → Prop) (c0 : Nat) (c1 : Nat) (x2 : Int32) (x3 : Int32) (x4 : Int32) (x5 : Int32) (x6 : Int32) (x8 : Int32) (σ : Sg) : Prop := ∀ x4_24 : Int32, x4_24 = x4 + x8 → wpX6_makeStatus_L161 Q K30 c0 c1 x2 x3 x4_24 x5 x6 σ
def wpX6_makeStatus_L119 (Q : Sg → Prop) (c0 : Nat) (c1 : Nat) (x3 : Int32) (x4 : Int32) (x6 : Int32) (σ : Sg) : Prop := wpX6_makeStatus_L167 Q c0 c1 x3 x4 x6 σ
def wpX6_makeStatus_L94 (Q : Sg → Prop) (K30 : Nat → Nat → Int32 → Int32 → Int32 → Int32 → Int32 → Sg → Prop) (c0 : Nat) (c1 : Nat) (x2 : Int32) (x3 : Int32) (x4 : Int32) (x5 : Int32) (x6 : Int32) (c7 : Nat) (x8 : Int32) (z0 : Int32) (σ : Sg) : Prop := ((15 < (x4 + x8) → wpX6_makeStatus_L119 Q c0 c1 x3 x4 x6 σ) ∧ (¬ (15 < (x4 + x8)) → (((((σ c1 1) - x3) + z0) ≤ x2 → ((¬ (σ c7 2) = 0 → wpX5_writeMissing c7 c1 x6 σ (fun σ22 => wpX6_makeStatus_L154 Q K30 c0 c1 x2 x3 x4 x5 x6 x8 σ22)) ∧ ((σ c7 2) = 0 → wpX0_put c1 (x6 &&& 63) σ (fun σ23 => wpX6_makeStatus_L154 Q K30 c0 c1 x2 x3 x4 x5 x6 x8 σ23)))) ∧ (¬ ((((σ c1 1) - x3) + z0) ≤ x2) → wpX6_makeStatus_L119 Q c0 c1 x3 x4 x6 σ))))
def wpX6_makeStatus_L76 (Q : Sg → Prop) (K30 : Nat → Nat → Int32 → Int32 → Int32 → Int32 → Int32 → Sg → Prop) (c0 : Nat) (c1 : Nat) (x2 : Int32) (x3 : Int32) (x4 : Int32) (x5 : Int32) (x6 : Int32) (c7 : Nat) (z0 : Int32) (σ : Sg) : Prop := ((¬ (σ c7 2) = 0 → wpX6_makeStatus_L94 Q K30 c0 c1 x2 x3 x4 x5 x6 c7 z0 (3 * z0) σ) ∧ ((σ c7 2) = 0 → wpX6_makeStatus_L94 Q K30 c0 c1 x2 x3 x4 x5 x6 c7 z0 1 σ))
def wpX6_makeStatus_L30 (Q : Sg → Prop) : Nat → Nat → Nat → Int32 → Int32 → Int32 → Int32 → Int32 → Sg → Prop
  | 0, _, _, _, _, _, _, _, _ => False
  | n + 1, c0, c1, x2, x3, x4, x5, x6, σ => (((σ c0 4) ≤ x6 → wpX6_makeStatus_L167 Q c0 c1 x3 x4 x5 σ) ∧ (¬ ((σ c0 4) ≤ x6) → wpX6_pieceAt c0 x6 σ (fun r7 σ7 => wpX6_isWhole c0 x6 σ7 (fun r8 σ8 => ((r8 = 0 → ((¬ (σ8 r7 2) = 0 → wpX5_missingRuns r7 σ8 (fun r11 σ11 => wpX6_makeStatus_L76 Q (wpX6_makeStatus_L30 Q n) c0 c1 x2 x3 x4 x5 x6 r7 r11 σ11)) ∧ ((σ8 r7 2) = 0 → wpX6_makeStatus_L76 Q (wpX6_makeStatus_L30 Q n) c0 c1 x2 x3 x4 x5 x6 r7 1 σ8))) ∧ (¬ (r8 = 0) → wpX6_makeStatus_L161 Q (wpX6_makeStatus_L30 Q n) c0 c1 x2 x3 x4 x5 x6 σ8))))))
def wpX6_makeStatus (c0 : Nat) (c1 : Nat) (x2 : Int32) (σ : Sg) (Q : Sg → Prop) : Prop := ∀ x3_1 : Int32, x3_1 = σ c1 1 → wpX0_put c1 0 σ (fun σ2 => wpX0_put c1 0 σ2 (fun σ3 => ∀ x5_4 : Int32, x5_4 = σ3 c0 4 → ∀ x6_5 : Int32, x6_5 = σ3 c0 2 → ∃ nn, wpX6_makeStatus_L30 Q nn c0 c1 x2 x3_1 0 x5_4 x6_5 σ3))
set_option maxHeartbeats 8000000 in
set_option maxRecDepth 100000 in
theorem tX6_makeStatus {l : Launch} {G : GG} {tS : Nat × (Nat → Int32)} (hgo : go G = some tS) {c0 : Nat} {c1 : Nat} {x2 : Int32} {σ : Sg} {Q : Sg → Prop} (hc0 : isReceiver G c0) (hc1 : isAir G c1) (h : wpX6_makeStatus c0 c1 x2 σ Q) : Kv l G yX6_makeStatus (wB yX6_makeStatus prog_8_method_15_code 10 none) ({ frames := 3, cells := 0, slots := 0, locals := 62 }) [.ref (ga G c0), .ref (ga G c1), .int x2] σ Q := by
  refine K_of (cc := cX6_makeStatus) (maxL := 10) (ret := none) (by decide) rfl (Nat.le_of_ble_eq_true rfl) ?_
  intro p e s m args below meth c ls B hH hl
  obtain ⟨hx, hb, hr, hts, hown, hlk, hml, hK, hX⟩ := B
  replace hl : lv_has ls 10 [(0, .ref (ga G c0)), (1, .ref (ga G c1)), (2, .int x2)] := hl
  have hXN : NWs s := XS.nw hX hgo
  have hB : ∀ w ∈ BIG, w.before args s = true := fun w h9 => hts w (List.mem_cons_of_mem _ h9)
  clear hts
  have k34 := hB _ bw2_28
  have k47 := hB _ bw2_32
  have k53 := hB _ bw2_38
  have k60 := hB _ bw2_42
  have k63 : (Cond.fieldLinkNest RX6 63 "BearerHouse$Piece" "marks" "I" "BearerHouse").before args s = true := va_Nw.use rfl (hXN.1 ("BearerHouse$Receiver", 63, "BearerHouse$Piece", "marks", "I", "BearerHouse") (List.mem_of_getElem? (i := 45) rfl))
  have k108 : (Cond.fieldLinkNest RX6 108 "BearerHouse$Air" "size" "I" "BearerHouse").before args s = true := va_Nw.use rfl (hXN.1 ("BearerHouse$Receiver", 108, "BearerHouse$Air", "size", "I", "BearerHouse") (List.mem_of_getElem? (i := 43) rfl))
  have k127 := hB _ bw2_45
  have L167 : ∀ (c0 : Nat) (hc0 : isReceiver G c0) (c1 : Nat) (hc1 : isAir G c1) (x3 : Int32) (x4 : Int32) (x5 : Int32) (σ : Sg) (H : Heap) (locs : List Loc) (ls : Array Slot), Hx G (aA G s.heap.size) s σ H locs → lv_has ls 10 [(0, .ref (ga G c0)), (1, .ref (ga G c1)), (3, .int x3), (4, .int x4), (5, .int x5)] → wpX6_makeStatus_L167 Q c0 c1 x3 x4 x5 σ → W p l e ({ frames := 3, cells := 0, slots := 0, locals := 62 }) s m args below meth c H locs 0 0 (Zv G Q below args s) (F0 m 167 ls []) := by
    intro c0 hc0 c1 hc1 x3 x4 x5 σ H locs ls hH hl h
    unfold wpX6_makeStatus_L167 at h
    refine lv_aload_n hx hb dX6_makeStatus_167 rfl (lv_at hl 1 rfl) ?_
    refine lv_iload_n hx hb dX6_makeStatus_168 rfl (lv_at hl 2 rfl) ?_
    refine lv_iload hx hb dX6_makeStatus_169 (lv_at hl 3 rfl) ?_
    refine g_callVv (As := [.int x3, .int x4]) (rest := []) ⟨hx, hb, hml, hown, hB⟩ hK hX aA_hA hH (c0 := c1) (tX0_set hc1 h) (cwV 2 hB gVX6_124 rfl rfl rfl (by decide +kernel) ⟨Nat.le_of_ble_eq_true rfl, Nat.le_of_ble_eq_true rfl⟩) hc1.1 rfl rfl hl.1 rfl (lv_room (Nat.le_of_ble_eq_true rfl)) ⟨Nat.zero_le _, Nat.zero_le _⟩ dX6_makeStatus_171 (fun σ12 H locs h hH => ?_)
    refine lv_aload_n hx hb dX6_makeStatus_174 rfl (lv_at hl 1 rfl) ?_
    refine lv_iload_n hx hb dX6_makeStatus_175 rfl (lv_at hl 2 rfl) ?_
    refine lv_iconst (v := 1) hx hb dX6_makeStatus_176 (by decide) ?_
    refine lv_iadd hx hb dX6_makeStatus_177 ?_
    refine lv_iload hx hb dX6_makeStatus_178 (lv_at hl 4 rfl) ?_
    refine lv_bipush (v := 63) hx hb dX6_makeStatus_180 (by decide) ?_
    refine lv_iand hx hb dX6_makeStatus_182 ?_
    refine g_callVv (As := [.int (x3 + 1), .int (x5 &&& 63)]) (rest := []) ⟨hx, hb, hml, hown, hB⟩ hK hX aA_hA hH (c0 := c1) (tX0_set hc1 h) (cwV 2 hB gVX6_124 rfl rfl rfl (by decide +kernel) ⟨Nat.le_of_ble_eq_true rfl, Nat.le_of_ble_eq_true rfl⟩) hc1.1 rfl rfl hl.1 rfl (lv_room (Nat.le_of_ble_eq_true rfl)) ⟨Nat.zero_le _, Nat.zero_le _⟩ dX6_makeStatus_183 (fun σ13 H locs h hH => ?_)
    refine lv_aload_n hx hb dX6_makeStatus_186 rfl (lv_at hl 0 rfl) ?_
    refine lv_iconst (v := 0) hx hb dX6_makeStatus_187 (by decide) ?_
    refine g_put hx hb hB inB6 tyX6 tyX6_ok nmX6 hown hK hH (c0 := c0) hc0.1 rfl 7 (by decide) k53 rfl rfl rfl (vz_n vz0) (vz_f vz0) dX6_makeStatus_188 (fun σ14 eσ14 H locs hH => ?_)
    replace h := h σ14 eσ14
    refine lv_aload_n hx hb dX6_makeStatus_191 rfl (lv_at hl 0 rfl) ?_
    refine lv_iconst (v := 5) hx hb dX6_makeStatus_192 (by decide) ?_
    refine g_put hx hb hB inB6 tyX6 tyX6_ok nmX6 hown hK hH (c0 := c0) hc0.1 rfl 9 (by decide) k60 rfl rfl rfl rfl rfl dX6_makeStatus_193 (fun σ15 eσ15 H locs hH => ?_)
    replace h := h σ15 eσ15
    refine lv_aload_n hx hb dX6_makeStatus_196 rfl (lv_at hl 0 rfl) ?_
    refine lv_dup hx hb dX6_makeStatus_197 rfl ?_
    refine g_geti hx hb hB inB6 hown hK hH (c0 := c0) hc0.1 rfl 10 (by decide) k127 rfl rfl dX6_makeStatus_198 ?_
    refine lv_iconst (v := 1) hx hb dX6_makeStatus_201 (by decide) ?_
    refine lv_iadd hx hb dX6_makeStatus_202 ?_
    refine g_put hx hb hB inB6 tyX6 tyX6_ok nmX6 hown hK hH (c0 := c0) hc0.1 rfl 10 (by decide) k127 rfl rfl rfl rfl rfl dX6_makeStatus_203 (fun σ16 eσ16 H locs hH => ?_)
    replace h := h σ16 eσ16
    exact g_vret hx hb hr hK hlk h hH dX6_makeStatus_206
  have L119 : ∀ (c0 : Nat) (hc0 : isReceiver G c0) (c1 : Nat) (hc1 : isAir G c1) (x3 : Int32) (x4 : Int32) (x6 : Int32) (σ : Sg) (H : Heap) (locs : List Loc) (ls : Array Slot), Hx G (aA G s.heap.size) s σ H locs → lv_has ls 10 [(0, .ref (ga G c0)), (1, .ref (ga G c1)), (3, .int x3), (4, .int x4), (6, .int x6)] → wpX6_makeStatus_L119 Q c0 c1 x3 x4 x6 σ → W p l e ({ frames := 3, cells := 0, slots := 0, locals := 62 }) s m args below meth c H locs 0 0 (Zv G Q below args s) (F0 m 119 ls []) := by
    intro c0 hc0 c1 hc1 x3 x4 x6 σ H locs ls hH hl h
    unfold wpX6_makeStatus_L119 at h
    refine lv_iload hx hb dX6_makeStatus_119 (lv_at hl 4 rfl) ?_
    refine lv_istore (lv' := [(5, .int x6), (0, .ref (ga G c0)), (1, .ref (ga G c1)), (3, .int x3), (4, .int x4), (6, .int x6)]) hx hb dX6_makeStatus_121 hl (by decide) rfl (fun ls hl => ?_)
    refine lv_goto (tgt := 167) hx hb dX6_makeStatus_123 (by decide) ?_
    exact L167 c0 hc0 c1 hc1 x3 x4 x6 σ _ _ ls hH (lv_sub hl [1, 2, 3, 4, 0] rfl) h
  have L30 : ∀ (n30 : Nat) (c0 : Nat) (hc0 : isReceiver G c0) (c1 : Nat) (hc1 : isAir G c1) (x2 : Int32) (x3 : Int32) (x4 : Int32) (x5 : Int32) (x6 : Int32) (σ : Sg) (H : Heap) (locs : List Loc) (ls : Array Slot), Hx G (aA G s.heap.size) s σ H locs → lv_has ls 10 [(0, .ref (ga G c0)), (1, .ref (ga G c1)), (2, .int x2), (3, .int x3), (4, .int x4), (5, .int x5), (6, .int x6)] → wpX6_makeStatus_L30 Q n30 c0 c1 x2 x3 x4 x5 x6 σ → W p l e ({ frames := 3, cells := 0, slots := 0, locals := 62 }) s m args below meth c H locs 0 0 (Zv G Q below args s) (F0 m 30 ls []) := by
    intro n30
    induction n30 with
    | zero =>
      intro c0 hc0 c1 hc1 x2 x3 x4 x5 x6 σ H locs ls hH hl h
      exact False.elim h
    | succ n30 ih30 =>
      have L161 : ∀ (c0 : Nat) (hc0 : isReceiver G c0) (c1 : Nat) (hc1 : isAir G c1) (x2 : Int32) (x3 : Int32) (x4 : Int32) (x5 : Int32) (x6 : Int32) (σ : Sg) (H : Heap) (locs : List Loc) (ls : Array Slot), Hx G (aA G s.heap.size) s σ H locs → lv_has ls 10 [(0, .ref (ga G c0)), (1, .ref (ga G c1)), (2, .int x2), (3, .int x3), (4, .int x4), (5, .int x5), (6, .int x6)] → wpX6_makeStatus_L161 Q (wpX6_makeStatus_L30 Q n30) c0 c1 x2 x3 x4 x5 x6 σ → W p l e ({ frames := 3, cells := 0, slots := 0, locals := 62 }) s m args below meth c H locs 0 0 (Zv G Q below args s) (F0 m 161 ls []) := by
        intro c0 hc0 c1 hc1 x2 x3 x4 x5 x6 σ H locs ls hH hl h
        unfold wpX6_makeStatus_L161 at h
        obtain ⟨x6_18, ex6_18⟩ : ∃ y : Int32, y = x6 + 1 := ⟨_, rfl⟩
        replace h := h x6_18 ex6_18
        refine lv_iinc (v := x6_18) (lv' := [(6, .int x6_18), (0, .ref (ga G c0)), (1, .ref (ga G c1)), (2, .int x2), (3, .int x3), (4, .int x4), (5, .int x5)]) hx hb dX6_makeStatus_161 hl (k := 6) rfl (by rw [ex6_18]; rfl) (by decide) rfl (fun ls hl => ?_)
        refine lv_goto (tgt := 30) hx hb dX6_makeStatus_164 (by decide) ?_
        exact ih30 c0 hc0 c1 hc1 x2 x3 x4 x5 x6_18 σ _ _ ls hH (lv_sub hl [1, 2, 3, 4, 5, 6, 0] rfl) h
      have L154 : ∀ (c0 : Nat) (hc0 : isReceiver G c0) (c1 : Nat) (hc1 : isAir G c1) (x2 : Int32) (x3 : Int32) (x4 : Int32) (x5 : Int32) (x6 : Int32) (x8 : Int32) (σ : Sg) (H : Heap) (locs : List Loc) (ls : Array Slot), Hx G (aA G s.heap.size) s σ H locs → lv_has ls 10 [(0, .ref (ga G c0)), (1, .ref (ga G c1)), (2, .int x2), (3, .int x3), (4, .int x4), (5, .int x5), (6, .int x6), (8, .int x8)] → wpX6_makeStatus_L154 Q (wpX6_makeStatus_L30 Q n30) c0 c1 x2 x3 x4 x5 x6 x8 σ → W p l e ({ frames := 3, cells := 0, slots := 0, locals := 62 }) s m args below meth c H locs 0 0 (Zv G Q below args s) (F0 m 154 ls []) := by
        intro c0 hc0 c1 hc1 x2 x3 x4 x5 x6 x8 σ H locs ls hH hl h
        unfold wpX6_makeStatus_L154 at h
        refine lv_iload hx hb dX6_makeStatus_154 (lv_at hl 4 rfl) ?_
        refine lv_iload hx hb dX6_makeStatus_156 (lv_at hl 7 rfl) ?_
        refine lv_iadd hx hb dX6_makeStatus_158 ?_
        refine lv_topi (fun x4_24 ex4_24 => ?_)
        replace h := h x4_24 ex4_24
        refine lv_istore (lv' := [(4, .int x4_24), (0, .ref (ga G c0)), (1, .ref (ga G c1)), (2, .int x2), (3, .int x3), (5, .int x5), (6, .int x6), (8, .int x8)]) hx hb dX6_makeStatus_159 hl (by decide) rfl (fun ls hl => ?_)
        exact L161 c0 hc0 c1 hc1 x2 x3 x4_24 x5 x6 σ _ _ ls hH (lv_sub hl [1, 2, 3, 4, 0, 5, 6] rfl) h
      have L94 : ∀ (c0 : Nat) (hc0 : isReceiver G c0) (c1 : Nat) (hc1 : isAir G c1) (x2 : Int32) (x3 : Int32) (x4 : Int32) (x5 : Int32) (x6 : Int32) (c7 : Nat) (hc7 : isPiece G c7) (x8 : Int32) (z0 : Int32) (σ : Sg) (H : Heap) (locs : List Loc) (ls : Array Slot), Hx G (aA G s.heap.size) s σ H locs → lv_has ls 10 [(0, .ref (ga G c0)), (1, .ref (ga G c1)), (2, .int x2), (3, .int x3), (4, .int x4), (5, .int x5), (6, .int x6), (7, .ref (ga G c7)), (8, .int x8)] → wpX6_makeStatus_L94 Q (wpX6_makeStatus_L30 Q n30) c0 c1 x2 x3 x4 x5 x6 c7 x8 z0 σ → W p l e ({ frames := 3, cells := 0, slots := 0, locals := 62 }) s m args below meth c H locs 0 0 (Zv G Q below args s) (F0 m 94 ls [.int z0]) := by
        intro c0 hc0 c1 hc1 x2 x3 x4 x5 x6 c7 hc7 x8 z0 σ H locs ls hH hl h
        unfold wpX6_makeStatus_L94 at h
        refine lv_istore (lv' := [(9, .int z0), (0, .ref (ga G c0)), (1, .ref (ga G c1)), (2, .int x2), (3, .int x3), (4, .int x4), (5, .int x5), (6, .int x6), (7, .ref (ga G c7)), (8, .int x8)]) hx hb dX6_makeStatus_94 hl (by decide) rfl (fun ls hl => ?_)
        refine lv_iload hx hb dX6_makeStatus_96 (lv_at hl 5 rfl) ?_
        refine lv_iload hx hb dX6_makeStatus_98 (lv_at hl 9 rfl) ?_
        refine lv_iadd hx hb dX6_makeStatus_100 ?_
        refine lv_bipush (v := 15) hx hb dX6_makeStatus_101 (by decide) ?_
        refine lv_icmp_gt (tgt := 119) hx hb dX6_makeStatus_103 (by decide) (fun q19 => ?_) (fun q19 => ?_)
        · replace h := h.1 q19
          exact L119 c0 hc0 c1 hc1 x3 x4 x6 σ _ _ ls hH (lv_sub hl [1, 2, 4, 5, 7] rfl) h
        · replace h := h.2 q19
          refine lv_aload_n hx hb dX6_makeStatus_106 rfl (lv_at hl 2 rfl) ?_
          refine g_getiN hx hb hB inB0 hown hK hH (c0 := c1) hc1.1 rfl 1 (by decide) k108 rfl rfl dX6_makeStatus_107 ?_
          refine lv_iload_n hx hb dX6_makeStatus_110 rfl (lv_at hl 4 rfl) ?_
          refine lv_isub hx hb dX6_makeStatus_111 ?_
          refine lv_iload hx hb dX6_makeStatus_112 (lv_at hl 0 rfl) ?_
          refine lv_iadd hx hb dX6_makeStatus_114 ?_
          refine lv_iload_n hx hb dX6_makeStatus_115 rfl (lv_at hl 3 rfl) ?_
          refine lv_icmp_le (tgt := 126) hx hb dX6_makeStatus_116 (by decide) (fun q20 => ?_) (fun q20 => ?_)
          · replace h := h.1 q20
            refine lv_aload hx hb dX6_makeStatus_126 (lv_at hl 8 rfl) ?_
            refine g_getiN hx hb hB inB5 hown hK hH (c0 := c7) hc7.1 rfl 2 (by decide) k63 rfl rfl dX6_makeStatus_128 ?_
            refine lv_if_ne (tgt := 146) hx hb dX6_makeStatus_131 (by decide) (fun q21 => ?_) (fun q21 => ?_)
            · replace h := h.1 q21
              refine lv_aload hx hb dX6_makeStatus_146 (lv_at hl 8 rfl) ?_
              refine lv_aload_n hx hb dX6_makeStatus_148 rfl (lv_at hl 2 rfl) ?_
              refine lv_iload hx hb dX6_makeStatus_149 (lv_at hl 7 rfl) ?_
              refine g_callVv (As := [.ref (ga G c1), .int x6]) (rest := []) ⟨hx, hb, hml, hown, hB⟩ hK hX aA_hA hH (c0 := c7) (tX5_writeMissing hc7 hc1 h) (cwV 2 hB gVX6_120 rfl rfl rfl (by decide +kernel) ⟨Nat.le_of_ble_eq_true rfl, Nat.le_of_ble_eq_true rfl⟩) hc7.1 rfl rfl hl.1 rfl (lv_room (Nat.le_of_ble_eq_true rfl)) ⟨Nat.zero_le _, Nat.zero_le _⟩ dX6_makeStatus_151 (fun σ22 H locs h hH => ?_)
              exact L154 c0 hc0 c1 hc1 x2 x3 x4 x5 x6 x8 σ22 _ _ ls hH (lv_sub hl [1, 2, 3, 4, 5, 6, 7, 9] rfl) h
            · replace h := h.2 q21
              refine lv_aload_n hx hb dX6_makeStatus_134 rfl (lv_at hl 2 rfl) ?_
              refine lv_iload hx hb dX6_makeStatus_135 (lv_at hl 7 rfl) ?_
              refine lv_bipush (v := 63) hx hb dX6_makeStatus_137 (by decide) ?_
              refine lv_iand hx hb dX6_makeStatus_139 ?_
              refine g_callVv (As := [.int (x6 &&& 63)]) (rest := []) ⟨hx, hb, hml, hown, hB⟩ hK hX aA_hA hH (c0 := c1) (tX0_put hc1 h) (cwV 1 hB gVX6_113 rfl rfl rfl (by decide +kernel) ⟨Nat.le_of_ble_eq_true rfl, Nat.le_of_ble_eq_true rfl⟩) hc1.1 rfl rfl hl.1 rfl (lv_room (Nat.le_of_ble_eq_true rfl)) ⟨Nat.zero_le _, Nat.zero_le _⟩ dX6_makeStatus_140 (fun σ23 H locs h hH => ?_)
              refine lv_goto (tgt := 154) hx hb dX6_makeStatus_143 (by decide) ?_
              exact L154 c0 hc0 c1 hc1 x2 x3 x4 x5 x6 x8 σ23 _ _ ls hH (lv_sub hl [1, 2, 3, 4, 5, 6, 7, 9] rfl) h
          · replace h := h.2 q20
            exact L119 c0 hc0 c1 hc1 x3 x4 x6 σ _ _ ls hH (lv_sub hl [1, 2, 4, 5, 7] rfl) h
      have L76 : ∀ (c0 : Nat) (hc0 : isReceiver G c0) (c1 : Nat) (hc1 : isAir G c1) (x2 : Int32) (x3 : Int32) (x4 : Int32) (x5 : Int32) (x6 : Int32) (c7 : Nat) (hc7 : isPiece G c7) (z0 : Int32) (σ : Sg) (H : Heap) (locs : List Loc) (ls : Array Slot), Hx G (aA G s.heap.size) s σ H locs → lv_has ls 10 [(0, .ref (ga G c0)), (1, .ref (ga G c1)), (2, .int x2), (3, .int x3), (4, .int x4), (5, .int x5), (6, .int x6), (7, .ref (ga G c7))] → wpX6_makeStatus_L76 Q (wpX6_makeStatus_L30 Q n30) c0 c1 x2 x3 x4 x5 x6 c7 z0 σ → W p l e ({ frames := 3, cells := 0, slots := 0, locals := 62 }) s m args below meth c H locs 0 0 (Zv G Q below args s) (F0 m 76 ls [.int z0]) := by
        intro c0 hc0 c1 hc1 x2 x3 x4 x5 x6 c7 hc7 z0 σ H locs ls hH hl h
        unfold wpX6_makeStatus_L76 at h
        refine lv_istore (lv' := [(8, .int z0), (0, .ref (ga G c0)), (1, .ref (ga G c1)), (2, .int x2), (3, .int x3), (4, .int x4), (5, .int x5), (6, .int x6), (7, .ref (ga G c7))]) hx hb dX6_makeStatus_76 hl (by decide) rfl (fun ls hl => ?_)
        refine lv_aload hx hb dX6_makeStatus_78 (lv_at hl 8 rfl) ?_
        refine g_getiN hx hb hB inB5 hown hK hH (c0 := c7) hc7.1 rfl 2 (by decide) k63 rfl rfl dX6_makeStatus_80 ?_
        refine lv_if_ne (tgt := 90) hx hb dX6_makeStatus_83 (by decide) (fun q17 => ?_) (fun q17 => ?_)
        · replace h := h.1 q17
          refine lv_iconst (v := 3) hx hb dX6_makeStatus_90 (by decide) ?_
          refine lv_iload hx hb dX6_makeStatus_91 (lv_at hl 0 rfl) ?_
          refine lv_imul hx hb dX6_makeStatus_93 ?_
          exact L94 c0 hc0 c1 hc1 x2 x3 x4 x5 x6 c7 hc7 z0 (3 * z0) σ _ _ ls hH (lv_sub hl [1, 2, 3, 4, 5, 6, 7, 8, 0] rfl) h
        · replace h := h.2 q17
          refine lv_iconst (v := 1) hx hb dX6_makeStatus_86 (by decide) ?_
          refine lv_goto (tgt := 94) hx hb dX6_makeStatus_87 (by decide) ?_
          exact L94 c0 hc0 c1 hc1 x2 x3 x4 x5 x6 c7 hc7 z0 1 σ _ _ ls hH (lv_sub hl [1, 2, 3, 4, 5, 6, 7, 8, 0] rfl) h
      intro c0 hc0 c1 hc1 x2 x3 x4 x5 x6 σ H locs ls hH hl h
      unfold wpX6_makeStatus_L30 at h
      refine lv_iload hx hb dX6_makeStatus_30 (lv_at hl 6 rfl) ?_
      refine lv_aload_n hx hb dX6_makeStatus_32 rfl (lv_at hl 0 rfl) ?_
      refine g_geti hx hb hB inB6 hown hK hH (c0 := c0) hc0.1 rfl 4 (by decide) k47 rfl rfl dX6_makeStatus_33 ?_
      refine lv_icmp_ge (tgt := 167) hx hb dX6_makeStatus_36 (by decide) (fun q6 => ?_) (fun q6 => ?_)
      · replace h := h.1 q6
        exact L167 c0 hc0 c1 hc1 x3 x4 x5 σ _ _ ls hH (lv_sub hl [0, 1, 3, 4, 5] rfl) h
      · replace h := h.2 q6
        refine lv_aload_n hx hb dX6_makeStatus_39 rfl (lv_at hl 0 rfl) ?_
        refine lv_iload hx hb dX6_makeStatus_40 (lv_at hl 6 rfl) ?_
        refine g_callVr (As := [.int x6]) (rest := []) ⟨hx, hb, hml, hown, hB⟩ hK hX aA_hA hH (c0 := c0) (tX6_pieceAt hc0 h) (cwV 1 hB gVX6_40 rfl rfl rfl (by decide +kernel) ⟨Nat.le_of_ble_eq_true rfl, Nat.le_of_ble_eq_true rfl⟩) hc0.1 rfl rfl hl.1 rfl (lv_room (Nat.le_of_ble_eq_true rfl)) ⟨Nat.zero_le _, Nat.zero_le _⟩ dX6_makeStatus_42 (fun r7 σ7 H locs h hH => ?_)
        obtain ⟨h, hp7⟩ := h
        refine lv_astore (lv' := [(7, .ref (ga G r7)), (0, .ref (ga G c0)), (1, .ref (ga G c1)), (2, .int x2), (3, .int x3), (4, .int x4), (5, .int x5), (6, .int x6)]) hx hb dX6_makeStatus_45 hl (by decide) rfl (fun ls hl => ?_)
        refine lv_aload_n hx hb dX6_makeStatus_47 rfl (lv_at hl 1 rfl) ?_
        refine lv_iload hx hb dX6_makeStatus_48 (lv_at hl 7 rfl) ?_
        refine g_callVi (As := [.int x6]) (rest := []) ⟨hx, hb, hml, hown, hB⟩ hK hX aA_hA hH (c0 := c0) (tX6_isWhole (tS := tS) hgo hc0 h) (cwV 1 hB gVX6_109 rfl rfl rfl (by decide +kernel) ⟨Nat.le_of_ble_eq_true rfl, Nat.le_of_ble_eq_true rfl⟩) hc0.1 rfl rfl hl.1 rfl (lv_room (Nat.le_of_ble_eq_true rfl)) ⟨Nat.zero_le _, Nat.zero_le _⟩ dX6_makeStatus_50 (fun r8 σ8 H locs h hH => ?_)
        refine lv_if_eq (tgt := 59) hx hb dX6_makeStatus_53 (by decide) (fun q9 => ?_) (fun q9 => ?_)
        · replace h := h.1 q9
          refine lv_aload hx hb dX6_makeStatus_59 (lv_at hl 0 rfl) ?_
          refine g_getiN hx hb hB inB5 hown hK hH (c0 := r7) hp7.1 rfl 2 (by decide) k63 rfl rfl dX6_makeStatus_61 ?_
          refine lv_if_ne (tgt := 71) hx hb dX6_makeStatus_64 (by decide) (fun q10 => ?_) (fun q10 => ?_)
          · replace h := h.1 q10
            refine lv_aload hx hb dX6_makeStatus_71 (lv_at hl 0 rfl) ?_
            refine g_callVi (As := []) (rest := []) ⟨hx, hb, hml, hown, hB⟩ hK hX aA_hA hH (c0 := r7) (tX5_missingRuns hp7 h) (cwV 0 hB gVX6_116 rfl rfl rfl (by decide +kernel) ⟨Nat.le_of_ble_eq_true rfl, Nat.le_of_ble_eq_true rfl⟩) hp7.1 rfl rfl hl.1 rfl (lv_room (Nat.le_of_ble_eq_true rfl)) ⟨Nat.zero_le _, Nat.zero_le _⟩ dX6_makeStatus_73 (fun r11 σ11 H locs h hH => ?_)
            exact L76 c0 hc0 c1 hc1 x2 x3 x4 x5 x6 r7 hp7 r11 σ11 _ _ ls hH (lv_sub hl [1, 2, 3, 4, 5, 6, 7, 0] rfl) h
          · replace h := h.2 q10
            refine lv_iconst (v := 1) hx hb dX6_makeStatus_67 (by decide) ?_
            refine lv_goto (tgt := 76) hx hb dX6_makeStatus_68 (by decide) ?_
            exact L76 c0 hc0 c1 hc1 x2 x3 x4 x5 x6 r7 hp7 1 σ8 _ _ ls hH (lv_sub hl [1, 2, 3, 4, 5, 6, 7, 0] rfl) h
        · replace h := h.2 q9
          refine lv_goto (tgt := 161) hx hb dX6_makeStatus_56 (by decide) ?_
          exact L161 c0 hc0 c1 hc1 x2 x3 x4 x5 x6 σ8 _ _ ls hH (lv_sub hl [1, 2, 3, 4, 5, 6, 7] rfl) h
  unfold wpX6_makeStatus at h
  refine lv_aload_n hx hb dX6_makeStatus_0 rfl (lv_at hl 1 rfl) ?_
  refine g_getiN hx hb hB inB0 hown hK hH (c0 := c1) hc1.1 rfl 1 (by decide) k108 rfl rfl dX6_makeStatus_1 ?_
  refine lv_topi (fun x3_1 ex3_1 => ?_)
  replace h := h x3_1 ex3_1
  refine lv_istore_n (lv' := [(3, .int x3_1), (0, .ref (ga G c0)), (1, .ref (ga G c1)), (2, .int x2)]) hx hb dX6_makeStatus_4 rfl hl (by decide) rfl (fun ls hl => ?_)
  refine lv_aload_n hx hb dX6_makeStatus_5 rfl (lv_at hl 2 rfl) ?_
  refine lv_iconst (v := 0) hx hb dX6_makeStatus_6 (by decide) ?_
  refine g_callVv (As := [.int 0]) (rest := []) ⟨hx, hb, hml, hown, hB⟩ hK hX aA_hA hH (c0 := c1) (tX0_put hc1 h) (cwV 1 hB gVX6_113 rfl rfl rfl (by decide +kernel) ⟨Nat.le_of_ble_eq_true rfl, Nat.le_of_ble_eq_true rfl⟩) hc1.1 rfl rfl hl.1 rfl (lv_room (Nat.le_of_ble_eq_true rfl)) ⟨Nat.zero_le _, Nat.zero_le _⟩ dX6_makeStatus_7 (fun σ2 H locs h hH => ?_)
  refine lv_aload_n hx hb dX6_makeStatus_10 rfl (lv_at hl 2 rfl) ?_
  refine lv_iconst (v := 0) hx hb dX6_makeStatus_11 (by decide) ?_
  refine g_callVv (As := [.int 0]) (rest := []) ⟨hx, hb, hml, hown, hB⟩ hK hX aA_hA hH (c0 := c1) (tX0_put hc1 h) (cwV 1 hB gVX6_113 rfl rfl rfl (by decide +kernel) ⟨Nat.le_of_ble_eq_true rfl, Nat.le_of_ble_eq_true rfl⟩) hc1.1 rfl rfl hl.1 rfl (lv_room (Nat.le_of_ble_eq_true rfl)) ⟨Nat.zero_le _, Nat.zero_le _⟩ dX6_makeStatus_12 (fun σ3 H locs h hH => ?_)
  refine lv_iconst (v := 0) hx hb dX6_makeStatus_15 (by decide) ?_
  refine lv_istore (lv' := [(4, .int 0), (3, .int x3_1), (0, .ref (ga G c0)), (1, .ref (ga G c1)), (2, .int x2)]) hx hb dX6_makeStatus_16 hl (by decide) rfl (fun ls hl => ?_)
  refine lv_aload_n hx hb dX6_makeStatus_18 rfl (lv_at hl 2 rfl) ?_
  refine g_geti hx hb hB inB6 hown hK hH (c0 := c0) hc0.1 rfl 4 (by decide) k47 rfl rfl dX6_makeStatus_19 ?_
  refine lv_topi (fun x5_4 ex5_4 => ?_)
  replace h := h x5_4 ex5_4
  refine lv_istore (lv' := [(5, .int x5_4), (4, .int 0), (3, .int x3_1), (0, .ref (ga G c0)), (1, .ref (ga G c1)), (2, .int x2)]) hx hb dX6_makeStatus_22 hl (by decide) rfl (fun ls hl => ?_)
  refine lv_aload_n hx hb dX6_makeStatus_24 rfl (lv_at hl 3 rfl) ?_
  refine g_geti hx hb hB inB6 hown hK hH (c0 := c0) hc0.1 rfl 2 (by decide) k34 rfl rfl dX6_makeStatus_25 ?_
  refine lv_topi (fun x6_5 ex6_5 => ?_)
  replace h := h x6_5 ex6_5
  refine lv_istore (lv' := [(6, .int x6_5), (5, .int x5_4), (4, .int 0), (3, .int x3_1), (0, .ref (ga G c0)), (1, .ref (ga G c1)), (2, .int x2)]) hx hb dX6_makeStatus_28 hl (by decide) rfl (fun ls hl => ?_)
  obtain ⟨nn, h⟩ := h
  exact L30 nn c0 hc0 c1 hc1 x2 x3_1 0 x5_4 x6_5 σ3 _ _ ls hH (lv_sub hl [4, 5, 6, 3, 2, 1, 0] rfl) h
