def wpX7_takeEntries_L132 (Q : Sg → Prop) (K7 : Nat → Nat → Int32 → Int32 → Int32 → Sg → Prop) (c0 : Nat) (c1 : Nat) (x2 : Int32) (x4 : Int32) (z0 : Int32) (z1 : Int32) (σ : Sg) : Prop := ∀ x3_16 : Int32, x3_16 = z1 + z0 → ∀ x4_17 : Int32, x4_17 = x4 + 1 → K7 c0 c1 x2 x3_16 x4_17 σ
def wpX7_takeEntries_L121 (Q : Sg → Prop) (K7 : Nat → Nat → Int32 → Int32 → Int32 → Sg → Prop) (c0 : Nat) (c1 : Nat) (x2 : Int32) (x3 : Int32) (x4 : Int32) (x6 : Int32) (σ : Sg) : Prop := ((x6 = 0 → wpX7_takeEntries_L132 Q K7 c0 c1 x2 x4 3 x3 σ) ∧ (¬ (x6 = 0) → wpX7_takeEntries_L132 Q K7 c0 c1 x2 x4 1 x3 σ))
def wpX7_takeEntries_L103 (Q : Sg → Prop) (K7 : Nat → Nat → Int32 → Int32 → Int32 → Sg → Prop) (c0 : Nat) (c1 : Nat) (x2 : Int32) (x3 : Int32) (x4 : Int32) (x5 : Int32) (x6 : Int32) (x7 : Int32) (z0 : Int32) (σ : Sg) : Prop := wpX7_pieceAt c0 x5 σ (fun r18 σ18 => wpX7_bringAgain c0 r18 x7 (z0 + 1) σ18 (fun σ19 => wpX7_takeEntries_L121 Q K7 c0 c1 x2 x3 x4 x6 σ19))
def wpX7_takeEntries_L83 (Q : Sg → Prop) (K7 : Nat → Nat → Int32 → Int32 → Int32 → Sg → Prop) (c0 : Nat) (c1 : Nat) (x2 : Int32) (x3 : Int32) (x4 : Int32) (x5 : Int32) (x6 : Int32) (z0 : Int32) (σ : Sg) : Prop := ((x6 = 0 → wpX0_at c1 (x3 + 2) σ (fun r15 σ15 => wpX7_takeEntries_L103 Q K7 c0 c1 x2 x3 x4 x5 x6 z0 r15 σ15)) ∧ (¬ (x6 = 0) → wpX7_takeEntries_L103 Q K7 c0 c1 x2 x3 x4 x5 x6 z0 240 σ))
def wpX7_takeEntries_L44 (Q : Sg → Prop) (K7 : Nat → Nat → Int32 → Int32 → Int32 → Sg → Prop) (c0 : Nat) (c1 : Nat) (x2 : Int32) (x3 : Int32) (x4 : Int32) (x5 : Int32) (z0 : Int32) (σ : Sg) : Prop := (((σ c0 5) ≤ x5 → wpX7_takeEntries_L121 Q K7 c0 c1 x2 x3 x4 z0 σ) ∧ (¬ ((σ c0 5) ≤ x5) → wpX7_pieceAt c0 x5 σ (fun r9 σ9 => ((¬ (σ9 r9 4) = 0 → wpX7_takeEntries_L121 Q K7 c0 c1 x2 x3 x4 z0 σ9) ∧ ((σ9 r9 4) = 0 → ((z0 = 0 → wpX0_at c1 (x3 + 1) σ9 (fun r12 σ12 => wpX7_takeEntries_L83 Q K7 c0 c1 x2 x3 x4 x5 z0 r12 σ12)) ∧ (¬ (z0 = 0) → wpX7_takeEntries_L83 Q K7 c0 c1 x2 x3 x4 x5 z0 0 σ9)))))))
def wpX7_takeEntries_L7 (Q : Sg → Prop) : Nat → Nat → Nat → Int32 → Int32 → Int32 → Sg → Prop
  | 0, _, _, _, _, _, _ => False
  | n + 1, c0, c1, x2, x3, x4, σ => wpX0_at c1 x2 σ (fun r2 σ2 => ((r2 ≤ x4 → Q σ2) ∧ (¬ (r2 ≤ x4) → wpX0_at c1 x3 σ2 (fun r4 σ4 => wpX7_meant c0 r4 σ4 (fun r5 σ5 => wpX0_at c1 x3 σ5 (fun r6 σ6 => ((128 ≤ r6 → wpX7_takeEntries_L44 Q (wpX7_takeEntries_L7 Q n) c0 c1 x2 x3 x4 r5 0 σ6) ∧ (¬ (128 ≤ r6) → wpX7_takeEntries_L44 Q (wpX7_takeEntries_L7 Q n) c0 c1 x2 x3 x4 r5 1 σ6))))))))
def wpX7_takeEntries (c0 : Nat) (c1 : Nat) (x2 : Int32) (σ : Sg) (Q : Sg → Prop) : Prop := ∀ x3_1 : Int32, x3_1 = x2 + 2 → ∃ nn, wpX7_takeEntries_L7 Q nn c0 c1 x2 x3_1 0 σ
set_option maxHeartbeats 8000000 in
set_option maxRecDepth 100000 in
theorem tX7_takeEntries {l : Launch} {G : GG} {tS : Nat × (Nat → Int32)} (hgo : go G = some tS) {c0 : Nat} {c1 : Nat} {x2 : Int32} {σ : Sg} {Q : Sg → Prop} (hc0 : isSender G c0) (hc1 : isAir G c1) (h : wpX7_takeEntries c0 c1 x2 σ Q) : Kv l G yX7_takeEntries (wB yX7_takeEntries prog_9_method_13_code 9 none) ({ frames := 2, cells := 0, slots := 0, locals := 46 }) [.ref (ga G c0), .ref (ga G c1), .int x2] σ Q := by
  refine K_of (cc := cX7_takeEntries) (maxL := 9) (ret := none) (by decide) rfl (Nat.le_of_ble_eq_true rfl) ?_
  intro p e s m args below meth c ls B hH hl
  obtain ⟨hx, hb, hr, hts, hown, hlk, hml, hK, hX⟩ := B
  replace hl : lv_has ls 9 [(0, .ref (ga G c0)), (1, .ref (ga G c1)), (2, .int x2)] := hl
  have hXN : NWs s := XS.nw hX hgo
  have hB : ∀ w ∈ BIG, w.before args s = true := fun w h9 => hts w (List.mem_cons_of_mem _ h9)
  clear hts
  have k37 := hB _ bw1_154
  have k156 : (Cond.fieldLinkNest RX7 156 "BearerHouse$Piece" "isConfirmed" "Z" "BearerHouse").before args s = true := va_Nw.use rfl (hXN.1 ("BearerHouse$Sender", 156, "BearerHouse$Piece", "isConfirmed", "Z", "BearerHouse") (List.mem_of_getElem? (i := 48) rfl))
  have L7 : ∀ (n7 : Nat) (c0 : Nat) (hc0 : isSender G c0) (c1 : Nat) (hc1 : isAir G c1) (x2 : Int32) (x3 : Int32) (x4 : Int32) (σ : Sg) (H : Heap) (locs : List Loc) (ls : Array Slot), Hx G (aA G s.heap.size) s σ H locs → lv_has ls 9 [(0, .ref (ga G c0)), (1, .ref (ga G c1)), (2, .int x2), (3, .int x3), (4, .int x4)] → wpX7_takeEntries_L7 Q n7 c0 c1 x2 x3 x4 σ → W p l e ({ frames := 2, cells := 0, slots := 0, locals := 46 }) s m args below meth c H locs 0 0 (Zv G Q below args s) (F0 m 7 ls []) := by
    intro n7
    induction n7 with
    | zero =>
      intro c0 hc0 c1 hc1 x2 x3 x4 σ H locs ls hH hl h
      exact False.elim h
    | succ n7 ih7 =>
      have L132 : ∀ (c0 : Nat) (hc0 : isSender G c0) (c1 : Nat) (hc1 : isAir G c1) (x2 : Int32) (x4 : Int32) (z0 : Int32) (z1 : Int32) (σ : Sg) (H : Heap) (locs : List Loc) (ls : Array Slot), Hx G (aA G s.heap.size) s σ H locs → lv_has ls 9 [(0, .ref (ga G c0)), (1, .ref (ga G c1)), (2, .int x2), (4, .int x4)] → wpX7_takeEntries_L132 Q (wpX7_takeEntries_L7 Q n7) c0 c1 x2 x4 z0 z1 σ → W p l e ({ frames := 2, cells := 0, slots := 0, locals := 46 }) s m args below meth c H locs 0 0 (Zv G Q below args s) (F0 m 132 ls [.int z0, .int z1]) := by
        intro c0 hc0 c1 hc1 x2 x4 z0 z1 σ H locs ls hH hl h
        unfold wpX7_takeEntries_L132 at h
        refine lv_iadd hx hb dX7_takeEntries_132 ?_
        refine lv_topi (fun x3_16 ex3_16 => ?_)
        replace h := h x3_16 ex3_16
        refine lv_istore_n (lv' := [(3, .int x3_16), (0, .ref (ga G c0)), (1, .ref (ga G c1)), (2, .int x2), (4, .int x4)]) hx hb dX7_takeEntries_133 rfl hl (by decide) rfl (fun ls hl => ?_)
        obtain ⟨x4_17, ex4_17⟩ : ∃ y : Int32, y = x4 + 1 := ⟨_, rfl⟩
        replace h := h x4_17 ex4_17
        refine lv_iinc (v := x4_17) (lv' := [(4, .int x4_17), (3, .int x3_16), (0, .ref (ga G c0)), (1, .ref (ga G c1)), (2, .int x2)]) hx hb dX7_takeEntries_134 hl (k := 4) rfl (by rw [ex4_17]; rfl) (by decide) rfl (fun ls hl => ?_)
        refine lv_goto (tgt := 7) hx hb dX7_takeEntries_137 (by decide) ?_
        exact ih7 c0 hc0 c1 hc1 x2 x3_16 x4_17 σ _ _ ls hH (lv_sub hl [2, 3, 4, 1, 0] rfl) h
      have L121 : ∀ (c0 : Nat) (hc0 : isSender G c0) (c1 : Nat) (hc1 : isAir G c1) (x2 : Int32) (x3 : Int32) (x4 : Int32) (x6 : Int32) (σ : Sg) (H : Heap) (locs : List Loc) (ls : Array Slot), Hx G (aA G s.heap.size) s σ H locs → lv_has ls 9 [(0, .ref (ga G c0)), (1, .ref (ga G c1)), (2, .int x2), (3, .int x3), (4, .int x4), (6, .int x6)] → wpX7_takeEntries_L121 Q (wpX7_takeEntries_L7 Q n7) c0 c1 x2 x3 x4 x6 σ → W p l e ({ frames := 2, cells := 0, slots := 0, locals := 46 }) s m args below meth c H locs 0 0 (Zv G Q below args s) (F0 m 121 ls []) := by
        intro c0 hc0 c1 hc1 x2 x3 x4 x6 σ H locs ls hH hl h
        unfold wpX7_takeEntries_L121 at h
        refine lv_iload_n hx hb dX7_takeEntries_121 rfl (lv_at hl 3 rfl) ?_
        refine lv_iload hx hb dX7_takeEntries_122 (lv_at hl 5 rfl) ?_
        refine lv_if_eq (tgt := 131) hx hb dX7_takeEntries_124 (by decide) (fun q13 => ?_) (fun q13 => ?_)
        · replace h := h.1 q13
          refine lv_iconst (v := 3) hx hb dX7_takeEntries_131 (by decide) ?_
          exact L132 c0 hc0 c1 hc1 x2 x4 3 x3 σ _ _ ls hH (lv_sub hl [0, 1, 2, 4] rfl) h
        · replace h := h.2 q13
          refine lv_iconst (v := 1) hx hb dX7_takeEntries_127 (by decide) ?_
          refine lv_goto (tgt := 132) hx hb dX7_takeEntries_128 (by decide) ?_
          exact L132 c0 hc0 c1 hc1 x2 x4 1 x3 σ _ _ ls hH (lv_sub hl [0, 1, 2, 4] rfl) h
      have L103 : ∀ (c0 : Nat) (hc0 : isSender G c0) (c1 : Nat) (hc1 : isAir G c1) (x2 : Int32) (x3 : Int32) (x4 : Int32) (x5 : Int32) (x6 : Int32) (x7 : Int32) (z0 : Int32) (σ : Sg) (H : Heap) (locs : List Loc) (ls : Array Slot), Hx G (aA G s.heap.size) s σ H locs → lv_has ls 9 [(0, .ref (ga G c0)), (1, .ref (ga G c1)), (2, .int x2), (3, .int x3), (4, .int x4), (5, .int x5), (6, .int x6), (7, .int x7)] → wpX7_takeEntries_L103 Q (wpX7_takeEntries_L7 Q n7) c0 c1 x2 x3 x4 x5 x6 x7 z0 σ → W p l e ({ frames := 2, cells := 0, slots := 0, locals := 46 }) s m args below meth c H locs 0 0 (Zv G Q below args s) (F0 m 103 ls [.int z0]) := by
        intro c0 hc0 c1 hc1 x2 x3 x4 x5 x6 x7 z0 σ H locs ls hH hl h
        unfold wpX7_takeEntries_L103 at h
        refine lv_istore (lv' := [(8, .int z0), (0, .ref (ga G c0)), (1, .ref (ga G c1)), (2, .int x2), (3, .int x3), (4, .int x4), (5, .int x5), (6, .int x6), (7, .int x7)]) hx hb dX7_takeEntries_103 hl (by decide) rfl (fun ls hl => ?_)
        refine lv_aload_n hx hb dX7_takeEntries_105 rfl (lv_at hl 1 rfl) ?_
        refine lv_aload_n hx hb dX7_takeEntries_106 rfl (lv_at hl 1 rfl) ?_
        refine lv_iload hx hb dX7_takeEntries_107 (lv_at hl 6 rfl) ?_
        refine g_callVr (As := [.int x5]) (rest := [.ref (ga G c0)]) ⟨hx, hb, hml, hown, hB⟩ hK hX aA_hA hH (c0 := c0) (tX7_pieceAt hc0 h) (cwV 1 hB gVX7_59 rfl rfl rfl (by decide +kernel) ⟨Nat.le_of_ble_eq_true rfl, Nat.le_of_ble_eq_true rfl⟩) hc0.1 rfl rfl hl.1 rfl (lv_room (Nat.le_of_ble_eq_true rfl)) ⟨Nat.zero_le _, Nat.zero_le _⟩ dX7_takeEntries_109 (fun r18 σ18 H locs h hH => ?_)
        obtain ⟨h, hp18⟩ := h
        refine lv_iload hx hb dX7_takeEntries_112 (lv_at hl 8 rfl) ?_
        refine lv_iload hx hb dX7_takeEntries_114 (lv_at hl 0 rfl) ?_
        refine lv_iconst (v := 1) hx hb dX7_takeEntries_116 (by decide) ?_
        refine lv_iadd hx hb dX7_takeEntries_117 ?_
        refine g_callVv (As := [.ref (ga G r18), .int x7, .int (z0 + 1)]) (rest := []) ⟨hx, hb, hml, hown, hB⟩ hK hX aA_hA hH (c0 := c0) (tX7_bringAgain (tS := tS) hgo hc0 hp18 h) (cwV 3 hB gVX7_63 rfl rfl rfl (by decide +kernel) ⟨Nat.le_of_ble_eq_true rfl, Nat.le_of_ble_eq_true rfl⟩) hc0.1 rfl rfl hl.1 rfl (lv_room (Nat.le_of_ble_eq_true rfl)) ⟨Nat.zero_le _, Nat.zero_le _⟩ dX7_takeEntries_118 (fun σ19 H locs h hH => ?_)
        exact L121 c0 hc0 c1 hc1 x2 x3 x4 x6 σ19 _ _ ls hH (lv_sub hl [1, 2, 3, 4, 5, 7] rfl) h
      have L83 : ∀ (c0 : Nat) (hc0 : isSender G c0) (c1 : Nat) (hc1 : isAir G c1) (x2 : Int32) (x3 : Int32) (x4 : Int32) (x5 : Int32) (x6 : Int32) (z0 : Int32) (σ : Sg) (H : Heap) (locs : List Loc) (ls : Array Slot), Hx G (aA G s.heap.size) s σ H locs → lv_has ls 9 [(0, .ref (ga G c0)), (1, .ref (ga G c1)), (2, .int x2), (3, .int x3), (4, .int x4), (5, .int x5), (6, .int x6)] → wpX7_takeEntries_L83 Q (wpX7_takeEntries_L7 Q n7) c0 c1 x2 x3 x4 x5 x6 z0 σ → W p l e ({ frames := 2, cells := 0, slots := 0, locals := 46 }) s m args below meth c H locs 0 0 (Zv G Q below args s) (F0 m 83 ls [.int z0]) := by
        intro c0 hc0 c1 hc1 x2 x3 x4 x5 x6 z0 σ H locs ls hH hl h
        unfold wpX7_takeEntries_L83 at h
        refine lv_istore (lv' := [(7, .int z0), (0, .ref (ga G c0)), (1, .ref (ga G c1)), (2, .int x2), (3, .int x3), (4, .int x4), (5, .int x5), (6, .int x6)]) hx hb dX7_takeEntries_83 hl (by decide) rfl (fun ls hl => ?_)
        refine lv_iload hx hb dX7_takeEntries_85 (lv_at hl 7 rfl) ?_
        refine lv_if_eq (tgt := 96) hx hb dX7_takeEntries_87 (by decide) (fun q14 => ?_) (fun q14 => ?_)
        · replace h := h.1 q14
          refine lv_aload_n hx hb dX7_takeEntries_96 rfl (lv_at hl 2 rfl) ?_
          refine lv_iload_n hx hb dX7_takeEntries_97 rfl (lv_at hl 4 rfl) ?_
          refine lv_iconst (v := 2) hx hb dX7_takeEntries_98 (by decide) ?_
          refine lv_iadd hx hb dX7_takeEntries_99 ?_
          refine g_callVi (As := [.int (x3 + 2)]) (rest := []) ⟨hx, hb, hml, hown, hB⟩ hK hX aA_hA hH (c0 := c1) (tX0_at hc1 h) (cwV 1 hB gVX7_140 rfl rfl rfl (by decide +kernel) ⟨Nat.le_of_ble_eq_true rfl, Nat.le_of_ble_eq_true rfl⟩) hc1.1 rfl rfl hl.1 rfl (lv_room (Nat.le_of_ble_eq_true rfl)) ⟨Nat.zero_le _, Nat.zero_le _⟩ dX7_takeEntries_100 (fun r15 σ15 H locs h hH => ?_)
          exact L103 c0 hc0 c1 hc1 x2 x3 x4 x5 x6 z0 r15 σ15 _ _ ls hH (lv_sub hl [1, 2, 3, 4, 5, 6, 7, 0] rfl) h
        · replace h := h.2 q14
          refine lv_sipush (v := 240) hx hb dX7_takeEntries_90 (by decide) ?_
          refine lv_goto (tgt := 103) hx hb dX7_takeEntries_93 (by decide) ?_
          exact L103 c0 hc0 c1 hc1 x2 x3 x4 x5 x6 z0 240 σ _ _ ls hH (lv_sub hl [1, 2, 3, 4, 5, 6, 7, 0] rfl) h
      have L44 : ∀ (c0 : Nat) (hc0 : isSender G c0) (c1 : Nat) (hc1 : isAir G c1) (x2 : Int32) (x3 : Int32) (x4 : Int32) (x5 : Int32) (z0 : Int32) (σ : Sg) (H : Heap) (locs : List Loc) (ls : Array Slot), Hx G (aA G s.heap.size) s σ H locs → lv_has ls 9 [(0, .ref (ga G c0)), (1, .ref (ga G c1)), (2, .int x2), (3, .int x3), (4, .int x4), (5, .int x5)] → wpX7_takeEntries_L44 Q (wpX7_takeEntries_L7 Q n7) c0 c1 x2 x3 x4 x5 z0 σ → W p l e ({ frames := 2, cells := 0, slots := 0, locals := 46 }) s m args below meth c H locs 0 0 (Zv G Q below args s) (F0 m 44 ls [.int z0]) := by
        intro c0 hc0 c1 hc1 x2 x3 x4 x5 z0 σ H locs ls hH hl h
        unfold wpX7_takeEntries_L44 at h
        refine lv_istore (lv' := [(6, .int z0), (0, .ref (ga G c0)), (1, .ref (ga G c1)), (2, .int x2), (3, .int x3), (4, .int x4), (5, .int x5)]) hx hb dX7_takeEntries_44 hl (by decide) rfl (fun ls hl => ?_)
        refine lv_iload hx hb dX7_takeEntries_46 (lv_at hl 6 rfl) ?_
        refine lv_aload_n hx hb dX7_takeEntries_48 rfl (lv_at hl 1 rfl) ?_
        refine g_geti hx hb hB inB7 hown hK hH (c0 := c0) hc0.1 rfl 5 (by decide) k37 rfl rfl dX7_takeEntries_49 ?_
        refine lv_icmp_ge (tgt := 121) hx hb dX7_takeEntries_52 (by decide) (fun q8 => ?_) (fun q8 => ?_)
        · replace h := h.1 q8
          exact L121 c0 hc0 c1 hc1 x2 x3 x4 z0 σ _ _ ls hH (lv_sub hl [1, 2, 3, 4, 5, 0] rfl) h
        · replace h := h.2 q8
          refine lv_aload_n hx hb dX7_takeEntries_55 rfl (lv_at hl 1 rfl) ?_
          refine lv_iload hx hb dX7_takeEntries_56 (lv_at hl 6 rfl) ?_
          refine g_callVr (As := [.int x5]) (rest := []) ⟨hx, hb, hml, hown, hB⟩ hK hX aA_hA hH (c0 := c0) (tX7_pieceAt hc0 h) (cwV 1 hB gVX7_59 rfl rfl rfl (by decide +kernel) ⟨Nat.le_of_ble_eq_true rfl, Nat.le_of_ble_eq_true rfl⟩) hc0.1 rfl rfl hl.1 rfl (lv_room (Nat.le_of_ble_eq_true rfl)) ⟨Nat.zero_le _, Nat.zero_le _⟩ dX7_takeEntries_58 (fun r9 σ9 H locs h hH => ?_)
          obtain ⟨h, hp9⟩ := h
          refine g_getiN hx hb hB inB5 hown hK hH (c0 := r9) hp9.1 rfl 4 (by decide) k156 rfl rfl dX7_takeEntries_61 ?_
          refine lv_if_ne (tgt := 121) hx hb dX7_takeEntries_64 (by decide) (fun q10 => ?_) (fun q10 => ?_)
          · replace h := h.1 q10
            exact L121 c0 hc0 c1 hc1 x2 x3 x4 z0 σ9 _ _ ls hH (lv_sub hl [1, 2, 3, 4, 5, 0] rfl) h
          · replace h := h.2 q10
            refine lv_iload hx hb dX7_takeEntries_67 (lv_at hl 0 rfl) ?_
            refine lv_if_eq (tgt := 76) hx hb dX7_takeEntries_69 (by decide) (fun q11 => ?_) (fun q11 => ?_)
            · replace h := h.1 q11
              refine lv_aload_n hx hb dX7_takeEntries_76 rfl (lv_at hl 2 rfl) ?_
              refine lv_iload_n hx hb dX7_takeEntries_77 rfl (lv_at hl 4 rfl) ?_
              refine lv_iconst (v := 1) hx hb dX7_takeEntries_78 (by decide) ?_
              refine lv_iadd hx hb dX7_takeEntries_79 ?_
              refine g_callVi (As := [.int (x3 + 1)]) (rest := []) ⟨hx, hb, hml, hown, hB⟩ hK hX aA_hA hH (c0 := c1) (tX0_at hc1 h) (cwV 1 hB gVX7_140 rfl rfl rfl (by decide +kernel) ⟨Nat.le_of_ble_eq_true rfl, Nat.le_of_ble_eq_true rfl⟩) hc1.1 rfl rfl hl.1 rfl (lv_room (Nat.le_of_ble_eq_true rfl)) ⟨Nat.zero_le _, Nat.zero_le _⟩ dX7_takeEntries_80 (fun r12 σ12 H locs h hH => ?_)
              exact L83 c0 hc0 c1 hc1 x2 x3 x4 x5 z0 r12 σ12 _ _ ls hH (lv_sub hl [1, 2, 3, 4, 5, 6, 0] rfl) h
            · replace h := h.2 q11
              refine lv_iconst (v := 0) hx hb dX7_takeEntries_72 (by decide) ?_
              refine lv_goto (tgt := 83) hx hb dX7_takeEntries_73 (by decide) ?_
              exact L83 c0 hc0 c1 hc1 x2 x3 x4 x5 z0 0 σ9 _ _ ls hH (lv_sub hl [1, 2, 3, 4, 5, 6, 0] rfl) h
      intro c0 hc0 c1 hc1 x2 x3 x4 σ H locs ls hH hl h
      unfold wpX7_takeEntries_L7 at h
      refine lv_iload hx hb dX7_takeEntries_7 (lv_at hl 4 rfl) ?_
      refine lv_aload_n hx hb dX7_takeEntries_9 rfl (lv_at hl 1 rfl) ?_
      refine lv_iload_n hx hb dX7_takeEntries_10 rfl (lv_at hl 2 rfl) ?_
      refine g_callVi (As := [.int x2]) (rest := [.int x4]) ⟨hx, hb, hml, hown, hB⟩ hK hX aA_hA hH (c0 := c1) (tX0_at hc1 h) (cwV 1 hB gVX7_140 rfl rfl rfl (by decide +kernel) ⟨Nat.le_of_ble_eq_true rfl, Nat.le_of_ble_eq_true rfl⟩) hc1.1 rfl rfl hl.1 rfl (lv_room (Nat.le_of_ble_eq_true rfl)) ⟨Nat.zero_le _, Nat.zero_le _⟩ dX7_takeEntries_11 (fun r2 σ2 H locs h hH => ?_)
      refine lv_icmp_ge (tgt := 140) hx hb dX7_takeEntries_14 (by decide) (fun q3 => ?_) (fun q3 => ?_)
      · replace h := h.1 q3
        exact g_vret hx hb hr hK hlk h hH dX7_takeEntries_140
      · replace h := h.2 q3
        refine lv_aload_n hx hb dX7_takeEntries_17 rfl (lv_at hl 0 rfl) ?_
        refine lv_aload_n hx hb dX7_takeEntries_18 rfl (lv_at hl 1 rfl) ?_
        refine lv_iload_n hx hb dX7_takeEntries_19 rfl (lv_at hl 3 rfl) ?_
        refine g_callVi (As := [.int x3]) (rest := [.ref (ga G c0)]) ⟨hx, hb, hml, hown, hB⟩ hK hX aA_hA hH (c0 := c1) (tX0_at hc1 h) (cwV 1 hB gVX7_140 rfl rfl rfl (by decide +kernel) ⟨Nat.le_of_ble_eq_true rfl, Nat.le_of_ble_eq_true rfl⟩) hc1.1 rfl rfl hl.1 rfl (lv_room (Nat.le_of_ble_eq_true rfl)) ⟨Nat.zero_le _, Nat.zero_le _⟩ dX7_takeEntries_20 (fun r4 σ4 H locs h hH => ?_)
        refine g_callVi (As := [.int r4]) (rest := []) ⟨hx, hb, hml, hown, hB⟩ hK hX aA_hA hH (c0 := c0) (tX7_meant hc0 h) (cwV 1 hB gVX7_146 rfl rfl rfl (by decide +kernel) ⟨Nat.le_of_ble_eq_true rfl, Nat.le_of_ble_eq_true rfl⟩) hc0.1 rfl rfl hl.1 rfl (lv_room (Nat.le_of_ble_eq_true rfl)) ⟨Nat.zero_le _, Nat.zero_le _⟩ dX7_takeEntries_23 (fun r5 σ5 H locs h hH => ?_)
        refine lv_istore (lv' := [(5, .int r5), (0, .ref (ga G c0)), (1, .ref (ga G c1)), (2, .int x2), (3, .int x3), (4, .int x4)]) hx hb dX7_takeEntries_26 hl (by decide) rfl (fun ls hl => ?_)
        refine lv_aload_n hx hb dX7_takeEntries_28 rfl (lv_at hl 2 rfl) ?_
        refine lv_iload_n hx hb dX7_takeEntries_29 rfl (lv_at hl 4 rfl) ?_
        refine g_callVi (As := [.int x3]) (rest := []) ⟨hx, hb, hml, hown, hB⟩ hK hX aA_hA hH (c0 := c1) (tX0_at hc1 h) (cwV 1 hB gVX7_140 rfl rfl rfl (by decide +kernel) ⟨Nat.le_of_ble_eq_true rfl, Nat.le_of_ble_eq_true rfl⟩) hc1.1 rfl rfl hl.1 rfl (lv_room (Nat.le_of_ble_eq_true rfl)) ⟨Nat.zero_le _, Nat.zero_le _⟩ dX7_takeEntries_30 (fun r6 σ6 H locs h hH => ?_)
        refine lv_sipush (v := 128) hx hb dX7_takeEntries_33 (by decide) ?_
        refine lv_icmp_ge (tgt := 43) hx hb dX7_takeEntries_36 (by decide) (fun q7 => ?_) (fun q7 => ?_)
        · replace h := h.1 q7
          refine lv_iconst (v := 0) hx hb dX7_takeEntries_43 (by decide) ?_
          exact L44 c0 hc0 c1 hc1 x2 x3 x4 r5 0 σ6 _ _ ls hH (lv_sub hl [1, 2, 3, 4, 5, 0] rfl) h
        · replace h := h.2 q7
          refine lv_iconst (v := 1) hx hb dX7_takeEntries_39 (by decide) ?_
          refine lv_goto (tgt := 44) hx hb dX7_takeEntries_40 (by decide) ?_
          exact L44 c0 hc0 c1 hc1 x2 x3 x4 r5 1 σ6 _ _ ls hH (lv_sub hl [1, 2, 3, 4, 5, 0] rfl) h
  unfold wpX7_takeEntries at h
  refine lv_iload_n hx hb dX7_takeEntries_0 rfl (lv_at hl 2 rfl) ?_
  refine lv_iconst (v := 2) hx hb dX7_takeEntries_1 (by decide) ?_
  refine lv_iadd hx hb dX7_takeEntries_2 ?_
  refine lv_topi (fun x3_1 ex3_1 => ?_)
  replace h := h x3_1 ex3_1
  refine lv_istore_n (lv' := [(3, .int x3_1), (0, .ref (ga G c0)), (1, .ref (ga G c1)), (2, .int x2)]) hx hb dX7_takeEntries_3 rfl hl (by decide) rfl (fun ls hl => ?_)
  refine lv_iconst (v := 0) hx hb dX7_takeEntries_4 (by decide) ?_
  refine lv_istore (lv' := [(4, .int 0), (3, .int x3_1), (0, .ref (ga G c0)), (1, .ref (ga G c1)), (2, .int x2)]) hx hb dX7_takeEntries_5 hl (by decide) rfl (fun ls hl => ?_)
  obtain ⟨nn, h⟩ := h
  exact L7 nn c0 hc0 c1 hc1 x2 x3_1 0 σ _ _ ls hH (lv_sub hl [2, 3, 4, 1, 0] rfl) h
def wpX7_takeStatus_L142 (Q : Sg → Prop) (c0 : Nat) (x3 : Int32) (σ : Sg) : Prop := ((x3 ≤ (σ c0 9) → Q σ) ∧ (¬ (x3 ≤ (σ c0 9)) → ∀ σ21 : Sg, σ21 = up2 σ c0 10 0 → Q σ21))
def wpX7_takeStatus_L94 (Q : Sg → Prop) : Nat → Nat → Int32 → Int32 → Sg → Prop
  | 0, _, _, _, _ => False
  | n + 1, c0, x3, x4, σ => ((16 ≤ x4 → wpX7_takeStatus_L142 Q c0 x3 σ) ∧ (¬ (16 ≤ x4) → (((σ c0 5) ≤ (σ c0 4) → wpX7_takeStatus_L142 Q c0 x3 σ) ∧ (¬ ((σ c0 5) ≤ (σ c0 4)) → wpX7_pieceAt c0 (σ c0 4) σ (fun r15 σ15 => (((σ15 r15 4) = 0 → wpX7_takeStatus_L142 Q c0 x3 σ15) ∧ (¬ ((σ15 r15 4) = 0) → ∀ σ17 : Sg, σ17 = up2 σ15 c0 4 ((σ15 c0 4) + 1) → ∀ x4_18 : Int32, x4_18 = x4 + 1 → (wpX7_takeStatus_L94 Q n) c0 x3 x4_18 σ17)))))))
def wpX7_takeStatus_L79 (Q : Sg → Prop) (K43 : Nat → Nat → Int32 → Int32 → Int32 → Sg → Prop) (c0 : Nat) (c1 : Nat) (x2 : Int32) (x3 : Int32) (x4 : Int32) (σ : Sg) : Prop := ∀ x4_19 : Int32, x4_19 = x4 + 1 → K43 c0 c1 x2 x3 x4_19 σ
def wpX7_takeStatus_L43 (Q : Sg → Prop) : Nat → Nat → Nat → Int32 → Int32 → Int32 → Sg → Prop
  | 0, _, _, _, _, _, _ => False
  | n + 1, c0, c1, x2, x3, x4, σ => ((x3 ≤ x4 → wpX7_takeEntries c0 c1 x2 σ (fun σ8 => ∃ nn, wpX7_takeStatus_L94 Q nn c0 x3 0 σ8)) ∧ (¬ (x3 ≤ x4) → wpX7_pieceAt c0 x4 σ (fun r9 σ9 => ((¬ (σ9 r9 5) = 0 → wpX7_takeStatus_L79 Q (wpX7_takeStatus_L43 Q n) c0 c1 x2 x3 x4 σ9) ∧ ((σ9 r9 5) = 0 → ((¬ (σ9 r9 4) = 0 → wpX7_takeStatus_L79 Q (wpX7_takeStatus_L43 Q n) c0 c1 x2 x3 x4 σ9) ∧ ((σ9 r9 4) = 0 → wpX7_confirm c0 r9 σ9 (fun σ12 => wpX7_takeStatus_L79 Q (wpX7_takeStatus_L43 Q n) c0 c1 x2 x3 x4 σ12))))))))
def wpX7_takeStatus (c0 : Nat) (c1 : Nat) (x2 : Int32) (σ : Sg) (Q : Sg → Prop) : Prop := ∀ σ1 : Sg, σ1 = up2 σ c0 14 ((σ c0 14) + 1) → wpX0_at c1 (x2 + 1) σ1 (fun r2 σ2 => wpX7_meant c0 r2 σ2 (fun r3 σ3 => ((r3 ≤ (σ3 c0 5) → wpX7_nameEntries c0 c1 x2 σ3 (fun σ5 => ∀ x4_6 : Int32, x4_6 = σ5 c0 4 → ∃ nn, wpX7_takeStatus_L43 Q nn c0 c1 x2 r3 x4_6 σ5)) ∧ (¬ (r3 ≤ (σ3 c0 5)) → Q σ3))))
set_option maxHeartbeats 8000000 in
set_option maxRecDepth 100000 in
theorem tX7_takeStatus {l : Launch} {G : GG} {tS : Nat × (Nat → Int32)} (hgo : go G = some tS) {c0 : Nat} {c1 : Nat} {x2 : Int32} {σ : Sg} {Q : Sg → Prop} (hc0 : isSender G c0) (hc1 : isAir G c1) (h : wpX7_takeStatus c0 c1 x2 σ Q) : Kv l G yX7_takeStatus (wB yX7_takeStatus prog_9_method_11_code 6 none) ({ frames := 3, cells := 0, slots := 0, locals := 74 }) [.ref (ga G c0), .ref (ga G c1), .int x2] σ Q := by
  refine K_of (cc := cX7_takeStatus) (maxL := 6) (ret := none) (by decide) rfl (Nat.le_of_ble_eq_true rfl) ?_
  intro p e s m args below meth c ls B hH hl
  obtain ⟨hx, hb, hr, hts, hown, hlk, hml, hK, hX⟩ := B
  replace hl : lv_has ls 6 [(0, .ref (ga G c0)), (1, .ref (ga G c1)), (2, .int x2)] := hl
  have hXN : NWs s := XS.nw hX hgo
  have hB : ∀ w ∈ BIG, w.before args s = true := fun w h9 => hts w (List.mem_cons_of_mem _ h9)
  clear hts
  have k21 := hB _ bw1_161
  have k34 := hB _ bw1_152
  have k37 := hB _ bw1_154
  have k50 := hB _ bw1_162
  have k137 := hB _ bw1_170
  have k153 : (Cond.fieldLinkNest RX7 153 "BearerHouse$Piece" "isNamed" "Z" "BearerHouse").before args s = true := va_Nw.use rfl (hXN.1 ("BearerHouse$Sender", 153, "BearerHouse$Piece", "isNamed", "Z", "BearerHouse") (List.mem_of_getElem? (i := 47) rfl))
  have k156 : (Cond.fieldLinkNest RX7 156 "BearerHouse$Piece" "isConfirmed" "Z" "BearerHouse").before args s = true := va_Nw.use rfl (hXN.1 ("BearerHouse$Sender", 156, "BearerHouse$Piece", "isConfirmed", "Z", "BearerHouse") (List.mem_of_getElem? (i := 48) rfl))
  have L142 : ∀ (c0 : Nat) (hc0 : isSender G c0) (x3 : Int32) (σ : Sg) (H : Heap) (locs : List Loc) (ls : Array Slot), Hx G (aA G s.heap.size) s σ H locs → lv_has ls 6 [(0, .ref (ga G c0)), (3, .int x3)] → wpX7_takeStatus_L142 Q c0 x3 σ → W p l e ({ frames := 3, cells := 0, slots := 0, locals := 74 }) s m args below meth c H locs 0 0 (Zv G Q below args s) (F0 m 142 ls []) := by
    intro c0 hc0 x3 σ H locs ls hH hl h
    unfold wpX7_takeStatus_L142 at h
    refine lv_aload_n hx hb dX7_takeStatus_142 rfl (lv_at hl 0 rfl) ?_
    refine g_geti hx hb hB inB7 hown hK hH (c0 := c0) hc0.1 rfl 9 (by decide) k21 rfl rfl dX7_takeStatus_143 ?_
    refine lv_iload_n hx hb dX7_takeStatus_146 rfl (lv_at hl 1 rfl) ?_
    refine lv_icmp_ge (tgt := 155) hx hb dX7_takeStatus_147 (by decide) (fun q20 => ?_) (fun q20 => ?_)
    · replace h := h.1 q20
      exact g_vret hx hb hr hK hlk h hH dX7_takeStatus_155
    · replace h := h.2 q20
      refine lv_aload_n hx hb dX7_takeStatus_150 rfl (lv_at hl 0 rfl) ?_
      refine lv_iconst (v := 0) hx hb dX7_takeStatus_151 (by decide) ?_
      refine g_put hx hb hB inB7 tyX7 tyX7_ok nmX7 hown hK hH (c0 := c0) hc0.1 rfl 10 (by decide) k50 rfl rfl rfl rfl rfl dX7_takeStatus_152 (fun σ21 eσ21 H locs hH => ?_)
      replace h := h σ21 eσ21
      exact g_vret hx hb hr hK hlk h hH dX7_takeStatus_155
  have L94 : ∀ (n94 : Nat) (c0 : Nat) (hc0 : isSender G c0) (x3 : Int32) (x4 : Int32) (σ : Sg) (H : Heap) (locs : List Loc) (ls : Array Slot), Hx G (aA G s.heap.size) s σ H locs → lv_has ls 6 [(0, .ref (ga G c0)), (3, .int x3), (4, .int x4)] → wpX7_takeStatus_L94 Q n94 c0 x3 x4 σ → W p l e ({ frames := 3, cells := 0, slots := 0, locals := 74 }) s m args below meth c H locs 0 0 (Zv G Q below args s) (F0 m 94 ls []) := by
    intro n94
    induction n94 with
    | zero =>
      intro c0 hc0 x3 x4 σ H locs ls hH hl h
      exact False.elim h
    | succ n94 ih94 =>
      intro c0 hc0 x3 x4 σ H locs ls hH hl h
      unfold wpX7_takeStatus_L94 at h
      refine lv_iload hx hb dX7_takeStatus_94 (lv_at hl 2 rfl) ?_
      refine lv_bipush (v := 16) hx hb dX7_takeStatus_96 (by decide) ?_
      refine lv_icmp_ge (tgt := 142) hx hb dX7_takeStatus_98 (by decide) (fun q13 => ?_) (fun q13 => ?_)
      · replace h := h.1 q13
        exact L142 c0 hc0 x3 σ _ _ ls hH (lv_sub hl [0, 1] rfl) h
      · replace h := h.2 q13
        refine lv_aload_n hx hb dX7_takeStatus_101 rfl (lv_at hl 0 rfl) ?_
        refine g_geti hx hb hB inB7 hown hK hH (c0 := c0) hc0.1 rfl 4 (by decide) k34 rfl rfl dX7_takeStatus_102 ?_
        refine lv_aload_n hx hb dX7_takeStatus_105 rfl (lv_at hl 0 rfl) ?_
        refine g_geti hx hb hB inB7 hown hK hH (c0 := c0) hc0.1 rfl 5 (by decide) k37 rfl rfl dX7_takeStatus_106 ?_
        refine lv_icmp_ge (tgt := 142) hx hb dX7_takeStatus_109 (by decide) (fun q14 => ?_) (fun q14 => ?_)
        · replace h := h.1 q14
          exact L142 c0 hc0 x3 σ _ _ ls hH (lv_sub hl [0, 1] rfl) h
        · replace h := h.2 q14
          refine lv_aload_n hx hb dX7_takeStatus_112 rfl (lv_at hl 0 rfl) ?_
          refine lv_aload_n hx hb dX7_takeStatus_113 rfl (lv_at hl 0 rfl) ?_
          refine g_geti hx hb hB inB7 hown hK hH (c0 := c0) hc0.1 rfl 4 (by decide) k34 rfl rfl dX7_takeStatus_114 ?_
          refine g_callVr (As := [.int (σ c0 4)]) (rest := []) ⟨hx, hb, hml, hown, hB⟩ hK hX aA_hA hH (c0 := c0) (tX7_pieceAt hc0 h) (cwV 1 hB gVX7_59 rfl rfl rfl (by decide +kernel) ⟨Nat.le_of_ble_eq_true rfl, Nat.le_of_ble_eq_true rfl⟩) hc0.1 rfl rfl hl.1 rfl (lv_room (Nat.le_of_ble_eq_true rfl)) ⟨Nat.zero_le _, Nat.zero_le _⟩ dX7_takeStatus_117 (fun r15 σ15 H locs h hH => ?_)
          obtain ⟨h, hp15⟩ := h
          refine g_getiN hx hb hB inB5 hown hK hH (c0 := r15) hp15.1 rfl 4 (by decide) k156 rfl rfl dX7_takeStatus_120 ?_
          refine lv_if_eq (tgt := 142) hx hb dX7_takeStatus_123 (by decide) (fun q16 => ?_) (fun q16 => ?_)
          · replace h := h.1 q16
            exact L142 c0 hc0 x3 σ15 _ _ ls hH (lv_sub hl [0, 1] rfl) h
          · replace h := h.2 q16
            refine lv_aload_n hx hb dX7_takeStatus_126 rfl (lv_at hl 0 rfl) ?_
            refine lv_dup hx hb dX7_takeStatus_127 rfl ?_
            refine g_geti hx hb hB inB7 hown hK hH (c0 := c0) hc0.1 rfl 4 (by decide) k34 rfl rfl dX7_takeStatus_128 ?_
            refine lv_iconst (v := 1) hx hb dX7_takeStatus_131 (by decide) ?_
            refine lv_iadd hx hb dX7_takeStatus_132 ?_
            refine g_put hx hb hB inB7 tyX7 tyX7_ok nmX7 hown hK hH (c0 := c0) hc0.1 rfl 4 (by decide) k34 rfl rfl rfl rfl rfl dX7_takeStatus_133 (fun σ17 eσ17 H locs hH => ?_)
            replace h := h σ17 eσ17
            obtain ⟨x4_18, ex4_18⟩ : ∃ y : Int32, y = x4 + 1 := ⟨_, rfl⟩
            replace h := h x4_18 ex4_18
            refine lv_iinc (v := x4_18) (lv' := [(4, .int x4_18), (0, .ref (ga G c0)), (3, .int x3)]) hx hb dX7_takeStatus_136 hl (k := 2) rfl (by rw [ex4_18]; rfl) (by decide) rfl (fun ls hl => ?_)
            refine lv_goto (tgt := 94) hx hb dX7_takeStatus_139 (by decide) ?_
            exact ih94 c0 hc0 x3 x4_18 σ17 _ _ ls hH (lv_sub hl [1, 2, 0] rfl) h
  have L43 : ∀ (n43 : Nat) (c0 : Nat) (hc0 : isSender G c0) (c1 : Nat) (hc1 : isAir G c1) (x2 : Int32) (x3 : Int32) (x4 : Int32) (σ : Sg) (H : Heap) (locs : List Loc) (ls : Array Slot), Hx G (aA G s.heap.size) s σ H locs → lv_has ls 6 [(0, .ref (ga G c0)), (1, .ref (ga G c1)), (2, .int x2), (3, .int x3), (4, .int x4)] → wpX7_takeStatus_L43 Q n43 c0 c1 x2 x3 x4 σ → W p l e ({ frames := 3, cells := 0, slots := 0, locals := 74 }) s m args below meth c H locs 0 0 (Zv G Q below args s) (F0 m 43 ls []) := by
    intro n43
    induction n43 with
    | zero =>
      intro c0 hc0 c1 hc1 x2 x3 x4 σ H locs ls hH hl h
      exact False.elim h
    | succ n43 ih43 =>
      have L79 : ∀ (c0 : Nat) (hc0 : isSender G c0) (c1 : Nat) (hc1 : isAir G c1) (x2 : Int32) (x3 : Int32) (x4 : Int32) (σ : Sg) (H : Heap) (locs : List Loc) (ls : Array Slot), Hx G (aA G s.heap.size) s σ H locs → lv_has ls 6 [(0, .ref (ga G c0)), (1, .ref (ga G c1)), (2, .int x2), (3, .int x3), (4, .int x4)] → wpX7_takeStatus_L79 Q (wpX7_takeStatus_L43 Q n43) c0 c1 x2 x3 x4 σ → W p l e ({ frames := 3, cells := 0, slots := 0, locals := 74 }) s m args below meth c H locs 0 0 (Zv G Q below args s) (F0 m 79 ls []) := by
        intro c0 hc0 c1 hc1 x2 x3 x4 σ H locs ls hH hl h
        unfold wpX7_takeStatus_L79 at h
        obtain ⟨x4_19, ex4_19⟩ : ∃ y : Int32, y = x4 + 1 := ⟨_, rfl⟩
        replace h := h x4_19 ex4_19
        refine lv_iinc (v := x4_19) (lv' := [(4, .int x4_19), (0, .ref (ga G c0)), (1, .ref (ga G c1)), (2, .int x2), (3, .int x3)]) hx hb dX7_takeStatus_79 hl (k := 4) rfl (by rw [ex4_19]; rfl) (by decide) rfl (fun ls hl => ?_)
        refine lv_goto (tgt := 43) hx hb dX7_takeStatus_82 (by decide) ?_
        exact ih43 c0 hc0 c1 hc1 x2 x3 x4_19 σ _ _ ls hH (lv_sub hl [1, 2, 3, 4, 0] rfl) h
      intro c0 hc0 c1 hc1 x2 x3 x4 σ H locs ls hH hl h
      unfold wpX7_takeStatus_L43 at h
      refine lv_iload hx hb dX7_takeStatus_43 (lv_at hl 4 rfl) ?_
      refine lv_iload_n hx hb dX7_takeStatus_45 rfl (lv_at hl 3 rfl) ?_
      refine lv_icmp_ge (tgt := 85) hx hb dX7_takeStatus_46 (by decide) (fun q7 => ?_) (fun q7 => ?_)
      · replace h := h.1 q7
        refine lv_aload_n hx hb dX7_takeStatus_85 rfl (lv_at hl 0 rfl) ?_
        refine lv_aload_n hx hb dX7_takeStatus_86 rfl (lv_at hl 1 rfl) ?_
        refine lv_iload_n hx hb dX7_takeStatus_87 rfl (lv_at hl 2 rfl) ?_
        refine g_callVv (As := [.ref (ga G c1), .int x2]) (rest := []) ⟨hx, hb, hml, hown, hB⟩ hK hX aA_hA hH (c0 := c0) (tX7_takeEntries (tS := tS) hgo hc0 hc1 h) (cwV 2 hB gVX7_163 rfl rfl rfl (by decide +kernel) ⟨Nat.le_of_ble_eq_true rfl, Nat.le_of_ble_eq_true rfl⟩) hc0.1 rfl rfl hl.1 rfl (lv_room (Nat.le_of_ble_eq_true rfl)) ⟨Nat.zero_le _, Nat.zero_le _⟩ dX7_takeStatus_88 (fun σ8 H locs h hH => ?_)
        refine lv_iconst (v := 0) hx hb dX7_takeStatus_91 (by decide) ?_
        refine lv_istore (lv' := [(4, .int 0), (0, .ref (ga G c0)), (1, .ref (ga G c1)), (2, .int x2), (3, .int x3)]) hx hb dX7_takeStatus_92 hl (by decide) rfl (fun ls hl => ?_)
        obtain ⟨nn, h⟩ := h
        exact L94 nn c0 hc0 x3 0 σ8 _ _ ls hH (lv_sub hl [1, 4, 0] rfl) h
      · replace h := h.2 q7
        refine lv_aload_n hx hb dX7_takeStatus_49 rfl (lv_at hl 0 rfl) ?_
        refine lv_iload hx hb dX7_takeStatus_50 (lv_at hl 4 rfl) ?_
        refine g_callVr (As := [.int x4]) (rest := []) ⟨hx, hb, hml, hown, hB⟩ hK hX aA_hA hH (c0 := c0) (tX7_pieceAt hc0 h) (cwV 1 hB gVX7_59 rfl rfl rfl (by decide +kernel) ⟨Nat.le_of_ble_eq_true rfl, Nat.le_of_ble_eq_true rfl⟩) hc0.1 rfl rfl hl.1 rfl (lv_room (Nat.le_of_ble_eq_true rfl)) ⟨Nat.zero_le _, Nat.zero_le _⟩ dX7_takeStatus_52 (fun r9 σ9 H locs h hH => ?_)
        obtain ⟨h, hp9⟩ := h
        refine lv_astore (lv' := [(5, .ref (ga G r9)), (0, .ref (ga G c0)), (1, .ref (ga G c1)), (2, .int x2), (3, .int x3), (4, .int x4)]) hx hb dX7_takeStatus_55 hl (by decide) rfl (fun ls hl => ?_)
        refine lv_aload hx hb dX7_takeStatus_57 (lv_at hl 0 rfl) ?_
        refine g_getiN hx hb hB inB5 hown hK hH (c0 := r9) hp9.1 rfl 5 (by decide) k153 rfl rfl dX7_takeStatus_59 ?_
        refine lv_if_ne (tgt := 79) hx hb dX7_takeStatus_62 (by decide) (fun q10 => ?_) (fun q10 => ?_)
        · replace h := h.1 q10
          exact L79 c0 hc0 c1 hc1 x2 x3 x4 σ9 _ _ ls hH (lv_sub hl [1, 2, 3, 4, 5] rfl) h
        · replace h := h.2 q10
          refine lv_aload hx hb dX7_takeStatus_65 (lv_at hl 0 rfl) ?_
          refine g_getiN hx hb hB inB5 hown hK hH (c0 := r9) hp9.1 rfl 4 (by decide) k156 rfl rfl dX7_takeStatus_67 ?_
          refine lv_if_ne (tgt := 79) hx hb dX7_takeStatus_70 (by decide) (fun q11 => ?_) (fun q11 => ?_)
          · replace h := h.1 q11
            exact L79 c0 hc0 c1 hc1 x2 x3 x4 σ9 _ _ ls hH (lv_sub hl [1, 2, 3, 4, 5] rfl) h
          · replace h := h.2 q11
            refine lv_aload_n hx hb dX7_takeStatus_73 rfl (lv_at hl 1 rfl) ?_
            refine lv_aload hx hb dX7_takeStatus_74 (lv_at hl 0 rfl) ?_
            refine g_callVv (As := [.ref (ga G r9)]) (rest := []) ⟨hx, hb, hml, hown, hB⟩ hK hX aA_hA hH (c0 := c0) (tX7_confirm (tS := tS) hgo hc0 hp9 h) (cwV 1 hB gVX7_159 rfl rfl rfl (by decide +kernel) ⟨Nat.le_of_ble_eq_true rfl, Nat.le_of_ble_eq_true rfl⟩) hc0.1 rfl rfl hl.1 rfl (lv_room (Nat.le_of_ble_eq_true rfl)) ⟨Nat.zero_le _, Nat.zero_le _⟩ dX7_takeStatus_76 (fun σ12 H locs h hH => ?_)
            exact L79 c0 hc0 c1 hc1 x2 x3 x4 σ12 _ _ ls hH (lv_sub hl [1, 2, 3, 4, 5] rfl) h
  unfold wpX7_takeStatus at h
  refine lv_aload_n hx hb dX7_takeStatus_0 rfl (lv_at hl 0 rfl) ?_
  refine lv_dup hx hb dX7_takeStatus_1 rfl ?_
  refine g_geti hx hb hB inB7 hown hK hH (c0 := c0) hc0.1 rfl 14 (by decide) k137 rfl rfl dX7_takeStatus_2 ?_
  refine lv_iconst (v := 1) hx hb dX7_takeStatus_5 (by decide) ?_
  refine lv_iadd hx hb dX7_takeStatus_6 ?_
  refine g_put hx hb hB inB7 tyX7 tyX7_ok nmX7 hown hK hH (c0 := c0) hc0.1 rfl 14 (by decide) k137 rfl rfl rfl rfl rfl dX7_takeStatus_7 (fun σ1 eσ1 H locs hH => ?_)
  replace h := h σ1 eσ1
  refine lv_aload_n hx hb dX7_takeStatus_10 rfl (lv_at hl 0 rfl) ?_
  refine lv_aload_n hx hb dX7_takeStatus_11 rfl (lv_at hl 1 rfl) ?_
  refine lv_iload_n hx hb dX7_takeStatus_12 rfl (lv_at hl 2 rfl) ?_
  refine lv_iconst (v := 1) hx hb dX7_takeStatus_13 (by decide) ?_
  refine lv_iadd hx hb dX7_takeStatus_14 ?_
  refine g_callVi (As := [.int (x2 + 1)]) (rest := [.ref (ga G c0)]) ⟨hx, hb, hml, hown, hB⟩ hK hX aA_hA hH (c0 := c1) (tX0_at hc1 h) (cwV 1 hB gVX7_140 rfl rfl rfl (by decide +kernel) ⟨Nat.le_of_ble_eq_true rfl, Nat.le_of_ble_eq_true rfl⟩) hc1.1 rfl rfl hl.1 rfl (lv_room (Nat.le_of_ble_eq_true rfl)) ⟨Nat.zero_le _, Nat.zero_le _⟩ dX7_takeStatus_15 (fun r2 σ2 H locs h hH => ?_)
  refine g_callVi (As := [.int r2]) (rest := []) ⟨hx, hb, hml, hown, hB⟩ hK hX aA_hA hH (c0 := c0) (tX7_meant hc0 h) (cwV 1 hB gVX7_146 rfl rfl rfl (by decide +kernel) ⟨Nat.le_of_ble_eq_true rfl, Nat.le_of_ble_eq_true rfl⟩) hc0.1 rfl rfl hl.1 rfl (lv_room (Nat.le_of_ble_eq_true rfl)) ⟨Nat.zero_le _, Nat.zero_le _⟩ dX7_takeStatus_18 (fun r3 σ3 H locs h hH => ?_)
  refine lv_istore_n (lv' := [(3, .int r3), (0, .ref (ga G c0)), (1, .ref (ga G c1)), (2, .int x2)]) hx hb dX7_takeStatus_21 rfl hl (by decide) rfl (fun ls hl => ?_)
  refine lv_iload_n hx hb dX7_takeStatus_22 rfl (lv_at hl 0 rfl) ?_
  refine lv_aload_n hx hb dX7_takeStatus_23 rfl (lv_at hl 1 rfl) ?_
  refine g_geti hx hb hB inB7 hown hK hH (c0 := c0) hc0.1 rfl 5 (by decide) k37 rfl rfl dX7_takeStatus_24 ?_
  refine lv_icmp_le (tgt := 31) hx hb dX7_takeStatus_27 (by decide) (fun q4 => ?_) (fun q4 => ?_)
  · replace h := h.1 q4
    refine lv_aload_n hx hb dX7_takeStatus_31 rfl (lv_at hl 1 rfl) ?_
    refine lv_aload_n hx hb dX7_takeStatus_32 rfl (lv_at hl 2 rfl) ?_
    refine lv_iload_n hx hb dX7_takeStatus_33 rfl (lv_at hl 3 rfl) ?_
    refine g_callVv (As := [.ref (ga G c1), .int x2]) (rest := []) ⟨hx, hb, hml, hown, hB⟩ hK hX aA_hA hH (c0 := c0) (tX7_nameEntries (tS := tS) hgo hc0 hc1 h) (cwV 2 hB gVX7_149 rfl rfl rfl (by decide +kernel) ⟨Nat.le_of_ble_eq_true rfl, Nat.le_of_ble_eq_true rfl⟩) hc0.1 rfl rfl hl.1 rfl (lv_room (Nat.le_of_ble_eq_true rfl)) ⟨Nat.zero_le _, Nat.zero_le _⟩ dX7_takeStatus_34 (fun σ5 H locs h hH => ?_)
    refine lv_aload_n hx hb dX7_takeStatus_37 rfl (lv_at hl 1 rfl) ?_
    refine g_geti hx hb hB inB7 hown hK hH (c0 := c0) hc0.1 rfl 4 (by decide) k34 rfl rfl dX7_takeStatus_38 ?_
    refine lv_topi (fun x4_6 ex4_6 => ?_)
    replace h := h x4_6 ex4_6
    refine lv_istore (lv' := [(4, .int x4_6), (3, .int r3), (0, .ref (ga G c0)), (1, .ref (ga G c1)), (2, .int x2)]) hx hb dX7_takeStatus_41 hl (by decide) rfl (fun ls hl => ?_)
    obtain ⟨nn, h⟩ := h
    exact L43 nn c0 hc0 c1 hc1 x2 r3 x4_6 σ5 _ _ ls hH (lv_sub hl [2, 3, 4, 1, 0] rfl) h
  · replace h := h.2 q4
    exact g_vret hx hb hr hK hlk h hH dX7_takeStatus_30
