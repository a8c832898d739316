def wpX9_isThere (x1 : Int32) (x2 : Int32) (σ : Sg) (Q : Int32 → Sg → Prop) : Prop := ((x1 < 0 → Q 0 σ) ∧ (¬ (x1 < 0) → ((2 ≤ x1 → Q 0 σ) ∧ (¬ (2 ≤ x1) → ((x2 < 0 → Q 0 σ) ∧ (¬ (x2 < 0) → (((σ 0 0) ≤ x2 → Q 0 σ) ∧ (¬ ((σ 0 0) ≤ x2) → Q 1 σ))))))))
set_option maxHeartbeats 8000000 in
set_option maxRecDepth 100000 in
theorem tX9_isThere {l : Launch} {G : GG} {x1 : Int32} {x2 : Int32} {σ : Sg} {Q : Int32 → Sg → Prop} (h0 : isModel G) (h : wpX9_isThere x1 x2 σ Q) : Ki l G yX9_isThere (wB yX9_isThere prog_11_method_2_code 3 (Option.some FieldType.boolean)) ({ frames := 0, cells := 0, slots := 0, locals := 0 }) [.ref (ga G 0), .int x1, .int x2] σ Q := by
  refine K_of (cc := cX9_isThere) (maxL := 3) (ret := (some .boolean)) (by decide) rfl (Nat.le_of_ble_eq_true rfl) ?_
  intro p e s m args below meth c ls B hH hl
  obtain ⟨hx, hb, hr, hts, hown, hlk, hml, hK, hX⟩ := B
  replace hl : lv_has ls 3 [(0, .ref (ga G 0)), (1, .int x1), (2, .int x2)] := hl
  have hB : ∀ w ∈ BIG, w.before args s = true := fun w h9 => hts w (List.mem_cons_of_mem _ h9)
  clear hts
  have k228 := hB _ bw4_110
  unfold wpX9_isThere at h
  refine lv_iload_n hx hb dX9_isThere_0 rfl (lv_at hl 1 rfl) ?_
  refine lv_if_lt (tgt := 25) hx hb dX9_isThere_1 (by decide) (fun q1 => ?_) (fun q1 => ?_)
  · replace h := h.1 q1
    refine lv_iconst (v := 0) hx hb dX9_isThere_25 (by decide) ?_
    exact g_zret hx hb hr hK hlk vz0 h hH dX9_isThere_26
  · replace h := h.2 q1
    refine lv_iload_n hx hb dX9_isThere_4 rfl (lv_at hl 1 rfl) ?_
    refine lv_iconst (v := 2) hx hb dX9_isThere_5 (by decide) ?_
    refine lv_icmp_ge (tgt := 25) hx hb dX9_isThere_6 (by decide) (fun q2 => ?_) (fun q2 => ?_)
    · replace h := h.1 q2
      refine lv_iconst (v := 0) hx hb dX9_isThere_25 (by decide) ?_
      exact g_zret hx hb hr hK hlk vz0 h hH dX9_isThere_26
    · replace h := h.2 q2
      refine lv_iload_n hx hb dX9_isThere_9 rfl (lv_at hl 2 rfl) ?_
      refine lv_if_lt (tgt := 25) hx hb dX9_isThere_10 (by decide) (fun q3 => ?_) (fun q3 => ?_)
      · replace h := h.1 q3
        refine lv_iconst (v := 0) hx hb dX9_isThere_25 (by decide) ?_
        exact g_zret hx hb hr hK hlk vz0 h hH dX9_isThere_26
      · replace h := h.2 q3
        refine lv_iload_n hx hb dX9_isThere_13 rfl (lv_at hl 2 rfl) ?_
        refine lv_aload_n hx hb dX9_isThere_14 rfl (lv_at hl 0 rfl) ?_
        refine g_geti hx hb hB inB9 hown hK hH (c0 := 0) h0.1 rfl 0 (by decide) k228 rfl rfl dX9_isThere_15 ?_
        refine lv_icmp_ge (tgt := 25) hx hb dX9_isThere_18 (by decide) (fun q4 => ?_) (fun q4 => ?_)
        · replace h := h.1 q4
          refine lv_iconst (v := 0) hx hb dX9_isThere_25 (by decide) ?_
          exact g_zret hx hb hr hK hlk vz0 h hH dX9_isThere_26
        · replace h := h.2 q4
          refine lv_iconst (v := 1) hx hb dX9_isThere_21 (by decide) ?_
          refine lv_goto (tgt := 26) hx hb dX9_isThere_22 (by decide) ?_
          exact g_zret hx hb hr hK hlk vz1 h hH dX9_isThere_26
def wpX9_at (x0 : Int32) (x1 : Int32) (σ : Sg) (Q : Int32 → Sg → Prop) : Prop := Q ((3 * x0) + x1) σ
set_option maxHeartbeats 8000000 in
set_option maxRecDepth 100000 in
theorem tX9_at {l : Launch} {G : GG} {x0 : Int32} {x1 : Int32} {σ : Sg} {Q : Int32 → Sg → Prop} (h : wpX9_at x0 x1 σ Q) : Ki l G yX9_at (wB yX9_at prog_11_method_3_code 2 (Option.some FieldType.int)) ({ frames := 0, cells := 0, slots := 0, locals := 0 }) [.int x0, .int x1] σ Q := by
  refine K_of (cc := cX9_at) (maxL := 2) (ret := (some .int)) (by decide) rfl (Nat.le_of_ble_eq_true rfl) ?_
  intro p e s m args below meth c ls B hH hl
  obtain ⟨hx, hb, hr, hts, hown, hlk, hml, hK, hX⟩ := B
  replace hl : lv_has ls 2 [(0, .int x0), (1, .int x1)] := hl
  have hB : ∀ w ∈ BIG, w.before args s = true := fun w h9 => hts w (List.mem_cons_of_mem _ h9)
  clear hts
  unfold wpX9_at at h
  refine lv_iconst (v := 3) hx hb dX9_at_0 (by decide) ?_
  refine lv_iload_n hx hb dX9_at_1 rfl (lv_at hl 0 rfl) ?_
  refine lv_imul hx hb dX9_at_2 ?_
  refine lv_iload_n hx hb dX9_at_3 rfl (lv_at hl 1 rfl) ?_
  refine lv_iadd hx hb dX9_at_4 ?_
  exact g_iret hx hb hr hK hlk h hH dX9_at_5
def wpX9_doubled (x0 : Int32) (σ : Sg) (Q : Int32 → Sg → Prop) : Prop := ((x0 ≤ 127 → Q (((x0 <<< ((1 : Int32) &&& 31)) &&& 255) ^^^ 0) σ) ∧ (¬ (x0 ≤ 127) → Q (((x0 <<< ((1 : Int32) &&& 31)) &&& 255) ^^^ 27) σ))
set_option maxHeartbeats 8000000 in
set_option maxRecDepth 100000 in
theorem tX9_doubled {l : Launch} {G : GG} {x0 : Int32} {σ : Sg} {Q : Int32 → Sg → Prop} (h : wpX9_doubled x0 σ Q) : Ki l G yX9_doubled (wB yX9_doubled prog_11_method_4_code 1 (Option.some FieldType.int)) ({ frames := 0, cells := 0, slots := 0, locals := 0 }) [.int x0] σ Q := by
  refine K_of (cc := cX9_doubled) (maxL := 1) (ret := (some .int)) (by decide) rfl (Nat.le_of_ble_eq_true rfl) ?_
  intro p e s m args below meth c ls B hH hl
  obtain ⟨hx, hb, hr, hts, hown, hlk, hml, hK, hX⟩ := B
  replace hl : lv_has ls 1 [(0, .int x0)] := hl
  have hB : ∀ w ∈ BIG, w.before args s = true := fun w h9 => hts w (List.mem_cons_of_mem _ h9)
  clear hts
  unfold wpX9_doubled at h
  refine lv_iload_n hx hb dX9_doubled_0 rfl (lv_at hl 0 rfl) ?_
  refine lv_iconst (v := 1) hx hb dX9_doubled_1 (by decide) ?_
  refine lv_ishl hx hb dX9_doubled_2 ?_
  refine lv_sipush (v := 255) hx hb dX9_doubled_3 (by decide) ?_
  refine lv_iand hx hb dX9_doubled_6 ?_
  refine lv_iload_n hx hb dX9_doubled_7 rfl (lv_at hl 0 rfl) ?_
  refine lv_bipush (v := 127) hx hb dX9_doubled_8 (by decide) ?_
  refine lv_icmp_le (tgt := 18) hx hb dX9_doubled_10 (by decide) (fun q1 => ?_) (fun q1 => ?_)
  · replace h := h.1 q1
    refine lv_iconst (v := 0) hx hb dX9_doubled_18 (by decide) ?_
    refine lv_ixor hx hb dX9_doubled_19 ?_
    exact g_iret hx hb hr hK hlk h hH dX9_doubled_20
  · replace h := h.2 q1
    refine lv_bipush (v := 27) hx hb dX9_doubled_13 (by decide) ?_
    refine lv_goto (tgt := 19) hx hb dX9_doubled_15 (by decide) ?_
    refine lv_ixor hx hb dX9_doubled_19 ?_
    exact g_iret hx hb hr hK hlk h hH dX9_doubled_20
def wpX9_times_L28 (Q : Int32 → Sg → Prop) (K7 : Int32 → Int32 → Int32 → Int32 → Sg → Prop) (x1 : Int32) (x2 : Int32) (x3 : Int32) (x4 : Int32) (σ : Sg) : Prop := wpX9_doubled x3 σ (fun r4 σ4 => ∀ x4_5 : Int32, x4_5 = x4 + 1 → K7 x1 x2 r4 x4_5 σ4)
def wpX9_times_L7 (Q : Int32 → Sg → Prop) : Nat → Int32 → Int32 → Int32 → Int32 → Sg → Prop
  | 0, _, _, _, _, _ => False
  | n + 1, x1, x2, x3, x4, σ => ((8 ≤ x4 → Q x2 σ) ∧ (¬ (8 ≤ x4) → ((¬ ((x1 >>> (x4 &&& 31)) &&& 1) = 1 → wpX9_times_L28 Q (wpX9_times_L7 Q n) x1 x2 x3 x4 σ) ∧ (((x1 >>> (x4 &&& 31)) &&& 1) = 1 → ∀ x2_3 : Int32, x2_3 = x2 ^^^ x3 → wpX9_times_L28 Q (wpX9_times_L7 Q n) x1 x2_3 x3 x4 σ))))
def wpX9_times (x0 : Int32) (x1 : Int32) (σ : Sg) (Q : Int32 → Sg → Prop) : Prop := ∃ nn, wpX9_times_L7 Q nn x1 0 x0 0 σ
set_option maxHeartbeats 8000000 in
set_option maxRecDepth 100000 in
theorem tX9_times {l : Launch} {G : GG} {x0 : Int32} {x1 : Int32} {σ : Sg} {Q : Int32 → Sg → Prop} (h : wpX9_times x0 x1 σ Q) : Ki l G yX9_times (wB yX9_times prog_11_method_5_code 5 (Option.some FieldType.int)) ({ frames := 1, cells := 0, slots := 0, locals := 20 }) [.int x0, .int x1] σ Q := by
  refine K_of (cc := cX9_times) (maxL := 5) (ret := (some .int)) (by decide) rfl (Nat.le_of_ble_eq_true rfl) ?_
  intro p e s m args below meth c ls B hH hl
  obtain ⟨hx, hb, hr, hts, hown, hlk, hml, hK, hX⟩ := B
  replace hl : lv_has ls 5 [(0, .int x0), (1, .int x1)] := hl
  have hB : ∀ w ∈ BIG, w.before args s = true := fun w h9 => hts w (List.mem_cons_of_mem _ h9)
  clear hts
  have L7 : ∀ (n7 : Nat) (x1 : Int32) (x2 : Int32) (x3 : Int32) (x4 : Int32) (σ : Sg) (H : Heap) (locs : List Loc) (ls : Array Slot), Hx G (aA G s.heap.size) s σ H locs → lv_has ls 5 [(1, .int x1), (2, .int x2), (3, .int x3), (4, .int x4)] → wpX9_times_L7 Q n7 x1 x2 x3 x4 σ → W p l e ({ frames := 1, cells := 0, slots := 0, locals := 20 }) s m args below meth c H locs 0 0 (Zi G Q below args s) (F0 m 7 ls []) := by
    intro n7
    induction n7 with
    | zero =>
      intro x1 x2 x3 x4 σ H locs ls hH hl h
      exact False.elim h
    | succ n7 ih7 =>
      have L28 : ∀ (x1 : Int32) (x2 : Int32) (x3 : Int32) (x4 : Int32) (σ : Sg) (H : Heap) (locs : List Loc) (ls : Array Slot), Hx G (aA G s.heap.size) s σ H locs → lv_has ls 5 [(1, .int x1), (2, .int x2), (3, .int x3), (4, .int x4)] → wpX9_times_L28 Q (wpX9_times_L7 Q n7) x1 x2 x3 x4 σ → W p l e ({ frames := 1, cells := 0, slots := 0, locals := 20 }) s m args below meth c H locs 0 0 (Zi G Q below args s) (F0 m 28 ls []) := by
        intro x1 x2 x3 x4 σ H locs ls hH hl h
        unfold wpX9_times_L28 at h
        refine lv_iload_n hx hb dX9_times_28 rfl (lv_at hl 2 rfl) ?_
        refine g_callSi (As := [.int x3]) (rest := []) ⟨hx, hb, hml, hown, hB⟩ hK hX aA_hA hH (tX9_doubled h) (va_cwS 1 hB gSX9_238 rfl rfl rfl (by decide +kernel) ⟨Nat.le_of_ble_eq_true rfl, Nat.le_of_ble_eq_true rfl⟩) rfl hl.1 rfl (lv_room (Nat.le_of_ble_eq_true rfl)) ⟨Nat.zero_le _, Nat.zero_le _⟩ dX9_times_29 (fun r4 σ4 H locs h hH => ?_)
        refine lv_istore_n (lv' := [(3, .int r4), (1, .int x1), (2, .int x2), (4, .int x4)]) hx hb dX9_times_32 rfl hl (by decide) rfl (fun ls hl => ?_)
        obtain ⟨x4_5, ex4_5⟩ : ∃ y : Int32, y = x4 + 1 := ⟨_, rfl⟩
        replace h := h x4_5 ex4_5
        refine lv_iinc (v := x4_5) (lv' := [(4, .int x4_5), (3, .int r4), (1, .int x1), (2, .int x2)]) hx hb dX9_times_33 hl (k := 3) rfl (by rw [ex4_5]; rfl) (by decide) rfl (fun ls hl => ?_)
        refine lv_goto (tgt := 7) hx hb dX9_times_36 (by decide) ?_
        exact ih7 x1 x2 r4 x4_5 σ4 _ _ ls hH (lv_sub hl [2, 3, 1, 0] rfl) h
      intro x1 x2 x3 x4 σ H locs ls hH hl h
      unfold wpX9_times_L7 at h
      refine lv_iload hx hb dX9_times_7 (lv_at hl 3 rfl) ?_
      refine lv_bipush (v := 8) hx hb dX9_times_9 (by decide) ?_
      refine lv_icmp_ge (tgt := 39) hx hb dX9_times_11 (by decide) (fun q1 => ?_) (fun q1 => ?_)
      · replace h := h.1 q1
        refine lv_iload_n hx hb dX9_times_39 rfl (lv_at hl 1 rfl) ?_
        exact g_iret hx hb hr hK hlk h hH dX9_times_40
      · replace h := h.2 q1
        refine lv_iload_n hx hb dX9_times_14 rfl (lv_at hl 0 rfl) ?_
        refine lv_iload hx hb dX9_times_15 (lv_at hl 3 rfl) ?_
        refine lv_ishr hx hb dX9_times_17 ?_
        refine lv_iconst (v := 1) hx hb dX9_times_18 (by decide) ?_
        refine lv_iand hx hb dX9_times_19 ?_
        refine lv_iconst (v := 1) hx hb dX9_times_20 (by decide) ?_
        refine lv_icmp_ne (tgt := 28) hx hb dX9_times_21 (by decide) (fun q2 => ?_) (fun q2 => ?_)
        · replace h := h.1 q2
          exact L28 x1 x2 x3 x4 σ _ _ ls hH (lv_sub hl [0, 1, 2, 3] rfl) h
        · replace h := h.2 q2
          refine lv_iload_n hx hb dX9_times_24 rfl (lv_at hl 1 rfl) ?_
          refine lv_iload_n hx hb dX9_times_25 rfl (lv_at hl 2 rfl) ?_
          refine lv_ixor hx hb dX9_times_26 ?_
          refine lv_topi (fun x2_3 ex2_3 => ?_)
          replace h := h x2_3 ex2_3
          refine lv_istore_n (lv' := [(2, .int x2_3), (1, .int x1), (3, .int x3), (4, .int x4)]) hx hb dX9_times_27 rfl hl (by decide) rfl (fun ls hl => ?_)
          exact L28 x1 x2_3 x3 x4 σ _ _ ls hH (lv_sub hl [1, 0, 2, 3] rfl) h
  unfold wpX9_times at h
  refine lv_iconst (v := 0) hx hb dX9_times_0 (by decide) ?_
  refine lv_istore_n (lv' := [(2, .int 0), (0, .int x0), (1, .int x1)]) hx hb dX9_times_1 rfl hl (by decide) rfl (fun ls hl => ?_)
  refine lv_iload_n hx hb dX9_times_2 rfl (lv_at hl 1 rfl) ?_
  refine lv_istore_n (lv' := [(3, .int x0), (2, .int 0), (0, .int x0), (1, .int x1)]) hx hb dX9_times_3 rfl hl (by decide) rfl (fun ls hl => ?_)
  refine lv_iconst (v := 0) hx hb dX9_times_4 (by decide) ?_
  refine lv_istore (lv' := [(4, .int 0), (3, .int x0), (2, .int 0), (0, .int x0), (1, .int x1)]) hx hb dX9_times_5 hl (by decide) rfl (fun ls hl => ?_)
  obtain ⟨nn, h⟩ := h
  exact L7 nn x1 0 x0 0 σ _ _ ls hH (lv_sub hl [4, 2, 1, 0] rfl) h
def wpX9_makeBox_L47 (Q : Sg → Prop) (K2 : Int32 → Sg → Prop) : Nat → Int32 → Int32 → Int32 → Int32 → Sg → Prop
  | 0, _, _, _, _, _ => False
  | n + 1, x1, x2, x3, x4, σ => ((5 ≤ x4 → (vp_in x1 256 ∧ ∀ σ8 : Sg, σ8 = up2 σ 67 x1.toNatClampNeg x3 → ∀ x1_9 : Int32, x1_9 = x1 + 1 → K2 x1_9 σ8)) ∧ (¬ (5 ≤ x4) → ∀ x3_10 : Int32, x3_10 = x3 ^^^ (((x2 <<< (x4 &&& 31)) ||| (x2 >>> ((8 - x4) &&& 31))) &&& 255) → ∀ x4_11 : Int32, x4_11 = x4 + 1 → (wpX9_makeBox_L47 Q K2 n) x1 x2 x3_10 x4_11 σ))
def wpX9_makeBox_L41 (Q : Sg → Prop) (K2 : Int32 → Sg → Prop) (x1 : Int32) (x2 : Int32) (σ : Sg) : Prop := ∃ nn, wpX9_makeBox_L47 Q K2 nn x1 x2 99 0 σ
def wpX9_makeBox_L35 (Q : Sg → Prop) (K2 : Int32 → Sg → Prop) (K13 : Int32 → Int32 → Int32 → Sg → Prop) (x1 : Int32) (x2 : Int32) (x3 : Int32) (σ : Sg) : Prop := ∀ x3_6 : Int32, x3_6 = x3 + 1 → K13 x1 x2 x3_6 σ
def wpX9_makeBox_L13 (Q : Sg → Prop) (K2 : Int32 → Sg → Prop) : Nat → Int32 → Int32 → Int32 → Sg → Prop
  | 0, _, _, _, _ => False
  | n + 1, x1, x2, x3, σ => ((256 ≤ x3 → wpX9_makeBox_L41 Q K2 x1 x2 σ) ∧ (¬ (256 ≤ x3) → ((x1 ≤ 0 → wpX9_makeBox_L41 Q K2 x1 x2 σ) ∧ (¬ (x1 ≤ 0) → wpX9_times x1 x3 σ (fun r4 σ4 => ((¬ r4 = 1 → wpX9_makeBox_L35 Q K2 (wpX9_makeBox_L13 Q K2 n) x1 x2 x3 σ4) ∧ (r4 = 1 → wpX9_makeBox_L35 Q K2 (wpX9_makeBox_L13 Q K2 n) x1 x3 x3 σ4)))))))
def wpX9_makeBox_L2 (Q : Sg → Prop) : Nat → Int32 → Sg → Prop
  | 0, _, _ => False
  | n + 1, x1, σ => ((256 ≤ x1 → Q σ) ∧ (¬ (256 ≤ x1) → ∃ nn, wpX9_makeBox_L13 Q (wpX9_makeBox_L2 Q n) nn x1 0 1 σ))
def wpX9_makeBox (σ : Sg) (Q : Sg → Prop) : Prop := ∃ nn, wpX9_makeBox_L2 Q nn 0 σ
set_option maxHeartbeats 8000000 in
set_option maxRecDepth 100000 in
theorem tX9_makeBox {l : Launch} {G : GG} {σ : Sg} {Q : Sg → Prop} (h0 : isModel G) (h : wpX9_makeBox σ Q) : Kv l G yX9_makeBox (wB yX9_makeBox prog_11_method_6_code 5 none) ({ frames := 2, cells := 0, slots := 0, locals := 44 }) [.ref (ga G 0)] σ Q := by
  refine K_of (cc := cX9_makeBox) (maxL := 5) (ret := none) (by decide) rfl (Nat.le_of_ble_eq_true rfl) ?_
  intro p e s m args below meth c ls B hH hl
  obtain ⟨hx, hb, hr, hts, hown, hlk, hml, hK, hX⟩ := B
  replace hl : lv_has ls 5 [(0, .ref (ga G 0))] := hl
  have hB : ∀ w ∈ BIG, w.before args s = true := fun w h9 => hts w (List.mem_cons_of_mem _ h9)
  clear hts
  have k210 := hB _ bw4_186
  have L2 : ∀ (n2 : Nat) (x1 : Int32) (σ : Sg) (H : Heap) (locs : List Loc) (ls : Array Slot), Hx G (aA G s.heap.size) s σ H locs → lv_has ls 5 [(0, .ref (ga G 0)), (1, .int x1)] → wpX9_makeBox_L2 Q n2 x1 σ → W p l e ({ frames := 2, cells := 0, slots := 0, locals := 44 }) s m args below meth c H locs 0 0 (Zv G Q below args s) (F0 m 2 ls []) := by
    intro n2
    induction n2 with
    | zero =>
      intro x1 σ H locs ls hH hl h
      exact False.elim h
    | succ n2 ih2 =>
      have L47 : ∀ (n47 : Nat) (x1 : Int32) (x2 : Int32) (x3 : Int32) (x4 : Int32) (σ : Sg) (H : Heap) (locs : List Loc) (ls : Array Slot), Hx G (aA G s.heap.size) s σ H locs → lv_has ls 5 [(0, .ref (ga G 0)), (1, .int x1), (2, .int x2), (3, .int x3), (4, .int x4)] → wpX9_makeBox_L47 Q (wpX9_makeBox_L2 Q n2) n47 x1 x2 x3 x4 σ → W p l e ({ frames := 2, cells := 0, slots := 0, locals := 44 }) s m args below meth c H locs 0 0 (Zv G Q below args s) (F0 m 47 ls []) := by
        intro n47
        induction n47 with
        | zero =>
          intro x1 x2 x3 x4 σ H locs ls hH hl h
          exact False.elim h
        | succ n47 ih47 =>
          intro x1 x2 x3 x4 σ H locs ls hH hl h
          unfold wpX9_makeBox_L47 at h
          refine lv_iload hx hb dX9_makeBox_47 (lv_at hl 4 rfl) ?_
          refine lv_iconst (v := 5) hx hb dX9_makeBox_49 (by decide) ?_
          refine lv_icmp_ge (tgt := 78) hx hb dX9_makeBox_50 (by decide) (fun q7 => ?_) (fun q7 => ?_)
          · replace h := h.1 q7
            refine lv_aload_n hx hb dX9_makeBox_78 rfl (lv_at hl 0 rfl) ?_
            refine g_getr hx hb hB inB9 hown hK hH (c0 := 0) h0.1 rfl 76 (by decide) k210 rfl (c1 := 67) rfl dX9_makeBox_79 ?_
            refine lv_iload_n hx hb dX9_makeBox_82 rfl (lv_at hl 1 rfl) ?_
            refine lv_iload_n hx hb dX9_makeBox_83 rfl (lv_at hl 3 rfl) ?_
            obtain ⟨hi8, h⟩ := h
            refine g_iast hx hb hK hH (c0 := 67) (i := x1) (mA67 h0) hi8 dX9_makeBox_84 (fun σ8 eσ8 H locs hH => ?_)
            replace h := h σ8 eσ8
            obtain ⟨x1_9, ex1_9⟩ : ∃ y : Int32, y = x1 + 1 := ⟨_, rfl⟩
            replace h := h x1_9 ex1_9
            refine lv_iinc (v := x1_9) (lv' := [(1, .int x1_9), (0, .ref (ga G 0)), (2, .int x2), (3, .int x3), (4, .int x4)]) hx hb dX9_makeBox_85 hl (k := 1) rfl (by rw [ex1_9]; rfl) (by decide) rfl (fun ls hl => ?_)
            refine lv_goto (tgt := 2) hx hb dX9_makeBox_88 (by decide) ?_
            exact ih2 x1_9 σ8 _ _ ls hH (lv_sub hl [1, 0] rfl) h
          · replace h := h.2 q7
            refine lv_iload_n hx hb dX9_makeBox_53 rfl (lv_at hl 3 rfl) ?_
            refine lv_iload_n hx hb dX9_makeBox_54 rfl (lv_at hl 2 rfl) ?_
            refine lv_iload hx hb dX9_makeBox_55 (lv_at hl 4 rfl) ?_
            refine lv_ishl hx hb dX9_makeBox_57 ?_
            refine lv_iload_n hx hb dX9_makeBox_58 rfl (lv_at hl 2 rfl) ?_
            refine lv_bipush (v := 8) hx hb dX9_makeBox_59 (by decide) ?_
            refine lv_iload hx hb dX9_makeBox_61 (lv_at hl 4 rfl) ?_
            refine lv_isub hx hb dX9_makeBox_63 ?_
            refine lv_ishr hx hb dX9_makeBox_64 ?_
            refine lv_ior hx hb dX9_makeBox_65 ?_
            refine lv_sipush (v := 255) hx hb dX9_makeBox_66 (by decide) ?_
            refine lv_iand hx hb dX9_makeBox_69 ?_
            refine lv_ixor hx hb dX9_makeBox_70 ?_
            refine lv_topi (fun x3_10 ex3_10 => ?_)
            replace h := h x3_10 ex3_10
            refine lv_istore_n (lv' := [(3, .int x3_10), (0, .ref (ga G 0)), (1, .int x1), (2, .int x2), (4, .int x4)]) hx hb dX9_makeBox_71 rfl hl (by decide) rfl (fun ls hl => ?_)
            obtain ⟨x4_11, ex4_11⟩ : ∃ y : Int32, y = x4 + 1 := ⟨_, rfl⟩
            replace h := h x4_11 ex4_11
            refine lv_iinc (v := x4_11) (lv' := [(4, .int x4_11), (3, .int x3_10), (0, .ref (ga G 0)), (1, .int x1), (2, .int x2)]) hx hb dX9_makeBox_72 hl (k := 4) rfl (by rw [ex4_11]; rfl) (by decide) rfl (fun ls hl => ?_)
            refine lv_goto (tgt := 47) hx hb dX9_makeBox_75 (by decide) ?_
            exact ih47 x1 x2 x3_10 x4_11 σ _ _ ls hH (lv_sub hl [2, 3, 4, 1, 0] rfl) h
      have L41 : ∀ (x1 : Int32) (x2 : Int32) (σ : Sg) (H : Heap) (locs : List Loc) (ls : Array Slot), Hx G (aA G s.heap.size) s σ H locs → lv_has ls 5 [(0, .ref (ga G 0)), (1, .int x1), (2, .int x2)] → wpX9_makeBox_L41 Q (wpX9_makeBox_L2 Q n2) x1 x2 σ → W p l e ({ frames := 2, cells := 0, slots := 0, locals := 44 }) s m args below meth c H locs 0 0 (Zv G Q below args s) (F0 m 41 ls []) := by
        intro x1 x2 σ H locs ls hH hl h
        unfold wpX9_makeBox_L41 at h
        refine lv_bipush (v := 99) hx hb dX9_makeBox_41 (by decide) ?_
        refine lv_istore_n (lv' := [(3, .int 99), (0, .ref (ga G 0)), (1, .int x1), (2, .int x2)]) hx hb dX9_makeBox_43 rfl hl (by decide) rfl (fun ls hl => ?_)
        refine lv_iconst (v := 0) hx hb dX9_makeBox_44 (by decide) ?_
        refine lv_istore (lv' := [(4, .int 0), (3, .int 99), (0, .ref (ga G 0)), (1, .int x1), (2, .int x2)]) hx hb dX9_makeBox_45 hl (by decide) rfl (fun ls hl => ?_)
        obtain ⟨nn, h⟩ := h
        exact L47 nn x1 x2 99 0 σ _ _ ls hH (lv_sub hl [2, 3, 4, 1, 0] rfl) h
      have L13 : ∀ (n13 : Nat) (x1 : Int32) (x2 : Int32) (x3 : Int32) (σ : Sg) (H : Heap) (locs : List Loc) (ls : Array Slot), Hx G (aA G s.heap.size) s σ H locs → lv_has ls 5 [(0, .ref (ga G 0)), (1, .int x1), (2, .int x2), (3, .int x3)] → wpX9_makeBox_L13 Q (wpX9_makeBox_L2 Q n2) n13 x1 x2 x3 σ → W p l e ({ frames := 2, cells := 0, slots := 0, locals := 44 }) s m args below meth c H locs 0 0 (Zv G Q below args s) (F0 m 13 ls []) := by
        intro n13
        induction n13 with
        | zero =>
          intro x1 x2 x3 σ H locs ls hH hl h
          exact False.elim h
        | succ n13 ih13 =>
          have L35 : ∀ (x1 : Int32) (x2 : Int32) (x3 : Int32) (σ : Sg) (H : Heap) (locs : List Loc) (ls : Array Slot), Hx G (aA G s.heap.size) s σ H locs → lv_has ls 5 [(0, .ref (ga G 0)), (1, .int x1), (2, .int x2), (3, .int x3)] → wpX9_makeBox_L35 Q (wpX9_makeBox_L2 Q n2) (wpX9_makeBox_L13 Q (wpX9_makeBox_L2 Q n2) n13) x1 x2 x3 σ → W p l e ({ frames := 2, cells := 0, slots := 0, locals := 44 }) s m args below meth c H locs 0 0 (Zv G Q below args s) (F0 m 35 ls []) := by
            intro x1 x2 x3 σ H locs ls hH hl h
            unfold wpX9_makeBox_L35 at h
            obtain ⟨x3_6, ex3_6⟩ : ∃ y : Int32, y = x3 + 1 := ⟨_, rfl⟩
            replace h := h x3_6 ex3_6
            refine lv_iinc (v := x3_6) (lv' := [(3, .int x3_6), (0, .ref (ga G 0)), (1, .int x1), (2, .int x2)]) hx hb dX9_makeBox_35 hl (k := 3) rfl (by rw [ex3_6]; rfl) (by decide) rfl (fun ls hl => ?_)
            refine lv_goto (tgt := 13) hx hb dX9_makeBox_38 (by decide) ?_
            exact ih13 x1 x2 x3_6 σ _ _ ls hH (lv_sub hl [1, 2, 3, 0] rfl) h
          intro x1 x2 x3 σ H locs ls hH hl h
          unfold wpX9_makeBox_L13 at h
          refine lv_iload_n hx hb dX9_makeBox_13 rfl (lv_at hl 3 rfl) ?_
          refine lv_sipush (v := 256) hx hb dX9_makeBox_14 (by decide) ?_
          refine lv_icmp_ge (tgt := 41) hx hb dX9_makeBox_17 (by decide) (fun q2 => ?_) (fun q2 => ?_)
          · replace h := h.1 q2
            exact L41 x1 x2 σ _ _ ls hH (lv_sub hl [0, 1, 2] rfl) h
          · replace h := h.2 q2
            refine lv_iload_n hx hb dX9_makeBox_20 rfl (lv_at hl 1 rfl) ?_
            refine lv_if_le (tgt := 41) hx hb dX9_makeBox_21 (by decide) (fun q3 => ?_) (fun q3 => ?_)
            · replace h := h.1 q3
              exact L41 x1 x2 σ _ _ ls hH (lv_sub hl [0, 1, 2] rfl) h
            · replace h := h.2 q3
              refine lv_iload_n hx hb dX9_makeBox_24 rfl (lv_at hl 1 rfl) ?_
              refine lv_iload_n hx hb dX9_makeBox_25 rfl (lv_at hl 3 rfl) ?_
              refine g_callSi (As := [.int x1, .int x3]) (rest := []) ⟨hx, hb, hml, hown, hB⟩ hK hX aA_hA hH (tX9_times h) (va_cwS 2 hB gSX9_242 rfl rfl rfl (by decide +kernel) ⟨Nat.le_of_ble_eq_true rfl, Nat.le_of_ble_eq_true rfl⟩) rfl hl.1 rfl (lv_room (Nat.le_of_ble_eq_true rfl)) ⟨Nat.zero_le _, Nat.zero_le _⟩ dX9_makeBox_26 (fun r4 σ4 H locs h hH => ?_)
              refine lv_iconst (v := 1) hx hb dX9_makeBox_29 (by decide) ?_
              refine lv_icmp_ne (tgt := 35) hx hb dX9_makeBox_30 (by decide) (fun q5 => ?_) (fun q5 => ?_)
              · replace h := h.1 q5
                exact L35 x1 x2 x3 σ4 _ _ ls hH (lv_sub hl [0, 1, 2, 3] rfl) h
              · replace h := h.2 q5
                refine lv_iload_n hx hb dX9_makeBox_33 rfl (lv_at hl 3 rfl) ?_
                refine lv_istore_n (lv' := [(2, .int x3), (0, .ref (ga G 0)), (1, .int x1), (3, .int x3)]) hx hb dX9_makeBox_34 rfl hl (by decide) rfl (fun ls hl => ?_)
                exact L35 x1 x3 x3 σ4 _ _ ls hH (lv_sub hl [1, 2, 0, 3] rfl) h
      intro x1 σ H locs ls hH hl h
      unfold wpX9_makeBox_L2 at h
      refine lv_iload_n hx hb dX9_makeBox_2 rfl (lv_at hl 1 rfl) ?_
      refine lv_sipush (v := 256) hx hb dX9_makeBox_3 (by decide) ?_
      refine lv_icmp_ge (tgt := 91) hx hb dX9_makeBox_6 (by decide) (fun q1 => ?_) (fun q1 => ?_)
      · replace h := h.1 q1
        exact g_vret hx hb hr hK hlk h hH dX9_makeBox_91
      · replace h := h.2 q1
        refine lv_iconst (v := 0) hx hb dX9_makeBox_9 (by decide) ?_
        refine lv_istore_n (lv' := [(2, .int 0), (0, .ref (ga G 0)), (1, .int x1)]) hx hb dX9_makeBox_10 rfl hl (by decide) rfl (fun ls hl => ?_)
        refine lv_iconst (v := 1) hx hb dX9_makeBox_11 (by decide) ?_
        refine lv_istore_n (lv' := [(3, .int 1), (2, .int 0), (0, .ref (ga G 0)), (1, .int x1)]) hx hb dX9_makeBox_12 rfl hl (by decide) rfl (fun ls hl => ?_)
        obtain ⟨nn, h⟩ := h
        exact L13 nn x1 0 1 σ _ _ ls hH (lv_sub hl [2, 3, 1, 0] rfl) h
  unfold wpX9_makeBox at h
  refine lv_iconst (v := 0) hx hb dX9_makeBox_0 (by decide) ?_
  refine lv_istore_n (lv' := [(1, .int 0), (0, .ref (ga G 0))]) hx hb dX9_makeBox_1 rfl hl (by decide) rfl (fun ls hl => ?_)
  obtain ⟨nn, h⟩ := h
  exact L2 nn 0 σ _ _ ls hH (lv_sub hl [1, 0] rfl) h
def wpX9_makeKey_L157 (Q : Sg → Prop) (K53 : Int32 → Int32 → Sg → Prop) (x1 : Int32) (x2 : Int32) (σ : Sg) : Prop := ∀ x2_17 : Int32, x2_17 = x2 + 4 → K53 x1 x2_17 σ
def wpX9_makeKey_L117 (Q : Sg → Prop) (K53 : Int32 → Int32 → Sg → Prop) (K62 : Int32 → Int32 → Int32 → Sg → Prop) (x1 : Int32) (x2 : Int32) (x3 : Int32) (x4 : Int32) (σ : Sg) : Prop := (vp_in ((x2 - 16) + x3) 176 ∧ (vp_in (x2 + x3) 176 ∧ ∀ σ19 : Sg, σ19 = up2 σ 68 ((x2 + x3).toNatClampNeg) ((σ 68 ((x2 - 16) + x3).toNatClampNeg) ^^^ x4) → ∀ x3_20 : Int32, x3_20 = x3 + 1 → K62 x1 x2 x3_20 σ19))
def wpX9_makeKey_L114 (Q : Sg → Prop) (K53 : Int32 → Int32 → Sg → Prop) (K62 : Int32 → Int32 → Int32 → Sg → Prop) (x1 : Int32) (x2 : Int32) (x3 : Int32) (z0 : Int32) (z1 : Int32) (σ : Sg) : Prop := ∀ x4_21 : Int32, x4_21 = z1 ^^^ z0 → wpX9_makeKey_L117 Q K53 K62 x1 x2 x3 x4_21 σ
def wpX9_makeKey_L62 (Q : Sg → Prop) (K53 : Int32 → Int32 → Sg → Prop) : Nat → Int32 → Int32 → Int32 → Sg → Prop
  | 0, _, _, _, _ => False
  | n + 1, x1, x2, x3, σ => ((4 ≤ x3 → ∀ w6 : Int32, w6 = x2 - x2 / 16 * 16 → ((¬ w6 = 0 → wpX9_makeKey_L157 Q K53 x1 x2 σ) ∧ (w6 = 0 → wpX9_doubled x1 σ (fun r8 σ8 => wpX9_makeKey_L157 Q K53 r8 x2 σ8)))) ∧ (¬ (4 ≤ x3) → (vp_in ((x2 - 4) + x3) 176 ∧ ∀ x4_10 : Int32, x4_10 = σ 68 ((x2 - 4) + x3).toNatClampNeg → ∀ w11 : Int32, w11 = x2 - x2 / 16 * 16 → ((¬ w11 = 0 → wpX9_makeKey_L117 Q K53 (wpX9_makeKey_L62 Q K53 n) x1 x2 x3 x4_10 σ) ∧ (w11 = 0 → ∀ w13 : Int32, w13 = (x3 + 1) - (x3 + 1) / 4 * 4 → (vp_in ((x2 - 4) + w13) 176 ∧ (vp_in (σ 68 ((x2 - 4) + w13).toNatClampNeg) 256 ∧ ((¬ x3 = 0 → wpX9_makeKey_L114 Q K53 (wpX9_makeKey_L62 Q K53 n) x1 x2 x3 0 (σ 67 (σ 68 ((x2 - 4) + w13).toNatClampNeg).toNatClampNeg) σ) ∧ (x3 = 0 → wpX9_makeKey_L114 Q K53 (wpX9_makeKey_L62 Q K53 n) x1 x2 x3 x1 (σ 67 (σ 68 ((x2 - 4) + w13).toNatClampNeg).toNatClampNeg) σ)))))))))
def wpX9_makeKey_L53 (Q : Sg → Prop) : Nat → Int32 → Int32 → Sg → Prop
  | 0, _, _, _ => False
  | n + 1, x1, x2, σ => ((176 ≤ x2 → Q σ) ∧ (¬ (176 ≤ x2) → ∃ nn, wpX9_makeKey_L62 Q (wpX9_makeKey_L53 Q n) nn x1 x2 0 σ))
def wpX9_makeKey_L2 (Q : Sg → Prop) : Nat → Int32 → Sg → Prop
  | 0, _, _ => False
  | n + 1, x1, σ => ((16 ≤ x1 → ∃ nn, wpX9_makeKey_L53 Q nn 1 16 σ) ∧ (¬ (16 ≤ x1) → (vp_in x1 176 ∧ ∀ σ2 : Sg, σ2 = up2 σ 68 x1.toNatClampNeg (((((σ 0 1) >>> ((8 * (x1 &&& 3)) &&& 31)) + (17 * x1)) + (29 * (σ 0 3))) &&& 255) → ∀ x1_3 : Int32, x1_3 = x1 + 1 → (wpX9_makeKey_L2 Q n) x1_3 σ2)))
def wpX9_makeKey (σ : Sg) (Q : Sg → Prop) : Prop := ∃ nn, wpX9_makeKey_L2 Q nn 0 σ
set_option maxHeartbeats 8000000 in
set_option maxRecDepth 100000 in
theorem tX9_makeKey {l : Launch} {G : GG} {σ : Sg} {Q : Sg → Prop} (h0 : isModel G) (h : wpX9_makeKey σ Q) : Kv l G yX9_makeKey (wB yX9_makeKey prog_11_method_7_code 5 none) ({ frames := 1, cells := 0, slots := 0, locals := 20 }) [.ref (ga G 0)] σ Q := by
  refine K_of (cc := cX9_makeKey) (maxL := 5) (ret := none) (by decide) rfl (Nat.le_of_ble_eq_true rfl) ?_
  intro p e s m args below meth c ls B hH hl
  obtain ⟨hx, hb, hr, hts, hown, hlk, hml, hK, hX⟩ := B
  replace hl : lv_has ls 5 [(0, .ref (ga G 0))] := hl
  have hB : ∀ w ∈ BIG, w.before args s = true := fun w h9 => hts w (List.mem_cons_of_mem _ h9)
  clear hts
  have k210 := hB _ bw4_186
  have k213 := hB _ bw4_187
  have k232 := hB _ bw4_111
  have k246 := hB _ bw4_113
  have L53 : ∀ (n53 : Nat) (x1 : Int32) (x2 : Int32) (σ : Sg) (H : Heap) (locs : List Loc) (ls : Array Slot), Hx G (aA G s.heap.size) s σ H locs → lv_has ls 5 [(0, .ref (ga G 0)), (1, .int x1), (2, .int x2)] → wpX9_makeKey_L53 Q n53 x1 x2 σ → W p l e ({ frames := 1, cells := 0, slots := 0, locals := 20 }) s m args below meth c H locs 0 0 (Zv G Q below args s) (F0 m 53 ls []) := by
    intro n53
    induction n53 with
    | zero =>
      intro x1 x2 σ H locs ls hH hl h
      exact False.elim h
    | succ n53 ih53 =>
      have L157 : ∀ (x1 : Int32) (x2 : Int32) (σ : Sg) (H : Heap) (locs : List Loc) (ls : Array Slot), Hx G (aA G s.heap.size) s σ H locs → lv_has ls 5 [(0, .ref (ga G 0)), (1, .int x1), (2, .int x2)] → wpX9_makeKey_L157 Q (wpX9_makeKey_L53 Q n53) x1 x2 σ → W p l e ({ frames := 1, cells := 0, slots := 0, locals := 20 }) s m args below meth c H locs 0 0 (Zv G Q below args s) (F0 m 157 ls []) := by
        intro x1 x2 σ H locs ls hH hl h
        unfold wpX9_makeKey_L157 at h
        obtain ⟨x2_17, ex2_17⟩ : ∃ y : Int32, y = x2 + 4 := ⟨_, rfl⟩
        replace h := h x2_17 ex2_17
        refine lv_iinc (v := x2_17) (lv' := [(2, .int x2_17), (0, .ref (ga G 0)), (1, .int x1)]) hx hb dX9_makeKey_157 hl (k := 2) rfl (by rw [ex2_17]; rfl) (by decide) rfl (fun ls hl => ?_)
        refine lv_goto (tgt := 53) hx hb dX9_makeKey_160 (by decide) ?_
        exact ih53 x1 x2_17 σ _ _ ls hH (lv_sub hl [1, 2, 0] rfl) h
      have L62 : ∀ (n62 : Nat) (x1 : Int32) (x2 : Int32) (x3 : Int32) (σ : Sg) (H : Heap) (locs : List Loc) (ls : Array Slot), Hx G (aA G s.heap.size) s σ H locs → lv_has ls 5 [(0, .ref (ga G 0)), (1, .int x1), (2, .int x2), (3, .int x3)] → wpX9_makeKey_L62 Q (wpX9_makeKey_L53 Q n53) n62 x1 x2 x3 σ → W p l e ({ frames := 1, cells := 0, slots := 0, locals := 20 }) s m args below meth c H locs 0 0 (Zv G Q below args s) (F0 m 62 ls []) := by
        intro n62
        induction n62 with
        | zero =>
          intro x1 x2 x3 σ H locs ls hH hl h
          exact False.elim h
        | succ n62 ih62 =>
          have L117 : ∀ (x1 : Int32) (x2 : Int32) (x3 : Int32) (x4 : Int32) (σ : Sg) (H : Heap) (locs : List Loc) (ls : Array Slot), Hx G (aA G s.heap.size) s σ H locs → lv_has ls 5 [(0, .ref (ga G 0)), (1, .int x1), (2, .int x2), (3, .int x3), (4, .int x4)] → wpX9_makeKey_L117 Q (wpX9_makeKey_L53 Q n53) (wpX9_makeKey_L62 Q (wpX9_makeKey_L53 Q n53) n62) x1 x2 x3 x4 σ → W p l e ({ frames := 1, cells := 0, slots := 0, locals := 20 }) s m args below meth c H locs 0 0 (Zv G Q below args s) (F0 m 117 ls []) := by
            intro x1 x2 x3 x4 σ H locs ls hH hl h
            unfold wpX9_makeKey_L117 at h
            refine lv_aload_n hx hb dX9_makeKey_117 rfl (lv_at hl 0 rfl) ?_
            refine g_getr hx hb hB inB9 hown hK hH (c0 := 0) h0.1 rfl 77 (by decide) k213 rfl (c1 := 68) rfl dX9_makeKey_118 ?_
            refine lv_iload_n hx hb dX9_makeKey_121 rfl (lv_at hl 2 rfl) ?_
            refine lv_iload_n hx hb dX9_makeKey_122 rfl (lv_at hl 3 rfl) ?_
            refine lv_iadd hx hb dX9_makeKey_123 ?_
            refine lv_aload_n hx hb dX9_makeKey_124 rfl (lv_at hl 0 rfl) ?_
            refine g_getr hx hb hB inB9 hown hK hH (c0 := 0) h0.1 rfl 77 (by decide) k213 rfl (c1 := 68) rfl dX9_makeKey_125 ?_
            refine lv_iload_n hx hb dX9_makeKey_128 rfl (lv_at hl 2 rfl) ?_
            refine lv_bipush (v := 16) hx hb dX9_makeKey_129 (by decide) ?_
            refine lv_isub hx hb dX9_makeKey_131 ?_
            refine lv_iload_n hx hb dX9_makeKey_132 rfl (lv_at hl 3 rfl) ?_
            refine lv_iadd hx hb dX9_makeKey_133 ?_
            obtain ⟨hi18, h⟩ := h
            refine g_iald hx hb hK hH (c0 := 68) (mA68 h0) hi18 dX9_makeKey_134 ?_
            refine lv_iload hx hb dX9_makeKey_135 (lv_at hl 4 rfl) ?_
            refine lv_ixor hx hb dX9_makeKey_137 ?_
            obtain ⟨hi19, h⟩ := h
            refine g_iast hx hb hK hH (c0 := 68) (i := x2 + x3) (mA68 h0) hi19 dX9_makeKey_138 (fun σ19 eσ19 H locs hH => ?_)
            replace h := h σ19 eσ19
            obtain ⟨x3_20, ex3_20⟩ : ∃ y : Int32, y = x3 + 1 := ⟨_, rfl⟩
            replace h := h x3_20 ex3_20
            refine lv_iinc (v := x3_20) (lv' := [(3, .int x3_20), (0, .ref (ga G 0)), (1, .int x1), (2, .int x2), (4, .int x4)]) hx hb dX9_makeKey_139 hl (k := 3) rfl (by rw [ex3_20]; rfl) (by decide) rfl (fun ls hl => ?_)
            refine lv_goto (tgt := 62) hx hb dX9_makeKey_142 (by decide) ?_
            exact ih62 x1 x2 x3_20 σ19 _ _ ls hH (lv_sub hl [1, 2, 3, 0] rfl) h
          have L114 : ∀ (x1 : Int32) (x2 : Int32) (x3 : Int32) (z0 : Int32) (z1 : Int32) (σ : Sg) (H : Heap) (locs : List Loc) (ls : Array Slot), Hx G (aA G s.heap.size) s σ H locs → lv_has ls 5 [(0, .ref (ga G 0)), (1, .int x1), (2, .int x2), (3, .int x3)] → wpX9_makeKey_L114 Q (wpX9_makeKey_L53 Q n53) (wpX9_makeKey_L62 Q (wpX9_makeKey_L53 Q n53) n62) x1 x2 x3 z0 z1 σ → W p l e ({ frames := 1, cells := 0, slots := 0, locals := 20 }) s m args below meth c H locs 0 0 (Zv G Q below args s) (F0 m 114 ls [.int z0, .int z1]) := by
            intro x1 x2 x3 z0 z1 σ H locs ls hH hl h
            unfold wpX9_makeKey_L114 at h
            refine lv_ixor hx hb dX9_makeKey_114 ?_
            refine lv_topi (fun x4_21 ex4_21 => ?_)
            replace h := h x4_21 ex4_21
            refine lv_istore (lv' := [(4, .int x4_21), (0, .ref (ga G 0)), (1, .int x1), (2, .int x2), (3, .int x3)]) hx hb dX9_makeKey_115 hl (by decide) rfl (fun ls hl => ?_)
            exact L117 x1 x2 x3 x4_21 σ _ _ ls hH (lv_sub hl [1, 2, 3, 4, 0] rfl) h
          intro x1 x2 x3 σ H locs ls hH hl h
          unfold wpX9_makeKey_L62 at h
          refine lv_iload_n hx hb dX9_makeKey_62 rfl (lv_at hl 3 rfl) ?_
          refine lv_iconst (v := 4) hx hb dX9_makeKey_63 (by decide) ?_
          refine lv_icmp_ge (tgt := 145) hx hb dX9_makeKey_64 (by decide) (fun q5 => ?_) (fun q5 => ?_)
          · replace h := h.1 q5
            refine lv_iload_n hx hb dX9_makeKey_145 rfl (lv_at hl 2 rfl) ?_
            refine lv_bipush (v := 16) hx hb dX9_makeKey_146 (by decide) ?_
            refine lv_irem hx hb dX9_makeKey_148 (by decide) ?_
            refine lv_topi (fun w6 ew6 => ?_)
            replace h := h w6 ew6
            refine lv_if_ne (tgt := 157) hx hb dX9_makeKey_149 (by decide) (fun q7 => ?_) (fun q7 => ?_)
            · replace h := h.1 q7
              exact L157 x1 x2 σ _ _ ls hH (lv_sub hl [0, 1, 2] rfl) h
            · replace h := h.2 q7
              refine lv_iload_n hx hb dX9_makeKey_152 rfl (lv_at hl 1 rfl) ?_
              refine g_callSi (As := [.int x1]) (rest := []) ⟨hx, hb, hml, hown, hB⟩ hK hX aA_hA hH (tX9_doubled h) (va_cwS 1 hB gSX9_238 rfl rfl rfl (by decide +kernel) ⟨Nat.le_of_ble_eq_true rfl, Nat.le_of_ble_eq_true rfl⟩) rfl hl.1 rfl (lv_room (Nat.le_of_ble_eq_true rfl)) ⟨Nat.zero_le _, Nat.zero_le _⟩ dX9_makeKey_153 (fun r8 σ8 H locs h hH => ?_)
              refine lv_istore_n (lv' := [(1, .int r8), (0, .ref (ga G 0)), (2, .int x2), (3, .int x3)]) hx hb dX9_makeKey_156 rfl hl (by decide) rfl (fun ls hl => ?_)
              exact L157 r8 x2 σ8 _ _ ls hH (lv_sub hl [1, 0, 2] rfl) h
          · replace h := h.2 q5
            refine lv_aload_n hx hb dX9_makeKey_67 rfl (lv_at hl 0 rfl) ?_
            refine g_getr hx hb hB inB9 hown hK hH (c0 := 0) h0.1 rfl 77 (by decide) k213 rfl (c1 := 68) rfl dX9_makeKey_68 ?_
            refine lv_iload_n hx hb dX9_makeKey_71 rfl (lv_at hl 2 rfl) ?_
            refine lv_iconst (v := 4) hx hb dX9_makeKey_72 (by decide) ?_
            refine lv_isub hx hb dX9_makeKey_73 ?_
            refine lv_iload_n hx hb dX9_makeKey_74 rfl (lv_at hl 3 rfl) ?_
            refine lv_iadd hx hb dX9_makeKey_75 ?_
            obtain ⟨hi9, h⟩ := h
            refine g_iald hx hb hK hH (c0 := 68) (mA68 h0) hi9 dX9_makeKey_76 ?_
            refine lv_topi (fun x4_10 ex4_10 => ?_)
            replace h := h x4_10 ex4_10
            refine lv_istore (lv' := [(4, .int x4_10), (0, .ref (ga G 0)), (1, .int x1), (2, .int x2), (3, .int x3)]) hx hb dX9_makeKey_77 hl (by decide) rfl (fun ls hl => ?_)
            refine lv_iload_n hx hb dX9_makeKey_79 rfl (lv_at hl 3 rfl) ?_
            refine lv_bipush (v := 16) hx hb dX9_makeKey_80 (by decide) ?_
            refine lv_irem hx hb dX9_makeKey_82 (by decide) ?_
            refine lv_topi (fun w11 ew11 => ?_)
            replace h := h w11 ew11
            refine lv_if_ne (tgt := 117) hx hb dX9_makeKey_83 (by decide) (fun q12 => ?_) (fun q12 => ?_)
            · replace h := h.1 q12
              exact L117 x1 x2 x3 x4_10 σ _ _ ls hH (lv_sub hl [1, 2, 3, 4, 0] rfl) h
            · replace h := h.2 q12
              refine lv_aload_n hx hb dX9_makeKey_86 rfl (lv_at hl 1 rfl) ?_
              refine g_getr hx hb hB inB9 hown hK hH (c0 := 0) h0.1 rfl 76 (by decide) k210 rfl (c1 := 67) rfl dX9_makeKey_87 ?_
              refine lv_aload_n hx hb dX9_makeKey_90 rfl (lv_at hl 1 rfl) ?_
              refine g_getr hx hb hB inB9 hown hK hH (c0 := 0) h0.1 rfl 77 (by decide) k213 rfl (c1 := 68) rfl dX9_makeKey_91 ?_
              refine lv_iload_n hx hb dX9_makeKey_94 rfl (lv_at hl 3 rfl) ?_
              refine lv_iconst (v := 4) hx hb dX9_makeKey_95 (by decide) ?_
              refine lv_isub hx hb dX9_makeKey_96 ?_
              refine lv_iload_n hx hb dX9_makeKey_97 rfl (lv_at hl 4 rfl) ?_
              refine lv_iconst (v := 1) hx hb dX9_makeKey_98 (by decide) ?_
              refine lv_iadd hx hb dX9_makeKey_99 ?_
              refine lv_iconst (v := 4) hx hb dX9_makeKey_100 (by decide) ?_
              refine lv_irem hx hb dX9_makeKey_101 (by decide) ?_
              refine lv_topi (fun w13 ew13 => ?_)
              replace h := h w13 ew13
              refine lv_iadd hx hb dX9_makeKey_102 ?_
              obtain ⟨hi14, h⟩ := h
              refine g_iald hx hb hK hH (c0 := 68) (mA68 h0) hi14 dX9_makeKey_103 ?_
              obtain ⟨hi15, h⟩ := h
              refine g_iald hx hb hK hH (c0 := 67) (mA67 h0) hi15 dX9_makeKey_104 ?_
              refine lv_iload_n hx hb dX9_makeKey_105 rfl (lv_at hl 4 rfl) ?_
              refine lv_if_ne (tgt := 113) hx hb dX9_makeKey_106 (by decide) (fun q16 => ?_) (fun q16 => ?_)
              · replace h := h.1 q16
                refine lv_iconst (v := 0) hx hb dX9_makeKey_113 (by decide) ?_
                exact L114 x1 x2 x3 0 (σ 67 (σ 68 ((x2 - 4) + w13).toNatClampNeg).toNatClampNeg) σ _ _ ls hH (lv_sub hl [1, 2, 3, 4] rfl) h
              · replace h := h.2 q16
                refine lv_iload_n hx hb dX9_makeKey_109 rfl (lv_at hl 2 rfl) ?_
                refine lv_goto (tgt := 114) hx hb dX9_makeKey_110 (by decide) ?_
                exact L114 x1 x2 x3 x1 (σ 67 (σ 68 ((x2 - 4) + w13).toNatClampNeg).toNatClampNeg) σ _ _ ls hH (lv_sub hl [1, 2, 3, 4] rfl) h
      intro x1 x2 σ H locs ls hH hl h
      unfold wpX9_makeKey_L53 at h
      refine lv_iload_n hx hb dX9_makeKey_53 rfl (lv_at hl 2 rfl) ?_
      refine lv_sipush (v := 176) hx hb dX9_makeKey_54 (by decide) ?_
      refine lv_icmp_ge (tgt := 163) hx hb dX9_makeKey_57 (by decide) (fun q4 => ?_) (fun q4 => ?_)
      · replace h := h.1 q4
        exact g_vret hx hb hr hK hlk h hH dX9_makeKey_163
      · replace h := h.2 q4
        refine lv_iconst (v := 0) hx hb dX9_makeKey_60 (by decide) ?_
        refine lv_istore_n (lv' := [(3, .int 0), (0, .ref (ga G 0)), (1, .int x1), (2, .int x2)]) hx hb dX9_makeKey_61 rfl hl (by decide) rfl (fun ls hl => ?_)
        obtain ⟨nn, h⟩ := h
        exact L62 nn x1 x2 0 σ _ _ ls hH (lv_sub hl [1, 2, 3, 0] rfl) h
  have L2 : ∀ (n2 : Nat) (x1 : Int32) (σ : Sg) (H : Heap) (locs : List Loc) (ls : Array Slot), Hx G (aA G s.heap.size) s σ H locs → lv_has ls 5 [(0, .ref (ga G 0)), (1, .int x1)] → wpX9_makeKey_L2 Q n2 x1 σ → W p l e ({ frames := 1, cells := 0, slots := 0, locals := 20 }) s m args below meth c H locs 0 0 (Zv G Q below args s) (F0 m 2 ls []) := by
    intro n2
    induction n2 with
    | zero =>
      intro x1 σ H locs ls hH hl h
      exact False.elim h
    | succ n2 ih2 =>
      intro x1 σ H locs ls hH hl h
      unfold wpX9_makeKey_L2 at h
      refine lv_iload_n hx hb dX9_makeKey_2 rfl (lv_at hl 1 rfl) ?_
      refine lv_bipush (v := 16) hx hb dX9_makeKey_3 (by decide) ?_
      refine lv_icmp_ge (tgt := 48) hx hb dX9_makeKey_5 (by decide) (fun q1 => ?_) (fun q1 => ?_)
      · replace h := h.1 q1
        refine lv_iconst (v := 1) hx hb dX9_makeKey_48 (by decide) ?_
        refine lv_istore_n (lv' := [(1, .int 1), (0, .ref (ga G 0))]) hx hb dX9_makeKey_49 rfl hl (by decide) rfl (fun ls hl => ?_)
        refine lv_bipush (v := 16) hx hb dX9_makeKey_50 (by decide) ?_
        refine lv_istore_n (lv' := [(2, .int 16), (1, .int 1), (0, .ref (ga G 0))]) hx hb dX9_makeKey_52 rfl hl (by decide) rfl (fun ls hl => ?_)
        obtain ⟨nn, h⟩ := h
        exact L53 nn 1 16 σ _ _ ls hH (lv_sub hl [2, 1, 0] rfl) h
      · replace h := h.2 q1
        refine lv_aload_n hx hb dX9_makeKey_8 rfl (lv_at hl 0 rfl) ?_
        refine g_getr hx hb hB inB9 hown hK hH (c0 := 0) h0.1 rfl 77 (by decide) k213 rfl (c1 := 68) rfl dX9_makeKey_9 ?_
        refine lv_iload_n hx hb dX9_makeKey_12 rfl (lv_at hl 1 rfl) ?_
        refine lv_aload_n hx hb dX9_makeKey_13 rfl (lv_at hl 0 rfl) ?_
        refine g_geti hx hb hB inB9 hown hK hH (c0 := 0) h0.1 rfl 1 (by decide) k232 rfl rfl dX9_makeKey_14 ?_
        refine lv_bipush (v := 8) hx hb dX9_makeKey_17 (by decide) ?_
        refine lv_iload_n hx hb dX9_makeKey_19 rfl (lv_at hl 1 rfl) ?_
        refine lv_iconst (v := 3) hx hb dX9_makeKey_20 (by decide) ?_
        refine lv_iand hx hb dX9_makeKey_21 ?_
        refine lv_imul hx hb dX9_makeKey_22 ?_
        refine lv_ishr hx hb dX9_makeKey_23 ?_
        refine lv_bipush (v := 17) hx hb dX9_makeKey_24 (by decide) ?_
        refine lv_iload_n hx hb dX9_makeKey_26 rfl (lv_at hl 1 rfl) ?_
        refine lv_imul hx hb dX9_makeKey_27 ?_
        refine lv_iadd hx hb dX9_makeKey_28 ?_
        refine lv_bipush (v := 29) hx hb dX9_makeKey_29 (by decide) ?_
        refine lv_aload_n hx hb dX9_makeKey_31 rfl (lv_at hl 0 rfl) ?_
        refine g_geti hx hb hB inB9 hown hK hH (c0 := 0) h0.1 rfl 3 (by decide) k246 rfl rfl dX9_makeKey_32 ?_
        refine lv_imul hx hb dX9_makeKey_35 ?_
        refine lv_iadd hx hb dX9_makeKey_36 ?_
        refine lv_sipush (v := 255) hx hb dX9_makeKey_37 (by decide) ?_
        refine lv_iand hx hb dX9_makeKey_40 ?_
        obtain ⟨hi2, h⟩ := h
        refine g_iast hx hb hK hH (c0 := 68) (i := x1) (mA68 h0) hi2 dX9_makeKey_41 (fun σ2 eσ2 H locs hH => ?_)
        replace h := h σ2 eσ2
        obtain ⟨x1_3, ex1_3⟩ : ∃ y : Int32, y = x1 + 1 := ⟨_, rfl⟩
        replace h := h x1_3 ex1_3
        refine lv_iinc (v := x1_3) (lv' := [(1, .int x1_3), (0, .ref (ga G 0))]) hx hb dX9_makeKey_42 hl (k := 1) rfl (by rw [ex1_3]; rfl) (by decide) rfl (fun ls hl => ?_)
        refine lv_goto (tgt := 2) hx hb dX9_makeKey_45 (by decide) ?_
        exact ih2 x1_3 σ2 _ _ ls hH (lv_sub hl [1, 0] rfl) h
  unfold wpX9_makeKey at h
  refine lv_iconst (v := 0) hx hb dX9_makeKey_0 (by decide) ?_
  refine lv_istore_n (lv' := [(1, .int 0), (0, .ref (ga G 0))]) hx hb dX9_makeKey_1 rfl hl (by decide) rfl (fun ls hl => ?_)
  obtain ⟨nn, h⟩ := h
  exact L2 nn 0 σ _ _ ls hH (lv_sub hl [1, 0] rfl) h
def wpX9_encipher_L183 (Q : Sg → Prop) (K31 : Int32 → Sg → Prop) (K79 : Int32 → Int32 → Sg → Prop) (x1 : Int32) (x2 : Int32) (x5 : Int32) (σ : Sg) : Prop := (vp_in ((16 * x1) + x2) 176 ∧ (vp_in x2 16 ∧ ∀ σ34 : Sg, σ34 = up2 σ 69 x2.toNatClampNeg (x5 ^^^ (σ 68 ((16 * x1) + x2).toNatClampNeg)) → ∀ x2_35 : Int32, x2_35 = x2 + 1 → K79 x1 x2_35 σ34))
def wpX9_encipher_L79 (Q : Sg → Prop) (K31 : Int32 → Sg → Prop) : Nat → Int32 → Int32 → Sg → Prop
  | 0, _, _, _ => False
  | n + 1, x1, x2, σ => ((16 ≤ x2 → ∀ x1_15 : Int32, x1_15 = x1 + 1 → K31 x1_15 σ) ∧ (¬ (16 ≤ x2) → ∀ x3_16 : Int32, x3_16 = (x2 / 4) * 4 → ∀ w17 : Int32, w17 = x2 - x2 / 4 * 4 → (vp_in x2 16 ∧ ∀ x5_19 : Int32, x5_19 = σ 70 x2.toNatClampNeg → ((10 ≤ x1 → wpX9_encipher_L183 Q K31 (wpX9_encipher_L79 Q K31 n) x1 x2 x5_19 σ) ∧ (¬ (10 ≤ x1) → (vp_in (x3_16 + w17) 16 ∧ wpX9_doubled (σ 70 (x3_16 + w17).toNatClampNeg) σ (fun r22 σ22 => ∀ w23 : Int32, w23 = (w17 + 1) - (w17 + 1) / 4 * 4 → (vp_in (x3_16 + w23) 16 ∧ wpX9_doubled (σ22 70 (x3_16 + w23).toNatClampNeg) σ22 (fun r25 σ25 => ∀ w26 : Int32, w26 = (w17 + 1) - (w17 + 1) / 4 * 4 → (vp_in (x3_16 + w26) 16 ∧ ∀ w28 : Int32, w28 = (w17 + 2) - (w17 + 2) / 4 * 4 → (vp_in (x3_16 + w28) 16 ∧ ∀ w30 : Int32, w30 = (w17 + 3) - (w17 + 3) / 4 * 4 → (vp_in (x3_16 + w30) 16 ∧ ∀ x5_32 : Int32, x5_32 = (((r22 ^^^ r25) ^^^ (σ25 70 (x3_16 + w26).toNatClampNeg)) ^^^ (σ25 70 (x3_16 + w28).toNatClampNeg)) ^^^ (σ25 70 (x3_16 + w30).toNatClampNeg) → wpX9_encipher_L183 Q K31 (wpX9_encipher_L79 Q K31 n) x1 x2 x5_32 σ25))))))))))))
def wpX9_encipher_L39 (Q : Sg → Prop) (K31 : Int32 → Sg → Prop) : Nat → Int32 → Int32 → Sg → Prop
  | 0, _, _, _ => False
  | n + 1, x1, x2, σ => ((16 ≤ x2 → ∃ nn, wpX9_encipher_L79 Q K31 nn x1 0 σ) ∧ (¬ (16 ≤ x2) → ∀ w8 : Int32, w8 = x2 - x2 / 4 * 4 → ∀ w9 : Int32, w9 = (x2 + (4 * w8)) - (x2 + (4 * w8)) / 16 * 16 → (vp_in w9 16 ∧ (vp_in (σ 69 w9.toNatClampNeg) 256 ∧ (vp_in x2 16 ∧ ∀ σ12 : Sg, σ12 = up2 σ 70 x2.toNatClampNeg (σ 67 (σ 69 w9.toNatClampNeg).toNatClampNeg) → ∀ x2_13 : Int32, x2_13 = x2 + 1 → (wpX9_encipher_L39 Q K31 n) x1 x2_13 σ12)))))
def wpX9_encipher_L31 (Q : Sg → Prop) : Nat → Int32 → Sg → Prop
  | 0, _, _ => False
  | n + 1, x1, σ => ((10 < x1 → Q σ) ∧ (¬ (10 < x1) → ∃ nn, wpX9_encipher_L39 Q (wpX9_encipher_L31 Q n) nn x1 0 σ))
def wpX9_encipher_L2 (Q : Sg → Prop) : Nat → Int32 → Sg → Prop
  | 0, _, _ => False
  | n + 1, x1, σ => ((16 ≤ x1 → ∃ nn, wpX9_encipher_L31 Q nn 1 σ) ∧ (¬ (16 ≤ x1) → (vp_in x1 16 ∧ (vp_in x1 176 ∧ (vp_in x1 16 ∧ ∀ σ4 : Sg, σ4 = up2 σ 69 x1.toNatClampNeg ((σ 69 x1.toNatClampNeg) ^^^ (σ 68 x1.toNatClampNeg)) → ∀ x1_5 : Int32, x1_5 = x1 + 1 → (wpX9_encipher_L2 Q n) x1_5 σ4)))))
def wpX9_encipher (σ : Sg) (Q : Sg → Prop) : Prop := ∃ nn, wpX9_encipher_L2 Q nn 0 σ
set_option maxHeartbeats 8000000 in
set_option maxRecDepth 100000 in
theorem tX9_encipher {l : Launch} {G : GG} {σ : Sg} {Q : Sg → Prop} (h0 : isModel G) (h : wpX9_encipher σ Q) : Kv l G yX9_encipher (wB yX9_encipher prog_11_method_8_code 6 none) ({ frames := 1, cells := 0, slots := 0, locals := 20 }) [.ref (ga G 0)] σ Q := by
  refine K_of (cc := cX9_encipher) (maxL := 6) (ret := none) (by decide) rfl (Nat.le_of_ble_eq_true rfl) ?_
  intro p e s m args below meth c ls B hH hl
  obtain ⟨hx, hb, hr, hts, hown, hlk, hml, hK, hX⟩ := B
  replace hl : lv_has ls 6 [(0, .ref (ga G 0))] := hl
  have hB : ∀ w ∈ BIG, w.before args s = true := fun w h9 => hts w (List.mem_cons_of_mem _ h9)
  clear hts
  have k210 := hB _ bw4_186
  have k213 := hB _ bw4_187
  have k216 := hB _ bw4_188
  have k219 := hB _ bw4_189
  have L31 : ∀ (n31 : Nat) (x1 : Int32) (σ : Sg) (H : Heap) (locs : List Loc) (ls : Array Slot), Hx G (aA G s.heap.size) s σ H locs → lv_has ls 6 [(0, .ref (ga G 0)), (1, .int x1)] → wpX9_encipher_L31 Q n31 x1 σ → W p l e ({ frames := 1, cells := 0, slots := 0, locals := 20 }) s m args below meth c H locs 0 0 (Zv G Q below args s) (F0 m 31 ls []) := by
    intro n31
    induction n31 with
    | zero =>
      intro x1 σ H locs ls hH hl h
      exact False.elim h
    | succ n31 ih31 =>
      have L79 : ∀ (n79 : Nat) (x1 : Int32) (x2 : Int32) (σ : Sg) (H : Heap) (locs : List Loc) (ls : Array Slot), Hx G (aA G s.heap.size) s σ H locs → lv_has ls 6 [(0, .ref (ga G 0)), (1, .int x1), (2, .int x2)] → wpX9_encipher_L79 Q (wpX9_encipher_L31 Q n31) n79 x1 x2 σ → W p l e ({ frames := 1, cells := 0, slots := 0, locals := 20 }) s m args below meth c H locs 0 0 (Zv G Q below args s) (F0 m 79 ls []) := by
        intro n79
        induction n79 with
        | zero =>
          intro x1 x2 σ H locs ls hH hl h
          exact False.elim h
        | succ n79 ih79 =>
          have L183 : ∀ (x1 : Int32) (x2 : Int32) (x5 : Int32) (σ : Sg) (H : Heap) (locs : List Loc) (ls : Array Slot), Hx G (aA G s.heap.size) s σ H locs → lv_has ls 6 [(0, .ref (ga G 0)), (1, .int x1), (2, .int x2), (5, .int x5)] → wpX9_encipher_L183 Q (wpX9_encipher_L31 Q n31) (wpX9_encipher_L79 Q (wpX9_encipher_L31 Q n31) n79) x1 x2 x5 σ → W p l e ({ frames := 1, cells := 0, slots := 0, locals := 20 }) s m args below meth c H locs 0 0 (Zv G Q below args s) (F0 m 183 ls []) := by
            intro x1 x2 x5 σ H locs ls hH hl h
            unfold wpX9_encipher_L183 at h
            refine lv_aload_n hx hb dX9_encipher_183 rfl (lv_at hl 0 rfl) ?_
            refine g_getr hx hb hB inB9 hown hK hH (c0 := 0) h0.1 rfl 78 (by decide) k216 rfl (c1 := 69) rfl dX9_encipher_184 ?_
            refine lv_iload_n hx hb dX9_encipher_187 rfl (lv_at hl 2 rfl) ?_
            refine lv_iload hx hb dX9_encipher_188 (lv_at hl 3 rfl) ?_
            refine lv_aload_n hx hb dX9_encipher_190 rfl (lv_at hl 0 rfl) ?_
            refine g_getr hx hb hB inB9 hown hK hH (c0 := 0) h0.1 rfl 77 (by decide) k213 rfl (c1 := 68) rfl dX9_encipher_191 ?_
            refine lv_bipush (v := 16) hx hb dX9_encipher_194 (by decide) ?_
            refine lv_iload_n hx hb dX9_encipher_196 rfl (lv_at hl 1 rfl) ?_
            refine lv_imul hx hb dX9_encipher_197 ?_
            refine lv_iload_n hx hb dX9_encipher_198 rfl (lv_at hl 2 rfl) ?_
            refine lv_iadd hx hb dX9_encipher_199 ?_
            obtain ⟨hi33, h⟩ := h
            refine g_iald hx hb hK hH (c0 := 68) (mA68 h0) hi33 dX9_encipher_200 ?_
            refine lv_ixor hx hb dX9_encipher_201 ?_
            obtain ⟨hi34, h⟩ := h
            refine g_iast hx hb hK hH (c0 := 69) (i := x2) (mA69 h0) hi34 dX9_encipher_202 (fun σ34 eσ34 H locs hH => ?_)
            replace h := h σ34 eσ34
            obtain ⟨x2_35, ex2_35⟩ : ∃ y : Int32, y = x2 + 1 := ⟨_, rfl⟩
            replace h := h x2_35 ex2_35
            refine lv_iinc (v := x2_35) (lv' := [(2, .int x2_35), (0, .ref (ga G 0)), (1, .int x1), (5, .int x5)]) hx hb dX9_encipher_203 hl (k := 2) rfl (by rw [ex2_35]; rfl) (by decide) rfl (fun ls hl => ?_)
            refine lv_goto (tgt := 79) hx hb dX9_encipher_206 (by decide) ?_
            exact ih79 x1 x2_35 σ34 _ _ ls hH (lv_sub hl [1, 2, 0] rfl) h
          intro x1 x2 σ H locs ls hH hl h
          unfold wpX9_encipher_L79 at h
          refine lv_iload_n hx hb dX9_encipher_79 rfl (lv_at hl 2 rfl) ?_
          refine lv_bipush (v := 16) hx hb dX9_encipher_80 (by decide) ?_
          refine lv_icmp_ge (tgt := 209) hx hb dX9_encipher_82 (by decide) (fun q14 => ?_) (fun q14 => ?_)
          · replace h := h.1 q14
            obtain ⟨x1_15, ex1_15⟩ : ∃ y : Int32, y = x1 + 1 := ⟨_, rfl⟩
            replace h := h x1_15 ex1_15
            refine lv_iinc (v := x1_15) (lv' := [(1, .int x1_15), (0, .ref (ga G 0)), (2, .int x2)]) hx hb dX9_encipher_209 hl (k := 1) rfl (by rw [ex1_15]; rfl) (by decide) rfl (fun ls hl => ?_)
            refine lv_goto (tgt := 31) hx hb dX9_encipher_212 (by decide) ?_
            exact ih31 x1_15 σ _ _ ls hH (lv_sub hl [1, 0] rfl) h
          · replace h := h.2 q14
            refine lv_iload_n hx hb dX9_encipher_85 rfl (lv_at hl 2 rfl) ?_
            refine lv_iconst (v := 4) hx hb dX9_encipher_86 (by decide) ?_
            refine lv_idiv hx hb dX9_encipher_87 (by decide) ?_
            refine lv_iconst (v := 4) hx hb dX9_encipher_88 (by decide) ?_
            refine lv_imul hx hb dX9_encipher_89 ?_
            refine lv_topi (fun x3_16 ex3_16 => ?_)
            replace h := h x3_16 ex3_16
            refine lv_istore_n (lv' := [(3, .int x3_16), (0, .ref (ga G 0)), (1, .int x1), (2, .int x2)]) hx hb dX9_encipher_90 rfl hl (by decide) rfl (fun ls hl => ?_)
            refine lv_iload_n hx hb dX9_encipher_91 rfl (lv_at hl 3 rfl) ?_
            refine lv_iconst (v := 4) hx hb dX9_encipher_92 (by decide) ?_
            refine lv_irem hx hb dX9_encipher_93 (by decide) ?_
            refine lv_topi (fun w17 ew17 => ?_)
            replace h := h w17 ew17
            refine lv_istore (lv' := [(4, .int w17), (3, .int x3_16), (0, .ref (ga G 0)), (1, .int x1), (2, .int x2)]) hx hb dX9_encipher_94 hl (by decide) rfl (fun ls hl => ?_)
            refine lv_aload_n hx hb dX9_encipher_96 rfl (lv_at hl 2 rfl) ?_
            refine g_getr hx hb hB inB9 hown hK hH (c0 := 0) h0.1 rfl 79 (by decide) k219 rfl (c1 := 70) rfl dX9_encipher_97 ?_
            refine lv_iload_n hx hb dX9_encipher_100 rfl (lv_at hl 4 rfl) ?_
            obtain ⟨hi18, h⟩ := h
            refine g_iald hx hb hK hH (c0 := 70) (mA70 h0) hi18 dX9_encipher_101 ?_
            refine lv_topi (fun x5_19 ex5_19 => ?_)
            replace h := h x5_19 ex5_19
            refine lv_istore (lv' := [(5, .int x5_19), (4, .int w17), (3, .int x3_16), (0, .ref (ga G 0)), (1, .int x1), (2, .int x2)]) hx hb dX9_encipher_102 hl (by decide) rfl (fun ls hl => ?_)
            refine lv_iload_n hx hb dX9_encipher_104 rfl (lv_at hl 4 rfl) ?_
            refine lv_bipush (v := 10) hx hb dX9_encipher_105 (by decide) ?_
            refine lv_icmp_ge (tgt := 183) hx hb dX9_encipher_107 (by decide) (fun q20 => ?_) (fun q20 => ?_)
            · replace h := h.1 q20
              exact L183 x1 x2 x5_19 σ _ _ ls hH (lv_sub hl [3, 4, 5, 0] rfl) h
            · replace h := h.2 q20
              refine lv_aload_n hx hb dX9_encipher_110 rfl (lv_at hl 3 rfl) ?_
              refine g_getr hx hb hB inB9 hown hK hH (c0 := 0) h0.1 rfl 79 (by decide) k219 rfl (c1 := 70) rfl dX9_encipher_111 ?_
              refine lv_iload_n hx hb dX9_encipher_114 rfl (lv_at hl 2 rfl) ?_
              refine lv_iload hx hb dX9_encipher_115 (lv_at hl 1 rfl) ?_
              refine lv_iadd hx hb dX9_encipher_117 ?_
              obtain ⟨hi21, h⟩ := h
              refine g_iald hx hb hK hH (c0 := 70) (mA70 h0) hi21 dX9_encipher_118 ?_
              refine g_callSi (As := [.int (σ 70 (x3_16 + w17).toNatClampNeg)]) (rest := []) ⟨hx, hb, hml, hown, hB⟩ hK hX aA_hA hH (tX9_doubled h) (va_cwS 1 hB gSX9_238 rfl rfl rfl (by decide +kernel) ⟨Nat.le_of_ble_eq_true rfl, Nat.le_of_ble_eq_true rfl⟩) rfl hl.1 rfl (lv_room (Nat.le_of_ble_eq_true rfl)) ⟨Nat.zero_le _, Nat.zero_le _⟩ dX9_encipher_119 (fun r22 σ22 H locs h hH => ?_)
              refine lv_aload_n hx hb dX9_encipher_122 rfl (lv_at hl 3 rfl) ?_
              refine g_getr hx hb hB inB9 hown hK hH (c0 := 0) h0.1 rfl 79 (by decide) k219 rfl (c1 := 70) rfl dX9_encipher_123 ?_
              refine lv_iload_n hx hb dX9_encipher_126 rfl (lv_at hl 2 rfl) ?_
              refine lv_iload hx hb dX9_encipher_127 (lv_at hl 1 rfl) ?_
              refine lv_iconst (v := 1) hx hb dX9_encipher_129 (by decide) ?_
              refine lv_iadd hx hb dX9_encipher_130 ?_
              refine lv_iconst (v := 4) hx hb dX9_encipher_131 (by decide) ?_
              refine lv_irem hx hb dX9_encipher_132 (by decide) ?_
              refine lv_topi (fun w23 ew23 => ?_)
              replace h := h w23 ew23
              refine lv_iadd hx hb dX9_encipher_133 ?_
              obtain ⟨hi24, h⟩ := h
              refine g_iald hx hb hK hH (c0 := 70) (mA70 h0) hi24 dX9_encipher_134 ?_
              refine g_callSi (As := [.int (σ22 70 (x3_16 + w23).toNatClampNeg)]) (rest := [.int r22]) ⟨hx, hb, hml, hown, hB⟩ hK hX aA_hA hH (tX9_doubled h) (va_cwS 1 hB gSX9_238 rfl rfl rfl (by decide +kernel) ⟨Nat.le_of_ble_eq_true rfl, Nat.le_of_ble_eq_true rfl⟩) rfl hl.1 rfl (lv_room (Nat.le_of_ble_eq_true rfl)) ⟨Nat.zero_le _, Nat.zero_le _⟩ dX9_encipher_135 (fun r25 σ25 H locs h hH => ?_)
              refine lv_ixor hx hb dX9_encipher_138 ?_
              refine lv_aload_n hx hb dX9_encipher_139 rfl (lv_at hl 3 rfl) ?_
              refine g_getr hx hb hB inB9 hown hK hH (c0 := 0) h0.1 rfl 79 (by decide) k219 rfl (c1 := 70) rfl dX9_encipher_140 ?_
              refine lv_iload_n hx hb dX9_encipher_143 rfl (lv_at hl 2 rfl) ?_
              refine lv_iload hx hb dX9_encipher_144 (lv_at hl 1 rfl) ?_
              refine lv_iconst (v := 1) hx hb dX9_encipher_146 (by decide) ?_
              refine lv_iadd hx hb dX9_encipher_147 ?_
              refine lv_iconst (v := 4) hx hb dX9_encipher_148 (by decide) ?_
              refine lv_irem hx hb dX9_encipher_149 (by decide) ?_
              refine lv_topi (fun w26 ew26 => ?_)
              replace h := h w26 ew26
              refine lv_iadd hx hb dX9_encipher_150 ?_
              obtain ⟨hi27, h⟩ := h
              refine g_iald hx hb hK hH (c0 := 70) (mA70 h0) hi27 dX9_encipher_151 ?_
              refine lv_ixor hx hb dX9_encipher_152 ?_
              refine lv_aload_n hx hb dX9_encipher_153 rfl (lv_at hl 3 rfl) ?_
              refine g_getr hx hb hB inB9 hown hK hH (c0 := 0) h0.1 rfl 79 (by decide) k219 rfl (c1 := 70) rfl dX9_encipher_154 ?_
              refine lv_iload_n hx hb dX9_encipher_157 rfl (lv_at hl 2 rfl) ?_
              refine lv_iload hx hb dX9_encipher_158 (lv_at hl 1 rfl) ?_
              refine lv_iconst (v := 2) hx hb dX9_encipher_160 (by decide) ?_
              refine lv_iadd hx hb dX9_encipher_161 ?_
              refine lv_iconst (v := 4) hx hb dX9_encipher_162 (by decide) ?_
              refine lv_irem hx hb dX9_encipher_163 (by decide) ?_
              refine lv_topi (fun w28 ew28 => ?_)
              replace h := h w28 ew28
              refine lv_iadd hx hb dX9_encipher_164 ?_
              obtain ⟨hi29, h⟩ := h
              refine g_iald hx hb hK hH (c0 := 70) (mA70 h0) hi29 dX9_encipher_165 ?_
              refine lv_ixor hx hb dX9_encipher_166 ?_
              refine lv_aload_n hx hb dX9_encipher_167 rfl (lv_at hl 3 rfl) ?_
              refine g_getr hx hb hB inB9 hown hK hH (c0 := 0) h0.1 rfl 79 (by decide) k219 rfl (c1 := 70) rfl dX9_encipher_168 ?_
              refine lv_iload_n hx hb dX9_encipher_171 rfl (lv_at hl 2 rfl) ?_
              refine lv_iload hx hb dX9_encipher_172 (lv_at hl 1 rfl) ?_
              refine lv_iconst (v := 3) hx hb dX9_encipher_174 (by decide) ?_
              refine lv_iadd hx hb dX9_encipher_175 ?_
              refine lv_iconst (v := 4) hx hb dX9_encipher_176 (by decide) ?_
              refine lv_irem hx hb dX9_encipher_177 (by decide) ?_
              refine lv_topi (fun w30 ew30 => ?_)
              replace h := h w30 ew30
              refine lv_iadd hx hb dX9_encipher_178 ?_
              obtain ⟨hi31, h⟩ := h
              refine g_iald hx hb hK hH (c0 := 70) (mA70 h0) hi31 dX9_encipher_179 ?_
              refine lv_ixor hx hb dX9_encipher_180 ?_
              refine lv_topi (fun x5_32 ex5_32 => ?_)
              replace h := h x5_32 ex5_32
              refine lv_istore (lv' := [(5, .int x5_32), (4, .int w17), (3, .int x3_16), (0, .ref (ga G 0)), (1, .int x1), (2, .int x2)]) hx hb dX9_encipher_181 hl (by decide) rfl (fun ls hl => ?_)
              exact L183 x1 x2 x5_32 σ25 _ _ ls hH (lv_sub hl [3, 4, 5, 0] rfl) h
      have L39 : ∀ (n39 : Nat) (x1 : Int32) (x2 : Int32) (σ : Sg) (H : Heap) (locs : List Loc) (ls : Array Slot), Hx G (aA G s.heap.size) s σ H locs → lv_has ls 6 [(0, .ref (ga G 0)), (1, .int x1), (2, .int x2)] → wpX9_encipher_L39 Q (wpX9_encipher_L31 Q n31) n39 x1 x2 σ → W p l e ({ frames := 1, cells := 0, slots := 0, locals := 20 }) s m args below meth c H locs 0 0 (Zv G Q below args s) (F0 m 39 ls []) := by
        intro n39
        induction n39 with
        | zero =>
          intro x1 x2 σ H locs ls hH hl h
          exact False.elim h
        | succ n39 ih39 =>
          intro x1 x2 σ H locs ls hH hl h
          unfold wpX9_encipher_L39 at h
          refine lv_iload_n hx hb dX9_encipher_39 rfl (lv_at hl 2 rfl) ?_
          refine lv_bipush (v := 16) hx hb dX9_encipher_40 (by decide) ?_
          refine lv_icmp_ge (tgt := 77) hx hb dX9_encipher_42 (by decide) (fun q7 => ?_) (fun q7 => ?_)
          · replace h := h.1 q7
            refine lv_iconst (v := 0) hx hb dX9_encipher_77 (by decide) ?_
            refine lv_istore_n (lv' := [(2, .int 0), (0, .ref (ga G 0)), (1, .int x1)]) hx hb dX9_encipher_78 rfl hl (by decide) rfl (fun ls hl => ?_)
            obtain ⟨nn, h⟩ := h
            exact L79 nn x1 0 σ _ _ ls hH (lv_sub hl [1, 2, 0] rfl) h
          · replace h := h.2 q7
            refine lv_aload_n hx hb dX9_encipher_45 rfl (lv_at hl 0 rfl) ?_
            refine g_getr hx hb hB inB9 hown hK hH (c0 := 0) h0.1 rfl 79 (by decide) k219 rfl (c1 := 70) rfl dX9_encipher_46 ?_
            refine lv_iload_n hx hb dX9_encipher_49 rfl (lv_at hl 2 rfl) ?_
            refine lv_aload_n hx hb dX9_encipher_50 rfl (lv_at hl 0 rfl) ?_
            refine g_getr hx hb hB inB9 hown hK hH (c0 := 0) h0.1 rfl 76 (by decide) k210 rfl (c1 := 67) rfl dX9_encipher_51 ?_
            refine lv_aload_n hx hb dX9_encipher_54 rfl (lv_at hl 0 rfl) ?_
            refine g_getr hx hb hB inB9 hown hK hH (c0 := 0) h0.1 rfl 78 (by decide) k216 rfl (c1 := 69) rfl dX9_encipher_55 ?_
            refine lv_iload_n hx hb dX9_encipher_58 rfl (lv_at hl 2 rfl) ?_
            refine lv_iconst (v := 4) hx hb dX9_encipher_59 (by decide) ?_
            refine lv_iload_n hx hb dX9_encipher_60 rfl (lv_at hl 2 rfl) ?_
            refine lv_iconst (v := 4) hx hb dX9_encipher_61 (by decide) ?_
            refine lv_irem hx hb dX9_encipher_62 (by decide) ?_
            refine lv_topi (fun w8 ew8 => ?_)
            replace h := h w8 ew8
            refine lv_imul hx hb dX9_encipher_63 ?_
            refine lv_iadd hx hb dX9_encipher_64 ?_
            refine lv_bipush (v := 16) hx hb dX9_encipher_65 (by decide) ?_
            refine lv_irem hx hb dX9_encipher_67 (by decide) ?_
            refine lv_topi (fun w9 ew9 => ?_)
            replace h := h w9 ew9
            obtain ⟨hi10, h⟩ := h
            refine g_iald hx hb hK hH (c0 := 69) (mA69 h0) hi10 dX9_encipher_68 ?_
            obtain ⟨hi11, h⟩ := h
            refine g_iald hx hb hK hH (c0 := 67) (mA67 h0) hi11 dX9_encipher_69 ?_
            obtain ⟨hi12, h⟩ := h
            refine g_iast hx hb hK hH (c0 := 70) (i := x2) (mA70 h0) hi12 dX9_encipher_70 (fun σ12 eσ12 H locs hH => ?_)
            replace h := h σ12 eσ12
            obtain ⟨x2_13, ex2_13⟩ : ∃ y : Int32, y = x2 + 1 := ⟨_, rfl⟩
            replace h := h x2_13 ex2_13
            refine lv_iinc (v := x2_13) (lv' := [(2, .int x2_13), (0, .ref (ga G 0)), (1, .int x1)]) hx hb dX9_encipher_71 hl (k := 2) rfl (by rw [ex2_13]; rfl) (by decide) rfl (fun ls hl => ?_)
            refine lv_goto (tgt := 39) hx hb dX9_encipher_74 (by decide) ?_
            exact ih39 x1 x2_13 σ12 _ _ ls hH (lv_sub hl [1, 2, 0] rfl) h
      intro x1 σ H locs ls hH hl h
      unfold wpX9_encipher_L31 at h
      refine lv_iload_n hx hb dX9_encipher_31 rfl (lv_at hl 1 rfl) ?_
      refine lv_bipush (v := 10) hx hb dX9_encipher_32 (by decide) ?_
      refine lv_icmp_gt (tgt := 215) hx hb dX9_encipher_34 (by decide) (fun q6 => ?_) (fun q6 => ?_)
      · replace h := h.1 q6
        exact g_vret hx hb hr hK hlk h hH dX9_encipher_215
      · replace h := h.2 q6
        refine lv_iconst (v := 0) hx hb dX9_encipher_37 (by decide) ?_
        refine lv_istore_n (lv' := [(2, .int 0), (0, .ref (ga G 0)), (1, .int x1)]) hx hb dX9_encipher_38 rfl hl (by decide) rfl (fun ls hl => ?_)
        obtain ⟨nn, h⟩ := h
        exact L39 nn x1 0 σ _ _ ls hH (lv_sub hl [1, 2, 0] rfl) h
  have L2 : ∀ (n2 : Nat) (x1 : Int32) (σ : Sg) (H : Heap) (locs : List Loc) (ls : Array Slot), Hx G (aA G s.heap.size) s σ H locs → lv_has ls 6 [(0, .ref (ga G 0)), (1, .int x1)] → wpX9_encipher_L2 Q n2 x1 σ → W p l e ({ frames := 1, cells := 0, slots := 0, locals := 20 }) s m args below meth c H locs 0 0 (Zv G Q below args s) (F0 m 2 ls []) := by
    intro n2
    induction n2 with
    | zero =>
      intro x1 σ H locs ls hH hl h
      exact False.elim h
    | succ n2 ih2 =>
      intro x1 σ H locs ls hH hl h
      unfold wpX9_encipher_L2 at h
      refine lv_iload_n hx hb dX9_encipher_2 rfl (lv_at hl 1 rfl) ?_
      refine lv_bipush (v := 16) hx hb dX9_encipher_3 (by decide) ?_
      refine lv_icmp_ge (tgt := 29) hx hb dX9_encipher_5 (by decide) (fun q1 => ?_) (fun q1 => ?_)
      · replace h := h.1 q1
        refine lv_iconst (v := 1) hx hb dX9_encipher_29 (by decide) ?_
        refine lv_istore_n (lv' := [(1, .int 1), (0, .ref (ga G 0))]) hx hb dX9_encipher_30 rfl hl (by decide) rfl (fun ls hl => ?_)
        obtain ⟨nn, h⟩ := h
        exact L31 nn 1 σ _ _ ls hH (lv_sub hl [1, 0] rfl) h
      · replace h := h.2 q1
        refine lv_aload_n hx hb dX9_encipher_8 rfl (lv_at hl 0 rfl) ?_
        refine g_getr hx hb hB inB9 hown hK hH (c0 := 0) h0.1 rfl 78 (by decide) k216 rfl (c1 := 69) rfl dX9_encipher_9 ?_
        refine lv_iload_n hx hb dX9_encipher_12 rfl (lv_at hl 1 rfl) ?_
        refine lv_dup2_11 hx hb dX9_encipher_13 rfl rfl ?_
        obtain ⟨hi2, h⟩ := h
        refine g_iald hx hb hK hH (c0 := 69) (mA69 h0) hi2 dX9_encipher_14 ?_
        refine lv_aload_n hx hb dX9_encipher_15 rfl (lv_at hl 0 rfl) ?_
        refine g_getr hx hb hB inB9 hown hK hH (c0 := 0) h0.1 rfl 77 (by decide) k213 rfl (c1 := 68) rfl dX9_encipher_16 ?_
        refine lv_iload_n hx hb dX9_encipher_19 rfl (lv_at hl 1 rfl) ?_
        obtain ⟨hi3, h⟩ := h
        refine g_iald hx hb hK hH (c0 := 68) (mA68 h0) hi3 dX9_encipher_20 ?_
        refine lv_ixor hx hb dX9_encipher_21 ?_
        obtain ⟨hi4, h⟩ := h
        refine g_iast hx hb hK hH (c0 := 69) (i := x1) (mA69 h0) hi4 dX9_encipher_22 (fun σ4 eσ4 H locs hH => ?_)
        replace h := h σ4 eσ4
        obtain ⟨x1_5, ex1_5⟩ : ∃ y : Int32, y = x1 + 1 := ⟨_, rfl⟩
        replace h := h x1_5 ex1_5
        refine lv_iinc (v := x1_5) (lv' := [(1, .int x1_5), (0, .ref (ga G 0))]) hx hb dX9_encipher_23 hl (k := 1) rfl (by rw [ex1_5]; rfl) (by decide) rfl (fun ls hl => ?_)
        refine lv_goto (tgt := 2) hx hb dX9_encipher_26 (by decide) ?_
        exact ih2 x1_5 σ4 _ _ ls hH (lv_sub hl [1, 0] rfl) h
  unfold wpX9_encipher at h
  refine lv_iconst (v := 0) hx hb dX9_encipher_0 (by decide) ?_
  refine lv_istore_n (lv' := [(1, .int 0), (0, .ref (ga G 0))]) hx hb dX9_encipher_1 rfl hl (by decide) rfl (fun ls hl => ?_)
  obtain ⟨nn, h⟩ := h
  exact L2 nn 0 σ _ _ ls hH (lv_sub hl [1, 0] rfl) h
def wpX9_makeStream_L113 (Q : Sg → Prop) (K7 : Int32 → Int32 → Int32 → Int32 → Int32 → Sg → Prop) : Nat → Int32 → Int32 → Int32 → Int32 → Int32 → Int32 → Sg → Prop
  | 0, _, _, _, _, _, _, _ => False
  | n + 1, x1, x2, x3, x4, x5, x6, σ => ((16 ≤ x6 → ∀ x5_9 : Int32, x5_9 = x5 + 1 → K7 x1 x2 x3 x4 x5_9 σ) ∧ (¬ (16 ≤ x6) → (vp_in x6 16 ∧ (vp_in ((16 * x5) + x6) 128 ∧ ∀ σ11 : Sg, σ11 = up2 σ 71 (((16 * x5) + x6).toNatClampNeg) (σ 69 x6.toNatClampNeg) → ∀ x6_12 : Int32, x6_12 = x6 + 1 → (wpX9_makeStream_L113 Q K7 n) x1 x2 x3 x4 x5 x6_12 σ11))))
def wpX9_makeStream_L99 (Q : Sg → Prop) (K7 : Int32 → Int32 → Int32 → Int32 → Int32 → Sg → Prop) (K20 : Int32 → Int32 → Int32 → Int32 → Int32 → Int32 → Sg → Prop) (x1 : Int32) (x2 : Int32) (x3 : Int32) (x4 : Int32) (x5 : Int32) (x6 : Int32) (z0 : Int32) (z1 : Int32) (y2 : Nat) (σ : Sg) : Prop := (vp_in z1 16 ∧ ∀ σ13 : Sg, σ13 = up2 σ y2 z1.toNatClampNeg z0 → ∀ x6_14 : Int32, x6_14 = x6 + 1 → K20 x1 x2 x3 x4 x5 x6_14 σ13)
def wpX9_makeStream_L20 (Q : Sg → Prop) (K7 : Int32 → Int32 → Int32 → Int32 → Int32 → Sg → Prop) : Nat → Int32 → Int32 → Int32 → Int32 → Int32 → Int32 → Sg → Prop
  | 0, _, _, _, _, _, _, _ => False
  | n + 1, x1, x2, x3, x4, x5, x6, σ => ((16 ≤ x6 → wpX9_encipher σ (fun σ4 => ∃ nn, wpX9_makeStream_L113 Q K7 nn x1 x2 x3 x4 x5 0 σ4)) ∧ (¬ (16 ≤ x6) → ((4 ≤ x6 → ((¬ x6 = 4 → ((12 ≤ x6 → wpX9_makeStream_L99 Q K7 (wpX9_makeStream_L20 Q K7 n) x1 x2 x3 x4 x5 x6 ((x5 >>> ((8 * (15 - x6)) &&& 31)) &&& 255) x6 69 σ) ∧ (¬ (12 ≤ x6) → wpX9_makeStream_L99 Q K7 (wpX9_makeStream_L20 Q K7 n) x1 x2 x3 x4 x5 x6 0 x6 69 σ))) ∧ (x6 = 4 → wpX9_makeStream_L99 Q K7 (wpX9_makeStream_L20 Q K7 n) x1 x2 x3 x4 x5 x6 ((8 * x2) + (4 * x1)) x6 69 σ))) ∧ (¬ (4 ≤ x6) → wpX9_makeStream_L99 Q K7 (wpX9_makeStream_L20 Q K7 n) x1 x2 x3 x4 x5 x6 ((x3 >>> ((24 - (8 * x6)) &&& 31)) &&& 255) x6 69 σ))))
def wpX9_makeStream_L7 (Q : Sg → Prop) : Nat → Int32 → Int32 → Int32 → Int32 → Int32 → Sg → Prop
  | 0, _, _, _, _, _, _ => False
  | n + 1, x1, x2, x3, x4, x5, σ => ((x4 ≤ (16 * x5) → Q σ) ∧ (¬ (x4 ≤ (16 * x5)) → ∃ nn, wpX9_makeStream_L20 Q (wpX9_makeStream_L7 Q n) nn x1 x2 x3 x4 x5 0 σ))
def wpX9_makeStream (x1 : Int32) (x2 : Int32) (x3 : Int32) (x4 : Int32) (σ : Sg) (Q : Sg → Prop) : Prop := wpX9_makeKey σ (fun σ1 => ∃ nn, wpX9_makeStream_L7 Q nn x1 x2 x3 x4 0 σ1)
set_option maxHeartbeats 8000000 in
set_option maxRecDepth 100000 in
theorem tX9_makeStream {l : Launch} {G : GG} {x1 : Int32} {x2 : Int32} {x3 : Int32} {x4 : Int32} {σ : Sg} {Q : Sg → Prop} (h0 : isModel G) (h : wpX9_makeStream x1 x2 x3 x4 σ Q) : Kv l G yX9_makeStream (wB yX9_makeStream prog_11_method_9_code 7 none) ({ frames := 2, cells := 0, slots := 0, locals := 45 }) [.ref (ga G 0), .int x1, .int x2, .int x3, .int x4] σ Q := by
  refine K_of (cc := cX9_makeStream) (maxL := 7) (ret := none) (by decide) rfl (Nat.le_of_ble_eq_true rfl) ?_
  intro p e s m args below meth c ls B hH hl
  obtain ⟨hx, hb, hr, hts, hown, hlk, hml, hK, hX⟩ := B
  replace hl : lv_has ls 7 [(0, .ref (ga G 0)), (1, .int x1), (2, .int x2), (3, .int x3), (4, .int x4)] := hl
  have hB : ∀ w ∈ BIG, w.before args s = true := fun w h9 => hts w (List.mem_cons_of_mem _ h9)
  clear hts
  have k216 := hB _ bw4_188
  have k222 := hB _ bw4_190
  have L7 : ∀ (n7 : Nat) (x1 : Int32) (x2 : Int32) (x3 : Int32) (x4 : Int32) (x5 : Int32) (σ : Sg) (H : Heap) (locs : List Loc) (ls : Array Slot), Hx G (aA G s.heap.size) s σ H locs → lv_has ls 7 [(0, .ref (ga G 0)), (1, .int x1), (2, .int x2), (3, .int x3), (4, .int x4), (5, .int x5)] → wpX9_makeStream_L7 Q n7 x1 x2 x3 x4 x5 σ → W p l e ({ frames := 2, cells := 0, slots := 0, locals := 45 }) s m args below meth c H locs 0 0 (Zv G Q below args s) (F0 m 7 ls []) := by
    intro n7
    induction n7 with
    | zero =>
      intro x1 x2 x3 x4 x5 σ H locs ls hH hl h
      exact False.elim h
    | succ n7 ih7 =>
      have L113 : ∀ (n113 : Nat) (x1 : Int32) (x2 : Int32) (x3 : Int32) (x4 : Int32) (x5 : Int32) (x6 : Int32) (σ : Sg) (H : Heap) (locs : List Loc) (ls : Array Slot), Hx G (aA G s.heap.size) s σ H locs → lv_has ls 7 [(0, .ref (ga G 0)), (1, .int x1), (2, .int x2), (3, .int x3), (4, .int x4), (5, .int x5), (6, .int x6)] → wpX9_makeStream_L113 Q (wpX9_makeStream_L7 Q n7) n113 x1 x2 x3 x4 x5 x6 σ → W p l e ({ frames := 2, cells := 0, slots := 0, locals := 45 }) s m args below meth c H locs 0 0 (Zv G Q below args s) (F0 m 113 ls []) := by
        intro n113
        induction n113 with
        | zero =>
          intro x1 x2 x3 x4 x5 x6 σ H locs ls hH hl h
          exact False.elim h
        | succ n113 ih113 =>
          intro x1 x2 x3 x4 x5 x6 σ H locs ls hH hl h
          unfold wpX9_makeStream_L113 at h
          refine lv_iload hx hb dX9_makeStream_113 (lv_at hl 6 rfl) ?_
          refine lv_bipush (v := 16) hx hb dX9_makeStream_115 (by decide) ?_
          refine lv_icmp_ge (tgt := 146) hx hb dX9_makeStream_117 (by decide) (fun q8 => ?_) (fun q8 => ?_)
          · replace h := h.1 q8
            obtain ⟨x5_9, ex5_9⟩ : ∃ y : Int32, y = x5 + 1 := ⟨_, rfl⟩
            replace h := h x5_9 ex5_9
            refine lv_iinc (v := x5_9) (lv' := [(5, .int x5_9), (0, .ref (ga G 0)), (1, .int x1), (2, .int x2), (3, .int x3), (4, .int x4), (6, .int x6)]) hx hb dX9_makeStream_146 hl (k := 5) rfl (by rw [ex5_9]; rfl) (by decide) rfl (fun ls hl => ?_)
            refine lv_goto (tgt := 7) hx hb dX9_makeStream_149 (by decide) ?_
            exact ih7 x1 x2 x3 x4 x5_9 σ _ _ ls hH (lv_sub hl [1, 2, 3, 4, 5, 0] rfl) h
          · replace h := h.2 q8
            refine lv_aload_n hx hb dX9_makeStream_120 rfl (lv_at hl 0 rfl) ?_
            refine g_getr hx hb hB inB9 hown hK hH (c0 := 0) h0.1 rfl 80 (by decide) k222 rfl (c1 := 71) rfl dX9_makeStream_121 ?_
            refine lv_bipush (v := 16) hx hb dX9_makeStream_124 (by decide) ?_
            refine lv_iload hx hb dX9_makeStream_126 (lv_at hl 5 rfl) ?_
            refine lv_imul hx hb dX9_makeStream_128 ?_
            refine lv_iload hx hb dX9_makeStream_129 (lv_at hl 6 rfl) ?_
            refine lv_iadd hx hb dX9_makeStream_131 ?_
            refine lv_aload_n hx hb dX9_makeStream_132 rfl (lv_at hl 0 rfl) ?_
            refine g_getr hx hb hB inB9 hown hK hH (c0 := 0) h0.1 rfl 78 (by decide) k216 rfl (c1 := 69) rfl dX9_makeStream_133 ?_
            refine lv_iload hx hb dX9_makeStream_136 (lv_at hl 6 rfl) ?_
            obtain ⟨hi10, h⟩ := h
            refine g_iald hx hb hK hH (c0 := 69) (mA69 h0) hi10 dX9_makeStream_138 ?_
            obtain ⟨hi11, h⟩ := h
            refine g_iast hx hb hK hH (c0 := 71) (i := (16 * x5) + x6) (mA71 h0) hi11 dX9_makeStream_139 (fun σ11 eσ11 H locs hH => ?_)
            replace h := h σ11 eσ11
            obtain ⟨x6_12, ex6_12⟩ : ∃ y : Int32, y = x6 + 1 := ⟨_, rfl⟩
            replace h := h x6_12 ex6_12
            refine lv_iinc (v := x6_12) (lv' := [(6, .int x6_12), (0, .ref (ga G 0)), (1, .int x1), (2, .int x2), (3, .int x3), (4, .int x4), (5, .int x5)]) hx hb dX9_makeStream_140 hl (k := 6) rfl (by rw [ex6_12]; rfl) (by decide) rfl (fun ls hl => ?_)
            refine lv_goto (tgt := 113) hx hb dX9_makeStream_143 (by decide) ?_
            exact ih113 x1 x2 x3 x4 x5 x6_12 σ11 _ _ ls hH (lv_sub hl [1, 2, 3, 4, 5, 6, 0] rfl) h
      have L20 : ∀ (n20 : Nat) (x1 : Int32) (x2 : Int32) (x3 : Int32) (x4 : Int32) (x5 : Int32) (x6 : Int32) (σ : Sg) (H : Heap) (locs : List Loc) (ls : Array Slot), Hx G (aA G s.heap.size) s σ H locs → lv_has ls 7 [(0, .ref (ga G 0)), (1, .int x1), (2, .int x2), (3, .int x3), (4, .int x4), (5, .int x5), (6, .int x6)] → wpX9_makeStream_L20 Q (wpX9_makeStream_L7 Q n7) n20 x1 x2 x3 x4 x5 x6 σ → W p l e ({ frames := 2, cells := 0, slots := 0, locals := 45 }) s m args below meth c H locs 0 0 (Zv G Q below args s) (F0 m 20 ls []) := by
        intro n20
        induction n20 with
        | zero =>
          intro x1 x2 x3 x4 x5 x6 σ H locs ls hH hl h
          exact False.elim h
        | succ n20 ih20 =>
          have L99 : ∀ (x1 : Int32) (x2 : Int32) (x3 : Int32) (x4 : Int32) (x5 : Int32) (x6 : Int32) (z0 : Int32) (z1 : Int32) (y2 : Nat) (hy2 : isI G 16 y2) (σ : Sg) (H : Heap) (locs : List Loc) (ls : Array Slot), Hx G (aA G s.heap.size) s σ H locs → lv_has ls 7 [(0, .ref (ga G 0)), (1, .int x1), (2, .int x2), (3, .int x3), (4, .int x4), (5, .int x5), (6, .int x6)] → wpX9_makeStream_L99 Q (wpX9_makeStream_L7 Q n7) (wpX9_makeStream_L20 Q (wpX9_makeStream_L7 Q n7) n20) x1 x2 x3 x4 x5 x6 z0 z1 y2 σ → W p l e ({ frames := 2, cells := 0, slots := 0, locals := 45 }) s m args below meth c H locs 0 0 (Zv G Q below args s) (F0 m 99 ls [.int z0, .int z1, .ref (ga G y2)]) := by
            intro x1 x2 x3 x4 x5 x6 z0 z1 y2 hy2 σ H locs ls hH hl h
            unfold wpX9_makeStream_L99 at h
            obtain ⟨hi13, h⟩ := h
            refine g_iast hx hb hK hH (c0 := y2) (i := z1) hy2 hi13 dX9_makeStream_99 (fun σ13 eσ13 H locs hH => ?_)
            replace h := h σ13 eσ13
            obtain ⟨x6_14, ex6_14⟩ : ∃ y : Int32, y = x6 + 1 := ⟨_, rfl⟩
            replace h := h x6_14 ex6_14
            refine lv_iinc (v := x6_14) (lv' := [(6, .int x6_14), (0, .ref (ga G 0)), (1, .int x1), (2, .int x2), (3, .int x3), (4, .int x4), (5, .int x5)]) hx hb dX9_makeStream_100 hl (k := 6) rfl (by rw [ex6_14]; rfl) (by decide) rfl (fun ls hl => ?_)
            refine lv_goto (tgt := 20) hx hb dX9_makeStream_103 (by decide) ?_
            exact ih20 x1 x2 x3 x4 x5 x6_14 σ13 _ _ ls hH (lv_sub hl [1, 2, 3, 4, 5, 6, 0] rfl) h
          intro x1 x2 x3 x4 x5 x6 σ H locs ls hH hl h
          unfold wpX9_makeStream_L20 at h
          refine lv_iload hx hb dX9_makeStream_20 (lv_at hl 6 rfl) ?_
          refine lv_bipush (v := 16) hx hb dX9_makeStream_22 (by decide) ?_
          refine lv_icmp_ge (tgt := 106) hx hb dX9_makeStream_24 (by decide) (fun q3 => ?_) (fun q3 => ?_)
          · replace h := h.1 q3
            refine lv_aload_n hx hb dX9_makeStream_106 rfl (lv_at hl 0 rfl) ?_
            refine g_callVv (As := []) (rest := []) ⟨hx, hb, hml, hown, hB⟩ hK hX aA_hA hH (c0 := 0) (tX9_encipher h0 h) (cwV 0 hB gVX9_252 rfl rfl rfl (by decide +kernel) ⟨Nat.le_of_ble_eq_true rfl, Nat.le_of_ble_eq_true rfl⟩) h0.1 rfl rfl hl.1 rfl (lv_room (Nat.le_of_ble_eq_true rfl)) ⟨Nat.zero_le _, Nat.zero_le _⟩ dX9_makeStream_107 (fun σ4 H locs h hH => ?_)
            refine lv_iconst (v := 0) hx hb dX9_makeStream_110 (by decide) ?_
            refine lv_istore (lv' := [(6, .int 0), (0, .ref (ga G 0)), (1, .int x1), (2, .int x2), (3, .int x3), (4, .int x4), (5, .int x5)]) hx hb dX9_makeStream_111 hl (by decide) rfl (fun ls hl => ?_)
            obtain ⟨nn, h⟩ := h
            exact L113 nn x1 x2 x3 x4 x5 0 σ4 _ _ ls hH (lv_sub hl [1, 2, 3, 4, 5, 6, 0] rfl) h
          · replace h := h.2 q3
            refine lv_aload_n hx hb dX9_makeStream_27 rfl (lv_at hl 0 rfl) ?_
            refine g_getr hx hb hB inB9 hown hK hH (c0 := 0) h0.1 rfl 78 (by decide) k216 rfl (c1 := 69) rfl dX9_makeStream_28 ?_
            refine lv_iload hx hb dX9_makeStream_31 (lv_at hl 6 rfl) ?_
            refine lv_iload hx hb dX9_makeStream_33 (lv_at hl 6 rfl) ?_
            refine lv_iconst (v := 4) hx hb dX9_makeStream_35 (by decide) ?_
            refine lv_icmp_ge (tgt := 56) hx hb dX9_makeStream_36 (by decide) (fun q5 => ?_) (fun q5 => ?_)
            · replace h := h.1 q5
              refine lv_iload hx hb dX9_makeStream_56 (lv_at hl 6 rfl) ?_
              refine lv_iconst (v := 4) hx hb dX9_makeStream_58 (by decide) ?_
              refine lv_icmp_ne (tgt := 73) hx hb dX9_makeStream_59 (by decide) (fun q6 => ?_) (fun q6 => ?_)
              · replace h := h.1 q6
                refine lv_iload hx hb dX9_makeStream_73 (lv_at hl 6 rfl) ?_
                refine lv_bipush (v := 12) hx hb dX9_makeStream_75 (by decide) ?_
                refine lv_icmp_ge (tgt := 84) hx hb dX9_makeStream_77 (by decide) (fun q7 => ?_) (fun q7 => ?_)
                · replace h := h.1 q7
                  refine lv_iload hx hb dX9_makeStream_84 (lv_at hl 5 rfl) ?_
                  refine lv_bipush (v := 8) hx hb dX9_makeStream_86 (by decide) ?_
                  refine lv_bipush (v := 15) hx hb dX9_makeStream_88 (by decide) ?_
                  refine lv_iload hx hb dX9_makeStream_90 (lv_at hl 6 rfl) ?_
                  refine lv_isub hx hb dX9_makeStream_92 ?_
                  refine lv_imul hx hb dX9_makeStream_93 ?_
                  refine lv_ishr hx hb dX9_makeStream_94 ?_
                  refine lv_sipush (v := 255) hx hb dX9_makeStream_95 (by decide) ?_
                  refine lv_iand hx hb dX9_makeStream_98 ?_
                  exact L99 x1 x2 x3 x4 x5 x6 ((x5 >>> ((8 * (15 - x6)) &&& 31)) &&& 255) x6 69 ((mA69 h0)) σ _ _ ls hH (lv_sub hl [0, 1, 2, 3, 4, 5, 6] rfl) h
                · replace h := h.2 q7
                  refine lv_iconst (v := 0) hx hb dX9_makeStream_80 (by decide) ?_
                  refine lv_goto (tgt := 99) hx hb dX9_makeStream_81 (by decide) ?_
                  exact L99 x1 x2 x3 x4 x5 x6 0 x6 69 ((mA69 h0)) σ _ _ ls hH (lv_sub hl [0, 1, 2, 3, 4, 5, 6] rfl) h
              · replace h := h.2 q6
                refine lv_bipush (v := 8) hx hb dX9_makeStream_62 (by decide) ?_
                refine lv_iload_n hx hb dX9_makeStream_64 rfl (lv_at hl 2 rfl) ?_
                refine lv_imul hx hb dX9_makeStream_65 ?_
                refine lv_iconst (v := 4) hx hb dX9_makeStream_66 (by decide) ?_
                refine lv_iload_n hx hb dX9_makeStream_67 rfl (lv_at hl 1 rfl) ?_
                refine lv_imul hx hb dX9_makeStream_68 ?_
                refine lv_iadd hx hb dX9_makeStream_69 ?_
                refine lv_goto (tgt := 99) hx hb dX9_makeStream_70 (by decide) ?_
                exact L99 x1 x2 x3 x4 x5 x6 ((8 * x2) + (4 * x1)) x6 69 ((mA69 h0)) σ _ _ ls hH (lv_sub hl [0, 1, 2, 3, 4, 5, 6] rfl) h
            · replace h := h.2 q5
              refine lv_iload_n hx hb dX9_makeStream_39 rfl (lv_at hl 3 rfl) ?_
              refine lv_bipush (v := 24) hx hb dX9_makeStream_40 (by decide) ?_
              refine lv_bipush (v := 8) hx hb dX9_makeStream_42 (by decide) ?_
              refine lv_iload hx hb dX9_makeStream_44 (lv_at hl 6 rfl) ?_
              refine lv_imul hx hb dX9_makeStream_46 ?_
              refine lv_isub hx hb dX9_makeStream_47 ?_
              refine lv_ishr hx hb dX9_makeStream_48 ?_
              refine lv_sipush (v := 255) hx hb dX9_makeStream_49 (by decide) ?_
              refine lv_iand hx hb dX9_makeStream_52 ?_
              refine lv_goto (tgt := 99) hx hb dX9_makeStream_53 (by decide) ?_
              exact L99 x1 x2 x3 x4 x5 x6 ((x3 >>> ((24 - (8 * x6)) &&& 31)) &&& 255) x6 69 ((mA69 h0)) σ _ _ ls hH (lv_sub hl [0, 1, 2, 3, 4, 5, 6] rfl) h
      intro x1 x2 x3 x4 x5 σ H locs ls hH hl h
      unfold wpX9_makeStream_L7 at h
      refine lv_bipush (v := 16) hx hb dX9_makeStream_7 (by decide) ?_
      refine lv_iload hx hb dX9_makeStream_9 (lv_at hl 5 rfl) ?_
      refine lv_imul hx hb dX9_makeStream_11 ?_
      refine lv_iload hx hb dX9_makeStream_12 (lv_at hl 4 rfl) ?_
      refine lv_icmp_ge (tgt := 152) hx hb dX9_makeStream_14 (by decide) (fun q2 => ?_) (fun q2 => ?_)
      · replace h := h.1 q2
        exact g_vret hx hb hr hK hlk h hH dX9_makeStream_152
      · replace h := h.2 q2
        refine lv_iconst (v := 0) hx hb dX9_makeStream_17 (by decide) ?_
        refine lv_istore (lv' := [(6, .int 0), (0, .ref (ga G 0)), (1, .int x1), (2, .int x2), (3, .int x3), (4, .int x4), (5, .int x5)]) hx hb dX9_makeStream_18 hl (by decide) rfl (fun ls hl => ?_)
        obtain ⟨nn, h⟩ := h
        exact L20 nn x1 x2 x3 x4 x5 0 σ _ _ ls hH (lv_sub hl [1, 2, 3, 4, 5, 6, 0] rfl) h
  unfold wpX9_makeStream at h
  refine lv_aload_n hx hb dX9_makeStream_0 rfl (lv_at hl 0 rfl) ?_
  refine g_callVv (As := []) (rest := []) ⟨hx, hb, hml, hown, hB⟩ hK hX aA_hA hH (c0 := 0) (tX9_makeKey h0 h) (cwV 0 hB gVX9_249 rfl rfl rfl (by decide +kernel) ⟨Nat.le_of_ble_eq_true rfl, Nat.le_of_ble_eq_true rfl⟩) h0.1 rfl rfl hl.1 rfl (lv_room (Nat.le_of_ble_eq_true rfl)) ⟨Nat.zero_le _, Nat.zero_le _⟩ dX9_makeStream_1 (fun σ1 H locs h hH => ?_)
  refine lv_iconst (v := 0) hx hb dX9_makeStream_4 (by decide) ?_
  refine lv_istore (lv' := [(5, .int 0), (0, .ref (ga G 0)), (1, .int x1), (2, .int x2), (3, .int x3), (4, .int x4)]) hx hb dX9_makeStream_5 hl (by decide) rfl (fun ls hl => ?_)
  obtain ⟨nn, h⟩ := h
  exact L7 nn x1 x2 x3 x4 0 σ1 _ _ ls hH (lv_sub hl [1, 2, 3, 4, 5, 0] rfl) h
def wpX9_feed_L70 (Q : Int32 → Sg → Prop) (K17 : Int32 → Int32 → Int32 → Int32 → Int32 → Int32 → Sg → Prop) (x1 : Int32) (x2 : Int32) (x3 : Int32) (x4 : Int32) (x5 : Int32) (x6 : Int32) (z0 : Int32) (σ : Sg) : Prop := ∀ w8 : Int32, w8 = x6 - x6 / 4 * 4 → (vp_in ((σ 0 10) + x6) 120 ∧ ∀ σ9 : Sg, σ9 = up2 σ 1 (((σ 0 10) + x6).toNatClampNeg) ((z0 >>> ((24 - (8 * w8)) &&& 31)) &&& 255) → ∀ x6_10 : Int32, x6_10 = x6 + 1 → K17 x1 x2 x3 x4 x5 x6_10 σ9)
def wpX9_feed_L17 (Q : Int32 → Sg → Prop) : Nat → Int32 → Int32 → Int32 → Int32 → Int32 → Int32 → Sg → Prop
  | 0, _, _, _, _, _, _, _ => False
  | n + 1, x1, x2, x3, x4, x5, x6, σ => ((20 ≤ x6 → ∀ σ3 : Sg, σ3 = up2 σ 0 10 ((σ 0 10) + 20) → Q (σ3 0 10) σ3) ∧ (¬ (20 ≤ x6) → ((4 ≤ x6 → ((8 ≤ x6 → ((12 ≤ x6 → ((16 ≤ x6 → wpX9_feed_L70 Q (wpX9_feed_L17 Q n) x1 x2 x3 x4 x5 x6 x5 σ) ∧ (¬ (16 ≤ x6) → wpX9_feed_L70 Q (wpX9_feed_L17 Q n) x1 x2 x3 x4 x5 x6 x4 σ))) ∧ (¬ (12 ≤ x6) → wpX9_feed_L70 Q (wpX9_feed_L17 Q n) x1 x2 x3 x4 x5 x6 x3 σ))) ∧ (¬ (8 ≤ x6) → wpX9_feed_L70 Q (wpX9_feed_L17 Q n) x1 x2 x3 x4 x5 x6 x2 σ))) ∧ (¬ (4 ≤ x6) → wpX9_feed_L70 Q (wpX9_feed_L17 Q n) x1 x2 x3 x4 x5 x6 x1 σ))))
def wpX9_feed (x1 : Int32) (x2 : Int32) (x3 : Int32) (x4 : Int32) (x5 : Int32) (σ : Sg) (Q : Int32 → Sg → Prop) : Prop := ((((σ 0 10) + 20) ≤ 120 → ∃ nn, wpX9_feed_L17 Q nn x1 x2 x3 x4 x5 0 σ) ∧ (¬ (((σ 0 10) + 20) ≤ 120) → Q (-1) σ))
set_option maxHeartbeats 8000000 in
set_option maxRecDepth 100000 in
theorem tX9_feed {l : Launch} {G : GG} {x1 : Int32} {x2 : Int32} {x3 : Int32} {x4 : Int32} {x5 : Int32} {σ : Sg} {Q : Int32 → Sg → Prop} (h0 : isModel G) (h : wpX9_feed x1 x2 x3 x4 x5 σ Q) : Ki l G yX9_feed (wB yX9_feed prog_11_method_10_code 8 (Option.some FieldType.int)) ({ frames := 0, cells := 0, slots := 0, locals := 0 }) [.ref (ga G 0), .int x1, .int x2, .int x3, .int x4, .int x5] σ Q := by
  refine K_of (cc := cX9_feed) (maxL := 8) (ret := (some .int)) (by decide) rfl (Nat.le_of_ble_eq_true rfl) ?_
  intro p e s m args below meth c ls B hH hl
  obtain ⟨hx, hb, hr, hts, hown, hlk, hml, hK, hX⟩ := B
  replace hl : lv_has ls 8 [(0, .ref (ga G 0)), (1, .int x1), (2, .int x2), (3, .int x3), (4, .int x4), (5, .int x5)] := hl
  have hB : ∀ w ∈ BIG, w.before args s = true := fun w h9 => hts w (List.mem_cons_of_mem _ h9)
  clear hts
  have k9 := hB _ bw4_119
  have k255 := hB _ bw4_120
  have L17 : ∀ (n17 : Nat) (x1 : Int32) (x2 : Int32) (x3 : Int32) (x4 : Int32) (x5 : Int32) (x6 : Int32) (σ : Sg) (H : Heap) (locs : List Loc) (ls : Array Slot), Hx G (aA G s.heap.size) s σ H locs → lv_has ls 8 [(0, .ref (ga G 0)), (1, .int x1), (2, .int x2), (3, .int x3), (4, .int x4), (5, .int x5), (6, .int x6)] → wpX9_feed_L17 Q n17 x1 x2 x3 x4 x5 x6 σ → W p l e ({ frames := 0, cells := 0, slots := 0, locals := 0 }) s m args below meth c H locs 0 0 (Zi G Q below args s) (F0 m 17 ls []) := by
    intro n17
    induction n17 with
    | zero =>
      intro x1 x2 x3 x4 x5 x6 σ H locs ls hH hl h
      exact False.elim h
    | succ n17 ih17 =>
      have L70 : ∀ (x1 : Int32) (x2 : Int32) (x3 : Int32) (x4 : Int32) (x5 : Int32) (x6 : Int32) (z0 : Int32) (σ : Sg) (H : Heap) (locs : List Loc) (ls : Array Slot), Hx G (aA G s.heap.size) s σ H locs → lv_has ls 8 [(0, .ref (ga G 0)), (1, .int x1), (2, .int x2), (3, .int x3), (4, .int x4), (5, .int x5), (6, .int x6)] → wpX9_feed_L70 Q (wpX9_feed_L17 Q n17) x1 x2 x3 x4 x5 x6 z0 σ → W p l e ({ frames := 0, cells := 0, slots := 0, locals := 0 }) s m args below meth c H locs 0 0 (Zi G Q below args s) (F0 m 70 ls [.int z0]) := by
        intro x1 x2 x3 x4 x5 x6 z0 σ H locs ls hH hl h
        unfold wpX9_feed_L70 at h
        refine lv_istore (lv' := [(7, .int z0), (0, .ref (ga G 0)), (1, .int x1), (2, .int x2), (3, .int x3), (4, .int x4), (5, .int x5), (6, .int x6)]) hx hb dX9_feed_70 hl (by decide) rfl (fun ls hl => ?_)
        refine lv_aload_n hx hb dX9_feed_72 rfl (lv_at hl 1 rfl) ?_
        refine g_getr hx hb hB inB9 hown hK hH (c0 := 0) h0.1 rfl 9 (by decide) k9 rfl (c1 := 1) rfl dX9_feed_73 ?_
        refine lv_aload_n hx hb dX9_feed_76 rfl (lv_at hl 1 rfl) ?_
        refine g_geti hx hb hB inB9 hown hK hH (c0 := 0) h0.1 rfl 10 (by decide) k255 rfl rfl dX9_feed_77 ?_
        refine lv_iload hx hb dX9_feed_80 (lv_at hl 7 rfl) ?_
        refine lv_iadd hx hb dX9_feed_82 ?_
        refine lv_iload hx hb dX9_feed_83 (lv_at hl 0 rfl) ?_
        refine lv_bipush (v := 24) hx hb dX9_feed_85 (by decide) ?_
        refine lv_bipush (v := 8) hx hb dX9_feed_87 (by decide) ?_
        refine lv_iload hx hb dX9_feed_89 (lv_at hl 7 rfl) ?_
        refine lv_iconst (v := 4) hx hb dX9_feed_91 (by decide) ?_
        refine lv_irem hx hb dX9_feed_92 (by decide) ?_
        refine lv_topi (fun w8 ew8 => ?_)
        replace h := h w8 ew8
        refine lv_imul hx hb dX9_feed_93 ?_
        refine lv_isub hx hb dX9_feed_94 ?_
        refine lv_ishr hx hb dX9_feed_95 ?_
        refine lv_sipush (v := 255) hx hb dX9_feed_96 (by decide) ?_
        refine lv_iand hx hb dX9_feed_99 ?_
        obtain ⟨hi9, h⟩ := h
        refine g_iast hx hb hK hH (c0 := 1) (i := (σ 0 10) + x6) (mA1 h0) hi9 dX9_feed_100 (fun σ9 eσ9 H locs hH => ?_)
        replace h := h σ9 eσ9
        obtain ⟨x6_10, ex6_10⟩ : ∃ y : Int32, y = x6 + 1 := ⟨_, rfl⟩
        replace h := h x6_10 ex6_10
        refine lv_iinc (v := x6_10) (lv' := [(6, .int x6_10), (7, .int z0), (0, .ref (ga G 0)), (1, .int x1), (2, .int x2), (3, .int x3), (4, .int x4), (5, .int x5)]) hx hb dX9_feed_101 hl (k := 7) rfl (by rw [ex6_10]; rfl) (by decide) rfl (fun ls hl => ?_)
        refine lv_goto (tgt := 17) hx hb dX9_feed_104 (by decide) ?_
        exact ih17 x1 x2 x3 x4 x5 x6_10 σ9 _ _ ls hH (lv_sub hl [2, 3, 4, 5, 6, 7, 0] rfl) h
      intro x1 x2 x3 x4 x5 x6 σ H locs ls hH hl h
      unfold wpX9_feed_L17 at h
      refine lv_iload hx hb dX9_feed_17 (lv_at hl 6 rfl) ?_
      refine lv_bipush (v := 20) hx hb dX9_feed_19 (by decide) ?_
      refine lv_icmp_ge (tgt := 107) hx hb dX9_feed_21 (by decide) (fun q2 => ?_) (fun q2 => ?_)
      · replace h := h.1 q2
        refine lv_aload_n hx hb dX9_feed_107 rfl (lv_at hl 0 rfl) ?_
        refine lv_dup hx hb dX9_feed_108 rfl ?_
        refine g_geti hx hb hB inB9 hown hK hH (c0 := 0) h0.1 rfl 10 (by decide) k255 rfl rfl dX9_feed_109 ?_
        refine lv_bipush (v := 20) hx hb dX9_feed_112 (by decide) ?_
        refine lv_iadd hx hb dX9_feed_114 ?_
        refine g_put hx hb hB inB9 tyX9 tyX9_ok nmX9 hown hK hH (c0 := 0) h0.1 rfl 10 (by decide) k255 rfl rfl rfl rfl rfl dX9_feed_115 (fun σ3 eσ3 H locs hH => ?_)
        replace h := h σ3 eσ3
        refine lv_aload_n hx hb dX9_feed_118 rfl (lv_at hl 0 rfl) ?_
        refine g_geti hx hb hB inB9 hown hK hH (c0 := 0) h0.1 rfl 10 (by decide) k255 rfl rfl dX9_feed_119 ?_
        exact g_iret hx hb hr hK hlk h hH dX9_feed_122
      · replace h := h.2 q2
        refine lv_iload hx hb dX9_feed_24 (lv_at hl 6 rfl) ?_
        refine lv_iconst (v := 4) hx hb dX9_feed_26 (by decide) ?_
        refine lv_icmp_ge (tgt := 34) hx hb dX9_feed_27 (by decide) (fun q4 => ?_) (fun q4 => ?_)
        · replace h := h.1 q4
          refine lv_iload hx hb dX9_feed_34 (lv_at hl 6 rfl) ?_
          refine lv_bipush (v := 8) hx hb dX9_feed_36 (by decide) ?_
          refine lv_icmp_ge (tgt := 45) hx hb dX9_feed_38 (by decide) (fun q5 => ?_) (fun q5 => ?_)
          · replace h := h.1 q5
            refine lv_iload hx hb dX9_feed_45 (lv_at hl 6 rfl) ?_
            refine lv_bipush (v := 12) hx hb dX9_feed_47 (by decide) ?_
            refine lv_icmp_ge (tgt := 56) hx hb dX9_feed_49 (by decide) (fun q6 => ?_) (fun q6 => ?_)
            · replace h := h.1 q6
              refine lv_iload hx hb dX9_feed_56 (lv_at hl 6 rfl) ?_
              refine lv_bipush (v := 16) hx hb dX9_feed_58 (by decide) ?_
              refine lv_icmp_ge (tgt := 68) hx hb dX9_feed_60 (by decide) (fun q7 => ?_) (fun q7 => ?_)
              · replace h := h.1 q7
                refine lv_iload hx hb dX9_feed_68 (lv_at hl 5 rfl) ?_
                exact L70 x1 x2 x3 x4 x5 x6 x5 σ _ _ ls hH (lv_sub hl [0, 1, 2, 3, 4, 5, 6] rfl) h
              · replace h := h.2 q7
                refine lv_iload hx hb dX9_feed_63 (lv_at hl 4 rfl) ?_
                refine lv_goto (tgt := 70) hx hb dX9_feed_65 (by decide) ?_
                exact L70 x1 x2 x3 x4 x5 x6 x4 σ _ _ ls hH (lv_sub hl [0, 1, 2, 3, 4, 5, 6] rfl) h
            · replace h := h.2 q6
              refine lv_iload_n hx hb dX9_feed_52 rfl (lv_at hl 3 rfl) ?_
              refine lv_goto (tgt := 70) hx hb dX9_feed_53 (by decide) ?_
              exact L70 x1 x2 x3 x4 x5 x6 x3 σ _ _ ls hH (lv_sub hl [0, 1, 2, 3, 4, 5, 6] rfl) h
          · replace h := h.2 q5
            refine lv_iload_n hx hb dX9_feed_41 rfl (lv_at hl 2 rfl) ?_
            refine lv_goto (tgt := 70) hx hb dX9_feed_42 (by decide) ?_
            exact L70 x1 x2 x3 x4 x5 x6 x2 σ _ _ ls hH (lv_sub hl [0, 1, 2, 3, 4, 5, 6] rfl) h
        · replace h := h.2 q4
          refine lv_iload_n hx hb dX9_feed_30 rfl (lv_at hl 1 rfl) ?_
          refine lv_goto (tgt := 70) hx hb dX9_feed_31 (by decide) ?_
          exact L70 x1 x2 x3 x4 x5 x6 x1 σ _ _ ls hH (lv_sub hl [0, 1, 2, 3, 4, 5, 6] rfl) h
  unfold wpX9_feed at h
  refine lv_aload_n hx hb dX9_feed_0 rfl (lv_at hl 0 rfl) ?_
  refine g_geti hx hb hB inB9 hown hK hH (c0 := 0) h0.1 rfl 10 (by decide) k255 rfl rfl dX9_feed_1 ?_
  refine lv_bipush (v := 20) hx hb dX9_feed_4 (by decide) ?_
  refine lv_iadd hx hb dX9_feed_6 ?_
  refine lv_bipush (v := 120) hx hb dX9_feed_7 (by decide) ?_
  refine lv_icmp_le (tgt := 14) hx hb dX9_feed_9 (by decide) (fun q1 => ?_) (fun q1 => ?_)
  · replace h := h.1 q1
    refine lv_iconst (v := 0) hx hb dX9_feed_14 (by decide) ?_
    refine lv_istore (lv' := [(6, .int 0), (0, .ref (ga G 0)), (1, .int x1), (2, .int x2), (3, .int x3), (4, .int x4), (5, .int x5)]) hx hb dX9_feed_15 hl (by decide) rfl (fun ls hl => ?_)
    obtain ⟨nn, h⟩ := h
    exact L17 nn x1 x2 x3 x4 x5 0 σ _ _ ls hH (lv_sub hl [1, 2, 3, 4, 5, 6, 0] rfl) h
  · replace h := h.2 q1
    refine lv_iconst (v := (-1)) hx hb dX9_feed_12 (by decide) ?_
    exact g_iret hx hb hr hK hlk h hH dX9_feed_13
def wpX9_end (x1 : Int32) (σ : Sg) (Q : Int32 → Sg → Prop) : Prop := ((x1 < 0 → Q (-1) σ) ∧ (¬ (x1 < 0) → ((x1 ≤ (σ 0 10) → ∀ σ3 : Sg, σ3 = up2 σ 0 10 x1 → Q x1 σ3) ∧ (¬ (x1 ≤ (σ 0 10)) → Q (-1) σ))))
set_option maxHeartbeats 8000000 in
set_option maxRecDepth 100000 in
theorem tX9_end {l : Launch} {G : GG} {x1 : Int32} {σ : Sg} {Q : Int32 → Sg → Prop} (h0 : isModel G) (h : wpX9_end x1 σ Q) : Ki l G yX9_end (wB yX9_end prog_11_method_11_code 2 (Option.some FieldType.int)) ({ frames := 0, cells := 0, slots := 0, locals := 0 }) [.ref (ga G 0), .int x1] σ Q := by
  refine K_of (cc := cX9_end) (maxL := 2) (ret := (some .int)) (by decide) rfl (Nat.le_of_ble_eq_true rfl) ?_
  intro p e s m args below meth c ls B hH hl
  obtain ⟨hx, hb, hr, hts, hown, hlk, hml, hK, hX⟩ := B
  replace hl : lv_has ls 2 [(0, .ref (ga G 0)), (1, .int x1)] := hl
  have hB : ∀ w ∈ BIG, w.before args s = true := fun w h9 => hts w (List.mem_cons_of_mem _ h9)
  clear hts
  have k255 := hB _ bw4_120
  unfold wpX9_end at h
  refine lv_iload_n hx hb dX9_end_0 rfl (lv_at hl 1 rfl) ?_
  refine lv_if_lt (tgt := 12) hx hb dX9_end_1 (by decide) (fun q1 => ?_) (fun q1 => ?_)
  · replace h := h.1 q1
    refine lv_iconst (v := (-1)) hx hb dX9_end_12 (by decide) ?_
    exact g_iret hx hb hr hK hlk h hH dX9_end_13
  · replace h := h.2 q1
    refine lv_iload_n hx hb dX9_end_4 rfl (lv_at hl 1 rfl) ?_
    refine lv_aload_n hx hb dX9_end_5 rfl (lv_at hl 0 rfl) ?_
    refine g_geti hx hb hB inB9 hown hK hH (c0 := 0) h0.1 rfl 10 (by decide) k255 rfl rfl dX9_end_6 ?_
    refine lv_icmp_le (tgt := 14) hx hb dX9_end_9 (by decide) (fun q2 => ?_) (fun q2 => ?_)
    · replace h := h.1 q2
      refine lv_aload_n hx hb dX9_end_14 rfl (lv_at hl 0 rfl) ?_
      refine lv_iload_n hx hb dX9_end_15 rfl (lv_at hl 1 rfl) ?_
      refine g_put hx hb hB inB9 tyX9 tyX9_ok nmX9 hown hK hH (c0 := 0) h0.1 rfl 10 (by decide) k255 rfl rfl rfl rfl rfl dX9_end_16 (fun σ3 eσ3 H locs hH => ?_)
      replace h := h σ3 eσ3
      refine lv_iload_n hx hb dX9_end_19 rfl (lv_at hl 1 rfl) ?_
      exact g_iret hx hb hr hK hlk h hH dX9_end_20
    · replace h := h.2 q2
      refine lv_iconst (v := (-1)) hx hb dX9_end_12 (by decide) ?_
      exact g_iret hx hb hr hK hlk h hH dX9_end_13
def wpX9_lowest_L26 (Q : Int32 → Sg → Prop) : Nat → Int32 → Int32 → Sg → Prop
  | 0, _, _, _ => False
  | n + 1, x1, x2, σ => (vp_in x1 6 ∧ (((σ 2 x1.toNatClampNeg) ≤ x2 → Q x2 σ) ∧ (¬ ((σ 2 x1.toNatClampNeg) ≤ x2) → (vp_in ((32 * x1) + (x2 &&& 31)) 192 ∧ ((¬ (σ 15 ((32 * x1) + (x2 &&& 31)).toNatClampNeg) = 0 → Q x2 σ) ∧ ((σ 15 ((32 * x1) + (x2 &&& 31)).toNatClampNeg) = 0 → ∀ x2_8 : Int32, x2_8 = x2 + 1 → (wpX9_lowest_L26 Q n) x1 x2_8 σ))))))
def wpX9_lowest_L25 (Q : Int32 → Sg → Prop) (x1 : Int32) (z0 : Int32) (σ : Sg) : Prop := ∃ nn, wpX9_lowest_L26 Q nn x1 z0 σ
def wpX9_lowest (x1 : Int32) (σ : Sg) (Q : Int32 → Sg → Prop) : Prop := (vp_in x1 6 ∧ ((0 ≤ ((σ 2 x1.toNatClampNeg) - 24) → (vp_in x1 6 ∧ wpX9_lowest_L25 Q x1 ((σ 2 x1.toNatClampNeg) - 24) σ)) ∧ (¬ (0 ≤ ((σ 2 x1.toNatClampNeg) - 24)) → wpX9_lowest_L25 Q x1 0 σ)))
set_option maxHeartbeats 8000000 in
set_option maxRecDepth 100000 in
theorem tX9_lowest {l : Launch} {G : GG} {x1 : Int32} {σ : Sg} {Q : Int32 → Sg → Prop} (h0 : isModel G) (h : wpX9_lowest x1 σ Q) : Ki l G yX9_lowest (wB yX9_lowest prog_11_method_12_code 3 (Option.some FieldType.int)) ({ frames := 0, cells := 0, slots := 0, locals := 0 }) [.ref (ga G 0), .int x1] σ Q := by
  refine K_of (cc := cX9_lowest) (maxL := 3) (ret := (some .int)) (by decide) rfl (Nat.le_of_ble_eq_true rfl) ?_
  intro p e s m args below meth c ls B hH hl
  obtain ⟨hx, hb, hr, hts, hown, hlk, hml, hK, hX⟩ := B
  replace hl : lv_has ls 3 [(0, .ref (ga G 0)), (1, .int x1)] := hl
  have hB : ∀ w ∈ BIG, w.before args s = true := fun w h9 => hts w (List.mem_cons_of_mem _ h9)
  clear hts
  have k13 := hB _ bw4_121
  have k53 := hB _ bw4_134
  have L26 : ∀ (n26 : Nat) (x1 : Int32) (x2 : Int32) (σ : Sg) (H : Heap) (locs : List Loc) (ls : Array Slot), Hx G (aA G s.heap.size) s σ H locs → lv_has ls 3 [(0, .ref (ga G 0)), (1, .int x1), (2, .int x2)] → wpX9_lowest_L26 Q n26 x1 x2 σ → W p l e ({ frames := 0, cells := 0, slots := 0, locals := 0 }) s m args below meth c H locs 0 0 (Zi G Q below args s) (F0 m 26 ls []) := by
    intro n26
    induction n26 with
    | zero =>
      intro x1 x2 σ H locs ls hH hl h
      exact False.elim h
    | succ n26 ih26 =>
      intro x1 x2 σ H locs ls hH hl h
      unfold wpX9_lowest_L26 at h
      refine lv_iload_n hx hb dX9_lowest_26 rfl (lv_at hl 2 rfl) ?_
      refine lv_aload_n hx hb dX9_lowest_27 rfl (lv_at hl 0 rfl) ?_
      refine g_getr hx hb hB inB9 hown hK hH (c0 := 0) h0.1 rfl 11 (by decide) k13 rfl (c1 := 2) rfl dX9_lowest_28 ?_
      refine lv_iload_n hx hb dX9_lowest_31 rfl (lv_at hl 1 rfl) ?_
      obtain ⟨hi4, h⟩ := h
      refine g_iald hx hb hK hH (c0 := 2) (mA2 h0) hi4 dX9_lowest_32 ?_
      refine lv_icmp_ge (tgt := 59) hx hb dX9_lowest_33 (by decide) (fun q5 => ?_) (fun q5 => ?_)
      · replace h := h.1 q5
        refine lv_iload_n hx hb dX9_lowest_59 rfl (lv_at hl 2 rfl) ?_
        exact g_iret hx hb hr hK hlk h hH dX9_lowest_60
      · replace h := h.2 q5
        refine lv_aload_n hx hb dX9_lowest_36 rfl (lv_at hl 0 rfl) ?_
        refine g_getr hx hb hB inB9 hown hK hH (c0 := 0) h0.1 rfl 24 (by decide) k53 rfl (c1 := 15) rfl dX9_lowest_37 ?_
        refine lv_bipush (v := 32) hx hb dX9_lowest_40 (by decide) ?_
        refine lv_iload_n hx hb dX9_lowest_42 rfl (lv_at hl 1 rfl) ?_
        refine lv_imul hx hb dX9_lowest_43 ?_
        refine lv_iload_n hx hb dX9_lowest_44 rfl (lv_at hl 2 rfl) ?_
        refine lv_bipush (v := 31) hx hb dX9_lowest_45 (by decide) ?_
        refine lv_iand hx hb dX9_lowest_47 ?_
        refine lv_iadd hx hb dX9_lowest_48 ?_
        obtain ⟨hi6, h⟩ := h
        refine g_zald hx hb hK hH (c0 := 15) (mA15 h0) hi6 dX9_lowest_49 ?_
        refine lv_if_ne (tgt := 59) hx hb dX9_lowest_50 (by decide) (fun q7 => ?_) (fun q7 => ?_)
        · replace h := h.1 q7
          refine lv_iload_n hx hb dX9_lowest_59 rfl (lv_at hl 2 rfl) ?_
          exact g_iret hx hb hr hK hlk h hH dX9_lowest_60
        · replace h := h.2 q7
          obtain ⟨x2_8, ex2_8⟩ : ∃ y : Int32, y = x2 + 1 := ⟨_, rfl⟩
          replace h := h x2_8 ex2_8
          refine lv_iinc (v := x2_8) (lv' := [(2, .int x2_8), (0, .ref (ga G 0)), (1, .int x1)]) hx hb dX9_lowest_53 hl (k := 2) rfl (by rw [ex2_8]; rfl) (by decide) rfl (fun ls hl => ?_)
          refine lv_goto (tgt := 26) hx hb dX9_lowest_56 (by decide) ?_
          exact ih26 x1 x2_8 σ _ _ ls hH (lv_sub hl [1, 2, 0] rfl) h
  have L25 : ∀ (x1 : Int32) (z0 : Int32) (σ : Sg) (H : Heap) (locs : List Loc) (ls : Array Slot), Hx G (aA G s.heap.size) s σ H locs → lv_has ls 3 [(0, .ref (ga G 0)), (1, .int x1)] → wpX9_lowest_L25 Q x1 z0 σ → W p l e ({ frames := 0, cells := 0, slots := 0, locals := 0 }) s m args below meth c H locs 0 0 (Zi G Q below args s) (F0 m 25 ls [.int z0]) := by
    intro x1 z0 σ H locs ls hH hl h
    unfold wpX9_lowest_L25 at h
    refine lv_istore_n (lv' := [(2, .int z0), (0, .ref (ga G 0)), (1, .int x1)]) hx hb dX9_lowest_25 rfl hl (by decide) rfl (fun ls hl => ?_)
    obtain ⟨nn, h⟩ := h
    exact L26 nn x1 z0 σ _ _ ls hH (lv_sub hl [1, 2, 0] rfl) h
  unfold wpX9_lowest at h
  refine lv_aload_n hx hb dX9_lowest_0 rfl (lv_at hl 0 rfl) ?_
  refine g_getr hx hb hB inB9 hown hK hH (c0 := 0) h0.1 rfl 11 (by decide) k13 rfl (c1 := 2) rfl dX9_lowest_1 ?_
  refine lv_iload_n hx hb dX9_lowest_4 rfl (lv_at hl 1 rfl) ?_
  obtain ⟨hi1, h⟩ := h
  refine g_iald hx hb hK hH (c0 := 2) (mA2 h0) hi1 dX9_lowest_5 ?_
  refine lv_bipush (v := 24) hx hb dX9_lowest_6 (by decide) ?_
  refine lv_isub hx hb dX9_lowest_8 ?_
  refine lv_if_ge (tgt := 16) hx hb dX9_lowest_9 (by decide) (fun q2 => ?_) (fun q2 => ?_)
  · replace h := h.1 q2
    refine lv_aload_n hx hb dX9_lowest_16 rfl (lv_at hl 0 rfl) ?_
    refine g_getr hx hb hB inB9 hown hK hH (c0 := 0) h0.1 rfl 11 (by decide) k13 rfl (c1 := 2) rfl dX9_lowest_17 ?_
    refine lv_iload_n hx hb dX9_lowest_20 rfl (lv_at hl 1 rfl) ?_
    obtain ⟨hi3, h⟩ := h
    refine g_iald hx hb hK hH (c0 := 2) (mA2 h0) hi3 dX9_lowest_21 ?_
    refine lv_bipush (v := 24) hx hb dX9_lowest_22 (by decide) ?_
    refine lv_isub hx hb dX9_lowest_24 ?_
    exact L25 x1 ((σ 2 x1.toNatClampNeg) - 24) σ _ _ ls hH (lv_sub hl [0, 1] rfl) h
  · replace h := h.2 q2
    refine lv_iconst (v := 0) hx hb dX9_lowest_12 (by decide) ?_
    refine lv_goto (tgt := 25) hx hb dX9_lowest_13 (by decide) ?_
    exact L25 x1 0 σ _ _ ls hH (lv_sub hl [0, 1] rfl) h
def wpX9_await (x1 : Int32) (x2 : Int32) (x3 : Int32) (x4 : Int32) (x5 : Int32) (σ : Sg) (Q : Sg → Prop) : Prop := (vp_in x1 6 ∧ ∀ x6_2 : Int32, x6_2 = (4400 * x1) + (σ 22 x1.toNatClampNeg) → (vp_in x6_2 26400 ∧ ∀ σ3 : Sg, σ3 = up2 σ 20 x6_2.toNatClampNeg x2 → (vp_in x6_2 26400 ∧ ∀ σ4 : Sg, σ4 = up2 σ3 21 x6_2.toNatClampNeg x3 → (vz x4 ∧ (vp_in x6_2 26400 ∧ ∀ σ6 : Sg, σ6 = up2 σ4 23 x6_2.toNatClampNeg x4 → (vz x5 ∧ (vp_in x6_2 26400 ∧ ∀ σ8 : Sg, σ8 = up2 σ6 24 x6_2.toNatClampNeg x5 → (vp_in x1 6 ∧ (vp_in x1 6 ∧ ∀ σ10 : Sg, σ10 = up2 σ8 22 x1.toNatClampNeg ((σ8 22 x1.toNatClampNeg) + 1) → Q σ10)))))))))
set_option maxHeartbeats 8000000 in
set_option maxRecDepth 100000 in
theorem tX9_await {l : Launch} {G : GG} {x1 : Int32} {x2 : Int32} {x3 : Int32} {x4 : Int32} {x5 : Int32} {σ : Sg} {Q : Sg → Prop} (h0 : isModel G) (h : wpX9_await x1 x2 x3 x4 x5 σ Q) : Kv l G yX9_await (wB yX9_await prog_11_method_13_code 7 none) ({ frames := 0, cells := 0, slots := 0, locals := 0 }) [.ref (ga G 0), .int x1, .int x2, .int x3, .int x4, .int x5] σ Q := by
  refine K_of (cc := cX9_await) (maxL := 7) (ret := none) (by decide) rfl (Nat.le_of_ble_eq_true rfl) ?_
  intro p e s m args below meth c ls B hH hl
  obtain ⟨hx, hb, hr, hts, hown, hlk, hml, hK, hX⟩ := B
  replace hl : lv_has ls 7 [(0, .ref (ga G 0)), (1, .int x1), (2, .int x2), (3, .int x3), (4, .int x4), (5, .int x5)] := hl
  have hB : ∀ w ∈ BIG, w.before args s = true := fun w h9 => hts w (List.mem_cons_of_mem _ h9)
  clear hts
  have k68 := hB _ bw4_139
  have k71 := hB _ bw4_140
  have k74 := hB _ bw4_141
  have k77 := hB _ bw4_142
  have k80 := hB _ bw4_143
  unfold wpX9_await at h
  refine lv_sipush (v := 4400) hx hb dX9_await_0 (by decide) ?_
  refine lv_iload_n hx hb dX9_await_3 rfl (lv_at hl 1 rfl) ?_
  refine lv_imul hx hb dX9_await_4 ?_
  refine lv_aload_n hx hb dX9_await_5 rfl (lv_at hl 0 rfl) ?_
  refine g_getr hx hb hB inB9 hown hK hH (c0 := 0) h0.1 rfl 31 (by decide) k74 rfl (c1 := 22) rfl dX9_await_6 ?_
  refine lv_iload_n hx hb dX9_await_9 rfl (lv_at hl 1 rfl) ?_
  obtain ⟨hi1, h⟩ := h
  refine g_iald hx hb hK hH (c0 := 22) (mA22 h0) hi1 dX9_await_10 ?_
  refine lv_iadd hx hb dX9_await_11 ?_
  refine lv_topi (fun x6_2 ex6_2 => ?_)
  replace h := h x6_2 ex6_2
  refine lv_istore (lv' := [(6, .int x6_2), (0, .ref (ga G 0)), (1, .int x1), (2, .int x2), (3, .int x3), (4, .int x4), (5, .int x5)]) hx hb dX9_await_12 hl (by decide) rfl (fun ls hl => ?_)
  refine lv_aload_n hx hb dX9_await_14 rfl (lv_at hl 1 rfl) ?_
  refine g_getr hx hb hB inB9 hown hK hH (c0 := 0) h0.1 rfl 29 (by decide) k68 rfl (c1 := 20) rfl dX9_await_15 ?_
  refine lv_iload hx hb dX9_await_18 (lv_at hl 0 rfl) ?_
  refine lv_iload_n hx hb dX9_await_20 rfl (lv_at hl 3 rfl) ?_
  obtain ⟨hi3, h⟩ := h
  refine g_iast hx hb hK hH (c0 := 20) (i := x6_2) (mA20 h0) hi3 dX9_await_21 (fun σ3 eσ3 H locs hH => ?_)
  replace h := h σ3 eσ3
  refine lv_aload_n hx hb dX9_await_22 rfl (lv_at hl 1 rfl) ?_
  refine g_getr hx hb hB inB9 hown hK hH (c0 := 0) h0.1 rfl 30 (by decide) k71 rfl (c1 := 21) rfl dX9_await_23 ?_
  refine lv_iload hx hb dX9_await_26 (lv_at hl 0 rfl) ?_
  refine lv_iload_n hx hb dX9_await_28 rfl (lv_at hl 4 rfl) ?_
  obtain ⟨hi4, h⟩ := h
  refine g_iast hx hb hK hH (c0 := 21) (i := x6_2) (mA21 h0) hi4 dX9_await_29 (fun σ4 eσ4 H locs hH => ?_)
  replace h := h σ4 eσ4
  refine lv_aload_n hx hb dX9_await_30 rfl (lv_at hl 1 rfl) ?_
  refine g_getr hx hb hB inB9 hown hK hH (c0 := 0) h0.1 rfl 32 (by decide) k77 rfl (c1 := 23) rfl dX9_await_31 ?_
  refine lv_iload hx hb dX9_await_34 (lv_at hl 0 rfl) ?_
  refine lv_iload hx hb dX9_await_36 (lv_at hl 5 rfl) ?_
  obtain ⟨hz5, h⟩ := h
  obtain ⟨hi6, h⟩ := h
  refine g_zast hx hb hK hH (c0 := 23) (i := x6_2) (mA23 h0) hz5 hi6 dX9_await_38 (fun σ6 eσ6 H locs hH => ?_)
  replace h := h σ6 eσ6
  refine lv_aload_n hx hb dX9_await_39 rfl (lv_at hl 1 rfl) ?_
  refine g_getr hx hb hB inB9 hown hK hH (c0 := 0) h0.1 rfl 33 (by decide) k80 rfl (c1 := 24) rfl dX9_await_40 ?_
  refine lv_iload hx hb dX9_await_43 (lv_at hl 0 rfl) ?_
  refine lv_iload hx hb dX9_await_45 (lv_at hl 6 rfl) ?_
  obtain ⟨hz7, h⟩ := h
  obtain ⟨hi8, h⟩ := h
  refine g_zast hx hb hK hH (c0 := 24) (i := x6_2) (mA24 h0) hz7 hi8 dX9_await_47 (fun σ8 eσ8 H locs hH => ?_)
  replace h := h σ8 eσ8
  refine lv_aload_n hx hb dX9_await_48 rfl (lv_at hl 1 rfl) ?_
  refine g_getr hx hb hB inB9 hown hK hH (c0 := 0) h0.1 rfl 31 (by decide) k74 rfl (c1 := 22) rfl dX9_await_49 ?_
  refine lv_iload_n hx hb dX9_await_52 rfl (lv_at hl 2 rfl) ?_
  refine lv_dup2_11 hx hb dX9_await_53 rfl rfl ?_
  obtain ⟨hi9, h⟩ := h
  refine g_iald hx hb hK hH (c0 := 22) (mA22 h0) hi9 dX9_await_54 ?_
  refine lv_iconst (v := 1) hx hb dX9_await_55 (by decide) ?_
  refine lv_iadd hx hb dX9_await_56 ?_
  obtain ⟨hi10, h⟩ := h
  refine g_iast hx hb hK hH (c0 := 22) (i := x1) (mA22 h0) hi10 dX9_await_57 (fun σ10 eσ10 H locs hH => ?_)
  replace h := h σ10 eσ10
  exact g_vret hx hb hr hK hlk h hH dX9_await_58
def wpX9_awaitUnit_L104 (Q : Sg → Prop) (K57 : Int32 → Int32 → Int32 → Int32 → Int32 → Sg → Prop) (x3 : Int32) (x4 : Int32) (x5 : Int32) (x6 : Int32) (x7 : Int32) (z0 : Int32) (z1 : Int32) (z2 : Int32) (z3 : Int32) (z4 : Int32) (σ : Sg) : Prop := wpX9_await z4 z3 z2 z1 z0 σ (fun σ12 => ∀ x7_13 : Int32, x7_13 = x7 + 1 → K57 x3 x4 x5 x6 x7_13 σ12)
def wpX9_awaitUnit_L57 (Q : Sg → Prop) : Nat → Int32 → Int32 → Int32 → Int32 → Int32 → Sg → Prop
  | 0, _, _, _, _, _, _ => False
  | n + 1, x3, x4, x5, x6, x7, σ => ((x6 ≤ x7 → (vp_in x5 192 ∧ ∀ σ8 : Sg, σ8 = up2 σ 18 x5.toNatClampNeg (x6 + 1) → Q σ8)) ∧ (¬ (x6 ≤ x7) → (vp_in ((120 * x5) + x7) 23040 ∧ (vp_in x7 128 ∧ ((¬ (x7 + 1) = x6 → wpX9_awaitUnit_L104 Q (wpX9_awaitUnit_L57 Q n) x3 x4 x5 x6 x7 0 0 x3 ((σ 19 ((120 * x5) + x7).toNatClampNeg) ^^^ (σ 71 x7.toNatClampNeg)) x4 σ) ∧ ((x7 + 1) = x6 → wpX9_awaitUnit_L104 Q (wpX9_awaitUnit_L57 Q n) x3 x4 x5 x6 x7 1 0 x3 ((σ 19 ((120 * x5) + x7).toNatClampNeg) ^^^ (σ 71 x7.toNatClampNeg)) x4 σ))))))
def wpX9_awaitUnit (x1 : Int32) (x2 : Int32) (x3 : Int32) (σ : Sg) (Q : Sg → Prop) : Prop := wpX9_at x1 x2 σ (fun r1 σ1 => ∀ x5_2 : Int32, x5_2 = (32 * r1) + (x3 &&& 31) → (vp_in x5_2 192 ∧ ∀ x6_4 : Int32, x6_4 = σ1 16 x5_2.toNatClampNeg → wpX9_makeStream x1 x2 x3 x6_4 σ1 (fun σ5 => wpX9_await r1 (128 + (x3 &&& 63)) x3 1 0 σ5 (fun σ6 => ∃ nn, wpX9_awaitUnit_L57 Q nn x3 r1 x5_2 x6_4 0 σ6))))
set_option maxHeartbeats 8000000 in
set_option maxRecDepth 100000 in
theorem tX9_awaitUnit {l : Launch} {G : GG} {x1 : Int32} {x2 : Int32} {x3 : Int32} {σ : Sg} {Q : Sg → Prop} (h0 : isModel G) (h : wpX9_awaitUnit x1 x2 x3 σ Q) : Kv l G yX9_awaitUnit (wB yX9_awaitUnit prog_11_method_14_code 8 none) ({ frames := 3, cells := 0, slots := 0, locals := 71 }) [.ref (ga G 0), .int x1, .int x2, .int x3] σ Q := by
  refine K_of (cc := cX9_awaitUnit) (maxL := 8) (ret := none) (by decide) rfl (Nat.le_of_ble_eq_true rfl) ?_
  intro p e s m args below meth c ls B hH hl
  obtain ⟨hx, hb, hr, hts, hown, hlk, hml, hK, hX⟩ := B
  replace hl : lv_has ls 8 [(0, .ref (ga G 0)), (1, .int x1), (2, .int x2), (3, .int x3)] := hl
  have hB : ∀ w ∈ BIG, w.before args s = true := fun w h9 => hts w (List.mem_cons_of_mem _ h9)
  clear hts
  have k56 := hB _ bw4_135
  have k62 := hB _ bw4_137
  have k65 := hB _ bw4_138
  have k222 := hB _ bw4_190
  have L57 : ∀ (n57 : Nat) (x3 : Int32) (x4 : Int32) (x5 : Int32) (x6 : Int32) (x7 : Int32) (σ : Sg) (H : Heap) (locs : List Loc) (ls : Array Slot), Hx G (aA G s.heap.size) s σ H locs → lv_has ls 8 [(0, .ref (ga G 0)), (3, .int x3), (4, .int x4), (5, .int x5), (6, .int x6), (7, .int x7)] → wpX9_awaitUnit_L57 Q n57 x3 x4 x5 x6 x7 σ → W p l e ({ frames := 3, cells := 0, slots := 0, locals := 71 }) s m args below meth c H locs 0 0 (Zv G Q below args s) (F0 m 57 ls []) := by
    intro n57
    induction n57 with
    | zero =>
      intro x3 x4 x5 x6 x7 σ H locs ls hH hl h
      exact False.elim h
    | succ n57 ih57 =>
      have L104 : ∀ (x3 : Int32) (x4 : Int32) (x5 : Int32) (x6 : Int32) (x7 : Int32) (z0 : Int32) (z1 : Int32) (z2 : Int32) (z3 : Int32) (z4 : Int32) (σ : Sg) (H : Heap) (locs : List Loc) (ls : Array Slot), Hx G (aA G s.heap.size) s σ H locs → lv_has ls 8 [(0, .ref (ga G 0)), (3, .int x3), (4, .int x4), (5, .int x5), (6, .int x6), (7, .int x7)] → wpX9_awaitUnit_L104 Q (wpX9_awaitUnit_L57 Q n57) x3 x4 x5 x6 x7 z0 z1 z2 z3 z4 σ → W p l e ({ frames := 3, cells := 0, slots := 0, locals := 71 }) s m args below meth c H locs 0 0 (Zv G Q below args s) (F0 m 104 ls [.int z0, .int z1, .int z2, .int z3, .int z4, .ref (ga G 0)]) := by
        intro x3 x4 x5 x6 x7 z0 z1 z2 z3 z4 σ H locs ls hH hl h
        unfold wpX9_awaitUnit_L104 at h
        refine g_callVv (As := [.int z4, .int z3, .int z2, .int z1, .int z0]) (rest := []) ⟨hx, hb, hml, hown, hB⟩ hK hX aA_hA hH (c0 := 0) (tX9_await h0 h) (cwV 5 hB gVX9_265 rfl rfl rfl (by decide +kernel) ⟨Nat.le_of_ble_eq_true rfl, Nat.le_of_ble_eq_true rfl⟩) h0.1 rfl rfl hl.1 rfl (lv_room (Nat.le_of_ble_eq_true rfl)) ⟨Nat.zero_le _, Nat.zero_le _⟩ dX9_awaitUnit_104 (fun σ12 H locs h hH => ?_)
        obtain ⟨x7_13, ex7_13⟩ : ∃ y : Int32, y = x7 + 1 := ⟨_, rfl⟩
        replace h := h x7_13 ex7_13
        refine lv_iinc (v := x7_13) (lv' := [(7, .int x7_13), (0, .ref (ga G 0)), (3, .int x3), (4, .int x4), (5, .int x5), (6, .int x6)]) hx hb dX9_awaitUnit_107 hl (k := 5) rfl (by rw [ex7_13]; rfl) (by decide) rfl (fun ls hl => ?_)
        refine lv_goto (tgt := 57) hx hb dX9_awaitUnit_110 (by decide) ?_
        exact ih57 x3 x4 x5 x6 x7_13 σ12 _ _ ls hH (lv_sub hl [1, 2, 3, 4, 5, 0] rfl) h
      intro x3 x4 x5 x6 x7 σ H locs ls hH hl h
      unfold wpX9_awaitUnit_L57 at h
      refine lv_iload hx hb dX9_awaitUnit_57 (lv_at hl 5 rfl) ?_
      refine lv_iload hx hb dX9_awaitUnit_59 (lv_at hl 4 rfl) ?_
      refine lv_icmp_ge (tgt := 113) hx hb dX9_awaitUnit_61 (by decide) (fun q7 => ?_) (fun q7 => ?_)
      · replace h := h.1 q7
        refine lv_aload_n hx hb dX9_awaitUnit_113 rfl (lv_at hl 0 rfl) ?_
        refine g_getr hx hb hB inB9 hown hK hH (c0 := 0) h0.1 rfl 27 (by decide) k62 rfl (c1 := 18) rfl dX9_awaitUnit_114 ?_
        refine lv_iload hx hb dX9_awaitUnit_117 (lv_at hl 3 rfl) ?_
        refine lv_iload hx hb dX9_awaitUnit_119 (lv_at hl 4 rfl) ?_
        refine lv_iconst (v := 1) hx hb dX9_awaitUnit_121 (by decide) ?_
        refine lv_iadd hx hb dX9_awaitUnit_122 ?_
        obtain ⟨hi8, h⟩ := h
        refine g_iast hx hb hK hH (c0 := 18) (i := x5) (mA18 h0) hi8 dX9_awaitUnit_123 (fun σ8 eσ8 H locs hH => ?_)
        replace h := h σ8 eσ8
        exact g_vret hx hb hr hK hlk h hH dX9_awaitUnit_124
      · replace h := h.2 q7
        refine lv_aload_n hx hb dX9_awaitUnit_64 rfl (lv_at hl 0 rfl) ?_
        refine lv_iload hx hb dX9_awaitUnit_65 (lv_at hl 2 rfl) ?_
        refine lv_aload_n hx hb dX9_awaitUnit_67 rfl (lv_at hl 0 rfl) ?_
        refine g_getr hx hb hB inB9 hown hK hH (c0 := 0) h0.1 rfl 28 (by decide) k65 rfl (c1 := 19) rfl dX9_awaitUnit_68 ?_
        refine lv_bipush (v := 120) hx hb dX9_awaitUnit_71 (by decide) ?_
        refine lv_iload hx hb dX9_awaitUnit_73 (lv_at hl 3 rfl) ?_
        refine lv_imul hx hb dX9_awaitUnit_75 ?_
        refine lv_iload hx hb dX9_awaitUnit_76 (lv_at hl 5 rfl) ?_
        refine lv_iadd hx hb dX9_awaitUnit_78 ?_
        obtain ⟨hi9, h⟩ := h
        refine g_iald hx hb hK hH (c0 := 19) (mA19 h0) hi9 dX9_awaitUnit_79 ?_
        refine lv_aload_n hx hb dX9_awaitUnit_80 rfl (lv_at hl 0 rfl) ?_
        refine g_getr hx hb hB inB9 hown hK hH (c0 := 0) h0.1 rfl 80 (by decide) k222 rfl (c1 := 71) rfl dX9_awaitUnit_81 ?_
        refine lv_iload hx hb dX9_awaitUnit_84 (lv_at hl 5 rfl) ?_
        obtain ⟨hi10, h⟩ := h
        refine g_iald hx hb hK hH (c0 := 71) (mA71 h0) hi10 dX9_awaitUnit_86 ?_
        refine lv_ixor hx hb dX9_awaitUnit_87 ?_
        refine lv_iload_n hx hb dX9_awaitUnit_88 rfl (lv_at hl 1 rfl) ?_
        refine lv_iconst (v := 0) hx hb dX9_awaitUnit_89 (by decide) ?_
        refine lv_iload hx hb dX9_awaitUnit_90 (lv_at hl 5 rfl) ?_
        refine lv_iconst (v := 1) hx hb dX9_awaitUnit_92 (by decide) ?_
        refine lv_iadd hx hb dX9_awaitUnit_93 ?_
        refine lv_iload hx hb dX9_awaitUnit_94 (lv_at hl 4 rfl) ?_
        refine lv_icmp_ne (tgt := 103) hx hb dX9_awaitUnit_96 (by decide) (fun q11 => ?_) (fun q11 => ?_)
        · replace h := h.1 q11
          refine lv_iconst (v := 0) hx hb dX9_awaitUnit_103 (by decide) ?_
          exact L104 x3 x4 x5 x6 x7 0 0 x3 ((σ 19 ((120 * x5) + x7).toNatClampNeg) ^^^ (σ 71 x7.toNatClampNeg)) x4 σ _ _ ls hH (lv_sub hl [0, 1, 2, 3, 4, 5] rfl) h
        · replace h := h.2 q11
          refine lv_iconst (v := 1) hx hb dX9_awaitUnit_99 (by decide) ?_
          refine lv_goto (tgt := 104) hx hb dX9_awaitUnit_100 (by decide) ?_
          exact L104 x3 x4 x5 x6 x7 1 0 x3 ((σ 19 ((120 * x5) + x7).toNatClampNeg) ^^^ (σ 71 x7.toNatClampNeg)) x4 σ _ _ ls hH (lv_sub hl [0, 1, 2, 3, 4, 5] rfl) h
  unfold wpX9_awaitUnit at h
  refine lv_iload_n hx hb dX9_awaitUnit_0 rfl (lv_at hl 1 rfl) ?_
  refine lv_iload_n hx hb dX9_awaitUnit_1 rfl (lv_at hl 2 rfl) ?_
  refine g_callSi (As := [.int x1, .int x2]) (rest := []) ⟨hx, hb, hml, hown, hB⟩ hK hX aA_hA hH (tX9_at h) (va_cwS 2 hB gSX9_258 rfl rfl rfl (by decide +kernel) ⟨Nat.le_of_ble_eq_true rfl, Nat.le_of_ble_eq_true rfl⟩) rfl hl.1 rfl (lv_room (Nat.le_of_ble_eq_true rfl)) ⟨Nat.zero_le _, Nat.zero_le _⟩ dX9_awaitUnit_2 (fun r1 σ1 H locs h hH => ?_)
  refine lv_istore (lv' := [(4, .int r1), (0, .ref (ga G 0)), (1, .int x1), (2, .int x2), (3, .int x3)]) hx hb dX9_awaitUnit_5 hl (by decide) rfl (fun ls hl => ?_)
  refine lv_bipush (v := 32) hx hb dX9_awaitUnit_7 (by decide) ?_
  refine lv_iload hx hb dX9_awaitUnit_9 (lv_at hl 0 rfl) ?_
  refine lv_imul hx hb dX9_awaitUnit_11 ?_
  refine lv_iload_n hx hb dX9_awaitUnit_12 rfl (lv_at hl 4 rfl) ?_
  refine lv_bipush (v := 31) hx hb dX9_awaitUnit_13 (by decide) ?_
  refine lv_iand hx hb dX9_awaitUnit_15 ?_
  refine lv_iadd hx hb dX9_awaitUnit_16 ?_
  refine lv_topi (fun x5_2 ex5_2 => ?_)
  replace h := h x5_2 ex5_2
  refine lv_istore (lv' := [(5, .int x5_2), (4, .int r1), (0, .ref (ga G 0)), (1, .int x1), (2, .int x2), (3, .int x3)]) hx hb dX9_awaitUnit_17 hl (by decide) rfl (fun ls hl => ?_)
  refine lv_aload_n hx hb dX9_awaitUnit_19 rfl (lv_at hl 2 rfl) ?_
  refine g_getr hx hb hB inB9 hown hK hH (c0 := 0) h0.1 rfl 25 (by decide) k56 rfl (c1 := 16) rfl dX9_awaitUnit_20 ?_
  refine lv_iload hx hb dX9_awaitUnit_23 (lv_at hl 0 rfl) ?_
  obtain ⟨hi3, h⟩ := h
  refine g_iald hx hb hK hH (c0 := 16) (mA16 h0) hi3 dX9_awaitUnit_25 ?_
  refine lv_topi (fun x6_4 ex6_4 => ?_)
  replace h := h x6_4 ex6_4
  refine lv_istore (lv' := [(6, .int x6_4), (5, .int x5_2), (4, .int r1), (0, .ref (ga G 0)), (1, .int x1), (2, .int x2), (3, .int x3)]) hx hb dX9_awaitUnit_26 hl (by decide) rfl (fun ls hl => ?_)
  refine lv_aload_n hx hb dX9_awaitUnit_28 rfl (lv_at hl 3 rfl) ?_
  refine lv_iload_n hx hb dX9_awaitUnit_29 rfl (lv_at hl 4 rfl) ?_
  refine lv_iload_n hx hb dX9_awaitUnit_30 rfl (lv_at hl 5 rfl) ?_
  refine lv_iload_n hx hb dX9_awaitUnit_31 rfl (lv_at hl 6 rfl) ?_
  refine lv_iload hx hb dX9_awaitUnit_32 (lv_at hl 0 rfl) ?_
  refine g_callVv (As := [.int x1, .int x2, .int x3, .int x6_4]) (rest := []) ⟨hx, hb, hml, hown, hB⟩ hK hX aA_hA hH (c0 := 0) (tX9_makeStream h0 h) (cwV 4 hB gVX9_261 rfl rfl rfl (by decide +kernel) ⟨Nat.le_of_ble_eq_true rfl, Nat.le_of_ble_eq_true rfl⟩) h0.1 rfl rfl hl.1 rfl (lv_room (Nat.le_of_ble_eq_true rfl)) ⟨Nat.zero_le _, Nat.zero_le _⟩ dX9_awaitUnit_34 (fun σ5 H locs h hH => ?_)
  refine lv_aload_n hx hb dX9_awaitUnit_37 rfl (lv_at hl 3 rfl) ?_
  refine lv_iload hx hb dX9_awaitUnit_38 (lv_at hl 2 rfl) ?_
  refine lv_sipush (v := 128) hx hb dX9_awaitUnit_40 (by decide) ?_
  refine lv_iload_n hx hb dX9_awaitUnit_43 rfl (lv_at hl 6 rfl) ?_
  refine lv_bipush (v := 63) hx hb dX9_awaitUnit_44 (by decide) ?_
  refine lv_iand hx hb dX9_awaitUnit_46 ?_
  refine lv_iadd hx hb dX9_awaitUnit_47 ?_
  refine lv_iload_n hx hb dX9_awaitUnit_48 rfl (lv_at hl 6 rfl) ?_
  refine lv_iconst (v := 1) hx hb dX9_awaitUnit_49 (by decide) ?_
  refine lv_iconst (v := 0) hx hb dX9_awaitUnit_50 (by decide) ?_
  refine g_callVv (As := [.int r1, .int (128 + (x3 &&& 63)), .int x3, .int 1, .int 0]) (rest := []) ⟨hx, hb, hml, hown, hB⟩ hK hX aA_hA hH (c0 := 0) (tX9_await h0 h) (cwV 5 hB gVX9_265 rfl rfl rfl (by decide +kernel) ⟨Nat.le_of_ble_eq_true rfl, Nat.le_of_ble_eq_true rfl⟩) h0.1 rfl rfl hl.1 rfl (lv_room (Nat.le_of_ble_eq_true rfl)) ⟨Nat.zero_le _, Nat.zero_le _⟩ dX9_awaitUnit_51 (fun σ6 H locs h hH => ?_)
  refine lv_iconst (v := 0) hx hb dX9_awaitUnit_54 (by decide) ?_
  refine lv_istore (lv' := [(7, .int 0), (6, .int x6_4), (5, .int x5_2), (4, .int r1), (0, .ref (ga G 0)), (1, .int x1), (2, .int x2), (3, .int x3)]) hx hb dX9_awaitUnit_55 hl (by decide) rfl (fun ls hl => ?_)
  obtain ⟨nn, h⟩ := h
  exact L57 nn x3 r1 x5_2 x6_4 0 σ6 _ _ ls hH (lv_sub hl [4, 7, 3, 2, 1, 0] rfl) h
