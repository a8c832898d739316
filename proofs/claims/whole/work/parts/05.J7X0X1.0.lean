def wpJ7_fill_53178_L5 (N0 : Nat) (Q : Sg → Prop) : Nat → Nat → Int32 → Int32 → Int32 → Sg → Prop
  | 0, _, _, _, _, _ => False
  | n + 1, c0, x1, x2, x3, σ => ((x3 ≤ x2 → Q σ) ∧ (¬ (x3 ≤ x2) → (vp_in x2 N0 ∧ ∀ σ3 : Sg, σ3 = up2 σ c0 x2.toNatClampNeg x1 → ∀ x2_4 : Int32, x2_4 = x2 + 1 → (wpJ7_fill_53178_L5 N0 Q n) c0 x1 x2_4 x3 σ3)))
def wpJ7_fill_53178 (N0 : Nat) (c0 : Nat) (x1 : Int32) (σ : Sg) (Q : Sg → Prop) : Prop := ∀ x3_1 : Int32, x3_1 = nI N0 → ∃ nn, wpJ7_fill_53178_L5 N0 Q nn c0 x1 0 x3_1 σ
set_option maxHeartbeats 8000000 in
set_option maxRecDepth 100000 in
theorem tJ7_fill_53178 {l : Launch} {G : GG} {N0 : Nat} {c0 : Nat} {x1 : Int32} {σ : Sg} {Q : Sg → Prop} (hc0 : isI G N0 c0) (h : wpJ7_fill_53178 N0 c0 x1 σ Q) : Kv l G yJ7_fill_53178 (wB yJ7_fill_53178 prog_14_method_103_code 4 none) ({ frames := 0, cells := 0, slots := 0, locals := 0 }) [.ref (ga G c0), .int x1] σ Q := by
  refine K_of (cc := cJ7_fill_53178) (maxL := 4) (ret := none) (by decide) rfl (Nat.le_of_ble_eq_true rfl) ?_
  intro p e s m args below meth c ls B hH hl
  obtain ⟨hx, hb, hr, hts, hown, hlk, hml, hK, hX⟩ := B
  replace hl : lv_has ls 4 [(0, .ref (ga G c0)), (1, .int x1)] := hl
  have hB : ∀ w ∈ BIG, w.before args s = true := fun w h9 => hts w (List.mem_cons_of_mem _ h9)
  clear hts
  have L5 : ∀ (n5 : Nat) (c0 : Nat) (hc0 : isI G N0 c0) (x1 : Int32) (x2 : Int32) (x3 : Int32) (σ : Sg) (H : Heap) (locs : List Loc) (ls : Array Slot), Hx G (aA G s.heap.size) s σ H locs → lv_has ls 4 [(0, .ref (ga G c0)), (1, .int x1), (2, .int x2), (3, .int x3)] → wpJ7_fill_53178_L5 N0 Q n5 c0 x1 x2 x3 σ → W p l e ({ frames := 0, cells := 0, slots := 0, locals := 0 }) s m args below meth c H locs 0 0 (Zv G Q below args s) (F0 m 5 ls []) := by
    intro n5
    induction n5 with
    | zero =>
      intro c0 hc0 x1 x2 x3 σ H locs ls hH hl h
      exact False.elim h
    | succ n5 ih5 =>
      intro c0 hc0 x1 x2 x3 σ H locs ls hH hl h
      unfold wpJ7_fill_53178_L5 at h
      refine lv_iload_n hx hb dJ7_fill_53178_5 rfl (lv_at hl 2 rfl) ?_
      refine lv_iload_n hx hb dJ7_fill_53178_6 rfl (lv_at hl 3 rfl) ?_
      refine lv_icmp_ge (tgt := 20) hx hb dJ7_fill_53178_7 (by decide) (fun q2 => ?_) (fun q2 => ?_)
      · replace h := h.1 q2
        exact g_vret hx hb hr hK hlk h hH dJ7_fill_53178_20
      · replace h := h.2 q2
        refine lv_aload_n hx hb dJ7_fill_53178_10 rfl (lv_at hl 0 rfl) ?_
        refine lv_iload_n hx hb dJ7_fill_53178_11 rfl (lv_at hl 2 rfl) ?_
        refine lv_iload_n hx hb dJ7_fill_53178_12 rfl (lv_at hl 1 rfl) ?_
        obtain ⟨hi3, h⟩ := h
        refine g_iast hx hb hK hH (c0 := c0) (i := x2) hc0 hi3 dJ7_fill_53178_13 (fun σ3 eσ3 H locs hH => ?_)
        replace h := h σ3 eσ3
        obtain ⟨x2_4, ex2_4⟩ : ∃ y : Int32, y = x2 + 1 := ⟨_, rfl⟩
        replace h := h x2_4 ex2_4
        refine lv_iinc (v := x2_4) (lv' := [(2, .int x2_4), (0, .ref (ga G c0)), (1, .int x1), (3, .int x3)]) hx hb dJ7_fill_53178_14 hl (k := 2) rfl (by rw [ex2_4]; rfl) (by decide) rfl (fun ls hl => ?_)
        refine lv_goto (tgt := 5) hx hb dJ7_fill_53178_17 (by decide) ?_
        exact ih5 c0 hc0 x1 x2_4 x3 σ3 _ _ ls hH (lv_sub hl [1, 2, 0, 3] rfl) h
  unfold wpJ7_fill_53178 at h
  refine lv_iconst (v := 0) hx hb dJ7_fill_53178_0 (by decide) ?_
  refine lv_istore_n (lv' := [(2, .int 0), (0, .ref (ga G c0)), (1, .int x1)]) hx hb dJ7_fill_53178_1 rfl hl (by decide) rfl (fun ls hl => ?_)
  refine lv_aload_n hx hb dJ7_fill_53178_2 rfl (lv_at hl 1 rfl) ?_
  refine g_aleni hx hb hK hH (c0 := c0) hc0 dJ7_fill_53178_3 ?_
  refine lv_topi (fun x3_1 ex3_1 => ?_)
  replace h := h x3_1 ex3_1
  refine lv_istore_n (lv' := [(3, .int x3_1), (2, .int 0), (0, .ref (ga G c0)), (1, .int x1)]) hx hb dJ7_fill_53178_4 rfl hl (by decide) rfl (fun ls hl => ?_)
  obtain ⟨nn, h⟩ := h
  exact L5 nn c0 hc0 x1 0 x3_1 σ _ _ ls hH (lv_sub hl [2, 3, 1, 0] rfl) h
def wpX0_put (c0 : Nat) (x1 : Int32) (σ : Sg) (Q : Sg → Prop) : Prop := (((nI 250) ≤ (σ c0 1) → Q σ) ∧ (¬ ((nI 250) ≤ (σ c0 1)) → ∀ σ2 : Sg, σ2 = up2 σ c0 1 ((σ c0 1) + 1) → (vp_in (σ c0 1) 250 ∧ ∀ σ3 : Sg, σ3 = up2 σ2 (c0 + 1) ((σ c0 1).toNatClampNeg) x1 → Q σ3)))
set_option maxHeartbeats 8000000 in
set_option maxRecDepth 100000 in
theorem tX0_put {l : Launch} {G : GG} {c0 : Nat} {x1 : Int32} {σ : Sg} {Q : Sg → Prop} (hc0 : isAir G c0) (h : wpX0_put c0 x1 σ Q) : Kv l G yX0_put (wB yX0_put prog_2_method_2_code 2 none) ({ frames := 0, cells := 0, slots := 0, locals := 0 }) [.ref (ga G c0), .int x1] σ Q := by
  refine K_of (cc := cX0_put) (maxL := 2) (ret := none) (by decide) rfl (Nat.le_of_ble_eq_true rfl) ?_
  intro p e s m args below meth c ls B hH hl
  obtain ⟨hx, hb, hr, hts, hown, hlk, hml, hK, hX⟩ := B
  replace hl : lv_has ls 2 [(0, .ref (ga G c0)), (1, .int x1)] := hl
  have hB : ∀ w ∈ BIG, w.before args s = true := fun w h9 => hts w (List.mem_cons_of_mem _ h9)
  clear hts
  have k9 := hB _ bw2_90
  have k15 := hB _ bw2_91
  unfold wpX0_put at h
  refine lv_aload_n hx hb dX0_put_0 rfl (lv_at hl 0 rfl) ?_
  refine g_geti hx hb hB inB0 hown hK hH (c0 := c0) hc0.1 rfl 1 (by decide) k15 rfl rfl dX0_put_1 ?_
  refine lv_aload_n hx hb dX0_put_4 rfl (lv_at hl 0 rfl) ?_
  refine g_getr hx hb hB inB0 hown hK hH (c0 := c0) hc0.1 rfl 0 (by decide) k9 rfl (c1 := c0 + 1) rfl dX0_put_5 ?_
  refine g_aleni hx hb hK hH (c0 := c0 + 1) hc0.2 dX0_put_8 ?_
  refine lv_icmp_ge (tgt := 29) hx hb dX0_put_9 (by decide) (fun q1 => ?_) (fun q1 => ?_)
  · replace h := h.1 q1
    exact g_vret hx hb hr hK hlk h hH dX0_put_29
  · replace h := h.2 q1
    refine lv_aload_n hx hb dX0_put_12 rfl (lv_at hl 0 rfl) ?_
    refine g_getr hx hb hB inB0 hown hK hH (c0 := c0) hc0.1 rfl 0 (by decide) k9 rfl (c1 := c0 + 1) rfl dX0_put_13 ?_
    refine lv_aload_n hx hb dX0_put_16 rfl (lv_at hl 0 rfl) ?_
    refine lv_dup hx hb dX0_put_17 rfl ?_
    refine g_geti hx hb hB inB0 hown hK hH (c0 := c0) hc0.1 rfl 1 (by decide) k15 rfl rfl dX0_put_18 ?_
    refine lv_dup_x1 hx hb dX0_put_21 rfl rfl ?_
    refine lv_iconst (v := 1) hx hb dX0_put_22 (by decide) ?_
    refine lv_iadd hx hb dX0_put_23 ?_
    refine g_put hx hb hB inB0 tyX0 tyX0_ok nmX0 hown hK hH (c0 := c0) hc0.1 rfl 1 (by decide) k15 rfl rfl rfl rfl rfl dX0_put_24 (fun σ2 eσ2 H locs hH => ?_)
    replace h := h σ2 eσ2
    refine lv_iload_n hx hb dX0_put_27 rfl (lv_at hl 1 rfl) ?_
    obtain ⟨hi3, h⟩ := h
    refine g_iast hx hb hK hH (c0 := c0 + 1) (i := σ c0 1) hc0.2 hi3 dX0_put_28 (fun σ3 eσ3 H locs hH => ?_)
    replace h := h σ3 eσ3
    exact g_vret hx hb hr hK hlk h hH dX0_put_29
def wpX0_set (c0 : Nat) (x1 : Int32) (x2 : Int32) (σ : Sg) (Q : Sg → Prop) : Prop := ((x1 < 0 → Q σ) ∧ (¬ (x1 < 0) → (((σ c0 1) ≤ x1 → Q σ) ∧ (¬ ((σ c0 1) ≤ x1) → (vp_in x1 250 ∧ ∀ σ3 : Sg, σ3 = up2 σ (c0 + 1) x1.toNatClampNeg x2 → Q σ3)))))
set_option maxHeartbeats 8000000 in
set_option maxRecDepth 100000 in
theorem tX0_set {l : Launch} {G : GG} {c0 : Nat} {x1 : Int32} {x2 : Int32} {σ : Sg} {Q : Sg → Prop} (hc0 : isAir G c0) (h : wpX0_set c0 x1 x2 σ Q) : Kv l G yX0_set (wB yX0_set prog_2_method_3_code 3 none) ({ frames := 0, cells := 0, slots := 0, locals := 0 }) [.ref (ga G c0), .int x1, .int x2] σ Q := by
  refine K_of (cc := cX0_set) (maxL := 3) (ret := none) (by decide) rfl (Nat.le_of_ble_eq_true rfl) ?_
  intro p e s m args below meth c ls B hH hl
  obtain ⟨hx, hb, hr, hts, hown, hlk, hml, hK, hX⟩ := B
  replace hl : lv_has ls 3 [(0, .ref (ga G c0)), (1, .int x1), (2, .int x2)] := hl
  have hB : ∀ w ∈ BIG, w.before args s = true := fun w h9 => hts w (List.mem_cons_of_mem _ h9)
  clear hts
  have k9 := hB _ bw2_90
  have k15 := hB _ bw2_91
  unfold wpX0_set at h
  refine lv_iload_n hx hb dX0_set_0 rfl (lv_at hl 1 rfl) ?_
  refine lv_if_lt (tgt := 19) hx hb dX0_set_1 (by decide) (fun q1 => ?_) (fun q1 => ?_)
  · replace h := h.1 q1
    exact g_vret hx hb hr hK hlk h hH dX0_set_19
  · replace h := h.2 q1
    refine lv_iload_n hx hb dX0_set_4 rfl (lv_at hl 1 rfl) ?_
    refine lv_aload_n hx hb dX0_set_5 rfl (lv_at hl 0 rfl) ?_
    refine g_geti hx hb hB inB0 hown hK hH (c0 := c0) hc0.1 rfl 1 (by decide) k15 rfl rfl dX0_set_6 ?_
    refine lv_icmp_ge (tgt := 19) hx hb dX0_set_9 (by decide) (fun q2 => ?_) (fun q2 => ?_)
    · replace h := h.1 q2
      exact g_vret hx hb hr hK hlk h hH dX0_set_19
    · replace h := h.2 q2
      refine lv_aload_n hx hb dX0_set_12 rfl (lv_at hl 0 rfl) ?_
      refine g_getr hx hb hB inB0 hown hK hH (c0 := c0) hc0.1 rfl 0 (by decide) k9 rfl (c1 := c0 + 1) rfl dX0_set_13 ?_
      refine lv_iload_n hx hb dX0_set_16 rfl (lv_at hl 1 rfl) ?_
      refine lv_iload_n hx hb dX0_set_17 rfl (lv_at hl 2 rfl) ?_
      obtain ⟨hi3, h⟩ := h
      refine g_iast hx hb hK hH (c0 := c0 + 1) (i := x1) hc0.2 hi3 dX0_set_18 (fun σ3 eσ3 H locs hH => ?_)
      replace h := h σ3 eσ3
      exact g_vret hx hb hr hK hlk h hH dX0_set_19
def wpX0_at (c0 : Nat) (x1 : Int32) (σ : Sg) (Q : Int32 → Sg → Prop) : Prop := ((x1 < 0 → Q 0 σ) ∧ (¬ (x1 < 0) → (((σ c0 1) ≤ x1 → Q 0 σ) ∧ (¬ ((σ c0 1) ≤ x1) → (vp_in x1 250 ∧ Q (σ (c0 + 1) x1.toNatClampNeg) σ)))))
set_option maxHeartbeats 8000000 in
set_option maxRecDepth 100000 in
theorem tX0_at {l : Launch} {G : GG} {c0 : Nat} {x1 : Int32} {σ : Sg} {Q : Int32 → Sg → Prop} (hc0 : isAir G c0) (h : wpX0_at c0 x1 σ Q) : Ki l G yX0_at (wB yX0_at prog_2_method_4_code 2 (Option.some FieldType.int)) ({ frames := 0, cells := 0, slots := 0, locals := 0 }) [.ref (ga G c0), .int x1] σ Q := by
  refine K_of (cc := cX0_at) (maxL := 2) (ret := (some .int)) (by decide) rfl (Nat.le_of_ble_eq_true rfl) ?_
  intro p e s m args below meth c ls B hH hl
  obtain ⟨hx, hb, hr, hts, hown, hlk, hml, hK, hX⟩ := B
  replace hl : lv_has ls 2 [(0, .ref (ga G c0)), (1, .int x1)] := hl
  have hB : ∀ w ∈ BIG, w.before args s = true := fun w h9 => hts w (List.mem_cons_of_mem _ h9)
  clear hts
  have k9 := hB _ bw2_90
  have k15 := hB _ bw2_91
  unfold wpX0_at at h
  refine lv_iload_n hx hb dX0_at_0 rfl (lv_at hl 1 rfl) ?_
  refine lv_if_lt (tgt := 21) hx hb dX0_at_1 (by decide) (fun q1 => ?_) (fun q1 => ?_)
  · replace h := h.1 q1
    refine lv_iconst (v := 0) hx hb dX0_at_21 (by decide) ?_
    exact g_iret hx hb hr hK hlk h hH dX0_at_22
  · replace h := h.2 q1
    refine lv_iload_n hx hb dX0_at_4 rfl (lv_at hl 1 rfl) ?_
    refine lv_aload_n hx hb dX0_at_5 rfl (lv_at hl 0 rfl) ?_
    refine g_geti hx hb hB inB0 hown hK hH (c0 := c0) hc0.1 rfl 1 (by decide) k15 rfl rfl dX0_at_6 ?_
    refine lv_icmp_ge (tgt := 21) hx hb dX0_at_9 (by decide) (fun q2 => ?_) (fun q2 => ?_)
    · replace h := h.1 q2
      refine lv_iconst (v := 0) hx hb dX0_at_21 (by decide) ?_
      exact g_iret hx hb hr hK hlk h hH dX0_at_22
    · replace h := h.2 q2
      refine lv_aload_n hx hb dX0_at_12 rfl (lv_at hl 0 rfl) ?_
      refine g_getr hx hb hB inB0 hown hK hH (c0 := c0) hc0.1 rfl 0 (by decide) k9 rfl (c1 := c0 + 1) rfl dX0_at_13 ?_
      refine lv_iload_n hx hb dX0_at_16 rfl (lv_at hl 1 rfl) ?_
      obtain ⟨hi3, h⟩ := h
      refine g_iald hx hb hK hH (c0 := c0 + 1) hc0.2 hi3 dX0_at_17 ?_
      refine lv_goto (tgt := 22) hx hb dX0_at_18 (by decide) ?_
      exact g_iret hx hb hr hK hlk h hH dX0_at_22
def wpX1_makeEmpty (c0 : Nat) (σ : Sg) (Q : Sg → Prop) : Prop := ∀ σ1 : Sg, σ1 = up2 σ c0 1 0 → ∀ σ2 : Sg, σ2 = up2 σ1 c0 2 0 → ∀ σ3 : Sg, σ3 = up2 σ2 c0 3 0 → Q σ3
set_option maxHeartbeats 8000000 in
set_option maxRecDepth 100000 in
theorem tX1_makeEmpty {l : Launch} {G : GG} {c0 : Nat} {σ : Sg} {Q : Sg → Prop} (hc0 : isCarrier G c0) (h : wpX1_makeEmpty c0 σ Q) : Kv l G yX1_makeEmpty (wB yX1_makeEmpty prog_3_method_2_code 1 none) ({ frames := 0, cells := 0, slots := 0, locals := 0 }) [.ref (ga G c0)] σ Q := by
  refine K_of (cc := cX1_makeEmpty) (maxL := 1) (ret := none) (by decide) rfl (Nat.le_of_ble_eq_true rfl) ?_
  intro p e s m args below meth c ls B hH hl
  obtain ⟨hx, hb, hr, hts, hown, hlk, hml, hK, hX⟩ := B
  replace hl : lv_has ls 1 [(0, .ref (ga G c0))] := hl
  have hB : ∀ w ∈ BIG, w.before args s = true := fun w h9 => hts w (List.mem_cons_of_mem _ h9)
  clear hts
  have k16 := hB _ bw2_101
  have k20 := hB _ bw2_103
  have k23 := hB _ bw2_105
  unfold wpX1_makeEmpty at h
  refine lv_aload_n hx hb dX1_makeEmpty_0 rfl (lv_at hl 0 rfl) ?_
  refine lv_iconst (v := 0) hx hb dX1_makeEmpty_1 (by decide) ?_
  refine g_put hx hb hB inB1 tyX1 tyX1_ok nmX1 hown hK hH (c0 := c0) hc0.1 rfl 1 (by decide) k16 rfl rfl rfl rfl rfl dX1_makeEmpty_2 (fun σ1 eσ1 H locs hH => ?_)
  replace h := h σ1 eσ1
  refine lv_aload_n hx hb dX1_makeEmpty_5 rfl (lv_at hl 0 rfl) ?_
  refine lv_iconst (v := 0) hx hb dX1_makeEmpty_6 (by decide) ?_
  refine g_put hx hb hB inB1 tyX1 tyX1_ok nmX1 hown hK hH (c0 := c0) hc0.1 rfl 2 (by decide) k20 rfl rfl rfl rfl rfl dX1_makeEmpty_7 (fun σ2 eσ2 H locs hH => ?_)
  replace h := h σ2 eσ2
  refine lv_aload_n hx hb dX1_makeEmpty_10 rfl (lv_at hl 0 rfl) ?_
  refine lv_iconst (v := 0) hx hb dX1_makeEmpty_11 (by decide) ?_
  refine g_put hx hb hB inB1 tyX1 tyX1_ok nmX1 hown hK hH (c0 := c0) hc0.1 rfl 3 (by decide) k23 rfl rfl rfl (vz_n vz0) (vz_f vz0) dX1_makeEmpty_12 (fun σ3 eσ3 H locs hH => ?_)
  replace h := h σ3 eσ3
  exact g_vret hx hb hr hK hlk h hH dX1_makeEmpty_15
