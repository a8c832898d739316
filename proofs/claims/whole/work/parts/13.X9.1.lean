def wpX9_send_L90 (Q : Int32 → Sg → Prop) : Nat → Int32 → Int32 → Int32 → Int32 → Int32 → Int32 → Sg → Prop
  | 0, _, _, _, _, _, _, _ => False
  | n + 1, x1, x2, x3, x4, x5, x6, σ => (((σ 0 10) ≤ x6 → ∀ σ14 : Sg, σ14 = up2 σ 0 10 0 → (vp_in x3 6 ∧ (vp_in x3 6 ∧ ∀ σ16 : Sg, σ16 = up2 σ14 2 x3.toNatClampNeg ((σ14 2 x3.toNatClampNeg) + 1) → wpX9_awaitUnit x1 x2 x4 σ16 (fun σ17 => Q x4 σ17)))) ∧ (¬ ((σ 0 10) ≤ x6) → (vp_in x6 120 ∧ (vp_in ((120 * x5) + x6) 23040 ∧ ∀ σ19 : Sg, σ19 = up2 σ 19 (((120 * x5) + x6).toNatClampNeg) (σ 1 x6.toNatClampNeg) → ∀ x6_20 : Int32, x6_20 = x6 + 1 → (wpX9_send_L90 Q n) x1 x2 x3 x4 x5 x6_20 σ19))))
def wpX9_send (x1 : Int32) (x2 : Int32) (σ : Sg) (Q : Int32 → Sg → Prop) : Prop := wpX9_isThere x1 x2 σ (fun r1 σ1 => ((r1 = 0 → Q (-1) σ1) ∧ (¬ (r1 = 0) → ((¬ (σ1 0 10) = 0 → wpX9_at x1 x2 σ1 (fun r4 σ4 => (vp_in r4 6 ∧ ∀ x4_6 : Int32, x4_6 = σ4 2 r4.toNatClampNeg → wpX9_lowest r4 σ4 (fun r7 σ7 => ((x4_6 < (r7 + 24) → ∀ x5_9 : Int32, x5_9 = (32 * r4) + (x4_6 &&& 31) → (vp_in x5_9 192 ∧ ∀ σ10 : Sg, σ10 = up2 σ7 15 x5_9.toNatClampNeg 1 → (vp_in x5_9 192 ∧ ∀ σ11 : Sg, σ11 = up2 σ10 17 x5_9.toNatClampNeg x4_6 → (vp_in x5_9 192 ∧ ∀ σ12 : Sg, σ12 = up2 σ11 16 x5_9.toNatClampNeg (σ11 0 10) → ∃ nn, wpX9_send_L90 Q nn x1 x2 r4 x4_6 x5_9 0 σ12)))) ∧ (¬ (x4_6 < (r7 + 24)) → Q (-1) σ7)))))) ∧ ((σ1 0 10) = 0 → Q (-1) σ1)))))
set_option maxHeartbeats 8000000 in
set_option maxRecDepth 100000 in
theorem tX9_send {l : Launch} {G : GG} {x1 : Int32} {x2 : Int32} {σ : Sg} {Q : Int32 → Sg → Prop} (h0 : isModel G) (h : wpX9_send x1 x2 σ Q) : Ki l G yX9_send (wB yX9_send prog_11_method_15_code 7 (Option.some FieldType.int)) ({ frames := 4, cells := 0, slots := 0, locals := 98 }) [.ref (ga G 0), .int x1, .int x2] σ Q := by
  refine K_of (cc := cX9_send) (maxL := 7) (ret := (some .int)) (by decide) rfl (Nat.le_of_ble_eq_true rfl) ?_
  intro p e s m args below meth c ls B hH hl
  obtain ⟨hx, hb, hr, hts, hown, hlk, hml, hK, hX⟩ := B
  replace hl : lv_has ls 7 [(0, .ref (ga G 0)), (1, .int x1), (2, .int x2)] := hl
  have hB : ∀ w ∈ BIG, w.before args s = true := fun w h9 => hts w (List.mem_cons_of_mem _ h9)
  clear hts
  have k9 := hB _ bw4_119
  have k13 := hB _ bw4_121
  have k53 := hB _ bw4_134
  have k56 := hB _ bw4_135
  have k59 := hB _ bw4_136
  have k65 := hB _ bw4_138
  have k255 := hB _ bw4_120
  have L90 : ∀ (n90 : Nat) (x1 : Int32) (x2 : Int32) (x3 : Int32) (x4 : Int32) (x5 : Int32) (x6 : Int32) (σ : Sg) (H : Heap) (locs : List Loc) (ls : Array Slot), Hx G (aA G s.heap.size) s σ H locs → lv_has ls 7 [(0, .ref (ga G 0)), (1, .int x1), (2, .int x2), (3, .int x3), (4, .int x4), (5, .int x5), (6, .int x6)] → wpX9_send_L90 Q n90 x1 x2 x3 x4 x5 x6 σ → W p l e ({ frames := 4, cells := 0, slots := 0, locals := 98 }) s m args below meth c H locs 0 0 (Zi G Q below args s) (F0 m 90 ls []) := by
    intro n90
    induction n90 with
    | zero =>
      intro x1 x2 x3 x4 x5 x6 σ H locs ls hH hl h
      exact False.elim h
    | succ n90 ih90 =>
      intro x1 x2 x3 x4 x5 x6 σ H locs ls hH hl h
      unfold wpX9_send_L90 at h
      refine lv_iload hx hb dX9_send_90 (lv_at hl 6 rfl) ?_
      refine lv_aload_n hx hb dX9_send_92 rfl (lv_at hl 0 rfl) ?_
      refine g_geti hx hb hB inB9 hown hK hH (c0 := 0) h0.1 rfl 10 (by decide) k255 rfl rfl dX9_send_93 ?_
      refine lv_icmp_ge (tgt := 125) hx hb dX9_send_96 (by decide) (fun q13 => ?_) (fun q13 => ?_)
      · replace h := h.1 q13
        refine lv_aload_n hx hb dX9_send_125 rfl (lv_at hl 0 rfl) ?_
        refine lv_iconst (v := 0) hx hb dX9_send_126 (by decide) ?_
        refine g_put hx hb hB inB9 tyX9 tyX9_ok nmX9 hown hK hH (c0 := 0) h0.1 rfl 10 (by decide) k255 rfl rfl rfl rfl rfl dX9_send_127 (fun σ14 eσ14 H locs hH => ?_)
        replace h := h σ14 eσ14
        refine lv_aload_n hx hb dX9_send_130 rfl (lv_at hl 0 rfl) ?_
        refine g_getr hx hb hB inB9 hown hK hH (c0 := 0) h0.1 rfl 11 (by decide) k13 rfl (c1 := 2) rfl dX9_send_131 ?_
        refine lv_iload_n hx hb dX9_send_134 rfl (lv_at hl 3 rfl) ?_
        refine lv_dup2_11 hx hb dX9_send_135 rfl rfl ?_
        obtain ⟨hi15, h⟩ := h
        refine g_iald hx hb hK hH (c0 := 2) (mA2 h0) hi15 dX9_send_136 ?_
        refine lv_iconst (v := 1) hx hb dX9_send_137 (by decide) ?_
        refine lv_iadd hx hb dX9_send_138 ?_
        obtain ⟨hi16, h⟩ := h
        refine g_iast hx hb hK hH (c0 := 2) (i := x3) (mA2 h0) hi16 dX9_send_139 (fun σ16 eσ16 H locs hH => ?_)
        replace h := h σ16 eσ16
        refine lv_aload_n hx hb dX9_send_140 rfl (lv_at hl 0 rfl) ?_
        refine lv_iload_n hx hb dX9_send_141 rfl (lv_at hl 1 rfl) ?_
        refine lv_iload_n hx hb dX9_send_142 rfl (lv_at hl 2 rfl) ?_
        refine lv_iload hx hb dX9_send_143 (lv_at hl 4 rfl) ?_
        refine g_callVv (As := [.int x1, .int x2, .int x4]) (rest := []) ⟨hx, hb, hml, hown, hB⟩ hK hX aA_hA hH (c0 := 0) (tX9_awaitUnit h0 h) (cwV 3 hB gVX9_276 rfl rfl rfl (by decide +kernel) ⟨Nat.le_of_ble_eq_true rfl, Nat.le_of_ble_eq_true rfl⟩) h0.1 rfl rfl hl.1 rfl (lv_room (Nat.le_of_ble_eq_true rfl)) ⟨Nat.zero_le _, Nat.zero_le _⟩ dX9_send_145 (fun σ17 H locs h hH => ?_)
        refine lv_iload hx hb dX9_send_148 (lv_at hl 4 rfl) ?_
        exact g_iret hx hb hr hK hlk h hH dX9_send_150
      · replace h := h.2 q13
        refine lv_aload_n hx hb dX9_send_99 rfl (lv_at hl 0 rfl) ?_
        refine g_getr hx hb hB inB9 hown hK hH (c0 := 0) h0.1 rfl 28 (by decide) k65 rfl (c1 := 19) rfl dX9_send_100 ?_
        refine lv_bipush (v := 120) hx hb dX9_send_103 (by decide) ?_
        refine lv_iload hx hb dX9_send_105 (lv_at hl 5 rfl) ?_
        refine lv_imul hx hb dX9_send_107 ?_
        refine lv_iload hx hb dX9_send_108 (lv_at hl 6 rfl) ?_
        refine lv_iadd hx hb dX9_send_110 ?_
        refine lv_aload_n hx hb dX9_send_111 rfl (lv_at hl 0 rfl) ?_
        refine g_getr hx hb hB inB9 hown hK hH (c0 := 0) h0.1 rfl 9 (by decide) k9 rfl (c1 := 1) rfl dX9_send_112 ?_
        refine lv_iload hx hb dX9_send_115 (lv_at hl 6 rfl) ?_
        obtain ⟨hi18, h⟩ := h
        refine g_iald hx hb hK hH (c0 := 1) (mA1 h0) hi18 dX9_send_117 ?_
        obtain ⟨hi19, h⟩ := h
        refine g_iast hx hb hK hH (c0 := 19) (i := (120 * x5) + x6) (mA19 h0) hi19 dX9_send_118 (fun σ19 eσ19 H locs hH => ?_)
        replace h := h σ19 eσ19
        obtain ⟨x6_20, ex6_20⟩ : ∃ y : Int32, y = x6 + 1 := ⟨_, rfl⟩
        replace h := h x6_20 ex6_20
        refine lv_iinc (v := x6_20) (lv' := [(6, .int x6_20), (0, .ref (ga G 0)), (1, .int x1), (2, .int x2), (3, .int x3), (4, .int x4), (5, .int x5)]) hx hb dX9_send_119 hl (k := 6) rfl (by rw [ex6_20]; rfl) (by decide) rfl (fun ls hl => ?_)
        refine lv_goto (tgt := 90) hx hb dX9_send_122 (by decide) ?_
        exact ih90 x1 x2 x3 x4 x5 x6_20 σ19 _ _ ls hH (lv_sub hl [1, 2, 3, 4, 5, 6, 0] rfl) h
  unfold wpX9_send at h
  refine lv_aload_n hx hb dX9_send_0 rfl (lv_at hl 0 rfl) ?_
  refine lv_iload_n hx hb dX9_send_1 rfl (lv_at hl 1 rfl) ?_
  refine lv_iload_n hx hb dX9_send_2 rfl (lv_at hl 2 rfl) ?_
  refine g_callVi (As := [.int x1, .int x2]) (rest := []) ⟨hx, hb, hml, hown, hB⟩ hK hX aA_hA hH (c0 := 0) (tX9_isThere h0 h) (cwV 2 hB gVX9_269 rfl rfl rfl (by decide +kernel) ⟨Nat.le_of_ble_eq_true rfl, Nat.le_of_ble_eq_true rfl⟩) h0.1 rfl rfl hl.1 rfl (lv_room (Nat.le_of_ble_eq_true rfl)) ⟨Nat.zero_le _, Nat.zero_le _⟩ dX9_send_3 (fun r1 σ1 H locs h hH => ?_)
  refine lv_if_eq (tgt := 16) hx hb dX9_send_6 (by decide) (fun q2 => ?_) (fun q2 => ?_)
  · replace h := h.1 q2
    refine lv_iconst (v := (-1)) hx hb dX9_send_16 (by decide) ?_
    exact g_iret hx hb hr hK hlk h hH dX9_send_17
  · replace h := h.2 q2
    refine lv_aload_n hx hb dX9_send_9 rfl (lv_at hl 0 rfl) ?_
    refine g_geti hx hb hB inB9 hown hK hH (c0 := 0) h0.1 rfl 10 (by decide) k255 rfl rfl dX9_send_10 ?_
    refine lv_if_ne (tgt := 18) hx hb dX9_send_13 (by decide) (fun q3 => ?_) (fun q3 => ?_)
    · replace h := h.1 q3
      refine lv_iload_n hx hb dX9_send_18 rfl (lv_at hl 1 rfl) ?_
      refine lv_iload_n hx hb dX9_send_19 rfl (lv_at hl 2 rfl) ?_
      refine g_callSi (As := [.int x1, .int x2]) (rest := []) ⟨hx, hb, hml, hown, hB⟩ hK hX aA_hA hH (tX9_at h) (va_cwS 2 hB gSX9_258 rfl rfl rfl (by decide +kernel) ⟨Nat.le_of_ble_eq_true rfl, Nat.le_of_ble_eq_true rfl⟩) rfl hl.1 rfl (lv_room (Nat.le_of_ble_eq_true rfl)) ⟨Nat.zero_le _, Nat.zero_le _⟩ dX9_send_20 (fun r4 σ4 H locs h hH => ?_)
      refine lv_istore_n (lv' := [(3, .int r4), (0, .ref (ga G 0)), (1, .int x1), (2, .int x2)]) hx hb dX9_send_23 rfl hl (by decide) rfl (fun ls hl => ?_)
      refine lv_aload_n hx hb dX9_send_24 rfl (lv_at hl 1 rfl) ?_
      refine g_getr hx hb hB inB9 hown hK hH (c0 := 0) h0.1 rfl 11 (by decide) k13 rfl (c1 := 2) rfl dX9_send_25 ?_
      refine lv_iload_n hx hb dX9_send_28 rfl (lv_at hl 0 rfl) ?_
      obtain ⟨hi5, h⟩ := h
      refine g_iald hx hb hK hH (c0 := 2) (mA2 h0) hi5 dX9_send_29 ?_
      refine lv_topi (fun x4_6 ex4_6 => ?_)
      replace h := h x4_6 ex4_6
      refine lv_istore (lv' := [(4, .int x4_6), (3, .int r4), (0, .ref (ga G 0)), (1, .int x1), (2, .int x2)]) hx hb dX9_send_30 hl (by decide) rfl (fun ls hl => ?_)
      refine lv_iload hx hb dX9_send_32 (lv_at hl 0 rfl) ?_
      refine lv_aload_n hx hb dX9_send_34 rfl (lv_at hl 2 rfl) ?_
      refine lv_iload_n hx hb dX9_send_35 rfl (lv_at hl 1 rfl) ?_
      refine g_callVi (As := [.int r4]) (rest := [.int x4_6]) ⟨hx, hb, hml, hown, hB⟩ hK hX aA_hA hH (c0 := 0) (tX9_lowest h0 h) (cwV 1 hB gVX9_273 rfl rfl rfl (by decide +kernel) ⟨Nat.le_of_ble_eq_true rfl, Nat.le_of_ble_eq_true rfl⟩) h0.1 rfl rfl hl.1 rfl (lv_room (Nat.le_of_ble_eq_true rfl)) ⟨Nat.zero_le _, Nat.zero_le _⟩ dX9_send_36 (fun r7 σ7 H locs h hH => ?_)
      refine lv_bipush (v := 24) hx hb dX9_send_39 (by decide) ?_
      refine lv_iadd hx hb dX9_send_41 ?_
      refine lv_icmp_lt (tgt := 47) hx hb dX9_send_42 (by decide) (fun q8 => ?_) (fun q8 => ?_)
      · replace h := h.1 q8
        refine lv_bipush (v := 32) hx hb dX9_send_47 (by decide) ?_
        refine lv_iload_n hx hb dX9_send_49 rfl (lv_at hl 1 rfl) ?_
        refine lv_imul hx hb dX9_send_50 ?_
        refine lv_iload hx hb dX9_send_51 (lv_at hl 0 rfl) ?_
        refine lv_bipush (v := 31) hx hb dX9_send_53 (by decide) ?_
        refine lv_iand hx hb dX9_send_55 ?_
        refine lv_iadd hx hb dX9_send_56 ?_
        refine lv_topi (fun x5_9 ex5_9 => ?_)
        replace h := h x5_9 ex5_9
        refine lv_istore (lv' := [(5, .int x5_9), (4, .int x4_6), (3, .int r4), (0, .ref (ga G 0)), (1, .int x1), (2, .int x2)]) hx hb dX9_send_57 hl (by decide) rfl (fun ls hl => ?_)
        refine lv_aload_n hx hb dX9_send_59 rfl (lv_at hl 3 rfl) ?_
        refine g_getr hx hb hB inB9 hown hK hH (c0 := 0) h0.1 rfl 24 (by decide) k53 rfl (c1 := 15) rfl dX9_send_60 ?_
        refine lv_iload hx hb dX9_send_63 (lv_at hl 0 rfl) ?_
        refine lv_iconst (v := 1) hx hb dX9_send_65 (by decide) ?_
        obtain ⟨hi10, h⟩ := h
        refine g_zast hx hb hK hH (c0 := 15) (i := x5_9) (mA15 h0) vz1 hi10 dX9_send_66 (fun σ10 eσ10 H locs hH => ?_)
        replace h := h σ10 eσ10
        refine lv_aload_n hx hb dX9_send_67 rfl (lv_at hl 3 rfl) ?_
        refine g_getr hx hb hB inB9 hown hK hH (c0 := 0) h0.1 rfl 26 (by decide) k59 rfl (c1 := 17) rfl dX9_send_68 ?_
        refine lv_iload hx hb dX9_send_71 (lv_at hl 0 rfl) ?_
        refine lv_iload hx hb dX9_send_73 (lv_at hl 1 rfl) ?_
        obtain ⟨hi11, h⟩ := h
        refine g_iast hx hb hK hH (c0 := 17) (i := x5_9) (mA17 h0) hi11 dX9_send_75 (fun σ11 eσ11 H locs hH => ?_)
        replace h := h σ11 eσ11
        refine lv_aload_n hx hb dX9_send_76 rfl (lv_at hl 3 rfl) ?_
        refine g_getr hx hb hB inB9 hown hK hH (c0 := 0) h0.1 rfl 25 (by decide) k56 rfl (c1 := 16) rfl dX9_send_77 ?_
        refine lv_iload hx hb dX9_send_80 (lv_at hl 0 rfl) ?_
        refine lv_aload_n hx hb dX9_send_82 rfl (lv_at hl 3 rfl) ?_
        refine g_geti hx hb hB inB9 hown hK hH (c0 := 0) h0.1 rfl 10 (by decide) k255 rfl rfl dX9_send_83 ?_
        obtain ⟨hi12, h⟩ := h
        refine g_iast hx hb hK hH (c0 := 16) (i := x5_9) (mA16 h0) hi12 dX9_send_86 (fun σ12 eσ12 H locs hH => ?_)
        replace h := h σ12 eσ12
        refine lv_iconst (v := 0) hx hb dX9_send_87 (by decide) ?_
        refine lv_istore (lv' := [(6, .int 0), (5, .int x5_9), (4, .int x4_6), (3, .int r4), (0, .ref (ga G 0)), (1, .int x1), (2, .int x2)]) hx hb dX9_send_88 hl (by decide) rfl (fun ls hl => ?_)
        obtain ⟨nn, h⟩ := h
        exact L90 nn x1 x2 r4 x4_6 x5_9 0 σ12 _ _ ls hH (lv_sub hl [4, 5, 6, 3, 2, 1, 0] rfl) h
      · replace h := h.2 q8
        refine lv_iconst (v := (-1)) hx hb dX9_send_45 (by decide) ?_
        exact g_iret hx hb hr hK hlk h hH dX9_send_46
    · replace h := h.2 q3
      refine lv_iconst (v := (-1)) hx hb dX9_send_16 (by decide) ?_
      exact g_iret hx hb hr hK hlk h hH dX9_send_17
def wpX9_cutWaiting_L3 (Q : Sg → Prop) : Nat → Int32 → Int32 → Int32 → Int32 → Sg → Prop
  | 0, _, _, _, _, _ => False
  | n + 1, x1, x2, x3, x4, σ => (vp_in x1 6 ∧ (((σ 22 x1.toNatClampNeg) ≤ x4 → (vp_in x1 6 ∧ (vp_in x1 6 ∧ ∀ σ4 : Sg, σ4 = up2 σ 22 x1.toNatClampNeg ((σ 22 x1.toNatClampNeg) - (x3 - x2)) → Q σ4))) ∧ (¬ ((σ 22 x1.toNatClampNeg) ≤ x4) → ∀ x5_5 : Int32, x5_5 = (4400 * x1) + x4 → ∀ x6_6 : Int32, x6_6 = (x5_5 - x3) + x2 → (vp_in x5_5 26400 ∧ (vp_in x6_6 26400 ∧ ∀ σ8 : Sg, σ8 = up2 σ 20 x6_6.toNatClampNeg (σ 20 x5_5.toNatClampNeg) → (vp_in x5_5 26400 ∧ (vp_in x6_6 26400 ∧ ∀ σ10 : Sg, σ10 = up2 σ8 21 x6_6.toNatClampNeg (σ8 21 x5_5.toNatClampNeg) → (vp_in x5_5 26400 ∧ (vz (σ10 23 x5_5.toNatClampNeg) ∧ (vp_in x6_6 26400 ∧ ∀ σ13 : Sg, σ13 = up2 σ10 23 x6_6.toNatClampNeg (σ10 23 x5_5.toNatClampNeg) → (vp_in x5_5 26400 ∧ (vz (σ13 24 x5_5.toNatClampNeg) ∧ (vp_in x6_6 26400 ∧ ∀ σ16 : Sg, σ16 = up2 σ13 24 x6_6.toNatClampNeg (σ13 24 x5_5.toNatClampNeg) → ∀ x4_17 : Int32, x4_17 = x4 + 1 → (wpX9_cutWaiting_L3 Q n) x1 x2 x3 x4_17 σ16)))))))))))))
def wpX9_cutWaiting (x1 : Int32) (x2 : Int32) (x3 : Int32) (σ : Sg) (Q : Sg → Prop) : Prop := ∃ nn, wpX9_cutWaiting_L3 Q nn x1 x2 x3 x3 σ
set_option maxHeartbeats 8000000 in
set_option maxRecDepth 100000 in
theorem tX9_cutWaiting {l : Launch} {G : GG} {x1 : Int32} {x2 : Int32} {x3 : Int32} {σ : Sg} {Q : Sg → Prop} (h0 : isModel G) (h : wpX9_cutWaiting x1 x2 x3 σ Q) : Kv l G yX9_cutWaiting (wB yX9_cutWaiting prog_11_method_17_code 7 none) ({ frames := 0, cells := 0, slots := 0, locals := 0 }) [.ref (ga G 0), .int x1, .int x2, .int x3] σ Q := by
  refine K_of (cc := cX9_cutWaiting) (maxL := 7) (ret := none) (by decide) rfl (Nat.le_of_ble_eq_true rfl) ?_
  intro p e s m args below meth c ls B hH hl
  obtain ⟨hx, hb, hr, hts, hown, hlk, hml, hK, hX⟩ := B
  replace hl : lv_has ls 7 [(0, .ref (ga G 0)), (1, .int x1), (2, .int x2), (3, .int x3)] := hl
  have hB : ∀ w ∈ BIG, w.before args s = true := fun w h9 => hts w (List.mem_cons_of_mem _ h9)
  clear hts
  have k68 := hB _ bw4_139
  have k71 := hB _ bw4_140
  have k74 := hB _ bw4_141
  have k77 := hB _ bw4_142
  have k80 := hB _ bw4_143
  have L3 : ∀ (n3 : Nat) (x1 : Int32) (x2 : Int32) (x3 : Int32) (x4 : Int32) (σ : Sg) (H : Heap) (locs : List Loc) (ls : Array Slot), Hx G (aA G s.heap.size) s σ H locs → lv_has ls 7 [(0, .ref (ga G 0)), (1, .int x1), (2, .int x2), (3, .int x3), (4, .int x4)] → wpX9_cutWaiting_L3 Q n3 x1 x2 x3 x4 σ → W p l e ({ frames := 0, cells := 0, slots := 0, locals := 0 }) s m args below meth c H locs 0 0 (Zv G Q below args s) (F0 m 3 ls []) := by
    intro n3
    induction n3 with
    | zero =>
      intro x1 x2 x3 x4 σ H locs ls hH hl h
      exact False.elim h
    | succ n3 ih3 =>
      intro x1 x2 x3 x4 σ H locs ls hH hl h
      unfold wpX9_cutWaiting_L3 at h
      refine lv_iload hx hb dX9_cutWaiting_3 (lv_at hl 4 rfl) ?_
      refine lv_aload_n hx hb dX9_cutWaiting_5 rfl (lv_at hl 0 rfl) ?_
      refine g_getr hx hb hB inB9 hown hK hH (c0 := 0) h0.1 rfl 31 (by decide) k74 rfl (c1 := 22) rfl dX9_cutWaiting_6 ?_
      refine lv_iload_n hx hb dX9_cutWaiting_9 rfl (lv_at hl 1 rfl) ?_
      obtain ⟨hi1, h⟩ := h
      refine g_iald hx hb hK hH (c0 := 22) (mA22 h0) hi1 dX9_cutWaiting_10 ?_
      refine lv_icmp_ge (tgt := 94) hx hb dX9_cutWaiting_11 (by decide) (fun q2 => ?_) (fun q2 => ?_)
      · replace h := h.1 q2
        refine lv_aload_n hx hb dX9_cutWaiting_94 rfl (lv_at hl 0 rfl) ?_
        refine g_getr hx hb hB inB9 hown hK hH (c0 := 0) h0.1 rfl 31 (by decide) k74 rfl (c1 := 22) rfl dX9_cutWaiting_95 ?_
        refine lv_iload_n hx hb dX9_cutWaiting_98 rfl (lv_at hl 1 rfl) ?_
        refine lv_dup2_11 hx hb dX9_cutWaiting_99 rfl rfl ?_
        obtain ⟨hi3, h⟩ := h
        refine g_iald hx hb hK hH (c0 := 22) (mA22 h0) hi3 dX9_cutWaiting_100 ?_
        refine lv_iload_n hx hb dX9_cutWaiting_101 rfl (lv_at hl 3 rfl) ?_
        refine lv_iload_n hx hb dX9_cutWaiting_102 rfl (lv_at hl 2 rfl) ?_
        refine lv_isub hx hb dX9_cutWaiting_103 ?_
        refine lv_isub hx hb dX9_cutWaiting_104 ?_
        obtain ⟨hi4, h⟩ := h
        refine g_iast hx hb hK hH (c0 := 22) (i := x1) (mA22 h0) hi4 dX9_cutWaiting_105 (fun σ4 eσ4 H locs hH => ?_)
        replace h := h σ4 eσ4
        exact g_vret hx hb hr hK hlk h hH dX9_cutWaiting_106
      · replace h := h.2 q2
        refine lv_sipush (v := 4400) hx hb dX9_cutWaiting_14 (by decide) ?_
        refine lv_iload_n hx hb dX9_cutWaiting_17 rfl (lv_at hl 1 rfl) ?_
        refine lv_imul hx hb dX9_cutWaiting_18 ?_
        refine lv_iload hx hb dX9_cutWaiting_19 (lv_at hl 4 rfl) ?_
        refine lv_iadd hx hb dX9_cutWaiting_21 ?_
        refine lv_topi (fun x5_5 ex5_5 => ?_)
        replace h := h x5_5 ex5_5
        refine lv_istore (lv' := [(5, .int x5_5), (0, .ref (ga G 0)), (1, .int x1), (2, .int x2), (3, .int x3), (4, .int x4)]) hx hb dX9_cutWaiting_22 hl (by decide) rfl (fun ls hl => ?_)
        refine lv_iload hx hb dX9_cutWaiting_24 (lv_at hl 0 rfl) ?_
        refine lv_iload_n hx hb dX9_cutWaiting_26 rfl (lv_at hl 4 rfl) ?_
        refine lv_isub hx hb dX9_cutWaiting_27 ?_
        refine lv_iload_n hx hb dX9_cutWaiting_28 rfl (lv_at hl 3 rfl) ?_
        refine lv_iadd hx hb dX9_cutWaiting_29 ?_
        refine lv_topi (fun x6_6 ex6_6 => ?_)
        replace h := h x6_6 ex6_6
        refine lv_istore (lv' := [(6, .int x6_6), (5, .int x5_5), (0, .ref (ga G 0)), (1, .int x1), (2, .int x2), (3, .int x3), (4, .int x4)]) hx hb dX9_cutWaiting_30 hl (by decide) rfl (fun ls hl => ?_)
        refine lv_aload_n hx hb dX9_cutWaiting_32 rfl (lv_at hl 2 rfl) ?_
        refine g_getr hx hb hB inB9 hown hK hH (c0 := 0) h0.1 rfl 29 (by decide) k68 rfl (c1 := 20) rfl dX9_cutWaiting_33 ?_
        refine lv_iload hx hb dX9_cutWaiting_36 (lv_at hl 0 rfl) ?_
        refine lv_aload_n hx hb dX9_cutWaiting_38 rfl (lv_at hl 2 rfl) ?_
        refine g_getr hx hb hB inB9 hown hK hH (c0 := 0) h0.1 rfl 29 (by decide) k68 rfl (c1 := 20) rfl dX9_cutWaiting_39 ?_
        refine lv_iload hx hb dX9_cutWaiting_42 (lv_at hl 1 rfl) ?_
        obtain ⟨hi7, h⟩ := h
        refine g_iald hx hb hK hH (c0 := 20) (mA20 h0) hi7 dX9_cutWaiting_44 ?_
        obtain ⟨hi8, h⟩ := h
        refine g_iast hx hb hK hH (c0 := 20) (i := x6_6) (mA20 h0) hi8 dX9_cutWaiting_45 (fun σ8 eσ8 H locs hH => ?_)
        replace h := h σ8 eσ8
        refine lv_aload_n hx hb dX9_cutWaiting_46 rfl (lv_at hl 2 rfl) ?_
        refine g_getr hx hb hB inB9 hown hK hH (c0 := 0) h0.1 rfl 30 (by decide) k71 rfl (c1 := 21) rfl dX9_cutWaiting_47 ?_
        refine lv_iload hx hb dX9_cutWaiting_50 (lv_at hl 0 rfl) ?_
        refine lv_aload_n hx hb dX9_cutWaiting_52 rfl (lv_at hl 2 rfl) ?_
        refine g_getr hx hb hB inB9 hown hK hH (c0 := 0) h0.1 rfl 30 (by decide) k71 rfl (c1 := 21) rfl dX9_cutWaiting_53 ?_
        refine lv_iload hx hb dX9_cutWaiting_56 (lv_at hl 1 rfl) ?_
        obtain ⟨hi9, h⟩ := h
        refine g_iald hx hb hK hH (c0 := 21) (mA21 h0) hi9 dX9_cutWaiting_58 ?_
        obtain ⟨hi10, h⟩ := h
        refine g_iast hx hb hK hH (c0 := 21) (i := x6_6) (mA21 h0) hi10 dX9_cutWaiting_59 (fun σ10 eσ10 H locs hH => ?_)
        replace h := h σ10 eσ10
        refine lv_aload_n hx hb dX9_cutWaiting_60 rfl (lv_at hl 2 rfl) ?_
        refine g_getr hx hb hB inB9 hown hK hH (c0 := 0) h0.1 rfl 32 (by decide) k77 rfl (c1 := 23) rfl dX9_cutWaiting_61 ?_
        refine lv_iload hx hb dX9_cutWaiting_64 (lv_at hl 0 rfl) ?_
        refine lv_aload_n hx hb dX9_cutWaiting_66 rfl (lv_at hl 2 rfl) ?_
        refine g_getr hx hb hB inB9 hown hK hH (c0 := 0) h0.1 rfl 32 (by decide) k77 rfl (c1 := 23) rfl dX9_cutWaiting_67 ?_
        refine lv_iload hx hb dX9_cutWaiting_70 (lv_at hl 1 rfl) ?_
        obtain ⟨hi11, h⟩ := h
        refine g_zald hx hb hK hH (c0 := 23) (mA23 h0) hi11 dX9_cutWaiting_72 ?_
        obtain ⟨hz12, h⟩ := h
        obtain ⟨hi13, h⟩ := h
        refine g_zast hx hb hK hH (c0 := 23) (i := x6_6) (mA23 h0) hz12 hi13 dX9_cutWaiting_73 (fun σ13 eσ13 H locs hH => ?_)
        replace h := h σ13 eσ13
        refine lv_aload_n hx hb dX9_cutWaiting_74 rfl (lv_at hl 2 rfl) ?_
        refine g_getr hx hb hB inB9 hown hK hH (c0 := 0) h0.1 rfl 33 (by decide) k80 rfl (c1 := 24) rfl dX9_cutWaiting_75 ?_
        refine lv_iload hx hb dX9_cutWaiting_78 (lv_at hl 0 rfl) ?_
        refine lv_aload_n hx hb dX9_cutWaiting_80 rfl (lv_at hl 2 rfl) ?_
        refine g_getr hx hb hB inB9 hown hK hH (c0 := 0) h0.1 rfl 33 (by decide) k80 rfl (c1 := 24) rfl dX9_cutWaiting_81 ?_
        refine lv_iload hx hb dX9_cutWaiting_84 (lv_at hl 1 rfl) ?_
        obtain ⟨hi14, h⟩ := h
        refine g_zald hx hb hK hH (c0 := 24) (mA24 h0) hi14 dX9_cutWaiting_86 ?_
        obtain ⟨hz15, h⟩ := h
        obtain ⟨hi16, h⟩ := h
        refine g_zast hx hb hK hH (c0 := 24) (i := x6_6) (mA24 h0) hz15 hi16 dX9_cutWaiting_87 (fun σ16 eσ16 H locs hH => ?_)
        replace h := h σ16 eσ16
        obtain ⟨x4_17, ex4_17⟩ : ∃ y : Int32, y = x4 + 1 := ⟨_, rfl⟩
        replace h := h x4_17 ex4_17
        refine lv_iinc (v := x4_17) (lv' := [(4, .int x4_17), (6, .int x6_6), (5, .int x5_5), (0, .ref (ga G 0)), (1, .int x1), (2, .int x2), (3, .int x3)]) hx hb dX9_cutWaiting_88 hl (k := 6) rfl (by rw [ex4_17]; rfl) (by decide) rfl (fun ls hl => ?_)
        refine lv_goto (tgt := 3) hx hb dX9_cutWaiting_91 (by decide) ?_
        exact ih3 x1 x2 x3 x4_17 σ16 _ _ ls hH (lv_sub hl [3, 4, 5, 6, 0] rfl) h
  unfold wpX9_cutWaiting at h
  refine lv_iload_n hx hb dX9_cutWaiting_0 rfl (lv_at hl 3 rfl) ?_
  refine lv_istore (lv' := [(4, .int x3), (0, .ref (ga G 0)), (1, .int x1), (2, .int x2), (3, .int x3)]) hx hb dX9_cutWaiting_1 hl (by decide) rfl (fun ls hl => ?_)
  obtain ⟨nn, h⟩ := h
  exact L3 nn x1 x2 x3 x3 σ _ _ ls hH (lv_sub hl [1, 2, 3, 4, 0] rfl) h
def wpX9_confirm_L120 (Q : Sg → Prop) (x1 : Int32) (x3 : Int32) (x4 : Int32) (σ : Sg) : Prop := wpX9_cutWaiting x1 x3 x4 σ (fun σ16 => Q σ16)
def wpX9_confirm_L86 (Q : Sg → Prop) : Nat → Int32 → Int32 → Int32 → Int32 → Sg → Prop
  | 0, _, _, _, _, _ => False
  | n + 1, x1, x2, x3, x4, σ => (vp_in x1 6 ∧ (((σ 22 x1.toNatClampNeg) ≤ x4 → wpX9_confirm_L120 Q x1 x3 x4 σ) ∧ (¬ ((σ 22 x1.toNatClampNeg) ≤ x4) → (vp_in ((4400 * x1) + x4) 26400 ∧ ((¬ (σ 21 ((4400 * x1) + x4).toNatClampNeg) = x2 → wpX9_confirm_L120 Q x1 x3 x4 σ) ∧ ((σ 21 ((4400 * x1) + x4).toNatClampNeg) = x2 → ∀ x4_15 : Int32, x4_15 = x4 + 1 → (wpX9_confirm_L86 Q n) x1 x2 x3 x4_15 σ))))))
def wpX9_confirm_L62 (Q : Sg → Prop) (x1 : Int32) (x2 : Int32) (x3 : Int32) (σ : Sg) : Prop := ((x3 = (-1) → Q σ) ∧ (¬ (x3 = (-1)) → (vp_in ((4400 * x1) + x3) 26400 ∧ ((¬ (σ 23 ((4400 * x1) + x3).toNatClampNeg) = 0 → ∃ nn, wpX9_confirm_L86 Q nn x1 x2 x3 x3 σ) ∧ ((σ 23 ((4400 * x1) + x3).toNatClampNeg) = 0 → Q σ)))))
def wpX9_confirm_L56 (Q : Sg → Prop) (K20 : Int32 → Int32 → Int32 → Int32 → Sg → Prop) (x1 : Int32) (x2 : Int32) (x3 : Int32) (x4 : Int32) (σ : Sg) : Prop := ∀ x4_10 : Int32, x4_10 = x4 + 1 → K20 x1 x2 x3 x4_10 σ
def wpX9_confirm_L20 (Q : Sg → Prop) : Nat → Int32 → Int32 → Int32 → Int32 → Sg → Prop
  | 0, _, _, _, _, _ => False
  | n + 1, x1, x2, x3, x4, σ => (vp_in x1 6 ∧ (((σ 22 x1.toNatClampNeg) ≤ x4 → wpX9_confirm_L62 Q x1 x2 x3 σ) ∧ (¬ ((σ 22 x1.toNatClampNeg) ≤ x4) → ((¬ x3 = (-1) → wpX9_confirm_L62 Q x1 x2 x3 σ) ∧ (x3 = (-1) → (vp_in ((4400 * x1) + x4) 26400 ∧ ((¬ (σ 21 ((4400 * x1) + x4).toNatClampNeg) = x2 → wpX9_confirm_L56 Q (wpX9_confirm_L20 Q n) x1 x2 x3 x4 σ) ∧ ((σ 21 ((4400 * x1) + x4).toNatClampNeg) = x2 → wpX9_confirm_L56 Q (wpX9_confirm_L20 Q n) x1 x2 x4 x4 σ))))))))
def wpX9_confirm (x1 : Int32) (x2 : Int32) (σ : Sg) (Q : Sg → Prop) : Prop := (vp_in ((32 * x1) + (x2 &&& 31)) 192 ∧ ∀ σ1 : Sg, σ1 = up2 σ 15 (((32 * x1) + (x2 &&& 31)).toNatClampNeg) 0 → ∃ nn, wpX9_confirm_L20 Q nn x1 x2 (-1) 0 σ1)
set_option maxHeartbeats 8000000 in
set_option maxRecDepth 100000 in
theorem tX9_confirm {l : Launch} {G : GG} {x1 : Int32} {x2 : Int32} {σ : Sg} {Q : Sg → Prop} (h0 : isModel G) (h : wpX9_confirm x1 x2 σ Q) : Kv l G yX9_confirm (wB yX9_confirm prog_11_method_16_code 5 none) ({ frames := 1, cells := 0, slots := 0, locals := 26 }) [.ref (ga G 0), .int x1, .int x2] σ Q := by
  refine K_of (cc := cX9_confirm) (maxL := 5) (ret := none) (by decide) rfl (Nat.le_of_ble_eq_true rfl) ?_
  intro p e s m args below meth c ls B hH hl
  obtain ⟨hx, hb, hr, hts, hown, hlk, hml, hK, hX⟩ := B
  replace hl : lv_has ls 5 [(0, .ref (ga G 0)), (1, .int x1), (2, .int x2)] := hl
  have hB : ∀ w ∈ BIG, w.before args s = true := fun w h9 => hts w (List.mem_cons_of_mem _ h9)
  clear hts
  have k53 := hB _ bw4_134
  have k71 := hB _ bw4_140
  have k74 := hB _ bw4_141
  have k77 := hB _ bw4_142
  have L120 : ∀ (x1 : Int32) (x3 : Int32) (x4 : Int32) (σ : Sg) (H : Heap) (locs : List Loc) (ls : Array Slot), Hx G (aA G s.heap.size) s σ H locs → lv_has ls 5 [(0, .ref (ga G 0)), (1, .int x1), (3, .int x3), (4, .int x4)] → wpX9_confirm_L120 Q x1 x3 x4 σ → W p l e ({ frames := 1, cells := 0, slots := 0, locals := 26 }) s m args below meth c H locs 0 0 (Zv G Q below args s) (F0 m 120 ls []) := by
    intro x1 x3 x4 σ H locs ls hH hl h
    unfold wpX9_confirm_L120 at h
    refine lv_aload_n hx hb dX9_confirm_120 rfl (lv_at hl 0 rfl) ?_
    refine lv_iload_n hx hb dX9_confirm_121 rfl (lv_at hl 1 rfl) ?_
    refine lv_iload_n hx hb dX9_confirm_122 rfl (lv_at hl 2 rfl) ?_
    refine lv_iload hx hb dX9_confirm_123 (lv_at hl 3 rfl) ?_
    refine g_callVv (As := [.int x1, .int x3, .int x4]) (rest := []) ⟨hx, hb, hml, hown, hB⟩ hK hX aA_hA hH (c0 := 0) (tX9_cutWaiting h0 h) (cwV 3 hB gVX9_280 rfl rfl rfl (by decide +kernel) ⟨Nat.le_of_ble_eq_true rfl, Nat.le_of_ble_eq_true rfl⟩) h0.1 rfl rfl hl.1 rfl (lv_room (Nat.le_of_ble_eq_true rfl)) ⟨Nat.zero_le _, Nat.zero_le _⟩ dX9_confirm_125 (fun σ16 H locs h hH => ?_)
    exact g_vret hx hb hr hK hlk h hH dX9_confirm_128
  have L86 : ∀ (n86 : Nat) (x1 : Int32) (x2 : Int32) (x3 : Int32) (x4 : Int32) (σ : Sg) (H : Heap) (locs : List Loc) (ls : Array Slot), Hx G (aA G s.heap.size) s σ H locs → lv_has ls 5 [(0, .ref (ga G 0)), (1, .int x1), (2, .int x2), (3, .int x3), (4, .int x4)] → wpX9_confirm_L86 Q n86 x1 x2 x3 x4 σ → W p l e ({ frames := 1, cells := 0, slots := 0, locals := 26 }) s m args below meth c H locs 0 0 (Zv G Q below args s) (F0 m 86 ls []) := by
    intro n86
    induction n86 with
    | zero =>
      intro x1 x2 x3 x4 σ H locs ls hH hl h
      exact False.elim h
    | succ n86 ih86 =>
      intro x1 x2 x3 x4 σ H locs ls hH hl h
      unfold wpX9_confirm_L86 at h
      refine lv_iload hx hb dX9_confirm_86 (lv_at hl 4 rfl) ?_
      refine lv_aload_n hx hb dX9_confirm_88 rfl (lv_at hl 0 rfl) ?_
      refine g_getr hx hb hB inB9 hown hK hH (c0 := 0) h0.1 rfl 31 (by decide) k74 rfl (c1 := 22) rfl dX9_confirm_89 ?_
      refine lv_iload_n hx hb dX9_confirm_92 rfl (lv_at hl 1 rfl) ?_
      obtain ⟨hi11, h⟩ := h
      refine g_iald hx hb hK hH (c0 := 22) (mA22 h0) hi11 dX9_confirm_93 ?_
      refine lv_icmp_ge (tgt := 120) hx hb dX9_confirm_94 (by decide) (fun q12 => ?_) (fun q12 => ?_)
      · replace h := h.1 q12
        exact L120 x1 x3 x4 σ _ _ ls hH (lv_sub hl [0, 1, 3, 4] rfl) h
      · replace h := h.2 q12
        refine lv_aload_n hx hb dX9_confirm_97 rfl (lv_at hl 0 rfl) ?_
        refine g_getr hx hb hB inB9 hown hK hH (c0 := 0) h0.1 rfl 30 (by decide) k71 rfl (c1 := 21) rfl dX9_confirm_98 ?_
        refine lv_sipush (v := 4400) hx hb dX9_confirm_101 (by decide) ?_
        refine lv_iload_n hx hb dX9_confirm_104 rfl (lv_at hl 1 rfl) ?_
        refine lv_imul hx hb dX9_confirm_105 ?_
        refine lv_iload hx hb dX9_confirm_106 (lv_at hl 4 rfl) ?_
        refine lv_iadd hx hb dX9_confirm_108 ?_
        obtain ⟨hi13, h⟩ := h
        refine g_iald hx hb hK hH (c0 := 21) (mA21 h0) hi13 dX9_confirm_109 ?_
        refine lv_iload_n hx hb dX9_confirm_110 rfl (lv_at hl 2 rfl) ?_
        refine lv_icmp_ne (tgt := 120) hx hb dX9_confirm_111 (by decide) (fun q14 => ?_) (fun q14 => ?_)
        · replace h := h.1 q14
          exact L120 x1 x3 x4 σ _ _ ls hH (lv_sub hl [0, 1, 3, 4] rfl) h
        · replace h := h.2 q14
          obtain ⟨x4_15, ex4_15⟩ : ∃ y : Int32, y = x4 + 1 := ⟨_, rfl⟩
          replace h := h x4_15 ex4_15
          refine lv_iinc (v := x4_15) (lv' := [(4, .int x4_15), (0, .ref (ga G 0)), (1, .int x1), (2, .int x2), (3, .int x3)]) hx hb dX9_confirm_114 hl (k := 4) rfl (by rw [ex4_15]; rfl) (by decide) rfl (fun ls hl => ?_)
          refine lv_goto (tgt := 86) hx hb dX9_confirm_117 (by decide) ?_
          exact ih86 x1 x2 x3 x4_15 σ _ _ ls hH (lv_sub hl [1, 2, 3, 4, 0] rfl) h
  have L62 : ∀ (x1 : Int32) (x2 : Int32) (x3 : Int32) (σ : Sg) (H : Heap) (locs : List Loc) (ls : Array Slot), Hx G (aA G s.heap.size) s σ H locs → lv_has ls 5 [(0, .ref (ga G 0)), (1, .int x1), (2, .int x2), (3, .int x3)] → wpX9_confirm_L62 Q x1 x2 x3 σ → W p l e ({ frames := 1, cells := 0, slots := 0, locals := 26 }) s m args below meth c H locs 0 0 (Zv G Q below args s) (F0 m 62 ls []) := by
    intro x1 x2 x3 σ H locs ls hH hl h
    unfold wpX9_confirm_L62 at h
    refine lv_iload_n hx hb dX9_confirm_62 rfl (lv_at hl 3 rfl) ?_
    refine lv_iconst (v := (-1)) hx hb dX9_confirm_63 (by decide) ?_
    refine lv_icmp_eq (tgt := 82) hx hb dX9_confirm_64 (by decide) (fun q7 => ?_) (fun q7 => ?_)
    · replace h := h.1 q7
      exact g_vret hx hb hr hK hlk h hH dX9_confirm_82
    · replace h := h.2 q7
      refine lv_aload_n hx hb dX9_confirm_67 rfl (lv_at hl 0 rfl) ?_
      refine g_getr hx hb hB inB9 hown hK hH (c0 := 0) h0.1 rfl 32 (by decide) k77 rfl (c1 := 23) rfl dX9_confirm_68 ?_
      refine lv_sipush (v := 4400) hx hb dX9_confirm_71 (by decide) ?_
      refine lv_iload_n hx hb dX9_confirm_74 rfl (lv_at hl 1 rfl) ?_
      refine lv_imul hx hb dX9_confirm_75 ?_
      refine lv_iload_n hx hb dX9_confirm_76 rfl (lv_at hl 3 rfl) ?_
      refine lv_iadd hx hb dX9_confirm_77 ?_
      obtain ⟨hi8, h⟩ := h
      refine g_zald hx hb hK hH (c0 := 23) (mA23 h0) hi8 dX9_confirm_78 ?_
      refine lv_if_ne (tgt := 83) hx hb dX9_confirm_79 (by decide) (fun q9 => ?_) (fun q9 => ?_)
      · replace h := h.1 q9
        refine lv_iload_n hx hb dX9_confirm_83 rfl (lv_at hl 3 rfl) ?_
        refine lv_istore (lv' := [(4, .int x3), (0, .ref (ga G 0)), (1, .int x1), (2, .int x2), (3, .int x3)]) hx hb dX9_confirm_84 hl (by decide) rfl (fun ls hl => ?_)
        obtain ⟨nn, h⟩ := h
        exact L86 nn x1 x2 x3 x3 σ _ _ ls hH (lv_sub hl [1, 2, 3, 4, 0] rfl) h
      · replace h := h.2 q9
        exact g_vret hx hb hr hK hlk h hH dX9_confirm_82
  have L20 : ∀ (n20 : Nat) (x1 : Int32) (x2 : Int32) (x3 : Int32) (x4 : Int32) (σ : Sg) (H : Heap) (locs : List Loc) (ls : Array Slot), Hx G (aA G s.heap.size) s σ H locs → lv_has ls 5 [(0, .ref (ga G 0)), (1, .int x1), (2, .int x2), (3, .int x3), (4, .int x4)] → wpX9_confirm_L20 Q n20 x1 x2 x3 x4 σ → W p l e ({ frames := 1, cells := 0, slots := 0, locals := 26 }) s m args below meth c H locs 0 0 (Zv G Q below args s) (F0 m 20 ls []) := by
    intro n20
    induction n20 with
    | zero =>
      intro x1 x2 x3 x4 σ H locs ls hH hl h
      exact False.elim h
    | succ n20 ih20 =>
      have L56 : ∀ (x1 : Int32) (x2 : Int32) (x3 : Int32) (x4 : Int32) (σ : Sg) (H : Heap) (locs : List Loc) (ls : Array Slot), Hx G (aA G s.heap.size) s σ H locs → lv_has ls 5 [(0, .ref (ga G 0)), (1, .int x1), (2, .int x2), (3, .int x3), (4, .int x4)] → wpX9_confirm_L56 Q (wpX9_confirm_L20 Q n20) x1 x2 x3 x4 σ → W p l e ({ frames := 1, cells := 0, slots := 0, locals := 26 }) s m args below meth c H locs 0 0 (Zv G Q below args s) (F0 m 56 ls []) := by
        intro x1 x2 x3 x4 σ H locs ls hH hl h
        unfold wpX9_confirm_L56 at h
        obtain ⟨x4_10, ex4_10⟩ : ∃ y : Int32, y = x4 + 1 := ⟨_, rfl⟩
        replace h := h x4_10 ex4_10
        refine lv_iinc (v := x4_10) (lv' := [(4, .int x4_10), (0, .ref (ga G 0)), (1, .int x1), (2, .int x2), (3, .int x3)]) hx hb dX9_confirm_56 hl (k := 4) rfl (by rw [ex4_10]; rfl) (by decide) rfl (fun ls hl => ?_)
        refine lv_goto (tgt := 20) hx hb dX9_confirm_59 (by decide) ?_
        exact ih20 x1 x2 x3 x4_10 σ _ _ ls hH (lv_sub hl [1, 2, 3, 4, 0] rfl) h
      intro x1 x2 x3 x4 σ H locs ls hH hl h
      unfold wpX9_confirm_L20 at h
      refine lv_iload hx hb dX9_confirm_20 (lv_at hl 4 rfl) ?_
      refine lv_aload_n hx hb dX9_confirm_22 rfl (lv_at hl 0 rfl) ?_
      refine g_getr hx hb hB inB9 hown hK hH (c0 := 0) h0.1 rfl 31 (by decide) k74 rfl (c1 := 22) rfl dX9_confirm_23 ?_
      refine lv_iload_n hx hb dX9_confirm_26 rfl (lv_at hl 1 rfl) ?_
      obtain ⟨hi2, h⟩ := h
      refine g_iald hx hb hK hH (c0 := 22) (mA22 h0) hi2 dX9_confirm_27 ?_
      refine lv_icmp_ge (tgt := 62) hx hb dX9_confirm_28 (by decide) (fun q3 => ?_) (fun q3 => ?_)
      · replace h := h.1 q3
        exact L62 x1 x2 x3 σ _ _ ls hH (lv_sub hl [0, 1, 2, 3] rfl) h
      · replace h := h.2 q3
        refine lv_iload_n hx hb dX9_confirm_31 rfl (lv_at hl 3 rfl) ?_
        refine lv_iconst (v := (-1)) hx hb dX9_confirm_32 (by decide) ?_
        refine lv_icmp_ne (tgt := 62) hx hb dX9_confirm_33 (by decide) (fun q4 => ?_) (fun q4 => ?_)
        · replace h := h.1 q4
          exact L62 x1 x2 x3 σ _ _ ls hH (lv_sub hl [0, 1, 2, 3] rfl) h
        · replace h := h.2 q4
          refine lv_aload_n hx hb dX9_confirm_36 rfl (lv_at hl 0 rfl) ?_
          refine g_getr hx hb hB inB9 hown hK hH (c0 := 0) h0.1 rfl 30 (by decide) k71 rfl (c1 := 21) rfl dX9_confirm_37 ?_
          refine lv_sipush (v := 4400) hx hb dX9_confirm_40 (by decide) ?_
          refine lv_iload_n hx hb dX9_confirm_43 rfl (lv_at hl 1 rfl) ?_
          refine lv_imul hx hb dX9_confirm_44 ?_
          refine lv_iload hx hb dX9_confirm_45 (lv_at hl 4 rfl) ?_
          refine lv_iadd hx hb dX9_confirm_47 ?_
          obtain ⟨hi5, h⟩ := h
          refine g_iald hx hb hK hH (c0 := 21) (mA21 h0) hi5 dX9_confirm_48 ?_
          refine lv_iload_n hx hb dX9_confirm_49 rfl (lv_at hl 2 rfl) ?_
          refine lv_icmp_ne (tgt := 56) hx hb dX9_confirm_50 (by decide) (fun q6 => ?_) (fun q6 => ?_)
          · replace h := h.1 q6
            exact L56 x1 x2 x3 x4 σ _ _ ls hH (lv_sub hl [0, 1, 2, 3, 4] rfl) h
          · replace h := h.2 q6
            refine lv_iload hx hb dX9_confirm_53 (lv_at hl 4 rfl) ?_
            refine lv_istore_n (lv' := [(3, .int x4), (0, .ref (ga G 0)), (1, .int x1), (2, .int x2), (4, .int x4)]) hx hb dX9_confirm_55 rfl hl (by decide) rfl (fun ls hl => ?_)
            exact L56 x1 x2 x4 x4 σ _ _ ls hH (lv_sub hl [1, 2, 3, 0, 4] rfl) h
  unfold wpX9_confirm at h
  refine lv_aload_n hx hb dX9_confirm_0 rfl (lv_at hl 0 rfl) ?_
  refine g_getr hx hb hB inB9 hown hK hH (c0 := 0) h0.1 rfl 24 (by decide) k53 rfl (c1 := 15) rfl dX9_confirm_1 ?_
  refine lv_bipush (v := 32) hx hb dX9_confirm_4 (by decide) ?_
  refine lv_iload_n hx hb dX9_confirm_6 rfl (lv_at hl 1 rfl) ?_
  refine lv_imul hx hb dX9_confirm_7 ?_
  refine lv_iload_n hx hb dX9_confirm_8 rfl (lv_at hl 2 rfl) ?_
  refine lv_bipush (v := 31) hx hb dX9_confirm_9 (by decide) ?_
  refine lv_iand hx hb dX9_confirm_11 ?_
  refine lv_iadd hx hb dX9_confirm_12 ?_
  refine lv_iconst (v := 0) hx hb dX9_confirm_13 (by decide) ?_
  obtain ⟨hi1, h⟩ := h
  refine g_zast hx hb hK hH (c0 := 15) (i := (32 * x1) + (x2 &&& 31)) (mA15 h0) vz0 hi1 dX9_confirm_14 (fun σ1 eσ1 H locs hH => ?_)
  replace h := h σ1 eσ1
  refine lv_iconst (v := (-1)) hx hb dX9_confirm_15 (by decide) ?_
  refine lv_istore_n (lv' := [(3, .int (-1)), (0, .ref (ga G 0)), (1, .int x1), (2, .int x2)]) hx hb dX9_confirm_16 rfl hl (by decide) rfl (fun ls hl => ?_)
  refine lv_iconst (v := 0) hx hb dX9_confirm_17 (by decide) ?_
  refine lv_istore (lv' := [(4, .int 0), (3, .int (-1)), (0, .ref (ga G 0)), (1, .int x1), (2, .int x2)]) hx hb dX9_confirm_18 hl (by decide) rfl (fun ls hl => ?_)
  obtain ⟨nn, h⟩ := h
  exact L20 nn x1 x2 (-1) 0 σ1 _ _ ls hH (lv_sub hl [2, 3, 4, 1, 0] rfl) h
def wpX9_isAgain_L51 (Q : Int32 → Sg → Prop) (K16 : Int32 → Int32 → Int32 → Sg → Prop) (x4 : Int32) (x5 : Int32) (z0 : Int32) (z1 : Int32) (σ : Sg) : Prop := ∀ x3_6 : Int32, x3_6 = z1 + z0 → ∀ x5_7 : Int32, x5_7 = x5 + 1 → K16 x3_6 x4 x5_7 σ
def wpX9_isAgain_L16 (Q : Int32 → Sg → Prop) : Nat → Int32 → Int32 → Int32 → Sg → Prop
  | 0, _, _, _, _ => False
  | n + 1, x3, x4, x5, σ => (vp_in x4 96 ∧ (((σ 25 x4.toNatClampNeg) ≤ x5 → Q x3 σ) ∧ (¬ ((σ 25 x4.toNatClampNeg) ≤ x5) → (vp_in ((240 * x4) + x5) 23040 ∧ (((σ 32 ((240 * x4) + x5).toNatClampNeg) = 0 → wpX9_isAgain_L51 Q (wpX9_isAgain_L16 Q n) x4 x5 0 x3 σ) ∧ (¬ ((σ 32 ((240 * x4) + x5).toNatClampNeg) = 0) → wpX9_isAgain_L51 Q (wpX9_isAgain_L16 Q n) x4 x5 1 x3 σ))))))
def wpX9_isAgain (x1 : Int32) (x2 : Int32) (σ : Sg) (Q : Int32 → Sg → Prop) : Prop := ∀ x4_1 : Int32, x4_1 = (16 * x1) + (x2 &&& 15) → ∃ nn, wpX9_isAgain_L16 Q nn 0 x4_1 0 σ
set_option maxHeartbeats 8000000 in
set_option maxRecDepth 100000 in
theorem tX9_isAgain {l : Launch} {G : GG} {x1 : Int32} {x2 : Int32} {σ : Sg} {Q : Int32 → Sg → Prop} (h0 : isModel G) (h : wpX9_isAgain x1 x2 σ Q) : Ki l G yX9_isAgain (wB yX9_isAgain prog_11_method_18_code 6 (Option.some FieldType.int)) ({ frames := 0, cells := 0, slots := 0, locals := 0 }) [.ref (ga G 0), .int x1, .int x2] σ Q := by
  refine K_of (cc := cX9_isAgain) (maxL := 6) (ret := (some .int)) (by decide) rfl (Nat.le_of_ble_eq_true rfl) ?_
  intro p e s m args below meth c ls B hH hl
  obtain ⟨hx, hb, hr, hts, hown, hlk, hml, hK, hX⟩ := B
  replace hl : lv_has ls 6 [(0, .ref (ga G 0)), (1, .int x1), (2, .int x2)] := hl
  have hB : ∀ w ∈ BIG, w.before args s = true := fun w h9 => hts w (List.mem_cons_of_mem _ h9)
  clear hts
  have k83 := hB _ bw4_144
  have k104 := hB _ bw4_151
  have L16 : ∀ (n16 : Nat) (x3 : Int32) (x4 : Int32) (x5 : Int32) (σ : Sg) (H : Heap) (locs : List Loc) (ls : Array Slot), Hx G (aA G s.heap.size) s σ H locs → lv_has ls 6 [(0, .ref (ga G 0)), (3, .int x3), (4, .int x4), (5, .int x5)] → wpX9_isAgain_L16 Q n16 x3 x4 x5 σ → W p l e ({ frames := 0, cells := 0, slots := 0, locals := 0 }) s m args below meth c H locs 0 0 (Zi G Q below args s) (F0 m 16 ls []) := by
    intro n16
    induction n16 with
    | zero =>
      intro x3 x4 x5 σ H locs ls hH hl h
      exact False.elim h
    | succ n16 ih16 =>
      have L51 : ∀ (x4 : Int32) (x5 : Int32) (z0 : Int32) (z1 : Int32) (σ : Sg) (H : Heap) (locs : List Loc) (ls : Array Slot), Hx G (aA G s.heap.size) s σ H locs → lv_has ls 6 [(0, .ref (ga G 0)), (4, .int x4), (5, .int x5)] → wpX9_isAgain_L51 Q (wpX9_isAgain_L16 Q n16) x4 x5 z0 z1 σ → W p l e ({ frames := 0, cells := 0, slots := 0, locals := 0 }) s m args below meth c H locs 0 0 (Zi G Q below args s) (F0 m 51 ls [.int z0, .int z1]) := by
        intro x4 x5 z0 z1 σ H locs ls hH hl h
        unfold wpX9_isAgain_L51 at h
        refine lv_iadd hx hb dX9_isAgain_51 ?_
        refine lv_topi (fun x3_6 ex3_6 => ?_)
        replace h := h x3_6 ex3_6
        refine lv_istore_n (lv' := [(3, .int x3_6), (0, .ref (ga G 0)), (4, .int x4), (5, .int x5)]) hx hb dX9_isAgain_52 rfl hl (by decide) rfl (fun ls hl => ?_)
        obtain ⟨x5_7, ex5_7⟩ : ∃ y : Int32, y = x5 + 1 := ⟨_, rfl⟩
        replace h := h x5_7 ex5_7
        refine lv_iinc (v := x5_7) (lv' := [(5, .int x5_7), (3, .int x3_6), (0, .ref (ga G 0)), (4, .int x4)]) hx hb dX9_isAgain_53 hl (k := 3) rfl (by rw [ex5_7]; rfl) (by decide) rfl (fun ls hl => ?_)
        refine lv_goto (tgt := 16) hx hb dX9_isAgain_56 (by decide) ?_
        exact ih16 x3_6 x4 x5_7 σ _ _ ls hH (lv_sub hl [2, 1, 3, 0] rfl) h
      intro x3 x4 x5 σ H locs ls hH hl h
      unfold wpX9_isAgain_L16 at h
      refine lv_iload hx hb dX9_isAgain_16 (lv_at hl 3 rfl) ?_
      refine lv_aload_n hx hb dX9_isAgain_18 rfl (lv_at hl 0 rfl) ?_
      refine g_getr hx hb hB inB9 hown hK hH (c0 := 0) h0.1 rfl 34 (by decide) k83 rfl (c1 := 25) rfl dX9_isAgain_19 ?_
      refine lv_iload hx hb dX9_isAgain_22 (lv_at hl 2 rfl) ?_
      obtain ⟨hi2, h⟩ := h
      refine g_iald hx hb hK hH (c0 := 25) (mA25 h0) hi2 dX9_isAgain_24 ?_
      refine lv_icmp_ge (tgt := 59) hx hb dX9_isAgain_25 (by decide) (fun q3 => ?_) (fun q3 => ?_)
      · replace h := h.1 q3
        refine lv_iload_n hx hb dX9_isAgain_59 rfl (lv_at hl 1 rfl) ?_
        exact g_iret hx hb hr hK hlk h hH dX9_isAgain_60
      · replace h := h.2 q3
        refine lv_iload_n hx hb dX9_isAgain_28 rfl (lv_at hl 1 rfl) ?_
        refine lv_aload_n hx hb dX9_isAgain_29 rfl (lv_at hl 0 rfl) ?_
        refine g_getr hx hb hB inB9 hown hK hH (c0 := 0) h0.1 rfl 41 (by decide) k104 rfl (c1 := 32) rfl dX9_isAgain_30 ?_
        refine lv_sipush (v := 240) hx hb dX9_isAgain_33 (by decide) ?_
        refine lv_iload hx hb dX9_isAgain_36 (lv_at hl 2 rfl) ?_
        refine lv_imul hx hb dX9_isAgain_38 ?_
        refine lv_iload hx hb dX9_isAgain_39 (lv_at hl 3 rfl) ?_
        refine lv_iadd hx hb dX9_isAgain_41 ?_
        obtain ⟨hi4, h⟩ := h
        refine g_zald hx hb hK hH (c0 := 32) (mA32 h0) hi4 dX9_isAgain_42 ?_
        refine lv_if_eq (tgt := 50) hx hb dX9_isAgain_43 (by decide) (fun q5 => ?_) (fun q5 => ?_)
        · replace h := h.1 q5
          refine lv_iconst (v := 0) hx hb dX9_isAgain_50 (by decide) ?_
          exact L51 x4 x5 0 x3 σ _ _ ls hH (lv_sub hl [0, 2, 3] rfl) h
        · replace h := h.2 q5
          refine lv_iconst (v := 1) hx hb dX9_isAgain_46 (by decide) ?_
          refine lv_goto (tgt := 51) hx hb dX9_isAgain_47 (by decide) ?_
          exact L51 x4 x5 1 x3 σ _ _ ls hH (lv_sub hl [0, 2, 3] rfl) h
  unfold wpX9_isAgain at h
  refine lv_iconst (v := 0) hx hb dX9_isAgain_0 (by decide) ?_
  refine lv_istore_n (lv' := [(3, .int 0), (0, .ref (ga G 0)), (1, .int x1), (2, .int x2)]) hx hb dX9_isAgain_1 rfl hl (by decide) rfl (fun ls hl => ?_)
  refine lv_bipush (v := 16) hx hb dX9_isAgain_2 (by decide) ?_
  refine lv_iload_n hx hb dX9_isAgain_4 rfl (lv_at hl 2 rfl) ?_
  refine lv_imul hx hb dX9_isAgain_5 ?_
  refine lv_iload_n hx hb dX9_isAgain_6 rfl (lv_at hl 3 rfl) ?_
  refine lv_bipush (v := 15) hx hb dX9_isAgain_7 (by decide) ?_
  refine lv_iand hx hb dX9_isAgain_9 ?_
  refine lv_iadd hx hb dX9_isAgain_10 ?_
  refine lv_topi (fun x4_1 ex4_1 => ?_)
  replace h := h x4_1 ex4_1
  refine lv_istore (lv' := [(4, .int x4_1), (3, .int 0), (0, .ref (ga G 0)), (1, .int x1), (2, .int x2)]) hx hb dX9_isAgain_11 hl (by decide) rfl (fun ls hl => ?_)
  refine lv_iconst (v := 0) hx hb dX9_isAgain_13 (by decide) ?_
  refine lv_istore (lv' := [(5, .int 0), (4, .int x4_1), (3, .int 0), (0, .ref (ga G 0)), (1, .int x1), (2, .int x2)]) hx hb dX9_isAgain_14 hl (by decide) rfl (fun ls hl => ?_)
  obtain ⟨nn, h⟩ := h
  exact L16 nn 0 x4_1 0 σ _ _ ls hH (lv_sub hl [3, 2, 1, 0] rfl) h
def wpX9_allAgain_L9 (Q : Int32 → Sg → Prop) : Nat → Int32 → Int32 → Int32 → Sg → Prop
  | 0, _, _, _, _ => False
  | n + 1, x1, x2, x3, σ => (vp_in x1 6 ∧ (((σ 4 x1.toNatClampNeg) ≤ x3 → Q x2 σ) ∧ (¬ ((σ 4 x1.toNatClampNeg) ≤ x3) → wpX9_isAgain x1 x3 σ (fun r5 σ5 => ∀ x2_6 : Int32, x2_6 = x2 + r5 → ∀ x3_7 : Int32, x3_7 = x3 + 1 → (wpX9_allAgain_L9 Q n) x1 x2_6 x3_7 σ5))))
def wpX9_allAgain (x1 : Int32) (σ : Sg) (Q : Int32 → Sg → Prop) : Prop := (vp_in x1 6 ∧ ∀ x3_2 : Int32, x3_2 = σ 3 x1.toNatClampNeg → ∃ nn, wpX9_allAgain_L9 Q nn x1 0 x3_2 σ)
set_option maxHeartbeats 8000000 in
set_option maxRecDepth 100000 in
theorem tX9_allAgain {l : Launch} {G : GG} {x1 : Int32} {σ : Sg} {Q : Int32 → Sg → Prop} (h0 : isModel G) (h : wpX9_allAgain x1 σ Q) : Ki l G yX9_allAgain (wB yX9_allAgain prog_11_method_19_code 4 (Option.some FieldType.int)) ({ frames := 1, cells := 0, slots := 0, locals := 25 }) [.ref (ga G 0), .int x1] σ Q := by
  refine K_of (cc := cX9_allAgain) (maxL := 4) (ret := (some .int)) (by decide) rfl (Nat.le_of_ble_eq_true rfl) ?_
  intro p e s m args below meth c ls B hH hl
  obtain ⟨hx, hb, hr, hts, hown, hlk, hml, hK, hX⟩ := B
  replace hl : lv_has ls 4 [(0, .ref (ga G 0)), (1, .int x1)] := hl
  have hB : ∀ w ∈ BIG, w.before args s = true := fun w h9 => hts w (List.mem_cons_of_mem _ h9)
  clear hts
  have k16 := hB _ bw4_122
  have k19 := hB _ bw4_123
  have L9 : ∀ (n9 : Nat) (x1 : Int32) (x2 : Int32) (x3 : Int32) (σ : Sg) (H : Heap) (locs : List Loc) (ls : Array Slot), Hx G (aA G s.heap.size) s σ H locs → lv_has ls 4 [(0, .ref (ga G 0)), (1, .int x1), (2, .int x2), (3, .int x3)] → wpX9_allAgain_L9 Q n9 x1 x2 x3 σ → W p l e ({ frames := 1, cells := 0, slots := 0, locals := 25 }) s m args below meth c H locs 0 0 (Zi G Q below args s) (F0 m 9 ls []) := by
    intro n9
    induction n9 with
    | zero =>
      intro x1 x2 x3 σ H locs ls hH hl h
      exact False.elim h
    | succ n9 ih9 =>
      intro x1 x2 x3 σ H locs ls hH hl h
      unfold wpX9_allAgain_L9 at h
      refine lv_iload_n hx hb dX9_allAgain_9 rfl (lv_at hl 3 rfl) ?_
      refine lv_aload_n hx hb dX9_allAgain_10 rfl (lv_at hl 0 rfl) ?_
      refine g_getr hx hb hB inB9 hown hK hH (c0 := 0) h0.1 rfl 13 (by decide) k19 rfl (c1 := 4) rfl dX9_allAgain_11 ?_
      refine lv_iload_n hx hb dX9_allAgain_14 rfl (lv_at hl 1 rfl) ?_
      obtain ⟨hi3, h⟩ := h
      refine g_iald hx hb hK hH (c0 := 4) (mA4 h0) hi3 dX9_allAgain_15 ?_
      refine lv_icmp_ge (tgt := 34) hx hb dX9_allAgain_16 (by decide) (fun q4 => ?_) (fun q4 => ?_)
      · replace h := h.1 q4
        refine lv_iload_n hx hb dX9_allAgain_34 rfl (lv_at hl 2 rfl) ?_
        exact g_iret hx hb hr hK hlk h hH dX9_allAgain_35
      · replace h := h.2 q4
        refine lv_iload_n hx hb dX9_allAgain_19 rfl (lv_at hl 2 rfl) ?_
        refine lv_aload_n hx hb dX9_allAgain_20 rfl (lv_at hl 0 rfl) ?_
        refine lv_iload_n hx hb dX9_allAgain_21 rfl (lv_at hl 1 rfl) ?_
        refine lv_iload_n hx hb dX9_allAgain_22 rfl (lv_at hl 3 rfl) ?_
        refine g_callVi (As := [.int x1, .int x3]) (rest := [.int x2]) ⟨hx, hb, hml, hown, hB⟩ hK hX aA_hA hH (c0 := 0) (tX9_isAgain h0 h) (cwV 2 hB gVX9_283 rfl rfl rfl (by decide +kernel) ⟨Nat.le_of_ble_eq_true rfl, Nat.le_of_ble_eq_true rfl⟩) h0.1 rfl rfl hl.1 rfl (lv_room (Nat.le_of_ble_eq_true rfl)) ⟨Nat.zero_le _, Nat.zero_le _⟩ dX9_allAgain_23 (fun r5 σ5 H locs h hH => ?_)
        refine lv_iadd hx hb dX9_allAgain_26 ?_
        refine lv_topi (fun x2_6 ex2_6 => ?_)
        replace h := h x2_6 ex2_6
        refine lv_istore_n (lv' := [(2, .int x2_6), (0, .ref (ga G 0)), (1, .int x1), (3, .int x3)]) hx hb dX9_allAgain_27 rfl hl (by decide) rfl (fun ls hl => ?_)
        obtain ⟨x3_7, ex3_7⟩ : ∃ y : Int32, y = x3 + 1 := ⟨_, rfl⟩
        replace h := h x3_7 ex3_7
        refine lv_iinc (v := x3_7) (lv' := [(3, .int x3_7), (2, .int x2_6), (0, .ref (ga G 0)), (1, .int x1)]) hx hb dX9_allAgain_28 hl (k := 3) rfl (by rw [ex3_7]; rfl) (by decide) rfl (fun ls hl => ?_)
        refine lv_goto (tgt := 9) hx hb dX9_allAgain_31 (by decide) ?_
        exact ih9 x1 x2_6 x3_7 σ5 _ _ ls hH (lv_sub hl [2, 3, 1, 0] rfl) h
  unfold wpX9_allAgain at h
  refine lv_iconst (v := 0) hx hb dX9_allAgain_0 (by decide) ?_
  refine lv_istore_n (lv' := [(2, .int 0), (0, .ref (ga G 0)), (1, .int x1)]) hx hb dX9_allAgain_1 rfl hl (by decide) rfl (fun ls hl => ?_)
  refine lv_aload_n hx hb dX9_allAgain_2 rfl (lv_at hl 1 rfl) ?_
  refine g_getr hx hb hB inB9 hown hK hH (c0 := 0) h0.1 rfl 12 (by decide) k16 rfl (c1 := 3) rfl dX9_allAgain_3 ?_
  refine lv_iload_n hx hb dX9_allAgain_6 rfl (lv_at hl 2 rfl) ?_
  obtain ⟨hi1, h⟩ := h
  refine g_iald hx hb hK hH (c0 := 3) (mA3 h0) hi1 dX9_allAgain_7 ?_
  refine lv_topi (fun x3_2 ex3_2 => ?_)
  replace h := h x3_2 ex3_2
  refine lv_istore_n (lv' := [(3, .int x3_2), (2, .int 0), (0, .ref (ga G 0)), (1, .int x1)]) hx hb dX9_allAgain_8 rfl hl (by decide) rfl (fun ls hl => ?_)
  obtain ⟨nn, h⟩ := h
  exact L9 nn x1 0 x3_2 σ _ _ ls hH (lv_sub hl [2, 3, 1, 0] rfl) h
def wpX9_fitting_L90 (Q : Int32 → Sg → Prop) (K10 : Int32 → Int32 → Int32 → Int32 → Int32 → Int32 → Int32 → Sg → Prop) (x1 : Int32) (x2 : Int32) (x3 : Int32) (x5 : Int32) (x6 : Int32) (x8 : Int32) (z0 : Int32) (z1 : Int32) (σ : Sg) : Prop := ∀ x7_10 : Int32, x7_10 = z1 + z0 → K10 x1 x2 x3 x5 x6 x7_10 x8 σ
def wpX9_fitting_L69 (Q : Int32 → Sg → Prop) (K10 : Int32 → Int32 → Int32 → Int32 → Int32 → Int32 → Int32 → Sg → Prop) (x1 : Int32) (x2 : Int32) (x3 : Int32) (x5 : Int32) (x6 : Int32) (x7 : Int32) (x9 : Int32) (z0 : Int32) (σ : Sg) : Prop := ∀ x6_8 : Int32, x6_8 = x6 + x9 → ((z0 = 0 → wpX9_fitting_L90 Q K10 x1 x2 x3 x5 x6_8 z0 0 x7 σ) ∧ (¬ (z0 = 0) → wpX9_fitting_L90 Q K10 x1 x2 x3 x5 x6_8 z0 1 x7 σ))
def wpX9_fitting_L51 (Q : Int32 → Sg → Prop) (K10 : Int32 → Int32 → Int32 → Int32 → Int32 → Int32 → Int32 → Sg → Prop) (x1 : Int32) (x2 : Int32) (x3 : Int32) (x5 : Int32) (x6 : Int32) (x7 : Int32) (z0 : Int32) (z1 : Int32) (σ : Sg) : Prop := ∀ x9_6 : Int32, x9_6 = z1 + z0 → ((x5 < (x6 + x9_6) → wpX9_fitting_L69 Q K10 x1 x2 x3 x5 x6 x7 x9_6 0 σ) ∧ (¬ (x5 < (x6 + x9_6)) → wpX9_fitting_L69 Q K10 x1 x2 x3 x5 x6 x7 x9_6 1 σ))
def wpX9_fitting_L50 (Q : Int32 → Sg → Prop) (K10 : Int32 → Int32 → Int32 → Int32 → Int32 → Int32 → Int32 → Sg → Prop) (x1 : Int32) (x2 : Int32) (x3 : Int32) (x5 : Int32) (x6 : Int32) (x7 : Int32) (z0 : Int32) (σ : Sg) : Prop := wpX9_fitting_L51 Q K10 x1 x2 x3 x5 x6 x7 0 z0 σ
def wpX9_fitting_L10 (Q : Int32 → Sg → Prop) : Nat → Int32 → Int32 → Int32 → Int32 → Int32 → Int32 → Int32 → Sg → Prop
  | 0, _, _, _, _, _, _, _, _ => False
  | n + 1, x1, x2, x3, x5, x6, x7, x8, σ => ((x8 = 0 → Q (x7 - x2) σ) ∧ (¬ (x8 = 0) → ((x3 ≤ x7 → Q (x7 - x2) σ) ∧ (¬ (x3 ≤ x7) → ((x7 ≤ x2 → wpX9_fitting_L50 Q (wpX9_fitting_L10 Q n) x1 x2 x3 x5 x6 x7 1 σ) ∧ (¬ (x7 ≤ x2) → (vp_in (((240 * x1) + x7) - 1) 23040 ∧ (((σ 31 (((240 * x1) + x7) - 1).toNatClampNeg) = 0 → wpX9_fitting_L50 Q (wpX9_fitting_L10 Q n) x1 x2 x3 x5 x6 x7 1 σ) ∧ (¬ ((σ 31 (((240 * x1) + x7) - 1).toNatClampNeg) = 0) → wpX9_fitting_L51 Q (wpX9_fitting_L10 Q n) x1 x2 x3 x5 x6 x7 1 1 σ)))))))))
def wpX9_fitting (x1 : Int32) (x2 : Int32) (x3 : Int32) (x4 : Int32) (x5 : Int32) (σ : Sg) (Q : Int32 → Sg → Prop) : Prop := ∃ nn, wpX9_fitting_L10 Q nn x1 x2 x3 x5 x4 x2 1 σ
set_option maxHeartbeats 8000000 in
set_option maxRecDepth 100000 in
theorem tX9_fitting {l : Launch} {G : GG} {x1 : Int32} {x2 : Int32} {x3 : Int32} {x4 : Int32} {x5 : Int32} {σ : Sg} {Q : Int32 → Sg → Prop} (h0 : isModel G) (h : wpX9_fitting x1 x2 x3 x4 x5 σ Q) : Ki l G yX9_fitting (wB yX9_fitting prog_11_method_20_code 10 (Option.some FieldType.int)) ({ frames := 0, cells := 0, slots := 0, locals := 0 }) [.ref (ga G 0), .int x1, .int x2, .int x3, .int x4, .int x5] σ Q := by
  refine K_of (cc := cX9_fitting) (maxL := 10) (ret := (some .int)) (by decide) rfl (Nat.le_of_ble_eq_true rfl) ?_
  intro p e s m args below meth c ls B hH hl
  obtain ⟨hx, hb, hr, hts, hown, hlk, hml, hK, hX⟩ := B
  replace hl : lv_has ls 10 [(0, .ref (ga G 0)), (1, .int x1), (2, .int x2), (3, .int x3), (4, .int x4), (5, .int x5)] := hl
  have hB : ∀ w ∈ BIG, w.before args s = true := fun w h9 => hts w (List.mem_cons_of_mem _ h9)
  clear hts
  have k101 := hB _ bw4_150
  have L10 : ∀ (n10 : Nat) (x1 : Int32) (x2 : Int32) (x3 : Int32) (x5 : Int32) (x6 : Int32) (x7 : Int32) (x8 : Int32) (σ : Sg) (H : Heap) (locs : List Loc) (ls : Array Slot), Hx G (aA G s.heap.size) s σ H locs → lv_has ls 10 [(0, .ref (ga G 0)), (1, .int x1), (2, .int x2), (3, .int x3), (5, .int x5), (6, .int x6), (7, .int x7), (8, .int x8)] → wpX9_fitting_L10 Q n10 x1 x2 x3 x5 x6 x7 x8 σ → W p l e ({ frames := 0, cells := 0, slots := 0, locals := 0 }) s m args below meth c H locs 0 0 (Zi G Q below args s) (F0 m 10 ls []) := by
    intro n10
    induction n10 with
    | zero =>
      intro x1 x2 x3 x5 x6 x7 x8 σ H locs ls hH hl h
      exact False.elim h
    | succ n10 ih10 =>
      have L90 : ∀ (x1 : Int32) (x2 : Int32) (x3 : Int32) (x5 : Int32) (x6 : Int32) (x8 : Int32) (z0 : Int32) (z1 : Int32) (σ : Sg) (H : Heap) (locs : List Loc) (ls : Array Slot), Hx G (aA G s.heap.size) s σ H locs → lv_has ls 10 [(0, .ref (ga G 0)), (1, .int x1), (2, .int x2), (3, .int x3), (5, .int x5), (6, .int x6), (8, .int x8)] → wpX9_fitting_L90 Q (wpX9_fitting_L10 Q n10) x1 x2 x3 x5 x6 x8 z0 z1 σ → W p l e ({ frames := 0, cells := 0, slots := 0, locals := 0 }) s m args below meth c H locs 0 0 (Zi G Q below args s) (F0 m 90 ls [.int z0, .int z1]) := by
        intro x1 x2 x3 x5 x6 x8 z0 z1 σ H locs ls hH hl h
        unfold wpX9_fitting_L90 at h
        refine lv_iadd hx hb dX9_fitting_90 ?_
        refine lv_topi (fun x7_10 ex7_10 => ?_)
        replace h := h x7_10 ex7_10
        refine lv_istore (lv' := [(7, .int x7_10), (0, .ref (ga G 0)), (1, .int x1), (2, .int x2), (3, .int x3), (5, .int x5), (6, .int x6), (8, .int x8)]) hx hb dX9_fitting_91 hl (by decide) rfl (fun ls hl => ?_)
        refine lv_goto (tgt := 10) hx hb dX9_fitting_93 (by decide) ?_
        exact ih10 x1 x2 x3 x5 x6 x7_10 x8 σ _ _ ls hH (lv_sub hl [1, 2, 3, 4, 5, 6, 0, 7] rfl) h
      have L69 : ∀ (x1 : Int32) (x2 : Int32) (x3 : Int32) (x5 : Int32) (x6 : Int32) (x7 : Int32) (x9 : Int32) (z0 : Int32) (σ : Sg) (H : Heap) (locs : List Loc) (ls : Array Slot), Hx G (aA G s.heap.size) s σ H locs → lv_has ls 10 [(0, .ref (ga G 0)), (1, .int x1), (2, .int x2), (3, .int x3), (5, .int x5), (6, .int x6), (7, .int x7), (9, .int x9)] → wpX9_fitting_L69 Q (wpX9_fitting_L10 Q n10) x1 x2 x3 x5 x6 x7 x9 z0 σ → W p l e ({ frames := 0, cells := 0, slots := 0, locals := 0 }) s m args below meth c H locs 0 0 (Zi G Q below args s) (F0 m 69 ls [.int z0]) := by
        intro x1 x2 x3 x5 x6 x7 x9 z0 σ H locs ls hH hl h
        unfold wpX9_fitting_L69 at h
        refine lv_istore (lv' := [(8, .int z0), (0, .ref (ga G 0)), (1, .int x1), (2, .int x2), (3, .int x3), (5, .int x5), (6, .int x6), (7, .int x7), (9, .int x9)]) hx hb dX9_fitting_69 hl (by decide) rfl (fun ls hl => ?_)
        refine lv_iload hx hb dX9_fitting_71 (lv_at hl 6 rfl) ?_
        refine lv_iload hx hb dX9_fitting_73 (lv_at hl 8 rfl) ?_
        refine lv_iadd hx hb dX9_fitting_75 ?_
        refine lv_topi (fun x6_8 ex6_8 => ?_)
        replace h := h x6_8 ex6_8
        refine lv_istore (lv' := [(6, .int x6_8), (8, .int z0), (0, .ref (ga G 0)), (1, .int x1), (2, .int x2), (3, .int x3), (5, .int x5), (7, .int x7), (9, .int x9)]) hx hb dX9_fitting_76 hl (by decide) rfl (fun ls hl => ?_)
        refine lv_iload hx hb dX9_fitting_78 (lv_at hl 7 rfl) ?_
        refine lv_iload hx hb dX9_fitting_80 (lv_at hl 1 rfl) ?_
        refine lv_if_eq (tgt := 89) hx hb dX9_fitting_82 (by decide) (fun q9 => ?_) (fun q9 => ?_)
        · replace h := h.1 q9
          refine lv_iconst (v := 0) hx hb dX9_fitting_89 (by decide) ?_
          exact L90 x1 x2 x3 x5 x6_8 z0 0 x7 σ _ _ ls hH (lv_sub hl [2, 3, 4, 5, 6, 0, 1] rfl) h
        · replace h := h.2 q9
          refine lv_iconst (v := 1) hx hb dX9_fitting_85 (by decide) ?_
          refine lv_goto (tgt := 90) hx hb dX9_fitting_86 (by decide) ?_
          exact L90 x1 x2 x3 x5 x6_8 z0 1 x7 σ _ _ ls hH (lv_sub hl [2, 3, 4, 5, 6, 0, 1] rfl) h
      have L51 : ∀ (x1 : Int32) (x2 : Int32) (x3 : Int32) (x5 : Int32) (x6 : Int32) (x7 : Int32) (z0 : Int32) (z1 : Int32) (σ : Sg) (H : Heap) (locs : List Loc) (ls : Array Slot), Hx G (aA G s.heap.size) s σ H locs → lv_has ls 10 [(0, .ref (ga G 0)), (1, .int x1), (2, .int x2), (3, .int x3), (5, .int x5), (6, .int x6), (7, .int x7)] → wpX9_fitting_L51 Q (wpX9_fitting_L10 Q n10) x1 x2 x3 x5 x6 x7 z0 z1 σ → W p l e ({ frames := 0, cells := 0, slots := 0, locals := 0 }) s m args below meth c H locs 0 0 (Zi G Q below args s) (F0 m 51 ls [.int z0, .int z1]) := by
        intro x1 x2 x3 x5 x6 x7 z0 z1 σ H locs ls hH hl h
        unfold wpX9_fitting_L51 at h
        refine lv_iadd hx hb dX9_fitting_51 ?_
        refine lv_topi (fun x9_6 ex9_6 => ?_)
        replace h := h x9_6 ex9_6
        refine lv_istore (lv' := [(9, .int x9_6), (0, .ref (ga G 0)), (1, .int x1), (2, .int x2), (3, .int x3), (5, .int x5), (6, .int x6), (7, .int x7)]) hx hb dX9_fitting_52 hl (by decide) rfl (fun ls hl => ?_)
        refine lv_iload hx hb dX9_fitting_54 (lv_at hl 6 rfl) ?_
        refine lv_iload hx hb dX9_fitting_56 (lv_at hl 0 rfl) ?_
        refine lv_iadd hx hb dX9_fitting_58 ?_
        refine lv_iload hx hb dX9_fitting_59 (lv_at hl 5 rfl) ?_
        refine lv_icmp_gt (tgt := 68) hx hb dX9_fitting_61 (by decide) (fun q7 => ?_) (fun q7 => ?_)
        · replace h := h.1 q7
          refine lv_iconst (v := 0) hx hb dX9_fitting_68 (by decide) ?_
          exact L69 x1 x2 x3 x5 x6 x7 x9_6 0 σ _ _ ls hH (lv_sub hl [1, 2, 3, 4, 5, 6, 7, 0] rfl) h
        · replace h := h.2 q7
          refine lv_iconst (v := 1) hx hb dX9_fitting_64 (by decide) ?_
          refine lv_goto (tgt := 69) hx hb dX9_fitting_65 (by decide) ?_
          exact L69 x1 x2 x3 x5 x6 x7 x9_6 1 σ _ _ ls hH (lv_sub hl [1, 2, 3, 4, 5, 6, 7, 0] rfl) h
      have L50 : ∀ (x1 : Int32) (x2 : Int32) (x3 : Int32) (x5 : Int32) (x6 : Int32) (x7 : Int32) (z0 : Int32) (σ : Sg) (H : Heap) (locs : List Loc) (ls : Array Slot), Hx G (aA G s.heap.size) s σ H locs → lv_has ls 10 [(0, .ref (ga G 0)), (1, .int x1), (2, .int x2), (3, .int x3), (5, .int x5), (6, .int x6), (7, .int x7)] → wpX9_fitting_L50 Q (wpX9_fitting_L10 Q n10) x1 x2 x3 x5 x6 x7 z0 σ → W p l e ({ frames := 0, cells := 0, slots := 0, locals := 0 }) s m args below meth c H locs 0 0 (Zi G Q below args s) (F0 m 50 ls [.int z0]) := by
        intro x1 x2 x3 x5 x6 x7 z0 σ H locs ls hH hl h
        unfold wpX9_fitting_L50 at h
        refine lv_iconst (v := 0) hx hb dX9_fitting_50 (by decide) ?_
        exact L51 x1 x2 x3 x5 x6 x7 0 z0 σ _ _ ls hH (lv_sub hl [0, 1, 2, 3, 4, 5, 6] rfl) h
      intro x1 x2 x3 x5 x6 x7 x8 σ H locs ls hH hl h
      unfold wpX9_fitting_L10 at h
      refine lv_iload hx hb dX9_fitting_10 (lv_at hl 7 rfl) ?_
      refine lv_if_eq (tgt := 96) hx hb dX9_fitting_12 (by decide) (fun q1 => ?_) (fun q1 => ?_)
      · replace h := h.1 q1
        refine lv_iload hx hb dX9_fitting_96 (lv_at hl 6 rfl) ?_
        refine lv_iload_n hx hb dX9_fitting_98 rfl (lv_at hl 2 rfl) ?_
        refine lv_isub hx hb dX9_fitting_99 ?_
        exact g_iret hx hb hr hK hlk h hH dX9_fitting_100
      · replace h := h.2 q1
        refine lv_iload hx hb dX9_fitting_15 (lv_at hl 6 rfl) ?_
        refine lv_iload_n hx hb dX9_fitting_17 rfl (lv_at hl 3 rfl) ?_
        refine lv_icmp_ge (tgt := 96) hx hb dX9_fitting_18 (by decide) (fun q2 => ?_) (fun q2 => ?_)
        · replace h := h.1 q2
          refine lv_iload hx hb dX9_fitting_96 (lv_at hl 6 rfl) ?_
          refine lv_iload_n hx hb dX9_fitting_98 rfl (lv_at hl 2 rfl) ?_
          refine lv_isub hx hb dX9_fitting_99 ?_
          exact g_iret hx hb hr hK hlk h hH dX9_fitting_100
        · replace h := h.2 q2
          refine lv_iconst (v := 1) hx hb dX9_fitting_21 (by decide) ?_
          refine lv_iload hx hb dX9_fitting_22 (lv_at hl 6 rfl) ?_
          refine lv_iload_n hx hb dX9_fitting_24 rfl (lv_at hl 2 rfl) ?_
          refine lv_icmp_le (tgt := 50) hx hb dX9_fitting_25 (by decide) (fun q3 => ?_) (fun q3 => ?_)
          · replace h := h.1 q3
            exact L50 x1 x2 x3 x5 x6 x7 1 σ _ _ ls hH (lv_sub hl [0, 1, 2, 3, 4, 5, 6] rfl) h
          · replace h := h.2 q3
            refine lv_aload_n hx hb dX9_fitting_28 rfl (lv_at hl 0 rfl) ?_
            refine g_getr hx hb hB inB9 hown hK hH (c0 := 0) h0.1 rfl 40 (by decide) k101 rfl (c1 := 31) rfl dX9_fitting_29 ?_
            refine lv_sipush (v := 240) hx hb dX9_fitting_32 (by decide) ?_
            refine lv_iload_n hx hb dX9_fitting_35 rfl (lv_at hl 1 rfl) ?_
            refine lv_imul hx hb dX9_fitting_36 ?_
            refine lv_iload hx hb dX9_fitting_37 (lv_at hl 6 rfl) ?_
            refine lv_iadd hx hb dX9_fitting_39 ?_
            refine lv_iconst (v := 1) hx hb dX9_fitting_40 (by decide) ?_
            refine lv_isub hx hb dX9_fitting_41 ?_
            obtain ⟨hi4, h⟩ := h
            refine g_zald hx hb hK hH (c0 := 31) (mA31 h0) hi4 dX9_fitting_42 ?_
            refine lv_if_eq (tgt := 50) hx hb dX9_fitting_43 (by decide) (fun q5 => ?_) (fun q5 => ?_)
            · replace h := h.1 q5
              exact L50 x1 x2 x3 x5 x6 x7 1 σ _ _ ls hH (lv_sub hl [0, 1, 2, 3, 4, 5, 6] rfl) h
            · replace h := h.2 q5
              refine lv_iconst (v := 1) hx hb dX9_fitting_46 (by decide) ?_
              refine lv_goto (tgt := 51) hx hb dX9_fitting_47 (by decide) ?_
              exact L51 x1 x2 x3 x5 x6 x7 1 1 σ _ _ ls hH (lv_sub hl [0, 1, 2, 3, 4, 5, 6] rfl) h
  unfold wpX9_fitting at h
  refine lv_iload hx hb dX9_fitting_0 (lv_at hl 4 rfl) ?_
  refine lv_istore (lv' := [(6, .int x4), (0, .ref (ga G 0)), (1, .int x1), (2, .int x2), (3, .int x3), (4, .int x4), (5, .int x5)]) hx hb dX9_fitting_2 hl (by decide) rfl (fun ls hl => ?_)
  refine lv_iload_n hx hb dX9_fitting_4 rfl (lv_at hl 3 rfl) ?_
  refine lv_istore (lv' := [(7, .int x2), (6, .int x4), (0, .ref (ga G 0)), (1, .int x1), (2, .int x2), (3, .int x3), (4, .int x4), (5, .int x5)]) hx hb dX9_fitting_5 hl (by decide) rfl (fun ls hl => ?_)
  refine lv_iconst (v := 1) hx hb dX9_fitting_7 (by decide) ?_
  refine lv_istore (lv' := [(8, .int 1), (7, .int x2), (6, .int x4), (0, .ref (ga G 0)), (1, .int x1), (2, .int x2), (3, .int x3), (4, .int x4), (5, .int x5)]) hx hb dX9_fitting_8 hl (by decide) rfl (fun ls hl => ?_)
  obtain ⟨nn, h⟩ := h
  exact L10 nn x1 x2 x3 x5 x4 x2 1 σ _ _ ls hH (lv_sub hl [3, 4, 5, 6, 8, 2, 1, 0] rfl) h
def wpX9_isWhole_L55 (Q : Int32 → Sg → Prop) : Nat → Int32 → Int32 → Int32 → Sg → Prop
  | 0, _, _, _, _ => False
  | n + 1, x3, x4, x5, σ => (vp_in x3 192 ∧ (((σ 44 x3.toNatClampNeg) ≤ x5 → (vz x4 ∧ Q x4 σ)) ∧ (¬ ((σ 44 x3.toNatClampNeg) ≤ x5) → ((x4 = 0 → (vz x4 ∧ Q x4 σ)) ∧ (¬ (x4 = 0) → (vp_in ((240 * x3) + x5) 46080 ∧ ∀ x4_12 : Int32, x4_12 = σ 46 ((240 * x3) + x5).toNatClampNeg → ∀ x5_13 : Int32, x5_13 = x5 + 1 → (wpX9_isWhole_L55 Q n) x3 x4_12 x5_13 σ))))))
def wpX9_isWhole_L50 (Q : Int32 → Sg → Prop) (x3 : Int32) (z0 : Int32) (σ : Sg) : Prop := ∃ nn, wpX9_isWhole_L55 Q nn x3 z0 0 σ
def wpX9_isWhole (x1 : Int32) (x2 : Int32) (σ : Sg) (Q : Int32 → Sg → Prop) : Prop := (vp_in x1 6 ∧ ((x2 < (σ 33 x1.toNatClampNeg) → Q 0 σ) ∧ (¬ (x2 < (σ 33 x1.toNatClampNeg)) → (vp_in x1 6 ∧ ((x2 < ((σ 33 x1.toNatClampNeg) + 32) → ∀ x3_5 : Int32, x3_5 = (32 * x1) + (x2 &&& 31) → (vp_in x3_5 192 ∧ (((σ 44 x3_5.toNatClampNeg) = (-1) → wpX9_isWhole_L50 Q x3_5 0 σ) ∧ (¬ ((σ 44 x3_5.toNatClampNeg) = (-1)) → wpX9_isWhole_L50 Q x3_5 1 σ)))) ∧ (¬ (x2 < ((σ 33 x1.toNatClampNeg) + 32)) → Q 0 σ))))))
set_option maxHeartbeats 8000000 in
set_option maxRecDepth 100000 in
theorem tX9_isWhole {l : Launch} {G : GG} {x1 : Int32} {x2 : Int32} {σ : Sg} {Q : Int32 → Sg → Prop} (h0 : isModel G) (h : wpX9_isWhole x1 x2 σ Q) : Ki l G yX9_isWhole (wB yX9_isWhole prog_11_method_33_code 6 (Option.some FieldType.boolean)) ({ frames := 0, cells := 0, slots := 0, locals := 0 }) [.ref (ga G 0), .int x1, .int x2] σ Q := by
  refine K_of (cc := cX9_isWhole) (maxL := 6) (ret := (some .boolean)) (by decide) rfl (Nat.le_of_ble_eq_true rfl) ?_
  intro p e s m args below meth c ls B hH hl
  obtain ⟨hx, hb, hr, hts, hown, hlk, hml, hK, hX⟩ := B
  replace hl : lv_has ls 6 [(0, .ref (ga G 0)), (1, .int x1), (2, .int x2)] := hl
  have hB : ∀ w ∈ BIG, w.before args s = true := fun w h9 => hts w (List.mem_cons_of_mem _ h9)
  clear hts
  have k107 := hB _ bw4_152
  have k140 := hB _ bw4_163
  have k147 := hB _ bw4_165
  have L55 : ∀ (n55 : Nat) (x3 : Int32) (x4 : Int32) (x5 : Int32) (σ : Sg) (H : Heap) (locs : List Loc) (ls : Array Slot), Hx G (aA G s.heap.size) s σ H locs → lv_has ls 6 [(0, .ref (ga G 0)), (3, .int x3), (4, .int x4), (5, .int x5)] → wpX9_isWhole_L55 Q n55 x3 x4 x5 σ → W p l e ({ frames := 0, cells := 0, slots := 0, locals := 0 }) s m args below meth c H locs 0 0 (Zi G Q below args s) (F0 m 55 ls []) := by
    intro n55
    induction n55 with
    | zero =>
      intro x3 x4 x5 σ H locs ls hH hl h
      exact False.elim h
    | succ n55 ih55 =>
      intro x3 x4 x5 σ H locs ls hH hl h
      unfold wpX9_isWhole_L55 at h
      refine lv_iload hx hb dX9_isWhole_55 (lv_at hl 3 rfl) ?_
      refine lv_aload_n hx hb dX9_isWhole_57 rfl (lv_at hl 0 rfl) ?_
      refine g_getr hx hb hB inB9 hown hK hH (c0 := 0) h0.1 rfl 53 (by decide) k140 rfl (c1 := 44) rfl dX9_isWhole_58 ?_
      refine lv_iload_n hx hb dX9_isWhole_61 rfl (lv_at hl 1 rfl) ?_
      obtain ⟨hi8, h⟩ := h
      refine g_iald hx hb hK hH (c0 := 44) (mA44 h0) hi8 dX9_isWhole_62 ?_
      refine lv_icmp_ge (tgt := 92) hx hb dX9_isWhole_63 (by decide) (fun q9 => ?_) (fun q9 => ?_)
      · replace h := h.1 q9
        refine lv_iload hx hb dX9_isWhole_92 (lv_at hl 2 rfl) ?_
        exact g_zret hx hb hr hK hlk h.1 h.2 hH dX9_isWhole_94
      · replace h := h.2 q9
        refine lv_iload hx hb dX9_isWhole_66 (lv_at hl 2 rfl) ?_
        refine lv_if_eq (tgt := 92) hx hb dX9_isWhole_68 (by decide) (fun q10 => ?_) (fun q10 => ?_)
        · replace h := h.1 q10
          refine lv_iload hx hb dX9_isWhole_92 (lv_at hl 2 rfl) ?_
          exact g_zret hx hb hr hK hlk h.1 h.2 hH dX9_isWhole_94
        · replace h := h.2 q10
          refine lv_aload_n hx hb dX9_isWhole_71 rfl (lv_at hl 0 rfl) ?_
          refine g_getr hx hb hB inB9 hown hK hH (c0 := 0) h0.1 rfl 55 (by decide) k147 rfl (c1 := 46) rfl dX9_isWhole_72 ?_
          refine lv_sipush (v := 240) hx hb dX9_isWhole_75 (by decide) ?_
          refine lv_iload_n hx hb dX9_isWhole_78 rfl (lv_at hl 1 rfl) ?_
          refine lv_imul hx hb dX9_isWhole_79 ?_
          refine lv_iload hx hb dX9_isWhole_80 (lv_at hl 3 rfl) ?_
          refine lv_iadd hx hb dX9_isWhole_82 ?_
          obtain ⟨hi11, h⟩ := h
          refine g_zald hx hb hK hH (c0 := 46) (mA46 h0) hi11 dX9_isWhole_83 ?_
          refine lv_topi (fun x4_12 ex4_12 => ?_)
          replace h := h x4_12 ex4_12
          refine lv_istore (lv' := [(4, .int x4_12), (0, .ref (ga G 0)), (3, .int x3), (5, .int x5)]) hx hb dX9_isWhole_84 hl (by decide) rfl (fun ls hl => ?_)
          obtain ⟨x5_13, ex5_13⟩ : ∃ y : Int32, y = x5 + 1 := ⟨_, rfl⟩
          replace h := h x5_13 ex5_13
          refine lv_iinc (v := x5_13) (lv' := [(5, .int x5_13), (4, .int x4_12), (0, .ref (ga G 0)), (3, .int x3)]) hx hb dX9_isWhole_86 hl (k := 3) rfl (by rw [ex5_13]; rfl) (by decide) rfl (fun ls hl => ?_)
          refine lv_goto (tgt := 55) hx hb dX9_isWhole_89 (by decide) ?_
          exact ih55 x3 x4_12 x5_13 σ _ _ ls hH (lv_sub hl [2, 3, 1, 0] rfl) h
  have L50 : ∀ (x3 : Int32) (z0 : Int32) (σ : Sg) (H : Heap) (locs : List Loc) (ls : Array Slot), Hx G (aA G s.heap.size) s σ H locs → lv_has ls 6 [(0, .ref (ga G 0)), (3, .int x3)] → wpX9_isWhole_L50 Q x3 z0 σ → W p l e ({ frames := 0, cells := 0, slots := 0, locals := 0 }) s m args below meth c H locs 0 0 (Zi G Q below args s) (F0 m 50 ls [.int z0]) := by
    intro x3 z0 σ H locs ls hH hl h
    unfold wpX9_isWhole_L50 at h
    refine lv_istore (lv' := [(4, .int z0), (0, .ref (ga G 0)), (3, .int x3)]) hx hb dX9_isWhole_50 hl (by decide) rfl (fun ls hl => ?_)
    refine lv_iconst (v := 0) hx hb dX9_isWhole_52 (by decide) ?_
    refine lv_istore (lv' := [(5, .int 0), (4, .int z0), (0, .ref (ga G 0)), (3, .int x3)]) hx hb dX9_isWhole_53 hl (by decide) rfl (fun ls hl => ?_)
    obtain ⟨nn, h⟩ := h
    exact L55 nn x3 z0 0 σ _ _ ls hH (lv_sub hl [2, 3, 1, 0] rfl) h
  unfold wpX9_isWhole at h
  refine lv_iload_n hx hb dX9_isWhole_0 rfl (lv_at hl 2 rfl) ?_
  refine lv_aload_n hx hb dX9_isWhole_1 rfl (lv_at hl 0 rfl) ?_
  refine g_getr hx hb hB inB9 hown hK hH (c0 := 0) h0.1 rfl 42 (by decide) k107 rfl (c1 := 33) rfl dX9_isWhole_2 ?_
  refine lv_iload_n hx hb dX9_isWhole_5 rfl (lv_at hl 1 rfl) ?_
  obtain ⟨hi1, h⟩ := h
  refine g_iald hx hb hK hH (c0 := 33) (mA33 h0) hi1 dX9_isWhole_6 ?_
  refine lv_icmp_lt (tgt := 23) hx hb dX9_isWhole_7 (by decide) (fun q2 => ?_) (fun q2 => ?_)
  · replace h := h.1 q2
    refine lv_iconst (v := 0) hx hb dX9_isWhole_23 (by decide) ?_
    exact g_zret hx hb hr hK hlk vz0 h hH dX9_isWhole_24
  · replace h := h.2 q2
    refine lv_iload_n hx hb dX9_isWhole_10 rfl (lv_at hl 2 rfl) ?_
    refine lv_aload_n hx hb dX9_isWhole_11 rfl (lv_at hl 0 rfl) ?_
    refine g_getr hx hb hB inB9 hown hK hH (c0 := 0) h0.1 rfl 42 (by decide) k107 rfl (c1 := 33) rfl dX9_isWhole_12 ?_
    refine lv_iload_n hx hb dX9_isWhole_15 rfl (lv_at hl 1 rfl) ?_
    obtain ⟨hi3, h⟩ := h
    refine g_iald hx hb hK hH (c0 := 33) (mA33 h0) hi3 dX9_isWhole_16 ?_
    refine lv_bipush (v := 32) hx hb dX9_isWhole_17 (by decide) ?_
    refine lv_iadd hx hb dX9_isWhole_19 ?_
    refine lv_icmp_lt (tgt := 25) hx hb dX9_isWhole_20 (by decide) (fun q4 => ?_) (fun q4 => ?_)
    · replace h := h.1 q4
      refine lv_bipush (v := 32) hx hb dX9_isWhole_25 (by decide) ?_
      refine lv_iload_n hx hb dX9_isWhole_27 rfl (lv_at hl 1 rfl) ?_
      refine lv_imul hx hb dX9_isWhole_28 ?_
      refine lv_iload_n hx hb dX9_isWhole_29 rfl (lv_at hl 2 rfl) ?_
      refine lv_bipush (v := 31) hx hb dX9_isWhole_30 (by decide) ?_
      refine lv_iand hx hb dX9_isWhole_32 ?_
      refine lv_iadd hx hb dX9_isWhole_33 ?_
      refine lv_topi (fun x3_5 ex3_5 => ?_)
      replace h := h x3_5 ex3_5
      refine lv_istore_n (lv' := [(3, .int x3_5), (0, .ref (ga G 0)), (1, .int x1), (2, .int x2)]) hx hb dX9_isWhole_34 rfl hl (by decide) rfl (fun ls hl => ?_)
      refine lv_aload_n hx hb dX9_isWhole_35 rfl (lv_at hl 1 rfl) ?_
      refine g_getr hx hb hB inB9 hown hK hH (c0 := 0) h0.1 rfl 53 (by decide) k140 rfl (c1 := 44) rfl dX9_isWhole_36 ?_
      refine lv_iload_n hx hb dX9_isWhole_39 rfl (lv_at hl 0 rfl) ?_
      obtain ⟨hi6, h⟩ := h
      refine g_iald hx hb hK hH (c0 := 44) (mA44 h0) hi6 dX9_isWhole_40 ?_
      refine lv_iconst (v := (-1)) hx hb dX9_isWhole_41 (by decide) ?_
      refine lv_icmp_eq (tgt := 49) hx hb dX9_isWhole_42 (by decide) (fun q7 => ?_) (fun q7 => ?_)
      · replace h := h.1 q7
        refine lv_iconst (v := 0) hx hb dX9_isWhole_49 (by decide) ?_
        exact L50 x3_5 0 σ _ _ ls hH (lv_sub hl [1, 0] rfl) h
      · replace h := h.2 q7
        refine lv_iconst (v := 1) hx hb dX9_isWhole_45 (by decide) ?_
        refine lv_goto (tgt := 50) hx hb dX9_isWhole_46 (by decide) ?_
        exact L50 x3_5 1 σ _ _ ls hH (lv_sub hl [1, 0] rfl) h
    · replace h := h.2 q4
      refine lv_iconst (v := 0) hx hb dX9_isWhole_23 (by decide) ?_
      exact g_zret hx hb hr hK hlk vz0 h hH dX9_isWhole_24
def wpX9_putRun (x1 : Int32) (x2 : Int32) (x3 : Int32) (x4 : Int32) (σ : Sg) (Q : Sg → Prop) : Prop := (vp_in x1 250 ∧ ∀ σ1 : Sg, σ1 = up2 σ 66 x1.toNatClampNeg ((x2 &&& 63) + 128) → (vp_in (x1 + 1) 250 ∧ ∀ σ2 : Sg, σ2 = up2 σ1 66 ((x1 + 1).toNatClampNeg) x3 → (vp_in (x1 + 2) 250 ∧ ∀ σ3 : Sg, σ3 = up2 σ2 66 ((x1 + 2).toNatClampNeg) x4 → Q σ3)))
set_option maxHeartbeats 8000000 in
set_option maxRecDepth 100000 in
theorem tX9_putRun {l : Launch} {G : GG} {x1 : Int32} {x2 : Int32} {x3 : Int32} {x4 : Int32} {σ : Sg} {Q : Sg → Prop} (h0 : isModel G) (h : wpX9_putRun x1 x2 x3 x4 σ Q) : Kv l G yX9_putRun (wB yX9_putRun prog_11_method_25_code 5 none) ({ frames := 0, cells := 0, slots := 0, locals := 0 }) [.ref (ga G 0), .int x1, .int x2, .int x3, .int x4] σ Q := by
  refine K_of (cc := cX9_putRun) (maxL := 5) (ret := none) (by decide) rfl (Nat.le_of_ble_eq_true rfl) ?_
  intro p e s m args below meth c ls B hH hl
  obtain ⟨hx, hb, hr, hts, hown, hlk, hml, hK, hX⟩ := B
  replace hl : lv_has ls 5 [(0, .ref (ga G 0)), (1, .int x1), (2, .int x2), (3, .int x3), (4, .int x4)] := hl
  have hB : ∀ w ∈ BIG, w.before args s = true := fun w h9 => hts w (List.mem_cons_of_mem _ h9)
  clear hts
  have k207 := hB _ bw4_185
  unfold wpX9_putRun at h
  refine lv_aload_n hx hb dX9_putRun_0 rfl (lv_at hl 0 rfl) ?_
  refine g_getr hx hb hB inB9 hown hK hH (c0 := 0) h0.1 rfl 75 (by decide) k207 rfl (c1 := 66) rfl dX9_putRun_1 ?_
  refine lv_iload_n hx hb dX9_putRun_4 rfl (lv_at hl 1 rfl) ?_
  refine lv_iload_n hx hb dX9_putRun_5 rfl (lv_at hl 2 rfl) ?_
  refine lv_bipush (v := 63) hx hb dX9_putRun_6 (by decide) ?_
  refine lv_iand hx hb dX9_putRun_8 ?_
  refine lv_sipush (v := 128) hx hb dX9_putRun_9 (by decide) ?_
  refine lv_iadd hx hb dX9_putRun_12 ?_
  obtain ⟨hi1, h⟩ := h
  refine g_iast hx hb hK hH (c0 := 66) (i := x1) (mA66 h0) hi1 dX9_putRun_13 (fun σ1 eσ1 H locs hH => ?_)
  replace h := h σ1 eσ1
  refine lv_aload_n hx hb dX9_putRun_14 rfl (lv_at hl 0 rfl) ?_
  refine g_getr hx hb hB inB9 hown hK hH (c0 := 0) h0.1 rfl 75 (by decide) k207 rfl (c1 := 66) rfl dX9_putRun_15 ?_
  refine lv_iload_n hx hb dX9_putRun_18 rfl (lv_at hl 1 rfl) ?_
  refine lv_iconst (v := 1) hx hb dX9_putRun_19 (by decide) ?_
  refine lv_iadd hx hb dX9_putRun_20 ?_
  refine lv_iload_n hx hb dX9_putRun_21 rfl (lv_at hl 3 rfl) ?_
  obtain ⟨hi2, h⟩ := h
  refine g_iast hx hb hK hH (c0 := 66) (i := x1 + 1) (mA66 h0) hi2 dX9_putRun_22 (fun σ2 eσ2 H locs hH => ?_)
  replace h := h σ2 eσ2
  refine lv_aload_n hx hb dX9_putRun_23 rfl (lv_at hl 0 rfl) ?_
  refine g_getr hx hb hB inB9 hown hK hH (c0 := 0) h0.1 rfl 75 (by decide) k207 rfl (c1 := 66) rfl dX9_putRun_24 ?_
  refine lv_iload_n hx hb dX9_putRun_27 rfl (lv_at hl 1 rfl) ?_
  refine lv_iconst (v := 2) hx hb dX9_putRun_28 (by decide) ?_
  refine lv_iadd hx hb dX9_putRun_29 ?_
  refine lv_iload hx hb dX9_putRun_30 (lv_at hl 4 rfl) ?_
  obtain ⟨hi3, h⟩ := h
  refine g_iast hx hb hK hH (c0 := 66) (i := x1 + 2) (mA66 h0) hi3 dX9_putRun_32 (fun σ3 eσ3 H locs hH => ?_)
  replace h := h σ3 eσ3
  exact g_vret hx hb hr hK hlk h hH dX9_putRun_33
def wpX9_entries_L240 (Q : Int32 → Sg → Prop) (K116 : Int32 → Int32 → Int32 → Int32 → Int32 → Int32 → Int32 → Sg → Prop) (x2 : Int32) (x3 : Int32) (x4 : Int32) (x5 : Int32) (x8 : Int32) (x9 : Int32) (x10 : Int32) (σ : Sg) : Prop := ∀ x10_28 : Int32, x10_28 = x10 + 1 → K116 x2 x3 x4 x5 x8 x9 x10_28 σ
def wpX9_entries_L237 (Q : Int32 → Sg → Prop) (K116 : Int32 → Int32 → Int32 → Int32 → Int32 → Int32 → Int32 → Sg → Prop) (x2 : Int32) (x3 : Int32) (x4 : Int32) (x5 : Int32) (x8 : Int32) (x9 : Int32) (x10 : Int32) (σ : Sg) : Prop := ∀ x9_31 : Int32, x9_31 = x9 + 1 → wpX9_entries_L240 Q K116 x2 x3 x4 x5 x8 x9_31 x10 σ
def wpX9_entries_L217 (Q : Int32 → Sg → Prop) (K116 : Int32 → Int32 → Int32 → Int32 → Int32 → Int32 → Int32 → Sg → Prop) (x2 : Int32) (x3 : Int32) (x4 : Int32) (x5 : Int32) (x8 : Int32) (x9 : Int32) (x10 : Int32) (x12 : Int32) (σ : Sg) : Prop := ((x4 = 0 → wpX9_entries_L237 Q K116 x2 x3 x4 x5 x8 x9 x10 σ) ∧ (¬ (x4 = 0) → wpX9_putRun (x3 + (3 * x9)) x2 x10 x12 σ (fun σ30 => wpX9_entries_L237 Q K116 x2 x3 x4 x5 x8 x9 x10 σ30)))
def wpX9_entries_L183 (Q : Int32 → Sg → Prop) (K116 : Int32 → Int32 → Int32 → Int32 → Int32 → Int32 → Int32 → Sg → Prop) : Nat → Int32 → Int32 → Int32 → Int32 → Int32 → Int32 → Int32 → Int32 → Sg → Prop
  | 0, _, _, _, _, _, _, _, _, _ => False
  | n + 1, x2, x3, x4, x5, x8, x9, x10, x12, σ => ((x8 ≤ (x12 + 1) → wpX9_entries_L217 Q K116 x2 x3 x4 x5 x8 x9 x10 x12 σ) ∧ (¬ (x8 ≤ (x12 + 1)) → (vp_in (((240 * x5) + x12) + 1) 46080 ∧ ((¬ (σ 46 (((240 * x5) + x12) + 1).toNatClampNeg) = 0 → wpX9_entries_L217 Q K116 x2 x3 x4 x5 x8 x9 x10 x12 σ) ∧ ((σ 46 (((240 * x5) + x12) + 1).toNatClampNeg) = 0 → ∀ x12_27 : Int32, x12_27 = x12 + 1 → (wpX9_entries_L183 Q K116 n) x2 x3 x4 x5 x8 x9 x10 x12_27 σ)))))
def wpX9_entries_L169 (Q : Int32 → Sg → Prop) (K116 : Int32 → Int32 → Int32 → Int32 → Int32 → Int32 → Int32 → Sg → Prop) (x2 : Int32) (x3 : Int32) (x4 : Int32) (x5 : Int32) (x8 : Int32) (x9 : Int32) (x10 : Int32) (z0 : Int32) (σ : Sg) : Prop := ((¬ z0 = 0 → ∃ nn, wpX9_entries_L183 Q K116 nn x2 x3 x4 x5 x8 x9 x10 x10 σ) ∧ (z0 = 0 → wpX9_entries_L240 Q K116 x2 x3 x4 x5 x8 x9 x10 σ))
def wpX9_entries_L168 (Q : Int32 → Sg → Prop) (K116 : Int32 → Int32 → Int32 → Int32 → Int32 → Int32 → Int32 → Sg → Prop) (x2 : Int32) (x3 : Int32) (x4 : Int32) (x5 : Int32) (x8 : Int32) (x9 : Int32) (x10 : Int32) (σ : Sg) : Prop := wpX9_entries_L169 Q K116 x2 x3 x4 x5 x8 x9 x10 0 σ
def wpX9_entries_L164 (Q : Int32 → Sg → Prop) (K116 : Int32 → Int32 → Int32 → Int32 → Int32 → Int32 → Int32 → Sg → Prop) (x2 : Int32) (x3 : Int32) (x4 : Int32) (x5 : Int32) (x8 : Int32) (x9 : Int32) (x10 : Int32) (σ : Sg) : Prop := wpX9_entries_L169 Q K116 x2 x3 x4 x5 x8 x9 x10 1 σ
def wpX9_entries_L116 (Q : Int32 → Sg → Prop) : Nat → Int32 → Int32 → Int32 → Int32 → Int32 → Int32 → Int32 → Sg → Prop
  | 0, _, _, _, _, _, _, _, _ => False
  | n + 1, x2, x3, x4, x5, x8, x9, x10, σ => ((x8 ≤ x10 → (vp_in x5 192 ∧ (((σ 44 x5.toNatClampNeg) = (-1) → ((x4 = 0 → Q (x9 + 1) σ) ∧ (¬ (x4 = 0) → wpX9_putRun (x3 + (3 * x9)) x2 x8 255 σ (fun σ17 => Q (x9 + 1) σ17)))) ∧ (¬ ((σ 44 x5.toNatClampNeg) = (-1)) → Q x9 σ)))) ∧ (¬ (x8 ≤ x10) → (vp_in ((240 * x5) + x10) 46080 ∧ ((¬ (σ 46 ((240 * x5) + x10).toNatClampNeg) = 0 → wpX9_entries_L168 Q (wpX9_entries_L116 Q n) x2 x3 x4 x5 x8 x9 x10 σ) ∧ ((σ 46 ((240 * x5) + x10).toNatClampNeg) = 0 → ((x10 = 0 → wpX9_entries_L164 Q (wpX9_entries_L116 Q n) x2 x3 x4 x5 x8 x9 x10 σ) ∧ (¬ (x10 = 0) → (vp_in (((240 * x5) + x10) - 1) 46080 ∧ (((σ 46 (((240 * x5) + x10) - 1).toNatClampNeg) = 0 → wpX9_entries_L168 Q (wpX9_entries_L116 Q n) x2 x3 x4 x5 x8 x9 x10 σ) ∧ (¬ ((σ 46 (((240 * x5) + x10) - 1).toNatClampNeg) = 0) → wpX9_entries_L164 Q (wpX9_entries_L116 Q n) x2 x3 x4 x5 x8 x9 x10 σ))))))))))
def wpX9_entries_L108 (Q : Int32 → Sg → Prop) (x2 : Int32) (x3 : Int32) (x4 : Int32) (x5 : Int32) (z0 : Int32) (σ : Sg) : Prop := ∃ nn, wpX9_entries_L116 Q nn x2 x3 x4 x5 z0 0 0 σ
def wpX9_entries_L55 (Q : Int32 → Sg → Prop) (K20 : Int32 → Int32 → Int32 → Int32 → Int32 → Int32 → Int32 → Sg → Prop) (x2 : Int32) (x3 : Int32) (x4 : Int32) (x5 : Int32) (x6 : Int32) (x7 : Int32) (x8 : Int32) (σ : Sg) : Prop := ∀ x8_12 : Int32, x8_12 = x8 + 1 → K20 x2 x3 x4 x5 x6 x7 x8_12 σ
def wpX9_entries_L20 (Q : Int32 → Sg → Prop) : Nat → Int32 → Int32 → Int32 → Int32 → Int32 → Int32 → Int32 → Sg → Prop
  | 0, _, _, _, _, _, _, _, _ => False
  | n + 1, x2, x3, x4, x5, x6, x7, x8, σ => ((240 ≤ x8 → ((¬ x6 = 0 → (vp_in x5 192 ∧ ((¬ (σ 44 x5.toNatClampNeg) = (-1) → (vp_in x5 192 ∧ wpX9_entries_L108 Q x2 x3 x4 x5 (σ 44 x5.toNatClampNeg) σ)) ∧ ((σ 44 x5.toNatClampNeg) = (-1) → wpX9_entries_L108 Q x2 x3 x4 x5 (x7 + 1) σ)))) ∧ (x6 = 0 → ((x4 = 0 → Q 1 σ) ∧ (¬ (x4 = 0) → (vp_in x3 250 ∧ ∀ σ8 : Sg, σ8 = up2 σ 66 x3.toNatClampNeg (x2 &&& 63) → Q 1 σ8)))))) ∧ (¬ (240 ≤ x8) → (vp_in ((240 * x5) + x8) 46080 ∧ ((¬ (σ 46 ((240 * x5) + x8).toNatClampNeg) = 0 → ∀ x6_11 : Int32, x6_11 = x6 + 1 → wpX9_entries_L55 Q (wpX9_entries_L20 Q n) x2 x3 x4 x5 x6_11 x8 x8 σ) ∧ ((σ 46 ((240 * x5) + x8).toNatClampNeg) = 0 → wpX9_entries_L55 Q (wpX9_entries_L20 Q n) x2 x3 x4 x5 x6 x7 x8 σ)))))
def wpX9_entries (x1 : Int32) (x2 : Int32) (x3 : Int32) (x4 : Int32) (σ : Sg) (Q : Int32 → Sg → Prop) : Prop := ∀ x5_1 : Int32, x5_1 = (32 * x1) + (x2 &&& 31) → ∃ nn, wpX9_entries_L20 Q nn x2 x3 x4 x5_1 0 (-1) 0 σ
set_option maxHeartbeats 8000000 in
set_option maxRecDepth 100000 in
theorem tX9_entries {l : Launch} {G : GG} {x1 : Int32} {x2 : Int32} {x3 : Int32} {x4 : Int32} {σ : Sg} {Q : Int32 → Sg → Prop} (h0 : isModel G) (h : wpX9_entries x1 x2 x3 x4 σ Q) : Ki l G yX9_entries (wB yX9_entries prog_11_method_24_code 13 (Option.some FieldType.int)) ({ frames := 1, cells := 0, slots := 0, locals := 24 }) [.ref (ga G 0), .int x1, .int x2, .int x3, .int x4] σ Q := by
  refine K_of (cc := cX9_entries) (maxL := 13) (ret := (some .int)) (by decide) rfl (Nat.le_of_ble_eq_true rfl) ?_
  intro p e s m args below meth c ls B hH hl
  obtain ⟨hx, hb, hr, hts, hown, hlk, hml, hK, hX⟩ := B
  replace hl : lv_has ls 13 [(0, .ref (ga G 0)), (1, .int x1), (2, .int x2), (3, .int x3), (4, .int x4)] := hl
  have hB : ∀ w ∈ BIG, w.before args s = true := fun w h9 => hts w (List.mem_cons_of_mem _ h9)
  clear hts
  have k140 := hB _ bw4_163
  have k147 := hB _ bw4_165
  have k207 := hB _ bw4_185
  have L116 : ∀ (n116 : Nat) (x2 : Int32) (x3 : Int32) (x4 : Int32) (x5 : Int32) (x8 : Int32) (x9 : Int32) (x10 : Int32) (σ : Sg) (H : Heap) (locs : List Loc) (ls : Array Slot), Hx G (aA G s.heap.size) s σ H locs → lv_has ls 13 [(0, .ref (ga G 0)), (2, .int x2), (3, .int x3), (4, .int x4), (5, .int x5), (8, .int x8), (9, .int x9), (10, .int x10)] → wpX9_entries_L116 Q n116 x2 x3 x4 x5 x8 x9 x10 σ → W p l e ({ frames := 1, cells := 0, slots := 0, locals := 24 }) s m args below meth c H locs 0 0 (Zi G Q below args s) (F0 m 116 ls []) := by
    intro n116
    induction n116 with
    | zero =>
      intro x2 x3 x4 x5 x8 x9 x10 σ H locs ls hH hl h
      exact False.elim h
    | succ n116 ih116 =>
      have L240 : ∀ (x2 : Int32) (x3 : Int32) (x4 : Int32) (x5 : Int32) (x8 : Int32) (x9 : Int32) (x10 : Int32) (σ : Sg) (H : Heap) (locs : List Loc) (ls : Array Slot), Hx G (aA G s.heap.size) s σ H locs → lv_has ls 13 [(0, .ref (ga G 0)), (2, .int x2), (3, .int x3), (4, .int x4), (5, .int x5), (8, .int x8), (9, .int x9), (10, .int x10)] → wpX9_entries_L240 Q (wpX9_entries_L116 Q n116) x2 x3 x4 x5 x8 x9 x10 σ → W p l e ({ frames := 1, cells := 0, slots := 0, locals := 24 }) s m args below meth c H locs 0 0 (Zi G Q below args s) (F0 m 240 ls []) := by
        intro x2 x3 x4 x5 x8 x9 x10 σ H locs ls hH hl h
        unfold wpX9_entries_L240 at h
        obtain ⟨x10_28, ex10_28⟩ : ∃ y : Int32, y = x10 + 1 := ⟨_, rfl⟩
        replace h := h x10_28 ex10_28
        refine lv_iinc (v := x10_28) (lv' := [(10, .int x10_28), (0, .ref (ga G 0)), (2, .int x2), (3, .int x3), (4, .int x4), (5, .int x5), (8, .int x8), (9, .int x9)]) hx hb dX9_entries_240 hl (k := 7) rfl (by rw [ex10_28]; rfl) (by decide) rfl (fun ls hl => ?_)
        refine lv_goto (tgt := 116) hx hb dX9_entries_243 (by decide) ?_
        exact ih116 x2 x3 x4 x5 x8 x9 x10_28 σ _ _ ls hH (lv_sub hl [1, 2, 3, 4, 5, 6, 7, 0] rfl) h
      have L237 : ∀ (x2 : Int32) (x3 : Int32) (x4 : Int32) (x5 : Int32) (x8 : Int32) (x9 : Int32) (x10 : Int32) (σ : Sg) (H : Heap) (locs : List Loc) (ls : Array Slot), Hx G (aA G s.heap.size) s σ H locs → lv_has ls 13 [(0, .ref (ga G 0)), (2, .int x2), (3, .int x3), (4, .int x4), (5, .int x5), (8, .int x8), (9, .int x9), (10, .int x10)] → wpX9_entries_L237 Q (wpX9_entries_L116 Q n116) x2 x3 x4 x5 x8 x9 x10 σ → W p l e ({ frames := 1, cells := 0, slots := 0, locals := 24 }) s m args below meth c H locs 0 0 (Zi G Q below args s) (F0 m 237 ls []) := by
        intro x2 x3 x4 x5 x8 x9 x10 σ H locs ls hH hl h
        unfold wpX9_entries_L237 at h
        obtain ⟨x9_31, ex9_31⟩ : ∃ y : Int32, y = x9 + 1 := ⟨_, rfl⟩
        replace h := h x9_31 ex9_31
        refine lv_iinc (v := x9_31) (lv' := [(9, .int x9_31), (0, .ref (ga G 0)), (2, .int x2), (3, .int x3), (4, .int x4), (5, .int x5), (8, .int x8), (10, .int x10)]) hx hb dX9_entries_237 hl (k := 6) rfl (by rw [ex9_31]; rfl) (by decide) rfl (fun ls hl => ?_)
        exact L240 x2 x3 x4 x5 x8 x9_31 x10 σ _ _ ls hH (lv_sub hl [1, 2, 3, 4, 5, 6, 0, 7] rfl) h
      have L217 : ∀ (x2 : Int32) (x3 : Int32) (x4 : Int32) (x5 : Int32) (x8 : Int32) (x9 : Int32) (x10 : Int32) (x12 : Int32) (σ : Sg) (H : Heap) (locs : List Loc) (ls : Array Slot), Hx G (aA G s.heap.size) s σ H locs → lv_has ls 13 [(0, .ref (ga G 0)), (2, .int x2), (3, .int x3), (4, .int x4), (5, .int x5), (8, .int x8), (9, .int x9), (10, .int x10), (12, .int x12)] → wpX9_entries_L217 Q (wpX9_entries_L116 Q n116) x2 x3 x4 x5 x8 x9 x10 x12 σ → W p l e ({ frames := 1, cells := 0, slots := 0, locals := 24 }) s m args below meth c H locs 0 0 (Zi G Q below args s) (F0 m 217 ls []) := by
        intro x2 x3 x4 x5 x8 x9 x10 x12 σ H locs ls hH hl h
        unfold wpX9_entries_L217 at h
        refine lv_iload hx hb dX9_entries_217 (lv_at hl 3 rfl) ?_
        refine lv_if_eq (tgt := 237) hx hb dX9_entries_219 (by decide) (fun q29 => ?_) (fun q29 => ?_)
        · replace h := h.1 q29
          exact L237 x2 x3 x4 x5 x8 x9 x10 σ _ _ ls hH (lv_sub hl [0, 1, 2, 3, 4, 5, 6, 7] rfl) h
        · replace h := h.2 q29
          refine lv_aload_n hx hb dX9_entries_222 rfl (lv_at hl 0 rfl) ?_
          refine lv_iload_n hx hb dX9_entries_223 rfl (lv_at hl 2 rfl) ?_
          refine lv_iconst (v := 3) hx hb dX9_entries_224 (by decide) ?_
          refine lv_iload hx hb dX9_entries_225 (lv_at hl 6 rfl) ?_
          refine lv_imul hx hb dX9_entries_227 ?_
          refine lv_iadd hx hb dX9_entries_228 ?_
          refine lv_iload_n hx hb dX9_entries_229 rfl (lv_at hl 1 rfl) ?_
          refine lv_iload hx hb dX9_entries_230 (lv_at hl 7 rfl) ?_
          refine lv_iload hx hb dX9_entries_232 (lv_at hl 8 rfl) ?_
          refine g_callVv (As := [.int (x3 + (3 * x9)), .int x2, .int x10, .int x12]) (rest := []) ⟨hx, hb, hml, hown, hB⟩ hK hX aA_hA hH (c0 := 0) (tX9_putRun h0 h) (cwV 4 hB gVX9_303 rfl rfl rfl (by decide +kernel) ⟨Nat.le_of_ble_eq_true rfl, Nat.le_of_ble_eq_true rfl⟩) h0.1 rfl rfl hl.1 rfl (lv_room (Nat.le_of_ble_eq_true rfl)) ⟨Nat.zero_le _, Nat.zero_le _⟩ dX9_entries_234 (fun σ30 H locs h hH => ?_)
          exact L237 x2 x3 x4 x5 x8 x9 x10 σ30 _ _ ls hH (lv_sub hl [0, 1, 2, 3, 4, 5, 6, 7] rfl) h
      have L183 : ∀ (n183 : Nat) (x2 : Int32) (x3 : Int32) (x4 : Int32) (x5 : Int32) (x8 : Int32) (x9 : Int32) (x10 : Int32) (x12 : Int32) (σ : Sg) (H : Heap) (locs : List Loc) (ls : Array Slot), Hx G (aA G s.heap.size) s σ H locs → lv_has ls 13 [(0, .ref (ga G 0)), (2, .int x2), (3, .int x3), (4, .int x4), (5, .int x5), (8, .int x8), (9, .int x9), (10, .int x10), (12, .int x12)] → wpX9_entries_L183 Q (wpX9_entries_L116 Q n116) n183 x2 x3 x4 x5 x8 x9 x10 x12 σ → W p l e ({ frames := 1, cells := 0, slots := 0, locals := 24 }) s m args below meth c H locs 0 0 (Zi G Q below args s) (F0 m 183 ls []) := by
        intro n183
        induction n183 with
        | zero =>
          intro x2 x3 x4 x5 x8 x9 x10 x12 σ H locs ls hH hl h
          exact False.elim h
        | succ n183 ih183 =>
          intro x2 x3 x4 x5 x8 x9 x10 x12 σ H locs ls hH hl h
          unfold wpX9_entries_L183 at h
          refine lv_iload hx hb dX9_entries_183 (lv_at hl 8 rfl) ?_
          refine lv_iconst (v := 1) hx hb dX9_entries_185 (by decide) ?_
          refine lv_iadd hx hb dX9_entries_186 ?_
          refine lv_iload hx hb dX9_entries_187 (lv_at hl 5 rfl) ?_
          refine lv_icmp_ge (tgt := 217) hx hb dX9_entries_189 (by decide) (fun q24 => ?_) (fun q24 => ?_)
          · replace h := h.1 q24
            exact L217 x2 x3 x4 x5 x8 x9 x10 x12 σ _ _ ls hH (lv_sub hl [0, 1, 2, 3, 4, 5, 6, 7, 8] rfl) h
          · replace h := h.2 q24
            refine lv_aload_n hx hb dX9_entries_192 rfl (lv_at hl 0 rfl) ?_
            refine g_getr hx hb hB inB9 hown hK hH (c0 := 0) h0.1 rfl 55 (by decide) k147 rfl (c1 := 46) rfl dX9_entries_193 ?_
            refine lv_sipush (v := 240) hx hb dX9_entries_196 (by decide) ?_
            refine lv_iload hx hb dX9_entries_199 (lv_at hl 4 rfl) ?_
            refine lv_imul hx hb dX9_entries_201 ?_
            refine lv_iload hx hb dX9_entries_202 (lv_at hl 8 rfl) ?_
            refine lv_iadd hx hb dX9_entries_204 ?_
            refine lv_iconst (v := 1) hx hb dX9_entries_205 (by decide) ?_
            refine lv_iadd hx hb dX9_entries_206 ?_
            obtain ⟨hi25, h⟩ := h
            refine g_zald hx hb hK hH (c0 := 46) (mA46 h0) hi25 dX9_entries_207 ?_
            refine lv_if_ne (tgt := 217) hx hb dX9_entries_208 (by decide) (fun q26 => ?_) (fun q26 => ?_)
            · replace h := h.1 q26
              exact L217 x2 x3 x4 x5 x8 x9 x10 x12 σ _ _ ls hH (lv_sub hl [0, 1, 2, 3, 4, 5, 6, 7, 8] rfl) h
            · replace h := h.2 q26
              obtain ⟨x12_27, ex12_27⟩ : ∃ y : Int32, y = x12 + 1 := ⟨_, rfl⟩
              replace h := h x12_27 ex12_27
              refine lv_iinc (v := x12_27) (lv' := [(12, .int x12_27), (0, .ref (ga G 0)), (2, .int x2), (3, .int x3), (4, .int x4), (5, .int x5), (8, .int x8), (9, .int x9), (10, .int x10)]) hx hb dX9_entries_211 hl (k := 8) rfl (by rw [ex12_27]; rfl) (by decide) rfl (fun ls hl => ?_)
              refine lv_goto (tgt := 183) hx hb dX9_entries_214 (by decide) ?_
              exact ih183 x2 x3 x4 x5 x8 x9 x10 x12_27 σ _ _ ls hH (lv_sub hl [1, 2, 3, 4, 5, 6, 7, 8, 0] rfl) h
      have L169 : ∀ (x2 : Int32) (x3 : Int32) (x4 : Int32) (x5 : Int32) (x8 : Int32) (x9 : Int32) (x10 : Int32) (z0 : Int32) (σ : Sg) (H : Heap) (locs : List Loc) (ls : Array Slot), Hx G (aA G s.heap.size) s σ H locs → lv_has ls 13 [(0, .ref (ga G 0)), (2, .int x2), (3, .int x3), (4, .int x4), (5, .int x5), (8, .int x8), (9, .int x9), (10, .int x10)] → wpX9_entries_L169 Q (wpX9_entries_L116 Q n116) x2 x3 x4 x5 x8 x9 x10 z0 σ → W p l e ({ frames := 1, cells := 0, slots := 0, locals := 24 }) s m args below meth c H locs 0 0 (Zi G Q below args s) (F0 m 169 ls [.int z0]) := by
        intro x2 x3 x4 x5 x8 x9 x10 z0 σ H locs ls hH hl h
        unfold wpX9_entries_L169 at h
        refine lv_istore (lv' := [(11, .int z0), (0, .ref (ga G 0)), (2, .int x2), (3, .int x3), (4, .int x4), (5, .int x5), (8, .int x8), (9, .int x9), (10, .int x10)]) hx hb dX9_entries_169 hl (by decide) rfl (fun ls hl => ?_)
        refine lv_iload hx hb dX9_entries_171 (lv_at hl 0 rfl) ?_
        refine lv_if_ne (tgt := 179) hx hb dX9_entries_173 (by decide) (fun q23 => ?_) (fun q23 => ?_)
        · replace h := h.1 q23
          refine lv_iload hx hb dX9_entries_179 (lv_at hl 8 rfl) ?_
          refine lv_istore (lv' := [(12, .int x10), (11, .int z0), (0, .ref (ga G 0)), (2, .int x2), (3, .int x3), (4, .int x4), (5, .int x5), (8, .int x8), (9, .int x9), (10, .int x10)]) hx hb dX9_entries_181 hl (by decide) rfl (fun ls hl => ?_)
          obtain ⟨nn, h⟩ := h
          exact L183 nn x2 x3 x4 x5 x8 x9 x10 x10 σ _ _ ls hH (lv_sub hl [2, 3, 4, 5, 6, 7, 8, 9, 0] rfl) h
        · replace h := h.2 q23
          refine lv_goto (tgt := 240) hx hb dX9_entries_176 (by decide) ?_
          exact L240 x2 x3 x4 x5 x8 x9 x10 σ _ _ ls hH (lv_sub hl [1, 2, 3, 4, 5, 6, 7, 8] rfl) h
      have L168 : ∀ (x2 : Int32) (x3 : Int32) (x4 : Int32) (x5 : Int32) (x8 : Int32) (x9 : Int32) (x10 : Int32) (σ : Sg) (H : Heap) (locs : List Loc) (ls : Array Slot), Hx G (aA G s.heap.size) s σ H locs → lv_has ls 13 [(0, .ref (ga G 0)), (2, .int x2), (3, .int x3), (4, .int x4), (5, .int x5), (8, .int x8), (9, .int x9), (10, .int x10)] → wpX9_entries_L168 Q (wpX9_entries_L116 Q n116) x2 x3 x4 x5 x8 x9 x10 σ → W p l e ({ frames := 1, cells := 0, slots := 0, locals := 24 }) s m args below meth c H locs 0 0 (Zi G Q below args s) (F0 m 168 ls []) := by
        intro x2 x3 x4 x5 x8 x9 x10 σ H locs ls hH hl h
        unfold wpX9_entries_L168 at h
        refine lv_iconst (v := 0) hx hb dX9_entries_168 (by decide) ?_
        exact L169 x2 x3 x4 x5 x8 x9 x10 0 σ _ _ ls hH (lv_sub hl [0, 1, 2, 3, 4, 5, 6, 7] rfl) h
      have L164 : ∀ (x2 : Int32) (x3 : Int32) (x4 : Int32) (x5 : Int32) (x8 : Int32) (x9 : Int32) (x10 : Int32) (σ : Sg) (H : Heap) (locs : List Loc) (ls : Array Slot), Hx G (aA G s.heap.size) s σ H locs → lv_has ls 13 [(0, .ref (ga G 0)), (2, .int x2), (3, .int x3), (4, .int x4), (5, .int x5), (8, .int x8), (9, .int x9), (10, .int x10)] → wpX9_entries_L164 Q (wpX9_entries_L116 Q n116) x2 x3 x4 x5 x8 x9 x10 σ → W p l e ({ frames := 1, cells := 0, slots := 0, locals := 24 }) s m args below meth c H locs 0 0 (Zi G Q below args s) (F0 m 164 ls []) := by
        intro x2 x3 x4 x5 x8 x9 x10 σ H locs ls hH hl h
        unfold wpX9_entries_L164 at h
        refine lv_iconst (v := 1) hx hb dX9_entries_164 (by decide) ?_
        refine lv_goto (tgt := 169) hx hb dX9_entries_165 (by decide) ?_
        exact L169 x2 x3 x4 x5 x8 x9 x10 1 σ _ _ ls hH (lv_sub hl [0, 1, 2, 3, 4, 5, 6, 7] rfl) h
      intro x2 x3 x4 x5 x8 x9 x10 σ H locs ls hH hl h
      unfold wpX9_entries_L116 at h
      refine lv_iload hx hb dX9_entries_116 (lv_at hl 7 rfl) ?_
      refine lv_iload hx hb dX9_entries_118 (lv_at hl 5 rfl) ?_
      refine lv_icmp_ge (tgt := 246) hx hb dX9_entries_120 (by decide) (fun q13 => ?_) (fun q13 => ?_)
      · replace h := h.1 q13
        refine lv_aload_n hx hb dX9_entries_246 rfl (lv_at hl 0 rfl) ?_
        refine g_getr hx hb hB inB9 hown hK hH (c0 := 0) h0.1 rfl 53 (by decide) k140 rfl (c1 := 44) rfl dX9_entries_247 ?_
        refine lv_iload hx hb dX9_entries_250 (lv_at hl 4 rfl) ?_
        obtain ⟨hi14, h⟩ := h
        refine g_iald hx hb hK hH (c0 := 44) (mA44 h0) hi14 dX9_entries_252 ?_
        refine lv_iconst (v := (-1)) hx hb dX9_entries_253 (by decide) ?_
        refine lv_icmp_eq (tgt := 260) hx hb dX9_entries_254 (by decide) (fun q15 => ?_) (fun q15 => ?_)
        · replace h := h.1 q15
          refine lv_iload hx hb dX9_entries_260 (lv_at hl 3 rfl) ?_
          refine lv_if_eq (tgt := 281) hx hb dX9_entries_262 (by decide) (fun q16 => ?_) (fun q16 => ?_)
          · replace h := h.1 q16
            refine lv_iload hx hb dX9_entries_281 (lv_at hl 6 rfl) ?_
            refine lv_iconst (v := 1) hx hb dX9_entries_283 (by decide) ?_
            refine lv_iadd hx hb dX9_entries_284 ?_
            exact g_iret hx hb hr hK hlk h hH dX9_entries_285
          · replace h := h.2 q16
            refine lv_aload_n hx hb dX9_entries_265 rfl (lv_at hl 0 rfl) ?_
            refine lv_iload_n hx hb dX9_entries_266 rfl (lv_at hl 2 rfl) ?_
            refine lv_iconst (v := 3) hx hb dX9_entries_267 (by decide) ?_
            refine lv_iload hx hb dX9_entries_268 (lv_at hl 6 rfl) ?_
            refine lv_imul hx hb dX9_entries_270 ?_
            refine lv_iadd hx hb dX9_entries_271 ?_
            refine lv_iload_n hx hb dX9_entries_272 rfl (lv_at hl 1 rfl) ?_
            refine lv_iload hx hb dX9_entries_273 (lv_at hl 5 rfl) ?_
            refine lv_sipush (v := 255) hx hb dX9_entries_275 (by decide) ?_
            refine g_callVv (As := [.int (x3 + (3 * x9)), .int x2, .int x8, .int 255]) (rest := []) ⟨hx, hb, hml, hown, hB⟩ hK hX aA_hA hH (c0 := 0) (tX9_putRun h0 h) (cwV 4 hB gVX9_303 rfl rfl rfl (by decide +kernel) ⟨Nat.le_of_ble_eq_true rfl, Nat.le_of_ble_eq_true rfl⟩) h0.1 rfl rfl hl.1 rfl (lv_room (Nat.le_of_ble_eq_true rfl)) ⟨Nat.zero_le _, Nat.zero_le _⟩ dX9_entries_278 (fun σ17 H locs h hH => ?_)
            refine lv_iload hx hb dX9_entries_281 (lv_at hl 6 rfl) ?_
            refine lv_iconst (v := 1) hx hb dX9_entries_283 (by decide) ?_
            refine lv_iadd hx hb dX9_entries_284 ?_
            exact g_iret hx hb hr hK hlk h hH dX9_entries_285
        · replace h := h.2 q15
          refine lv_iload hx hb dX9_entries_257 (lv_at hl 6 rfl) ?_
          exact g_iret hx hb hr hK hlk h hH dX9_entries_259
      · replace h := h.2 q13
        refine lv_aload_n hx hb dX9_entries_123 rfl (lv_at hl 0 rfl) ?_
        refine g_getr hx hb hB inB9 hown hK hH (c0 := 0) h0.1 rfl 55 (by decide) k147 rfl (c1 := 46) rfl dX9_entries_124 ?_
        refine lv_sipush (v := 240) hx hb dX9_entries_127 (by decide) ?_
        refine lv_iload hx hb dX9_entries_130 (lv_at hl 4 rfl) ?_
        refine lv_imul hx hb dX9_entries_132 ?_
        refine lv_iload hx hb dX9_entries_133 (lv_at hl 7 rfl) ?_
        refine lv_iadd hx hb dX9_entries_135 ?_
        obtain ⟨hi18, h⟩ := h
        refine g_zald hx hb hK hH (c0 := 46) (mA46 h0) hi18 dX9_entries_136 ?_
        refine lv_if_ne (tgt := 168) hx hb dX9_entries_137 (by decide) (fun q19 => ?_) (fun q19 => ?_)
        · replace h := h.1 q19
          exact L168 x2 x3 x4 x5 x8 x9 x10 σ _ _ ls hH (lv_sub hl [0, 1, 2, 3, 4, 5, 6, 7] rfl) h
        · replace h := h.2 q19
          refine lv_iload hx hb dX9_entries_140 (lv_at hl 7 rfl) ?_
          refine lv_if_eq (tgt := 164) hx hb dX9_entries_142 (by decide) (fun q20 => ?_) (fun q20 => ?_)
          · replace h := h.1 q20
            exact L164 x2 x3 x4 x5 x8 x9 x10 σ _ _ ls hH (lv_sub hl [0, 1, 2, 3, 4, 5, 6, 7] rfl) h
          · replace h := h.2 q20
            refine lv_aload_n hx hb dX9_entries_145 rfl (lv_at hl 0 rfl) ?_
            refine g_getr hx hb hB inB9 hown hK hH (c0 := 0) h0.1 rfl 55 (by decide) k147 rfl (c1 := 46) rfl dX9_entries_146 ?_
            refine lv_sipush (v := 240) hx hb dX9_entries_149 (by decide) ?_
            refine lv_iload hx hb dX9_entries_152 (lv_at hl 4 rfl) ?_
            refine lv_imul hx hb dX9_entries_154 ?_
            refine lv_iload hx hb dX9_entries_155 (lv_at hl 7 rfl) ?_
            refine lv_iadd hx hb dX9_entries_157 ?_
            refine lv_iconst (v := 1) hx hb dX9_entries_158 (by decide) ?_
            refine lv_isub hx hb dX9_entries_159 ?_
            obtain ⟨hi21, h⟩ := h
            refine g_zald hx hb hK hH (c0 := 46) (mA46 h0) hi21 dX9_entries_160 ?_
            refine lv_if_eq (tgt := 168) hx hb dX9_entries_161 (by decide) (fun q22 => ?_) (fun q22 => ?_)
            · replace h := h.1 q22
              exact L168 x2 x3 x4 x5 x8 x9 x10 σ _ _ ls hH (lv_sub hl [0, 1, 2, 3, 4, 5, 6, 7] rfl) h
            · replace h := h.2 q22
              exact L164 x2 x3 x4 x5 x8 x9 x10 σ _ _ ls hH (lv_sub hl [0, 1, 2, 3, 4, 5, 6, 7] rfl) h
  have L108 : ∀ (x2 : Int32) (x3 : Int32) (x4 : Int32) (x5 : Int32) (z0 : Int32) (σ : Sg) (H : Heap) (locs : List Loc) (ls : Array Slot), Hx G (aA G s.heap.size) s σ H locs → lv_has ls 13 [(0, .ref (ga G 0)), (2, .int x2), (3, .int x3), (4, .int x4), (5, .int x5)] → wpX9_entries_L108 Q x2 x3 x4 x5 z0 σ → W p l e ({ frames := 1, cells := 0, slots := 0, locals := 24 }) s m args below meth c H locs 0 0 (Zi G Q below args s) (F0 m 108 ls [.int z0]) := by
    intro x2 x3 x4 x5 z0 σ H locs ls hH hl h
    unfold wpX9_entries_L108 at h
    refine lv_istore (lv' := [(8, .int z0), (0, .ref (ga G 0)), (2, .int x2), (3, .int x3), (4, .int x4), (5, .int x5)]) hx hb dX9_entries_108 hl (by decide) rfl (fun ls hl => ?_)
    refine lv_iconst (v := 0) hx hb dX9_entries_110 (by decide) ?_
    refine lv_istore (lv' := [(9, .int 0), (8, .int z0), (0, .ref (ga G 0)), (2, .int x2), (3, .int x3), (4, .int x4), (5, .int x5)]) hx hb dX9_entries_111 hl (by decide) rfl (fun ls hl => ?_)
    refine lv_iconst (v := 0) hx hb dX9_entries_113 (by decide) ?_
    refine lv_istore (lv' := [(10, .int 0), (9, .int 0), (8, .int z0), (0, .ref (ga G 0)), (2, .int x2), (3, .int x3), (4, .int x4), (5, .int x5)]) hx hb dX9_entries_114 hl (by decide) rfl (fun ls hl => ?_)
    obtain ⟨nn, h⟩ := h
    exact L116 nn x2 x3 x4 x5 z0 0 0 σ _ _ ls hH (lv_sub hl [3, 4, 5, 6, 7, 2, 1, 0] rfl) h
  have L20 : ∀ (n20 : Nat) (x2 : Int32) (x3 : Int32) (x4 : Int32) (x5 : Int32) (x6 : Int32) (x7 : Int32) (x8 : Int32) (σ : Sg) (H : Heap) (locs : List Loc) (ls : Array Slot), Hx G (aA G s.heap.size) s σ H locs → lv_has ls 13 [(0, .ref (ga G 0)), (2, .int x2), (3, .int x3), (4, .int x4), (5, .int x5), (6, .int x6), (7, .int x7), (8, .int x8)] → wpX9_entries_L20 Q n20 x2 x3 x4 x5 x6 x7 x8 σ → W p l e ({ frames := 1, cells := 0, slots := 0, locals := 24 }) s m args below meth c H locs 0 0 (Zi G Q below args s) (F0 m 20 ls []) := by
    intro n20
    induction n20 with
    | zero =>
      intro x2 x3 x4 x5 x6 x7 x8 σ H locs ls hH hl h
      exact False.elim h
    | succ n20 ih20 =>
      have L55 : ∀ (x2 : Int32) (x3 : Int32) (x4 : Int32) (x5 : Int32) (x6 : Int32) (x7 : Int32) (x8 : Int32) (σ : Sg) (H : Heap) (locs : List Loc) (ls : Array Slot), Hx G (aA G s.heap.size) s σ H locs → lv_has ls 13 [(0, .ref (ga G 0)), (2, .int x2), (3, .int x3), (4, .int x4), (5, .int x5), (6, .int x6), (7, .int x7), (8, .int x8)] → wpX9_entries_L55 Q (wpX9_entries_L20 Q n20) x2 x3 x4 x5 x6 x7 x8 σ → W p l e ({ frames := 1, cells := 0, slots := 0, locals := 24 }) s m args below meth c H locs 0 0 (Zi G Q below args s) (F0 m 55 ls []) := by
        intro x2 x3 x4 x5 x6 x7 x8 σ H locs ls hH hl h
        unfold wpX9_entries_L55 at h
        obtain ⟨x8_12, ex8_12⟩ : ∃ y : Int32, y = x8 + 1 := ⟨_, rfl⟩
        replace h := h x8_12 ex8_12
        refine lv_iinc (v := x8_12) (lv' := [(8, .int x8_12), (0, .ref (ga G 0)), (2, .int x2), (3, .int x3), (4, .int x4), (5, .int x5), (6, .int x6), (7, .int x7)]) hx hb dX9_entries_55 hl (k := 7) rfl (by rw [ex8_12]; rfl) (by decide) rfl (fun ls hl => ?_)
        refine lv_goto (tgt := 20) hx hb dX9_entries_58 (by decide) ?_
        exact ih20 x2 x3 x4 x5 x6 x7 x8_12 σ _ _ ls hH (lv_sub hl [1, 2, 3, 4, 5, 6, 7, 0] rfl) h
      intro x2 x3 x4 x5 x6 x7 x8 σ H locs ls hH hl h
      unfold wpX9_entries_L20 at h
      refine lv_iload hx hb dX9_entries_20 (lv_at hl 7 rfl) ?_
      refine lv_sipush (v := 240) hx hb dX9_entries_22 (by decide) ?_
      refine lv_icmp_ge (tgt := 61) hx hb dX9_entries_25 (by decide) (fun q2 => ?_) (fun q2 => ?_)
      · replace h := h.1 q2
        refine lv_iload hx hb dX9_entries_61 (lv_at hl 5 rfl) ?_
        refine lv_if_ne (tgt := 83) hx hb dX9_entries_63 (by decide) (fun q3 => ?_) (fun q3 => ?_)
        · replace h := h.1 q3
          refine lv_aload_n hx hb dX9_entries_83 rfl (lv_at hl 0 rfl) ?_
          refine g_getr hx hb hB inB9 hown hK hH (c0 := 0) h0.1 rfl 53 (by decide) k140 rfl (c1 := 44) rfl dX9_entries_84 ?_
          refine lv_iload hx hb dX9_entries_87 (lv_at hl 4 rfl) ?_
          obtain ⟨hi4, h⟩ := h
          refine g_iald hx hb hK hH (c0 := 44) (mA44 h0) hi4 dX9_entries_89 ?_
          refine lv_iconst (v := (-1)) hx hb dX9_entries_90 (by decide) ?_
          refine lv_icmp_ne (tgt := 101) hx hb dX9_entries_91 (by decide) (fun q5 => ?_) (fun q5 => ?_)
          · replace h := h.1 q5
            refine lv_aload_n hx hb dX9_entries_101 rfl (lv_at hl 0 rfl) ?_
            refine g_getr hx hb hB inB9 hown hK hH (c0 := 0) h0.1 rfl 53 (by decide) k140 rfl (c1 := 44) rfl dX9_entries_102 ?_
            refine lv_iload hx hb dX9_entries_105 (lv_at hl 4 rfl) ?_
            obtain ⟨hi6, h⟩ := h
            refine g_iald hx hb hK hH (c0 := 44) (mA44 h0) hi6 dX9_entries_107 ?_
            exact L108 x2 x3 x4 x5 (σ 44 x5.toNatClampNeg) σ _ _ ls hH (lv_sub hl [0, 1, 2, 3, 4] rfl) h
          · replace h := h.2 q5
            refine lv_iload hx hb dX9_entries_94 (lv_at hl 6 rfl) ?_
            refine lv_iconst (v := 1) hx hb dX9_entries_96 (by decide) ?_
            refine lv_iadd hx hb dX9_entries_97 ?_
            refine lv_goto (tgt := 108) hx hb dX9_entries_98 (by decide) ?_
            exact L108 x2 x3 x4 x5 (x7 + 1) σ _ _ ls hH (lv_sub hl [0, 1, 2, 3, 4] rfl) h
        · replace h := h.2 q3
          refine lv_iload hx hb dX9_entries_66 (lv_at hl 3 rfl) ?_
          refine lv_if_eq (tgt := 81) hx hb dX9_entries_68 (by decide) (fun q7 => ?_) (fun q7 => ?_)
          · replace h := h.1 q7
            refine lv_iconst (v := 1) hx hb dX9_entries_81 (by decide) ?_
            exact g_iret hx hb hr hK hlk h hH dX9_entries_82
          · replace h := h.2 q7
            refine lv_aload_n hx hb dX9_entries_71 rfl (lv_at hl 0 rfl) ?_
            refine g_getr hx hb hB inB9 hown hK hH (c0 := 0) h0.1 rfl 75 (by decide) k207 rfl (c1 := 66) rfl dX9_entries_72 ?_
            refine lv_iload_n hx hb dX9_entries_75 rfl (lv_at hl 2 rfl) ?_
            refine lv_iload_n hx hb dX9_entries_76 rfl (lv_at hl 1 rfl) ?_
            refine lv_bipush (v := 63) hx hb dX9_entries_77 (by decide) ?_
            refine lv_iand hx hb dX9_entries_79 ?_
            obtain ⟨hi8, h⟩ := h
            refine g_iast hx hb hK hH (c0 := 66) (i := x3) (mA66 h0) hi8 dX9_entries_80 (fun σ8 eσ8 H locs hH => ?_)
            replace h := h σ8 eσ8
            refine lv_iconst (v := 1) hx hb dX9_entries_81 (by decide) ?_
            exact g_iret hx hb hr hK hlk h hH dX9_entries_82
      · replace h := h.2 q2
        refine lv_aload_n hx hb dX9_entries_28 rfl (lv_at hl 0 rfl) ?_
        refine g_getr hx hb hB inB9 hown hK hH (c0 := 0) h0.1 rfl 55 (by decide) k147 rfl (c1 := 46) rfl dX9_entries_29 ?_
        refine lv_sipush (v := 240) hx hb dX9_entries_32 (by decide) ?_
        refine lv_iload hx hb dX9_entries_35 (lv_at hl 4 rfl) ?_
        refine lv_imul hx hb dX9_entries_37 ?_
        refine lv_iload hx hb dX9_entries_38 (lv_at hl 7 rfl) ?_
        refine lv_iadd hx hb dX9_entries_40 ?_
        obtain ⟨hi9, h⟩ := h
        refine g_zald hx hb hK hH (c0 := 46) (mA46 h0) hi9 dX9_entries_41 ?_
        refine lv_if_ne (tgt := 48) hx hb dX9_entries_42 (by decide) (fun q10 => ?_) (fun q10 => ?_)
        · replace h := h.1 q10
          obtain ⟨x6_11, ex6_11⟩ : ∃ y : Int32, y = x6 + 1 := ⟨_, rfl⟩
          replace h := h x6_11 ex6_11
          refine lv_iinc (v := x6_11) (lv' := [(6, .int x6_11), (0, .ref (ga G 0)), (2, .int x2), (3, .int x3), (4, .int x4), (5, .int x5), (7, .int x7), (8, .int x8)]) hx hb dX9_entries_48 hl (k := 5) rfl (by rw [ex6_11]; rfl) (by decide) rfl (fun ls hl => ?_)
          refine lv_iload hx hb dX9_entries_51 (lv_at hl 7 rfl) ?_
          refine lv_istore (lv' := [(7, .int x8), (6, .int x6_11), (0, .ref (ga G 0)), (2, .int x2), (3, .int x3), (4, .int x4), (5, .int x5), (8, .int x8)]) hx hb dX9_entries_53 hl (by decide) rfl (fun ls hl => ?_)
          exact L55 x2 x3 x4 x5 x6_11 x8 x8 σ _ _ ls hH (lv_sub hl [2, 3, 4, 5, 6, 1, 0, 7] rfl) h
        · replace h := h.2 q10
          refine lv_goto (tgt := 55) hx hb dX9_entries_45 (by decide) ?_
          exact L55 x2 x3 x4 x5 x6 x7 x8 σ _ _ ls hH (lv_sub hl [0, 1, 2, 3, 4, 5, 6, 7] rfl) h
  unfold wpX9_entries at h
  refine lv_bipush (v := 32) hx hb dX9_entries_0 (by decide) ?_
  refine lv_iload_n hx hb dX9_entries_2 rfl (lv_at hl 1 rfl) ?_
  refine lv_imul hx hb dX9_entries_3 ?_
  refine lv_iload_n hx hb dX9_entries_4 rfl (lv_at hl 2 rfl) ?_
  refine lv_bipush (v := 31) hx hb dX9_entries_5 (by decide) ?_
  refine lv_iand hx hb dX9_entries_7 ?_
  refine lv_iadd hx hb dX9_entries_8 ?_
  refine lv_topi (fun x5_1 ex5_1 => ?_)
  replace h := h x5_1 ex5_1
  refine lv_istore (lv' := [(5, .int x5_1), (0, .ref (ga G 0)), (1, .int x1), (2, .int x2), (3, .int x3), (4, .int x4)]) hx hb dX9_entries_9 hl (by decide) rfl (fun ls hl => ?_)
  refine lv_iconst (v := 0) hx hb dX9_entries_11 (by decide) ?_
  refine lv_istore (lv' := [(6, .int 0), (5, .int x5_1), (0, .ref (ga G 0)), (1, .int x1), (2, .int x2), (3, .int x3), (4, .int x4)]) hx hb dX9_entries_12 hl (by decide) rfl (fun ls hl => ?_)
  refine lv_iconst (v := (-1)) hx hb dX9_entries_14 (by decide) ?_
  refine lv_istore (lv' := [(7, .int (-1)), (6, .int 0), (5, .int x5_1), (0, .ref (ga G 0)), (1, .int x1), (2, .int x2), (3, .int x3), (4, .int x4)]) hx hb dX9_entries_15 hl (by decide) rfl (fun ls hl => ?_)
  refine lv_iconst (v := 0) hx hb dX9_entries_17 (by decide) ?_
  refine lv_istore (lv' := [(8, .int 0), (7, .int (-1)), (6, .int 0), (5, .int x5_1), (0, .ref (ga G 0)), (1, .int x1), (2, .int x2), (3, .int x3), (4, .int x4)]) hx hb dX9_entries_18 hl (by decide) rfl (fun ls hl => ?_)
  obtain ⟨nn, h⟩ := h
  exact L20 nn x2 x3 x4 x5_1 0 (-1) 0 σ _ _ ls hH (lv_sub hl [4, 6, 7, 8, 3, 2, 1, 0] rfl) h
def wpX9_isEmpty_L50 (Q : Int32 → Sg → Prop) (K16 : Int32 → Int32 → Int32 → Sg → Prop) (x3 : Int32) (x5 : Int32) (z0 : Int32) (σ : Sg) : Prop := ∀ x5_6 : Int32, x5_6 = x5 + 1 → K16 x3 z0 x5_6 σ
def wpX9_isEmpty_L49 (Q : Int32 → Sg → Prop) (K16 : Int32 → Int32 → Int32 → Sg → Prop) (x3 : Int32) (x5 : Int32) (σ : Sg) : Prop := wpX9_isEmpty_L50 Q K16 x3 x5 0 σ
def wpX9_isEmpty_L16 (Q : Int32 → Sg → Prop) : Nat → Int32 → Int32 → Int32 → Sg → Prop
  | 0, _, _, _, _ => False
  | n + 1, x3, x4, x5, σ => ((240 ≤ x5 → (vz x4 ∧ Q x4 σ)) ∧ (¬ (240 ≤ x5) → ((x4 = 0 → wpX9_isEmpty_L49 Q (wpX9_isEmpty_L16 Q n) x3 x5 σ) ∧ (¬ (x4 = 0) → (vp_in ((240 * x3) + x5) 46080 ∧ ((¬ (σ 46 ((240 * x3) + x5).toNatClampNeg) = 0 → wpX9_isEmpty_L49 Q (wpX9_isEmpty_L16 Q n) x3 x5 σ) ∧ ((σ 46 ((240 * x3) + x5).toNatClampNeg) = 0 → wpX9_isEmpty_L50 Q (wpX9_isEmpty_L16 Q n) x3 x5 1 σ)))))))
def wpX9_isEmpty (x1 : Int32) (x2 : Int32) (σ : Sg) (Q : Int32 → Sg → Prop) : Prop := ∀ x3_1 : Int32, x3_1 = (32 * x1) + (x2 &&& 31) → ∃ nn, wpX9_isEmpty_L16 Q nn x3_1 1 0 σ
set_option maxHeartbeats 8000000 in
set_option maxRecDepth 100000 in
theorem tX9_isEmpty {l : Launch} {G : GG} {x1 : Int32} {x2 : Int32} {σ : Sg} {Q : Int32 → Sg → Prop} (h0 : isModel G) (h : wpX9_isEmpty x1 x2 σ Q) : Ki l G yX9_isEmpty (wB yX9_isEmpty prog_11_method_26_code 6 (Option.some FieldType.boolean)) ({ frames := 0, cells := 0, slots := 0, locals := 0 }) [.ref (ga G 0), .int x1, .int x2] σ Q := by
  refine K_of (cc := cX9_isEmpty) (maxL := 6) (ret := (some .boolean)) (by decide) rfl (Nat.le_of_ble_eq_true rfl) ?_
  intro p e s m args below meth c ls B hH hl
  obtain ⟨hx, hb, hr, hts, hown, hlk, hml, hK, hX⟩ := B
  replace hl : lv_has ls 6 [(0, .ref (ga G 0)), (1, .int x1), (2, .int x2)] := hl
  have hB : ∀ w ∈ BIG, w.before args s = true := fun w h9 => hts w (List.mem_cons_of_mem _ h9)
  clear hts
  have k147 := hB _ bw4_165
  have L16 : ∀ (n16 : Nat) (x3 : Int32) (x4 : Int32) (x5 : Int32) (σ : Sg) (H : Heap) (locs : List Loc) (ls : Array Slot), Hx G (aA G s.heap.size) s σ H locs → lv_has ls 6 [(0, .ref (ga G 0)), (3, .int x3), (4, .int x4), (5, .int x5)] → wpX9_isEmpty_L16 Q n16 x3 x4 x5 σ → W p l e ({ frames := 0, cells := 0, slots := 0, locals := 0 }) s m args below meth c H locs 0 0 (Zi G Q below args s) (F0 m 16 ls []) := by
    intro n16
    induction n16 with
    | zero =>
      intro x3 x4 x5 σ H locs ls hH hl h
      exact False.elim h
    | succ n16 ih16 =>
      have L50 : ∀ (x3 : Int32) (x5 : Int32) (z0 : Int32) (σ : Sg) (H : Heap) (locs : List Loc) (ls : Array Slot), Hx G (aA G s.heap.size) s σ H locs → lv_has ls 6 [(0, .ref (ga G 0)), (3, .int x3), (5, .int x5)] → wpX9_isEmpty_L50 Q (wpX9_isEmpty_L16 Q n16) x3 x5 z0 σ → W p l e ({ frames := 0, cells := 0, slots := 0, locals := 0 }) s m args below meth c H locs 0 0 (Zi G Q below args s) (F0 m 50 ls [.int z0]) := by
        intro x3 x5 z0 σ H locs ls hH hl h
        unfold wpX9_isEmpty_L50 at h
        refine lv_istore (lv' := [(4, .int z0), (0, .ref (ga G 0)), (3, .int x3), (5, .int x5)]) hx hb dX9_isEmpty_50 hl (by decide) rfl (fun ls hl => ?_)
        obtain ⟨x5_6, ex5_6⟩ : ∃ y : Int32, y = x5 + 1 := ⟨_, rfl⟩
        replace h := h x5_6 ex5_6
        refine lv_iinc (v := x5_6) (lv' := [(5, .int x5_6), (4, .int z0), (0, .ref (ga G 0)), (3, .int x3)]) hx hb dX9_isEmpty_52 hl (k := 3) rfl (by rw [ex5_6]; rfl) (by decide) rfl (fun ls hl => ?_)
        refine lv_goto (tgt := 16) hx hb dX9_isEmpty_55 (by decide) ?_
        exact ih16 x3 z0 x5_6 σ _ _ ls hH (lv_sub hl [2, 3, 1, 0] rfl) h
      have L49 : ∀ (x3 : Int32) (x5 : Int32) (σ : Sg) (H : Heap) (locs : List Loc) (ls : Array Slot), Hx G (aA G s.heap.size) s σ H locs → lv_has ls 6 [(0, .ref (ga G 0)), (3, .int x3), (5, .int x5)] → wpX9_isEmpty_L49 Q (wpX9_isEmpty_L16 Q n16) x3 x5 σ → W p l e ({ frames := 0, cells := 0, slots := 0, locals := 0 }) s m args below meth c H locs 0 0 (Zi G Q below args s) (F0 m 49 ls []) := by
        intro x3 x5 σ H locs ls hH hl h
        unfold wpX9_isEmpty_L49 at h
        refine lv_iconst (v := 0) hx hb dX9_isEmpty_49 (by decide) ?_
        exact L50 x3 x5 0 σ _ _ ls hH (lv_sub hl [0, 1, 2] rfl) h
      intro x3 x4 x5 σ H locs ls hH hl h
      unfold wpX9_isEmpty_L16 at h
      refine lv_iload hx hb dX9_isEmpty_16 (lv_at hl 3 rfl) ?_
      refine lv_sipush (v := 240) hx hb dX9_isEmpty_18 (by decide) ?_
      refine lv_icmp_ge (tgt := 58) hx hb dX9_isEmpty_21 (by decide) (fun q2 => ?_) (fun q2 => ?_)
      · replace h := h.1 q2
        refine lv_iload hx hb dX9_isEmpty_58 (lv_at hl 2 rfl) ?_
        exact g_zret hx hb hr hK hlk h.1 h.2 hH dX9_isEmpty_60
      · replace h := h.2 q2
        refine lv_iload hx hb dX9_isEmpty_24 (lv_at hl 2 rfl) ?_
        refine lv_if_eq (tgt := 49) hx hb dX9_isEmpty_26 (by decide) (fun q3 => ?_) (fun q3 => ?_)
        · replace h := h.1 q3
          exact L49 x3 x5 σ _ _ ls hH (lv_sub hl [0, 1, 3] rfl) h
        · replace h := h.2 q3
          refine lv_aload_n hx hb dX9_isEmpty_29 rfl (lv_at hl 0 rfl) ?_
          refine g_getr hx hb hB inB9 hown hK hH (c0 := 0) h0.1 rfl 55 (by decide) k147 rfl (c1 := 46) rfl dX9_isEmpty_30 ?_
          refine lv_sipush (v := 240) hx hb dX9_isEmpty_33 (by decide) ?_
          refine lv_iload_n hx hb dX9_isEmpty_36 rfl (lv_at hl 1 rfl) ?_
          refine lv_imul hx hb dX9_isEmpty_37 ?_
          refine lv_iload hx hb dX9_isEmpty_38 (lv_at hl 3 rfl) ?_
          refine lv_iadd hx hb dX9_isEmpty_40 ?_
          obtain ⟨hi4, h⟩ := h
          refine g_zald hx hb hK hH (c0 := 46) (mA46 h0) hi4 dX9_isEmpty_41 ?_
          refine lv_if_ne (tgt := 49) hx hb dX9_isEmpty_42 (by decide) (fun q5 => ?_) (fun q5 => ?_)
          · replace h := h.1 q5
            exact L49 x3 x5 σ _ _ ls hH (lv_sub hl [0, 1, 3] rfl) h
          · replace h := h.2 q5
            refine lv_iconst (v := 1) hx hb dX9_isEmpty_45 (by decide) ?_
            refine lv_goto (tgt := 50) hx hb dX9_isEmpty_46 (by decide) ?_
            exact L50 x3 x5 1 σ _ _ ls hH (lv_sub hl [0, 1, 3] rfl) h
  unfold wpX9_isEmpty at h
  refine lv_bipush (v := 32) hx hb dX9_isEmpty_0 (by decide) ?_
  refine lv_iload_n hx hb dX9_isEmpty_2 rfl (lv_at hl 1 rfl) ?_
  refine lv_imul hx hb dX9_isEmpty_3 ?_
  refine lv_iload_n hx hb dX9_isEmpty_4 rfl (lv_at hl 2 rfl) ?_
  refine lv_bipush (v := 31) hx hb dX9_isEmpty_5 (by decide) ?_
  refine lv_iand hx hb dX9_isEmpty_7 ?_
  refine lv_iadd hx hb dX9_isEmpty_8 ?_
  refine lv_topi (fun x3_1 ex3_1 => ?_)
  replace h := h x3_1 ex3_1
  refine lv_istore_n (lv' := [(3, .int x3_1), (0, .ref (ga G 0)), (1, .int x1), (2, .int x2)]) hx hb dX9_isEmpty_9 rfl hl (by decide) rfl (fun ls hl => ?_)
  refine lv_iconst (v := 1) hx hb dX9_isEmpty_10 (by decide) ?_
  refine lv_istore (lv' := [(4, .int 1), (3, .int x3_1), (0, .ref (ga G 0)), (1, .int x1), (2, .int x2)]) hx hb dX9_isEmpty_11 hl (by decide) rfl (fun ls hl => ?_)
  refine lv_iconst (v := 0) hx hb dX9_isEmpty_13 (by decide) ?_
  refine lv_istore (lv' := [(5, .int 0), (4, .int 1), (3, .int x3_1), (0, .ref (ga G 0)), (1, .int x1), (2, .int x2)]) hx hb dX9_isEmpty_14 hl (by decide) rfl (fun ls hl => ?_)
  obtain ⟨nn, h⟩ := h
  exact L16 nn x3_1 1 0 σ _ _ ls hH (lv_sub hl [3, 2, 1, 0] rfl) h
