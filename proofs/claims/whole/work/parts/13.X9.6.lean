def wpX9_work_L106 (Q : Sg → Prop) (K3 : Int32 → Int32 → Int32 → Int32 → Sg → Prop) (x1 : Int32) (x2 : Int32) (x3 : Int32) (x4 : Int32) (x6 : Int32) (σ : Sg) : Prop := ∀ x4_14 : Int32, x4_14 = x4 + (2 + x6) → K3 x1 x2 x3 x4_14 σ
def wpX9_work_L3 (Q : Sg → Prop) : Nat → Int32 → Int32 → Int32 → Int32 → Sg → Prop
  | 0, _, _, _, _, _ => False
  | n + 1, x1, x2, x3, x4, σ => (((x2 + x3) ≤ x4 → Q σ) ∧ (¬ ((x2 + x3) ≤ x4) → (vp_in x4 500 ∧ ((255 ≤ (σ 65 x4.toNatClampNeg) → Q σ) ∧ (¬ (255 ≤ (σ 65 x4.toNatClampNeg)) → (vp_in x4 500 ∧ ∀ x5_5 : Int32, x5_5 = σ 65 x4.toNatClampNeg → (vp_in (x4 + 1) 500 ∧ ∀ x6_7 : Int32, x6_7 = σ 65 (x4 + 1).toNatClampNeg → ∀ σ8 : Sg, σ8 = up2 σ 0 8 ((σ 0 8) + 1) → (vp_in (x4 + 2) 500 ∧ (((σ8 65 (x4 + 2).toNatClampNeg) ≤ 127 → wpX9_at x1 x5_5 σ8 (fun r11 σ11 => wpX9_status r11 65 (x4 + 2) σ11 (fun σ12 => wpX9_work_L106 Q (wpX9_work_L3 Q n) x1 x2 x3 x4 x6_7 σ12))) ∧ (¬ ((σ8 65 (x4 + 2).toNatClampNeg) ≤ 127) → wpX9_dataComes x1 x5_5 65 (x4 + 2) x6_7 σ8 (fun σ13 => wpX9_work_L106 Q (wpX9_work_L3 Q n) x1 x2 x3 x4 x6_7 σ13)))))))))))
def wpX9_work (x1 : Int32) (x2 : Int32) (x3 : Int32) (σ : Sg) (Q : Sg → Prop) : Prop := ∃ nn, wpX9_work_L3 Q nn x1 x2 x3 x2 σ
set_option maxHeartbeats 8000000 in
set_option maxRecDepth 100000 in
theorem tX9_work {l : Launch} {G : GG} {x1 : Int32} {x2 : Int32} {x3 : Int32} {σ : Sg} {Q : Sg → Prop} (h0 : isModel G) (h : wpX9_work x1 x2 x3 σ Q) : Kv l G yX9_work (wB yX9_work prog_11_method_47_code 7 none) ({ frames := 6, cells := 0, slots := 0, locals := 156 }) [.ref (ga G 0), .int x1, .int x2, .int x3] σ Q := by
  refine K_of (cc := cX9_work) (maxL := 7) (ret := none) (by decide) rfl (Nat.le_of_ble_eq_true rfl) ?_
  intro p e s m args below meth c ls B hH hl
  obtain ⟨hx, hb, hr, hts, hown, hlk, hml, hK, hX⟩ := B
  replace hl : lv_has ls 7 [(0, .ref (ga G 0)), (1, .int x1), (2, .int x2), (3, .int x3)] := hl
  have hB : ∀ w ∈ BIG, w.before args s = true := fun w h9 => hts w (List.mem_cons_of_mem _ h9)
  clear hts
  have k204 := hB _ bw4_184
  have k384 := hB _ bw4_118
  have L3 : ∀ (n3 : Nat) (x1 : Int32) (x2 : Int32) (x3 : Int32) (x4 : Int32) (σ : Sg) (H : Heap) (locs : List Loc) (ls : Array Slot), Hx G (aA G s.heap.size) s σ H locs → lv_has ls 7 [(0, .ref (ga G 0)), (1, .int x1), (2, .int x2), (3, .int x3), (4, .int x4)] → wpX9_work_L3 Q n3 x1 x2 x3 x4 σ → W p l e ({ frames := 6, cells := 0, slots := 0, locals := 156 }) s m args below meth c H locs 0 0 (Zv G Q below args s) (F0 m 3 ls []) := by
    intro n3
    induction n3 with
    | zero =>
      intro x1 x2 x3 x4 σ H locs ls hH hl h
      exact False.elim h
    | succ n3 ih3 =>
      have L106 : ∀ (x1 : Int32) (x2 : Int32) (x3 : Int32) (x4 : Int32) (x6 : Int32) (σ : Sg) (H : Heap) (locs : List Loc) (ls : Array Slot), Hx G (aA G s.heap.size) s σ H locs → lv_has ls 7 [(0, .ref (ga G 0)), (1, .int x1), (2, .int x2), (3, .int x3), (4, .int x4), (6, .int x6)] → wpX9_work_L106 Q (wpX9_work_L3 Q n3) x1 x2 x3 x4 x6 σ → W p l e ({ frames := 6, cells := 0, slots := 0, locals := 156 }) s m args below meth c H locs 0 0 (Zv G Q below args s) (F0 m 106 ls []) := by
        intro x1 x2 x3 x4 x6 σ H locs ls hH hl h
        unfold wpX9_work_L106 at h
        refine lv_iload hx hb dX9_work_106 (lv_at hl 4 rfl) ?_
        refine lv_iconst (v := 2) hx hb dX9_work_108 (by decide) ?_
        refine lv_iload hx hb dX9_work_109 (lv_at hl 5 rfl) ?_
        refine lv_iadd hx hb dX9_work_111 ?_
        refine lv_iadd hx hb dX9_work_112 ?_
        refine lv_topi (fun x4_14 ex4_14 => ?_)
        replace h := h x4_14 ex4_14
        refine lv_istore (lv' := [(4, .int x4_14), (0, .ref (ga G 0)), (1, .int x1), (2, .int x2), (3, .int x3), (6, .int x6)]) hx hb dX9_work_113 hl (by decide) rfl (fun ls hl => ?_)
        refine lv_goto (tgt := 3) hx hb dX9_work_115 (by decide) ?_
        exact ih3 x1 x2 x3 x4_14 σ _ _ ls hH (lv_sub hl [1, 2, 3, 4, 0] rfl) h
      intro x1 x2 x3 x4 σ H locs ls hH hl h
      unfold wpX9_work_L3 at h
      refine lv_iload hx hb dX9_work_3 (lv_at hl 4 rfl) ?_
      refine lv_iload_n hx hb dX9_work_5 rfl (lv_at hl 2 rfl) ?_
      refine lv_iload_n hx hb dX9_work_6 rfl (lv_at hl 3 rfl) ?_
      refine lv_iadd hx hb dX9_work_7 ?_
      refine lv_icmp_ge (tgt := 118) hx hb dX9_work_8 (by decide) (fun q1 => ?_) (fun q1 => ?_)
      · replace h := h.1 q1
        exact g_vret hx hb hr hK hlk h hH dX9_work_118
      · replace h := h.2 q1
        refine lv_aload_n hx hb dX9_work_11 rfl (lv_at hl 0 rfl) ?_
        refine g_getr hx hb hB inB9 hown hK hH (c0 := 0) h0.1 rfl 74 (by decide) k204 rfl (c1 := 65) rfl dX9_work_12 ?_
        refine lv_iload hx hb dX9_work_15 (lv_at hl 4 rfl) ?_
        obtain ⟨hi2, h⟩ := h
        refine g_iald hx hb hK hH (c0 := 65) (mA65 h0) hi2 dX9_work_17 ?_
        refine lv_sipush (v := 255) hx hb dX9_work_18 (by decide) ?_
        refine lv_icmp_ge (tgt := 118) hx hb dX9_work_21 (by decide) (fun q3 => ?_) (fun q3 => ?_)
        · replace h := h.1 q3
          exact g_vret hx hb hr hK hlk h hH dX9_work_118
        · replace h := h.2 q3
          refine lv_aload_n hx hb dX9_work_24 rfl (lv_at hl 0 rfl) ?_
          refine g_getr hx hb hB inB9 hown hK hH (c0 := 0) h0.1 rfl 74 (by decide) k204 rfl (c1 := 65) rfl dX9_work_25 ?_
          refine lv_iload hx hb dX9_work_28 (lv_at hl 4 rfl) ?_
          obtain ⟨hi4, h⟩ := h
          refine g_iald hx hb hK hH (c0 := 65) (mA65 h0) hi4 dX9_work_30 ?_
          refine lv_topi (fun x5_5 ex5_5 => ?_)
          replace h := h x5_5 ex5_5
          refine lv_istore (lv' := [(5, .int x5_5), (0, .ref (ga G 0)), (1, .int x1), (2, .int x2), (3, .int x3), (4, .int x4)]) hx hb dX9_work_31 hl (by decide) rfl (fun ls hl => ?_)
          refine lv_aload_n hx hb dX9_work_33 rfl (lv_at hl 1 rfl) ?_
          refine g_getr hx hb hB inB9 hown hK hH (c0 := 0) h0.1 rfl 74 (by decide) k204 rfl (c1 := 65) rfl dX9_work_34 ?_
          refine lv_iload hx hb dX9_work_37 (lv_at hl 5 rfl) ?_
          refine lv_iconst (v := 1) hx hb dX9_work_39 (by decide) ?_
          refine lv_iadd hx hb dX9_work_40 ?_
          obtain ⟨hi6, h⟩ := h
          refine g_iald hx hb hK hH (c0 := 65) (mA65 h0) hi6 dX9_work_41 ?_
          refine lv_topi (fun x6_7 ex6_7 => ?_)
          replace h := h x6_7 ex6_7
          refine lv_istore (lv' := [(6, .int x6_7), (5, .int x5_5), (0, .ref (ga G 0)), (1, .int x1), (2, .int x2), (3, .int x3), (4, .int x4)]) hx hb dX9_work_42 hl (by decide) rfl (fun ls hl => ?_)
          refine lv_aload_n hx hb dX9_work_44 rfl (lv_at hl 2 rfl) ?_
          refine lv_dup hx hb dX9_work_45 rfl ?_
          refine g_geti hx hb hB inB9 hown hK hH (c0 := 0) h0.1 rfl 8 (by decide) k384 rfl rfl dX9_work_46 ?_
          refine lv_iconst (v := 1) hx hb dX9_work_49 (by decide) ?_
          refine lv_iadd hx hb dX9_work_50 ?_
          refine g_put hx hb hB inB9 tyX9 tyX9_ok nmX9 hown hK hH (c0 := 0) h0.1 rfl 8 (by decide) k384 rfl rfl rfl rfl rfl dX9_work_51 (fun σ8 eσ8 H locs hH => ?_)
          replace h := h σ8 eσ8
          refine lv_aload_n hx hb dX9_work_54 rfl (lv_at hl 2 rfl) ?_
          refine g_getr hx hb hB inB9 hown hK hH (c0 := 0) h0.1 rfl 74 (by decide) k204 rfl (c1 := 65) rfl dX9_work_55 ?_
          refine lv_iload hx hb dX9_work_58 (lv_at hl 6 rfl) ?_
          refine lv_iconst (v := 2) hx hb dX9_work_60 (by decide) ?_
          refine lv_iadd hx hb dX9_work_61 ?_
          obtain ⟨hi9, h⟩ := h
          refine g_iald hx hb hK hH (c0 := 65) (mA65 h0) hi9 dX9_work_62 ?_
          refine lv_bipush (v := 127) hx hb dX9_work_63 (by decide) ?_
          refine lv_icmp_le (tgt := 88) hx hb dX9_work_65 (by decide) (fun q10 => ?_) (fun q10 => ?_)
          · replace h := h.1 q10
            refine lv_aload_n hx hb dX9_work_88 rfl (lv_at hl 2 rfl) ?_
            refine lv_iload_n hx hb dX9_work_89 rfl (lv_at hl 3 rfl) ?_
            refine lv_iload hx hb dX9_work_90 (lv_at hl 1 rfl) ?_
            refine g_callSi (As := [.int x1, .int x5_5]) (rest := [.ref (ga G 0)]) ⟨hx, hb, hml, hown, hB⟩ hK hX aA_hA hH (tX9_at h) (va_cwS 2 hB gSX9_258 rfl rfl rfl (by decide +kernel) ⟨Nat.le_of_ble_eq_true rfl, Nat.le_of_ble_eq_true rfl⟩) rfl hl.1 rfl (lv_room (Nat.le_of_ble_eq_true rfl)) ⟨Nat.zero_le _, Nat.zero_le _⟩ dX9_work_92 (fun r11 σ11 H locs h hH => ?_)
            refine lv_aload_n hx hb dX9_work_95 rfl (lv_at hl 2 rfl) ?_
            refine g_getr hx hb hB inB9 hown hK hH (c0 := 0) h0.1 rfl 74 (by decide) k204 rfl (c1 := 65) rfl dX9_work_96 ?_
            refine lv_iload hx hb dX9_work_99 (lv_at hl 6 rfl) ?_
            refine lv_iconst (v := 2) hx hb dX9_work_101 (by decide) ?_
            refine lv_iadd hx hb dX9_work_102 ?_
            refine g_callVv (As := [.int r11, .ref (ga G 65), .int (x4 + 2)]) (rest := []) ⟨hx, hb, hml, hown, hB⟩ hK hX aA_hA hH (c0 := 0) (tX9_status h0 (mA65 h0) h) (cwV 3 hB gVX9_391 rfl rfl rfl (by decide +kernel) ⟨Nat.le_of_ble_eq_true rfl, Nat.le_of_ble_eq_true rfl⟩) h0.1 rfl rfl hl.1 rfl (lv_room (Nat.le_of_ble_eq_true rfl)) ⟨Nat.zero_le _, Nat.zero_le _⟩ dX9_work_103 (fun σ12 H locs h hH => ?_)
            exact L106 x1 x2 x3 x4 x6_7 σ12 _ _ ls hH (lv_sub hl [2, 3, 4, 5, 6, 0] rfl) h
          · replace h := h.2 q10
            refine lv_aload_n hx hb dX9_work_68 rfl (lv_at hl 2 rfl) ?_
            refine lv_iload_n hx hb dX9_work_69 rfl (lv_at hl 3 rfl) ?_
            refine lv_iload hx hb dX9_work_70 (lv_at hl 1 rfl) ?_
            refine lv_aload_n hx hb dX9_work_72 rfl (lv_at hl 2 rfl) ?_
            refine g_getr hx hb hB inB9 hown hK hH (c0 := 0) h0.1 rfl 74 (by decide) k204 rfl (c1 := 65) rfl dX9_work_73 ?_
            refine lv_iload hx hb dX9_work_76 (lv_at hl 6 rfl) ?_
            refine lv_iconst (v := 2) hx hb dX9_work_78 (by decide) ?_
            refine lv_iadd hx hb dX9_work_79 ?_
            refine lv_iload hx hb dX9_work_80 (lv_at hl 0 rfl) ?_
            refine g_callVv (As := [.int x1, .int x5_5, .ref (ga G 65), .int (x4 + 2), .int x6_7]) (rest := []) ⟨hx, hb, hml, hown, hB⟩ hK hX aA_hA hH (c0 := 0) (tX9_dataComes h0 (mA65 h0) h) (cwV 5 hB gVX9_387 rfl rfl rfl (by decide +kernel) ⟨Nat.le_of_ble_eq_true rfl, Nat.le_of_ble_eq_true rfl⟩) h0.1 rfl rfl hl.1 rfl (lv_room (Nat.le_of_ble_eq_true rfl)) ⟨Nat.zero_le _, Nat.zero_le _⟩ dX9_work_82 (fun σ13 H locs h hH => ?_)
            refine lv_goto (tgt := 106) hx hb dX9_work_85 (by decide) ?_
            exact L106 x1 x2 x3 x4 x6_7 σ13 _ _ ls hH (lv_sub hl [2, 3, 4, 5, 6, 0] rfl) h
  unfold wpX9_work at h
  refine lv_iload_n hx hb dX9_work_0 rfl (lv_at hl 2 rfl) ?_
  refine lv_istore (lv' := [(4, .int x2), (0, .ref (ga G 0)), (1, .int x1), (2, .int x2), (3, .int x3)]) hx hb dX9_work_1 hl (by decide) rfl (fun ls hl => ?_)
  obtain ⟨nn, h⟩ := h
  exact L3 nn x1 x2 x3 x2 σ _ _ ls hH (lv_sub hl [1, 2, 3, 4, 0] rfl) h
def wpX9_sends_L329 (Q : Int32 → Sg → Prop) (x6 : Int32) (σ : Sg) : Prop := ((x6 = 0 → Q 1 σ) ∧ (¬ (x6 = 0) → Q 2 σ))
def wpX9_sends_L321 (Q : Int32 → Sg → Prop) (x5 : Int32) (x6 : Int32) (σ : Sg) : Prop := (vp_in x5 8 ∧ ∀ σ44 : Sg, σ44 = up2 σ 60 x5.toNatClampNeg 0 → wpX9_sends_L329 Q x6 σ44)
def wpX9_sends_L305 (Q : Int32 → Sg → Prop) (x5 : Int32) (x6 : Int32) (x7 : Int32) (σ : Sg) : Prop := ((¬ x7 = 0 → wpX9_sends_L321 Q x5 x6 σ) ∧ (x7 = 0 → (vp_in x5 8 ∧ ((¬ (σ 60 x5.toNatClampNeg) = 3 → wpX9_sends_L329 Q x6 σ) ∧ ((σ 60 x5.toNatClampNeg) = 3 → wpX9_sends_L321 Q x5 x6 σ)))))
def wpX9_sends_L277 (Q : Int32 → Sg → Prop) (x5 : Int32) (x6 : Int32) (z0 : Int32) (σ : Sg) : Prop := ((¬ z0 = 0 → wpX9_sends_L305 Q x5 x6 z0 σ) ∧ (z0 = 0 → (vp_in x5 8 ∧ ((¬ (σ 60 x5.toNatClampNeg) = 3 → wpX9_sends_L305 Q x5 x6 z0 σ) ∧ ((σ 60 x5.toNatClampNeg) = 3 → ∀ σ40 : Sg, σ40 = up2 σ 0 7 ((σ 0 7) + 1) → wpX9_sends_L305 Q x5 x6 z0 σ40)))))
def wpX9_sends_L260 (Q : Int32 → Sg → Prop) (x4 : Int32) (x5 : Int32) (x6 : Int32) (σ : Sg) : Prop := (vp_in x5 8 ∧ (((σ 63 x5.toNatClampNeg) = x4 → wpX9_sends_L277 Q x5 x6 0 σ) ∧ (¬ ((σ 63 x5.toNatClampNeg) = x4) → wpX9_sends_L277 Q x5 x6 1 σ)))
def wpX9_sends_L236 (Q : Int32 → Sg → Prop) (x1 : Int32) (x4 : Int32) (x5 : Int32) (x6 : Int32) (σ : Sg) : Prop := ((x6 = 0 → wpX9_sends_L260 Q x4 x5 x6 σ) ∧ (¬ (x6 = 0) → (vp_in x5 8 ∧ wpX9_work (1 - x1) (250 * x1) (σ 61 x5.toNatClampNeg) σ (fun σ34 => wpX9_sends_L260 Q x4 x5 x6 σ34))))
def wpX9_sends_L222 (Q : Int32 → Sg → Prop) (x1 : Int32) (x3 : Int32) (x4 : Int32) (x5 : Int32) (z0 : Int32) (σ : Sg) : Prop := ((¬ x3 = 0 → wpX9_sends_L236 Q x1 x4 x5 z0 σ) ∧ (x3 = 0 → (vp_in x5 8 ∧ ∀ σ31 : Sg, σ31 = up2 σ 63 x5.toNatClampNeg 1 → wpX9_sends_L236 Q x1 x4 x5 z0 σ31)))
def wpX9_sends_L221 (Q : Int32 → Sg → Prop) (x1 : Int32) (x3 : Int32) (x4 : Int32) (x5 : Int32) (σ : Sg) : Prop := wpX9_sends_L222 Q x1 x3 x4 x5 0 σ
def wpX9_sends_L203 (Q : Int32 → Sg → Prop) (x1 : Int32) (x3 : Int32) (x4 : Int32) (x5 : Int32) (σ : Sg) : Prop := ((¬ x3 = 0 → wpX9_sends_L221 Q x1 x3 x4 x5 σ) ∧ (x3 = 0 → (vp_in x5 8 ∧ ((¬ (σ 63 x5.toNatClampNeg) = 0 → wpX9_sends_L221 Q x1 x3 x4 x5 σ) ∧ ((σ 63 x5.toNatClampNeg) = 0 → wpX9_sends_L222 Q x1 x3 x4 x5 1 σ)))))
def wpX9_sends_L188 (Q : Int32 → Sg → Prop) (x1 : Int32) (x3 : Int32) (x4 : Int32) (x5 : Int32) (σ : Sg) : Prop := ((x4 = 0 → wpX9_sends_L203 Q x1 x3 x4 x5 σ) ∧ (¬ (x4 = 0) → ∀ σ26 : Sg, σ26 = up2 σ 0 6 ((σ 0 6) + 1) → wpX9_sends_L203 Q x1 x3 x4 x5 σ26))
def wpX9_sends_L129 (Q : Int32 → Sg → Prop) : Nat → Int32 → Int32 → Int32 → Int32 → Int32 → Sg → Prop
  | 0, _, _, _, _, _, _ => False
  | n + 1, x1, x3, x4, x5, x6, σ => (vp_in x5 8 ∧ (((σ 61 x5.toNatClampNeg) ≤ x6 → ((x3 = 0 → wpX9_sends_L188 Q x1 x3 x4 x5 σ) ∧ (¬ (x3 = 0) → ∀ σ21 : Sg, σ21 = up2 σ 0 5 ((σ 0 5) + 1) → wpX9_sends_L188 Q x1 x3 x4 x5 σ21))) ∧ (¬ ((σ 61 x5.toNatClampNeg) ≤ x6) → (vp_in ((250 * x5) + x6) 2000 ∧ (vp_in ((250 * x1) + x6) 500 ∧ ∀ σ23 : Sg, σ23 = up2 σ 65 (((250 * x1) + x6).toNatClampNeg) (σ 62 ((250 * x5) + x6).toNatClampNeg) → ∀ x6_24 : Int32, x6_24 = x6 + 1 → (wpX9_sends_L129 Q n) x1 x3 x4 x5 x6_24 σ23)))))
def wpX9_sends_L92 (Q : Int32 → Sg → Prop) (x1 : Int32) (x3 : Int32) (x4 : Int32) (x5 : Int32) (σ : Sg) : Prop := (vp_in x5 8 ∧ (vp_in x5 8 ∧ ∀ σ10 : Sg, σ10 = up2 σ 60 x5.toNatClampNeg ((σ 60 x5.toNatClampNeg) + 1) → ∀ σ11 : Sg, σ11 = up2 σ10 0 4 ((σ10 0 4) + 1) → (vp_in x5 8 ∧ (vp_in x1 2 ∧ ∀ σ13 : Sg, σ13 = up2 σ11 64 x1.toNatClampNeg (σ11 61 x5.toNatClampNeg) → ∃ nn, wpX9_sends_L129 Q nn x1 x3 x4 x5 0 σ13))))
def wpX9_sends_L59 (Q : Int32 → Sg → Prop) : Nat → Int32 → Int32 → Int32 → Int32 → Int32 → Int32 → Sg → Prop
  | 0, _, _, _, _, _, _, _ => False
  | n + 1, x1, x2, x3, x4, x5, x6, σ => ((x2 ≤ x6 → wpX9_sends_L92 Q x1 x3 x4 x5 σ) ∧ (¬ (x2 ≤ x6) → (vp_in x6 250 ∧ (vp_in ((250 * x5) + x6) 2000 ∧ ∀ σ16 : Sg, σ16 = up2 σ 62 (((250 * x5) + x6).toNatClampNeg) (σ 72 x6.toNatClampNeg) → ∀ x6_17 : Int32, x6_17 = x6 + 1 → (wpX9_sends_L59 Q n) x1 x2 x3 x4 x5 x6_17 σ16))))
def wpX9_sends (x1 : Int32) (x2 : Int32) (x3 : Int32) (x4 : Int32) (σ : Sg) (Q : Int32 → Sg → Prop) : Prop := ∀ x5_1 : Int32, x5_1 = (4 * x1) + ((σ 0 2) &&& 3) → (vp_in x1 2 ∧ ∀ σ2 : Sg, σ2 = up2 σ 64 x1.toNatClampNeg (-1) → (vp_in x5_1 8 ∧ ((¬ (σ2 60 x5_1.toNatClampNeg) = 0 → wpX9_sends_L92 Q x1 x3 x4 x5_1 σ2) ∧ ((σ2 60 x5_1.toNatClampNeg) = 0 → wpX9_lay x1 x2 σ2 (fun r5 σ5 => ((¬ r5 = 0 → (vp_in x5_1 8 ∧ ∀ σ7 : Sg, σ7 = up2 σ5 61 x5_1.toNatClampNeg x2 → (vp_in x5_1 8 ∧ ∀ σ8 : Sg, σ8 = up2 σ7 63 x5_1.toNatClampNeg 0 → ∃ nn, wpX9_sends_L59 Q nn x1 x2 x3 x4 x5_1 0 σ8))) ∧ (r5 = 0 → Q 0 σ5)))))))
set_option maxHeartbeats 8000000 in
set_option maxRecDepth 100000 in
theorem tX9_sends {l : Launch} {G : GG} {x1 : Int32} {x2 : Int32} {x3 : Int32} {x4 : Int32} {σ : Sg} {Q : Int32 → Sg → Prop} (h0 : isModel G) (h : wpX9_sends x1 x2 x3 x4 σ Q) : Ki l G yX9_sends (wB yX9_sends prog_11_method_46_code 8 (Option.some FieldType.int)) ({ frames := 7, cells := 0, slots := 0, locals := 182 }) [.ref (ga G 0), .int x1, .int x2, .int x3, .int x4] σ Q := by
  refine K_of (cc := cX9_sends) (maxL := 8) (ret := (some .int)) (by decide) rfl (Nat.le_of_ble_eq_true rfl) ?_
  intro p e s m args below meth c ls B hH hl
  obtain ⟨hx, hb, hr, hts, hown, hlk, hml, hK, hX⟩ := B
  replace hl : lv_has ls 8 [(0, .ref (ga G 0)), (1, .int x1), (2, .int x2), (3, .int x3), (4, .int x4)] := hl
  have hB : ∀ w ∈ BIG, w.before args s = true := fun w h9 => hts w (List.mem_cons_of_mem _ h9)
  clear hts
  have k189 := hB _ bw4_179
  have k192 := hB _ bw4_180
  have k195 := hB _ bw4_181
  have k198 := hB _ bw4_182
  have k201 := hB _ bw4_183
  have k204 := hB _ bw4_184
  have k225 := hB _ bw4_191
  have k363 := hB _ bw4_112
  have k369 := hB _ bw4_114
  have k372 := hB _ bw4_115
  have k375 := hB _ bw4_116
  have k381 := hB _ bw4_117
  have L329 : ∀ (x6 : Int32) (σ : Sg) (H : Heap) (locs : List Loc) (ls : Array Slot), Hx G (aA G s.heap.size) s σ H locs → lv_has ls 8 [(6, .int x6)] → wpX9_sends_L329 Q x6 σ → W p l e ({ frames := 7, cells := 0, slots := 0, locals := 182 }) s m args below meth c H locs 0 0 (Zi G Q below args s) (F0 m 329 ls []) := by
    intro x6 σ H locs ls hH hl h
    unfold wpX9_sends_L329 at h
    refine lv_iload hx hb dX9_sends_329 (lv_at hl 0 rfl) ?_
    refine lv_if_eq (tgt := 338) hx hb dX9_sends_331 (by decide) (fun q45 => ?_) (fun q45 => ?_)
    · replace h := h.1 q45
      refine lv_iconst (v := 1) hx hb dX9_sends_338 (by decide) ?_
      exact g_iret hx hb hr hK hlk h hH dX9_sends_339
    · replace h := h.2 q45
      refine lv_iconst (v := 2) hx hb dX9_sends_334 (by decide) ?_
      refine lv_goto (tgt := 339) hx hb dX9_sends_335 (by decide) ?_
      exact g_iret hx hb hr hK hlk h hH dX9_sends_339
  have L321 : ∀ (x5 : Int32) (x6 : Int32) (σ : Sg) (H : Heap) (locs : List Loc) (ls : Array Slot), Hx G (aA G s.heap.size) s σ H locs → lv_has ls 8 [(0, .ref (ga G 0)), (5, .int x5), (6, .int x6)] → wpX9_sends_L321 Q x5 x6 σ → W p l e ({ frames := 7, cells := 0, slots := 0, locals := 182 }) s m args below meth c H locs 0 0 (Zi G Q below args s) (F0 m 321 ls []) := by
    intro x5 x6 σ H locs ls hH hl h
    unfold wpX9_sends_L321 at h
    refine lv_aload_n hx hb dX9_sends_321 rfl (lv_at hl 0 rfl) ?_
    refine g_getr hx hb hB inB9 hown hK hH (c0 := 0) h0.1 rfl 69 (by decide) k189 rfl (c1 := 60) rfl dX9_sends_322 ?_
    refine lv_iload hx hb dX9_sends_325 (lv_at hl 1 rfl) ?_
    refine lv_iconst (v := 0) hx hb dX9_sends_327 (by decide) ?_
    obtain ⟨hi44, h⟩ := h
    refine g_iast hx hb hK hH (c0 := 60) (i := x5) (mA60 h0) hi44 dX9_sends_328 (fun σ44 eσ44 H locs hH => ?_)
    replace h := h σ44 eσ44
    exact L329 x6 σ44 _ _ ls hH (lv_sub hl [2] rfl) h
  have L305 : ∀ (x5 : Int32) (x6 : Int32) (x7 : Int32) (σ : Sg) (H : Heap) (locs : List Loc) (ls : Array Slot), Hx G (aA G s.heap.size) s σ H locs → lv_has ls 8 [(0, .ref (ga G 0)), (5, .int x5), (6, .int x6), (7, .int x7)] → wpX9_sends_L305 Q x5 x6 x7 σ → W p l e ({ frames := 7, cells := 0, slots := 0, locals := 182 }) s m args below meth c H locs 0 0 (Zi G Q below args s) (F0 m 305 ls []) := by
    intro x5 x6 x7 σ H locs ls hH hl h
    unfold wpX9_sends_L305 at h
    refine lv_iload hx hb dX9_sends_305 (lv_at hl 3 rfl) ?_
    refine lv_if_ne (tgt := 321) hx hb dX9_sends_307 (by decide) (fun q41 => ?_) (fun q41 => ?_)
    · replace h := h.1 q41
      exact L321 x5 x6 σ _ _ ls hH (lv_sub hl [0, 1, 2] rfl) h
    · replace h := h.2 q41
      refine lv_aload_n hx hb dX9_sends_310 rfl (lv_at hl 0 rfl) ?_
      refine g_getr hx hb hB inB9 hown hK hH (c0 := 0) h0.1 rfl 69 (by decide) k189 rfl (c1 := 60) rfl dX9_sends_311 ?_
      refine lv_iload hx hb dX9_sends_314 (lv_at hl 1 rfl) ?_
      obtain ⟨hi42, h⟩ := h
      refine g_iald hx hb hK hH (c0 := 60) (mA60 h0) hi42 dX9_sends_316 ?_
      refine lv_iconst (v := 3) hx hb dX9_sends_317 (by decide) ?_
      refine lv_icmp_ne (tgt := 329) hx hb dX9_sends_318 (by decide) (fun q43 => ?_) (fun q43 => ?_)
      · replace h := h.1 q43
        exact L329 x6 σ _ _ ls hH (lv_sub hl [2] rfl) h
      · replace h := h.2 q43
        exact L321 x5 x6 σ _ _ ls hH (lv_sub hl [0, 1, 2] rfl) h
  have L277 : ∀ (x5 : Int32) (x6 : Int32) (z0 : Int32) (σ : Sg) (H : Heap) (locs : List Loc) (ls : Array Slot), Hx G (aA G s.heap.size) s σ H locs → lv_has ls 8 [(0, .ref (ga G 0)), (5, .int x5), (6, .int x6)] → wpX9_sends_L277 Q x5 x6 z0 σ → W p l e ({ frames := 7, cells := 0, slots := 0, locals := 182 }) s m args below meth c H locs 0 0 (Zi G Q below args s) (F0 m 277 ls [.int z0]) := by
    intro x5 x6 z0 σ H locs ls hH hl h
    unfold wpX9_sends_L277 at h
    refine lv_istore (lv' := [(7, .int z0), (0, .ref (ga G 0)), (5, .int x5), (6, .int x6)]) hx hb dX9_sends_277 hl (by decide) rfl (fun ls hl => ?_)
    refine lv_iload hx hb dX9_sends_279 (lv_at hl 0 rfl) ?_
    refine lv_if_ne (tgt := 305) hx hb dX9_sends_281 (by decide) (fun q37 => ?_) (fun q37 => ?_)
    · replace h := h.1 q37
      exact L305 x5 x6 z0 σ _ _ ls hH (lv_sub hl [1, 2, 3, 0] rfl) h
    · replace h := h.2 q37
      refine lv_aload_n hx hb dX9_sends_284 rfl (lv_at hl 1 rfl) ?_
      refine g_getr hx hb hB inB9 hown hK hH (c0 := 0) h0.1 rfl 69 (by decide) k189 rfl (c1 := 60) rfl dX9_sends_285 ?_
      refine lv_iload hx hb dX9_sends_288 (lv_at hl 2 rfl) ?_
      obtain ⟨hi38, h⟩ := h
      refine g_iald hx hb hK hH (c0 := 60) (mA60 h0) hi38 dX9_sends_290 ?_
      refine lv_iconst (v := 3) hx hb dX9_sends_291 (by decide) ?_
      refine lv_icmp_ne (tgt := 305) hx hb dX9_sends_292 (by decide) (fun q39 => ?_) (fun q39 => ?_)
      · replace h := h.1 q39
        exact L305 x5 x6 z0 σ _ _ ls hH (lv_sub hl [1, 2, 3, 0] rfl) h
      · replace h := h.2 q39
        refine lv_aload_n hx hb dX9_sends_295 rfl (lv_at hl 1 rfl) ?_
        refine lv_dup hx hb dX9_sends_296 rfl ?_
        refine g_geti hx hb hB inB9 hown hK hH (c0 := 0) h0.1 rfl 7 (by decide) k381 rfl rfl dX9_sends_297 ?_
        refine lv_iconst (v := 1) hx hb dX9_sends_300 (by decide) ?_
        refine lv_iadd hx hb dX9_sends_301 ?_
        refine g_put hx hb hB inB9 tyX9 tyX9_ok nmX9 hown hK hH (c0 := 0) h0.1 rfl 7 (by decide) k381 rfl rfl rfl rfl rfl dX9_sends_302 (fun σ40 eσ40 H locs hH => ?_)
        replace h := h σ40 eσ40
        exact L305 x5 x6 z0 σ40 _ _ ls hH (lv_sub hl [1, 2, 3, 0] rfl) h
  have L260 : ∀ (x4 : Int32) (x5 : Int32) (x6 : Int32) (σ : Sg) (H : Heap) (locs : List Loc) (ls : Array Slot), Hx G (aA G s.heap.size) s σ H locs → lv_has ls 8 [(0, .ref (ga G 0)), (4, .int x4), (5, .int x5), (6, .int x6)] → wpX9_sends_L260 Q x4 x5 x6 σ → W p l e ({ frames := 7, cells := 0, slots := 0, locals := 182 }) s m args below meth c H locs 0 0 (Zi G Q below args s) (F0 m 260 ls []) := by
    intro x4 x5 x6 σ H locs ls hH hl h
    unfold wpX9_sends_L260 at h
    refine lv_aload_n hx hb dX9_sends_260 rfl (lv_at hl 0 rfl) ?_
    refine g_getr hx hb hB inB9 hown hK hH (c0 := 0) h0.1 rfl 72 (by decide) k198 rfl (c1 := 63) rfl dX9_sends_261 ?_
    refine lv_iload hx hb dX9_sends_264 (lv_at hl 2 rfl) ?_
    obtain ⟨hi35, h⟩ := h
    refine g_zald hx hb hK hH (c0 := 63) (mA63 h0) hi35 dX9_sends_266 ?_
    refine lv_iload hx hb dX9_sends_267 (lv_at hl 1 rfl) ?_
    refine lv_icmp_eq (tgt := 276) hx hb dX9_sends_269 (by decide) (fun q36 => ?_) (fun q36 => ?_)
    · replace h := h.1 q36
      refine lv_iconst (v := 0) hx hb dX9_sends_276 (by decide) ?_
      exact L277 x5 x6 0 σ _ _ ls hH (lv_sub hl [0, 2, 3] rfl) h
    · replace h := h.2 q36
      refine lv_iconst (v := 1) hx hb dX9_sends_272 (by decide) ?_
      refine lv_goto (tgt := 277) hx hb dX9_sends_273 (by decide) ?_
      exact L277 x5 x6 1 σ _ _ ls hH (lv_sub hl [0, 2, 3] rfl) h
  have L236 : ∀ (x1 : Int32) (x4 : Int32) (x5 : Int32) (x6 : Int32) (σ : Sg) (H : Heap) (locs : List Loc) (ls : Array Slot), Hx G (aA G s.heap.size) s σ H locs → lv_has ls 8 [(0, .ref (ga G 0)), (1, .int x1), (4, .int x4), (5, .int x5), (6, .int x6)] → wpX9_sends_L236 Q x1 x4 x5 x6 σ → W p l e ({ frames := 7, cells := 0, slots := 0, locals := 182 }) s m args below meth c H locs 0 0 (Zi G Q below args s) (F0 m 236 ls []) := by
    intro x1 x4 x5 x6 σ H locs ls hH hl h
    unfold wpX9_sends_L236 at h
    refine lv_iload hx hb dX9_sends_236 (lv_at hl 4 rfl) ?_
    refine lv_if_eq (tgt := 260) hx hb dX9_sends_238 (by decide) (fun q32 => ?_) (fun q32 => ?_)
    · replace h := h.1 q32
      exact L260 x4 x5 x6 σ _ _ ls hH (lv_sub hl [0, 2, 3, 4] rfl) h
    · replace h := h.2 q32
      refine lv_aload_n hx hb dX9_sends_241 rfl (lv_at hl 0 rfl) ?_
      refine lv_iconst (v := 1) hx hb dX9_sends_242 (by decide) ?_
      refine lv_iload_n hx hb dX9_sends_243 rfl (lv_at hl 1 rfl) ?_
      refine lv_isub hx hb dX9_sends_244 ?_
      refine lv_sipush (v := 250) hx hb dX9_sends_245 (by decide) ?_
      refine lv_iload_n hx hb dX9_sends_248 rfl (lv_at hl 1 rfl) ?_
      refine lv_imul hx hb dX9_sends_249 ?_
      refine lv_aload_n hx hb dX9_sends_250 rfl (lv_at hl 0 rfl) ?_
      refine g_getr hx hb hB inB9 hown hK hH (c0 := 0) h0.1 rfl 70 (by decide) k192 rfl (c1 := 61) rfl dX9_sends_251 ?_
      refine lv_iload hx hb dX9_sends_254 (lv_at hl 3 rfl) ?_
      obtain ⟨hi33, h⟩ := h
      refine g_iald hx hb hK hH (c0 := 61) (mA61 h0) hi33 dX9_sends_256 ?_
      refine g_callVv (As := [.int (1 - x1), .int (250 * x1), .int (σ 61 x5.toNatClampNeg)]) (rest := []) ⟨hx, hb, hml, hown, hB⟩ hK hX aA_hA hH (c0 := 0) (tX9_work h0 h) (cwV 3 hB gVX9_378 rfl rfl rfl (by decide +kernel) ⟨Nat.le_of_ble_eq_true rfl, Nat.le_of_ble_eq_true rfl⟩) h0.1 rfl rfl hl.1 rfl (lv_room (Nat.le_of_ble_eq_true rfl)) ⟨Nat.zero_le _, Nat.zero_le _⟩ dX9_sends_257 (fun σ34 H locs h hH => ?_)
      exact L260 x4 x5 x6 σ34 _ _ ls hH (lv_sub hl [0, 2, 3, 4] rfl) h
  have L222 : ∀ (x1 : Int32) (x3 : Int32) (x4 : Int32) (x5 : Int32) (z0 : Int32) (σ : Sg) (H : Heap) (locs : List Loc) (ls : Array Slot), Hx G (aA G s.heap.size) s σ H locs → lv_has ls 8 [(0, .ref (ga G 0)), (1, .int x1), (3, .int x3), (4, .int x4), (5, .int x5)] → wpX9_sends_L222 Q x1 x3 x4 x5 z0 σ → W p l e ({ frames := 7, cells := 0, slots := 0, locals := 182 }) s m args below meth c H locs 0 0 (Zi G Q below args s) (F0 m 222 ls [.int z0]) := by
    intro x1 x3 x4 x5 z0 σ H locs ls hH hl h
    unfold wpX9_sends_L222 at h
    refine lv_istore (lv' := [(6, .int z0), (0, .ref (ga G 0)), (1, .int x1), (3, .int x3), (4, .int x4), (5, .int x5)]) hx hb dX9_sends_222 hl (by decide) rfl (fun ls hl => ?_)
    refine lv_iload_n hx hb dX9_sends_224 rfl (lv_at hl 3 rfl) ?_
    refine lv_if_ne (tgt := 236) hx hb dX9_sends_225 (by decide) (fun q30 => ?_) (fun q30 => ?_)
    · replace h := h.1 q30
      exact L236 x1 x4 x5 z0 σ _ _ ls hH (lv_sub hl [1, 2, 4, 5, 0] rfl) h
    · replace h := h.2 q30
      refine lv_aload_n hx hb dX9_sends_228 rfl (lv_at hl 1 rfl) ?_
      refine g_getr hx hb hB inB9 hown hK hH (c0 := 0) h0.1 rfl 72 (by decide) k198 rfl (c1 := 63) rfl dX9_sends_229 ?_
      refine lv_iload hx hb dX9_sends_232 (lv_at hl 5 rfl) ?_
      refine lv_iconst (v := 1) hx hb dX9_sends_234 (by decide) ?_
      obtain ⟨hi31, h⟩ := h
      refine g_zast hx hb hK hH (c0 := 63) (i := x5) (mA63 h0) vz1 hi31 dX9_sends_235 (fun σ31 eσ31 H locs hH => ?_)
      replace h := h σ31 eσ31
      exact L236 x1 x4 x5 z0 σ31 _ _ ls hH (lv_sub hl [1, 2, 4, 5, 0] rfl) h
  have L221 : ∀ (x1 : Int32) (x3 : Int32) (x4 : Int32) (x5 : Int32) (σ : Sg) (H : Heap) (locs : List Loc) (ls : Array Slot), Hx G (aA G s.heap.size) s σ H locs → lv_has ls 8 [(0, .ref (ga G 0)), (1, .int x1), (3, .int x3), (4, .int x4), (5, .int x5)] → wpX9_sends_L221 Q x1 x3 x4 x5 σ → W p l e ({ frames := 7, cells := 0, slots := 0, locals := 182 }) s m args below meth c H locs 0 0 (Zi G Q below args s) (F0 m 221 ls []) := by
    intro x1 x3 x4 x5 σ H locs ls hH hl h
    unfold wpX9_sends_L221 at h
    refine lv_iconst (v := 0) hx hb dX9_sends_221 (by decide) ?_
    exact L222 x1 x3 x4 x5 0 σ _ _ ls hH (lv_sub hl [0, 1, 2, 3, 4] rfl) h
  have L203 : ∀ (x1 : Int32) (x3 : Int32) (x4 : Int32) (x5 : Int32) (σ : Sg) (H : Heap) (locs : List Loc) (ls : Array Slot), Hx G (aA G s.heap.size) s σ H locs → lv_has ls 8 [(0, .ref (ga G 0)), (1, .int x1), (3, .int x3), (4, .int x4), (5, .int x5)] → wpX9_sends_L203 Q x1 x3 x4 x5 σ → W p l e ({ frames := 7, cells := 0, slots := 0, locals := 182 }) s m args below meth c H locs 0 0 (Zi G Q below args s) (F0 m 203 ls []) := by
    intro x1 x3 x4 x5 σ H locs ls hH hl h
    unfold wpX9_sends_L203 at h
    refine lv_iload_n hx hb dX9_sends_203 rfl (lv_at hl 2 rfl) ?_
    refine lv_if_ne (tgt := 221) hx hb dX9_sends_204 (by decide) (fun q27 => ?_) (fun q27 => ?_)
    · replace h := h.1 q27
      exact L221 x1 x3 x4 x5 σ _ _ ls hH (lv_sub hl [0, 1, 2, 3, 4] rfl) h
    · replace h := h.2 q27
      refine lv_aload_n hx hb dX9_sends_207 rfl (lv_at hl 0 rfl) ?_
      refine g_getr hx hb hB inB9 hown hK hH (c0 := 0) h0.1 rfl 72 (by decide) k198 rfl (c1 := 63) rfl dX9_sends_208 ?_
      refine lv_iload hx hb dX9_sends_211 (lv_at hl 4 rfl) ?_
      obtain ⟨hi28, h⟩ := h
      refine g_zald hx hb hK hH (c0 := 63) (mA63 h0) hi28 dX9_sends_213 ?_
      refine lv_if_ne (tgt := 221) hx hb dX9_sends_214 (by decide) (fun q29 => ?_) (fun q29 => ?_)
      · replace h := h.1 q29
        exact L221 x1 x3 x4 x5 σ _ _ ls hH (lv_sub hl [0, 1, 2, 3, 4] rfl) h
      · replace h := h.2 q29
        refine lv_iconst (v := 1) hx hb dX9_sends_217 (by decide) ?_
        refine lv_goto (tgt := 222) hx hb dX9_sends_218 (by decide) ?_
        exact L222 x1 x3 x4 x5 1 σ _ _ ls hH (lv_sub hl [0, 1, 2, 3, 4] rfl) h
  have L188 : ∀ (x1 : Int32) (x3 : Int32) (x4 : Int32) (x5 : Int32) (σ : Sg) (H : Heap) (locs : List Loc) (ls : Array Slot), Hx G (aA G s.heap.size) s σ H locs → lv_has ls 8 [(0, .ref (ga G 0)), (1, .int x1), (3, .int x3), (4, .int x4), (5, .int x5)] → wpX9_sends_L188 Q x1 x3 x4 x5 σ → W p l e ({ frames := 7, cells := 0, slots := 0, locals := 182 }) s m args below meth c H locs 0 0 (Zi G Q below args s) (F0 m 188 ls []) := by
    intro x1 x3 x4 x5 σ H locs ls hH hl h
    unfold wpX9_sends_L188 at h
    refine lv_iload hx hb dX9_sends_188 (lv_at hl 3 rfl) ?_
    refine lv_if_eq (tgt := 203) hx hb dX9_sends_190 (by decide) (fun q25 => ?_) (fun q25 => ?_)
    · replace h := h.1 q25
      exact L203 x1 x3 x4 x5 σ _ _ ls hH (lv_sub hl [0, 1, 2, 3, 4] rfl) h
    · replace h := h.2 q25
      refine lv_aload_n hx hb dX9_sends_193 rfl (lv_at hl 0 rfl) ?_
      refine lv_dup hx hb dX9_sends_194 rfl ?_
      refine g_geti hx hb hB inB9 hown hK hH (c0 := 0) h0.1 rfl 6 (by decide) k375 rfl rfl dX9_sends_195 ?_
      refine lv_iconst (v := 1) hx hb dX9_sends_198 (by decide) ?_
      refine lv_iadd hx hb dX9_sends_199 ?_
      refine g_put hx hb hB inB9 tyX9 tyX9_ok nmX9 hown hK hH (c0 := 0) h0.1 rfl 6 (by decide) k375 rfl rfl rfl rfl rfl dX9_sends_200 (fun σ26 eσ26 H locs hH => ?_)
      replace h := h σ26 eσ26
      exact L203 x1 x3 x4 x5 σ26 _ _ ls hH (lv_sub hl [0, 1, 2, 3, 4] rfl) h
  have L129 : ∀ (n129 : Nat) (x1 : Int32) (x3 : Int32) (x4 : Int32) (x5 : Int32) (x6 : Int32) (σ : Sg) (H : Heap) (locs : List Loc) (ls : Array Slot), Hx G (aA G s.heap.size) s σ H locs → lv_has ls 8 [(0, .ref (ga G 0)), (1, .int x1), (3, .int x3), (4, .int x4), (5, .int x5), (6, .int x6)] → wpX9_sends_L129 Q n129 x1 x3 x4 x5 x6 σ → W p l e ({ frames := 7, cells := 0, slots := 0, locals := 182 }) s m args below meth c H locs 0 0 (Zi G Q below args s) (F0 m 129 ls []) := by
    intro n129
    induction n129 with
    | zero =>
      intro x1 x3 x4 x5 x6 σ H locs ls hH hl h
      exact False.elim h
    | succ n129 ih129 =>
      intro x1 x3 x4 x5 x6 σ H locs ls hH hl h
      unfold wpX9_sends_L129 at h
      refine lv_iload hx hb dX9_sends_129 (lv_at hl 5 rfl) ?_
      refine lv_aload_n hx hb dX9_sends_131 rfl (lv_at hl 0 rfl) ?_
      refine g_getr hx hb hB inB9 hown hK hH (c0 := 0) h0.1 rfl 70 (by decide) k192 rfl (c1 := 61) rfl dX9_sends_132 ?_
      refine lv_iload hx hb dX9_sends_135 (lv_at hl 4 rfl) ?_
      obtain ⟨hi18, h⟩ := h
      refine g_iald hx hb hK hH (c0 := 61) (mA61 h0) hi18 dX9_sends_137 ?_
      refine lv_icmp_ge (tgt := 174) hx hb dX9_sends_138 (by decide) (fun q19 => ?_) (fun q19 => ?_)
      · replace h := h.1 q19
        refine lv_iload_n hx hb dX9_sends_174 rfl (lv_at hl 2 rfl) ?_
        refine lv_if_eq (tgt := 188) hx hb dX9_sends_175 (by decide) (fun q20 => ?_) (fun q20 => ?_)
        · replace h := h.1 q20
          exact L188 x1 x3 x4 x5 σ _ _ ls hH (lv_sub hl [0, 1, 2, 3, 4] rfl) h
        · replace h := h.2 q20
          refine lv_aload_n hx hb dX9_sends_178 rfl (lv_at hl 0 rfl) ?_
          refine lv_dup hx hb dX9_sends_179 rfl ?_
          refine g_geti hx hb hB inB9 hown hK hH (c0 := 0) h0.1 rfl 5 (by decide) k372 rfl rfl dX9_sends_180 ?_
          refine lv_iconst (v := 1) hx hb dX9_sends_183 (by decide) ?_
          refine lv_iadd hx hb dX9_sends_184 ?_
          refine g_put hx hb hB inB9 tyX9 tyX9_ok nmX9 hown hK hH (c0 := 0) h0.1 rfl 5 (by decide) k372 rfl rfl rfl rfl rfl dX9_sends_185 (fun σ21 eσ21 H locs hH => ?_)
          replace h := h σ21 eσ21
          exact L188 x1 x3 x4 x5 σ21 _ _ ls hH (lv_sub hl [0, 1, 2, 3, 4] rfl) h
      · replace h := h.2 q19
        refine lv_aload_n hx hb dX9_sends_141 rfl (lv_at hl 0 rfl) ?_
        refine g_getr hx hb hB inB9 hown hK hH (c0 := 0) h0.1 rfl 74 (by decide) k204 rfl (c1 := 65) rfl dX9_sends_142 ?_
        refine lv_sipush (v := 250) hx hb dX9_sends_145 (by decide) ?_
        refine lv_iload_n hx hb dX9_sends_148 rfl (lv_at hl 1 rfl) ?_
        refine lv_imul hx hb dX9_sends_149 ?_
        refine lv_iload hx hb dX9_sends_150 (lv_at hl 5 rfl) ?_
        refine lv_iadd hx hb dX9_sends_152 ?_
        refine lv_aload_n hx hb dX9_sends_153 rfl (lv_at hl 0 rfl) ?_
        refine g_getr hx hb hB inB9 hown hK hH (c0 := 0) h0.1 rfl 71 (by decide) k195 rfl (c1 := 62) rfl dX9_sends_154 ?_
        refine lv_sipush (v := 250) hx hb dX9_sends_157 (by decide) ?_
        refine lv_iload hx hb dX9_sends_160 (lv_at hl 4 rfl) ?_
        refine lv_imul hx hb dX9_sends_162 ?_
        refine lv_iload hx hb dX9_sends_163 (lv_at hl 5 rfl) ?_
        refine lv_iadd hx hb dX9_sends_165 ?_
        obtain ⟨hi22, h⟩ := h
        refine g_iald hx hb hK hH (c0 := 62) (mA62 h0) hi22 dX9_sends_166 ?_
        obtain ⟨hi23, h⟩ := h
        refine g_iast hx hb hK hH (c0 := 65) (i := (250 * x1) + x6) (mA65 h0) hi23 dX9_sends_167 (fun σ23 eσ23 H locs hH => ?_)
        replace h := h σ23 eσ23
        obtain ⟨x6_24, ex6_24⟩ : ∃ y : Int32, y = x6 + 1 := ⟨_, rfl⟩
        replace h := h x6_24 ex6_24
        refine lv_iinc (v := x6_24) (lv' := [(6, .int x6_24), (0, .ref (ga G 0)), (1, .int x1), (3, .int x3), (4, .int x4), (5, .int x5)]) hx hb dX9_sends_168 hl (k := 5) rfl (by rw [ex6_24]; rfl) (by decide) rfl (fun ls hl => ?_)
        refine lv_goto (tgt := 129) hx hb dX9_sends_171 (by decide) ?_
        exact ih129 x1 x3 x4 x5 x6_24 σ23 _ _ ls hH (lv_sub hl [1, 2, 3, 4, 5, 0] rfl) h
  have L92 : ∀ (x1 : Int32) (x3 : Int32) (x4 : Int32) (x5 : Int32) (σ : Sg) (H : Heap) (locs : List Loc) (ls : Array Slot), Hx G (aA G s.heap.size) s σ H locs → lv_has ls 8 [(0, .ref (ga G 0)), (1, .int x1), (3, .int x3), (4, .int x4), (5, .int x5)] → wpX9_sends_L92 Q x1 x3 x4 x5 σ → W p l e ({ frames := 7, cells := 0, slots := 0, locals := 182 }) s m args below meth c H locs 0 0 (Zi G Q below args s) (F0 m 92 ls []) := by
    intro x1 x3 x4 x5 σ H locs ls hH hl h
    unfold wpX9_sends_L92 at h
    refine lv_aload_n hx hb dX9_sends_92 rfl (lv_at hl 0 rfl) ?_
    refine g_getr hx hb hB inB9 hown hK hH (c0 := 0) h0.1 rfl 69 (by decide) k189 rfl (c1 := 60) rfl dX9_sends_93 ?_
    refine lv_iload hx hb dX9_sends_96 (lv_at hl 4 rfl) ?_
    refine lv_dup2_11 hx hb dX9_sends_98 rfl rfl ?_
    obtain ⟨hi9, h⟩ := h
    refine g_iald hx hb hK hH (c0 := 60) (mA60 h0) hi9 dX9_sends_99 ?_
    refine lv_iconst (v := 1) hx hb dX9_sends_100 (by decide) ?_
    refine lv_iadd hx hb dX9_sends_101 ?_
    obtain ⟨hi10, h⟩ := h
    refine g_iast hx hb hK hH (c0 := 60) (i := x5) (mA60 h0) hi10 dX9_sends_102 (fun σ10 eσ10 H locs hH => ?_)
    replace h := h σ10 eσ10
    refine lv_aload_n hx hb dX9_sends_103 rfl (lv_at hl 0 rfl) ?_
    refine lv_dup hx hb dX9_sends_104 rfl ?_
    refine g_geti hx hb hB inB9 hown hK hH (c0 := 0) h0.1 rfl 4 (by decide) k369 rfl rfl dX9_sends_105 ?_
    refine lv_iconst (v := 1) hx hb dX9_sends_108 (by decide) ?_
    refine lv_iadd hx hb dX9_sends_109 ?_
    refine g_put hx hb hB inB9 tyX9 tyX9_ok nmX9 hown hK hH (c0 := 0) h0.1 rfl 4 (by decide) k369 rfl rfl rfl rfl rfl dX9_sends_110 (fun σ11 eσ11 H locs hH => ?_)
    replace h := h σ11 eσ11
    refine lv_aload_n hx hb dX9_sends_113 rfl (lv_at hl 0 rfl) ?_
    refine g_getr hx hb hB inB9 hown hK hH (c0 := 0) h0.1 rfl 73 (by decide) k201 rfl (c1 := 64) rfl dX9_sends_114 ?_
    refine lv_iload_n hx hb dX9_sends_117 rfl (lv_at hl 1 rfl) ?_
    refine lv_aload_n hx hb dX9_sends_118 rfl (lv_at hl 0 rfl) ?_
    refine g_getr hx hb hB inB9 hown hK hH (c0 := 0) h0.1 rfl 70 (by decide) k192 rfl (c1 := 61) rfl dX9_sends_119 ?_
    refine lv_iload hx hb dX9_sends_122 (lv_at hl 4 rfl) ?_
    obtain ⟨hi12, h⟩ := h
    refine g_iald hx hb hK hH (c0 := 61) (mA61 h0) hi12 dX9_sends_124 ?_
    obtain ⟨hi13, h⟩ := h
    refine g_iast hx hb hK hH (c0 := 64) (i := x1) (mA64 h0) hi13 dX9_sends_125 (fun σ13 eσ13 H locs hH => ?_)
    replace h := h σ13 eσ13
    refine lv_iconst (v := 0) hx hb dX9_sends_126 (by decide) ?_
    refine lv_istore (lv' := [(6, .int 0), (0, .ref (ga G 0)), (1, .int x1), (3, .int x3), (4, .int x4), (5, .int x5)]) hx hb dX9_sends_127 hl (by decide) rfl (fun ls hl => ?_)
    obtain ⟨nn, h⟩ := h
    exact L129 nn x1 x3 x4 x5 0 σ13 _ _ ls hH (lv_sub hl [1, 2, 3, 4, 5, 0] rfl) h
  have L59 : ∀ (n59 : Nat) (x1 : Int32) (x2 : Int32) (x3 : Int32) (x4 : Int32) (x5 : Int32) (x6 : Int32) (σ : Sg) (H : Heap) (locs : List Loc) (ls : Array Slot), Hx G (aA G s.heap.size) s σ H locs → lv_has ls 8 [(0, .ref (ga G 0)), (1, .int x1), (2, .int x2), (3, .int x3), (4, .int x4), (5, .int x5), (6, .int x6)] → wpX9_sends_L59 Q n59 x1 x2 x3 x4 x5 x6 σ → W p l e ({ frames := 7, cells := 0, slots := 0, locals := 182 }) s m args below meth c H locs 0 0 (Zi G Q below args s) (F0 m 59 ls []) := by
    intro n59
    induction n59 with
    | zero =>
      intro x1 x2 x3 x4 x5 x6 σ H locs ls hH hl h
      exact False.elim h
    | succ n59 ih59 =>
      intro x1 x2 x3 x4 x5 x6 σ H locs ls hH hl h
      unfold wpX9_sends_L59 at h
      refine lv_iload hx hb dX9_sends_59 (lv_at hl 6 rfl) ?_
      refine lv_iload_n hx hb dX9_sends_61 rfl (lv_at hl 2 rfl) ?_
      refine lv_icmp_ge (tgt := 92) hx hb dX9_sends_62 (by decide) (fun q14 => ?_) (fun q14 => ?_)
      · replace h := h.1 q14
        exact L92 x1 x3 x4 x5 σ _ _ ls hH (lv_sub hl [0, 1, 3, 4, 5] rfl) h
      · replace h := h.2 q14
        refine lv_aload_n hx hb dX9_sends_65 rfl (lv_at hl 0 rfl) ?_
        refine g_getr hx hb hB inB9 hown hK hH (c0 := 0) h0.1 rfl 71 (by decide) k195 rfl (c1 := 62) rfl dX9_sends_66 ?_
        refine lv_sipush (v := 250) hx hb dX9_sends_69 (by decide) ?_
        refine lv_iload hx hb dX9_sends_72 (lv_at hl 5 rfl) ?_
        refine lv_imul hx hb dX9_sends_74 ?_
        refine lv_iload hx hb dX9_sends_75 (lv_at hl 6 rfl) ?_
        refine lv_iadd hx hb dX9_sends_77 ?_
        refine lv_aload_n hx hb dX9_sends_78 rfl (lv_at hl 0 rfl) ?_
        refine g_getr hx hb hB inB9 hown hK hH (c0 := 0) h0.1 rfl 81 (by decide) k225 rfl (c1 := 72) rfl dX9_sends_79 ?_
        refine lv_iload hx hb dX9_sends_82 (lv_at hl 6 rfl) ?_
        obtain ⟨hi15, h⟩ := h
        refine g_iald hx hb hK hH (c0 := 72) (mA72 h0) hi15 dX9_sends_84 ?_
        obtain ⟨hi16, h⟩ := h
        refine g_iast hx hb hK hH (c0 := 62) (i := (250 * x5) + x6) (mA62 h0) hi16 dX9_sends_85 (fun σ16 eσ16 H locs hH => ?_)
        replace h := h σ16 eσ16
        obtain ⟨x6_17, ex6_17⟩ : ∃ y : Int32, y = x6 + 1 := ⟨_, rfl⟩
        replace h := h x6_17 ex6_17
        refine lv_iinc (v := x6_17) (lv' := [(6, .int x6_17), (0, .ref (ga G 0)), (1, .int x1), (2, .int x2), (3, .int x3), (4, .int x4), (5, .int x5)]) hx hb dX9_sends_86 hl (k := 6) rfl (by rw [ex6_17]; rfl) (by decide) rfl (fun ls hl => ?_)
        refine lv_goto (tgt := 59) hx hb dX9_sends_89 (by decide) ?_
        exact ih59 x1 x2 x3 x4 x5 x6_17 σ16 _ _ ls hH (lv_sub hl [1, 2, 3, 4, 5, 6, 0] rfl) h
  unfold wpX9_sends at h
  refine lv_iconst (v := 4) hx hb dX9_sends_0 (by decide) ?_
  refine lv_iload_n hx hb dX9_sends_1 rfl (lv_at hl 1 rfl) ?_
  refine lv_imul hx hb dX9_sends_2 ?_
  refine lv_aload_n hx hb dX9_sends_3 rfl (lv_at hl 0 rfl) ?_
  refine g_geti hx hb hB inB9 hown hK hH (c0 := 0) h0.1 rfl 2 (by decide) k363 rfl rfl dX9_sends_4 ?_
  refine lv_iconst (v := 3) hx hb dX9_sends_7 (by decide) ?_
  refine lv_iand hx hb dX9_sends_8 ?_
  refine lv_iadd hx hb dX9_sends_9 ?_
  refine lv_topi (fun x5_1 ex5_1 => ?_)
  replace h := h x5_1 ex5_1
  refine lv_istore (lv' := [(5, .int x5_1), (0, .ref (ga G 0)), (1, .int x1), (2, .int x2), (3, .int x3), (4, .int x4)]) hx hb dX9_sends_10 hl (by decide) rfl (fun ls hl => ?_)
  refine lv_aload_n hx hb dX9_sends_12 rfl (lv_at hl 1 rfl) ?_
  refine g_getr hx hb hB inB9 hown hK hH (c0 := 0) h0.1 rfl 73 (by decide) k201 rfl (c1 := 64) rfl dX9_sends_13 ?_
  refine lv_iload_n hx hb dX9_sends_16 rfl (lv_at hl 2 rfl) ?_
  refine lv_iconst (v := (-1)) hx hb dX9_sends_17 (by decide) ?_
  obtain ⟨hi2, h⟩ := h
  refine g_iast hx hb hK hH (c0 := 64) (i := x1) (mA64 h0) hi2 dX9_sends_18 (fun σ2 eσ2 H locs hH => ?_)
  replace h := h σ2 eσ2
  refine lv_aload_n hx hb dX9_sends_19 rfl (lv_at hl 1 rfl) ?_
  refine g_getr hx hb hB inB9 hown hK hH (c0 := 0) h0.1 rfl 69 (by decide) k189 rfl (c1 := 60) rfl dX9_sends_20 ?_
  refine lv_iload hx hb dX9_sends_23 (lv_at hl 0 rfl) ?_
  obtain ⟨hi3, h⟩ := h
  refine g_iald hx hb hK hH (c0 := 60) (mA60 h0) hi3 dX9_sends_25 ?_
  refine lv_if_ne (tgt := 92) hx hb dX9_sends_26 (by decide) (fun q4 => ?_) (fun q4 => ?_)
  · replace h := h.1 q4
    exact L92 x1 x3 x4 x5_1 σ2 _ _ ls hH (lv_sub hl [1, 2, 4, 5, 0] rfl) h
  · replace h := h.2 q4
    refine lv_aload_n hx hb dX9_sends_29 rfl (lv_at hl 1 rfl) ?_
    refine lv_iload_n hx hb dX9_sends_30 rfl (lv_at hl 2 rfl) ?_
    refine lv_iload_n hx hb dX9_sends_31 rfl (lv_at hl 3 rfl) ?_
    refine g_callVi (As := [.int x1, .int x2]) (rest := []) ⟨hx, hb, hml, hown, hB⟩ hK hX aA_hA hH (c0 := 0) (tX9_lay h0 h) (cwV 2 hB gVX9_366 rfl rfl rfl (by decide +kernel) ⟨Nat.le_of_ble_eq_true rfl, Nat.le_of_ble_eq_true rfl⟩) h0.1 rfl rfl hl.1 rfl (lv_room (Nat.le_of_ble_eq_true rfl)) ⟨Nat.zero_le _, Nat.zero_le _⟩ dX9_sends_32 (fun r5 σ5 H locs h hH => ?_)
    refine lv_if_ne (tgt := 40) hx hb dX9_sends_35 (by decide) (fun q6 => ?_) (fun q6 => ?_)
    · replace h := h.1 q6
      refine lv_aload_n hx hb dX9_sends_40 rfl (lv_at hl 1 rfl) ?_
      refine g_getr hx hb hB inB9 hown hK hH (c0 := 0) h0.1 rfl 70 (by decide) k192 rfl (c1 := 61) rfl dX9_sends_41 ?_
      refine lv_iload hx hb dX9_sends_44 (lv_at hl 0 rfl) ?_
      refine lv_iload_n hx hb dX9_sends_46 rfl (lv_at hl 3 rfl) ?_
      obtain ⟨hi7, h⟩ := h
      refine g_iast hx hb hK hH (c0 := 61) (i := x5_1) (mA61 h0) hi7 dX9_sends_47 (fun σ7 eσ7 H locs hH => ?_)
      replace h := h σ7 eσ7
      refine lv_aload_n hx hb dX9_sends_48 rfl (lv_at hl 1 rfl) ?_
      refine g_getr hx hb hB inB9 hown hK hH (c0 := 0) h0.1 rfl 72 (by decide) k198 rfl (c1 := 63) rfl dX9_sends_49 ?_
      refine lv_iload hx hb dX9_sends_52 (lv_at hl 0 rfl) ?_
      refine lv_iconst (v := 0) hx hb dX9_sends_54 (by decide) ?_
      obtain ⟨hi8, h⟩ := h
      refine g_zast hx hb hK hH (c0 := 63) (i := x5_1) (mA63 h0) vz0 hi8 dX9_sends_55 (fun σ8 eσ8 H locs hH => ?_)
      replace h := h σ8 eσ8
      refine lv_iconst (v := 0) hx hb dX9_sends_56 (by decide) ?_
      refine lv_istore (lv' := [(6, .int 0), (5, .int x5_1), (0, .ref (ga G 0)), (1, .int x1), (2, .int x2), (3, .int x3), (4, .int x4)]) hx hb dX9_sends_57 hl (by decide) rfl (fun ls hl => ?_)
      obtain ⟨nn, h⟩ := h
      exact L59 nn x1 x2 x3 x4 x5_1 0 σ8 _ _ ls hH (lv_sub hl [2, 3, 4, 5, 6, 1, 0] rfl) h
    · replace h := h.2 q6
      refine lv_iconst (v := 0) hx hb dX9_sends_38 (by decide) ?_
      exact g_iret hx hb hr hK hlk h hH dX9_sends_39
def wpX9_tick_L390 (Q : Int32 → Sg → Prop) (x5 : Int32) (z0 : Int32) (z1 : Int32) (σ : Sg) : Prop := ((¬ x5 = 2 → Q ((z1 + z0) + 0) σ) ∧ (x5 = 2 → Q ((z1 + z0) + 8) σ))
def wpX9_tick_L378 (Q : Int32 → Sg → Prop) (x4 : Int32) (x5 : Int32) (z0 : Int32) (z1 : Int32) (σ : Sg) : Prop := ((¬ x4 = 2 → wpX9_tick_L390 Q x5 0 (z1 + z0) σ) ∧ (x4 = 2 → wpX9_tick_L390 Q x5 4 (z1 + z0) σ))
def wpX9_tick_L368 (Q : Int32 → Sg → Prop) (x4 : Int32) (x5 : Int32) (z0 : Int32) (σ : Sg) : Prop := ((x5 ≤ 0 → wpX9_tick_L378 Q x4 x5 0 z0 σ) ∧ (¬ (x5 ≤ 0) → wpX9_tick_L378 Q x4 x5 2 z0 σ))
def wpX9_tick_L353 (Q : Int32 → Sg → Prop) (x4 : Int32) (z0 : Int32) (z1 : Int32) (z2 : Int32) (z3 : Int32) (σ : Sg) : Prop := wpX9_sends z3 z2 z1 z0 σ (fun r49 σ49 => ((x4 ≤ 0 → wpX9_tick_L368 Q x4 r49 0 σ49) ∧ (¬ (x4 ≤ 0) → wpX9_tick_L368 Q x4 r49 1 σ49)))
def wpX9_tick_L341 (Q : Int32 → Sg → Prop) (x3 : Int32) (x4 : Int32) (z0 : Int32) (z1 : Int32) (z2 : Int32) (σ : Sg) : Prop := (((x3 &&& 8) = 0 → wpX9_tick_L353 Q x4 0 z0 z1 z2 σ) ∧ (¬ ((x3 &&& 8) = 0) → wpX9_tick_L353 Q x4 1 z0 z1 z2 σ))
def wpX9_tick_L322 (Q : Int32 → Sg → Prop) (x2 : Int32) (x3 : Int32) (z0 : Int32) (z1 : Int32) (z2 : Int32) (z3 : Int32) (σ : Sg) : Prop := wpX9_sends z3 z2 z1 z0 σ (fun r44 σ44 => (((x3 &&& 2) = 0 → wpX9_tick_L341 Q x3 r44 0 x2 1 σ44) ∧ (¬ ((x3 &&& 2) = 0) → wpX9_tick_L341 Q x3 r44 1 x2 1 σ44)))
def wpX9_tick_L311 (Q : Int32 → Sg → Prop) (x2 : Int32) (x3 : Int32) (z0 : Int32) (z1 : Int32) (z2 : Int32) (σ : Sg) : Prop := (((x3 &&& 4) = 0 → wpX9_tick_L322 Q x2 x3 0 z0 z1 z2 σ) ∧ (¬ ((x3 &&& 4) = 0) → wpX9_tick_L322 Q x2 x3 1 z0 z1 z2 σ))
def wpX9_tick_L285 (Q : Int32 → Sg → Prop) (K188 : Int32 → Int32 → Int32 → Int32 → Sg → Prop) (K197 : Int32 → Int32 → Int32 → Int32 → Int32 → Sg → Prop) (x1 : Int32) (x2 : Int32) (x3 : Int32) (x4 : Int32) (x5 : Int32) (σ : Sg) : Prop := ∀ x5_46 : Int32, x5_46 = x5 + 1 → K197 x1 x2 x3 x4 x5_46 σ
def wpX9_tick_L284 (Q : Int32 → Sg → Prop) (K188 : Int32 → Int32 → Int32 → Int32 → Sg → Prop) (K197 : Int32 → Int32 → Int32 → Int32 → Int32 → Sg → Prop) (x1 : Int32) (x2 : Int32) (x3 : Int32) (x4 : Int32) (x5 : Int32) (z0 : Int32) (z1 : Int32) (y2 : Nat) (σ : Sg) : Prop := (vp_in z1 6 ∧ ∀ σ47 : Sg, σ47 = up2 σ y2 z1.toNatClampNeg z0 → wpX9_tick_L285 Q K188 K197 x1 x2 x3 x4 x5 σ47)
def wpX9_tick_L197 (Q : Int32 → Sg → Prop) (K188 : Int32 → Int32 → Int32 → Int32 → Sg → Prop) : Nat → Int32 → Int32 → Int32 → Int32 → Int32 → Sg → Prop
  | 0, _, _, _, _, _, _ => False
  | n + 1, x1, x2, x3, x4, x5, σ => (((σ 0 0) ≤ x5 → ∀ x4_32 : Int32, x4_32 = x4 + 1 → K188 x1 x2 x3 x4_32 σ) ∧ (¬ ((σ 0 0) ≤ x5) → wpX9_at x4 x5 σ (fun r33 σ33 => (vp_in x5 3 ∧ ∀ x7_35 : Int32, x7_35 = 5 * (σ33 14 x5.toNatClampNeg) → (vp_in r33 6 ∧ ((x7_35 ≤ (σ33 8 r33.toNatClampNeg) → wpX9_tick_L285 Q K188 (wpX9_tick_L197 Q K188 n) x1 x2 x3 x4 x5 σ33) ∧ (¬ (x7_35 ≤ (σ33 8 r33.toNatClampNeg)) → (vp_in r33 6 ∧ (vp_in x5 3 ∧ ((x7_35 ≤ ((σ33 8 r33.toNatClampNeg) + (σ33 14 x5.toNatClampNeg)) → wpX9_tick_L284 Q K188 (wpX9_tick_L197 Q K188 n) x1 x2 x3 x4 x5 x7_35 r33 8 σ33) ∧ (¬ (x7_35 ≤ ((σ33 8 r33.toNatClampNeg) + (σ33 14 x5.toNatClampNeg))) → (vp_in r33 6 ∧ (vp_in x5 3 ∧ wpX9_tick_L284 Q K188 (wpX9_tick_L197 Q K188 n) x1 x2 x3 x4 x5 ((σ33 8 r33.toNatClampNeg) + (σ33 14 x5.toNatClampNeg)) r33 8 σ33)))))))))))))
def wpX9_tick_L188 (Q : Int32 → Sg → Prop) : Nat → Int32 → Int32 → Int32 → Int32 → Sg → Prop
  | 0, _, _, _, _, _ => False
  | n + 1, x1, x2, x3, x4, σ => ((2 ≤ x4 → (((x3 &&& 1) = 0 → wpX9_tick_L311 Q x2 x3 0 x1 0 σ) ∧ (¬ ((x3 &&& 1) = 0) → wpX9_tick_L311 Q x2 x3 1 x1 0 σ))) ∧ (¬ (2 ≤ x4) → ∃ nn, wpX9_tick_L197 Q (wpX9_tick_L188 Q n) nn x1 x2 x3 x4 0 σ))
def wpX9_tick_L173 (Q : Int32 → Sg → Prop) (K81 : Int32 → Int32 → Int32 → Int32 → Sg → Prop) (K90 : Int32 → Int32 → Int32 → Int32 → Int32 → Sg → Prop) (x1 : Int32) (x2 : Int32) (x3 : Int32) (x4 : Int32) (x5 : Int32) (σ : Sg) : Prop := ∀ x5_43 : Int32, x5_43 = x5 + 1 → K90 x1 x2 x3 x4 x5_43 σ
def wpX9_tick_L90 (Q : Int32 → Sg → Prop) (K81 : Int32 → Int32 → Int32 → Int32 → Sg → Prop) : Nat → Int32 → Int32 → Int32 → Int32 → Int32 → Sg → Prop
  | 0, _, _, _, _, _, _ => False
  | n + 1, x1, x2, x3, x4, x5, σ => (((σ 0 0) ≤ x5 → ∀ x4_16 : Int32, x4_16 = x4 + 1 → K81 x1 x2 x3 x4_16 σ) ∧ (¬ ((σ 0 0) ≤ x5) → wpX9_at x4 x5 σ (fun r17 σ17 => (vp_in r17 6 ∧ ((¬ (σ17 13 r17.toNatClampNeg) = 0 → wpX9_tick_L173 Q K81 (wpX9_tick_L90 Q K81 n) x1 x2 x3 x4 x5 σ17) ∧ ((σ17 13 r17.toNatClampNeg) = 0 → (vp_in r17 6 ∧ ((¬ (σ17 5 r17.toNatClampNeg) = 0 → wpX9_tick_L173 Q K81 (wpX9_tick_L90 Q K81 n) x1 x2 x3 x4 x5 σ17) ∧ ((σ17 5 r17.toNatClampNeg) = 0 → (vp_in r17 6 ∧ (vp_in r17 6 ∧ (((σ17 4 r17.toNatClampNeg) ≤ (σ17 3 r17.toNatClampNeg) → wpX9_tick_L173 Q K81 (wpX9_tick_L90 Q K81 n) x1 x2 x3 x4 x5 σ17) ∧ (¬ ((σ17 4 r17.toNatClampNeg) ≤ (σ17 3 r17.toNatClampNeg)) → (vp_in r17 6 ∧ ((¬ (σ17 22 r17.toNatClampNeg) = 0 → wpX9_tick_L173 Q K81 (wpX9_tick_L90 Q K81 n) x1 x2 x3 x4 x5 σ17) ∧ ((σ17 22 r17.toNatClampNeg) = 0 → wpX9_allAgain r17 σ17 (fun r27 σ27 => ((¬ r27 = 0 → wpX9_tick_L173 Q K81 (wpX9_tick_L90 Q K81 n) x1 x2 x3 x4 x5 σ27) ∧ (r27 = 0 → (vp_in r17 6 ∧ ∀ σ29 : Sg, σ29 = up2 σ27 5 r17.toNatClampNeg 10 → wpX9_tick_L173 Q K81 (wpX9_tick_L90 Q K81 n) x1 x2 x3 x4 x5 σ29))))))))))))))))))))
def wpX9_tick_L81 (Q : Int32 → Sg → Prop) : Nat → Int32 → Int32 → Int32 → Int32 → Sg → Prop
  | 0, _, _, _, _, _ => False
  | n + 1, x1, x2, x3, x4, σ => ((2 ≤ x4 → ∃ nn, wpX9_tick_L188 Q nn x1 x2 x3 0 σ) ∧ (¬ (2 ≤ x4) → ∃ nn, wpX9_tick_L90 Q (wpX9_tick_L81 Q n) nn x1 x2 x3 x4 0 σ))
def wpX9_tick_L46 (Q : Int32 → Sg → Prop) (K37 : Int32 → Int32 → Int32 → Int32 → Sg → Prop) : Nat → Int32 → Int32 → Int32 → Int32 → Int32 → Sg → Prop
  | 0, _, _, _, _, _, _ => False
  | n + 1, x1, x2, x3, x4, x5, σ => (((σ 0 0) ≤ x5 → ∀ x4_9 : Int32, x4_9 = x4 + 1 → K37 x1 x2 x3 x4_9 σ) ∧ (¬ ((σ 0 0) ≤ x5) → wpX9_at x4 x5 σ (fun r10 σ10 => wpX9_timers r10 σ10 (fun σ11 => ∀ x5_12 : Int32, x5_12 = x5 + 1 → (wpX9_tick_L46 Q K37 n) x1 x2 x3 x4 x5_12 σ11))))
def wpX9_tick_L37 (Q : Int32 → Sg → Prop) : Nat → Int32 → Int32 → Int32 → Int32 → Sg → Prop
  | 0, _, _, _, _, _ => False
  | n + 1, x1, x2, x3, x4, σ => ((2 ≤ x4 → ∃ nn, wpX9_tick_L81 Q nn x1 x2 x3 0 σ) ∧ (¬ (2 ≤ x4) → ∃ nn, wpX9_tick_L46 Q (wpX9_tick_L37 Q n) nn x1 x2 x3 x4 0 σ))
def wpX9_tick (x1 : Int32) (x2 : Int32) (x3 : Int32) (σ : Sg) (Q : Int32 → Sg → Prop) : Prop := ((x1 < 0 → Q (-1) σ) ∧ (¬ (x1 < 0) → ((250 < x1 → Q (-1) σ) ∧ (¬ (250 < x1) → ((x2 < 0 → Q (-1) σ) ∧ (¬ (x2 < 0) → ((x2 ≤ 250 → ∀ σ5 : Sg, σ5 = up2 σ 0 2 ((σ 0 2) + 1) → ∃ nn, wpX9_tick_L37 Q nn x1 x2 x3 0 σ5) ∧ (¬ (x2 ≤ 250) → Q (-1) σ))))))))
set_option maxHeartbeats 8000000 in
set_option maxRecDepth 100000 in
theorem tX9_tick {l : Launch} {G : GG} {x1 : Int32} {x2 : Int32} {x3 : Int32} {σ : Sg} {Q : Int32 → Sg → Prop} (h0 : isModel G) (h : wpX9_tick x1 x2 x3 σ Q) : Ki l G yX9_tick (wB yX9_tick prog_11_method_48_code 8 (Option.some FieldType.int)) ({ frames := 8, cells := 0, slots := 0, locals := 209 }) [.ref (ga G 0), .int x1, .int x2, .int x3] σ Q := by
  refine K_of (cc := cX9_tick) (maxL := 8) (ret := (some .int)) (by decide) rfl (Nat.le_of_ble_eq_true rfl) ?_
  intro p e s m args below meth c ls B hH hl
  obtain ⟨hx, hb, hr, hts, hown, hlk, hml, hK, hX⟩ := B
  replace hl : lv_has ls 8 [(0, .ref (ga G 0)), (1, .int x1), (2, .int x2), (3, .int x3)] := hl
  have hB : ∀ w ∈ BIG, w.before args s = true := fun w h9 => hts w (List.mem_cons_of_mem _ h9)
  clear hts
  have k16 := hB _ bw4_122
  have k19 := hB _ bw4_123
  have k22 := hB _ bw4_124
  have k31 := hB _ bw4_127
  have k47 := hB _ bw4_132
  have k50 := hB _ bw4_133
  have k74 := hB _ bw4_141
  have k228 := hB _ bw4_110
  have k363 := hB _ bw4_112
  have L390 : ∀ (x5 : Int32) (z0 : Int32) (z1 : Int32) (σ : Sg) (H : Heap) (locs : List Loc) (ls : Array Slot), Hx G (aA G s.heap.size) s σ H locs → lv_has ls 8 [(5, .int x5)] → wpX9_tick_L390 Q x5 z0 z1 σ → W p l e ({ frames := 8, cells := 0, slots := 0, locals := 209 }) s m args below meth c H locs 0 0 (Zi G Q below args s) (F0 m 390 ls [.int z0, .int z1]) := by
    intro x5 z0 z1 σ H locs ls hH hl h
    unfold wpX9_tick_L390 at h
    refine lv_iadd hx hb dX9_tick_390 ?_
    refine lv_iload hx hb dX9_tick_391 (lv_at hl 0 rfl) ?_
    refine lv_iconst (v := 2) hx hb dX9_tick_393 (by decide) ?_
    refine lv_icmp_ne (tgt := 402) hx hb dX9_tick_394 (by decide) (fun q53 => ?_) (fun q53 => ?_)
    · replace h := h.1 q53
      refine lv_iconst (v := 0) hx hb dX9_tick_402 (by decide) ?_
      refine lv_iadd hx hb dX9_tick_403 ?_
      exact g_iret hx hb hr hK hlk h hH dX9_tick_404
    · replace h := h.2 q53
      refine lv_bipush (v := 8) hx hb dX9_tick_397 (by decide) ?_
      refine lv_goto (tgt := 403) hx hb dX9_tick_399 (by decide) ?_
      refine lv_iadd hx hb dX9_tick_403 ?_
      exact g_iret hx hb hr hK hlk h hH dX9_tick_404
  have L378 : ∀ (x4 : Int32) (x5 : Int32) (z0 : Int32) (z1 : Int32) (σ : Sg) (H : Heap) (locs : List Loc) (ls : Array Slot), Hx G (aA G s.heap.size) s σ H locs → lv_has ls 8 [(4, .int x4), (5, .int x5)] → wpX9_tick_L378 Q x4 x5 z0 z1 σ → W p l e ({ frames := 8, cells := 0, slots := 0, locals := 209 }) s m args below meth c H locs 0 0 (Zi G Q below args s) (F0 m 378 ls [.int z0, .int z1]) := by
    intro x4 x5 z0 z1 σ H locs ls hH hl h
    unfold wpX9_tick_L378 at h
    refine lv_iadd hx hb dX9_tick_378 ?_
    refine lv_iload hx hb dX9_tick_379 (lv_at hl 0 rfl) ?_
    refine lv_iconst (v := 2) hx hb dX9_tick_381 (by decide) ?_
    refine lv_icmp_ne (tgt := 389) hx hb dX9_tick_382 (by decide) (fun q52 => ?_) (fun q52 => ?_)
    · replace h := h.1 q52
      refine lv_iconst (v := 0) hx hb dX9_tick_389 (by decide) ?_
      exact L390 x5 0 (z1 + z0) σ _ _ ls hH (lv_sub hl [1] rfl) h
    · replace h := h.2 q52
      refine lv_iconst (v := 4) hx hb dX9_tick_385 (by decide) ?_
      refine lv_goto (tgt := 390) hx hb dX9_tick_386 (by decide) ?_
      exact L390 x5 4 (z1 + z0) σ _ _ ls hH (lv_sub hl [1] rfl) h
  have L368 : ∀ (x4 : Int32) (x5 : Int32) (z0 : Int32) (σ : Sg) (H : Heap) (locs : List Loc) (ls : Array Slot), Hx G (aA G s.heap.size) s σ H locs → lv_has ls 8 [(4, .int x4), (5, .int x5)] → wpX9_tick_L368 Q x4 x5 z0 σ → W p l e ({ frames := 8, cells := 0, slots := 0, locals := 209 }) s m args below meth c H locs 0 0 (Zi G Q below args s) (F0 m 368 ls [.int z0]) := by
    intro x4 x5 z0 σ H locs ls hH hl h
    unfold wpX9_tick_L368 at h
    refine lv_iload hx hb dX9_tick_368 (lv_at hl 1 rfl) ?_
    refine lv_if_le (tgt := 377) hx hb dX9_tick_370 (by decide) (fun q51 => ?_) (fun q51 => ?_)
    · replace h := h.1 q51
      refine lv_iconst (v := 0) hx hb dX9_tick_377 (by decide) ?_
      exact L378 x4 x5 0 z0 σ _ _ ls hH (lv_sub hl [0, 1] rfl) h
    · replace h := h.2 q51
      refine lv_iconst (v := 2) hx hb dX9_tick_373 (by decide) ?_
      refine lv_goto (tgt := 378) hx hb dX9_tick_374 (by decide) ?_
      exact L378 x4 x5 2 z0 σ _ _ ls hH (lv_sub hl [0, 1] rfl) h
  have L353 : ∀ (x4 : Int32) (z0 : Int32) (z1 : Int32) (z2 : Int32) (z3 : Int32) (σ : Sg) (H : Heap) (locs : List Loc) (ls : Array Slot), Hx G (aA G s.heap.size) s σ H locs → lv_has ls 8 [(4, .int x4)] → wpX9_tick_L353 Q x4 z0 z1 z2 z3 σ → W p l e ({ frames := 8, cells := 0, slots := 0, locals := 209 }) s m args below meth c H locs 0 0 (Zi G Q below args s) (F0 m 353 ls [.int z0, .int z1, .int z2, .int z3, .ref (ga G 0)]) := by
    intro x4 z0 z1 z2 z3 σ H locs ls hH hl h
    unfold wpX9_tick_L353 at h
    refine g_callVi (As := [.int z3, .int z2, .int z1, .int z0]) (rest := []) ⟨hx, hb, hml, hown, hB⟩ hK hX aA_hA hH (c0 := 0) (tX9_sends h0 h) (cwV 4 hB gVX9_398 rfl rfl rfl (by decide +kernel) ⟨Nat.le_of_ble_eq_true rfl, Nat.le_of_ble_eq_true rfl⟩) h0.1 rfl rfl hl.1 rfl (lv_room (Nat.le_of_ble_eq_true rfl)) ⟨Nat.zero_le _, Nat.zero_le _⟩ dX9_tick_353 (fun r49 σ49 H locs h hH => ?_)
    refine lv_istore (lv' := [(5, .int r49), (4, .int x4)]) hx hb dX9_tick_356 hl (by decide) rfl (fun ls hl => ?_)
    refine lv_iload hx hb dX9_tick_358 (lv_at hl 1 rfl) ?_
    refine lv_if_le (tgt := 367) hx hb dX9_tick_360 (by decide) (fun q50 => ?_) (fun q50 => ?_)
    · replace h := h.1 q50
      refine lv_iconst (v := 0) hx hb dX9_tick_367 (by decide) ?_
      exact L368 x4 r49 0 σ49 _ _ ls hH (lv_sub hl [1, 0] rfl) h
    · replace h := h.2 q50
      refine lv_iconst (v := 1) hx hb dX9_tick_363 (by decide) ?_
      refine lv_goto (tgt := 368) hx hb dX9_tick_364 (by decide) ?_
      exact L368 x4 r49 1 σ49 _ _ ls hH (lv_sub hl [1, 0] rfl) h
  have L341 : ∀ (x3 : Int32) (x4 : Int32) (z0 : Int32) (z1 : Int32) (z2 : Int32) (σ : Sg) (H : Heap) (locs : List Loc) (ls : Array Slot), Hx G (aA G s.heap.size) s σ H locs → lv_has ls 8 [(3, .int x3), (4, .int x4)] → wpX9_tick_L341 Q x3 x4 z0 z1 z2 σ → W p l e ({ frames := 8, cells := 0, slots := 0, locals := 209 }) s m args below meth c H locs 0 0 (Zi G Q below args s) (F0 m 341 ls [.int z0, .int z1, .int z2, .ref (ga G 0)]) := by
    intro x3 x4 z0 z1 z2 σ H locs ls hH hl h
    unfold wpX9_tick_L341 at h
    refine lv_iload_n hx hb dX9_tick_341 rfl (lv_at hl 0 rfl) ?_
    refine lv_bipush (v := 8) hx hb dX9_tick_342 (by decide) ?_
    refine lv_iand hx hb dX9_tick_344 ?_
    refine lv_if_eq (tgt := 352) hx hb dX9_tick_345 (by decide) (fun q48 => ?_) (fun q48 => ?_)
    · replace h := h.1 q48
      refine lv_iconst (v := 0) hx hb dX9_tick_352 (by decide) ?_
      exact L353 x4 0 z0 z1 z2 σ _ _ ls hH (lv_sub hl [1] rfl) h
    · replace h := h.2 q48
      refine lv_iconst (v := 1) hx hb dX9_tick_348 (by decide) ?_
      refine lv_goto (tgt := 353) hx hb dX9_tick_349 (by decide) ?_
      exact L353 x4 1 z0 z1 z2 σ _ _ ls hH (lv_sub hl [1] rfl) h
  have L322 : ∀ (x2 : Int32) (x3 : Int32) (z0 : Int32) (z1 : Int32) (z2 : Int32) (z3 : Int32) (σ : Sg) (H : Heap) (locs : List Loc) (ls : Array Slot), Hx G (aA G s.heap.size) s σ H locs → lv_has ls 8 [(0, .ref (ga G 0)), (2, .int x2), (3, .int x3)] → wpX9_tick_L322 Q x2 x3 z0 z1 z2 z3 σ → W p l e ({ frames := 8, cells := 0, slots := 0, locals := 209 }) s m args below meth c H locs 0 0 (Zi G Q below args s) (F0 m 322 ls [.int z0, .int z1, .int z2, .int z3, .ref (ga G 0)]) := by
    intro x2 x3 z0 z1 z2 z3 σ H locs ls hH hl h
    unfold wpX9_tick_L322 at h
    refine g_callVi (As := [.int z3, .int z2, .int z1, .int z0]) (rest := []) ⟨hx, hb, hml, hown, hB⟩ hK hX aA_hA hH (c0 := 0) (tX9_sends h0 h) (cwV 4 hB gVX9_398 rfl rfl rfl (by decide +kernel) ⟨Nat.le_of_ble_eq_true rfl, Nat.le_of_ble_eq_true rfl⟩) h0.1 rfl rfl hl.1 rfl (lv_room (Nat.le_of_ble_eq_true rfl)) ⟨Nat.zero_le _, Nat.zero_le _⟩ dX9_tick_322 (fun r44 σ44 H locs h hH => ?_)
    refine lv_istore (lv' := [(4, .int r44), (0, .ref (ga G 0)), (2, .int x2), (3, .int x3)]) hx hb dX9_tick_325 hl (by decide) rfl (fun ls hl => ?_)
    refine lv_aload_n hx hb dX9_tick_327 rfl (lv_at hl 1 rfl) ?_
    refine lv_iconst (v := 1) hx hb dX9_tick_328 (by decide) ?_
    refine lv_iload_n hx hb dX9_tick_329 rfl (lv_at hl 2 rfl) ?_
    refine lv_iload_n hx hb dX9_tick_330 rfl (lv_at hl 3 rfl) ?_
    refine lv_iconst (v := 2) hx hb dX9_tick_331 (by decide) ?_
    refine lv_iand hx hb dX9_tick_332 ?_
    refine lv_if_eq (tgt := 340) hx hb dX9_tick_333 (by decide) (fun q45 => ?_) (fun q45 => ?_)
    · replace h := h.1 q45
      refine lv_iconst (v := 0) hx hb dX9_tick_340 (by decide) ?_
      exact L341 x3 r44 0 x2 1 σ44 _ _ ls hH (lv_sub hl [3, 0] rfl) h
    · replace h := h.2 q45
      refine lv_iconst (v := 1) hx hb dX9_tick_336 (by decide) ?_
      refine lv_goto (tgt := 341) hx hb dX9_tick_337 (by decide) ?_
      exact L341 x3 r44 1 x2 1 σ44 _ _ ls hH (lv_sub hl [3, 0] rfl) h
  have L311 : ∀ (x2 : Int32) (x3 : Int32) (z0 : Int32) (z1 : Int32) (z2 : Int32) (σ : Sg) (H : Heap) (locs : List Loc) (ls : Array Slot), Hx G (aA G s.heap.size) s σ H locs → lv_has ls 8 [(0, .ref (ga G 0)), (2, .int x2), (3, .int x3)] → wpX9_tick_L311 Q x2 x3 z0 z1 z2 σ → W p l e ({ frames := 8, cells := 0, slots := 0, locals := 209 }) s m args below meth c H locs 0 0 (Zi G Q below args s) (F0 m 311 ls [.int z0, .int z1, .int z2, .ref (ga G 0)]) := by
    intro x2 x3 z0 z1 z2 σ H locs ls hH hl h
    unfold wpX9_tick_L311 at h
    refine lv_iload_n hx hb dX9_tick_311 rfl (lv_at hl 2 rfl) ?_
    refine lv_iconst (v := 4) hx hb dX9_tick_312 (by decide) ?_
    refine lv_iand hx hb dX9_tick_313 ?_
    refine lv_if_eq (tgt := 321) hx hb dX9_tick_314 (by decide) (fun q30 => ?_) (fun q30 => ?_)
    · replace h := h.1 q30
      refine lv_iconst (v := 0) hx hb dX9_tick_321 (by decide) ?_
      exact L322 x2 x3 0 z0 z1 z2 σ _ _ ls hH (lv_sub hl [0, 1, 2] rfl) h
    · replace h := h.2 q30
      refine lv_iconst (v := 1) hx hb dX9_tick_317 (by decide) ?_
      refine lv_goto (tgt := 322) hx hb dX9_tick_318 (by decide) ?_
      exact L322 x2 x3 1 z0 z1 z2 σ _ _ ls hH (lv_sub hl [0, 1, 2] rfl) h
  have L188 : ∀ (n188 : Nat) (x1 : Int32) (x2 : Int32) (x3 : Int32) (x4 : Int32) (σ : Sg) (H : Heap) (locs : List Loc) (ls : Array Slot), Hx G (aA G s.heap.size) s σ H locs → lv_has ls 8 [(0, .ref (ga G 0)), (1, .int x1), (2, .int x2), (3, .int x3), (4, .int x4)] → wpX9_tick_L188 Q n188 x1 x2 x3 x4 σ → W p l e ({ frames := 8, cells := 0, slots := 0, locals := 209 }) s m args below meth c H locs 0 0 (Zi G Q below args s) (F0 m 188 ls []) := by
    intro n188
    induction n188 with
    | zero =>
      intro x1 x2 x3 x4 σ H locs ls hH hl h
      exact False.elim h
    | succ n188 ih188 =>
      have L197 : ∀ (n197 : Nat) (x1 : Int32) (x2 : Int32) (x3 : Int32) (x4 : Int32) (x5 : Int32) (σ : Sg) (H : Heap) (locs : List Loc) (ls : Array Slot), Hx G (aA G s.heap.size) s σ H locs → lv_has ls 8 [(0, .ref (ga G 0)), (1, .int x1), (2, .int x2), (3, .int x3), (4, .int x4), (5, .int x5)] → wpX9_tick_L197 Q (wpX9_tick_L188 Q n188) n197 x1 x2 x3 x4 x5 σ → W p l e ({ frames := 8, cells := 0, slots := 0, locals := 209 }) s m args below meth c H locs 0 0 (Zi G Q below args s) (F0 m 197 ls []) := by
        intro n197
        induction n197 with
        | zero =>
          intro x1 x2 x3 x4 x5 σ H locs ls hH hl h
          exact False.elim h
        | succ n197 ih197 =>
          have L285 : ∀ (x1 : Int32) (x2 : Int32) (x3 : Int32) (x4 : Int32) (x5 : Int32) (σ : Sg) (H : Heap) (locs : List Loc) (ls : Array Slot), Hx G (aA G s.heap.size) s σ H locs → lv_has ls 8 [(0, .ref (ga G 0)), (1, .int x1), (2, .int x2), (3, .int x3), (4, .int x4), (5, .int x5)] → wpX9_tick_L285 Q (wpX9_tick_L188 Q n188) (wpX9_tick_L197 Q (wpX9_tick_L188 Q n188) n197) x1 x2 x3 x4 x5 σ → W p l e ({ frames := 8, cells := 0, slots := 0, locals := 209 }) s m args below meth c H locs 0 0 (Zi G Q below args s) (F0 m 285 ls []) := by
            intro x1 x2 x3 x4 x5 σ H locs ls hH hl h
            unfold wpX9_tick_L285 at h
            obtain ⟨x5_46, ex5_46⟩ : ∃ y : Int32, y = x5 + 1 := ⟨_, rfl⟩
            replace h := h x5_46 ex5_46
            refine lv_iinc (v := x5_46) (lv' := [(5, .int x5_46), (0, .ref (ga G 0)), (1, .int x1), (2, .int x2), (3, .int x3), (4, .int x4)]) hx hb dX9_tick_285 hl (k := 5) rfl (by rw [ex5_46]; rfl) (by decide) rfl (fun ls hl => ?_)
            refine lv_goto (tgt := 197) hx hb dX9_tick_288 (by decide) ?_
            exact ih197 x1 x2 x3 x4 x5_46 σ _ _ ls hH (lv_sub hl [1, 2, 3, 4, 5, 0] rfl) h
          have L284 : ∀ (x1 : Int32) (x2 : Int32) (x3 : Int32) (x4 : Int32) (x5 : Int32) (z0 : Int32) (z1 : Int32) (y2 : Nat) (hy2 : isI G 6 y2) (σ : Sg) (H : Heap) (locs : List Loc) (ls : Array Slot), Hx G (aA G s.heap.size) s σ H locs → lv_has ls 8 [(0, .ref (ga G 0)), (1, .int x1), (2, .int x2), (3, .int x3), (4, .int x4), (5, .int x5)] → wpX9_tick_L284 Q (wpX9_tick_L188 Q n188) (wpX9_tick_L197 Q (wpX9_tick_L188 Q n188) n197) x1 x2 x3 x4 x5 z0 z1 y2 σ → W p l e ({ frames := 8, cells := 0, slots := 0, locals := 209 }) s m args below meth c H locs 0 0 (Zi G Q below args s) (F0 m 284 ls [.int z0, .int z1, .ref (ga G y2)]) := by
            intro x1 x2 x3 x4 x5 z0 z1 y2 hy2 σ H locs ls hH hl h
            unfold wpX9_tick_L284 at h
            obtain ⟨hi47, h⟩ := h
            refine g_iast hx hb hK hH (c0 := y2) (i := z1) hy2 hi47 dX9_tick_284 (fun σ47 eσ47 H locs hH => ?_)
            replace h := h σ47 eσ47
            exact L285 x1 x2 x3 x4 x5 σ47 _ _ ls hH (lv_sub hl [0, 1, 2, 3, 4, 5] rfl) h
          intro x1 x2 x3 x4 x5 σ H locs ls hH hl h
          unfold wpX9_tick_L197 at h
          refine lv_iload hx hb dX9_tick_197 (lv_at hl 5 rfl) ?_
          refine lv_aload_n hx hb dX9_tick_199 rfl (lv_at hl 0 rfl) ?_
          refine g_geti hx hb hB inB9 hown hK hH (c0 := 0) h0.1 rfl 0 (by decide) k228 rfl rfl dX9_tick_200 ?_
          refine lv_icmp_ge (tgt := 291) hx hb dX9_tick_203 (by decide) (fun q31 => ?_) (fun q31 => ?_)
          · replace h := h.1 q31
            obtain ⟨x4_32, ex4_32⟩ : ∃ y : Int32, y = x4 + 1 := ⟨_, rfl⟩
            replace h := h x4_32 ex4_32
            refine lv_iinc (v := x4_32) (lv' := [(4, .int x4_32), (0, .ref (ga G 0)), (1, .int x1), (2, .int x2), (3, .int x3), (5, .int x5)]) hx hb dX9_tick_291 hl (k := 4) rfl (by rw [ex4_32]; rfl) (by decide) rfl (fun ls hl => ?_)
            refine lv_goto (tgt := 188) hx hb dX9_tick_294 (by decide) ?_
            exact ih188 x1 x2 x3 x4_32 σ _ _ ls hH (lv_sub hl [1, 2, 3, 4, 0] rfl) h
          · replace h := h.2 q31
            refine lv_iload hx hb dX9_tick_206 (lv_at hl 4 rfl) ?_
            refine lv_iload hx hb dX9_tick_208 (lv_at hl 5 rfl) ?_
            refine g_callSi (As := [.int x4, .int x5]) (rest := []) ⟨hx, hb, hml, hown, hB⟩ hK hX aA_hA hH (tX9_at h) (va_cwS 2 hB gSX9_258 rfl rfl rfl (by decide +kernel) ⟨Nat.le_of_ble_eq_true rfl, Nat.le_of_ble_eq_true rfl⟩) rfl hl.1 rfl (lv_room (Nat.le_of_ble_eq_true rfl)) ⟨Nat.zero_le _, Nat.zero_le _⟩ dX9_tick_210 (fun r33 σ33 H locs h hH => ?_)
            refine lv_istore (lv' := [(6, .int r33), (0, .ref (ga G 0)), (1, .int x1), (2, .int x2), (3, .int x3), (4, .int x4), (5, .int x5)]) hx hb dX9_tick_213 hl (by decide) rfl (fun ls hl => ?_)
            refine lv_iconst (v := 5) hx hb dX9_tick_215 (by decide) ?_
            refine lv_aload_n hx hb dX9_tick_216 rfl (lv_at hl 1 rfl) ?_
            refine g_getr hx hb hB inB9 hown hK hH (c0 := 0) h0.1 rfl 23 (by decide) k50 rfl (c1 := 14) rfl dX9_tick_217 ?_
            refine lv_iload hx hb dX9_tick_220 (lv_at hl 6 rfl) ?_
            obtain ⟨hi34, h⟩ := h
            refine g_iald hx hb hK hH (c0 := 14) (mA14 h0) hi34 dX9_tick_222 ?_
            refine lv_imul hx hb dX9_tick_223 ?_
            refine lv_topi (fun x7_35 ex7_35 => ?_)
            replace h := h x7_35 ex7_35
            refine lv_istore (lv' := [(7, .int x7_35), (6, .int r33), (0, .ref (ga G 0)), (1, .int x1), (2, .int x2), (3, .int x3), (4, .int x4), (5, .int x5)]) hx hb dX9_tick_224 hl (by decide) rfl (fun ls hl => ?_)
            refine lv_aload_n hx hb dX9_tick_226 rfl (lv_at hl 2 rfl) ?_
            refine g_getr hx hb hB inB9 hown hK hH (c0 := 0) h0.1 rfl 17 (by decide) k31 rfl (c1 := 8) rfl dX9_tick_227 ?_
            refine lv_iload hx hb dX9_tick_230 (lv_at hl 1 rfl) ?_
            obtain ⟨hi36, h⟩ := h
            refine g_iald hx hb hK hH (c0 := 8) (mA8 h0) hi36 dX9_tick_232 ?_
            refine lv_iload hx hb dX9_tick_233 (lv_at hl 0 rfl) ?_
            refine lv_icmp_ge (tgt := 285) hx hb dX9_tick_235 (by decide) (fun q37 => ?_) (fun q37 => ?_)
            · replace h := h.1 q37
              exact L285 x1 x2 x3 x4 x5 σ33 _ _ ls hH (lv_sub hl [2, 3, 4, 5, 6, 7] rfl) h
            · replace h := h.2 q37
              refine lv_aload_n hx hb dX9_tick_238 rfl (lv_at hl 2 rfl) ?_
              refine g_getr hx hb hB inB9 hown hK hH (c0 := 0) h0.1 rfl 17 (by decide) k31 rfl (c1 := 8) rfl dX9_tick_239 ?_
              refine lv_iload hx hb dX9_tick_242 (lv_at hl 1 rfl) ?_
              refine lv_aload_n hx hb dX9_tick_244 rfl (lv_at hl 2 rfl) ?_
              refine g_getr hx hb hB inB9 hown hK hH (c0 := 0) h0.1 rfl 17 (by decide) k31 rfl (c1 := 8) rfl dX9_tick_245 ?_
              refine lv_iload hx hb dX9_tick_248 (lv_at hl 1 rfl) ?_
              obtain ⟨hi38, h⟩ := h
              refine g_iald hx hb hK hH (c0 := 8) (mA8 h0) hi38 dX9_tick_250 ?_
              refine lv_aload_n hx hb dX9_tick_251 rfl (lv_at hl 2 rfl) ?_
              refine g_getr hx hb hB inB9 hown hK hH (c0 := 0) h0.1 rfl 23 (by decide) k50 rfl (c1 := 14) rfl dX9_tick_252 ?_
              refine lv_iload hx hb dX9_tick_255 (lv_at hl 7 rfl) ?_
              obtain ⟨hi39, h⟩ := h
              refine g_iald hx hb hK hH (c0 := 14) (mA14 h0) hi39 dX9_tick_257 ?_
              refine lv_iadd hx hb dX9_tick_258 ?_
              refine lv_iload hx hb dX9_tick_259 (lv_at hl 0 rfl) ?_
              refine lv_icmp_ge (tgt := 282) hx hb dX9_tick_261 (by decide) (fun q40 => ?_) (fun q40 => ?_)
              · replace h := h.1 q40
                refine lv_iload hx hb dX9_tick_282 (lv_at hl 0 rfl) ?_
                exact L284 x1 x2 x3 x4 x5 x7_35 r33 8 ((mA8 h0)) σ33 _ _ ls hH (lv_sub hl [2, 3, 4, 5, 6, 7] rfl) h
              · replace h := h.2 q40
                refine lv_aload_n hx hb dX9_tick_264 rfl (lv_at hl 2 rfl) ?_
                refine g_getr hx hb hB inB9 hown hK hH (c0 := 0) h0.1 rfl 17 (by decide) k31 rfl (c1 := 8) rfl dX9_tick_265 ?_
                refine lv_iload hx hb dX9_tick_268 (lv_at hl 1 rfl) ?_
                obtain ⟨hi41, h⟩ := h
                refine g_iald hx hb hK hH (c0 := 8) (mA8 h0) hi41 dX9_tick_270 ?_
                refine lv_aload_n hx hb dX9_tick_271 rfl (lv_at hl 2 rfl) ?_
                refine g_getr hx hb hB inB9 hown hK hH (c0 := 0) h0.1 rfl 23 (by decide) k50 rfl (c1 := 14) rfl dX9_tick_272 ?_
                refine lv_iload hx hb dX9_tick_275 (lv_at hl 7 rfl) ?_
                obtain ⟨hi42, h⟩ := h
                refine g_iald hx hb hK hH (c0 := 14) (mA14 h0) hi42 dX9_tick_277 ?_
                refine lv_iadd hx hb dX9_tick_278 ?_
                refine lv_goto (tgt := 284) hx hb dX9_tick_279 (by decide) ?_
                exact L284 x1 x2 x3 x4 x5 ((σ33 8 r33.toNatClampNeg) + (σ33 14 x5.toNatClampNeg)) r33 8 ((mA8 h0)) σ33 _ _ ls hH (lv_sub hl [2, 3, 4, 5, 6, 7] rfl) h
      intro x1 x2 x3 x4 σ H locs ls hH hl h
      unfold wpX9_tick_L188 at h
      refine lv_iload hx hb dX9_tick_188 (lv_at hl 4 rfl) ?_
      refine lv_iconst (v := 2) hx hb dX9_tick_190 (by decide) ?_
      refine lv_icmp_ge (tgt := 297) hx hb dX9_tick_191 (by decide) (fun q13 => ?_) (fun q13 => ?_)
      · replace h := h.1 q13
        refine lv_aload_n hx hb dX9_tick_297 rfl (lv_at hl 0 rfl) ?_
        refine lv_iconst (v := 0) hx hb dX9_tick_298 (by decide) ?_
        refine lv_iload_n hx hb dX9_tick_299 rfl (lv_at hl 1 rfl) ?_
        refine lv_iload_n hx hb dX9_tick_300 rfl (lv_at hl 3 rfl) ?_
        refine lv_iconst (v := 1) hx hb dX9_tick_301 (by decide) ?_
        refine lv_iand hx hb dX9_tick_302 ?_
        refine lv_if_eq (tgt := 310) hx hb dX9_tick_303 (by decide) (fun q14 => ?_) (fun q14 => ?_)
        · replace h := h.1 q14
          refine lv_iconst (v := 0) hx hb dX9_tick_310 (by decide) ?_
          exact L311 x2 x3 0 x1 0 σ _ _ ls hH (lv_sub hl [0, 2, 3] rfl) h
        · replace h := h.2 q14
          refine lv_iconst (v := 1) hx hb dX9_tick_306 (by decide) ?_
          refine lv_goto (tgt := 311) hx hb dX9_tick_307 (by decide) ?_
          exact L311 x2 x3 1 x1 0 σ _ _ ls hH (lv_sub hl [0, 2, 3] rfl) h
      · replace h := h.2 q13
        refine lv_iconst (v := 0) hx hb dX9_tick_194 (by decide) ?_
        refine lv_istore (lv' := [(5, .int 0), (0, .ref (ga G 0)), (1, .int x1), (2, .int x2), (3, .int x3), (4, .int x4)]) hx hb dX9_tick_195 hl (by decide) rfl (fun ls hl => ?_)
        obtain ⟨nn, h⟩ := h
        exact L197 nn x1 x2 x3 x4 0 σ _ _ ls hH (lv_sub hl [1, 2, 3, 4, 5, 0] rfl) h
  have L81 : ∀ (n81 : Nat) (x1 : Int32) (x2 : Int32) (x3 : Int32) (x4 : Int32) (σ : Sg) (H : Heap) (locs : List Loc) (ls : Array Slot), Hx G (aA G s.heap.size) s σ H locs → lv_has ls 8 [(0, .ref (ga G 0)), (1, .int x1), (2, .int x2), (3, .int x3), (4, .int x4)] → wpX9_tick_L81 Q n81 x1 x2 x3 x4 σ → W p l e ({ frames := 8, cells := 0, slots := 0, locals := 209 }) s m args below meth c H locs 0 0 (Zi G Q below args s) (F0 m 81 ls []) := by
    intro n81
    induction n81 with
    | zero =>
      intro x1 x2 x3 x4 σ H locs ls hH hl h
      exact False.elim h
    | succ n81 ih81 =>
      have L90 : ∀ (n90 : Nat) (x1 : Int32) (x2 : Int32) (x3 : Int32) (x4 : Int32) (x5 : Int32) (σ : Sg) (H : Heap) (locs : List Loc) (ls : Array Slot), Hx G (aA G s.heap.size) s σ H locs → lv_has ls 8 [(0, .ref (ga G 0)), (1, .int x1), (2, .int x2), (3, .int x3), (4, .int x4), (5, .int x5)] → wpX9_tick_L90 Q (wpX9_tick_L81 Q n81) n90 x1 x2 x3 x4 x5 σ → W p l e ({ frames := 8, cells := 0, slots := 0, locals := 209 }) s m args below meth c H locs 0 0 (Zi G Q below args s) (F0 m 90 ls []) := by
        intro n90
        induction n90 with
        | zero =>
          intro x1 x2 x3 x4 x5 σ H locs ls hH hl h
          exact False.elim h
        | succ n90 ih90 =>
          have L173 : ∀ (x1 : Int32) (x2 : Int32) (x3 : Int32) (x4 : Int32) (x5 : Int32) (σ : Sg) (H : Heap) (locs : List Loc) (ls : Array Slot), Hx G (aA G s.heap.size) s σ H locs → lv_has ls 8 [(0, .ref (ga G 0)), (1, .int x1), (2, .int x2), (3, .int x3), (4, .int x4), (5, .int x5)] → wpX9_tick_L173 Q (wpX9_tick_L81 Q n81) (wpX9_tick_L90 Q (wpX9_tick_L81 Q n81) n90) x1 x2 x3 x4 x5 σ → W p l e ({ frames := 8, cells := 0, slots := 0, locals := 209 }) s m args below meth c H locs 0 0 (Zi G Q below args s) (F0 m 173 ls []) := by
            intro x1 x2 x3 x4 x5 σ H locs ls hH hl h
            unfold wpX9_tick_L173 at h
            obtain ⟨x5_43, ex5_43⟩ : ∃ y : Int32, y = x5 + 1 := ⟨_, rfl⟩
            replace h := h x5_43 ex5_43
            refine lv_iinc (v := x5_43) (lv' := [(5, .int x5_43), (0, .ref (ga G 0)), (1, .int x1), (2, .int x2), (3, .int x3), (4, .int x4)]) hx hb dX9_tick_173 hl (k := 5) rfl (by rw [ex5_43]; rfl) (by decide) rfl (fun ls hl => ?_)
            refine lv_goto (tgt := 90) hx hb dX9_tick_176 (by decide) ?_
            exact ih90 x1 x2 x3 x4 x5_43 σ _ _ ls hH (lv_sub hl [1, 2, 3, 4, 5, 0] rfl) h
          intro x1 x2 x3 x4 x5 σ H locs ls hH hl h
          unfold wpX9_tick_L90 at h
          refine lv_iload hx hb dX9_tick_90 (lv_at hl 5 rfl) ?_
          refine lv_aload_n hx hb dX9_tick_92 rfl (lv_at hl 0 rfl) ?_
          refine g_geti hx hb hB inB9 hown hK hH (c0 := 0) h0.1 rfl 0 (by decide) k228 rfl rfl dX9_tick_93 ?_
          refine lv_icmp_ge (tgt := 179) hx hb dX9_tick_96 (by decide) (fun q15 => ?_) (fun q15 => ?_)
          · replace h := h.1 q15
            obtain ⟨x4_16, ex4_16⟩ : ∃ y : Int32, y = x4 + 1 := ⟨_, rfl⟩
            replace h := h x4_16 ex4_16
            refine lv_iinc (v := x4_16) (lv' := [(4, .int x4_16), (0, .ref (ga G 0)), (1, .int x1), (2, .int x2), (3, .int x3), (5, .int x5)]) hx hb dX9_tick_179 hl (k := 4) rfl (by rw [ex4_16]; rfl) (by decide) rfl (fun ls hl => ?_)
            refine lv_goto (tgt := 81) hx hb dX9_tick_182 (by decide) ?_
            exact ih81 x1 x2 x3 x4_16 σ _ _ ls hH (lv_sub hl [1, 2, 3, 4, 0] rfl) h
          · replace h := h.2 q15
            refine lv_iload hx hb dX9_tick_99 (lv_at hl 4 rfl) ?_
            refine lv_iload hx hb dX9_tick_101 (lv_at hl 5 rfl) ?_
            refine g_callSi (As := [.int x4, .int x5]) (rest := []) ⟨hx, hb, hml, hown, hB⟩ hK hX aA_hA hH (tX9_at h) (va_cwS 2 hB gSX9_258 rfl rfl rfl (by decide +kernel) ⟨Nat.le_of_ble_eq_true rfl, Nat.le_of_ble_eq_true rfl⟩) rfl hl.1 rfl (lv_room (Nat.le_of_ble_eq_true rfl)) ⟨Nat.zero_le _, Nat.zero_le _⟩ dX9_tick_103 (fun r17 σ17 H locs h hH => ?_)
            refine lv_istore (lv' := [(6, .int r17), (0, .ref (ga G 0)), (1, .int x1), (2, .int x2), (3, .int x3), (4, .int x4), (5, .int x5)]) hx hb dX9_tick_106 hl (by decide) rfl (fun ls hl => ?_)
            refine lv_aload_n hx hb dX9_tick_108 rfl (lv_at hl 1 rfl) ?_
            refine g_getr hx hb hB inB9 hown hK hH (c0 := 0) h0.1 rfl 22 (by decide) k47 rfl (c1 := 13) rfl dX9_tick_109 ?_
            refine lv_iload hx hb dX9_tick_112 (lv_at hl 0 rfl) ?_
            obtain ⟨hi18, h⟩ := h
            refine g_zald hx hb hK hH (c0 := 13) (mA13 h0) hi18 dX9_tick_114 ?_
            refine lv_if_ne (tgt := 173) hx hb dX9_tick_115 (by decide) (fun q19 => ?_) (fun q19 => ?_)
            · replace h := h.1 q19
              exact L173 x1 x2 x3 x4 x5 σ17 _ _ ls hH (lv_sub hl [1, 2, 3, 4, 5, 6] rfl) h
            · replace h := h.2 q19
              refine lv_aload_n hx hb dX9_tick_118 rfl (lv_at hl 1 rfl) ?_
              refine g_getr hx hb hB inB9 hown hK hH (c0 := 0) h0.1 rfl 14 (by decide) k22 rfl (c1 := 5) rfl dX9_tick_119 ?_
              refine lv_iload hx hb dX9_tick_122 (lv_at hl 0 rfl) ?_
              obtain ⟨hi20, h⟩ := h
              refine g_iald hx hb hK hH (c0 := 5) (mA5 h0) hi20 dX9_tick_124 ?_
              refine lv_if_ne (tgt := 173) hx hb dX9_tick_125 (by decide) (fun q21 => ?_) (fun q21 => ?_)
              · replace h := h.1 q21
                exact L173 x1 x2 x3 x4 x5 σ17 _ _ ls hH (lv_sub hl [1, 2, 3, 4, 5, 6] rfl) h
              · replace h := h.2 q21
                refine lv_aload_n hx hb dX9_tick_128 rfl (lv_at hl 1 rfl) ?_
                refine g_getr hx hb hB inB9 hown hK hH (c0 := 0) h0.1 rfl 12 (by decide) k16 rfl (c1 := 3) rfl dX9_tick_129 ?_
                refine lv_iload hx hb dX9_tick_132 (lv_at hl 0 rfl) ?_
                obtain ⟨hi22, h⟩ := h
                refine g_iald hx hb hK hH (c0 := 3) (mA3 h0) hi22 dX9_tick_134 ?_
                refine lv_aload_n hx hb dX9_tick_135 rfl (lv_at hl 1 rfl) ?_
                refine g_getr hx hb hB inB9 hown hK hH (c0 := 0) h0.1 rfl 13 (by decide) k19 rfl (c1 := 4) rfl dX9_tick_136 ?_
                refine lv_iload hx hb dX9_tick_139 (lv_at hl 0 rfl) ?_
                obtain ⟨hi23, h⟩ := h
                refine g_iald hx hb hK hH (c0 := 4) (mA4 h0) hi23 dX9_tick_141 ?_
                refine lv_icmp_ge (tgt := 173) hx hb dX9_tick_142 (by decide) (fun q24 => ?_) (fun q24 => ?_)
                · replace h := h.1 q24
                  exact L173 x1 x2 x3 x4 x5 σ17 _ _ ls hH (lv_sub hl [1, 2, 3, 4, 5, 6] rfl) h
                · replace h := h.2 q24
                  refine lv_aload_n hx hb dX9_tick_145 rfl (lv_at hl 1 rfl) ?_
                  refine g_getr hx hb hB inB9 hown hK hH (c0 := 0) h0.1 rfl 31 (by decide) k74 rfl (c1 := 22) rfl dX9_tick_146 ?_
                  refine lv_iload hx hb dX9_tick_149 (lv_at hl 0 rfl) ?_
                  obtain ⟨hi25, h⟩ := h
                  refine g_iald hx hb hK hH (c0 := 22) (mA22 h0) hi25 dX9_tick_151 ?_
                  refine lv_if_ne (tgt := 173) hx hb dX9_tick_152 (by decide) (fun q26 => ?_) (fun q26 => ?_)
                  · replace h := h.1 q26
                    exact L173 x1 x2 x3 x4 x5 σ17 _ _ ls hH (lv_sub hl [1, 2, 3, 4, 5, 6] rfl) h
                  · replace h := h.2 q26
                    refine lv_aload_n hx hb dX9_tick_155 rfl (lv_at hl 1 rfl) ?_
                    refine lv_iload hx hb dX9_tick_156 (lv_at hl 0 rfl) ?_
                    refine g_callVi (As := [.int r17]) (rest := []) ⟨hx, hb, hml, hown, hB⟩ hK hX aA_hA hH (c0 := 0) (tX9_allAgain h0 h) (cwV 1 hB gVX9_289 rfl rfl rfl (by decide +kernel) ⟨Nat.le_of_ble_eq_true rfl, Nat.le_of_ble_eq_true rfl⟩) h0.1 rfl rfl hl.1 rfl (lv_room (Nat.le_of_ble_eq_true rfl)) ⟨Nat.zero_le _, Nat.zero_le _⟩ dX9_tick_158 (fun r27 σ27 H locs h hH => ?_)
                    refine lv_if_ne (tgt := 173) hx hb dX9_tick_161 (by decide) (fun q28 => ?_) (fun q28 => ?_)
                    · replace h := h.1 q28
                      exact L173 x1 x2 x3 x4 x5 σ27 _ _ ls hH (lv_sub hl [1, 2, 3, 4, 5, 6] rfl) h
                    · replace h := h.2 q28
                      refine lv_aload_n hx hb dX9_tick_164 rfl (lv_at hl 1 rfl) ?_
                      refine g_getr hx hb hB inB9 hown hK hH (c0 := 0) h0.1 rfl 14 (by decide) k22 rfl (c1 := 5) rfl dX9_tick_165 ?_
                      refine lv_iload hx hb dX9_tick_168 (lv_at hl 0 rfl) ?_
                      refine lv_bipush (v := 10) hx hb dX9_tick_170 (by decide) ?_
                      obtain ⟨hi29, h⟩ := h
                      refine g_iast hx hb hK hH (c0 := 5) (i := r17) (mA5 h0) hi29 dX9_tick_172 (fun σ29 eσ29 H locs hH => ?_)
                      replace h := h σ29 eσ29
                      exact L173 x1 x2 x3 x4 x5 σ29 _ _ ls hH (lv_sub hl [1, 2, 3, 4, 5, 6] rfl) h
      intro x1 x2 x3 x4 σ H locs ls hH hl h
      unfold wpX9_tick_L81 at h
      refine lv_iload hx hb dX9_tick_81 (lv_at hl 4 rfl) ?_
      refine lv_iconst (v := 2) hx hb dX9_tick_83 (by decide) ?_
      refine lv_icmp_ge (tgt := 185) hx hb dX9_tick_84 (by decide) (fun q7 => ?_) (fun q7 => ?_)
      · replace h := h.1 q7
        refine lv_iconst (v := 0) hx hb dX9_tick_185 (by decide) ?_
        refine lv_istore (lv' := [(4, .int 0), (0, .ref (ga G 0)), (1, .int x1), (2, .int x2), (3, .int x3)]) hx hb dX9_tick_186 hl (by decide) rfl (fun ls hl => ?_)
        obtain ⟨nn, h⟩ := h
        exact L188 nn x1 x2 x3 0 σ _ _ ls hH (lv_sub hl [1, 2, 3, 4, 0] rfl) h
      · replace h := h.2 q7
        refine lv_iconst (v := 0) hx hb dX9_tick_87 (by decide) ?_
        refine lv_istore (lv' := [(5, .int 0), (0, .ref (ga G 0)), (1, .int x1), (2, .int x2), (3, .int x3), (4, .int x4)]) hx hb dX9_tick_88 hl (by decide) rfl (fun ls hl => ?_)
        obtain ⟨nn, h⟩ := h
        exact L90 nn x1 x2 x3 x4 0 σ _ _ ls hH (lv_sub hl [1, 2, 3, 4, 5, 0] rfl) h
  have L37 : ∀ (n37 : Nat) (x1 : Int32) (x2 : Int32) (x3 : Int32) (x4 : Int32) (σ : Sg) (H : Heap) (locs : List Loc) (ls : Array Slot), Hx G (aA G s.heap.size) s σ H locs → lv_has ls 8 [(0, .ref (ga G 0)), (1, .int x1), (2, .int x2), (3, .int x3), (4, .int x4)] → wpX9_tick_L37 Q n37 x1 x2 x3 x4 σ → W p l e ({ frames := 8, cells := 0, slots := 0, locals := 209 }) s m args below meth c H locs 0 0 (Zi G Q below args s) (F0 m 37 ls []) := by
    intro n37
    induction n37 with
    | zero =>
      intro x1 x2 x3 x4 σ H locs ls hH hl h
      exact False.elim h
    | succ n37 ih37 =>
      have L46 : ∀ (n46 : Nat) (x1 : Int32) (x2 : Int32) (x3 : Int32) (x4 : Int32) (x5 : Int32) (σ : Sg) (H : Heap) (locs : List Loc) (ls : Array Slot), Hx G (aA G s.heap.size) s σ H locs → lv_has ls 8 [(0, .ref (ga G 0)), (1, .int x1), (2, .int x2), (3, .int x3), (4, .int x4), (5, .int x5)] → wpX9_tick_L46 Q (wpX9_tick_L37 Q n37) n46 x1 x2 x3 x4 x5 σ → W p l e ({ frames := 8, cells := 0, slots := 0, locals := 209 }) s m args below meth c H locs 0 0 (Zi G Q below args s) (F0 m 46 ls []) := by
        intro n46
        induction n46 with
        | zero =>
          intro x1 x2 x3 x4 x5 σ H locs ls hH hl h
          exact False.elim h
        | succ n46 ih46 =>
          intro x1 x2 x3 x4 x5 σ H locs ls hH hl h
          unfold wpX9_tick_L46 at h
          refine lv_iload hx hb dX9_tick_46 (lv_at hl 5 rfl) ?_
          refine lv_aload_n hx hb dX9_tick_48 rfl (lv_at hl 0 rfl) ?_
          refine g_geti hx hb hB inB9 hown hK hH (c0 := 0) h0.1 rfl 0 (by decide) k228 rfl rfl dX9_tick_49 ?_
          refine lv_icmp_ge (tgt := 72) hx hb dX9_tick_52 (by decide) (fun q8 => ?_) (fun q8 => ?_)
          · replace h := h.1 q8
            obtain ⟨x4_9, ex4_9⟩ : ∃ y : Int32, y = x4 + 1 := ⟨_, rfl⟩
            replace h := h x4_9 ex4_9
            refine lv_iinc (v := x4_9) (lv' := [(4, .int x4_9), (0, .ref (ga G 0)), (1, .int x1), (2, .int x2), (3, .int x3), (5, .int x5)]) hx hb dX9_tick_72 hl (k := 4) rfl (by rw [ex4_9]; rfl) (by decide) rfl (fun ls hl => ?_)
            refine lv_goto (tgt := 37) hx hb dX9_tick_75 (by decide) ?_
            exact ih37 x1 x2 x3 x4_9 σ _ _ ls hH (lv_sub hl [1, 2, 3, 4, 0] rfl) h
          · replace h := h.2 q8
            refine lv_aload_n hx hb dX9_tick_55 rfl (lv_at hl 0 rfl) ?_
            refine lv_iload hx hb dX9_tick_56 (lv_at hl 4 rfl) ?_
            refine lv_iload hx hb dX9_tick_58 (lv_at hl 5 rfl) ?_
            refine g_callSi (As := [.int x4, .int x5]) (rest := [.ref (ga G 0)]) ⟨hx, hb, hml, hown, hB⟩ hK hX aA_hA hH (tX9_at h) (va_cwS 2 hB gSX9_258 rfl rfl rfl (by decide +kernel) ⟨Nat.le_of_ble_eq_true rfl, Nat.le_of_ble_eq_true rfl⟩) rfl hl.1 rfl (lv_room (Nat.le_of_ble_eq_true rfl)) ⟨Nat.zero_le _, Nat.zero_le _⟩ dX9_tick_60 (fun r10 σ10 H locs h hH => ?_)
            refine g_callVv (As := [.int r10]) (rest := []) ⟨hx, hb, hml, hown, hB⟩ hK hX aA_hA hH (c0 := 0) (tX9_timers h0 h) (cwV 1 hB gVX9_395 rfl rfl rfl (by decide +kernel) ⟨Nat.le_of_ble_eq_true rfl, Nat.le_of_ble_eq_true rfl⟩) h0.1 rfl rfl hl.1 rfl (lv_room (Nat.le_of_ble_eq_true rfl)) ⟨Nat.zero_le _, Nat.zero_le _⟩ dX9_tick_63 (fun σ11 H locs h hH => ?_)
            obtain ⟨x5_12, ex5_12⟩ : ∃ y : Int32, y = x5 + 1 := ⟨_, rfl⟩
            replace h := h x5_12 ex5_12
            refine lv_iinc (v := x5_12) (lv' := [(5, .int x5_12), (0, .ref (ga G 0)), (1, .int x1), (2, .int x2), (3, .int x3), (4, .int x4)]) hx hb dX9_tick_66 hl (k := 5) rfl (by rw [ex5_12]; rfl) (by decide) rfl (fun ls hl => ?_)
            refine lv_goto (tgt := 46) hx hb dX9_tick_69 (by decide) ?_
            exact ih46 x1 x2 x3 x4 x5_12 σ11 _ _ ls hH (lv_sub hl [1, 2, 3, 4, 5, 0] rfl) h
      intro x1 x2 x3 x4 σ H locs ls hH hl h
      unfold wpX9_tick_L37 at h
      refine lv_iload hx hb dX9_tick_37 (lv_at hl 4 rfl) ?_
      refine lv_iconst (v := 2) hx hb dX9_tick_39 (by decide) ?_
      refine lv_icmp_ge (tgt := 78) hx hb dX9_tick_40 (by decide) (fun q6 => ?_) (fun q6 => ?_)
      · replace h := h.1 q6
        refine lv_iconst (v := 0) hx hb dX9_tick_78 (by decide) ?_
        refine lv_istore (lv' := [(4, .int 0), (0, .ref (ga G 0)), (1, .int x1), (2, .int x2), (3, .int x3)]) hx hb dX9_tick_79 hl (by decide) rfl (fun ls hl => ?_)
        obtain ⟨nn, h⟩ := h
        exact L81 nn x1 x2 x3 0 σ _ _ ls hH (lv_sub hl [1, 2, 3, 4, 0] rfl) h
      · replace h := h.2 q6
        refine lv_iconst (v := 0) hx hb dX9_tick_43 (by decide) ?_
        refine lv_istore (lv' := [(5, .int 0), (0, .ref (ga G 0)), (1, .int x1), (2, .int x2), (3, .int x3), (4, .int x4)]) hx hb dX9_tick_44 hl (by decide) rfl (fun ls hl => ?_)
        obtain ⟨nn, h⟩ := h
        exact L46 nn x1 x2 x3 x4 0 σ _ _ ls hH (lv_sub hl [1, 2, 3, 4, 5, 0] rfl) h
  unfold wpX9_tick at h
  refine lv_iload_n hx hb dX9_tick_0 rfl (lv_at hl 1 rfl) ?_
  refine lv_if_lt (tgt := 22) hx hb dX9_tick_1 (by decide) (fun q1 => ?_) (fun q1 => ?_)
  · replace h := h.1 q1
    refine lv_iconst (v := (-1)) hx hb dX9_tick_22 (by decide) ?_
    exact g_iret hx hb hr hK hlk h hH dX9_tick_23
  · replace h := h.2 q1
    refine lv_iload_n hx hb dX9_tick_4 rfl (lv_at hl 1 rfl) ?_
    refine lv_sipush (v := 250) hx hb dX9_tick_5 (by decide) ?_
    refine lv_icmp_gt (tgt := 22) hx hb dX9_tick_8 (by decide) (fun q2 => ?_) (fun q2 => ?_)
    · replace h := h.1 q2
      refine lv_iconst (v := (-1)) hx hb dX9_tick_22 (by decide) ?_
      exact g_iret hx hb hr hK hlk h hH dX9_tick_23
    · replace h := h.2 q2
      refine lv_iload_n hx hb dX9_tick_11 rfl (lv_at hl 2 rfl) ?_
      refine lv_if_lt (tgt := 22) hx hb dX9_tick_12 (by decide) (fun q3 => ?_) (fun q3 => ?_)
      · replace h := h.1 q3
        refine lv_iconst (v := (-1)) hx hb dX9_tick_22 (by decide) ?_
        exact g_iret hx hb hr hK hlk h hH dX9_tick_23
      · replace h := h.2 q3
        refine lv_iload_n hx hb dX9_tick_15 rfl (lv_at hl 2 rfl) ?_
        refine lv_sipush (v := 250) hx hb dX9_tick_16 (by decide) ?_
        refine lv_icmp_le (tgt := 24) hx hb dX9_tick_19 (by decide) (fun q4 => ?_) (fun q4 => ?_)
        · replace h := h.1 q4
          refine lv_aload_n hx hb dX9_tick_24 rfl (lv_at hl 0 rfl) ?_
          refine lv_dup hx hb dX9_tick_25 rfl ?_
          refine g_geti hx hb hB inB9 hown hK hH (c0 := 0) h0.1 rfl 2 (by decide) k363 rfl rfl dX9_tick_26 ?_
          refine lv_iconst (v := 1) hx hb dX9_tick_29 (by decide) ?_
          refine lv_iadd hx hb dX9_tick_30 ?_
          refine g_put hx hb hB inB9 tyX9 tyX9_ok nmX9 hown hK hH (c0 := 0) h0.1 rfl 2 (by decide) k363 rfl rfl rfl rfl rfl dX9_tick_31 (fun σ5 eσ5 H locs hH => ?_)
          replace h := h σ5 eσ5
          refine lv_iconst (v := 0) hx hb dX9_tick_34 (by decide) ?_
          refine lv_istore (lv' := [(4, .int 0), (0, .ref (ga G 0)), (1, .int x1), (2, .int x2), (3, .int x3)]) hx hb dX9_tick_35 hl (by decide) rfl (fun ls hl => ?_)
          obtain ⟨nn, h⟩ := h
          exact L37 nn x1 x2 x3 0 σ5 _ _ ls hH (lv_sub hl [1, 2, 3, 4, 0] rfl) h
        · replace h := h.2 q4
          refine lv_iconst (v := (-1)) hx hb dX9_tick_22 (by decide) ?_
          exact g_iret hx hb hr hK hlk h hH dX9_tick_23
def wpX9_renewReceiver_L69 (Q : Sg → Prop) : Nat → Int32 → Int32 → Sg → Prop
  | 0, _, _, _ => False
  | n + 1, x3, x4, σ => ((32 ≤ x4 → (vp_in x3 6 ∧ ∀ σ12 : Sg, σ12 = up2 σ 33 x3.toNatClampNeg 0 → (vp_in x3 6 ∧ ∀ σ13 : Sg, σ13 = up2 σ12 34 x3.toNatClampNeg 0 → (vp_in x3 6 ∧ ∀ σ14 : Sg, σ14 = up2 σ13 35 x3.toNatClampNeg 0 → (vp_in x3 6 ∧ ∀ σ15 : Sg, σ15 = up2 σ14 36 x3.toNatClampNeg 0 → (vp_in x3 6 ∧ ∀ σ16 : Sg, σ16 = up2 σ15 39 x3.toNatClampNeg (-1) → (vp_in x3 6 ∧ ∀ σ17 : Sg, σ17 = up2 σ16 43 x3.toNatClampNeg 0 → (vp_in x3 6 ∧ ∀ σ18 : Sg, σ18 = up2 σ17 37 x3.toNatClampNeg 0 → (vp_in x3 6 ∧ ∀ σ19 : Sg, σ19 = up2 σ18 38 x3.toNatClampNeg 0 → Q σ19))))))))) ∧ (¬ (32 ≤ x4) → wpX9_clear x3 x4 σ (fun σ20 => ∀ x4_21 : Int32, x4_21 = x4 + 1 → (wpX9_renewReceiver_L69 Q n) x3 x4_21 σ20)))
def wpX9_renewReceiver_L53 (Q : Sg → Prop) (K14 : Int32 → Int32 → Int32 → Int32 → Sg → Prop) (x1 : Int32) (x2 : Int32) (x3 : Int32) (x4 : Int32) (σ : Sg) : Prop := ∀ x4_22 : Int32, x4_22 = x4 + 1 → K14 x1 x2 x3 x4_22 σ
def wpX9_renewReceiver_L14 (Q : Sg → Prop) : Nat → Int32 → Int32 → Int32 → Int32 → Sg → Prop
  | 0, _, _, _, _, _ => False
  | n + 1, x1, x2, x3, x4, σ => (vp_in x3 6 ∧ (((σ 34 x3.toNatClampNeg) ≤ x4 → (vp_in x3 6 ∧ ∀ σ6 : Sg, σ6 = up2 σ 49 x3.toNatClampNeg (-1) → ∃ nn, wpX9_renewReceiver_L69 Q nn x3 0 σ6)) ∧ (¬ ((σ 34 x3.toNatClampNeg) ≤ x4) → wpX9_isWhole x3 x4 σ (fun r7 σ7 => ((r7 = 0 → (vp_in x3 6 ∧ ∀ σ9 : Sg, σ9 = up2 σ7 49 x3.toNatClampNeg (-1) → wpX9_renewReceiver_L53 Q (wpX9_renewReceiver_L14 Q n) x1 x2 x3 x4 σ9)) ∧ (¬ (r7 = 0) → wpX9_hand x1 x2 x4 σ7 (fun σ10 => wpX9_renewReceiver_L53 Q (wpX9_renewReceiver_L14 Q n) x1 x2 x3 x4 σ10)))))))
def wpX9_renewReceiver (x1 : Int32) (x2 : Int32) (σ : Sg) (Q : Sg → Prop) : Prop := wpX9_at x1 x2 σ (fun r1 σ1 => (vp_in r1 6 ∧ ∀ x4_3 : Int32, x4_3 = σ1 33 r1.toNatClampNeg → ∃ nn, wpX9_renewReceiver_L14 Q nn x1 x2 r1 x4_3 σ1))
set_option maxHeartbeats 8000000 in
set_option maxRecDepth 100000 in
theorem tX9_renewReceiver {l : Launch} {G : GG} {x1 : Int32} {x2 : Int32} {σ : Sg} {Q : Sg → Prop} (h0 : isModel G) (h : wpX9_renewReceiver x1 x2 σ Q) : Kv l G yX9_renewReceiver (wB yX9_renewReceiver prog_11_method_50_code 5 none) ({ frames := 5, cells := 0, slots := 0, locals := 127 }) [.ref (ga G 0), .int x1, .int x2] σ Q := by
  refine K_of (cc := cX9_renewReceiver) (maxL := 5) (ret := none) (by decide) rfl (Nat.le_of_ble_eq_true rfl) ?_
  intro p e s m args below meth c ls B hH hl
  obtain ⟨hx, hb, hr, hts, hown, hlk, hml, hK, hX⟩ := B
  replace hl : lv_has ls 5 [(0, .ref (ga G 0)), (1, .int x1), (2, .int x2)] := hl
  have hB : ∀ w ∈ BIG, w.before args s = true := fun w h9 => hts w (List.mem_cons_of_mem _ h9)
  clear hts
  have k107 := hB _ bw4_152
  have k110 := hB _ bw4_153
  have k113 := hB _ bw4_154
  have k116 := hB _ bw4_155
  have k119 := hB _ bw4_156
  have k122 := hB _ bw4_157
  have k125 := hB _ bw4_158
  have k137 := hB _ bw4_162
  have k156 := hB _ bw4_168
  have L69 : ∀ (n69 : Nat) (x3 : Int32) (x4 : Int32) (σ : Sg) (H : Heap) (locs : List Loc) (ls : Array Slot), Hx G (aA G s.heap.size) s σ H locs → lv_has ls 5 [(0, .ref (ga G 0)), (3, .int x3), (4, .int x4)] → wpX9_renewReceiver_L69 Q n69 x3 x4 σ → W p l e ({ frames := 5, cells := 0, slots := 0, locals := 127 }) s m args below meth c H locs 0 0 (Zv G Q below args s) (F0 m 69 ls []) := by
    intro n69
    induction n69 with
    | zero =>
      intro x3 x4 σ H locs ls hH hl h
      exact False.elim h
    | succ n69 ih69 =>
      intro x3 x4 σ H locs ls hH hl h
      unfold wpX9_renewReceiver_L69 at h
      refine lv_iload hx hb dX9_renewReceiver_69 (lv_at hl 2 rfl) ?_
      refine lv_bipush (v := 32) hx hb dX9_renewReceiver_71 (by decide) ?_
      refine lv_icmp_ge (tgt := 89) hx hb dX9_renewReceiver_73 (by decide) (fun q11 => ?_) (fun q11 => ?_)
      · replace h := h.1 q11
        refine lv_aload_n hx hb dX9_renewReceiver_89 rfl (lv_at hl 0 rfl) ?_
        refine g_getr hx hb hB inB9 hown hK hH (c0 := 0) h0.1 rfl 42 (by decide) k107 rfl (c1 := 33) rfl dX9_renewReceiver_90 ?_
        refine lv_iload_n hx hb dX9_renewReceiver_93 rfl (lv_at hl 1 rfl) ?_
        refine lv_iconst (v := 0) hx hb dX9_renewReceiver_94 (by decide) ?_
        obtain ⟨hi12, h⟩ := h
        refine g_iast hx hb hK hH (c0 := 33) (i := x3) (mA33 h0) hi12 dX9_renewReceiver_95 (fun σ12 eσ12 H locs hH => ?_)
        replace h := h σ12 eσ12
        refine lv_aload_n hx hb dX9_renewReceiver_96 rfl (lv_at hl 0 rfl) ?_
        refine g_getr hx hb hB inB9 hown hK hH (c0 := 0) h0.1 rfl 43 (by decide) k110 rfl (c1 := 34) rfl dX9_renewReceiver_97 ?_
        refine lv_iload_n hx hb dX9_renewReceiver_100 rfl (lv_at hl 1 rfl) ?_
        refine lv_iconst (v := 0) hx hb dX9_renewReceiver_101 (by decide) ?_
        obtain ⟨hi13, h⟩ := h
        refine g_iast hx hb hK hH (c0 := 34) (i := x3) (mA34 h0) hi13 dX9_renewReceiver_102 (fun σ13 eσ13 H locs hH => ?_)
        replace h := h σ13 eσ13
        refine lv_aload_n hx hb dX9_renewReceiver_103 rfl (lv_at hl 0 rfl) ?_
        refine g_getr hx hb hB inB9 hown hK hH (c0 := 0) h0.1 rfl 44 (by decide) k113 rfl (c1 := 35) rfl dX9_renewReceiver_104 ?_
        refine lv_iload_n hx hb dX9_renewReceiver_107 rfl (lv_at hl 1 rfl) ?_
        refine lv_iconst (v := 0) hx hb dX9_renewReceiver_108 (by decide) ?_
        obtain ⟨hi14, h⟩ := h
        refine g_iast hx hb hK hH (c0 := 35) (i := x3) (mA35 h0) hi14 dX9_renewReceiver_109 (fun σ14 eσ14 H locs hH => ?_)
        replace h := h σ14 eσ14
        refine lv_aload_n hx hb dX9_renewReceiver_110 rfl (lv_at hl 0 rfl) ?_
        refine g_getr hx hb hB inB9 hown hK hH (c0 := 0) h0.1 rfl 45 (by decide) k116 rfl (c1 := 36) rfl dX9_renewReceiver_111 ?_
        refine lv_iload_n hx hb dX9_renewReceiver_114 rfl (lv_at hl 1 rfl) ?_
        refine lv_iconst (v := 0) hx hb dX9_renewReceiver_115 (by decide) ?_
        obtain ⟨hi15, h⟩ := h
        refine g_iast hx hb hK hH (c0 := 36) (i := x3) (mA36 h0) hi15 dX9_renewReceiver_116 (fun σ15 eσ15 H locs hH => ?_)
        replace h := h σ15 eσ15
        refine lv_aload_n hx hb dX9_renewReceiver_117 rfl (lv_at hl 0 rfl) ?_
        refine g_getr hx hb hB inB9 hown hK hH (c0 := 0) h0.1 rfl 48 (by decide) k125 rfl (c1 := 39) rfl dX9_renewReceiver_118 ?_
        refine lv_iload_n hx hb dX9_renewReceiver_121 rfl (lv_at hl 1 rfl) ?_
        refine lv_iconst (v := (-1)) hx hb dX9_renewReceiver_122 (by decide) ?_
        obtain ⟨hi16, h⟩ := h
        refine g_iast hx hb hK hH (c0 := 39) (i := x3) (mA39 h0) hi16 dX9_renewReceiver_123 (fun σ16 eσ16 H locs hH => ?_)
        replace h := h σ16 eσ16
        refine lv_aload_n hx hb dX9_renewReceiver_124 rfl (lv_at hl 0 rfl) ?_
        refine g_getr hx hb hB inB9 hown hK hH (c0 := 0) h0.1 rfl 52 (by decide) k137 rfl (c1 := 43) rfl dX9_renewReceiver_125 ?_
        refine lv_iload_n hx hb dX9_renewReceiver_128 rfl (lv_at hl 1 rfl) ?_
        refine lv_iconst (v := 0) hx hb dX9_renewReceiver_129 (by decide) ?_
        obtain ⟨hi17, h⟩ := h
        refine g_zast hx hb hK hH (c0 := 43) (i := x3) (mA43 h0) vz0 hi17 dX9_renewReceiver_130 (fun σ17 eσ17 H locs hH => ?_)
        replace h := h σ17 eσ17
        refine lv_aload_n hx hb dX9_renewReceiver_131 rfl (lv_at hl 0 rfl) ?_
        refine g_getr hx hb hB inB9 hown hK hH (c0 := 0) h0.1 rfl 46 (by decide) k119 rfl (c1 := 37) rfl dX9_renewReceiver_132 ?_
        refine lv_iload_n hx hb dX9_renewReceiver_135 rfl (lv_at hl 1 rfl) ?_
        refine lv_iconst (v := 0) hx hb dX9_renewReceiver_136 (by decide) ?_
        obtain ⟨hi18, h⟩ := h
        refine g_iast hx hb hK hH (c0 := 37) (i := x3) (mA37 h0) hi18 dX9_renewReceiver_137 (fun σ18 eσ18 H locs hH => ?_)
        replace h := h σ18 eσ18
        refine lv_aload_n hx hb dX9_renewReceiver_138 rfl (lv_at hl 0 rfl) ?_
        refine g_getr hx hb hB inB9 hown hK hH (c0 := 0) h0.1 rfl 47 (by decide) k122 rfl (c1 := 38) rfl dX9_renewReceiver_139 ?_
        refine lv_iload_n hx hb dX9_renewReceiver_142 rfl (lv_at hl 1 rfl) ?_
        refine lv_iconst (v := 0) hx hb dX9_renewReceiver_143 (by decide) ?_
        obtain ⟨hi19, h⟩ := h
        refine g_iast hx hb hK hH (c0 := 38) (i := x3) (mA38 h0) hi19 dX9_renewReceiver_144 (fun σ19 eσ19 H locs hH => ?_)
        replace h := h σ19 eσ19
        exact g_vret hx hb hr hK hlk h hH dX9_renewReceiver_145
      · replace h := h.2 q11
        refine lv_aload_n hx hb dX9_renewReceiver_76 rfl (lv_at hl 0 rfl) ?_
        refine lv_iload_n hx hb dX9_renewReceiver_77 rfl (lv_at hl 1 rfl) ?_
        refine lv_iload hx hb dX9_renewReceiver_78 (lv_at hl 2 rfl) ?_
        refine g_callVv (As := [.int x3, .int x4]) (rest := []) ⟨hx, hb, hml, hown, hB⟩ hK hX aA_hA hH (c0 := 0) (tX9_clear h0 h) (cwV 2 hB gVX9_344 rfl rfl rfl (by decide +kernel) ⟨Nat.le_of_ble_eq_true rfl, Nat.le_of_ble_eq_true rfl⟩) h0.1 rfl rfl hl.1 rfl (lv_room (Nat.le_of_ble_eq_true rfl)) ⟨Nat.zero_le _, Nat.zero_le _⟩ dX9_renewReceiver_80 (fun σ20 H locs h hH => ?_)
        obtain ⟨x4_21, ex4_21⟩ : ∃ y : Int32, y = x4 + 1 := ⟨_, rfl⟩
        replace h := h x4_21 ex4_21
        refine lv_iinc (v := x4_21) (lv' := [(4, .int x4_21), (0, .ref (ga G 0)), (3, .int x3)]) hx hb dX9_renewReceiver_83 hl (k := 2) rfl (by rw [ex4_21]; rfl) (by decide) rfl (fun ls hl => ?_)
        refine lv_goto (tgt := 69) hx hb dX9_renewReceiver_86 (by decide) ?_
        exact ih69 x3 x4_21 σ20 _ _ ls hH (lv_sub hl [1, 2, 0] rfl) h
  have L14 : ∀ (n14 : Nat) (x1 : Int32) (x2 : Int32) (x3 : Int32) (x4 : Int32) (σ : Sg) (H : Heap) (locs : List Loc) (ls : Array Slot), Hx G (aA G s.heap.size) s σ H locs → lv_has ls 5 [(0, .ref (ga G 0)), (1, .int x1), (2, .int x2), (3, .int x3), (4, .int x4)] → wpX9_renewReceiver_L14 Q n14 x1 x2 x3 x4 σ → W p l e ({ frames := 5, cells := 0, slots := 0, locals := 127 }) s m args below meth c H locs 0 0 (Zv G Q below args s) (F0 m 14 ls []) := by
    intro n14
    induction n14 with
    | zero =>
      intro x1 x2 x3 x4 σ H locs ls hH hl h
      exact False.elim h
    | succ n14 ih14 =>
      have L53 : ∀ (x1 : Int32) (x2 : Int32) (x3 : Int32) (x4 : Int32) (σ : Sg) (H : Heap) (locs : List Loc) (ls : Array Slot), Hx G (aA G s.heap.size) s σ H locs → lv_has ls 5 [(0, .ref (ga G 0)), (1, .int x1), (2, .int x2), (3, .int x3), (4, .int x4)] → wpX9_renewReceiver_L53 Q (wpX9_renewReceiver_L14 Q n14) x1 x2 x3 x4 σ → W p l e ({ frames := 5, cells := 0, slots := 0, locals := 127 }) s m args below meth c H locs 0 0 (Zv G Q below args s) (F0 m 53 ls []) := by
        intro x1 x2 x3 x4 σ H locs ls hH hl h
        unfold wpX9_renewReceiver_L53 at h
        obtain ⟨x4_22, ex4_22⟩ : ∃ y : Int32, y = x4 + 1 := ⟨_, rfl⟩
        replace h := h x4_22 ex4_22
        refine lv_iinc (v := x4_22) (lv' := [(4, .int x4_22), (0, .ref (ga G 0)), (1, .int x1), (2, .int x2), (3, .int x3)]) hx hb dX9_renewReceiver_53 hl (k := 4) rfl (by rw [ex4_22]; rfl) (by decide) rfl (fun ls hl => ?_)
        refine lv_goto (tgt := 14) hx hb dX9_renewReceiver_56 (by decide) ?_
        exact ih14 x1 x2 x3 x4_22 σ _ _ ls hH (lv_sub hl [1, 2, 3, 4, 0] rfl) h
      intro x1 x2 x3 x4 σ H locs ls hH hl h
      unfold wpX9_renewReceiver_L14 at h
      refine lv_iload hx hb dX9_renewReceiver_14 (lv_at hl 4 rfl) ?_
      refine lv_aload_n hx hb dX9_renewReceiver_16 rfl (lv_at hl 0 rfl) ?_
      refine g_getr hx hb hB inB9 hown hK hH (c0 := 0) h0.1 rfl 43 (by decide) k110 rfl (c1 := 34) rfl dX9_renewReceiver_17 ?_
      refine lv_iload_n hx hb dX9_renewReceiver_20 rfl (lv_at hl 3 rfl) ?_
      obtain ⟨hi4, h⟩ := h
      refine g_iald hx hb hK hH (c0 := 34) (mA34 h0) hi4 dX9_renewReceiver_21 ?_
      refine lv_icmp_ge (tgt := 59) hx hb dX9_renewReceiver_22 (by decide) (fun q5 => ?_) (fun q5 => ?_)
      · replace h := h.1 q5
        refine lv_aload_n hx hb dX9_renewReceiver_59 rfl (lv_at hl 0 rfl) ?_
        refine g_getr hx hb hB inB9 hown hK hH (c0 := 0) h0.1 rfl 58 (by decide) k156 rfl (c1 := 49) rfl dX9_renewReceiver_60 ?_
        refine lv_iload_n hx hb dX9_renewReceiver_63 rfl (lv_at hl 3 rfl) ?_
        refine lv_iconst (v := (-1)) hx hb dX9_renewReceiver_64 (by decide) ?_
        obtain ⟨hi6, h⟩ := h
        refine g_iast hx hb hK hH (c0 := 49) (i := x3) (mA49 h0) hi6 dX9_renewReceiver_65 (fun σ6 eσ6 H locs hH => ?_)
        replace h := h σ6 eσ6
        refine lv_iconst (v := 0) hx hb dX9_renewReceiver_66 (by decide) ?_
        refine lv_istore (lv' := [(4, .int 0), (0, .ref (ga G 0)), (1, .int x1), (2, .int x2), (3, .int x3)]) hx hb dX9_renewReceiver_67 hl (by decide) rfl (fun ls hl => ?_)
        obtain ⟨nn, h⟩ := h
        exact L69 nn x3 0 σ6 _ _ ls hH (lv_sub hl [1, 4, 0] rfl) h
      · replace h := h.2 q5
        refine lv_aload_n hx hb dX9_renewReceiver_25 rfl (lv_at hl 0 rfl) ?_
        refine lv_iload_n hx hb dX9_renewReceiver_26 rfl (lv_at hl 3 rfl) ?_
        refine lv_iload hx hb dX9_renewReceiver_27 (lv_at hl 4 rfl) ?_
        refine g_callVi (As := [.int x3, .int x4]) (rest := []) ⟨hx, hb, hml, hown, hB⟩ hK hX aA_hA hH (c0 := 0) (tX9_isWhole h0 h) (cwV 2 hB gVX9_306 rfl rfl rfl (by decide +kernel) ⟨Nat.le_of_ble_eq_true rfl, Nat.le_of_ble_eq_true rfl⟩) h0.1 rfl rfl hl.1 rfl (lv_room (Nat.le_of_ble_eq_true rfl)) ⟨Nat.zero_le _, Nat.zero_le _⟩ dX9_renewReceiver_29 (fun r7 σ7 H locs h hH => ?_)
        refine lv_if_eq (tgt := 46) hx hb dX9_renewReceiver_32 (by decide) (fun q8 => ?_) (fun q8 => ?_)
        · replace h := h.1 q8
          refine lv_aload_n hx hb dX9_renewReceiver_46 rfl (lv_at hl 0 rfl) ?_
          refine g_getr hx hb hB inB9 hown hK hH (c0 := 0) h0.1 rfl 58 (by decide) k156 rfl (c1 := 49) rfl dX9_renewReceiver_47 ?_
          refine lv_iload_n hx hb dX9_renewReceiver_50 rfl (lv_at hl 3 rfl) ?_
          refine lv_iconst (v := (-1)) hx hb dX9_renewReceiver_51 (by decide) ?_
          obtain ⟨hi9, h⟩ := h
          refine g_iast hx hb hK hH (c0 := 49) (i := x3) (mA49 h0) hi9 dX9_renewReceiver_52 (fun σ9 eσ9 H locs hH => ?_)
          replace h := h σ9 eσ9
          exact L53 x1 x2 x3 x4 σ9 _ _ ls hH (lv_sub hl [0, 1, 2, 3, 4] rfl) h
        · replace h := h.2 q8
          refine lv_aload_n hx hb dX9_renewReceiver_35 rfl (lv_at hl 0 rfl) ?_
          refine lv_iload_n hx hb dX9_renewReceiver_36 rfl (lv_at hl 1 rfl) ?_
          refine lv_iload_n hx hb dX9_renewReceiver_37 rfl (lv_at hl 2 rfl) ?_
          refine lv_iload hx hb dX9_renewReceiver_38 (lv_at hl 4 rfl) ?_
          refine g_callVv (As := [.int x1, .int x2, .int x4]) (rest := []) ⟨hx, hb, hml, hown, hB⟩ hK hX aA_hA hH (c0 := 0) (tX9_hand h0 h) (cwV 3 hB gVX9_341 rfl rfl rfl (by decide +kernel) ⟨Nat.le_of_ble_eq_true rfl, Nat.le_of_ble_eq_true rfl⟩) h0.1 rfl rfl hl.1 rfl (lv_room (Nat.le_of_ble_eq_true rfl)) ⟨Nat.zero_le _, Nat.zero_le _⟩ dX9_renewReceiver_40 (fun σ10 H locs h hH => ?_)
          refine lv_goto (tgt := 53) hx hb dX9_renewReceiver_43 (by decide) ?_
          exact L53 x1 x2 x3 x4 σ10 _ _ ls hH (lv_sub hl [0, 1, 2, 3, 4] rfl) h
  unfold wpX9_renewReceiver at h
  refine lv_iload_n hx hb dX9_renewReceiver_0 rfl (lv_at hl 1 rfl) ?_
  refine lv_iload_n hx hb dX9_renewReceiver_1 rfl (lv_at hl 2 rfl) ?_
  refine g_callSi (As := [.int x1, .int x2]) (rest := []) ⟨hx, hb, hml, hown, hB⟩ hK hX aA_hA hH (tX9_at h) (va_cwS 2 hB gSX9_258 rfl rfl rfl (by decide +kernel) ⟨Nat.le_of_ble_eq_true rfl, Nat.le_of_ble_eq_true rfl⟩) rfl hl.1 rfl (lv_room (Nat.le_of_ble_eq_true rfl)) ⟨Nat.zero_le _, Nat.zero_le _⟩ dX9_renewReceiver_2 (fun r1 σ1 H locs h hH => ?_)
  refine lv_istore_n (lv' := [(3, .int r1), (0, .ref (ga G 0)), (1, .int x1), (2, .int x2)]) hx hb dX9_renewReceiver_5 rfl hl (by decide) rfl (fun ls hl => ?_)
  refine lv_aload_n hx hb dX9_renewReceiver_6 rfl (lv_at hl 1 rfl) ?_
  refine g_getr hx hb hB inB9 hown hK hH (c0 := 0) h0.1 rfl 42 (by decide) k107 rfl (c1 := 33) rfl dX9_renewReceiver_7 ?_
  refine lv_iload_n hx hb dX9_renewReceiver_10 rfl (lv_at hl 0 rfl) ?_
  obtain ⟨hi2, h⟩ := h
  refine g_iald hx hb hK hH (c0 := 33) (mA33 h0) hi2 dX9_renewReceiver_11 ?_
  refine lv_topi (fun x4_3 ex4_3 => ?_)
  replace h := h x4_3 ex4_3
  refine lv_istore (lv' := [(4, .int x4_3), (3, .int r1), (0, .ref (ga G 0)), (1, .int x1), (2, .int x2)]) hx hb dX9_renewReceiver_12 hl (by decide) rfl (fun ls hl => ?_)
  obtain ⟨nn, h⟩ := h
  exact L14 nn x1 x2 r1 x4_3 σ1 _ _ ls hH (lv_sub hl [2, 3, 4, 1, 0] rfl) h
