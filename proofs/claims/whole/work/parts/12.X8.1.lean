def wpX8_workOn_L112 (P : Nat) (tb : Nat → Int32) (Q : Sg → Prop) (K5 : Int32 → Nat → Int32 → Int32 → Sg → Prop) (x1 : Int32) (c2 : Nat) (x3 : Int32) (x4 : Int32) (x6 : Int32) (σ : Sg) : Prop := ∀ x3_14 : Int32, x3_14 = x3 + (2 + x6) → ∀ x4_15 : Int32, x4_15 = x4 + 1 → K5 x1 c2 x3_14 x4_15 σ
def wpX8_workOn_L5 (P : Nat) (tb : Nat → Int32) (Q : Sg → Prop) : Nat → Int32 → Nat → Int32 → Int32 → Sg → Prop
  | 0, _, _, _, _, _ => False
  | n + 1, x1, c2, x3, x4, σ => ((250 ≤ x4 → Q σ) ∧ (¬ (250 ≤ x4) → (((σ c2 1) ≤ (x3 + 2) → Q σ) ∧ (¬ ((σ c2 1) ≤ (x3 + 2)) → wpX0_at c2 x3 σ (fun r3 σ3 => (((σ3 0 0) ≤ r3 → Q σ3) ∧ (¬ ((σ3 0 0) ≤ r3) → wpX0_at c2 x3 σ3 (fun r5 σ5 => wpX8_placeOf P x1 r5 σ5 (fun r6 σ6 => wpX0_at c2 (x3 + 1) σ6 (fun r7 σ7 => ∀ σ8 : Sg, σ8 = up2 σ7 0 15 ((σ7 0 15) + 1) → wpX0_at c2 (x3 + 2) σ8 (fun r9 σ9 => ((r9 < 128 → (vp_in r6 P ∧ ∀ c_11 : Nat, c_11 = 9 + 113 * r6.toNatClampNeg → wpX7_takeStatus c_11 c2 (x3 + 2) σ9 (fun σ12 => wpX8_workOn_L112 P tb Q (wpX8_workOn_L5 P tb Q n) x1 c2 x3 x4 r7 σ12))) ∧ (¬ (r9 < 128) → wpX8_takeData P tb r6 c2 (x3 + 2) ((x3 + 2) + r7) σ9 (fun σ13 => wpX8_workOn_L112 P tb Q (wpX8_workOn_L5 P tb Q n) x1 c2 x3 x4 r7 σ13))))))))))))))
def wpX8_workOn (P : Nat) (tb : Nat → Int32) (x1 : Int32) (c2 : Nat) (σ : Sg) (Q : Sg → Prop) : Prop := ∃ nn, wpX8_workOn_L5 P tb Q nn x1 c2 0 0 σ
set_option maxHeartbeats 8000000 in
set_option maxRecDepth 100000 in
theorem tX8_workOn {l : Launch} {G : GG} {P : Nat} {tS : Nat × (Nat → Int32)} (hgo : go G = some tS) {x1 : Int32} {c2 : Nat} {σ : Sg} {Q : Sg → Prop} (h0 : isHouse G P) (hc2 : isAir G c2) (h : wpX8_workOn P tS.2 x1 c2 σ Q) : Kv l G yX8_workOn (wB yX8_workOn prog_1_method_23_code 7 none) ({ frames := 6, cells := 0, slots := 0, locals := 147 }) [.ref (ga G 0), .int x1, .ref (ga G c2)] σ Q := by
  refine K_of (cc := cX8_workOn) (maxL := 7) (ret := none) (by decide) rfl (Nat.le_of_ble_eq_true rfl) ?_
  intro p e s m args below meth c ls B hH hl
  obtain ⟨hx, hb, hr, hts, hown, hlk, hml, hK, hX⟩ := B
  replace hl : lv_has ls 7 [(0, .ref (ga G 0)), (1, .int x1), (2, .ref (ga G c2))] := hl
  have hXN : NWs s := XS.nw hX hgo
  have hB : ∀ w ∈ BIG, w.before args s = true := fun w h9 => hts w (List.mem_cons_of_mem _ h9)
  clear hts
  have k16 := hB _ bw2_116
  have k36 := hB _ bw2_121
  have k253 := hB _ bw2_131
  have k256 : (Cond.fieldLinkNest RX8 256 "BearerHouse$Air" "size" "I" "BearerHouse").before args s = true := va_Nw.use rfl (hXN.1 ("BearerHouse", 256, "BearerHouse$Air", "size", "I", "BearerHouse") (List.mem_of_getElem? (i := 33) rfl))
  have L5 : ∀ (n5 : Nat) (x1 : Int32) (c2 : Nat) (hc2 : isAir G c2) (x3 : Int32) (x4 : Int32) (σ : Sg) (H : Heap) (locs : List Loc) (ls : Array Slot), Hx G (aA G s.heap.size) s σ H locs → lv_has ls 7 [(0, .ref (ga G 0)), (1, .int x1), (2, .ref (ga G c2)), (3, .int x3), (4, .int x4)] → wpX8_workOn_L5 P tS.2 Q n5 x1 c2 x3 x4 σ → W p l e ({ frames := 6, cells := 0, slots := 0, locals := 147 }) s m args below meth c H locs 0 0 (Zv G Q below args s) (F0 m 5 ls []) := by
    intro n5
    induction n5 with
    | zero =>
      intro x1 c2 hc2 x3 x4 σ H locs ls hH hl h
      exact False.elim h
    | succ n5 ih5 =>
      have L112 : ∀ (x1 : Int32) (c2 : Nat) (hc2 : isAir G c2) (x3 : Int32) (x4 : Int32) (x6 : Int32) (σ : Sg) (H : Heap) (locs : List Loc) (ls : Array Slot), Hx G (aA G s.heap.size) s σ H locs → lv_has ls 7 [(0, .ref (ga G 0)), (1, .int x1), (2, .ref (ga G c2)), (3, .int x3), (4, .int x4), (6, .int x6)] → wpX8_workOn_L112 P tS.2 Q (wpX8_workOn_L5 P tS.2 Q n5) x1 c2 x3 x4 x6 σ → W p l e ({ frames := 6, cells := 0, slots := 0, locals := 147 }) s m args below meth c H locs 0 0 (Zv G Q below args s) (F0 m 112 ls []) := by
        intro x1 c2 hc2 x3 x4 x6 σ H locs ls hH hl h
        unfold wpX8_workOn_L112 at h
        refine lv_iload_n hx hb dX8_workOn_112 rfl (lv_at hl 3 rfl) ?_
        refine lv_iconst (v := 2) hx hb dX8_workOn_113 (by decide) ?_
        refine lv_iload hx hb dX8_workOn_114 (lv_at hl 5 rfl) ?_
        refine lv_iadd hx hb dX8_workOn_116 ?_
        refine lv_iadd hx hb dX8_workOn_117 ?_
        refine lv_topi (fun x3_14 ex3_14 => ?_)
        replace h := h x3_14 ex3_14
        refine lv_istore_n (lv' := [(3, .int x3_14), (0, .ref (ga G 0)), (1, .int x1), (2, .ref (ga G c2)), (4, .int x4), (6, .int x6)]) hx hb dX8_workOn_118 rfl hl (by decide) rfl (fun ls hl => ?_)
        obtain ⟨x4_15, ex4_15⟩ : ∃ y : Int32, y = x4 + 1 := ⟨_, rfl⟩
        replace h := h x4_15 ex4_15
        refine lv_iinc (v := x4_15) (lv' := [(4, .int x4_15), (3, .int x3_14), (0, .ref (ga G 0)), (1, .int x1), (2, .ref (ga G c2)), (6, .int x6)]) hx hb dX8_workOn_119 hl (k := 4) rfl (by rw [ex4_15]; rfl) (by decide) rfl (fun ls hl => ?_)
        refine lv_goto (tgt := 5) hx hb dX8_workOn_122 (by decide) ?_
        exact ih5 x1 c2 hc2 x3_14 x4_15 σ _ _ ls hH (lv_sub hl [2, 3, 4, 1, 0] rfl) h
      intro x1 c2 hc2 x3 x4 σ H locs ls hH hl h
      unfold wpX8_workOn_L5 at h
      refine lv_iload hx hb dX8_workOn_5 (lv_at hl 4 rfl) ?_
      refine lv_sipush (v := 250) hx hb dX8_workOn_7 (by decide) ?_
      refine lv_icmp_ge (tgt := 125) hx hb dX8_workOn_10 (by decide) (fun q1 => ?_) (fun q1 => ?_)
      · replace h := h.1 q1
        exact g_vret hx hb hr hK hlk h hH dX8_workOn_125
      · replace h := h.2 q1
        refine lv_iload_n hx hb dX8_workOn_13 rfl (lv_at hl 3 rfl) ?_
        refine lv_iconst (v := 2) hx hb dX8_workOn_14 (by decide) ?_
        refine lv_iadd hx hb dX8_workOn_15 ?_
        refine lv_aload_n hx hb dX8_workOn_16 rfl (lv_at hl 2 rfl) ?_
        refine g_getiN hx hb hB inB0 hown hK hH (c0 := c2) hc2.1 rfl 1 (by decide) k256 rfl rfl dX8_workOn_17 ?_
        refine lv_icmp_ge (tgt := 125) hx hb dX8_workOn_20 (by decide) (fun q2 => ?_) (fun q2 => ?_)
        · replace h := h.1 q2
          exact g_vret hx hb hr hK hlk h hH dX8_workOn_125
        · replace h := h.2 q2
          refine lv_aload_n hx hb dX8_workOn_23 rfl (lv_at hl 2 rfl) ?_
          refine lv_iload_n hx hb dX8_workOn_24 rfl (lv_at hl 3 rfl) ?_
          refine g_callVi (As := [.int x3]) (rest := []) ⟨hx, hb, hml, hown, hB⟩ hK hX aA_hA hH (c0 := c2) (tX0_at hc2 h) (cwV 1 hB gVX8_141 rfl rfl rfl (by decide +kernel) ⟨Nat.le_of_ble_eq_true rfl, Nat.le_of_ble_eq_true rfl⟩) hc2.1 rfl rfl hl.1 rfl (lv_room (Nat.le_of_ble_eq_true rfl)) ⟨Nat.zero_le _, Nat.zero_le _⟩ dX8_workOn_25 (fun r3 σ3 H locs h hH => ?_)
          refine lv_aload_n hx hb dX8_workOn_28 rfl (lv_at hl 0 rfl) ?_
          refine g_geti hx hb hB inB8 hown hK hH (c0 := 0) h0.1 rfl 0 (by decide) k16 rfl rfl dX8_workOn_29 ?_
          refine lv_icmp_ge (tgt := 125) hx hb dX8_workOn_32 (by decide) (fun q4 => ?_) (fun q4 => ?_)
          · replace h := h.1 q4
            exact g_vret hx hb hr hK hlk h hH dX8_workOn_125
          · replace h := h.2 q4
            refine lv_aload_n hx hb dX8_workOn_35 rfl (lv_at hl 0 rfl) ?_
            refine lv_iload_n hx hb dX8_workOn_36 rfl (lv_at hl 1 rfl) ?_
            refine lv_aload_n hx hb dX8_workOn_37 rfl (lv_at hl 2 rfl) ?_
            refine lv_iload_n hx hb dX8_workOn_38 rfl (lv_at hl 3 rfl) ?_
            refine g_callVi (As := [.int x3]) (rest := [.int x1, .ref (ga G 0)]) ⟨hx, hb, hml, hown, hB⟩ hK hX aA_hA hH (c0 := c2) (tX0_at hc2 h) (cwV 1 hB gVX8_141 rfl rfl rfl (by decide +kernel) ⟨Nat.le_of_ble_eq_true rfl, Nat.le_of_ble_eq_true rfl⟩) hc2.1 rfl rfl hl.1 rfl (lv_room (Nat.le_of_ble_eq_true rfl)) ⟨Nat.zero_le _, Nat.zero_le _⟩ dX8_workOn_39 (fun r5 σ5 H locs h hH => ?_)
            refine g_callVi (As := [.int x1, .int r5]) (rest := []) ⟨hx, hb, hml, hown, hB⟩ hK hX aA_hA hH (c0 := 0) (tX8_placeOf h0 h) (cwV 2 hB gVX8_67 rfl rfl rfl (by decide +kernel) ⟨Nat.le_of_ble_eq_true rfl, Nat.le_of_ble_eq_true rfl⟩) h0.1 rfl rfl hl.1 rfl (lv_room (Nat.le_of_ble_eq_true rfl)) ⟨Nat.zero_le _, Nat.zero_le _⟩ dX8_workOn_42 (fun r6 σ6 H locs h hH => ?_)
            refine lv_istore (lv' := [(5, .int r6), (0, .ref (ga G 0)), (1, .int x1), (2, .ref (ga G c2)), (3, .int x3), (4, .int x4)]) hx hb dX8_workOn_45 hl (by decide) rfl (fun ls hl => ?_)
            refine lv_aload_n hx hb dX8_workOn_47 rfl (lv_at hl 3 rfl) ?_
            refine lv_iload_n hx hb dX8_workOn_48 rfl (lv_at hl 4 rfl) ?_
            refine lv_iconst (v := 1) hx hb dX8_workOn_49 (by decide) ?_
            refine lv_iadd hx hb dX8_workOn_50 ?_
            refine g_callVi (As := [.int (x3 + 1)]) (rest := []) ⟨hx, hb, hml, hown, hB⟩ hK hX aA_hA hH (c0 := c2) (tX0_at hc2 h) (cwV 1 hB gVX8_141 rfl rfl rfl (by decide +kernel) ⟨Nat.le_of_ble_eq_true rfl, Nat.le_of_ble_eq_true rfl⟩) hc2.1 rfl rfl hl.1 rfl (lv_room (Nat.le_of_ble_eq_true rfl)) ⟨Nat.zero_le _, Nat.zero_le _⟩ dX8_workOn_51 (fun r7 σ7 H locs h hH => ?_)
            refine lv_istore (lv' := [(6, .int r7), (5, .int r6), (0, .ref (ga G 0)), (1, .int x1), (2, .ref (ga G c2)), (3, .int x3), (4, .int x4)]) hx hb dX8_workOn_54 hl (by decide) rfl (fun ls hl => ?_)
            refine lv_aload_n hx hb dX8_workOn_56 rfl (lv_at hl 2 rfl) ?_
            refine lv_dup hx hb dX8_workOn_57 rfl ?_
            refine g_geti hx hb hB inB8 hown hK hH (c0 := 0) h0.1 rfl 15 (by decide) k253 rfl rfl dX8_workOn_58 ?_
            refine lv_iconst (v := 1) hx hb dX8_workOn_61 (by decide) ?_
            refine lv_iadd hx hb dX8_workOn_62 ?_
            refine g_put hx hb hB inB8 tyX8 tyX8_ok nmX8 hown hK hH (c0 := 0) h0.1 rfl 15 (by decide) k253 rfl rfl rfl rfl rfl dX8_workOn_63 (fun σ8 eσ8 H locs hH => ?_)
            replace h := h σ8 eσ8
            refine lv_aload_n hx hb dX8_workOn_66 rfl (lv_at hl 4 rfl) ?_
            refine lv_iload_n hx hb dX8_workOn_67 rfl (lv_at hl 5 rfl) ?_
            refine lv_iconst (v := 2) hx hb dX8_workOn_68 (by decide) ?_
            refine lv_iadd hx hb dX8_workOn_69 ?_
            refine g_callVi (As := [.int (x3 + 2)]) (rest := []) ⟨hx, hb, hml, hown, hB⟩ hK hX aA_hA hH (c0 := c2) (tX0_at hc2 h) (cwV 1 hB gVX8_141 rfl rfl rfl (by decide +kernel) ⟨Nat.le_of_ble_eq_true rfl, Nat.le_of_ble_eq_true rfl⟩) hc2.1 rfl rfl hl.1 rfl (lv_room (Nat.le_of_ble_eq_true rfl)) ⟨Nat.zero_le _, Nat.zero_le _⟩ dX8_workOn_70 (fun r9 σ9 H locs h hH => ?_)
            refine lv_sipush (v := 128) hx hb dX8_workOn_73 (by decide) ?_
            refine lv_icmp_lt (tgt := 98) hx hb dX8_workOn_76 (by decide) (fun q10 => ?_) (fun q10 => ?_)
            · replace h := h.1 q10
              refine lv_aload_n hx hb dX8_workOn_98 rfl (lv_at hl 2 rfl) ?_
              refine g_getr hx hb hB inB8 hown hK hH (c0 := 0) h0.1 rfl 5 (by decide) k36 rfl (c1 := 7) rfl dX8_workOn_99 ?_
              refine lv_iload hx hb dX8_workOn_102 (lv_at hl 1 rfl) ?_
              obtain ⟨hi11, h⟩ := h
              refine g_aald hx hb hK hH (c0 := 7) h0.2.2.2.2.1 hi11 dX8_workOn_104 ?_
              have hp11 : isSender G (9 + 113 * r6.toNatClampNeg) := h0.2.2.2.2.2.2.2.1 _ (vp_lt hi11)
              obtain ⟨c_11, ec_11⟩ : ∃ y : Nat, y = 9 + 113 * r6.toNatClampNeg := ⟨_, rfl⟩
              replace h := h c_11 ec_11
              rw [← ec_11] at hp11
              refine W.eq (g2 := F0 m 105 ls [.ref (ga G c_11)]) (by rw [ec_11]) ?_
              refine lv_aload_n hx hb dX8_workOn_105 rfl (lv_at hl 4 rfl) ?_
              refine lv_iload_n hx hb dX8_workOn_106 rfl (lv_at hl 5 rfl) ?_
              refine lv_iconst (v := 2) hx hb dX8_workOn_107 (by decide) ?_
              refine lv_iadd hx hb dX8_workOn_108 ?_
              refine g_callVv (As := [.ref (ga G c2), .int (x3 + 2)]) (rest := []) ⟨hx, hb, hml, hown, hB⟩ hK hX aA_hA hH (c0 := c_11) (tX7_takeStatus (tS := tS) hgo hp11 hc2 h) (cwV 2 hB gVX8_290 rfl rfl rfl (by decide +kernel) ⟨Nat.le_of_ble_eq_true rfl, Nat.le_of_ble_eq_true rfl⟩) hp11.1 rfl rfl hl.1 rfl (lv_room (Nat.le_of_ble_eq_true rfl)) ⟨Nat.zero_le _, Nat.zero_le _⟩ dX8_workOn_109 (fun σ12 H locs h hH => ?_)
              exact L112 x1 c2 hc2 x3 x4 r7 σ12 _ _ ls hH (lv_sub hl [2, 3, 4, 5, 6, 0] rfl) h
            · replace h := h.2 q10
              refine lv_aload_n hx hb dX8_workOn_79 rfl (lv_at hl 2 rfl) ?_
              refine lv_iload hx hb dX8_workOn_80 (lv_at hl 1 rfl) ?_
              refine lv_aload_n hx hb dX8_workOn_82 rfl (lv_at hl 4 rfl) ?_
              refine lv_iload_n hx hb dX8_workOn_83 rfl (lv_at hl 5 rfl) ?_
              refine lv_iconst (v := 2) hx hb dX8_workOn_84 (by decide) ?_
              refine lv_iadd hx hb dX8_workOn_85 ?_
              refine lv_iload_n hx hb dX8_workOn_86 rfl (lv_at hl 5 rfl) ?_
              refine lv_iconst (v := 2) hx hb dX8_workOn_87 (by decide) ?_
              refine lv_iadd hx hb dX8_workOn_88 ?_
              refine lv_iload hx hb dX8_workOn_89 (lv_at hl 0 rfl) ?_
              refine lv_iadd hx hb dX8_workOn_91 ?_
              refine g_callVv (As := [.int r6, .ref (ga G c2), .int (x3 + 2), .int ((x3 + 2) + r7)]) (rest := []) ⟨hx, hb, hml, hown, hB⟩ hK hX aA_hA hH (c0 := 0) (tX8_takeData (tS := tS) hgo h0 hc2 h) (cwV 4 hB gVX8_286 rfl rfl rfl (by decide +kernel) ⟨Nat.le_of_ble_eq_true rfl, Nat.le_of_ble_eq_true rfl⟩) h0.1 rfl rfl hl.1 rfl (lv_room (Nat.le_of_ble_eq_true rfl)) ⟨Nat.zero_le _, Nat.zero_le _⟩ dX8_workOn_92 (fun σ13 H locs h hH => ?_)
              refine lv_goto (tgt := 112) hx hb dX8_workOn_95 (by decide) ?_
              exact L112 x1 c2 hc2 x3 x4 r7 σ13 _ _ ls hH (lv_sub hl [2, 3, 4, 5, 6, 0] rfl) h
  unfold wpX8_workOn at h
  refine lv_iconst (v := 0) hx hb dX8_workOn_0 (by decide) ?_
  refine lv_istore_n (lv' := [(3, .int 0), (0, .ref (ga G 0)), (1, .int x1), (2, .ref (ga G c2))]) hx hb dX8_workOn_1 rfl hl (by decide) rfl (fun ls hl => ?_)
  refine lv_iconst (v := 0) hx hb dX8_workOn_2 (by decide) ?_
  refine lv_istore (lv' := [(4, .int 0), (3, .int 0), (0, .ref (ga G 0)), (1, .int x1), (2, .ref (ga G c2))]) hx hb dX8_workOn_3 hl (by decide) rfl (fun ls hl => ?_)
  obtain ⟨nn, h⟩ := h
  exact L5 nn x1 c2 hc2 0 0 σ _ _ ls hH (lv_sub hl [2, 3, 4, 1, 0] rfl) h
def wpX8_takeAnswer_L14 (P : Nat) (Q : Sg → Prop) (c1 : Nat) (x2 : Int32) (σ : Sg) : Prop := (((σ c1 3) = x2 → (((σ c1 2) < 3 → Q σ) ∧ (¬ ((σ c1 2) < 3) → ∀ σ5 : Sg, σ5 = up2 σ 0 14 ((σ 0 14) + 1) → wpX1_makeEmpty c1 σ5 (fun σ6 => Q σ6)))) ∧ (¬ ((σ c1 3) = x2) → wpX1_makeEmpty c1 σ (fun σ7 => Q σ7)))
def wpX8_takeAnswer (P : Nat) (c1 : Nat) (x2 : Int32) (σ : Sg) (Q : Sg → Prop) : Prop := ((x2 = 0 → wpX8_takeAnswer_L14 P Q c1 x2 σ) ∧ (¬ (x2 = 0) → ∀ σ2 : Sg, σ2 = up2 σ 0 13 ((σ 0 13) + 1) → wpX8_takeAnswer_L14 P Q c1 x2 σ2))
set_option maxHeartbeats 8000000 in
set_option maxRecDepth 100000 in
theorem tX8_takeAnswer {l : Launch} {G : GG} {P : Nat} {tS : Nat × (Nat → Int32)} (hgo : go G = some tS) {c1 : Nat} {x2 : Int32} {σ : Sg} {Q : Sg → Prop} (h0 : isHouse G P) (hc1 : isCarrier G c1) (h : wpX8_takeAnswer P c1 x2 σ Q) : Kv l G yX8_takeAnswer (wB yX8_takeAnswer prog_1_method_22_code 3 none) ({ frames := 1, cells := 0, slots := 0, locals := 20 }) [.ref (ga G 0), .ref (ga G c1), .int x2] σ Q := by
  refine K_of (cc := cX8_takeAnswer) (maxL := 3) (ret := none) (by decide) rfl (Nat.le_of_ble_eq_true rfl) ?_
  intro p e s m args below meth c ls B hH hl
  obtain ⟨hx, hb, hr, hts, hown, hlk, hml, hK, hX⟩ := B
  replace hl : lv_has ls 3 [(0, .ref (ga G 0)), (1, .ref (ga G c1)), (2, .int x2)] := hl
  have hXN : NWs s := XS.nw hX hgo
  have hB : ∀ w ∈ BIG, w.before args s = true := fun w h9 => hts w (List.mem_cons_of_mem _ h9)
  clear hts
  have k94 : (Cond.fieldLinkNest RX8 94 "BearerHouse$Carrier" "sendings" "I" "BearerHouse").before args s = true := va_Nw.use rfl (hXN.1 ("BearerHouse", 94, "BearerHouse$Carrier", "sendings", "I", "BearerHouse") (List.mem_of_getElem? (i := 41) rfl))
  have k240 : (Cond.fieldLinkNest RX8 240 "BearerHouse$Carrier" "hasCome" "Z" "BearerHouse").before args s = true := va_Nw.use rfl (hXN.1 ("BearerHouse", 240, "BearerHouse$Carrier", "hasCome", "Z", "BearerHouse") (List.mem_of_getElem? (i := 32) rfl))
  have k247 := hB _ bw2_129
  have k250 := hB _ bw2_130
  have L14 : ∀ (c1 : Nat) (hc1 : isCarrier G c1) (x2 : Int32) (σ : Sg) (H : Heap) (locs : List Loc) (ls : Array Slot), Hx G (aA G s.heap.size) s σ H locs → lv_has ls 3 [(0, .ref (ga G 0)), (1, .ref (ga G c1)), (2, .int x2)] → wpX8_takeAnswer_L14 P Q c1 x2 σ → W p l e ({ frames := 1, cells := 0, slots := 0, locals := 20 }) s m args below meth c H locs 0 0 (Zv G Q below args s) (F0 m 14 ls []) := by
    intro c1 hc1 x2 σ H locs ls hH hl h
    unfold wpX8_takeAnswer_L14 at h
    refine lv_aload_n hx hb dX8_takeAnswer_14 rfl (lv_at hl 1 rfl) ?_
    refine g_getiN hx hb hB inB1 hown hK hH (c0 := c1) hc1.1 rfl 3 (by decide) k240 rfl rfl dX8_takeAnswer_15 ?_
    refine lv_iload_n hx hb dX8_takeAnswer_18 rfl (lv_at hl 2 rfl) ?_
    refine lv_icmp_eq (tgt := 29) hx hb dX8_takeAnswer_19 (by decide) (fun q3 => ?_) (fun q3 => ?_)
    · replace h := h.1 q3
      refine lv_aload_n hx hb dX8_takeAnswer_29 rfl (lv_at hl 1 rfl) ?_
      refine g_getiN hx hb hB inB1 hown hK hH (c0 := c1) hc1.1 rfl 2 (by decide) k94 rfl rfl dX8_takeAnswer_30 ?_
      refine lv_iconst (v := 3) hx hb dX8_takeAnswer_33 (by decide) ?_
      refine lv_icmp_lt (tgt := 51) hx hb dX8_takeAnswer_34 (by decide) (fun q4 => ?_) (fun q4 => ?_)
      · replace h := h.1 q4
        exact g_vret hx hb hr hK hlk h hH dX8_takeAnswer_51
      · replace h := h.2 q4
        refine lv_aload_n hx hb dX8_takeAnswer_37 rfl (lv_at hl 0 rfl) ?_
        refine lv_dup hx hb dX8_takeAnswer_38 rfl ?_
        refine g_geti hx hb hB inB8 hown hK hH (c0 := 0) h0.1 rfl 14 (by decide) k250 rfl rfl dX8_takeAnswer_39 ?_
        refine lv_iconst (v := 1) hx hb dX8_takeAnswer_42 (by decide) ?_
        refine lv_iadd hx hb dX8_takeAnswer_43 ?_
        refine g_put hx hb hB inB8 tyX8 tyX8_ok nmX8 hown hK hH (c0 := 0) h0.1 rfl 14 (by decide) k250 rfl rfl rfl rfl rfl dX8_takeAnswer_44 (fun σ5 eσ5 H locs hH => ?_)
        replace h := h σ5 eσ5
        refine lv_aload_n hx hb dX8_takeAnswer_47 rfl (lv_at hl 1 rfl) ?_
        refine g_callVv (As := []) (rest := []) ⟨hx, hb, hml, hown, hB⟩ hK hX aA_hA hH (c0 := c1) (tX1_makeEmpty hc1 h) (cwV 0 hB gVX8_127 rfl rfl rfl (by decide +kernel) ⟨Nat.le_of_ble_eq_true rfl, Nat.le_of_ble_eq_true rfl⟩) hc1.1 rfl rfl hl.1 rfl (lv_room (Nat.le_of_ble_eq_true rfl)) ⟨Nat.zero_le _, Nat.zero_le _⟩ dX8_takeAnswer_48 (fun σ6 H locs h hH => ?_)
        exact g_vret hx hb hr hK hlk h hH dX8_takeAnswer_51
    · replace h := h.2 q3
      refine lv_aload_n hx hb dX8_takeAnswer_22 rfl (lv_at hl 1 rfl) ?_
      refine g_callVv (As := []) (rest := []) ⟨hx, hb, hml, hown, hB⟩ hK hX aA_hA hH (c0 := c1) (tX1_makeEmpty hc1 h) (cwV 0 hB gVX8_127 rfl rfl rfl (by decide +kernel) ⟨Nat.le_of_ble_eq_true rfl, Nat.le_of_ble_eq_true rfl⟩) hc1.1 rfl rfl hl.1 rfl (lv_room (Nat.le_of_ble_eq_true rfl)) ⟨Nat.zero_le _, Nat.zero_le _⟩ dX8_takeAnswer_23 (fun σ7 H locs h hH => ?_)
      refine lv_goto (tgt := 51) hx hb dX8_takeAnswer_26 (by decide) ?_
      exact g_vret hx hb hr hK hlk h hH dX8_takeAnswer_51
  unfold wpX8_takeAnswer at h
  refine lv_iload_n hx hb dX8_takeAnswer_0 rfl (lv_at hl 2 rfl) ?_
  refine lv_if_eq (tgt := 14) hx hb dX8_takeAnswer_1 (by decide) (fun q1 => ?_) (fun q1 => ?_)
  · replace h := h.1 q1
    exact L14 c1 hc1 x2 σ _ _ ls hH (lv_sub hl [0, 1, 2] rfl) h
  · replace h := h.2 q1
    refine lv_aload_n hx hb dX8_takeAnswer_4 rfl (lv_at hl 0 rfl) ?_
    refine lv_dup hx hb dX8_takeAnswer_5 rfl ?_
    refine g_geti hx hb hB inB8 hown hK hH (c0 := 0) h0.1 rfl 13 (by decide) k247 rfl rfl dX8_takeAnswer_6 ?_
    refine lv_iconst (v := 1) hx hb dX8_takeAnswer_9 (by decide) ?_
    refine lv_iadd hx hb dX8_takeAnswer_10 ?_
    refine g_put hx hb hB inB8 tyX8 tyX8_ok nmX8 hown hK hH (c0 := 0) h0.1 rfl 13 (by decide) k247 rfl rfl rfl rfl rfl dX8_takeAnswer_11 (fun σ2 eσ2 H locs hH => ?_)
    replace h := h σ2 eσ2
    exact L14 c1 hc1 x2 σ2 _ _ ls hH (lv_sub hl [0, 1, 2] rfl) h
def wpX8_tick_L258 (P : Nat) (tb : Nat → Int32) (Q : Int32 → Sg → Prop) (K108 : Int32 → Int32 → Int32 → Int32 → Int32 → Sg → Prop) (x1 : Int32) (x2 : Int32) (x3 : Int32) (x4 : Int32) (x5 : Int32) (σ : Sg) : Prop := ∀ x5_25 : Int32, x5_25 = x5 + 1 → K108 x1 x2 x3 x4 x5_25 σ
def wpX8_tick_L255 (P : Nat) (tb : Nat → Int32) (Q : Int32 → Sg → Prop) (K108 : Int32 → Int32 → Int32 → Int32 → Int32 → Sg → Prop) (x1 : Int32) (x2 : Int32) (x3 : Int32) (x4 : Int32) (x5 : Int32) (z0 : Int32) (y1 : Nat) (σ : Sg) : Prop := wpX8_takeAnswer P y1 z0 σ (fun σ31 => wpX8_tick_L258 P tb Q K108 x1 x2 x3 x4 x5 σ31)
def wpX8_tick_L236 (P : Nat) (tb : Nat → Int32) (Q : Int32 → Sg → Prop) (K108 : Int32 → Int32 → Int32 → Int32 → Int32 → Sg → Prop) (x1 : Int32) (x2 : Int32) (x3 : Int32) (x4 : Int32) (x5 : Int32) (c6 : Nat) (σ : Sg) : Prop := ((((x3 >>> ((x5 + 2) &&& 31)) &&& 1) = 0 → wpX8_tick_L255 P tb Q K108 x1 x2 x3 x4 x5 0 c6 σ) ∧ (¬ (((x3 >>> ((x5 + 2) &&& 31)) &&& 1) = 0) → wpX8_tick_L255 P tb Q K108 x1 x2 x3 x4 x5 1 c6 σ))
def wpX8_tick_L201 (P : Nat) (tb : Nat → Int32) (Q : Int32 → Sg → Prop) (K108 : Int32 → Int32 → Int32 → Int32 → Int32 → Sg → Prop) (x1 : Int32) (x2 : Int32) (x3 : Int32) (x4 : Int32) (x5 : Int32) (c6 : Nat) (z0 : Int32) (σ : Sg) : Prop := wpX8_countSending P c6 z0 σ (fun r26 σ26 => ((r26 = 0 → wpX8_tick_L236 P tb Q K108 x1 x2 x3 x4 x5 c6 σ26) ∧ (¬ (r26 = 0) → ∀ x4_28 : Int32, x4_28 = x4 ||| ((4 : Int32) <<< (x5 &&& 31)) → wpX8_workOn P tb (1 - x5) (c6 + 1) σ26 (fun σ29 => wpX8_tick_L236 P tb Q K108 x1 x2 x3 x4_28 x5 c6 σ29))))
def wpX8_tick_L158 (P : Nat) (tb : Nat → Int32) (Q : Int32 → Sg → Prop) (K108 : Int32 → Int32 → Int32 → Int32 → Int32 → Sg → Prop) (x1 : Int32) (x2 : Int32) (x3 : Int32) (x4 : Int32) (x5 : Int32) (c6 : Nat) (σ : Sg) : Prop := (vp_in x5 2 ∧ ∀ σ20 : Sg, σ20 = up2 σ 2 x5.toNatClampNeg (σ c6 1) → (((σ20 c6 1) ≤ 0 → wpX8_tick_L258 P tb Q K108 x1 x2 x3 x4 x5 σ20) ∧ (¬ ((σ20 c6 1) ≤ 0) → ∀ x4_22 : Int32, x4_22 = x4 ||| ((1 : Int32) <<< (x5 &&& 31)) → ((((x3 >>> (x5 &&& 31)) &&& 1) = 0 → wpX8_tick_L201 P tb Q K108 x1 x2 x3 x4_22 x5 c6 0 σ20) ∧ (¬ (((x3 >>> (x5 &&& 31)) &&& 1) = 0) → wpX8_tick_L201 P tb Q K108 x1 x2 x3 x4_22 x5 c6 1 σ20)))))
def wpX8_tick_L155 (P : Nat) (tb : Nat → Int32) (Q : Int32 → Sg → Prop) (K108 : Int32 → Int32 → Int32 → Int32 → Int32 → Sg → Prop) (x1 : Int32) (x2 : Int32) (x3 : Int32) (x4 : Int32) (x5 : Int32) (c6 : Nat) (z0 : Int32) (y1 : Nat) (z2 : Int32) (σ : Sg) : Prop := wpX8_fillBlock P tb z2 y1 z0 σ (fun σ24 => wpX8_tick_L158 P tb Q K108 x1 x2 x3 x4 x5 c6 σ24)
def wpX8_tick_L108 (P : Nat) (tb : Nat → Int32) (Q : Int32 → Sg → Prop) : Nat → Int32 → Int32 → Int32 → Int32 → Int32 → Sg → Prop
  | 0, _, _, _, _, _, _ => False
  | n + 1, x1, x2, x3, x4, x5, σ => ((2 ≤ x5 → Q x4 σ) ∧ (¬ (2 ≤ x5) → (vp_in ((x5 * 4) + ((σ 0 9) &&& 3)) 8 ∧ ∀ c_17 : Nat, c_17 = 10 + 113 * P + 3 * ((x5 * 4) + ((σ 0 9) &&& 3)).toNatClampNeg → ((¬ (σ c_17 2) = 0 → wpX8_tick_L158 P tb Q (wpX8_tick_L108 P tb Q n) x1 x2 x3 x4 x5 c_17 σ) ∧ ((σ c_17 2) = 0 → ((¬ x5 = 0 → wpX8_tick_L155 P tb Q (wpX8_tick_L108 P tb Q n) x1 x2 x3 x4 x5 c_17 x2 c_17 x5 σ) ∧ (x5 = 0 → wpX8_tick_L155 P tb Q (wpX8_tick_L108 P tb Q n) x1 x2 x3 x4 x5 c_17 x1 c_17 x5 σ)))))))
def wpX8_tick_L76 (P : Nat) (tb : Nat → Int32) (Q : Int32 → Sg → Prop) : Nat → Int32 → Int32 → Int32 → Int32 → Sg → Prop
  | 0, _, _, _, _, _ => False
  | n + 1, x1, x2, x3, x4, σ => (((nI P) ≤ x4 → ∃ nn, wpX8_tick_L108 P tb Q nn x1 x2 x3 0 0 σ) ∧ (¬ ((nI P) ≤ x4) → (vp_in x4 P ∧ ∀ c_13 : Nat, c_13 = 9 + 113 * x4.toNatClampNeg → wpX7_prepare c_13 σ (fun σ14 => ∀ x4_15 : Int32, x4_15 = x4 + 1 → (wpX8_tick_L76 P tb Q n) x1 x2 x3 x4_15 σ14))))
def wpX8_tick_L37 (P : Nat) (tb : Nat → Int32) (Q : Int32 → Sg → Prop) : Nat → Int32 → Int32 → Int32 → Int32 → Sg → Prop
  | 0, _, _, _, _, _ => False
  | n + 1, x1, x2, x3, x4, σ => (((nI P) ≤ x4 → ∃ nn, wpX8_tick_L76 P tb Q nn x1 x2 x3 0 σ) ∧ (¬ ((nI P) ≤ x4) → (vp_in x4 P ∧ ∀ c_7 : Nat, c_7 = 9 + 113 * x4.toNatClampNeg → wpX7_countDown c_7 σ (fun σ8 => (vp_in x4 P ∧ ∀ c_9 : Nat, c_9 = 51 + 113 * x4.toNatClampNeg → wpX6_countDown c_9 σ8 (fun σ10 => ∀ x4_11 : Int32, x4_11 = x4 + 1 → (wpX8_tick_L37 P tb Q n) x1 x2 x3 x4_11 σ10))))))
def wpX8_tick (P : Nat) (tb : Nat → Int32) (x1 : Int32) (x2 : Int32) (x3 : Int32) (σ : Sg) (Q : Int32 → Sg → Prop) : Prop := ((x1 < 0 → Q (-1) σ) ∧ (¬ (x1 < 0) → ((250 < x1 → Q (-1) σ) ∧ (¬ (250 < x1) → ((x2 < 0 → Q (-1) σ) ∧ (¬ (x2 < 0) → ((x2 ≤ 250 → ∀ σ5 : Sg, σ5 = up2 σ 0 9 ((σ 0 9) + 1) → ∃ nn, wpX8_tick_L37 P tb Q nn x1 x2 x3 0 σ5) ∧ (¬ (x2 ≤ 250) → Q (-1) σ))))))))
set_option maxHeartbeats 8000000 in
set_option maxRecDepth 100000 in
theorem tX8_tick {l : Launch} {G : GG} {P : Nat} {tS : Nat × (Nat → Int32)} (hgo : go G = some tS) {x1 : Int32} {x2 : Int32} {x3 : Int32} {σ : Sg} {Q : Int32 → Sg → Prop} (h0 : isHouse G P) (h : wpX8_tick P tS.2 x1 x2 x3 σ Q) : Ki l G yX8_tick (wB yX8_tick prog_1_method_7_code 8 (Option.some FieldType.int)) ({ frames := 7, cells := 0, slots := 0, locals := 182 }) [.ref (ga G 0), .int x1, .int x2, .int x3] σ Q := by
  refine K_of (cc := cX8_tick) (maxL := 8) (ret := (some .int)) (by decide) rfl (Nat.le_of_ble_eq_true rfl) ?_
  intro p e s m args below meth c ls B hH hl
  obtain ⟨hx, hb, hr, hts, hown, hlk, hml, hK, hX⟩ := B
  replace hl : lv_has ls 8 [(0, .ref (ga G 0)), (1, .int x1), (2, .int x2), (3, .int x3)] := hl
  have hXN : NWs s := XS.nw hX hgo
  have hB : ∀ w ∈ BIG, w.before args s = true := fun w h9 => hts w (List.mem_cons_of_mem _ h9)
  clear hts
  have k13 := hB _ bw2_124
  have k36 := hB _ bw2_121
  have k42 := hB _ bw2_122
  have k52 := hB _ bw2_123
  have k84 := hB _ bw2_125
  have k94 : (Cond.fieldLinkNest RX8 94 "BearerHouse$Carrier" "sendings" "I" "BearerHouse").before args s = true := va_Nw.use rfl (hXN.1 ("BearerHouse", 94, "BearerHouse$Carrier", "sendings", "I", "BearerHouse") (List.mem_of_getElem? (i := 41) rfl))
  have k101 : (Cond.fieldLinkNest RX8 101 "BearerHouse$Carrier" "size" "I" "BearerHouse").before args s = true := va_Nw.use rfl (hXN.1 ("BearerHouse", 101, "BearerHouse$Carrier", "size", "I", "BearerHouse") (List.mem_of_getElem? (i := 0) rfl))
  have k108 : (Cond.fieldLinkNest RX8 108 "BearerHouse$Carrier" "air" "LBearerHouse$Air;" "BearerHouse").before args s = true := va_Nw.use rfl (hXN.1 ("BearerHouse", 108, "BearerHouse$Carrier", "air", "LBearerHouse$Air;", "BearerHouse") (List.mem_of_getElem? (i := 1) rfl))
  have L108 : ∀ (n108 : Nat) (x1 : Int32) (x2 : Int32) (x3 : Int32) (x4 : Int32) (x5 : Int32) (σ : Sg) (H : Heap) (locs : List Loc) (ls : Array Slot), Hx G (aA G s.heap.size) s σ H locs → lv_has ls 8 [(0, .ref (ga G 0)), (1, .int x1), (2, .int x2), (3, .int x3), (4, .int x4), (5, .int x5)] → wpX8_tick_L108 P tS.2 Q n108 x1 x2 x3 x4 x5 σ → W p l e ({ frames := 7, cells := 0, slots := 0, locals := 182 }) s m args below meth c H locs 0 0 (Zi G Q below args s) (F0 m 108 ls []) := by
    intro n108
    induction n108 with
    | zero =>
      intro x1 x2 x3 x4 x5 σ H locs ls hH hl h
      exact False.elim h
    | succ n108 ih108 =>
      have L258 : ∀ (x1 : Int32) (x2 : Int32) (x3 : Int32) (x4 : Int32) (x5 : Int32) (σ : Sg) (H : Heap) (locs : List Loc) (ls : Array Slot), Hx G (aA G s.heap.size) s σ H locs → lv_has ls 8 [(0, .ref (ga G 0)), (1, .int x1), (2, .int x2), (3, .int x3), (4, .int x4), (5, .int x5)] → wpX8_tick_L258 P tS.2 Q (wpX8_tick_L108 P tS.2 Q n108) x1 x2 x3 x4 x5 σ → W p l e ({ frames := 7, cells := 0, slots := 0, locals := 182 }) s m args below meth c H locs 0 0 (Zi G Q below args s) (F0 m 258 ls []) := by
        intro x1 x2 x3 x4 x5 σ H locs ls hH hl h
        unfold wpX8_tick_L258 at h
        obtain ⟨x5_25, ex5_25⟩ : ∃ y : Int32, y = x5 + 1 := ⟨_, rfl⟩
        replace h := h x5_25 ex5_25
        refine lv_iinc (v := x5_25) (lv' := [(5, .int x5_25), (0, .ref (ga G 0)), (1, .int x1), (2, .int x2), (3, .int x3), (4, .int x4)]) hx hb dX8_tick_258 hl (k := 5) rfl (by rw [ex5_25]; rfl) (by decide) rfl (fun ls hl => ?_)
        refine lv_goto (tgt := 108) hx hb dX8_tick_261 (by decide) ?_
        exact ih108 x1 x2 x3 x4 x5_25 σ _ _ ls hH (lv_sub hl [1, 2, 3, 4, 5, 0] rfl) h
      have L255 : ∀ (x1 : Int32) (x2 : Int32) (x3 : Int32) (x4 : Int32) (x5 : Int32) (z0 : Int32) (y1 : Nat) (hy1 : isCarrier G y1) (σ : Sg) (H : Heap) (locs : List Loc) (ls : Array Slot), Hx G (aA G s.heap.size) s σ H locs → lv_has ls 8 [(0, .ref (ga G 0)), (1, .int x1), (2, .int x2), (3, .int x3), (4, .int x4), (5, .int x5)] → wpX8_tick_L255 P tS.2 Q (wpX8_tick_L108 P tS.2 Q n108) x1 x2 x3 x4 x5 z0 y1 σ → W p l e ({ frames := 7, cells := 0, slots := 0, locals := 182 }) s m args below meth c H locs 0 0 (Zi G Q below args s) (F0 m 255 ls [.int z0, .ref (ga G y1), .ref (ga G 0)]) := by
        intro x1 x2 x3 x4 x5 z0 y1 hy1 σ H locs ls hH hl h
        unfold wpX8_tick_L255 at h
        refine g_callVv (As := [.ref (ga G y1), .int z0]) (rest := []) ⟨hx, hb, hml, hown, hB⟩ hK hX aA_hA hH (c0 := 0) (tX8_takeAnswer (tS := tS) hgo h0 hy1 h) (cwV 2 hB gVX8_116 rfl rfl rfl (by decide +kernel) ⟨Nat.le_of_ble_eq_true rfl, Nat.le_of_ble_eq_true rfl⟩) h0.1 rfl rfl hl.1 rfl (lv_room (Nat.le_of_ble_eq_true rfl)) ⟨Nat.zero_le _, Nat.zero_le _⟩ dX8_tick_255 (fun σ31 H locs h hH => ?_)
        exact L258 x1 x2 x3 x4 x5 σ31 _ _ ls hH (lv_sub hl [0, 1, 2, 3, 4, 5] rfl) h
      have L236 : ∀ (x1 : Int32) (x2 : Int32) (x3 : Int32) (x4 : Int32) (x5 : Int32) (c6 : Nat) (hc6 : isCarrier G c6) (σ : Sg) (H : Heap) (locs : List Loc) (ls : Array Slot), Hx G (aA G s.heap.size) s σ H locs → lv_has ls 8 [(0, .ref (ga G 0)), (1, .int x1), (2, .int x2), (3, .int x3), (4, .int x4), (5, .int x5), (6, .ref (ga G c6))] → wpX8_tick_L236 P tS.2 Q (wpX8_tick_L108 P tS.2 Q n108) x1 x2 x3 x4 x5 c6 σ → W p l e ({ frames := 7, cells := 0, slots := 0, locals := 182 }) s m args below meth c H locs 0 0 (Zi G Q below args s) (F0 m 236 ls []) := by
        intro x1 x2 x3 x4 x5 c6 hc6 σ H locs ls hH hl h
        unfold wpX8_tick_L236 at h
        refine lv_aload_n hx hb dX8_tick_236 rfl (lv_at hl 0 rfl) ?_
        refine lv_aload hx hb dX8_tick_237 (lv_at hl 6 rfl) ?_
        refine lv_iload_n hx hb dX8_tick_239 rfl (lv_at hl 3 rfl) ?_
        refine lv_iload hx hb dX8_tick_240 (lv_at hl 5 rfl) ?_
        refine lv_iconst (v := 2) hx hb dX8_tick_242 (by decide) ?_
        refine lv_iadd hx hb dX8_tick_243 ?_
        refine lv_ishr hx hb dX8_tick_244 ?_
        refine lv_iconst (v := 1) hx hb dX8_tick_245 (by decide) ?_
        refine lv_iand hx hb dX8_tick_246 ?_
        refine lv_if_eq (tgt := 254) hx hb dX8_tick_247 (by decide) (fun q30 => ?_) (fun q30 => ?_)
        · replace h := h.1 q30
          refine lv_iconst (v := 0) hx hb dX8_tick_254 (by decide) ?_
          exact L255 x1 x2 x3 x4 x5 0 c6 hc6 σ _ _ ls hH (lv_sub hl [0, 1, 2, 3, 4, 5] rfl) h
        · replace h := h.2 q30
          refine lv_iconst (v := 1) hx hb dX8_tick_250 (by decide) ?_
          refine lv_goto (tgt := 255) hx hb dX8_tick_251 (by decide) ?_
          exact L255 x1 x2 x3 x4 x5 1 c6 hc6 σ _ _ ls hH (lv_sub hl [0, 1, 2, 3, 4, 5] rfl) h
      have L201 : ∀ (x1 : Int32) (x2 : Int32) (x3 : Int32) (x4 : Int32) (x5 : Int32) (c6 : Nat) (hc6 : isCarrier G c6) (z0 : Int32) (σ : Sg) (H : Heap) (locs : List Loc) (ls : Array Slot), Hx G (aA G s.heap.size) s σ H locs → lv_has ls 8 [(0, .ref (ga G 0)), (1, .int x1), (2, .int x2), (3, .int x3), (4, .int x4), (5, .int x5), (6, .ref (ga G c6))] → wpX8_tick_L201 P tS.2 Q (wpX8_tick_L108 P tS.2 Q n108) x1 x2 x3 x4 x5 c6 z0 σ → W p l e ({ frames := 7, cells := 0, slots := 0, locals := 182 }) s m args below meth c H locs 0 0 (Zi G Q below args s) (F0 m 201 ls [.int z0]) := by
        intro x1 x2 x3 x4 x5 c6 hc6 z0 σ H locs ls hH hl h
        unfold wpX8_tick_L201 at h
        refine lv_istore (lv' := [(7, .int z0), (0, .ref (ga G 0)), (1, .int x1), (2, .int x2), (3, .int x3), (4, .int x4), (5, .int x5), (6, .ref (ga G c6))]) hx hb dX8_tick_201 hl (by decide) rfl (fun ls hl => ?_)
        refine lv_aload_n hx hb dX8_tick_203 rfl (lv_at hl 1 rfl) ?_
        refine lv_aload hx hb dX8_tick_204 (lv_at hl 7 rfl) ?_
        refine lv_iload hx hb dX8_tick_206 (lv_at hl 0 rfl) ?_
        refine g_callVi (As := [.ref (ga G c6), .int z0]) (rest := []) ⟨hx, hb, hml, hown, hB⟩ hK hX aA_hA hH (c0 := 0) (tX8_countSending (tS := tS) hgo h0 hc6 h) (cwV 2 hB gVX8_104 rfl rfl rfl (by decide +kernel) ⟨Nat.le_of_ble_eq_true rfl, Nat.le_of_ble_eq_true rfl⟩) h0.1 rfl rfl hl.1 rfl (lv_room (Nat.le_of_ble_eq_true rfl)) ⟨Nat.zero_le _, Nat.zero_le _⟩ dX8_tick_208 (fun r26 σ26 H locs h hH => ?_)
        refine lv_if_eq (tgt := 236) hx hb dX8_tick_211 (by decide) (fun q27 => ?_) (fun q27 => ?_)
        · replace h := h.1 q27
          exact L236 x1 x2 x3 x4 x5 c6 hc6 σ26 _ _ ls hH (lv_sub hl [1, 2, 3, 4, 5, 6, 7] rfl) h
        · replace h := h.2 q27
          refine lv_iload hx hb dX8_tick_214 (lv_at hl 5 rfl) ?_
          refine lv_iconst (v := 4) hx hb dX8_tick_216 (by decide) ?_
          refine lv_iload hx hb dX8_tick_217 (lv_at hl 6 rfl) ?_
          refine lv_ishl hx hb dX8_tick_219 ?_
          refine lv_ior hx hb dX8_tick_220 ?_
          refine lv_topi (fun x4_28 ex4_28 => ?_)
          replace h := h x4_28 ex4_28
          refine lv_istore (lv' := [(4, .int x4_28), (7, .int z0), (0, .ref (ga G 0)), (1, .int x1), (2, .int x2), (3, .int x3), (5, .int x5), (6, .ref (ga G c6))]) hx hb dX8_tick_221 hl (by decide) rfl (fun ls hl => ?_)
          refine lv_aload_n hx hb dX8_tick_223 rfl (lv_at hl 2 rfl) ?_
          refine lv_iconst (v := 1) hx hb dX8_tick_224 (by decide) ?_
          refine lv_iload hx hb dX8_tick_225 (lv_at hl 6 rfl) ?_
          refine lv_isub hx hb dX8_tick_227 ?_
          refine lv_aload hx hb dX8_tick_228 (lv_at hl 7 rfl) ?_
          refine g_getrN hx hb hB inB1 hown hK hH (c0 := c6) hc6.1 rfl 0 (by decide) k108 rfl (c1 := c6 + 1) rfl dX8_tick_230 ?_
          refine g_callVv (As := [.int (1 - x5), .ref (ga G (c6 + 1))]) (rest := []) ⟨hx, hb, hml, hown, hB⟩ hK hX aA_hA hH (c0 := 0) (tX8_workOn (tS := tS) hgo h0 hc6.2 h) (cwV 2 hB gVX8_112 rfl rfl rfl (by decide +kernel) ⟨Nat.le_of_ble_eq_true rfl, Nat.le_of_ble_eq_true rfl⟩) h0.1 rfl rfl hl.1 rfl (lv_room (Nat.le_of_ble_eq_true rfl)) ⟨Nat.zero_le _, Nat.zero_le _⟩ dX8_tick_233 (fun σ29 H locs h hH => ?_)
          exact L236 x1 x2 x3 x4_28 x5 c6 hc6 σ29 _ _ ls hH (lv_sub hl [2, 3, 4, 5, 0, 6, 7] rfl) h
      have L158 : ∀ (x1 : Int32) (x2 : Int32) (x3 : Int32) (x4 : Int32) (x5 : Int32) (c6 : Nat) (hc6 : isCarrier G c6) (σ : Sg) (H : Heap) (locs : List Loc) (ls : Array Slot), Hx G (aA G s.heap.size) s σ H locs → lv_has ls 8 [(0, .ref (ga G 0)), (1, .int x1), (2, .int x2), (3, .int x3), (4, .int x4), (5, .int x5), (6, .ref (ga G c6))] → wpX8_tick_L158 P tS.2 Q (wpX8_tick_L108 P tS.2 Q n108) x1 x2 x3 x4 x5 c6 σ → W p l e ({ frames := 7, cells := 0, slots := 0, locals := 182 }) s m args below meth c H locs 0 0 (Zi G Q below args s) (F0 m 158 ls []) := by
        intro x1 x2 x3 x4 x5 c6 hc6 σ H locs ls hH hl h
        unfold wpX8_tick_L158 at h
        refine lv_aload_n hx hb dX8_tick_158 rfl (lv_at hl 0 rfl) ?_
        refine g_getr hx hb hB inB8 hown hK hH (c0 := 0) h0.1 rfl 8 (by decide) k13 rfl (c1 := 2) rfl dX8_tick_159 ?_
        refine lv_iload hx hb dX8_tick_162 (lv_at hl 5 rfl) ?_
        refine lv_aload hx hb dX8_tick_164 (lv_at hl 6 rfl) ?_
        refine g_getiN hx hb hB inB1 hown hK hH (c0 := c6) hc6.1 rfl 1 (by decide) k101 rfl rfl dX8_tick_166 ?_
        obtain ⟨hi20, h⟩ := h
        refine g_iast hx hb hK hH (c0 := 2) (i := x5) h0.2.2.1 hi20 dX8_tick_169 (fun σ20 eσ20 H locs hH => ?_)
        replace h := h σ20 eσ20
        refine lv_aload hx hb dX8_tick_170 (lv_at hl 6 rfl) ?_
        refine g_getiN hx hb hB inB1 hown hK hH (c0 := c6) hc6.1 rfl 1 (by decide) k101 rfl rfl dX8_tick_172 ?_
        refine lv_if_le (tgt := 258) hx hb dX8_tick_175 (by decide) (fun q21 => ?_) (fun q21 => ?_)
        · replace h := h.1 q21
          exact L258 x1 x2 x3 x4 x5 σ20 _ _ ls hH (lv_sub hl [0, 1, 2, 3, 4, 5] rfl) h
        · replace h := h.2 q21
          refine lv_iload hx hb dX8_tick_178 (lv_at hl 4 rfl) ?_
          refine lv_iconst (v := 1) hx hb dX8_tick_180 (by decide) ?_
          refine lv_iload hx hb dX8_tick_181 (lv_at hl 5 rfl) ?_
          refine lv_ishl hx hb dX8_tick_183 ?_
          refine lv_ior hx hb dX8_tick_184 ?_
          refine lv_topi (fun x4_22 ex4_22 => ?_)
          replace h := h x4_22 ex4_22
          refine lv_istore (lv' := [(4, .int x4_22), (0, .ref (ga G 0)), (1, .int x1), (2, .int x2), (3, .int x3), (5, .int x5), (6, .ref (ga G c6))]) hx hb dX8_tick_185 hl (by decide) rfl (fun ls hl => ?_)
          refine lv_iload_n hx hb dX8_tick_187 rfl (lv_at hl 4 rfl) ?_
          refine lv_iload hx hb dX8_tick_188 (lv_at hl 5 rfl) ?_
          refine lv_ishr hx hb dX8_tick_190 ?_
          refine lv_iconst (v := 1) hx hb dX8_tick_191 (by decide) ?_
          refine lv_iand hx hb dX8_tick_192 ?_
          refine lv_if_eq (tgt := 200) hx hb dX8_tick_193 (by decide) (fun q23 => ?_) (fun q23 => ?_)
          · replace h := h.1 q23
            refine lv_iconst (v := 0) hx hb dX8_tick_200 (by decide) ?_
            exact L201 x1 x2 x3 x4_22 x5 c6 hc6 0 σ20 _ _ ls hH (lv_sub hl [1, 2, 3, 4, 0, 5, 6] rfl) h
          · replace h := h.2 q23
            refine lv_iconst (v := 1) hx hb dX8_tick_196 (by decide) ?_
            refine lv_goto (tgt := 201) hx hb dX8_tick_197 (by decide) ?_
            exact L201 x1 x2 x3 x4_22 x5 c6 hc6 1 σ20 _ _ ls hH (lv_sub hl [1, 2, 3, 4, 0, 5, 6] rfl) h
      have L155 : ∀ (x1 : Int32) (x2 : Int32) (x3 : Int32) (x4 : Int32) (x5 : Int32) (c6 : Nat) (hc6 : isCarrier G c6) (z0 : Int32) (y1 : Nat) (hy1 : isCarrier G y1) (z2 : Int32) (σ : Sg) (H : Heap) (locs : List Loc) (ls : Array Slot), Hx G (aA G s.heap.size) s σ H locs → lv_has ls 8 [(0, .ref (ga G 0)), (1, .int x1), (2, .int x2), (3, .int x3), (4, .int x4), (5, .int x5), (6, .ref (ga G c6))] → wpX8_tick_L155 P tS.2 Q (wpX8_tick_L108 P tS.2 Q n108) x1 x2 x3 x4 x5 c6 z0 y1 z2 σ → W p l e ({ frames := 7, cells := 0, slots := 0, locals := 182 }) s m args below meth c H locs 0 0 (Zi G Q below args s) (F0 m 155 ls [.int z0, .ref (ga G y1), .int z2, .ref (ga G 0)]) := by
        intro x1 x2 x3 x4 x5 c6 hc6 z0 y1 hy1 z2 σ H locs ls hH hl h
        unfold wpX8_tick_L155 at h
        refine g_callVv (As := [.int z2, .ref (ga G y1), .int z0]) (rest := []) ⟨hx, hb, hml, hown, hB⟩ hK hX aA_hA hH (c0 := 0) (tX8_fillBlock (tS := tS) hgo h0 hy1 h) (cwV 3 hB gVX8_97 rfl rfl rfl (by decide +kernel) ⟨Nat.le_of_ble_eq_true rfl, Nat.le_of_ble_eq_true rfl⟩) h0.1 rfl rfl hl.1 rfl (lv_room (Nat.le_of_ble_eq_true rfl)) ⟨Nat.zero_le _, Nat.zero_le _⟩ dX8_tick_155 (fun σ24 H locs h hH => ?_)
        exact L158 x1 x2 x3 x4 x5 c6 hc6 σ24 _ _ ls hH (lv_sub hl [0, 1, 2, 3, 4, 5, 6] rfl) h
      intro x1 x2 x3 x4 x5 σ H locs ls hH hl h
      unfold wpX8_tick_L108 at h
      refine lv_iload hx hb dX8_tick_108 (lv_at hl 5 rfl) ?_
      refine lv_iconst (v := 2) hx hb dX8_tick_110 (by decide) ?_
      refine lv_icmp_ge (tgt := 264) hx hb dX8_tick_111 (by decide) (fun q16 => ?_) (fun q16 => ?_)
      · replace h := h.1 q16
        refine lv_iload hx hb dX8_tick_264 (lv_at hl 4 rfl) ?_
        exact g_iret hx hb hr hK hlk h hH dX8_tick_266
      · replace h := h.2 q16
        refine lv_aload_n hx hb dX8_tick_114 rfl (lv_at hl 0 rfl) ?_
        refine g_getr hx hb hB inB8 hown hK hH (c0 := 0) h0.1 rfl 7 (by decide) k52 rfl (c1 := 9 + 113 * P) rfl dX8_tick_115 ?_
        refine lv_iload hx hb dX8_tick_118 (lv_at hl 5 rfl) ?_
        refine lv_iconst (v := 4) hx hb dX8_tick_120 (by decide) ?_
        refine lv_imul hx hb dX8_tick_121 ?_
        refine lv_aload_n hx hb dX8_tick_122 rfl (lv_at hl 0 rfl) ?_
        refine g_geti hx hb hB inB8 hown hK hH (c0 := 0) h0.1 rfl 9 (by decide) k84 rfl rfl dX8_tick_123 ?_
        refine lv_iconst (v := 3) hx hb dX8_tick_126 (by decide) ?_
        refine lv_iand hx hb dX8_tick_127 ?_
        refine lv_iadd hx hb dX8_tick_128 ?_
        obtain ⟨hi17, h⟩ := h
        refine g_aald hx hb hK hH (c0 := 9 + 113 * P) h0.2.2.2.2.2.2.1 hi17 dX8_tick_129 ?_
        have hp17 : isCarrier G (10 + 113 * P + 3 * ((x5 * 4) + ((σ 0 9) &&& 3)).toNatClampNeg) := h0.2.2.2.2.2.2.2.2.2 _ (vp_lt hi17)
        obtain ⟨c_17, ec_17⟩ : ∃ y : Nat, y = 10 + 113 * P + 3 * ((x5 * 4) + ((σ 0 9) &&& 3)).toNatClampNeg := ⟨_, rfl⟩
        replace h := h c_17 ec_17
        rw [← ec_17] at hp17
        refine W.eq (g2 := F0 m 130 ls [.ref (ga G c_17)]) (by rw [ec_17]) ?_
        refine lv_astore (lv' := [(6, .ref (ga G c_17)), (0, .ref (ga G 0)), (1, .int x1), (2, .int x2), (3, .int x3), (4, .int x4), (5, .int x5)]) hx hb dX8_tick_130 hl (by decide) rfl (fun ls hl => ?_)
        refine lv_aload hx hb dX8_tick_132 (lv_at hl 0 rfl) ?_
        refine g_getiN hx hb hB inB1 hown hK hH (c0 := c_17) hp17.1 rfl 2 (by decide) k94 rfl rfl dX8_tick_134 ?_
        refine lv_if_ne (tgt := 158) hx hb dX8_tick_137 (by decide) (fun q18 => ?_) (fun q18 => ?_)
        · replace h := h.1 q18
          exact L158 x1 x2 x3 x4 x5 c_17 hp17 σ _ _ ls hH (lv_sub hl [1, 2, 3, 4, 5, 6, 0] rfl) h
        · replace h := h.2 q18
          refine lv_aload_n hx hb dX8_tick_140 rfl (lv_at hl 1 rfl) ?_
          refine lv_iload hx hb dX8_tick_141 (lv_at hl 6 rfl) ?_
          refine lv_aload hx hb dX8_tick_143 (lv_at hl 0 rfl) ?_
          refine lv_iload hx hb dX8_tick_145 (lv_at hl 6 rfl) ?_
          refine lv_if_ne (tgt := 154) hx hb dX8_tick_147 (by decide) (fun q19 => ?_) (fun q19 => ?_)
          · replace h := h.1 q19
            refine lv_iload_n hx hb dX8_tick_154 rfl (lv_at hl 3 rfl) ?_
            exact L155 x1 x2 x3 x4 x5 c_17 hp17 x2 c_17 hp17 x5 σ _ _ ls hH (lv_sub hl [1, 2, 3, 4, 5, 6, 0] rfl) h
          · replace h := h.2 q19
            refine lv_iload_n hx hb dX8_tick_150 rfl (lv_at hl 2 rfl) ?_
            refine lv_goto (tgt := 155) hx hb dX8_tick_151 (by decide) ?_
            exact L155 x1 x2 x3 x4 x5 c_17 hp17 x1 c_17 hp17 x5 σ _ _ ls hH (lv_sub hl [1, 2, 3, 4, 5, 6, 0] rfl) h
  have L76 : ∀ (n76 : Nat) (x1 : Int32) (x2 : Int32) (x3 : Int32) (x4 : Int32) (σ : Sg) (H : Heap) (locs : List Loc) (ls : Array Slot), Hx G (aA G s.heap.size) s σ H locs → lv_has ls 8 [(0, .ref (ga G 0)), (1, .int x1), (2, .int x2), (3, .int x3), (4, .int x4)] → wpX8_tick_L76 P tS.2 Q n76 x1 x2 x3 x4 σ → W p l e ({ frames := 7, cells := 0, slots := 0, locals := 182 }) s m args below meth c H locs 0 0 (Zi G Q below args s) (F0 m 76 ls []) := by
    intro n76
    induction n76 with
    | zero =>
      intro x1 x2 x3 x4 σ H locs ls hH hl h
      exact False.elim h
    | succ n76 ih76 =>
      intro x1 x2 x3 x4 σ H locs ls hH hl h
      unfold wpX8_tick_L76 at h
      refine lv_iload hx hb dX8_tick_76 (lv_at hl 4 rfl) ?_
      refine lv_aload_n hx hb dX8_tick_78 rfl (lv_at hl 0 rfl) ?_
      refine g_getr hx hb hB inB8 hown hK hH (c0 := 0) h0.1 rfl 5 (by decide) k36 rfl (c1 := 7) rfl dX8_tick_79 ?_
      refine g_alenr hx hb hK hH (c0 := 7) h0.2.2.2.2.1 dX8_tick_82 ?_
      refine lv_icmp_ge (tgt := 102) hx hb dX8_tick_83 (by decide) (fun q12 => ?_) (fun q12 => ?_)
      · replace h := h.1 q12
        refine lv_iconst (v := 0) hx hb dX8_tick_102 (by decide) ?_
        refine lv_istore (lv' := [(4, .int 0), (0, .ref (ga G 0)), (1, .int x1), (2, .int x2), (3, .int x3)]) hx hb dX8_tick_103 hl (by decide) rfl (fun ls hl => ?_)
        refine lv_iconst (v := 0) hx hb dX8_tick_105 (by decide) ?_
        refine lv_istore (lv' := [(5, .int 0), (4, .int 0), (0, .ref (ga G 0)), (1, .int x1), (2, .int x2), (3, .int x3)]) hx hb dX8_tick_106 hl (by decide) rfl (fun ls hl => ?_)
        obtain ⟨nn, h⟩ := h
        exact L108 nn x1 x2 x3 0 0 σ _ _ ls hH (lv_sub hl [2, 3, 4, 5, 1, 0] rfl) h
      · replace h := h.2 q12
        refine lv_aload_n hx hb dX8_tick_86 rfl (lv_at hl 0 rfl) ?_
        refine g_getr hx hb hB inB8 hown hK hH (c0 := 0) h0.1 rfl 5 (by decide) k36 rfl (c1 := 7) rfl dX8_tick_87 ?_
        refine lv_iload hx hb dX8_tick_90 (lv_at hl 4 rfl) ?_
        obtain ⟨hi13, h⟩ := h
        refine g_aald hx hb hK hH (c0 := 7) h0.2.2.2.2.1 hi13 dX8_tick_92 ?_
        have hp13 : isSender G (9 + 113 * x4.toNatClampNeg) := h0.2.2.2.2.2.2.2.1 _ (vp_lt hi13)
        obtain ⟨c_13, ec_13⟩ : ∃ y : Nat, y = 9 + 113 * x4.toNatClampNeg := ⟨_, rfl⟩
        replace h := h c_13 ec_13
        rw [← ec_13] at hp13
        refine W.eq (g2 := F0 m 93 ls [.ref (ga G c_13)]) (by rw [ec_13]) ?_
        refine g_callVv (As := []) (rest := []) ⟨hx, hb, hml, hown, hB⟩ hK hX aA_hA hH (c0 := c_13) (tX7_prepare (tS := tS) hgo hp13 h) (cwV 0 hB gVX8_91 rfl rfl rfl (by decide +kernel) ⟨Nat.le_of_ble_eq_true rfl, Nat.le_of_ble_eq_true rfl⟩) hp13.1 rfl rfl hl.1 rfl (lv_room (Nat.le_of_ble_eq_true rfl)) ⟨Nat.zero_le _, Nat.zero_le _⟩ dX8_tick_93 (fun σ14 H locs h hH => ?_)
        obtain ⟨x4_15, ex4_15⟩ : ∃ y : Int32, y = x4 + 1 := ⟨_, rfl⟩
        replace h := h x4_15 ex4_15
        refine lv_iinc (v := x4_15) (lv' := [(4, .int x4_15), (0, .ref (ga G 0)), (1, .int x1), (2, .int x2), (3, .int x3)]) hx hb dX8_tick_96 hl (k := 4) rfl (by rw [ex4_15]; rfl) (by decide) rfl (fun ls hl => ?_)
        refine lv_goto (tgt := 76) hx hb dX8_tick_99 (by decide) ?_
        exact ih76 x1 x2 x3 x4_15 σ14 _ _ ls hH (lv_sub hl [1, 2, 3, 4, 0] rfl) h
  have L37 : ∀ (n37 : Nat) (x1 : Int32) (x2 : Int32) (x3 : Int32) (x4 : Int32) (σ : Sg) (H : Heap) (locs : List Loc) (ls : Array Slot), Hx G (aA G s.heap.size) s σ H locs → lv_has ls 8 [(0, .ref (ga G 0)), (1, .int x1), (2, .int x2), (3, .int x3), (4, .int x4)] → wpX8_tick_L37 P tS.2 Q n37 x1 x2 x3 x4 σ → W p l e ({ frames := 7, cells := 0, slots := 0, locals := 182 }) s m args below meth c H locs 0 0 (Zi G Q below args s) (F0 m 37 ls []) := by
    intro n37
    induction n37 with
    | zero =>
      intro x1 x2 x3 x4 σ H locs ls hH hl h
      exact False.elim h
    | succ n37 ih37 =>
      intro x1 x2 x3 x4 σ H locs ls hH hl h
      unfold wpX8_tick_L37 at h
      refine lv_iload hx hb dX8_tick_37 (lv_at hl 4 rfl) ?_
      refine lv_aload_n hx hb dX8_tick_39 rfl (lv_at hl 0 rfl) ?_
      refine g_getr hx hb hB inB8 hown hK hH (c0 := 0) h0.1 rfl 5 (by decide) k36 rfl (c1 := 7) rfl dX8_tick_40 ?_
      refine g_alenr hx hb hK hH (c0 := 7) h0.2.2.2.2.1 dX8_tick_43 ?_
      refine lv_icmp_ge (tgt := 73) hx hb dX8_tick_44 (by decide) (fun q6 => ?_) (fun q6 => ?_)
      · replace h := h.1 q6
        refine lv_iconst (v := 0) hx hb dX8_tick_73 (by decide) ?_
        refine lv_istore (lv' := [(4, .int 0), (0, .ref (ga G 0)), (1, .int x1), (2, .int x2), (3, .int x3)]) hx hb dX8_tick_74 hl (by decide) rfl (fun ls hl => ?_)
        obtain ⟨nn, h⟩ := h
        exact L76 nn x1 x2 x3 0 σ _ _ ls hH (lv_sub hl [1, 2, 3, 4, 0] rfl) h
      · replace h := h.2 q6
        refine lv_aload_n hx hb dX8_tick_47 rfl (lv_at hl 0 rfl) ?_
        refine g_getr hx hb hB inB8 hown hK hH (c0 := 0) h0.1 rfl 5 (by decide) k36 rfl (c1 := 7) rfl dX8_tick_48 ?_
        refine lv_iload hx hb dX8_tick_51 (lv_at hl 4 rfl) ?_
        obtain ⟨hi7, h⟩ := h
        refine g_aald hx hb hK hH (c0 := 7) h0.2.2.2.2.1 hi7 dX8_tick_53 ?_
        have hp7 : isSender G (9 + 113 * x4.toNatClampNeg) := h0.2.2.2.2.2.2.2.1 _ (vp_lt hi7)
        obtain ⟨c_7, ec_7⟩ : ∃ y : Nat, y = 9 + 113 * x4.toNatClampNeg := ⟨_, rfl⟩
        replace h := h c_7 ec_7
        rw [← ec_7] at hp7
        refine W.eq (g2 := F0 m 54 ls [.ref (ga G c_7)]) (by rw [ec_7]) ?_
        refine g_callVv (As := []) (rest := []) ⟨hx, hb, hml, hown, hB⟩ hK hX aA_hA hH (c0 := c_7) (tX7_countDown (tS := tS) hgo hp7 h) (cwV 0 hB gVX8_87 rfl rfl rfl (by decide +kernel) ⟨Nat.le_of_ble_eq_true rfl, Nat.le_of_ble_eq_true rfl⟩) hp7.1 rfl rfl hl.1 rfl (lv_room (Nat.le_of_ble_eq_true rfl)) ⟨Nat.zero_le _, Nat.zero_le _⟩ dX8_tick_54 (fun σ8 H locs h hH => ?_)
        refine lv_aload_n hx hb dX8_tick_57 rfl (lv_at hl 0 rfl) ?_
        refine g_getr hx hb hB inB8 hown hK hH (c0 := 0) h0.1 rfl 6 (by decide) k42 rfl (c1 := 8) rfl dX8_tick_58 ?_
        refine lv_iload hx hb dX8_tick_61 (lv_at hl 4 rfl) ?_
        obtain ⟨hi9, h⟩ := h
        refine g_aald hx hb hK hH (c0 := 8) h0.2.2.2.2.2.1 hi9 dX8_tick_63 ?_
        have hp9 : isReceiver G (51 + 113 * x4.toNatClampNeg) := h0.2.2.2.2.2.2.2.2.1 _ (vp_lt hi9)
        obtain ⟨c_9, ec_9⟩ : ∃ y : Nat, y = 51 + 113 * x4.toNatClampNeg := ⟨_, rfl⟩
        replace h := h c_9 ec_9
        rw [← ec_9] at hp9
        refine W.eq (g2 := F0 m 64 ls [.ref (ga G c_9)]) (by rw [ec_9]) ?_
        refine g_callVv (As := []) (rest := []) ⟨hx, hb, hml, hown, hB⟩ hK hX aA_hA hH (c0 := c_9) (tX6_countDown (tS := tS) hgo hp9 h) (cwV 0 hB gVX8_90 rfl rfl rfl (by decide +kernel) ⟨Nat.le_of_ble_eq_true rfl, Nat.le_of_ble_eq_true rfl⟩) hp9.1 rfl rfl hl.1 rfl (lv_room (Nat.le_of_ble_eq_true rfl)) ⟨Nat.zero_le _, Nat.zero_le _⟩ dX8_tick_64 (fun σ10 H locs h hH => ?_)
        obtain ⟨x4_11, ex4_11⟩ : ∃ y : Int32, y = x4 + 1 := ⟨_, rfl⟩
        replace h := h x4_11 ex4_11
        refine lv_iinc (v := x4_11) (lv' := [(4, .int x4_11), (0, .ref (ga G 0)), (1, .int x1), (2, .int x2), (3, .int x3)]) hx hb dX8_tick_67 hl (k := 4) rfl (by rw [ex4_11]; rfl) (by decide) rfl (fun ls hl => ?_)
        refine lv_goto (tgt := 37) hx hb dX8_tick_70 (by decide) ?_
        exact ih37 x1 x2 x3 x4_11 σ10 _ _ ls hH (lv_sub hl [1, 2, 3, 4, 0] rfl) h
  unfold wpX8_tick at h
  refine lv_iload_n hx hb dX8_tick_0 rfl (lv_at hl 1 rfl) ?_
  refine lv_if_lt (tgt := 22) hx hb dX8_tick_1 (by decide) (fun q1 => ?_) (fun q1 => ?_)
  · replace h := h.1 q1
    refine lv_iconst (v := (-1)) hx hb dX8_tick_22 (by decide) ?_
    exact g_iret hx hb hr hK hlk h hH dX8_tick_23
  · replace h := h.2 q1
    refine lv_iload_n hx hb dX8_tick_4 rfl (lv_at hl 1 rfl) ?_
    refine lv_sipush (v := 250) hx hb dX8_tick_5 (by decide) ?_
    refine lv_icmp_gt (tgt := 22) hx hb dX8_tick_8 (by decide) (fun q2 => ?_) (fun q2 => ?_)
    · replace h := h.1 q2
      refine lv_iconst (v := (-1)) hx hb dX8_tick_22 (by decide) ?_
      exact g_iret hx hb hr hK hlk h hH dX8_tick_23
    · replace h := h.2 q2
      refine lv_iload_n hx hb dX8_tick_11 rfl (lv_at hl 2 rfl) ?_
      refine lv_if_lt (tgt := 22) hx hb dX8_tick_12 (by decide) (fun q3 => ?_) (fun q3 => ?_)
      · replace h := h.1 q3
        refine lv_iconst (v := (-1)) hx hb dX8_tick_22 (by decide) ?_
        exact g_iret hx hb hr hK hlk h hH dX8_tick_23
      · replace h := h.2 q3
        refine lv_iload_n hx hb dX8_tick_15 rfl (lv_at hl 2 rfl) ?_
        refine lv_sipush (v := 250) hx hb dX8_tick_16 (by decide) ?_
        refine lv_icmp_le (tgt := 24) hx hb dX8_tick_19 (by decide) (fun q4 => ?_) (fun q4 => ?_)
        · replace h := h.1 q4
          refine lv_aload_n hx hb dX8_tick_24 rfl (lv_at hl 0 rfl) ?_
          refine lv_dup hx hb dX8_tick_25 rfl ?_
          refine g_geti hx hb hB inB8 hown hK hH (c0 := 0) h0.1 rfl 9 (by decide) k84 rfl rfl dX8_tick_26 ?_
          refine lv_iconst (v := 1) hx hb dX8_tick_29 (by decide) ?_
          refine lv_iadd hx hb dX8_tick_30 ?_
          refine g_put hx hb hB inB8 tyX8 tyX8_ok nmX8 hown hK hH (c0 := 0) h0.1 rfl 9 (by decide) k84 rfl rfl rfl rfl rfl dX8_tick_31 (fun σ5 eσ5 H locs hH => ?_)
          replace h := h σ5 eσ5
          refine lv_iconst (v := 0) hx hb dX8_tick_34 (by decide) ?_
          refine lv_istore (lv' := [(4, .int 0), (0, .ref (ga G 0)), (1, .int x1), (2, .int x2), (3, .int x3)]) hx hb dX8_tick_35 hl (by decide) rfl (fun ls hl => ?_)
          obtain ⟨nn, h⟩ := h
          exact L37 nn x1 x2 x3 0 σ5 _ _ ls hH (lv_sub hl [1, 2, 3, 4, 0] rfl) h
        · replace h := h.2 q4
          refine lv_iconst (v := (-1)) hx hb dX8_tick_22 (by decide) ?_
          exact g_iret hx hb hr hK hlk h hH dX8_tick_23
def wpX8_handAllWhole_L49 (P : Nat) (tb : Nat → Int32) (Q : Sg → Prop) (K12 : Int32 → Nat → Int32 → Sg → Prop) (x1 : Int32) (c2 : Nat) (x3 : Int32) (σ : Sg) : Prop := ∀ x3_10 : Int32, x3_10 = x3 + 1 → K12 x1 c2 x3_10 σ
def wpX8_handAllWhole_L12 (P : Nat) (tb : Nat → Int32) (Q : Sg → Prop) : Nat → Int32 → Nat → Int32 → Sg → Prop
  | 0, _, _, _, _ => False
  | n + 1, x1, c2, x3, σ => (((σ c2 3) ≤ x3 → ∀ σ4 : Sg, σ4 = up2 σ (c2 + 2) 3 0 → Q σ4) ∧ (¬ ((σ c2 3) ≤ x3) → wpX6_isWhole c2 x3 σ (fun r5 σ5 => ((r5 = 0 → ∀ σ7 : Sg, σ7 = up2 σ5 (c2 + 2) 3 0 → wpX8_handAllWhole_L49 P tb Q (wpX8_handAllWhole_L12 P tb Q n) x1 c2 x3 σ7) ∧ (¬ (r5 = 0) → wpX6_pieceAt c2 x3 σ5 (fun r8 σ8 => wpX8_hand P tb x1 r8 σ8 (fun σ9 => wpX8_handAllWhole_L49 P tb Q (wpX8_handAllWhole_L12 P tb Q n) x1 c2 x3 σ9)))))))
def wpX8_handAllWhole (P : Nat) (tb : Nat → Int32) (x1 : Int32) (σ : Sg) (Q : Sg → Prop) : Prop := (vp_in x1 P ∧ ∀ c_1 : Nat, c_1 = 51 + 113 * x1.toNatClampNeg → ∀ x3_2 : Int32, x3_2 = σ c_1 2 → ∃ nn, wpX8_handAllWhole_L12 P tb Q nn x1 c_1 x3_2 σ)
set_option maxHeartbeats 8000000 in
set_option maxRecDepth 100000 in
theorem tX8_handAllWhole {l : Launch} {G : GG} {P : Nat} {tS : Nat × (Nat → Int32)} (hgo : go G = some tS) {x1 : Int32} {σ : Sg} {Q : Sg → Prop} (h0 : isHouse G P) (h : wpX8_handAllWhole P tS.2 x1 σ Q) : Kv l G yX8_handAllWhole (wB yX8_handAllWhole prog_1_method_25_code 4 none) ({ frames := 5, cells := 0, slots := 0, locals := 120 }) [.ref (ga G 0), .int x1] σ Q := by
  refine K_of (cc := cX8_handAllWhole) (maxL := 4) (ret := none) (by decide) rfl (Nat.le_of_ble_eq_true rfl) ?_
  intro p e s m args below meth c ls B hH hl
  obtain ⟨hx, hb, hr, hts, hown, hlk, hml, hK, hX⟩ := B
  replace hl : lv_has ls 4 [(0, .ref (ga G 0)), (1, .int x1)] := hl
  have hXN : NWs s := XS.nw hX hgo
  have hB : ∀ w ∈ BIG, w.before args s = true := fun w h9 => hts w (List.mem_cons_of_mem _ h9)
  clear hts
  have k42 := hB _ bw2_122
  have k133 : (Cond.fieldLinkNest RX8 133 "BearerHouse$Receiver" "inbox" "LBearerHouse$Inbox;" "BearerHouse").before args s = true := va_Nw.use rfl (hXN.1 ("BearerHouse", 133, "BearerHouse$Receiver", "inbox", "LBearerHouse$Inbox;", "BearerHouse") (List.mem_of_getElem? (i := 2) rfl))
  have k185 : (Cond.fieldLinkNest RX8 185 "BearerHouse$Receiver" "low" "I" "BearerHouse").before args s = true := va_Nw.use rfl (hXN.1 ("BearerHouse", 185, "BearerHouse$Receiver", "low", "I", "BearerHouse") (List.mem_of_getElem? (i := 14) rfl))
  have k186 : (Cond.fieldLinkNest RX8 186 "BearerHouse$Receiver" "high" "I" "BearerHouse").before args s = true := va_Nw.use rfl (hXN.1 ("BearerHouse", 186, "BearerHouse$Receiver", "high", "I", "BearerHouse") (List.mem_of_getElem? (i := 15) rfl))
  have k319 : (Cond.fieldLinkNest RX8 319 "BearerHouse$Inbox" "isBegun" "Z" "BearerHouse").before args s = true := va_Nw.use rfl (hXN.1 ("BearerHouse", 319, "BearerHouse$Inbox", "isBegun", "Z", "BearerHouse") (List.mem_of_getElem? (i := 34) rfl))
  have L12 : ∀ (n12 : Nat) (x1 : Int32) (c2 : Nat) (hc2 : isReceiver G c2) (x3 : Int32) (σ : Sg) (H : Heap) (locs : List Loc) (ls : Array Slot), Hx G (aA G s.heap.size) s σ H locs → lv_has ls 4 [(0, .ref (ga G 0)), (1, .int x1), (2, .ref (ga G c2)), (3, .int x3)] → wpX8_handAllWhole_L12 P tS.2 Q n12 x1 c2 x3 σ → W p l e ({ frames := 5, cells := 0, slots := 0, locals := 120 }) s m args below meth c H locs 0 0 (Zv G Q below args s) (F0 m 12 ls []) := by
    intro n12
    induction n12 with
    | zero =>
      intro x1 c2 hc2 x3 σ H locs ls hH hl h
      exact False.elim h
    | succ n12 ih12 =>
      have L49 : ∀ (x1 : Int32) (c2 : Nat) (hc2 : isReceiver G c2) (x3 : Int32) (σ : Sg) (H : Heap) (locs : List Loc) (ls : Array Slot), Hx G (aA G s.heap.size) s σ H locs → lv_has ls 4 [(0, .ref (ga G 0)), (1, .int x1), (2, .ref (ga G c2)), (3, .int x3)] → wpX8_handAllWhole_L49 P tS.2 Q (wpX8_handAllWhole_L12 P tS.2 Q n12) x1 c2 x3 σ → W p l e ({ frames := 5, cells := 0, slots := 0, locals := 120 }) s m args below meth c H locs 0 0 (Zv G Q below args s) (F0 m 49 ls []) := by
        intro x1 c2 hc2 x3 σ H locs ls hH hl h
        unfold wpX8_handAllWhole_L49 at h
        obtain ⟨x3_10, ex3_10⟩ : ∃ y : Int32, y = x3 + 1 := ⟨_, rfl⟩
        replace h := h x3_10 ex3_10
        refine lv_iinc (v := x3_10) (lv' := [(3, .int x3_10), (0, .ref (ga G 0)), (1, .int x1), (2, .ref (ga G c2))]) hx hb dX8_handAllWhole_49 hl (k := 3) rfl (by rw [ex3_10]; rfl) (by decide) rfl (fun ls hl => ?_)
        refine lv_goto (tgt := 12) hx hb dX8_handAllWhole_52 (by decide) ?_
        exact ih12 x1 c2 hc2 x3_10 σ _ _ ls hH (lv_sub hl [1, 2, 3, 0] rfl) h
      intro x1 c2 hc2 x3 σ H locs ls hH hl h
      unfold wpX8_handAllWhole_L12 at h
      refine lv_iload_n hx hb dX8_handAllWhole_12 rfl (lv_at hl 3 rfl) ?_
      refine lv_aload_n hx hb dX8_handAllWhole_13 rfl (lv_at hl 2 rfl) ?_
      refine g_getiN hx hb hB inB6 hown hK hH (c0 := c2) hc2.1 rfl 3 (by decide) k186 rfl rfl dX8_handAllWhole_14 ?_
      refine lv_icmp_ge (tgt := 55) hx hb dX8_handAllWhole_17 (by decide) (fun q3 => ?_) (fun q3 => ?_)
      · replace h := h.1 q3
        refine lv_aload_n hx hb dX8_handAllWhole_55 rfl (lv_at hl 2 rfl) ?_
        refine g_getrN hx hb hB inB6 hown hK hH (c0 := c2) hc2.1 rfl 0 (by decide) k133 rfl (c1 := c2 + 2) rfl dX8_handAllWhole_56 ?_
        refine lv_iconst (v := 0) hx hb dX8_handAllWhole_59 (by decide) ?_
        refine g_putN hx hb hB inB3 tyX3 tyX3_ok nmX3 hown hK hH (c0 := c2 + 2) hc2.2.2.1.1 rfl 3 (by decide) k319 rfl rfl rfl (vz_n vz0) (vz_f vz0) dX8_handAllWhole_60 (fun σ4 eσ4 H locs hH => ?_)
        replace h := h σ4 eσ4
        exact g_vret hx hb hr hK hlk h hH dX8_handAllWhole_63
      · replace h := h.2 q3
        refine lv_aload_n hx hb dX8_handAllWhole_20 rfl (lv_at hl 2 rfl) ?_
        refine lv_iload_n hx hb dX8_handAllWhole_21 rfl (lv_at hl 3 rfl) ?_
        refine g_callVi (As := [.int x3]) (rest := []) ⟨hx, hb, hml, hown, hB⟩ hK hX aA_hA hH (c0 := c2) (tX6_isWhole (tS := tS) hgo hc2 h) (cwV 1 hB gVX8_300 rfl rfl rfl (by decide +kernel) ⟨Nat.le_of_ble_eq_true rfl, Nat.le_of_ble_eq_true rfl⟩) hc2.1 rfl rfl hl.1 rfl (lv_room (Nat.le_of_ble_eq_true rfl)) ⟨Nat.zero_le _, Nat.zero_le _⟩ dX8_handAllWhole_22 (fun r5 σ5 H locs h hH => ?_)
        refine lv_if_eq (tgt := 41) hx hb dX8_handAllWhole_25 (by decide) (fun q6 => ?_) (fun q6 => ?_)
        · replace h := h.1 q6
          refine lv_aload_n hx hb dX8_handAllWhole_41 rfl (lv_at hl 2 rfl) ?_
          refine g_getrN hx hb hB inB6 hown hK hH (c0 := c2) hc2.1 rfl 0 (by decide) k133 rfl (c1 := c2 + 2) rfl dX8_handAllWhole_42 ?_
          refine lv_iconst (v := 0) hx hb dX8_handAllWhole_45 (by decide) ?_
          refine g_putN hx hb hB inB3 tyX3 tyX3_ok nmX3 hown hK hH (c0 := c2 + 2) hc2.2.2.1.1 rfl 3 (by decide) k319 rfl rfl rfl (vz_n vz0) (vz_f vz0) dX8_handAllWhole_46 (fun σ7 eσ7 H locs hH => ?_)
          replace h := h σ7 eσ7
          exact L49 x1 c2 hc2 x3 σ7 _ _ ls hH (lv_sub hl [0, 1, 2, 3] rfl) h
        · replace h := h.2 q6
          refine lv_aload_n hx hb dX8_handAllWhole_28 rfl (lv_at hl 0 rfl) ?_
          refine lv_iload_n hx hb dX8_handAllWhole_29 rfl (lv_at hl 1 rfl) ?_
          refine lv_aload_n hx hb dX8_handAllWhole_30 rfl (lv_at hl 2 rfl) ?_
          refine lv_iload_n hx hb dX8_handAllWhole_31 rfl (lv_at hl 3 rfl) ?_
          refine g_callVr (As := [.int x3]) (rest := [.int x1, .ref (ga G 0)]) ⟨hx, hb, hml, hown, hB⟩ hK hX aA_hA hH (c0 := c2) (tX6_pieceAt hc2 h) (cwV 1 hB gVX8_304 rfl rfl rfl (by decide +kernel) ⟨Nat.le_of_ble_eq_true rfl, Nat.le_of_ble_eq_true rfl⟩) hc2.1 rfl rfl hl.1 rfl (lv_room (Nat.le_of_ble_eq_true rfl)) ⟨Nat.zero_le _, Nat.zero_le _⟩ dX8_handAllWhole_32 (fun r8 σ8 H locs h hH => ?_)
          obtain ⟨h, hp8⟩ := h
          refine g_callVv (As := [.int x1, .ref (ga G r8)]) (rest := []) ⟨hx, hb, hml, hown, hB⟩ hK hX aA_hA hH (c0 := 0) (tX8_hand (tS := tS) hgo h0 hp8 h) (cwV 2 hB gVX8_308 rfl rfl rfl (by decide +kernel) ⟨Nat.le_of_ble_eq_true rfl, Nat.le_of_ble_eq_true rfl⟩) h0.1 rfl rfl hl.1 rfl (lv_room (Nat.le_of_ble_eq_true rfl)) ⟨Nat.zero_le _, Nat.zero_le _⟩ dX8_handAllWhole_35 (fun σ9 H locs h hH => ?_)
          refine lv_goto (tgt := 49) hx hb dX8_handAllWhole_38 (by decide) ?_
          exact L49 x1 c2 hc2 x3 σ9 _ _ ls hH (lv_sub hl [0, 1, 2, 3] rfl) h
  unfold wpX8_handAllWhole at h
  refine lv_aload_n hx hb dX8_handAllWhole_0 rfl (lv_at hl 0 rfl) ?_
  refine g_getr hx hb hB inB8 hown hK hH (c0 := 0) h0.1 rfl 6 (by decide) k42 rfl (c1 := 8) rfl dX8_handAllWhole_1 ?_
  refine lv_iload_n hx hb dX8_handAllWhole_4 rfl (lv_at hl 1 rfl) ?_
  obtain ⟨hi1, h⟩ := h
  refine g_aald hx hb hK hH (c0 := 8) h0.2.2.2.2.2.1 hi1 dX8_handAllWhole_5 ?_
  have hp1 : isReceiver G (51 + 113 * x1.toNatClampNeg) := h0.2.2.2.2.2.2.2.2.1 _ (vp_lt hi1)
  obtain ⟨c_1, ec_1⟩ : ∃ y : Nat, y = 51 + 113 * x1.toNatClampNeg := ⟨_, rfl⟩
  replace h := h c_1 ec_1
  rw [← ec_1] at hp1
  refine W.eq (g2 := F0 m 6 ls [.ref (ga G c_1)]) (by rw [ec_1]) ?_
  refine lv_astore_n (lv' := [(2, .ref (ga G c_1)), (0, .ref (ga G 0)), (1, .int x1)]) hx hb dX8_handAllWhole_6 rfl hl (by decide) rfl (fun ls hl => ?_)
  refine lv_aload_n hx hb dX8_handAllWhole_7 rfl (lv_at hl 0 rfl) ?_
  refine g_getiN hx hb hB inB6 hown hK hH (c0 := c_1) hp1.1 rfl 2 (by decide) k185 rfl rfl dX8_handAllWhole_8 ?_
  refine lv_topi (fun x3_2 ex3_2 => ?_)
  replace h := h x3_2 ex3_2
  refine lv_istore_n (lv' := [(3, .int x3_2), (2, .ref (ga G c_1)), (0, .ref (ga G 0)), (1, .int x1)]) hx hb dX8_handAllWhole_11 rfl hl (by decide) rfl (fun ls hl => ?_)
  obtain ⟨nn, h⟩ := h
  exact L12 nn x1 c_1 hp1 x3_2 σ _ _ ls hH (lv_sub hl [2, 3, 1, 0] rfl) h
def wpX8_renew_L110 (P : Nat) (tb : Nat → Int32) (Q : Int32 → Sg → Prop) : Nat → Int32 → Sg → Prop
  | 0, _, _ => False
  | n + 1, x1, σ => (((nI P) ≤ x1 → Q (σ 0 10) σ) ∧ (¬ ((nI P) ≤ x1) → (vp_in x1 P ∧ ∀ c_17 : Nat, c_17 = 9 + 113 * x1.toNatClampNeg → (vp_in x1 P ∧ ∀ c_18 : Nat, c_18 = 51 + 113 * x1.toNatClampNeg → wpX4_waitAnew (c_17 + 2) (c_18 + 2) σ (fun σ19 => ∀ x1_20 : Int32, x1_20 = x1 + 1 → (wpX8_renew_L110 P tb Q n) x1_20 σ19)))))
def wpX8_renew_L59 (P : Nat) (tb : Nat → Int32) (Q : Int32 → Sg → Prop) : Nat → Int32 → Sg → Prop
  | 0, _, _ => False
  | n + 1, x1, σ => (((nI 8) ≤ x1 → ∀ σ11 : Sg, σ11 = up2 σ 0 10 ((σ 0 10) + 1) → wpX2_setKey tb 3 (σ11 0 1) (σ11 0 10) σ11 (fun σ12 => ∃ nn, wpX8_renew_L110 P tb Q nn 0 σ12)) ∧ (¬ ((nI 8) ≤ x1) → (vp_in x1 8 ∧ ∀ c_13 : Nat, c_13 = 10 + 113 * P + 3 * x1.toNatClampNeg → wpX1_makeEmpty c_13 σ (fun σ14 => ∀ x1_15 : Int32, x1_15 = x1 + 1 → (wpX8_renew_L59 P tb Q n) x1_15 σ14))))
def wpX8_renew_L33 (P : Nat) (tb : Nat → Int32) (Q : Int32 → Sg → Prop) : Nat → Int32 → Sg → Prop
  | 0, _, _ => False
  | n + 1, x1, σ => (((nI P) ≤ x1 → ∃ nn, wpX8_renew_L59 P tb Q nn 0 σ) ∧ (¬ ((nI P) ≤ x1) → (vp_in x1 P ∧ ∀ c_7 : Nat, c_7 = 9 + 113 * x1.toNatClampNeg → wpX7_startAnew c_7 σ (fun σ8 => ∀ x1_9 : Int32, x1_9 = x1 + 1 → (wpX8_renew_L33 P tb Q n) x1_9 σ8))))
def wpX8_renew_L2 (P : Nat) (tb : Nat → Int32) (Q : Int32 → Sg → Prop) : Nat → Int32 → Sg → Prop
  | 0, _, _ => False
  | n + 1, x1, σ => (((nI P) ≤ x1 → ∃ nn, wpX8_renew_L33 P tb Q nn 0 σ) ∧ (¬ ((nI P) ≤ x1) → wpX8_handAllWhole P tb x1 σ (fun σ2 => (vp_in x1 P ∧ ∀ c_3 : Nat, c_3 = 51 + 113 * x1.toNatClampNeg → wpX6_startAnew c_3 σ2 (fun σ4 => ∀ x1_5 : Int32, x1_5 = x1 + 1 → (wpX8_renew_L2 P tb Q n) x1_5 σ4)))))
def wpX8_renew (P : Nat) (tb : Nat → Int32) (σ : Sg) (Q : Int32 → Sg → Prop) : Prop := ∃ nn, wpX8_renew_L2 P tb Q nn 0 σ
set_option maxHeartbeats 8000000 in
set_option maxRecDepth 100000 in
theorem tX8_renew {l : Launch} {G : GG} {P : Nat} {tS : Nat × (Nat → Int32)} (hgo : go G = some tS) {σ : Sg} {Q : Int32 → Sg → Prop} (h0 : isHouse G P) (h : wpX8_renew P tS.2 σ Q) : Ki l G yX8_renew (wB yX8_renew prog_1_method_8_code 2 (Option.some FieldType.int)) ({ frames := 6, cells := 0, slots := 0, locals := 143 }) [.ref (ga G 0)] σ Q := by
  refine K_of (cc := cX8_renew) (maxL := 2) (ret := (some .int)) (by decide) rfl (Nat.le_of_ble_eq_true rfl) ?_
  intro p e s m args below meth c ls B hH hl
  obtain ⟨hx, hb, hr, hts, hown, hlk, hml, hK, hX⟩ := B
  replace hl : lv_has ls 2 [(0, .ref (ga G 0))] := hl
  have hXN : NWs s := XS.nw hX hgo
  have hB : ∀ w ∈ BIG, w.before args s = true := fun w h9 => hts w (List.mem_cons_of_mem _ h9)
  clear hts
  have k20 := hB _ bw2_117
  have k26 := hB _ bw2_120
  have k36 := hB _ bw2_121
  have k42 := hB _ bw2_122
  have k52 := hB _ bw2_123
  have k71 : (Cond.fieldLinkNest RX8 71 "BearerHouse$Sender" "outbox" "LBearerHouse$Outbox;" "BearerHouse").before args s = true := va_Nw.use rfl (hXN.1 ("BearerHouse", 71, "BearerHouse$Sender", "outbox", "LBearerHouse$Outbox;", "BearerHouse") (List.mem_of_getElem? (i := 39) rfl))
  have k130 := hB _ bw2_126
  have k133 : (Cond.fieldLinkNest RX8 133 "BearerHouse$Receiver" "inbox" "LBearerHouse$Inbox;" "BearerHouse").before args s = true := va_Nw.use rfl (hXN.1 ("BearerHouse", 133, "BearerHouse$Receiver", "inbox", "LBearerHouse$Inbox;", "BearerHouse") (List.mem_of_getElem? (i := 2) rfl))
  have L110 : ∀ (n110 : Nat) (x1 : Int32) (σ : Sg) (H : Heap) (locs : List Loc) (ls : Array Slot), Hx G (aA G s.heap.size) s σ H locs → lv_has ls 2 [(0, .ref (ga G 0)), (1, .int x1)] → wpX8_renew_L110 P tS.2 Q n110 x1 σ → W p l e ({ frames := 6, cells := 0, slots := 0, locals := 143 }) s m args below meth c H locs 0 0 (Zi G Q below args s) (F0 m 110 ls []) := by
    intro n110
    induction n110 with
    | zero =>
      intro x1 σ H locs ls hH hl h
      exact False.elim h
    | succ n110 ih110 =>
      intro x1 σ H locs ls hH hl h
      unfold wpX8_renew_L110 at h
      refine lv_iload_n hx hb dX8_renew_110 rfl (lv_at hl 1 rfl) ?_
      refine lv_aload_n hx hb dX8_renew_111 rfl (lv_at hl 0 rfl) ?_
      refine g_getr hx hb hB inB8 hown hK hH (c0 := 0) h0.1 rfl 5 (by decide) k36 rfl (c1 := 7) rfl dX8_renew_112 ?_
      refine g_alenr hx hb hK hH (c0 := 7) h0.2.2.2.2.1 dX8_renew_115 ?_
      refine lv_icmp_ge (tgt := 146) hx hb dX8_renew_116 (by decide) (fun q16 => ?_) (fun q16 => ?_)
      · replace h := h.1 q16
        refine lv_aload_n hx hb dX8_renew_146 rfl (lv_at hl 0 rfl) ?_
        refine g_geti hx hb hB inB8 hown hK hH (c0 := 0) h0.1 rfl 10 (by decide) k130 rfl rfl dX8_renew_147 ?_
        exact g_iret hx hb hr hK hlk h hH dX8_renew_150
      · replace h := h.2 q16
        refine lv_aload_n hx hb dX8_renew_119 rfl (lv_at hl 0 rfl) ?_
        refine g_getr hx hb hB inB8 hown hK hH (c0 := 0) h0.1 rfl 5 (by decide) k36 rfl (c1 := 7) rfl dX8_renew_120 ?_
        refine lv_iload_n hx hb dX8_renew_123 rfl (lv_at hl 1 rfl) ?_
        obtain ⟨hi17, h⟩ := h
        refine g_aald hx hb hK hH (c0 := 7) h0.2.2.2.2.1 hi17 dX8_renew_124 ?_
        have hp17 : isSender G (9 + 113 * x1.toNatClampNeg) := h0.2.2.2.2.2.2.2.1 _ (vp_lt hi17)
        obtain ⟨c_17, ec_17⟩ : ∃ y : Nat, y = 9 + 113 * x1.toNatClampNeg := ⟨_, rfl⟩
        replace h := h c_17 ec_17
        rw [← ec_17] at hp17
        refine W.eq (g2 := F0 m 125 ls [.ref (ga G c_17)]) (by rw [ec_17]) ?_
        refine g_getrN hx hb hB inB7 hown hK hH (c0 := c_17) hp17.1 rfl 0 (by decide) k71 rfl (c1 := c_17 + 2) rfl dX8_renew_125 ?_
        refine lv_aload_n hx hb dX8_renew_128 rfl (lv_at hl 0 rfl) ?_
        refine g_getr hx hb hB inB8 hown hK hH (c0 := 0) h0.1 rfl 6 (by decide) k42 rfl (c1 := 8) rfl dX8_renew_129 ?_
        refine lv_iload_n hx hb dX8_renew_132 rfl (lv_at hl 1 rfl) ?_
        obtain ⟨hi18, h⟩ := h
        refine g_aald hx hb hK hH (c0 := 8) h0.2.2.2.2.2.1 hi18 dX8_renew_133 ?_
        have hp18 : isReceiver G (51 + 113 * x1.toNatClampNeg) := h0.2.2.2.2.2.2.2.2.1 _ (vp_lt hi18)
        obtain ⟨c_18, ec_18⟩ : ∃ y : Nat, y = 51 + 113 * x1.toNatClampNeg := ⟨_, rfl⟩
        replace h := h c_18 ec_18
        rw [← ec_18] at hp18
        refine W.eq (g2 := F0 m 134 ls [.ref (ga G c_18), .ref (ga G (c_17 + 2))]) (by rw [ec_18]) ?_
        refine g_getrN hx hb hB inB6 hown hK hH (c0 := c_18) hp18.1 rfl 0 (by decide) k133 rfl (c1 := c_18 + 2) rfl dX8_renew_134 ?_
        refine g_callVv (As := [.ref (ga G (c_18 + 2))]) (rest := []) ⟨hx, hb, hml, hown, hB⟩ hK hX aA_hA hH (c0 := c_17 + 2) (tX4_waitAnew hp17.2.2.1 hp18.2.2.1 h) (cwV 1 hB gVX8_137 rfl rfl rfl (by decide +kernel) ⟨Nat.le_of_ble_eq_true rfl, Nat.le_of_ble_eq_true rfl⟩) hp17.2.2.1.1 rfl rfl hl.1 rfl (lv_room (Nat.le_of_ble_eq_true rfl)) ⟨Nat.zero_le _, Nat.zero_le _⟩ dX8_renew_137 (fun σ19 H locs h hH => ?_)
        obtain ⟨x1_20, ex1_20⟩ : ∃ y : Int32, y = x1 + 1 := ⟨_, rfl⟩
        replace h := h x1_20 ex1_20
        refine lv_iinc (v := x1_20) (lv' := [(1, .int x1_20), (0, .ref (ga G 0))]) hx hb dX8_renew_140 hl (k := 1) rfl (by rw [ex1_20]; rfl) (by decide) rfl (fun ls hl => ?_)
        refine lv_goto (tgt := 110) hx hb dX8_renew_143 (by decide) ?_
        exact ih110 x1_20 σ19 _ _ ls hH (lv_sub hl [1, 0] rfl) h
  have L59 : ∀ (n59 : Nat) (x1 : Int32) (σ : Sg) (H : Heap) (locs : List Loc) (ls : Array Slot), Hx G (aA G s.heap.size) s σ H locs → lv_has ls 2 [(0, .ref (ga G 0)), (1, .int x1)] → wpX8_renew_L59 P tS.2 Q n59 x1 σ → W p l e ({ frames := 6, cells := 0, slots := 0, locals := 143 }) s m args below meth c H locs 0 0 (Zi G Q below args s) (F0 m 59 ls []) := by
    intro n59
    induction n59 with
    | zero =>
      intro x1 σ H locs ls hH hl h
      exact False.elim h
    | succ n59 ih59 =>
      intro x1 σ H locs ls hH hl h
      unfold wpX8_renew_L59 at h
      refine lv_iload_n hx hb dX8_renew_59 rfl (lv_at hl 1 rfl) ?_
      refine lv_aload_n hx hb dX8_renew_60 rfl (lv_at hl 0 rfl) ?_
      refine g_getr hx hb hB inB8 hown hK hH (c0 := 0) h0.1 rfl 7 (by decide) k52 rfl (c1 := 9 + 113 * P) rfl dX8_renew_61 ?_
      refine g_alenr hx hb hK hH (c0 := 9 + 113 * P) h0.2.2.2.2.2.2.1 dX8_renew_64 ?_
      refine lv_icmp_ge (tgt := 83) hx hb dX8_renew_65 (by decide) (fun q10 => ?_) (fun q10 => ?_)
      · replace h := h.1 q10
        refine lv_aload_n hx hb dX8_renew_83 rfl (lv_at hl 0 rfl) ?_
        refine lv_dup hx hb dX8_renew_84 rfl ?_
        refine g_geti hx hb hB inB8 hown hK hH (c0 := 0) h0.1 rfl 10 (by decide) k130 rfl rfl dX8_renew_85 ?_
        refine lv_iconst (v := 1) hx hb dX8_renew_88 (by decide) ?_
        refine lv_iadd hx hb dX8_renew_89 ?_
        refine g_put hx hb hB inB8 tyX8 tyX8_ok nmX8 hown hK hH (c0 := 0) h0.1 rfl 10 (by decide) k130 rfl rfl rfl rfl rfl dX8_renew_90 (fun σ11 eσ11 H locs hH => ?_)
        replace h := h σ11 eσ11
        refine lv_aload_n hx hb dX8_renew_93 rfl (lv_at hl 0 rfl) ?_
        refine g_getr hx hb hB inB8 hown hK hH (c0 := 0) h0.1 rfl 4 (by decide) k26 rfl (c1 := 3) rfl dX8_renew_94 ?_
        refine lv_aload_n hx hb dX8_renew_97 rfl (lv_at hl 0 rfl) ?_
        refine g_geti hx hb hB inB8 hown hK hH (c0 := 0) h0.1 rfl 1 (by decide) k20 rfl rfl dX8_renew_98 ?_
        refine lv_aload_n hx hb dX8_renew_101 rfl (lv_at hl 0 rfl) ?_
        refine g_geti hx hb hB inB8 hown hK hH (c0 := 0) h0.1 rfl 10 (by decide) k130 rfl rfl dX8_renew_102 ?_
        refine g_callVv (As := [.int (σ11 0 1), .int (σ11 0 10)]) (rest := []) ⟨hx, hb, hml, hown, hB⟩ hK hX aA_hA hH (c0 := 3) (tX2_setKey (tS := tS) hgo h0.2.2.2.1 h) (cwV 2 hB gVX8_30 rfl rfl rfl (by decide +kernel) ⟨Nat.le_of_ble_eq_true rfl, Nat.le_of_ble_eq_true rfl⟩) h0.2.2.2.1.1 rfl rfl hl.1 rfl (lv_room (Nat.le_of_ble_eq_true rfl)) ⟨Nat.zero_le _, Nat.zero_le _⟩ dX8_renew_105 (fun σ12 H locs h hH => ?_)
        refine lv_iconst (v := 0) hx hb dX8_renew_108 (by decide) ?_
        refine lv_istore_n (lv' := [(1, .int 0), (0, .ref (ga G 0))]) hx hb dX8_renew_109 rfl hl (by decide) rfl (fun ls hl => ?_)
        obtain ⟨nn, h⟩ := h
        exact L110 nn 0 σ12 _ _ ls hH (lv_sub hl [1, 0] rfl) h
      · replace h := h.2 q10
        refine lv_aload_n hx hb dX8_renew_68 rfl (lv_at hl 0 rfl) ?_
        refine g_getr hx hb hB inB8 hown hK hH (c0 := 0) h0.1 rfl 7 (by decide) k52 rfl (c1 := 9 + 113 * P) rfl dX8_renew_69 ?_
        refine lv_iload_n hx hb dX8_renew_72 rfl (lv_at hl 1 rfl) ?_
        obtain ⟨hi13, h⟩ := h
        refine g_aald hx hb hK hH (c0 := 9 + 113 * P) h0.2.2.2.2.2.2.1 hi13 dX8_renew_73 ?_
        have hp13 : isCarrier G (10 + 113 * P + 3 * x1.toNatClampNeg) := h0.2.2.2.2.2.2.2.2.2 _ (vp_lt hi13)
        obtain ⟨c_13, ec_13⟩ : ∃ y : Nat, y = 10 + 113 * P + 3 * x1.toNatClampNeg := ⟨_, rfl⟩
        replace h := h c_13 ec_13
        rw [← ec_13] at hp13
        refine W.eq (g2 := F0 m 74 ls [.ref (ga G c_13)]) (by rw [ec_13]) ?_
        refine g_callVv (As := []) (rest := []) ⟨hx, hb, hml, hown, hB⟩ hK hX aA_hA hH (c0 := c_13) (tX1_makeEmpty hp13 h) (cwV 0 hB gVX8_127 rfl rfl rfl (by decide +kernel) ⟨Nat.le_of_ble_eq_true rfl, Nat.le_of_ble_eq_true rfl⟩) hp13.1 rfl rfl hl.1 rfl (lv_room (Nat.le_of_ble_eq_true rfl)) ⟨Nat.zero_le _, Nat.zero_le _⟩ dX8_renew_74 (fun σ14 H locs h hH => ?_)
        obtain ⟨x1_15, ex1_15⟩ : ∃ y : Int32, y = x1 + 1 := ⟨_, rfl⟩
        replace h := h x1_15 ex1_15
        refine lv_iinc (v := x1_15) (lv' := [(1, .int x1_15), (0, .ref (ga G 0))]) hx hb dX8_renew_77 hl (k := 1) rfl (by rw [ex1_15]; rfl) (by decide) rfl (fun ls hl => ?_)
        refine lv_goto (tgt := 59) hx hb dX8_renew_80 (by decide) ?_
        exact ih59 x1_15 σ14 _ _ ls hH (lv_sub hl [1, 0] rfl) h
  have L33 : ∀ (n33 : Nat) (x1 : Int32) (σ : Sg) (H : Heap) (locs : List Loc) (ls : Array Slot), Hx G (aA G s.heap.size) s σ H locs → lv_has ls 2 [(0, .ref (ga G 0)), (1, .int x1)] → wpX8_renew_L33 P tS.2 Q n33 x1 σ → W p l e ({ frames := 6, cells := 0, slots := 0, locals := 143 }) s m args below meth c H locs 0 0 (Zi G Q below args s) (F0 m 33 ls []) := by
    intro n33
    induction n33 with
    | zero =>
      intro x1 σ H locs ls hH hl h
      exact False.elim h
    | succ n33 ih33 =>
      intro x1 σ H locs ls hH hl h
      unfold wpX8_renew_L33 at h
      refine lv_iload_n hx hb dX8_renew_33 rfl (lv_at hl 1 rfl) ?_
      refine lv_aload_n hx hb dX8_renew_34 rfl (lv_at hl 0 rfl) ?_
      refine g_getr hx hb hB inB8 hown hK hH (c0 := 0) h0.1 rfl 5 (by decide) k36 rfl (c1 := 7) rfl dX8_renew_35 ?_
      refine g_alenr hx hb hK hH (c0 := 7) h0.2.2.2.2.1 dX8_renew_38 ?_
      refine lv_icmp_ge (tgt := 57) hx hb dX8_renew_39 (by decide) (fun q6 => ?_) (fun q6 => ?_)
      · replace h := h.1 q6
        refine lv_iconst (v := 0) hx hb dX8_renew_57 (by decide) ?_
        refine lv_istore_n (lv' := [(1, .int 0), (0, .ref (ga G 0))]) hx hb dX8_renew_58 rfl hl (by decide) rfl (fun ls hl => ?_)
        obtain ⟨nn, h⟩ := h
        exact L59 nn 0 σ _ _ ls hH (lv_sub hl [1, 0] rfl) h
      · replace h := h.2 q6
        refine lv_aload_n hx hb dX8_renew_42 rfl (lv_at hl 0 rfl) ?_
        refine g_getr hx hb hB inB8 hown hK hH (c0 := 0) h0.1 rfl 5 (by decide) k36 rfl (c1 := 7) rfl dX8_renew_43 ?_
        refine lv_iload_n hx hb dX8_renew_46 rfl (lv_at hl 1 rfl) ?_
        obtain ⟨hi7, h⟩ := h
        refine g_aald hx hb hK hH (c0 := 7) h0.2.2.2.2.1 hi7 dX8_renew_47 ?_
        have hp7 : isSender G (9 + 113 * x1.toNatClampNeg) := h0.2.2.2.2.2.2.2.1 _ (vp_lt hi7)
        obtain ⟨c_7, ec_7⟩ : ∃ y : Nat, y = 9 + 113 * x1.toNatClampNeg := ⟨_, rfl⟩
        replace h := h c_7 ec_7
        rw [← ec_7] at hp7
        refine W.eq (g2 := F0 m 48 ls [.ref (ga G c_7)]) (by rw [ec_7]) ?_
        refine g_callVv (As := []) (rest := []) ⟨hx, hb, hml, hown, hB⟩ hK hX aA_hA hH (c0 := c_7) (tX7_startAnew hp7 h) (cwV 0 hB gVX8_126 rfl rfl rfl (by decide +kernel) ⟨Nat.le_of_ble_eq_true rfl, Nat.le_of_ble_eq_true rfl⟩) hp7.1 rfl rfl hl.1 rfl (lv_room (Nat.le_of_ble_eq_true rfl)) ⟨Nat.zero_le _, Nat.zero_le _⟩ dX8_renew_48 (fun σ8 H locs h hH => ?_)
        obtain ⟨x1_9, ex1_9⟩ : ∃ y : Int32, y = x1 + 1 := ⟨_, rfl⟩
        replace h := h x1_9 ex1_9
        refine lv_iinc (v := x1_9) (lv' := [(1, .int x1_9), (0, .ref (ga G 0))]) hx hb dX8_renew_51 hl (k := 1) rfl (by rw [ex1_9]; rfl) (by decide) rfl (fun ls hl => ?_)
        refine lv_goto (tgt := 33) hx hb dX8_renew_54 (by decide) ?_
        exact ih33 x1_9 σ8 _ _ ls hH (lv_sub hl [1, 0] rfl) h
  have L2 : ∀ (n2 : Nat) (x1 : Int32) (σ : Sg) (H : Heap) (locs : List Loc) (ls : Array Slot), Hx G (aA G s.heap.size) s σ H locs → lv_has ls 2 [(0, .ref (ga G 0)), (1, .int x1)] → wpX8_renew_L2 P tS.2 Q n2 x1 σ → W p l e ({ frames := 6, cells := 0, slots := 0, locals := 143 }) s m args below meth c H locs 0 0 (Zi G Q below args s) (F0 m 2 ls []) := by
    intro n2
    induction n2 with
    | zero =>
      intro x1 σ H locs ls hH hl h
      exact False.elim h
    | succ n2 ih2 =>
      intro x1 σ H locs ls hH hl h
      unfold wpX8_renew_L2 at h
      refine lv_iload_n hx hb dX8_renew_2 rfl (lv_at hl 1 rfl) ?_
      refine lv_aload_n hx hb dX8_renew_3 rfl (lv_at hl 0 rfl) ?_
      refine g_getr hx hb hB inB8 hown hK hH (c0 := 0) h0.1 rfl 6 (by decide) k42 rfl (c1 := 8) rfl dX8_renew_4 ?_
      refine g_alenr hx hb hK hH (c0 := 8) h0.2.2.2.2.2.1 dX8_renew_7 ?_
      refine lv_icmp_ge (tgt := 31) hx hb dX8_renew_8 (by decide) (fun q1 => ?_) (fun q1 => ?_)
      · replace h := h.1 q1
        refine lv_iconst (v := 0) hx hb dX8_renew_31 (by decide) ?_
        refine lv_istore_n (lv' := [(1, .int 0), (0, .ref (ga G 0))]) hx hb dX8_renew_32 rfl hl (by decide) rfl (fun ls hl => ?_)
        obtain ⟨nn, h⟩ := h
        exact L33 nn 0 σ _ _ ls hH (lv_sub hl [1, 0] rfl) h
      · replace h := h.2 q1
        refine lv_aload_n hx hb dX8_renew_11 rfl (lv_at hl 0 rfl) ?_
        refine lv_iload_n hx hb dX8_renew_12 rfl (lv_at hl 1 rfl) ?_
        refine g_callVv (As := [.int x1]) (rest := []) ⟨hx, hb, hml, hown, hB⟩ hK hX aA_hA hH (c0 := 0) (tX8_handAllWhole (tS := tS) hgo h0 h) (cwV 1 hB gVX8_120 rfl rfl rfl (by decide +kernel) ⟨Nat.le_of_ble_eq_true rfl, Nat.le_of_ble_eq_true rfl⟩) h0.1 rfl rfl hl.1 rfl (lv_room (Nat.le_of_ble_eq_true rfl)) ⟨Nat.zero_le _, Nat.zero_le _⟩ dX8_renew_13 (fun σ2 H locs h hH => ?_)
        refine lv_aload_n hx hb dX8_renew_16 rfl (lv_at hl 0 rfl) ?_
        refine g_getr hx hb hB inB8 hown hK hH (c0 := 0) h0.1 rfl 6 (by decide) k42 rfl (c1 := 8) rfl dX8_renew_17 ?_
        refine lv_iload_n hx hb dX8_renew_20 rfl (lv_at hl 1 rfl) ?_
        obtain ⟨hi3, h⟩ := h
        refine g_aald hx hb hK hH (c0 := 8) h0.2.2.2.2.2.1 hi3 dX8_renew_21 ?_
        have hp3 : isReceiver G (51 + 113 * x1.toNatClampNeg) := h0.2.2.2.2.2.2.2.2.1 _ (vp_lt hi3)
        obtain ⟨c_3, ec_3⟩ : ∃ y : Nat, y = 51 + 113 * x1.toNatClampNeg := ⟨_, rfl⟩
        replace h := h c_3 ec_3
        rw [← ec_3] at hp3
        refine W.eq (g2 := F0 m 22 ls [.ref (ga G c_3)]) (by rw [ec_3]) ?_
        refine g_callVv (As := []) (rest := []) ⟨hx, hb, hml, hown, hB⟩ hK hX aA_hA hH (c0 := c_3) (tX6_startAnew hp3 h) (cwV 0 hB gVX8_123 rfl rfl rfl (by decide +kernel) ⟨Nat.le_of_ble_eq_true rfl, Nat.le_of_ble_eq_true rfl⟩) hp3.1 rfl rfl hl.1 rfl (lv_room (Nat.le_of_ble_eq_true rfl)) ⟨Nat.zero_le _, Nat.zero_le _⟩ dX8_renew_22 (fun σ4 H locs h hH => ?_)
        obtain ⟨x1_5, ex1_5⟩ : ∃ y : Int32, y = x1 + 1 := ⟨_, rfl⟩
        replace h := h x1_5 ex1_5
        refine lv_iinc (v := x1_5) (lv' := [(1, .int x1_5), (0, .ref (ga G 0))]) hx hb dX8_renew_25 hl (k := 1) rfl (by rw [ex1_5]; rfl) (by decide) rfl (fun ls hl => ?_)
        refine lv_goto (tgt := 2) hx hb dX8_renew_28 (by decide) ?_
        exact ih2 x1_5 σ4 _ _ ls hH (lv_sub hl [1, 0] rfl) h
  unfold wpX8_renew at h
  refine lv_iconst (v := 0) hx hb dX8_renew_0 (by decide) ?_
  refine lv_istore_n (lv' := [(1, .int 0), (0, .ref (ga G 0))]) hx hb dX8_renew_1 rfl hl (by decide) rfl (fun ls hl => ?_)
  obtain ⟨nn, h⟩ := h
  exact L2 nn 0 σ _ _ ls hH (lv_sub hl [1, 0] rfl) h
def wpX8_block (P : Nat) (x1 : Int32) (x2 : Int32) (σ : Sg) (Q : Int32 → Sg → Prop) : Prop := ((x1 < 0 → Q (-1) σ) ∧ (¬ (x1 < 0) → ((1 < x1 → Q (-1) σ) ∧ (¬ (1 < x1) → (vp_in x1 2 ∧ ((¬ (σ 2 x1.toNatClampNeg) = 0 → ((¬ x2 = (-1) → ((x2 < 0 → Q (-1) σ) ∧ (¬ (x2 < 0) → (vp_in x1 2 ∧ ((x2 < (σ 2 x1.toNatClampNeg) → (vp_in ((x1 * 4) + ((σ 0 9) &&& 3)) 8 ∧ ∀ c_9 : Nat, c_9 = 10 + 113 * P + 3 * ((x1 * 4) + ((σ 0 9) &&& 3)).toNatClampNeg → wpX0_at (c_9 + 1) x2 σ (fun r10 σ10 => Q r10 σ10))) ∧ (¬ (x2 < (σ 2 x1.toNatClampNeg)) → Q (-1) σ)))))) ∧ (x2 = (-1) → (vp_in x1 2 ∧ Q (σ 2 x1.toNatClampNeg) σ)))) ∧ ((σ 2 x1.toNatClampNeg) = 0 → Q (-1) σ)))))))
set_option maxHeartbeats 8000000 in
set_option maxRecDepth 100000 in
theorem tX8_block {l : Launch} {G : GG} {P : Nat} {tS : Nat × (Nat → Int32)} (hgo : go G = some tS) {x1 : Int32} {x2 : Int32} {σ : Sg} {Q : Int32 → Sg → Prop} (h0 : isHouse G P) (h : wpX8_block P x1 x2 σ Q) : Ki l G yX8_block (wB yX8_block prog_1_method_9_code 3 (Option.some FieldType.int)) ({ frames := 1, cells := 0, slots := 0, locals := 21 }) [.ref (ga G 0), .int x1, .int x2] σ Q := by
  refine K_of (cc := cX8_block) (maxL := 3) (ret := (some .int)) (by decide) rfl (Nat.le_of_ble_eq_true rfl) ?_
  intro p e s m args below meth c ls B hH hl
  obtain ⟨hx, hb, hr, hts, hown, hlk, hml, hK, hX⟩ := B
  replace hl : lv_has ls 3 [(0, .ref (ga G 0)), (1, .int x1), (2, .int x2)] := hl
  have hXN : NWs s := XS.nw hX hgo
  have hB : ∀ w ∈ BIG, w.before args s = true := fun w h9 => hts w (List.mem_cons_of_mem _ h9)
  clear hts
  have k13 := hB _ bw2_124
  have k52 := hB _ bw2_123
  have k84 := hB _ bw2_125
  have k108 : (Cond.fieldLinkNest RX8 108 "BearerHouse$Carrier" "air" "LBearerHouse$Air;" "BearerHouse").before args s = true := va_Nw.use rfl (hXN.1 ("BearerHouse", 108, "BearerHouse$Carrier", "air", "LBearerHouse$Air;", "BearerHouse") (List.mem_of_getElem? (i := 1) rfl))
  unfold wpX8_block at h
  refine lv_iload_n hx hb dX8_block_0 rfl (lv_at hl 1 rfl) ?_
  refine lv_if_lt (tgt := 18) hx hb dX8_block_1 (by decide) (fun q1 => ?_) (fun q1 => ?_)
  · replace h := h.1 q1
    refine lv_iconst (v := (-1)) hx hb dX8_block_18 (by decide) ?_
    exact g_iret hx hb hr hK hlk h hH dX8_block_19
  · replace h := h.2 q1
    refine lv_iload_n hx hb dX8_block_4 rfl (lv_at hl 1 rfl) ?_
    refine lv_iconst (v := 1) hx hb dX8_block_5 (by decide) ?_
    refine lv_icmp_gt (tgt := 18) hx hb dX8_block_6 (by decide) (fun q2 => ?_) (fun q2 => ?_)
    · replace h := h.1 q2
      refine lv_iconst (v := (-1)) hx hb dX8_block_18 (by decide) ?_
      exact g_iret hx hb hr hK hlk h hH dX8_block_19
    · replace h := h.2 q2
      refine lv_aload_n hx hb dX8_block_9 rfl (lv_at hl 0 rfl) ?_
      refine g_getr hx hb hB inB8 hown hK hH (c0 := 0) h0.1 rfl 8 (by decide) k13 rfl (c1 := 2) rfl dX8_block_10 ?_
      refine lv_iload_n hx hb dX8_block_13 rfl (lv_at hl 1 rfl) ?_
      obtain ⟨hi3, h⟩ := h
      refine g_iald hx hb hK hH (c0 := 2) h0.2.2.1 hi3 dX8_block_14 ?_
      refine lv_if_ne (tgt := 20) hx hb dX8_block_15 (by decide) (fun q4 => ?_) (fun q4 => ?_)
      · replace h := h.1 q4
        refine lv_iload_n hx hb dX8_block_20 rfl (lv_at hl 2 rfl) ?_
        refine lv_iconst (v := (-1)) hx hb dX8_block_21 (by decide) ?_
        refine lv_icmp_ne (tgt := 32) hx hb dX8_block_22 (by decide) (fun q5 => ?_) (fun q5 => ?_)
        · replace h := h.1 q5
          refine lv_iload_n hx hb dX8_block_32 rfl (lv_at hl 2 rfl) ?_
          refine lv_if_lt (tgt := 46) hx hb dX8_block_33 (by decide) (fun q6 => ?_) (fun q6 => ?_)
          · replace h := h.1 q6
            refine lv_iconst (v := (-1)) hx hb dX8_block_46 (by decide) ?_
            exact g_iret hx hb hr hK hlk h hH dX8_block_47
          · replace h := h.2 q6
            refine lv_iload_n hx hb dX8_block_36 rfl (lv_at hl 2 rfl) ?_
            refine lv_aload_n hx hb dX8_block_37 rfl (lv_at hl 0 rfl) ?_
            refine g_getr hx hb hB inB8 hown hK hH (c0 := 0) h0.1 rfl 8 (by decide) k13 rfl (c1 := 2) rfl dX8_block_38 ?_
            refine lv_iload_n hx hb dX8_block_41 rfl (lv_at hl 1 rfl) ?_
            obtain ⟨hi7, h⟩ := h
            refine g_iald hx hb hK hH (c0 := 2) h0.2.2.1 hi7 dX8_block_42 ?_
            refine lv_icmp_lt (tgt := 48) hx hb dX8_block_43 (by decide) (fun q8 => ?_) (fun q8 => ?_)
            · replace h := h.1 q8
              refine lv_aload_n hx hb dX8_block_48 rfl (lv_at hl 0 rfl) ?_
              refine g_getr hx hb hB inB8 hown hK hH (c0 := 0) h0.1 rfl 7 (by decide) k52 rfl (c1 := 9 + 113 * P) rfl dX8_block_49 ?_
              refine lv_iload_n hx hb dX8_block_52 rfl (lv_at hl 1 rfl) ?_
              refine lv_iconst (v := 4) hx hb dX8_block_53 (by decide) ?_
              refine lv_imul hx hb dX8_block_54 ?_
              refine lv_aload_n hx hb dX8_block_55 rfl (lv_at hl 0 rfl) ?_
              refine g_geti hx hb hB inB8 hown hK hH (c0 := 0) h0.1 rfl 9 (by decide) k84 rfl rfl dX8_block_56 ?_
              refine lv_iconst (v := 3) hx hb dX8_block_59 (by decide) ?_
              refine lv_iand hx hb dX8_block_60 ?_
              refine lv_iadd hx hb dX8_block_61 ?_
              obtain ⟨hi9, h⟩ := h
              refine g_aald hx hb hK hH (c0 := 9 + 113 * P) h0.2.2.2.2.2.2.1 hi9 dX8_block_62 ?_
              have hp9 : isCarrier G (10 + 113 * P + 3 * ((x1 * 4) + ((σ 0 9) &&& 3)).toNatClampNeg) := h0.2.2.2.2.2.2.2.2.2 _ (vp_lt hi9)
              obtain ⟨c_9, ec_9⟩ : ∃ y : Nat, y = 10 + 113 * P + 3 * ((x1 * 4) + ((σ 0 9) &&& 3)).toNatClampNeg := ⟨_, rfl⟩
              replace h := h c_9 ec_9
              rw [← ec_9] at hp9
              refine W.eq (g2 := F0 m 63 ls [.ref (ga G c_9)]) (by rw [ec_9]) ?_
              refine g_getrN hx hb hB inB1 hown hK hH (c0 := c_9) hp9.1 rfl 0 (by decide) k108 rfl (c1 := c_9 + 1) rfl dX8_block_63 ?_
              refine lv_iload_n hx hb dX8_block_66 rfl (lv_at hl 2 rfl) ?_
              refine g_callVi (As := [.int x2]) (rest := []) ⟨hx, hb, hml, hown, hB⟩ hK hX aA_hA hH (c0 := c_9 + 1) (tX0_at hp9.2 h) (cwV 1 hB gVX8_141 rfl rfl rfl (by decide +kernel) ⟨Nat.le_of_ble_eq_true rfl, Nat.le_of_ble_eq_true rfl⟩) hp9.2.1 rfl rfl hl.1 rfl (lv_room (Nat.le_of_ble_eq_true rfl)) ⟨Nat.zero_le _, Nat.zero_le _⟩ dX8_block_67 (fun r10 σ10 H locs h hH => ?_)
              exact g_iret hx hb hr hK hlk h hH dX8_block_70
            · replace h := h.2 q8
              refine lv_iconst (v := (-1)) hx hb dX8_block_46 (by decide) ?_
              exact g_iret hx hb hr hK hlk h hH dX8_block_47
        · replace h := h.2 q5
          refine lv_aload_n hx hb dX8_block_25 rfl (lv_at hl 0 rfl) ?_
          refine g_getr hx hb hB inB8 hown hK hH (c0 := 0) h0.1 rfl 8 (by decide) k13 rfl (c1 := 2) rfl dX8_block_26 ?_
          refine lv_iload_n hx hb dX8_block_29 rfl (lv_at hl 1 rfl) ?_
          obtain ⟨hi11, h⟩ := h
          refine g_iald hx hb hK hH (c0 := 2) h0.2.2.1 hi11 dX8_block_30 ?_
          exact g_iret hx hb hr hK hlk h hH dX8_block_31
      · replace h := h.2 q4
        refine lv_iconst (v := (-1)) hx hb dX8_block_18 (by decide) ?_
        exact g_iret hx hb hr hK hlk h hH dX8_block_19
def wpX8_sender (P : Nat) (x1 : Int32) (x2 : Int32) (x3 : Int32) (σ : Sg) (Q : Int32 → Sg → Prop) : Prop := wpX8_isPlace P x1 x2 σ (fun r1 σ1 => ((¬ r1 = 0 → wpX8_placeOf P x1 x2 σ1 (fun r3 σ3 => (vp_in r3 P ∧ ∀ c_4 : Nat, c_4 = 9 + 113 * r3.toNatClampNeg → ((x3 = 0 → Q (σ3 c_4 4) σ3) ∧ (x3 = 1 → Q (σ3 c_4 5) σ3) ∧ (x3 = 2 → Q (σ3 (c_4 + 2) 5) σ3) ∧ (x3 = 3 → wpX4_waitingBytes (c_4 + 2) σ3 (fun r6 σ6 => Q r6 σ6)) ∧ (x3 = 4 → Q (σ3 c_4 6) σ3) ∧ (x3 = 5 → Q (σ3 c_4 10) σ3) ∧ (x3 = 6 → (((σ3 c_4 8) = 0 → Q 0 σ3) ∧ (¬ ((σ3 c_4 8) = 0) → Q 1 σ3))) ∧ (x3 = 7 → Q (σ3 c_4 3) σ3) ∧ (x3 = 8 → Q (σ3 c_4 12) σ3) ∧ (x3 = 9 → Q (σ3 c_4 13) σ3) ∧ (x3 = 10 → Q (σ3 c_4 14) σ3) ∧ (x3 = 11 → Q (σ3 (c_4 + 2) 7) σ3) ∧ (¬ (x3 = 0 ∨ x3 = 1 ∨ x3 = 2 ∨ x3 = 3 ∨ x3 = 4 ∨ x3 = 5 ∨ x3 = 6 ∨ x3 = 7 ∨ x3 = 8 ∨ x3 = 9 ∨ x3 = 10 ∨ x3 = 11) → Q (-1) σ3))))) ∧ (r1 = 0 → Q (-1) σ1)))
set_option maxHeartbeats 8000000 in
set_option maxRecDepth 100000 in
theorem tX8_sender {l : Launch} {G : GG} {P : Nat} {tS : Nat × (Nat → Int32)} (hgo : go G = some tS) {x1 : Int32} {x2 : Int32} {x3 : Int32} {σ : Sg} {Q : Int32 → Sg → Prop} (h0 : isHouse G P) (h : wpX8_sender P x1 x2 x3 σ Q) : Ki l G yX8_sender (wB yX8_sender prog_1_method_10_code 5 (Option.some FieldType.int)) ({ frames := 2, cells := 0, slots := 0, locals := 43 }) [.ref (ga G 0), .int x1, .int x2, .int x3] σ Q := by
  refine K_of (cc := cX8_sender) (maxL := 5) (ret := (some .int)) (by decide) rfl (Nat.le_of_ble_eq_true rfl) ?_
  intro p e s m args below meth c ls B hH hl
  obtain ⟨hx, hb, hr, hts, hown, hlk, hml, hK, hX⟩ := B
  replace hl : lv_has ls 5 [(0, .ref (ga G 0)), (1, .int x1), (2, .int x2), (3, .int x3)] := hl
  have hXN : NWs s := XS.nw hX hgo
  have hB : ∀ w ∈ BIG, w.before args s = true := fun w h9 => hts w (List.mem_cons_of_mem _ h9)
  clear hts
  have k36 := hB _ bw2_121
  have k71 : (Cond.fieldLinkNest RX8 71 "BearerHouse$Sender" "outbox" "LBearerHouse$Outbox;" "BearerHouse").before args s = true := va_Nw.use rfl (hXN.1 ("BearerHouse", 71, "BearerHouse$Sender", "outbox", "LBearerHouse$Outbox;", "BearerHouse") (List.mem_of_getElem? (i := 39) rfl))
  have k147 : (Cond.fieldLinkNest RX8 147 "BearerHouse$Sender" "low" "I" "BearerHouse").before args s = true := va_Nw.use rfl (hXN.1 ("BearerHouse", 147, "BearerHouse$Sender", "low", "I", "BearerHouse") (List.mem_of_getElem? (i := 3) rfl))
  have k150 : (Cond.fieldLinkNest RX8 150 "BearerHouse$Sender" "next" "I" "BearerHouse").before args s = true := va_Nw.use rfl (hXN.1 ("BearerHouse", 150, "BearerHouse$Sender", "next", "I", "BearerHouse") (List.mem_of_getElem? (i := 4) rfl))
  have k153 : (Cond.fieldLinkNest RX8 153 "BearerHouse$Outbox" "kept" "I" "BearerHouse").before args s = true := va_Nw.use rfl (hXN.1 ("BearerHouse", 153, "BearerHouse$Outbox", "kept", "I", "BearerHouse") (List.mem_of_getElem? (i := 5) rfl))
  have k160 : (Cond.fieldLinkNest RX8 160 "BearerHouse$Sender" "again" "I" "BearerHouse").before args s = true := va_Nw.use rfl (hXN.1 ("BearerHouse", 160, "BearerHouse$Sender", "again", "I", "BearerHouse") (List.mem_of_getElem? (i := 6) rfl))
  have k163 : (Cond.fieldLinkNest RX8 163 "BearerHouse$Sender" "pollTimer" "I" "BearerHouse").before args s = true := va_Nw.use rfl (hXN.1 ("BearerHouse", 163, "BearerHouse$Sender", "pollTimer", "I", "BearerHouse") (List.mem_of_getElem? (i := 7) rfl))
  have k166 : (Cond.fieldLinkNest RX8 166 "BearerHouse$Sender" "failed" "Z" "BearerHouse").before args s = true := va_Nw.use rfl (hXN.1 ("BearerHouse", 166, "BearerHouse$Sender", "failed", "Z", "BearerHouse") (List.mem_of_getElem? (i := 8) rfl))
  have k170 : (Cond.fieldLinkNest RX8 170 "BearerHouse$Sender" "bucket" "I" "BearerHouse").before args s = true := va_Nw.use rfl (hXN.1 ("BearerHouse", 170, "BearerHouse$Sender", "bucket", "I", "BearerHouse") (List.mem_of_getElem? (i := 9) rfl))
  have k173 : (Cond.fieldLinkNest RX8 173 "BearerHouse$Sender" "dataMade" "I" "BearerHouse").before args s = true := va_Nw.use rfl (hXN.1 ("BearerHouse", 173, "BearerHouse$Sender", "dataMade", "I", "BearerHouse") (List.mem_of_getElem? (i := 10) rfl))
  have k176 : (Cond.fieldLinkNest RX8 176 "BearerHouse$Sender" "dataAgain" "I" "BearerHouse").before args s = true := va_Nw.use rfl (hXN.1 ("BearerHouse", 176, "BearerHouse$Sender", "dataAgain", "I", "BearerHouse") (List.mem_of_getElem? (i := 11) rfl))
  have k179 : (Cond.fieldLinkNest RX8 179 "BearerHouse$Sender" "statusCame" "I" "BearerHouse").before args s = true := va_Nw.use rfl (hXN.1 ("BearerHouse", 179, "BearerHouse$Sender", "statusCame", "I", "BearerHouse") (List.mem_of_getElem? (i := 12) rfl))
  have k182 : (Cond.fieldLinkNest RX8 182 "BearerHouse$Outbox" "nextCount" "I" "BearerHouse").before args s = true := va_Nw.use rfl (hXN.1 ("BearerHouse", 182, "BearerHouse$Outbox", "nextCount", "I", "BearerHouse") (List.mem_of_getElem? (i := 13) rfl))
  unfold wpX8_sender at h
  refine lv_aload_n hx hb dX8_sender_0 rfl (lv_at hl 0 rfl) ?_
  refine lv_iload_n hx hb dX8_sender_1 rfl (lv_at hl 1 rfl) ?_
  refine lv_iload_n hx hb dX8_sender_2 rfl (lv_at hl 2 rfl) ?_
  refine g_callVi (As := [.int x1, .int x2]) (rest := []) ⟨hx, hb, hml, hown, hB⟩ hK hX aA_hA hH (c0 := 0) (tX8_isPlace h0 h) (cwV 2 hB gVX8_63 rfl rfl rfl (by decide +kernel) ⟨Nat.le_of_ble_eq_true rfl, Nat.le_of_ble_eq_true rfl⟩) h0.1 rfl rfl hl.1 rfl (lv_room (Nat.le_of_ble_eq_true rfl)) ⟨Nat.zero_le _, Nat.zero_le _⟩ dX8_sender_3 (fun r1 σ1 H locs h hH => ?_)
  refine lv_if_ne (tgt := 11) hx hb dX8_sender_6 (by decide) (fun q2 => ?_) (fun q2 => ?_)
  · replace h := h.1 q2
    refine lv_aload_n hx hb dX8_sender_11 rfl (lv_at hl 0 rfl) ?_
    refine g_getr hx hb hB inB8 hown hK hH (c0 := 0) h0.1 rfl 5 (by decide) k36 rfl (c1 := 7) rfl dX8_sender_12 ?_
    refine lv_aload_n hx hb dX8_sender_15 rfl (lv_at hl 0 rfl) ?_
    refine lv_iload_n hx hb dX8_sender_16 rfl (lv_at hl 1 rfl) ?_
    refine lv_iload_n hx hb dX8_sender_17 rfl (lv_at hl 2 rfl) ?_
    refine g_callVi (As := [.int x1, .int x2]) (rest := [.ref (ga G 7)]) ⟨hx, hb, hml, hown, hB⟩ hK hX aA_hA hH (c0 := 0) (tX8_placeOf h0 h) (cwV 2 hB gVX8_67 rfl rfl rfl (by decide +kernel) ⟨Nat.le_of_ble_eq_true rfl, Nat.le_of_ble_eq_true rfl⟩) h0.1 rfl rfl hl.1 rfl (lv_room (Nat.le_of_ble_eq_true rfl)) ⟨Nat.zero_le _, Nat.zero_le _⟩ dX8_sender_18 (fun r3 σ3 H locs h hH => ?_)
    obtain ⟨hi4, h⟩ := h
    refine g_aald hx hb hK hH (c0 := 7) h0.2.2.2.2.1 hi4 dX8_sender_21 ?_
    have hp4 : isSender G (9 + 113 * r3.toNatClampNeg) := h0.2.2.2.2.2.2.2.1 _ (vp_lt hi4)
    obtain ⟨c_4, ec_4⟩ : ∃ y : Nat, y = 9 + 113 * r3.toNatClampNeg := ⟨_, rfl⟩
    replace h := h c_4 ec_4
    rw [← ec_4] at hp4
    refine W.eq (g2 := F0 m 22 ls [.ref (ga G c_4)]) (by rw [ec_4]) ?_
    refine lv_astore (lv' := [(4, .ref (ga G c_4)), (0, .ref (ga G 0)), (1, .int x1), (2, .int x2), (3, .int x3)]) hx hb dX8_sender_22 hl (by decide) rfl (fun ls hl => ?_)
    refine lv_iload_n hx hb dX8_sender_24 rfl (lv_at hl 4 rfl) ?_
    by_cases g5_0 : x3 = 0
    · refine lv_tableIn (off := 63) (tgt := 88) hx hb dX8_sender_25 (by rw [g5_0]; decide) (by rw [g5_0]; decide) (by rw [g5_0]; rfl) (by decide) ?_
      replace h := h.1 g5_0
      refine lv_aload hx hb dX8_sender_88 (lv_at hl 0 rfl) ?_
      refine g_getiN hx hb hB inB7 hown hK hH (c0 := c_4) hp4.1 rfl 4 (by decide) k147 rfl rfl dX8_sender_90 ?_
      exact g_iret hx hb hr hK hlk h hH dX8_sender_93
    by_cases g5_1 : x3 = 1
    · refine lv_tableIn (off := 69) (tgt := 94) hx hb dX8_sender_25 (by rw [g5_1]; decide) (by rw [g5_1]; decide) (by rw [g5_1]; rfl) (by decide) ?_
      replace h := h.2.1 g5_1
      refine lv_aload hx hb dX8_sender_94 (lv_at hl 0 rfl) ?_
      refine g_getiN hx hb hB inB7 hown hK hH (c0 := c_4) hp4.1 rfl 5 (by decide) k150 rfl rfl dX8_sender_96 ?_
      exact g_iret hx hb hr hK hlk h hH dX8_sender_99
    by_cases g5_2 : x3 = 2
    · refine lv_tableIn (off := 75) (tgt := 100) hx hb dX8_sender_25 (by rw [g5_2]; decide) (by rw [g5_2]; decide) (by rw [g5_2]; rfl) (by decide) ?_
      replace h := h.2.2.1 g5_2
      refine lv_aload hx hb dX8_sender_100 (lv_at hl 0 rfl) ?_
      refine g_getrN hx hb hB inB7 hown hK hH (c0 := c_4) hp4.1 rfl 0 (by decide) k71 rfl (c1 := c_4 + 2) rfl dX8_sender_102 ?_
      refine g_getiN hx hb hB inB4 hown hK hH (c0 := c_4 + 2) hp4.2.2.1.1 rfl 5 (by decide) k153 rfl rfl dX8_sender_105 ?_
      exact g_iret hx hb hr hK hlk h hH dX8_sender_108
    by_cases g5_3 : x3 = 3
    · refine lv_tableIn (off := 84) (tgt := 109) hx hb dX8_sender_25 (by rw [g5_3]; decide) (by rw [g5_3]; decide) (by rw [g5_3]; rfl) (by decide) ?_
      replace h := h.2.2.2.1 g5_3
      refine lv_aload hx hb dX8_sender_109 (lv_at hl 0 rfl) ?_
      refine g_getrN hx hb hB inB7 hown hK hH (c0 := c_4) hp4.1 rfl 0 (by decide) k71 rfl (c1 := c_4 + 2) rfl dX8_sender_111 ?_
      refine g_callVi (As := []) (rest := []) ⟨hx, hb, hml, hown, hB⟩ hK hX aA_hA hH (c0 := c_4 + 2) (tX4_waitingBytes hp4.2.2.1 h) (cwV 0 hB gVX8_156 rfl rfl rfl (by decide +kernel) ⟨Nat.le_of_ble_eq_true rfl, Nat.le_of_ble_eq_true rfl⟩) hp4.2.2.1.1 rfl rfl hl.1 rfl (lv_room (Nat.le_of_ble_eq_true rfl)) ⟨Nat.zero_le _, Nat.zero_le _⟩ dX8_sender_114 (fun r6 σ6 H locs h hH => ?_)
      exact g_iret hx hb hr hK hlk h hH dX8_sender_117
    by_cases g5_4 : x3 = 4
    · refine lv_tableIn (off := 93) (tgt := 118) hx hb dX8_sender_25 (by rw [g5_4]; decide) (by rw [g5_4]; decide) (by rw [g5_4]; rfl) (by decide) ?_
      replace h := h.2.2.2.2.1 g5_4
      refine lv_aload hx hb dX8_sender_118 (lv_at hl 0 rfl) ?_
      refine g_getiN hx hb hB inB7 hown hK hH (c0 := c_4) hp4.1 rfl 6 (by decide) k160 rfl rfl dX8_sender_120 ?_
      exact g_iret hx hb hr hK hlk h hH dX8_sender_123
    by_cases g5_5 : x3 = 5
    · refine lv_tableIn (off := 99) (tgt := 124) hx hb dX8_sender_25 (by rw [g5_5]; decide) (by rw [g5_5]; decide) (by rw [g5_5]; rfl) (by decide) ?_
      replace h := h.2.2.2.2.2.1 g5_5
      refine lv_aload hx hb dX8_sender_124 (lv_at hl 0 rfl) ?_
      refine g_getiN hx hb hB inB7 hown hK hH (c0 := c_4) hp4.1 rfl 10 (by decide) k163 rfl rfl dX8_sender_126 ?_
      exact g_iret hx hb hr hK hlk h hH dX8_sender_129
    by_cases g5_6 : x3 = 6
    · refine lv_tableIn (off := 105) (tgt := 130) hx hb dX8_sender_25 (by rw [g5_6]; decide) (by rw [g5_6]; decide) (by rw [g5_6]; rfl) (by decide) ?_
      replace h := h.2.2.2.2.2.2.1 g5_6
      refine lv_aload hx hb dX8_sender_130 (lv_at hl 0 rfl) ?_
      refine g_getiN hx hb hB inB7 hown hK hH (c0 := c_4) hp4.1 rfl 8 (by decide) k166 rfl rfl dX8_sender_132 ?_
      refine lv_if_eq (tgt := 142) hx hb dX8_sender_135 (by decide) (fun q7 => ?_) (fun q7 => ?_)
      · replace h := h.1 q7
        refine lv_iconst (v := 0) hx hb dX8_sender_142 (by decide) ?_
        exact g_iret hx hb hr hK hlk h hH dX8_sender_143
      · replace h := h.2 q7
        refine lv_iconst (v := 1) hx hb dX8_sender_138 (by decide) ?_
        refine lv_goto (tgt := 143) hx hb dX8_sender_139 (by decide) ?_
        exact g_iret hx hb hr hK hlk h hH dX8_sender_143
    by_cases g5_7 : x3 = 7
    · refine lv_tableIn (off := 119) (tgt := 144) hx hb dX8_sender_25 (by rw [g5_7]; decide) (by rw [g5_7]; decide) (by rw [g5_7]; rfl) (by decide) ?_
      replace h := h.2.2.2.2.2.2.2.1 g5_7
      refine lv_aload hx hb dX8_sender_144 (lv_at hl 0 rfl) ?_
      refine g_getiN hx hb hB inB7 hown hK hH (c0 := c_4) hp4.1 rfl 3 (by decide) k170 rfl rfl dX8_sender_146 ?_
      exact g_iret hx hb hr hK hlk h hH dX8_sender_149
    by_cases g5_8 : x3 = 8
    · refine lv_tableIn (off := 125) (tgt := 150) hx hb dX8_sender_25 (by rw [g5_8]; decide) (by rw [g5_8]; decide) (by rw [g5_8]; rfl) (by decide) ?_
      replace h := h.2.2.2.2.2.2.2.2.1 g5_8
      refine lv_aload hx hb dX8_sender_150 (lv_at hl 0 rfl) ?_
      refine g_getiN hx hb hB inB7 hown hK hH (c0 := c_4) hp4.1 rfl 12 (by decide) k173 rfl rfl dX8_sender_152 ?_
      exact g_iret hx hb hr hK hlk h hH dX8_sender_155
    by_cases g5_9 : x3 = 9
    · refine lv_tableIn (off := 131) (tgt := 156) hx hb dX8_sender_25 (by rw [g5_9]; decide) (by rw [g5_9]; decide) (by rw [g5_9]; rfl) (by decide) ?_
      replace h := h.2.2.2.2.2.2.2.2.2.1 g5_9
      refine lv_aload hx hb dX8_sender_156 (lv_at hl 0 rfl) ?_
      refine g_getiN hx hb hB inB7 hown hK hH (c0 := c_4) hp4.1 rfl 13 (by decide) k176 rfl rfl dX8_sender_158 ?_
      exact g_iret hx hb hr hK hlk h hH dX8_sender_161
    by_cases g5_10 : x3 = 10
    · refine lv_tableIn (off := 137) (tgt := 162) hx hb dX8_sender_25 (by rw [g5_10]; decide) (by rw [g5_10]; decide) (by rw [g5_10]; rfl) (by decide) ?_
      replace h := h.2.2.2.2.2.2.2.2.2.2.1 g5_10
      refine lv_aload hx hb dX8_sender_162 (lv_at hl 0 rfl) ?_
      refine g_getiN hx hb hB inB7 hown hK hH (c0 := c_4) hp4.1 rfl 14 (by decide) k179 rfl rfl dX8_sender_164 ?_
      exact g_iret hx hb hr hK hlk h hH dX8_sender_167
    by_cases g5_11 : x3 = 11
    · refine lv_tableIn (off := 143) (tgt := 168) hx hb dX8_sender_25 (by rw [g5_11]; decide) (by rw [g5_11]; decide) (by rw [g5_11]; rfl) (by decide) ?_
      replace h := h.2.2.2.2.2.2.2.2.2.2.2.1 g5_11
      refine lv_aload hx hb dX8_sender_168 (lv_at hl 0 rfl) ?_
      refine g_getrN hx hb hB inB7 hown hK hH (c0 := c_4) hp4.1 rfl 0 (by decide) k71 rfl (c1 := c_4 + 2) rfl dX8_sender_170 ?_
      refine g_getiN hx hb hB inB4 hown hK hH (c0 := c_4 + 2) hp4.2.2.1.1 rfl 7 (by decide) k182 rfl rfl dX8_sender_173 ?_
      exact g_iret hx hb hr hK hlk h hH dX8_sender_176
    have gg5 : ∀ k : Nat, k < 12 → ¬ x3 = nI k := by
      intro k hk
      rcases (show k = 0 ∨ k = 1 ∨ k = 2 ∨ k = 3 ∨ k = 4 ∨ k = 5 ∨ k = 6 ∨ k = 7 ∨ k = 8 ∨ k = 9 ∨ k = 10 ∨ k = 11 by omega) with rfl | rfl | rfl | rfl | rfl | rfl | rfl | rfl | rfl | rfl | rfl | rfl <;> assumption
    refine lv_tableOut (tgt := 177) hx hb dX8_sender_25 (sw_out (n := 12) (by decide) (by decide) gg5) (by decide) ?_
    replace h := h.2.2.2.2.2.2.2.2.2.2.2.2 (by simp only [not_or]; exact ⟨g5_0, g5_1, g5_2, g5_3, g5_4, g5_5, g5_6, g5_7, g5_8, g5_9, g5_10, g5_11⟩)
    refine lv_iconst (v := (-1)) hx hb dX8_sender_177 (by decide) ?_
    exact g_iret hx hb hr hK hlk h hH dX8_sender_178
  · replace h := h.2 q2
    refine lv_iconst (v := (-1)) hx hb dX8_sender_9 (by decide) ?_
    exact g_iret hx hb hr hK hlk h hH dX8_sender_10
def wpX8_receiver (P : Nat) (x1 : Int32) (x2 : Int32) (x3 : Int32) (σ : Sg) (Q : Int32 → Sg → Prop) : Prop := wpX8_isPlace P x1 x2 σ (fun r1 σ1 => ((¬ r1 = 0 → wpX8_placeOf P x1 x2 σ1 (fun r3 σ3 => (vp_in r3 P ∧ ∀ c_4 : Nat, c_4 = 51 + 113 * r3.toNatClampNeg → ((x3 = 0 → Q (σ3 c_4 2) σ3) ∧ (x3 = 1 → Q (σ3 c_4 3) σ3) ∧ (x3 = 2 → Q (σ3 c_4 4) σ3) ∧ (x3 = 3 → Q (σ3 c_4 5) σ3) ∧ (x3 = 4 → Q (σ3 c_4 8) σ3) ∧ (x3 = 5 → Q (σ3 c_4 9) σ3) ∧ (x3 = 6 → (((σ3 c_4 7) = 0 → Q 0 σ3) ∧ (¬ ((σ3 c_4 7) = 0) → Q 1 σ3))) ∧ (x3 = 7 → wpX6_heldBytes c_4 σ3 (fun r7 σ7 => Q r7 σ7)) ∧ (x3 = 8 → Q (σ3 c_4 10) σ3) ∧ (x3 = 9 → Q (σ3 c_4 11) σ3) ∧ (x3 = 10 → Q (σ3 c_4 12) σ3) ∧ (x3 = 11 → Q (σ3 c_4 6) σ3) ∧ (¬ (x3 = 0 ∨ x3 = 1 ∨ x3 = 2 ∨ x3 = 3 ∨ x3 = 4 ∨ x3 = 5 ∨ x3 = 6 ∨ x3 = 7 ∨ x3 = 8 ∨ x3 = 9 ∨ x3 = 10 ∨ x3 = 11) → Q (-1) σ3))))) ∧ (r1 = 0 → Q (-1) σ1)))
set_option maxHeartbeats 8000000 in
set_option maxRecDepth 100000 in
theorem tX8_receiver {l : Launch} {G : GG} {P : Nat} {tS : Nat × (Nat → Int32)} (hgo : go G = some tS) {x1 : Int32} {x2 : Int32} {x3 : Int32} {σ : Sg} {Q : Int32 → Sg → Prop} (h0 : isHouse G P) (h : wpX8_receiver P x1 x2 x3 σ Q) : Ki l G yX8_receiver (wB yX8_receiver prog_1_method_11_code 5 (Option.some FieldType.int)) ({ frames := 2, cells := 0, slots := 0, locals := 43 }) [.ref (ga G 0), .int x1, .int x2, .int x3] σ Q := by
  refine K_of (cc := cX8_receiver) (maxL := 5) (ret := (some .int)) (by decide) rfl (Nat.le_of_ble_eq_true rfl) ?_
  intro p e s m args below meth c ls B hH hl
  obtain ⟨hx, hb, hr, hts, hown, hlk, hml, hK, hX⟩ := B
  replace hl : lv_has ls 5 [(0, .ref (ga G 0)), (1, .int x1), (2, .int x2), (3, .int x3)] := hl
  have hXN : NWs s := XS.nw hX hgo
  have hB : ∀ w ∈ BIG, w.before args s = true := fun w h9 => hts w (List.mem_cons_of_mem _ h9)
  clear hts
  have k42 := hB _ bw2_122
  have k185 : (Cond.fieldLinkNest RX8 185 "BearerHouse$Receiver" "low" "I" "BearerHouse").before args s = true := va_Nw.use rfl (hXN.1 ("BearerHouse", 185, "BearerHouse$Receiver", "low", "I", "BearerHouse") (List.mem_of_getElem? (i := 14) rfl))
  have k186 : (Cond.fieldLinkNest RX8 186 "BearerHouse$Receiver" "high" "I" "BearerHouse").before args s = true := va_Nw.use rfl (hXN.1 ("BearerHouse", 186, "BearerHouse$Receiver", "high", "I", "BearerHouse") (List.mem_of_getElem? (i := 15) rfl))
  have k189 : (Cond.fieldLinkNest RX8 189 "BearerHouse$Receiver" "told" "I" "BearerHouse").before args s = true := va_Nw.use rfl (hXN.1 ("BearerHouse", 189, "BearerHouse$Receiver", "told", "I", "BearerHouse") (List.mem_of_getElem? (i := 16) rfl))
  have k192 : (Cond.fieldLinkNest RX8 192 "BearerHouse$Receiver" "awaited" "I" "BearerHouse").before args s = true := va_Nw.use rfl (hXN.1 ("BearerHouse", 192, "BearerHouse$Receiver", "awaited", "I", "BearerHouse") (List.mem_of_getElem? (i := 17) rfl))
  have k195 : (Cond.fieldLinkNest RX8 195 "BearerHouse$Receiver" "reorderTimer" "I" "BearerHouse").before args s = true := va_Nw.use rfl (hXN.1 ("BearerHouse", 195, "BearerHouse$Receiver", "reorderTimer", "I", "BearerHouse") (List.mem_of_getElem? (i := 18) rfl))
  have k198 : (Cond.fieldLinkNest RX8 198 "BearerHouse$Receiver" "prohibitTimer" "I" "BearerHouse").before args s = true := va_Nw.use rfl (hXN.1 ("BearerHouse", 198, "BearerHouse$Receiver", "prohibitTimer", "I", "BearerHouse") (List.mem_of_getElem? (i := 19) rfl))
  have k201 : (Cond.fieldLinkNest RX8 201 "BearerHouse$Receiver" "wanted" "Z" "BearerHouse").before args s = true := va_Nw.use rfl (hXN.1 ("BearerHouse", 201, "BearerHouse$Receiver", "wanted", "Z", "BearerHouse") (List.mem_of_getElem? (i := 20) rfl))
  have k207 : (Cond.fieldLinkNest RX8 207 "BearerHouse$Receiver" "statusMade" "I" "BearerHouse").before args s = true := va_Nw.use rfl (hXN.1 ("BearerHouse", 207, "BearerHouse$Receiver", "statusMade", "I", "BearerHouse") (List.mem_of_getElem? (i := 21) rfl))
  have k210 : (Cond.fieldLinkNest RX8 210 "BearerHouse$Receiver" "dataCame" "I" "BearerHouse").before args s = true := va_Nw.use rfl (hXN.1 ("BearerHouse", 210, "BearerHouse$Receiver", "dataCame", "I", "BearerHouse") (List.mem_of_getElem? (i := 22) rfl))
  have k213 : (Cond.fieldLinkNest RX8 213 "BearerHouse$Receiver" "dataInVain" "I" "BearerHouse").before args s = true := va_Nw.use rfl (hXN.1 ("BearerHouse", 213, "BearerHouse$Receiver", "dataInVain", "I", "BearerHouse") (List.mem_of_getElem? (i := 23) rfl))
  have k216 : (Cond.fieldLinkNest RX8 216 "BearerHouse$Receiver" "polls" "I" "BearerHouse").before args s = true := va_Nw.use rfl (hXN.1 ("BearerHouse", 216, "BearerHouse$Receiver", "polls", "I", "BearerHouse") (List.mem_of_getElem? (i := 24) rfl))
  unfold wpX8_receiver at h
  refine lv_aload_n hx hb dX8_receiver_0 rfl (lv_at hl 0 rfl) ?_
  refine lv_iload_n hx hb dX8_receiver_1 rfl (lv_at hl 1 rfl) ?_
  refine lv_iload_n hx hb dX8_receiver_2 rfl (lv_at hl 2 rfl) ?_
  refine g_callVi (As := [.int x1, .int x2]) (rest := []) ⟨hx, hb, hml, hown, hB⟩ hK hX aA_hA hH (c0 := 0) (tX8_isPlace h0 h) (cwV 2 hB gVX8_63 rfl rfl rfl (by decide +kernel) ⟨Nat.le_of_ble_eq_true rfl, Nat.le_of_ble_eq_true rfl⟩) h0.1 rfl rfl hl.1 rfl (lv_room (Nat.le_of_ble_eq_true rfl)) ⟨Nat.zero_le _, Nat.zero_le _⟩ dX8_receiver_3 (fun r1 σ1 H locs h hH => ?_)
  refine lv_if_ne (tgt := 11) hx hb dX8_receiver_6 (by decide) (fun q2 => ?_) (fun q2 => ?_)
  · replace h := h.1 q2
    refine lv_aload_n hx hb dX8_receiver_11 rfl (lv_at hl 0 rfl) ?_
    refine g_getr hx hb hB inB8 hown hK hH (c0 := 0) h0.1 rfl 6 (by decide) k42 rfl (c1 := 8) rfl dX8_receiver_12 ?_
    refine lv_aload_n hx hb dX8_receiver_15 rfl (lv_at hl 0 rfl) ?_
    refine lv_iload_n hx hb dX8_receiver_16 rfl (lv_at hl 1 rfl) ?_
    refine lv_iload_n hx hb dX8_receiver_17 rfl (lv_at hl 2 rfl) ?_
    refine g_callVi (As := [.int x1, .int x2]) (rest := [.ref (ga G 8)]) ⟨hx, hb, hml, hown, hB⟩ hK hX aA_hA hH (c0 := 0) (tX8_placeOf h0 h) (cwV 2 hB gVX8_67 rfl rfl rfl (by decide +kernel) ⟨Nat.le_of_ble_eq_true rfl, Nat.le_of_ble_eq_true rfl⟩) h0.1 rfl rfl hl.1 rfl (lv_room (Nat.le_of_ble_eq_true rfl)) ⟨Nat.zero_le _, Nat.zero_le _⟩ dX8_receiver_18 (fun r3 σ3 H locs h hH => ?_)
    obtain ⟨hi4, h⟩ := h
    refine g_aald hx hb hK hH (c0 := 8) h0.2.2.2.2.2.1 hi4 dX8_receiver_21 ?_
    have hp4 : isReceiver G (51 + 113 * r3.toNatClampNeg) := h0.2.2.2.2.2.2.2.2.1 _ (vp_lt hi4)
    obtain ⟨c_4, ec_4⟩ : ∃ y : Nat, y = 51 + 113 * r3.toNatClampNeg := ⟨_, rfl⟩
    replace h := h c_4 ec_4
    rw [← ec_4] at hp4
    refine W.eq (g2 := F0 m 22 ls [.ref (ga G c_4)]) (by rw [ec_4]) ?_
    refine lv_astore (lv' := [(4, .ref (ga G c_4)), (0, .ref (ga G 0)), (1, .int x1), (2, .int x2), (3, .int x3)]) hx hb dX8_receiver_22 hl (by decide) rfl (fun ls hl => ?_)
    refine lv_iload_n hx hb dX8_receiver_24 rfl (lv_at hl 4 rfl) ?_
    by_cases g5_0 : x3 = 0
    · refine lv_tableIn (off := 63) (tgt := 88) hx hb dX8_receiver_25 (by rw [g5_0]; decide) (by rw [g5_0]; decide) (by rw [g5_0]; rfl) (by decide) ?_
      replace h := h.1 g5_0
      refine lv_aload hx hb dX8_receiver_88 (lv_at hl 0 rfl) ?_
      refine g_getiN hx hb hB inB6 hown hK hH (c0 := c_4) hp4.1 rfl 2 (by decide) k185 rfl rfl dX8_receiver_90 ?_
      exact g_iret hx hb hr hK hlk h hH dX8_receiver_93
    by_cases g5_1 : x3 = 1
    · refine lv_tableIn (off := 69) (tgt := 94) hx hb dX8_receiver_25 (by rw [g5_1]; decide) (by rw [g5_1]; decide) (by rw [g5_1]; rfl) (by decide) ?_
      replace h := h.2.1 g5_1
      refine lv_aload hx hb dX8_receiver_94 (lv_at hl 0 rfl) ?_
      refine g_getiN hx hb hB inB6 hown hK hH (c0 := c_4) hp4.1 rfl 3 (by decide) k186 rfl rfl dX8_receiver_96 ?_
      exact g_iret hx hb hr hK hlk h hH dX8_receiver_99
    by_cases g5_2 : x3 = 2
    · refine lv_tableIn (off := 75) (tgt := 100) hx hb dX8_receiver_25 (by rw [g5_2]; decide) (by rw [g5_2]; decide) (by rw [g5_2]; rfl) (by decide) ?_
      replace h := h.2.2.1 g5_2
      refine lv_aload hx hb dX8_receiver_100 (lv_at hl 0 rfl) ?_
      refine g_getiN hx hb hB inB6 hown hK hH (c0 := c_4) hp4.1 rfl 4 (by decide) k189 rfl rfl dX8_receiver_102 ?_
      exact g_iret hx hb hr hK hlk h hH dX8_receiver_105
    by_cases g5_3 : x3 = 3
    · refine lv_tableIn (off := 81) (tgt := 106) hx hb dX8_receiver_25 (by rw [g5_3]; decide) (by rw [g5_3]; decide) (by rw [g5_3]; rfl) (by decide) ?_
      replace h := h.2.2.2.1 g5_3
      refine lv_aload hx hb dX8_receiver_106 (lv_at hl 0 rfl) ?_
      refine g_getiN hx hb hB inB6 hown hK hH (c0 := c_4) hp4.1 rfl 5 (by decide) k192 rfl rfl dX8_receiver_108 ?_
      exact g_iret hx hb hr hK hlk h hH dX8_receiver_111
    by_cases g5_4 : x3 = 4
    · refine lv_tableIn (off := 87) (tgt := 112) hx hb dX8_receiver_25 (by rw [g5_4]; decide) (by rw [g5_4]; decide) (by rw [g5_4]; rfl) (by decide) ?_
      replace h := h.2.2.2.2.1 g5_4
      refine lv_aload hx hb dX8_receiver_112 (lv_at hl 0 rfl) ?_
      refine g_getiN hx hb hB inB6 hown hK hH (c0 := c_4) hp4.1 rfl 8 (by decide) k195 rfl rfl dX8_receiver_114 ?_
      exact g_iret hx hb hr hK hlk h hH dX8_receiver_117
    by_cases g5_5 : x3 = 5
    · refine lv_tableIn (off := 93) (tgt := 118) hx hb dX8_receiver_25 (by rw [g5_5]; decide) (by rw [g5_5]; decide) (by rw [g5_5]; rfl) (by decide) ?_
      replace h := h.2.2.2.2.2.1 g5_5
      refine lv_aload hx hb dX8_receiver_118 (lv_at hl 0 rfl) ?_
      refine g_getiN hx hb hB inB6 hown hK hH (c0 := c_4) hp4.1 rfl 9 (by decide) k198 rfl rfl dX8_receiver_120 ?_
      exact g_iret hx hb hr hK hlk h hH dX8_receiver_123
    by_cases g5_6 : x3 = 6
    · refine lv_tableIn (off := 99) (tgt := 124) hx hb dX8_receiver_25 (by rw [g5_6]; decide) (by rw [g5_6]; decide) (by rw [g5_6]; rfl) (by decide) ?_
      replace h := h.2.2.2.2.2.2.1 g5_6
      refine lv_aload hx hb dX8_receiver_124 (lv_at hl 0 rfl) ?_
      refine g_getiN hx hb hB inB6 hown hK hH (c0 := c_4) hp4.1 rfl 7 (by decide) k201 rfl rfl dX8_receiver_126 ?_
      refine lv_if_eq (tgt := 136) hx hb dX8_receiver_129 (by decide) (fun q6 => ?_) (fun q6 => ?_)
      · replace h := h.1 q6
        refine lv_iconst (v := 0) hx hb dX8_receiver_136 (by decide) ?_
        exact g_iret hx hb hr hK hlk h hH dX8_receiver_137
      · replace h := h.2 q6
        refine lv_iconst (v := 1) hx hb dX8_receiver_132 (by decide) ?_
        refine lv_goto (tgt := 137) hx hb dX8_receiver_133 (by decide) ?_
        exact g_iret hx hb hr hK hlk h hH dX8_receiver_137
    by_cases g5_7 : x3 = 7
    · refine lv_tableIn (off := 113) (tgt := 138) hx hb dX8_receiver_25 (by rw [g5_7]; decide) (by rw [g5_7]; decide) (by rw [g5_7]; rfl) (by decide) ?_
      replace h := h.2.2.2.2.2.2.2.1 g5_7
      refine lv_aload hx hb dX8_receiver_138 (lv_at hl 0 rfl) ?_
      refine g_callVi (As := []) (rest := []) ⟨hx, hb, hml, hown, hB⟩ hK hX aA_hA hH (c0 := c_4) (tX6_heldBytes (tS := tS) hgo hp4 h) (cwV 0 hB gVX8_204 rfl rfl rfl (by decide +kernel) ⟨Nat.le_of_ble_eq_true rfl, Nat.le_of_ble_eq_true rfl⟩) hp4.1 rfl rfl hl.1 rfl (lv_room (Nat.le_of_ble_eq_true rfl)) ⟨Nat.zero_le _, Nat.zero_le _⟩ dX8_receiver_140 (fun r7 σ7 H locs h hH => ?_)
      exact g_iret hx hb hr hK hlk h hH dX8_receiver_143
    by_cases g5_8 : x3 = 8
    · refine lv_tableIn (off := 119) (tgt := 144) hx hb dX8_receiver_25 (by rw [g5_8]; decide) (by rw [g5_8]; decide) (by rw [g5_8]; rfl) (by decide) ?_
      replace h := h.2.2.2.2.2.2.2.2.1 g5_8
      refine lv_aload hx hb dX8_receiver_144 (lv_at hl 0 rfl) ?_
      refine g_getiN hx hb hB inB6 hown hK hH (c0 := c_4) hp4.1 rfl 10 (by decide) k207 rfl rfl dX8_receiver_146 ?_
      exact g_iret hx hb hr hK hlk h hH dX8_receiver_149
    by_cases g5_9 : x3 = 9
    · refine lv_tableIn (off := 125) (tgt := 150) hx hb dX8_receiver_25 (by rw [g5_9]; decide) (by rw [g5_9]; decide) (by rw [g5_9]; rfl) (by decide) ?_
      replace h := h.2.2.2.2.2.2.2.2.2.1 g5_9
      refine lv_aload hx hb dX8_receiver_150 (lv_at hl 0 rfl) ?_
      refine g_getiN hx hb hB inB6 hown hK hH (c0 := c_4) hp4.1 rfl 11 (by decide) k210 rfl rfl dX8_receiver_152 ?_
      exact g_iret hx hb hr hK hlk h hH dX8_receiver_155
    by_cases g5_10 : x3 = 10
    · refine lv_tableIn (off := 131) (tgt := 156) hx hb dX8_receiver_25 (by rw [g5_10]; decide) (by rw [g5_10]; decide) (by rw [g5_10]; rfl) (by decide) ?_
      replace h := h.2.2.2.2.2.2.2.2.2.2.1 g5_10
      refine lv_aload hx hb dX8_receiver_156 (lv_at hl 0 rfl) ?_
      refine g_getiN hx hb hB inB6 hown hK hH (c0 := c_4) hp4.1 rfl 12 (by decide) k213 rfl rfl dX8_receiver_158 ?_
      exact g_iret hx hb hr hK hlk h hH dX8_receiver_161
    by_cases g5_11 : x3 = 11
    · refine lv_tableIn (off := 137) (tgt := 162) hx hb dX8_receiver_25 (by rw [g5_11]; decide) (by rw [g5_11]; decide) (by rw [g5_11]; rfl) (by decide) ?_
      replace h := h.2.2.2.2.2.2.2.2.2.2.2.1 g5_11
      refine lv_aload hx hb dX8_receiver_162 (lv_at hl 0 rfl) ?_
      refine g_getiN hx hb hB inB6 hown hK hH (c0 := c_4) hp4.1 rfl 6 (by decide) k216 rfl rfl dX8_receiver_164 ?_
      exact g_iret hx hb hr hK hlk h hH dX8_receiver_167
    have gg5 : ∀ k : Nat, k < 12 → ¬ x3 = nI k := by
      intro k hk
      rcases (show k = 0 ∨ k = 1 ∨ k = 2 ∨ k = 3 ∨ k = 4 ∨ k = 5 ∨ k = 6 ∨ k = 7 ∨ k = 8 ∨ k = 9 ∨ k = 10 ∨ k = 11 by omega) with rfl | rfl | rfl | rfl | rfl | rfl | rfl | rfl | rfl | rfl | rfl | rfl <;> assumption
    refine lv_tableOut (tgt := 168) hx hb dX8_receiver_25 (sw_out (n := 12) (by decide) (by decide) gg5) (by decide) ?_
    replace h := h.2.2.2.2.2.2.2.2.2.2.2.2 (by simp only [not_or]; exact ⟨g5_0, g5_1, g5_2, g5_3, g5_4, g5_5, g5_6, g5_7, g5_8, g5_9, g5_10, g5_11⟩)
    refine lv_iconst (v := (-1)) hx hb dX8_receiver_168 (by decide) ?_
    exact g_iret hx hb hr hK hlk h hH dX8_receiver_169
  · replace h := h.2 q2
    refine lv_iconst (v := (-1)) hx hb dX8_receiver_9 (by decide) ?_
    exact g_iret hx hb hr hK hlk h hH dX8_receiver_10
