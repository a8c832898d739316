def wpX2_setKey_L192 (tb : Nat → Int32) (Q : Sg → Prop) (K48 : Nat → Int32 → Int32 → Sg → Prop) (c0 : Nat) (x3 : Int32) (x4 : Int32) (σ : Sg) : Prop := ∀ x4_15 : Int32, x4_15 = x4 + 4 → K48 c0 x3 x4_15 σ
def wpX2_setKey_L126 (tb : Nat → Int32) (Q : Sg → Prop) (K48 : Nat → Int32 → Int32 → Sg → Prop) (K76 : Nat → Int32 → Int32 → Int32 → Int32 → Sg → Prop) (c0 : Nat) (x3 : Int32) (x4 : Int32) (x5 : Int32) (x6 : Int32) (z0 : Int32) (σ : Sg) : Prop := (vp_in ((x4 + x6) - 16) 176 ∧ (vp_in (x4 + x6) 176 ∧ ∀ σ17 : Sg, σ17 = up2 σ (c0 + 1) ((x4 + x6).toNatClampNeg) ((σ (c0 + 1) ((x4 + x6) - 16).toNatClampNeg) ^^^ z0) → ∀ x6_18 : Int32, x6_18 = x6 + 1 → K76 c0 x3 x4 x5 x6_18 σ17))
def wpX2_setKey_L76 (tb : Nat → Int32) (Q : Sg → Prop) (K48 : Nat → Int32 → Int32 → Sg → Prop) : Nat → Nat → Int32 → Int32 → Int32 → Int32 → Sg → Prop
  | 0, _, _, _, _, _, _ => False
  | n + 1, c0, x3, x4, x5, x6, σ => ((4 ≤ x6 → ((x5 = 0 → wpX2_setKey_L192 tb Q K48 c0 x3 x4 σ) ∧ (¬ (x5 = 0) → (vp_in x4 176 ∧ (vp_in x4 176 ∧ ∀ σ9 : Sg, σ9 = up2 σ (c0 + 1) x4.toNatClampNeg ((σ (c0 + 1) x4.toNatClampNeg) ^^^ x3) → ∀ x3_10 : Int32, x3_10 = ((x3 <<< ((1 : Int32) &&& 31)) ^^^ ((x3 >>> ((7 : Int32) &&& 31)) * 27)) &&& 255 → wpX2_setKey_L192 tb Q K48 c0 x3_10 x4 σ9))))) ∧ (¬ (4 ≤ x6) → ((x5 = 0 → (vp_in ((x4 - 4) + x6) 176 ∧ wpX2_setKey_L126 tb Q K48 (wpX2_setKey_L76 tb Q K48 n) c0 x3 x4 x5 x6 (σ (c0 + 1) ((x4 - 4) + x6).toNatClampNeg) σ)) ∧ (¬ (x5 = 0) → (vp_in ((x4 - 4) + ((x6 + 1) &&& 3)) 176 ∧ (vp_in ((σ (c0 + 1) ((x4 - 4) + ((x6 + 1) &&& 3)).toNatClampNeg) &&& 255) 256 ∧ wpX2_setKey_L126 tb Q K48 (wpX2_setKey_L76 tb Q K48 n) c0 x3 x4 x5 x6 (tb ((σ (c0 + 1) ((x4 - 4) + ((x6 + 1) &&& 3)).toNatClampNeg) &&& 255).toNatClampNeg) σ))))))
def wpX2_setKey_L71 (tb : Nat → Int32) (Q : Sg → Prop) (K48 : Nat → Int32 → Int32 → Sg → Prop) (c0 : Nat) (x3 : Int32) (x4 : Int32) (z0 : Int32) (σ : Sg) : Prop := ∃ nn, wpX2_setKey_L76 tb Q K48 nn c0 x3 x4 z0 0 σ
def wpX2_setKey_L48 (tb : Nat → Int32) (Q : Sg → Prop) : Nat → Nat → Int32 → Int32 → Sg → Prop
  | 0, _, _, _, _ => False
  | n + 1, c0, x3, x4, σ => (((nI 176) ≤ x4 → Q σ) ∧ (¬ ((nI 176) ≤ x4) → ((¬ (x4 &&& 15) = 0 → wpX2_setKey_L71 tb Q (wpX2_setKey_L48 tb Q n) c0 x3 x4 0 σ) ∧ ((x4 &&& 15) = 0 → wpX2_setKey_L71 tb Q (wpX2_setKey_L48 tb Q n) c0 x3 x4 1 σ))))
def wpX2_setKey_L2 (tb : Nat → Int32) (Q : Sg → Prop) : Nat → Nat → Int32 → Int32 → Int32 → Sg → Prop
  | 0, _, _, _, _, _ => False
  | n + 1, c0, x1, x2, x3, σ => ((16 ≤ x3 → ∃ nn, wpX2_setKey_L48 tb Q nn c0 1 16 σ) ∧ (¬ (16 ≤ x3) → (vp_in x3 176 ∧ ∀ σ2 : Sg, σ2 = up2 σ (c0 + 1) x3.toNatClampNeg ((((x1 >>> ((8 * (x3 &&& 3)) &&& 31)) + (17 * x3)) + (29 * x2)) &&& 255) → ∀ x3_3 : Int32, x3_3 = x3 + 1 → (wpX2_setKey_L2 tb Q n) c0 x1 x2 x3_3 σ2)))
def wpX2_setKey (tb : Nat → Int32) (c0 : Nat) (x1 : Int32) (x2 : Int32) (σ : Sg) (Q : Sg → Prop) : Prop := ∃ nn, wpX2_setKey_L2 tb Q nn c0 x1 x2 0 σ
set_option maxHeartbeats 8000000 in
set_option maxRecDepth 100000 in
theorem tX2_setKey {l : Launch} {G : GG} {tS : Nat × (Nat → Int32)} (hgo : go G = some tS) {c0 : Nat} {x1 : Int32} {x2 : Int32} {σ : Sg} {Q : Sg → Prop} (hc0 : isCipher G c0) (h : wpX2_setKey tS.2 c0 x1 x2 σ Q) : Kv l G yX2_setKey (wB yX2_setKey prog_4_method_2_code 8 none) ({ frames := 0, cells := 0, slots := 0, locals := 0 }) [.ref (ga G c0), .int x1, .int x2] σ Q := by
  refine K_of (cc := cX2_setKey) (maxL := 8) (ret := none) (by decide) rfl (Nat.le_of_ble_eq_true rfl) ?_
  intro p e s m args below meth c ls B hH hl
  obtain ⟨hx, hb, hr, hts, hown, hlk, hml, hK, hX⟩ := B
  replace hl : lv_has ls 8 [(0, .ref (ga G c0)), (1, .int x1), (2, .int x2)] := hl
  have hXN : NWs s := XS.nw hX hgo
  have hXS : XS (some tS) (aA G s.heap.size) s := by rw [← hgo]; exact hX
  have hB : ∀ w ∈ BIG, w.before args s = true := fun w h9 => hts w (List.mem_cons_of_mem _ h9)
  clear hts
  have k7 := hB _ bw1_28
  have k19 : (Cond.fieldLinkNest RX2 19 "BearerHouse" "SBOX" "[I" "BearerHouse").before args s = true := va_Nw.use rfl (hXN.1 ("BearerHouse$Cipher", 19, "BearerHouse", "SBOX", "[I", "BearerHouse") (List.mem_of_getElem? (i := 42) rfl))
  have L48 : ∀ (n48 : Nat) (c0 : Nat) (hc0 : isCipher G c0) (x3 : Int32) (x4 : Int32) (σ : Sg) (H : Heap) (locs : List Loc) (ls : Array Slot), Hx G (aA G s.heap.size) s σ H locs → lv_has ls 8 [(0, .ref (ga G c0)), (3, .int x3), (4, .int x4)] → wpX2_setKey_L48 tS.2 Q n48 c0 x3 x4 σ → W p l e ({ frames := 0, cells := 0, slots := 0, locals := 0 }) s m args below meth c H locs 0 0 (Zv G Q below args s) (F0 m 48 ls []) := by
    intro n48
    induction n48 with
    | zero =>
      intro c0 hc0 x3 x4 σ H locs ls hH hl h
      exact False.elim h
    | succ n48 ih48 =>
      have L192 : ∀ (c0 : Nat) (hc0 : isCipher G c0) (x3 : Int32) (x4 : Int32) (σ : Sg) (H : Heap) (locs : List Loc) (ls : Array Slot), Hx G (aA G s.heap.size) s σ H locs → lv_has ls 8 [(0, .ref (ga G c0)), (3, .int x3), (4, .int x4)] → wpX2_setKey_L192 tS.2 Q (wpX2_setKey_L48 tS.2 Q n48) c0 x3 x4 σ → W p l e ({ frames := 0, cells := 0, slots := 0, locals := 0 }) s m args below meth c H locs 0 0 (Zv G Q below args s) (F0 m 192 ls []) := by
        intro c0 hc0 x3 x4 σ H locs ls hH hl h
        unfold wpX2_setKey_L192 at h
        obtain ⟨x4_15, ex4_15⟩ : ∃ y : Int32, y = x4 + 4 := ⟨_, rfl⟩
        replace h := h x4_15 ex4_15
        refine lv_iinc (v := x4_15) (lv' := [(4, .int x4_15), (0, .ref (ga G c0)), (3, .int x3)]) hx hb dX2_setKey_192 hl (k := 2) rfl (by rw [ex4_15]; rfl) (by decide) rfl (fun ls hl => ?_)
        refine lv_goto (tgt := 48) hx hb dX2_setKey_195 (by decide) ?_
        exact ih48 c0 hc0 x3 x4_15 σ _ _ ls hH (lv_sub hl [1, 2, 0] rfl) h
      have L76 : ∀ (n76 : Nat) (c0 : Nat) (hc0 : isCipher G c0) (x3 : Int32) (x4 : Int32) (x5 : Int32) (x6 : Int32) (σ : Sg) (H : Heap) (locs : List Loc) (ls : Array Slot), Hx G (aA G s.heap.size) s σ H locs → lv_has ls 8 [(0, .ref (ga G c0)), (3, .int x3), (4, .int x4), (5, .int x5), (6, .int x6)] → wpX2_setKey_L76 tS.2 Q (wpX2_setKey_L48 tS.2 Q n48) n76 c0 x3 x4 x5 x6 σ → W p l e ({ frames := 0, cells := 0, slots := 0, locals := 0 }) s m args below meth c H locs 0 0 (Zv G Q below args s) (F0 m 76 ls []) := by
        intro n76
        induction n76 with
        | zero =>
          intro c0 hc0 x3 x4 x5 x6 σ H locs ls hH hl h
          exact False.elim h
        | succ n76 ih76 =>
          have L126 : ∀ (c0 : Nat) (hc0 : isCipher G c0) (x3 : Int32) (x4 : Int32) (x5 : Int32) (x6 : Int32) (z0 : Int32) (σ : Sg) (H : Heap) (locs : List Loc) (ls : Array Slot), Hx G (aA G s.heap.size) s σ H locs → lv_has ls 8 [(0, .ref (ga G c0)), (3, .int x3), (4, .int x4), (5, .int x5), (6, .int x6)] → wpX2_setKey_L126 tS.2 Q (wpX2_setKey_L48 tS.2 Q n48) (wpX2_setKey_L76 tS.2 Q (wpX2_setKey_L48 tS.2 Q n48) n76) c0 x3 x4 x5 x6 z0 σ → W p l e ({ frames := 0, cells := 0, slots := 0, locals := 0 }) s m args below meth c H locs 0 0 (Zv G Q below args s) (F0 m 126 ls [.int z0]) := by
            intro c0 hc0 x3 x4 x5 x6 z0 σ H locs ls hH hl h
            unfold wpX2_setKey_L126 at h
            refine lv_istore (lv' := [(7, .int z0), (0, .ref (ga G c0)), (3, .int x3), (4, .int x4), (5, .int x5), (6, .int x6)]) hx hb dX2_setKey_126 hl (by decide) rfl (fun ls hl => ?_)
            refine lv_aload_n hx hb dX2_setKey_128 rfl (lv_at hl 1 rfl) ?_
            refine g_getr hx hb hB inB2 hown hK hH (c0 := c0) hc0.1 rfl 0 (by decide) k7 rfl (c1 := c0 + 1) rfl dX2_setKey_129 ?_
            refine lv_iload hx hb dX2_setKey_132 (lv_at hl 3 rfl) ?_
            refine lv_iload hx hb dX2_setKey_134 (lv_at hl 5 rfl) ?_
            refine lv_iadd hx hb dX2_setKey_136 ?_
            refine lv_aload_n hx hb dX2_setKey_137 rfl (lv_at hl 1 rfl) ?_
            refine g_getr hx hb hB inB2 hown hK hH (c0 := c0) hc0.1 rfl 0 (by decide) k7 rfl (c1 := c0 + 1) rfl dX2_setKey_138 ?_
            refine lv_iload hx hb dX2_setKey_141 (lv_at hl 3 rfl) ?_
            refine lv_iload hx hb dX2_setKey_143 (lv_at hl 5 rfl) ?_
            refine lv_iadd hx hb dX2_setKey_145 ?_
            refine lv_bipush (v := 16) hx hb dX2_setKey_146 (by decide) ?_
            refine lv_isub hx hb dX2_setKey_148 ?_
            obtain ⟨hi16, h⟩ := h
            refine g_iald hx hb hK hH (c0 := c0 + 1) hc0.2.1 hi16 dX2_setKey_149 ?_
            refine lv_iload hx hb dX2_setKey_150 (lv_at hl 0 rfl) ?_
            refine lv_ixor hx hb dX2_setKey_152 ?_
            obtain ⟨hi17, h⟩ := h
            refine g_iast hx hb hK hH (c0 := c0 + 1) (i := x4 + x6) hc0.2.1 hi17 dX2_setKey_153 (fun σ17 eσ17 H locs hH => ?_)
            replace h := h σ17 eσ17
            obtain ⟨x6_18, ex6_18⟩ : ∃ y : Int32, y = x6 + 1 := ⟨_, rfl⟩
            replace h := h x6_18 ex6_18
            refine lv_iinc (v := x6_18) (lv' := [(6, .int x6_18), (7, .int z0), (0, .ref (ga G c0)), (3, .int x3), (4, .int x4), (5, .int x5)]) hx hb dX2_setKey_154 hl (k := 5) rfl (by rw [ex6_18]; rfl) (by decide) rfl (fun ls hl => ?_)
            refine lv_goto (tgt := 76) hx hb dX2_setKey_157 (by decide) ?_
            exact ih76 c0 hc0 x3 x4 x5 x6_18 σ17 _ _ ls hH (lv_sub hl [2, 3, 4, 5, 0] rfl) h
          intro c0 hc0 x3 x4 x5 x6 σ H locs ls hH hl h
          unfold wpX2_setKey_L76 at h
          refine lv_iload hx hb dX2_setKey_76 (lv_at hl 4 rfl) ?_
          refine lv_iconst (v := 4) hx hb dX2_setKey_78 (by decide) ?_
          refine lv_icmp_ge (tgt := 160) hx hb dX2_setKey_79 (by decide) (fun q6 => ?_) (fun q6 => ?_)
          · replace h := h.1 q6
            refine lv_iload hx hb dX2_setKey_160 (lv_at hl 3 rfl) ?_
            refine lv_if_eq (tgt := 192) hx hb dX2_setKey_162 (by decide) (fun q7 => ?_) (fun q7 => ?_)
            · replace h := h.1 q7
              exact L192 c0 hc0 x3 x4 σ _ _ ls hH (lv_sub hl [0, 1, 2] rfl) h
            · replace h := h.2 q7
              refine lv_aload_n hx hb dX2_setKey_165 rfl (lv_at hl 0 rfl) ?_
              refine g_getr hx hb hB inB2 hown hK hH (c0 := c0) hc0.1 rfl 0 (by decide) k7 rfl (c1 := c0 + 1) rfl dX2_setKey_166 ?_
              refine lv_iload hx hb dX2_setKey_169 (lv_at hl 2 rfl) ?_
              refine lv_dup2_11 hx hb dX2_setKey_171 rfl rfl ?_
              obtain ⟨hi8, h⟩ := h
              refine g_iald hx hb hK hH (c0 := c0 + 1) hc0.2.1 hi8 dX2_setKey_172 ?_
              refine lv_iload_n hx hb dX2_setKey_173 rfl (lv_at hl 1 rfl) ?_
              refine lv_ixor hx hb dX2_setKey_174 ?_
              obtain ⟨hi9, h⟩ := h
              refine g_iast hx hb hK hH (c0 := c0 + 1) (i := x4) hc0.2.1 hi9 dX2_setKey_175 (fun σ9 eσ9 H locs hH => ?_)
              replace h := h σ9 eσ9
              refine lv_iload_n hx hb dX2_setKey_176 rfl (lv_at hl 1 rfl) ?_
              refine lv_iconst (v := 1) hx hb dX2_setKey_177 (by decide) ?_
              refine lv_ishl hx hb dX2_setKey_178 ?_
              refine lv_iload_n hx hb dX2_setKey_179 rfl (lv_at hl 1 rfl) ?_
              refine lv_bipush (v := 7) hx hb dX2_setKey_180 (by decide) ?_
              refine lv_ishr hx hb dX2_setKey_182 ?_
              refine lv_bipush (v := 27) hx hb dX2_setKey_183 (by decide) ?_
              refine lv_imul hx hb dX2_setKey_185 ?_
              refine lv_ixor hx hb dX2_setKey_186 ?_
              refine lv_sipush (v := 255) hx hb dX2_setKey_187 (by decide) ?_
              refine lv_iand hx hb dX2_setKey_190 ?_
              refine lv_topi (fun x3_10 ex3_10 => ?_)
              replace h := h x3_10 ex3_10
              refine lv_istore_n (lv' := [(3, .int x3_10), (0, .ref (ga G c0)), (4, .int x4), (5, .int x5), (6, .int x6)]) hx hb dX2_setKey_191 rfl hl (by decide) rfl (fun ls hl => ?_)
              exact L192 c0 hc0 x3_10 x4 σ9 _ _ ls hH (lv_sub hl [1, 0, 2] rfl) h
          · replace h := h.2 q6
            refine lv_iload hx hb dX2_setKey_82 (lv_at hl 3 rfl) ?_
            refine lv_if_eq (tgt := 114) hx hb dX2_setKey_84 (by decide) (fun q11 => ?_) (fun q11 => ?_)
            · replace h := h.1 q11
              refine lv_aload_n hx hb dX2_setKey_114 rfl (lv_at hl 0 rfl) ?_
              refine g_getr hx hb hB inB2 hown hK hH (c0 := c0) hc0.1 rfl 0 (by decide) k7 rfl (c1 := c0 + 1) rfl dX2_setKey_115 ?_
              refine lv_iload hx hb dX2_setKey_118 (lv_at hl 2 rfl) ?_
              refine lv_iconst (v := 4) hx hb dX2_setKey_120 (by decide) ?_
              refine lv_isub hx hb dX2_setKey_121 ?_
              refine lv_iload hx hb dX2_setKey_122 (lv_at hl 4 rfl) ?_
              refine lv_iadd hx hb dX2_setKey_124 ?_
              obtain ⟨hi12, h⟩ := h
              refine g_iald hx hb hK hH (c0 := c0 + 1) hc0.2.1 hi12 dX2_setKey_125 ?_
              exact L126 c0 hc0 x3 x4 x5 x6 (σ (c0 + 1) ((x4 - 4) + x6).toNatClampNeg) σ _ _ ls hH (lv_sub hl [0, 1, 2, 3, 4] rfl) h
            · replace h := h.2 q11
              refine va_getsN hx hb hXS.1 hH.2.2 hown k19 (fun _ h9 => h9) dX2_setKey_87 ?_
              refine lv_aload_n hx hb dX2_setKey_90 rfl (lv_at hl 0 rfl) ?_
              refine g_getr hx hb hB inB2 hown hK hH (c0 := c0) hc0.1 rfl 0 (by decide) k7 rfl (c1 := c0 + 1) rfl dX2_setKey_91 ?_
              refine lv_iload hx hb dX2_setKey_94 (lv_at hl 2 rfl) ?_
              refine lv_iconst (v := 4) hx hb dX2_setKey_96 (by decide) ?_
              refine lv_isub hx hb dX2_setKey_97 ?_
              refine lv_iload hx hb dX2_setKey_98 (lv_at hl 4 rfl) ?_
              refine lv_iconst (v := 1) hx hb dX2_setKey_100 (by decide) ?_
              refine lv_iadd hx hb dX2_setKey_101 ?_
              refine lv_iconst (v := 3) hx hb dX2_setKey_102 (by decide) ?_
              refine lv_iand hx hb dX2_setKey_103 ?_
              refine lv_iadd hx hb dX2_setKey_104 ?_
              obtain ⟨hi13, h⟩ := h
              refine g_iald hx hb hK hH (c0 := c0 + 1) hc0.2.1 hi13 dX2_setKey_105 ?_
              refine lv_sipush (v := 255) hx hb dX2_setKey_106 (by decide) ?_
              refine lv_iand hx hb dX2_setKey_109 ?_
              obtain ⟨hi14, h⟩ := h
              refine va_ti (v := .int (tS.2 ((σ (c0 + 1) ((x4 - 4) + ((x6 + 1) &&& 3)).toNatClampNeg) &&& 255).toNatClampNeg)) hx hb hXS.2.1 hH.2.2 hi14 rfl dX2_setKey_110 ?_
              refine lv_goto (tgt := 126) hx hb dX2_setKey_111 (by decide) ?_
              exact L126 c0 hc0 x3 x4 x5 x6 (tS.2 ((σ (c0 + 1) ((x4 - 4) + ((x6 + 1) &&& 3)).toNatClampNeg) &&& 255).toNatClampNeg) σ _ _ ls hH (lv_sub hl [0, 1, 2, 3, 4] rfl) h
      have L71 : ∀ (c0 : Nat) (hc0 : isCipher G c0) (x3 : Int32) (x4 : Int32) (z0 : Int32) (σ : Sg) (H : Heap) (locs : List Loc) (ls : Array Slot), Hx G (aA G s.heap.size) s σ H locs → lv_has ls 8 [(0, .ref (ga G c0)), (3, .int x3), (4, .int x4)] → wpX2_setKey_L71 tS.2 Q (wpX2_setKey_L48 tS.2 Q n48) c0 x3 x4 z0 σ → W p l e ({ frames := 0, cells := 0, slots := 0, locals := 0 }) s m args below meth c H locs 0 0 (Zv G Q below args s) (F0 m 71 ls [.int z0]) := by
        intro c0 hc0 x3 x4 z0 σ H locs ls hH hl h
        unfold wpX2_setKey_L71 at h
        refine lv_istore (lv' := [(5, .int z0), (0, .ref (ga G c0)), (3, .int x3), (4, .int x4)]) hx hb dX2_setKey_71 hl (by decide) rfl (fun ls hl => ?_)
        refine lv_iconst (v := 0) hx hb dX2_setKey_73 (by decide) ?_
        refine lv_istore (lv' := [(6, .int 0), (5, .int z0), (0, .ref (ga G c0)), (3, .int x3), (4, .int x4)]) hx hb dX2_setKey_74 hl (by decide) rfl (fun ls hl => ?_)
        obtain ⟨nn, h⟩ := h
        exact L76 nn c0 hc0 x3 x4 z0 0 σ _ _ ls hH (lv_sub hl [2, 3, 4, 1, 0] rfl) h
      intro c0 hc0 x3 x4 σ H locs ls hH hl h
      unfold wpX2_setKey_L48 at h
      refine lv_iload hx hb dX2_setKey_48 (lv_at hl 2 rfl) ?_
      refine lv_aload_n hx hb dX2_setKey_50 rfl (lv_at hl 0 rfl) ?_
      refine g_getr hx hb hB inB2 hown hK hH (c0 := c0) hc0.1 rfl 0 (by decide) k7 rfl (c1 := c0 + 1) rfl dX2_setKey_51 ?_
      refine g_aleni hx hb hK hH (c0 := c0 + 1) hc0.2.1 dX2_setKey_54 ?_
      refine lv_icmp_ge (tgt := 198) hx hb dX2_setKey_55 (by decide) (fun q4 => ?_) (fun q4 => ?_)
      · replace h := h.1 q4
        exact g_vret hx hb hr hK hlk h hH dX2_setKey_198
      · replace h := h.2 q4
        refine lv_iload hx hb dX2_setKey_58 (lv_at hl 2 rfl) ?_
        refine lv_bipush (v := 15) hx hb dX2_setKey_60 (by decide) ?_
        refine lv_iand hx hb dX2_setKey_62 ?_
        refine lv_if_ne (tgt := 70) hx hb dX2_setKey_63 (by decide) (fun q5 => ?_) (fun q5 => ?_)
        · replace h := h.1 q5
          refine lv_iconst (v := 0) hx hb dX2_setKey_70 (by decide) ?_
          exact L71 c0 hc0 x3 x4 0 σ _ _ ls hH (lv_sub hl [0, 1, 2] rfl) h
        · replace h := h.2 q5
          refine lv_iconst (v := 1) hx hb dX2_setKey_66 (by decide) ?_
          refine lv_goto (tgt := 71) hx hb dX2_setKey_67 (by decide) ?_
          exact L71 c0 hc0 x3 x4 1 σ _ _ ls hH (lv_sub hl [0, 1, 2] rfl) h
  have L2 : ∀ (n2 : Nat) (c0 : Nat) (hc0 : isCipher G c0) (x1 : Int32) (x2 : Int32) (x3 : Int32) (σ : Sg) (H : Heap) (locs : List Loc) (ls : Array Slot), Hx G (aA G s.heap.size) s σ H locs → lv_has ls 8 [(0, .ref (ga G c0)), (1, .int x1), (2, .int x2), (3, .int x3)] → wpX2_setKey_L2 tS.2 Q n2 c0 x1 x2 x3 σ → W p l e ({ frames := 0, cells := 0, slots := 0, locals := 0 }) s m args below meth c H locs 0 0 (Zv G Q below args s) (F0 m 2 ls []) := by
    intro n2
    induction n2 with
    | zero =>
      intro c0 hc0 x1 x2 x3 σ H locs ls hH hl h
      exact False.elim h
    | succ n2 ih2 =>
      intro c0 hc0 x1 x2 x3 σ H locs ls hH hl h
      unfold wpX2_setKey_L2 at h
      refine lv_iload_n hx hb dX2_setKey_2 rfl (lv_at hl 3 rfl) ?_
      refine lv_bipush (v := 16) hx hb dX2_setKey_3 (by decide) ?_
      refine lv_icmp_ge (tgt := 42) hx hb dX2_setKey_5 (by decide) (fun q1 => ?_) (fun q1 => ?_)
      · replace h := h.1 q1
        refine lv_iconst (v := 1) hx hb dX2_setKey_42 (by decide) ?_
        refine lv_istore_n (lv' := [(3, .int 1), (0, .ref (ga G c0)), (1, .int x1), (2, .int x2)]) hx hb dX2_setKey_43 rfl hl (by decide) rfl (fun ls hl => ?_)
        refine lv_bipush (v := 16) hx hb dX2_setKey_44 (by decide) ?_
        refine lv_istore (lv' := [(4, .int 16), (3, .int 1), (0, .ref (ga G c0)), (1, .int x1), (2, .int x2)]) hx hb dX2_setKey_46 hl (by decide) rfl (fun ls hl => ?_)
        obtain ⟨nn, h⟩ := h
        exact L48 nn c0 hc0 1 16 σ _ _ ls hH (lv_sub hl [2, 1, 0] rfl) h
      · replace h := h.2 q1
        refine lv_aload_n hx hb dX2_setKey_8 rfl (lv_at hl 0 rfl) ?_
        refine g_getr hx hb hB inB2 hown hK hH (c0 := c0) hc0.1 rfl 0 (by decide) k7 rfl (c1 := c0 + 1) rfl dX2_setKey_9 ?_
        refine lv_iload_n hx hb dX2_setKey_12 rfl (lv_at hl 3 rfl) ?_
        refine lv_iload_n hx hb dX2_setKey_13 rfl (lv_at hl 1 rfl) ?_
        refine lv_bipush (v := 8) hx hb dX2_setKey_14 (by decide) ?_
        refine lv_iload_n hx hb dX2_setKey_16 rfl (lv_at hl 3 rfl) ?_
        refine lv_iconst (v := 3) hx hb dX2_setKey_17 (by decide) ?_
        refine lv_iand hx hb dX2_setKey_18 ?_
        refine lv_imul hx hb dX2_setKey_19 ?_
        refine lv_ishr hx hb dX2_setKey_20 ?_
        refine lv_bipush (v := 17) hx hb dX2_setKey_21 (by decide) ?_
        refine lv_iload_n hx hb dX2_setKey_23 rfl (lv_at hl 3 rfl) ?_
        refine lv_imul hx hb dX2_setKey_24 ?_
        refine lv_iadd hx hb dX2_setKey_25 ?_
        refine lv_bipush (v := 29) hx hb dX2_setKey_26 (by decide) ?_
        refine lv_iload_n hx hb dX2_setKey_28 rfl (lv_at hl 2 rfl) ?_
        refine lv_imul hx hb dX2_setKey_29 ?_
        refine lv_iadd hx hb dX2_setKey_30 ?_
        refine lv_sipush (v := 255) hx hb dX2_setKey_31 (by decide) ?_
        refine lv_iand hx hb dX2_setKey_34 ?_
        obtain ⟨hi2, h⟩ := h
        refine g_iast hx hb hK hH (c0 := c0 + 1) (i := x3) hc0.2.1 hi2 dX2_setKey_35 (fun σ2 eσ2 H locs hH => ?_)
        replace h := h σ2 eσ2
        obtain ⟨x3_3, ex3_3⟩ : ∃ y : Int32, y = x3 + 1 := ⟨_, rfl⟩
        replace h := h x3_3 ex3_3
        refine lv_iinc (v := x3_3) (lv' := [(3, .int x3_3), (0, .ref (ga G c0)), (1, .int x1), (2, .int x2)]) hx hb dX2_setKey_36 hl (k := 3) rfl (by rw [ex3_3]; rfl) (by decide) rfl (fun ls hl => ?_)
        refine lv_goto (tgt := 2) hx hb dX2_setKey_39 (by decide) ?_
        exact ih2 c0 hc0 x1 x2 x3_3 σ2 _ _ ls hH (lv_sub hl [1, 2, 3, 0] rfl) h
  unfold wpX2_setKey at h
  refine lv_iconst (v := 0) hx hb dX2_setKey_0 (by decide) ?_
  refine lv_istore_n (lv' := [(3, .int 0), (0, .ref (ga G c0)), (1, .int x1), (2, .int x2)]) hx hb dX2_setKey_1 rfl hl (by decide) rfl (fun ls hl => ?_)
  obtain ⟨nn, h⟩ := h
  exact L2 nn c0 hc0 x1 x2 0 σ _ _ ls hH (lv_sub hl [1, 2, 3, 0] rfl) h
def wpX2_setCounter_L11 (Q : Sg → Prop) : Nat → Nat → Int32 → Int32 → Int32 → Int32 → Sg → Prop
  | 0, _, _, _, _, _, _ => False
  | n + 1, c0, x1, x2, x3, x4, σ => ((4 ≤ x4 → ∀ σ3 : Sg, σ3 = up2 σ (c0 + 2) 4 (x2 &&& 255) → Q σ3) ∧ (¬ (4 ≤ x4) → (vp_in x4 16 ∧ ∀ σ4 : Sg, σ4 = up2 σ (c0 + 2) x4.toNatClampNeg ((x1 >>> ((24 - (8 * x4)) &&& 31)) &&& 255) → (vp_in (12 + x4) 16 ∧ ∀ σ5 : Sg, σ5 = up2 σ4 (c0 + 2) ((12 + x4).toNatClampNeg) ((x3 >>> ((24 - (8 * x4)) &&& 31)) &&& 255) → ∀ x4_6 : Int32, x4_6 = x4 + 1 → (wpX2_setCounter_L11 Q n) c0 x1 x2 x3 x4_6 σ5))))
def wpX2_setCounter (c0 : Nat) (x1 : Int32) (x2 : Int32) (x3 : Int32) (σ : Sg) (Q : Sg → Prop) : Prop := wpJ7_fill_53178 16 (c0 + 2) 0 σ (fun σ1 => ∃ nn, wpX2_setCounter_L11 Q nn c0 x1 x2 x3 0 σ1)
set_option maxHeartbeats 8000000 in
set_option maxRecDepth 100000 in
theorem tX2_setCounter {l : Launch} {G : GG} {c0 : Nat} {x1 : Int32} {x2 : Int32} {x3 : Int32} {σ : Sg} {Q : Sg → Prop} (hc0 : isCipher G c0) (h : wpX2_setCounter c0 x1 x2 x3 σ Q) : Kv l G yX2_setCounter (wB yX2_setCounter prog_4_method_4_code 5 none) ({ frames := 1, cells := 0, slots := 0, locals := 23 }) [.ref (ga G c0), .int x1, .int x2, .int x3] σ Q := by
  refine K_of (cc := cX2_setCounter) (maxL := 5) (ret := none) (by decide) rfl (Nat.le_of_ble_eq_true rfl) ?_
  intro p e s m args below meth c ls B hH hl
  obtain ⟨hx, hb, hr, hts, hown, hlk, hml, hK, hX⟩ := B
  replace hl : lv_has ls 5 [(0, .ref (ga G c0)), (1, .int x1), (2, .int x2), (3, .int x3)] := hl
  have hB : ∀ w ∈ BIG, w.before args s = true := fun w h9 => hts w (List.mem_cons_of_mem _ h9)
  clear hts
  have k13 := hB _ bw1_29
  have L11 : ∀ (n11 : Nat) (c0 : Nat) (hc0 : isCipher G c0) (x1 : Int32) (x2 : Int32) (x3 : Int32) (x4 : Int32) (σ : Sg) (H : Heap) (locs : List Loc) (ls : Array Slot), Hx G (aA G s.heap.size) s σ H locs → lv_has ls 5 [(0, .ref (ga G c0)), (1, .int x1), (2, .int x2), (3, .int x3), (4, .int x4)] → wpX2_setCounter_L11 Q n11 c0 x1 x2 x3 x4 σ → W p l e ({ frames := 1, cells := 0, slots := 0, locals := 23 }) s m args below meth c H locs 0 0 (Zv G Q below args s) (F0 m 11 ls []) := by
    intro n11
    induction n11 with
    | zero =>
      intro c0 hc0 x1 x2 x3 x4 σ H locs ls hH hl h
      exact False.elim h
    | succ n11 ih11 =>
      intro c0 hc0 x1 x2 x3 x4 σ H locs ls hH hl h
      unfold wpX2_setCounter_L11 at h
      refine lv_iload hx hb dX2_setCounter_11 (lv_at hl 4 rfl) ?_
      refine lv_iconst (v := 4) hx hb dX2_setCounter_13 (by decide) ?_
      refine lv_icmp_ge (tgt := 68) hx hb dX2_setCounter_14 (by decide) (fun q2 => ?_) (fun q2 => ?_)
      · replace h := h.1 q2
        refine lv_aload_n hx hb dX2_setCounter_68 rfl (lv_at hl 0 rfl) ?_
        refine g_getr hx hb hB inB2 hown hK hH (c0 := c0) hc0.1 rfl 1 (by decide) k13 rfl (c1 := c0 + 2) rfl dX2_setCounter_69 ?_
        refine lv_iconst (v := 4) hx hb dX2_setCounter_72 (by decide) ?_
        refine lv_iload_n hx hb dX2_setCounter_73 rfl (lv_at hl 2 rfl) ?_
        refine lv_sipush (v := 255) hx hb dX2_setCounter_74 (by decide) ?_
        refine lv_iand hx hb dX2_setCounter_77 ?_
        refine g_iast hx hb hK hH (c0 := c0 + 2) (i := 4) hc0.2.2.1 (vp_in_nI (n := 4) (by decide) (by decide)) dX2_setCounter_78 (fun σ3 eσ3 H locs hH => ?_)
        replace h := h σ3 eσ3
        exact g_vret hx hb hr hK hlk h hH dX2_setCounter_79
      · replace h := h.2 q2
        refine lv_aload_n hx hb dX2_setCounter_17 rfl (lv_at hl 0 rfl) ?_
        refine g_getr hx hb hB inB2 hown hK hH (c0 := c0) hc0.1 rfl 1 (by decide) k13 rfl (c1 := c0 + 2) rfl dX2_setCounter_18 ?_
        refine lv_iload hx hb dX2_setCounter_21 (lv_at hl 4 rfl) ?_
        refine lv_iload_n hx hb dX2_setCounter_23 rfl (lv_at hl 1 rfl) ?_
        refine lv_bipush (v := 24) hx hb dX2_setCounter_24 (by decide) ?_
        refine lv_bipush (v := 8) hx hb dX2_setCounter_26 (by decide) ?_
        refine lv_iload hx hb dX2_setCounter_28 (lv_at hl 4 rfl) ?_
        refine lv_imul hx hb dX2_setCounter_30 ?_
        refine lv_isub hx hb dX2_setCounter_31 ?_
        refine lv_ishr hx hb dX2_setCounter_32 ?_
        refine lv_sipush (v := 255) hx hb dX2_setCounter_33 (by decide) ?_
        refine lv_iand hx hb dX2_setCounter_36 ?_
        obtain ⟨hi4, h⟩ := h
        refine g_iast hx hb hK hH (c0 := c0 + 2) (i := x4) hc0.2.2.1 hi4 dX2_setCounter_37 (fun σ4 eσ4 H locs hH => ?_)
        replace h := h σ4 eσ4
        refine lv_aload_n hx hb dX2_setCounter_38 rfl (lv_at hl 0 rfl) ?_
        refine g_getr hx hb hB inB2 hown hK hH (c0 := c0) hc0.1 rfl 1 (by decide) k13 rfl (c1 := c0 + 2) rfl dX2_setCounter_39 ?_
        refine lv_bipush (v := 12) hx hb dX2_setCounter_42 (by decide) ?_
        refine lv_iload hx hb dX2_setCounter_44 (lv_at hl 4 rfl) ?_
        refine lv_iadd hx hb dX2_setCounter_46 ?_
        refine lv_iload_n hx hb dX2_setCounter_47 rfl (lv_at hl 3 rfl) ?_
        refine lv_bipush (v := 24) hx hb dX2_setCounter_48 (by decide) ?_
        refine lv_bipush (v := 8) hx hb dX2_setCounter_50 (by decide) ?_
        refine lv_iload hx hb dX2_setCounter_52 (lv_at hl 4 rfl) ?_
        refine lv_imul hx hb dX2_setCounter_54 ?_
        refine lv_isub hx hb dX2_setCounter_55 ?_
        refine lv_ishr hx hb dX2_setCounter_56 ?_
        refine lv_sipush (v := 255) hx hb dX2_setCounter_57 (by decide) ?_
        refine lv_iand hx hb dX2_setCounter_60 ?_
        obtain ⟨hi5, h⟩ := h
        refine g_iast hx hb hK hH (c0 := c0 + 2) (i := 12 + x4) hc0.2.2.1 hi5 dX2_setCounter_61 (fun σ5 eσ5 H locs hH => ?_)
        replace h := h σ5 eσ5
        obtain ⟨x4_6, ex4_6⟩ : ∃ y : Int32, y = x4 + 1 := ⟨_, rfl⟩
        replace h := h x4_6 ex4_6
        refine lv_iinc (v := x4_6) (lv' := [(4, .int x4_6), (0, .ref (ga G c0)), (1, .int x1), (2, .int x2), (3, .int x3)]) hx hb dX2_setCounter_62 hl (k := 4) rfl (by rw [ex4_6]; rfl) (by decide) rfl (fun ls hl => ?_)
        refine lv_goto (tgt := 11) hx hb dX2_setCounter_65 (by decide) ?_
        exact ih11 c0 hc0 x1 x2 x3 x4_6 σ5 _ _ ls hH (lv_sub hl [1, 2, 3, 4, 0] rfl) h
  unfold wpX2_setCounter at h
  refine lv_aload_n hx hb dX2_setCounter_0 rfl (lv_at hl 0 rfl) ?_
  refine g_getr hx hb hB inB2 hown hK hH (c0 := c0) hc0.1 rfl 1 (by decide) k13 rfl (c1 := c0 + 2) rfl dX2_setCounter_1 ?_
  refine lv_iconst (v := 0) hx hb dX2_setCounter_4 (by decide) ?_
  refine g_callSv (As := [.ref (ga G (c0 + 2)), .int 0]) (rest := []) ⟨hx, hb, hml, hown, hB⟩ hK hX aA_hA hH (tJ7_fill_53178 hc0.2.2.1 h) (va_cwS 2 hB gSX2_31 rfl rfl rfl (by decide +kernel) ⟨Nat.le_of_ble_eq_true rfl, Nat.le_of_ble_eq_true rfl⟩) rfl hl.1 rfl (lv_room (Nat.le_of_ble_eq_true rfl)) ⟨Nat.zero_le _, Nat.zero_le _⟩ dX2_setCounter_5 (fun σ1 H locs h hH => ?_)
  refine lv_iconst (v := 0) hx hb dX2_setCounter_8 (by decide) ?_
  refine lv_istore (lv' := [(4, .int 0), (0, .ref (ga G c0)), (1, .int x1), (2, .int x2), (3, .int x3)]) hx hb dX2_setCounter_9 hl (by decide) rfl (fun ls hl => ?_)
  obtain ⟨nn, h⟩ := h
  exact L11 nn c0 hc0 x1 x2 x3 0 σ1 _ _ ls hH (lv_sub hl [1, 2, 3, 4, 0] rfl) h
def wpX2_encrypt_L179 (tb : Nat → Int32) (Q : Sg → Prop) (K31 : Nat → Int32 → Sg → Prop) (K82 : Nat → Int32 → Int32 → Sg → Prop) (c0 : Nat) (x1 : Int32) (x2 : Int32) (z0 : Int32) (σ : Sg) : Prop := (vp_in x2 16 ∧ (vp_in ((16 * x1) + x2) 176 ∧ (vp_in x2 16 ∧ ∀ σ26 : Sg, σ26 = up2 σ (c0 + 2) x2.toNatClampNeg (((σ (c0 + 3) x2.toNatClampNeg) ^^^ z0) ^^^ (σ (c0 + 1) ((16 * x1) + x2).toNatClampNeg)) → ∀ x2_27 : Int32, x2_27 = x2 + 1 → K82 c0 x1 x2_27 σ26)))
def wpX2_encrypt_L82 (tb : Nat → Int32) (Q : Sg → Prop) (K31 : Nat → Int32 → Sg → Prop) : Nat → Nat → Int32 → Int32 → Sg → Prop
  | 0, _, _, _, _ => False
  | n + 1, c0, x1, x2, σ => ((16 ≤ x2 → ∀ x1_13 : Int32, x1_13 = x1 + 1 → K31 c0 x1_13 σ) ∧ (¬ (16 ≤ x2) → ∀ x3_14 : Int32, x3_14 = x2 &&& 12 → (vp_in x3_14 16 ∧ (vp_in (x3_14 + 1) 16 ∧ (vp_in (x3_14 + 2) 16 ∧ (vp_in (x3_14 + 3) 16 ∧ ∀ w19 : Int32, w19 = (((σ (c0 + 3) x3_14.toNatClampNeg) ^^^ (σ (c0 + 3) (x3_14 + 1).toNatClampNeg)) ^^^ (σ (c0 + 3) (x3_14 + 2).toNatClampNeg)) ^^^ (σ (c0 + 3) (x3_14 + 3).toNatClampNeg) → (vp_in x2 16 ∧ (vp_in (x3_14 + ((x2 + 1) &&& 3)) 16 ∧ ∀ x5_22 : Int32, x5_22 = (σ (c0 + 3) x2.toNatClampNeg) ^^^ (σ (c0 + 3) (x3_14 + ((x2 + 1) &&& 3)).toNatClampNeg) → ((10 ≤ x1 → wpX2_encrypt_L179 tb Q K31 (wpX2_encrypt_L82 tb Q K31 n) c0 x1 x2 0 σ) ∧ (¬ (10 ≤ x1) → wpX2_encrypt_L179 tb Q K31 (wpX2_encrypt_L82 tb Q K31 n) c0 x1 x2 (w19 ^^^ (((x5_22 <<< ((1 : Int32) &&& 31)) ^^^ ((x5_22 >>> ((7 : Int32) &&& 31)) * 27)) &&& 255)) σ))))))))))
def wpX2_encrypt_L39 (tb : Nat → Int32) (Q : Sg → Prop) (K31 : Nat → Int32 → Sg → Prop) : Nat → Nat → Int32 → Int32 → Sg → Prop
  | 0, _, _, _, _ => False
  | n + 1, c0, x1, x2, σ => ((16 ≤ x2 → ∃ nn, wpX2_encrypt_L82 tb Q K31 nn c0 x1 0 σ) ∧ (¬ (16 ≤ x2) → (vp_in ((x2 + (4 * (x2 &&& 3))) &&& 15) 16 ∧ (vp_in ((σ (c0 + 2) ((x2 + (4 * (x2 &&& 3))) &&& 15).toNatClampNeg) &&& 255) 256 ∧ (vp_in x2 16 ∧ ∀ σ10 : Sg, σ10 = up2 σ (c0 + 3) x2.toNatClampNeg (tb ((σ (c0 + 2) ((x2 + (4 * (x2 &&& 3))) &&& 15).toNatClampNeg) &&& 255).toNatClampNeg) → ∀ x2_11 : Int32, x2_11 = x2 + 1 → (wpX2_encrypt_L39 tb Q K31 n) c0 x1 x2_11 σ10)))))
def wpX2_encrypt_L31 (tb : Nat → Int32) (Q : Sg → Prop) : Nat → Nat → Int32 → Sg → Prop
  | 0, _, _, _ => False
  | n + 1, c0, x1, σ => ((10 < x1 → Q σ) ∧ (¬ (10 < x1) → ∃ nn, wpX2_encrypt_L39 tb Q (wpX2_encrypt_L31 tb Q n) nn c0 x1 0 σ))
def wpX2_encrypt_L2 (tb : Nat → Int32) (Q : Sg → Prop) : Nat → Nat → Int32 → Sg → Prop
  | 0, _, _, _ => False
  | n + 1, c0, x1, σ => ((16 ≤ x1 → ∃ nn, wpX2_encrypt_L31 tb Q nn c0 1 σ) ∧ (¬ (16 ≤ x1) → (vp_in x1 16 ∧ (vp_in x1 176 ∧ (vp_in x1 16 ∧ ∀ σ4 : Sg, σ4 = up2 σ (c0 + 2) x1.toNatClampNeg ((σ (c0 + 2) x1.toNatClampNeg) ^^^ (σ (c0 + 1) x1.toNatClampNeg)) → ∀ x1_5 : Int32, x1_5 = x1 + 1 → (wpX2_encrypt_L2 tb Q n) c0 x1_5 σ4)))))
def wpX2_encrypt (tb : Nat → Int32) (c0 : Nat) (σ : Sg) (Q : Sg → Prop) : Prop := ∃ nn, wpX2_encrypt_L2 tb Q nn c0 0 σ
set_option maxHeartbeats 8000000 in
set_option maxRecDepth 100000 in
theorem tX2_encrypt {l : Launch} {G : GG} {tS : Nat × (Nat → Int32)} (hgo : go G = some tS) {c0 : Nat} {σ : Sg} {Q : Sg → Prop} (hc0 : isCipher G c0) (h : wpX2_encrypt tS.2 c0 σ Q) : Kv l G yX2_encrypt (wB yX2_encrypt prog_4_method_5_code 7 none) ({ frames := 0, cells := 0, slots := 0, locals := 0 }) [.ref (ga G c0)] σ Q := by
  refine K_of (cc := cX2_encrypt) (maxL := 7) (ret := none) (by decide) rfl (Nat.le_of_ble_eq_true rfl) ?_
  intro p e s m args below meth c ls B hH hl
  obtain ⟨hx, hb, hr, hts, hown, hlk, hml, hK, hX⟩ := B
  replace hl : lv_has ls 7 [(0, .ref (ga G c0))] := hl
  have hXN : NWs s := XS.nw hX hgo
  have hXS : XS (some tS) (aA G s.heap.size) s := by rw [← hgo]; exact hX
  have hB : ∀ w ∈ BIG, w.before args s = true := fun w h9 => hts w (List.mem_cons_of_mem _ h9)
  clear hts
  have k7 := hB _ bw1_28
  have k13 := hB _ bw1_29
  have k16 := hB _ bw1_30
  have k19 : (Cond.fieldLinkNest RX2 19 "BearerHouse" "SBOX" "[I" "BearerHouse").before args s = true := va_Nw.use rfl (hXN.1 ("BearerHouse$Cipher", 19, "BearerHouse", "SBOX", "[I", "BearerHouse") (List.mem_of_getElem? (i := 42) rfl))
  have L31 : ∀ (n31 : Nat) (c0 : Nat) (hc0 : isCipher G c0) (x1 : Int32) (σ : Sg) (H : Heap) (locs : List Loc) (ls : Array Slot), Hx G (aA G s.heap.size) s σ H locs → lv_has ls 7 [(0, .ref (ga G c0)), (1, .int x1)] → wpX2_encrypt_L31 tS.2 Q n31 c0 x1 σ → W p l e ({ frames := 0, cells := 0, slots := 0, locals := 0 }) s m args below meth c H locs 0 0 (Zv G Q below args s) (F0 m 31 ls []) := by
    intro n31
    induction n31 with
    | zero =>
      intro c0 hc0 x1 σ H locs ls hH hl h
      exact False.elim h
    | succ n31 ih31 =>
      have L82 : ∀ (n82 : Nat) (c0 : Nat) (hc0 : isCipher G c0) (x1 : Int32) (x2 : Int32) (σ : Sg) (H : Heap) (locs : List Loc) (ls : Array Slot), Hx G (aA G s.heap.size) s σ H locs → lv_has ls 7 [(0, .ref (ga G c0)), (1, .int x1), (2, .int x2)] → wpX2_encrypt_L82 tS.2 Q (wpX2_encrypt_L31 tS.2 Q n31) n82 c0 x1 x2 σ → W p l e ({ frames := 0, cells := 0, slots := 0, locals := 0 }) s m args below meth c H locs 0 0 (Zv G Q below args s) (F0 m 82 ls []) := by
        intro n82
        induction n82 with
        | zero =>
          intro c0 hc0 x1 x2 σ H locs ls hH hl h
          exact False.elim h
        | succ n82 ih82 =>
          have L179 : ∀ (c0 : Nat) (hc0 : isCipher G c0) (x1 : Int32) (x2 : Int32) (z0 : Int32) (σ : Sg) (H : Heap) (locs : List Loc) (ls : Array Slot), Hx G (aA G s.heap.size) s σ H locs → lv_has ls 7 [(0, .ref (ga G c0)), (1, .int x1), (2, .int x2)] → wpX2_encrypt_L179 tS.2 Q (wpX2_encrypt_L31 tS.2 Q n31) (wpX2_encrypt_L82 tS.2 Q (wpX2_encrypt_L31 tS.2 Q n31) n82) c0 x1 x2 z0 σ → W p l e ({ frames := 0, cells := 0, slots := 0, locals := 0 }) s m args below meth c H locs 0 0 (Zv G Q below args s) (F0 m 179 ls [.int z0]) := by
            intro c0 hc0 x1 x2 z0 σ H locs ls hH hl h
            unfold wpX2_encrypt_L179 at h
            refine lv_istore (lv' := [(6, .int z0), (0, .ref (ga G c0)), (1, .int x1), (2, .int x2)]) hx hb dX2_encrypt_179 hl (by decide) rfl (fun ls hl => ?_)
            refine lv_aload_n hx hb dX2_encrypt_181 rfl (lv_at hl 1 rfl) ?_
            refine g_getr hx hb hB inB2 hown hK hH (c0 := c0) hc0.1 rfl 1 (by decide) k13 rfl (c1 := c0 + 2) rfl dX2_encrypt_182 ?_
            refine lv_iload_n hx hb dX2_encrypt_185 rfl (lv_at hl 3 rfl) ?_
            refine lv_aload_n hx hb dX2_encrypt_186 rfl (lv_at hl 1 rfl) ?_
            refine g_getr hx hb hB inB2 hown hK hH (c0 := c0) hc0.1 rfl 2 (by decide) k16 rfl (c1 := c0 + 3) rfl dX2_encrypt_187 ?_
            refine lv_iload_n hx hb dX2_encrypt_190 rfl (lv_at hl 3 rfl) ?_
            obtain ⟨hi24, h⟩ := h
            refine g_iald hx hb hK hH (c0 := c0 + 3) hc0.2.2.2 hi24 dX2_encrypt_191 ?_
            refine lv_iload hx hb dX2_encrypt_192 (lv_at hl 0 rfl) ?_
            refine lv_ixor hx hb dX2_encrypt_194 ?_
            refine lv_aload_n hx hb dX2_encrypt_195 rfl (lv_at hl 1 rfl) ?_
            refine g_getr hx hb hB inB2 hown hK hH (c0 := c0) hc0.1 rfl 0 (by decide) k7 rfl (c1 := c0 + 1) rfl dX2_encrypt_196 ?_
            refine lv_bipush (v := 16) hx hb dX2_encrypt_199 (by decide) ?_
            refine lv_iload_n hx hb dX2_encrypt_201 rfl (lv_at hl 2 rfl) ?_
            refine lv_imul hx hb dX2_encrypt_202 ?_
            refine lv_iload_n hx hb dX2_encrypt_203 rfl (lv_at hl 3 rfl) ?_
            refine lv_iadd hx hb dX2_encrypt_204 ?_
            obtain ⟨hi25, h⟩ := h
            refine g_iald hx hb hK hH (c0 := c0 + 1) hc0.2.1 hi25 dX2_encrypt_205 ?_
            refine lv_ixor hx hb dX2_encrypt_206 ?_
            obtain ⟨hi26, h⟩ := h
            refine g_iast hx hb hK hH (c0 := c0 + 2) (i := x2) hc0.2.2.1 hi26 dX2_encrypt_207 (fun σ26 eσ26 H locs hH => ?_)
            replace h := h σ26 eσ26
            obtain ⟨x2_27, ex2_27⟩ : ∃ y : Int32, y = x2 + 1 := ⟨_, rfl⟩
            replace h := h x2_27 ex2_27
            refine lv_iinc (v := x2_27) (lv' := [(2, .int x2_27), (6, .int z0), (0, .ref (ga G c0)), (1, .int x1)]) hx hb dX2_encrypt_208 hl (k := 3) rfl (by rw [ex2_27]; rfl) (by decide) rfl (fun ls hl => ?_)
            refine lv_goto (tgt := 82) hx hb dX2_encrypt_211 (by decide) ?_
            exact ih82 c0 hc0 x1 x2_27 σ26 _ _ ls hH (lv_sub hl [2, 3, 0] rfl) h
          intro c0 hc0 x1 x2 σ H locs ls hH hl h
          unfold wpX2_encrypt_L82 at h
          refine lv_iload_n hx hb dX2_encrypt_82 rfl (lv_at hl 2 rfl) ?_
          refine lv_bipush (v := 16) hx hb dX2_encrypt_83 (by decide) ?_
          refine lv_icmp_ge (tgt := 214) hx hb dX2_encrypt_85 (by decide) (fun q12 => ?_) (fun q12 => ?_)
          · replace h := h.1 q12
            obtain ⟨x1_13, ex1_13⟩ : ∃ y : Int32, y = x1 + 1 := ⟨_, rfl⟩
            replace h := h x1_13 ex1_13
            refine lv_iinc (v := x1_13) (lv' := [(1, .int x1_13), (0, .ref (ga G c0)), (2, .int x2)]) hx hb dX2_encrypt_214 hl (k := 1) rfl (by rw [ex1_13]; rfl) (by decide) rfl (fun ls hl => ?_)
            refine lv_goto (tgt := 31) hx hb dX2_encrypt_217 (by decide) ?_
            exact ih31 c0 hc0 x1_13 σ _ _ ls hH (lv_sub hl [1, 0] rfl) h
          · replace h := h.2 q12
            refine lv_iload_n hx hb dX2_encrypt_88 rfl (lv_at hl 2 rfl) ?_
            refine lv_bipush (v := 12) hx hb dX2_encrypt_89 (by decide) ?_
            refine lv_iand hx hb dX2_encrypt_91 ?_
            refine lv_topi (fun x3_14 ex3_14 => ?_)
            replace h := h x3_14 ex3_14
            refine lv_istore_n (lv' := [(3, .int x3_14), (0, .ref (ga G c0)), (1, .int x1), (2, .int x2)]) hx hb dX2_encrypt_92 rfl hl (by decide) rfl (fun ls hl => ?_)
            refine lv_aload_n hx hb dX2_encrypt_93 rfl (lv_at hl 1 rfl) ?_
            refine g_getr hx hb hB inB2 hown hK hH (c0 := c0) hc0.1 rfl 2 (by decide) k16 rfl (c1 := c0 + 3) rfl dX2_encrypt_94 ?_
            refine lv_iload_n hx hb dX2_encrypt_97 rfl (lv_at hl 0 rfl) ?_
            obtain ⟨hi15, h⟩ := h
            refine g_iald hx hb hK hH (c0 := c0 + 3) hc0.2.2.2 hi15 dX2_encrypt_98 ?_
            refine lv_aload_n hx hb dX2_encrypt_99 rfl (lv_at hl 1 rfl) ?_
            refine g_getr hx hb hB inB2 hown hK hH (c0 := c0) hc0.1 rfl 2 (by decide) k16 rfl (c1 := c0 + 3) rfl dX2_encrypt_100 ?_
            refine lv_iload_n hx hb dX2_encrypt_103 rfl (lv_at hl 0 rfl) ?_
            refine lv_iconst (v := 1) hx hb dX2_encrypt_104 (by decide) ?_
            refine lv_iadd hx hb dX2_encrypt_105 ?_
            obtain ⟨hi16, h⟩ := h
            refine g_iald hx hb hK hH (c0 := c0 + 3) hc0.2.2.2 hi16 dX2_encrypt_106 ?_
            refine lv_ixor hx hb dX2_encrypt_107 ?_
            refine lv_aload_n hx hb dX2_encrypt_108 rfl (lv_at hl 1 rfl) ?_
            refine g_getr hx hb hB inB2 hown hK hH (c0 := c0) hc0.1 rfl 2 (by decide) k16 rfl (c1 := c0 + 3) rfl dX2_encrypt_109 ?_
            refine lv_iload_n hx hb dX2_encrypt_112 rfl (lv_at hl 0 rfl) ?_
            refine lv_iconst (v := 2) hx hb dX2_encrypt_113 (by decide) ?_
            refine lv_iadd hx hb dX2_encrypt_114 ?_
            obtain ⟨hi17, h⟩ := h
            refine g_iald hx hb hK hH (c0 := c0 + 3) hc0.2.2.2 hi17 dX2_encrypt_115 ?_
            refine lv_ixor hx hb dX2_encrypt_116 ?_
            refine lv_aload_n hx hb dX2_encrypt_117 rfl (lv_at hl 1 rfl) ?_
            refine g_getr hx hb hB inB2 hown hK hH (c0 := c0) hc0.1 rfl 2 (by decide) k16 rfl (c1 := c0 + 3) rfl dX2_encrypt_118 ?_
            refine lv_iload_n hx hb dX2_encrypt_121 rfl (lv_at hl 0 rfl) ?_
            refine lv_iconst (v := 3) hx hb dX2_encrypt_122 (by decide) ?_
            refine lv_iadd hx hb dX2_encrypt_123 ?_
            obtain ⟨hi18, h⟩ := h
            refine g_iald hx hb hK hH (c0 := c0 + 3) hc0.2.2.2 hi18 dX2_encrypt_124 ?_
            refine lv_ixor hx hb dX2_encrypt_125 ?_
            refine lv_topi (fun w19 ew19 => ?_)
            replace h := h w19 ew19
            refine lv_istore (lv' := [(4, .int w19), (3, .int x3_14), (0, .ref (ga G c0)), (1, .int x1), (2, .int x2)]) hx hb dX2_encrypt_126 hl (by decide) rfl (fun ls hl => ?_)
            refine lv_aload_n hx hb dX2_encrypt_128 rfl (lv_at hl 2 rfl) ?_
            refine g_getr hx hb hB inB2 hown hK hH (c0 := c0) hc0.1 rfl 2 (by decide) k16 rfl (c1 := c0 + 3) rfl dX2_encrypt_129 ?_
            refine lv_iload_n hx hb dX2_encrypt_132 rfl (lv_at hl 4 rfl) ?_
            obtain ⟨hi20, h⟩ := h
            refine g_iald hx hb hK hH (c0 := c0 + 3) hc0.2.2.2 hi20 dX2_encrypt_133 ?_
            refine lv_aload_n hx hb dX2_encrypt_134 rfl (lv_at hl 2 rfl) ?_
            refine g_getr hx hb hB inB2 hown hK hH (c0 := c0) hc0.1 rfl 2 (by decide) k16 rfl (c1 := c0 + 3) rfl dX2_encrypt_135 ?_
            refine lv_iload_n hx hb dX2_encrypt_138 rfl (lv_at hl 1 rfl) ?_
            refine lv_iload_n hx hb dX2_encrypt_139 rfl (lv_at hl 4 rfl) ?_
            refine lv_iconst (v := 1) hx hb dX2_encrypt_140 (by decide) ?_
            refine lv_iadd hx hb dX2_encrypt_141 ?_
            refine lv_iconst (v := 3) hx hb dX2_encrypt_142 (by decide) ?_
            refine lv_iand hx hb dX2_encrypt_143 ?_
            refine lv_iadd hx hb dX2_encrypt_144 ?_
            obtain ⟨hi21, h⟩ := h
            refine g_iald hx hb hK hH (c0 := c0 + 3) hc0.2.2.2 hi21 dX2_encrypt_145 ?_
            refine lv_ixor hx hb dX2_encrypt_146 ?_
            refine lv_topi (fun x5_22 ex5_22 => ?_)
            replace h := h x5_22 ex5_22
            refine lv_istore (lv' := [(5, .int x5_22), (4, .int w19), (3, .int x3_14), (0, .ref (ga G c0)), (1, .int x1), (2, .int x2)]) hx hb dX2_encrypt_147 hl (by decide) rfl (fun ls hl => ?_)
            refine lv_iload_n hx hb dX2_encrypt_149 rfl (lv_at hl 4 rfl) ?_
            refine lv_bipush (v := 10) hx hb dX2_encrypt_150 (by decide) ?_
            refine lv_icmp_ge (tgt := 178) hx hb dX2_encrypt_152 (by decide) (fun q23 => ?_) (fun q23 => ?_)
            · replace h := h.1 q23
              refine lv_iconst (v := 0) hx hb dX2_encrypt_178 (by decide) ?_
              exact L179 c0 hc0 x1 x2 0 σ _ _ ls hH (lv_sub hl [3, 4, 5] rfl) h
            · replace h := h.2 q23
              refine lv_iload hx hb dX2_encrypt_155 (lv_at hl 1 rfl) ?_
              refine lv_iload hx hb dX2_encrypt_157 (lv_at hl 0 rfl) ?_
              refine lv_iconst (v := 1) hx hb dX2_encrypt_159 (by decide) ?_
              refine lv_ishl hx hb dX2_encrypt_160 ?_
              refine lv_iload hx hb dX2_encrypt_161 (lv_at hl 0 rfl) ?_
              refine lv_bipush (v := 7) hx hb dX2_encrypt_163 (by decide) ?_
              refine lv_ishr hx hb dX2_encrypt_165 ?_
              refine lv_bipush (v := 27) hx hb dX2_encrypt_166 (by decide) ?_
              refine lv_imul hx hb dX2_encrypt_168 ?_
              refine lv_ixor hx hb dX2_encrypt_169 ?_
              refine lv_sipush (v := 255) hx hb dX2_encrypt_170 (by decide) ?_
              refine lv_iand hx hb dX2_encrypt_173 ?_
              refine lv_ixor hx hb dX2_encrypt_174 ?_
              refine lv_goto (tgt := 179) hx hb dX2_encrypt_175 (by decide) ?_
              exact L179 c0 hc0 x1 x2 (w19 ^^^ (((x5_22 <<< ((1 : Int32) &&& 31)) ^^^ ((x5_22 >>> ((7 : Int32) &&& 31)) * 27)) &&& 255)) σ _ _ ls hH (lv_sub hl [3, 4, 5] rfl) h
      have L39 : ∀ (n39 : Nat) (c0 : Nat) (hc0 : isCipher G c0) (x1 : Int32) (x2 : Int32) (σ : Sg) (H : Heap) (locs : List Loc) (ls : Array Slot), Hx G (aA G s.heap.size) s σ H locs → lv_has ls 7 [(0, .ref (ga G c0)), (1, .int x1), (2, .int x2)] → wpX2_encrypt_L39 tS.2 Q (wpX2_encrypt_L31 tS.2 Q n31) n39 c0 x1 x2 σ → W p l e ({ frames := 0, cells := 0, slots := 0, locals := 0 }) s m args below meth c H locs 0 0 (Zv G Q below args s) (F0 m 39 ls []) := by
        intro n39
        induction n39 with
        | zero =>
          intro c0 hc0 x1 x2 σ H locs ls hH hl h
          exact False.elim h
        | succ n39 ih39 =>
          intro c0 hc0 x1 x2 σ H locs ls hH hl h
          unfold wpX2_encrypt_L39 at h
          refine lv_iload_n hx hb dX2_encrypt_39 rfl (lv_at hl 2 rfl) ?_
          refine lv_bipush (v := 16) hx hb dX2_encrypt_40 (by decide) ?_
          refine lv_icmp_ge (tgt := 80) hx hb dX2_encrypt_42 (by decide) (fun q7 => ?_) (fun q7 => ?_)
          · replace h := h.1 q7
            refine lv_iconst (v := 0) hx hb dX2_encrypt_80 (by decide) ?_
            refine lv_istore_n (lv' := [(2, .int 0), (0, .ref (ga G c0)), (1, .int x1)]) hx hb dX2_encrypt_81 rfl hl (by decide) rfl (fun ls hl => ?_)
            obtain ⟨nn, h⟩ := h
            exact L82 nn c0 hc0 x1 0 σ _ _ ls hH (lv_sub hl [1, 2, 0] rfl) h
          · replace h := h.2 q7
            refine lv_aload_n hx hb dX2_encrypt_45 rfl (lv_at hl 0 rfl) ?_
            refine g_getr hx hb hB inB2 hown hK hH (c0 := c0) hc0.1 rfl 2 (by decide) k16 rfl (c1 := c0 + 3) rfl dX2_encrypt_46 ?_
            refine lv_iload_n hx hb dX2_encrypt_49 rfl (lv_at hl 2 rfl) ?_
            refine va_getsN hx hb hXS.1 hH.2.2 hown k19 (fun _ h9 => h9) dX2_encrypt_50 ?_
            refine lv_aload_n hx hb dX2_encrypt_53 rfl (lv_at hl 0 rfl) ?_
            refine g_getr hx hb hB inB2 hown hK hH (c0 := c0) hc0.1 rfl 1 (by decide) k13 rfl (c1 := c0 + 2) rfl dX2_encrypt_54 ?_
            refine lv_iload_n hx hb dX2_encrypt_57 rfl (lv_at hl 2 rfl) ?_
            refine lv_iconst (v := 4) hx hb dX2_encrypt_58 (by decide) ?_
            refine lv_iload_n hx hb dX2_encrypt_59 rfl (lv_at hl 2 rfl) ?_
            refine lv_iconst (v := 3) hx hb dX2_encrypt_60 (by decide) ?_
            refine lv_iand hx hb dX2_encrypt_61 ?_
            refine lv_imul hx hb dX2_encrypt_62 ?_
            refine lv_iadd hx hb dX2_encrypt_63 ?_
            refine lv_bipush (v := 15) hx hb dX2_encrypt_64 (by decide) ?_
            refine lv_iand hx hb dX2_encrypt_66 ?_
            obtain ⟨hi8, h⟩ := h
            refine g_iald hx hb hK hH (c0 := c0 + 2) hc0.2.2.1 hi8 dX2_encrypt_67 ?_
            refine lv_sipush (v := 255) hx hb dX2_encrypt_68 (by decide) ?_
            refine lv_iand hx hb dX2_encrypt_71 ?_
            obtain ⟨hi9, h⟩ := h
            refine va_ti (v := .int (tS.2 ((σ (c0 + 2) ((x2 + (4 * (x2 &&& 3))) &&& 15).toNatClampNeg) &&& 255).toNatClampNeg)) hx hb hXS.2.1 hH.2.2 hi9 rfl dX2_encrypt_72 ?_
            obtain ⟨hi10, h⟩ := h
            refine g_iast hx hb hK hH (c0 := c0 + 3) (i := x2) hc0.2.2.2 hi10 dX2_encrypt_73 (fun σ10 eσ10 H locs hH => ?_)
            replace h := h σ10 eσ10
            obtain ⟨x2_11, ex2_11⟩ : ∃ y : Int32, y = x2 + 1 := ⟨_, rfl⟩
            replace h := h x2_11 ex2_11
            refine lv_iinc (v := x2_11) (lv' := [(2, .int x2_11), (0, .ref (ga G c0)), (1, .int x1)]) hx hb dX2_encrypt_74 hl (k := 2) rfl (by rw [ex2_11]; rfl) (by decide) rfl (fun ls hl => ?_)
            refine lv_goto (tgt := 39) hx hb dX2_encrypt_77 (by decide) ?_
            exact ih39 c0 hc0 x1 x2_11 σ10 _ _ ls hH (lv_sub hl [1, 2, 0] rfl) h
      intro c0 hc0 x1 σ H locs ls hH hl h
      unfold wpX2_encrypt_L31 at h
      refine lv_iload_n hx hb dX2_encrypt_31 rfl (lv_at hl 1 rfl) ?_
      refine lv_bipush (v := 10) hx hb dX2_encrypt_32 (by decide) ?_
      refine lv_icmp_gt (tgt := 220) hx hb dX2_encrypt_34 (by decide) (fun q6 => ?_) (fun q6 => ?_)
      · replace h := h.1 q6
        exact g_vret hx hb hr hK hlk h hH dX2_encrypt_220
      · replace h := h.2 q6
        refine lv_iconst (v := 0) hx hb dX2_encrypt_37 (by decide) ?_
        refine lv_istore_n (lv' := [(2, .int 0), (0, .ref (ga G c0)), (1, .int x1)]) hx hb dX2_encrypt_38 rfl hl (by decide) rfl (fun ls hl => ?_)
        obtain ⟨nn, h⟩ := h
        exact L39 nn c0 hc0 x1 0 σ _ _ ls hH (lv_sub hl [1, 2, 0] rfl) h
  have L2 : ∀ (n2 : Nat) (c0 : Nat) (hc0 : isCipher G c0) (x1 : Int32) (σ : Sg) (H : Heap) (locs : List Loc) (ls : Array Slot), Hx G (aA G s.heap.size) s σ H locs → lv_has ls 7 [(0, .ref (ga G c0)), (1, .int x1)] → wpX2_encrypt_L2 tS.2 Q n2 c0 x1 σ → W p l e ({ frames := 0, cells := 0, slots := 0, locals := 0 }) s m args below meth c H locs 0 0 (Zv G Q below args s) (F0 m 2 ls []) := by
    intro n2
    induction n2 with
    | zero =>
      intro c0 hc0 x1 σ H locs ls hH hl h
      exact False.elim h
    | succ n2 ih2 =>
      intro c0 hc0 x1 σ H locs ls hH hl h
      unfold wpX2_encrypt_L2 at h
      refine lv_iload_n hx hb dX2_encrypt_2 rfl (lv_at hl 1 rfl) ?_
      refine lv_bipush (v := 16) hx hb dX2_encrypt_3 (by decide) ?_
      refine lv_icmp_ge (tgt := 29) hx hb dX2_encrypt_5 (by decide) (fun q1 => ?_) (fun q1 => ?_)
      · replace h := h.1 q1
        refine lv_iconst (v := 1) hx hb dX2_encrypt_29 (by decide) ?_
        refine lv_istore_n (lv' := [(1, .int 1), (0, .ref (ga G c0))]) hx hb dX2_encrypt_30 rfl hl (by decide) rfl (fun ls hl => ?_)
        obtain ⟨nn, h⟩ := h
        exact L31 nn c0 hc0 1 σ _ _ ls hH (lv_sub hl [1, 0] rfl) h
      · replace h := h.2 q1
        refine lv_aload_n hx hb dX2_encrypt_8 rfl (lv_at hl 0 rfl) ?_
        refine g_getr hx hb hB inB2 hown hK hH (c0 := c0) hc0.1 rfl 1 (by decide) k13 rfl (c1 := c0 + 2) rfl dX2_encrypt_9 ?_
        refine lv_iload_n hx hb dX2_encrypt_12 rfl (lv_at hl 1 rfl) ?_
        refine lv_dup2_11 hx hb dX2_encrypt_13 rfl rfl ?_
        obtain ⟨hi2, h⟩ := h
        refine g_iald hx hb hK hH (c0 := c0 + 2) hc0.2.2.1 hi2 dX2_encrypt_14 ?_
        refine lv_aload_n hx hb dX2_encrypt_15 rfl (lv_at hl 0 rfl) ?_
        refine g_getr hx hb hB inB2 hown hK hH (c0 := c0) hc0.1 rfl 0 (by decide) k7 rfl (c1 := c0 + 1) rfl dX2_encrypt_16 ?_
        refine lv_iload_n hx hb dX2_encrypt_19 rfl (lv_at hl 1 rfl) ?_
        obtain ⟨hi3, h⟩ := h
        refine g_iald hx hb hK hH (c0 := c0 + 1) hc0.2.1 hi3 dX2_encrypt_20 ?_
        refine lv_ixor hx hb dX2_encrypt_21 ?_
        obtain ⟨hi4, h⟩ := h
        refine g_iast hx hb hK hH (c0 := c0 + 2) (i := x1) hc0.2.2.1 hi4 dX2_encrypt_22 (fun σ4 eσ4 H locs hH => ?_)
        replace h := h σ4 eσ4
        obtain ⟨x1_5, ex1_5⟩ : ∃ y : Int32, y = x1 + 1 := ⟨_, rfl⟩
        replace h := h x1_5 ex1_5
        refine lv_iinc (v := x1_5) (lv' := [(1, .int x1_5), (0, .ref (ga G c0))]) hx hb dX2_encrypt_23 hl (k := 1) rfl (by rw [ex1_5]; rfl) (by decide) rfl (fun ls hl => ?_)
        refine lv_goto (tgt := 2) hx hb dX2_encrypt_26 (by decide) ?_
        exact ih2 c0 hc0 x1_5 σ4 _ _ ls hH (lv_sub hl [1, 0] rfl) h
  unfold wpX2_encrypt at h
  refine lv_iconst (v := 0) hx hb dX2_encrypt_0 (by decide) ?_
  refine lv_istore_n (lv' := [(1, .int 0), (0, .ref (ga G c0))]) hx hb dX2_encrypt_1 rfl hl (by decide) rfl (fun ls hl => ?_)
  obtain ⟨nn, h⟩ := h
  exact L2 nn c0 hc0 0 σ _ _ ls hH (lv_sub hl [1, 0] rfl) h
def wpX2_mask_L76 (tb : Nat → Int32) (Q : Sg → Prop) (K3 : Nat → Nat → Int32 → Int32 → Int32 → Int32 → Sg → Prop) (c0 : Nat) (c1 : Nat) (x2 : Int32) (x3 : Int32) (x4 : Int32) (x5 : Int32) (σ : Sg) : Prop := ∀ x5_11 : Int32, x5_11 = x5 + 16 → K3 c0 c1 x2 x3 x4 x5_11 σ
def wpX2_mask_L27 (tb : Nat → Int32) (Q : Sg → Prop) (K3 : Nat → Nat → Int32 → Int32 → Int32 → Int32 → Sg → Prop) : Nat → Nat → Nat → Int32 → Int32 → Int32 → Int32 → Int32 → Sg → Prop
  | 0, _, _, _, _, _, _, _, _ => False
  | n + 1, c0, c1, x2, x3, x4, x5, x6, σ => ((16 ≤ x6 → wpX2_mask_L76 tb Q K3 c0 c1 x2 x3 x4 x5 σ) ∧ (¬ (16 ≤ x6) → ((x2 ≤ (x5 + x6) → wpX2_mask_L76 tb Q K3 c0 c1 x2 x3 x4 x5 σ) ∧ (¬ (x2 ≤ (x5 + x6)) → (((nI 121) ≤ (x5 + x6) → wpX2_mask_L76 tb Q K3 c0 c1 x2 x3 x4 x5 σ) ∧ (¬ ((nI 121) ≤ (x5 + x6)) → (vp_in (x5 + x6) 121 ∧ (vp_in x6 16 ∧ (vp_in (x5 + x6) 121 ∧ ∀ σ9 : Sg, σ9 = up2 σ c1 ((x5 + x6).toNatClampNeg) ((σ c1 (x5 + x6).toNatClampNeg) ^^^ (σ (c0 + 2) x6.toNatClampNeg)) → ∀ x6_10 : Int32, x6_10 = x6 + 1 → (wpX2_mask_L27 tb Q K3 n) c0 c1 x2 x3 x4 x5 x6_10 σ9)))))))))
def wpX2_mask_L3 (tb : Nat → Int32) (Q : Sg → Prop) : Nat → Nat → Nat → Int32 → Int32 → Int32 → Int32 → Sg → Prop
  | 0, _, _, _, _, _, _, _ => False
  | n + 1, c0, c1, x2, x3, x4, x5, σ => ((x2 ≤ x5 → Q σ) ∧ (¬ (x2 ≤ x5) → wpX2_setCounter c0 x3 x4 (x5 >>> ((4 : Int32) &&& 31)) σ (fun σ2 => wpX2_encrypt tb c0 σ2 (fun σ3 => ∃ nn, wpX2_mask_L27 tb Q (wpX2_mask_L3 tb Q n) nn c0 c1 x2 x3 x4 x5 0 σ3))))
def wpX2_mask (tb : Nat → Int32) (c0 : Nat) (c1 : Nat) (x2 : Int32) (x3 : Int32) (x4 : Int32) (σ : Sg) (Q : Sg → Prop) : Prop := ∃ nn, wpX2_mask_L3 tb Q nn c0 c1 x2 x3 x4 1 σ
set_option maxHeartbeats 8000000 in
set_option maxRecDepth 100000 in
theorem tX2_mask {l : Launch} {G : GG} {tS : Nat × (Nat → Int32)} (hgo : go G = some tS) {c0 : Nat} {c1 : Nat} {x2 : Int32} {x3 : Int32} {x4 : Int32} {σ : Sg} {Q : Sg → Prop} (hc0 : isCipher G c0) (hc1 : isI G 121 c1) (h : wpX2_mask tS.2 c0 c1 x2 x3 x4 σ Q) : Kv l G yX2_mask (wB yX2_mask prog_4_method_3_code 7 none) ({ frames := 2, cells := 0, slots := 0, locals := 47 }) [.ref (ga G c0), .ref (ga G c1), .int x2, .int x3, .int x4] σ Q := by
  refine K_of (cc := cX2_mask) (maxL := 7) (ret := none) (by decide) rfl (Nat.le_of_ble_eq_true rfl) ?_
  intro p e s m args below meth c ls B hH hl
  obtain ⟨hx, hb, hr, hts, hown, hlk, hml, hK, hX⟩ := B
  replace hl : lv_has ls 7 [(0, .ref (ga G c0)), (1, .ref (ga G c1)), (2, .int x2), (3, .int x3), (4, .int x4)] := hl
  have hB : ∀ w ∈ BIG, w.before args s = true := fun w h9 => hts w (List.mem_cons_of_mem _ h9)
  clear hts
  have k13 := hB _ bw1_29
  have L3 : ∀ (n3 : Nat) (c0 : Nat) (hc0 : isCipher G c0) (c1 : Nat) (hc1 : isI G 121 c1) (x2 : Int32) (x3 : Int32) (x4 : Int32) (x5 : Int32) (σ : Sg) (H : Heap) (locs : List Loc) (ls : Array Slot), Hx G (aA G s.heap.size) s σ H locs → lv_has ls 7 [(0, .ref (ga G c0)), (1, .ref (ga G c1)), (2, .int x2), (3, .int x3), (4, .int x4), (5, .int x5)] → wpX2_mask_L3 tS.2 Q n3 c0 c1 x2 x3 x4 x5 σ → W p l e ({ frames := 2, cells := 0, slots := 0, locals := 47 }) s m args below meth c H locs 0 0 (Zv G Q below args s) (F0 m 3 ls []) := by
    intro n3
    induction n3 with
    | zero =>
      intro c0 hc0 c1 hc1 x2 x3 x4 x5 σ H locs ls hH hl h
      exact False.elim h
    | succ n3 ih3 =>
      have L76 : ∀ (c0 : Nat) (hc0 : isCipher G c0) (c1 : Nat) (hc1 : isI G 121 c1) (x2 : Int32) (x3 : Int32) (x4 : Int32) (x5 : Int32) (σ : Sg) (H : Heap) (locs : List Loc) (ls : Array Slot), Hx G (aA G s.heap.size) s σ H locs → lv_has ls 7 [(0, .ref (ga G c0)), (1, .ref (ga G c1)), (2, .int x2), (3, .int x3), (4, .int x4), (5, .int x5)] → wpX2_mask_L76 tS.2 Q (wpX2_mask_L3 tS.2 Q n3) c0 c1 x2 x3 x4 x5 σ → W p l e ({ frames := 2, cells := 0, slots := 0, locals := 47 }) s m args below meth c H locs 0 0 (Zv G Q below args s) (F0 m 76 ls []) := by
        intro c0 hc0 c1 hc1 x2 x3 x4 x5 σ H locs ls hH hl h
        unfold wpX2_mask_L76 at h
        obtain ⟨x5_11, ex5_11⟩ : ∃ y : Int32, y = x5 + 16 := ⟨_, rfl⟩
        replace h := h x5_11 ex5_11
        refine lv_iinc (v := x5_11) (lv' := [(5, .int x5_11), (0, .ref (ga G c0)), (1, .ref (ga G c1)), (2, .int x2), (3, .int x3), (4, .int x4)]) hx hb dX2_mask_76 hl (k := 5) rfl (by rw [ex5_11]; rfl) (by decide) rfl (fun ls hl => ?_)
        refine lv_goto (tgt := 3) hx hb dX2_mask_79 (by decide) ?_
        exact ih3 c0 hc0 c1 hc1 x2 x3 x4 x5_11 σ _ _ ls hH (lv_sub hl [1, 2, 3, 4, 5, 0] rfl) h
      have L27 : ∀ (n27 : Nat) (c0 : Nat) (hc0 : isCipher G c0) (c1 : Nat) (hc1 : isI G 121 c1) (x2 : Int32) (x3 : Int32) (x4 : Int32) (x5 : Int32) (x6 : Int32) (σ : Sg) (H : Heap) (locs : List Loc) (ls : Array Slot), Hx G (aA G s.heap.size) s σ H locs → lv_has ls 7 [(0, .ref (ga G c0)), (1, .ref (ga G c1)), (2, .int x2), (3, .int x3), (4, .int x4), (5, .int x5), (6, .int x6)] → wpX2_mask_L27 tS.2 Q (wpX2_mask_L3 tS.2 Q n3) n27 c0 c1 x2 x3 x4 x5 x6 σ → W p l e ({ frames := 2, cells := 0, slots := 0, locals := 47 }) s m args below meth c H locs 0 0 (Zv G Q below args s) (F0 m 27 ls []) := by
        intro n27
        induction n27 with
        | zero =>
          intro c0 hc0 c1 hc1 x2 x3 x4 x5 x6 σ H locs ls hH hl h
          exact False.elim h
        | succ n27 ih27 =>
          intro c0 hc0 c1 hc1 x2 x3 x4 x5 x6 σ H locs ls hH hl h
          unfold wpX2_mask_L27 at h
          refine lv_iload hx hb dX2_mask_27 (lv_at hl 6 rfl) ?_
          refine lv_bipush (v := 16) hx hb dX2_mask_29 (by decide) ?_
          refine lv_icmp_ge (tgt := 76) hx hb dX2_mask_31 (by decide) (fun q4 => ?_) (fun q4 => ?_)
          · replace h := h.1 q4
            exact L76 c0 hc0 c1 hc1 x2 x3 x4 x5 σ _ _ ls hH (lv_sub hl [0, 1, 2, 3, 4, 5] rfl) h
          · replace h := h.2 q4
            refine lv_iload hx hb dX2_mask_34 (lv_at hl 5 rfl) ?_
            refine lv_iload hx hb dX2_mask_36 (lv_at hl 6 rfl) ?_
            refine lv_iadd hx hb dX2_mask_38 ?_
            refine lv_iload_n hx hb dX2_mask_39 rfl (lv_at hl 2 rfl) ?_
            refine lv_icmp_ge (tgt := 76) hx hb dX2_mask_40 (by decide) (fun q5 => ?_) (fun q5 => ?_)
            · replace h := h.1 q5
              exact L76 c0 hc0 c1 hc1 x2 x3 x4 x5 σ _ _ ls hH (lv_sub hl [0, 1, 2, 3, 4, 5] rfl) h
            · replace h := h.2 q5
              refine lv_iload hx hb dX2_mask_43 (lv_at hl 5 rfl) ?_
              refine lv_iload hx hb dX2_mask_45 (lv_at hl 6 rfl) ?_
              refine lv_iadd hx hb dX2_mask_47 ?_
              refine lv_aload_n hx hb dX2_mask_48 rfl (lv_at hl 1 rfl) ?_
              refine g_aleni hx hb hK hH (c0 := c1) hc1 dX2_mask_49 ?_
              refine lv_icmp_ge (tgt := 76) hx hb dX2_mask_50 (by decide) (fun q6 => ?_) (fun q6 => ?_)
              · replace h := h.1 q6
                exact L76 c0 hc0 c1 hc1 x2 x3 x4 x5 σ _ _ ls hH (lv_sub hl [0, 1, 2, 3, 4, 5] rfl) h
              · replace h := h.2 q6
                refine lv_aload_n hx hb dX2_mask_53 rfl (lv_at hl 1 rfl) ?_
                refine lv_iload hx hb dX2_mask_54 (lv_at hl 5 rfl) ?_
                refine lv_iload hx hb dX2_mask_56 (lv_at hl 6 rfl) ?_
                refine lv_iadd hx hb dX2_mask_58 ?_
                refine lv_dup2_11 hx hb dX2_mask_59 rfl rfl ?_
                obtain ⟨hi7, h⟩ := h
                refine g_iald hx hb hK hH (c0 := c1) hc1 hi7 dX2_mask_60 ?_
                refine lv_aload_n hx hb dX2_mask_61 rfl (lv_at hl 0 rfl) ?_
                refine g_getr hx hb hB inB2 hown hK hH (c0 := c0) hc0.1 rfl 1 (by decide) k13 rfl (c1 := c0 + 2) rfl dX2_mask_62 ?_
                refine lv_iload hx hb dX2_mask_65 (lv_at hl 6 rfl) ?_
                obtain ⟨hi8, h⟩ := h
                refine g_iald hx hb hK hH (c0 := c0 + 2) hc0.2.2.1 hi8 dX2_mask_67 ?_
                refine lv_ixor hx hb dX2_mask_68 ?_
                obtain ⟨hi9, h⟩ := h
                refine g_iast hx hb hK hH (c0 := c1) (i := x5 + x6) hc1 hi9 dX2_mask_69 (fun σ9 eσ9 H locs hH => ?_)
                replace h := h σ9 eσ9
                obtain ⟨x6_10, ex6_10⟩ : ∃ y : Int32, y = x6 + 1 := ⟨_, rfl⟩
                replace h := h x6_10 ex6_10
                refine lv_iinc (v := x6_10) (lv' := [(6, .int x6_10), (0, .ref (ga G c0)), (1, .ref (ga G c1)), (2, .int x2), (3, .int x3), (4, .int x4), (5, .int x5)]) hx hb dX2_mask_70 hl (k := 6) rfl (by rw [ex6_10]; rfl) (by decide) rfl (fun ls hl => ?_)
                refine lv_goto (tgt := 27) hx hb dX2_mask_73 (by decide) ?_
                exact ih27 c0 hc0 c1 hc1 x2 x3 x4 x5 x6_10 σ9 _ _ ls hH (lv_sub hl [1, 2, 3, 4, 5, 6, 0] rfl) h
      intro c0 hc0 c1 hc1 x2 x3 x4 x5 σ H locs ls hH hl h
      unfold wpX2_mask_L3 at h
      refine lv_iload hx hb dX2_mask_3 (lv_at hl 5 rfl) ?_
      refine lv_iload_n hx hb dX2_mask_5 rfl (lv_at hl 2 rfl) ?_
      refine lv_icmp_ge (tgt := 82) hx hb dX2_mask_6 (by decide) (fun q1 => ?_) (fun q1 => ?_)
      · replace h := h.1 q1
        exact g_vret hx hb hr hK hlk h hH dX2_mask_82
      · replace h := h.2 q1
        refine lv_aload_n hx hb dX2_mask_9 rfl (lv_at hl 0 rfl) ?_
        refine lv_iload_n hx hb dX2_mask_10 rfl (lv_at hl 3 rfl) ?_
        refine lv_iload hx hb dX2_mask_11 (lv_at hl 4 rfl) ?_
        refine lv_iload hx hb dX2_mask_13 (lv_at hl 5 rfl) ?_
        refine lv_iconst (v := 4) hx hb dX2_mask_15 (by decide) ?_
        refine lv_ishr hx hb dX2_mask_16 ?_
        refine g_callVv (As := [.int x3, .int x4, .int (x5 >>> ((4 : Int32) &&& 31))]) (rest := []) ⟨hx, hb, hml, hown, hB⟩ hK hX aA_hA hH (c0 := c0) (tX2_setCounter hc0 h) (cwV 3 hB gVX2_24 rfl rfl rfl (by decide +kernel) ⟨Nat.le_of_ble_eq_true rfl, Nat.le_of_ble_eq_true rfl⟩) hc0.1 rfl rfl hl.1 rfl (lv_room (Nat.le_of_ble_eq_true rfl)) ⟨Nat.zero_le _, Nat.zero_le _⟩ dX2_mask_17 (fun σ2 H locs h hH => ?_)
        refine lv_aload_n hx hb dX2_mask_20 rfl (lv_at hl 0 rfl) ?_
        refine g_callVv (As := []) (rest := []) ⟨hx, hb, hml, hown, hB⟩ hK hX aA_hA hH (c0 := c0) (tX2_encrypt (tS := tS) hgo hc0 h) (cwV 0 hB gVX2_28 rfl rfl rfl (by decide +kernel) ⟨Nat.le_of_ble_eq_true rfl, Nat.le_of_ble_eq_true rfl⟩) hc0.1 rfl rfl hl.1 rfl (lv_room (Nat.le_of_ble_eq_true rfl)) ⟨Nat.zero_le _, Nat.zero_le _⟩ dX2_mask_21 (fun σ3 H locs h hH => ?_)
        refine lv_iconst (v := 0) hx hb dX2_mask_24 (by decide) ?_
        refine lv_istore (lv' := [(6, .int 0), (0, .ref (ga G c0)), (1, .ref (ga G c1)), (2, .int x2), (3, .int x3), (4, .int x4), (5, .int x5)]) hx hb dX2_mask_25 hl (by decide) rfl (fun ls hl => ?_)
        obtain ⟨nn, h⟩ := h
        exact L27 nn c0 hc0 c1 hc1 x2 x3 x4 x5 0 σ3 _ _ ls hH (lv_sub hl [1, 2, 3, 4, 5, 6, 0] rfl) h
  unfold wpX2_mask at h
  refine lv_iconst (v := 1) hx hb dX2_mask_0 (by decide) ?_
  refine lv_istore (lv' := [(5, .int 1), (0, .ref (ga G c0)), (1, .ref (ga G c1)), (2, .int x2), (3, .int x3), (4, .int x4)]) hx hb dX2_mask_1 hl (by decide) rfl (fun ls hl => ?_)
  obtain ⟨nn, h⟩ := h
  exact L3 nn c0 hc0 c1 hc1 x2 x3 x4 1 σ _ _ ls hH (lv_sub hl [1, 2, 3, 4, 5, 0] rfl) h
