def wpX9_makeStatus_L141 (Q : Int32 → Sg → Prop) (x1 : Int32) (x3 : Int32) (x4 : Int32) (x5 : Int32) (σ : Sg) : Prop := ∀ σ14 : Sg, σ14 = up2 σ 66 0 x4 → ∀ σ15 : Sg, σ15 = up2 σ14 66 1 (x5 &&& 63) → (vp_in x1 6 ∧ ∀ σ16 : Sg, σ16 = up2 σ15 43 x1.toNatClampNeg 0 → (vp_in x1 6 ∧ ∀ σ17 : Sg, σ17 = up2 σ16 38 x1.toNatClampNeg 5 → (vp_in x1 6 ∧ (vp_in x1 6 ∧ ∀ σ19 : Sg, σ19 = up2 σ17 40 x1.toNatClampNeg ((σ17 40 x1.toNatClampNeg) + 1) → Q x3 σ19))))
def wpX9_makeStatus_L135 (Q : Int32 → Sg → Prop) (K21 : Int32 → Int32 → Int32 → Int32 → Int32 → Int32 → Sg → Prop) (x1 : Int32) (x2 : Int32) (x3 : Int32) (x4 : Int32) (x5 : Int32) (x6 : Int32) (σ : Sg) : Prop := ∀ x6_25 : Int32, x6_25 = x6 + 1 → K21 x1 x2 x3 x4 x5 x6_25 σ
def wpX9_makeStatus_L105 (Q : Int32 → Sg → Prop) (K21 : Int32 → Int32 → Int32 → Int32 → Int32 → Int32 → Sg → Prop) (x1 : Int32) (x2 : Int32) (x3 : Int32) (x4 : Int32) (x6 : Int32) (σ : Sg) : Prop := wpX9_makeStatus_L135 Q K21 x1 x2 x3 x4 x6 x6 σ
def wpX9_makeStatus_L85 (Q : Int32 → Sg → Prop) (K21 : Int32 → Int32 → Int32 → Int32 → Int32 → Int32 → Sg → Prop) (x1 : Int32) (x2 : Int32) (x3 : Int32) (x4 : Int32) (x5 : Int32) (x6 : Int32) (x7 : Int32) (z0 : Int32) (σ : Sg) : Prop := ((15 < (x4 + x7) → wpX9_makeStatus_L105 Q K21 x1 x2 x3 x4 x6 σ) ∧ (¬ (15 < (x4 + x7)) → (((x3 + z0) ≤ x2 → wpX9_entries x1 x6 x3 1 σ (fun r22 σ22 => ∀ x4_23 : Int32, x4_23 = x4 + r22 → ∀ x3_24 : Int32, x3_24 = x3 + z0 → wpX9_makeStatus_L135 Q K21 x1 x2 x3_24 x4_23 x5 x6 σ22)) ∧ (¬ ((x3 + z0) ≤ x2) → wpX9_makeStatus_L105 Q K21 x1 x2 x3 x4 x6 σ))))
def wpX9_makeStatus_L21 (Q : Int32 → Sg → Prop) : Nat → Int32 → Int32 → Int32 → Int32 → Int32 → Int32 → Sg → Prop
  | 0, _, _, _, _, _, _, _ => False
  | n + 1, x1, x2, x3, x4, x5, x6, σ => (vp_in x1 6 ∧ (((σ 35 x1.toNatClampNeg) ≤ x6 → wpX9_makeStatus_L141 Q x1 x3 x4 x5 σ) ∧ (¬ ((σ 35 x1.toNatClampNeg) ≤ x6) → (vp_in x1 6 ∧ ((¬ x5 = (σ 35 x1.toNatClampNeg) → wpX9_makeStatus_L141 Q x1 x3 x4 x5 σ) ∧ (x5 = (σ 35 x1.toNatClampNeg) → wpX9_isWhole x1 x6 σ (fun r9 σ9 => ((r9 = 0 → wpX9_entries x1 x6 0 0 σ9 (fun r11 σ11 => wpX9_isEmpty x1 x6 σ11 (fun r12 σ12 => ((r12 = 0 → wpX9_makeStatus_L85 Q (wpX9_makeStatus_L21 Q n) x1 x2 x3 x4 x5 x6 r11 (3 * r11) σ12) ∧ (¬ (r12 = 0) → wpX9_makeStatus_L85 Q (wpX9_makeStatus_L21 Q n) x1 x2 x3 x4 x5 x6 r11 1 σ12))))) ∧ (¬ (r9 = 0) → wpX9_makeStatus_L135 Q (wpX9_makeStatus_L21 Q n) x1 x2 x3 x4 x5 x6 σ9)))))))))
def wpX9_makeStatus (x1 : Int32) (x2 : Int32) (σ : Sg) (Q : Int32 → Sg → Prop) : Prop := (vp_in x1 6 ∧ ∀ x5_2 : Int32, x5_2 = σ 35 x1.toNatClampNeg → (vp_in x1 6 ∧ ∀ x6_4 : Int32, x6_4 = σ 33 x1.toNatClampNeg → ∃ nn, wpX9_makeStatus_L21 Q nn x1 x2 2 0 x5_2 x6_4 σ))
set_option maxHeartbeats 8000000 in
set_option maxRecDepth 100000 in
theorem tX9_makeStatus {l : Launch} {G : GG} {x1 : Int32} {x2 : Int32} {σ : Sg} {Q : Int32 → Sg → Prop} (h0 : isModel G) (h : wpX9_makeStatus x1 x2 σ Q) : Ki l G yX9_makeStatus (wB yX9_makeStatus prog_11_method_27_code 9 (Option.some FieldType.int)) ({ frames := 2, cells := 0, slots := 0, locals := 56 }) [.ref (ga G 0), .int x1, .int x2] σ Q := by
  refine K_of (cc := cX9_makeStatus) (maxL := 9) (ret := (some .int)) (by decide) rfl (Nat.le_of_ble_eq_true rfl) ?_
  intro p e s m args below meth c ls B hH hl
  obtain ⟨hx, hb, hr, hts, hown, hlk, hml, hK, hX⟩ := B
  replace hl : lv_has ls 9 [(0, .ref (ga G 0)), (1, .int x1), (2, .int x2)] := hl
  have hB : ∀ w ∈ BIG, w.before args s = true := fun w h9 => hts w (List.mem_cons_of_mem _ h9)
  clear hts
  have k107 := hB _ bw4_152
  have k113 := hB _ bw4_154
  have k122 := hB _ bw4_157
  have k128 := hB _ bw4_159
  have k137 := hB _ bw4_162
  have k207 := hB _ bw4_185
  have L141 : ∀ (x1 : Int32) (x3 : Int32) (x4 : Int32) (x5 : Int32) (σ : Sg) (H : Heap) (locs : List Loc) (ls : Array Slot), Hx G (aA G s.heap.size) s σ H locs → lv_has ls 9 [(0, .ref (ga G 0)), (1, .int x1), (3, .int x3), (4, .int x4), (5, .int x5)] → wpX9_makeStatus_L141 Q x1 x3 x4 x5 σ → W p l e ({ frames := 2, cells := 0, slots := 0, locals := 56 }) s m args below meth c H locs 0 0 (Zi G Q below args s) (F0 m 141 ls []) := by
    intro x1 x3 x4 x5 σ H locs ls hH hl h
    unfold wpX9_makeStatus_L141 at h
    refine lv_aload_n hx hb dX9_makeStatus_141 rfl (lv_at hl 0 rfl) ?_
    refine g_getr hx hb hB inB9 hown hK hH (c0 := 0) h0.1 rfl 75 (by decide) k207 rfl (c1 := 66) rfl dX9_makeStatus_142 ?_
    refine lv_iconst (v := 0) hx hb dX9_makeStatus_145 (by decide) ?_
    refine lv_iload hx hb dX9_makeStatus_146 (lv_at hl 3 rfl) ?_
    refine g_iast hx hb hK hH (c0 := 66) (i := 0) (mA66 h0) (vp_in_nI (n := 0) (by decide) (by decide)) dX9_makeStatus_148 (fun σ14 eσ14 H locs hH => ?_)
    replace h := h σ14 eσ14
    refine lv_aload_n hx hb dX9_makeStatus_149 rfl (lv_at hl 0 rfl) ?_
    refine g_getr hx hb hB inB9 hown hK hH (c0 := 0) h0.1 rfl 75 (by decide) k207 rfl (c1 := 66) rfl dX9_makeStatus_150 ?_
    refine lv_iconst (v := 1) hx hb dX9_makeStatus_153 (by decide) ?_
    refine lv_iload hx hb dX9_makeStatus_154 (lv_at hl 4 rfl) ?_
    refine lv_bipush (v := 63) hx hb dX9_makeStatus_156 (by decide) ?_
    refine lv_iand hx hb dX9_makeStatus_158 ?_
    refine g_iast hx hb hK hH (c0 := 66) (i := 1) (mA66 h0) (vp_in_nI (n := 1) (by decide) (by decide)) dX9_makeStatus_159 (fun σ15 eσ15 H locs hH => ?_)
    replace h := h σ15 eσ15
    refine lv_aload_n hx hb dX9_makeStatus_160 rfl (lv_at hl 0 rfl) ?_
    refine g_getr hx hb hB inB9 hown hK hH (c0 := 0) h0.1 rfl 52 (by decide) k137 rfl (c1 := 43) rfl dX9_makeStatus_161 ?_
    refine lv_iload_n hx hb dX9_makeStatus_164 rfl (lv_at hl 1 rfl) ?_
    refine lv_iconst (v := 0) hx hb dX9_makeStatus_165 (by decide) ?_
    obtain ⟨hi16, h⟩ := h
    refine g_zast hx hb hK hH (c0 := 43) (i := x1) (mA43 h0) vz0 hi16 dX9_makeStatus_166 (fun σ16 eσ16 H locs hH => ?_)
    replace h := h σ16 eσ16
    refine lv_aload_n hx hb dX9_makeStatus_167 rfl (lv_at hl 0 rfl) ?_
    refine g_getr hx hb hB inB9 hown hK hH (c0 := 0) h0.1 rfl 47 (by decide) k122 rfl (c1 := 38) rfl dX9_makeStatus_168 ?_
    refine lv_iload_n hx hb dX9_makeStatus_171 rfl (lv_at hl 1 rfl) ?_
    refine lv_iconst (v := 5) hx hb dX9_makeStatus_172 (by decide) ?_
    obtain ⟨hi17, h⟩ := h
    refine g_iast hx hb hK hH (c0 := 38) (i := x1) (mA38 h0) hi17 dX9_makeStatus_173 (fun σ17 eσ17 H locs hH => ?_)
    replace h := h σ17 eσ17
    refine lv_aload_n hx hb dX9_makeStatus_174 rfl (lv_at hl 0 rfl) ?_
    refine g_getr hx hb hB inB9 hown hK hH (c0 := 0) h0.1 rfl 49 (by decide) k128 rfl (c1 := 40) rfl dX9_makeStatus_175 ?_
    refine lv_iload_n hx hb dX9_makeStatus_178 rfl (lv_at hl 1 rfl) ?_
    refine lv_dup2_11 hx hb dX9_makeStatus_179 rfl rfl ?_
    obtain ⟨hi18, h⟩ := h
    refine g_iald hx hb hK hH (c0 := 40) (mA40 h0) hi18 dX9_makeStatus_180 ?_
    refine lv_iconst (v := 1) hx hb dX9_makeStatus_181 (by decide) ?_
    refine lv_iadd hx hb dX9_makeStatus_182 ?_
    obtain ⟨hi19, h⟩ := h
    refine g_iast hx hb hK hH (c0 := 40) (i := x1) (mA40 h0) hi19 dX9_makeStatus_183 (fun σ19 eσ19 H locs hH => ?_)
    replace h := h σ19 eσ19
    refine lv_iload_n hx hb dX9_makeStatus_184 rfl (lv_at hl 2 rfl) ?_
    exact g_iret hx hb hr hK hlk h hH dX9_makeStatus_185
  have L21 : ∀ (n21 : Nat) (x1 : Int32) (x2 : Int32) (x3 : Int32) (x4 : Int32) (x5 : Int32) (x6 : Int32) (σ : Sg) (H : Heap) (locs : List Loc) (ls : Array Slot), Hx G (aA G s.heap.size) s σ H locs → lv_has ls 9 [(0, .ref (ga G 0)), (1, .int x1), (2, .int x2), (3, .int x3), (4, .int x4), (5, .int x5), (6, .int x6)] → wpX9_makeStatus_L21 Q n21 x1 x2 x3 x4 x5 x6 σ → W p l e ({ frames := 2, cells := 0, slots := 0, locals := 56 }) s m args below meth c H locs 0 0 (Zi G Q below args s) (F0 m 21 ls []) := by
    intro n21
    induction n21 with
    | zero =>
      intro x1 x2 x3 x4 x5 x6 σ H locs ls hH hl h
      exact False.elim h
    | succ n21 ih21 =>
      have L135 : ∀ (x1 : Int32) (x2 : Int32) (x3 : Int32) (x4 : Int32) (x5 : Int32) (x6 : Int32) (σ : Sg) (H : Heap) (locs : List Loc) (ls : Array Slot), Hx G (aA G s.heap.size) s σ H locs → lv_has ls 9 [(0, .ref (ga G 0)), (1, .int x1), (2, .int x2), (3, .int x3), (4, .int x4), (5, .int x5), (6, .int x6)] → wpX9_makeStatus_L135 Q (wpX9_makeStatus_L21 Q n21) x1 x2 x3 x4 x5 x6 σ → W p l e ({ frames := 2, cells := 0, slots := 0, locals := 56 }) s m args below meth c H locs 0 0 (Zi G Q below args s) (F0 m 135 ls []) := by
        intro x1 x2 x3 x4 x5 x6 σ H locs ls hH hl h
        unfold wpX9_makeStatus_L135 at h
        obtain ⟨x6_25, ex6_25⟩ : ∃ y : Int32, y = x6 + 1 := ⟨_, rfl⟩
        replace h := h x6_25 ex6_25
        refine lv_iinc (v := x6_25) (lv' := [(6, .int x6_25), (0, .ref (ga G 0)), (1, .int x1), (2, .int x2), (3, .int x3), (4, .int x4), (5, .int x5)]) hx hb dX9_makeStatus_135 hl (k := 6) rfl (by rw [ex6_25]; rfl) (by decide) rfl (fun ls hl => ?_)
        refine lv_goto (tgt := 21) hx hb dX9_makeStatus_138 (by decide) ?_
        exact ih21 x1 x2 x3 x4 x5 x6_25 σ _ _ ls hH (lv_sub hl [1, 2, 3, 4, 5, 6, 0] rfl) h
      have L105 : ∀ (x1 : Int32) (x2 : Int32) (x3 : Int32) (x4 : Int32) (x6 : Int32) (σ : Sg) (H : Heap) (locs : List Loc) (ls : Array Slot), Hx G (aA G s.heap.size) s σ H locs → lv_has ls 9 [(0, .ref (ga G 0)), (1, .int x1), (2, .int x2), (3, .int x3), (4, .int x4), (6, .int x6)] → wpX9_makeStatus_L105 Q (wpX9_makeStatus_L21 Q n21) x1 x2 x3 x4 x6 σ → W p l e ({ frames := 2, cells := 0, slots := 0, locals := 56 }) s m args below meth c H locs 0 0 (Zi G Q below args s) (F0 m 105 ls []) := by
        intro x1 x2 x3 x4 x6 σ H locs ls hH hl h
        unfold wpX9_makeStatus_L105 at h
        refine lv_iload hx hb dX9_makeStatus_105 (lv_at hl 5 rfl) ?_
        refine lv_istore (lv' := [(5, .int x6), (0, .ref (ga G 0)), (1, .int x1), (2, .int x2), (3, .int x3), (4, .int x4), (6, .int x6)]) hx hb dX9_makeStatus_107 hl (by decide) rfl (fun ls hl => ?_)
        refine lv_goto (tgt := 135) hx hb dX9_makeStatus_109 (by decide) ?_
        exact L135 x1 x2 x3 x4 x6 x6 σ _ _ ls hH (lv_sub hl [1, 2, 3, 4, 5, 0, 6] rfl) h
      have L85 : ∀ (x1 : Int32) (x2 : Int32) (x3 : Int32) (x4 : Int32) (x5 : Int32) (x6 : Int32) (x7 : Int32) (z0 : Int32) (σ : Sg) (H : Heap) (locs : List Loc) (ls : Array Slot), Hx G (aA G s.heap.size) s σ H locs → lv_has ls 9 [(0, .ref (ga G 0)), (1, .int x1), (2, .int x2), (3, .int x3), (4, .int x4), (5, .int x5), (6, .int x6), (7, .int x7)] → wpX9_makeStatus_L85 Q (wpX9_makeStatus_L21 Q n21) x1 x2 x3 x4 x5 x6 x7 z0 σ → W p l e ({ frames := 2, cells := 0, slots := 0, locals := 56 }) s m args below meth c H locs 0 0 (Zi G Q below args s) (F0 m 85 ls [.int z0]) := by
        intro x1 x2 x3 x4 x5 x6 x7 z0 σ H locs ls hH hl h
        unfold wpX9_makeStatus_L85 at h
        refine lv_istore (lv' := [(8, .int z0), (0, .ref (ga G 0)), (1, .int x1), (2, .int x2), (3, .int x3), (4, .int x4), (5, .int x5), (6, .int x6), (7, .int x7)]) hx hb dX9_makeStatus_85 hl (by decide) rfl (fun ls hl => ?_)
        refine lv_iload hx hb dX9_makeStatus_87 (lv_at hl 5 rfl) ?_
        refine lv_iload hx hb dX9_makeStatus_89 (lv_at hl 8 rfl) ?_
        refine lv_iadd hx hb dX9_makeStatus_91 ?_
        refine lv_bipush (v := 15) hx hb dX9_makeStatus_92 (by decide) ?_
        refine lv_icmp_gt (tgt := 105) hx hb dX9_makeStatus_94 (by decide) (fun q20 => ?_) (fun q20 => ?_)
        · replace h := h.1 q20
          exact L105 x1 x2 x3 x4 x6 σ _ _ ls hH (lv_sub hl [1, 2, 3, 4, 5, 7] rfl) h
        · replace h := h.2 q20
          refine lv_iload_n hx hb dX9_makeStatus_97 rfl (lv_at hl 4 rfl) ?_
          refine lv_iload hx hb dX9_makeStatus_98 (lv_at hl 0 rfl) ?_
          refine lv_iadd hx hb dX9_makeStatus_100 ?_
          refine lv_iload_n hx hb dX9_makeStatus_101 rfl (lv_at hl 3 rfl) ?_
          refine lv_icmp_le (tgt := 112) hx hb dX9_makeStatus_102 (by decide) (fun q21 => ?_) (fun q21 => ?_)
          · replace h := h.1 q21
            refine lv_aload_n hx hb dX9_makeStatus_112 rfl (lv_at hl 1 rfl) ?_
            refine lv_iload_n hx hb dX9_makeStatus_113 rfl (lv_at hl 2 rfl) ?_
            refine lv_iload hx hb dX9_makeStatus_114 (lv_at hl 7 rfl) ?_
            refine lv_iload_n hx hb dX9_makeStatus_116 rfl (lv_at hl 4 rfl) ?_
            refine lv_iconst (v := 1) hx hb dX9_makeStatus_117 (by decide) ?_
            refine g_callVi (As := [.int x1, .int x6, .int x3, .int 1]) (rest := []) ⟨hx, hb, hml, hown, hB⟩ hK hX aA_hA hH (c0 := 0) (tX9_entries h0 h) (cwV 4 hB gVX9_309 rfl rfl rfl (by decide +kernel) ⟨Nat.le_of_ble_eq_true rfl, Nat.le_of_ble_eq_true rfl⟩) h0.1 rfl rfl hl.1 rfl (lv_room (Nat.le_of_ble_eq_true rfl)) ⟨Nat.zero_le _, Nat.zero_le _⟩ dX9_makeStatus_118 (fun r22 σ22 H locs h hH => ?_)
            refine lv_istore (lv' := [(7, .int r22), (8, .int z0), (0, .ref (ga G 0)), (1, .int x1), (2, .int x2), (3, .int x3), (4, .int x4), (5, .int x5), (6, .int x6)]) hx hb dX9_makeStatus_121 hl (by decide) rfl (fun ls hl => ?_)
            refine lv_iload hx hb dX9_makeStatus_123 (lv_at hl 6 rfl) ?_
            refine lv_iload hx hb dX9_makeStatus_125 (lv_at hl 0 rfl) ?_
            refine lv_iadd hx hb dX9_makeStatus_127 ?_
            refine lv_topi (fun x4_23 ex4_23 => ?_)
            replace h := h x4_23 ex4_23
            refine lv_istore (lv' := [(4, .int x4_23), (7, .int r22), (8, .int z0), (0, .ref (ga G 0)), (1, .int x1), (2, .int x2), (3, .int x3), (5, .int x5), (6, .int x6)]) hx hb dX9_makeStatus_128 hl (by decide) rfl (fun ls hl => ?_)
            refine lv_iload_n hx hb dX9_makeStatus_130 rfl (lv_at hl 6 rfl) ?_
            refine lv_iload hx hb dX9_makeStatus_131 (lv_at hl 2 rfl) ?_
            refine lv_iadd hx hb dX9_makeStatus_133 ?_
            refine lv_topi (fun x3_24 ex3_24 => ?_)
            replace h := h x3_24 ex3_24
            refine lv_istore_n (lv' := [(3, .int x3_24), (4, .int x4_23), (7, .int r22), (8, .int z0), (0, .ref (ga G 0)), (1, .int x1), (2, .int x2), (5, .int x5), (6, .int x6)]) hx hb dX9_makeStatus_134 rfl hl (by decide) rfl (fun ls hl => ?_)
            exact L135 x1 x2 x3_24 x4_23 x5 x6 σ22 _ _ ls hH (lv_sub hl [4, 5, 6, 0, 1, 7, 8] rfl) h
          · replace h := h.2 q21
            exact L105 x1 x2 x3 x4 x6 σ _ _ ls hH (lv_sub hl [1, 2, 3, 4, 5, 7] rfl) h
      intro x1 x2 x3 x4 x5 x6 σ H locs ls hH hl h
      unfold wpX9_makeStatus_L21 at h
      refine lv_iload hx hb dX9_makeStatus_21 (lv_at hl 6 rfl) ?_
      refine lv_aload_n hx hb dX9_makeStatus_23 rfl (lv_at hl 0 rfl) ?_
      refine g_getr hx hb hB inB9 hown hK hH (c0 := 0) h0.1 rfl 44 (by decide) k113 rfl (c1 := 35) rfl dX9_makeStatus_24 ?_
      refine lv_iload_n hx hb dX9_makeStatus_27 rfl (lv_at hl 1 rfl) ?_
      obtain ⟨hi5, h⟩ := h
      refine g_iald hx hb hK hH (c0 := 35) (mA35 h0) hi5 dX9_makeStatus_28 ?_
      refine lv_icmp_ge (tgt := 141) hx hb dX9_makeStatus_29 (by decide) (fun q6 => ?_) (fun q6 => ?_)
      · replace h := h.1 q6
        exact L141 x1 x3 x4 x5 σ _ _ ls hH (lv_sub hl [0, 1, 3, 4, 5] rfl) h
      · replace h := h.2 q6
        refine lv_iload hx hb dX9_makeStatus_32 (lv_at hl 5 rfl) ?_
        refine lv_aload_n hx hb dX9_makeStatus_34 rfl (lv_at hl 0 rfl) ?_
        refine g_getr hx hb hB inB9 hown hK hH (c0 := 0) h0.1 rfl 44 (by decide) k113 rfl (c1 := 35) rfl dX9_makeStatus_35 ?_
        refine lv_iload_n hx hb dX9_makeStatus_38 rfl (lv_at hl 1 rfl) ?_
        obtain ⟨hi7, h⟩ := h
        refine g_iald hx hb hK hH (c0 := 35) (mA35 h0) hi7 dX9_makeStatus_39 ?_
        refine lv_icmp_ne (tgt := 141) hx hb dX9_makeStatus_40 (by decide) (fun q8 => ?_) (fun q8 => ?_)
        · replace h := h.1 q8
          exact L141 x1 x3 x4 x5 σ _ _ ls hH (lv_sub hl [0, 1, 3, 4, 5] rfl) h
        · replace h := h.2 q8
          refine lv_aload_n hx hb dX9_makeStatus_43 rfl (lv_at hl 0 rfl) ?_
          refine lv_iload_n hx hb dX9_makeStatus_44 rfl (lv_at hl 1 rfl) ?_
          refine lv_iload hx hb dX9_makeStatus_45 (lv_at hl 6 rfl) ?_
          refine g_callVi (As := [.int x1, .int x6]) (rest := []) ⟨hx, hb, hml, hown, hB⟩ hK hX aA_hA hH (c0 := 0) (tX9_isWhole h0 h) (cwV 2 hB gVX9_306 rfl rfl rfl (by decide +kernel) ⟨Nat.le_of_ble_eq_true rfl, Nat.le_of_ble_eq_true rfl⟩) h0.1 rfl rfl hl.1 rfl (lv_room (Nat.le_of_ble_eq_true rfl)) ⟨Nat.zero_le _, Nat.zero_le _⟩ dX9_makeStatus_47 (fun r9 σ9 H locs h hH => ?_)
          refine lv_if_eq (tgt := 56) hx hb dX9_makeStatus_50 (by decide) (fun q10 => ?_) (fun q10 => ?_)
          · replace h := h.1 q10
            refine lv_aload_n hx hb dX9_makeStatus_56 rfl (lv_at hl 0 rfl) ?_
            refine lv_iload_n hx hb dX9_makeStatus_57 rfl (lv_at hl 1 rfl) ?_
            refine lv_iload hx hb dX9_makeStatus_58 (lv_at hl 6 rfl) ?_
            refine lv_iconst (v := 0) hx hb dX9_makeStatus_60 (by decide) ?_
            refine lv_iconst (v := 0) hx hb dX9_makeStatus_61 (by decide) ?_
            refine g_callVi (As := [.int x1, .int x6, .int 0, .int 0]) (rest := []) ⟨hx, hb, hml, hown, hB⟩ hK hX aA_hA hH (c0 := 0) (tX9_entries h0 h) (cwV 4 hB gVX9_309 rfl rfl rfl (by decide +kernel) ⟨Nat.le_of_ble_eq_true rfl, Nat.le_of_ble_eq_true rfl⟩) h0.1 rfl rfl hl.1 rfl (lv_room (Nat.le_of_ble_eq_true rfl)) ⟨Nat.zero_le _, Nat.zero_le _⟩ dX9_makeStatus_62 (fun r11 σ11 H locs h hH => ?_)
            refine lv_istore (lv' := [(7, .int r11), (0, .ref (ga G 0)), (1, .int x1), (2, .int x2), (3, .int x3), (4, .int x4), (5, .int x5), (6, .int x6)]) hx hb dX9_makeStatus_65 hl (by decide) rfl (fun ls hl => ?_)
            refine lv_aload_n hx hb dX9_makeStatus_67 rfl (lv_at hl 1 rfl) ?_
            refine lv_iload_n hx hb dX9_makeStatus_68 rfl (lv_at hl 2 rfl) ?_
            refine lv_iload hx hb dX9_makeStatus_69 (lv_at hl 7 rfl) ?_
            refine g_callVi (As := [.int x1, .int x6]) (rest := []) ⟨hx, hb, hml, hown, hB⟩ hK hX aA_hA hH (c0 := 0) (tX9_isEmpty h0 h) (cwV 2 hB gVX9_313 rfl rfl rfl (by decide +kernel) ⟨Nat.le_of_ble_eq_true rfl, Nat.le_of_ble_eq_true rfl⟩) h0.1 rfl rfl hl.1 rfl (lv_room (Nat.le_of_ble_eq_true rfl)) ⟨Nat.zero_le _, Nat.zero_le _⟩ dX9_makeStatus_71 (fun r12 σ12 H locs h hH => ?_)
            refine lv_if_eq (tgt := 81) hx hb dX9_makeStatus_74 (by decide) (fun q13 => ?_) (fun q13 => ?_)
            · replace h := h.1 q13
              refine lv_iconst (v := 3) hx hb dX9_makeStatus_81 (by decide) ?_
              refine lv_iload hx hb dX9_makeStatus_82 (lv_at hl 0 rfl) ?_
              refine lv_imul hx hb dX9_makeStatus_84 ?_
              exact L85 x1 x2 x3 x4 x5 x6 r11 (3 * r11) σ12 _ _ ls hH (lv_sub hl [1, 2, 3, 4, 5, 6, 7, 0] rfl) h
            · replace h := h.2 q13
              refine lv_iconst (v := 1) hx hb dX9_makeStatus_77 (by decide) ?_
              refine lv_goto (tgt := 85) hx hb dX9_makeStatus_78 (by decide) ?_
              exact L85 x1 x2 x3 x4 x5 x6 r11 1 σ12 _ _ ls hH (lv_sub hl [1, 2, 3, 4, 5, 6, 7, 0] rfl) h
          · replace h := h.2 q10
            refine lv_goto (tgt := 135) hx hb dX9_makeStatus_53 (by decide) ?_
            exact L135 x1 x2 x3 x4 x5 x6 σ9 _ _ ls hH (lv_sub hl [0, 1, 2, 3, 4, 5, 6] rfl) h
  unfold wpX9_makeStatus at h
  refine lv_iconst (v := 2) hx hb dX9_makeStatus_0 (by decide) ?_
  refine lv_istore_n (lv' := [(3, .int 2), (0, .ref (ga G 0)), (1, .int x1), (2, .int x2)]) hx hb dX9_makeStatus_1 rfl hl (by decide) rfl (fun ls hl => ?_)
  refine lv_iconst (v := 0) hx hb dX9_makeStatus_2 (by decide) ?_
  refine lv_istore (lv' := [(4, .int 0), (3, .int 2), (0, .ref (ga G 0)), (1, .int x1), (2, .int x2)]) hx hb dX9_makeStatus_3 hl (by decide) rfl (fun ls hl => ?_)
  refine lv_aload_n hx hb dX9_makeStatus_5 rfl (lv_at hl 2 rfl) ?_
  refine g_getr hx hb hB inB9 hown hK hH (c0 := 0) h0.1 rfl 44 (by decide) k113 rfl (c1 := 35) rfl dX9_makeStatus_6 ?_
  refine lv_iload_n hx hb dX9_makeStatus_9 rfl (lv_at hl 3 rfl) ?_
  obtain ⟨hi1, h⟩ := h
  refine g_iald hx hb hK hH (c0 := 35) (mA35 h0) hi1 dX9_makeStatus_10 ?_
  refine lv_topi (fun x5_2 ex5_2 => ?_)
  replace h := h x5_2 ex5_2
  refine lv_istore (lv' := [(5, .int x5_2), (4, .int 0), (3, .int 2), (0, .ref (ga G 0)), (1, .int x1), (2, .int x2)]) hx hb dX9_makeStatus_11 hl (by decide) rfl (fun ls hl => ?_)
  refine lv_aload_n hx hb dX9_makeStatus_13 rfl (lv_at hl 3 rfl) ?_
  refine g_getr hx hb hB inB9 hown hK hH (c0 := 0) h0.1 rfl 42 (by decide) k107 rfl (c1 := 33) rfl dX9_makeStatus_14 ?_
  refine lv_iload_n hx hb dX9_makeStatus_17 rfl (lv_at hl 4 rfl) ?_
  obtain ⟨hi3, h⟩ := h
  refine g_iald hx hb hK hH (c0 := 33) (mA33 h0) hi3 dX9_makeStatus_18 ?_
  refine lv_topi (fun x6_4 ex6_4 => ?_)
  replace h := h x6_4 ex6_4
  refine lv_istore (lv' := [(6, .int x6_4), (5, .int x5_2), (4, .int 0), (3, .int 2), (0, .ref (ga G 0)), (1, .int x1), (2, .int x2)]) hx hb dX9_makeStatus_19 hl (by decide) rfl (fun ls hl => ?_)
  obtain ⟨nn, h⟩ := h
  exact L21 nn x1 x2 2 0 x5_2 x6_4 σ _ _ ls hH (lv_sub hl [4, 5, 6, 3, 2, 1, 0] rfl) h
def wpX9_data_L431 (Q : Int32 → Sg → Prop) : Nat → Int32 → Int32 → Int32 → Int32 → Sg → Prop
  | 0, _, _, _, _, _ => False
  | n + 1, x4, x6, x10, x12, σ => ((x4 ≤ x12 → Q x10 σ) ∧ (¬ (x4 ≤ x12) → ∀ x10_53 : Int32, x10_53 = x10 + 1 → (vp_in ((240 * x6) + x12) 23040 ∧ (vp_in x10 250 ∧ ∀ σ55 : Sg, σ55 = up2 σ 66 x10.toNatClampNeg (σ 27 ((240 * x6) + x12).toNatClampNeg) → ∀ x12_56 : Int32, x12_56 = x12 + 1 → (wpX9_data_L431 Q n) x4 x6 x10_53 x12_56 σ55))))
def wpX9_data_L422 (Q : Int32 → Sg → Prop) (K354 : Int32 → Int32 → Int32 → Int32 → Int32 → Int32 → Int32 → Sg → Prop) (x3 : Int32) (x4 : Int32) (x6 : Int32) (x9 : Int32) (x10 : Int32) (x11 : Int32) (x12 : Int32) (σ : Sg) : Prop := ∀ x12_59 : Int32, x12_59 = x12 + 1 → K354 x3 x4 x6 x9 x10 x11 x12_59 σ
def wpX9_data_L414 (Q : Int32 → Sg → Prop) (K354 : Int32 → Int32 → Int32 → Int32 → Int32 → Int32 → Int32 → Sg → Prop) (x3 : Int32) (x4 : Int32) (x6 : Int32) (x9 : Int32) (x10 : Int32) (x12 : Int32) (z0 : Int32) (z1 : Int32) (z2 : Int32) (y3 : Nat) (σ : Sg) : Prop := (vp_in z2 250 ∧ ∀ σ57 : Sg, σ57 = up2 σ y3 z2.toNatClampNeg (z1 + z0) → ∀ x11_58 : Int32, x11_58 = x12 + 1 → wpX9_data_L422 Q K354 x3 x4 x6 x9 x10 x11_58 x12 σ57)
def wpX9_data_L354 (Q : Int32 → Sg → Prop) : Nat → Int32 → Int32 → Int32 → Int32 → Int32 → Int32 → Int32 → Sg → Prop
  | 0, _, _, _, _, _, _, _, _ => False
  | n + 1, x3, x4, x6, x9, x10, x11, x12, σ => ((x4 ≤ (x12 + 1) → ∃ nn, wpX9_data_L431 Q nn x4 x6 x10 x3 σ) ∧ (¬ (x4 ≤ (x12 + 1)) → (vp_in ((240 * x6) + x12) 23040 ∧ ((¬ (σ 31 ((240 * x6) + x12).toNatClampNeg) = 0 → ∀ x9_49 : Int32, x9_49 = x9 + (-1) → ∀ x10_50 : Int32, x10_50 = x10 + 1 → ((x9_49 ≤ 0 → wpX9_data_L414 Q (wpX9_data_L354 Q n) x3 x4 x6 x9_49 x10_50 x12 0 ((x12 + 1) - x11) x10 66 σ) ∧ (¬ (x9_49 ≤ 0) → wpX9_data_L414 Q (wpX9_data_L354 Q n) x3 x4 x6 x9_49 x10_50 x12 128 ((x12 + 1) - x11) x10 66 σ))) ∧ ((σ 31 ((240 * x6) + x12).toNatClampNeg) = 0 → wpX9_data_L422 Q (wpX9_data_L354 Q n) x3 x4 x6 x9 x10 x11 x12 σ)))))
def wpX9_data_L348 (Q : Int32 → Sg → Prop) (x3 : Int32) (x4 : Int32) (x6 : Int32) (x9 : Int32) (x10 : Int32) (σ : Sg) : Prop := ∃ nn, wpX9_data_L354 Q nn x3 x4 x6 x9 x10 x3 x3 σ
def wpX9_data_L330 (Q : Int32 → Sg → Prop) (x3 : Int32) (x4 : Int32) (x5 : Int32) (x6 : Int32) (x9 : Int32) (x10 : Int32) (z0 : Int32) (z1 : Int32) (z2 : Int32) (y3 : Nat) (σ : Sg) : Prop := (vp_in z2 250 ∧ ∀ σ42 : Sg, σ42 = up2 σ y3 z2.toNatClampNeg (z1 + z0) → ((x5 = 0 → wpX9_data_L348 Q x3 x4 x6 x9 x10 σ42) ∧ (¬ (x5 = 0) → ∀ x10_44 : Int32, x10_44 = x10 + 1 → (vp_in x10 250 ∧ ∀ σ45 : Sg, σ45 = up2 σ42 66 x10.toNatClampNeg x3 → wpX9_data_L348 Q x3 x4 x6 x9 x10_44 σ45))))
def wpX9_data_L329 (Q : Int32 → Sg → Prop) (x3 : Int32) (x4 : Int32) (x5 : Int32) (x6 : Int32) (x9 : Int32) (x10 : Int32) (z0 : Int32) (z1 : Int32) (y2 : Nat) (σ : Sg) : Prop := wpX9_data_L330 Q x3 x4 x5 x6 x9 x10 0 z0 z1 y2 σ
def wpX9_data_L291 (Q : Int32 → Sg → Prop) (x2 : Int32) (x3 : Int32) (x4 : Int32) (x5 : Int32) (x6 : Int32) (x9 : Int32) (x10 : Int32) (z0 : Int32) (z1 : Int32) (z2 : Int32) (y3 : Nat) (σ : Sg) : Prop := (vp_in z2 250 ∧ ∀ σ37 : Sg, σ37 = up2 σ y3 z2.toNatClampNeg (z1 + z0) → ∀ x10_38 : Int32, x10_38 = x10 + 1 → ((x5 = 0 → wpX9_data_L329 Q x3 x4 x5 x6 x9 x10_38 (x2 &&& 63) x10 66 σ37) ∧ (¬ (x5 = 0) → (vp_in x6 96 ∧ ((¬ x4 = (σ37 25 x6.toNatClampNeg) → wpX9_data_L329 Q x3 x4 x5 x6 x9 x10_38 (x2 &&& 63) x10 66 σ37) ∧ (x4 = (σ37 25 x6.toNatClampNeg) → wpX9_data_L330 Q x3 x4 x5 x6 x9 x10_38 128 (x2 &&& 63) x10 66 σ37))))))
def wpX9_data_L280 (Q : Int32 → Sg → Prop) (x2 : Int32) (x3 : Int32) (x4 : Int32) (x5 : Int32) (x6 : Int32) (x9 : Int32) (x10 : Int32) (z0 : Int32) (z1 : Int32) (z2 : Int32) (y3 : Nat) (σ : Sg) : Prop := ((x9 ≤ 0 → wpX9_data_L291 Q x2 x3 x4 x5 x6 x9 x10 0 (z1 + z0) z2 y3 σ) ∧ (¬ (x9 ≤ 0) → wpX9_data_L291 Q x2 x3 x4 x5 x6 x9 x10 4 (z1 + z0) z2 y3 σ))
def wpX9_data_L254 (Q : Int32 → Sg → Prop) (x2 : Int32) (x3 : Int32) (x4 : Int32) (x5 : Int32) (x6 : Int32) (x9 : Int32) (x10 : Int32) (z0 : Int32) (z1 : Int32) (z2 : Int32) (y3 : Nat) (σ : Sg) : Prop := (vp_in (((240 * x6) + x4) - 1) 23040 ∧ (((σ 31 (((240 * x6) + x4) - 1).toNatClampNeg) = 0 → wpX9_data_L280 Q x2 x3 x4 x5 x6 x9 x10 8 (z1 + z0) z2 y3 σ) ∧ (¬ ((σ 31 (((240 * x6) + x4) - 1).toNatClampNeg) = 0) → wpX9_data_L280 Q x2 x3 x4 x5 x6 x9 x10 0 (z1 + z0) z2 y3 σ)))
def wpX9_data_L231 (Q : Int32 → Sg → Prop) (x2 : Int32) (x3 : Int32) (x4 : Int32) (x5 : Int32) (x6 : Int32) (x9 : Int32) (x10 : Int32) (z0 : Int32) (z1 : Int32) (z2 : Int32) (y3 : Nat) (σ : Sg) : Prop := (vp_in ((240 * x6) + x3) 23040 ∧ (((σ 30 ((240 * x6) + x3).toNatClampNeg) = 0 → wpX9_data_L254 Q x2 x3 x4 x5 x6 x9 x10 16 (z1 + z0) z2 y3 σ) ∧ (¬ ((σ 30 ((240 * x6) + x3).toNatClampNeg) = 0) → wpX9_data_L254 Q x2 x3 x4 x5 x6 x9 x10 0 (z1 + z0) z2 y3 σ)))
def wpX9_data_L219 (Q : Int32 → Sg → Prop) (x2 : Int32) (x3 : Int32) (x4 : Int32) (x5 : Int32) (x6 : Int32) (x8 : Int32) (x9 : Int32) (x10 : Int32) (z0 : Int32) (z1 : Int32) (z2 : Int32) (y3 : Nat) (σ : Sg) : Prop := ((x8 = 0 → wpX9_data_L231 Q x2 x3 x4 x5 x6 x9 x10 0 (z1 + z0) z2 y3 σ) ∧ (¬ (x8 = 0) → wpX9_data_L231 Q x2 x3 x4 x5 x6 x9 x10 32 (z1 + z0) z2 y3 σ))
def wpX9_data_L184 (Q : Int32 → Sg → Prop) (K151 : Int32 → Int32 → Int32 → Int32 → Int32 → Int32 → Int32 → Int32 → Sg → Prop) (x2 : Int32) (x3 : Int32) (x4 : Int32) (x5 : Int32) (x6 : Int32) (x8 : Int32) (x10 : Int32) (z0 : Int32) (z1 : Int32) (σ : Sg) : Prop := ∀ x9_30 : Int32, x9_30 = z1 + z0 → ∀ x10_31 : Int32, x10_31 = x10 + 1 → K151 x2 x3 x4 x5 x6 x8 x9_30 x10_31 σ
def wpX9_data_L151 (Q : Int32 → Sg → Prop) : Nat → Int32 → Int32 → Int32 → Int32 → Int32 → Int32 → Int32 → Int32 → Sg → Prop
  | 0, _, _, _, _, _, _, _, _, _ => False
  | n + 1, x2, x3, x4, x5, x6, x8, x9, x10, σ => ((x4 ≤ (x10 + 1) → ∀ x10_25 : Int32, x10_25 = 0 + 1 → ((x5 = 0 → wpX9_data_L219 Q x2 x3 x4 x5 x6 x8 x9 x10_25 0 128 0 66 σ) ∧ (¬ (x5 = 0) → wpX9_data_L219 Q x2 x3 x4 x5 x6 x8 x9 x10_25 64 128 0 66 σ))) ∧ (¬ (x4 ≤ (x10 + 1)) → (vp_in ((240 * x6) + x10) 23040 ∧ (((σ 31 ((240 * x6) + x10).toNatClampNeg) = 0 → wpX9_data_L184 Q (wpX9_data_L151 Q n) x2 x3 x4 x5 x6 x8 x10 0 x9 σ) ∧ (¬ ((σ 31 ((240 * x6) + x10).toNatClampNeg) = 0) → wpX9_data_L184 Q (wpX9_data_L151 Q n) x2 x3 x4 x5 x6 x8 x10 1 x9 σ)))))
def wpX9_data_L145 (Q : Int32 → Sg → Prop) (x2 : Int32) (x3 : Int32) (x4 : Int32) (x5 : Int32) (x6 : Int32) (x8 : Int32) (σ : Sg) : Prop := ∃ nn, wpX9_data_L151 Q nn x2 x3 x4 x5 x6 x8 0 x3 σ
def wpX9_data_L82 (Q : Int32 → Sg → Prop) (x1 : Int32) (x2 : Int32) (x3 : Int32) (x4 : Int32) (x5 : Int32) (x6 : Int32) (z0 : Int32) (σ : Sg) : Prop := (vp_in x1 6 ∧ (vp_in x1 6 ∧ ∀ σ15 : Sg, σ15 = up2 σ 9 x1.toNatClampNeg ((σ 9 x1.toNatClampNeg) + 1) → (vp_in x1 6 ∧ (vp_in x1 6 ∧ ∀ σ17 : Sg, σ17 = up2 σ15 7 x1.toNatClampNeg ((σ15 7 x1.toNatClampNeg) + 1) → ((z0 = 0 → wpX9_data_L145 Q x2 x3 x4 x5 x6 z0 σ17) ∧ (¬ (z0 = 0) → (vp_in x1 6 ∧ ∀ σ19 : Sg, σ19 = up2 σ17 7 x1.toNatClampNeg 0 → (vp_in x1 6 ∧ ∀ σ20 : Sg, σ20 = up2 σ19 12 x1.toNatClampNeg 0 → (vp_in x1 6 ∧ (vp_in x1 6 ∧ ∀ σ22 : Sg, σ22 = up2 σ20 6 x1.toNatClampNeg ((σ20 4 x1.toNatClampNeg) - 1) → (vp_in x1 6 ∧ ∀ σ23 : Sg, σ23 = up2 σ22 5 x1.toNatClampNeg 10 → wpX9_data_L145 Q x2 x3 x4 x5 x6 z0 σ23)))))))))))
def wpX9_data_L77 (Q : Int32 → Sg → Prop) (x1 : Int32) (x2 : Int32) (x3 : Int32) (x4 : Int32) (x5 : Int32) (x6 : Int32) (σ : Sg) : Prop := wpX9_data_L82 Q x1 x2 x3 x4 x5 x6 1 σ
def wpX9_data_L33 (Q : Int32 → Sg → Prop) (x1 : Int32) (x2 : Int32) (x3 : Int32) (x4 : Int32) (x5 : Int32) (x6 : Int32) (z0 : Int32) (σ : Sg) : Prop := (vp_in x1 6 ∧ ((¬ (σ 12 x1.toNatClampNeg) = 0 → wpX9_data_L77 Q x1 x2 x3 x4 x5 x6 σ) ∧ ((σ 12 x1.toNatClampNeg) = 0 → (vp_in x1 6 ∧ ((3 ≤ (σ 7 x1.toNatClampNeg) → wpX9_data_L77 Q x1 x2 x3 x4 x5 x6 σ) ∧ (¬ (3 ≤ (σ 7 x1.toNatClampNeg)) → ((¬ z0 = 0 → wpX9_data_L77 Q x1 x2 x3 x4 x5 x6 σ) ∧ (z0 = 0 → (vp_in x1 6 ∧ (vp_in x1 6 ∧ ((¬ ((σ 4 x1.toNatClampNeg) - (σ 3 x1.toNatClampNeg)) = 16 → wpX9_data_L82 Q x1 x2 x3 x4 x5 x6 0 σ) ∧ (((σ 4 x1.toNatClampNeg) - (σ 3 x1.toNatClampNeg)) = 16 → wpX9_data_L77 Q x1 x2 x3 x4 x5 x6 σ))))))))))))
def wpX9_data_L32 (Q : Int32 → Sg → Prop) (x1 : Int32) (x2 : Int32) (x3 : Int32) (x4 : Int32) (x5 : Int32) (x6 : Int32) (σ : Sg) : Prop := wpX9_data_L33 Q x1 x2 x3 x4 x5 x6 0 σ
def wpX9_data (x1 : Int32) (x2 : Int32) (x3 : Int32) (x4 : Int32) (x5 : Int32) (σ : Sg) (Q : Int32 → Sg → Prop) : Prop := ∀ x6_1 : Int32, x6_1 = (16 * x1) + (x2 &&& 15) → (vp_in x1 6 ∧ ((¬ (σ 22 x1.toNatClampNeg) = 0 → wpX9_data_L32 Q x1 x2 x3 x4 x5 x6_1 σ) ∧ ((σ 22 x1.toNatClampNeg) = 0 → wpX9_allAgain x1 σ (fun r4 σ4 => ((¬ r4 = 0 → wpX9_data_L32 Q x1 x2 x3 x4 x5 x6_1 σ4) ∧ (r4 = 0 → wpX9_data_L33 Q x1 x2 x3 x4 x5 x6_1 1 σ4))))))
set_option maxHeartbeats 8000000 in
set_option maxRecDepth 100000 in
theorem tX9_data {l : Launch} {G : GG} {x1 : Int32} {x2 : Int32} {x3 : Int32} {x4 : Int32} {x5 : Int32} {σ : Sg} {Q : Int32 → Sg → Prop} (h0 : isModel G) (h : wpX9_data x1 x2 x3 x4 x5 σ Q) : Ki l G yX9_data (wB yX9_data prog_11_method_23_code 13 (Option.some FieldType.int)) ({ frames := 2, cells := 0, slots := 0, locals := 48 }) [.ref (ga G 0), .int x1, .int x2, .int x3, .int x4, .int x5] σ Q := by
  refine K_of (cc := cX9_data) (maxL := 13) (ret := (some .int)) (by decide) rfl (Nat.le_of_ble_eq_true rfl) ?_
  intro p e s m args below meth c ls B hH hl
  obtain ⟨hx, hb, hr, hts, hown, hlk, hml, hK, hX⟩ := B
  replace hl : lv_has ls 13 [(0, .ref (ga G 0)), (1, .int x1), (2, .int x2), (3, .int x3), (4, .int x4), (5, .int x5)] := hl
  have hB : ∀ w ∈ BIG, w.before args s = true := fun w h9 => hts w (List.mem_cons_of_mem _ h9)
  clear hts
  have k16 := hB _ bw4_122
  have k19 := hB _ bw4_123
  have k22 := hB _ bw4_124
  have k25 := hB _ bw4_125
  have k28 := hB _ bw4_126
  have k34 := hB _ bw4_128
  have k43 := hB _ bw4_131
  have k74 := hB _ bw4_141
  have k83 := hB _ bw4_144
  have k89 := hB _ bw4_146
  have k98 := hB _ bw4_149
  have k101 := hB _ bw4_150
  have k207 := hB _ bw4_185
  have L431 : ∀ (n431 : Nat) (x4 : Int32) (x6 : Int32) (x10 : Int32) (x12 : Int32) (σ : Sg) (H : Heap) (locs : List Loc) (ls : Array Slot), Hx G (aA G s.heap.size) s σ H locs → lv_has ls 13 [(0, .ref (ga G 0)), (4, .int x4), (6, .int x6), (10, .int x10), (12, .int x12)] → wpX9_data_L431 Q n431 x4 x6 x10 x12 σ → W p l e ({ frames := 2, cells := 0, slots := 0, locals := 48 }) s m args below meth c H locs 0 0 (Zi G Q below args s) (F0 m 431 ls []) := by
    intro n431
    induction n431 with
    | zero =>
      intro x4 x6 x10 x12 σ H locs ls hH hl h
      exact False.elim h
    | succ n431 ih431 =>
      intro x4 x6 x10 x12 σ H locs ls hH hl h
      unfold wpX9_data_L431 at h
      refine lv_iload hx hb dX9_data_431 (lv_at hl 4 rfl) ?_
      refine lv_iload hx hb dX9_data_433 (lv_at hl 1 rfl) ?_
      refine lv_icmp_ge (tgt := 468) hx hb dX9_data_435 (by decide) (fun q52 => ?_) (fun q52 => ?_)
      · replace h := h.1 q52
        refine lv_iload hx hb dX9_data_468 (lv_at hl 3 rfl) ?_
        exact g_iret hx hb hr hK hlk h hH dX9_data_470
      · replace h := h.2 q52
        refine lv_aload_n hx hb dX9_data_438 rfl (lv_at hl 0 rfl) ?_
        refine g_getr hx hb hB inB9 hown hK hH (c0 := 0) h0.1 rfl 75 (by decide) k207 rfl (c1 := 66) rfl dX9_data_439 ?_
        refine lv_iload hx hb dX9_data_442 (lv_at hl 3 rfl) ?_
        obtain ⟨x10_53, ex10_53⟩ : ∃ y : Int32, y = x10 + 1 := ⟨_, rfl⟩
        replace h := h x10_53 ex10_53
        refine lv_iinc (v := x10_53) (lv' := [(10, .int x10_53), (0, .ref (ga G 0)), (4, .int x4), (6, .int x6), (12, .int x12)]) hx hb dX9_data_444 hl (k := 3) rfl (by rw [ex10_53]; rfl) (by decide) rfl (fun ls hl => ?_)
        refine lv_aload_n hx hb dX9_data_447 rfl (lv_at hl 1 rfl) ?_
        refine g_getr hx hb hB inB9 hown hK hH (c0 := 0) h0.1 rfl 36 (by decide) k89 rfl (c1 := 27) rfl dX9_data_448 ?_
        refine lv_sipush (v := 240) hx hb dX9_data_451 (by decide) ?_
        refine lv_iload hx hb dX9_data_454 (lv_at hl 3 rfl) ?_
        refine lv_imul hx hb dX9_data_456 ?_
        refine lv_iload hx hb dX9_data_457 (lv_at hl 4 rfl) ?_
        refine lv_iadd hx hb dX9_data_459 ?_
        obtain ⟨hi54, h⟩ := h
        refine g_iald hx hb hK hH (c0 := 27) (mA27 h0) hi54 dX9_data_460 ?_
        obtain ⟨hi55, h⟩ := h
        refine g_iast hx hb hK hH (c0 := 66) (i := x10) (mA66 h0) hi55 dX9_data_461 (fun σ55 eσ55 H locs hH => ?_)
        replace h := h σ55 eσ55
        obtain ⟨x12_56, ex12_56⟩ : ∃ y : Int32, y = x12 + 1 := ⟨_, rfl⟩
        replace h := h x12_56 ex12_56
        refine lv_iinc (v := x12_56) (lv' := [(12, .int x12_56), (10, .int x10_53), (0, .ref (ga G 0)), (4, .int x4), (6, .int x6)]) hx hb dX9_data_462 hl (k := 4) rfl (by rw [ex12_56]; rfl) (by decide) rfl (fun ls hl => ?_)
        refine lv_goto (tgt := 431) hx hb dX9_data_465 (by decide) ?_
        exact ih431 x4 x6 x10_53 x12_56 σ55 _ _ ls hH (lv_sub hl [2, 3, 4, 1, 0] rfl) h
  have L354 : ∀ (n354 : Nat) (x3 : Int32) (x4 : Int32) (x6 : Int32) (x9 : Int32) (x10 : Int32) (x11 : Int32) (x12 : Int32) (σ : Sg) (H : Heap) (locs : List Loc) (ls : Array Slot), Hx G (aA G s.heap.size) s σ H locs → lv_has ls 13 [(0, .ref (ga G 0)), (3, .int x3), (4, .int x4), (6, .int x6), (9, .int x9), (10, .int x10), (11, .int x11), (12, .int x12)] → wpX9_data_L354 Q n354 x3 x4 x6 x9 x10 x11 x12 σ → W p l e ({ frames := 2, cells := 0, slots := 0, locals := 48 }) s m args below meth c H locs 0 0 (Zi G Q below args s) (F0 m 354 ls []) := by
    intro n354
    induction n354 with
    | zero =>
      intro x3 x4 x6 x9 x10 x11 x12 σ H locs ls hH hl h
      exact False.elim h
    | succ n354 ih354 =>
      have L422 : ∀ (x3 : Int32) (x4 : Int32) (x6 : Int32) (x9 : Int32) (x10 : Int32) (x11 : Int32) (x12 : Int32) (σ : Sg) (H : Heap) (locs : List Loc) (ls : Array Slot), Hx G (aA G s.heap.size) s σ H locs → lv_has ls 13 [(0, .ref (ga G 0)), (3, .int x3), (4, .int x4), (6, .int x6), (9, .int x9), (10, .int x10), (11, .int x11), (12, .int x12)] → wpX9_data_L422 Q (wpX9_data_L354 Q n354) x3 x4 x6 x9 x10 x11 x12 σ → W p l e ({ frames := 2, cells := 0, slots := 0, locals := 48 }) s m args below meth c H locs 0 0 (Zi G Q below args s) (F0 m 422 ls []) := by
        intro x3 x4 x6 x9 x10 x11 x12 σ H locs ls hH hl h
        unfold wpX9_data_L422 at h
        obtain ⟨x12_59, ex12_59⟩ : ∃ y : Int32, y = x12 + 1 := ⟨_, rfl⟩
        replace h := h x12_59 ex12_59
        refine lv_iinc (v := x12_59) (lv' := [(12, .int x12_59), (0, .ref (ga G 0)), (3, .int x3), (4, .int x4), (6, .int x6), (9, .int x9), (10, .int x10), (11, .int x11)]) hx hb dX9_data_422 hl (k := 7) rfl (by rw [ex12_59]; rfl) (by decide) rfl (fun ls hl => ?_)
        refine lv_goto (tgt := 354) hx hb dX9_data_425 (by decide) ?_
        exact ih354 x3 x4 x6 x9 x10 x11 x12_59 σ _ _ ls hH (lv_sub hl [1, 2, 3, 4, 5, 6, 7, 0] rfl) h
      have L414 : ∀ (x3 : Int32) (x4 : Int32) (x6 : Int32) (x9 : Int32) (x10 : Int32) (x12 : Int32) (z0 : Int32) (z1 : Int32) (z2 : Int32) (y3 : Nat) (hy3 : isI G 250 y3) (σ : Sg) (H : Heap) (locs : List Loc) (ls : Array Slot), Hx G (aA G s.heap.size) s σ H locs → lv_has ls 13 [(0, .ref (ga G 0)), (3, .int x3), (4, .int x4), (6, .int x6), (9, .int x9), (10, .int x10), (12, .int x12)] → wpX9_data_L414 Q (wpX9_data_L354 Q n354) x3 x4 x6 x9 x10 x12 z0 z1 z2 y3 σ → W p l e ({ frames := 2, cells := 0, slots := 0, locals := 48 }) s m args below meth c H locs 0 0 (Zi G Q below args s) (F0 m 414 ls [.int z0, .int z1, .int z2, .ref (ga G y3)]) := by
        intro x3 x4 x6 x9 x10 x12 z0 z1 z2 y3 hy3 σ H locs ls hH hl h
        unfold wpX9_data_L414 at h
        refine lv_iadd hx hb dX9_data_414 ?_
        obtain ⟨hi57, h⟩ := h
        refine g_iast hx hb hK hH (c0 := y3) (i := z2) hy3 hi57 dX9_data_415 (fun σ57 eσ57 H locs hH => ?_)
        replace h := h σ57 eσ57
        refine lv_iload hx hb dX9_data_416 (lv_at hl 6 rfl) ?_
        refine lv_iconst (v := 1) hx hb dX9_data_418 (by decide) ?_
        refine lv_iadd hx hb dX9_data_419 ?_
        refine lv_topi (fun x11_58 ex11_58 => ?_)
        replace h := h x11_58 ex11_58
        refine lv_istore (lv' := [(11, .int x11_58), (0, .ref (ga G 0)), (3, .int x3), (4, .int x4), (6, .int x6), (9, .int x9), (10, .int x10), (12, .int x12)]) hx hb dX9_data_420 hl (by decide) rfl (fun ls hl => ?_)
        exact L422 x3 x4 x6 x9 x10 x11_58 x12 σ57 _ _ ls hH (lv_sub hl [1, 2, 3, 4, 5, 6, 0, 7] rfl) h
      intro x3 x4 x6 x9 x10 x11 x12 σ H locs ls hH hl h
      unfold wpX9_data_L354 at h
      refine lv_iload hx hb dX9_data_354 (lv_at hl 7 rfl) ?_
      refine lv_iconst (v := 1) hx hb dX9_data_356 (by decide) ?_
      refine lv_iadd hx hb dX9_data_357 ?_
      refine lv_iload hx hb dX9_data_358 (lv_at hl 2 rfl) ?_
      refine lv_icmp_ge (tgt := 428) hx hb dX9_data_360 (by decide) (fun q46 => ?_) (fun q46 => ?_)
      · replace h := h.1 q46
        refine lv_iload_n hx hb dX9_data_428 rfl (lv_at hl 1 rfl) ?_
        refine lv_istore (lv' := [(12, .int x3), (0, .ref (ga G 0)), (3, .int x3), (4, .int x4), (6, .int x6), (9, .int x9), (10, .int x10), (11, .int x11)]) hx hb dX9_data_429 hl (by decide) rfl (fun ls hl => ?_)
        obtain ⟨nn, h⟩ := h
        exact L431 nn x4 x6 x10 x3 σ _ _ ls hH (lv_sub hl [1, 3, 4, 6, 0] rfl) h
      · replace h := h.2 q46
        refine lv_aload_n hx hb dX9_data_363 rfl (lv_at hl 0 rfl) ?_
        refine g_getr hx hb hB inB9 hown hK hH (c0 := 0) h0.1 rfl 40 (by decide) k101 rfl (c1 := 31) rfl dX9_data_364 ?_
        refine lv_sipush (v := 240) hx hb dX9_data_367 (by decide) ?_
        refine lv_iload hx hb dX9_data_370 (lv_at hl 3 rfl) ?_
        refine lv_imul hx hb dX9_data_372 ?_
        refine lv_iload hx hb dX9_data_373 (lv_at hl 7 rfl) ?_
        refine lv_iadd hx hb dX9_data_375 ?_
        obtain ⟨hi47, h⟩ := h
        refine g_zald hx hb hK hH (c0 := 31) (mA31 h0) hi47 dX9_data_376 ?_
        refine lv_if_ne (tgt := 383) hx hb dX9_data_377 (by decide) (fun q48 => ?_) (fun q48 => ?_)
        · replace h := h.1 q48
          obtain ⟨x9_49, ex9_49⟩ : ∃ y : Int32, y = x9 + (-1) := ⟨_, rfl⟩
          replace h := h x9_49 ex9_49
          refine lv_iinc (v := x9_49) (lv' := [(9, .int x9_49), (0, .ref (ga G 0)), (3, .int x3), (4, .int x4), (6, .int x6), (10, .int x10), (11, .int x11), (12, .int x12)]) hx hb dX9_data_383 hl (k := 4) rfl (by rw [ex9_49]; rfl) (by decide) rfl (fun ls hl => ?_)
          refine lv_aload_n hx hb dX9_data_386 rfl (lv_at hl 1 rfl) ?_
          refine g_getr hx hb hB inB9 hown hK hH (c0 := 0) h0.1 rfl 75 (by decide) k207 rfl (c1 := 66) rfl dX9_data_387 ?_
          refine lv_iload hx hb dX9_data_390 (lv_at hl 5 rfl) ?_
          obtain ⟨x10_50, ex10_50⟩ : ∃ y : Int32, y = x10 + 1 := ⟨_, rfl⟩
          replace h := h x10_50 ex10_50
          refine lv_iinc (v := x10_50) (lv' := [(10, .int x10_50), (9, .int x9_49), (0, .ref (ga G 0)), (3, .int x3), (4, .int x4), (6, .int x6), (11, .int x11), (12, .int x12)]) hx hb dX9_data_392 hl (k := 5) rfl (by rw [ex10_50]; rfl) (by decide) rfl (fun ls hl => ?_)
          refine lv_iload hx hb dX9_data_395 (lv_at hl 7 rfl) ?_
          refine lv_iconst (v := 1) hx hb dX9_data_397 (by decide) ?_
          refine lv_iadd hx hb dX9_data_398 ?_
          refine lv_iload hx hb dX9_data_399 (lv_at hl 6 rfl) ?_
          refine lv_isub hx hb dX9_data_401 ?_
          refine lv_iload hx hb dX9_data_402 (lv_at hl 1 rfl) ?_
          refine lv_if_le (tgt := 413) hx hb dX9_data_404 (by decide) (fun q51 => ?_) (fun q51 => ?_)
          · replace h := h.1 q51
            refine lv_iconst (v := 0) hx hb dX9_data_413 (by decide) ?_
            exact L414 x3 x4 x6 x9_49 x10_50 x12 0 ((x12 + 1) - x11) x10 66 ((mA66 h0)) σ _ _ ls hH (lv_sub hl [2, 3, 4, 5, 1, 0, 7] rfl) h
          · replace h := h.2 q51
            refine lv_sipush (v := 128) hx hb dX9_data_407 (by decide) ?_
            refine lv_goto (tgt := 414) hx hb dX9_data_410 (by decide) ?_
            exact L414 x3 x4 x6 x9_49 x10_50 x12 128 ((x12 + 1) - x11) x10 66 ((mA66 h0)) σ _ _ ls hH (lv_sub hl [2, 3, 4, 5, 1, 0, 7] rfl) h
        · replace h := h.2 q48
          refine lv_goto (tgt := 422) hx hb dX9_data_380 (by decide) ?_
          exact L422 x3 x4 x6 x9 x10 x11 x12 σ _ _ ls hH (lv_sub hl [0, 1, 2, 3, 4, 5, 6, 7] rfl) h
  have L348 : ∀ (x3 : Int32) (x4 : Int32) (x6 : Int32) (x9 : Int32) (x10 : Int32) (σ : Sg) (H : Heap) (locs : List Loc) (ls : Array Slot), Hx G (aA G s.heap.size) s σ H locs → lv_has ls 13 [(0, .ref (ga G 0)), (3, .int x3), (4, .int x4), (6, .int x6), (9, .int x9), (10, .int x10)] → wpX9_data_L348 Q x3 x4 x6 x9 x10 σ → W p l e ({ frames := 2, cells := 0, slots := 0, locals := 48 }) s m args below meth c H locs 0 0 (Zi G Q below args s) (F0 m 348 ls []) := by
    intro x3 x4 x6 x9 x10 σ H locs ls hH hl h
    unfold wpX9_data_L348 at h
    refine lv_iload_n hx hb dX9_data_348 rfl (lv_at hl 1 rfl) ?_
    refine lv_istore (lv' := [(11, .int x3), (0, .ref (ga G 0)), (3, .int x3), (4, .int x4), (6, .int x6), (9, .int x9), (10, .int x10)]) hx hb dX9_data_349 hl (by decide) rfl (fun ls hl => ?_)
    refine lv_iload_n hx hb dX9_data_351 rfl (lv_at hl 2 rfl) ?_
    refine lv_istore (lv' := [(12, .int x3), (11, .int x3), (0, .ref (ga G 0)), (3, .int x3), (4, .int x4), (6, .int x6), (9, .int x9), (10, .int x10)]) hx hb dX9_data_352 hl (by decide) rfl (fun ls hl => ?_)
    obtain ⟨nn, h⟩ := h
    exact L354 nn x3 x4 x6 x9 x10 x3 x3 σ _ _ ls hH (lv_sub hl [2, 3, 4, 5, 6, 7, 1, 0] rfl) h
  have L330 : ∀ (x3 : Int32) (x4 : Int32) (x5 : Int32) (x6 : Int32) (x9 : Int32) (x10 : Int32) (z0 : Int32) (z1 : Int32) (z2 : Int32) (y3 : Nat) (hy3 : isI G 250 y3) (σ : Sg) (H : Heap) (locs : List Loc) (ls : Array Slot), Hx G (aA G s.heap.size) s σ H locs → lv_has ls 13 [(0, .ref (ga G 0)), (3, .int x3), (4, .int x4), (5, .int x5), (6, .int x6), (9, .int x9), (10, .int x10)] → wpX9_data_L330 Q x3 x4 x5 x6 x9 x10 z0 z1 z2 y3 σ → W p l e ({ frames := 2, cells := 0, slots := 0, locals := 48 }) s m args below meth c H locs 0 0 (Zi G Q below args s) (F0 m 330 ls [.int z0, .int z1, .int z2, .ref (ga G y3)]) := by
    intro x3 x4 x5 x6 x9 x10 z0 z1 z2 y3 hy3 σ H locs ls hH hl h
    unfold wpX9_data_L330 at h
    refine lv_iadd hx hb dX9_data_330 ?_
    obtain ⟨hi42, h⟩ := h
    refine g_iast hx hb hK hH (c0 := y3) (i := z2) hy3 hi42 dX9_data_331 (fun σ42 eσ42 H locs hH => ?_)
    replace h := h σ42 eσ42
    refine lv_iload hx hb dX9_data_332 (lv_at hl 3 rfl) ?_
    refine lv_if_eq (tgt := 348) hx hb dX9_data_334 (by decide) (fun q43 => ?_) (fun q43 => ?_)
    · replace h := h.1 q43
      exact L348 x3 x4 x6 x9 x10 σ42 _ _ ls hH (lv_sub hl [0, 1, 2, 4, 5, 6] rfl) h
    · replace h := h.2 q43
      refine lv_aload_n hx hb dX9_data_337 rfl (lv_at hl 0 rfl) ?_
      refine g_getr hx hb hB inB9 hown hK hH (c0 := 0) h0.1 rfl 75 (by decide) k207 rfl (c1 := 66) rfl dX9_data_338 ?_
      refine lv_iload hx hb dX9_data_341 (lv_at hl 6 rfl) ?_
      obtain ⟨x10_44, ex10_44⟩ : ∃ y : Int32, y = x10 + 1 := ⟨_, rfl⟩
      replace h := h x10_44 ex10_44
      refine lv_iinc (v := x10_44) (lv' := [(10, .int x10_44), (0, .ref (ga G 0)), (3, .int x3), (4, .int x4), (5, .int x5), (6, .int x6), (9, .int x9)]) hx hb dX9_data_343 hl (k := 6) rfl (by rw [ex10_44]; rfl) (by decide) rfl (fun ls hl => ?_)
      refine lv_iload_n hx hb dX9_data_346 rfl (lv_at hl 2 rfl) ?_
      obtain ⟨hi45, h⟩ := h
      refine g_iast hx hb hK hH (c0 := 66) (i := x10) (mA66 h0) hi45 dX9_data_347 (fun σ45 eσ45 H locs hH => ?_)
      replace h := h σ45 eσ45
      exact L348 x3 x4 x6 x9 x10_44 σ45 _ _ ls hH (lv_sub hl [1, 2, 3, 5, 6, 0] rfl) h
  have L329 : ∀ (x3 : Int32) (x4 : Int32) (x5 : Int32) (x6 : Int32) (x9 : Int32) (x10 : Int32) (z0 : Int32) (z1 : Int32) (y2 : Nat) (hy2 : isI G 250 y2) (σ : Sg) (H : Heap) (locs : List Loc) (ls : Array Slot), Hx G (aA G s.heap.size) s σ H locs → lv_has ls 13 [(0, .ref (ga G 0)), (3, .int x3), (4, .int x4), (5, .int x5), (6, .int x6), (9, .int x9), (10, .int x10)] → wpX9_data_L329 Q x3 x4 x5 x6 x9 x10 z0 z1 y2 σ → W p l e ({ frames := 2, cells := 0, slots := 0, locals := 48 }) s m args below meth c H locs 0 0 (Zi G Q below args s) (F0 m 329 ls [.int z0, .int z1, .ref (ga G y2)]) := by
    intro x3 x4 x5 x6 x9 x10 z0 z1 y2 hy2 σ H locs ls hH hl h
    unfold wpX9_data_L329 at h
    refine lv_iconst (v := 0) hx hb dX9_data_329 (by decide) ?_
    exact L330 x3 x4 x5 x6 x9 x10 0 z0 z1 y2 hy2 σ _ _ ls hH (lv_sub hl [0, 1, 2, 3, 4, 5, 6] rfl) h
  have L291 : ∀ (x2 : Int32) (x3 : Int32) (x4 : Int32) (x5 : Int32) (x6 : Int32) (x9 : Int32) (x10 : Int32) (z0 : Int32) (z1 : Int32) (z2 : Int32) (y3 : Nat) (hy3 : isI G 250 y3) (σ : Sg) (H : Heap) (locs : List Loc) (ls : Array Slot), Hx G (aA G s.heap.size) s σ H locs → lv_has ls 13 [(0, .ref (ga G 0)), (2, .int x2), (3, .int x3), (4, .int x4), (5, .int x5), (6, .int x6), (9, .int x9), (10, .int x10)] → wpX9_data_L291 Q x2 x3 x4 x5 x6 x9 x10 z0 z1 z2 y3 σ → W p l e ({ frames := 2, cells := 0, slots := 0, locals := 48 }) s m args below meth c H locs 0 0 (Zi G Q below args s) (F0 m 291 ls [.int z0, .int z1, .int z2, .ref (ga G y3)]) := by
    intro x2 x3 x4 x5 x6 x9 x10 z0 z1 z2 y3 hy3 σ H locs ls hH hl h
    unfold wpX9_data_L291 at h
    refine lv_iadd hx hb dX9_data_291 ?_
    obtain ⟨hi37, h⟩ := h
    refine g_iast hx hb hK hH (c0 := y3) (i := z2) hy3 hi37 dX9_data_292 (fun σ37 eσ37 H locs hH => ?_)
    replace h := h σ37 eσ37
    refine lv_aload_n hx hb dX9_data_293 rfl (lv_at hl 0 rfl) ?_
    refine g_getr hx hb hB inB9 hown hK hH (c0 := 0) h0.1 rfl 75 (by decide) k207 rfl (c1 := 66) rfl dX9_data_294 ?_
    refine lv_iload hx hb dX9_data_297 (lv_at hl 7 rfl) ?_
    obtain ⟨x10_38, ex10_38⟩ : ∃ y : Int32, y = x10 + 1 := ⟨_, rfl⟩
    replace h := h x10_38 ex10_38
    refine lv_iinc (v := x10_38) (lv' := [(10, .int x10_38), (0, .ref (ga G 0)), (2, .int x2), (3, .int x3), (4, .int x4), (5, .int x5), (6, .int x6), (9, .int x9)]) hx hb dX9_data_299 hl (k := 7) rfl (by rw [ex10_38]; rfl) (by decide) rfl (fun ls hl => ?_)
    refine lv_iload_n hx hb dX9_data_302 rfl (lv_at hl 2 rfl) ?_
    refine lv_bipush (v := 63) hx hb dX9_data_303 (by decide) ?_
    refine lv_iand hx hb dX9_data_305 ?_
    refine lv_iload hx hb dX9_data_306 (lv_at hl 5 rfl) ?_
    refine lv_if_eq (tgt := 329) hx hb dX9_data_308 (by decide) (fun q39 => ?_) (fun q39 => ?_)
    · replace h := h.1 q39
      exact L329 x3 x4 x5 x6 x9 x10_38 (x2 &&& 63) x10 66 ((mA66 h0)) σ37 _ _ ls hH (lv_sub hl [1, 3, 4, 5, 6, 7, 0] rfl) h
    · replace h := h.2 q39
      refine lv_iload hx hb dX9_data_311 (lv_at hl 4 rfl) ?_
      refine lv_aload_n hx hb dX9_data_313 rfl (lv_at hl 1 rfl) ?_
      refine g_getr hx hb hB inB9 hown hK hH (c0 := 0) h0.1 rfl 34 (by decide) k83 rfl (c1 := 25) rfl dX9_data_314 ?_
      refine lv_iload hx hb dX9_data_317 (lv_at hl 6 rfl) ?_
      obtain ⟨hi40, h⟩ := h
      refine g_iald hx hb hK hH (c0 := 25) (mA25 h0) hi40 dX9_data_319 ?_
      refine lv_icmp_ne (tgt := 329) hx hb dX9_data_320 (by decide) (fun q41 => ?_) (fun q41 => ?_)
      · replace h := h.1 q41
        exact L329 x3 x4 x5 x6 x9 x10_38 (x2 &&& 63) x10 66 ((mA66 h0)) σ37 _ _ ls hH (lv_sub hl [1, 3, 4, 5, 6, 7, 0] rfl) h
      · replace h := h.2 q41
        refine lv_sipush (v := 128) hx hb dX9_data_323 (by decide) ?_
        refine lv_goto (tgt := 330) hx hb dX9_data_326 (by decide) ?_
        exact L330 x3 x4 x5 x6 x9 x10_38 128 (x2 &&& 63) x10 66 ((mA66 h0)) σ37 _ _ ls hH (lv_sub hl [1, 3, 4, 5, 6, 7, 0] rfl) h
  have L280 : ∀ (x2 : Int32) (x3 : Int32) (x4 : Int32) (x5 : Int32) (x6 : Int32) (x9 : Int32) (x10 : Int32) (z0 : Int32) (z1 : Int32) (z2 : Int32) (y3 : Nat) (hy3 : isI G 250 y3) (σ : Sg) (H : Heap) (locs : List Loc) (ls : Array Slot), Hx G (aA G s.heap.size) s σ H locs → lv_has ls 13 [(0, .ref (ga G 0)), (2, .int x2), (3, .int x3), (4, .int x4), (5, .int x5), (6, .int x6), (9, .int x9), (10, .int x10)] → wpX9_data_L280 Q x2 x3 x4 x5 x6 x9 x10 z0 z1 z2 y3 σ → W p l e ({ frames := 2, cells := 0, slots := 0, locals := 48 }) s m args below meth c H locs 0 0 (Zi G Q below args s) (F0 m 280 ls [.int z0, .int z1, .int z2, .ref (ga G y3)]) := by
    intro x2 x3 x4 x5 x6 x9 x10 z0 z1 z2 y3 hy3 σ H locs ls hH hl h
    unfold wpX9_data_L280 at h
    refine lv_iadd hx hb dX9_data_280 ?_
    refine lv_iload hx hb dX9_data_281 (lv_at hl 6 rfl) ?_
    refine lv_if_le (tgt := 290) hx hb dX9_data_283 (by decide) (fun q36 => ?_) (fun q36 => ?_)
    · replace h := h.1 q36
      refine lv_iconst (v := 0) hx hb dX9_data_290 (by decide) ?_
      exact L291 x2 x3 x4 x5 x6 x9 x10 0 (z1 + z0) z2 y3 hy3 σ _ _ ls hH (lv_sub hl [0, 1, 2, 3, 4, 5, 6, 7] rfl) h
    · replace h := h.2 q36
      refine lv_iconst (v := 4) hx hb dX9_data_286 (by decide) ?_
      refine lv_goto (tgt := 291) hx hb dX9_data_287 (by decide) ?_
      exact L291 x2 x3 x4 x5 x6 x9 x10 4 (z1 + z0) z2 y3 hy3 σ _ _ ls hH (lv_sub hl [0, 1, 2, 3, 4, 5, 6, 7] rfl) h
  have L254 : ∀ (x2 : Int32) (x3 : Int32) (x4 : Int32) (x5 : Int32) (x6 : Int32) (x9 : Int32) (x10 : Int32) (z0 : Int32) (z1 : Int32) (z2 : Int32) (y3 : Nat) (hy3 : isI G 250 y3) (σ : Sg) (H : Heap) (locs : List Loc) (ls : Array Slot), Hx G (aA G s.heap.size) s σ H locs → lv_has ls 13 [(0, .ref (ga G 0)), (2, .int x2), (3, .int x3), (4, .int x4), (5, .int x5), (6, .int x6), (9, .int x9), (10, .int x10)] → wpX9_data_L254 Q x2 x3 x4 x5 x6 x9 x10 z0 z1 z2 y3 σ → W p l e ({ frames := 2, cells := 0, slots := 0, locals := 48 }) s m args below meth c H locs 0 0 (Zi G Q below args s) (F0 m 254 ls [.int z0, .int z1, .int z2, .ref (ga G y3)]) := by
    intro x2 x3 x4 x5 x6 x9 x10 z0 z1 z2 y3 hy3 σ H locs ls hH hl h
    unfold wpX9_data_L254 at h
    refine lv_iadd hx hb dX9_data_254 ?_
    refine lv_aload_n hx hb dX9_data_255 rfl (lv_at hl 0 rfl) ?_
    refine g_getr hx hb hB inB9 hown hK hH (c0 := 0) h0.1 rfl 40 (by decide) k101 rfl (c1 := 31) rfl dX9_data_256 ?_
    refine lv_sipush (v := 240) hx hb dX9_data_259 (by decide) ?_
    refine lv_iload hx hb dX9_data_262 (lv_at hl 5 rfl) ?_
    refine lv_imul hx hb dX9_data_264 ?_
    refine lv_iload hx hb dX9_data_265 (lv_at hl 3 rfl) ?_
    refine lv_iadd hx hb dX9_data_267 ?_
    refine lv_iconst (v := 1) hx hb dX9_data_268 (by decide) ?_
    refine lv_isub hx hb dX9_data_269 ?_
    obtain ⟨hi34, h⟩ := h
    refine g_zald hx hb hK hH (c0 := 31) (mA31 h0) hi34 dX9_data_270 ?_
    refine lv_if_eq (tgt := 278) hx hb dX9_data_271 (by decide) (fun q35 => ?_) (fun q35 => ?_)
    · replace h := h.1 q35
      refine lv_bipush (v := 8) hx hb dX9_data_278 (by decide) ?_
      exact L280 x2 x3 x4 x5 x6 x9 x10 8 (z1 + z0) z2 y3 hy3 σ _ _ ls hH (lv_sub hl [0, 1, 2, 3, 4, 5, 6, 7] rfl) h
    · replace h := h.2 q35
      refine lv_iconst (v := 0) hx hb dX9_data_274 (by decide) ?_
      refine lv_goto (tgt := 280) hx hb dX9_data_275 (by decide) ?_
      exact L280 x2 x3 x4 x5 x6 x9 x10 0 (z1 + z0) z2 y3 hy3 σ _ _ ls hH (lv_sub hl [0, 1, 2, 3, 4, 5, 6, 7] rfl) h
  have L231 : ∀ (x2 : Int32) (x3 : Int32) (x4 : Int32) (x5 : Int32) (x6 : Int32) (x9 : Int32) (x10 : Int32) (z0 : Int32) (z1 : Int32) (z2 : Int32) (y3 : Nat) (hy3 : isI G 250 y3) (σ : Sg) (H : Heap) (locs : List Loc) (ls : Array Slot), Hx G (aA G s.heap.size) s σ H locs → lv_has ls 13 [(0, .ref (ga G 0)), (2, .int x2), (3, .int x3), (4, .int x4), (5, .int x5), (6, .int x6), (9, .int x9), (10, .int x10)] → wpX9_data_L231 Q x2 x3 x4 x5 x6 x9 x10 z0 z1 z2 y3 σ → W p l e ({ frames := 2, cells := 0, slots := 0, locals := 48 }) s m args below meth c H locs 0 0 (Zi G Q below args s) (F0 m 231 ls [.int z0, .int z1, .int z2, .ref (ga G y3)]) := by
    intro x2 x3 x4 x5 x6 x9 x10 z0 z1 z2 y3 hy3 σ H locs ls hH hl h
    unfold wpX9_data_L231 at h
    refine lv_iadd hx hb dX9_data_231 ?_
    refine lv_aload_n hx hb dX9_data_232 rfl (lv_at hl 0 rfl) ?_
    refine g_getr hx hb hB inB9 hown hK hH (c0 := 0) h0.1 rfl 39 (by decide) k98 rfl (c1 := 30) rfl dX9_data_233 ?_
    refine lv_sipush (v := 240) hx hb dX9_data_236 (by decide) ?_
    refine lv_iload hx hb dX9_data_239 (lv_at hl 5 rfl) ?_
    refine lv_imul hx hb dX9_data_241 ?_
    refine lv_iload_n hx hb dX9_data_242 rfl (lv_at hl 2 rfl) ?_
    refine lv_iadd hx hb dX9_data_243 ?_
    obtain ⟨hi32, h⟩ := h
    refine g_zald hx hb hK hH (c0 := 30) (mA30 h0) hi32 dX9_data_244 ?_
    refine lv_if_eq (tgt := 252) hx hb dX9_data_245 (by decide) (fun q33 => ?_) (fun q33 => ?_)
    · replace h := h.1 q33
      refine lv_bipush (v := 16) hx hb dX9_data_252 (by decide) ?_
      exact L254 x2 x3 x4 x5 x6 x9 x10 16 (z1 + z0) z2 y3 hy3 σ _ _ ls hH (lv_sub hl [0, 1, 2, 3, 4, 5, 6, 7] rfl) h
    · replace h := h.2 q33
      refine lv_iconst (v := 0) hx hb dX9_data_248 (by decide) ?_
      refine lv_goto (tgt := 254) hx hb dX9_data_249 (by decide) ?_
      exact L254 x2 x3 x4 x5 x6 x9 x10 0 (z1 + z0) z2 y3 hy3 σ _ _ ls hH (lv_sub hl [0, 1, 2, 3, 4, 5, 6, 7] rfl) h
  have L219 : ∀ (x2 : Int32) (x3 : Int32) (x4 : Int32) (x5 : Int32) (x6 : Int32) (x8 : Int32) (x9 : Int32) (x10 : Int32) (z0 : Int32) (z1 : Int32) (z2 : Int32) (y3 : Nat) (hy3 : isI G 250 y3) (σ : Sg) (H : Heap) (locs : List Loc) (ls : Array Slot), Hx G (aA G s.heap.size) s σ H locs → lv_has ls 13 [(0, .ref (ga G 0)), (2, .int x2), (3, .int x3), (4, .int x4), (5, .int x5), (6, .int x6), (8, .int x8), (9, .int x9), (10, .int x10)] → wpX9_data_L219 Q x2 x3 x4 x5 x6 x8 x9 x10 z0 z1 z2 y3 σ → W p l e ({ frames := 2, cells := 0, slots := 0, locals := 48 }) s m args below meth c H locs 0 0 (Zi G Q below args s) (F0 m 219 ls [.int z0, .int z1, .int z2, .ref (ga G y3)]) := by
    intro x2 x3 x4 x5 x6 x8 x9 x10 z0 z1 z2 y3 hy3 σ H locs ls hH hl h
    unfold wpX9_data_L219 at h
    refine lv_iadd hx hb dX9_data_219 ?_
    refine lv_iload hx hb dX9_data_220 (lv_at hl 6 rfl) ?_
    refine lv_if_eq (tgt := 230) hx hb dX9_data_222 (by decide) (fun q29 => ?_) (fun q29 => ?_)
    · replace h := h.1 q29
      refine lv_iconst (v := 0) hx hb dX9_data_230 (by decide) ?_
      exact L231 x2 x3 x4 x5 x6 x9 x10 0 (z1 + z0) z2 y3 hy3 σ _ _ ls hH (lv_sub hl [0, 1, 2, 3, 4, 5, 7, 8] rfl) h
    · replace h := h.2 q29
      refine lv_bipush (v := 32) hx hb dX9_data_225 (by decide) ?_
      refine lv_goto (tgt := 231) hx hb dX9_data_227 (by decide) ?_
      exact L231 x2 x3 x4 x5 x6 x9 x10 32 (z1 + z0) z2 y3 hy3 σ _ _ ls hH (lv_sub hl [0, 1, 2, 3, 4, 5, 7, 8] rfl) h
  have L151 : ∀ (n151 : Nat) (x2 : Int32) (x3 : Int32) (x4 : Int32) (x5 : Int32) (x6 : Int32) (x8 : Int32) (x9 : Int32) (x10 : Int32) (σ : Sg) (H : Heap) (locs : List Loc) (ls : Array Slot), Hx G (aA G s.heap.size) s σ H locs → lv_has ls 13 [(0, .ref (ga G 0)), (2, .int x2), (3, .int x3), (4, .int x4), (5, .int x5), (6, .int x6), (8, .int x8), (9, .int x9), (10, .int x10)] → wpX9_data_L151 Q n151 x2 x3 x4 x5 x6 x8 x9 x10 σ → W p l e ({ frames := 2, cells := 0, slots := 0, locals := 48 }) s m args below meth c H locs 0 0 (Zi G Q below args s) (F0 m 151 ls []) := by
    intro n151
    induction n151 with
    | zero =>
      intro x2 x3 x4 x5 x6 x8 x9 x10 σ H locs ls hH hl h
      exact False.elim h
    | succ n151 ih151 =>
      have L184 : ∀ (x2 : Int32) (x3 : Int32) (x4 : Int32) (x5 : Int32) (x6 : Int32) (x8 : Int32) (x10 : Int32) (z0 : Int32) (z1 : Int32) (σ : Sg) (H : Heap) (locs : List Loc) (ls : Array Slot), Hx G (aA G s.heap.size) s σ H locs → lv_has ls 13 [(0, .ref (ga G 0)), (2, .int x2), (3, .int x3), (4, .int x4), (5, .int x5), (6, .int x6), (8, .int x8), (10, .int x10)] → wpX9_data_L184 Q (wpX9_data_L151 Q n151) x2 x3 x4 x5 x6 x8 x10 z0 z1 σ → W p l e ({ frames := 2, cells := 0, slots := 0, locals := 48 }) s m args below meth c H locs 0 0 (Zi G Q below args s) (F0 m 184 ls [.int z0, .int z1]) := by
        intro x2 x3 x4 x5 x6 x8 x10 z0 z1 σ H locs ls hH hl h
        unfold wpX9_data_L184 at h
        refine lv_iadd hx hb dX9_data_184 ?_
        refine lv_topi (fun x9_30 ex9_30 => ?_)
        replace h := h x9_30 ex9_30
        refine lv_istore (lv' := [(9, .int x9_30), (0, .ref (ga G 0)), (2, .int x2), (3, .int x3), (4, .int x4), (5, .int x5), (6, .int x6), (8, .int x8), (10, .int x10)]) hx hb dX9_data_185 hl (by decide) rfl (fun ls hl => ?_)
        obtain ⟨x10_31, ex10_31⟩ : ∃ y : Int32, y = x10 + 1 := ⟨_, rfl⟩
        replace h := h x10_31 ex10_31
        refine lv_iinc (v := x10_31) (lv' := [(10, .int x10_31), (9, .int x9_30), (0, .ref (ga G 0)), (2, .int x2), (3, .int x3), (4, .int x4), (5, .int x5), (6, .int x6), (8, .int x8)]) hx hb dX9_data_187 hl (k := 8) rfl (by rw [ex10_31]; rfl) (by decide) rfl (fun ls hl => ?_)
        refine lv_goto (tgt := 151) hx hb dX9_data_190 (by decide) ?_
        exact ih151 x2 x3 x4 x5 x6 x8 x9_30 x10_31 σ _ _ ls hH (lv_sub hl [2, 3, 4, 5, 6, 7, 8, 1, 0] rfl) h
      intro x2 x3 x4 x5 x6 x8 x9 x10 σ H locs ls hH hl h
      unfold wpX9_data_L151 at h
      refine lv_iload hx hb dX9_data_151 (lv_at hl 8 rfl) ?_
      refine lv_iconst (v := 1) hx hb dX9_data_153 (by decide) ?_
      refine lv_iadd hx hb dX9_data_154 ?_
      refine lv_iload hx hb dX9_data_155 (lv_at hl 3 rfl) ?_
      refine lv_icmp_ge (tgt := 193) hx hb dX9_data_157 (by decide) (fun q24 => ?_) (fun q24 => ?_)
      · replace h := h.1 q24
        refine lv_iconst (v := 0) hx hb dX9_data_193 (by decide) ?_
        refine lv_istore (lv' := [(10, .int 0), (0, .ref (ga G 0)), (2, .int x2), (3, .int x3), (4, .int x4), (5, .int x5), (6, .int x6), (8, .int x8), (9, .int x9)]) hx hb dX9_data_194 hl (by decide) rfl (fun ls hl => ?_)
        refine lv_aload_n hx hb dX9_data_196 rfl (lv_at hl 1 rfl) ?_
        refine g_getr hx hb hB inB9 hown hK hH (c0 := 0) h0.1 rfl 75 (by decide) k207 rfl (c1 := 66) rfl dX9_data_197 ?_
        refine lv_iload hx hb dX9_data_200 (lv_at hl 0 rfl) ?_
        obtain ⟨x10_25, ex10_25⟩ : ∃ y : Int32, y = 0 + 1 := ⟨_, rfl⟩
        replace h := h x10_25 ex10_25
        refine lv_iinc (v := x10_25) (lv' := [(10, .int x10_25), (0, .ref (ga G 0)), (2, .int x2), (3, .int x3), (4, .int x4), (5, .int x5), (6, .int x6), (8, .int x8), (9, .int x9)]) hx hb dX9_data_202 hl (k := 0) rfl (by rw [ex10_25]; rfl) (by decide) rfl (fun ls hl => ?_)
        refine lv_sipush (v := 128) hx hb dX9_data_205 (by decide) ?_
        refine lv_iload hx hb dX9_data_208 (lv_at hl 5 rfl) ?_
        refine lv_if_eq (tgt := 218) hx hb dX9_data_210 (by decide) (fun q26 => ?_) (fun q26 => ?_)
        · replace h := h.1 q26
          refine lv_iconst (v := 0) hx hb dX9_data_218 (by decide) ?_
          exact L219 x2 x3 x4 x5 x6 x8 x9 x10_25 0 128 0 66 ((mA66 h0)) σ _ _ ls hH (lv_sub hl [1, 2, 3, 4, 5, 6, 7, 8, 0] rfl) h
        · replace h := h.2 q26
          refine lv_bipush (v := 64) hx hb dX9_data_213 (by decide) ?_
          refine lv_goto (tgt := 219) hx hb dX9_data_215 (by decide) ?_
          exact L219 x2 x3 x4 x5 x6 x8 x9 x10_25 64 128 0 66 ((mA66 h0)) σ _ _ ls hH (lv_sub hl [1, 2, 3, 4, 5, 6, 7, 8, 0] rfl) h
      · replace h := h.2 q24
        refine lv_iload hx hb dX9_data_160 (lv_at hl 7 rfl) ?_
        refine lv_aload_n hx hb dX9_data_162 rfl (lv_at hl 0 rfl) ?_
        refine g_getr hx hb hB inB9 hown hK hH (c0 := 0) h0.1 rfl 40 (by decide) k101 rfl (c1 := 31) rfl dX9_data_163 ?_
        refine lv_sipush (v := 240) hx hb dX9_data_166 (by decide) ?_
        refine lv_iload hx hb dX9_data_169 (lv_at hl 5 rfl) ?_
        refine lv_imul hx hb dX9_data_171 ?_
        refine lv_iload hx hb dX9_data_172 (lv_at hl 8 rfl) ?_
        refine lv_iadd hx hb dX9_data_174 ?_
        obtain ⟨hi27, h⟩ := h
        refine g_zald hx hb hK hH (c0 := 31) (mA31 h0) hi27 dX9_data_175 ?_
        refine lv_if_eq (tgt := 183) hx hb dX9_data_176 (by decide) (fun q28 => ?_) (fun q28 => ?_)
        · replace h := h.1 q28
          refine lv_iconst (v := 0) hx hb dX9_data_183 (by decide) ?_
          exact L184 x2 x3 x4 x5 x6 x8 x10 0 x9 σ _ _ ls hH (lv_sub hl [0, 1, 2, 3, 4, 5, 6, 8] rfl) h
        · replace h := h.2 q28
          refine lv_iconst (v := 1) hx hb dX9_data_179 (by decide) ?_
          refine lv_goto (tgt := 184) hx hb dX9_data_180 (by decide) ?_
          exact L184 x2 x3 x4 x5 x6 x8 x10 1 x9 σ _ _ ls hH (lv_sub hl [0, 1, 2, 3, 4, 5, 6, 8] rfl) h
  have L145 : ∀ (x2 : Int32) (x3 : Int32) (x4 : Int32) (x5 : Int32) (x6 : Int32) (x8 : Int32) (σ : Sg) (H : Heap) (locs : List Loc) (ls : Array Slot), Hx G (aA G s.heap.size) s σ H locs → lv_has ls 13 [(0, .ref (ga G 0)), (2, .int x2), (3, .int x3), (4, .int x4), (5, .int x5), (6, .int x6), (8, .int x8)] → wpX9_data_L145 Q x2 x3 x4 x5 x6 x8 σ → W p l e ({ frames := 2, cells := 0, slots := 0, locals := 48 }) s m args below meth c H locs 0 0 (Zi G Q below args s) (F0 m 145 ls []) := by
    intro x2 x3 x4 x5 x6 x8 σ H locs ls hH hl h
    unfold wpX9_data_L145 at h
    refine lv_iconst (v := 0) hx hb dX9_data_145 (by decide) ?_
    refine lv_istore (lv' := [(9, .int 0), (0, .ref (ga G 0)), (2, .int x2), (3, .int x3), (4, .int x4), (5, .int x5), (6, .int x6), (8, .int x8)]) hx hb dX9_data_146 hl (by decide) rfl (fun ls hl => ?_)
    refine lv_iload_n hx hb dX9_data_148 rfl (lv_at hl 3 rfl) ?_
    refine lv_istore (lv' := [(10, .int x3), (9, .int 0), (0, .ref (ga G 0)), (2, .int x2), (3, .int x3), (4, .int x4), (5, .int x5), (6, .int x6), (8, .int x8)]) hx hb dX9_data_149 hl (by decide) rfl (fun ls hl => ?_)
    obtain ⟨nn, h⟩ := h
    exact L151 nn x2 x3 x4 x5 x6 x8 0 x3 σ _ _ ls hH (lv_sub hl [2, 3, 4, 5, 6, 7, 8, 1, 0] rfl) h
  have L82 : ∀ (x1 : Int32) (x2 : Int32) (x3 : Int32) (x4 : Int32) (x5 : Int32) (x6 : Int32) (z0 : Int32) (σ : Sg) (H : Heap) (locs : List Loc) (ls : Array Slot), Hx G (aA G s.heap.size) s σ H locs → lv_has ls 13 [(0, .ref (ga G 0)), (1, .int x1), (2, .int x2), (3, .int x3), (4, .int x4), (5, .int x5), (6, .int x6)] → wpX9_data_L82 Q x1 x2 x3 x4 x5 x6 z0 σ → W p l e ({ frames := 2, cells := 0, slots := 0, locals := 48 }) s m args below meth c H locs 0 0 (Zi G Q below args s) (F0 m 82 ls [.int z0]) := by
    intro x1 x2 x3 x4 x5 x6 z0 σ H locs ls hH hl h
    unfold wpX9_data_L82 at h
    refine lv_istore (lv' := [(8, .int z0), (0, .ref (ga G 0)), (1, .int x1), (2, .int x2), (3, .int x3), (4, .int x4), (5, .int x5), (6, .int x6)]) hx hb dX9_data_82 hl (by decide) rfl (fun ls hl => ?_)
    refine lv_aload_n hx hb dX9_data_84 rfl (lv_at hl 1 rfl) ?_
    refine g_getr hx hb hB inB9 hown hK hH (c0 := 0) h0.1 rfl 18 (by decide) k34 rfl (c1 := 9) rfl dX9_data_85 ?_
    refine lv_iload_n hx hb dX9_data_88 rfl (lv_at hl 2 rfl) ?_
    refine lv_dup2_11 hx hb dX9_data_89 rfl rfl ?_
    obtain ⟨hi14, h⟩ := h
    refine g_iald hx hb hK hH (c0 := 9) (mA9 h0) hi14 dX9_data_90 ?_
    refine lv_iconst (v := 1) hx hb dX9_data_91 (by decide) ?_
    refine lv_iadd hx hb dX9_data_92 ?_
    obtain ⟨hi15, h⟩ := h
    refine g_iast hx hb hK hH (c0 := 9) (i := x1) (mA9 h0) hi15 dX9_data_93 (fun σ15 eσ15 H locs hH => ?_)
    replace h := h σ15 eσ15
    refine lv_aload_n hx hb dX9_data_94 rfl (lv_at hl 1 rfl) ?_
    refine g_getr hx hb hB inB9 hown hK hH (c0 := 0) h0.1 rfl 16 (by decide) k28 rfl (c1 := 7) rfl dX9_data_95 ?_
    refine lv_iload_n hx hb dX9_data_98 rfl (lv_at hl 2 rfl) ?_
    refine lv_dup2_11 hx hb dX9_data_99 rfl rfl ?_
    obtain ⟨hi16, h⟩ := h
    refine g_iald hx hb hK hH (c0 := 7) (mA7 h0) hi16 dX9_data_100 ?_
    refine lv_iconst (v := 1) hx hb dX9_data_101 (by decide) ?_
    refine lv_iadd hx hb dX9_data_102 ?_
    obtain ⟨hi17, h⟩ := h
    refine g_iast hx hb hK hH (c0 := 7) (i := x1) (mA7 h0) hi17 dX9_data_103 (fun σ17 eσ17 H locs hH => ?_)
    replace h := h σ17 eσ17
    refine lv_iload hx hb dX9_data_104 (lv_at hl 0 rfl) ?_
    refine lv_if_eq (tgt := 145) hx hb dX9_data_106 (by decide) (fun q18 => ?_) (fun q18 => ?_)
    · replace h := h.1 q18
      exact L145 x2 x3 x4 x5 x6 z0 σ17 _ _ ls hH (lv_sub hl [1, 3, 4, 5, 6, 7, 0] rfl) h
    · replace h := h.2 q18
      refine lv_aload_n hx hb dX9_data_109 rfl (lv_at hl 1 rfl) ?_
      refine g_getr hx hb hB inB9 hown hK hH (c0 := 0) h0.1 rfl 16 (by decide) k28 rfl (c1 := 7) rfl dX9_data_110 ?_
      refine lv_iload_n hx hb dX9_data_113 rfl (lv_at hl 2 rfl) ?_
      refine lv_iconst (v := 0) hx hb dX9_data_114 (by decide) ?_
      obtain ⟨hi19, h⟩ := h
      refine g_iast hx hb hK hH (c0 := 7) (i := x1) (mA7 h0) hi19 dX9_data_115 (fun σ19 eσ19 H locs hH => ?_)
      replace h := h σ19 eσ19
      refine lv_aload_n hx hb dX9_data_116 rfl (lv_at hl 1 rfl) ?_
      refine g_getr hx hb hB inB9 hown hK hH (c0 := 0) h0.1 rfl 21 (by decide) k43 rfl (c1 := 12) rfl dX9_data_117 ?_
      refine lv_iload_n hx hb dX9_data_120 rfl (lv_at hl 2 rfl) ?_
      refine lv_iconst (v := 0) hx hb dX9_data_121 (by decide) ?_
      obtain ⟨hi20, h⟩ := h
      refine g_zast hx hb hK hH (c0 := 12) (i := x1) (mA12 h0) vz0 hi20 dX9_data_122 (fun σ20 eσ20 H locs hH => ?_)
      replace h := h σ20 eσ20
      refine lv_aload_n hx hb dX9_data_123 rfl (lv_at hl 1 rfl) ?_
      refine g_getr hx hb hB inB9 hown hK hH (c0 := 0) h0.1 rfl 15 (by decide) k25 rfl (c1 := 6) rfl dX9_data_124 ?_
      refine lv_iload_n hx hb dX9_data_127 rfl (lv_at hl 2 rfl) ?_
      refine lv_aload_n hx hb dX9_data_128 rfl (lv_at hl 1 rfl) ?_
      refine g_getr hx hb hB inB9 hown hK hH (c0 := 0) h0.1 rfl 13 (by decide) k19 rfl (c1 := 4) rfl dX9_data_129 ?_
      refine lv_iload_n hx hb dX9_data_132 rfl (lv_at hl 2 rfl) ?_
      obtain ⟨hi21, h⟩ := h
      refine g_iald hx hb hK hH (c0 := 4) (mA4 h0) hi21 dX9_data_133 ?_
      refine lv_iconst (v := 1) hx hb dX9_data_134 (by decide) ?_
      refine lv_isub hx hb dX9_data_135 ?_
      obtain ⟨hi22, h⟩ := h
      refine g_iast hx hb hK hH (c0 := 6) (i := x1) (mA6 h0) hi22 dX9_data_136 (fun σ22 eσ22 H locs hH => ?_)
      replace h := h σ22 eσ22
      refine lv_aload_n hx hb dX9_data_137 rfl (lv_at hl 1 rfl) ?_
      refine g_getr hx hb hB inB9 hown hK hH (c0 := 0) h0.1 rfl 14 (by decide) k22 rfl (c1 := 5) rfl dX9_data_138 ?_
      refine lv_iload_n hx hb dX9_data_141 rfl (lv_at hl 2 rfl) ?_
      refine lv_bipush (v := 10) hx hb dX9_data_142 (by decide) ?_
      obtain ⟨hi23, h⟩ := h
      refine g_iast hx hb hK hH (c0 := 5) (i := x1) (mA5 h0) hi23 dX9_data_144 (fun σ23 eσ23 H locs hH => ?_)
      replace h := h σ23 eσ23
      exact L145 x2 x3 x4 x5 x6 z0 σ23 _ _ ls hH (lv_sub hl [1, 3, 4, 5, 6, 7, 0] rfl) h
  have L77 : ∀ (x1 : Int32) (x2 : Int32) (x3 : Int32) (x4 : Int32) (x5 : Int32) (x6 : Int32) (σ : Sg) (H : Heap) (locs : List Loc) (ls : Array Slot), Hx G (aA G s.heap.size) s σ H locs → lv_has ls 13 [(0, .ref (ga G 0)), (1, .int x1), (2, .int x2), (3, .int x3), (4, .int x4), (5, .int x5), (6, .int x6)] → wpX9_data_L77 Q x1 x2 x3 x4 x5 x6 σ → W p l e ({ frames := 2, cells := 0, slots := 0, locals := 48 }) s m args below meth c H locs 0 0 (Zi G Q below args s) (F0 m 77 ls []) := by
    intro x1 x2 x3 x4 x5 x6 σ H locs ls hH hl h
    unfold wpX9_data_L77 at h
    refine lv_iconst (v := 1) hx hb dX9_data_77 (by decide) ?_
    refine lv_goto (tgt := 82) hx hb dX9_data_78 (by decide) ?_
    exact L82 x1 x2 x3 x4 x5 x6 1 σ _ _ ls hH (lv_sub hl [0, 1, 2, 3, 4, 5, 6] rfl) h
  have L33 : ∀ (x1 : Int32) (x2 : Int32) (x3 : Int32) (x4 : Int32) (x5 : Int32) (x6 : Int32) (z0 : Int32) (σ : Sg) (H : Heap) (locs : List Loc) (ls : Array Slot), Hx G (aA G s.heap.size) s σ H locs → lv_has ls 13 [(0, .ref (ga G 0)), (1, .int x1), (2, .int x2), (3, .int x3), (4, .int x4), (5, .int x5), (6, .int x6)] → wpX9_data_L33 Q x1 x2 x3 x4 x5 x6 z0 σ → W p l e ({ frames := 2, cells := 0, slots := 0, locals := 48 }) s m args below meth c H locs 0 0 (Zi G Q below args s) (F0 m 33 ls [.int z0]) := by
    intro x1 x2 x3 x4 x5 x6 z0 σ H locs ls hH hl h
    unfold wpX9_data_L33 at h
    refine lv_istore (lv' := [(7, .int z0), (0, .ref (ga G 0)), (1, .int x1), (2, .int x2), (3, .int x3), (4, .int x4), (5, .int x5), (6, .int x6)]) hx hb dX9_data_33 hl (by decide) rfl (fun ls hl => ?_)
    refine lv_aload_n hx hb dX9_data_35 rfl (lv_at hl 1 rfl) ?_
    refine g_getr hx hb hB inB9 hown hK hH (c0 := 0) h0.1 rfl 21 (by decide) k43 rfl (c1 := 12) rfl dX9_data_36 ?_
    refine lv_iload_n hx hb dX9_data_39 rfl (lv_at hl 2 rfl) ?_
    obtain ⟨hi6, h⟩ := h
    refine g_zald hx hb hK hH (c0 := 12) (mA12 h0) hi6 dX9_data_40 ?_
    refine lv_if_ne (tgt := 77) hx hb dX9_data_41 (by decide) (fun q7 => ?_) (fun q7 => ?_)
    · replace h := h.1 q7
      exact L77 x1 x2 x3 x4 x5 x6 σ _ _ ls hH (lv_sub hl [1, 2, 3, 4, 5, 6, 7] rfl) h
    · replace h := h.2 q7
      refine lv_aload_n hx hb dX9_data_44 rfl (lv_at hl 1 rfl) ?_
      refine g_getr hx hb hB inB9 hown hK hH (c0 := 0) h0.1 rfl 16 (by decide) k28 rfl (c1 := 7) rfl dX9_data_45 ?_
      refine lv_iload_n hx hb dX9_data_48 rfl (lv_at hl 2 rfl) ?_
      obtain ⟨hi8, h⟩ := h
      refine g_iald hx hb hK hH (c0 := 7) (mA7 h0) hi8 dX9_data_49 ?_
      refine lv_iconst (v := 3) hx hb dX9_data_50 (by decide) ?_
      refine lv_icmp_ge (tgt := 77) hx hb dX9_data_51 (by decide) (fun q9 => ?_) (fun q9 => ?_)
      · replace h := h.1 q9
        exact L77 x1 x2 x3 x4 x5 x6 σ _ _ ls hH (lv_sub hl [1, 2, 3, 4, 5, 6, 7] rfl) h
      · replace h := h.2 q9
        refine lv_iload hx hb dX9_data_54 (lv_at hl 0 rfl) ?_
        refine lv_if_ne (tgt := 77) hx hb dX9_data_56 (by decide) (fun q10 => ?_) (fun q10 => ?_)
        · replace h := h.1 q10
          exact L77 x1 x2 x3 x4 x5 x6 σ _ _ ls hH (lv_sub hl [1, 2, 3, 4, 5, 6, 7] rfl) h
        · replace h := h.2 q10
          refine lv_aload_n hx hb dX9_data_59 rfl (lv_at hl 1 rfl) ?_
          refine g_getr hx hb hB inB9 hown hK hH (c0 := 0) h0.1 rfl 13 (by decide) k19 rfl (c1 := 4) rfl dX9_data_60 ?_
          refine lv_iload_n hx hb dX9_data_63 rfl (lv_at hl 2 rfl) ?_
          obtain ⟨hi11, h⟩ := h
          refine g_iald hx hb hK hH (c0 := 4) (mA4 h0) hi11 dX9_data_64 ?_
          refine lv_aload_n hx hb dX9_data_65 rfl (lv_at hl 1 rfl) ?_
          refine g_getr hx hb hB inB9 hown hK hH (c0 := 0) h0.1 rfl 12 (by decide) k16 rfl (c1 := 3) rfl dX9_data_66 ?_
          refine lv_iload_n hx hb dX9_data_69 rfl (lv_at hl 2 rfl) ?_
          obtain ⟨hi12, h⟩ := h
          refine g_iald hx hb hK hH (c0 := 3) (mA3 h0) hi12 dX9_data_70 ?_
          refine lv_isub hx hb dX9_data_71 ?_
          refine lv_bipush (v := 16) hx hb dX9_data_72 (by decide) ?_
          refine lv_icmp_ne (tgt := 81) hx hb dX9_data_74 (by decide) (fun q13 => ?_) (fun q13 => ?_)
          · replace h := h.1 q13
            refine lv_iconst (v := 0) hx hb dX9_data_81 (by decide) ?_
            exact L82 x1 x2 x3 x4 x5 x6 0 σ _ _ ls hH (lv_sub hl [1, 2, 3, 4, 5, 6, 7] rfl) h
          · replace h := h.2 q13
            exact L77 x1 x2 x3 x4 x5 x6 σ _ _ ls hH (lv_sub hl [1, 2, 3, 4, 5, 6, 7] rfl) h
  have L32 : ∀ (x1 : Int32) (x2 : Int32) (x3 : Int32) (x4 : Int32) (x5 : Int32) (x6 : Int32) (σ : Sg) (H : Heap) (locs : List Loc) (ls : Array Slot), Hx G (aA G s.heap.size) s σ H locs → lv_has ls 13 [(0, .ref (ga G 0)), (1, .int x1), (2, .int x2), (3, .int x3), (4, .int x4), (5, .int x5), (6, .int x6)] → wpX9_data_L32 Q x1 x2 x3 x4 x5 x6 σ → W p l e ({ frames := 2, cells := 0, slots := 0, locals := 48 }) s m args below meth c H locs 0 0 (Zi G Q below args s) (F0 m 32 ls []) := by
    intro x1 x2 x3 x4 x5 x6 σ H locs ls hH hl h
    unfold wpX9_data_L32 at h
    refine lv_iconst (v := 0) hx hb dX9_data_32 (by decide) ?_
    exact L33 x1 x2 x3 x4 x5 x6 0 σ _ _ ls hH (lv_sub hl [0, 1, 2, 3, 4, 5, 6] rfl) h
  unfold wpX9_data at h
  refine lv_bipush (v := 16) hx hb dX9_data_0 (by decide) ?_
  refine lv_iload_n hx hb dX9_data_2 rfl (lv_at hl 1 rfl) ?_
  refine lv_imul hx hb dX9_data_3 ?_
  refine lv_iload_n hx hb dX9_data_4 rfl (lv_at hl 2 rfl) ?_
  refine lv_bipush (v := 15) hx hb dX9_data_5 (by decide) ?_
  refine lv_iand hx hb dX9_data_7 ?_
  refine lv_iadd hx hb dX9_data_8 ?_
  refine lv_topi (fun x6_1 ex6_1 => ?_)
  replace h := h x6_1 ex6_1
  refine lv_istore (lv' := [(6, .int x6_1), (0, .ref (ga G 0)), (1, .int x1), (2, .int x2), (3, .int x3), (4, .int x4), (5, .int x5)]) hx hb dX9_data_9 hl (by decide) rfl (fun ls hl => ?_)
  refine lv_aload_n hx hb dX9_data_11 rfl (lv_at hl 1 rfl) ?_
  refine g_getr hx hb hB inB9 hown hK hH (c0 := 0) h0.1 rfl 31 (by decide) k74 rfl (c1 := 22) rfl dX9_data_12 ?_
  refine lv_iload_n hx hb dX9_data_15 rfl (lv_at hl 2 rfl) ?_
  obtain ⟨hi2, h⟩ := h
  refine g_iald hx hb hK hH (c0 := 22) (mA22 h0) hi2 dX9_data_16 ?_
  refine lv_if_ne (tgt := 32) hx hb dX9_data_17 (by decide) (fun q3 => ?_) (fun q3 => ?_)
  · replace h := h.1 q3
    exact L32 x1 x2 x3 x4 x5 x6_1 σ _ _ ls hH (lv_sub hl [1, 2, 3, 4, 5, 6, 0] rfl) h
  · replace h := h.2 q3
    refine lv_aload_n hx hb dX9_data_20 rfl (lv_at hl 1 rfl) ?_
    refine lv_iload_n hx hb dX9_data_21 rfl (lv_at hl 2 rfl) ?_
    refine g_callVi (As := [.int x1]) (rest := []) ⟨hx, hb, hml, hown, hB⟩ hK hX aA_hA hH (c0 := 0) (tX9_allAgain h0 h) (cwV 1 hB gVX9_289 rfl rfl rfl (by decide +kernel) ⟨Nat.le_of_ble_eq_true rfl, Nat.le_of_ble_eq_true rfl⟩) h0.1 rfl rfl hl.1 rfl (lv_room (Nat.le_of_ble_eq_true rfl)) ⟨Nat.zero_le _, Nat.zero_le _⟩ dX9_data_22 (fun r4 σ4 H locs h hH => ?_)
    refine lv_if_ne (tgt := 32) hx hb dX9_data_25 (by decide) (fun q5 => ?_) (fun q5 => ?_)
    · replace h := h.1 q5
      exact L32 x1 x2 x3 x4 x5 x6_1 σ4 _ _ ls hH (lv_sub hl [1, 2, 3, 4, 5, 6, 0] rfl) h
    · replace h := h.2 q5
      refine lv_iconst (v := 1) hx hb dX9_data_28 (by decide) ?_
      refine lv_goto (tgt := 33) hx hb dX9_data_29 (by decide) ?_
      exact L33 x1 x2 x3 x4 x5 x6_1 1 σ4 _ _ ls hH (lv_sub hl [1, 2, 3, 4, 5, 6, 0] rfl) h
def wpX9_makeAgain_L231 (Q : Int32 → Sg → Prop) (z0 : Int32) (z1 : Int32) (z2 : Int32) (z3 : Int32) (z4 : Int32) (σ : Sg) : Prop := wpX9_data z4 z3 z2 z1 z0 σ (fun r31 σ31 => Q r31 σ31)
def wpX9_makeAgain_L176 (Q : Int32 → Sg → Prop) : Nat → Int32 → Int32 → Int32 → Int32 → Int32 → Int32 → Int32 → Sg → Prop
  | 0, _, _, _, _, _, _, _, _ => False
  | n + 1, x1, x3, x4, x5, x6, x7, x8, σ => ((x6 ≤ x8 → (vp_in x1 6 ∧ (vp_in x1 6 ∧ ∀ σ27 : Sg, σ27 = up2 σ 10 x1.toNatClampNeg ((σ 10 x1.toNatClampNeg) + 1) → ((¬ x7 = 0 → wpX9_makeAgain_L231 Q 0 x6 x5 x3 x1 σ27) ∧ (x7 = 0 → wpX9_makeAgain_L231 Q 1 x6 x5 x3 x1 σ27))))) ∧ (¬ (x6 ≤ x8) → (vp_in ((240 * x4) + x8) 23040 ∧ ∀ σ29 : Sg, σ29 = up2 σ 32 (((240 * x4) + x8).toNatClampNeg) 0 → ∀ x8_30 : Int32, x8_30 = x8 + 1 → (wpX9_makeAgain_L176 Q n) x1 x3 x4 x5 x6 x7 x8_30 σ29)))
def wpX9_makeAgain_L172 (Q : Int32 → Sg → Prop) (x1 : Int32) (x3 : Int32) (x4 : Int32) (x5 : Int32) (x6 : Int32) (x7 : Int32) (σ : Sg) : Prop := ∃ nn, wpX9_makeAgain_L176 Q nn x1 x3 x4 x5 x6 x7 x5 σ
def wpX9_makeAgain_L150 (Q : Int32 → Sg → Prop) (x1 : Int32) (x2 : Int32) (x3 : Int32) (x4 : Int32) (x5 : Int32) (x6 : Int32) (x7 : Int32) (σ : Sg) : Prop := ((¬ x7 = 0 → wpX9_makeAgain_L172 Q x1 x3 x4 x5 x6 x7 σ) ∧ (x7 = 0 → wpX9_fitting x4 x5 x6 3 x2 σ (fun r23 σ23 => ∀ x6_24 : Int32, x6_24 = x5 + r23 → wpX9_makeAgain_L172 Q x1 x3 x4 x5 x6_24 x7 σ23)))
def wpX9_makeAgain_L136 (Q : Int32 → Sg → Prop) (x1 : Int32) (x2 : Int32) (x3 : Int32) (x4 : Int32) (x5 : Int32) (x6 : Int32) (z0 : Int32) (σ : Sg) : Prop := ((¬ z0 = 0 → wpX9_makeAgain_L150 Q x1 x2 x3 x4 x5 x6 z0 σ) ∧ (z0 = 0 → ((4 ≤ x2 → wpX9_makeAgain_L150 Q x1 x2 x3 x4 x5 x6 z0 σ) ∧ (¬ (4 ≤ x2) → Q 0 σ))))
def wpX9_makeAgain_L135 (Q : Int32 → Sg → Prop) (x1 : Int32) (x2 : Int32) (x3 : Int32) (x4 : Int32) (x5 : Int32) (x6 : Int32) (σ : Sg) : Prop := wpX9_makeAgain_L136 Q x1 x2 x3 x4 x5 x6 0 σ
def wpX9_makeAgain_L98 (Q : Int32 → Sg → Prop) (x1 : Int32) (x2 : Int32) (x3 : Int32) (x4 : Int32) (x5 : Int32) (x6 : Int32) (σ : Sg) : Prop := ((¬ x5 = 0 → wpX9_makeAgain_L135 Q x1 x2 x3 x4 x5 x6 σ) ∧ (x5 = 0 → (vp_in x4 96 ∧ ((¬ x6 = (σ 25 x4.toNatClampNeg) → wpX9_makeAgain_L135 Q x1 x2 x3 x4 x5 x6 σ) ∧ (x6 = (σ 25 x4.toNatClampNeg) → wpX9_fitting x4 0 x6 2 x2 σ (fun r18 σ18 => ((¬ r18 = x6 → wpX9_makeAgain_L135 Q x1 x2 x3 x4 x5 x6 σ18) ∧ (r18 = x6 → wpX9_makeAgain_L136 Q x1 x2 x3 x4 x5 x6 1 σ18))))))))
def wpX9_makeAgain_L63 (Q : Int32 → Sg → Prop) : Nat → Int32 → Int32 → Int32 → Int32 → Int32 → Int32 → Sg → Prop
  | 0, _, _, _, _, _, _, _ => False
  | n + 1, x1, x2, x3, x4, x5, x6, σ => (vp_in x4 96 ∧ (((σ 25 x4.toNatClampNeg) ≤ x6 → wpX9_makeAgain_L98 Q x1 x2 x3 x4 x5 x6 σ) ∧ (¬ ((σ 25 x4.toNatClampNeg) ≤ x6) → (vp_in ((240 * x4) + x6) 23040 ∧ (((σ 32 ((240 * x4) + x6).toNatClampNeg) = 0 → wpX9_makeAgain_L98 Q x1 x2 x3 x4 x5 x6 σ) ∧ (¬ ((σ 32 ((240 * x4) + x6).toNatClampNeg) = 0) → ∀ x6_14 : Int32, x6_14 = x6 + 1 → (wpX9_makeAgain_L63 Q n) x1 x2 x3 x4 x5 x6_14 σ))))))
def wpX9_makeAgain_L36 (Q : Int32 → Sg → Prop) : Nat → Int32 → Int32 → Int32 → Int32 → Int32 → Sg → Prop
  | 0, _, _, _, _, _, _ => False
  | n + 1, x1, x2, x3, x4, x5, σ => (vp_in ((240 * x4) + x5) 23040 ∧ ((¬ (σ 32 ((240 * x4) + x5).toNatClampNeg) = 0 → ∃ nn, wpX9_makeAgain_L63 Q nn x1 x2 x3 x4 x5 x5 σ) ∧ ((σ 32 ((240 * x4) + x5).toNatClampNeg) = 0 → ∀ x5_9 : Int32, x5_9 = x5 + 1 → (wpX9_makeAgain_L36 Q n) x1 x2 x3 x4 x5_9 σ)))
def wpX9_makeAgain_L7 (Q : Int32 → Sg → Prop) : Nat → Int32 → Int32 → Int32 → Sg → Prop
  | 0, _, _, _, _ => False
  | n + 1, x1, x2, x3, σ => wpX9_isAgain x1 x3 σ (fun r3 σ3 => ((¬ r3 = 0 → ∀ x4_5 : Int32, x4_5 = (16 * x1) + (x3 &&& 15) → ∃ nn, wpX9_makeAgain_L36 Q nn x1 x2 x3 x4_5 0 σ3) ∧ (r3 = 0 → ∀ x3_6 : Int32, x3_6 = x3 + 1 → (wpX9_makeAgain_L7 Q n) x1 x2 x3_6 σ3)))
def wpX9_makeAgain (x1 : Int32) (x2 : Int32) (σ : Sg) (Q : Int32 → Sg → Prop) : Prop := (vp_in x1 6 ∧ ∀ x3_2 : Int32, x3_2 = σ 3 x1.toNatClampNeg → ∃ nn, wpX9_makeAgain_L7 Q nn x1 x2 x3_2 σ)
set_option maxHeartbeats 8000000 in
set_option maxRecDepth 100000 in
theorem tX9_makeAgain {l : Launch} {G : GG} {x1 : Int32} {x2 : Int32} {σ : Sg} {Q : Int32 → Sg → Prop} (h0 : isModel G) (h : wpX9_makeAgain x1 x2 σ Q) : Ki l G yX9_makeAgain (wB yX9_makeAgain prog_11_method_22_code 9 (Option.some FieldType.int)) ({ frames := 3, cells := 0, slots := 0, locals := 80 }) [.ref (ga G 0), .int x1, .int x2] σ Q := by
  refine K_of (cc := cX9_makeAgain) (maxL := 9) (ret := (some .int)) (by decide) rfl (Nat.le_of_ble_eq_true rfl) ?_
  intro p e s m args below meth c ls B hH hl
  obtain ⟨hx, hb, hr, hts, hown, hlk, hml, hK, hX⟩ := B
  replace hl : lv_has ls 9 [(0, .ref (ga G 0)), (1, .int x1), (2, .int x2)] := hl
  have hB : ∀ w ∈ BIG, w.before args s = true := fun w h9 => hts w (List.mem_cons_of_mem _ h9)
  clear hts
  have k16 := hB _ bw4_122
  have k37 := hB _ bw4_129
  have k83 := hB _ bw4_144
  have k104 := hB _ bw4_151
  have L231 : ∀ (z0 : Int32) (z1 : Int32) (z2 : Int32) (z3 : Int32) (z4 : Int32) (σ : Sg) (H : Heap) (locs : List Loc) (ls : Array Slot), Hx G (aA G s.heap.size) s σ H locs → lv_has ls 9 [] → wpX9_makeAgain_L231 Q z0 z1 z2 z3 z4 σ → W p l e ({ frames := 3, cells := 0, slots := 0, locals := 80 }) s m args below meth c H locs 0 0 (Zi G Q below args s) (F0 m 231 ls [.int z0, .int z1, .int z2, .int z3, .int z4, .ref (ga G 0)]) := by
    intro z0 z1 z2 z3 z4 σ H locs ls hH hl h
    unfold wpX9_makeAgain_L231 at h
    refine g_callVi (As := [.int z4, .int z3, .int z2, .int z1, .int z0]) (rest := []) ⟨hx, hb, hml, hown, hB⟩ hK hX aA_hA hH (c0 := 0) (tX9_data h0 h) (cwV 5 hB gVX9_299 rfl rfl rfl (by decide +kernel) ⟨Nat.le_of_ble_eq_true rfl, Nat.le_of_ble_eq_true rfl⟩) h0.1 rfl rfl hl.1 rfl (lv_room (Nat.le_of_ble_eq_true rfl)) ⟨Nat.zero_le _, Nat.zero_le _⟩ dX9_makeAgain_231 (fun r31 σ31 H locs h hH => ?_)
    exact g_iret hx hb hr hK hlk h hH dX9_makeAgain_234
  have L176 : ∀ (n176 : Nat) (x1 : Int32) (x3 : Int32) (x4 : Int32) (x5 : Int32) (x6 : Int32) (x7 : Int32) (x8 : Int32) (σ : Sg) (H : Heap) (locs : List Loc) (ls : Array Slot), Hx G (aA G s.heap.size) s σ H locs → lv_has ls 9 [(0, .ref (ga G 0)), (1, .int x1), (3, .int x3), (4, .int x4), (5, .int x5), (6, .int x6), (7, .int x7), (8, .int x8)] → wpX9_makeAgain_L176 Q n176 x1 x3 x4 x5 x6 x7 x8 σ → W p l e ({ frames := 3, cells := 0, slots := 0, locals := 80 }) s m args below meth c H locs 0 0 (Zi G Q below args s) (F0 m 176 ls []) := by
    intro n176
    induction n176 with
    | zero =>
      intro x1 x3 x4 x5 x6 x7 x8 σ H locs ls hH hl h
      exact False.elim h
    | succ n176 ih176 =>
      intro x1 x3 x4 x5 x6 x7 x8 σ H locs ls hH hl h
      unfold wpX9_makeAgain_L176 at h
      refine lv_iload hx hb dX9_makeAgain_176 (lv_at hl 7 rfl) ?_
      refine lv_iload hx hb dX9_makeAgain_178 (lv_at hl 5 rfl) ?_
      refine lv_icmp_ge (tgt := 204) hx hb dX9_makeAgain_180 (by decide) (fun q25 => ?_) (fun q25 => ?_)
      · replace h := h.1 q25
        refine lv_aload_n hx hb dX9_makeAgain_204 rfl (lv_at hl 0 rfl) ?_
        refine g_getr hx hb hB inB9 hown hK hH (c0 := 0) h0.1 rfl 19 (by decide) k37 rfl (c1 := 10) rfl dX9_makeAgain_205 ?_
        refine lv_iload_n hx hb dX9_makeAgain_208 rfl (lv_at hl 1 rfl) ?_
        refine lv_dup2_11 hx hb dX9_makeAgain_209 rfl rfl ?_
        obtain ⟨hi26, h⟩ := h
        refine g_iald hx hb hK hH (c0 := 10) (mA10 h0) hi26 dX9_makeAgain_210 ?_
        refine lv_iconst (v := 1) hx hb dX9_makeAgain_211 (by decide) ?_
        refine lv_iadd hx hb dX9_makeAgain_212 ?_
        obtain ⟨hi27, h⟩ := h
        refine g_iast hx hb hK hH (c0 := 10) (i := x1) (mA10 h0) hi27 dX9_makeAgain_213 (fun σ27 eσ27 H locs hH => ?_)
        replace h := h σ27 eσ27
        refine lv_aload_n hx hb dX9_makeAgain_214 rfl (lv_at hl 0 rfl) ?_
        refine lv_iload_n hx hb dX9_makeAgain_215 rfl (lv_at hl 1 rfl) ?_
        refine lv_iload_n hx hb dX9_makeAgain_216 rfl (lv_at hl 2 rfl) ?_
        refine lv_iload hx hb dX9_makeAgain_217 (lv_at hl 4 rfl) ?_
        refine lv_iload hx hb dX9_makeAgain_219 (lv_at hl 5 rfl) ?_
        refine lv_iload hx hb dX9_makeAgain_221 (lv_at hl 6 rfl) ?_
        refine lv_if_ne (tgt := 230) hx hb dX9_makeAgain_223 (by decide) (fun q28 => ?_) (fun q28 => ?_)
        · replace h := h.1 q28
          refine lv_iconst (v := 0) hx hb dX9_makeAgain_230 (by decide) ?_
          exact L231 0 x6 x5 x3 x1 σ27 _ _ ls hH (lv_sub hl [] rfl) h
        · replace h := h.2 q28
          refine lv_iconst (v := 1) hx hb dX9_makeAgain_226 (by decide) ?_
          refine lv_goto (tgt := 231) hx hb dX9_makeAgain_227 (by decide) ?_
          exact L231 1 x6 x5 x3 x1 σ27 _ _ ls hH (lv_sub hl [] rfl) h
      · replace h := h.2 q25
        refine lv_aload_n hx hb dX9_makeAgain_183 rfl (lv_at hl 0 rfl) ?_
        refine g_getr hx hb hB inB9 hown hK hH (c0 := 0) h0.1 rfl 41 (by decide) k104 rfl (c1 := 32) rfl dX9_makeAgain_184 ?_
        refine lv_sipush (v := 240) hx hb dX9_makeAgain_187 (by decide) ?_
        refine lv_iload hx hb dX9_makeAgain_190 (lv_at hl 3 rfl) ?_
        refine lv_imul hx hb dX9_makeAgain_192 ?_
        refine lv_iload hx hb dX9_makeAgain_193 (lv_at hl 7 rfl) ?_
        refine lv_iadd hx hb dX9_makeAgain_195 ?_
        refine lv_iconst (v := 0) hx hb dX9_makeAgain_196 (by decide) ?_
        obtain ⟨hi29, h⟩ := h
        refine g_zast hx hb hK hH (c0 := 32) (i := (240 * x4) + x8) (mA32 h0) vz0 hi29 dX9_makeAgain_197 (fun σ29 eσ29 H locs hH => ?_)
        replace h := h σ29 eσ29
        obtain ⟨x8_30, ex8_30⟩ : ∃ y : Int32, y = x8 + 1 := ⟨_, rfl⟩
        replace h := h x8_30 ex8_30
        refine lv_iinc (v := x8_30) (lv' := [(8, .int x8_30), (0, .ref (ga G 0)), (1, .int x1), (3, .int x3), (4, .int x4), (5, .int x5), (6, .int x6), (7, .int x7)]) hx hb dX9_makeAgain_198 hl (k := 7) rfl (by rw [ex8_30]; rfl) (by decide) rfl (fun ls hl => ?_)
        refine lv_goto (tgt := 176) hx hb dX9_makeAgain_201 (by decide) ?_
        exact ih176 x1 x3 x4 x5 x6 x7 x8_30 σ29 _ _ ls hH (lv_sub hl [1, 2, 3, 4, 5, 6, 7, 0] rfl) h
  have L172 : ∀ (x1 : Int32) (x3 : Int32) (x4 : Int32) (x5 : Int32) (x6 : Int32) (x7 : Int32) (σ : Sg) (H : Heap) (locs : List Loc) (ls : Array Slot), Hx G (aA G s.heap.size) s σ H locs → lv_has ls 9 [(0, .ref (ga G 0)), (1, .int x1), (3, .int x3), (4, .int x4), (5, .int x5), (6, .int x6), (7, .int x7)] → wpX9_makeAgain_L172 Q x1 x3 x4 x5 x6 x7 σ → W p l e ({ frames := 3, cells := 0, slots := 0, locals := 80 }) s m args below meth c H locs 0 0 (Zi G Q below args s) (F0 m 172 ls []) := by
    intro x1 x3 x4 x5 x6 x7 σ H locs ls hH hl h
    unfold wpX9_makeAgain_L172 at h
    refine lv_iload hx hb dX9_makeAgain_172 (lv_at hl 4 rfl) ?_
    refine lv_istore (lv' := [(8, .int x5), (0, .ref (ga G 0)), (1, .int x1), (3, .int x3), (4, .int x4), (5, .int x5), (6, .int x6), (7, .int x7)]) hx hb dX9_makeAgain_174 hl (by decide) rfl (fun ls hl => ?_)
    obtain ⟨nn, h⟩ := h
    exact L176 nn x1 x3 x4 x5 x6 x7 x5 σ _ _ ls hH (lv_sub hl [1, 2, 3, 4, 5, 6, 7, 0] rfl) h
  have L150 : ∀ (x1 : Int32) (x2 : Int32) (x3 : Int32) (x4 : Int32) (x5 : Int32) (x6 : Int32) (x7 : Int32) (σ : Sg) (H : Heap) (locs : List Loc) (ls : Array Slot), Hx G (aA G s.heap.size) s σ H locs → lv_has ls 9 [(0, .ref (ga G 0)), (1, .int x1), (2, .int x2), (3, .int x3), (4, .int x4), (5, .int x5), (6, .int x6), (7, .int x7)] → wpX9_makeAgain_L150 Q x1 x2 x3 x4 x5 x6 x7 σ → W p l e ({ frames := 3, cells := 0, slots := 0, locals := 80 }) s m args below meth c H locs 0 0 (Zi G Q below args s) (F0 m 150 ls []) := by
    intro x1 x2 x3 x4 x5 x6 x7 σ H locs ls hH hl h
    unfold wpX9_makeAgain_L150 at h
    refine lv_iload hx hb dX9_makeAgain_150 (lv_at hl 7 rfl) ?_
    refine lv_if_ne (tgt := 172) hx hb dX9_makeAgain_152 (by decide) (fun q22 => ?_) (fun q22 => ?_)
    · replace h := h.1 q22
      exact L172 x1 x3 x4 x5 x6 x7 σ _ _ ls hH (lv_sub hl [0, 1, 3, 4, 5, 6, 7] rfl) h
    · replace h := h.2 q22
      refine lv_iload hx hb dX9_makeAgain_155 (lv_at hl 5 rfl) ?_
      refine lv_aload_n hx hb dX9_makeAgain_157 rfl (lv_at hl 0 rfl) ?_
      refine lv_iload hx hb dX9_makeAgain_158 (lv_at hl 4 rfl) ?_
      refine lv_iload hx hb dX9_makeAgain_160 (lv_at hl 5 rfl) ?_
      refine lv_iload hx hb dX9_makeAgain_162 (lv_at hl 6 rfl) ?_
      refine lv_iconst (v := 3) hx hb dX9_makeAgain_164 (by decide) ?_
      refine lv_iload_n hx hb dX9_makeAgain_165 rfl (lv_at hl 2 rfl) ?_
      refine g_callVi (As := [.int x4, .int x5, .int x6, .int 3, .int x2]) (rest := [.int x5]) ⟨hx, hb, hml, hown, hB⟩ hK hX aA_hA hH (c0 := 0) (tX9_fitting h0 h) (cwV 5 hB gVX9_295 rfl rfl rfl (by decide +kernel) ⟨Nat.le_of_ble_eq_true rfl, Nat.le_of_ble_eq_true rfl⟩) h0.1 rfl rfl hl.1 rfl (lv_room (Nat.le_of_ble_eq_true rfl)) ⟨Nat.zero_le _, Nat.zero_le _⟩ dX9_makeAgain_166 (fun r23 σ23 H locs h hH => ?_)
      refine lv_iadd hx hb dX9_makeAgain_169 ?_
      refine lv_topi (fun x6_24 ex6_24 => ?_)
      replace h := h x6_24 ex6_24
      refine lv_istore (lv' := [(6, .int x6_24), (0, .ref (ga G 0)), (1, .int x1), (2, .int x2), (3, .int x3), (4, .int x4), (5, .int x5), (7, .int x7)]) hx hb dX9_makeAgain_170 hl (by decide) rfl (fun ls hl => ?_)
      exact L172 x1 x3 x4 x5 x6_24 x7 σ23 _ _ ls hH (lv_sub hl [1, 2, 4, 5, 6, 0, 7] rfl) h
  have L136 : ∀ (x1 : Int32) (x2 : Int32) (x3 : Int32) (x4 : Int32) (x5 : Int32) (x6 : Int32) (z0 : Int32) (σ : Sg) (H : Heap) (locs : List Loc) (ls : Array Slot), Hx G (aA G s.heap.size) s σ H locs → lv_has ls 9 [(0, .ref (ga G 0)), (1, .int x1), (2, .int x2), (3, .int x3), (4, .int x4), (5, .int x5), (6, .int x6)] → wpX9_makeAgain_L136 Q x1 x2 x3 x4 x5 x6 z0 σ → W p l e ({ frames := 3, cells := 0, slots := 0, locals := 80 }) s m args below meth c H locs 0 0 (Zi G Q below args s) (F0 m 136 ls [.int z0]) := by
    intro x1 x2 x3 x4 x5 x6 z0 σ H locs ls hH hl h
    unfold wpX9_makeAgain_L136 at h
    refine lv_istore (lv' := [(7, .int z0), (0, .ref (ga G 0)), (1, .int x1), (2, .int x2), (3, .int x3), (4, .int x4), (5, .int x5), (6, .int x6)]) hx hb dX9_makeAgain_136 hl (by decide) rfl (fun ls hl => ?_)
    refine lv_iload hx hb dX9_makeAgain_138 (lv_at hl 0 rfl) ?_
    refine lv_if_ne (tgt := 150) hx hb dX9_makeAgain_140 (by decide) (fun q20 => ?_) (fun q20 => ?_)
    · replace h := h.1 q20
      exact L150 x1 x2 x3 x4 x5 x6 z0 σ _ _ ls hH (lv_sub hl [1, 2, 3, 4, 5, 6, 7, 0] rfl) h
    · replace h := h.2 q20
      refine lv_iload_n hx hb dX9_makeAgain_143 rfl (lv_at hl 3 rfl) ?_
      refine lv_iconst (v := 4) hx hb dX9_makeAgain_144 (by decide) ?_
      refine lv_icmp_ge (tgt := 150) hx hb dX9_makeAgain_145 (by decide) (fun q21 => ?_) (fun q21 => ?_)
      · replace h := h.1 q21
        exact L150 x1 x2 x3 x4 x5 x6 z0 σ _ _ ls hH (lv_sub hl [1, 2, 3, 4, 5, 6, 7, 0] rfl) h
      · replace h := h.2 q21
        refine lv_iconst (v := 0) hx hb dX9_makeAgain_148 (by decide) ?_
        exact g_iret hx hb hr hK hlk h hH dX9_makeAgain_149
  have L135 : ∀ (x1 : Int32) (x2 : Int32) (x3 : Int32) (x4 : Int32) (x5 : Int32) (x6 : Int32) (σ : Sg) (H : Heap) (locs : List Loc) (ls : Array Slot), Hx G (aA G s.heap.size) s σ H locs → lv_has ls 9 [(0, .ref (ga G 0)), (1, .int x1), (2, .int x2), (3, .int x3), (4, .int x4), (5, .int x5), (6, .int x6)] → wpX9_makeAgain_L135 Q x1 x2 x3 x4 x5 x6 σ → W p l e ({ frames := 3, cells := 0, slots := 0, locals := 80 }) s m args below meth c H locs 0 0 (Zi G Q below args s) (F0 m 135 ls []) := by
    intro x1 x2 x3 x4 x5 x6 σ H locs ls hH hl h
    unfold wpX9_makeAgain_L135 at h
    refine lv_iconst (v := 0) hx hb dX9_makeAgain_135 (by decide) ?_
    exact L136 x1 x2 x3 x4 x5 x6 0 σ _ _ ls hH (lv_sub hl [0, 1, 2, 3, 4, 5, 6] rfl) h
  have L98 : ∀ (x1 : Int32) (x2 : Int32) (x3 : Int32) (x4 : Int32) (x5 : Int32) (x6 : Int32) (σ : Sg) (H : Heap) (locs : List Loc) (ls : Array Slot), Hx G (aA G s.heap.size) s σ H locs → lv_has ls 9 [(0, .ref (ga G 0)), (1, .int x1), (2, .int x2), (3, .int x3), (4, .int x4), (5, .int x5), (6, .int x6)] → wpX9_makeAgain_L98 Q x1 x2 x3 x4 x5 x6 σ → W p l e ({ frames := 3, cells := 0, slots := 0, locals := 80 }) s m args below meth c H locs 0 0 (Zi G Q below args s) (F0 m 98 ls []) := by
    intro x1 x2 x3 x4 x5 x6 σ H locs ls hH hl h
    unfold wpX9_makeAgain_L98 at h
    refine lv_iload hx hb dX9_makeAgain_98 (lv_at hl 5 rfl) ?_
    refine lv_if_ne (tgt := 135) hx hb dX9_makeAgain_100 (by decide) (fun q15 => ?_) (fun q15 => ?_)
    · replace h := h.1 q15
      exact L135 x1 x2 x3 x4 x5 x6 σ _ _ ls hH (lv_sub hl [0, 1, 2, 3, 4, 5, 6] rfl) h
    · replace h := h.2 q15
      refine lv_iload hx hb dX9_makeAgain_103 (lv_at hl 6 rfl) ?_
      refine lv_aload_n hx hb dX9_makeAgain_105 rfl (lv_at hl 0 rfl) ?_
      refine g_getr hx hb hB inB9 hown hK hH (c0 := 0) h0.1 rfl 34 (by decide) k83 rfl (c1 := 25) rfl dX9_makeAgain_106 ?_
      refine lv_iload hx hb dX9_makeAgain_109 (lv_at hl 4 rfl) ?_
      obtain ⟨hi16, h⟩ := h
      refine g_iald hx hb hK hH (c0 := 25) (mA25 h0) hi16 dX9_makeAgain_111 ?_
      refine lv_icmp_ne (tgt := 135) hx hb dX9_makeAgain_112 (by decide) (fun q17 => ?_) (fun q17 => ?_)
      · replace h := h.1 q17
        exact L135 x1 x2 x3 x4 x5 x6 σ _ _ ls hH (lv_sub hl [0, 1, 2, 3, 4, 5, 6] rfl) h
      · replace h := h.2 q17
        refine lv_aload_n hx hb dX9_makeAgain_115 rfl (lv_at hl 0 rfl) ?_
        refine lv_iload hx hb dX9_makeAgain_116 (lv_at hl 4 rfl) ?_
        refine lv_iconst (v := 0) hx hb dX9_makeAgain_118 (by decide) ?_
        refine lv_iload hx hb dX9_makeAgain_119 (lv_at hl 6 rfl) ?_
        refine lv_iconst (v := 2) hx hb dX9_makeAgain_121 (by decide) ?_
        refine lv_iload_n hx hb dX9_makeAgain_122 rfl (lv_at hl 2 rfl) ?_
        refine g_callVi (As := [.int x4, .int 0, .int x6, .int 2, .int x2]) (rest := []) ⟨hx, hb, hml, hown, hB⟩ hK hX aA_hA hH (c0 := 0) (tX9_fitting h0 h) (cwV 5 hB gVX9_295 rfl rfl rfl (by decide +kernel) ⟨Nat.le_of_ble_eq_true rfl, Nat.le_of_ble_eq_true rfl⟩) h0.1 rfl rfl hl.1 rfl (lv_room (Nat.le_of_ble_eq_true rfl)) ⟨Nat.zero_le _, Nat.zero_le _⟩ dX9_makeAgain_123 (fun r18 σ18 H locs h hH => ?_)
        refine lv_iload hx hb dX9_makeAgain_126 (lv_at hl 6 rfl) ?_
        refine lv_icmp_ne (tgt := 135) hx hb dX9_makeAgain_128 (by decide) (fun q19 => ?_) (fun q19 => ?_)
        · replace h := h.1 q19
          exact L135 x1 x2 x3 x4 x5 x6 σ18 _ _ ls hH (lv_sub hl [0, 1, 2, 3, 4, 5, 6] rfl) h
        · replace h := h.2 q19
          refine lv_iconst (v := 1) hx hb dX9_makeAgain_131 (by decide) ?_
          refine lv_goto (tgt := 136) hx hb dX9_makeAgain_132 (by decide) ?_
          exact L136 x1 x2 x3 x4 x5 x6 1 σ18 _ _ ls hH (lv_sub hl [0, 1, 2, 3, 4, 5, 6] rfl) h
  have L63 : ∀ (n63 : Nat) (x1 : Int32) (x2 : Int32) (x3 : Int32) (x4 : Int32) (x5 : Int32) (x6 : Int32) (σ : Sg) (H : Heap) (locs : List Loc) (ls : Array Slot), Hx G (aA G s.heap.size) s σ H locs → lv_has ls 9 [(0, .ref (ga G 0)), (1, .int x1), (2, .int x2), (3, .int x3), (4, .int x4), (5, .int x5), (6, .int x6)] → wpX9_makeAgain_L63 Q n63 x1 x2 x3 x4 x5 x6 σ → W p l e ({ frames := 3, cells := 0, slots := 0, locals := 80 }) s m args below meth c H locs 0 0 (Zi G Q below args s) (F0 m 63 ls []) := by
    intro n63
    induction n63 with
    | zero =>
      intro x1 x2 x3 x4 x5 x6 σ H locs ls hH hl h
      exact False.elim h
    | succ n63 ih63 =>
      intro x1 x2 x3 x4 x5 x6 σ H locs ls hH hl h
      unfold wpX9_makeAgain_L63 at h
      refine lv_iload hx hb dX9_makeAgain_63 (lv_at hl 6 rfl) ?_
      refine lv_aload_n hx hb dX9_makeAgain_65 rfl (lv_at hl 0 rfl) ?_
      refine g_getr hx hb hB inB9 hown hK hH (c0 := 0) h0.1 rfl 34 (by decide) k83 rfl (c1 := 25) rfl dX9_makeAgain_66 ?_
      refine lv_iload hx hb dX9_makeAgain_69 (lv_at hl 4 rfl) ?_
      obtain ⟨hi10, h⟩ := h
      refine g_iald hx hb hK hH (c0 := 25) (mA25 h0) hi10 dX9_makeAgain_71 ?_
      refine lv_icmp_ge (tgt := 98) hx hb dX9_makeAgain_72 (by decide) (fun q11 => ?_) (fun q11 => ?_)
      · replace h := h.1 q11
        exact L98 x1 x2 x3 x4 x5 x6 σ _ _ ls hH (lv_sub hl [0, 1, 2, 3, 4, 5, 6] rfl) h
      · replace h := h.2 q11
        refine lv_aload_n hx hb dX9_makeAgain_75 rfl (lv_at hl 0 rfl) ?_
        refine g_getr hx hb hB inB9 hown hK hH (c0 := 0) h0.1 rfl 41 (by decide) k104 rfl (c1 := 32) rfl dX9_makeAgain_76 ?_
        refine lv_sipush (v := 240) hx hb dX9_makeAgain_79 (by decide) ?_
        refine lv_iload hx hb dX9_makeAgain_82 (lv_at hl 4 rfl) ?_
        refine lv_imul hx hb dX9_makeAgain_84 ?_
        refine lv_iload hx hb dX9_makeAgain_85 (lv_at hl 6 rfl) ?_
        refine lv_iadd hx hb dX9_makeAgain_87 ?_
        obtain ⟨hi12, h⟩ := h
        refine g_zald hx hb hK hH (c0 := 32) (mA32 h0) hi12 dX9_makeAgain_88 ?_
        refine lv_if_eq (tgt := 98) hx hb dX9_makeAgain_89 (by decide) (fun q13 => ?_) (fun q13 => ?_)
        · replace h := h.1 q13
          exact L98 x1 x2 x3 x4 x5 x6 σ _ _ ls hH (lv_sub hl [0, 1, 2, 3, 4, 5, 6] rfl) h
        · replace h := h.2 q13
          obtain ⟨x6_14, ex6_14⟩ : ∃ y : Int32, y = x6 + 1 := ⟨_, rfl⟩
          replace h := h x6_14 ex6_14
          refine lv_iinc (v := x6_14) (lv' := [(6, .int x6_14), (0, .ref (ga G 0)), (1, .int x1), (2, .int x2), (3, .int x3), (4, .int x4), (5, .int x5)]) hx hb dX9_makeAgain_92 hl (k := 6) rfl (by rw [ex6_14]; rfl) (by decide) rfl (fun ls hl => ?_)
          refine lv_goto (tgt := 63) hx hb dX9_makeAgain_95 (by decide) ?_
          exact ih63 x1 x2 x3 x4 x5 x6_14 σ _ _ ls hH (lv_sub hl [1, 2, 3, 4, 5, 6, 0] rfl) h
  have L36 : ∀ (n36 : Nat) (x1 : Int32) (x2 : Int32) (x3 : Int32) (x4 : Int32) (x5 : Int32) (σ : Sg) (H : Heap) (locs : List Loc) (ls : Array Slot), Hx G (aA G s.heap.size) s σ H locs → lv_has ls 9 [(0, .ref (ga G 0)), (1, .int x1), (2, .int x2), (3, .int x3), (4, .int x4), (5, .int x5)] → wpX9_makeAgain_L36 Q n36 x1 x2 x3 x4 x5 σ → W p l e ({ frames := 3, cells := 0, slots := 0, locals := 80 }) s m args below meth c H locs 0 0 (Zi G Q below args s) (F0 m 36 ls []) := by
    intro n36
    induction n36 with
    | zero =>
      intro x1 x2 x3 x4 x5 σ H locs ls hH hl h
      exact False.elim h
    | succ n36 ih36 =>
      intro x1 x2 x3 x4 x5 σ H locs ls hH hl h
      unfold wpX9_makeAgain_L36 at h
      refine lv_aload_n hx hb dX9_makeAgain_36 rfl (lv_at hl 0 rfl) ?_
      refine g_getr hx hb hB inB9 hown hK hH (c0 := 0) h0.1 rfl 41 (by decide) k104 rfl (c1 := 32) rfl dX9_makeAgain_37 ?_
      refine lv_sipush (v := 240) hx hb dX9_makeAgain_40 (by decide) ?_
      refine lv_iload hx hb dX9_makeAgain_43 (lv_at hl 4 rfl) ?_
      refine lv_imul hx hb dX9_makeAgain_45 ?_
      refine lv_iload hx hb dX9_makeAgain_46 (lv_at hl 5 rfl) ?_
      refine lv_iadd hx hb dX9_makeAgain_48 ?_
      obtain ⟨hi7, h⟩ := h
      refine g_zald hx hb hK hH (c0 := 32) (mA32 h0) hi7 dX9_makeAgain_49 ?_
      refine lv_if_ne (tgt := 59) hx hb dX9_makeAgain_50 (by decide) (fun q8 => ?_) (fun q8 => ?_)
      · replace h := h.1 q8
        refine lv_iload hx hb dX9_makeAgain_59 (lv_at hl 5 rfl) ?_
        refine lv_istore (lv' := [(6, .int x5), (0, .ref (ga G 0)), (1, .int x1), (2, .int x2), (3, .int x3), (4, .int x4), (5, .int x5)]) hx hb dX9_makeAgain_61 hl (by decide) rfl (fun ls hl => ?_)
        obtain ⟨nn, h⟩ := h
        exact L63 nn x1 x2 x3 x4 x5 x5 σ _ _ ls hH (lv_sub hl [1, 2, 3, 4, 5, 6, 0] rfl) h
      · replace h := h.2 q8
        obtain ⟨x5_9, ex5_9⟩ : ∃ y : Int32, y = x5 + 1 := ⟨_, rfl⟩
        replace h := h x5_9 ex5_9
        refine lv_iinc (v := x5_9) (lv' := [(5, .int x5_9), (0, .ref (ga G 0)), (1, .int x1), (2, .int x2), (3, .int x3), (4, .int x4)]) hx hb dX9_makeAgain_53 hl (k := 5) rfl (by rw [ex5_9]; rfl) (by decide) rfl (fun ls hl => ?_)
        refine lv_goto (tgt := 36) hx hb dX9_makeAgain_56 (by decide) ?_
        exact ih36 x1 x2 x3 x4 x5_9 σ _ _ ls hH (lv_sub hl [1, 2, 3, 4, 5, 0] rfl) h
  have L7 : ∀ (n7 : Nat) (x1 : Int32) (x2 : Int32) (x3 : Int32) (σ : Sg) (H : Heap) (locs : List Loc) (ls : Array Slot), Hx G (aA G s.heap.size) s σ H locs → lv_has ls 9 [(0, .ref (ga G 0)), (1, .int x1), (2, .int x2), (3, .int x3)] → wpX9_makeAgain_L7 Q n7 x1 x2 x3 σ → W p l e ({ frames := 3, cells := 0, slots := 0, locals := 80 }) s m args below meth c H locs 0 0 (Zi G Q below args s) (F0 m 7 ls []) := by
    intro n7
    induction n7 with
    | zero =>
      intro x1 x2 x3 σ H locs ls hH hl h
      exact False.elim h
    | succ n7 ih7 =>
      intro x1 x2 x3 σ H locs ls hH hl h
      unfold wpX9_makeAgain_L7 at h
      refine lv_aload_n hx hb dX9_makeAgain_7 rfl (lv_at hl 0 rfl) ?_
      refine lv_iload_n hx hb dX9_makeAgain_8 rfl (lv_at hl 1 rfl) ?_
      refine lv_iload_n hx hb dX9_makeAgain_9 rfl (lv_at hl 3 rfl) ?_
      refine g_callVi (As := [.int x1, .int x3]) (rest := []) ⟨hx, hb, hml, hown, hB⟩ hK hX aA_hA hH (c0 := 0) (tX9_isAgain h0 h) (cwV 2 hB gVX9_283 rfl rfl rfl (by decide +kernel) ⟨Nat.le_of_ble_eq_true rfl, Nat.le_of_ble_eq_true rfl⟩) h0.1 rfl rfl hl.1 rfl (lv_room (Nat.le_of_ble_eq_true rfl)) ⟨Nat.zero_le _, Nat.zero_le _⟩ dX9_makeAgain_10 (fun r3 σ3 H locs h hH => ?_)
      refine lv_if_ne (tgt := 22) hx hb dX9_makeAgain_13 (by decide) (fun q4 => ?_) (fun q4 => ?_)
      · replace h := h.1 q4
        refine lv_bipush (v := 16) hx hb dX9_makeAgain_22 (by decide) ?_
        refine lv_iload_n hx hb dX9_makeAgain_24 rfl (lv_at hl 1 rfl) ?_
        refine lv_imul hx hb dX9_makeAgain_25 ?_
        refine lv_iload_n hx hb dX9_makeAgain_26 rfl (lv_at hl 3 rfl) ?_
        refine lv_bipush (v := 15) hx hb dX9_makeAgain_27 (by decide) ?_
        refine lv_iand hx hb dX9_makeAgain_29 ?_
        refine lv_iadd hx hb dX9_makeAgain_30 ?_
        refine lv_topi (fun x4_5 ex4_5 => ?_)
        replace h := h x4_5 ex4_5
        refine lv_istore (lv' := [(4, .int x4_5), (0, .ref (ga G 0)), (1, .int x1), (2, .int x2), (3, .int x3)]) hx hb dX9_makeAgain_31 hl (by decide) rfl (fun ls hl => ?_)
        refine lv_iconst (v := 0) hx hb dX9_makeAgain_33 (by decide) ?_
        refine lv_istore (lv' := [(5, .int 0), (4, .int x4_5), (0, .ref (ga G 0)), (1, .int x1), (2, .int x2), (3, .int x3)]) hx hb dX9_makeAgain_34 hl (by decide) rfl (fun ls hl => ?_)
        obtain ⟨nn, h⟩ := h
        exact L36 nn x1 x2 x3 x4_5 0 σ3 _ _ ls hH (lv_sub hl [2, 3, 4, 5, 1, 0] rfl) h
      · replace h := h.2 q4
        obtain ⟨x3_6, ex3_6⟩ : ∃ y : Int32, y = x3 + 1 := ⟨_, rfl⟩
        replace h := h x3_6 ex3_6
        refine lv_iinc (v := x3_6) (lv' := [(3, .int x3_6), (0, .ref (ga G 0)), (1, .int x1), (2, .int x2)]) hx hb dX9_makeAgain_16 hl (k := 3) rfl (by rw [ex3_6]; rfl) (by decide) rfl (fun ls hl => ?_)
        refine lv_goto (tgt := 7) hx hb dX9_makeAgain_19 (by decide) ?_
        exact ih7 x1 x2 x3_6 σ3 _ _ ls hH (lv_sub hl [1, 2, 3, 0] rfl) h
  unfold wpX9_makeAgain at h
  refine lv_aload_n hx hb dX9_makeAgain_0 rfl (lv_at hl 0 rfl) ?_
  refine g_getr hx hb hB inB9 hown hK hH (c0 := 0) h0.1 rfl 12 (by decide) k16 rfl (c1 := 3) rfl dX9_makeAgain_1 ?_
  refine lv_iload_n hx hb dX9_makeAgain_4 rfl (lv_at hl 1 rfl) ?_
  obtain ⟨hi1, h⟩ := h
  refine g_iald hx hb hK hH (c0 := 3) (mA3 h0) hi1 dX9_makeAgain_5 ?_
  refine lv_topi (fun x3_2 ex3_2 => ?_)
  replace h := h x3_2 ex3_2
  refine lv_istore_n (lv' := [(3, .int x3_2), (0, .ref (ga G 0)), (1, .int x1), (2, .int x2)]) hx hb dX9_makeAgain_6 rfl hl (by decide) rfl (fun ls hl => ?_)
  obtain ⟨nn, h⟩ := h
  exact L7 nn x1 x2 x3_2 σ _ _ ls hH (lv_sub hl [1, 2, 3, 0] rfl) h
