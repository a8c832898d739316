def wpX9_renew_L208 (Q : Int32 → Sg → Prop) (K138 : Int32 → Sg → Prop) (K145 : Int32 → Int32 → Sg → Prop) (K171 : Int32 → Int32 → Int32 → Int32 → Sg → Prop) (x1 : Int32) (x2 : Int32) (x3 : Int32) (x4 : Int32) (σ : Sg) : Prop := ∀ x4_32 : Int32, x4_32 = x4 + 1 → K171 x1 x2 x3 x4_32 σ
def wpX9_renew_L171 (Q : Int32 → Sg → Prop) (K138 : Int32 → Sg → Prop) (K145 : Int32 → Int32 → Sg → Prop) : Nat → Int32 → Int32 → Int32 → Int32 → Sg → Prop
  | 0, _, _, _, _, _ => False
  | n + 1, x1, x2, x3, x4, σ => (vp_in x3 6 ∧ (((σ 2 x3.toNatClampNeg) ≤ x4 → ∀ x2_28 : Int32, x2_28 = x2 + 1 → K145 x1 x2_28 σ) ∧ (¬ ((σ 2 x3.toNatClampNeg) ≤ x4) → (vp_in ((32 * x3) + (x4 &&& 31)) 192 ∧ (((σ 15 ((32 * x3) + (x4 &&& 31)).toNatClampNeg) = 0 → wpX9_renew_L208 Q K138 K145 (wpX9_renew_L171 Q K138 K145 n) x1 x2 x3 x4 σ) ∧ (¬ ((σ 15 ((32 * x3) + (x4 &&& 31)).toNatClampNeg) = 0) → wpX9_awaitUnit x1 x2 x4 σ (fun σ31 => wpX9_renew_L208 Q K138 K145 (wpX9_renew_L171 Q K138 K145 n) x1 x2 x3 x4 σ31)))))))
def wpX9_renew_L145 (Q : Int32 → Sg → Prop) (K138 : Int32 → Sg → Prop) : Nat → Int32 → Int32 → Sg → Prop
  | 0, _, _, _ => False
  | n + 1, x1, x2, σ => (((σ 0 0) ≤ x2 → ∀ x1_22 : Int32, x1_22 = x1 + 1 → K138 x1_22 σ) ∧ (¬ ((σ 0 0) ≤ x2) → wpX9_at x1 x2 σ (fun r23 σ23 => wpX9_awaitReport r23 σ23 (fun σ24 => wpX9_lowest r23 σ24 (fun r25 σ25 => ∃ nn, wpX9_renew_L171 Q K138 (wpX9_renew_L145 Q K138 n) nn x1 x2 r23 r25 σ25)))))
def wpX9_renew_L138 (Q : Int32 → Sg → Prop) : Nat → Int32 → Sg → Prop
  | 0, _, _ => False
  | n + 1, x1, σ => ((2 ≤ x1 → Q (σ 0 3) σ) ∧ (¬ (2 ≤ x1) → ∃ nn, wpX9_renew_L145 Q (wpX9_renew_L138 Q n) nn x1 0 σ))
def wpX9_renew_L107 (Q : Int32 → Sg → Prop) : Nat → Int32 → Sg → Prop
  | 0, _, _ => False
  | n + 1, x1, σ => ((8 ≤ x1 → ∀ σ17 : Sg, σ17 = up2 σ 0 3 ((σ 0 3) + 1) → ∃ nn, wpX9_renew_L138 Q nn 0 σ17) ∧ (¬ (8 ≤ x1) → (vp_in x1 8 ∧ ∀ σ18 : Sg, σ18 = up2 σ 60 x1.toNatClampNeg 0 → ∀ x1_19 : Int32, x1_19 = x1 + 1 → (wpX9_renew_L107 Q n) x1_19 σ18)))
def wpX9_renew_L37 (Q : Int32 → Sg → Prop) : Nat → Int32 → Sg → Prop
  | 0, _, _ => False
  | n + 1, x1, σ => ((6 ≤ x1 → ∃ nn, wpX9_renew_L107 Q nn 0 σ) ∧ (¬ (6 ≤ x1) → (vp_in x1 6 ∧ ∀ σ3 : Sg, σ3 = up2 σ 3 x1.toNatClampNeg 0 → (vp_in x1 6 ∧ ∀ σ4 : Sg, σ4 = up2 σ3 4 x1.toNatClampNeg 0 → (vp_in x1 6 ∧ ∀ σ5 : Sg, σ5 = up2 σ4 12 x1.toNatClampNeg 0 → (vp_in x1 6 ∧ ∀ σ6 : Sg, σ6 = up2 σ5 13 x1.toNatClampNeg 0 → (vp_in x1 6 ∧ ∀ σ7 : Sg, σ7 = up2 σ6 5 x1.toNatClampNeg 0 → (vp_in x1 6 ∧ ∀ σ8 : Sg, σ8 = up2 σ7 7 x1.toNatClampNeg 0 → (vp_in x1 6 ∧ ∀ σ9 : Sg, σ9 = up2 σ8 6 x1.toNatClampNeg (-1) → (vp_in x1 6 ∧ ∀ σ10 : Sg, σ10 = up2 σ9 22 x1.toNatClampNeg 0 → ∀ x1_11 : Int32, x1_11 = x1 + 1 → (wpX9_renew_L37 Q n) x1_11 σ10))))))))))
def wpX9_renew_L9 (Q : Int32 → Sg → Prop) (K2 : Int32 → Sg → Prop) : Nat → Int32 → Int32 → Sg → Prop
  | 0, _, _, _ => False
  | n + 1, x1, x2, σ => (((σ 0 0) ≤ x2 → ∀ x1_13 : Int32, x1_13 = x1 + 1 → K2 x1_13 σ) ∧ (¬ ((σ 0 0) ≤ x2) → wpX9_renewReceiver x1 x2 σ (fun σ14 => ∀ x2_15 : Int32, x2_15 = x2 + 1 → (wpX9_renew_L9 Q K2 n) x1 x2_15 σ14)))
def wpX9_renew_L2 (Q : Int32 → Sg → Prop) : Nat → Int32 → Sg → Prop
  | 0, _, _ => False
  | n + 1, x1, σ => ((2 ≤ x1 → ∃ nn, wpX9_renew_L37 Q nn 0 σ) ∧ (¬ (2 ≤ x1) → ∃ nn, wpX9_renew_L9 Q (wpX9_renew_L2 Q n) nn x1 0 σ))
def wpX9_renew (σ : Sg) (Q : Int32 → Sg → Prop) : Prop := ∃ nn, wpX9_renew_L2 Q nn 0 σ
set_option maxHeartbeats 8000000 in
set_option maxRecDepth 100000 in
theorem tX9_renew {l : Launch} {G : GG} {σ : Sg} {Q : Int32 → Sg → Prop} (h0 : isModel G) (h : wpX9_renew σ Q) : Ki l G yX9_renew (wB yX9_renew prog_11_method_49_code 5 (Option.some FieldType.int)) ({ frames := 6, cells := 0, slots := 0, locals := 151 }) [.ref (ga G 0)] σ Q := by
  refine K_of (cc := cX9_renew) (maxL := 5) (ret := (some .int)) (by decide) rfl (Nat.le_of_ble_eq_true rfl) ?_
  intro p e s m args below meth c ls B hH hl
  obtain ⟨hx, hb, hr, hts, hown, hlk, hml, hK, hX⟩ := B
  replace hl : lv_has ls 5 [(0, .ref (ga G 0))] := hl
  have hB : ∀ w ∈ BIG, w.before args s = true := fun w h9 => hts w (List.mem_cons_of_mem _ h9)
  clear hts
  have k13 := hB _ bw4_121
  have k16 := hB _ bw4_122
  have k19 := hB _ bw4_123
  have k22 := hB _ bw4_124
  have k25 := hB _ bw4_125
  have k28 := hB _ bw4_126
  have k43 := hB _ bw4_131
  have k47 := hB _ bw4_132
  have k53 := hB _ bw4_134
  have k74 := hB _ bw4_141
  have k189 := hB _ bw4_179
  have k228 := hB _ bw4_110
  have k246 := hB _ bw4_113
  have L138 : ∀ (n138 : Nat) (x1 : Int32) (σ : Sg) (H : Heap) (locs : List Loc) (ls : Array Slot), Hx G (aA G s.heap.size) s σ H locs → lv_has ls 5 [(0, .ref (ga G 0)), (1, .int x1)] → wpX9_renew_L138 Q n138 x1 σ → W p l e ({ frames := 6, cells := 0, slots := 0, locals := 151 }) s m args below meth c H locs 0 0 (Zi G Q below args s) (F0 m 138 ls []) := by
    intro n138
    induction n138 with
    | zero =>
      intro x1 σ H locs ls hH hl h
      exact False.elim h
    | succ n138 ih138 =>
      have L145 : ∀ (n145 : Nat) (x1 : Int32) (x2 : Int32) (σ : Sg) (H : Heap) (locs : List Loc) (ls : Array Slot), Hx G (aA G s.heap.size) s σ H locs → lv_has ls 5 [(0, .ref (ga G 0)), (1, .int x1), (2, .int x2)] → wpX9_renew_L145 Q (wpX9_renew_L138 Q n138) n145 x1 x2 σ → W p l e ({ frames := 6, cells := 0, slots := 0, locals := 151 }) s m args below meth c H locs 0 0 (Zi G Q below args s) (F0 m 145 ls []) := by
        intro n145
        induction n145 with
        | zero =>
          intro x1 x2 σ H locs ls hH hl h
          exact False.elim h
        | succ n145 ih145 =>
          have L171 : ∀ (n171 : Nat) (x1 : Int32) (x2 : Int32) (x3 : Int32) (x4 : Int32) (σ : Sg) (H : Heap) (locs : List Loc) (ls : Array Slot), Hx G (aA G s.heap.size) s σ H locs → lv_has ls 5 [(0, .ref (ga G 0)), (1, .int x1), (2, .int x2), (3, .int x3), (4, .int x4)] → wpX9_renew_L171 Q (wpX9_renew_L138 Q n138) (wpX9_renew_L145 Q (wpX9_renew_L138 Q n138) n145) n171 x1 x2 x3 x4 σ → W p l e ({ frames := 6, cells := 0, slots := 0, locals := 151 }) s m args below meth c H locs 0 0 (Zi G Q below args s) (F0 m 171 ls []) := by
            intro n171
            induction n171 with
            | zero =>
              intro x1 x2 x3 x4 σ H locs ls hH hl h
              exact False.elim h
            | succ n171 ih171 =>
              have L208 : ∀ (x1 : Int32) (x2 : Int32) (x3 : Int32) (x4 : Int32) (σ : Sg) (H : Heap) (locs : List Loc) (ls : Array Slot), Hx G (aA G s.heap.size) s σ H locs → lv_has ls 5 [(0, .ref (ga G 0)), (1, .int x1), (2, .int x2), (3, .int x3), (4, .int x4)] → wpX9_renew_L208 Q (wpX9_renew_L138 Q n138) (wpX9_renew_L145 Q (wpX9_renew_L138 Q n138) n145) (wpX9_renew_L171 Q (wpX9_renew_L138 Q n138) (wpX9_renew_L145 Q (wpX9_renew_L138 Q n138) n145) n171) x1 x2 x3 x4 σ → W p l e ({ frames := 6, cells := 0, slots := 0, locals := 151 }) s m args below meth c H locs 0 0 (Zi G Q below args s) (F0 m 208 ls []) := by
                intro x1 x2 x3 x4 σ H locs ls hH hl h
                unfold wpX9_renew_L208 at h
                obtain ⟨x4_32, ex4_32⟩ : ∃ y : Int32, y = x4 + 1 := ⟨_, rfl⟩
                replace h := h x4_32 ex4_32
                refine lv_iinc (v := x4_32) (lv' := [(4, .int x4_32), (0, .ref (ga G 0)), (1, .int x1), (2, .int x2), (3, .int x3)]) hx hb dX9_renew_208 hl (k := 4) rfl (by rw [ex4_32]; rfl) (by decide) rfl (fun ls hl => ?_)
                refine lv_goto (tgt := 171) hx hb dX9_renew_211 (by decide) ?_
                exact ih171 x1 x2 x3 x4_32 σ _ _ ls hH (lv_sub hl [1, 2, 3, 4, 0] rfl) h
              intro x1 x2 x3 x4 σ H locs ls hH hl h
              unfold wpX9_renew_L171 at h
              refine lv_iload hx hb dX9_renew_171 (lv_at hl 4 rfl) ?_
              refine lv_aload_n hx hb dX9_renew_173 rfl (lv_at hl 0 rfl) ?_
              refine g_getr hx hb hB inB9 hown hK hH (c0 := 0) h0.1 rfl 11 (by decide) k13 rfl (c1 := 2) rfl dX9_renew_174 ?_
              refine lv_iload_n hx hb dX9_renew_177 rfl (lv_at hl 3 rfl) ?_
              obtain ⟨hi26, h⟩ := h
              refine g_iald hx hb hK hH (c0 := 2) (mA2 h0) hi26 dX9_renew_178 ?_
              refine lv_icmp_ge (tgt := 214) hx hb dX9_renew_179 (by decide) (fun q27 => ?_) (fun q27 => ?_)
              · replace h := h.1 q27
                obtain ⟨x2_28, ex2_28⟩ : ∃ y : Int32, y = x2 + 1 := ⟨_, rfl⟩
                replace h := h x2_28 ex2_28
                refine lv_iinc (v := x2_28) (lv' := [(2, .int x2_28), (0, .ref (ga G 0)), (1, .int x1), (3, .int x3), (4, .int x4)]) hx hb dX9_renew_214 hl (k := 2) rfl (by rw [ex2_28]; rfl) (by decide) rfl (fun ls hl => ?_)
                refine lv_goto (tgt := 145) hx hb dX9_renew_217 (by decide) ?_
                exact ih145 x1 x2_28 σ _ _ ls hH (lv_sub hl [1, 2, 0] rfl) h
              · replace h := h.2 q27
                refine lv_aload_n hx hb dX9_renew_182 rfl (lv_at hl 0 rfl) ?_
                refine g_getr hx hb hB inB9 hown hK hH (c0 := 0) h0.1 rfl 24 (by decide) k53 rfl (c1 := 15) rfl dX9_renew_183 ?_
                refine lv_bipush (v := 32) hx hb dX9_renew_186 (by decide) ?_
                refine lv_iload_n hx hb dX9_renew_188 rfl (lv_at hl 3 rfl) ?_
                refine lv_imul hx hb dX9_renew_189 ?_
                refine lv_iload hx hb dX9_renew_190 (lv_at hl 4 rfl) ?_
                refine lv_bipush (v := 31) hx hb dX9_renew_192 (by decide) ?_
                refine lv_iand hx hb dX9_renew_194 ?_
                refine lv_iadd hx hb dX9_renew_195 ?_
                obtain ⟨hi29, h⟩ := h
                refine g_zald hx hb hK hH (c0 := 15) (mA15 h0) hi29 dX9_renew_196 ?_
                refine lv_if_eq (tgt := 208) hx hb dX9_renew_197 (by decide) (fun q30 => ?_) (fun q30 => ?_)
                · replace h := h.1 q30
                  exact L208 x1 x2 x3 x4 σ _ _ ls hH (lv_sub hl [0, 1, 2, 3, 4] rfl) h
                · replace h := h.2 q30
                  refine lv_aload_n hx hb dX9_renew_200 rfl (lv_at hl 0 rfl) ?_
                  refine lv_iload_n hx hb dX9_renew_201 rfl (lv_at hl 1 rfl) ?_
                  refine lv_iload_n hx hb dX9_renew_202 rfl (lv_at hl 2 rfl) ?_
                  refine lv_iload hx hb dX9_renew_203 (lv_at hl 4 rfl) ?_
                  refine g_callVv (As := [.int x1, .int x2, .int x4]) (rest := []) ⟨hx, hb, hml, hown, hB⟩ hK hX aA_hA hH (c0 := 0) (tX9_awaitUnit h0 h) (cwV 3 hB gVX9_276 rfl rfl rfl (by decide +kernel) ⟨Nat.le_of_ble_eq_true rfl, Nat.le_of_ble_eq_true rfl⟩) h0.1 rfl rfl hl.1 rfl (lv_room (Nat.le_of_ble_eq_true rfl)) ⟨Nat.zero_le _, Nat.zero_le _⟩ dX9_renew_205 (fun σ31 H locs h hH => ?_)
                  exact L208 x1 x2 x3 x4 σ31 _ _ ls hH (lv_sub hl [0, 1, 2, 3, 4] rfl) h
          intro x1 x2 σ H locs ls hH hl h
          unfold wpX9_renew_L145 at h
          refine lv_iload_n hx hb dX9_renew_145 rfl (lv_at hl 2 rfl) ?_
          refine lv_aload_n hx hb dX9_renew_146 rfl (lv_at hl 0 rfl) ?_
          refine g_geti hx hb hB inB9 hown hK hH (c0 := 0) h0.1 rfl 0 (by decide) k228 rfl rfl dX9_renew_147 ?_
          refine lv_icmp_ge (tgt := 220) hx hb dX9_renew_150 (by decide) (fun q21 => ?_) (fun q21 => ?_)
          · replace h := h.1 q21
            obtain ⟨x1_22, ex1_22⟩ : ∃ y : Int32, y = x1 + 1 := ⟨_, rfl⟩
            replace h := h x1_22 ex1_22
            refine lv_iinc (v := x1_22) (lv' := [(1, .int x1_22), (0, .ref (ga G 0)), (2, .int x2)]) hx hb dX9_renew_220 hl (k := 1) rfl (by rw [ex1_22]; rfl) (by decide) rfl (fun ls hl => ?_)
            refine lv_goto (tgt := 138) hx hb dX9_renew_223 (by decide) ?_
            exact ih138 x1_22 σ _ _ ls hH (lv_sub hl [1, 0] rfl) h
          · replace h := h.2 q21
            refine lv_iload_n hx hb dX9_renew_153 rfl (lv_at hl 1 rfl) ?_
            refine lv_iload_n hx hb dX9_renew_154 rfl (lv_at hl 2 rfl) ?_
            refine g_callSi (As := [.int x1, .int x2]) (rest := []) ⟨hx, hb, hml, hown, hB⟩ hK hX aA_hA hH (tX9_at h) (va_cwS 2 hB gSX9_258 rfl rfl rfl (by decide +kernel) ⟨Nat.le_of_ble_eq_true rfl, Nat.le_of_ble_eq_true rfl⟩) rfl hl.1 rfl (lv_room (Nat.le_of_ble_eq_true rfl)) ⟨Nat.zero_le _, Nat.zero_le _⟩ dX9_renew_155 (fun r23 σ23 H locs h hH => ?_)
            refine lv_istore_n (lv' := [(3, .int r23), (0, .ref (ga G 0)), (1, .int x1), (2, .int x2)]) hx hb dX9_renew_158 rfl hl (by decide) rfl (fun ls hl => ?_)
            refine lv_aload_n hx hb dX9_renew_159 rfl (lv_at hl 1 rfl) ?_
            refine lv_iload_n hx hb dX9_renew_160 rfl (lv_at hl 0 rfl) ?_
            refine g_callVv (As := [.int r23]) (rest := []) ⟨hx, hb, hml, hown, hB⟩ hK hX aA_hA hH (c0 := 0) (tX9_awaitReport h0 h) (cwV 1 hB gVX9_405 rfl rfl rfl (by decide +kernel) ⟨Nat.le_of_ble_eq_true rfl, Nat.le_of_ble_eq_true rfl⟩) h0.1 rfl rfl hl.1 rfl (lv_room (Nat.le_of_ble_eq_true rfl)) ⟨Nat.zero_le _, Nat.zero_le _⟩ dX9_renew_161 (fun σ24 H locs h hH => ?_)
            refine lv_aload_n hx hb dX9_renew_164 rfl (lv_at hl 1 rfl) ?_
            refine lv_iload_n hx hb dX9_renew_165 rfl (lv_at hl 0 rfl) ?_
            refine g_callVi (As := [.int r23]) (rest := []) ⟨hx, hb, hml, hown, hB⟩ hK hX aA_hA hH (c0 := 0) (tX9_lowest h0 h) (cwV 1 hB gVX9_273 rfl rfl rfl (by decide +kernel) ⟨Nat.le_of_ble_eq_true rfl, Nat.le_of_ble_eq_true rfl⟩) h0.1 rfl rfl hl.1 rfl (lv_room (Nat.le_of_ble_eq_true rfl)) ⟨Nat.zero_le _, Nat.zero_le _⟩ dX9_renew_166 (fun r25 σ25 H locs h hH => ?_)
            refine lv_istore (lv' := [(4, .int r25), (3, .int r23), (0, .ref (ga G 0)), (1, .int x1), (2, .int x2)]) hx hb dX9_renew_169 hl (by decide) rfl (fun ls hl => ?_)
            obtain ⟨nn, h⟩ := h
            exact L171 nn x1 x2 r23 r25 σ25 _ _ ls hH (lv_sub hl [2, 3, 4, 1, 0] rfl) h
      intro x1 σ H locs ls hH hl h
      unfold wpX9_renew_L138 at h
      refine lv_iload_n hx hb dX9_renew_138 rfl (lv_at hl 1 rfl) ?_
      refine lv_iconst (v := 2) hx hb dX9_renew_139 (by decide) ?_
      refine lv_icmp_ge (tgt := 226) hx hb dX9_renew_140 (by decide) (fun q20 => ?_) (fun q20 => ?_)
      · replace h := h.1 q20
        refine lv_aload_n hx hb dX9_renew_226 rfl (lv_at hl 0 rfl) ?_
        refine g_geti hx hb hB inB9 hown hK hH (c0 := 0) h0.1 rfl 3 (by decide) k246 rfl rfl dX9_renew_227 ?_
        exact g_iret hx hb hr hK hlk h hH dX9_renew_230
      · replace h := h.2 q20
        refine lv_iconst (v := 0) hx hb dX9_renew_143 (by decide) ?_
        refine lv_istore_n (lv' := [(2, .int 0), (0, .ref (ga G 0)), (1, .int x1)]) hx hb dX9_renew_144 rfl hl (by decide) rfl (fun ls hl => ?_)
        obtain ⟨nn, h⟩ := h
        exact L145 nn x1 0 σ _ _ ls hH (lv_sub hl [1, 2, 0] rfl) h
  have L107 : ∀ (n107 : Nat) (x1 : Int32) (σ : Sg) (H : Heap) (locs : List Loc) (ls : Array Slot), Hx G (aA G s.heap.size) s σ H locs → lv_has ls 5 [(0, .ref (ga G 0)), (1, .int x1)] → wpX9_renew_L107 Q n107 x1 σ → W p l e ({ frames := 6, cells := 0, slots := 0, locals := 151 }) s m args below meth c H locs 0 0 (Zi G Q below args s) (F0 m 107 ls []) := by
    intro n107
    induction n107 with
    | zero =>
      intro x1 σ H locs ls hH hl h
      exact False.elim h
    | succ n107 ih107 =>
      intro x1 σ H locs ls hH hl h
      unfold wpX9_renew_L107 at h
      refine lv_iload_n hx hb dX9_renew_107 rfl (lv_at hl 1 rfl) ?_
      refine lv_bipush (v := 8) hx hb dX9_renew_108 (by decide) ?_
      refine lv_icmp_ge (tgt := 126) hx hb dX9_renew_110 (by decide) (fun q16 => ?_) (fun q16 => ?_)
      · replace h := h.1 q16
        refine lv_aload_n hx hb dX9_renew_126 rfl (lv_at hl 0 rfl) ?_
        refine lv_dup hx hb dX9_renew_127 rfl ?_
        refine g_geti hx hb hB inB9 hown hK hH (c0 := 0) h0.1 rfl 3 (by decide) k246 rfl rfl dX9_renew_128 ?_
        refine lv_iconst (v := 1) hx hb dX9_renew_131 (by decide) ?_
        refine lv_iadd hx hb dX9_renew_132 ?_
        refine g_put hx hb hB inB9 tyX9 tyX9_ok nmX9 hown hK hH (c0 := 0) h0.1 rfl 3 (by decide) k246 rfl rfl rfl rfl rfl dX9_renew_133 (fun σ17 eσ17 H locs hH => ?_)
        replace h := h σ17 eσ17
        refine lv_iconst (v := 0) hx hb dX9_renew_136 (by decide) ?_
        refine lv_istore_n (lv' := [(1, .int 0), (0, .ref (ga G 0))]) hx hb dX9_renew_137 rfl hl (by decide) rfl (fun ls hl => ?_)
        obtain ⟨nn, h⟩ := h
        exact L138 nn 0 σ17 _ _ ls hH (lv_sub hl [1, 0] rfl) h
      · replace h := h.2 q16
        refine lv_aload_n hx hb dX9_renew_113 rfl (lv_at hl 0 rfl) ?_
        refine g_getr hx hb hB inB9 hown hK hH (c0 := 0) h0.1 rfl 69 (by decide) k189 rfl (c1 := 60) rfl dX9_renew_114 ?_
        refine lv_iload_n hx hb dX9_renew_117 rfl (lv_at hl 1 rfl) ?_
        refine lv_iconst (v := 0) hx hb dX9_renew_118 (by decide) ?_
        obtain ⟨hi18, h⟩ := h
        refine g_iast hx hb hK hH (c0 := 60) (i := x1) (mA60 h0) hi18 dX9_renew_119 (fun σ18 eσ18 H locs hH => ?_)
        replace h := h σ18 eσ18
        obtain ⟨x1_19, ex1_19⟩ : ∃ y : Int32, y = x1 + 1 := ⟨_, rfl⟩
        replace h := h x1_19 ex1_19
        refine lv_iinc (v := x1_19) (lv' := [(1, .int x1_19), (0, .ref (ga G 0))]) hx hb dX9_renew_120 hl (k := 1) rfl (by rw [ex1_19]; rfl) (by decide) rfl (fun ls hl => ?_)
        refine lv_goto (tgt := 107) hx hb dX9_renew_123 (by decide) ?_
        exact ih107 x1_19 σ18 _ _ ls hH (lv_sub hl [1, 0] rfl) h
  have L37 : ∀ (n37 : Nat) (x1 : Int32) (σ : Sg) (H : Heap) (locs : List Loc) (ls : Array Slot), Hx G (aA G s.heap.size) s σ H locs → lv_has ls 5 [(0, .ref (ga G 0)), (1, .int x1)] → wpX9_renew_L37 Q n37 x1 σ → W p l e ({ frames := 6, cells := 0, slots := 0, locals := 151 }) s m args below meth c H locs 0 0 (Zi G Q below args s) (F0 m 37 ls []) := by
    intro n37
    induction n37 with
    | zero =>
      intro x1 σ H locs ls hH hl h
      exact False.elim h
    | succ n37 ih37 =>
      intro x1 σ H locs ls hH hl h
      unfold wpX9_renew_L37 at h
      refine lv_iload_n hx hb dX9_renew_37 rfl (lv_at hl 1 rfl) ?_
      refine lv_bipush (v := 6) hx hb dX9_renew_38 (by decide) ?_
      refine lv_icmp_ge (tgt := 105) hx hb dX9_renew_40 (by decide) (fun q2 => ?_) (fun q2 => ?_)
      · replace h := h.1 q2
        refine lv_iconst (v := 0) hx hb dX9_renew_105 (by decide) ?_
        refine lv_istore_n (lv' := [(1, .int 0), (0, .ref (ga G 0))]) hx hb dX9_renew_106 rfl hl (by decide) rfl (fun ls hl => ?_)
        obtain ⟨nn, h⟩ := h
        exact L107 nn 0 σ _ _ ls hH (lv_sub hl [1, 0] rfl) h
      · replace h := h.2 q2
        refine lv_aload_n hx hb dX9_renew_43 rfl (lv_at hl 0 rfl) ?_
        refine g_getr hx hb hB inB9 hown hK hH (c0 := 0) h0.1 rfl 12 (by decide) k16 rfl (c1 := 3) rfl dX9_renew_44 ?_
        refine lv_iload_n hx hb dX9_renew_47 rfl (lv_at hl 1 rfl) ?_
        refine lv_iconst (v := 0) hx hb dX9_renew_48 (by decide) ?_
        obtain ⟨hi3, h⟩ := h
        refine g_iast hx hb hK hH (c0 := 3) (i := x1) (mA3 h0) hi3 dX9_renew_49 (fun σ3 eσ3 H locs hH => ?_)
        replace h := h σ3 eσ3
        refine lv_aload_n hx hb dX9_renew_50 rfl (lv_at hl 0 rfl) ?_
        refine g_getr hx hb hB inB9 hown hK hH (c0 := 0) h0.1 rfl 13 (by decide) k19 rfl (c1 := 4) rfl dX9_renew_51 ?_
        refine lv_iload_n hx hb dX9_renew_54 rfl (lv_at hl 1 rfl) ?_
        refine lv_iconst (v := 0) hx hb dX9_renew_55 (by decide) ?_
        obtain ⟨hi4, h⟩ := h
        refine g_iast hx hb hK hH (c0 := 4) (i := x1) (mA4 h0) hi4 dX9_renew_56 (fun σ4 eσ4 H locs hH => ?_)
        replace h := h σ4 eσ4
        refine lv_aload_n hx hb dX9_renew_57 rfl (lv_at hl 0 rfl) ?_
        refine g_getr hx hb hB inB9 hown hK hH (c0 := 0) h0.1 rfl 21 (by decide) k43 rfl (c1 := 12) rfl dX9_renew_58 ?_
        refine lv_iload_n hx hb dX9_renew_61 rfl (lv_at hl 1 rfl) ?_
        refine lv_iconst (v := 0) hx hb dX9_renew_62 (by decide) ?_
        obtain ⟨hi5, h⟩ := h
        refine g_zast hx hb hK hH (c0 := 12) (i := x1) (mA12 h0) vz0 hi5 dX9_renew_63 (fun σ5 eσ5 H locs hH => ?_)
        replace h := h σ5 eσ5
        refine lv_aload_n hx hb dX9_renew_64 rfl (lv_at hl 0 rfl) ?_
        refine g_getr hx hb hB inB9 hown hK hH (c0 := 0) h0.1 rfl 22 (by decide) k47 rfl (c1 := 13) rfl dX9_renew_65 ?_
        refine lv_iload_n hx hb dX9_renew_68 rfl (lv_at hl 1 rfl) ?_
        refine lv_iconst (v := 0) hx hb dX9_renew_69 (by decide) ?_
        obtain ⟨hi6, h⟩ := h
        refine g_zast hx hb hK hH (c0 := 13) (i := x1) (mA13 h0) vz0 hi6 dX9_renew_70 (fun σ6 eσ6 H locs hH => ?_)
        replace h := h σ6 eσ6
        refine lv_aload_n hx hb dX9_renew_71 rfl (lv_at hl 0 rfl) ?_
        refine g_getr hx hb hB inB9 hown hK hH (c0 := 0) h0.1 rfl 14 (by decide) k22 rfl (c1 := 5) rfl dX9_renew_72 ?_
        refine lv_iload_n hx hb dX9_renew_75 rfl (lv_at hl 1 rfl) ?_
        refine lv_iconst (v := 0) hx hb dX9_renew_76 (by decide) ?_
        obtain ⟨hi7, h⟩ := h
        refine g_iast hx hb hK hH (c0 := 5) (i := x1) (mA5 h0) hi7 dX9_renew_77 (fun σ7 eσ7 H locs hH => ?_)
        replace h := h σ7 eσ7
        refine lv_aload_n hx hb dX9_renew_78 rfl (lv_at hl 0 rfl) ?_
        refine g_getr hx hb hB inB9 hown hK hH (c0 := 0) h0.1 rfl 16 (by decide) k28 rfl (c1 := 7) rfl dX9_renew_79 ?_
        refine lv_iload_n hx hb dX9_renew_82 rfl (lv_at hl 1 rfl) ?_
        refine lv_iconst (v := 0) hx hb dX9_renew_83 (by decide) ?_
        obtain ⟨hi8, h⟩ := h
        refine g_iast hx hb hK hH (c0 := 7) (i := x1) (mA7 h0) hi8 dX9_renew_84 (fun σ8 eσ8 H locs hH => ?_)
        replace h := h σ8 eσ8
        refine lv_aload_n hx hb dX9_renew_85 rfl (lv_at hl 0 rfl) ?_
        refine g_getr hx hb hB inB9 hown hK hH (c0 := 0) h0.1 rfl 15 (by decide) k25 rfl (c1 := 6) rfl dX9_renew_86 ?_
        refine lv_iload_n hx hb dX9_renew_89 rfl (lv_at hl 1 rfl) ?_
        refine lv_iconst (v := (-1)) hx hb dX9_renew_90 (by decide) ?_
        obtain ⟨hi9, h⟩ := h
        refine g_iast hx hb hK hH (c0 := 6) (i := x1) (mA6 h0) hi9 dX9_renew_91 (fun σ9 eσ9 H locs hH => ?_)
        replace h := h σ9 eσ9
        refine lv_aload_n hx hb dX9_renew_92 rfl (lv_at hl 0 rfl) ?_
        refine g_getr hx hb hB inB9 hown hK hH (c0 := 0) h0.1 rfl 31 (by decide) k74 rfl (c1 := 22) rfl dX9_renew_93 ?_
        refine lv_iload_n hx hb dX9_renew_96 rfl (lv_at hl 1 rfl) ?_
        refine lv_iconst (v := 0) hx hb dX9_renew_97 (by decide) ?_
        obtain ⟨hi10, h⟩ := h
        refine g_iast hx hb hK hH (c0 := 22) (i := x1) (mA22 h0) hi10 dX9_renew_98 (fun σ10 eσ10 H locs hH => ?_)
        replace h := h σ10 eσ10
        obtain ⟨x1_11, ex1_11⟩ : ∃ y : Int32, y = x1 + 1 := ⟨_, rfl⟩
        replace h := h x1_11 ex1_11
        refine lv_iinc (v := x1_11) (lv' := [(1, .int x1_11), (0, .ref (ga G 0))]) hx hb dX9_renew_99 hl (k := 1) rfl (by rw [ex1_11]; rfl) (by decide) rfl (fun ls hl => ?_)
        refine lv_goto (tgt := 37) hx hb dX9_renew_102 (by decide) ?_
        exact ih37 x1_11 σ10 _ _ ls hH (lv_sub hl [1, 0] rfl) h
  have L2 : ∀ (n2 : Nat) (x1 : Int32) (σ : Sg) (H : Heap) (locs : List Loc) (ls : Array Slot), Hx G (aA G s.heap.size) s σ H locs → lv_has ls 5 [(0, .ref (ga G 0)), (1, .int x1)] → wpX9_renew_L2 Q n2 x1 σ → W p l e ({ frames := 6, cells := 0, slots := 0, locals := 151 }) s m args below meth c H locs 0 0 (Zi G Q below args s) (F0 m 2 ls []) := by
    intro n2
    induction n2 with
    | zero =>
      intro x1 σ H locs ls hH hl h
      exact False.elim h
    | succ n2 ih2 =>
      have L9 : ∀ (n9 : Nat) (x1 : Int32) (x2 : Int32) (σ : Sg) (H : Heap) (locs : List Loc) (ls : Array Slot), Hx G (aA G s.heap.size) s σ H locs → lv_has ls 5 [(0, .ref (ga G 0)), (1, .int x1), (2, .int x2)] → wpX9_renew_L9 Q (wpX9_renew_L2 Q n2) n9 x1 x2 σ → W p l e ({ frames := 6, cells := 0, slots := 0, locals := 151 }) s m args below meth c H locs 0 0 (Zi G Q below args s) (F0 m 9 ls []) := by
        intro n9
        induction n9 with
        | zero =>
          intro x1 x2 σ H locs ls hH hl h
          exact False.elim h
        | succ n9 ih9 =>
          intro x1 x2 σ H locs ls hH hl h
          unfold wpX9_renew_L9 at h
          refine lv_iload_n hx hb dX9_renew_9 rfl (lv_at hl 2 rfl) ?_
          refine lv_aload_n hx hb dX9_renew_10 rfl (lv_at hl 0 rfl) ?_
          refine g_geti hx hb hB inB9 hown hK hH (c0 := 0) h0.1 rfl 0 (by decide) k228 rfl rfl dX9_renew_11 ?_
          refine lv_icmp_ge (tgt := 29) hx hb dX9_renew_14 (by decide) (fun q12 => ?_) (fun q12 => ?_)
          · replace h := h.1 q12
            obtain ⟨x1_13, ex1_13⟩ : ∃ y : Int32, y = x1 + 1 := ⟨_, rfl⟩
            replace h := h x1_13 ex1_13
            refine lv_iinc (v := x1_13) (lv' := [(1, .int x1_13), (0, .ref (ga G 0)), (2, .int x2)]) hx hb dX9_renew_29 hl (k := 1) rfl (by rw [ex1_13]; rfl) (by decide) rfl (fun ls hl => ?_)
            refine lv_goto (tgt := 2) hx hb dX9_renew_32 (by decide) ?_
            exact ih2 x1_13 σ _ _ ls hH (lv_sub hl [1, 0] rfl) h
          · replace h := h.2 q12
            refine lv_aload_n hx hb dX9_renew_17 rfl (lv_at hl 0 rfl) ?_
            refine lv_iload_n hx hb dX9_renew_18 rfl (lv_at hl 1 rfl) ?_
            refine lv_iload_n hx hb dX9_renew_19 rfl (lv_at hl 2 rfl) ?_
            refine g_callVv (As := [.int x1, .int x2]) (rest := []) ⟨hx, hb, hml, hown, hB⟩ hK hX aA_hA hH (c0 := 0) (tX9_renewReceiver h0 h) (cwV 2 hB gVX9_402 rfl rfl rfl (by decide +kernel) ⟨Nat.le_of_ble_eq_true rfl, Nat.le_of_ble_eq_true rfl⟩) h0.1 rfl rfl hl.1 rfl (lv_room (Nat.le_of_ble_eq_true rfl)) ⟨Nat.zero_le _, Nat.zero_le _⟩ dX9_renew_20 (fun σ14 H locs h hH => ?_)
            obtain ⟨x2_15, ex2_15⟩ : ∃ y : Int32, y = x2 + 1 := ⟨_, rfl⟩
            replace h := h x2_15 ex2_15
            refine lv_iinc (v := x2_15) (lv' := [(2, .int x2_15), (0, .ref (ga G 0)), (1, .int x1)]) hx hb dX9_renew_23 hl (k := 2) rfl (by rw [ex2_15]; rfl) (by decide) rfl (fun ls hl => ?_)
            refine lv_goto (tgt := 9) hx hb dX9_renew_26 (by decide) ?_
            exact ih9 x1 x2_15 σ14 _ _ ls hH (lv_sub hl [1, 2, 0] rfl) h
      intro x1 σ H locs ls hH hl h
      unfold wpX9_renew_L2 at h
      refine lv_iload_n hx hb dX9_renew_2 rfl (lv_at hl 1 rfl) ?_
      refine lv_iconst (v := 2) hx hb dX9_renew_3 (by decide) ?_
      refine lv_icmp_ge (tgt := 35) hx hb dX9_renew_4 (by decide) (fun q1 => ?_) (fun q1 => ?_)
      · replace h := h.1 q1
        refine lv_iconst (v := 0) hx hb dX9_renew_35 (by decide) ?_
        refine lv_istore_n (lv' := [(1, .int 0), (0, .ref (ga G 0))]) hx hb dX9_renew_36 rfl hl (by decide) rfl (fun ls hl => ?_)
        obtain ⟨nn, h⟩ := h
        exact L37 nn 0 σ _ _ ls hH (lv_sub hl [1, 0] rfl) h
      · replace h := h.2 q1
        refine lv_iconst (v := 0) hx hb dX9_renew_7 (by decide) ?_
        refine lv_istore_n (lv' := [(2, .int 0), (0, .ref (ga G 0)), (1, .int x1)]) hx hb dX9_renew_8 rfl hl (by decide) rfl (fun ls hl => ?_)
        obtain ⟨nn, h⟩ := h
        exact L9 nn x1 0 σ _ _ ls hH (lv_sub hl [1, 2, 0] rfl) h
  unfold wpX9_renew at h
  refine lv_iconst (v := 0) hx hb dX9_renew_0 (by decide) ?_
  refine lv_istore_n (lv' := [(1, .int 0), (0, .ref (ga G 0))]) hx hb dX9_renew_1 rfl hl (by decide) rfl (fun ls hl => ?_)
  obtain ⟨nn, h⟩ := h
  exact L2 nn 0 σ _ _ ls hH (lv_sub hl [1, 0] rfl) h
def wpX9_rate (x1 : Int32) (x2 : Int32) (σ : Sg) (Q : Int32 → Sg → Prop) : Prop := ((x1 < 0 → Q 0 σ) ∧ (¬ (x1 < 0) → (((σ 0 0) ≤ x1 → Q 0 σ) ∧ (¬ ((σ 0 0) ≤ x1) → ((x2 < 0 → Q 0 σ) ∧ (¬ (x2 < 0) → ((x2 ≤ 200 → (vp_in x1 3 ∧ ∀ σ5 : Sg, σ5 = up2 σ 14 x1.toNatClampNeg x2 → Q 1 σ5)) ∧ (¬ (x2 ≤ 200) → Q 0 σ))))))))
set_option maxHeartbeats 8000000 in
set_option maxRecDepth 100000 in
theorem tX9_rate {l : Launch} {G : GG} {x1 : Int32} {x2 : Int32} {σ : Sg} {Q : Int32 → Sg → Prop} (h0 : isModel G) (h : wpX9_rate x1 x2 σ Q) : Ki l G yX9_rate (wB yX9_rate prog_11_method_51_code 3 (Option.some FieldType.boolean)) ({ frames := 0, cells := 0, slots := 0, locals := 0 }) [.ref (ga G 0), .int x1, .int x2] σ Q := by
  refine K_of (cc := cX9_rate) (maxL := 3) (ret := (some .boolean)) (by decide) rfl (Nat.le_of_ble_eq_true rfl) ?_
  intro p e s m args below meth c ls B hH hl
  obtain ⟨hx, hb, hr, hts, hown, hlk, hml, hK, hX⟩ := B
  replace hl : lv_has ls 3 [(0, .ref (ga G 0)), (1, .int x1), (2, .int x2)] := hl
  have hB : ∀ w ∈ BIG, w.before args s = true := fun w h9 => hts w (List.mem_cons_of_mem _ h9)
  clear hts
  have k50 := hB _ bw4_133
  have k228 := hB _ bw4_110
  unfold wpX9_rate at h
  refine lv_iload_n hx hb dX9_rate_0 rfl (lv_at hl 1 rfl) ?_
  refine lv_if_lt (tgt := 23) hx hb dX9_rate_1 (by decide) (fun q1 => ?_) (fun q1 => ?_)
  · replace h := h.1 q1
    refine lv_iconst (v := 0) hx hb dX9_rate_23 (by decide) ?_
    exact g_zret hx hb hr hK hlk vz0 h hH dX9_rate_24
  · replace h := h.2 q1
    refine lv_iload_n hx hb dX9_rate_4 rfl (lv_at hl 1 rfl) ?_
    refine lv_aload_n hx hb dX9_rate_5 rfl (lv_at hl 0 rfl) ?_
    refine g_geti hx hb hB inB9 hown hK hH (c0 := 0) h0.1 rfl 0 (by decide) k228 rfl rfl dX9_rate_6 ?_
    refine lv_icmp_ge (tgt := 23) hx hb dX9_rate_9 (by decide) (fun q2 => ?_) (fun q2 => ?_)
    · replace h := h.1 q2
      refine lv_iconst (v := 0) hx hb dX9_rate_23 (by decide) ?_
      exact g_zret hx hb hr hK hlk vz0 h hH dX9_rate_24
    · replace h := h.2 q2
      refine lv_iload_n hx hb dX9_rate_12 rfl (lv_at hl 2 rfl) ?_
      refine lv_if_lt (tgt := 23) hx hb dX9_rate_13 (by decide) (fun q3 => ?_) (fun q3 => ?_)
      · replace h := h.1 q3
        refine lv_iconst (v := 0) hx hb dX9_rate_23 (by decide) ?_
        exact g_zret hx hb hr hK hlk vz0 h hH dX9_rate_24
      · replace h := h.2 q3
        refine lv_iload_n hx hb dX9_rate_16 rfl (lv_at hl 2 rfl) ?_
        refine lv_sipush (v := 200) hx hb dX9_rate_17 (by decide) ?_
        refine lv_icmp_le (tgt := 25) hx hb dX9_rate_20 (by decide) (fun q4 => ?_) (fun q4 => ?_)
        · replace h := h.1 q4
          refine lv_aload_n hx hb dX9_rate_25 rfl (lv_at hl 0 rfl) ?_
          refine g_getr hx hb hB inB9 hown hK hH (c0 := 0) h0.1 rfl 23 (by decide) k50 rfl (c1 := 14) rfl dX9_rate_26 ?_
          refine lv_iload_n hx hb dX9_rate_29 rfl (lv_at hl 1 rfl) ?_
          refine lv_iload_n hx hb dX9_rate_30 rfl (lv_at hl 2 rfl) ?_
          obtain ⟨hi5, h⟩ := h
          refine g_iast hx hb hK hH (c0 := 14) (i := x1) (mA14 h0) hi5 dX9_rate_31 (fun σ5 eσ5 H locs hH => ?_)
          replace h := h σ5 eσ5
          refine lv_iconst (v := 1) hx hb dX9_rate_32 (by decide) ?_
          exact g_zret hx hb hr hK hlk vz1 h hH dX9_rate_33
        · replace h := h.2 q4
          refine lv_iconst (v := 0) hx hb dX9_rate_23 (by decide) ?_
          exact g_zret hx hb hr hK hlk vz0 h hH dX9_rate_24
def wpX9_block (x1 : Int32) (x2 : Int32) (σ : Sg) (Q : Int32 → Sg → Prop) : Prop := ((x1 < 0 → Q (-1) σ) ∧ (¬ (x1 < 0) → ((1 < x1 → Q (-1) σ) ∧ (¬ (1 < x1) → (vp_in x1 2 ∧ (((σ 64 x1.toNatClampNeg) = (-1) → Q (-1) σ) ∧ (¬ ((σ 64 x1.toNatClampNeg) = (-1)) → ((x2 < (-1) → Q (-1) σ) ∧ (¬ (x2 < (-1)) → (vp_in x1 2 ∧ ((x2 < (σ 64 x1.toNatClampNeg) → ((0 ≤ x2 → (vp_in ((250 * x1) + x2) 500 ∧ Q (σ 65 ((250 * x1) + x2).toNatClampNeg) σ)) ∧ (¬ (0 ≤ x2) → (vp_in x1 2 ∧ Q (σ 64 x1.toNatClampNeg) σ)))) ∧ (¬ (x2 < (σ 64 x1.toNatClampNeg)) → Q (-1) σ))))))))))))
set_option maxHeartbeats 8000000 in
set_option maxRecDepth 100000 in
theorem tX9_block {l : Launch} {G : GG} {x1 : Int32} {x2 : Int32} {σ : Sg} {Q : Int32 → Sg → Prop} (h0 : isModel G) (h : wpX9_block x1 x2 σ Q) : Ki l G yX9_block (wB yX9_block prog_11_method_52_code 3 (Option.some FieldType.int)) ({ frames := 0, cells := 0, slots := 0, locals := 0 }) [.ref (ga G 0), .int x1, .int x2] σ Q := by
  refine K_of (cc := cX9_block) (maxL := 3) (ret := (some .int)) (by decide) rfl (Nat.le_of_ble_eq_true rfl) ?_
  intro p e s m args below meth c ls B hH hl
  obtain ⟨hx, hb, hr, hts, hown, hlk, hml, hK, hX⟩ := B
  replace hl : lv_has ls 3 [(0, .ref (ga G 0)), (1, .int x1), (2, .int x2)] := hl
  have hB : ∀ w ∈ BIG, w.before args s = true := fun w h9 => hts w (List.mem_cons_of_mem _ h9)
  clear hts
  have k201 := hB _ bw4_183
  have k204 := hB _ bw4_184
  unfold wpX9_block at h
  refine lv_iload_n hx hb dX9_block_0 rfl (lv_at hl 1 rfl) ?_
  refine lv_if_lt (tgt := 34) hx hb dX9_block_1 (by decide) (fun q1 => ?_) (fun q1 => ?_)
  · replace h := h.1 q1
    refine lv_iconst (v := (-1)) hx hb dX9_block_34 (by decide) ?_
    exact g_iret hx hb hr hK hlk h hH dX9_block_35
  · replace h := h.2 q1
    refine lv_iload_n hx hb dX9_block_4 rfl (lv_at hl 1 rfl) ?_
    refine lv_iconst (v := 1) hx hb dX9_block_5 (by decide) ?_
    refine lv_icmp_gt (tgt := 34) hx hb dX9_block_6 (by decide) (fun q2 => ?_) (fun q2 => ?_)
    · replace h := h.1 q2
      refine lv_iconst (v := (-1)) hx hb dX9_block_34 (by decide) ?_
      exact g_iret hx hb hr hK hlk h hH dX9_block_35
    · replace h := h.2 q2
      refine lv_aload_n hx hb dX9_block_9 rfl (lv_at hl 0 rfl) ?_
      refine g_getr hx hb hB inB9 hown hK hH (c0 := 0) h0.1 rfl 73 (by decide) k201 rfl (c1 := 64) rfl dX9_block_10 ?_
      refine lv_iload_n hx hb dX9_block_13 rfl (lv_at hl 1 rfl) ?_
      obtain ⟨hi3, h⟩ := h
      refine g_iald hx hb hK hH (c0 := 64) (mA64 h0) hi3 dX9_block_14 ?_
      refine lv_iconst (v := (-1)) hx hb dX9_block_15 (by decide) ?_
      refine lv_icmp_eq (tgt := 34) hx hb dX9_block_16 (by decide) (fun q4 => ?_) (fun q4 => ?_)
      · replace h := h.1 q4
        refine lv_iconst (v := (-1)) hx hb dX9_block_34 (by decide) ?_
        exact g_iret hx hb hr hK hlk h hH dX9_block_35
      · replace h := h.2 q4
        refine lv_iload_n hx hb dX9_block_19 rfl (lv_at hl 2 rfl) ?_
        refine lv_iconst (v := (-1)) hx hb dX9_block_20 (by decide) ?_
        refine lv_icmp_lt (tgt := 34) hx hb dX9_block_21 (by decide) (fun q5 => ?_) (fun q5 => ?_)
        · replace h := h.1 q5
          refine lv_iconst (v := (-1)) hx hb dX9_block_34 (by decide) ?_
          exact g_iret hx hb hr hK hlk h hH dX9_block_35
        · replace h := h.2 q5
          refine lv_iload_n hx hb dX9_block_24 rfl (lv_at hl 2 rfl) ?_
          refine lv_aload_n hx hb dX9_block_25 rfl (lv_at hl 0 rfl) ?_
          refine g_getr hx hb hB inB9 hown hK hH (c0 := 0) h0.1 rfl 73 (by decide) k201 rfl (c1 := 64) rfl dX9_block_26 ?_
          refine lv_iload_n hx hb dX9_block_29 rfl (lv_at hl 1 rfl) ?_
          obtain ⟨hi6, h⟩ := h
          refine g_iald hx hb hK hH (c0 := 64) (mA64 h0) hi6 dX9_block_30 ?_
          refine lv_icmp_lt (tgt := 36) hx hb dX9_block_31 (by decide) (fun q7 => ?_) (fun q7 => ?_)
          · replace h := h.1 q7
            refine lv_iload_n hx hb dX9_block_36 rfl (lv_at hl 2 rfl) ?_
            refine lv_if_ge (tgt := 49) hx hb dX9_block_37 (by decide) (fun q8 => ?_) (fun q8 => ?_)
            · replace h := h.1 q8
              refine lv_aload_n hx hb dX9_block_49 rfl (lv_at hl 0 rfl) ?_
              refine g_getr hx hb hB inB9 hown hK hH (c0 := 0) h0.1 rfl 74 (by decide) k204 rfl (c1 := 65) rfl dX9_block_50 ?_
              refine lv_sipush (v := 250) hx hb dX9_block_53 (by decide) ?_
              refine lv_iload_n hx hb dX9_block_56 rfl (lv_at hl 1 rfl) ?_
              refine lv_imul hx hb dX9_block_57 ?_
              refine lv_iload_n hx hb dX9_block_58 rfl (lv_at hl 2 rfl) ?_
              refine lv_iadd hx hb dX9_block_59 ?_
              obtain ⟨hi9, h⟩ := h
              refine g_iald hx hb hK hH (c0 := 65) (mA65 h0) hi9 dX9_block_60 ?_
              exact g_iret hx hb hr hK hlk h hH dX9_block_61
            · replace h := h.2 q8
              refine lv_aload_n hx hb dX9_block_40 rfl (lv_at hl 0 rfl) ?_
              refine g_getr hx hb hB inB9 hown hK hH (c0 := 0) h0.1 rfl 73 (by decide) k201 rfl (c1 := 64) rfl dX9_block_41 ?_
              refine lv_iload_n hx hb dX9_block_44 rfl (lv_at hl 1 rfl) ?_
              obtain ⟨hi10, h⟩ := h
              refine g_iald hx hb hK hH (c0 := 64) (mA64 h0) hi10 dX9_block_45 ?_
              refine lv_goto (tgt := 61) hx hb dX9_block_46 (by decide) ?_
              exact g_iret hx hb hr hK hlk h hH dX9_block_61
          · replace h := h.2 q7
            refine lv_iconst (v := (-1)) hx hb dX9_block_34 (by decide) ?_
            exact g_iret hx hb hr hK hlk h hH dX9_block_35
def wpX9_sender_L132 (Q : Int32 → Sg → Prop) (K102 : Int32 → Int32 → Int32 → Sg → Prop) (x4 : Int32) (x6 : Int32) (z0 : Int32) (z1 : Int32) (σ : Sg) : Prop := ∀ x5_20 : Int32, x5_20 = z1 + z0 → ∀ x6_21 : Int32, x6_21 = x6 + 1 → K102 x4 x5_20 x6_21 σ
def wpX9_sender_L102 (Q : Int32 → Sg → Prop) : Nat → Int32 → Int32 → Int32 → Sg → Prop
  | 0, _, _, _, _ => False
  | n + 1, x4, x5, x6, σ => ((32 ≤ x6 → Q x5 σ) ∧ (¬ (32 ≤ x6) → (vp_in ((32 * x4) + x6) 192 ∧ (((σ 15 ((32 * x4) + x6).toNatClampNeg) = 0 → wpX9_sender_L132 Q (wpX9_sender_L102 Q n) x4 x6 0 x5 σ) ∧ (¬ ((σ 15 ((32 * x4) + x6).toNatClampNeg) = 0) → wpX9_sender_L132 Q (wpX9_sender_L102 Q n) x4 x6 1 x5 σ)))))
def wpX9_sender (x1 : Int32) (x2 : Int32) (x3 : Int32) (σ : Sg) (Q : Int32 → Sg → Prop) : Prop := wpX9_isThere x1 x2 σ (fun r1 σ1 => ((¬ r1 = 0 → wpX9_at x1 x2 σ1 (fun r3 σ3 => ((x3 = 0 → (vp_in r3 6 ∧ Q (σ3 3 r3.toNatClampNeg) σ3)) ∧ (x3 = 1 → (vp_in r3 6 ∧ Q (σ3 4 r3.toNatClampNeg) σ3)) ∧ (x3 = 2 → ∃ nn, wpX9_sender_L102 Q nn r3 0 0 σ3) ∧ (x3 = 3 → (vp_in r3 6 ∧ Q (σ3 22 r3.toNatClampNeg) σ3)) ∧ (x3 = 4 → wpX9_allAgain r3 σ3 (fun r8 σ8 => Q r8 σ8)) ∧ (x3 = 5 → (vp_in r3 6 ∧ Q (σ3 5 r3.toNatClampNeg) σ3)) ∧ (x3 = 6 → (vp_in r3 6 ∧ (((σ3 13 r3.toNatClampNeg) = 0 → Q 0 σ3) ∧ (¬ ((σ3 13 r3.toNatClampNeg) = 0) → Q 1 σ3)))) ∧ (x3 = 7 → (vp_in r3 6 ∧ Q (σ3 8 r3.toNatClampNeg) σ3)) ∧ (x3 = 8 → (vp_in r3 6 ∧ Q (σ3 9 r3.toNatClampNeg) σ3)) ∧ (x3 = 9 → (vp_in r3 6 ∧ Q (σ3 10 r3.toNatClampNeg) σ3)) ∧ (x3 = 10 → (vp_in r3 6 ∧ Q (σ3 11 r3.toNatClampNeg) σ3)) ∧ (x3 = 11 → (vp_in r3 6 ∧ Q (σ3 2 r3.toNatClampNeg) σ3)) ∧ (¬ (x3 = 0 ∨ x3 = 1 ∨ x3 = 2 ∨ x3 = 3 ∨ x3 = 4 ∨ x3 = 5 ∨ x3 = 6 ∨ x3 = 7 ∨ x3 = 8 ∨ x3 = 9 ∨ x3 = 10 ∨ x3 = 11) → Q (-1) σ3)))) ∧ (r1 = 0 → Q (-1) σ1)))
set_option maxHeartbeats 8000000 in
set_option maxRecDepth 100000 in
theorem tX9_sender {l : Launch} {G : GG} {x1 : Int32} {x2 : Int32} {x3 : Int32} {σ : Sg} {Q : Int32 → Sg → Prop} (h0 : isModel G) (h : wpX9_sender x1 x2 x3 σ Q) : Ki l G yX9_sender (wB yX9_sender prog_11_method_53_code 7 (Option.some FieldType.int)) ({ frames := 2, cells := 0, slots := 0, locals := 48 }) [.ref (ga G 0), .int x1, .int x2, .int x3] σ Q := by
  refine K_of (cc := cX9_sender) (maxL := 7) (ret := (some .int)) (by decide) rfl (Nat.le_of_ble_eq_true rfl) ?_
  intro p e s m args below meth c ls B hH hl
  obtain ⟨hx, hb, hr, hts, hown, hlk, hml, hK, hX⟩ := B
  replace hl : lv_has ls 7 [(0, .ref (ga G 0)), (1, .int x1), (2, .int x2), (3, .int x3)] := hl
  have hB : ∀ w ∈ BIG, w.before args s = true := fun w h9 => hts w (List.mem_cons_of_mem _ h9)
  clear hts
  have k13 := hB _ bw4_121
  have k16 := hB _ bw4_122
  have k19 := hB _ bw4_123
  have k22 := hB _ bw4_124
  have k31 := hB _ bw4_127
  have k34 := hB _ bw4_128
  have k37 := hB _ bw4_129
  have k40 := hB _ bw4_130
  have k47 := hB _ bw4_132
  have k53 := hB _ bw4_134
  have k74 := hB _ bw4_141
  have L102 : ∀ (n102 : Nat) (x4 : Int32) (x5 : Int32) (x6 : Int32) (σ : Sg) (H : Heap) (locs : List Loc) (ls : Array Slot), Hx G (aA G s.heap.size) s σ H locs → lv_has ls 7 [(0, .ref (ga G 0)), (4, .int x4), (5, .int x5), (6, .int x6)] → wpX9_sender_L102 Q n102 x4 x5 x6 σ → W p l e ({ frames := 2, cells := 0, slots := 0, locals := 48 }) s m args below meth c H locs 0 0 (Zi G Q below args s) (F0 m 102 ls []) := by
    intro n102
    induction n102 with
    | zero =>
      intro x4 x5 x6 σ H locs ls hH hl h
      exact False.elim h
    | succ n102 ih102 =>
      have L132 : ∀ (x4 : Int32) (x6 : Int32) (z0 : Int32) (z1 : Int32) (σ : Sg) (H : Heap) (locs : List Loc) (ls : Array Slot), Hx G (aA G s.heap.size) s σ H locs → lv_has ls 7 [(0, .ref (ga G 0)), (4, .int x4), (6, .int x6)] → wpX9_sender_L132 Q (wpX9_sender_L102 Q n102) x4 x6 z0 z1 σ → W p l e ({ frames := 2, cells := 0, slots := 0, locals := 48 }) s m args below meth c H locs 0 0 (Zi G Q below args s) (F0 m 132 ls [.int z0, .int z1]) := by
        intro x4 x6 z0 z1 σ H locs ls hH hl h
        unfold wpX9_sender_L132 at h
        refine lv_iadd hx hb dX9_sender_132 ?_
        refine lv_topi (fun x5_20 ex5_20 => ?_)
        replace h := h x5_20 ex5_20
        refine lv_istore (lv' := [(5, .int x5_20), (0, .ref (ga G 0)), (4, .int x4), (6, .int x6)]) hx hb dX9_sender_133 hl (by decide) rfl (fun ls hl => ?_)
        obtain ⟨x6_21, ex6_21⟩ : ∃ y : Int32, y = x6 + 1 := ⟨_, rfl⟩
        replace h := h x6_21 ex6_21
        refine lv_iinc (v := x6_21) (lv' := [(6, .int x6_21), (5, .int x5_20), (0, .ref (ga G 0)), (4, .int x4)]) hx hb dX9_sender_135 hl (k := 3) rfl (by rw [ex6_21]; rfl) (by decide) rfl (fun ls hl => ?_)
        refine lv_goto (tgt := 102) hx hb dX9_sender_138 (by decide) ?_
        exact ih102 x4 x5_20 x6_21 σ _ _ ls hH (lv_sub hl [2, 3, 1, 0] rfl) h
      intro x4 x5 x6 σ H locs ls hH hl h
      unfold wpX9_sender_L102 at h
      refine lv_iload hx hb dX9_sender_102 (lv_at hl 3 rfl) ?_
      refine lv_bipush (v := 32) hx hb dX9_sender_104 (by decide) ?_
      refine lv_icmp_ge (tgt := 141) hx hb dX9_sender_106 (by decide) (fun q17 => ?_) (fun q17 => ?_)
      · replace h := h.1 q17
        refine lv_iload hx hb dX9_sender_141 (lv_at hl 2 rfl) ?_
        exact g_iret hx hb hr hK hlk h hH dX9_sender_143
      · replace h := h.2 q17
        refine lv_iload hx hb dX9_sender_109 (lv_at hl 2 rfl) ?_
        refine lv_aload_n hx hb dX9_sender_111 rfl (lv_at hl 0 rfl) ?_
        refine g_getr hx hb hB inB9 hown hK hH (c0 := 0) h0.1 rfl 24 (by decide) k53 rfl (c1 := 15) rfl dX9_sender_112 ?_
        refine lv_bipush (v := 32) hx hb dX9_sender_115 (by decide) ?_
        refine lv_iload hx hb dX9_sender_117 (lv_at hl 1 rfl) ?_
        refine lv_imul hx hb dX9_sender_119 ?_
        refine lv_iload hx hb dX9_sender_120 (lv_at hl 3 rfl) ?_
        refine lv_iadd hx hb dX9_sender_122 ?_
        obtain ⟨hi18, h⟩ := h
        refine g_zald hx hb hK hH (c0 := 15) (mA15 h0) hi18 dX9_sender_123 ?_
        refine lv_if_eq (tgt := 131) hx hb dX9_sender_124 (by decide) (fun q19 => ?_) (fun q19 => ?_)
        · replace h := h.1 q19
          refine lv_iconst (v := 0) hx hb dX9_sender_131 (by decide) ?_
          exact L132 x4 x6 0 x5 σ _ _ ls hH (lv_sub hl [0, 1, 3] rfl) h
        · replace h := h.2 q19
          refine lv_iconst (v := 1) hx hb dX9_sender_127 (by decide) ?_
          refine lv_goto (tgt := 132) hx hb dX9_sender_128 (by decide) ?_
          exact L132 x4 x6 1 x5 σ _ _ ls hH (lv_sub hl [0, 1, 3] rfl) h
  unfold wpX9_sender at h
  refine lv_aload_n hx hb dX9_sender_0 rfl (lv_at hl 0 rfl) ?_
  refine lv_iload_n hx hb dX9_sender_1 rfl (lv_at hl 1 rfl) ?_
  refine lv_iload_n hx hb dX9_sender_2 rfl (lv_at hl 2 rfl) ?_
  refine g_callVi (As := [.int x1, .int x2]) (rest := []) ⟨hx, hb, hml, hown, hB⟩ hK hX aA_hA hH (c0 := 0) (tX9_isThere h0 h) (cwV 2 hB gVX9_269 rfl rfl rfl (by decide +kernel) ⟨Nat.le_of_ble_eq_true rfl, Nat.le_of_ble_eq_true rfl⟩) h0.1 rfl rfl hl.1 rfl (lv_room (Nat.le_of_ble_eq_true rfl)) ⟨Nat.zero_le _, Nat.zero_le _⟩ dX9_sender_3 (fun r1 σ1 H locs h hH => ?_)
  refine lv_if_ne (tgt := 11) hx hb dX9_sender_6 (by decide) (fun q2 => ?_) (fun q2 => ?_)
  · replace h := h.1 q2
    refine lv_iload_n hx hb dX9_sender_11 rfl (lv_at hl 1 rfl) ?_
    refine lv_iload_n hx hb dX9_sender_12 rfl (lv_at hl 2 rfl) ?_
    refine g_callSi (As := [.int x1, .int x2]) (rest := []) ⟨hx, hb, hml, hown, hB⟩ hK hX aA_hA hH (tX9_at h) (va_cwS 2 hB gSX9_258 rfl rfl rfl (by decide +kernel) ⟨Nat.le_of_ble_eq_true rfl, Nat.le_of_ble_eq_true rfl⟩) rfl hl.1 rfl (lv_room (Nat.le_of_ble_eq_true rfl)) ⟨Nat.zero_le _, Nat.zero_le _⟩ dX9_sender_13 (fun r3 σ3 H locs h hH => ?_)
    refine lv_istore (lv' := [(4, .int r3), (0, .ref (ga G 0)), (1, .int x1), (2, .int x2), (3, .int x3)]) hx hb dX9_sender_16 hl (by decide) rfl (fun ls hl => ?_)
    refine lv_iload_n hx hb dX9_sender_18 rfl (lv_at hl 4 rfl) ?_
    by_cases g4_0 : x3 = 0
    · refine lv_tableIn (off := 61) (tgt := 80) hx hb dX9_sender_19 (by rw [g4_0]; decide) (by rw [g4_0]; decide) (by rw [g4_0]; rfl) (by decide) ?_
      replace h := h.1 g4_0
      refine lv_aload_n hx hb dX9_sender_80 rfl (lv_at hl 1 rfl) ?_
      refine g_getr hx hb hB inB9 hown hK hH (c0 := 0) h0.1 rfl 12 (by decide) k16 rfl (c1 := 3) rfl dX9_sender_81 ?_
      refine lv_iload hx hb dX9_sender_84 (lv_at hl 0 rfl) ?_
      obtain ⟨hi5, h⟩ := h
      refine g_iald hx hb hK hH (c0 := 3) (mA3 h0) hi5 dX9_sender_86 ?_
      exact g_iret hx hb hr hK hlk h hH dX9_sender_87
    by_cases g4_1 : x3 = 1
    · refine lv_tableIn (off := 69) (tgt := 88) hx hb dX9_sender_19 (by rw [g4_1]; decide) (by rw [g4_1]; decide) (by rw [g4_1]; rfl) (by decide) ?_
      replace h := h.2.1 g4_1
      refine lv_aload_n hx hb dX9_sender_88 rfl (lv_at hl 1 rfl) ?_
      refine g_getr hx hb hB inB9 hown hK hH (c0 := 0) h0.1 rfl 13 (by decide) k19 rfl (c1 := 4) rfl dX9_sender_89 ?_
      refine lv_iload hx hb dX9_sender_92 (lv_at hl 0 rfl) ?_
      obtain ⟨hi6, h⟩ := h
      refine g_iald hx hb hK hH (c0 := 4) (mA4 h0) hi6 dX9_sender_94 ?_
      exact g_iret hx hb hr hK hlk h hH dX9_sender_95
    by_cases g4_2 : x3 = 2
    · refine lv_tableIn (off := 77) (tgt := 96) hx hb dX9_sender_19 (by rw [g4_2]; decide) (by rw [g4_2]; decide) (by rw [g4_2]; rfl) (by decide) ?_
      replace h := h.2.2.1 g4_2
      refine lv_iconst (v := 0) hx hb dX9_sender_96 (by decide) ?_
      refine lv_istore (lv' := [(5, .int 0), (4, .int r3), (0, .ref (ga G 0)), (1, .int x1), (2, .int x2), (3, .int x3)]) hx hb dX9_sender_97 hl (by decide) rfl (fun ls hl => ?_)
      refine lv_iconst (v := 0) hx hb dX9_sender_99 (by decide) ?_
      refine lv_istore (lv' := [(6, .int 0), (5, .int 0), (4, .int r3), (0, .ref (ga G 0)), (1, .int x1), (2, .int x2), (3, .int x3)]) hx hb dX9_sender_100 hl (by decide) rfl (fun ls hl => ?_)
      obtain ⟨nn, h⟩ := h
      exact L102 nn r3 0 0 σ3 _ _ ls hH (lv_sub hl [3, 2, 1, 0] rfl) h
    by_cases g4_3 : x3 = 3
    · refine lv_tableIn (off := 125) (tgt := 144) hx hb dX9_sender_19 (by rw [g4_3]; decide) (by rw [g4_3]; decide) (by rw [g4_3]; rfl) (by decide) ?_
      replace h := h.2.2.2.1 g4_3
      refine lv_aload_n hx hb dX9_sender_144 rfl (lv_at hl 1 rfl) ?_
      refine g_getr hx hb hB inB9 hown hK hH (c0 := 0) h0.1 rfl 31 (by decide) k74 rfl (c1 := 22) rfl dX9_sender_145 ?_
      refine lv_iload hx hb dX9_sender_148 (lv_at hl 0 rfl) ?_
      obtain ⟨hi7, h⟩ := h
      refine g_iald hx hb hK hH (c0 := 22) (mA22 h0) hi7 dX9_sender_150 ?_
      exact g_iret hx hb hr hK hlk h hH dX9_sender_151
    by_cases g4_4 : x3 = 4
    · refine lv_tableIn (off := 133) (tgt := 152) hx hb dX9_sender_19 (by rw [g4_4]; decide) (by rw [g4_4]; decide) (by rw [g4_4]; rfl) (by decide) ?_
      replace h := h.2.2.2.2.1 g4_4
      refine lv_aload_n hx hb dX9_sender_152 rfl (lv_at hl 1 rfl) ?_
      refine lv_iload hx hb dX9_sender_153 (lv_at hl 0 rfl) ?_
      refine g_callVi (As := [.int r3]) (rest := []) ⟨hx, hb, hml, hown, hB⟩ hK hX aA_hA hH (c0 := 0) (tX9_allAgain h0 h) (cwV 1 hB gVX9_289 rfl rfl rfl (by decide +kernel) ⟨Nat.le_of_ble_eq_true rfl, Nat.le_of_ble_eq_true rfl⟩) h0.1 rfl rfl hl.1 rfl (lv_room (Nat.le_of_ble_eq_true rfl)) ⟨Nat.zero_le _, Nat.zero_le _⟩ dX9_sender_155 (fun r8 σ8 H locs h hH => ?_)
      exact g_iret hx hb hr hK hlk h hH dX9_sender_158
    by_cases g4_5 : x3 = 5
    · refine lv_tableIn (off := 140) (tgt := 159) hx hb dX9_sender_19 (by rw [g4_5]; decide) (by rw [g4_5]; decide) (by rw [g4_5]; rfl) (by decide) ?_
      replace h := h.2.2.2.2.2.1 g4_5
      refine lv_aload_n hx hb dX9_sender_159 rfl (lv_at hl 1 rfl) ?_
      refine g_getr hx hb hB inB9 hown hK hH (c0 := 0) h0.1 rfl 14 (by decide) k22 rfl (c1 := 5) rfl dX9_sender_160 ?_
      refine lv_iload hx hb dX9_sender_163 (lv_at hl 0 rfl) ?_
      obtain ⟨hi9, h⟩ := h
      refine g_iald hx hb hK hH (c0 := 5) (mA5 h0) hi9 dX9_sender_165 ?_
      exact g_iret hx hb hr hK hlk h hH dX9_sender_166
    by_cases g4_6 : x3 = 6
    · refine lv_tableIn (off := 148) (tgt := 167) hx hb dX9_sender_19 (by rw [g4_6]; decide) (by rw [g4_6]; decide) (by rw [g4_6]; rfl) (by decide) ?_
      replace h := h.2.2.2.2.2.2.1 g4_6
      refine lv_aload_n hx hb dX9_sender_167 rfl (lv_at hl 1 rfl) ?_
      refine g_getr hx hb hB inB9 hown hK hH (c0 := 0) h0.1 rfl 22 (by decide) k47 rfl (c1 := 13) rfl dX9_sender_168 ?_
      refine lv_iload hx hb dX9_sender_171 (lv_at hl 0 rfl) ?_
      obtain ⟨hi10, h⟩ := h
      refine g_zald hx hb hK hH (c0 := 13) (mA13 h0) hi10 dX9_sender_173 ?_
      refine lv_if_eq (tgt := 181) hx hb dX9_sender_174 (by decide) (fun q11 => ?_) (fun q11 => ?_)
      · replace h := h.1 q11
        refine lv_iconst (v := 0) hx hb dX9_sender_181 (by decide) ?_
        exact g_iret hx hb hr hK hlk h hH dX9_sender_182
      · replace h := h.2 q11
        refine lv_iconst (v := 1) hx hb dX9_sender_177 (by decide) ?_
        refine lv_goto (tgt := 182) hx hb dX9_sender_178 (by decide) ?_
        exact g_iret hx hb hr hK hlk h hH dX9_sender_182
    by_cases g4_7 : x3 = 7
    · refine lv_tableIn (off := 164) (tgt := 183) hx hb dX9_sender_19 (by rw [g4_7]; decide) (by rw [g4_7]; decide) (by rw [g4_7]; rfl) (by decide) ?_
      replace h := h.2.2.2.2.2.2.2.1 g4_7
      refine lv_aload_n hx hb dX9_sender_183 rfl (lv_at hl 1 rfl) ?_
      refine g_getr hx hb hB inB9 hown hK hH (c0 := 0) h0.1 rfl 17 (by decide) k31 rfl (c1 := 8) rfl dX9_sender_184 ?_
      refine lv_iload hx hb dX9_sender_187 (lv_at hl 0 rfl) ?_
      obtain ⟨hi12, h⟩ := h
      refine g_iald hx hb hK hH (c0 := 8) (mA8 h0) hi12 dX9_sender_189 ?_
      exact g_iret hx hb hr hK hlk h hH dX9_sender_190
    by_cases g4_8 : x3 = 8
    · refine lv_tableIn (off := 172) (tgt := 191) hx hb dX9_sender_19 (by rw [g4_8]; decide) (by rw [g4_8]; decide) (by rw [g4_8]; rfl) (by decide) ?_
      replace h := h.2.2.2.2.2.2.2.2.1 g4_8
      refine lv_aload_n hx hb dX9_sender_191 rfl (lv_at hl 1 rfl) ?_
      refine g_getr hx hb hB inB9 hown hK hH (c0 := 0) h0.1 rfl 18 (by decide) k34 rfl (c1 := 9) rfl dX9_sender_192 ?_
      refine lv_iload hx hb dX9_sender_195 (lv_at hl 0 rfl) ?_
      obtain ⟨hi13, h⟩ := h
      refine g_iald hx hb hK hH (c0 := 9) (mA9 h0) hi13 dX9_sender_197 ?_
      exact g_iret hx hb hr hK hlk h hH dX9_sender_198
    by_cases g4_9 : x3 = 9
    · refine lv_tableIn (off := 180) (tgt := 199) hx hb dX9_sender_19 (by rw [g4_9]; decide) (by rw [g4_9]; decide) (by rw [g4_9]; rfl) (by decide) ?_
      replace h := h.2.2.2.2.2.2.2.2.2.1 g4_9
      refine lv_aload_n hx hb dX9_sender_199 rfl (lv_at hl 1 rfl) ?_
      refine g_getr hx hb hB inB9 hown hK hH (c0 := 0) h0.1 rfl 19 (by decide) k37 rfl (c1 := 10) rfl dX9_sender_200 ?_
      refine lv_iload hx hb dX9_sender_203 (lv_at hl 0 rfl) ?_
      obtain ⟨hi14, h⟩ := h
      refine g_iald hx hb hK hH (c0 := 10) (mA10 h0) hi14 dX9_sender_205 ?_
      exact g_iret hx hb hr hK hlk h hH dX9_sender_206
    by_cases g4_10 : x3 = 10
    · refine lv_tableIn (off := 188) (tgt := 207) hx hb dX9_sender_19 (by rw [g4_10]; decide) (by rw [g4_10]; decide) (by rw [g4_10]; rfl) (by decide) ?_
      replace h := h.2.2.2.2.2.2.2.2.2.2.1 g4_10
      refine lv_aload_n hx hb dX9_sender_207 rfl (lv_at hl 1 rfl) ?_
      refine g_getr hx hb hB inB9 hown hK hH (c0 := 0) h0.1 rfl 20 (by decide) k40 rfl (c1 := 11) rfl dX9_sender_208 ?_
      refine lv_iload hx hb dX9_sender_211 (lv_at hl 0 rfl) ?_
      obtain ⟨hi15, h⟩ := h
      refine g_iald hx hb hK hH (c0 := 11) (mA11 h0) hi15 dX9_sender_213 ?_
      exact g_iret hx hb hr hK hlk h hH dX9_sender_214
    by_cases g4_11 : x3 = 11
    · refine lv_tableIn (off := 196) (tgt := 215) hx hb dX9_sender_19 (by rw [g4_11]; decide) (by rw [g4_11]; decide) (by rw [g4_11]; rfl) (by decide) ?_
      replace h := h.2.2.2.2.2.2.2.2.2.2.2.1 g4_11
      refine lv_aload_n hx hb dX9_sender_215 rfl (lv_at hl 1 rfl) ?_
      refine g_getr hx hb hB inB9 hown hK hH (c0 := 0) h0.1 rfl 11 (by decide) k13 rfl (c1 := 2) rfl dX9_sender_216 ?_
      refine lv_iload hx hb dX9_sender_219 (lv_at hl 0 rfl) ?_
      obtain ⟨hi16, h⟩ := h
      refine g_iald hx hb hK hH (c0 := 2) (mA2 h0) hi16 dX9_sender_221 ?_
      exact g_iret hx hb hr hK hlk h hH dX9_sender_222
    have gg4 : ∀ k : Nat, k < 12 → ¬ x3 = nI k := by
      intro k hk
      rcases (show k = 0 ∨ k = 1 ∨ k = 2 ∨ k = 3 ∨ k = 4 ∨ k = 5 ∨ k = 6 ∨ k = 7 ∨ k = 8 ∨ k = 9 ∨ k = 10 ∨ k = 11 by omega) with rfl | rfl | rfl | rfl | rfl | rfl | rfl | rfl | rfl | rfl | rfl | rfl <;> assumption
    refine lv_tableOut (tgt := 223) hx hb dX9_sender_19 (sw_out (n := 12) (by decide) (by decide) gg4) (by decide) ?_
    replace h := h.2.2.2.2.2.2.2.2.2.2.2.2 (by simp only [not_or]; exact ⟨g4_0, g4_1, g4_2, g4_3, g4_4, g4_5, g4_6, g4_7, g4_8, g4_9, g4_10, g4_11⟩)
    refine lv_iconst (v := (-1)) hx hb dX9_sender_223 (by decide) ?_
    exact g_iret hx hb hr hK hlk h hH dX9_sender_224
  · replace h := h.2 q2
    refine lv_iconst (v := (-1)) hx hb dX9_sender_9 (by decide) ?_
    exact g_iret hx hb hr hK hlk h hH dX9_sender_10
def wpX9_receiver_L182 (Q : Int32 → Sg → Prop) (K150 : Int32 → Int32 → Int32 → Sg → Prop) (x4 : Int32) (x6 : Int32) (z0 : Int32) (z1 : Int32) (σ : Sg) : Prop := ∀ x5_20 : Int32, x5_20 = z1 + z0 → ∀ x6_21 : Int32, x6_21 = x6 + 1 → K150 x4 x5_20 x6_21 σ
def wpX9_receiver_L150 (Q : Int32 → Sg → Prop) : Nat → Int32 → Int32 → Int32 → Sg → Prop
  | 0, _, _, _, _ => False
  | n + 1, x4, x5, x6, σ => ((7680 ≤ x6 → Q x5 σ) ∧ (¬ (7680 ≤ x6) → (vp_in ((7680 * x4) + x6) 46080 ∧ (((σ 46 ((7680 * x4) + x6).toNatClampNeg) = 0 → wpX9_receiver_L182 Q (wpX9_receiver_L150 Q n) x4 x6 0 x5 σ) ∧ (¬ ((σ 46 ((7680 * x4) + x6).toNatClampNeg) = 0) → wpX9_receiver_L182 Q (wpX9_receiver_L150 Q n) x4 x6 1 x5 σ)))))
def wpX9_receiver (x1 : Int32) (x2 : Int32) (x3 : Int32) (σ : Sg) (Q : Int32 → Sg → Prop) : Prop := wpX9_isThere x1 x2 σ (fun r1 σ1 => ((¬ r1 = 0 → wpX9_at x1 x2 σ1 (fun r3 σ3 => ((x3 = 0 → (vp_in r3 6 ∧ Q (σ3 33 r3.toNatClampNeg) σ3)) ∧ (x3 = 1 → (vp_in r3 6 ∧ Q (σ3 34 r3.toNatClampNeg) σ3)) ∧ (x3 = 2 → (vp_in r3 6 ∧ Q (σ3 35 r3.toNatClampNeg) σ3)) ∧ (x3 = 3 → (vp_in r3 6 ∧ Q (σ3 36 r3.toNatClampNeg) σ3)) ∧ (x3 = 4 → (vp_in r3 6 ∧ Q (σ3 37 r3.toNatClampNeg) σ3)) ∧ (x3 = 5 → (vp_in r3 6 ∧ Q (σ3 38 r3.toNatClampNeg) σ3)) ∧ (x3 = 6 → (vp_in r3 6 ∧ (((σ3 43 r3.toNatClampNeg) = 0 → Q 0 σ3) ∧ (¬ ((σ3 43 r3.toNatClampNeg) = 0) → Q 1 σ3)))) ∧ (x3 = 7 → ∃ nn, wpX9_receiver_L150 Q nn r3 0 0 σ3) ∧ (x3 = 8 → (vp_in r3 6 ∧ Q (σ3 40 r3.toNatClampNeg) σ3)) ∧ (x3 = 9 → (vp_in r3 6 ∧ Q (σ3 41 r3.toNatClampNeg) σ3)) ∧ (x3 = 10 → (vp_in r3 6 ∧ Q (σ3 42 r3.toNatClampNeg) σ3)) ∧ (x3 = 11 → (vp_in r3 6 ∧ Q (σ3 39 r3.toNatClampNeg) σ3)) ∧ (¬ (x3 = 0 ∨ x3 = 1 ∨ x3 = 2 ∨ x3 = 3 ∨ x3 = 4 ∨ x3 = 5 ∨ x3 = 6 ∨ x3 = 7 ∨ x3 = 8 ∨ x3 = 9 ∨ x3 = 10 ∨ x3 = 11) → Q (-1) σ3)))) ∧ (r1 = 0 → Q (-1) σ1)))
set_option maxHeartbeats 8000000 in
set_option maxRecDepth 100000 in
theorem tX9_receiver {l : Launch} {G : GG} {x1 : Int32} {x2 : Int32} {x3 : Int32} {σ : Sg} {Q : Int32 → Sg → Prop} (h0 : isModel G) (h : wpX9_receiver x1 x2 x3 σ Q) : Ki l G yX9_receiver (wB yX9_receiver prog_11_method_54_code 7 (Option.some FieldType.int)) ({ frames := 1, cells := 0, slots := 0, locals := 22 }) [.ref (ga G 0), .int x1, .int x2, .int x3] σ Q := by
  refine K_of (cc := cX9_receiver) (maxL := 7) (ret := (some .int)) (by decide) rfl (Nat.le_of_ble_eq_true rfl) ?_
  intro p e s m args below meth c ls B hH hl
  obtain ⟨hx, hb, hr, hts, hown, hlk, hml, hK, hX⟩ := B
  replace hl : lv_has ls 7 [(0, .ref (ga G 0)), (1, .int x1), (2, .int x2), (3, .int x3)] := hl
  have hB : ∀ w ∈ BIG, w.before args s = true := fun w h9 => hts w (List.mem_cons_of_mem _ h9)
  clear hts
  have k107 := hB _ bw4_152
  have k110 := hB _ bw4_153
  have k113 := hB _ bw4_154
  have k116 := hB _ bw4_155
  have k119 := hB _ bw4_156
  have k122 := hB _ bw4_157
  have k125 := hB _ bw4_158
  have k128 := hB _ bw4_159
  have k131 := hB _ bw4_160
  have k134 := hB _ bw4_161
  have k137 := hB _ bw4_162
  have k147 := hB _ bw4_165
  have L150 : ∀ (n150 : Nat) (x4 : Int32) (x5 : Int32) (x6 : Int32) (σ : Sg) (H : Heap) (locs : List Loc) (ls : Array Slot), Hx G (aA G s.heap.size) s σ H locs → lv_has ls 7 [(0, .ref (ga G 0)), (4, .int x4), (5, .int x5), (6, .int x6)] → wpX9_receiver_L150 Q n150 x4 x5 x6 σ → W p l e ({ frames := 1, cells := 0, slots := 0, locals := 22 }) s m args below meth c H locs 0 0 (Zi G Q below args s) (F0 m 150 ls []) := by
    intro n150
    induction n150 with
    | zero =>
      intro x4 x5 x6 σ H locs ls hH hl h
      exact False.elim h
    | succ n150 ih150 =>
      have L182 : ∀ (x4 : Int32) (x6 : Int32) (z0 : Int32) (z1 : Int32) (σ : Sg) (H : Heap) (locs : List Loc) (ls : Array Slot), Hx G (aA G s.heap.size) s σ H locs → lv_has ls 7 [(0, .ref (ga G 0)), (4, .int x4), (6, .int x6)] → wpX9_receiver_L182 Q (wpX9_receiver_L150 Q n150) x4 x6 z0 z1 σ → W p l e ({ frames := 1, cells := 0, slots := 0, locals := 22 }) s m args below meth c H locs 0 0 (Zi G Q below args s) (F0 m 182 ls [.int z0, .int z1]) := by
        intro x4 x6 z0 z1 σ H locs ls hH hl h
        unfold wpX9_receiver_L182 at h
        refine lv_iadd hx hb dX9_receiver_182 ?_
        refine lv_topi (fun x5_20 ex5_20 => ?_)
        replace h := h x5_20 ex5_20
        refine lv_istore (lv' := [(5, .int x5_20), (0, .ref (ga G 0)), (4, .int x4), (6, .int x6)]) hx hb dX9_receiver_183 hl (by decide) rfl (fun ls hl => ?_)
        obtain ⟨x6_21, ex6_21⟩ : ∃ y : Int32, y = x6 + 1 := ⟨_, rfl⟩
        replace h := h x6_21 ex6_21
        refine lv_iinc (v := x6_21) (lv' := [(6, .int x6_21), (5, .int x5_20), (0, .ref (ga G 0)), (4, .int x4)]) hx hb dX9_receiver_185 hl (k := 3) rfl (by rw [ex6_21]; rfl) (by decide) rfl (fun ls hl => ?_)
        refine lv_goto (tgt := 150) hx hb dX9_receiver_188 (by decide) ?_
        exact ih150 x4 x5_20 x6_21 σ _ _ ls hH (lv_sub hl [2, 3, 1, 0] rfl) h
      intro x4 x5 x6 σ H locs ls hH hl h
      unfold wpX9_receiver_L150 at h
      refine lv_iload hx hb dX9_receiver_150 (lv_at hl 3 rfl) ?_
      refine lv_sipush (v := 7680) hx hb dX9_receiver_152 (by decide) ?_
      refine lv_icmp_ge (tgt := 191) hx hb dX9_receiver_155 (by decide) (fun q17 => ?_) (fun q17 => ?_)
      · replace h := h.1 q17
        refine lv_iload hx hb dX9_receiver_191 (lv_at hl 2 rfl) ?_
        exact g_iret hx hb hr hK hlk h hH dX9_receiver_193
      · replace h := h.2 q17
        refine lv_iload hx hb dX9_receiver_158 (lv_at hl 2 rfl) ?_
        refine lv_aload_n hx hb dX9_receiver_160 rfl (lv_at hl 0 rfl) ?_
        refine g_getr hx hb hB inB9 hown hK hH (c0 := 0) h0.1 rfl 55 (by decide) k147 rfl (c1 := 46) rfl dX9_receiver_161 ?_
        refine lv_sipush (v := 7680) hx hb dX9_receiver_164 (by decide) ?_
        refine lv_iload hx hb dX9_receiver_167 (lv_at hl 1 rfl) ?_
        refine lv_imul hx hb dX9_receiver_169 ?_
        refine lv_iload hx hb dX9_receiver_170 (lv_at hl 3 rfl) ?_
        refine lv_iadd hx hb dX9_receiver_172 ?_
        obtain ⟨hi18, h⟩ := h
        refine g_zald hx hb hK hH (c0 := 46) (mA46 h0) hi18 dX9_receiver_173 ?_
        refine lv_if_eq (tgt := 181) hx hb dX9_receiver_174 (by decide) (fun q19 => ?_) (fun q19 => ?_)
        · replace h := h.1 q19
          refine lv_iconst (v := 0) hx hb dX9_receiver_181 (by decide) ?_
          exact L182 x4 x6 0 x5 σ _ _ ls hH (lv_sub hl [0, 1, 3] rfl) h
        · replace h := h.2 q19
          refine lv_iconst (v := 1) hx hb dX9_receiver_177 (by decide) ?_
          refine lv_goto (tgt := 182) hx hb dX9_receiver_178 (by decide) ?_
          exact L182 x4 x6 1 x5 σ _ _ ls hH (lv_sub hl [0, 1, 3] rfl) h
  unfold wpX9_receiver at h
  refine lv_aload_n hx hb dX9_receiver_0 rfl (lv_at hl 0 rfl) ?_
  refine lv_iload_n hx hb dX9_receiver_1 rfl (lv_at hl 1 rfl) ?_
  refine lv_iload_n hx hb dX9_receiver_2 rfl (lv_at hl 2 rfl) ?_
  refine g_callVi (As := [.int x1, .int x2]) (rest := []) ⟨hx, hb, hml, hown, hB⟩ hK hX aA_hA hH (c0 := 0) (tX9_isThere h0 h) (cwV 2 hB gVX9_269 rfl rfl rfl (by decide +kernel) ⟨Nat.le_of_ble_eq_true rfl, Nat.le_of_ble_eq_true rfl⟩) h0.1 rfl rfl hl.1 rfl (lv_room (Nat.le_of_ble_eq_true rfl)) ⟨Nat.zero_le _, Nat.zero_le _⟩ dX9_receiver_3 (fun r1 σ1 H locs h hH => ?_)
  refine lv_if_ne (tgt := 11) hx hb dX9_receiver_6 (by decide) (fun q2 => ?_) (fun q2 => ?_)
  · replace h := h.1 q2
    refine lv_iload_n hx hb dX9_receiver_11 rfl (lv_at hl 1 rfl) ?_
    refine lv_iload_n hx hb dX9_receiver_12 rfl (lv_at hl 2 rfl) ?_
    refine g_callSi (As := [.int x1, .int x2]) (rest := []) ⟨hx, hb, hml, hown, hB⟩ hK hX aA_hA hH (tX9_at h) (va_cwS 2 hB gSX9_258 rfl rfl rfl (by decide +kernel) ⟨Nat.le_of_ble_eq_true rfl, Nat.le_of_ble_eq_true rfl⟩) rfl hl.1 rfl (lv_room (Nat.le_of_ble_eq_true rfl)) ⟨Nat.zero_le _, Nat.zero_le _⟩ dX9_receiver_13 (fun r3 σ3 H locs h hH => ?_)
    refine lv_istore (lv' := [(4, .int r3), (0, .ref (ga G 0)), (1, .int x1), (2, .int x2), (3, .int x3)]) hx hb dX9_receiver_16 hl (by decide) rfl (fun ls hl => ?_)
    refine lv_iload_n hx hb dX9_receiver_18 rfl (lv_at hl 4 rfl) ?_
    by_cases g4_0 : x3 = 0
    · refine lv_tableIn (off := 61) (tgt := 80) hx hb dX9_receiver_19 (by rw [g4_0]; decide) (by rw [g4_0]; decide) (by rw [g4_0]; rfl) (by decide) ?_
      replace h := h.1 g4_0
      refine lv_aload_n hx hb dX9_receiver_80 rfl (lv_at hl 1 rfl) ?_
      refine g_getr hx hb hB inB9 hown hK hH (c0 := 0) h0.1 rfl 42 (by decide) k107 rfl (c1 := 33) rfl dX9_receiver_81 ?_
      refine lv_iload hx hb dX9_receiver_84 (lv_at hl 0 rfl) ?_
      obtain ⟨hi5, h⟩ := h
      refine g_iald hx hb hK hH (c0 := 33) (mA33 h0) hi5 dX9_receiver_86 ?_
      exact g_iret hx hb hr hK hlk h hH dX9_receiver_87
    by_cases g4_1 : x3 = 1
    · refine lv_tableIn (off := 69) (tgt := 88) hx hb dX9_receiver_19 (by rw [g4_1]; decide) (by rw [g4_1]; decide) (by rw [g4_1]; rfl) (by decide) ?_
      replace h := h.2.1 g4_1
      refine lv_aload_n hx hb dX9_receiver_88 rfl (lv_at hl 1 rfl) ?_
      refine g_getr hx hb hB inB9 hown hK hH (c0 := 0) h0.1 rfl 43 (by decide) k110 rfl (c1 := 34) rfl dX9_receiver_89 ?_
      refine lv_iload hx hb dX9_receiver_92 (lv_at hl 0 rfl) ?_
      obtain ⟨hi6, h⟩ := h
      refine g_iald hx hb hK hH (c0 := 34) (mA34 h0) hi6 dX9_receiver_94 ?_
      exact g_iret hx hb hr hK hlk h hH dX9_receiver_95
    by_cases g4_2 : x3 = 2
    · refine lv_tableIn (off := 77) (tgt := 96) hx hb dX9_receiver_19 (by rw [g4_2]; decide) (by rw [g4_2]; decide) (by rw [g4_2]; rfl) (by decide) ?_
      replace h := h.2.2.1 g4_2
      refine lv_aload_n hx hb dX9_receiver_96 rfl (lv_at hl 1 rfl) ?_
      refine g_getr hx hb hB inB9 hown hK hH (c0 := 0) h0.1 rfl 44 (by decide) k113 rfl (c1 := 35) rfl dX9_receiver_97 ?_
      refine lv_iload hx hb dX9_receiver_100 (lv_at hl 0 rfl) ?_
      obtain ⟨hi7, h⟩ := h
      refine g_iald hx hb hK hH (c0 := 35) (mA35 h0) hi7 dX9_receiver_102 ?_
      exact g_iret hx hb hr hK hlk h hH dX9_receiver_103
    by_cases g4_3 : x3 = 3
    · refine lv_tableIn (off := 85) (tgt := 104) hx hb dX9_receiver_19 (by rw [g4_3]; decide) (by rw [g4_3]; decide) (by rw [g4_3]; rfl) (by decide) ?_
      replace h := h.2.2.2.1 g4_3
      refine lv_aload_n hx hb dX9_receiver_104 rfl (lv_at hl 1 rfl) ?_
      refine g_getr hx hb hB inB9 hown hK hH (c0 := 0) h0.1 rfl 45 (by decide) k116 rfl (c1 := 36) rfl dX9_receiver_105 ?_
      refine lv_iload hx hb dX9_receiver_108 (lv_at hl 0 rfl) ?_
      obtain ⟨hi8, h⟩ := h
      refine g_iald hx hb hK hH (c0 := 36) (mA36 h0) hi8 dX9_receiver_110 ?_
      exact g_iret hx hb hr hK hlk h hH dX9_receiver_111
    by_cases g4_4 : x3 = 4
    · refine lv_tableIn (off := 93) (tgt := 112) hx hb dX9_receiver_19 (by rw [g4_4]; decide) (by rw [g4_4]; decide) (by rw [g4_4]; rfl) (by decide) ?_
      replace h := h.2.2.2.2.1 g4_4
      refine lv_aload_n hx hb dX9_receiver_112 rfl (lv_at hl 1 rfl) ?_
      refine g_getr hx hb hB inB9 hown hK hH (c0 := 0) h0.1 rfl 46 (by decide) k119 rfl (c1 := 37) rfl dX9_receiver_113 ?_
      refine lv_iload hx hb dX9_receiver_116 (lv_at hl 0 rfl) ?_
      obtain ⟨hi9, h⟩ := h
      refine g_iald hx hb hK hH (c0 := 37) (mA37 h0) hi9 dX9_receiver_118 ?_
      exact g_iret hx hb hr hK hlk h hH dX9_receiver_119
    by_cases g4_5 : x3 = 5
    · refine lv_tableIn (off := 101) (tgt := 120) hx hb dX9_receiver_19 (by rw [g4_5]; decide) (by rw [g4_5]; decide) (by rw [g4_5]; rfl) (by decide) ?_
      replace h := h.2.2.2.2.2.1 g4_5
      refine lv_aload_n hx hb dX9_receiver_120 rfl (lv_at hl 1 rfl) ?_
      refine g_getr hx hb hB inB9 hown hK hH (c0 := 0) h0.1 rfl 47 (by decide) k122 rfl (c1 := 38) rfl dX9_receiver_121 ?_
      refine lv_iload hx hb dX9_receiver_124 (lv_at hl 0 rfl) ?_
      obtain ⟨hi10, h⟩ := h
      refine g_iald hx hb hK hH (c0 := 38) (mA38 h0) hi10 dX9_receiver_126 ?_
      exact g_iret hx hb hr hK hlk h hH dX9_receiver_127
    by_cases g4_6 : x3 = 6
    · refine lv_tableIn (off := 109) (tgt := 128) hx hb dX9_receiver_19 (by rw [g4_6]; decide) (by rw [g4_6]; decide) (by rw [g4_6]; rfl) (by decide) ?_
      replace h := h.2.2.2.2.2.2.1 g4_6
      refine lv_aload_n hx hb dX9_receiver_128 rfl (lv_at hl 1 rfl) ?_
      refine g_getr hx hb hB inB9 hown hK hH (c0 := 0) h0.1 rfl 52 (by decide) k137 rfl (c1 := 43) rfl dX9_receiver_129 ?_
      refine lv_iload hx hb dX9_receiver_132 (lv_at hl 0 rfl) ?_
      obtain ⟨hi11, h⟩ := h
      refine g_zald hx hb hK hH (c0 := 43) (mA43 h0) hi11 dX9_receiver_134 ?_
      refine lv_if_eq (tgt := 142) hx hb dX9_receiver_135 (by decide) (fun q12 => ?_) (fun q12 => ?_)
      · replace h := h.1 q12
        refine lv_iconst (v := 0) hx hb dX9_receiver_142 (by decide) ?_
        exact g_iret hx hb hr hK hlk h hH dX9_receiver_143
      · replace h := h.2 q12
        refine lv_iconst (v := 1) hx hb dX9_receiver_138 (by decide) ?_
        refine lv_goto (tgt := 143) hx hb dX9_receiver_139 (by decide) ?_
        exact g_iret hx hb hr hK hlk h hH dX9_receiver_143
    by_cases g4_7 : x3 = 7
    · refine lv_tableIn (off := 125) (tgt := 144) hx hb dX9_receiver_19 (by rw [g4_7]; decide) (by rw [g4_7]; decide) (by rw [g4_7]; rfl) (by decide) ?_
      replace h := h.2.2.2.2.2.2.2.1 g4_7
      refine lv_iconst (v := 0) hx hb dX9_receiver_144 (by decide) ?_
      refine lv_istore (lv' := [(5, .int 0), (4, .int r3), (0, .ref (ga G 0)), (1, .int x1), (2, .int x2), (3, .int x3)]) hx hb dX9_receiver_145 hl (by decide) rfl (fun ls hl => ?_)
      refine lv_iconst (v := 0) hx hb dX9_receiver_147 (by decide) ?_
      refine lv_istore (lv' := [(6, .int 0), (5, .int 0), (4, .int r3), (0, .ref (ga G 0)), (1, .int x1), (2, .int x2), (3, .int x3)]) hx hb dX9_receiver_148 hl (by decide) rfl (fun ls hl => ?_)
      obtain ⟨nn, h⟩ := h
      exact L150 nn r3 0 0 σ3 _ _ ls hH (lv_sub hl [3, 2, 1, 0] rfl) h
    by_cases g4_8 : x3 = 8
    · refine lv_tableIn (off := 175) (tgt := 194) hx hb dX9_receiver_19 (by rw [g4_8]; decide) (by rw [g4_8]; decide) (by rw [g4_8]; rfl) (by decide) ?_
      replace h := h.2.2.2.2.2.2.2.2.1 g4_8
      refine lv_aload_n hx hb dX9_receiver_194 rfl (lv_at hl 1 rfl) ?_
      refine g_getr hx hb hB inB9 hown hK hH (c0 := 0) h0.1 rfl 49 (by decide) k128 rfl (c1 := 40) rfl dX9_receiver_195 ?_
      refine lv_iload hx hb dX9_receiver_198 (lv_at hl 0 rfl) ?_
      obtain ⟨hi13, h⟩ := h
      refine g_iald hx hb hK hH (c0 := 40) (mA40 h0) hi13 dX9_receiver_200 ?_
      exact g_iret hx hb hr hK hlk h hH dX9_receiver_201
    by_cases g4_9 : x3 = 9
    · refine lv_tableIn (off := 183) (tgt := 202) hx hb dX9_receiver_19 (by rw [g4_9]; decide) (by rw [g4_9]; decide) (by rw [g4_9]; rfl) (by decide) ?_
      replace h := h.2.2.2.2.2.2.2.2.2.1 g4_9
      refine lv_aload_n hx hb dX9_receiver_202 rfl (lv_at hl 1 rfl) ?_
      refine g_getr hx hb hB inB9 hown hK hH (c0 := 0) h0.1 rfl 50 (by decide) k131 rfl (c1 := 41) rfl dX9_receiver_203 ?_
      refine lv_iload hx hb dX9_receiver_206 (lv_at hl 0 rfl) ?_
      obtain ⟨hi14, h⟩ := h
      refine g_iald hx hb hK hH (c0 := 41) (mA41 h0) hi14 dX9_receiver_208 ?_
      exact g_iret hx hb hr hK hlk h hH dX9_receiver_209
    by_cases g4_10 : x3 = 10
    · refine lv_tableIn (off := 191) (tgt := 210) hx hb dX9_receiver_19 (by rw [g4_10]; decide) (by rw [g4_10]; decide) (by rw [g4_10]; rfl) (by decide) ?_
      replace h := h.2.2.2.2.2.2.2.2.2.2.1 g4_10
      refine lv_aload_n hx hb dX9_receiver_210 rfl (lv_at hl 1 rfl) ?_
      refine g_getr hx hb hB inB9 hown hK hH (c0 := 0) h0.1 rfl 51 (by decide) k134 rfl (c1 := 42) rfl dX9_receiver_211 ?_
      refine lv_iload hx hb dX9_receiver_214 (lv_at hl 0 rfl) ?_
      obtain ⟨hi15, h⟩ := h
      refine g_iald hx hb hK hH (c0 := 42) (mA42 h0) hi15 dX9_receiver_216 ?_
      exact g_iret hx hb hr hK hlk h hH dX9_receiver_217
    by_cases g4_11 : x3 = 11
    · refine lv_tableIn (off := 199) (tgt := 218) hx hb dX9_receiver_19 (by rw [g4_11]; decide) (by rw [g4_11]; decide) (by rw [g4_11]; rfl) (by decide) ?_
      replace h := h.2.2.2.2.2.2.2.2.2.2.2.1 g4_11
      refine lv_aload_n hx hb dX9_receiver_218 rfl (lv_at hl 1 rfl) ?_
      refine g_getr hx hb hB inB9 hown hK hH (c0 := 0) h0.1 rfl 48 (by decide) k125 rfl (c1 := 39) rfl dX9_receiver_219 ?_
      refine lv_iload hx hb dX9_receiver_222 (lv_at hl 0 rfl) ?_
      obtain ⟨hi16, h⟩ := h
      refine g_iald hx hb hK hH (c0 := 39) (mA39 h0) hi16 dX9_receiver_224 ?_
      exact g_iret hx hb hr hK hlk h hH dX9_receiver_225
    have gg4 : ∀ k : Nat, k < 12 → ¬ x3 = nI k := by
      intro k hk
      rcases (show k = 0 ∨ k = 1 ∨ k = 2 ∨ k = 3 ∨ k = 4 ∨ k = 5 ∨ k = 6 ∨ k = 7 ∨ k = 8 ∨ k = 9 ∨ k = 10 ∨ k = 11 by omega) with rfl | rfl | rfl | rfl | rfl | rfl | rfl | rfl | rfl | rfl | rfl | rfl <;> assumption
    refine lv_tableOut (tgt := 226) hx hb dX9_receiver_19 (sw_out (n := 12) (by decide) (by decide) gg4) (by decide) ?_
    replace h := h.2.2.2.2.2.2.2.2.2.2.2.2 (by simp only [not_or]; exact ⟨g4_0, g4_1, g4_2, g4_3, g4_4, g4_5, g4_6, g4_7, g4_8, g4_9, g4_10, g4_11⟩)
    refine lv_iconst (v := (-1)) hx hb dX9_receiver_226 (by decide) ?_
    exact g_iret hx hb hr hK hlk h hH dX9_receiver_227
  · replace h := h.2 q2
    refine lv_iconst (v := (-1)) hx hb dX9_receiver_9 (by decide) ?_
    exact g_iret hx hb hr hK hlk h hH dX9_receiver_10
def wpX9_delivered_L116 (Q : Int32 → Sg → Prop) (K86 : Int32 → Int32 → Int32 → Sg → Prop) (x4 : Int32) (x6 : Int32) (z0 : Int32) (z1 : Int32) (σ : Sg) : Prop := ∀ x5_13 : Int32, x5_13 = z1 + z0 → ∀ x6_14 : Int32, x6_14 = x6 + 1 → K86 x4 x5_13 x6_14 σ
def wpX9_delivered_L86 (Q : Int32 → Sg → Prop) : Nat → Int32 → Int32 → Int32 → Sg → Prop
  | 0, _, _, _, _ => False
  | n + 1, x4, x5, x6, σ => ((32 ≤ x6 → Q x5 σ) ∧ (¬ (32 ≤ x6) → (vp_in ((32 * x4) + x6) 192 ∧ (((σ 59 ((32 * x4) + x6).toNatClampNeg) = 0 → wpX9_delivered_L116 Q (wpX9_delivered_L86 Q n) x4 x6 0 x5 σ) ∧ (¬ ((σ 59 ((32 * x4) + x6).toNatClampNeg) = 0) → wpX9_delivered_L116 Q (wpX9_delivered_L86 Q n) x4 x6 1 x5 σ)))))
def wpX9_delivered (x1 : Int32) (x2 : Int32) (x3 : Int32) (σ : Sg) (Q : Int32 → Sg → Prop) : Prop := wpX9_isThere x1 x2 σ (fun r1 σ1 => ((¬ r1 = 0 → wpX9_at x1 x2 σ1 (fun r3 σ3 => ((x3 = 0 → (vp_in r3 6 ∧ Q (σ3 51 r3.toNatClampNeg) σ3)) ∧ (x3 = 1 → (vp_in r3 6 ∧ Q (σ3 52 r3.toNatClampNeg) σ3)) ∧ (x3 = 2 → (vp_in r3 6 ∧ Q (σ3 53 r3.toNatClampNeg) σ3)) ∧ (x3 = 3 → ∃ nn, wpX9_delivered_L86 Q nn r3 0 0 σ3) ∧ (x3 = 4 → (vp_in r3 6 ∧ Q (σ3 54 r3.toNatClampNeg) σ3)) ∧ (x3 = 5 → (vp_in r3 6 ∧ Q (σ3 55 r3.toNatClampNeg) σ3)) ∧ (¬ (x3 = 0 ∨ x3 = 1 ∨ x3 = 2 ∨ x3 = 3 ∨ x3 = 4 ∨ x3 = 5) → Q (-1) σ3)))) ∧ (r1 = 0 → Q (-1) σ1)))
set_option maxHeartbeats 8000000 in
set_option maxRecDepth 100000 in
theorem tX9_delivered {l : Launch} {G : GG} {x1 : Int32} {x2 : Int32} {x3 : Int32} {σ : Sg} {Q : Int32 → Sg → Prop} (h0 : isModel G) (h : wpX9_delivered x1 x2 x3 σ Q) : Ki l G yX9_delivered (wB yX9_delivered prog_11_method_55_code 7 (Option.some FieldType.int)) ({ frames := 1, cells := 0, slots := 0, locals := 22 }) [.ref (ga G 0), .int x1, .int x2, .int x3] σ Q := by
  refine K_of (cc := cX9_delivered) (maxL := 7) (ret := (some .int)) (by decide) rfl (Nat.le_of_ble_eq_true rfl) ?_
  intro p e s m args below meth c ls B hH hl
  obtain ⟨hx, hb, hr, hts, hown, hlk, hml, hK, hX⟩ := B
  replace hl : lv_has ls 7 [(0, .ref (ga G 0)), (1, .int x1), (2, .int x2), (3, .int x3)] := hl
  have hB : ∀ w ∈ BIG, w.before args s = true := fun w h9 => hts w (List.mem_cons_of_mem _ h9)
  clear hts
  have k162 := hB _ bw4_170
  have k165 := hB _ bw4_171
  have k168 := hB _ bw4_172
  have k171 := hB _ bw4_173
  have k174 := hB _ bw4_174
  have k186 := hB _ bw4_178
  have L86 : ∀ (n86 : Nat) (x4 : Int32) (x5 : Int32) (x6 : Int32) (σ : Sg) (H : Heap) (locs : List Loc) (ls : Array Slot), Hx G (aA G s.heap.size) s σ H locs → lv_has ls 7 [(0, .ref (ga G 0)), (4, .int x4), (5, .int x5), (6, .int x6)] → wpX9_delivered_L86 Q n86 x4 x5 x6 σ → W p l e ({ frames := 1, cells := 0, slots := 0, locals := 22 }) s m args below meth c H locs 0 0 (Zi G Q below args s) (F0 m 86 ls []) := by
    intro n86
    induction n86 with
    | zero =>
      intro x4 x5 x6 σ H locs ls hH hl h
      exact False.elim h
    | succ n86 ih86 =>
      have L116 : ∀ (x4 : Int32) (x6 : Int32) (z0 : Int32) (z1 : Int32) (σ : Sg) (H : Heap) (locs : List Loc) (ls : Array Slot), Hx G (aA G s.heap.size) s σ H locs → lv_has ls 7 [(0, .ref (ga G 0)), (4, .int x4), (6, .int x6)] → wpX9_delivered_L116 Q (wpX9_delivered_L86 Q n86) x4 x6 z0 z1 σ → W p l e ({ frames := 1, cells := 0, slots := 0, locals := 22 }) s m args below meth c H locs 0 0 (Zi G Q below args s) (F0 m 116 ls [.int z0, .int z1]) := by
        intro x4 x6 z0 z1 σ H locs ls hH hl h
        unfold wpX9_delivered_L116 at h
        refine lv_iadd hx hb dX9_delivered_116 ?_
        refine lv_topi (fun x5_13 ex5_13 => ?_)
        replace h := h x5_13 ex5_13
        refine lv_istore (lv' := [(5, .int x5_13), (0, .ref (ga G 0)), (4, .int x4), (6, .int x6)]) hx hb dX9_delivered_117 hl (by decide) rfl (fun ls hl => ?_)
        obtain ⟨x6_14, ex6_14⟩ : ∃ y : Int32, y = x6 + 1 := ⟨_, rfl⟩
        replace h := h x6_14 ex6_14
        refine lv_iinc (v := x6_14) (lv' := [(6, .int x6_14), (5, .int x5_13), (0, .ref (ga G 0)), (4, .int x4)]) hx hb dX9_delivered_119 hl (k := 3) rfl (by rw [ex6_14]; rfl) (by decide) rfl (fun ls hl => ?_)
        refine lv_goto (tgt := 86) hx hb dX9_delivered_122 (by decide) ?_
        exact ih86 x4 x5_13 x6_14 σ _ _ ls hH (lv_sub hl [2, 3, 1, 0] rfl) h
      intro x4 x5 x6 σ H locs ls hH hl h
      unfold wpX9_delivered_L86 at h
      refine lv_iload hx hb dX9_delivered_86 (lv_at hl 3 rfl) ?_
      refine lv_bipush (v := 32) hx hb dX9_delivered_88 (by decide) ?_
      refine lv_icmp_ge (tgt := 125) hx hb dX9_delivered_90 (by decide) (fun q10 => ?_) (fun q10 => ?_)
      · replace h := h.1 q10
        refine lv_iload hx hb dX9_delivered_125 (lv_at hl 2 rfl) ?_
        exact g_iret hx hb hr hK hlk h hH dX9_delivered_127
      · replace h := h.2 q10
        refine lv_iload hx hb dX9_delivered_93 (lv_at hl 2 rfl) ?_
        refine lv_aload_n hx hb dX9_delivered_95 rfl (lv_at hl 0 rfl) ?_
        refine g_getr hx hb hB inB9 hown hK hH (c0 := 0) h0.1 rfl 68 (by decide) k186 rfl (c1 := 59) rfl dX9_delivered_96 ?_
        refine lv_bipush (v := 32) hx hb dX9_delivered_99 (by decide) ?_
        refine lv_iload hx hb dX9_delivered_101 (lv_at hl 1 rfl) ?_
        refine lv_imul hx hb dX9_delivered_103 ?_
        refine lv_iload hx hb dX9_delivered_104 (lv_at hl 3 rfl) ?_
        refine lv_iadd hx hb dX9_delivered_106 ?_
        obtain ⟨hi11, h⟩ := h
        refine g_zald hx hb hK hH (c0 := 59) (mA59 h0) hi11 dX9_delivered_107 ?_
        refine lv_if_eq (tgt := 115) hx hb dX9_delivered_108 (by decide) (fun q12 => ?_) (fun q12 => ?_)
        · replace h := h.1 q12
          refine lv_iconst (v := 0) hx hb dX9_delivered_115 (by decide) ?_
          exact L116 x4 x6 0 x5 σ _ _ ls hH (lv_sub hl [0, 1, 3] rfl) h
        · replace h := h.2 q12
          refine lv_iconst (v := 1) hx hb dX9_delivered_111 (by decide) ?_
          refine lv_goto (tgt := 116) hx hb dX9_delivered_112 (by decide) ?_
          exact L116 x4 x6 1 x5 σ _ _ ls hH (lv_sub hl [0, 1, 3] rfl) h
  unfold wpX9_delivered at h
  refine lv_aload_n hx hb dX9_delivered_0 rfl (lv_at hl 0 rfl) ?_
  refine lv_iload_n hx hb dX9_delivered_1 rfl (lv_at hl 1 rfl) ?_
  refine lv_iload_n hx hb dX9_delivered_2 rfl (lv_at hl 2 rfl) ?_
  refine g_callVi (As := [.int x1, .int x2]) (rest := []) ⟨hx, hb, hml, hown, hB⟩ hK hX aA_hA hH (c0 := 0) (tX9_isThere h0 h) (cwV 2 hB gVX9_269 rfl rfl rfl (by decide +kernel) ⟨Nat.le_of_ble_eq_true rfl, Nat.le_of_ble_eq_true rfl⟩) h0.1 rfl rfl hl.1 rfl (lv_room (Nat.le_of_ble_eq_true rfl)) ⟨Nat.zero_le _, Nat.zero_le _⟩ dX9_delivered_3 (fun r1 σ1 H locs h hH => ?_)
  refine lv_if_ne (tgt := 11) hx hb dX9_delivered_6 (by decide) (fun q2 => ?_) (fun q2 => ?_)
  · replace h := h.1 q2
    refine lv_iload_n hx hb dX9_delivered_11 rfl (lv_at hl 1 rfl) ?_
    refine lv_iload_n hx hb dX9_delivered_12 rfl (lv_at hl 2 rfl) ?_
    refine g_callSi (As := [.int x1, .int x2]) (rest := []) ⟨hx, hb, hml, hown, hB⟩ hK hX aA_hA hH (tX9_at h) (va_cwS 2 hB gSX9_258 rfl rfl rfl (by decide +kernel) ⟨Nat.le_of_ble_eq_true rfl, Nat.le_of_ble_eq_true rfl⟩) rfl hl.1 rfl (lv_room (Nat.le_of_ble_eq_true rfl)) ⟨Nat.zero_le _, Nat.zero_le _⟩ dX9_delivered_13 (fun r3 σ3 H locs h hH => ?_)
    refine lv_istore (lv' := [(4, .int r3), (0, .ref (ga G 0)), (1, .int x1), (2, .int x2), (3, .int x3)]) hx hb dX9_delivered_16 hl (by decide) rfl (fun ls hl => ?_)
    refine lv_iload_n hx hb dX9_delivered_18 rfl (lv_at hl 4 rfl) ?_
    by_cases g4_0 : x3 = 0
    · refine lv_tableIn (off := 37) (tgt := 56) hx hb dX9_delivered_19 (by rw [g4_0]; decide) (by rw [g4_0]; decide) (by rw [g4_0]; rfl) (by decide) ?_
      replace h := h.1 g4_0
      refine lv_aload_n hx hb dX9_delivered_56 rfl (lv_at hl 1 rfl) ?_
      refine g_getr hx hb hB inB9 hown hK hH (c0 := 0) h0.1 rfl 60 (by decide) k162 rfl (c1 := 51) rfl dX9_delivered_57 ?_
      refine lv_iload hx hb dX9_delivered_60 (lv_at hl 0 rfl) ?_
      obtain ⟨hi5, h⟩ := h
      refine g_iald hx hb hK hH (c0 := 51) (mA51 h0) hi5 dX9_delivered_62 ?_
      exact g_iret hx hb hr hK hlk h hH dX9_delivered_63
    by_cases g4_1 : x3 = 1
    · refine lv_tableIn (off := 45) (tgt := 64) hx hb dX9_delivered_19 (by rw [g4_1]; decide) (by rw [g4_1]; decide) (by rw [g4_1]; rfl) (by decide) ?_
      replace h := h.2.1 g4_1
      refine lv_aload_n hx hb dX9_delivered_64 rfl (lv_at hl 1 rfl) ?_
      refine g_getr hx hb hB inB9 hown hK hH (c0 := 0) h0.1 rfl 61 (by decide) k165 rfl (c1 := 52) rfl dX9_delivered_65 ?_
      refine lv_iload hx hb dX9_delivered_68 (lv_at hl 0 rfl) ?_
      obtain ⟨hi6, h⟩ := h
      refine g_iald hx hb hK hH (c0 := 52) (mA52 h0) hi6 dX9_delivered_70 ?_
      exact g_iret hx hb hr hK hlk h hH dX9_delivered_71
    by_cases g4_2 : x3 = 2
    · refine lv_tableIn (off := 53) (tgt := 72) hx hb dX9_delivered_19 (by rw [g4_2]; decide) (by rw [g4_2]; decide) (by rw [g4_2]; rfl) (by decide) ?_
      replace h := h.2.2.1 g4_2
      refine lv_aload_n hx hb dX9_delivered_72 rfl (lv_at hl 1 rfl) ?_
      refine g_getr hx hb hB inB9 hown hK hH (c0 := 0) h0.1 rfl 62 (by decide) k168 rfl (c1 := 53) rfl dX9_delivered_73 ?_
      refine lv_iload hx hb dX9_delivered_76 (lv_at hl 0 rfl) ?_
      obtain ⟨hi7, h⟩ := h
      refine g_iald hx hb hK hH (c0 := 53) (mA53 h0) hi7 dX9_delivered_78 ?_
      exact g_iret hx hb hr hK hlk h hH dX9_delivered_79
    by_cases g4_3 : x3 = 3
    · refine lv_tableIn (off := 61) (tgt := 80) hx hb dX9_delivered_19 (by rw [g4_3]; decide) (by rw [g4_3]; decide) (by rw [g4_3]; rfl) (by decide) ?_
      replace h := h.2.2.2.1 g4_3
      refine lv_iconst (v := 0) hx hb dX9_delivered_80 (by decide) ?_
      refine lv_istore (lv' := [(5, .int 0), (4, .int r3), (0, .ref (ga G 0)), (1, .int x1), (2, .int x2), (3, .int x3)]) hx hb dX9_delivered_81 hl (by decide) rfl (fun ls hl => ?_)
      refine lv_iconst (v := 0) hx hb dX9_delivered_83 (by decide) ?_
      refine lv_istore (lv' := [(6, .int 0), (5, .int 0), (4, .int r3), (0, .ref (ga G 0)), (1, .int x1), (2, .int x2), (3, .int x3)]) hx hb dX9_delivered_84 hl (by decide) rfl (fun ls hl => ?_)
      obtain ⟨nn, h⟩ := h
      exact L86 nn r3 0 0 σ3 _ _ ls hH (lv_sub hl [3, 2, 1, 0] rfl) h
    by_cases g4_4 : x3 = 4
    · refine lv_tableIn (off := 109) (tgt := 128) hx hb dX9_delivered_19 (by rw [g4_4]; decide) (by rw [g4_4]; decide) (by rw [g4_4]; rfl) (by decide) ?_
      replace h := h.2.2.2.2.1 g4_4
      refine lv_aload_n hx hb dX9_delivered_128 rfl (lv_at hl 1 rfl) ?_
      refine g_getr hx hb hB inB9 hown hK hH (c0 := 0) h0.1 rfl 63 (by decide) k171 rfl (c1 := 54) rfl dX9_delivered_129 ?_
      refine lv_iload hx hb dX9_delivered_132 (lv_at hl 0 rfl) ?_
      obtain ⟨hi8, h⟩ := h
      refine g_iald hx hb hK hH (c0 := 54) (mA54 h0) hi8 dX9_delivered_134 ?_
      exact g_iret hx hb hr hK hlk h hH dX9_delivered_135
    by_cases g4_5 : x3 = 5
    · refine lv_tableIn (off := 117) (tgt := 136) hx hb dX9_delivered_19 (by rw [g4_5]; decide) (by rw [g4_5]; decide) (by rw [g4_5]; rfl) (by decide) ?_
      replace h := h.2.2.2.2.2.1 g4_5
      refine lv_aload_n hx hb dX9_delivered_136 rfl (lv_at hl 1 rfl) ?_
      refine g_getr hx hb hB inB9 hown hK hH (c0 := 0) h0.1 rfl 64 (by decide) k174 rfl (c1 := 55) rfl dX9_delivered_137 ?_
      refine lv_iload hx hb dX9_delivered_140 (lv_at hl 0 rfl) ?_
      obtain ⟨hi9, h⟩ := h
      refine g_iald hx hb hK hH (c0 := 55) (mA55 h0) hi9 dX9_delivered_142 ?_
      exact g_iret hx hb hr hK hlk h hH dX9_delivered_143
    have gg4 : ∀ k : Nat, k < 6 → ¬ x3 = nI k := by
      intro k hk
      rcases (show k = 0 ∨ k = 1 ∨ k = 2 ∨ k = 3 ∨ k = 4 ∨ k = 5 by omega) with rfl | rfl | rfl | rfl | rfl | rfl <;> assumption
    refine lv_tableOut (tgt := 144) hx hb dX9_delivered_19 (sw_out (n := 6) (by decide) (by decide) gg4) (by decide) ?_
    replace h := h.2.2.2.2.2.2 (by simp only [not_or]; exact ⟨g4_0, g4_1, g4_2, g4_3, g4_4, g4_5⟩)
    refine lv_iconst (v := (-1)) hx hb dX9_delivered_144 (by decide) ?_
    exact g_iret hx hb hr hK hlk h hH dX9_delivered_145
  · replace h := h.2 q2
    refine lv_iconst (v := (-1)) hx hb dX9_delivered_9 (by decide) ?_
    exact g_iret hx hb hr hK hlk h hH dX9_delivered_10
def wpX9_unit (x1 : Int32) (x2 : Int32) (x3 : Int32) (σ : Sg) (Q : Int32 → Sg → Prop) : Prop := wpX9_isThere x1 x2 σ (fun r1 σ1 => ((r1 = 0 → Q (-1) σ1) ∧ (¬ (r1 = 0) → ((x3 < 0 → Q (-1) σ1) ∧ (¬ (x3 < 0) → wpX9_at x1 x2 σ1 (fun r4 σ4 => (vp_in r4 6 ∧ ((x3 < (σ4 55 r4.toNatClampNeg) → wpX9_at x1 x2 σ4 (fun r7 σ7 => (vp_in ((120 * r7) + x3) 720 ∧ Q (σ7 58 ((120 * r7) + x3).toNatClampNeg) σ7))) ∧ (¬ (x3 < (σ4 55 r4.toNatClampNeg)) → Q (-1) σ4)))))))))
set_option maxHeartbeats 8000000 in
set_option maxRecDepth 100000 in
theorem tX9_unit {l : Launch} {G : GG} {x1 : Int32} {x2 : Int32} {x3 : Int32} {σ : Sg} {Q : Int32 → Sg → Prop} (h0 : isModel G) (h : wpX9_unit x1 x2 x3 σ Q) : Ki l G yX9_unit (wB yX9_unit prog_11_method_56_code 4 (Option.some FieldType.int)) ({ frames := 1, cells := 0, slots := 0, locals := 22 }) [.ref (ga G 0), .int x1, .int x2, .int x3] σ Q := by
  refine K_of (cc := cX9_unit) (maxL := 4) (ret := (some .int)) (by decide) rfl (Nat.le_of_ble_eq_true rfl) ?_
  intro p e s m args below meth c ls B hH hl
  obtain ⟨hx, hb, hr, hts, hown, hlk, hml, hK, hX⟩ := B
  replace hl : lv_has ls 4 [(0, .ref (ga G 0)), (1, .int x1), (2, .int x2), (3, .int x3)] := hl
  have hB : ∀ w ∈ BIG, w.before args s = true := fun w h9 => hts w (List.mem_cons_of_mem _ h9)
  clear hts
  have k174 := hB _ bw4_174
  have k183 := hB _ bw4_177
  unfold wpX9_unit at h
  refine lv_aload_n hx hb dX9_unit_0 rfl (lv_at hl 0 rfl) ?_
  refine lv_iload_n hx hb dX9_unit_1 rfl (lv_at hl 1 rfl) ?_
  refine lv_iload_n hx hb dX9_unit_2 rfl (lv_at hl 2 rfl) ?_
  refine g_callVi (As := [.int x1, .int x2]) (rest := []) ⟨hx, hb, hml, hown, hB⟩ hK hX aA_hA hH (c0 := 0) (tX9_isThere h0 h) (cwV 2 hB gVX9_269 rfl rfl rfl (by decide +kernel) ⟨Nat.le_of_ble_eq_true rfl, Nat.le_of_ble_eq_true rfl⟩) h0.1 rfl rfl hl.1 rfl (lv_room (Nat.le_of_ble_eq_true rfl)) ⟨Nat.zero_le _, Nat.zero_le _⟩ dX9_unit_3 (fun r1 σ1 H locs h hH => ?_)
  refine lv_if_eq (tgt := 27) hx hb dX9_unit_6 (by decide) (fun q2 => ?_) (fun q2 => ?_)
  · replace h := h.1 q2
    refine lv_iconst (v := (-1)) hx hb dX9_unit_27 (by decide) ?_
    exact g_iret hx hb hr hK hlk h hH dX9_unit_28
  · replace h := h.2 q2
    refine lv_iload_n hx hb dX9_unit_9 rfl (lv_at hl 3 rfl) ?_
    refine lv_if_lt (tgt := 27) hx hb dX9_unit_10 (by decide) (fun q3 => ?_) (fun q3 => ?_)
    · replace h := h.1 q3
      refine lv_iconst (v := (-1)) hx hb dX9_unit_27 (by decide) ?_
      exact g_iret hx hb hr hK hlk h hH dX9_unit_28
    · replace h := h.2 q3
      refine lv_iload_n hx hb dX9_unit_13 rfl (lv_at hl 3 rfl) ?_
      refine lv_aload_n hx hb dX9_unit_14 rfl (lv_at hl 0 rfl) ?_
      refine g_getr hx hb hB inB9 hown hK hH (c0 := 0) h0.1 rfl 64 (by decide) k174 rfl (c1 := 55) rfl dX9_unit_15 ?_
      refine lv_iload_n hx hb dX9_unit_18 rfl (lv_at hl 1 rfl) ?_
      refine lv_iload_n hx hb dX9_unit_19 rfl (lv_at hl 2 rfl) ?_
      refine g_callSi (As := [.int x1, .int x2]) (rest := [.ref (ga G 55), .int x3]) ⟨hx, hb, hml, hown, hB⟩ hK hX aA_hA hH (tX9_at h) (va_cwS 2 hB gSX9_258 rfl rfl rfl (by decide +kernel) ⟨Nat.le_of_ble_eq_true rfl, Nat.le_of_ble_eq_true rfl⟩) rfl hl.1 rfl (lv_room (Nat.le_of_ble_eq_true rfl)) ⟨Nat.zero_le _, Nat.zero_le _⟩ dX9_unit_20 (fun r4 σ4 H locs h hH => ?_)
      obtain ⟨hi5, h⟩ := h
      refine g_iald hx hb hK hH (c0 := 55) (mA55 h0) hi5 dX9_unit_23 ?_
      refine lv_icmp_lt (tgt := 29) hx hb dX9_unit_24 (by decide) (fun q6 => ?_) (fun q6 => ?_)
      · replace h := h.1 q6
        refine lv_aload_n hx hb dX9_unit_29 rfl (lv_at hl 0 rfl) ?_
        refine g_getr hx hb hB inB9 hown hK hH (c0 := 0) h0.1 rfl 67 (by decide) k183 rfl (c1 := 58) rfl dX9_unit_30 ?_
        refine lv_bipush (v := 120) hx hb dX9_unit_33 (by decide) ?_
        refine lv_iload_n hx hb dX9_unit_35 rfl (lv_at hl 1 rfl) ?_
        refine lv_iload_n hx hb dX9_unit_36 rfl (lv_at hl 2 rfl) ?_
        refine g_callSi (As := [.int x1, .int x2]) (rest := [.int 120, .ref (ga G 58)]) ⟨hx, hb, hml, hown, hB⟩ hK hX aA_hA hH (tX9_at h) (va_cwS 2 hB gSX9_258 rfl rfl rfl (by decide +kernel) ⟨Nat.le_of_ble_eq_true rfl, Nat.le_of_ble_eq_true rfl⟩) rfl hl.1 rfl (lv_room (Nat.le_of_ble_eq_true rfl)) ⟨Nat.zero_le _, Nat.zero_le _⟩ dX9_unit_37 (fun r7 σ7 H locs h hH => ?_)
        refine lv_imul hx hb dX9_unit_40 ?_
        refine lv_iload_n hx hb dX9_unit_41 rfl (lv_at hl 3 rfl) ?_
        refine lv_iadd hx hb dX9_unit_42 ?_
        obtain ⟨hi8, h⟩ := h
        refine g_iald hx hb hK hH (c0 := 58) (mA58 h0) hi8 dX9_unit_43 ?_
        exact g_iret hx hb hr hK hlk h hH dX9_unit_44
      · replace h := h.2 q6
        refine lv_iconst (v := (-1)) hx hb dX9_unit_27 (by decide) ?_
        exact g_iret hx hb hr hK hlk h hH dX9_unit_28
def wpX9_process_L42 (Q : Int32 → Sg → Prop) (x3 : Int32) (x4 : Int32) (z0 : Int32) (σ : Sg) : Prop := ((x3 = 0 → (vp_in x4 8 ∧ Q (σ 60 x4.toNatClampNeg) σ)) ∧ (x3 = 1 → ((z0 = 0 → Q 0 σ) ∧ (¬ (z0 = 0) → (vp_in x4 8 ∧ Q (σ 61 x4.toNatClampNeg) σ)))) ∧ (x3 = 2 → ((z0 = 0 → Q 0 σ) ∧ (¬ (z0 = 0) → (vp_in x4 8 ∧ (((σ 63 x4.toNatClampNeg) = 0 → Q 0 σ) ∧ (¬ ((σ 63 x4.toNatClampNeg) = 0) → Q 1 σ)))))) ∧ (¬ (x3 = 0 ∨ x3 = 1 ∨ x3 = 2) → Q (-1) σ))
def wpX9_process (x1 : Int32) (x2 : Int32) (x3 : Int32) (σ : Sg) (Q : Int32 → Sg → Prop) : Prop := ((x1 < 0 → Q (-1) σ) ∧ (¬ (x1 < 0) → ((1 < x1 → Q (-1) σ) ∧ (¬ (1 < x1) → ((x2 < 0 → Q (-1) σ) ∧ (¬ (x2 < 0) → ((x2 ≤ 3 → ∀ x4_5 : Int32, x4_5 = (4 * x1) + x2 → (vp_in x4_5 8 ∧ (((σ 60 x4_5.toNatClampNeg) ≤ 0 → wpX9_process_L42 Q x3 x4_5 0 σ) ∧ (¬ ((σ 60 x4_5.toNatClampNeg) ≤ 0) → wpX9_process_L42 Q x3 x4_5 1 σ)))) ∧ (¬ (x2 ≤ 3) → Q (-1) σ))))))))
set_option maxHeartbeats 8000000 in
set_option maxRecDepth 100000 in
theorem tX9_process {l : Launch} {G : GG} {x1 : Int32} {x2 : Int32} {x3 : Int32} {σ : Sg} {Q : Int32 → Sg → Prop} (h0 : isModel G) (h : wpX9_process x1 x2 x3 σ Q) : Ki l G yX9_process (wB yX9_process prog_11_method_57_code 6 (Option.some FieldType.int)) ({ frames := 0, cells := 0, slots := 0, locals := 0 }) [.ref (ga G 0), .int x1, .int x2, .int x3] σ Q := by
  refine K_of (cc := cX9_process) (maxL := 6) (ret := (some .int)) (by decide) rfl (Nat.le_of_ble_eq_true rfl) ?_
  intro p e s m args below meth c ls B hH hl
  obtain ⟨hx, hb, hr, hts, hown, hlk, hml, hK, hX⟩ := B
  replace hl : lv_has ls 6 [(0, .ref (ga G 0)), (1, .int x1), (2, .int x2), (3, .int x3)] := hl
  have hB : ∀ w ∈ BIG, w.before args s = true := fun w h9 => hts w (List.mem_cons_of_mem _ h9)
  clear hts
  have k189 := hB _ bw4_179
  have k192 := hB _ bw4_180
  have k198 := hB _ bw4_182
  have L42 : ∀ (x3 : Int32) (x4 : Int32) (z0 : Int32) (σ : Sg) (H : Heap) (locs : List Loc) (ls : Array Slot), Hx G (aA G s.heap.size) s σ H locs → lv_has ls 6 [(0, .ref (ga G 0)), (3, .int x3), (4, .int x4)] → wpX9_process_L42 Q x3 x4 z0 σ → W p l e ({ frames := 0, cells := 0, slots := 0, locals := 0 }) s m args below meth c H locs 0 0 (Zi G Q below args s) (F0 m 42 ls [.int z0]) := by
    intro x3 x4 z0 σ H locs ls hH hl h
    unfold wpX9_process_L42 at h
    refine lv_istore (lv' := [(5, .int z0), (0, .ref (ga G 0)), (3, .int x3), (4, .int x4)]) hx hb dX9_process_42 hl (by decide) rfl (fun ls hl => ?_)
    refine lv_iload_n hx hb dX9_process_44 rfl (lv_at hl 2 rfl) ?_
    by_cases g8_0 : x3 = 0
    · refine lv_tableIn (off := 27) (tgt := 72) hx hb dX9_process_45 (by rw [g8_0]; decide) (by rw [g8_0]; decide) (by rw [g8_0]; rfl) (by decide) ?_
      replace h := h.1 g8_0
      refine lv_aload_n hx hb dX9_process_72 rfl (lv_at hl 1 rfl) ?_
      refine g_getr hx hb hB inB9 hown hK hH (c0 := 0) h0.1 rfl 69 (by decide) k189 rfl (c1 := 60) rfl dX9_process_73 ?_
      refine lv_iload hx hb dX9_process_76 (lv_at hl 3 rfl) ?_
      obtain ⟨hi9, h⟩ := h
      refine g_iald hx hb hK hH (c0 := 60) (mA60 h0) hi9 dX9_process_78 ?_
      exact g_iret hx hb hr hK hlk h hH dX9_process_79
    by_cases g8_1 : x3 = 1
    · refine lv_tableIn (off := 35) (tgt := 80) hx hb dX9_process_45 (by rw [g8_1]; decide) (by rw [g8_1]; decide) (by rw [g8_1]; rfl) (by decide) ?_
      replace h := h.2.1 g8_1
      refine lv_iload hx hb dX9_process_80 (lv_at hl 0 rfl) ?_
      refine lv_if_eq (tgt := 95) hx hb dX9_process_82 (by decide) (fun q10 => ?_) (fun q10 => ?_)
      · replace h := h.1 q10
        refine lv_iconst (v := 0) hx hb dX9_process_95 (by decide) ?_
        exact g_iret hx hb hr hK hlk h hH dX9_process_96
      · replace h := h.2 q10
        refine lv_aload_n hx hb dX9_process_85 rfl (lv_at hl 1 rfl) ?_
        refine g_getr hx hb hB inB9 hown hK hH (c0 := 0) h0.1 rfl 70 (by decide) k192 rfl (c1 := 61) rfl dX9_process_86 ?_
        refine lv_iload hx hb dX9_process_89 (lv_at hl 3 rfl) ?_
        obtain ⟨hi11, h⟩ := h
        refine g_iald hx hb hK hH (c0 := 61) (mA61 h0) hi11 dX9_process_91 ?_
        refine lv_goto (tgt := 96) hx hb dX9_process_92 (by decide) ?_
        exact g_iret hx hb hr hK hlk h hH dX9_process_96
    by_cases g8_2 : x3 = 2
    · refine lv_tableIn (off := 52) (tgt := 97) hx hb dX9_process_45 (by rw [g8_2]; decide) (by rw [g8_2]; decide) (by rw [g8_2]; rfl) (by decide) ?_
      replace h := h.2.2.1 g8_2
      refine lv_iload hx hb dX9_process_97 (lv_at hl 0 rfl) ?_
      refine lv_if_eq (tgt := 116) hx hb dX9_process_99 (by decide) (fun q12 => ?_) (fun q12 => ?_)
      · replace h := h.1 q12
        refine lv_iconst (v := 0) hx hb dX9_process_116 (by decide) ?_
        exact g_iret hx hb hr hK hlk h hH dX9_process_117
      · replace h := h.2 q12
        refine lv_aload_n hx hb dX9_process_102 rfl (lv_at hl 1 rfl) ?_
        refine g_getr hx hb hB inB9 hown hK hH (c0 := 0) h0.1 rfl 72 (by decide) k198 rfl (c1 := 63) rfl dX9_process_103 ?_
        refine lv_iload hx hb dX9_process_106 (lv_at hl 3 rfl) ?_
        obtain ⟨hi13, h⟩ := h
        refine g_zald hx hb hK hH (c0 := 63) (mA63 h0) hi13 dX9_process_108 ?_
        refine lv_if_eq (tgt := 116) hx hb dX9_process_109 (by decide) (fun q14 => ?_) (fun q14 => ?_)
        · replace h := h.1 q14
          refine lv_iconst (v := 0) hx hb dX9_process_116 (by decide) ?_
          exact g_iret hx hb hr hK hlk h hH dX9_process_117
        · replace h := h.2 q14
          refine lv_iconst (v := 1) hx hb dX9_process_112 (by decide) ?_
          refine lv_goto (tgt := 117) hx hb dX9_process_113 (by decide) ?_
          exact g_iret hx hb hr hK hlk h hH dX9_process_117
    have gg8 : ∀ k : Nat, k < 3 → ¬ x3 = nI k := by
      intro k hk
      rcases (show k = 0 ∨ k = 1 ∨ k = 2 by omega) with rfl | rfl | rfl <;> assumption
    refine lv_tableOut (tgt := 118) hx hb dX9_process_45 (sw_out (n := 3) (by decide) (by decide) gg8) (by decide) ?_
    replace h := h.2.2.2 (by simp only [not_or]; exact ⟨g8_0, g8_1, g8_2⟩)
    refine lv_iconst (v := (-1)) hx hb dX9_process_118 (by decide) ?_
    exact g_iret hx hb hr hK hlk h hH dX9_process_119
  unfold wpX9_process at h
  refine lv_iload_n hx hb dX9_process_0 rfl (lv_at hl 1 rfl) ?_
  refine lv_if_lt (tgt := 18) hx hb dX9_process_1 (by decide) (fun q1 => ?_) (fun q1 => ?_)
  · replace h := h.1 q1
    refine lv_iconst (v := (-1)) hx hb dX9_process_18 (by decide) ?_
    exact g_iret hx hb hr hK hlk h hH dX9_process_19
  · replace h := h.2 q1
    refine lv_iload_n hx hb dX9_process_4 rfl (lv_at hl 1 rfl) ?_
    refine lv_iconst (v := 1) hx hb dX9_process_5 (by decide) ?_
    refine lv_icmp_gt (tgt := 18) hx hb dX9_process_6 (by decide) (fun q2 => ?_) (fun q2 => ?_)
    · replace h := h.1 q2
      refine lv_iconst (v := (-1)) hx hb dX9_process_18 (by decide) ?_
      exact g_iret hx hb hr hK hlk h hH dX9_process_19
    · replace h := h.2 q2
      refine lv_iload_n hx hb dX9_process_9 rfl (lv_at hl 2 rfl) ?_
      refine lv_if_lt (tgt := 18) hx hb dX9_process_10 (by decide) (fun q3 => ?_) (fun q3 => ?_)
      · replace h := h.1 q3
        refine lv_iconst (v := (-1)) hx hb dX9_process_18 (by decide) ?_
        exact g_iret hx hb hr hK hlk h hH dX9_process_19
      · replace h := h.2 q3
        refine lv_iload_n hx hb dX9_process_13 rfl (lv_at hl 2 rfl) ?_
        refine lv_iconst (v := 3) hx hb dX9_process_14 (by decide) ?_
        refine lv_icmp_le (tgt := 20) hx hb dX9_process_15 (by decide) (fun q4 => ?_) (fun q4 => ?_)
        · replace h := h.1 q4
          refine lv_iconst (v := 4) hx hb dX9_process_20 (by decide) ?_
          refine lv_iload_n hx hb dX9_process_21 rfl (lv_at hl 1 rfl) ?_
          refine lv_imul hx hb dX9_process_22 ?_
          refine lv_iload_n hx hb dX9_process_23 rfl (lv_at hl 2 rfl) ?_
          refine lv_iadd hx hb dX9_process_24 ?_
          refine lv_topi (fun x4_5 ex4_5 => ?_)
          replace h := h x4_5 ex4_5
          refine lv_istore (lv' := [(4, .int x4_5), (0, .ref (ga G 0)), (1, .int x1), (2, .int x2), (3, .int x3)]) hx hb dX9_process_25 hl (by decide) rfl (fun ls hl => ?_)
          refine lv_aload_n hx hb dX9_process_27 rfl (lv_at hl 1 rfl) ?_
          refine g_getr hx hb hB inB9 hown hK hH (c0 := 0) h0.1 rfl 69 (by decide) k189 rfl (c1 := 60) rfl dX9_process_28 ?_
          refine lv_iload hx hb dX9_process_31 (lv_at hl 0 rfl) ?_
          obtain ⟨hi6, h⟩ := h
          refine g_iald hx hb hK hH (c0 := 60) (mA60 h0) hi6 dX9_process_33 ?_
          refine lv_if_le (tgt := 41) hx hb dX9_process_34 (by decide) (fun q7 => ?_) (fun q7 => ?_)
          · replace h := h.1 q7
            refine lv_iconst (v := 0) hx hb dX9_process_41 (by decide) ?_
            exact L42 x3 x4_5 0 σ _ _ ls hH (lv_sub hl [1, 4, 0] rfl) h
          · replace h := h.2 q7
            refine lv_iconst (v := 1) hx hb dX9_process_37 (by decide) ?_
            refine lv_goto (tgt := 42) hx hb dX9_process_38 (by decide) ?_
            exact L42 x3 x4_5 1 σ _ _ ls hH (lv_sub hl [1, 4, 0] rfl) h
        · replace h := h.2 q4
          refine lv_iconst (v := (-1)) hx hb dX9_process_18 (by decide) ?_
          exact g_iret hx hb hr hK hlk h hH dX9_process_19
def wpX9_world (x1 : Int32) (σ : Sg) (Q : Int32 → Sg → Prop) : Prop := ((x1 = 0 → Q (σ 0 2) σ) ∧ (x1 = 1 → Q (σ 0 3) σ) ∧ (x1 = 2 → Q (σ 0 4) σ) ∧ (x1 = 3 → Q (σ 0 5) σ) ∧ (x1 = 4 → Q (σ 0 6) σ) ∧ (x1 = 5 → Q (σ 0 7) σ) ∧ (x1 = 6 → Q (σ 0 8) σ) ∧ (¬ (x1 = 0 ∨ x1 = 1 ∨ x1 = 2 ∨ x1 = 3 ∨ x1 = 4 ∨ x1 = 5 ∨ x1 = 6) → Q (-1) σ))
set_option maxHeartbeats 8000000 in
set_option maxRecDepth 100000 in
theorem tX9_world {l : Launch} {G : GG} {x1 : Int32} {σ : Sg} {Q : Int32 → Sg → Prop} (h0 : isModel G) (h : wpX9_world x1 σ Q) : Ki l G yX9_world (wB yX9_world prog_11_method_58_code 2 (Option.some FieldType.int)) ({ frames := 0, cells := 0, slots := 0, locals := 0 }) [.ref (ga G 0), .int x1] σ Q := by
  refine K_of (cc := cX9_world) (maxL := 2) (ret := (some .int)) (by decide) rfl (Nat.le_of_ble_eq_true rfl) ?_
  intro p e s m args below meth c ls B hH hl
  obtain ⟨hx, hb, hr, hts, hown, hlk, hml, hK, hX⟩ := B
  replace hl : lv_has ls 2 [(0, .ref (ga G 0)), (1, .int x1)] := hl
  have hB : ∀ w ∈ BIG, w.before args s = true := fun w h9 => hts w (List.mem_cons_of_mem _ h9)
  clear hts
  have k246 := hB _ bw4_113
  have k363 := hB _ bw4_112
  have k369 := hB _ bw4_114
  have k372 := hB _ bw4_115
  have k375 := hB _ bw4_116
  have k381 := hB _ bw4_117
  have k384 := hB _ bw4_118
  unfold wpX9_world at h
  refine lv_iload_n hx hb dX9_world_0 rfl (lv_at hl 1 rfl) ?_
  by_cases g1_0 : x1 = 0
  · refine lv_tableIn (off := 43) (tgt := 44) hx hb dX9_world_1 (by rw [g1_0]; decide) (by rw [g1_0]; decide) (by rw [g1_0]; rfl) (by decide) ?_
    replace h := h.1 g1_0
    refine lv_aload_n hx hb dX9_world_44 rfl (lv_at hl 0 rfl) ?_
    refine g_geti hx hb hB inB9 hown hK hH (c0 := 0) h0.1 rfl 2 (by decide) k363 rfl rfl dX9_world_45 ?_
    exact g_iret hx hb hr hK hlk h hH dX9_world_48
  by_cases g1_1 : x1 = 1
  · refine lv_tableIn (off := 48) (tgt := 49) hx hb dX9_world_1 (by rw [g1_1]; decide) (by rw [g1_1]; decide) (by rw [g1_1]; rfl) (by decide) ?_
    replace h := h.2.1 g1_1
    refine lv_aload_n hx hb dX9_world_49 rfl (lv_at hl 0 rfl) ?_
    refine g_geti hx hb hB inB9 hown hK hH (c0 := 0) h0.1 rfl 3 (by decide) k246 rfl rfl dX9_world_50 ?_
    exact g_iret hx hb hr hK hlk h hH dX9_world_53
  by_cases g1_2 : x1 = 2
  · refine lv_tableIn (off := 53) (tgt := 54) hx hb dX9_world_1 (by rw [g1_2]; decide) (by rw [g1_2]; decide) (by rw [g1_2]; rfl) (by decide) ?_
    replace h := h.2.2.1 g1_2
    refine lv_aload_n hx hb dX9_world_54 rfl (lv_at hl 0 rfl) ?_
    refine g_geti hx hb hB inB9 hown hK hH (c0 := 0) h0.1 rfl 4 (by decide) k369 rfl rfl dX9_world_55 ?_
    exact g_iret hx hb hr hK hlk h hH dX9_world_58
  by_cases g1_3 : x1 = 3
  · refine lv_tableIn (off := 58) (tgt := 59) hx hb dX9_world_1 (by rw [g1_3]; decide) (by rw [g1_3]; decide) (by rw [g1_3]; rfl) (by decide) ?_
    replace h := h.2.2.2.1 g1_3
    refine lv_aload_n hx hb dX9_world_59 rfl (lv_at hl 0 rfl) ?_
    refine g_geti hx hb hB inB9 hown hK hH (c0 := 0) h0.1 rfl 5 (by decide) k372 rfl rfl dX9_world_60 ?_
    exact g_iret hx hb hr hK hlk h hH dX9_world_63
  by_cases g1_4 : x1 = 4
  · refine lv_tableIn (off := 63) (tgt := 64) hx hb dX9_world_1 (by rw [g1_4]; decide) (by rw [g1_4]; decide) (by rw [g1_4]; rfl) (by decide) ?_
    replace h := h.2.2.2.2.1 g1_4
    refine lv_aload_n hx hb dX9_world_64 rfl (lv_at hl 0 rfl) ?_
    refine g_geti hx hb hB inB9 hown hK hH (c0 := 0) h0.1 rfl 6 (by decide) k375 rfl rfl dX9_world_65 ?_
    exact g_iret hx hb hr hK hlk h hH dX9_world_68
  by_cases g1_5 : x1 = 5
  · refine lv_tableIn (off := 68) (tgt := 69) hx hb dX9_world_1 (by rw [g1_5]; decide) (by rw [g1_5]; decide) (by rw [g1_5]; rfl) (by decide) ?_
    replace h := h.2.2.2.2.2.1 g1_5
    refine lv_aload_n hx hb dX9_world_69 rfl (lv_at hl 0 rfl) ?_
    refine g_geti hx hb hB inB9 hown hK hH (c0 := 0) h0.1 rfl 7 (by decide) k381 rfl rfl dX9_world_70 ?_
    exact g_iret hx hb hr hK hlk h hH dX9_world_73
  by_cases g1_6 : x1 = 6
  · refine lv_tableIn (off := 73) (tgt := 74) hx hb dX9_world_1 (by rw [g1_6]; decide) (by rw [g1_6]; decide) (by rw [g1_6]; rfl) (by decide) ?_
    replace h := h.2.2.2.2.2.2.1 g1_6
    refine lv_aload_n hx hb dX9_world_74 rfl (lv_at hl 0 rfl) ?_
    refine g_geti hx hb hB inB9 hown hK hH (c0 := 0) h0.1 rfl 8 (by decide) k384 rfl rfl dX9_world_75 ?_
    exact g_iret hx hb hr hK hlk h hH dX9_world_78
  have gg1 : ∀ k : Nat, k < 7 → ¬ x1 = nI k := by
    intro k hk
    rcases (show k = 0 ∨ k = 1 ∨ k = 2 ∨ k = 3 ∨ k = 4 ∨ k = 5 ∨ k = 6 by omega) with rfl | rfl | rfl | rfl | rfl | rfl | rfl <;> assumption
  refine lv_tableOut (tgt := 79) hx hb dX9_world_1 (sw_out (n := 7) (by decide) (by decide) gg1) (by decide) ?_
  replace h := h.2.2.2.2.2.2.2 (by simp only [not_or]; exact ⟨g1_0, g1_1, g1_2, g1_3, g1_4, g1_5, g1_6⟩)
  refine lv_iconst (v := (-1)) hx hb dX9_world_79 (by decide) ?_
  exact g_iret hx hb hr hK hlk h hH dX9_world_80
