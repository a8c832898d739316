theorem nIk (i k : Nat) : nI i + nI k = nI (i + k) := nI_add i k
set_option maxHeartbeats 16000000 in
set_option maxRecDepth 100000 in
theorem law_loop {p : Program} {l : Launch} {e : Env} {s : State} {m : MethodId} {below : List Frame} {meth : Method} {c : Code} {b L : Nat} {xs : Nat → Int32} {Rel : Nat → Nat → Sg → Sg → Prop} (hS : StepOK Rel) (hL : L ≤ 386) (hx : p.tables.exec = Jvm.exec) (hb : c.code = code) (hr : meth.sig.returnType = ret) (hml : c.maxLocals = 4) (hown : s.vm.findClass RL = some m.cls) (hB : ∀ w ∈ BIG, w.before #[Value.ref b] s = true) (hX : va_X b L xs s s.heap) (hbl : b < s.heap.size) (hlk : meth.locks = false) {G1 G2 : GG} {P : Nat} {tS : Nat × (Nat → Int32)} (htS : tS.2 = sbT) (hH1 : isHouse G1 P) (hH2 : isModel G2) (hg1 : go G1 = some tS) (hg2 : go G2 = some tS) (hgD : gD G1 = gD G2) (hK1 : va_K (gD G1) vwCl (gt G1) s) (hK2 : va_K (gD G2) vwCl (gt G2) s) (hX1 : XS (go G1) (fun q => s.heap.size ≤ q) s) (hX2 : XS (go G2) (fun q => s.heap.size ≤ q) s) : ∀ (fuel n : Nat) (x3 : Int32) (σ τ : Sg) (H : Heap) (locs : List Loc) (ls : Array Slot), 65 < fuel + n → n ≤ 64 → x3 = nI (2 + 6 * n) → Rel n P σ τ → Hw G1 (gw G2 τ) (fun q => s.heap.size ≤ q) s σ H locs → lv_has ls 4 [(0, .ref b), (1, .ref (ga G1 0)), (2, .ref (ga G2 0)), (3, .int x3)] → W p l e room_1 s m #[Value.ref b] below meth c H locs 785 582240 (lw_Z below #[Value.ref b] s) (F0 m 38 ls []) := by
  have hA : ∀ q : Nat, s.heap.size ≤ q → (fun q : Nat => s.heap.size ≤ q) q := fun _ h => h
  have hbA : ¬ (fun q : Nat => s.heap.size ≤ q) b := Nat.not_le.mpr hbl
  have hcs1 : 785 + 0 ≤ room_1.cells := by decide +kernel
  have hcs2 : 582240 + 0 ≤ room_1.slots := by decide +kernel
  intro fuel
  induction fuel with
  | zero =>
    intro n x3 σ τ H locs ls hf hn
    omega
  | succ fuel ih =>
    intro n x3 σ τ H locs ls hf hn ex3 hRel hH hl
    have back : ∀ (σ τ : Sg) (H : Heap) (locs : List Loc), n < 64 → Rel (n + 1) P σ τ → Hw G1 (gw G2 τ) (fun q => s.heap.size ≤ q) s σ H locs → W p l e room_1 s m #[Value.ref b] below meth c H locs 785 582240 (lw_Z below #[Value.ref b] s) (F0 m 599 ls []) := by
      intro σ τ H locs hn hRel hH
      obtain ⟨y3, ey3⟩ : ∃ y : Int32, y = x3 + 6 := ⟨_, rfl⟩
      refine lv_iinc (v := y3) (lv' := [(3, .int y3), (0, .ref b), (1, .ref (ga G1 0)), (2, .ref (ga G2 0))]) hx hb dL_law_599 hl (k := 3) rfl (by rw [ey3]; rfl) (by decide) rfl (fun ls hl => ?_)
      refine lv_goto (tgt := 38) hx hb dL_law_602 (by decide) ?_
      exact ih (n + 1) y3 σ τ H locs ls (by omega) (by omega) (by rw [ey3, ex3]; rw [show (6 : Int32) = nI 6 from rfl, nIk]; congr 1) hRel hH (lv_sub hl [1, 2, 3, 0] rfl)
    refine lv_iload_n hx hb dL_law_38 rfl (lv_at hl 3 rfl) ?_
    refine lv_aload_n hx hb dL_law_39 rfl (lv_at hl 0 rfl) ?_
    refine va_slen hx hb hX hbl hbA hH.2.2 dL_law_40 ?_
    refine lv_bipush (v := 6) hx hb dL_law_41 (by decide) ?_
    refine lv_isub hx hb dL_law_43 ?_
    refine lv_icmp_gt (tgt := 605) hx hb dL_law_44 (by decide) (fun q1 => ?_) (fun q1 => ?_)
    · refine lv_iconst (v := 1) hx hb dL_law_605 (by decide) ?_
      refine va_forget hH.2.2.2.2 ?_
      refine W.widen (k := 600000) (n := 7302250) (by decide +kernel) (by decide +kernel) ?_
      exact lw_ret hx hb hr hlk dL_law_606
    · have hin : 2 + 6 * n + 5 < L := by
        have h1 : ¬ (nI L - nI 6 < x3) := q1
        rw [Int32.lt_iff_toInt_lt, pk_sub_toInt (by omega) (by decide), ex3, nI_toInt (by omega)] at h1
        omega
      have hn64 : n < 64 := by omega
      have i0 : vp_in x3 L := by rw [ex3]; exact vp_in_nI (n := 2 + 6 * n) (by omega) (by omega)
      have i1 : vp_in (x3 + 1) L := by rw [ex3, show (1 : Int32) = nI 1 from rfl, nIk]; exact vp_in_nI (n := 2 + 6 * n + 1) (by omega) (by omega)
      have i2 : vp_in (x3 + 2) L := by rw [ex3, show (2 : Int32) = nI 2 from rfl, nIk]; exact vp_in_nI (n := 2 + 6 * n + 2) (by omega) (by omega)
      have i3 : vp_in (x3 + 3) L := by rw [ex3, show (3 : Int32) = nI 3 from rfl, nIk]; exact vp_in_nI (n := 2 + 6 * n + 3) (by omega) (by omega)
      have i4 : vp_in (x3 + 4) L := by rw [ex3, show (4 : Int32) = nI 4 from rfl, nIk]; exact vp_in_nI (n := 2 + 6 * n + 4) (by omega) (by omega)
      have i5 : vp_in (x3 + 5) L := by rw [ex3, show (5 : Int32) = nI 5 from rfl, nIk]; exact vp_in_nI (n := 2 + 6 * n + 5) (by omega) (by omega)
      refine lv_aload_n hx hb dL_law_47 rfl (lv_at hl 0 rfl) ?_
      refine lv_iload_n hx hb dL_law_48 rfl (lv_at hl 3 rfl) ?_
      refine va_sld hx hb hX hbl hbA hH.2.2 i0 dL_law_49 ?_
      refine lv_bipush (v := 15) hx hb dL_law_50 (by decide) ?_
      refine lv_iand hx hb dL_law_52 ?_
      refine lv_topi (fun w ew => ?_)
      by_cases g0 : w = 0
      · refine lv_tableIn (off := 67) (tgt := 120) hx hb dL_law_53 (by rw [g0]; decide) (by rw [g0]; decide) (by rw [g0]; rfl) (by decide) ?_
        have h := hS.2.1 n P σ τ (xs (x3 + 1).toNatClampNeg) (xs (x3 + 2).toNatClampNeg) (xs (x3 + 3).toNatClampNeg) (xs (x3 + 4).toNatClampNeg) (xs (x3 + 5).toNatClampNeg) hn64 hRel
        refine lv_aload_n hx hb dL_law_120 rfl (lv_at hl 1 rfl) ?_
        refine lv_aload_n hx hb dL_law_121 rfl (lv_at hl 0 rfl) ?_
        refine lv_iload_n hx hb dL_law_122 rfl (lv_at hl 3 rfl) ?_
        refine lv_iconst (v := 1) hx hb dL_law_123 (by decide) ?_
        refine lv_iadd hx hb dL_law_124 ?_
        refine va_sld hx hb hX hbl hbA hH.2.2 i1 dL_law_125 ?_
        refine lv_aload_n hx hb dL_law_126 rfl (lv_at hl 0 rfl) ?_
        refine lv_iload_n hx hb dL_law_127 rfl (lv_at hl 3 rfl) ?_
        refine lv_iconst (v := 2) hx hb dL_law_128 (by decide) ?_
        refine lv_iadd hx hb dL_law_129 ?_
        refine va_sld hx hb hX hbl hbA hH.2.2 i2 dL_law_130 ?_
        refine lv_aload_n hx hb dL_law_131 rfl (lv_at hl 0 rfl) ?_
        refine lv_iload_n hx hb dL_law_132 rfl (lv_at hl 3 rfl) ?_
        refine lv_iconst (v := 3) hx hb dL_law_133 (by decide) ?_
        refine lv_iadd hx hb dL_law_134 ?_
        refine va_sld hx hb hX hbl hbA hH.2.2 i3 dL_law_135 ?_
        refine lv_aload_n hx hb dL_law_136 rfl (lv_at hl 0 rfl) ?_
        refine lv_iload_n hx hb dL_law_137 rfl (lv_at hl 3 rfl) ?_
        refine lv_iconst (v := 4) hx hb dL_law_138 (by decide) ?_
        refine lv_iadd hx hb dL_law_139 ?_
        refine va_sld hx hb hX hbl hbA hH.2.2 i4 dL_law_140 ?_
        refine lv_aload_n hx hb dL_law_141 rfl (lv_at hl 0 rfl) ?_
        refine lv_iload_n hx hb dL_law_142 rfl (lv_at hl 3 rfl) ?_
        refine lv_iconst (v := 5) hx hb dL_law_143 (by decide) ?_
        refine lv_iadd hx hb dL_law_144 ?_
        refine va_sld hx hb hX hbl hbA hH.2.2 i5 dL_law_145 ?_
        refine w_callVi (As := [.int (xs (x3 + 1).toNatClampNeg), .int (xs (x3 + 2).toNatClampNeg), .int (xs (x3 + 3).toNatClampNeg), .int (xs (x3 + 4).toNatClampNeg), .int (xs (x3 + 5).toNatClampNeg)]) (rest := []) ⟨hx, hb, hml, hown, hB⟩ hK1 hX1 hA hH (c0 := 0) (tX8_feed hH1 h) (cwV 5 hB gVL_21 rfl rfl rfl (by decide +kernel) ⟨Nat.le_of_ble_eq_true rfl, Nat.le_of_ble_eq_true rfl⟩) hH1.1 rfl rfl hl.1 rfl (lv_room (Nat.le_of_ble_eq_true rfl)) ⟨hcs1, hcs2⟩ dL_law_146 (fun r σ1 H locs h hH => ?_)
        replace hH := hH.swap hgD
        refine lv_aload_n hx hb dL_law_149 rfl (lv_at hl 2 rfl) ?_
        refine lv_aload_n hx hb dL_law_150 rfl (lv_at hl 0 rfl) ?_
        refine lv_iload_n hx hb dL_law_151 rfl (lv_at hl 3 rfl) ?_
        refine lv_iconst (v := 1) hx hb dL_law_152 (by decide) ?_
        refine lv_iadd hx hb dL_law_153 ?_
        refine va_sld hx hb hX hbl hbA hH.2.2 i1 dL_law_154 ?_
        refine lv_aload_n hx hb dL_law_155 rfl (lv_at hl 0 rfl) ?_
        refine lv_iload_n hx hb dL_law_156 rfl (lv_at hl 3 rfl) ?_
        refine lv_iconst (v := 2) hx hb dL_law_157 (by decide) ?_
        refine lv_iadd hx hb dL_law_158 ?_
        refine va_sld hx hb hX hbl hbA hH.2.2 i2 dL_law_159 ?_
        refine lv_aload_n hx hb dL_law_160 rfl (lv_at hl 0 rfl) ?_
        refine lv_iload_n hx hb dL_law_161 rfl (lv_at hl 3 rfl) ?_
        refine lv_iconst (v := 3) hx hb dL_law_162 (by decide) ?_
        refine lv_iadd hx hb dL_law_163 ?_
        refine va_sld hx hb hX hbl hbA hH.2.2 i3 dL_law_164 ?_
        refine lv_aload_n hx hb dL_law_165 rfl (lv_at hl 0 rfl) ?_
        refine lv_iload_n hx hb dL_law_166 rfl (lv_at hl 3 rfl) ?_
        refine lv_iconst (v := 4) hx hb dL_law_167 (by decide) ?_
        refine lv_iadd hx hb dL_law_168 ?_
        refine va_sld hx hb hX hbl hbA hH.2.2 i4 dL_law_169 ?_
        refine lv_aload_n hx hb dL_law_170 rfl (lv_at hl 0 rfl) ?_
        refine lv_iload_n hx hb dL_law_171 rfl (lv_at hl 3 rfl) ?_
        refine lv_iconst (v := 5) hx hb dL_law_172 (by decide) ?_
        refine lv_iadd hx hb dL_law_173 ?_
        refine va_sld hx hb hX hbl hbA hH.2.2 i5 dL_law_174 ?_
        refine w_callVi (As := [.int (xs (x3 + 1).toNatClampNeg), .int (xs (x3 + 2).toNatClampNeg), .int (xs (x3 + 3).toNatClampNeg), .int (xs (x3 + 4).toNatClampNeg), .int (xs (x3 + 5).toNatClampNeg)]) (rest := [.int r]) ⟨hx, hb, hml, hown, hB⟩ hK2 hX2 hA hH (c0 := 0) (tX9_feed hH2 h) (cwV 5 hB gVL_25 rfl rfl rfl (by decide +kernel) ⟨Nat.le_of_ble_eq_true rfl, Nat.le_of_ble_eq_true rfl⟩) hH2.1 rfl rfl hl.1 rfl (lv_room (Nat.le_of_ble_eq_true rfl)) ⟨hcs1, hcs2⟩ dL_law_175 (fun r2 τ1 H locs h hH => ?_)
        replace hH := hH.swap hgD.symm
        refine lv_icmp_eq (tgt := 599) hx hb dL_law_178 (by decide) (fun q2 => ?_) (fun q2 => ?_)
        · exact back σ1 τ1 _ _ hn64 h.2 hH
        · exact absurd h.1 q2
      by_cases g1 : w = 1
      · refine lv_tableIn (off := 130) (tgt := 183) hx hb dL_law_53 (by rw [g1]; decide) (by rw [g1]; decide) (by rw [g1]; rfl) (by decide) ?_
        have h := hS.2.2.1 n P σ τ (xs (x3 + 1).toNatClampNeg) hn64 hRel
        refine lv_aload_n hx hb dL_law_183 rfl (lv_at hl 1 rfl) ?_
        refine lv_aload_n hx hb dL_law_184 rfl (lv_at hl 0 rfl) ?_
        refine lv_iload_n hx hb dL_law_185 rfl (lv_at hl 3 rfl) ?_
        refine lv_iconst (v := 1) hx hb dL_law_186 (by decide) ?_
        refine lv_iadd hx hb dL_law_187 ?_
        refine va_sld hx hb hX hbl hbA hH.2.2 i1 dL_law_188 ?_
        refine w_callVi (As := [.int (xs (x3 + 1).toNatClampNeg)]) (rest := []) ⟨hx, hb, hml, hown, hB⟩ hK1 hX1 hA hH (c0 := 0) (tX8_end hH1 h) (cwV 1 hB gVL_26 rfl rfl rfl (by decide +kernel) ⟨Nat.le_of_ble_eq_true rfl, Nat.le_of_ble_eq_true rfl⟩) hH1.1 rfl rfl hl.1 rfl (lv_room (Nat.le_of_ble_eq_true rfl)) ⟨hcs1, hcs2⟩ dL_law_189 (fun r σ1 H locs h hH => ?_)
        replace hH := hH.swap hgD
        refine lv_aload_n hx hb dL_law_192 rfl (lv_at hl 2 rfl) ?_
        refine lv_aload_n hx hb dL_law_193 rfl (lv_at hl 0 rfl) ?_
        refine lv_iload_n hx hb dL_law_194 rfl (lv_at hl 3 rfl) ?_
        refine lv_iconst (v := 1) hx hb dL_law_195 (by decide) ?_
        refine lv_iadd hx hb dL_law_196 ?_
        refine va_sld hx hb hX hbl hbA hH.2.2 i1 dL_law_197 ?_
        refine w_callVi (As := [.int (xs (x3 + 1).toNatClampNeg)]) (rest := [.int r]) ⟨hx, hb, hml, hown, hB⟩ hK2 hX2 hA hH (c0 := 0) (tX9_end hH2 h) (cwV 1 hB gVL_30 rfl rfl rfl (by decide +kernel) ⟨Nat.le_of_ble_eq_true rfl, Nat.le_of_ble_eq_true rfl⟩) hH2.1 rfl rfl hl.1 rfl (lv_room (Nat.le_of_ble_eq_true rfl)) ⟨hcs1, hcs2⟩ dL_law_198 (fun r2 τ1 H locs h hH => ?_)
        replace hH := hH.swap hgD.symm
        refine lv_icmp_eq (tgt := 599) hx hb dL_law_201 (by decide) (fun q2 => ?_) (fun q2 => ?_)
        · exact back σ1 τ1 _ _ hn64 h.2 hH
        · exact absurd h.1 q2
      by_cases g2 : w = 2
      · refine lv_tableIn (off := 153) (tgt := 206) hx hb dL_law_53 (by rw [g2]; decide) (by rw [g2]; decide) (by rw [g2]; rfl) (by decide) ?_
        have h := hS.2.2.2.1 n P σ τ (xs (x3 + 1).toNatClampNeg) (xs (x3 + 2).toNatClampNeg) hn64 hRel
        refine lv_aload_n hx hb dL_law_206 rfl (lv_at hl 1 rfl) ?_
        refine lv_aload_n hx hb dL_law_207 rfl (lv_at hl 0 rfl) ?_
        refine lv_iload_n hx hb dL_law_208 rfl (lv_at hl 3 rfl) ?_
        refine lv_iconst (v := 1) hx hb dL_law_209 (by decide) ?_
        refine lv_iadd hx hb dL_law_210 ?_
        refine va_sld hx hb hX hbl hbA hH.2.2 i1 dL_law_211 ?_
        refine lv_aload_n hx hb dL_law_212 rfl (lv_at hl 0 rfl) ?_
        refine lv_iload_n hx hb dL_law_213 rfl (lv_at hl 3 rfl) ?_
        refine lv_iconst (v := 2) hx hb dL_law_214 (by decide) ?_
        refine lv_iadd hx hb dL_law_215 ?_
        refine va_sld hx hb hX hbl hbA hH.2.2 i2 dL_law_216 ?_
        refine w_callVi (As := [.int (xs (x3 + 1).toNatClampNeg), .int (xs (x3 + 2).toNatClampNeg)]) (rest := []) ⟨hx, hb, hml, hown, hB⟩ hK1 hX1 hA hH (c0 := 0) (tX8_send (tS := tS) hg1 hH1 h) (cwV 2 hB gVL_31 rfl rfl rfl (by decide +kernel) ⟨Nat.le_of_ble_eq_true rfl, Nat.le_of_ble_eq_true rfl⟩) hH1.1 rfl rfl hl.1 rfl (lv_room (Nat.le_of_ble_eq_true rfl)) ⟨hcs1, hcs2⟩ dL_law_217 (fun r σ1 H locs h hH => ?_)
        replace hH := hH.swap hgD
        refine lv_aload_n hx hb dL_law_220 rfl (lv_at hl 2 rfl) ?_
        refine lv_aload_n hx hb dL_law_221 rfl (lv_at hl 0 rfl) ?_
        refine lv_iload_n hx hb dL_law_222 rfl (lv_at hl 3 rfl) ?_
        refine lv_iconst (v := 1) hx hb dL_law_223 (by decide) ?_
        refine lv_iadd hx hb dL_law_224 ?_
        refine va_sld hx hb hX hbl hbA hH.2.2 i1 dL_law_225 ?_
        refine lv_aload_n hx hb dL_law_226 rfl (lv_at hl 0 rfl) ?_
        refine lv_iload_n hx hb dL_law_227 rfl (lv_at hl 3 rfl) ?_
        refine lv_iconst (v := 2) hx hb dL_law_228 (by decide) ?_
        refine lv_iadd hx hb dL_law_229 ?_
        refine va_sld hx hb hX hbl hbA hH.2.2 i2 dL_law_230 ?_
        refine w_callVi (As := [.int (xs (x3 + 1).toNatClampNeg), .int (xs (x3 + 2).toNatClampNeg)]) (rest := [.int r]) ⟨hx, hb, hml, hown, hB⟩ hK2 hX2 hA hH (c0 := 0) (tX9_send hH2 h) (cwV 2 hB gVL_35 rfl rfl rfl (by decide +kernel) ⟨Nat.le_of_ble_eq_true rfl, Nat.le_of_ble_eq_true rfl⟩) hH2.1 rfl rfl hl.1 rfl (lv_room (Nat.le_of_ble_eq_true rfl)) ⟨hcs1, hcs2⟩ dL_law_231 (fun r2 τ1 H locs h hH => ?_)
        replace hH := hH.swap hgD.symm
        refine lv_icmp_eq (tgt := 599) hx hb dL_law_234 (by decide) (fun q2 => ?_) (fun q2 => ?_)
        · exact back σ1 τ1 _ _ hn64 h.2 hH
        · exact absurd h.1 q2
      by_cases g3 : w = 3
      · refine lv_tableIn (off := 186) (tgt := 239) hx hb dL_law_53 (by rw [g3]; decide) (by rw [g3]; decide) (by rw [g3]; rfl) (by decide) ?_
        have h := hS.2.2.2.2.1 n P σ τ (xs (x3 + 1).toNatClampNeg) (xs (x3 + 2).toNatClampNeg) hn64 hRel
        refine lv_aload_n hx hb dL_law_239 rfl (lv_at hl 1 rfl) ?_
        refine lv_aload_n hx hb dL_law_240 rfl (lv_at hl 0 rfl) ?_
        refine lv_iload_n hx hb dL_law_241 rfl (lv_at hl 3 rfl) ?_
        refine lv_iconst (v := 1) hx hb dL_law_242 (by decide) ?_
        refine lv_iadd hx hb dL_law_243 ?_
        refine va_sld hx hb hX hbl hbA hH.2.2 i1 dL_law_244 ?_
        refine lv_aload_n hx hb dL_law_245 rfl (lv_at hl 0 rfl) ?_
        refine lv_iload_n hx hb dL_law_246 rfl (lv_at hl 3 rfl) ?_
        refine lv_iconst (v := 2) hx hb dL_law_247 (by decide) ?_
        refine lv_iadd hx hb dL_law_248 ?_
        refine va_sld hx hb hX hbl hbA hH.2.2 i2 dL_law_249 ?_
        refine w_callVi (As := [.int (xs (x3 + 1).toNatClampNeg), .int (xs (x3 + 2).toNatClampNeg)]) (rest := []) ⟨hx, hb, hml, hown, hB⟩ hK1 hX1 hA hH (c0 := 0) (tX8_rate (tS := tS) hg1 hH1 h) (cwV 2 hB gVL_36 rfl rfl rfl (by decide +kernel) ⟨Nat.le_of_ble_eq_true rfl, Nat.le_of_ble_eq_true rfl⟩) hH1.1 rfl rfl hl.1 rfl (lv_room (Nat.le_of_ble_eq_true rfl)) ⟨hcs1, hcs2⟩ dL_law_250 (fun r σ1 H locs h hH => ?_)
        replace hH := hH.swap hgD
        refine lv_aload_n hx hb dL_law_253 rfl (lv_at hl 2 rfl) ?_
        refine lv_aload_n hx hb dL_law_254 rfl (lv_at hl 0 rfl) ?_
        refine lv_iload_n hx hb dL_law_255 rfl (lv_at hl 3 rfl) ?_
        refine lv_iconst (v := 1) hx hb dL_law_256 (by decide) ?_
        refine lv_iadd hx hb dL_law_257 ?_
        refine va_sld hx hb hX hbl hbA hH.2.2 i1 dL_law_258 ?_
        refine lv_aload_n hx hb dL_law_259 rfl (lv_at hl 0 rfl) ?_
        refine lv_iload_n hx hb dL_law_260 rfl (lv_at hl 3 rfl) ?_
        refine lv_iconst (v := 2) hx hb dL_law_261 (by decide) ?_
        refine lv_iadd hx hb dL_law_262 ?_
        refine va_sld hx hb hX hbl hbA hH.2.2 i2 dL_law_263 ?_
        refine w_callVi (As := [.int (xs (x3 + 1).toNatClampNeg), .int (xs (x3 + 2).toNatClampNeg)]) (rest := [.int r]) ⟨hx, hb, hml, hown, hB⟩ hK2 hX2 hA hH (c0 := 0) (tX9_rate hH2 h) (cwV 2 hB gVL_40 rfl rfl rfl (by decide +kernel) ⟨Nat.le_of_ble_eq_true rfl, Nat.le_of_ble_eq_true rfl⟩) hH2.1 rfl rfl hl.1 rfl (lv_room (Nat.le_of_ble_eq_true rfl)) ⟨hcs1, hcs2⟩ dL_law_264 (fun r2 τ1 H locs h hH => ?_)
        replace hH := hH.swap hgD.symm
        refine lv_icmp_eq (tgt := 599) hx hb dL_law_267 (by decide) (fun q2 => ?_) (fun q2 => ?_)
        · exact back σ1 τ1 _ _ hn64 h.2 hH
        · exact absurd h.1 q2
      by_cases g4 : w = 4
      · refine lv_tableIn (off := 219) (tgt := 272) hx hb dL_law_53 (by rw [g4]; decide) (by rw [g4]; decide) (by rw [g4]; rfl) (by decide) ?_
        have h := hS.2.2.2.2.2.1 n P σ τ (xs (x3 + 1).toNatClampNeg) (xs (x3 + 2).toNatClampNeg) (xs (x3 + 3).toNatClampNeg) hn64 hRel
        refine lv_aload_n hx hb dL_law_272 rfl (lv_at hl 1 rfl) ?_
        refine lv_aload_n hx hb dL_law_273 rfl (lv_at hl 0 rfl) ?_
        refine lv_iload_n hx hb dL_law_274 rfl (lv_at hl 3 rfl) ?_
        refine lv_iconst (v := 1) hx hb dL_law_275 (by decide) ?_
        refine lv_iadd hx hb dL_law_276 ?_
        refine va_sld hx hb hX hbl hbA hH.2.2 i1 dL_law_277 ?_
        refine lv_aload_n hx hb dL_law_278 rfl (lv_at hl 0 rfl) ?_
        refine lv_iload_n hx hb dL_law_279 rfl (lv_at hl 3 rfl) ?_
        refine lv_iconst (v := 2) hx hb dL_law_280 (by decide) ?_
        refine lv_iadd hx hb dL_law_281 ?_
        refine va_sld hx hb hX hbl hbA hH.2.2 i2 dL_law_282 ?_
        refine lv_aload_n hx hb dL_law_283 rfl (lv_at hl 0 rfl) ?_
        refine lv_iload_n hx hb dL_law_284 rfl (lv_at hl 3 rfl) ?_
        refine lv_iconst (v := 3) hx hb dL_law_285 (by decide) ?_
        refine lv_iadd hx hb dL_law_286 ?_
        refine va_sld hx hb hX hbl hbA hH.2.2 i3 dL_law_287 ?_
        refine w_callVi (As := [.int (xs (x3 + 1).toNatClampNeg), .int (xs (x3 + 2).toNatClampNeg), .int (xs (x3 + 3).toNatClampNeg)]) (rest := []) ⟨hx, hb, hml, hown, hB⟩ hK1 hX1 hA hH (c0 := 0) (tX8_tick (tS := tS) hg1 hH1 (by rw [htS]; exact h)) (cwV 3 hB gVL_41 rfl rfl rfl (by decide +kernel) ⟨Nat.le_of_ble_eq_true rfl, Nat.le_of_ble_eq_true rfl⟩) hH1.1 rfl rfl hl.1 rfl (lv_room (Nat.le_of_ble_eq_true rfl)) ⟨hcs1, hcs2⟩ dL_law_288 (fun r σ1 H locs h hH => ?_)
        replace hH := hH.swap hgD
        refine lv_aload_n hx hb dL_law_291 rfl (lv_at hl 2 rfl) ?_
        refine lv_aload_n hx hb dL_law_292 rfl (lv_at hl 0 rfl) ?_
        refine lv_iload_n hx hb dL_law_293 rfl (lv_at hl 3 rfl) ?_
        refine lv_iconst (v := 1) hx hb dL_law_294 (by decide) ?_
        refine lv_iadd hx hb dL_law_295 ?_
        refine va_sld hx hb hX hbl hbA hH.2.2 i1 dL_law_296 ?_
        refine lv_aload_n hx hb dL_law_297 rfl (lv_at hl 0 rfl) ?_
        refine lv_iload_n hx hb dL_law_298 rfl (lv_at hl 3 rfl) ?_
        refine lv_iconst (v := 2) hx hb dL_law_299 (by decide) ?_
        refine lv_iadd hx hb dL_law_300 ?_
        refine va_sld hx hb hX hbl hbA hH.2.2 i2 dL_law_301 ?_
        refine lv_aload_n hx hb dL_law_302 rfl (lv_at hl 0 rfl) ?_
        refine lv_iload_n hx hb dL_law_303 rfl (lv_at hl 3 rfl) ?_
        refine lv_iconst (v := 3) hx hb dL_law_304 (by decide) ?_
        refine lv_iadd hx hb dL_law_305 ?_
        refine va_sld hx hb hX hbl hbA hH.2.2 i3 dL_law_306 ?_
        refine w_callVi (As := [.int (xs (x3 + 1).toNatClampNeg), .int (xs (x3 + 2).toNatClampNeg), .int (xs (x3 + 3).toNatClampNeg)]) (rest := [.int r]) ⟨hx, hb, hml, hown, hB⟩ hK2 hX2 hA hH (c0 := 0) (tX9_tick hH2 h) (cwV 3 hB gVL_45 rfl rfl rfl (by decide +kernel) ⟨Nat.le_of_ble_eq_true rfl, Nat.le_of_ble_eq_true rfl⟩) hH2.1 rfl rfl hl.1 rfl (lv_room (Nat.le_of_ble_eq_true rfl)) ⟨hcs1, hcs2⟩ dL_law_307 (fun r2 τ1 H locs h hH => ?_)
        replace hH := hH.swap hgD.symm
        refine lv_icmp_eq (tgt := 599) hx hb dL_law_310 (by decide) (fun q2 => ?_) (fun q2 => ?_)
        · exact back σ1 τ1 _ _ hn64 h.2 hH
        · exact absurd h.1 q2
      by_cases g5 : w = 5
      · refine lv_tableIn (off := 262) (tgt := 315) hx hb dL_law_53 (by rw [g5]; decide) (by rw [g5]; decide) (by rw [g5]; rfl) (by decide) ?_
        have h := hS.2.2.2.2.2.2.1 n P σ τ  hn64 hRel
        refine lv_aload_n hx hb dL_law_315 rfl (lv_at hl 1 rfl) ?_
        refine w_callVi (As := []) (rest := []) ⟨hx, hb, hml, hown, hB⟩ hK1 hX1 hA hH (c0 := 0) (tX8_renew (tS := tS) hg1 hH1 (by rw [htS]; exact h)) (cwV 0 hB gVL_46 rfl rfl rfl (by decide +kernel) ⟨Nat.le_of_ble_eq_true rfl, Nat.le_of_ble_eq_true rfl⟩) hH1.1 rfl rfl hl.1 rfl (lv_room (Nat.le_of_ble_eq_true rfl)) ⟨hcs1, hcs2⟩ dL_law_316 (fun r σ1 H locs h hH => ?_)
        replace hH := hH.swap hgD
        refine lv_aload_n hx hb dL_law_319 rfl (lv_at hl 2 rfl) ?_
        refine w_callVi (As := []) (rest := [.int r]) ⟨hx, hb, hml, hown, hB⟩ hK2 hX2 hA hH (c0 := 0) (tX9_renew hH2 h) (cwV 0 hB gVL_50 rfl rfl rfl (by decide +kernel) ⟨Nat.le_of_ble_eq_true rfl, Nat.le_of_ble_eq_true rfl⟩) hH2.1 rfl rfl hl.1 rfl (lv_room (Nat.le_of_ble_eq_true rfl)) ⟨hcs1, hcs2⟩ dL_law_320 (fun r2 τ1 H locs h hH => ?_)
        replace hH := hH.swap hgD.symm
        refine lv_icmp_eq (tgt := 599) hx hb dL_law_323 (by decide) (fun q2 => ?_) (fun q2 => ?_)
        · exact back σ1 τ1 _ _ hn64 h.2 hH
        · exact absurd h.1 q2
      by_cases g6 : w = 6
      · refine lv_tableIn (off := 275) (tgt := 328) hx hb dL_law_53 (by rw [g6]; decide) (by rw [g6]; decide) (by rw [g6]; rfl) (by decide) ?_
        have h := hS.2.2.2.2.2.2.2.1 n P σ τ (xs (x3 + 1).toNatClampNeg) (xs (x3 + 2).toNatClampNeg) hn64 hRel
        refine lv_aload_n hx hb dL_law_328 rfl (lv_at hl 1 rfl) ?_
        refine lv_aload_n hx hb dL_law_329 rfl (lv_at hl 0 rfl) ?_
        refine lv_iload_n hx hb dL_law_330 rfl (lv_at hl 3 rfl) ?_
        refine lv_iconst (v := 1) hx hb dL_law_331 (by decide) ?_
        refine lv_iadd hx hb dL_law_332 ?_
        refine va_sld hx hb hX hbl hbA hH.2.2 i1 dL_law_333 ?_
        refine lv_aload_n hx hb dL_law_334 rfl (lv_at hl 0 rfl) ?_
        refine lv_iload_n hx hb dL_law_335 rfl (lv_at hl 3 rfl) ?_
        refine lv_iconst (v := 2) hx hb dL_law_336 (by decide) ?_
        refine lv_iadd hx hb dL_law_337 ?_
        refine va_sld hx hb hX hbl hbA hH.2.2 i2 dL_law_338 ?_
        refine w_callVi (As := [.int (xs (x3 + 1).toNatClampNeg), .int (xs (x3 + 2).toNatClampNeg)]) (rest := []) ⟨hx, hb, hml, hown, hB⟩ hK1 hX1 hA hH (c0 := 0) (tX8_block (tS := tS) hg1 hH1 h) (cwV 2 hB gVL_51 rfl rfl rfl (by decide +kernel) ⟨Nat.le_of_ble_eq_true rfl, Nat.le_of_ble_eq_true rfl⟩) hH1.1 rfl rfl hl.1 rfl (lv_room (Nat.le_of_ble_eq_true rfl)) ⟨hcs1, hcs2⟩ dL_law_339 (fun r σ1 H locs h hH => ?_)
        replace hH := hH.swap hgD
        refine lv_aload_n hx hb dL_law_342 rfl (lv_at hl 2 rfl) ?_
        refine lv_aload_n hx hb dL_law_343 rfl (lv_at hl 0 rfl) ?_
        refine lv_iload_n hx hb dL_law_344 rfl (lv_at hl 3 rfl) ?_
        refine lv_iconst (v := 1) hx hb dL_law_345 (by decide) ?_
        refine lv_iadd hx hb dL_law_346 ?_
        refine va_sld hx hb hX hbl hbA hH.2.2 i1 dL_law_347 ?_
        refine lv_aload_n hx hb dL_law_348 rfl (lv_at hl 0 rfl) ?_
        refine lv_iload_n hx hb dL_law_349 rfl (lv_at hl 3 rfl) ?_
        refine lv_iconst (v := 2) hx hb dL_law_350 (by decide) ?_
        refine lv_iadd hx hb dL_law_351 ?_
        refine va_sld hx hb hX hbl hbA hH.2.2 i2 dL_law_352 ?_
        refine w_callVi (As := [.int (xs (x3 + 1).toNatClampNeg), .int (xs (x3 + 2).toNatClampNeg)]) (rest := [.int r]) ⟨hx, hb, hml, hown, hB⟩ hK2 hX2 hA hH (c0 := 0) (tX9_block hH2 h) (cwV 2 hB gVL_54 rfl rfl rfl (by decide +kernel) ⟨Nat.le_of_ble_eq_true rfl, Nat.le_of_ble_eq_true rfl⟩) hH2.1 rfl rfl hl.1 rfl (lv_room (Nat.le_of_ble_eq_true rfl)) ⟨hcs1, hcs2⟩ dL_law_353 (fun r2 τ1 H locs h hH => ?_)
        replace hH := hH.swap hgD.symm
        refine lv_icmp_eq (tgt := 599) hx hb dL_law_356 (by decide) (fun q2 => ?_) (fun q2 => ?_)
        · exact back σ1 τ1 _ _ hn64 h.2 hH
        · exact absurd h.1 q2
      by_cases g7 : w = 7
      · refine lv_tableIn (off := 308) (tgt := 361) hx hb dL_law_53 (by rw [g7]; decide) (by rw [g7]; decide) (by rw [g7]; rfl) (by decide) ?_
        have h := hS.2.2.2.2.2.2.2.2.1 n P σ τ (xs (x3 + 1).toNatClampNeg) (xs (x3 + 2).toNatClampNeg) (xs (x3 + 3).toNatClampNeg) hn64 hRel
        refine lv_aload_n hx hb dL_law_361 rfl (lv_at hl 1 rfl) ?_
        refine lv_aload_n hx hb dL_law_362 rfl (lv_at hl 0 rfl) ?_
        refine lv_iload_n hx hb dL_law_363 rfl (lv_at hl 3 rfl) ?_
        refine lv_iconst (v := 1) hx hb dL_law_364 (by decide) ?_
        refine lv_iadd hx hb dL_law_365 ?_
        refine va_sld hx hb hX hbl hbA hH.2.2 i1 dL_law_366 ?_
        refine lv_aload_n hx hb dL_law_367 rfl (lv_at hl 0 rfl) ?_
        refine lv_iload_n hx hb dL_law_368 rfl (lv_at hl 3 rfl) ?_
        refine lv_iconst (v := 2) hx hb dL_law_369 (by decide) ?_
        refine lv_iadd hx hb dL_law_370 ?_
        refine va_sld hx hb hX hbl hbA hH.2.2 i2 dL_law_371 ?_
        refine lv_aload_n hx hb dL_law_372 rfl (lv_at hl 0 rfl) ?_
        refine lv_iload_n hx hb dL_law_373 rfl (lv_at hl 3 rfl) ?_
        refine lv_iconst (v := 3) hx hb dL_law_374 (by decide) ?_
        refine lv_iadd hx hb dL_law_375 ?_
        refine va_sld hx hb hX hbl hbA hH.2.2 i3 dL_law_376 ?_
        refine w_callVi (As := [.int (xs (x3 + 1).toNatClampNeg), .int (xs (x3 + 2).toNatClampNeg), .int (xs (x3 + 3).toNatClampNeg)]) (rest := []) ⟨hx, hb, hml, hown, hB⟩ hK1 hX1 hA hH (c0 := 0) (tX8_sender (tS := tS) hg1 hH1 h) (cwV 3 hB gVL_55 rfl rfl rfl (by decide +kernel) ⟨Nat.le_of_ble_eq_true rfl, Nat.le_of_ble_eq_true rfl⟩) hH1.1 rfl rfl hl.1 rfl (lv_room (Nat.le_of_ble_eq_true rfl)) ⟨hcs1, hcs2⟩ dL_law_377 (fun r σ1 H locs h hH => ?_)
        replace hH := hH.swap hgD
        refine lv_aload_n hx hb dL_law_380 rfl (lv_at hl 2 rfl) ?_
        refine lv_aload_n hx hb dL_law_381 rfl (lv_at hl 0 rfl) ?_
        refine lv_iload_n hx hb dL_law_382 rfl (lv_at hl 3 rfl) ?_
        refine lv_iconst (v := 1) hx hb dL_law_383 (by decide) ?_
        refine lv_iadd hx hb dL_law_384 ?_
        refine va_sld hx hb hX hbl hbA hH.2.2 i1 dL_law_385 ?_
        refine lv_aload_n hx hb dL_law_386 rfl (lv_at hl 0 rfl) ?_
        refine lv_iload_n hx hb dL_law_387 rfl (lv_at hl 3 rfl) ?_
        refine lv_iconst (v := 2) hx hb dL_law_388 (by decide) ?_
        refine lv_iadd hx hb dL_law_389 ?_
        refine va_sld hx hb hX hbl hbA hH.2.2 i2 dL_law_390 ?_
        refine lv_aload_n hx hb dL_law_391 rfl (lv_at hl 0 rfl) ?_
        refine lv_iload_n hx hb dL_law_392 rfl (lv_at hl 3 rfl) ?_
        refine lv_iconst (v := 3) hx hb dL_law_393 (by decide) ?_
        refine lv_iadd hx hb dL_law_394 ?_
        refine va_sld hx hb hX hbl hbA hH.2.2 i3 dL_law_395 ?_
        refine w_callVi (As := [.int (xs (x3 + 1).toNatClampNeg), .int (xs (x3 + 2).toNatClampNeg), .int (xs (x3 + 3).toNatClampNeg)]) (rest := [.int r]) ⟨hx, hb, hml, hown, hB⟩ hK2 hX2 hA hH (c0 := 0) (tX9_sender hH2 h) (cwV 3 hB gVL_58 rfl rfl rfl (by decide +kernel) ⟨Nat.le_of_ble_eq_true rfl, Nat.le_of_ble_eq_true rfl⟩) hH2.1 rfl rfl hl.1 rfl (lv_room (Nat.le_of_ble_eq_true rfl)) ⟨hcs1, hcs2⟩ dL_law_396 (fun r2 τ1 H locs h hH => ?_)
        replace hH := hH.swap hgD.symm
        refine lv_icmp_eq (tgt := 599) hx hb dL_law_399 (by decide) (fun q2 => ?_) (fun q2 => ?_)
        · exact back σ1 τ1 _ _ hn64 h.2 hH
        · exact absurd h.1 q2
      by_cases g8 : w = 8
      · refine lv_tableIn (off := 351) (tgt := 404) hx hb dL_law_53 (by rw [g8]; decide) (by rw [g8]; decide) (by rw [g8]; rfl) (by decide) ?_
        have h := hS.2.2.2.2.2.2.2.2.2.1 n P σ τ (xs (x3 + 1).toNatClampNeg) (xs (x3 + 2).toNatClampNeg) (xs (x3 + 3).toNatClampNeg) hn64 hRel
        refine lv_aload_n hx hb dL_law_404 rfl (lv_at hl 1 rfl) ?_
        refine lv_aload_n hx hb dL_law_405 rfl (lv_at hl 0 rfl) ?_
        refine lv_iload_n hx hb dL_law_406 rfl (lv_at hl 3 rfl) ?_
        refine lv_iconst (v := 1) hx hb dL_law_407 (by decide) ?_
        refine lv_iadd hx hb dL_law_408 ?_
        refine va_sld hx hb hX hbl hbA hH.2.2 i1 dL_law_409 ?_
        refine lv_aload_n hx hb dL_law_410 rfl (lv_at hl 0 rfl) ?_
        refine lv_iload_n hx hb dL_law_411 rfl (lv_at hl 3 rfl) ?_
        refine lv_iconst (v := 2) hx hb dL_law_412 (by decide) ?_
        refine lv_iadd hx hb dL_law_413 ?_
        refine va_sld hx hb hX hbl hbA hH.2.2 i2 dL_law_414 ?_
        refine lv_aload_n hx hb dL_law_415 rfl (lv_at hl 0 rfl) ?_
        refine lv_iload_n hx hb dL_law_416 rfl (lv_at hl 3 rfl) ?_
        refine lv_iconst (v := 3) hx hb dL_law_417 (by decide) ?_
        refine lv_iadd hx hb dL_law_418 ?_
        refine va_sld hx hb hX hbl hbA hH.2.2 i3 dL_law_419 ?_
        refine w_callVi (As := [.int (xs (x3 + 1).toNatClampNeg), .int (xs (x3 + 2).toNatClampNeg), .int (xs (x3 + 3).toNatClampNeg)]) (rest := []) ⟨hx, hb, hml, hown, hB⟩ hK1 hX1 hA hH (c0 := 0) (tX8_receiver (tS := tS) hg1 hH1 h) (cwV 3 hB gVL_59 rfl rfl rfl (by decide +kernel) ⟨Nat.le_of_ble_eq_true rfl, Nat.le_of_ble_eq_true rfl⟩) hH1.1 rfl rfl hl.1 rfl (lv_room (Nat.le_of_ble_eq_true rfl)) ⟨hcs1, hcs2⟩ dL_law_420 (fun r σ1 H locs h hH => ?_)
        replace hH := hH.swap hgD
        refine lv_aload_n hx hb dL_law_423 rfl (lv_at hl 2 rfl) ?_
        refine lv_aload_n hx hb dL_law_424 rfl (lv_at hl 0 rfl) ?_
        refine lv_iload_n hx hb dL_law_425 rfl (lv_at hl 3 rfl) ?_
        refine lv_iconst (v := 1) hx hb dL_law_426 (by decide) ?_
        refine lv_iadd hx hb dL_law_427 ?_
        refine va_sld hx hb hX hbl hbA hH.2.2 i1 dL_law_428 ?_
        refine lv_aload_n hx hb dL_law_429 rfl (lv_at hl 0 rfl) ?_
        refine lv_iload_n hx hb dL_law_430 rfl (lv_at hl 3 rfl) ?_
        refine lv_iconst (v := 2) hx hb dL_law_431 (by decide) ?_
        refine lv_iadd hx hb dL_law_432 ?_
        refine va_sld hx hb hX hbl hbA hH.2.2 i2 dL_law_433 ?_
        refine lv_aload_n hx hb dL_law_434 rfl (lv_at hl 0 rfl) ?_
        refine lv_iload_n hx hb dL_law_435 rfl (lv_at hl 3 rfl) ?_
        refine lv_iconst (v := 3) hx hb dL_law_436 (by decide) ?_
        refine lv_iadd hx hb dL_law_437 ?_
        refine va_sld hx hb hX hbl hbA hH.2.2 i3 dL_law_438 ?_
        refine w_callVi (As := [.int (xs (x3 + 1).toNatClampNeg), .int (xs (x3 + 2).toNatClampNeg), .int (xs (x3 + 3).toNatClampNeg)]) (rest := [.int r]) ⟨hx, hb, hml, hown, hB⟩ hK2 hX2 hA hH (c0 := 0) (tX9_receiver hH2 h) (cwV 3 hB gVL_62 rfl rfl rfl (by decide +kernel) ⟨Nat.le_of_ble_eq_true rfl, Nat.le_of_ble_eq_true rfl⟩) hH2.1 rfl rfl hl.1 rfl (lv_room (Nat.le_of_ble_eq_true rfl)) ⟨hcs1, hcs2⟩ dL_law_439 (fun r2 τ1 H locs h hH => ?_)
        replace hH := hH.swap hgD.symm
        refine lv_icmp_eq (tgt := 599) hx hb dL_law_442 (by decide) (fun q2 => ?_) (fun q2 => ?_)
        · exact back σ1 τ1 _ _ hn64 h.2 hH
        · exact absurd h.1 q2
      by_cases g9 : w = 9
      · refine lv_tableIn (off := 394) (tgt := 447) hx hb dL_law_53 (by rw [g9]; decide) (by rw [g9]; decide) (by rw [g9]; rfl) (by decide) ?_
        have h := hS.2.2.2.2.2.2.2.2.2.2.1 n P σ τ (xs (x3 + 1).toNatClampNeg) (xs (x3 + 2).toNatClampNeg) (xs (x3 + 3).toNatClampNeg) hn64 hRel
        refine lv_aload_n hx hb dL_law_447 rfl (lv_at hl 1 rfl) ?_
        refine lv_aload_n hx hb dL_law_448 rfl (lv_at hl 0 rfl) ?_
        refine lv_iload_n hx hb dL_law_449 rfl (lv_at hl 3 rfl) ?_
        refine lv_iconst (v := 1) hx hb dL_law_450 (by decide) ?_
        refine lv_iadd hx hb dL_law_451 ?_
        refine va_sld hx hb hX hbl hbA hH.2.2 i1 dL_law_452 ?_
        refine lv_aload_n hx hb dL_law_453 rfl (lv_at hl 0 rfl) ?_
        refine lv_iload_n hx hb dL_law_454 rfl (lv_at hl 3 rfl) ?_
        refine lv_iconst (v := 2) hx hb dL_law_455 (by decide) ?_
        refine lv_iadd hx hb dL_law_456 ?_
        refine va_sld hx hb hX hbl hbA hH.2.2 i2 dL_law_457 ?_
        refine lv_aload_n hx hb dL_law_458 rfl (lv_at hl 0 rfl) ?_
        refine lv_iload_n hx hb dL_law_459 rfl (lv_at hl 3 rfl) ?_
        refine lv_iconst (v := 3) hx hb dL_law_460 (by decide) ?_
        refine lv_iadd hx hb dL_law_461 ?_
        refine va_sld hx hb hX hbl hbA hH.2.2 i3 dL_law_462 ?_
        refine w_callVi (As := [.int (xs (x3 + 1).toNatClampNeg), .int (xs (x3 + 2).toNatClampNeg), .int (xs (x3 + 3).toNatClampNeg)]) (rest := []) ⟨hx, hb, hml, hown, hB⟩ hK1 hX1 hA hH (c0 := 0) (tX8_delivered (tS := tS) hg1 hH1 h) (cwV 3 hB gVL_63 rfl rfl rfl (by decide +kernel) ⟨Nat.le_of_ble_eq_true rfl, Nat.le_of_ble_eq_true rfl⟩) hH1.1 rfl rfl hl.1 rfl (lv_room (Nat.le_of_ble_eq_true rfl)) ⟨hcs1, hcs2⟩ dL_law_463 (fun r σ1 H locs h hH => ?_)
        replace hH := hH.swap hgD
        refine lv_aload_n hx hb dL_law_466 rfl (lv_at hl 2 rfl) ?_
        refine lv_aload_n hx hb dL_law_467 rfl (lv_at hl 0 rfl) ?_
        refine lv_iload_n hx hb dL_law_468 rfl (lv_at hl 3 rfl) ?_
        refine lv_iconst (v := 1) hx hb dL_law_469 (by decide) ?_
        refine lv_iadd hx hb dL_law_470 ?_
        refine va_sld hx hb hX hbl hbA hH.2.2 i1 dL_law_471 ?_
        refine lv_aload_n hx hb dL_law_472 rfl (lv_at hl 0 rfl) ?_
        refine lv_iload_n hx hb dL_law_473 rfl (lv_at hl 3 rfl) ?_
        refine lv_iconst (v := 2) hx hb dL_law_474 (by decide) ?_
        refine lv_iadd hx hb dL_law_475 ?_
        refine va_sld hx hb hX hbl hbA hH.2.2 i2 dL_law_476 ?_
        refine lv_aload_n hx hb dL_law_477 rfl (lv_at hl 0 rfl) ?_
        refine lv_iload_n hx hb dL_law_478 rfl (lv_at hl 3 rfl) ?_
        refine lv_iconst (v := 3) hx hb dL_law_479 (by decide) ?_
        refine lv_iadd hx hb dL_law_480 ?_
        refine va_sld hx hb hX hbl hbA hH.2.2 i3 dL_law_481 ?_
        refine w_callVi (As := [.int (xs (x3 + 1).toNatClampNeg), .int (xs (x3 + 2).toNatClampNeg), .int (xs (x3 + 3).toNatClampNeg)]) (rest := [.int r]) ⟨hx, hb, hml, hown, hB⟩ hK2 hX2 hA hH (c0 := 0) (tX9_delivered hH2 h) (cwV 3 hB gVL_66 rfl rfl rfl (by decide +kernel) ⟨Nat.le_of_ble_eq_true rfl, Nat.le_of_ble_eq_true rfl⟩) hH2.1 rfl rfl hl.1 rfl (lv_room (Nat.le_of_ble_eq_true rfl)) ⟨hcs1, hcs2⟩ dL_law_482 (fun r2 τ1 H locs h hH => ?_)
        replace hH := hH.swap hgD.symm
        refine lv_icmp_eq (tgt := 599) hx hb dL_law_485 (by decide) (fun q2 => ?_) (fun q2 => ?_)
        · exact back σ1 τ1 _ _ hn64 h.2 hH
        · exact absurd h.1 q2
      by_cases g10 : w = 10
      · refine lv_tableIn (off := 437) (tgt := 490) hx hb dL_law_53 (by rw [g10]; decide) (by rw [g10]; decide) (by rw [g10]; rfl) (by decide) ?_
        have h := hS.2.2.2.2.2.2.2.2.2.2.2.1 n P σ τ (xs (x3 + 1).toNatClampNeg) (xs (x3 + 2).toNatClampNeg) (xs (x3 + 3).toNatClampNeg) hn64 hRel
        refine lv_aload_n hx hb dL_law_490 rfl (lv_at hl 1 rfl) ?_
        refine lv_aload_n hx hb dL_law_491 rfl (lv_at hl 0 rfl) ?_
        refine lv_iload_n hx hb dL_law_492 rfl (lv_at hl 3 rfl) ?_
        refine lv_iconst (v := 1) hx hb dL_law_493 (by decide) ?_
        refine lv_iadd hx hb dL_law_494 ?_
        refine va_sld hx hb hX hbl hbA hH.2.2 i1 dL_law_495 ?_
        refine lv_aload_n hx hb dL_law_496 rfl (lv_at hl 0 rfl) ?_
        refine lv_iload_n hx hb dL_law_497 rfl (lv_at hl 3 rfl) ?_
        refine lv_iconst (v := 2) hx hb dL_law_498 (by decide) ?_
        refine lv_iadd hx hb dL_law_499 ?_
        refine va_sld hx hb hX hbl hbA hH.2.2 i2 dL_law_500 ?_
        refine lv_aload_n hx hb dL_law_501 rfl (lv_at hl 0 rfl) ?_
        refine lv_iload_n hx hb dL_law_502 rfl (lv_at hl 3 rfl) ?_
        refine lv_iconst (v := 3) hx hb dL_law_503 (by decide) ?_
        refine lv_iadd hx hb dL_law_504 ?_
        refine va_sld hx hb hX hbl hbA hH.2.2 i3 dL_law_505 ?_
        refine w_callVi (As := [.int (xs (x3 + 1).toNatClampNeg), .int (xs (x3 + 2).toNatClampNeg), .int (xs (x3 + 3).toNatClampNeg)]) (rest := []) ⟨hx, hb, hml, hown, hB⟩ hK1 hX1 hA hH (c0 := 0) (tX8_unit (tS := tS) hg1 hH1 h) (cwV 3 hB gVL_67 rfl rfl rfl (by decide +kernel) ⟨Nat.le_of_ble_eq_true rfl, Nat.le_of_ble_eq_true rfl⟩) hH1.1 rfl rfl hl.1 rfl (lv_room (Nat.le_of_ble_eq_true rfl)) ⟨hcs1, hcs2⟩ dL_law_506 (fun r σ1 H locs h hH => ?_)
        replace hH := hH.swap hgD
        refine lv_aload_n hx hb dL_law_509 rfl (lv_at hl 2 rfl) ?_
        refine lv_aload_n hx hb dL_law_510 rfl (lv_at hl 0 rfl) ?_
        refine lv_iload_n hx hb dL_law_511 rfl (lv_at hl 3 rfl) ?_
        refine lv_iconst (v := 1) hx hb dL_law_512 (by decide) ?_
        refine lv_iadd hx hb dL_law_513 ?_
        refine va_sld hx hb hX hbl hbA hH.2.2 i1 dL_law_514 ?_
        refine lv_aload_n hx hb dL_law_515 rfl (lv_at hl 0 rfl) ?_
        refine lv_iload_n hx hb dL_law_516 rfl (lv_at hl 3 rfl) ?_
        refine lv_iconst (v := 2) hx hb dL_law_517 (by decide) ?_
        refine lv_iadd hx hb dL_law_518 ?_
        refine va_sld hx hb hX hbl hbA hH.2.2 i2 dL_law_519 ?_
        refine lv_aload_n hx hb dL_law_520 rfl (lv_at hl 0 rfl) ?_
        refine lv_iload_n hx hb dL_law_521 rfl (lv_at hl 3 rfl) ?_
        refine lv_iconst (v := 3) hx hb dL_law_522 (by decide) ?_
        refine lv_iadd hx hb dL_law_523 ?_
        refine va_sld hx hb hX hbl hbA hH.2.2 i3 dL_law_524 ?_
        refine w_callVi (As := [.int (xs (x3 + 1).toNatClampNeg), .int (xs (x3 + 2).toNatClampNeg), .int (xs (x3 + 3).toNatClampNeg)]) (rest := [.int r]) ⟨hx, hb, hml, hown, hB⟩ hK2 hX2 hA hH (c0 := 0) (tX9_unit hH2 h) (cwV 3 hB gVL_70 rfl rfl rfl (by decide +kernel) ⟨Nat.le_of_ble_eq_true rfl, Nat.le_of_ble_eq_true rfl⟩) hH2.1 rfl rfl hl.1 rfl (lv_room (Nat.le_of_ble_eq_true rfl)) ⟨hcs1, hcs2⟩ dL_law_525 (fun r2 τ1 H locs h hH => ?_)
        replace hH := hH.swap hgD.symm
        refine lv_icmp_eq (tgt := 599) hx hb dL_law_528 (by decide) (fun q2 => ?_) (fun q2 => ?_)
        · exact back σ1 τ1 _ _ hn64 h.2 hH
        · exact absurd h.1 q2
      by_cases g11 : w = 11
      · refine lv_tableIn (off := 480) (tgt := 533) hx hb dL_law_53 (by rw [g11]; decide) (by rw [g11]; decide) (by rw [g11]; rfl) (by decide) ?_
        have h := hS.2.2.2.2.2.2.2.2.2.2.2.2.1 n P σ τ (xs (x3 + 1).toNatClampNeg) (xs (x3 + 2).toNatClampNeg) (xs (x3 + 3).toNatClampNeg) hn64 hRel
        refine lv_aload_n hx hb dL_law_533 rfl (lv_at hl 1 rfl) ?_
        refine lv_aload_n hx hb dL_law_534 rfl (lv_at hl 0 rfl) ?_
        refine lv_iload_n hx hb dL_law_535 rfl (lv_at hl 3 rfl) ?_
        refine lv_iconst (v := 1) hx hb dL_law_536 (by decide) ?_
        refine lv_iadd hx hb dL_law_537 ?_
        refine va_sld hx hb hX hbl hbA hH.2.2 i1 dL_law_538 ?_
        refine lv_aload_n hx hb dL_law_539 rfl (lv_at hl 0 rfl) ?_
        refine lv_iload_n hx hb dL_law_540 rfl (lv_at hl 3 rfl) ?_
        refine lv_iconst (v := 2) hx hb dL_law_541 (by decide) ?_
        refine lv_iadd hx hb dL_law_542 ?_
        refine va_sld hx hb hX hbl hbA hH.2.2 i2 dL_law_543 ?_
        refine lv_aload_n hx hb dL_law_544 rfl (lv_at hl 0 rfl) ?_
        refine lv_iload_n hx hb dL_law_545 rfl (lv_at hl 3 rfl) ?_
        refine lv_iconst (v := 3) hx hb dL_law_546 (by decide) ?_
        refine lv_iadd hx hb dL_law_547 ?_
        refine va_sld hx hb hX hbl hbA hH.2.2 i3 dL_law_548 ?_
        refine w_callVi (As := [.int (xs (x3 + 1).toNatClampNeg), .int (xs (x3 + 2).toNatClampNeg), .int (xs (x3 + 3).toNatClampNeg)]) (rest := []) ⟨hx, hb, hml, hown, hB⟩ hK1 hX1 hA hH (c0 := 0) (tX8_process (tS := tS) hg1 hH1 h) (cwV 3 hB gVL_71 rfl rfl rfl (by decide +kernel) ⟨Nat.le_of_ble_eq_true rfl, Nat.le_of_ble_eq_true rfl⟩) hH1.1 rfl rfl hl.1 rfl (lv_room (Nat.le_of_ble_eq_true rfl)) ⟨hcs1, hcs2⟩ dL_law_549 (fun r σ1 H locs h hH => ?_)
        replace hH := hH.swap hgD
        refine lv_aload_n hx hb dL_law_552 rfl (lv_at hl 2 rfl) ?_
        refine lv_aload_n hx hb dL_law_553 rfl (lv_at hl 0 rfl) ?_
        refine lv_iload_n hx hb dL_law_554 rfl (lv_at hl 3 rfl) ?_
        refine lv_iconst (v := 1) hx hb dL_law_555 (by decide) ?_
        refine lv_iadd hx hb dL_law_556 ?_
        refine va_sld hx hb hX hbl hbA hH.2.2 i1 dL_law_557 ?_
        refine lv_aload_n hx hb dL_law_558 rfl (lv_at hl 0 rfl) ?_
        refine lv_iload_n hx hb dL_law_559 rfl (lv_at hl 3 rfl) ?_
        refine lv_iconst (v := 2) hx hb dL_law_560 (by decide) ?_
        refine lv_iadd hx hb dL_law_561 ?_
        refine va_sld hx hb hX hbl hbA hH.2.2 i2 dL_law_562 ?_
        refine lv_aload_n hx hb dL_law_563 rfl (lv_at hl 0 rfl) ?_
        refine lv_iload_n hx hb dL_law_564 rfl (lv_at hl 3 rfl) ?_
        refine lv_iconst (v := 3) hx hb dL_law_565 (by decide) ?_
        refine lv_iadd hx hb dL_law_566 ?_
        refine va_sld hx hb hX hbl hbA hH.2.2 i3 dL_law_567 ?_
        refine w_callVi (As := [.int (xs (x3 + 1).toNatClampNeg), .int (xs (x3 + 2).toNatClampNeg), .int (xs (x3 + 3).toNatClampNeg)]) (rest := [.int r]) ⟨hx, hb, hml, hown, hB⟩ hK2 hX2 hA hH (c0 := 0) (tX9_process hH2 h) (cwV 3 hB gVL_74 rfl rfl rfl (by decide +kernel) ⟨Nat.le_of_ble_eq_true rfl, Nat.le_of_ble_eq_true rfl⟩) hH2.1 rfl rfl hl.1 rfl (lv_room (Nat.le_of_ble_eq_true rfl)) ⟨hcs1, hcs2⟩ dL_law_568 (fun r2 τ1 H locs h hH => ?_)
        replace hH := hH.swap hgD.symm
        refine lv_icmp_eq (tgt := 599) hx hb dL_law_571 (by decide) (fun q2 => ?_) (fun q2 => ?_)
        · exact back σ1 τ1 _ _ hn64 h.2 hH
        · exact absurd h.1 q2
      by_cases g12 : w = 12
      · refine lv_tableIn (off := 523) (tgt := 576) hx hb dL_law_53 (by rw [g12]; decide) (by rw [g12]; decide) (by rw [g12]; rfl) (by decide) ?_
        have h := hS.2.2.2.2.2.2.2.2.2.2.2.2.2 n P σ τ (xs (x3 + 1).toNatClampNeg) hn64 hRel
        refine lv_aload_n hx hb dL_law_576 rfl (lv_at hl 1 rfl) ?_
        refine lv_aload_n hx hb dL_law_577 rfl (lv_at hl 0 rfl) ?_
        refine lv_iload_n hx hb dL_law_578 rfl (lv_at hl 3 rfl) ?_
        refine lv_iconst (v := 1) hx hb dL_law_579 (by decide) ?_
        refine lv_iadd hx hb dL_law_580 ?_
        refine va_sld hx hb hX hbl hbA hH.2.2 i1 dL_law_581 ?_
        refine w_callVi (As := [.int (xs (x3 + 1).toNatClampNeg)]) (rest := []) ⟨hx, hb, hml, hown, hB⟩ hK1 hX1 hA hH (c0 := 0) (tX8_world hH1 h) (cwV 1 hB gVL_75 rfl rfl rfl (by decide +kernel) ⟨Nat.le_of_ble_eq_true rfl, Nat.le_of_ble_eq_true rfl⟩) hH1.1 rfl rfl hl.1 rfl (lv_room (Nat.le_of_ble_eq_true rfl)) ⟨hcs1, hcs2⟩ dL_law_582 (fun r σ1 H locs h hH => ?_)
        replace hH := hH.swap hgD
        refine lv_aload_n hx hb dL_law_585 rfl (lv_at hl 2 rfl) ?_
        refine lv_aload_n hx hb dL_law_586 rfl (lv_at hl 0 rfl) ?_
        refine lv_iload_n hx hb dL_law_587 rfl (lv_at hl 3 rfl) ?_
        refine lv_iconst (v := 1) hx hb dL_law_588 (by decide) ?_
        refine lv_iadd hx hb dL_law_589 ?_
        refine va_sld hx hb hX hbl hbA hH.2.2 i1 dL_law_590 ?_
        refine w_callVi (As := [.int (xs (x3 + 1).toNatClampNeg)]) (rest := [.int r]) ⟨hx, hb, hml, hown, hB⟩ hK2 hX2 hA hH (c0 := 0) (tX9_world hH2 h) (cwV 1 hB gVL_78 rfl rfl rfl (by decide +kernel) ⟨Nat.le_of_ble_eq_true rfl, Nat.le_of_ble_eq_true rfl⟩) hH2.1 rfl rfl hl.1 rfl (lv_room (Nat.le_of_ble_eq_true rfl)) ⟨hcs1, hcs2⟩ dL_law_591 (fun r2 τ1 H locs h hH => ?_)
        replace hH := hH.swap hgD.symm
        refine lv_icmp_eq (tgt := 599) hx hb dL_law_594 (by decide) (fun q2 => ?_) (fun q2 => ?_)
        · exact back σ1 τ1 _ _ hn64 h.2 hH
        · exact absurd h.1 q2
      have gg : ∀ k : Nat, k < 13 → ¬ w = nI k := by
        intro k hk
        rcases (show k = 0 ∨ k = 1 ∨ k = 2 ∨ k = 3 ∨ k = 4 ∨ k = 5 ∨ k = 6 ∨ k = 7 ∨ k = 8 ∨ k = 9 ∨ k = 10 ∨ k = 11 ∨ k = 12 by omega) with rfl | rfl | rfl | rfl | rfl | rfl | rfl | rfl | rfl | rfl | rfl | rfl | rfl <;> assumption
      refine lv_tableOut (tgt := 599) hx hb dL_law_53 (sw_out (n := 13) (by decide) (by decide) gg) (by decide) ?_
      exact back σ τ _ _ hn64 (hS.1 n P σ τ hRel) hH
