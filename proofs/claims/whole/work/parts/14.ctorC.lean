set_option maxRecDepth 100000 in
def wpX0_init (kA : Nat → ClassId) (G : GG) (a0 : Nat) (σ : Sg) (Q : GG → Sg → Prop) : Prop := (0 + 1 ≤ 1 ∧ 0 + 250 ≤ 250 ∧ ∀ (a_5 : Nat) (G5 : GG) (σ5 : Sg), G5 = gext G a_5 (.inl (kA 0, 250)) → σ5 = va_up σ (gn G) (fun _ => 0) → ∃ (c_6 : Nat) (p_6 : List (Option (Option Nat))), ga G5 c_6 = a0 ∧ isO G5 0 p_6 c_6 ∧ 0 < p_6.length ∧ ∀ G6 : GG, G6 = gsh G5 c_6 (.inr (.inr (0, p_6.set 0 (some (some a_5))))) → (0 + 1 ≤ 1 ∧ 0 + 250 ≤ 250 ∧ Q G6 σ5))
set_option maxHeartbeats 8000000 in
set_option maxRecDepth 100000 in
theorem tX0_init {l : Launch} {G : GG} {kA : Nat → ClassId} {tS : Nat × (Nat → Int32)} {a0 : Nat} {σ : Sg} {Q : GG → Sg → Prop} (hk : kOK kA G) (hgo : go G = some tS) (h : wpX0_init kA G a0 σ Q) : Kn l G yX0_init (wB yX0_init prog_2_method_1_code 1 none) ({ frames := 1, cells := 1, slots := 250, locals := 12 }) [.ref a0] σ Q 1 250 := by
  refine Kn_of (cc := cX0_init) (maxL := 1) (ret := none) (by decide) rfl (Nat.le_of_ble_eq_true rfl) ?_
  intro p e s m args below meth c ls hin B hH hl
  obtain ⟨hx, hb, hr, hts, hown, hlk, hml, hK, hX⟩ := B
  replace hin : meth.name = "<init>" := hin
  replace hl : lv_has ls 1 [(0, .ref a0)] := hl
  have hB : ∀ w ∈ BIG, w.before args s = true := fun w h9 => hts w (List.mem_cons_of_mem _ h9)
  clear hts
  have hg : SameG G G := SameG.rf
  have k9 := hB _ bw2_90
  unfold wpX0_init at h
  refine lv_aload_n hx hb dX0_init_0 rfl (lv_at hl 0 rfl) ?_
  refine W.objInit hx hb hown (hB _ bw2_89) (hB _ bw1_20) (hB _ bw1_21) rfl (by rw [hml]; exact hl.1) rfl dX0_init_1 (Nat.le_of_ble_eq_true rfl) (Nat.le_of_ble_eq_true rfl) ?_
  refine W.eq (g2 := F0 m 4 ls []) rfl ?_
  refine lv_aload_n hx hb dX0_init_4 rfl (lv_at hl 0 rfl) ?_
  refine lv_sipush (v := 250) hx hb dX0_init_5 (by decide) ?_
  obtain ⟨hk5, hj5, h⟩ := h
  refine g_newI hx hb (hB _ bw1_38) (hg.K hK) hH aA_hA (kOK.at (hg.k hk) (t := 0) rfl) 250 (by decide) (by decide) (by decide) hk5 hj5 dX0_init_8 (fun a_5 G5 σ5 eG5 eσ5 H hH => ?_)
  replace h := h a_5 G5 σ5 eG5 eσ5
  replace hg := hg.ext eG5
  refine W.eq (g2 := F0 m 10 ls [.ref a_5, .ref a0]) (by rw [eG5, gext_at]) ?_
  obtain ⟨c_6, p_6, ha6, ho6, hp6, h⟩ := h
  refine n_putFr hx hb hB inB0 tyX0 tyX0_ok nmX0 hown (hg.K hK) hH ha6 ho6 rfl 0 (by decide) k9 rfl hp6 rfl hin rfl rfl rfl dX0_init_10 (fun G6 eG6 H locs hH => ?_)
  replace h := h G6 eG6
  replace hg := hg.sh eG6
  exact n_ret hx hb hr hK hlk hg h.1 h.2.1 h.2.2 hH dX0_init_13
set_option maxRecDepth 100000 in
def wpX1_init (kA : Nat → ClassId) (G : GG) (a0 : Nat) (σ : Sg) (Q : GG → Sg → Prop) : Prop := (0 + 1 ≤ 2 ∧ 0 + 2 ≤ 252 ∧ ∀ (a_4 : Nat) (G4 : GG) (σ4 : Sg), G4 = gext G a_4 (.inr (.inr (0, [some none, none]))) → σ4 = va_up σ (gn G) (fun _ => 0) → (0 + 1 + 1 ≤ 2 ∧ 0 + 2 + 250 ≤ 252 ∧ wpX0_init kA G4 a_4 σ4 (fun G6 σ6 => ∃ (c_7 : Nat) (p_7 : List (Option (Option Nat))), ga G6 c_7 = a0 ∧ isO G6 1 p_7 c_7 ∧ 0 < p_7.length ∧ ∀ G7 : GG, G7 = gsh G6 c_7 (.inr (.inr (1, p_7.set 0 (some (some a_4))))) → (0 + 1 + 1 ≤ 2 ∧ 0 + 2 + 250 ≤ 252 ∧ Q G7 σ6))))
set_option maxHeartbeats 8000000 in
set_option maxRecDepth 100000 in
theorem tX1_init {l : Launch} {G : GG} {kA : Nat → ClassId} {tS : Nat × (Nat → Int32)} {a0 : Nat} {σ : Sg} {Q : GG → Sg → Prop} (hk : kOK kA G) (hgo : go G = some tS) (h : wpX1_init kA G a0 σ Q) : Kn l G yX1_init (wB yX1_init prog_3_method_1_code 1 none) ({ frames := 2, cells := 2, slots := 252, locals := 32 }) [.ref a0] σ Q 2 252 := by
  refine Kn_of (cc := cX1_init) (maxL := 1) (ret := none) (by decide) rfl (Nat.le_of_ble_eq_true rfl) ?_
  intro p e s m args below meth c ls hin B hH hl
  obtain ⟨hx, hb, hr, hts, hown, hlk, hml, hK, hX⟩ := B
  replace hin : meth.name = "<init>" := hin
  replace hl : lv_has ls 1 [(0, .ref a0)] := hl
  have hB : ∀ w ∈ BIG, w.before args s = true := fun w h9 => hts w (List.mem_cons_of_mem _ h9)
  clear hts
  have hg : SameG G G := SameG.rf
  have hXN : NWs s := XS.nw hX hgo
  have k10 := hB _ bw2_99
  unfold wpX1_init at h
  refine lv_aload_n hx hb dX1_init_0 rfl (lv_at hl 0 rfl) ?_
  refine W.objInit hx hb hown (hB _ bw2_83) (hB _ bw1_20) (hB _ bw1_21) rfl (by rw [hml]; exact hl.1) rfl dX1_init_1 (Nat.le_of_ble_eq_true rfl) (Nat.le_of_ble_eq_true rfl) ?_
  refine W.eq (g2 := F0 m 4 ls []) rfl ?_
  refine lv_aload_n hx hb dX1_init_4 rfl (lv_at hl 0 rfl) ?_
  obtain ⟨hk4, hj4, h⟩ := h
  refine g_new (T := TX0) (N := 2) hx hb hB inB0 tyX0 tyX0_ok hown (hB _ bw2_84) (hB _ bw2_85) (hB _ bw1_9) (hg.K hK) hH aA_hA (ci := 0) rfl [some none, none] (fun j hj => by rcases (show j = 0 ∨ j = 1 by omega) with rfl | rfl <;> rfl) hk4 hj4 dX1_init_5 (fun a_4 G4 σ4 eG4 eσ4 H hH => ?_)
  replace h := h a_4 G4 σ4 eG4 eσ4
  replace hg := hg.ext eG4
  refine W.eq (g2 := F0 m 8 ls [.ref a_4, .ref a0]) (by rw [eG4, gext_at]) ?_
  refine lv_dup hx hb dX1_init_8 rfl ?_
  obtain ⟨hk6, hj6, h⟩ := h
  refine n_callIN (As := []) (rest := [.ref a_4, .ref a0]) ⟨hx, hb, hml, hown, hB⟩ (hg.K hK) (hg.X hX) aA_hA hH (tX0_init (tS := tS) (hg.k hk) (hg.2.2.trans hgo) h) ⟨va_cnB 0 hB (goodB bw2_88) rfl rfl rfl (hXN.2.1 ("BearerHouse$Carrier", 9, ⟨"BearerHouse$Air", "<init>", "()V"⟩, "BearerHouse") (List.mem_of_getElem? (i := 2) rfl)) (hB _ bw1_9) (by decide +kernel) ⟨Nat.le_of_ble_eq_true rfl, Nat.le_of_ble_eq_true rfl⟩, rfl, hB _ bw2_87⟩ rfl hl.1 rfl (lv_room (Nat.le_of_ble_eq_true rfl)) ⟨hk6, hj6⟩ dX1_init_9 (fun G6 σ6 H locs h hg6 hH => ?_)
  replace hg := hg.tr hg6
  obtain ⟨c_7, p_7, ha7, ho7, hp7, h⟩ := h
  refine n_putFr hx hb hB inB1 tyX1 tyX1_ok nmX1 hown (hg.K hK) hH ha7 ho7 rfl 0 (by decide) k10 rfl hp7 rfl hin rfl rfl rfl dX1_init_12 (fun G7 eG7 H locs hH => ?_)
  replace h := h G7 eG7
  replace hg := hg.sh eG7
  exact n_ret hx hb hr hK hlk hg h.1 h.2.1 h.2.2 hH dX1_init_15
set_option maxRecDepth 100000 in
def wpX2_init (kA : Nat → ClassId) (G : GG) (a0 : Nat) (σ : Sg) (Q : GG → Sg → Prop) : Prop := (0 + 1 ≤ 3 ∧ 0 + 176 ≤ 208 ∧ ∀ (a_5 : Nat) (G5 : GG) (σ5 : Sg), G5 = gext G a_5 (.inl (kA 0, 176)) → σ5 = va_up σ (gn G) (fun _ => 0) → ∃ (c_6 : Nat) (p_6 : List (Option (Option Nat))), ga G5 c_6 = a0 ∧ isO G5 2 p_6 c_6 ∧ 0 < p_6.length ∧ ∀ G6 : GG, G6 = gsh G5 c_6 (.inr (.inr (2, p_6.set 0 (some (some a_5))))) → (0 + 1 + 1 ≤ 3 ∧ 0 + 176 + 16 ≤ 208 ∧ ∀ (a_9 : Nat) (G9 : GG) (σ9 : Sg), G9 = gext G6 a_9 (.inl (kA 0, 16)) → σ9 = va_up σ5 (gn G6) (fun _ => 0) → ∃ (c_10 : Nat) (p_10 : List (Option (Option Nat))), ga G9 c_10 = a0 ∧ isO G9 2 p_10 c_10 ∧ 1 < p_10.length ∧ ∀ G10 : GG, G10 = gsh G9 c_10 (.inr (.inr (2, p_10.set 1 (some (some a_9))))) → (0 + 1 + 1 + 1 ≤ 3 ∧ 0 + 176 + 16 + 16 ≤ 208 ∧ ∀ (a_13 : Nat) (G13 : GG) (σ13 : Sg), G13 = gext G10 a_13 (.inl (kA 0, 16)) → σ13 = va_up σ9 (gn G10) (fun _ => 0) → ∃ (c_14 : Nat) (p_14 : List (Option (Option Nat))), ga G13 c_14 = a0 ∧ isO G13 2 p_14 c_14 ∧ 2 < p_14.length ∧ ∀ G14 : GG, G14 = gsh G13 c_14 (.inr (.inr (2, p_14.set 2 (some (some a_13))))) → (0 + 1 + 1 + 1 ≤ 3 ∧ 0 + 176 + 16 + 16 ≤ 208 ∧ Q G14 σ13))))
set_option maxHeartbeats 8000000 in
set_option maxRecDepth 100000 in
theorem tX2_init {l : Launch} {G : GG} {kA : Nat → ClassId} {tS : Nat × (Nat → Int32)} {a0 : Nat} {σ : Sg} {Q : GG → Sg → Prop} (hk : kOK kA G) (hgo : go G = some tS) (h : wpX2_init kA G a0 σ Q) : Kn l G yX2_init (wB yX2_init prog_4_method_1_code 1 none) ({ frames := 1, cells := 3, slots := 208, locals := 12 }) [.ref a0] σ Q 3 208 := by
  refine Kn_of (cc := cX2_init) (maxL := 1) (ret := none) (by decide) rfl (Nat.le_of_ble_eq_true rfl) ?_
  intro p e s m args below meth c ls hin B hH hl
  obtain ⟨hx, hb, hr, hts, hown, hlk, hml, hK, hX⟩ := B
  replace hin : meth.name = "<init>" := hin
  replace hl : lv_has ls 1 [(0, .ref a0)] := hl
  have hB : ∀ w ∈ BIG, w.before args s = true := fun w h9 => hts w (List.mem_cons_of_mem _ h9)
  clear hts
  have hg : SameG G G := SameG.rf
  have k7 := hB _ bw1_28
  have k13 := hB _ bw1_29
  have k16 := hB _ bw1_30
  unfold wpX2_init at h
  refine lv_aload_n hx hb dX2_init_0 rfl (lv_at hl 0 rfl) ?_
  refine W.objInit hx hb hown (hB _ bw1_27) (hB _ bw1_20) (hB _ bw1_21) rfl (by rw [hml]; exact hl.1) rfl dX2_init_1 (Nat.le_of_ble_eq_true rfl) (Nat.le_of_ble_eq_true rfl) ?_
  refine W.eq (g2 := F0 m 4 ls []) rfl ?_
  refine lv_aload_n hx hb dX2_init_4 rfl (lv_at hl 0 rfl) ?_
  refine lv_sipush (v := 176) hx hb dX2_init_5 (by decide) ?_
  obtain ⟨hk5, hj5, h⟩ := h
  refine g_newI hx hb (hB _ bw1_38) (hg.K hK) hH aA_hA (kOK.at (hg.k hk) (t := 0) rfl) 176 (by decide) (by decide) (by decide) hk5 hj5 dX2_init_8 (fun a_5 G5 σ5 eG5 eσ5 H hH => ?_)
  replace h := h a_5 G5 σ5 eG5 eσ5
  replace hg := hg.ext eG5
  refine W.eq (g2 := F0 m 10 ls [.ref a_5, .ref a0]) (by rw [eG5, gext_at]) ?_
  obtain ⟨c_6, p_6, ha6, ho6, hp6, h⟩ := h
  refine n_putFr hx hb hB inB2 tyX2 tyX2_ok nmX2 hown (hg.K hK) hH ha6 ho6 rfl 0 (by decide) k7 rfl hp6 rfl hin rfl rfl rfl dX2_init_10 (fun G6 eG6 H locs hH => ?_)
  replace h := h G6 eG6
  replace hg := hg.sh eG6
  refine lv_aload_n hx hb dX2_init_13 rfl (lv_at hl 0 rfl) ?_
  refine lv_bipush (v := 16) hx hb dX2_init_14 (by decide) ?_
  obtain ⟨hk9, hj9, h⟩ := h
  refine g_newI hx hb (hB _ bw1_38) (hg.K hK) hH aA_hA (kOK.at (hg.k hk) (t := 0) rfl) 16 (by decide) (by decide) (by decide) hk9 hj9 dX2_init_16 (fun a_9 G9 σ9 eG9 eσ9 H hH => ?_)
  replace h := h a_9 G9 σ9 eG9 eσ9
  replace hg := hg.ext eG9
  refine W.eq (g2 := F0 m 18 ls [.ref a_9, .ref a0]) (by rw [eG9, gext_at]) ?_
  obtain ⟨c_10, p_10, ha10, ho10, hp10, h⟩ := h
  refine n_putFr hx hb hB inB2 tyX2 tyX2_ok nmX2 hown (hg.K hK) hH ha10 ho10 rfl 1 (by decide) k13 rfl hp10 rfl hin rfl rfl rfl dX2_init_18 (fun G10 eG10 H locs hH => ?_)
  replace h := h G10 eG10
  replace hg := hg.sh eG10
  refine lv_aload_n hx hb dX2_init_21 rfl (lv_at hl 0 rfl) ?_
  refine lv_bipush (v := 16) hx hb dX2_init_22 (by decide) ?_
  obtain ⟨hk13, hj13, h⟩ := h
  refine g_newI hx hb (hB _ bw1_38) (hg.K hK) hH aA_hA (kOK.at (hg.k hk) (t := 0) rfl) 16 (by decide) (by decide) (by decide) hk13 hj13 dX2_init_24 (fun a_13 G13 σ13 eG13 eσ13 H hH => ?_)
  replace h := h a_13 G13 σ13 eG13 eσ13
  replace hg := hg.ext eG13
  refine W.eq (g2 := F0 m 26 ls [.ref a_13, .ref a0]) (by rw [eG13, gext_at]) ?_
  obtain ⟨c_14, p_14, ha14, ho14, hp14, h⟩ := h
  refine n_putFr hx hb hB inB2 tyX2 tyX2_ok nmX2 hown (hg.K hK) hH ha14 ho14 rfl 2 (by decide) k16 rfl hp14 rfl hin rfl rfl rfl dX2_init_26 (fun G14 eG14 H locs hH => ?_)
  replace h := h G14 eG14
  replace hg := hg.sh eG14
  exact n_ret hx hb hr hK hlk hg h.1 h.2.1 h.2.2 hH dX2_init_29
set_option maxRecDepth 100000 in
def wpX3_init (kA : Nat → ClassId) (G : GG) (a0 : Nat) (x1 : Int32) (σ : Sg) (Q : GG → Sg → Prop) : Prop := (0 + 1 ≤ 4 ∧ 0 + 121 ≤ 4113 ∧ ∀ (a_5 : Nat) (G5 : GG) (σ5 : Sg), G5 = gext G a_5 (.inl (kA 0, 121)) → σ5 = va_up σ (gn G) (fun _ => 0) → ∃ (c_6 : Nat) (p_6 : List (Option (Option Nat))), ga G5 c_6 = a0 ∧ isO G5 3 p_6 c_6 ∧ 1 < p_6.length ∧ ∀ G6 : GG, G6 = gsh G5 c_6 (.inr (.inr (3, p_6.set 1 (some (some a_5))))) → (0 + 1 + 1 ≤ 4 ∧ 0 + 121 + 3840 ≤ 4113 ∧ ∀ (a_9 : Nat) (G9 : GG) (σ9 : Sg), G9 = gext G6 a_9 (.inl (kA 0, 3840)) → σ9 = va_up σ5 (gn G6) (fun _ => 0) → ∃ (c_10 : Nat) (p_10 : List (Option (Option Nat))), ga G9 c_10 = a0 ∧ isO G9 3 p_10 c_10 ∧ 4 < p_10.length ∧ ∀ G10 : GG, G10 = gsh G9 c_10 (.inr (.inr (3, p_10.set 4 (some (some a_9))))) → (0 + 1 + 1 + 1 ≤ 4 ∧ 0 + 121 + 3840 + 32 ≤ 4113 ∧ ∀ (a_13 : Nat) (G13 : GG) (σ13 : Sg), G13 = gext G10 a_13 (.inl (kA 0, 32)) → σ13 = va_up σ9 (gn G10) (fun _ => 0) → ∃ (c_14 : Nat) (p_14 : List (Option (Option Nat))), ga G13 c_14 = a0 ∧ isO G13 3 p_14 c_14 ∧ 5 < p_14.length ∧ ∀ G14 : GG, G14 = gsh G13 c_14 (.inr (.inr (3, p_14.set 5 (some (some a_13))))) → (0 + 1 + 1 + 1 + 1 ≤ 4 ∧ 0 + 121 + 3840 + 32 + 120 ≤ 4113 ∧ ∀ (a_17 : Nat) (G17 : GG) (σ17 : Sg), G17 = gext G14 a_17 (.inl (kA 0, 120)) → σ17 = va_up σ13 (gn G14) (fun _ => 0) → ∃ (c_18 : Nat) (p_18 : List (Option (Option Nat))), ga G17 c_18 = a0 ∧ isO G17 3 p_18 c_18 ∧ 11 < p_18.length ∧ ∀ G18 : GG, G18 = gsh G17 c_18 (.inr (.inr (3, p_18.set 11 (some (some a_17))))) → ∃ (c_21 : Nat) (p_21 : List (Option (Option Nat))), ga G18 c_21 = a0 ∧ isO G18 3 p_21 c_21 ∧ p_21[0]? = some none ∧ ∀ σ21 : Sg, σ21 = up2 σ17 c_21 0 x1 → (0 + 1 + 1 + 1 + 1 ≤ 4 ∧ 0 + 121 + 3840 + 32 + 120 ≤ 4113 ∧ Q G18 σ21)))))
set_option maxHeartbeats 8000000 in
set_option maxRecDepth 100000 in
theorem tX3_init {l : Launch} {G : GG} {kA : Nat → ClassId} {tS : Nat × (Nat → Int32)} {a0 : Nat} {x1 : Int32} {σ : Sg} {Q : GG → Sg → Prop} (hk : kOK kA G) (hgo : go G = some tS) (h : wpX3_init kA G a0 x1 σ Q) : Kn l G yX3_init (wB yX3_init prog_5_method_1_code 2 none) ({ frames := 1, cells := 4, slots := 4113, locals := 12 }) [.ref a0, .int x1] σ Q 4 4113 := by
  refine Kn_of (cc := cX3_init) (maxL := 2) (ret := none) (by decide) rfl (Nat.le_of_ble_eq_true rfl) ?_
  intro p e s m args below meth c ls hin B hH hl
  obtain ⟨hx, hb, hr, hts, hown, hlk, hml, hK, hX⟩ := B
  replace hin : meth.name = "<init>" := hin
  replace hl : lv_has ls 2 [(0, .ref a0), (1, .int x1)] := hl
  have hB : ∀ w ∈ BIG, w.before args s = true := fun w h9 => hts w (List.mem_cons_of_mem _ h9)
  clear hts
  have hg : SameG G G := SameG.rf
  have k9 := hB _ bw1_216
  have k15 := hB _ bw1_222
  have k18 := hB _ bw1_223
  have k21 := hB _ bw1_233
  have k24 := hB _ bw1_214
  unfold wpX3_init at h
  refine lv_aload_n hx hb dX3_init_0 rfl (lv_at hl 0 rfl) ?_
  refine W.objInit hx hb hown (hB _ bw1_213) (hB _ bw1_20) (hB _ bw1_21) rfl (by rw [hml]; exact hl.1) rfl dX3_init_1 (Nat.le_of_ble_eq_true rfl) (Nat.le_of_ble_eq_true rfl) ?_
  refine W.eq (g2 := F0 m 4 ls []) rfl ?_
  refine lv_aload_n hx hb dX3_init_4 rfl (lv_at hl 0 rfl) ?_
  refine lv_bipush (v := 121) hx hb dX3_init_5 (by decide) ?_
  obtain ⟨hk5, hj5, h⟩ := h
  refine g_newI hx hb (hB _ bw1_38) (hg.K hK) hH aA_hA (kOK.at (hg.k hk) (t := 0) rfl) 121 (by decide) (by decide) (by decide) hk5 hj5 dX3_init_7 (fun a_5 G5 σ5 eG5 eσ5 H hH => ?_)
  replace h := h a_5 G5 σ5 eG5 eσ5
  replace hg := hg.ext eG5
  refine W.eq (g2 := F0 m 9 ls [.ref a_5, .ref a0]) (by rw [eG5, gext_at]) ?_
  obtain ⟨c_6, p_6, ha6, ho6, hp6, h⟩ := h
  refine n_putFr hx hb hB inB3 tyX3 tyX3_ok nmX3 hown (hg.K hK) hH ha6 ho6 rfl 1 (by decide) k9 rfl hp6 rfl hin rfl rfl rfl dX3_init_9 (fun G6 eG6 H locs hH => ?_)
  replace h := h G6 eG6
  replace hg := hg.sh eG6
  refine lv_aload_n hx hb dX3_init_12 rfl (lv_at hl 0 rfl) ?_
  refine lv_sipush (v := 3840) hx hb dX3_init_13 (by decide) ?_
  obtain ⟨hk9, hj9, h⟩ := h
  refine g_newI hx hb (hB _ bw1_38) (hg.K hK) hH aA_hA (kOK.at (hg.k hk) (t := 0) rfl) 3840 (by decide) (by decide) (by decide) hk9 hj9 dX3_init_16 (fun a_9 G9 σ9 eG9 eσ9 H hH => ?_)
  replace h := h a_9 G9 σ9 eG9 eσ9
  replace hg := hg.ext eG9
  refine W.eq (g2 := F0 m 18 ls [.ref a_9, .ref a0]) (by rw [eG9, gext_at]) ?_
  obtain ⟨c_10, p_10, ha10, ho10, hp10, h⟩ := h
  refine n_putFr hx hb hB inB3 tyX3 tyX3_ok nmX3 hown (hg.K hK) hH ha10 ho10 rfl 4 (by decide) k15 rfl hp10 rfl hin rfl rfl rfl dX3_init_18 (fun G10 eG10 H locs hH => ?_)
  replace h := h G10 eG10
  replace hg := hg.sh eG10
  refine lv_aload_n hx hb dX3_init_21 rfl (lv_at hl 0 rfl) ?_
  refine lv_bipush (v := 32) hx hb dX3_init_22 (by decide) ?_
  obtain ⟨hk13, hj13, h⟩ := h
  refine g_newI hx hb (hB _ bw1_38) (hg.K hK) hH aA_hA (kOK.at (hg.k hk) (t := 0) rfl) 32 (by decide) (by decide) (by decide) hk13 hj13 dX3_init_24 (fun a_13 G13 σ13 eG13 eσ13 H hH => ?_)
  replace h := h a_13 G13 σ13 eG13 eσ13
  replace hg := hg.ext eG13
  refine W.eq (g2 := F0 m 26 ls [.ref a_13, .ref a0]) (by rw [eG13, gext_at]) ?_
  obtain ⟨c_14, p_14, ha14, ho14, hp14, h⟩ := h
  refine n_putFr hx hb hB inB3 tyX3 tyX3_ok nmX3 hown (hg.K hK) hH ha14 ho14 rfl 5 (by decide) k18 rfl hp14 rfl hin rfl rfl rfl dX3_init_26 (fun G14 eG14 H locs hH => ?_)
  replace h := h G14 eG14
  replace hg := hg.sh eG14
  refine lv_aload_n hx hb dX3_init_29 rfl (lv_at hl 0 rfl) ?_
  refine lv_bipush (v := 120) hx hb dX3_init_30 (by decide) ?_
  obtain ⟨hk17, hj17, h⟩ := h
  refine g_newI hx hb (hB _ bw1_38) (hg.K hK) hH aA_hA (kOK.at (hg.k hk) (t := 0) rfl) 120 (by decide) (by decide) (by decide) hk17 hj17 dX3_init_32 (fun a_17 G17 σ17 eG17 eσ17 H hH => ?_)
  replace h := h a_17 G17 σ17 eG17 eσ17
  replace hg := hg.ext eG17
  refine W.eq (g2 := F0 m 34 ls [.ref a_17, .ref a0]) (by rw [eG17, gext_at]) ?_
  obtain ⟨c_18, p_18, ha18, ho18, hp18, h⟩ := h
  refine n_putFr hx hb hB inB3 tyX3 tyX3_ok nmX3 hown (hg.K hK) hH ha18 ho18 rfl 11 (by decide) k21 rfl hp18 rfl hin rfl rfl rfl dX3_init_34 (fun G18 eG18 H locs hH => ?_)
  replace h := h G18 eG18
  replace hg := hg.sh eG18
  refine lv_aload_n hx hb dX3_init_37 rfl (lv_at hl 0 rfl) ?_
  refine lv_iload_n hx hb dX3_init_38 rfl (lv_at hl 1 rfl) ?_
  obtain ⟨c_21, p_21, ha21, ho21, hp21, h⟩ := h
  refine n_putFi hx hb hB inB3 tyX3 tyX3_ok nmX3 hown (hg.K hK) hH ha21 ho21 rfl 0 (by decide) k24 rfl hp21 rfl hin rfl rfl rfl dX3_init_39 (fun σ21 eσ21 H locs hH => ?_)
  replace h := h σ21 eσ21
  exact n_ret hx hb hr hK hlk hg h.1 h.2.1 h.2.2 hH dX3_init_42
set_option maxRecDepth 100000 in
def wpX4_init (kA : Nat → ClassId) (G : GG) (a0 : Nat) (x1 : Int32) (σ : Sg) (Q : GG → Sg → Prop) : Prop := (0 + 1 ≤ 7 ∧ 0 + 3840 ≤ 4097 ∧ ∀ (a_5 : Nat) (G5 : GG) (σ5 : Sg), G5 = gext G a_5 (.inl (kA 0, 3840)) → σ5 = va_up σ (gn G) (fun _ => 0) → ∃ (c_6 : Nat) (p_6 : List (Option (Option Nat))), ga G5 c_6 = a0 ∧ isO G5 4 p_6 c_6 ∧ 1 < p_6.length ∧ ∀ G6 : GG, G6 = gsh G5 c_6 (.inr (.inr (4, p_6.set 1 (some (some a_5))))) → (0 + 1 + 1 ≤ 7 ∧ 0 + 3840 + 32 ≤ 4097 ∧ ∀ (a_9 : Nat) (G9 : GG) (σ9 : Sg), G9 = gext G6 a_9 (.inl (kA 0, 32)) → σ9 = va_up σ5 (gn G6) (fun _ => 0) → ∃ (c_10 : Nat) (p_10 : List (Option (Option Nat))), ga G9 c_10 = a0 ∧ isO G9 4 p_10 c_10 ∧ 2 < p_10.length ∧ ∀ G10 : GG, G10 = gsh G9 c_10 (.inr (.inr (4, p_10.set 2 (some (some a_9))))) → (0 + 1 + 1 + 1 ≤ 7 ∧ 0 + 3840 + 32 + 32 ≤ 4097 ∧ ∀ (a_13 : Nat) (G13 : GG) (σ13 : Sg), G13 = gext G10 a_13 (.inl (kA 1, 32)) → σ13 = va_up σ9 (gn G10) (fun _ => 0) → ∃ (c_14 : Nat) (p_14 : List (Option (Option Nat))), ga G13 c_14 = a0 ∧ isO G13 4 p_14 c_14 ∧ 3 < p_14.length ∧ ∀ G14 : GG, G14 = gsh G13 c_14 (.inr (.inr (4, p_14.set 3 (some (some a_13))))) → (0 + 1 + 1 + 1 + 1 ≤ 7 ∧ 0 + 3840 + 32 + 32 + 32 ≤ 4097 ∧ ∀ (a_17 : Nat) (G17 : GG) (σ17 : Sg), G17 = gext G14 a_17 (.inl (kA 0, 32)) → σ17 = va_up σ13 (gn G14) (fun _ => 0) → ∃ (c_18 : Nat) (p_18 : List (Option (Option Nat))), ga G17 c_18 = a0 ∧ isO G17 4 p_18 c_18 ∧ 4 < p_18.length ∧ ∀ G18 : GG, G18 = gsh G17 c_18 (.inr (.inr (4, p_18.set 4 (some (some a_17))))) → (0 + 1 + 1 + 1 + 1 + 1 ≤ 7 ∧ 0 + 3840 + 32 + 32 + 32 + 32 ≤ 4097 ∧ ∀ (a_21 : Nat) (G21 : GG) (σ21 : Sg), G21 = gext G18 a_21 (.inl (kA 0, 32)) → σ21 = va_up σ17 (gn G18) (fun _ => 0) → ∃ (c_22 : Nat) (p_22 : List (Option (Option Nat))), ga G21 c_22 = a0 ∧ isO G21 4 p_22 c_22 ∧ 8 < p_22.length ∧ ∀ G22 : GG, G22 = gsh G21 c_22 (.inr (.inr (4, p_22.set 8 (some (some a_21))))) → (0 + 1 + 1 + 1 + 1 + 1 + 1 ≤ 7 ∧ 0 + 3840 + 32 + 32 + 32 + 32 + 121 ≤ 4097 ∧ ∀ (a_25 : Nat) (G25 : GG) (σ25 : Sg), G25 = gext G22 a_25 (.inl (kA 0, 121)) → σ25 = va_up σ21 (gn G22) (fun _ => 0) → ∃ (c_26 : Nat) (p_26 : List (Option (Option Nat))), ga G25 c_26 = a0 ∧ isO G25 4 p_26 c_26 ∧ 10 < p_26.length ∧ ∀ G26 : GG, G26 = gsh G25 c_26 (.inr (.inr (4, p_26.set 10 (some (some a_25))))) → (0 + 1 + 1 + 1 + 1 + 1 + 1 + 1 ≤ 7 ∧ 0 + 3840 + 32 + 32 + 32 + 32 + 121 + 8 ≤ 4097 ∧ ∀ (a_29 : Nat) (G29 : GG) (σ29 : Sg), G29 = gext G26 a_29 (.inl (kA 0, 8)) → σ29 = va_up σ25 (gn G26) (fun _ => 0) → ∃ (c_30 : Nat) (p_30 : List (Option (Option Nat))), ga G29 c_30 = a0 ∧ isO G29 4 p_30 c_30 ∧ 13 < p_30.length ∧ ∀ G30 : GG, G30 = gsh G29 c_30 (.inr (.inr (4, p_30.set 13 (some (some a_29))))) → ∃ (c_33 : Nat) (p_33 : List (Option (Option Nat))), ga G30 c_33 = a0 ∧ isO G30 4 p_33 c_33 ∧ p_33[0]? = some none ∧ ∀ σ33 : Sg, σ33 = up2 σ29 c_33 0 x1 → (0 + 1 + 1 + 1 + 1 + 1 + 1 + 1 ≤ 7 ∧ 0 + 3840 + 32 + 32 + 32 + 32 + 121 + 8 ≤ 4097 ∧ Q G30 σ33))))))))
set_option maxHeartbeats 8000000 in
set_option maxRecDepth 100000 in
theorem tX4_init {l : Launch} {G : GG} {kA : Nat → ClassId} {tS : Nat × (Nat → Int32)} {a0 : Nat} {x1 : Int32} {σ : Sg} {Q : GG → Sg → Prop} (hk : kOK kA G) (hgo : go G = some tS) (h : wpX4_init kA G a0 x1 σ Q) : Kn l G yX4_init (wB yX4_init prog_6_method_1_code 2 none) ({ frames := 1, cells := 7, slots := 4097, locals := 12 }) [.ref a0, .int x1] σ Q 7 4097 := by
  refine Kn_of (cc := cX4_init) (maxL := 2) (ret := none) (by decide) rfl (Nat.le_of_ble_eq_true rfl) ?_
  intro p e s m args below meth c ls hin B hH hl
  obtain ⟨hx, hb, hr, hts, hown, hlk, hml, hK, hX⟩ := B
  replace hin : meth.name = "<init>" := hin
  replace hl : lv_has ls 2 [(0, .ref a0), (1, .int x1)] := hl
  have hB : ∀ w ∈ BIG, w.before args s = true := fun w h9 => hts w (List.mem_cons_of_mem _ h9)
  clear hts
  have hg : SameG G G := SameG.rf
  have k9 := hB _ bw1_63
  have k15 := hB _ bw1_64
  have k18 := hB _ bw1_65
  have k22 := hB _ bw1_66
  have k25 := hB _ bw1_72
  have k28 := hB _ bw1_75
  have k31 := hB _ bw1_79
  have k34 := hB _ bw1_62
  unfold wpX4_init at h
  refine lv_aload_n hx hb dX4_init_0 rfl (lv_at hl 0 rfl) ?_
  refine W.objInit hx hb hown (hB _ bw1_61) (hB _ bw1_20) (hB _ bw1_21) rfl (by rw [hml]; exact hl.1) rfl dX4_init_1 (Nat.le_of_ble_eq_true rfl) (Nat.le_of_ble_eq_true rfl) ?_
  refine W.eq (g2 := F0 m 4 ls []) rfl ?_
  refine lv_aload_n hx hb dX4_init_4 rfl (lv_at hl 0 rfl) ?_
  refine lv_sipush (v := 3840) hx hb dX4_init_5 (by decide) ?_
  obtain ⟨hk5, hj5, h⟩ := h
  refine g_newI hx hb (hB _ bw1_38) (hg.K hK) hH aA_hA (kOK.at (hg.k hk) (t := 0) rfl) 3840 (by decide) (by decide) (by decide) hk5 hj5 dX4_init_8 (fun a_5 G5 σ5 eG5 eσ5 H hH => ?_)
  replace h := h a_5 G5 σ5 eG5 eσ5
  replace hg := hg.ext eG5
  refine W.eq (g2 := F0 m 10 ls [.ref a_5, .ref a0]) (by rw [eG5, gext_at]) ?_
  obtain ⟨c_6, p_6, ha6, ho6, hp6, h⟩ := h
  refine n_putFr hx hb hB inB4 tyX4 tyX4_ok nmX4 hown (hg.K hK) hH ha6 ho6 rfl 1 (by decide) k9 rfl hp6 rfl hin rfl rfl rfl dX4_init_10 (fun G6 eG6 H locs hH => ?_)
  replace h := h G6 eG6
  replace hg := hg.sh eG6
  refine lv_aload_n hx hb dX4_init_13 rfl (lv_at hl 0 rfl) ?_
  refine lv_bipush (v := 32) hx hb dX4_init_14 (by decide) ?_
  obtain ⟨hk9, hj9, h⟩ := h
  refine g_newI hx hb (hB _ bw1_38) (hg.K hK) hH aA_hA (kOK.at (hg.k hk) (t := 0) rfl) 32 (by decide) (by decide) (by decide) hk9 hj9 dX4_init_16 (fun a_9 G9 σ9 eG9 eσ9 H hH => ?_)
  replace h := h a_9 G9 σ9 eG9 eσ9
  replace hg := hg.ext eG9
  refine W.eq (g2 := F0 m 18 ls [.ref a_9, .ref a0]) (by rw [eG9, gext_at]) ?_
  obtain ⟨c_10, p_10, ha10, ho10, hp10, h⟩ := h
  refine n_putFr hx hb hB inB4 tyX4 tyX4_ok nmX4 hown (hg.K hK) hH ha10 ho10 rfl 2 (by decide) k15 rfl hp10 rfl hin rfl rfl rfl dX4_init_18 (fun G10 eG10 H locs hH => ?_)
  replace h := h G10 eG10
  replace hg := hg.sh eG10
  refine lv_aload_n hx hb dX4_init_21 rfl (lv_at hl 0 rfl) ?_
  refine lv_bipush (v := 32) hx hb dX4_init_22 (by decide) ?_
  obtain ⟨hk13, hj13, h⟩ := h
  refine g_newZ hx hb (hB _ bw1_112) (hg.K hK) hH aA_hA (kOK.at (hg.k hk) (t := 1) rfl) 32 (by decide) (by decide) (by decide) hk13 hj13 dX4_init_24 (fun a_13 G13 σ13 eG13 eσ13 H hH => ?_)
  replace h := h a_13 G13 σ13 eG13 eσ13
  replace hg := hg.ext eG13
  refine W.eq (g2 := F0 m 26 ls [.ref a_13, .ref a0]) (by rw [eG13, gext_at]) ?_
  obtain ⟨c_14, p_14, ha14, ho14, hp14, h⟩ := h
  refine n_putFr hx hb hB inB4 tyX4 tyX4_ok nmX4 hown (hg.K hK) hH ha14 ho14 rfl 3 (by decide) k18 rfl hp14 rfl hin rfl rfl rfl dX4_init_26 (fun G14 eG14 H locs hH => ?_)
  replace h := h G14 eG14
  replace hg := hg.sh eG14
  refine lv_aload_n hx hb dX4_init_29 rfl (lv_at hl 0 rfl) ?_
  refine lv_bipush (v := 32) hx hb dX4_init_30 (by decide) ?_
  obtain ⟨hk17, hj17, h⟩ := h
  refine g_newI hx hb (hB _ bw1_38) (hg.K hK) hH aA_hA (kOK.at (hg.k hk) (t := 0) rfl) 32 (by decide) (by decide) (by decide) hk17 hj17 dX4_init_32 (fun a_17 G17 σ17 eG17 eσ17 H hH => ?_)
  replace h := h a_17 G17 σ17 eG17 eσ17
  replace hg := hg.ext eG17
  refine W.eq (g2 := F0 m 34 ls [.ref a_17, .ref a0]) (by rw [eG17, gext_at]) ?_
  obtain ⟨c_18, p_18, ha18, ho18, hp18, h⟩ := h
  refine n_putFr hx hb hB inB4 tyX4 tyX4_ok nmX4 hown (hg.K hK) hH ha18 ho18 rfl 4 (by decide) k22 rfl hp18 rfl hin rfl rfl rfl dX4_init_34 (fun G18 eG18 H locs hH => ?_)
  replace h := h G18 eG18
  replace hg := hg.sh eG18
  refine lv_aload_n hx hb dX4_init_37 rfl (lv_at hl 0 rfl) ?_
  refine lv_bipush (v := 32) hx hb dX4_init_38 (by decide) ?_
  obtain ⟨hk21, hj21, h⟩ := h
  refine g_newI hx hb (hB _ bw1_38) (hg.K hK) hH aA_hA (kOK.at (hg.k hk) (t := 0) rfl) 32 (by decide) (by decide) (by decide) hk21 hj21 dX4_init_40 (fun a_21 G21 σ21 eG21 eσ21 H hH => ?_)
  replace h := h a_21 G21 σ21 eG21 eσ21
  replace hg := hg.ext eG21
  refine W.eq (g2 := F0 m 42 ls [.ref a_21, .ref a0]) (by rw [eG21, gext_at]) ?_
  obtain ⟨c_22, p_22, ha22, ho22, hp22, h⟩ := h
  refine n_putFr hx hb hB inB4 tyX4 tyX4_ok nmX4 hown (hg.K hK) hH ha22 ho22 rfl 8 (by decide) k25 rfl hp22 rfl hin rfl rfl rfl dX4_init_42 (fun G22 eG22 H locs hH => ?_)
  replace h := h G22 eG22
  replace hg := hg.sh eG22
  refine lv_aload_n hx hb dX4_init_45 rfl (lv_at hl 0 rfl) ?_
  refine lv_bipush (v := 121) hx hb dX4_init_46 (by decide) ?_
  obtain ⟨hk25, hj25, h⟩ := h
  refine g_newI hx hb (hB _ bw1_38) (hg.K hK) hH aA_hA (kOK.at (hg.k hk) (t := 0) rfl) 121 (by decide) (by decide) (by decide) hk25 hj25 dX4_init_48 (fun a_25 G25 σ25 eG25 eσ25 H hH => ?_)
  replace h := h a_25 G25 σ25 eG25 eσ25
  replace hg := hg.ext eG25
  refine W.eq (g2 := F0 m 50 ls [.ref a_25, .ref a0]) (by rw [eG25, gext_at]) ?_
  obtain ⟨c_26, p_26, ha26, ho26, hp26, h⟩ := h
  refine n_putFr hx hb hB inB4 tyX4 tyX4_ok nmX4 hown (hg.K hK) hH ha26 ho26 rfl 10 (by decide) k28 rfl hp26 rfl hin rfl rfl rfl dX4_init_50 (fun G26 eG26 H locs hH => ?_)
  replace h := h G26 eG26
  replace hg := hg.sh eG26
  refine lv_aload_n hx hb dX4_init_53 rfl (lv_at hl 0 rfl) ?_
  refine lv_bipush (v := 8) hx hb dX4_init_54 (by decide) ?_
  obtain ⟨hk29, hj29, h⟩ := h
  refine g_newI hx hb (hB _ bw1_38) (hg.K hK) hH aA_hA (kOK.at (hg.k hk) (t := 0) rfl) 8 (by decide) (by decide) (by decide) hk29 hj29 dX4_init_56 (fun a_29 G29 σ29 eG29 eσ29 H hH => ?_)
  replace h := h a_29 G29 σ29 eG29 eσ29
  replace hg := hg.ext eG29
  refine W.eq (g2 := F0 m 58 ls [.ref a_29, .ref a0]) (by rw [eG29, gext_at]) ?_
  obtain ⟨c_30, p_30, ha30, ho30, hp30, h⟩ := h
  refine n_putFr hx hb hB inB4 tyX4 tyX4_ok nmX4 hown (hg.K hK) hH ha30 ho30 rfl 13 (by decide) k31 rfl hp30 rfl hin rfl rfl rfl dX4_init_58 (fun G30 eG30 H locs hH => ?_)
  replace h := h G30 eG30
  replace hg := hg.sh eG30
  refine lv_aload_n hx hb dX4_init_61 rfl (lv_at hl 0 rfl) ?_
  refine lv_iload_n hx hb dX4_init_62 rfl (lv_at hl 1 rfl) ?_
  obtain ⟨c_33, p_33, ha33, ho33, hp33, h⟩ := h
  refine n_putFi hx hb hB inB4 tyX4 tyX4_ok nmX4 hown (hg.K hK) hH ha33 ho33 rfl 0 (by decide) k34 rfl hp33 rfl hin rfl rfl rfl dX4_init_63 (fun σ33 eσ33 H locs hH => ?_)
  replace h := h σ33 eσ33
  exact n_ret hx hb hr hK hlk hg h.1 h.2.1 h.2.2 hH dX4_init_66
set_option maxRecDepth 100000 in
def wpX5_init (kA : Nat → ClassId) (G : GG) (a0 : Nat) (σ : Sg) (Q : GG → Sg → Prop) : Prop := (0 + 1 ≤ 1 ∧ 0 + 240 ≤ 240 ∧ ∀ (a_5 : Nat) (G5 : GG) (σ5 : Sg), G5 = gext G a_5 (.inl (kA 0, 240)) → σ5 = va_up σ (gn G) (fun _ => 0) → ∃ (c_6 : Nat) (p_6 : List (Option (Option Nat))), ga G5 c_6 = a0 ∧ isO G5 5 p_6 c_6 ∧ 0 < p_6.length ∧ ∀ G6 : GG, G6 = gsh G5 c_6 (.inr (.inr (5, p_6.set 0 (some (some a_5))))) → (0 + 1 ≤ 1 ∧ 0 + 240 ≤ 240 ∧ Q G6 σ5))
set_option maxHeartbeats 8000000 in
set_option maxRecDepth 100000 in
theorem tX5_init {l : Launch} {G : GG} {kA : Nat → ClassId} {tS : Nat × (Nat → Int32)} {a0 : Nat} {σ : Sg} {Q : GG → Sg → Prop} (hk : kOK kA G) (hgo : go G = some tS) (h : wpX5_init kA G a0 σ Q) : Kn l G yX5_init (wB yX5_init prog_7_method_1_code 1 none) ({ frames := 1, cells := 1, slots := 240, locals := 12 }) [.ref a0] σ Q 1 240 := by
  refine Kn_of (cc := cX5_init) (maxL := 1) (ret := none) (by decide) rfl (Nat.le_of_ble_eq_true rfl) ?_
  intro p e s m args below meth c ls hin B hH hl
  obtain ⟨hx, hb, hr, hts, hown, hlk, hml, hK, hX⟩ := B
  replace hin : meth.name = "<init>" := hin
  replace hl : lv_has ls 1 [(0, .ref a0)] := hl
  have hB : ∀ w ∈ BIG, w.before args s = true := fun w h9 => hts w (List.mem_cons_of_mem _ h9)
  clear hts
  have hg : SameG G G := SameG.rf
  have k9 := hB _ bw1_118
  unfold wpX5_init at h
  refine lv_aload_n hx hb dX5_init_0 rfl (lv_at hl 0 rfl) ?_
  refine W.objInit hx hb hown (hB _ bw1_117) (hB _ bw1_20) (hB _ bw1_21) rfl (by rw [hml]; exact hl.1) rfl dX5_init_1 (Nat.le_of_ble_eq_true rfl) (Nat.le_of_ble_eq_true rfl) ?_
  refine W.eq (g2 := F0 m 4 ls []) rfl ?_
  refine lv_aload_n hx hb dX5_init_4 rfl (lv_at hl 0 rfl) ?_
  refine lv_sipush (v := 240) hx hb dX5_init_5 (by decide) ?_
  obtain ⟨hk5, hj5, h⟩ := h
  refine g_newI hx hb (hB _ bw1_38) (hg.K hK) hH aA_hA (kOK.at (hg.k hk) (t := 0) rfl) 240 (by decide) (by decide) (by decide) hk5 hj5 dX5_init_8 (fun a_5 G5 σ5 eG5 eσ5 H hH => ?_)
  replace h := h a_5 G5 σ5 eG5 eσ5
  replace hg := hg.ext eG5
  refine W.eq (g2 := F0 m 10 ls [.ref a_5, .ref a0]) (by rw [eG5, gext_at]) ?_
  obtain ⟨c_6, p_6, ha6, ho6, hp6, h⟩ := h
  refine n_putFr hx hb hB inB5 tyX5 tyX5_ok nmX5 hown (hg.K hK) hH ha6 ho6 rfl 0 (by decide) k9 rfl hp6 rfl hin rfl rfl rfl dX5_init_10 (fun G6 eG6 H locs hH => ?_)
  replace h := h G6 eG6
  replace hg := hg.sh eG6
  exact n_ret hx hb hr hK hlk hg h.1 h.2.1 h.2.2 hH dX5_init_13
def wpX6_init_L32 (kA : Nat → ClassId) (Q : GG → Sg → Prop) : Nat → Nat → Int32 → GG → Sg → Nat → Nat → Prop
  | 0, _, _, _, _, _, _ => False
  | n + 1, a0, x2, G, σ, k, j => ∃ (c_20 : Nat) (p_20 : List (Option (Option Nat))) (a_20 : Nat), ga G c_20 = a0 ∧ isO G 6 p_20 c_20 ∧ p_20[1]? = some (some (some a_20)) ∧ ∃ (c_21 N_21 : Nat) (f_21 : Nat → Option Nat), ga G c_21 = a_20 ∧ (c_21 < gn G ∧ gs G c_21 = .inr (.inl (kA 2, N_21, f_21))) ∧ (((nI N_21) ≤ x2 → (k ≤ 70 ∧ j ≤ 12030 ∧ Q G σ)) ∧ (¬ ((nI N_21) ≤ x2) → ∃ (c_25 : Nat) (p_25 : List (Option (Option Nat))) (a_25 : Nat), ga G c_25 = a0 ∧ isO G 6 p_25 c_25 ∧ p_25[1]? = some (some (some a_25)) ∧ (k + 1 ≤ 70 ∧ j + 6 ≤ 12030 ∧ ∀ (a_27 : Nat) (G27 : GG) (σ27 : Sg), G27 = gext G a_27 (.inr (.inr (5, [some none, none, none, none, none, none]))) → σ27 = va_up σ (gn G) (fun _ => 0) → (k + 1 + 1 ≤ 70 ∧ j + 6 + 240 ≤ 12030 ∧ wpX5_init kA G27 a_27 σ27 (fun G29 σ29 => ∃ (c_30 d_30 N_30 : Nat) (f_30 : Nat → Option Nat) (p_30 : List (Option (Option Nat))), ga G29 c_30 = a_25 ∧ ga G29 d_30 = a_27 ∧ (c_30 < gn G29 ∧ gs G29 c_30 = .inr (.inl (kA 2, N_30, f_30))) ∧ isO G29 5 p_30 d_30 ∧ vp_in x2 N_30 ∧ ∀ G30 : GG, G30 = gsh G29 c_30 (.inr (.inl (kA 2, N_30, va_up f_30 x2.toNatClampNeg (some a_27)))) → ∃ (c_32 : Nat) (p_32 : List (Option (Option Nat))) (a_32 : Nat), ga G30 c_32 = a0 ∧ isO G30 6 p_32 c_32 ∧ p_32[1]? = some (some (some a_32)) ∧ ∃ (c_34 N_34 : Nat) (f_34 : Nat → Option Nat) (a_34 : Nat), ga G30 c_34 = a_32 ∧ (c_34 < gn G30 ∧ gs G30 c_34 = .inr (.inl (kA 2, N_34, f_34))) ∧ vp_in x2 N_34 ∧ f_34 x2.toNatClampNeg = some a_34 ∧ ∃ (c_36 : Nat) (p_36 : List (Option (Option Nat))), ga G30 c_36 = a_34 ∧ isO G30 5 p_36 c_36 ∧ p_36[1]? = some none ∧ ∀ σ36 : Sg, σ36 = up2 σ29 c_36 1 (-1) → ∀ x2_37 : Int32, x2_37 = x2 + 1 → (wpX6_init_L32 kA Q n) a0 x2_37 G30 σ36 (k + 1 + 1) (j + 6 + 240))))))
set_option maxRecDepth 100000 in
def wpX6_init (kA : Nat → ClassId) (G : GG) (a0 : Nat) (x1 : Int32) (σ : Sg) (Q : GG → Sg → Prop) : Prop := (0 + 1 ≤ 70 ∧ 0 + 32 ≤ 12030 ∧ ∀ (a_5 : Nat) (G5 : GG) (σ5 : Sg), G5 = gext G a_5 (.inr (.inl (kA 2, 32, fun _ => none))) → σ5 = va_up σ (gn G) (fun _ => 0) → ∃ (c_6 : Nat) (p_6 : List (Option (Option Nat))), ga G5 c_6 = a0 ∧ isO G5 6 p_6 c_6 ∧ 1 < p_6.length ∧ ∀ G6 : GG, G6 = gsh G5 c_6 (.inr (.inr (6, p_6.set 1 (some (some a_5))))) → ∃ (c_9 : Nat) (p_9 : List (Option (Option Nat))), ga G6 c_9 = a0 ∧ isO G6 6 p_9 c_9 ∧ p_9[6]? = some none ∧ ∀ σ9 : Sg, σ9 = up2 σ5 c_9 6 (-1) → (0 + 1 + 1 ≤ 70 ∧ 0 + 32 + 13 ≤ 12030 ∧ ∀ (a_11 : Nat) (G11 : GG) (σ11 : Sg), G11 = gext G6 a_11 (.inr (.inr (3, [none, some none, none, none, some none, some none, none, none, none, none, none, some none, none]))) → σ11 = va_up σ9 (gn G6) (fun _ => 0) → (0 + 1 + 1 + 4 ≤ 70 ∧ 0 + 32 + 13 + 4113 ≤ 12030 ∧ wpX3_init kA G11 a_11 x1 σ11 (fun G14 σ14 => ∃ (c_15 : Nat) (p_15 : List (Option (Option Nat))), ga G14 c_15 = a0 ∧ isO G14 6 p_15 c_15 ∧ 0 < p_15.length ∧ ∀ G15 : GG, G15 = gsh G14 c_15 (.inr (.inr (6, p_15.set 0 (some (some a_11))))) → ∃ nn, wpX6_init_L32 kA Q nn a0 0 G15 σ14 (0 + 1 + 1 + 4) (0 + 32 + 13 + 4113)))))
set_option maxHeartbeats 8000000 in
set_option maxRecDepth 100000 in
theorem tX6_init {l : Launch} {G : GG} {kA : Nat → ClassId} {tS : Nat × (Nat → Int32)} {a0 : Nat} {x1 : Int32} {σ : Sg} {Q : GG → Sg → Prop} (hk : kOK kA G) (hgo : go G = some tS) (h : wpX6_init kA G a0 x1 σ Q) : Kn l G yX6_init (wB yX6_init prog_8_method_1_code 3 none) ({ frames := 2, cells := 70, slots := 12030, locals := 33 }) [.ref a0, .int x1] σ Q 70 12030 := by
  refine Kn_of (cc := cX6_init) (maxL := 3) (ret := none) (by decide) rfl (Nat.le_of_ble_eq_true rfl) ?_
  intro p e s m args below meth c ls hin B hH hl
  obtain ⟨hx, hb, hr, hts, hown, hlk, hml, hK, hX⟩ := B
  replace hin : meth.name = "<init>" := hin
  replace hl : lv_has ls 3 [(0, .ref a0), (1, .int x1)] := hl
  have hB : ∀ w ∈ BIG, w.before args s = true := fun w h9 => hts w (List.mem_cons_of_mem _ h9)
  clear hts
  have hg : SameG G G := SameG.rf
  have hXN : NWs s := XS.nw hX hgo
  have k11 := hB _ bw2_27
  have k17 := hB _ bw2_36
  have k26 := hB _ bw2_25
  have k31 : (Cond.fieldLinkNest RX6 31 "BearerHouse$Piece" "size" "I" "BearerHouse").before args s = true := va_Nw.use rfl (hXN.1 ("BearerHouse$Receiver", 31, "BearerHouse$Piece", "size", "I", "BearerHouse") (List.mem_of_getElem? (i := 44) rfl))
  have L32 : ∀ (n32 : Nat) (a0 : Nat) (x2 : Int32) (G1 : GG) (σ : Sg) (k j : Nat) (H : Heap) (locs : List Loc) (ls : Array Slot), SameG G G1 → Hx G1 (aA G s.heap.size) s σ H locs → lv_has ls 3 [(0, .ref a0), (2, .int x2)] → wpX6_init_L32 kA Q n32 a0 x2 G1 σ k j → W p l e ({ frames := 2, cells := 70, slots := 12030, locals := 33 }) s m args below meth c H locs k j (Zn G Q 70 12030 below args s) (F0 m 32 ls []) := by
    intro n32
    induction n32 with
    | zero =>
      intro a0 x2 G1 σ k j H locs ls hg hH hl h
      exact False.elim h
    | succ n32 ih32 =>
      intro a0 x2 G1 σ k j H locs ls hg hH hl h
      unfold wpX6_init_L32 at h
      refine lv_iload_n hx hb dX6_init_32 rfl (lv_at hl 1 rfl) ?_
      refine lv_aload_n hx hb dX6_init_33 rfl (lv_at hl 0 rfl) ?_
      obtain ⟨c_20, p_20, a_20, ha20, ho20, hp20, h⟩ := h
      refine n_getr hx hb hB inB6 hown (hg.K hK) hH ha20 ho20 rfl 1 (by decide) k11 rfl hp20 dX6_init_34 ?_
      obtain ⟨c_21, N_21, f_21, ha21, ho21, h⟩ := h
      refine n_alenr hx hb (hg.K hK) hH ha21 ho21 2 (kOK.at (hg.k hk) (t := 2) rfl) dX6_init_37 ?_
      refine lv_icmp_ge (tgt := 70) hx hb dX6_init_38 (by decide) (fun q22 => ?_) (fun q22 => ?_)
      · replace h := h.1 q22
        exact n_ret hx hb hr hK hlk hg h.1 h.2.1 h.2.2 hH dX6_init_70
      · replace h := h.2 q22
        refine lv_aload_n hx hb dX6_init_41 rfl (lv_at hl 0 rfl) ?_
        obtain ⟨c_25, p_25, a_25, ha25, ho25, hp25, h⟩ := h
        refine n_getr hx hb hB inB6 hown (hg.K hK) hH ha25 ho25 rfl 1 (by decide) k11 rfl hp25 dX6_init_42 ?_
        refine lv_iload_n hx hb dX6_init_45 rfl (lv_at hl 1 rfl) ?_
        obtain ⟨hk27, hj27, h⟩ := h
        refine g_new (T := TX5) (N := 6) hx hb hB inB5 tyX5 tyX5_ok hown (hB _ bw1_207) (hB _ bw1_113) (hB _ bw1_5) (hg.K hK) hH aA_hA (ci := 5) rfl [some none, none, none, none, none, none] (fun j hj => by rcases (show j = 0 ∨ j = 1 ∨ j = 2 ∨ j = 3 ∨ j = 4 ∨ j = 5 by omega) with rfl | rfl | rfl | rfl | rfl | rfl <;> rfl) hk27 hj27 dX6_init_46 (fun a_27 G27 σ27 eG27 eσ27 H hH => ?_)
        replace h := h a_27 G27 σ27 eG27 eσ27
        replace hg := hg.ext eG27
        refine W.eq (g2 := F0 m 49 ls [.ref a_27, .int x2, .ref a_25]) (by rw [eG27, gext_at]) ?_
        refine lv_dup hx hb dX6_init_49 rfl ?_
        obtain ⟨hk29, hj29, h⟩ := h
        refine n_callIN (As := []) (rest := [.ref a_27, .int x2, .ref a_25]) ⟨hx, hb, hml, hown, hB⟩ (hg.K hK) (hg.X hX) aA_hA hH (tX5_init (tS := tS) (hg.k hk) (hg.2.2.trans hgo) h) ⟨va_cnB 0 hB (goodB bw1_116) rfl rfl rfl (hXN.2.1 ("BearerHouse$Receiver", 30, ⟨"BearerHouse$Piece", "<init>", "()V"⟩, "BearerHouse") (List.mem_of_getElem? (i := 3) rfl)) (hB _ bw1_5) (by decide +kernel) ⟨Nat.le_of_ble_eq_true rfl, Nat.le_of_ble_eq_true rfl⟩, rfl, hB _ bw1_115⟩ rfl hl.1 rfl (lv_room (Nat.le_of_ble_eq_true rfl)) ⟨hk29, hj29⟩ dX6_init_50 (fun G29 σ29 H locs h hg29 hH => ?_)
        replace hg := hg.tr hg29
        obtain ⟨c_30, d_30, N_30, f_30, p_30, ha30, hd30, ho30, hq30, hi30, h⟩ := h
        refine n_aast (r := (RX5, TX5, 6)) hx hb (hg.K hK) hH ha30 ho30 2 (kOK.at (hg.k hk) (t := 2) rfl) hd30 hq30 rfl hi30 dX6_init_53 (fun G30 eG30 H locs hH => ?_)
        replace h := h G30 eG30
        replace hg := hg.sh eG30
        refine lv_aload_n hx hb dX6_init_54 rfl (lv_at hl 0 rfl) ?_
        obtain ⟨c_32, p_32, a_32, ha32, ho32, hp32, h⟩ := h
        refine n_getr hx hb hB inB6 hown (hg.K hK) hH ha32 ho32 rfl 1 (by decide) k11 rfl hp32 dX6_init_55 ?_
        refine lv_iload_n hx hb dX6_init_58 rfl (lv_at hl 1 rfl) ?_
        obtain ⟨c_34, N_34, f_34, a_34, ha34, ho34, hi34, hf34, h⟩ := h
        refine n_aald hx hb (hg.K hK) hH ha34 ho34 2 (kOK.at (hg.k hk) (t := 2) rfl) hi34 hf34 dX6_init_59 ?_
        refine lv_iconst (v := (-1)) hx hb dX6_init_60 (by decide) ?_
        obtain ⟨c_36, p_36, ha36, ho36, hp36, h⟩ := h
        refine n_putN hx hb hB inB5 tyX5 tyX5_ok nmX5 hown (hg.K hK) hH ha36 ho36 rfl 1 (by decide) k31 rfl hp36 rfl rfl rfl dX6_init_61 (fun σ36 eσ36 H locs hH => ?_)
        replace h := h σ36 eσ36
        obtain ⟨x2_37, ex2_37⟩ : ∃ y : Int32, y = x2 + 1 := ⟨_, rfl⟩
        replace h := h x2_37 ex2_37
        refine lv_iinc (v := x2_37) (lv' := [(2, .int x2_37), (0, .ref a0)]) hx hb dX6_init_64 hl (k := 1) rfl (by rw [ex2_37]; rfl) (by decide) rfl (fun ls hl => ?_)
        refine lv_goto (tgt := 32) hx hb dX6_init_67 (by decide) ?_
        exact ih32 a0 x2_37 G30 σ36 (k + 1 + 1) (j + 6 + 240) _ _ ls hg hH (lv_sub hl [1, 0] rfl) h
  unfold wpX6_init at h
  refine lv_aload_n hx hb dX6_init_0 rfl (lv_at hl 0 rfl) ?_
  refine W.objInit hx hb hown (hB _ bw1_206) (hB _ bw1_20) (hB _ bw1_21) rfl (by rw [hml]; exact hl.1) rfl dX6_init_1 (Nat.le_of_ble_eq_true rfl) (Nat.le_of_ble_eq_true rfl) ?_
  refine W.eq (g2 := F0 m 4 ls []) rfl ?_
  refine lv_aload_n hx hb dX6_init_4 rfl (lv_at hl 0 rfl) ?_
  refine lv_bipush (v := 32) hx hb dX6_init_5 (by decide) ?_
  obtain ⟨hk5, hj5, h⟩ := h
  refine g_newR hx hb hown (hB _ bw1_207) (hXN.2.2 "BearerHouse$Piece" (List.mem_of_getElem? (i := 0) rfl)) (hg.K hK) hH aA_hA 2 (kOK.at (hg.k hk) (t := 2) rfl) 32 (by decide) (by decide) (by decide) hk5 hj5 dX6_init_7 (fun a_5 G5 σ5 eG5 eσ5 H hH => ?_)
  replace h := h a_5 G5 σ5 eG5 eσ5
  replace hg := hg.ext eG5
  refine W.eq (g2 := F0 m 10 ls [.ref a_5, .ref a0]) (by rw [eG5, gext_at]) ?_
  obtain ⟨c_6, p_6, ha6, ho6, hp6, h⟩ := h
  refine n_putFr hx hb hB inB6 tyX6 tyX6_ok nmX6 hown (hg.K hK) hH ha6 ho6 rfl 1 (by decide) k11 rfl hp6 rfl hin rfl rfl rfl dX6_init_10 (fun G6 eG6 H locs hH => ?_)
  replace h := h G6 eG6
  replace hg := hg.sh eG6
  refine lv_aload_n hx hb dX6_init_13 rfl (lv_at hl 0 rfl) ?_
  refine lv_iconst (v := (-1)) hx hb dX6_init_14 (by decide) ?_
  obtain ⟨c_9, p_9, ha9, ho9, hp9, h⟩ := h
  refine n_put hx hb hB inB6 tyX6 tyX6_ok nmX6 hown (hg.K hK) hH ha9 ho9 rfl 6 (by decide) k17 rfl hp9 rfl rfl rfl dX6_init_15 (fun σ9 eσ9 H locs hH => ?_)
  replace h := h σ9 eσ9
  refine lv_aload_n hx hb dX6_init_18 rfl (lv_at hl 0 rfl) ?_
  obtain ⟨hk11, hj11, h⟩ := h
  refine g_new (T := TX3) (N := 13) hx hb hB inB3 tyX3 tyX3_ok hown (hB _ bw1_208) (hB _ bw1_209) (hB _ bw1_7) (hg.K hK) hH aA_hA (ci := 3) rfl [none, some none, none, none, some none, some none, none, none, none, none, none, some none, none] (fun j hj => by rcases (show j = 0 ∨ j = 1 ∨ j = 2 ∨ j = 3 ∨ j = 4 ∨ j = 5 ∨ j = 6 ∨ j = 7 ∨ j = 8 ∨ j = 9 ∨ j = 10 ∨ j = 11 ∨ j = 12 by omega) with rfl | rfl | rfl | rfl | rfl | rfl | rfl | rfl | rfl | rfl | rfl | rfl | rfl <;> rfl) hk11 hj11 dX6_init_19 (fun a_11 G11 σ11 eG11 eσ11 H hH => ?_)
  replace h := h a_11 G11 σ11 eG11 eσ11
  replace hg := hg.ext eG11
  refine W.eq (g2 := F0 m 22 ls [.ref a_11, .ref a0]) (by rw [eG11, gext_at]) ?_
  refine lv_dup hx hb dX6_init_22 rfl ?_
  refine lv_iload_n hx hb dX6_init_23 rfl (lv_at hl 1 rfl) ?_
  obtain ⟨hk14, hj14, h⟩ := h
  refine n_callI (As := [.int x1]) (rest := [.ref a_11, .ref a0]) ⟨hx, hb, hml, hown, hB⟩ (hg.K hK) (hg.X hX) aA_hA hH (tX3_init (tS := tS) (hg.k hk) (hg.2.2.trans hgo) h) (cwI 1 hB (goodB bw1_212) rfl rfl rfl (hB _ bw1_7) (hB _ bw1_210) (hB _ bw1_211) rfl (by decide +kernel) ⟨Nat.le_of_ble_eq_true rfl, Nat.le_of_ble_eq_true rfl⟩) rfl hl.1 rfl (lv_room (Nat.le_of_ble_eq_true rfl)) ⟨hk14, hj14⟩ dX6_init_24 (fun G14 σ14 H locs h hg14 hH => ?_)
  replace hg := hg.tr hg14
  obtain ⟨c_15, p_15, ha15, ho15, hp15, h⟩ := h
  refine n_putFr hx hb hB inB6 tyX6 tyX6_ok nmX6 hown (hg.K hK) hH ha15 ho15 rfl 0 (by decide) k26 rfl hp15 rfl hin rfl rfl rfl dX6_init_27 (fun G15 eG15 H locs hH => ?_)
  replace h := h G15 eG15
  replace hg := hg.sh eG15
  refine lv_iconst (v := 0) hx hb dX6_init_30 (by decide) ?_
  refine lv_istore_n (lv' := [(2, .int 0), (0, .ref a0), (1, .int x1)]) hx hb dX6_init_31 rfl hl (by decide) rfl (fun ls hl => ?_)
  obtain ⟨nn, h⟩ := h
  exact L32 nn a0 0 G15 σ14 (0 + 1 + 1 + 4) (0 + 32 + 13 + 4113) _ _ ls hg hH (lv_sub hl [1, 0] rfl) h
def wpX7_init_L38 (kA : Nat → ClassId) (Q : GG → Sg → Prop) : Nat → Nat → Int32 → GG → Sg → Nat → Nat → Prop
  | 0, _, _, _, _, _, _ => False
  | n + 1, a0, x2, G, σ, k, j => ∃ (c_23 : Nat) (p_23 : List (Option (Option Nat))) (a_23 : Nat), ga G c_23 = a0 ∧ isO G 7 p_23 c_23 ∧ p_23[1]? = some (some (some a_23)) ∧ ∃ (c_24 N_24 : Nat) (f_24 : Nat → Option Nat), ga G c_24 = a_23 ∧ (c_24 < gn G ∧ gs G c_24 = .inr (.inl (kA 2, N_24, f_24))) ∧ (((nI N_24) ≤ x2 → (k ≤ 41 ∧ j ≤ 8064 ∧ Q G σ)) ∧ (¬ ((nI N_24) ≤ x2) → ∃ (c_28 : Nat) (p_28 : List (Option (Option Nat))) (a_28 : Nat), ga G c_28 = a0 ∧ isO G 7 p_28 c_28 ∧ p_28[1]? = some (some (some a_28)) ∧ (k + 1 ≤ 41 ∧ j + 6 ≤ 8064 ∧ ∀ (a_30 : Nat) (G30 : GG) (σ30 : Sg), G30 = gext G a_30 (.inr (.inr (5, [some none, none, none, none, none, none]))) → σ30 = va_up σ (gn G) (fun _ => 0) → (k + 1 + 1 ≤ 41 ∧ j + 6 + 240 ≤ 8064 ∧ wpX5_init kA G30 a_30 σ30 (fun G32 σ32 => ∃ (c_33 d_33 N_33 : Nat) (f_33 : Nat → Option Nat) (p_33 : List (Option (Option Nat))), ga G32 c_33 = a_28 ∧ ga G32 d_33 = a_30 ∧ (c_33 < gn G32 ∧ gs G32 c_33 = .inr (.inl (kA 2, N_33, f_33))) ∧ isO G32 5 p_33 d_33 ∧ vp_in x2 N_33 ∧ ∀ G33 : GG, G33 = gsh G32 c_33 (.inr (.inl (kA 2, N_33, va_up f_33 x2.toNatClampNeg (some a_30)))) → ∀ x2_34 : Int32, x2_34 = x2 + 1 → (wpX7_init_L38 kA Q n) a0 x2_34 G33 σ32 (k + 1 + 1) (j + 6 + 240))))))
set_option maxRecDepth 100000 in
def wpX7_init (kA : Nat → ClassId) (G : GG) (a0 : Nat) (x1 : Int32) (σ : Sg) (Q : GG → Sg → Prop) : Prop := (0 + 1 ≤ 41 ∧ 0 + 16 ≤ 8064 ∧ ∀ (a_5 : Nat) (G5 : GG) (σ5 : Sg), G5 = gext G a_5 (.inr (.inl (kA 2, 16, fun _ => none))) → σ5 = va_up σ (gn G) (fun _ => 0) → ∃ (c_6 : Nat) (p_6 : List (Option (Option Nat))), ga G5 c_6 = a0 ∧ isO G5 7 p_6 c_6 ∧ 1 < p_6.length ∧ ∀ G6 : GG, G6 = gsh G5 c_6 (.inr (.inr (7, p_6.set 1 (some (some a_5))))) → ∃ (c_9 : Nat) (p_9 : List (Option (Option Nat))), ga G6 c_9 = a0 ∧ isO G6 7 p_9 c_9 ∧ p_9[2]? = some none ∧ ∀ σ9 : Sg, σ9 = up2 σ5 c_9 2 16 → ∃ (c_12 : Nat) (p_12 : List (Option (Option Nat))), ga G6 c_12 = a0 ∧ isO G6 7 p_12 c_12 ∧ p_12[9]? = some none ∧ ∀ σ12 : Sg, σ12 = up2 σ9 c_12 9 (-1) → (0 + 1 + 1 ≤ 41 ∧ 0 + 16 + 15 ≤ 8064 ∧ ∀ (a_14 : Nat) (G14 : GG) (σ14 : Sg), G14 = gext G6 a_14 (.inr (.inr (4, [none, some none, some none, some none, some none, none, none, none, some none, none, some none, none, none, some none, none]))) → σ14 = va_up σ12 (gn G6) (fun _ => 0) → (0 + 1 + 1 + 7 ≤ 41 ∧ 0 + 16 + 15 + 4097 ≤ 8064 ∧ wpX4_init kA G14 a_14 x1 σ14 (fun G17 σ17 => ∃ (c_18 : Nat) (p_18 : List (Option (Option Nat))), ga G17 c_18 = a0 ∧ isO G17 7 p_18 c_18 ∧ 0 < p_18.length ∧ ∀ G18 : GG, G18 = gsh G17 c_18 (.inr (.inr (7, p_18.set 0 (some (some a_14))))) → ∃ nn, wpX7_init_L38 kA Q nn a0 0 G18 σ17 (0 + 1 + 1 + 7) (0 + 16 + 15 + 4097)))))
set_option maxHeartbeats 8000000 in
set_option maxRecDepth 100000 in
theorem tX7_init {l : Launch} {G : GG} {kA : Nat → ClassId} {tS : Nat × (Nat → Int32)} {a0 : Nat} {x1 : Int32} {σ : Sg} {Q : GG → Sg → Prop} (hk : kOK kA G) (hgo : go G = some tS) (h : wpX7_init kA G a0 x1 σ Q) : Kn l G yX7_init (wB yX7_init prog_9_method_1_code 3 none) ({ frames := 2, cells := 41, slots := 8064, locals := 33 }) [.ref a0, .int x1] σ Q 41 8064 := by
  refine Kn_of (cc := cX7_init) (maxL := 3) (ret := none) (by decide) rfl (Nat.le_of_ble_eq_true rfl) ?_
  intro p e s m args below meth c ls hin B hH hl
  obtain ⟨hx, hb, hr, hts, hown, hlk, hml, hK, hX⟩ := B
  replace hin : meth.name = "<init>" := hin
  replace hl : lv_has ls 3 [(0, .ref a0), (1, .int x1)] := hl
  have hB : ∀ w ∈ BIG, w.before args s = true := fun w h9 => hts w (List.mem_cons_of_mem _ h9)
  clear hts
  have hg : SameG G G := SameG.rf
  have hXN : NWs s := XS.nw hX hgo
  have k11 := hB _ bw1_147
  have k17 := hB _ bw1_148
  have k21 := hB _ bw1_161
  have k29 := hB _ bw1_145
  have L38 : ∀ (n38 : Nat) (a0 : Nat) (x2 : Int32) (G1 : GG) (σ : Sg) (k j : Nat) (H : Heap) (locs : List Loc) (ls : Array Slot), SameG G G1 → Hx G1 (aA G s.heap.size) s σ H locs → lv_has ls 3 [(0, .ref a0), (2, .int x2)] → wpX7_init_L38 kA Q n38 a0 x2 G1 σ k j → W p l e ({ frames := 2, cells := 41, slots := 8064, locals := 33 }) s m args below meth c H locs k j (Zn G Q 41 8064 below args s) (F0 m 38 ls []) := by
    intro n38
    induction n38 with
    | zero =>
      intro a0 x2 G1 σ k j H locs ls hg hH hl h
      exact False.elim h
    | succ n38 ih38 =>
      intro a0 x2 G1 σ k j H locs ls hg hH hl h
      unfold wpX7_init_L38 at h
      refine lv_iload_n hx hb dX7_init_38 rfl (lv_at hl 1 rfl) ?_
      refine lv_aload_n hx hb dX7_init_39 rfl (lv_at hl 0 rfl) ?_
      obtain ⟨c_23, p_23, a_23, ha23, ho23, hp23, h⟩ := h
      refine n_getr hx hb hB inB7 hown (hg.K hK) hH ha23 ho23 rfl 1 (by decide) k11 rfl hp23 dX7_init_40 ?_
      obtain ⟨c_24, N_24, f_24, ha24, ho24, h⟩ := h
      refine n_alenr hx hb (hg.K hK) hH ha24 ho24 2 (kOK.at (hg.k hk) (t := 2) rfl) dX7_init_43 ?_
      refine lv_icmp_ge (tgt := 66) hx hb dX7_init_44 (by decide) (fun q25 => ?_) (fun q25 => ?_)
      · replace h := h.1 q25
        exact n_ret hx hb hr hK hlk hg h.1 h.2.1 h.2.2 hH dX7_init_66
      · replace h := h.2 q25
        refine lv_aload_n hx hb dX7_init_47 rfl (lv_at hl 0 rfl) ?_
        obtain ⟨c_28, p_28, a_28, ha28, ho28, hp28, h⟩ := h
        refine n_getr hx hb hB inB7 hown (hg.K hK) hH ha28 ho28 rfl 1 (by decide) k11 rfl hp28 dX7_init_48 ?_
        refine lv_iload_n hx hb dX7_init_51 rfl (lv_at hl 1 rfl) ?_
        obtain ⟨hk30, hj30, h⟩ := h
        refine g_new (T := TX5) (N := 6) hx hb hB inB5 tyX5 tyX5_ok hown (hB _ bw1_54) (hB _ bw1_113) (hB _ bw1_5) (hg.K hK) hH aA_hA (ci := 5) rfl [some none, none, none, none, none, none] (fun j hj => by rcases (show j = 0 ∨ j = 1 ∨ j = 2 ∨ j = 3 ∨ j = 4 ∨ j = 5 by omega) with rfl | rfl | rfl | rfl | rfl | rfl <;> rfl) hk30 hj30 dX7_init_52 (fun a_30 G30 σ30 eG30 eσ30 H hH => ?_)
        replace h := h a_30 G30 σ30 eG30 eσ30
        replace hg := hg.ext eG30
        refine W.eq (g2 := F0 m 55 ls [.ref a_30, .int x2, .ref a_28]) (by rw [eG30, gext_at]) ?_
        refine lv_dup hx hb dX7_init_55 rfl ?_
        obtain ⟨hk32, hj32, h⟩ := h
        refine n_callIN (As := []) (rest := [.ref a_30, .int x2, .ref a_28]) ⟨hx, hb, hml, hown, hB⟩ (hg.K hK) (hg.X hX) aA_hA hH (tX5_init (tS := tS) (hg.k hk) (hg.2.2.trans hgo) h) ⟨va_cnB 0 hB (goodB bw1_116) rfl rfl rfl (hXN.2.1 ("BearerHouse$Sender", 33, ⟨"BearerHouse$Piece", "<init>", "()V"⟩, "BearerHouse") (List.mem_of_getElem? (i := 4) rfl)) (hB _ bw1_5) (by decide +kernel) ⟨Nat.le_of_ble_eq_true rfl, Nat.le_of_ble_eq_true rfl⟩, rfl, hB _ bw1_115⟩ rfl hl.1 rfl (lv_room (Nat.le_of_ble_eq_true rfl)) ⟨hk32, hj32⟩ dX7_init_56 (fun G32 σ32 H locs h hg32 hH => ?_)
        replace hg := hg.tr hg32
        obtain ⟨c_33, d_33, N_33, f_33, p_33, ha33, hd33, ho33, hq33, hi33, h⟩ := h
        refine n_aast (r := (RX5, TX5, 6)) hx hb (hg.K hK) hH ha33 ho33 2 (kOK.at (hg.k hk) (t := 2) rfl) hd33 hq33 rfl hi33 dX7_init_59 (fun G33 eG33 H locs hH => ?_)
        replace h := h G33 eG33
        replace hg := hg.sh eG33
        obtain ⟨x2_34, ex2_34⟩ : ∃ y : Int32, y = x2 + 1 := ⟨_, rfl⟩
        replace h := h x2_34 ex2_34
        refine lv_iinc (v := x2_34) (lv' := [(2, .int x2_34), (0, .ref a0)]) hx hb dX7_init_60 hl (k := 1) rfl (by rw [ex2_34]; rfl) (by decide) rfl (fun ls hl => ?_)
        refine lv_goto (tgt := 38) hx hb dX7_init_63 (by decide) ?_
        exact ih38 a0 x2_34 G33 σ32 (k + 1 + 1) (j + 6 + 240) _ _ ls hg hH (lv_sub hl [1, 0] rfl) h
  unfold wpX7_init at h
  refine lv_aload_n hx hb dX7_init_0 rfl (lv_at hl 0 rfl) ?_
  refine W.objInit hx hb hown (hB _ bw1_53) (hB _ bw1_20) (hB _ bw1_21) rfl (by rw [hml]; exact hl.1) rfl dX7_init_1 (Nat.le_of_ble_eq_true rfl) (Nat.le_of_ble_eq_true rfl) ?_
  refine W.eq (g2 := F0 m 4 ls []) rfl ?_
  refine lv_aload_n hx hb dX7_init_4 rfl (lv_at hl 0 rfl) ?_
  refine lv_bipush (v := 16) hx hb dX7_init_5 (by decide) ?_
  obtain ⟨hk5, hj5, h⟩ := h
  refine g_newR hx hb hown (hB _ bw1_54) (hXN.2.2 "BearerHouse$Piece" (List.mem_of_getElem? (i := 0) rfl)) (hg.K hK) hH aA_hA 2 (kOK.at (hg.k hk) (t := 2) rfl) 16 (by decide) (by decide) (by decide) hk5 hj5 dX7_init_7 (fun a_5 G5 σ5 eG5 eσ5 H hH => ?_)
  replace h := h a_5 G5 σ5 eG5 eσ5
  replace hg := hg.ext eG5
  refine W.eq (g2 := F0 m 10 ls [.ref a_5, .ref a0]) (by rw [eG5, gext_at]) ?_
  obtain ⟨c_6, p_6, ha6, ho6, hp6, h⟩ := h
  refine n_putFr hx hb hB inB7 tyX7 tyX7_ok nmX7 hown (hg.K hK) hH ha6 ho6 rfl 1 (by decide) k11 rfl hp6 rfl hin rfl rfl rfl dX7_init_10 (fun G6 eG6 H locs hH => ?_)
  replace h := h G6 eG6
  replace hg := hg.sh eG6
  refine lv_aload_n hx hb dX7_init_13 rfl (lv_at hl 0 rfl) ?_
  refine lv_bipush (v := 16) hx hb dX7_init_14 (by decide) ?_
  obtain ⟨c_9, p_9, ha9, ho9, hp9, h⟩ := h
  refine n_put hx hb hB inB7 tyX7 tyX7_ok nmX7 hown (hg.K hK) hH ha9 ho9 rfl 2 (by decide) k17 rfl hp9 rfl rfl rfl dX7_init_16 (fun σ9 eσ9 H locs hH => ?_)
  replace h := h σ9 eσ9
  refine lv_aload_n hx hb dX7_init_19 rfl (lv_at hl 0 rfl) ?_
  refine lv_iconst (v := (-1)) hx hb dX7_init_20 (by decide) ?_
  obtain ⟨c_12, p_12, ha12, ho12, hp12, h⟩ := h
  refine n_put hx hb hB inB7 tyX7 tyX7_ok nmX7 hown (hg.K hK) hH ha12 ho12 rfl 9 (by decide) k21 rfl hp12 rfl rfl rfl dX7_init_21 (fun σ12 eσ12 H locs hH => ?_)
  replace h := h σ12 eσ12
  refine lv_aload_n hx hb dX7_init_24 rfl (lv_at hl 0 rfl) ?_
  obtain ⟨hk14, hj14, h⟩ := h
  refine g_new (T := TX4) (N := 15) hx hb hB inB4 tyX4 tyX4_ok hown (hB _ bw1_56) (hB _ bw1_57) (hB _ bw1_4) (hg.K hK) hH aA_hA (ci := 4) rfl [none, some none, some none, some none, some none, none, none, none, some none, none, some none, none, none, some none, none] (fun j hj => by rcases (show j = 0 ∨ j = 1 ∨ j = 2 ∨ j = 3 ∨ j = 4 ∨ j = 5 ∨ j = 6 ∨ j = 7 ∨ j = 8 ∨ j = 9 ∨ j = 10 ∨ j = 11 ∨ j = 12 ∨ j = 13 ∨ j = 14 by omega) with rfl | rfl | rfl | rfl | rfl | rfl | rfl | rfl | rfl | rfl | rfl | rfl | rfl | rfl | rfl <;> rfl) hk14 hj14 dX7_init_25 (fun a_14 G14 σ14 eG14 eσ14 H hH => ?_)
  replace h := h a_14 G14 σ14 eG14 eσ14
  replace hg := hg.ext eG14
  refine W.eq (g2 := F0 m 28 ls [.ref a_14, .ref a0]) (by rw [eG14, gext_at]) ?_
  refine lv_dup hx hb dX7_init_28 rfl ?_
  refine lv_iload_n hx hb dX7_init_29 rfl (lv_at hl 1 rfl) ?_
  obtain ⟨hk17, hj17, h⟩ := h
  refine n_callI (As := [.int x1]) (rest := [.ref a_14, .ref a0]) ⟨hx, hb, hml, hown, hB⟩ (hg.K hK) (hg.X hX) aA_hA hH (tX4_init (tS := tS) (hg.k hk) (hg.2.2.trans hgo) h) (cwI 1 hB (goodB bw1_60) rfl rfl rfl (hB _ bw1_4) (hB _ bw1_58) (hB _ bw1_59) rfl (by decide +kernel) ⟨Nat.le_of_ble_eq_true rfl, Nat.le_of_ble_eq_true rfl⟩) rfl hl.1 rfl (lv_room (Nat.le_of_ble_eq_true rfl)) ⟨hk17, hj17⟩ dX7_init_30 (fun G17 σ17 H locs h hg17 hH => ?_)
  replace hg := hg.tr hg17
  obtain ⟨c_18, p_18, ha18, ho18, hp18, h⟩ := h
  refine n_putFr hx hb hB inB7 tyX7 tyX7_ok nmX7 hown (hg.K hK) hH ha18 ho18 rfl 0 (by decide) k29 rfl hp18 rfl hin rfl rfl rfl dX7_init_33 (fun G18 eG18 H locs hH => ?_)
  replace h := h G18 eG18
  replace hg := hg.sh eG18
  refine lv_iconst (v := 0) hx hb dX7_init_36 (by decide) ?_
  refine lv_istore_n (lv' := [(2, .int 0), (0, .ref a0), (1, .int x1)]) hx hb dX7_init_37 rfl hl (by decide) rfl (fun ls hl => ?_)
  obtain ⟨nn, h⟩ := h
  exact L38 nn a0 0 G18 σ17 (0 + 1 + 1 + 7) (0 + 16 + 15 + 4097) _ _ ls hg hH (lv_sub hl [1, 0] rfl) h
def wpX8_init_L191 (kA : Nat → ClassId) (tb : Nat → Int32) (Q : GG → Sg → Prop) : Nat → Nat → Int32 → GG → Sg → Nat → Nat → Prop
  | 0, _, _, _, _, _, _ => False
  | n + 1, a0, x4, G, σ, k, j => ∃ (c_68 : Nat) (p_68 : List (Option (Option Nat))) (a_68 : Nat), ga G c_68 = a0 ∧ isO G 8 p_68 c_68 ∧ p_68[7]? = some (some (some a_68)) ∧ ∃ (c_69 N_69 : Nat) (f_69 : Nat → Option Nat), ga G c_69 = a_68 ∧ (c_69 < gn G ∧ gs G c_69 = .inr (.inl (kA 5, N_69, f_69))) ∧ (((nI N_69) ≤ x4 → (k ≤ 711 ∧ j ≤ 123133 ∧ Q G σ)) ∧ (¬ ((nI N_69) ≤ x4) → ∃ (c_73 : Nat) (p_73 : List (Option (Option Nat))) (a_73 : Nat), ga G c_73 = a0 ∧ isO G 8 p_73 c_73 ∧ p_73[7]? = some (some (some a_73)) ∧ (k + 1 ≤ 711 ∧ j + 4 ≤ 123133 ∧ ∀ (a_75 : Nat) (G75 : GG) (σ75 : Sg), G75 = gext G a_75 (.inr (.inr (1, [some none, none, none, none]))) → σ75 = va_up σ (gn G) (fun _ => 0) → (k + 1 + 2 ≤ 711 ∧ j + 4 + 252 ≤ 123133 ∧ wpX1_init kA G75 a_75 σ75 (fun G77 σ77 => ∃ (c_78 d_78 N_78 : Nat) (f_78 : Nat → Option Nat) (p_78 : List (Option (Option Nat))), ga G77 c_78 = a_73 ∧ ga G77 d_78 = a_75 ∧ (c_78 < gn G77 ∧ gs G77 c_78 = .inr (.inl (kA 5, N_78, f_78))) ∧ isO G77 1 p_78 d_78 ∧ vp_in x4 N_78 ∧ ∀ G78 : GG, G78 = gsh G77 c_78 (.inr (.inl (kA 5, N_78, va_up f_78 x4.toNatClampNeg (some a_75)))) → ∀ x4_79 : Int32, x4_79 = x4 + 1 → (wpX8_init_L191 kA tb Q n) a0 x4_79 G78 σ77 (k + 1 + 2) (j + 4 + 252))))))
def wpX8_init_L109 (kA : Nat → ClassId) (tb : Nat → Int32) (Q : GG → Sg → Prop) (K89 : Nat → Int32 → Int32 → GG → Sg → Nat → Nat → Prop) (a0 : Nat) (x3 : Int32) (x4 : Int32) (z0 : Int32) (G : GG) (σ : Sg) (k j : Nat) : Prop := ∃ (c_85 : Nat) (p_85 : List (Option (Option Nat))), ga G c_85 = a0 ∧ isO G 8 p_85 c_85 ∧ p_85[0]? = some none ∧ ∀ x6_88 : Int32, x6_88 = x4 - (z0 * (σ c_85 0)) → ∃ (c_90 : Nat) (p_90 : List (Option (Option Nat))) (a_90 : Nat), ga G c_90 = a0 ∧ isO G 8 p_90 c_90 ∧ p_90[5]? = some (some (some a_90)) ∧ (k + 1 ≤ 711 ∧ j + 15 ≤ 123133 ∧ ∀ (a_92 : Nat) (G92 : GG) (σ92 : Sg), G92 = gext G a_92 (.inr (.inr (7, [some none, some none, none, none, none, none, none, none, none, none, none, none, none, none, none]))) → σ92 = va_up σ (gn G) (fun _ => 0) → (k + 1 + 41 ≤ 711 ∧ j + 15 + 8064 ≤ 123133 ∧ wpX7_init kA G92 a_92 ((8 * x6_88) + (4 * z0)) σ92 (fun G101 σ101 => ∃ (c_102 d_102 N_102 : Nat) (f_102 : Nat → Option Nat) (p_102 : List (Option (Option Nat))), ga G101 c_102 = a_90 ∧ ga G101 d_102 = a_92 ∧ (c_102 < gn G101 ∧ gs G101 c_102 = .inr (.inl (kA 3, N_102, f_102))) ∧ isO G101 7 p_102 d_102 ∧ vp_in x4 N_102 ∧ ∀ G102 : GG, G102 = gsh G101 c_102 (.inr (.inl (kA 3, N_102, va_up f_102 x4.toNatClampNeg (some a_92)))) → ∃ (c_104 : Nat) (p_104 : List (Option (Option Nat))) (a_104 : Nat), ga G102 c_104 = a0 ∧ isO G102 8 p_104 c_104 ∧ p_104[6]? = some (some (some a_104)) ∧ (k + 1 + 41 + 1 ≤ 711 ∧ j + 15 + 8064 + 13 ≤ 123133 ∧ ∀ (a_106 : Nat) (G106 : GG) (σ106 : Sg), G106 = gext G102 a_106 (.inr (.inr (6, [some none, some none, none, none, none, none, none, none, none, none, none, none, none]))) → σ106 = va_up σ101 (gn G102) (fun _ => 0) → (k + 1 + 41 + 1 + 70 ≤ 711 ∧ j + 15 + 8064 + 13 + 12030 ≤ 123133 ∧ wpX6_init kA G106 a_106 ((8 * x6_88) + (4 * (1 - z0))) σ106 (fun G117 σ117 => ∃ (c_118 d_118 N_118 : Nat) (f_118 : Nat → Option Nat) (p_118 : List (Option (Option Nat))), ga G117 c_118 = a_104 ∧ ga G117 d_118 = a_106 ∧ (c_118 < gn G117 ∧ gs G117 c_118 = .inr (.inl (kA 4, N_118, f_118))) ∧ isO G117 6 p_118 d_118 ∧ vp_in x4 N_118 ∧ ∀ G118 : GG, G118 = gsh G117 c_118 (.inr (.inl (kA 4, N_118, va_up f_118 x4.toNatClampNeg (some a_106)))) → ∀ x4_119 : Int32, x4_119 = x4 + 1 → K89 a0 x3 x4_119 G118 σ117 (k + 1 + 41 + 1 + 70) (j + 15 + 8064 + 13 + 12030)))))))
def wpX8_init_L89 (kA : Nat → ClassId) (tb : Nat → Int32) (Q : GG → Sg → Prop) : Nat → Nat → Int32 → Int32 → GG → Sg → Nat → Nat → Prop
  | 0, _, _, _, _, _, _, _ => False
  | n + 1, a0, x3, x4, G, σ, k, j => ((x3 ≤ x4 → (k + 1 ≤ 711 ∧ j + 8 ≤ 123133 ∧ ∀ (a_55 : Nat) (G55 : GG) (σ55 : Sg), G55 = gext G a_55 (.inr (.inl (kA 5, 8, fun _ => none))) → σ55 = va_up σ (gn G) (fun _ => 0) → ∃ (c_56 : Nat) (p_56 : List (Option (Option Nat))), ga G55 c_56 = a0 ∧ isO G55 8 p_56 c_56 ∧ 7 < p_56.length ∧ ∀ G56 : GG, G56 = gsh G55 c_56 (.inr (.inr (8, p_56.set 7 (some (some a_55))))) → ∃ nn, wpX8_init_L191 kA tb Q nn a0 0 G56 σ55 (k + 1) (j + 8))) ∧ (¬ (x3 ≤ x4) → ∃ (c_61 : Nat) (p_61 : List (Option (Option Nat))), ga G c_61 = a0 ∧ isO G 8 p_61 c_61 ∧ p_61[0]? = some none ∧ (((σ c_61 0) ≤ x4 → wpX8_init_L109 kA tb Q (wpX8_init_L89 kA tb Q n) a0 x3 x4 1 G σ k j) ∧ (¬ ((σ c_61 0) ≤ x4) → wpX8_init_L109 kA tb Q (wpX8_init_L89 kA tb Q n) a0 x3 x4 0 G σ k j))))
def wpX8_init_L35 (kA : Nat → ClassId) (tb : Nat → Int32) (Q : GG → Sg → Prop) (a0 : Nat) (x2 : Int32) (z0 : Int32) (b1 : Nat) (G : GG) (σ : Sg) (k j : Nat) : Prop := ∃ (c_21 : Nat) (p_21 : List (Option (Option Nat))), ga G c_21 = b1 ∧ isO G 8 p_21 c_21 ∧ p_21[0]? = some none ∧ ∀ σ21 : Sg, σ21 = up2 σ c_21 0 z0 → ∃ (c_24 : Nat) (p_24 : List (Option (Option Nat))), ga G c_24 = a0 ∧ isO G 8 p_24 c_24 ∧ p_24[1]? = some none ∧ ∀ σ24 : Sg, σ24 = up2 σ21 c_24 1 x2 → (k + 1 ≤ 711 ∧ j + 3 ≤ 123133 ∧ ∀ (a_26 : Nat) (G26 : GG) (σ26 : Sg), G26 = gext G a_26 (.inr (.inr (2, [some none, some none, some none]))) → σ26 = va_up σ24 (gn G) (fun _ => 0) → (k + 1 + 3 ≤ 711 ∧ j + 3 + 208 ≤ 123133 ∧ wpX2_init kA G26 a_26 σ26 (fun G28 σ28 => ∃ (c_29 : Nat) (p_29 : List (Option (Option Nat))), ga G28 c_29 = a0 ∧ isO G28 8 p_29 c_29 ∧ 4 < p_29.length ∧ ∀ G29 : GG, G29 = gsh G28 c_29 (.inr (.inr (8, p_29.set 4 (some (some a_26))))) → ∃ (c_31 : Nat) (p_31 : List (Option (Option Nat))) (a_31 : Nat), ga G29 c_31 = a0 ∧ isO G29 8 p_31 c_31 ∧ p_31[4]? = some (some (some a_31)) ∧ (k + 1 + 3 ≤ 711 ∧ j + 3 + 208 ≤ 123133 ∧ ∃ c_34 : Nat, ga G29 c_34 = a_31 ∧ isCipher G29 c_34 ∧ wpX2_setKey tb c_34 x2 0 σ28 (fun σ34 => ∃ (c_37 : Nat) (p_37 : List (Option (Option Nat))), ga G29 c_37 = a0 ∧ isO G29 8 p_37 c_37 ∧ p_37[0]? = some none ∧ ∀ x3_39 : Int32, x3_39 = 2 * (σ34 c_37 0) → ∃ N_42 : Nat, ¬ x3_39 < 0 ∧ x3_39.toNatClampNeg = N_42 ∧ N_42 * 4 ≤ 536870912 ∧ (k + 1 + 3 + 1 ≤ 711 ∧ j + 3 + 208 + N_42 ≤ 123133 ∧ ∀ (a_42 : Nat) (G42 : GG) (σ42 : Sg), G42 = gext G29 a_42 (.inr (.inl (kA 3, N_42, fun _ => none))) → σ42 = va_up σ34 (gn G29) (fun _ => 0) → ∃ (c_43 : Nat) (p_43 : List (Option (Option Nat))), ga G42 c_43 = a0 ∧ isO G42 8 p_43 c_43 ∧ 5 < p_43.length ∧ ∀ G43 : GG, G43 = gsh G42 c_43 (.inr (.inr (8, p_43.set 5 (some (some a_42))))) → ∃ N_46 : Nat, ¬ x3_39 < 0 ∧ x3_39.toNatClampNeg = N_46 ∧ N_46 * 4 ≤ 536870912 ∧ (k + 1 + 3 + 1 + 1 ≤ 711 ∧ j + 3 + 208 + N_42 + N_46 ≤ 123133 ∧ ∀ (a_46 : Nat) (G46 : GG) (σ46 : Sg), G46 = gext G43 a_46 (.inr (.inl (kA 4, N_46, fun _ => none))) → σ46 = va_up σ42 (gn G43) (fun _ => 0) → ∃ (c_47 : Nat) (p_47 : List (Option (Option Nat))), ga G46 c_47 = a0 ∧ isO G46 8 p_47 c_47 ∧ 6 < p_47.length ∧ ∀ G47 : GG, G47 = gsh G46 c_47 (.inr (.inr (8, p_47.set 6 (some (some a_46))))) → ∃ nn, wpX8_init_L89 kA tb Q nn a0 x3_39 0 G47 σ46 (k + 1 + 3 + 1 + 1) (j + 3 + 208 + N_42 + N_46))))))))
def wpX8_init_L30 (kA : Nat → ClassId) (tb : Nat → Int32) (Q : GG → Sg → Prop) (a0 : Nat) (x2 : Int32) (b0 : Nat) (G : GG) (σ : Sg) (k j : Nat) : Prop := wpX8_init_L35 kA tb Q a0 x2 2 b0 G σ k j
set_option maxRecDepth 100000 in
def wpX8_init (kA : Nat → ClassId) (tb : Nat → Int32) (G : GG) (a0 : Nat) (x1 : Int32) (x2 : Int32) (σ : Sg) (Q : GG → Sg → Prop) : Prop := (0 + 1 ≤ 711 ∧ 0 + 120 ≤ 123133 ∧ ∀ (a_5 : Nat) (G5 : GG) (σ5 : Sg), G5 = gext G a_5 (.inl (kA 0, 120)) → σ5 = va_up σ (gn G) (fun _ => 0) → ∃ (c_6 : Nat) (p_6 : List (Option (Option Nat))), ga G5 c_6 = a0 ∧ isO G5 8 p_6 c_6 ∧ 2 < p_6.length ∧ ∀ G6 : GG, G6 = gsh G5 c_6 (.inr (.inr (8, p_6.set 2 (some (some a_5))))) → (0 + 1 + 1 ≤ 711 ∧ 0 + 120 + 2 ≤ 123133 ∧ ∀ (a_9 : Nat) (G9 : GG) (σ9 : Sg), G9 = gext G6 a_9 (.inl (kA 0, 2)) → σ9 = va_up σ5 (gn G6) (fun _ => 0) → ∃ (c_10 : Nat) (p_10 : List (Option (Option Nat))), ga G9 c_10 = a0 ∧ isO G9 8 p_10 c_10 ∧ 8 < p_10.length ∧ ∀ G10 : GG, G10 = gsh G9 c_10 (.inr (.inr (8, p_10.set 8 (some (some a_9))))) → ((x1 < 1 → wpX8_init_L30 kA tb Q a0 x2 a0 G10 σ9 (0 + 1 + 1) (0 + 120 + 2)) ∧ (¬ (x1 < 1) → ((x1 ≤ 3 → wpX8_init_L35 kA tb Q a0 x2 x1 a0 G10 σ9 (0 + 1 + 1) (0 + 120 + 2)) ∧ (¬ (x1 ≤ 3) → wpX8_init_L30 kA tb Q a0 x2 a0 G10 σ9 (0 + 1 + 1) (0 + 120 + 2)))))))
set_option maxHeartbeats 8000000 in
set_option maxRecDepth 100000 in
theorem tX8_init {l : Launch} {G : GG} {kA : Nat → ClassId} {tS : Nat × (Nat → Int32)} {a0 : Nat} {x1 : Int32} {x2 : Int32} {σ : Sg} {Q : GG → Sg → Prop} (hk : kOK kA G) (hgo : go G = some tS) (h : wpX8_init kA tS.2 G a0 x1 x2 σ Q) : Kn l G yX8_init (wB yX8_init prog_1_method_1_code 7 none) ({ frames := 3, cells := 711, slots := 123133, locals := 55 }) [.ref a0, .int x1, .int x2] σ Q 711 123133 := by
  refine Kn_of (cc := cX8_init) (maxL := 7) (ret := none) (by decide) rfl (Nat.le_of_ble_eq_true rfl) ?_
  intro p e s m args below meth c ls hin B hH hl
  obtain ⟨hx, hb, hr, hts, hown, hlk, hml, hK, hX⟩ := B
  replace hin : meth.name = "<init>" := hin
  replace hl : lv_has ls 7 [(0, .ref a0), (1, .int x1), (2, .int x2)] := hl
  have hB : ∀ w ∈ BIG, w.before args s = true := fun w h9 => hts w (List.mem_cons_of_mem _ h9)
  clear hts
  have hg : SameG G G := SameG.rf
  have hXN : NWs s := XS.nw hX hgo
  have k9 := hB _ bw2_118
  have k13 := hB _ bw2_124
  have k16 := hB _ bw2_116
  have k20 := hB _ bw2_117
  have k26 := hB _ bw2_120
  have k36 := hB _ bw2_121
  have k42 := hB _ bw2_122
  have k52 := hB _ bw2_123
  have L191 : ∀ (n191 : Nat) (a0 : Nat) (x4 : Int32) (G1 : GG) (σ : Sg) (k j : Nat) (H : Heap) (locs : List Loc) (ls : Array Slot), SameG G G1 → Hx G1 (aA G s.heap.size) s σ H locs → lv_has ls 7 [(0, .ref a0), (4, .int x4)] → wpX8_init_L191 kA tS.2 Q n191 a0 x4 G1 σ k j → W p l e ({ frames := 3, cells := 711, slots := 123133, locals := 55 }) s m args below meth c H locs k j (Zn G Q 711 123133 below args s) (F0 m 191 ls []) := by
    intro n191
    induction n191 with
    | zero =>
      intro a0 x4 G1 σ k j H locs ls hg hH hl h
      exact False.elim h
    | succ n191 ih191 =>
      intro a0 x4 G1 σ k j H locs ls hg hH hl h
      unfold wpX8_init_L191 at h
      refine lv_iload hx hb dX8_init_191 (lv_at hl 1 rfl) ?_
      refine lv_aload_n hx hb dX8_init_193 rfl (lv_at hl 0 rfl) ?_
      obtain ⟨c_68, p_68, a_68, ha68, ho68, hp68, h⟩ := h
      refine n_getr hx hb hB inB8 hown (hg.K hK) hH ha68 ho68 rfl 7 (by decide) k52 rfl hp68 dX8_init_194 ?_
      obtain ⟨c_69, N_69, f_69, ha69, ho69, h⟩ := h
      refine n_alenr hx hb (hg.K hK) hH ha69 ho69 5 (kOK.at (hg.k hk) (t := 5) rfl) dX8_init_197 ?_
      refine lv_icmp_ge (tgt := 221) hx hb dX8_init_198 (by decide) (fun q70 => ?_) (fun q70 => ?_)
      · replace h := h.1 q70
        exact n_ret hx hb hr hK hlk hg h.1 h.2.1 h.2.2 hH dX8_init_221
      · replace h := h.2 q70
        refine lv_aload_n hx hb dX8_init_201 rfl (lv_at hl 0 rfl) ?_
        obtain ⟨c_73, p_73, a_73, ha73, ho73, hp73, h⟩ := h
        refine n_getr hx hb hB inB8 hown (hg.K hK) hH ha73 ho73 rfl 7 (by decide) k52 rfl hp73 dX8_init_202 ?_
        refine lv_iload hx hb dX8_init_205 (lv_at hl 1 rfl) ?_
        obtain ⟨hk75, hj75, h⟩ := h
        refine g_new (T := TX1) (N := 4) hx hb hB inB1 tyX1 tyX1_ok hown (hB _ bw2_77) (hB _ bw2_79) (hB _ bw1_8) (hg.K hK) hH aA_hA (ci := 1) rfl [some none, none, none, none] (fun j hj => by rcases (show j = 0 ∨ j = 1 ∨ j = 2 ∨ j = 3 by omega) with rfl | rfl | rfl | rfl <;> rfl) hk75 hj75 dX8_init_207 (fun a_75 G75 σ75 eG75 eσ75 H hH => ?_)
        replace h := h a_75 G75 σ75 eG75 eσ75
        replace hg := hg.ext eG75
        refine W.eq (g2 := F0 m 210 ls [.ref a_75, .int x4, .ref a_73]) (by rw [eG75, gext_at]) ?_
        refine lv_dup hx hb dX8_init_210 rfl ?_
        obtain ⟨hk77, hj77, h⟩ := h
        refine n_callIN (As := []) (rest := [.ref a_75, .int x4, .ref a_73]) ⟨hx, hb, hml, hown, hB⟩ (hg.K hK) (hg.X hX) aA_hA hH (tX1_init (tS := tS) (hg.k hk) (hg.2.2.trans hgo) h) ⟨va_cnB 0 hB (goodB bw2_82) rfl rfl rfl (hXN.2.1 ("BearerHouse", 56, ⟨"BearerHouse$Carrier", "<init>", "()V"⟩, "BearerHouse") (List.mem_of_getElem? (i := 1) rfl)) (hB _ bw1_8) (by decide +kernel) ⟨Nat.le_of_ble_eq_true rfl, Nat.le_of_ble_eq_true rfl⟩, rfl, hB _ bw2_81⟩ rfl hl.1 rfl (lv_room (Nat.le_of_ble_eq_true rfl)) ⟨hk77, hj77⟩ dX8_init_211 (fun G77 σ77 H locs h hg77 hH => ?_)
        replace hg := hg.tr hg77
        obtain ⟨c_78, d_78, N_78, f_78, p_78, ha78, hd78, ho78, hq78, hi78, h⟩ := h
        refine n_aast (r := (RX1, TX1, 4)) hx hb (hg.K hK) hH ha78 ho78 5 (kOK.at (hg.k hk) (t := 5) rfl) hd78 hq78 rfl hi78 dX8_init_214 (fun G78 eG78 H locs hH => ?_)
        replace h := h G78 eG78
        replace hg := hg.sh eG78
        obtain ⟨x4_79, ex4_79⟩ : ∃ y : Int32, y = x4 + 1 := ⟨_, rfl⟩
        replace h := h x4_79 ex4_79
        refine lv_iinc (v := x4_79) (lv' := [(4, .int x4_79), (0, .ref a0)]) hx hb dX8_init_215 hl (k := 1) rfl (by rw [ex4_79]; rfl) (by decide) rfl (fun ls hl => ?_)
        refine lv_goto (tgt := 191) hx hb dX8_init_218 (by decide) ?_
        exact ih191 a0 x4_79 G78 σ77 (k + 1 + 2) (j + 4 + 252) _ _ ls hg hH (lv_sub hl [1, 0] rfl) h
  have L89 : ∀ (n89 : Nat) (a0 : Nat) (x3 : Int32) (x4 : Int32) (G1 : GG) (σ : Sg) (k j : Nat) (H : Heap) (locs : List Loc) (ls : Array Slot), SameG G G1 → Hx G1 (aA G s.heap.size) s σ H locs → lv_has ls 7 [(0, .ref a0), (3, .int x3), (4, .int x4)] → wpX8_init_L89 kA tS.2 Q n89 a0 x3 x4 G1 σ k j → W p l e ({ frames := 3, cells := 711, slots := 123133, locals := 55 }) s m args below meth c H locs k j (Zn G Q 711 123133 below args s) (F0 m 89 ls []) := by
    intro n89
    induction n89 with
    | zero =>
      intro a0 x3 x4 G1 σ k j H locs ls hg hH hl h
      exact False.elim h
    | succ n89 ih89 =>
      have L109 : ∀ (a0 : Nat) (x3 : Int32) (x4 : Int32) (z0 : Int32) (G1 : GG) (σ : Sg) (k j : Nat) (H : Heap) (locs : List Loc) (ls : Array Slot), SameG G G1 → Hx G1 (aA G s.heap.size) s σ H locs → lv_has ls 7 [(0, .ref a0), (3, .int x3), (4, .int x4)] → wpX8_init_L109 kA tS.2 Q (wpX8_init_L89 kA tS.2 Q n89) a0 x3 x4 z0 G1 σ k j → W p l e ({ frames := 3, cells := 711, slots := 123133, locals := 55 }) s m args below meth c H locs k j (Zn G Q 711 123133 below args s) (F0 m 109 ls [.int z0]) := by
        intro a0 x3 x4 z0 G1 σ k j H locs ls hg hH hl h
        unfold wpX8_init_L109 at h
        refine lv_istore (lv' := [(5, .int z0), (0, .ref a0), (3, .int x3), (4, .int x4)]) hx hb dX8_init_109 hl (by decide) rfl (fun ls hl => ?_)
        refine lv_iload hx hb dX8_init_111 (lv_at hl 3 rfl) ?_
        refine lv_iload hx hb dX8_init_113 (lv_at hl 0 rfl) ?_
        refine lv_aload_n hx hb dX8_init_115 rfl (lv_at hl 1 rfl) ?_
        obtain ⟨c_85, p_85, ha85, ho85, hp85, h⟩ := h
        refine n_geti hx hb hB inB8 hown (hg.K hK) hH ha85 ho85 rfl 0 (by decide) k16 rfl hp85 dX8_init_116 ?_
        refine lv_imul hx hb dX8_init_119 ?_
        refine lv_isub hx hb dX8_init_120 ?_
        refine lv_topi (fun x6_88 ex6_88 => ?_)
        replace h := h x6_88 ex6_88
        refine lv_istore (lv' := [(6, .int x6_88), (5, .int z0), (0, .ref a0), (3, .int x3), (4, .int x4)]) hx hb dX8_init_121 hl (by decide) rfl (fun ls hl => ?_)
        refine lv_aload_n hx hb dX8_init_123 rfl (lv_at hl 2 rfl) ?_
        obtain ⟨c_90, p_90, a_90, ha90, ho90, hp90, h⟩ := h
        refine n_getr hx hb hB inB8 hown (hg.K hK) hH ha90 ho90 rfl 5 (by decide) k36 rfl hp90 dX8_init_124 ?_
        refine lv_iload hx hb dX8_init_127 (lv_at hl 4 rfl) ?_
        obtain ⟨hk92, hj92, h⟩ := h
        refine g_new (T := TX7) (N := 15) hx hb hB inB7 tyX7 tyX7_ok hown (hB _ bw1_45) (hB _ bw1_49) (hB _ bw1_3) (hg.K hK) hH aA_hA (ci := 7) rfl [some none, some none, none, none, none, none, none, none, none, none, none, none, none, none, none] (fun j hj => by rcases (show j = 0 ∨ j = 1 ∨ j = 2 ∨ j = 3 ∨ j = 4 ∨ j = 5 ∨ j = 6 ∨ j = 7 ∨ j = 8 ∨ j = 9 ∨ j = 10 ∨ j = 11 ∨ j = 12 ∨ j = 13 ∨ j = 14 by omega) with rfl | rfl | rfl | rfl | rfl | rfl | rfl | rfl | rfl | rfl | rfl | rfl | rfl | rfl | rfl <;> rfl) hk92 hj92 dX8_init_129 (fun a_92 G92 σ92 eG92 eσ92 H hH => ?_)
        replace h := h a_92 G92 σ92 eG92 eσ92
        replace hg := hg.ext eG92
        refine W.eq (g2 := F0 m 132 ls [.ref a_92, .int x4, .ref a_90]) (by rw [eG92, gext_at]) ?_
        refine lv_dup hx hb dX8_init_132 rfl ?_
        refine lv_bipush (v := 8) hx hb dX8_init_133 (by decide) ?_
        refine lv_iload hx hb dX8_init_135 (lv_at hl 0 rfl) ?_
        refine lv_imul hx hb dX8_init_137 ?_
        refine lv_iconst (v := 4) hx hb dX8_init_138 (by decide) ?_
        refine lv_iload hx hb dX8_init_139 (lv_at hl 1 rfl) ?_
        refine lv_imul hx hb dX8_init_141 ?_
        refine lv_iadd hx hb dX8_init_142 ?_
        obtain ⟨hk101, hj101, h⟩ := h
        refine n_callI (As := [.int ((8 * x6_88) + (4 * z0))]) (rest := [.ref a_92, .int x4, .ref a_90]) ⟨hx, hb, hml, hown, hB⟩ (hg.K hK) (hg.X hX) aA_hA hH (tX7_init (tS := tS) (hg.k hk) (hg.2.2.trans hgo) h) (cwI 1 hB (goodB bw1_52) rfl rfl rfl (hB _ bw1_3) (hB _ bw1_50) (hB _ bw1_51) rfl (by decide +kernel) ⟨Nat.le_of_ble_eq_true rfl, Nat.le_of_ble_eq_true rfl⟩) rfl hl.1 rfl (lv_room (Nat.le_of_ble_eq_true rfl)) ⟨hk101, hj101⟩ dX8_init_143 (fun G101 σ101 H locs h hg101 hH => ?_)
        replace hg := hg.tr hg101
        obtain ⟨c_102, d_102, N_102, f_102, p_102, ha102, hd102, ho102, hq102, hi102, h⟩ := h
        refine n_aast (r := (RX7, TX7, 15)) hx hb (hg.K hK) hH ha102 ho102 3 (kOK.at (hg.k hk) (t := 3) rfl) hd102 hq102 rfl hi102 dX8_init_146 (fun G102 eG102 H locs hH => ?_)
        replace h := h G102 eG102
        replace hg := hg.sh eG102
        refine lv_aload_n hx hb dX8_init_147 rfl (lv_at hl 2 rfl) ?_
        obtain ⟨c_104, p_104, a_104, ha104, ho104, hp104, h⟩ := h
        refine n_getr hx hb hB inB8 hown (hg.K hK) hH ha104 ho104 rfl 6 (by decide) k42 rfl hp104 dX8_init_148 ?_
        refine lv_iload hx hb dX8_init_151 (lv_at hl 4 rfl) ?_
        obtain ⟨hk106, hj106, h⟩ := h
        refine g_new (T := TX6) (N := 13) hx hb hB inB6 tyX6 tyX6_ok hown (hB _ bw1_47) (hB _ bw1_202) (hB _ bw1_6) (hg.K hK) hH aA_hA (ci := 6) rfl [some none, some none, none, none, none, none, none, none, none, none, none, none, none] (fun j hj => by rcases (show j = 0 ∨ j = 1 ∨ j = 2 ∨ j = 3 ∨ j = 4 ∨ j = 5 ∨ j = 6 ∨ j = 7 ∨ j = 8 ∨ j = 9 ∨ j = 10 ∨ j = 11 ∨ j = 12 by omega) with rfl | rfl | rfl | rfl | rfl | rfl | rfl | rfl | rfl | rfl | rfl | rfl | rfl <;> rfl) hk106 hj106 dX8_init_153 (fun a_106 G106 σ106 eG106 eσ106 H hH => ?_)
        replace h := h a_106 G106 σ106 eG106 eσ106
        replace hg := hg.ext eG106
        refine W.eq (g2 := F0 m 156 ls [.ref a_106, .int x4, .ref a_104]) (by rw [eG106, gext_at]) ?_
        refine lv_dup hx hb dX8_init_156 rfl ?_
        refine lv_bipush (v := 8) hx hb dX8_init_157 (by decide) ?_
        refine lv_iload hx hb dX8_init_159 (lv_at hl 0 rfl) ?_
        refine lv_imul hx hb dX8_init_161 ?_
        refine lv_iconst (v := 4) hx hb dX8_init_162 (by decide) ?_
        refine lv_iconst (v := 1) hx hb dX8_init_163 (by decide) ?_
        refine lv_iload hx hb dX8_init_164 (lv_at hl 1 rfl) ?_
        refine lv_isub hx hb dX8_init_166 ?_
        refine lv_imul hx hb dX8_init_167 ?_
        refine lv_iadd hx hb dX8_init_168 ?_
        obtain ⟨hk117, hj117, h⟩ := h
        refine n_callI (As := [.int ((8 * x6_88) + (4 * (1 - z0)))]) (rest := [.ref a_106, .int x4, .ref a_104]) ⟨hx, hb, hml, hown, hB⟩ (hg.K hK) (hg.X hX) aA_hA hH (tX6_init (tS := tS) (hg.k hk) (hg.2.2.trans hgo) h) (cwI 1 hB (goodB bw1_205) rfl rfl rfl (hB _ bw1_6) (hB _ bw1_203) (hB _ bw1_204) rfl (by decide +kernel) ⟨Nat.le_of_ble_eq_true rfl, Nat.le_of_ble_eq_true rfl⟩) rfl hl.1 rfl (lv_room (Nat.le_of_ble_eq_true rfl)) ⟨hk117, hj117⟩ dX8_init_169 (fun G117 σ117 H locs h hg117 hH => ?_)
        replace hg := hg.tr hg117
        obtain ⟨c_118, d_118, N_118, f_118, p_118, ha118, hd118, ho118, hq118, hi118, h⟩ := h
        refine n_aast (r := (RX6, TX6, 13)) hx hb (hg.K hK) hH ha118 ho118 4 (kOK.at (hg.k hk) (t := 4) rfl) hd118 hq118 rfl hi118 dX8_init_172 (fun G118 eG118 H locs hH => ?_)
        replace h := h G118 eG118
        replace hg := hg.sh eG118
        obtain ⟨x4_119, ex4_119⟩ : ∃ y : Int32, y = x4 + 1 := ⟨_, rfl⟩
        replace h := h x4_119 ex4_119
        refine lv_iinc (v := x4_119) (lv' := [(4, .int x4_119), (6, .int x6_88), (5, .int z0), (0, .ref a0), (3, .int x3)]) hx hb dX8_init_173 hl (k := 4) rfl (by rw [ex4_119]; rfl) (by decide) rfl (fun ls hl => ?_)
        refine lv_goto (tgt := 89) hx hb dX8_init_176 (by decide) ?_
        exact ih89 a0 x3 x4_119 G118 σ117 (k + 1 + 41 + 1 + 70) (j + 15 + 8064 + 13 + 12030) _ _ ls hg hH (lv_sub hl [3, 4, 0] rfl) h
      intro a0 x3 x4 G1 σ k j H locs ls hg hH hl h
      unfold wpX8_init_L89 at h
      refine lv_iload hx hb dX8_init_89 (lv_at hl 2 rfl) ?_
      refine lv_iload_n hx hb dX8_init_91 rfl (lv_at hl 1 rfl) ?_
      refine lv_icmp_ge (tgt := 179) hx hb dX8_init_92 (by decide) (fun q52 => ?_) (fun q52 => ?_)
      · replace h := h.1 q52
        refine lv_aload_n hx hb dX8_init_179 rfl (lv_at hl 0 rfl) ?_
        refine lv_bipush (v := 8) hx hb dX8_init_180 (by decide) ?_
        obtain ⟨hk55, hj55, h⟩ := h
        refine g_newR hx hb hown (hB _ bw2_77) (hXN.2.2 "BearerHouse$Carrier" (List.mem_of_getElem? (i := 3) rfl)) (hg.K hK) hH aA_hA 5 (kOK.at (hg.k hk) (t := 5) rfl) 8 (by decide) (by decide) (by decide) hk55 hj55 dX8_init_182 (fun a_55 G55 σ55 eG55 eσ55 H hH => ?_)
        replace h := h a_55 G55 σ55 eG55 eσ55
        replace hg := hg.ext eG55
        refine W.eq (g2 := F0 m 185 ls [.ref a_55, .ref a0]) (by rw [eG55, gext_at]) ?_
        obtain ⟨c_56, p_56, ha56, ho56, hp56, h⟩ := h
        refine n_putFr hx hb hB inB8 tyX8 tyX8_ok nmX8 hown (hg.K hK) hH ha56 ho56 rfl 7 (by decide) k52 rfl hp56 rfl hin rfl rfl rfl dX8_init_185 (fun G56 eG56 H locs hH => ?_)
        replace h := h G56 eG56
        replace hg := hg.sh eG56
        refine lv_iconst (v := 0) hx hb dX8_init_188 (by decide) ?_
        refine lv_istore (lv' := [(4, .int 0), (0, .ref a0), (3, .int x3)]) hx hb dX8_init_189 hl (by decide) rfl (fun ls hl => ?_)
        obtain ⟨nn, h⟩ := h
        exact L191 nn a0 0 G56 σ55 (k + 1) (j + 8) _ _ ls hg hH (lv_sub hl [1, 0] rfl) h
      · replace h := h.2 q52
        refine lv_iload hx hb dX8_init_95 (lv_at hl 2 rfl) ?_
        refine lv_aload_n hx hb dX8_init_97 rfl (lv_at hl 0 rfl) ?_
        obtain ⟨c_61, p_61, ha61, ho61, hp61, h⟩ := h
        refine n_geti hx hb hB inB8 hown (hg.K hK) hH ha61 ho61 rfl 0 (by decide) k16 rfl hp61 dX8_init_98 ?_
        refine lv_icmp_ge (tgt := 108) hx hb dX8_init_101 (by decide) (fun q62 => ?_) (fun q62 => ?_)
        · replace h := h.1 q62
          refine lv_iconst (v := 1) hx hb dX8_init_108 (by decide) ?_
          exact L109 a0 x3 x4 1 G1 σ k j _ _ ls hg hH (lv_sub hl [0, 1, 2] rfl) h
        · replace h := h.2 q62
          refine lv_iconst (v := 0) hx hb dX8_init_104 (by decide) ?_
          refine lv_goto (tgt := 109) hx hb dX8_init_105 (by decide) ?_
          exact L109 a0 x3 x4 0 G1 σ k j _ _ ls hg hH (lv_sub hl [0, 1, 2] rfl) h
  have L35 : ∀ (a0 : Nat) (x2 : Int32) (z0 : Int32) (b1 : Nat) (G1 : GG) (σ : Sg) (k j : Nat) (H : Heap) (locs : List Loc) (ls : Array Slot), SameG G G1 → Hx G1 (aA G s.heap.size) s σ H locs → lv_has ls 7 [(0, .ref a0), (2, .int x2)] → wpX8_init_L35 kA tS.2 Q a0 x2 z0 b1 G1 σ k j → W p l e ({ frames := 3, cells := 711, slots := 123133, locals := 55 }) s m args below meth c H locs k j (Zn G Q 711 123133 below args s) (F0 m 35 ls [.int z0, .ref b1]) := by
    intro a0 x2 z0 b1 G1 σ k j H locs ls hg hH hl h
    unfold wpX8_init_L35 at h
    obtain ⟨c_21, p_21, ha21, ho21, hp21, h⟩ := h
    refine n_putFi hx hb hB inB8 tyX8 tyX8_ok nmX8 hown (hg.K hK) hH ha21 ho21 rfl 0 (by decide) k16 rfl hp21 rfl hin rfl rfl rfl dX8_init_35 (fun σ21 eσ21 H locs hH => ?_)
    replace h := h σ21 eσ21
    refine lv_aload_n hx hb dX8_init_38 rfl (lv_at hl 0 rfl) ?_
    refine lv_iload_n hx hb dX8_init_39 rfl (lv_at hl 1 rfl) ?_
    obtain ⟨c_24, p_24, ha24, ho24, hp24, h⟩ := h
    refine n_putFi hx hb hB inB8 tyX8 tyX8_ok nmX8 hown (hg.K hK) hH ha24 ho24 rfl 1 (by decide) k20 rfl hp24 rfl hin rfl rfl rfl dX8_init_40 (fun σ24 eσ24 H locs hH => ?_)
    replace h := h σ24 eσ24
    refine lv_aload_n hx hb dX8_init_43 rfl (lv_at hl 0 rfl) ?_
    obtain ⟨hk26, hj26, h⟩ := h
    refine g_new (T := TX2) (N := 3) hx hb hB inB2 tyX2 tyX2_ok hown (hB _ bw1_22) (hB _ bw1_23) (hB _ bw1_2) (hg.K hK) hH aA_hA (ci := 2) rfl [some none, some none, some none] (fun j hj => by rcases (show j = 0 ∨ j = 1 ∨ j = 2 by omega) with rfl | rfl | rfl <;> rfl) hk26 hj26 dX8_init_44 (fun a_26 G26 σ26 eG26 eσ26 H hH => ?_)
    replace h := h a_26 G26 σ26 eG26 eσ26
    replace hg := hg.ext eG26
    refine W.eq (g2 := F0 m 47 ls [.ref a_26, .ref a0]) (by rw [eG26, gext_at]) ?_
    refine lv_dup hx hb dX8_init_47 rfl ?_
    obtain ⟨hk28, hj28, h⟩ := h
    refine n_callIN (As := []) (rest := [.ref a_26, .ref a0]) ⟨hx, hb, hml, hown, hB⟩ (hg.K hK) (hg.X hX) aA_hA hH (tX2_init (tS := tS) (hg.k hk) (hg.2.2.trans hgo) h) ⟨va_cnB 0 hB (goodB bw1_26) rfl rfl rfl (hXN.2.1 ("BearerHouse", 25, ⟨"BearerHouse$Cipher", "<init>", "()V"⟩, "BearerHouse") (List.mem_of_getElem? (i := 0) rfl)) (hB _ bw1_2) (by decide +kernel) ⟨Nat.le_of_ble_eq_true rfl, Nat.le_of_ble_eq_true rfl⟩, rfl, hB _ bw1_25⟩ rfl hl.1 rfl (lv_room (Nat.le_of_ble_eq_true rfl)) ⟨hk28, hj28⟩ dX8_init_48 (fun G28 σ28 H locs h hg28 hH => ?_)
    replace hg := hg.tr hg28
    obtain ⟨c_29, p_29, ha29, ho29, hp29, h⟩ := h
    refine n_putFr hx hb hB inB8 tyX8 tyX8_ok nmX8 hown (hg.K hK) hH ha29 ho29 rfl 4 (by decide) k26 rfl hp29 rfl hin rfl rfl rfl dX8_init_51 (fun G29 eG29 H locs hH => ?_)
    replace h := h G29 eG29
    replace hg := hg.sh eG29
    refine lv_aload_n hx hb dX8_init_54 rfl (lv_at hl 0 rfl) ?_
    obtain ⟨c_31, p_31, a_31, ha31, ho31, hp31, h⟩ := h
    refine n_getr hx hb hB inB8 hown (hg.K hK) hH ha31 ho31 rfl 4 (by decide) k26 rfl hp31 dX8_init_55 ?_
    refine lv_iload_n hx hb dX8_init_58 rfl (lv_at hl 1 rfl) ?_
    refine lv_iconst (v := 0) hx hb dX8_init_59 (by decide) ?_
    obtain ⟨hk34, hj34, h⟩ := h
    obtain ⟨c_34, ha34, ho34, h⟩ := h
    refine n_callVv (As := [.int x2, .int 0]) (rest := []) ⟨hx, hb, hml, hown, hB⟩ (hg.K hK) (hg.X hX) aA_hA hH ha34 (tX2_setKey (tS := tS) (hg.2.2.trans hgo) ho34 h) (cwV 2 hB gVX8_30 rfl rfl rfl (by decide +kernel) ⟨Nat.le_of_ble_eq_true rfl, Nat.le_of_ble_eq_true rfl⟩) ho34.1 rfl rfl hl.1 rfl (lv_room (Nat.le_of_ble_eq_true rfl)) ⟨hk34, hj34⟩ dX8_init_60 (fun σ34 H locs h hH => ?_)
    refine lv_iconst (v := 2) hx hb dX8_init_63 (by decide) ?_
    refine lv_aload_n hx hb dX8_init_64 rfl (lv_at hl 0 rfl) ?_
    obtain ⟨c_37, p_37, ha37, ho37, hp37, h⟩ := h
    refine n_geti hx hb hB inB8 hown (hg.K hK) hH ha37 ho37 rfl 0 (by decide) k16 rfl hp37 dX8_init_65 ?_
    refine lv_imul hx hb dX8_init_68 ?_
    refine lv_topi (fun x3_39 ex3_39 => ?_)
    replace h := h x3_39 ex3_39
    refine lv_istore_n (lv' := [(3, .int x3_39), (0, .ref a0), (2, .int x2)]) hx hb dX8_init_69 rfl hl (by decide) rfl (fun ls hl => ?_)
    refine lv_aload_n hx hb dX8_init_70 rfl (lv_at hl 1 rfl) ?_
    refine lv_iload_n hx hb dX8_init_71 rfl (lv_at hl 0 rfl) ?_
    obtain ⟨N_42, hn42, hN42, hb42, h⟩ := h
    obtain ⟨hk42, hj42, h⟩ := h
    refine g_newR hx hb hown (hB _ bw1_45) (hXN.2.2 "BearerHouse$Sender" (List.mem_of_getElem? (i := 1) rfl)) (hg.K hK) hH aA_hA 3 (kOK.at (hg.k hk) (t := 3) rfl) N_42 hn42 hN42 hb42 hk42 hj42 dX8_init_72 (fun a_42 G42 σ42 eG42 eσ42 H hH => ?_)
    replace h := h a_42 G42 σ42 eG42 eσ42
    replace hg := hg.ext eG42
    refine W.eq (g2 := F0 m 75 ls [.ref a_42, .ref a0]) (by rw [eG42, gext_at]) ?_
    obtain ⟨c_43, p_43, ha43, ho43, hp43, h⟩ := h
    refine n_putFr hx hb hB inB8 tyX8 tyX8_ok nmX8 hown (hg.K hK) hH ha43 ho43 rfl 5 (by decide) k36 rfl hp43 rfl hin rfl rfl rfl dX8_init_75 (fun G43 eG43 H locs hH => ?_)
    replace h := h G43 eG43
    replace hg := hg.sh eG43
    refine lv_aload_n hx hb dX8_init_78 rfl (lv_at hl 1 rfl) ?_
    refine lv_iload_n hx hb dX8_init_79 rfl (lv_at hl 0 rfl) ?_
    obtain ⟨N_46, hn46, hN46, hb46, h⟩ := h
    obtain ⟨hk46, hj46, h⟩ := h
    refine g_newR hx hb hown (hB _ bw1_47) (hXN.2.2 "BearerHouse$Receiver" (List.mem_of_getElem? (i := 2) rfl)) (hg.K hK) hH aA_hA 4 (kOK.at (hg.k hk) (t := 4) rfl) N_46 hn46 hN46 hb46 hk46 hj46 dX8_init_80 (fun a_46 G46 σ46 eG46 eσ46 H hH => ?_)
    replace h := h a_46 G46 σ46 eG46 eσ46
    replace hg := hg.ext eG46
    refine W.eq (g2 := F0 m 83 ls [.ref a_46, .ref a0]) (by rw [eG46, gext_at]) ?_
    obtain ⟨c_47, p_47, ha47, ho47, hp47, h⟩ := h
    refine n_putFr hx hb hB inB8 tyX8 tyX8_ok nmX8 hown (hg.K hK) hH ha47 ho47 rfl 6 (by decide) k42 rfl hp47 rfl hin rfl rfl rfl dX8_init_83 (fun G47 eG47 H locs hH => ?_)
    replace h := h G47 eG47
    replace hg := hg.sh eG47
    refine lv_iconst (v := 0) hx hb dX8_init_86 (by decide) ?_
    refine lv_istore (lv' := [(4, .int 0), (3, .int x3_39), (0, .ref a0), (2, .int x2)]) hx hb dX8_init_87 hl (by decide) rfl (fun ls hl => ?_)
    obtain ⟨nn, h⟩ := h
    exact L89 nn a0 x3_39 0 G47 σ46 (k + 1 + 3 + 1 + 1) (j + 3 + 208 + N_42 + N_46) _ _ ls hg hH (lv_sub hl [2, 1, 0] rfl) h
  have L30 : ∀ (a0 : Nat) (x2 : Int32) (b0 : Nat) (G1 : GG) (σ : Sg) (k j : Nat) (H : Heap) (locs : List Loc) (ls : Array Slot), SameG G G1 → Hx G1 (aA G s.heap.size) s σ H locs → lv_has ls 7 [(0, .ref a0), (2, .int x2)] → wpX8_init_L30 kA tS.2 Q a0 x2 b0 G1 σ k j → W p l e ({ frames := 3, cells := 711, slots := 123133, locals := 55 }) s m args below meth c H locs k j (Zn G Q 711 123133 below args s) (F0 m 30 ls [.ref b0]) := by
    intro a0 x2 b0 G1 σ k j H locs ls hg hH hl h
    unfold wpX8_init_L30 at h
    refine lv_iconst (v := 2) hx hb dX8_init_30 (by decide) ?_
    refine lv_goto (tgt := 35) hx hb dX8_init_31 (by decide) ?_
    exact L35 a0 x2 2 b0 G1 σ k j _ _ ls hg hH (lv_sub hl [0, 1] rfl) h
  unfold wpX8_init at h
  refine lv_aload_n hx hb dX8_init_0 rfl (lv_at hl 0 rfl) ?_
  refine W.objInit hx hb hown (hB _ bw1_19) (hB _ bw1_20) (hB _ bw1_21) rfl (by rw [hml]; exact hl.1) rfl dX8_init_1 (Nat.le_of_ble_eq_true rfl) (Nat.le_of_ble_eq_true rfl) ?_
  refine W.eq (g2 := F0 m 4 ls []) rfl ?_
  refine lv_aload_n hx hb dX8_init_4 rfl (lv_at hl 0 rfl) ?_
  refine lv_bipush (v := 120) hx hb dX8_init_5 (by decide) ?_
  obtain ⟨hk5, hj5, h⟩ := h
  refine g_newI hx hb (hB _ bw1_38) (hg.K hK) hH aA_hA (kOK.at (hg.k hk) (t := 0) rfl) 120 (by decide) (by decide) (by decide) hk5 hj5 dX8_init_7 (fun a_5 G5 σ5 eG5 eσ5 H hH => ?_)
  replace h := h a_5 G5 σ5 eG5 eσ5
  replace hg := hg.ext eG5
  refine W.eq (g2 := F0 m 9 ls [.ref a_5, .ref a0]) (by rw [eG5, gext_at]) ?_
  obtain ⟨c_6, p_6, ha6, ho6, hp6, h⟩ := h
  refine n_putFr hx hb hB inB8 tyX8 tyX8_ok nmX8 hown (hg.K hK) hH ha6 ho6 rfl 2 (by decide) k9 rfl hp6 rfl hin rfl rfl rfl dX8_init_9 (fun G6 eG6 H locs hH => ?_)
  replace h := h G6 eG6
  replace hg := hg.sh eG6
  refine lv_aload_n hx hb dX8_init_12 rfl (lv_at hl 0 rfl) ?_
  refine lv_iconst (v := 2) hx hb dX8_init_13 (by decide) ?_
  obtain ⟨hk9, hj9, h⟩ := h
  refine g_newI hx hb (hB _ bw1_38) (hg.K hK) hH aA_hA (kOK.at (hg.k hk) (t := 0) rfl) 2 (by decide) (by decide) (by decide) hk9 hj9 dX8_init_14 (fun a_9 G9 σ9 eG9 eσ9 H hH => ?_)
  replace h := h a_9 G9 σ9 eG9 eσ9
  replace hg := hg.ext eG9
  refine W.eq (g2 := F0 m 16 ls [.ref a_9, .ref a0]) (by rw [eG9, gext_at]) ?_
  obtain ⟨c_10, p_10, ha10, ho10, hp10, h⟩ := h
  refine n_putFr hx hb hB inB8 tyX8 tyX8_ok nmX8 hown (hg.K hK) hH ha10 ho10 rfl 8 (by decide) k13 rfl hp10 rfl hin rfl rfl rfl dX8_init_16 (fun G10 eG10 H locs hH => ?_)
  replace h := h G10 eG10
  replace hg := hg.sh eG10
  refine lv_aload_n hx hb dX8_init_19 rfl (lv_at hl 0 rfl) ?_
  refine lv_iload_n hx hb dX8_init_20 rfl (lv_at hl 1 rfl) ?_
  refine lv_iconst (v := 1) hx hb dX8_init_21 (by decide) ?_
  refine lv_icmp_lt (tgt := 30) hx hb dX8_init_22 (by decide) (fun q14 => ?_) (fun q14 => ?_)
  · replace h := h.1 q14
    exact L30 a0 x2 a0 G10 σ9 (0 + 1 + 1) (0 + 120 + 2) _ _ ls hg hH (lv_sub hl [0, 2] rfl) h
  · replace h := h.2 q14
    refine lv_iload_n hx hb dX8_init_25 rfl (lv_at hl 1 rfl) ?_
    refine lv_iconst (v := 3) hx hb dX8_init_26 (by decide) ?_
    refine lv_icmp_le (tgt := 34) hx hb dX8_init_27 (by decide) (fun q17 => ?_) (fun q17 => ?_)
    · replace h := h.1 q17
      refine lv_iload_n hx hb dX8_init_34 rfl (lv_at hl 1 rfl) ?_
      exact L35 a0 x2 x1 a0 G10 σ9 (0 + 1 + 1) (0 + 120 + 2) _ _ ls hg hH (lv_sub hl [0, 2] rfl) h
    · replace h := h.2 q17
      exact L30 a0 x2 a0 G10 σ9 (0 + 1 + 1) (0 + 120 + 2) _ _ ls hg hH (lv_sub hl [0, 2] rfl) h
