theorem arrI_of {s : State} {args : Array Value} {ty : FieldType} (hp : ∀ C, ty ≠ .object C) (h : (Cond.arrayClass ty).before args s = true) : ∃ cA : ClassId, ArrOfT s cA ty ∧ va_RA s cA ty := by
  obtain ⟨c, k, comp, h1, h2, h3⟩ := Cond.arrayClass_spec h
  refine ⟨c, fun n z => ⟨fun k h => (by cases h), k, h2, comp, h3⟩, ?_⟩
  cases ty with
  | object C => exact absurd rfl (hp C)
  | _ => exact h1
theorem arrO_of {s : State} {args : Array Value} {C : String} (h : (Cond.arrayOver (.object C)).before args s = true) : ∃ cA : ClassId, ArrOfT s cA (.object C) ∧ va_RA s cA (.object C) := by
  obtain ⟨comp, c, k, h1, h2, h3, h4, h5⟩ := Cond.arrayOver_spec h
  exact ⟨c, fun n z => ⟨fun k h => (by cases h), k, h3, comp, h4⟩, k, comp, h3, h4, h1, h5⟩
set_option maxHeartbeats 16000000 in
set_option maxRecDepth 100000 in
theorem nest_all {s : State} {args : Array Value} (hts : ∀ w ∈ lw_tbl, w.before args s = true) : NWs s := by
  have hq1 : nestF.all (fun q => decide (nestW q ∈ tables_1)) = true := by decide +kernel
  have hq2 : nestM.all (fun q => decide (nestV q ∈ tables_1)) = true := by decide +kernel
  have hq3 : aoL.all (fun C => decide (Cond.arrayOver (.object C) ∈ tables_1)) = true := by decide +kernel
  refine ⟨fun q hq => ?_, fun q hq => ?_, fun C hC => ?_⟩
  · exact va_Nw.of rfl (hts _ (List.mem_append_right _ (of_decide_eq_true (List.all_eq_true.mp hq1 q hq))))
  · exact va_Nw.of rfl (hts _ (List.mem_append_right _ (of_decide_eq_true (List.all_eq_true.mp hq2 q hq))))
  · exact va_AO.of (hts _ (List.mem_append_right _ (of_decide_eq_true (List.all_eq_true.mp hq3 C hC))))
set_option maxHeartbeats 16000000 in
set_option maxRecDepth 100000 in
theorem law_open {p : Program} {e : Env} {s : State} {m : MethodId} {below : List Frame} {meth : Method} {c : Code} (l : Launch) {b L : Nat} {xs : Nat → Int32} {Rel : Nat → Nat → Sg → Sg → Prop} {INC : Int32 → Int32 → Nat → Sg → Prop} {INM : Int32 → Int32 → Sg → Prop} (hIC : InitC INC) (hIM : InitM INM) (hR0 : ∀ x y P σ τ, INC x y P σ → INM x y τ → Rel 0 P σ τ) (hSt : StepOK Rel) (hL : L ≤ 386) (C0 : lw_At p s m meth c b L xs) : W p l e room_1 s m #[Value.ref b] below meth c s.heap [] 0 0 (lw_Z below #[Value.ref b] s) (entryFrame m ([Value.ref b] : List Value).toArray 4) := by
  obtain ⟨hx, hb, hr, hml, hown, hts, hX, hbl, hlk, hgv⟩ := id C0
  have hB : ∀ w ∈ BIG, w.before #[Value.ref b] s = true := fun w h => hts w (List.mem_filter.mp h).1
  replace hown : s.vm.findClass RL = some m.cls := hown
  have hA : ∀ q : Nat, s.heap.size ≤ q → (fun q : Nat => s.heap.size ≤ q) q := fun _ h => h
  have hbA : ¬ (fun q : Nat => s.heap.size ≤ q) b := Nat.not_le.mpr hbl
  obtain ⟨c0, iS0, hKn0⟩ := u_known (C := RX0) (T := TX0) (N := 2) (n := 2) hB inB0 (hB _ bw2_85)
  obtain ⟨c1, iS1, hKn1⟩ := u_known (C := RX1) (T := TX1) (N := 4) (n := 4) hB inB1 (hB _ bw2_79)
  obtain ⟨c2, iS2, hKn2⟩ := u_known (C := RX2) (T := TX2) (N := 3) (n := 3) hB inB2 (hB _ bw1_23)
  obtain ⟨c3, iS3, hKn3⟩ := u_known (C := RX3) (T := TX3) (N := 13) (n := 13) hB inB3 (hB _ bw1_209)
  obtain ⟨c4, iS4, hKn4⟩ := u_known (C := RX4) (T := TX4) (N := 15) (n := 15) hB inB4 (hB _ bw1_57)
  obtain ⟨c5, iS5, hKn5⟩ := u_known (C := RX5) (T := TX5) (N := 6) (n := 6) hB inB5 (hB _ bw1_113)
  obtain ⟨c6, iS6, hKn6⟩ := u_known (C := RX6) (T := TX6) (N := 13) (n := 13) hB inB6 (hB _ bw1_202)
  obtain ⟨c7, iS7, hKn7⟩ := u_known (C := RX7) (T := TX7) (N := 15) (n := 15) hB inB7 (hB _ bw1_49)
  obtain ⟨c8, iS8, hKn8⟩ := u_known (C := RX8) (T := TX8) (N := 16) (n := 16) hB inB8 (hB _ bw1_15)
  obtain ⟨c9, iS9, hKn9⟩ := u_known (C := RX9) (T := TX9) (N := 82) (n := 82) hB inB9 (hB _ bw4_94)
  obtain ⟨dC, dI, hKc⟩ : ∃ (dC : Nat → ClassId) (dI : Nat → Nat → Nat), ∀ (k : Nat) (q : vw_C), vwCl[k]? = some q → u_Kn s q.1 q.2.1 q.2.2 (dC k) (dI k) := by
    refine ⟨fun k => if k = 0 then c0 else if k = 1 then c1 else if k = 2 then c2 else if k = 3 then c3 else if k = 4 then c4 else if k = 5 then c5 else if k = 6 then c6 else if k = 7 then c7 else if k = 8 then c8 else c9, fun k => if k = 0 then iS0 else if k = 1 then iS1 else if k = 2 then iS2 else if k = 3 then iS3 else if k = 4 then iS4 else if k = 5 then iS5 else if k = 6 then iS6 else if k = 7 then iS7 else if k = 8 then iS8 else iS9, ?_⟩
    intro k q hq
    match k, hq with
    | 0, hq => cases hq; exact hKn0
    | 1, hq => cases hq; exact hKn1
    | 2, hq => cases hq; exact hKn2
    | 3, hq => cases hq; exact hKn3
    | 4, hq => cases hq; exact hKn4
    | 5, hq => cases hq; exact hKn5
    | 6, hq => cases hq; exact hKn6
    | 7, hq => cases hq; exact hKn7
    | 8, hq => cases hq; exact hKn8
    | 9, hq => cases hq; exact hKn9
    | k + 10, hq => simp [vwCl] at hq
  have hNW : NWs s := nest_all hts
  obtain ⟨k0, hk0⟩ := arrI_of (ty := .int) (fun C h => by cases h) (hB _ bw1_38)
  obtain ⟨k1, hk1⟩ := arrI_of (ty := .boolean) (fun C h => by cases h) (hB _ bw1_112)
  obtain ⟨k2, hk2⟩ := arrO_of (args := #[Value.ref b]) (va_AO.use (hNW.2.2 "BearerHouse$Piece" (List.mem_of_getElem? (i := 0) rfl)))
  obtain ⟨k3, hk3⟩ := arrO_of (args := #[Value.ref b]) (va_AO.use (hNW.2.2 "BearerHouse$Sender" (List.mem_of_getElem? (i := 1) rfl)))
  obtain ⟨k4, hk4⟩ := arrO_of (args := #[Value.ref b]) (va_AO.use (hNW.2.2 "BearerHouse$Receiver" (List.mem_of_getElem? (i := 2) rfl)))
  obtain ⟨k5, hk5⟩ := arrO_of (args := #[Value.ref b]) (va_AO.use (hNW.2.2 "BearerHouse$Carrier" (List.mem_of_getElem? (i := 3) rfl)))
  obtain ⟨kA, hkA⟩ : ∃ kA : Nat → ClassId, kA 0 = k0 ∧ kA 1 = k1 ∧ kA 2 = k2 ∧ kA 3 = k3 ∧ kA 4 = k4 ∧ kA 5 = k5 := ⟨fun k => if k = 0 then k0 else if k = 1 then k1 else if k = 2 then k2 else if k = 3 then k3 else if k = 4 then k4 else k5, rfl, rfl, rfl, rfl, rfl, rfl⟩
  obtain ⟨rfl, rfl, rfl, rfl, rfl, rfl⟩ := hkA
  obtain ⟨tys, htys⟩ : ∃ t : List (ClassId × FieldType), t = [(kA 0, .int), (kA 1, .boolean), (kA 2, .object "BearerHouse$Piece"), (kA 3, .object "BearerHouse$Sender"), (kA 4, .object "BearerHouse$Receiver"), (kA 5, .object "BearerHouse$Carrier")] := ⟨_, rfl⟩
  have hK : va_K (dC, dI) vwCl tys s := by
    refine ⟨hKc, fun k q h => ?_⟩
    rw [htys] at h
    match k, h with
    | 0, h => cases h; exact hk0
    | 1, h => cases h; exact hk1
    | 2, h => cases h; exact hk2
    | 3, h => cases h; exact hk3
    | 4, h => cases h; exact hk4
    | 5, h => cases h; exact hk5
    | k + 6, h => simp at h
  obtain ⟨t, hZ, hT⟩ := sbX_at (A := fun q => s.heap.size ≤ q) hgv (hts _ (List.mem_append_right _ (by decide +kernel))) (hB _ bw1_1) (fun a h => Nat.not_le.mpr h)
  have hXX : XS (some (t, sbT)) (fun q => s.heap.size ≤ q) s := ⟨hZ, hT, hNW⟩
  obtain ⟨G0, eG0⟩ : ∃ G : GG, G = (dC, dI, 0, (fun _ => 0), (fun _ => .inl (0, 0)), tys, some (t, sbT)) := ⟨_, rfl⟩
  have g0 : gn G0 = 0 := by rw [eG0]
  have gK : va_K (gD G0) vwCl (gt G0) s := by rw [eG0]; exact hK
  have gO : kOK kA G0 := by rw [eG0]; exact htys
  have gX : XS (go G0) (fun q => s.heap.size ≤ q) s := by rw [eG0]; exact hXX
  have gg : go G0 = some (t, sbT) := by rw [eG0]
  have hS : va_S (fun q : Nat => s.heap.size ≤ q) s.heap s.heap [] := va_S.rf
  have hP : va_P (gD G0) vwCl [] s.heap := fun k q h => by simp at h
  have hD : va_D (fun q : Nat => s.heap.size ≤ q) [] := ⟨fun i j p q h => by simp at h, fun k q h => by simp at h⟩
  have hl := lv_entry ([.ref b]) (n := 4) (Nat.le_of_ble_eq_true rfl)
  rw [lg_entry_eq]
  generalize (lg_sl ([.ref b]) ++ List.replicate (4 - (lg_sl ([.ref b])).length) Slot.unset).toArray = ls at hl ⊢
  replace hl : lv_has ls 4 [(0, .ref b)] := hl
  have q0 : ¬ nI L ≤ 0 → vp_in 0 L := fun h => vp_in_nI (n := 0) (by
        rcases Nat.eq_zero_or_pos L with z | z
        · exact absurd (by rw [z]; decide) h
        · exact z) (by omega)
  have q1 : ¬ nI L ≤ 1 → vp_in 1 L := fun h => vp_in_nI (n := 1) (by
        rcases Nat.lt_or_ge 1 L with z | z
        · exact z
        · exact absurd (nI_le (a := L) (b := 1) z (by decide)) h) (by omega)
  refine w_new (T := TX8) (N := 16) (G := G0) (w := []) hx hb hB inB8 tyX8 tyX8_ok hown (hB _ bw1_14) (hB _ bw1_15) (hB _ bw1_1) gK hP hD hS hA (ci := 8) rfl g0 [none, none, some none, none, some none, some none, some none, some none, some none, none, none, none, none, none, none, none] (fun j hj => by rcases (show j = 0 ∨ j = 1 ∨ j = 2 ∨ j = 3 ∨ j = 4 ∨ j = 5 ∨ j = 6 ∨ j = 7 ∨ j = 8 ∨ j = 9 ∨ j = 10 ∨ j = 11 ∨ j = 12 ∨ j = 13 ∨ j = 14 ∨ j = 15 by omega) with rfl | rfl | rfl | rfl | rfl | rfl | rfl | rfl | rfl | rfl | rfl | rfl | rfl | rfl | rfl | rfl <;> rfl) (by decide +kernel) (by decide +kernel) dL_law_0 (fun q9 H hH => ?_)
  refine lv_dup hx hb dL_law_3 rfl ?_
  refine lv_aload_n hx hb dL_law_4 rfl (lv_at hl 0 rfl) ?_
  refine lv_iconst (v := 0) hx hb dL_law_5 (by decide) ?_
  refine va_calli (S := Unit) (A1 := fun _ => False) (va_runS (g := F0 m 6 ls _) (As := [.ref b, .int 0]) (rest := [.ref q9, .ref q9]) ⟨hx, hb, hml, hown, hB⟩ (tL_cell (l := l) (b := b) (L := L) (xs := xs) (k := 0) q0) (va_cwS 2 hB gSL_cell rfl rfl rfl (by decide +kernel) ⟨by decide +kernel, by decide +kernel⟩) ⟨blindX, fun U hU hW => ⟨rfl, by show va_X b L xs U U.heap; rw [hU]; exact va_X.moved hW.alike (hX.kept (hH.2.2.2.1 b hbl hbA))⟩⟩ rfl rfl hl.1 rfl (lv_room (Nat.le_of_ble_eq_true rfl)) dL_law_6 ⟨by decide +kernel, by decide +kernel⟩) hH.2.2 (fun _ _ h => h.elim) (fun _ h => h.elim) (fun r u t1 H1 locs1 ht _ hw _ hz hk hS1 => ?_)
  subst hw
  replace hH := hH.kept (fun q hq => hk q hq (fun h => h)) hS1
  clear hk hz hS1
  refine lv_aload_n hx hb dL_law_9 rfl (lv_at hl 0 rfl) ?_
  refine lv_iconst (v := 1) hx hb dL_law_10 (by decide) ?_
  refine va_calli (S := Unit) (A1 := fun _ => False) (va_runS (g := F0 m 11 ls _) (As := [.ref b, .int 1]) (rest := [.int (celv L xs 0), .ref q9, .ref q9]) ⟨hx, hb, hml, hown, hB⟩ (tL_cell (l := l) (b := b) (L := L) (xs := xs) (k := 1) q1) (va_cwS 2 hB gSL_cell rfl rfl rfl (by decide +kernel) ⟨by decide +kernel, by decide +kernel⟩) ⟨blindX, fun U hU hW => ⟨rfl, by show va_X b L xs U U.heap; rw [hU]; exact va_X.moved hW.alike (hX.kept (hH.2.2.2.1 b hbl hbA))⟩⟩ rfl rfl hl.1 rfl (lv_room (Nat.le_of_ble_eq_true rfl)) dL_law_11 ⟨by decide +kernel, by decide +kernel⟩) hH.2.2 (fun _ _ h => h.elim) (fun _ h => h.elim) (fun r u t1 H1 locs1 ht _ hw _ hz hk hS1 => ?_)
  subst hw
  replace hH := hH.kept (fun q hq => hk q hq (fun h => h)) hS1
  clear hk hz hS1
  have hg0 : SameG G0 (gext G0 q9 (.inr (.inr (8, [none, none, some none, none, some none, some none, some none, some none, some none, none, none, none, none, none, none, none])))) := SameG.rf.ext rfl
  have wI : wpX8_init kA sbT (gext G0 q9 (.inr (.inr (8, [none, none, some none, none, some none, some none, some none, some none, some none, none, none, none, none, none, none, none])))) q9 (celv L xs 0) (celv L xs 1) (fun _ _ => 0) (fun G1 σ1 => ∃ P : Nat, isHouse G1 P ∧ ga G1 0 = q9 ∧ INC (celv L xs 0) (celv L xs 1) P σ1) := by
    refine hIC kA _ q9 _ _ _ ?_ ?_ ?_ (hg0.k gO) (fun P G1 σ1 a1 a2 a3 => ⟨P, a1, a2, a3⟩)
    · show gn G0 + 1 = 1
      rw [g0]
    · show va_up (ga G0) (gn G0) q9 0 = q9
      rw [g0]
      simp [va_up]
    · show va_up (gs G0) (gn G0) _ 0 = _
      rw [g0]
      simp [va_up]
  refine w_callI (As := [.int (celv L xs 0), .int (celv L xs 1)]) (rest := [.ref q9]) ⟨hx, hb, hml, hown, hB⟩ (hg0.K gK) (hg0.X gX) hA hH (tX8_init (tS := (t, sbT)) (hg0.k gO) (hg0.2.2.trans gg) wI) (cwI 2 hB (goodB bw1_18) rfl rfl rfl (hB _ bw1_1) (hB _ bw1_16) (hB _ bw1_17) rfl (by decide +kernel) ⟨by decide +kernel, by decide +kernel⟩) rfl hl.1 rfl (lv_room (Nat.le_of_ble_eq_true rfl)) ⟨by decide +kernel, by decide +kernel⟩ dL_law_14 (fun G1 σ1 H locs h hg1 hH => ?_)
  obtain ⟨P, hH1, hq9, hC⟩ := h
  replace hg1 := hg0.tr hg1
  refine lv_astore_n (lv' := [(1, .ref q9), (0, .ref b)]) hx hb dL_law_17 rfl hl (by decide) rfl (fun ls hl => ?_)
  refine w_new (T := TX9) (N := 82) (G := G0) (w := gw G1 σ1) hx hb hB inB9 tyX9 tyX9_ok hown (hB _ bw4_93) (hB _ bw4_94) (hB _ bw1_10) gK (by rw [← hg1.1]; exact P_left hH.1) (D_left hH.2.1) hH.2.2 hA (ci := 9) rfl g0 [none, none, none, none, none, none, none, none, none, some none, none, some none, some none, some none, some none, some none, some none, some none, some none, some none, some none, some none, some none, some none, some none, some none, some none, some none, some none, some none, some none, some none, some none, some none, some none, some none, some none, some none, some none, some none, some none, some none, some none, some none, some none, some none, some none, some none, some none, some none, some none, some none, some none, some none, some none, some none, some none, some none, some none, some none, some none, some none, some none, some none, some none, some none, some none, some none, some none, some none, some none, some none, some none, some none, some none, some none, some none, some none, some none, some none, some none, some none] (fun j hj => by rcases (show j = 0 ∨ j = 1 ∨ j = 2 ∨ j = 3 ∨ j = 4 ∨ j = 5 ∨ j = 6 ∨ j = 7 ∨ j = 8 ∨ j = 9 ∨ j = 10 ∨ j = 11 ∨ j = 12 ∨ j = 13 ∨ j = 14 ∨ j = 15 ∨ j = 16 ∨ j = 17 ∨ j = 18 ∨ j = 19 ∨ j = 20 ∨ j = 21 ∨ j = 22 ∨ j = 23 ∨ j = 24 ∨ j = 25 ∨ j = 26 ∨ j = 27 ∨ j = 28 ∨ j = 29 ∨ j = 30 ∨ j = 31 ∨ j = 32 ∨ j = 33 ∨ j = 34 ∨ j = 35 ∨ j = 36 ∨ j = 37 ∨ j = 38 ∨ j = 39 ∨ j = 40 ∨ j = 41 ∨ j = 42 ∨ j = 43 ∨ j = 44 ∨ j = 45 ∨ j = 46 ∨ j = 47 ∨ j = 48 ∨ j = 49 ∨ j = 50 ∨ j = 51 ∨ j = 52 ∨ j = 53 ∨ j = 54 ∨ j = 55 ∨ j = 56 ∨ j = 57 ∨ j = 58 ∨ j = 59 ∨ j = 60 ∨ j = 61 ∨ j = 62 ∨ j = 63 ∨ j = 64 ∨ j = 65 ∨ j = 66 ∨ j = 67 ∨ j = 68 ∨ j = 69 ∨ j = 70 ∨ j = 71 ∨ j = 72 ∨ j = 73 ∨ j = 74 ∨ j = 75 ∨ j = 76 ∨ j = 77 ∨ j = 78 ∨ j = 79 ∨ j = 80 ∨ j = 81 by omega) with rfl | rfl | rfl | rfl | rfl | rfl | rfl | rfl | rfl | rfl | rfl | rfl | rfl | rfl | rfl | rfl | rfl | rfl | rfl | rfl | rfl | rfl | rfl | rfl | rfl | rfl | rfl | rfl | rfl | rfl | rfl | rfl | rfl | rfl | rfl | rfl | rfl | rfl | rfl | rfl | rfl | rfl | rfl | rfl | rfl | rfl | rfl | rfl | rfl | rfl | rfl | rfl | rfl | rfl | rfl | rfl | rfl | rfl | rfl | rfl | rfl | rfl | rfl | rfl | rfl | rfl | rfl | rfl | rfl | rfl | rfl | rfl | rfl | rfl | rfl | rfl | rfl | rfl | rfl | rfl | rfl | rfl <;> rfl) (by decide +kernel) (by decide +kernel) dL_law_18 (fun q10 H hH => ?_)
  refine lv_dup hx hb dL_law_21 rfl ?_
  refine lv_aload_n hx hb dL_law_22 rfl (lv_at hl 1 rfl) ?_
  refine lv_iconst (v := 0) hx hb dL_law_23 (by decide) ?_
  refine va_calli (S := Unit) (A1 := fun _ => False) (va_runS (g := F0 m 24 ls _) (As := [.ref b, .int 0]) (rest := [.ref q10, .ref q10]) ⟨hx, hb, hml, hown, hB⟩ (tL_cell (l := l) (b := b) (L := L) (xs := xs) (k := 0) q0) (va_cwS 2 hB gSL_cell rfl rfl rfl (by decide +kernel) ⟨by decide +kernel, by decide +kernel⟩) ⟨blindX, fun U hU hW => ⟨rfl, by show va_X b L xs U U.heap; rw [hU]; exact va_X.moved hW.alike (hX.kept (hH.2.2.2.1 b hbl hbA))⟩⟩ rfl rfl hl.1 rfl (lv_room (Nat.le_of_ble_eq_true rfl)) dL_law_24 ⟨by decide +kernel, by decide +kernel⟩) hH.2.2 (fun _ _ h => h.elim) (fun _ h => h.elim) (fun r u t1 H1 locs1 ht _ hw _ hz hk hS1 => ?_)
  subst hw
  replace hH := hH.kept (fun q hq => hk q hq (fun h => h)) hS1
  clear hk hz hS1
  refine lv_aload_n hx hb dL_law_27 rfl (lv_at hl 1 rfl) ?_
  refine lv_iconst (v := 1) hx hb dL_law_28 (by decide) ?_
  refine va_calli (S := Unit) (A1 := fun _ => False) (va_runS (g := F0 m 29 ls _) (As := [.ref b, .int 1]) (rest := [.int (celv L xs 0), .ref q10, .ref q10]) ⟨hx, hb, hml, hown, hB⟩ (tL_cell (l := l) (b := b) (L := L) (xs := xs) (k := 1) q1) (va_cwS 2 hB gSL_cell rfl rfl rfl (by decide +kernel) ⟨by decide +kernel, by decide +kernel⟩) ⟨blindX, fun U hU hW => ⟨rfl, by show va_X b L xs U U.heap; rw [hU]; exact va_X.moved hW.alike (hX.kept (hH.2.2.2.1 b hbl hbA))⟩⟩ rfl rfl hl.1 rfl (lv_room (Nat.le_of_ble_eq_true rfl)) dL_law_29 ⟨by decide +kernel, by decide +kernel⟩) hH.2.2 (fun _ _ h => h.elim) (fun _ h => h.elim) (fun r u t1 H1 locs1 ht _ hw _ hz hk hS1 => ?_)
  subst hw
  replace hH := hH.kept (fun q hq => hk q hq (fun h => h)) hS1
  clear hk hz hS1
  have hm0 : SameG G0 (gext G0 q10 (.inr (.inr (9, [none, none, none, none, none, none, none, none, none, some none, none, some none, some none, some none, some none, some none, some none, some none, some none, some none, some none, some none, some none, some none, some none, some none, some none, some none, some none, some none, some none, some none, some none, some none, some none, some none, some none, some none, some none, some none, some none, some none, some none, some none, some none, some none, some none, some none, some none, some none, some none, some none, some none, some none, some none, some none, some none, some none, some none, some none, some none, some none, some none, some none, some none, some none, some none, some none, some none, some none, some none, some none, some none, some none, some none, some none, some none, some none, some none, some none, some none, some none])))) := SameG.rf.ext rfl
  have wM : wpX9_init kA (gext G0 q10 (.inr (.inr (9, [none, none, none, none, none, none, none, none, none, some none, none, some none, some none, some none, some none, some none, some none, some none, some none, some none, some none, some none, some none, some none, some none, some none, some none, some none, some none, some none, some none, some none, some none, some none, some none, some none, some none, some none, some none, some none, some none, some none, some none, some none, some none, some none, some none, some none, some none, some none, some none, some none, some none, some none, some none, some none, some none, some none, some none, some none, some none, some none, some none, some none, some none, some none, some none, some none, some none, some none, some none, some none, some none, some none, some none, some none, some none, some none, some none, some none, some none, some none])))) q10 (celv L xs 0) (celv L xs 1) (fun _ _ => 0) (fun G1 σ1 => isModel G1 ∧ ga G1 0 = q10 ∧ INM (celv L xs 0) (celv L xs 1) σ1) := by
    refine hIM kA _ q10 _ _ _ ?_ ?_ ?_ (hm0.k gO) (fun G1 σ1 a1 a2 a3 => ⟨a1, a2, a3⟩)
    · show gn G0 + 1 = 1
      rw [g0]
    · show va_up (ga G0) (gn G0) q10 0 = q10
      rw [g0]
      simp [va_up]
    · show va_up (gs G0) (gn G0) _ 0 = _
      rw [g0]
      simp [va_up]
  refine w_callI (As := [.int (celv L xs 0), .int (celv L xs 1)]) (rest := [.ref q10]) ⟨hx, hb, hml, hown, hB⟩ (hm0.K gK) (hm0.X gX) hA hH (tX9_init (tS := (t, sbT)) (hm0.k gO) (hm0.2.2.trans gg) wM) (cwI 2 hB (goodB bw4_97) rfl rfl rfl (hB _ bw1_10) (hB _ bw4_95) (hB _ bw4_96) rfl (by decide +kernel) ⟨by decide +kernel, by decide +kernel⟩) rfl hl.1 rfl (lv_room (Nat.le_of_ble_eq_true rfl)) ⟨by decide +kernel, by decide +kernel⟩ dL_law_32 (fun G2 τ1 H locs h hg2 hH => ?_)
  obtain ⟨hH2, hq10, hM⟩ := h
  replace hg2 := hm0.tr hg2
  refine lv_astore_n (lv' := [(2, .ref q10), (1, .ref q9), (0, .ref b)]) hx hb dL_law_35 rfl hl (by decide) rfl (fun ls hl => ?_)
  refine lv_iconst (v := 2) hx hb dL_law_36 (by decide) ?_
  refine lv_istore_n (lv' := [(3, .int 2), (2, .ref q10), (1, .ref q9), (0, .ref b)]) hx hb dL_law_37 rfl hl (by decide) rfl (fun ls hl => ?_)
  replace hH := hH.swap (hg2.1.trans hg1.1.symm)
  refine W.widen (k := 785) (n := 582240) (by decide +kernel) (by decide +kernel) ?_
  refine law_loop hSt hL hx hb hr hml hown hB hX hbl hlk (tS := (t, sbT)) rfl hH1 hH2 (hg1.2.2.trans gg) (hg2.2.2.trans gg) (hg1.1.trans hg2.1.symm) (hg1.K gK) (hg2.K gK) (hg1.X gX) (hg2.X gX) 66 0 2 σ1 τ1 H locs ls (by omega) (by omega) rfl (hR0 _ _ P σ1 τ1 hC hM) hH ?_
  rw [hq9, hq10]
  exact lv_sub hl [3, 2, 1, 0] rfl
