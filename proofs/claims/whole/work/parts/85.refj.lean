/-! PURE: the reference: a block is worked on -/
theorem mkN_pb {p B b : Nat} (hp : p < 2) (hb : b < B) : mkN B (p * B + b) = 8 * b + 4 * p := by
  have : p = 0 ∨ p = 1 := by omega
  unfold mkN
  rcases this with rfl | rfl
  · rw [Nat.zero_mul, Nat.zero_add, if_pos hb]
    rfl
  · rw [Nat.one_mul, if_neg (by omega), Nat.add_sub_cancel_left]
/-- what the work on DATA needs, of class and reference -/
def pcD (G : Nat → List Cel) (pc : Rpc) (d : Nat × Nat × Nat × Bool) : Rpc := pcu pc d.1 ((pc d.1).1 || decide (d.2.2.1 = (G d.1).length)) (orT (pc d.1).2 d.2.1 d.2.2.1)
def OkD2 (G : Nat → List Cel) (ks : Int32 → Nat → Int32) (s : Smd) (r : Rmd) (d : Nat × Nat × Nat × Bool) : Prop := ObV s.2.2.2.1 s.2.2.2.2.1 s.2.2.2.2.2 ∧ RvV r.1 ∧ r.1 7 ≤ 1 ∧ clrP r.1 r.2.1 ∧ wfF (G d.1) ∧ d.2.2.1 ≤ (G d.1).length ∧ d.2.1 < d.2.2.1 ∧ r.1 2 ≤ d.1 + 32 ∧ d.1 < r.1 2 + 31 ∧ d.1 + 1 < 2 ^ 20 ∧ ∃ Gd : Dst → Prop, (r.1 2 ≤ d.1 → Gd (raiV G (pcD G r.2.1 d) (novV r.2.1 d.1 d.2.1 d.2.2.1 r.1), r.2.2.1, r.2.2.2, s.2.2.2.2)) ∧ (∀ t : Dst, Gd t → whl G (t.1 2) (t.1 3) (pcD G r.2.1 d) (t.1 2) = true → DlV G (pcD G r.2.1 d) t ∧ t.1 2 + 1 ≤ t.1 4) ∧ (∀ t : Dst, Gd t → whl G (t.1 2) (t.1 3) (pcD G r.2.1 d) (t.1 2) = true → Gd (dlS G ks s.2.2.2.1 t)) ∧ (∀ t : Dst, Gd t → (RvB t.1 ∧ t.1 2 ≤ t.1 4 ∧ clrP t.1 (pcD G r.2.1 d)) ∧ (t.1 6 = 0 ∨ t.1 4 + 1 ≤ t.1 6 ∨ d.1 < t.1 4))
theorem OkD2.d {T : Nat} {G : Nat → List Cel} {ks : Int32 → Nat → Int32} {s : Smd} {r : Rmd} {d : Nat × Nat × Nat × Bool} (h : OkD2 G ks s r d) : OkD T G ks s r d := by
  obtain ⟨k1, k2, k3, kc, k4, k5, k6, k7, k8, k9, Gd, g0, g1, g2, g3⟩ := h
  exact ⟨k1, k2, k3, k4, k5, k6, k7, k8, k9, Gd, g0, fun t ht hw => (g1 t ht hw).1, g2, fun t ht => (g3 t ht).1.1⟩
/-- what the work on a STATUS needs, of class and reference -/
def OkT2 (T : Nat) (s : Smd) (t : Nat × List Ent) : Prop := OkT T s t ∧ SF s.1 s.2.2.1 ∧ T + t.2.length + 1 < 2 ^ 20 ∧ ∀ x, s.1 4 ≤ x → x < s.1 5 → ∀ k, k < (s.2.2.1 x).1.length → (gc (s.2.2.1 x).1 k).2.2.2 ≤ s.2.2.2.1
def OkW2 (T p B : Nat) (key : Nat → Int32) (s : Wst) (q : Nat × Prt) : Prop := q.1 < B ∧ OkA B s.1 s.2 ∧ match q.2 with
  | .inl d => OkD2 (fldS (s.1 (opp B (p * B + q.1)))) (ksI key (mkN B (opp B (p * B + q.1)))) (s.1 (p * B + q.1)) (s.2 (p * B + q.1)) d
  | .inr t => OkT2 T (s.1 (p * B + q.1)) t
theorem OkW2.w {T p B : Nat} {key : Nat → Int32} {s : Wst} {q : Nat × Prt} (h : OkW2 T p B key s q) : OkW T p B key s q := by
  obtain ⟨h1, h2, h3⟩ := h
  refine ⟨h1, ?_⟩
  cases hq : q.2 with
  | inl d =>
    rw [hq] at h3
    exact h3.d
  | inr t =>
    rw [hq] at h3
    exact h3.1
def LWk : List Nat := [3, 5, 11, 13, 15, 18, 20, 21, 22, 23, 24, 26, 29, 32, 33, 34, 35, 36, 37, 39, 41, 42, 43, 44, 45, 46, 47, 48, 49, 50, 51, 52, 53, 54, 55, 56, 57, 58, 59, 68, 69, 70, 71]
theorem rw3 {B p T z fr sz : Nat} {y ep : Int32} {Gs : Nat → Nat → List Cel} {Gd : List (Nat × Prt) → Wst → Prop} {Q : Sg → Prop} {τ0 : Sg} (hB1 : 1 ≤ B) (hB3 : B ≤ 3) (hp : p < 2) (hfs : fr + sz ≤ 500) (hK : KyM τ0 y ep) (hG1 : ∀ (q : Nat × Prt) (r : List (Nat × Prt)) (s : Wst), Gd (q :: r) s → OkW2 T p B (keyF y ep) s q ∧ Gd r (wk1 p B (keyF y ep) s q)) : ∀ (r : List (Nat × Prt)) (at' k : Nat) (τ : Sg) (s : Wst), (∀ j, j < (blB Gs r ++ fil z).length → τ0 65 (at' + j) = (blB Gs r ++ fil z).getD j 0) → at' + (blB Gs r ++ fil z).length = fr + sz → Gd r s → (∀ b, b < B → fldS (s.1 (opp B (p * B + b))) = Gs b) → LkM τ B s.1 s.2 → (∀ c, c ≠ 0 → c ∉ LWk → τ c = τ0 c) → (∀ j, τ 0 j = if j = 8 then τ0 0 8 + nI k else τ0 0 j) → (∀ (τ' : Sg) (t : Wst), t = wkL p B (keyF y ep) r s → Gd [] t → LkM τ' B t.1 t.2 → (∀ c, c ≠ 0 → c ∉ LWk → τ' c = τ0 c) → (∀ j, τ' 0 j = if j = 8 then τ0 0 8 + nI (k + r.length) else τ0 0 j) → Q τ') → wpX9_work_L3 Q (r.length + 1) (nI p) (nI fr) (nI sz) (nI at') τ := by
  intro r
  induction r with
  | nil =>
    intro at' k τ s hby hlen hGd hGs hL hF h0 h
    have fin : Q τ := h τ s rfl hGd hL hF (by rw [List.length_nil, Nat.add_zero]; exact h0)
    have e1 : blB Gs [] ++ fil z = fil z := rfl
    rw [e1] at hby hlen
    rw [fil_len] at hlen
    unfold wpX9_work_L3
    rw [nI_add]
    refine pk_le (fr + sz) at' (fun _ => fin) (fun hh => ⟨vin rfl (by omega) (by decide), ?_⟩)
    have h255 : τ 65 at' = 255 := by
      have := hby 0 (by rw [fil_len]; omega)
      rw [Nat.add_zero, fil_get, if_pos ⟨rfl, by omega⟩] at this
      rw [hF 65 (by decide) (by decide)]
      exact this
    rw [nI_clamp (n := at') (by omega), h255]
    exact brt (by decide) fin
  | cons q r ih =>
    intro at' k τ s hby hlen hGd hGs hL hF h0 h
    obtain ⟨hOk, hGn⟩ := hG1 q r s hGd
    obtain ⟨hqB, hOA, hOk⟩ := hOk
    have hplP : p * B + q.1 < 2 * B := by
      have : p * B ≤ 1 * B := Nat.mul_le_mul_right B (by omega)
      omega
    have eb : blB Gs (q :: r) ++ fil z = blP Gs q ++ (blB Gs r ++ fil z) := by
      show (blP Gs q ++ blB Gs r) ++ fil z = _
      rw [List.append_assoc]
    rw [eb] at hby hlen
    have hpl : (blP Gs q).length = 2 + (prB (Gs q.1) q.2).length := by
      unfold blP
      rw [List.length_cons, List.length_cons]
      omega
    rw [List.length_append, hpl] at hlen
    have hby1 : ∀ j, j < (blP Gs q).length → τ0 65 (at' + j) = (blP Gs q).getD j 0 := fun j hj => by
      rw [hby j (by rw [List.length_append]; omega), gD_l hj]
    have hby2 : ∀ j, j < (blB Gs r ++ fil z).length → τ0 65 (at' + (2 + (prB (Gs q.1) q.2).length) + j) = (blB Gs r ++ fil z).getD j 0 := fun j hj => by
      have := hby (2 + (prB (Gs q.1) q.2).length + j) (by rw [List.length_append, hpl]; omega)
      rw [gD_r (by omega), hpl, Nat.add_sub_cancel_left, ← Nat.add_assoc] at this
      exact this
    have hDy : ∀ j, j < (prB (Gs q.1) q.2).length → τ0 65 (at' + 2 + j) = (prB (Gs q.1) q.2).getD j 0 := fun j hj => by
      have := hby1 (j + 2) (by omega)
      rw [show at' + 2 + j = at' + (j + 2) by omega, this]
      rfl
    have b0 : τ0 65 at' = nI q.1 := by
      have := hby1 0 (by omega)
      rw [Nat.add_zero] at this
      rw [this]
      rfl
    have b1 : τ0 65 (at' + 1) = nI (prB (Gs q.1) q.2).length := by
      rw [hby1 1 (by omega)]
      rfl
    have hGq := hGs q.1 hqB
    have hD2 : 2 ≤ (prB (Gs q.1) q.2).length := by
      cases hq2 : q.2 with
      | inl d =>
        show 2 ≤ (datL _ _ _ _ _ _).length
        rw [datL_len]
        omega
      | inr t =>
        show 2 ≤ (stB _ _).length
        rw [stB_at.1]
        omega
    have b2 : τ0 65 (at' + 2) = (prB (Gs q.1) q.2).getD 0 0 := by
      have := hDy 0 (by omega)
      rw [Nat.add_zero] at this
      exact this
    have ei : iOf B (p * B + q.1) = 3 * p + q.1 := iOf_pb hp hqB
    have hi6 : 3 * p + q.1 < 6 := by omega
    have e65 : τ 65 = τ0 65 := hF 65 (by decide) (by decide)
    show wpX9_work_L3 Q (r.length + 1 + 1) (nI p) (nI fr) (nI sz) (nI at') τ
    unfold wpX9_work_L3
    have e2 : nI at' + 2 = nI (at' + 2) := nI_add at' 2
    rw [nI_add, e2, nI_1, nI_clamp (n := at') (by omega), nI_clamp (n := at' + 1) (by omega), nI_clamp (n := at' + 2) (by omega), e65, b0, b1]
    refine brf (nI_ge (by omega) (by omega)) ⟨vin rfl (by omega) (by decide), brf (nI_ge (a := q.1) (b := 255) (by omega) (by decide)) ⟨vin rfl (by omega) (by decide), ?_⟩⟩
    rintro _ rfl
    refine ⟨vin rfl (by omega) (by decide), ?_⟩
    rintro _ rfl _ rfl
    refine ⟨vin rfl (by omega) (by decide), ?_⟩
    rw [up2_o (d := 65) (by decide), e65, b2]
    have h15 : τ 0 8 + 1 = τ0 0 8 + nI (k + 1) := by
      rw [h0 8, if_pos rfl, ← nI_1, Int32.add_assoc]
    rw [h15]
    have hL1 : LkM (up2 τ 0 8 (τ0 0 8 + nI (k + 1))) B s.1 s.2 := hL.of (fun c c1 c2 c3 => up2_o (by omega))
    have hF1 : ∀ c, c ≠ 0 → c ∉ LWk → up2 τ 0 8 (τ0 0 8 + nI (k + 1)) c = τ0 c := fun c c1 c2 => by rw [up2_o c1, hF c c1 c2]
    have h01 : ∀ j, up2 τ 0 8 (τ0 0 8 + nI (k + 1)) 0 j = if j = 8 then τ0 0 8 + nI (k + 1) else τ0 0 j := fun j => by
      rw [up2_e]
      by_cases ej : j = 8
      · rw [if_pos ⟨rfl, ej⟩, if_pos ej]
      · rw [if_neg (fun hh => ej hh.2), if_neg ej, h0 j, if_neg ej]
    generalize up2 τ 0 8 (τ0 0 8 + nI (k + 1)) = τ1 at *
    have hK1 : KyM τ1 y ep := ⟨fun k hk => by rw [hF1 67 (by decide) (by decide)]; exact hK.1 k hk, by rw [h01 1, if_neg (by decide)]; exact hK.2.1, by rw [h01 3, if_neg (by decide)]; exact hK.2.2⟩
    have next : ∀ τ2 : Sg, LkM τ2 B (wk1 p B (keyF y ep) s q).1 (wk1 p B (keyF y ep) s q).2 → (∀ c, c ≠ 0 → c ∉ LWk → τ2 c = τ0 c) → (∀ j, τ2 0 j = if j = 8 then τ0 0 8 + nI (k + 1) else τ0 0 j) → wpX9_work_L106 Q (wpX9_work_L3 Q (r.length + 1)) (nI p) (nI fr) (nI sz) (nI at') (nI (prB (Gs q.1) q.2).length) τ2 := by
      intro τ2 n1 n2 n3
      unfold wpX9_work_L106
      have e5 : nI at' + ((2 : Int32) + nI (prB (Gs q.1) q.2).length) = nI (at' + (2 + (prB (Gs q.1) q.2).length)) := by
        show nI at' + (nI 2 + _) = _
        rw [nI_add, nI_add]
      rw [e5]
      rintro _ rfl
      refine ih (at' + (2 + (prB (Gs q.1) q.2).length)) (k + 1) τ2 (wk1 p B (keyF y ep) s q) hby2 (by omega) hGn (fun b hb => ?_) n1 n2 n3 (fun τ' t et t1 t2 t3 t4 => h τ' t (by rw [et]; rfl) t1 t2 t3 (by rw [List.length_cons, show k + (r.length + 1) = k + 1 + r.length by omega]; exact t4))
      rw [wk1_opp hp hqB hb]
      exact hGs b hb
    obtain ⟨hLs, hLr⟩ := hL1 _ hplP
    rw [ei] at hLs hLr
    have hat : (3 : Int32) * nI p + nI q.1 = nI (3 * p + q.1) := by
      have : (3 : Int32) * nI p = nI (3 * p) := pk_mul 3 p
      rw [this, nI_add]
    cases hq2 : q.2 with
    | inl d =>
      rw [hq2] at hOk
      obtain ⟨k1, k2, k3, kc, k4, k5, k6, k7, k8, k9, Gd', k10, k11, k12, k13⟩ := hOk
      rw [hGq] at k4 k5 k10 k11 k12 k13
      have ew : wk1 p B (keyF y ep) s q = (fup s.1 (p * B + q.1) (wkD p B (keyF y ep) s q.1 d).1, fup s.2 (p * B + q.1) (wkD p B (keyF y ep) s q.1 d).2) := by
        unfold wk1
        rw [hq2]
      have h128 : ¬ (prB (Gs q.1) (.inl d)).getD 0 0 ≤ 127 := by
        show ¬ hdI _ _ _ _ _ ≤ 127
        intro hh
        have h2 := Int32.le_trans hdI_128.1 hh
        exact absurd h2 (by decide)
      rw [hq2] at hD2 hlen hDy next
      refine brf h128 ?_
      rw [hGq] at hLr
      have emk : mkN B (opp B (p * B + q.1)) = 8 * q.1 + 4 * (1 - p) := by rw [opp_peer hp hqB, mkN_pb (by omega) hqB]
      rw [emk] at k12
      refine dataComes_ok (τ := τ1) (p := p) (b := q.1) (i := 3 * p + q.1) (f0 := at' + 2) (x := d.1) (fr := d.2.1) (to := d.2.2.1) (poll := d.2.2.2) (G := Gs q.1) (s := s.1 (p * B + q.1)) (r := s.2 (p * B + q.1)) (Gd := Gd') hp (by omega) rfl hK1 hLs hLr k1 k2 k3 kc k4 k5 k6 (fun j hj => ?_) ?_ k7 k8 k9 k10 k11 k12 k13 (fun τ2 t et t1 t2 t3 => ?_)
      · have hj : j < (prB (Gs q.1) (.inl d)).length := hj
        rw [hF1 65 (by decide) (by decide)]
        exact hDy j hj
      · show at' + 2 + (prB (Gs q.1) (.inl d)).length ≤ 500
        omega
      · have et : t = wkD p B (keyF y ep) s q.1 d := by
          rw [et]
          unfold wkD
          rw [hGq, emk]
        have u3 : ∀ c, c ∉ LWk → τ2 c = τ1 c := fun c hc => t3.1 c (fun h9 => hc ((show ∀ c, c ∈ LG → c ∈ LWk by decide) c h9))
        refine next τ2 ?_ (fun c c1 c2 => by rw [u3 c c2, hF1 c c1 c2]) (fun j => by rw [u3 0 (by decide), h01 j])
        rw [ew]
        rw [et] at t1 t2
        refine hL1.put hB3 hplP hOA ?_ (by rw [ei]; exact t1) (by rw [ei, hGq]; exact t2) (by rw [ei]; exact t3.o)
        unfold wkD
        rw [tdM_fld]
        exact Grw.rf
    | inr t =>
      rw [hq2] at hOk
      obtain ⟨⟨k1, k2, k3, k4, k5, k6, k7⟩, k8, k9, k10⟩ := hOk
      have ew : wk1 p B (keyF y ep) s q = (fup s.1 (p * B + q.1) (stX t.1 t.2 (s.1 (p * B + q.1))), s.2) := by
        unfold wk1
        rw [hq2]
      rw [hq2] at hD2 hlen hDy next
      have h128 : (prB (Gs q.1) (.inr t)).getD 0 0 ≤ 127 := by
        show nI t.2.length ≤ nI 127
        exact (nI_leI (by omega) (by decide)).mpr (by omega)
      refine brt h128 ?_
      unfold wpX9_at
      rw [hat]
      dsimp only
      have epr : prB (Gs q.1) (.inr t) = stB t.1 t.2 := rfl
      rw [epr] at hlen hDy
      obtain ⟨z1, z2, z3, z4⟩ := stB_at (ack := t.1) (es := t.2)
      have hEn : EnR τ1 65 (at' + 2) t.1 t.2 := by
        refine ⟨by omega, ?_, ?_, fun k' hk' => ?_⟩
        · have := hDy 0 (by omega)
          rw [Nat.add_zero, z2] at this
          rw [hF1 65 (by decide) (by decide)]
          exact this
        · rw [hF1 65 (by decide) (by decide), hDy 1 (by omega), z3]
        · rw [hF1 65 (by decide) (by decide), show at' + 2 + 2 + k' = at' + 2 + (2 + k') by omega, hDy (2 + k') (by omega), z4]
      refine status_ok (T := T) (nc := (s.1 (p * B + q.1)).2.2.2.1) (bk := (s.1 (p * B + q.1)).2.1) (s := ((s.1 (p * B + q.1)).1, (s.1 (p * B + q.1)).2.2.1, (s.1 (p * B + q.1)).2.2.2.2)) hi6 rfl hEn k1 k2 k3 k4 hLs.1 hLs.2.1 k5 k8 k9 hLs.2.2.1 hLs.2.2.2 k7 k10 (fun τ2 t1 t2 t3 t4 t5 => ?_)
      have u3 : ∀ c, c ∉ LWk → τ2 c = τ1 c := fun c hc => t5.1 c (fun h9 => hc ((show ∀ c, c ∈ LR → c ∈ LWk by decide) c h9))
      refine next τ2 ?_ (fun c c1 c2 => by rw [u3 c c2, hF1 c c1 c2]) (fun j => by rw [u3 0 (by decide), h01 j])
      rw [ew]
      have hr2 : RmM τ2 (3 * p + q.1) (fldS (s.1 (opp B (p * B + q.1)))) (s.2 (p * B + q.1)) := hLr.of (fun c c1 c2 => t5.1 c (by unfold LR; simp only [List.mem_cons, List.not_mem_nil, or_false]; omega))
      have hput := hL1.put (τ' := τ2) (s := stX t.1 t.2 (s.1 (p * B + q.1))) (r := s.2 (p * B + q.1)) hB3 hplP hOA (by rw [stX_fld]; exact Grw.rf) (by rw [ei]; exact ⟨t1, t2, t3, t4⟩) (by rw [ei]; exact hr2) (by rw [ei]; exact t5.o)
      have er : fup s.2 (p * B + q.1) (s.2 (p * B + q.1)) = s.2 := by
        funext j
        unfold fup
        split
        · next e => rw [e]
        · rfl
      rw [er] at hput
      exact hput
