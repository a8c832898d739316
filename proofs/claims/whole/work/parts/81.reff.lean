/-! PURE: the reference: DATA comes -/
theorem set_comm (v : Nat → Nat) : setV2 (setV1 (ansV v)) = ansV (setV2 (setV1 v)) := by
  have a : ∀ u : Nat → Nat, ∀ k, k ≠ 6 → k ≠ 7 → ansV u k = u k := fun u k h6 h7 => by
    unfold ansV
    split
    · rfl
    · rw [vup_o h6, vup_o h7]
  have e1 : setV1 (ansV v) = if v 8 = 0 ∨ v 2 < v 5 then ansV v else vup (ansV v) 8 0 := by
    unfold setV1
    rw [a v 8 (by decide) (by decide), a v 2 (by decide) (by decide), a v 5 (by decide) (by decide)]
  have c8 : ∀ (u : Nat → Nat) (z : Nat), vup (ansV u) 8 z = ansV (vup u 8 z) := fun u z => by
    unfold ansV
    rw [vup_o (show (6 : Nat) ≠ 8 by decide), vup_o (show (4 : Nat) ≠ 8 by decide)]
    split
    · rfl
    · funext j
      unfold vup
      split <;> split <;> (try split) <;> (try rfl) <;> omega
  have c5 : ∀ (u : Nat → Nat) (z : Nat), vup (ansV u) 5 z = ansV (vup u 5 z) := fun u z => by
    unfold ansV
    rw [vup_o (show (6 : Nat) ≠ 5 by decide), vup_o (show (4 : Nat) ≠ 5 by decide)]
    split
    · rfl
    · funext j
      unfold vup
      split <;> split <;> (try split) <;> (try rfl) <;> omega
  have e1' : setV1 (ansV v) = ansV (setV1 v) := by
    rw [e1]
    unfold setV1
    split
    · rfl
    · exact c8 v 0
  have e2 : ∀ u : Nat → Nat, setV2 (ansV u) = ansV (setV2 u) := fun u => by
    unfold setV2
    rw [a u 8 (by decide) (by decide), a u 2 (by decide) (by decide), a u 3 (by decide) (by decide)]
    split
    · rw [c8, c5]
    · rfl
  rw [e1', e2]
theorem setV_ref {v : Nat → Nat} {x : Nat} {poll : Bool} (h : v 6 = 0 ∨ v 4 + 1 ≤ v 6 ∨ x < v 4) : setV x poll v = if poll then ansV (vup (setV2 (setV1 v)) 6 (x + 1)) else ansV (setV2 (setV1 v)) := by
  unfold setV
  rw [set_comm]
  cases poll with
  | false => rfl
  | true =>
    rw [if_pos rfl, if_pos rfl]
    have s4 : setV2 (setV1 v) 4 = v 4 ∧ setV2 (setV1 v) 6 = v 6 := by
      have q1 : ∀ u : Nat → Nat, setV1 u 4 = u 4 ∧ setV1 u 6 = u 6 := fun u => by
        unfold setV1
        split
        · exact ⟨rfl, rfl⟩
        · exact ⟨vup_o (by decide), vup_o (by decide)⟩
      have q2 : ∀ u : Nat → Nat, setV2 u 4 = u 4 ∧ setV2 u 6 = u 6 := fun u => by
        unfold setV2
        split
        · exact ⟨by rw [vup_o (by decide), vup_o (by decide)], by rw [vup_o (by decide), vup_o (by decide)]⟩
        · exact ⟨rfl, rfl⟩
      rw [(q2 _).1, (q2 _).2, (q1 _).1, (q1 _).2]
      exact ⟨rfl, rfl⟩
    generalize setV2 (setV1 v) = u at *
    by_cases e : u 6 = 0 ∨ u 4 + 1 ≤ u 6
    · have : ansV u = u := if_pos e
      rw [this]
    · have hx : x < u 4 := by omega
      have e1 : ansV u = vup (vup u 7 1) 6 0 := if_neg e
      rw [e1]
      have o4 : vup (vup (vup u 7 1) 6 0) 6 (x + 1) 4 = u 4 := by rw [vup_o (by decide), vup_o (by decide), vup_o (by decide)]
      have o6 : vup (vup (vup u 7 1) 6 0) 6 (x + 1) 6 = x + 1 := vup_s
      have p4 : vup u 6 (x + 1) 4 = u 4 := vup_o (by decide)
      have p6 : vup u 6 (x + 1) 6 = x + 1 := vup_s
      unfold ansV
      rw [o4, o6, p4, p6, if_neg (by omega), if_neg (by omega)]
      funext j
      unfold vup
      split
      · rfl
      · split <;> rfl
def LG : List Nat := [15, 18, 20, 21, 22, 23, 24, 33, 34, 35, 36, 37, 39, 41, 42, 43, 44, 45, 46, 47, 48, 49, 50, 51, 52, 53, 54, 55, 56, 57, 58, 59, 68, 69, 70, 71]
/-- what the handing needs, in the reference -/
def DlR (pc : Rpc) (G : Nat → List Cel) (s : Dst) : Prop := s.1 2 + 1 ≤ s.1 4
theorem RpM.all {τ : Sg} {s : Nat} {l : List Cel} {th : Nat → Bool} (h : RpM τ s l true th) (hc : cnt th 0 240 = l.length) : RpM τ s l true (fun k => decide (k < l.length)) := by
  obtain ⟨p1, p2, p3, p4, p5⟩ := h
  have hall : ∀ k, k < l.length → th k = true := by
    have hsp := cnt_split (f := th) (a := 0) (m := l.length) (240 - l.length)
    rw [show l.length + (240 - l.length) = 240 by omega] at hsp
    have h0 : cnt th (0 + l.length) (240 - l.length) = 0 := cnt_0 _ (fun k k1 k2 => by
      cases ek : th k with
      | false => rfl
      | true => have := p4 k ek; omega)
    have hc := (cnt_all (f := th) (a := 0) l.length).mp (by omega)
    exact fun k hk => hc k (Nat.zero_le _) (by omega)
  have he : ∀ k, th k = decide (k < l.length) := fun k => by
    by_cases hk : k < l.length
    · rw [hall k hk, decide_eq_true hk]
    · rw [decide_eq_false hk]
      cases ek : th k with
      | false => rfl
      | true => exact absurd (p4 k ek) hk
  exact ⟨p1, p2, fun k hk => by rw [p3 k hk, he], fun k hk => of_decide_eq_true hk, fun k hk ht => p5 k hk (by rw [he]; exact ht)⟩
theorem dc156 {p b i nc : Nat} {y ep : Int32} {G : Nat → List Cel} {pc : Rpc} {x8 x9 : Int32} {Gd : Dst → Prop} {Q : Sg → Prop} {τ0 : Sg} (hp : p < 2) (hb : b < 3) (hip : i = 3 * p + b) (hK0 : KyM τ0 y ep) (hG1 : ∀ s : Dst, Gd s → whl G (s.1 2) (s.1 3) pc (s.1 2) = true → DlV G pc s ∧ s.1 2 + 1 ≤ s.1 4) (hG2 : ∀ s : Dst, Gd s → whl G (s.1 2) (s.1 3) pc (s.1 2) = true → Gd (dlS G (ksI (keyF y ep) (8 * b + 4 * (1 - p))) nc s)) (hGb : ∀ s : Dst, Gd s → RvB s.1 ∧ s.1 2 ≤ s.1 4 ∧ clrP s.1 pc) : ∀ (m : Nat) (τ : Sg) (s : Dst), s.1 3 ≤ s.1 2 + m → Gd s → RsM τ i s.1 → RpsM τ i (s.1 2) G pc → HdM τ i nc s.2 → ObV nc s.2.2.2.1 s.2.2.2.2 → FrA LG i τ0 τ → (∀ (τ' : Sg) (t : Dst), t = dlL G pc (ksI (keyF y ep) (8 * b + 4 * (1 - p))) nc m s → Gd t → RsM τ' i t.1 → RpsM τ' i (t.1 2) G pc → HdM τ' i nc t.2 → FrA LG i τ0 τ' → wpX9_dataComes_L243 Q (nI i) x8 x9 τ') → wpX9_dataComes_L156 Q (m + 1) (nI p) (nI b) (nI i) x8 x9 τ := by
  have hi : i < 6 := by omega
  intro m
  induction m with
  | zero =>
    intro τ s hm hGd hS hP hH hV hF h
    obtain ⟨hb1, hb2, hcl⟩ := hGb s hGd
    have b2 := hb1 2 (by decide) (by decide)
    have b4 := hb1 4 (by decide) (by decide)
    have hw : whl G (s.1 2) (s.1 3) pc (s.1 2) = false := decide_eq_false (by omega)
    unfold wpX9_dataComes_L156
    rw [nI_clamp (n := i) (by omega), hS.g2]
    refine ⟨vin rfl hi (by decide), risWhole_ok hi hS hb1 hP hcl (Nat.le_refl _) (by omega) ?_⟩
    rw [hw]
    refine brt rfl ⟨vin rfl hi (by decide), vin rfl hi (by decide), ?_⟩
    rw [hS.g2, hS.g4]
    exact brt (nI_le hb2 (by omega)) (h τ s rfl hGd hS hP hH hF)
  | succ m ih =>
    intro τ s hm hGd hS hP hH hV hF h
    obtain ⟨hb1, hb2, hcl⟩ := hGb s hGd
    have b2 := hb1 2 (by decide) (by decide)
    have b4 := hb1 4 (by decide) (by decide)
    unfold wpX9_dataComes_L156
    rw [nI_clamp (n := i) (by omega), hS.g2]
    refine ⟨vin rfl hi (by decide), risWhole_ok hi hS hb1 hP hcl (Nat.le_refl _) (by omega) (br01 (fun e => ?_) (fun e => ?_))⟩
    · refine ⟨vin rfl hi (by decide), vin rfl hi (by decide), ?_⟩
      rw [hS.g2, hS.g4]
      refine brt (nI_le hb2 (by omega)) (h τ s ?_ hGd hS hP hH hF)
      unfold dlL
      rw [if_neg (by rw [e]; decide)]
    · obtain ⟨⟨d1, d2, d3, d4, d5, d6, d7⟩, d8⟩ := hG1 s hGd e
      have hw := of_decide_eq_true e
      have hpx := hP (s.1 2) (Nat.le_refl _) (by omega)
      rw [hw.2.2.1] at hpx
      rw [hS.g2]
      refine ⟨vin rfl hi (by decide), rhand_ok hp hb hip (by omega) (hK0.of (hF.1 0 (by decide)) (hF.1 67 (by decide))) (hpx.all hw.2.2.2) hH hV d7 (fun τ1 g1 g2 => ⟨vin rfl hi (by decide), ?_⟩)⟩
      have hS1 : RsM τ1 i s.1 := hS.of (fun c c1 c2 => by rw [g2.1 c (by unfold LH; simp only [List.mem_cons, List.not_mem_nil, or_false]; omega)])
      have hP1 : RpsM τ1 i (s.1 2) G pc := hP.of (fun c c1 c2 => g2.1 c (by unfold LH; simp only [List.mem_cons, List.not_mem_nil, or_false]; omega))
      rw [hS1.g2]
      refine rclear_ok hi (by omega) (fun τ2 k1 k2 k3 k4 => ?_)
      have hS2 : RsM τ2 i s.1 := hS1.of (fun c c1 c2 => by rw [k4.1 c (by unfold LC; simp only [List.mem_cons, List.not_mem_nil, or_false]; omega)])
      refine ⟨vin rfl hi (by decide), vin rfl hi (by decide), ?_⟩
      rw [hS2.g2, nI_1]
      rintro _ rfl
      have hS3 := hS2.put (c := 33) (x := s.1 2 + 1) (by decide) (by decide) (by decide)
      have epas : vup s.1 (rk 33) (s.1 2 + 1) = pasV s.1 := by
        unfold pasV
        rw [Nat.max_eq_left d8]
        funext j
        unfold vup
        by_cases e4 : j = 4
        · subst e4
          rfl
        · rw [if_neg e4]
          rfl
      rw [epas] at hS3
      have e2 : pasV s.1 2 = s.1 2 + 1 := by unfold pasV; rw [vup_o (by decide), vup_s]
      have e3 : pasV s.1 3 = s.1 3 := by unfold pasV; rw [vup_o (by decide), vup_o (by decide)]
      refine ih _ (dlS G (ksI (keyF y ep) (8 * b + 4 * (1 - p))) nc s) ?_ (hG2 s hGd e) hS3 ?_ ?_ (obV_hndL _ _ hV) ?_ (fun τ' t et => h τ' t ?_)
      · show pasV s.1 3 ≤ pasV s.1 2 + m
        rw [e2, e3]
        omega
      · show RpsM _ i (pasV s.1 2) G pc
        rw [e2]
        have base : RpsM τ2 i (s.1 2 + 1) G pc := by
          intro y y1 y2
          by_cases ey : y = s.1 2 + 32
          · subst ey
            rw [d5]
            have es : 32 * i + (s.1 2 + 32) % 32 = 32 * i + s.1 2 % 32 := by omega
            rw [es]
            exact ⟨k1, d6.1, fun k hk => by rw [k2 k hk]; rfl, fun k hk => absurd hk Bool.false_ne_true, fun k hk ht => absurd ht Bool.false_ne_true⟩
          · obtain ⟨q1, q2⟩ := k3 (32 * i + y % 32) (by omega)
            exact (hP1 y (by omega) (by omega)).of q1 q2
        exact base.of (fun c c1 c2 => up2_o (by omega))
      · obtain ⟨h1, h2, h3, h4⟩ := g1
        have uu : ∀ c, c ≠ 33 → c ∉ LC → up2 τ2 33 i (nI (s.1 2 + 1)) c = τ1 c := fun c c1 c2 => by rw [up2_o c1, k4.1 c c2]
        exact ⟨h1.of (fun c hc => uu c (by omega) (by unfold LC; simp only [List.mem_cons, List.not_mem_nil, or_false]; omega)), h2.of (fun c c1 c2 => uu c (by omega) (by unfold LC; simp only [List.mem_cons, List.not_mem_nil, or_false]; omega)), h3.of (fun c hc => uu c (by omega) (by unfold LC; simp only [List.mem_cons, List.not_mem_nil, or_false]; omega)), h4.of (fun c c1 c2 => uu c (by omega) (by unfold LC; simp only [List.mem_cons, List.not_mem_nil, or_false]; omega))⟩
      · exact ((hF.tr (g2.mono (by decide))).tr (k4.mono (by decide))).up (by decide) (fun _ => Nat.div_one i)
      · rw [et, dlL, if_pos e]
theorem dataComes_ok {τ : Sg} {p b i f0 x fr to : Nat} {y ep : Int32} {poll : Bool} {G : Nat → List Cel} {s : Smd} {r : Rmd} {Gd : Dst → Prop} {Q : Sg → Prop} (hp : p < 2) (hb : b < 3) (hip : i = 3 * p + b) (hK0 : KyM τ y ep) (hS : SmM τ i s) (hR : RmM τ i G r) (hOV : ObV s.2.2.2.1 s.2.2.2.2.1 s.2.2.2.2.2) (hRV : RvV r.1) (h7 : r.1 7 ≤ 1) (hcl : clrP r.1 r.2.1) (hw : wfF (G x)) (hto : to ≤ (G x).length) (hft : fr < to) (hD : ∀ k, k < (prB G (.inl (x, fr, to, poll))).length → τ 65 (f0 + k) = (prB G (.inl (x, fr, to, poll))).getD k 0) (hf : f0 + (prB G (.inl (x, fr, to, poll))).length ≤ 500) (hx1 : r.1 2 ≤ x + 32) (hx2 : x < r.1 2 + 31) (hx3 : x + 1 < 2 ^ 20) (hG0 : r.1 2 ≤ x → Gd (raiV G (pcu r.2.1 x ((r.2.1 x).1 || decide (to = (G x).length)) (orT (r.2.1 x).2 fr to)) (novV r.2.1 x fr to r.1), r.2.2.1, r.2.2.2, s.2.2.2.2)) (hG1 : ∀ t : Dst, Gd t → whl G (t.1 2) (t.1 3) (pcu r.2.1 x ((r.2.1 x).1 || decide (to = (G x).length)) (orT (r.2.1 x).2 fr to)) (t.1 2) = true → DlV G (pcu r.2.1 x ((r.2.1 x).1 || decide (to = (G x).length)) (orT (r.2.1 x).2 fr to)) t ∧ t.1 2 + 1 ≤ t.1 4) (hG2 : ∀ t : Dst, Gd t → whl G (t.1 2) (t.1 3) (pcu r.2.1 x ((r.2.1 x).1 || decide (to = (G x).length)) (orT (r.2.1 x).2 fr to)) (t.1 2) = true → Gd (dlS G (ksI (keyF y ep) (8 * b + 4 * (1 - p))) s.2.2.2.1 t)) (hGb : ∀ t : Dst, Gd t → (RvB t.1 ∧ t.1 2 ≤ t.1 4 ∧ clrP t.1 (pcu r.2.1 x ((r.2.1 x).1 || decide (to = (G x).length)) (orT (r.2.1 x).2 fr to))) ∧ (t.1 6 = 0 ∨ t.1 4 + 1 ≤ t.1 6 ∨ x < t.1 4)) (h : ∀ (τ' : Sg) (t : Smd × Rmd), t = tdM G (ksI (keyF y ep) (8 * b + 4 * (1 - p))) x fr to poll (s, r) → SmM τ' i t.1 → RmM τ' i G t.2 → FrA LG i τ τ' → Q τ') : wpX9_dataComes (nI p) (nI b) 65 (nI f0) (nI (prB G (.inl (x, fr, to, poll))).length) τ Q := by
  have hi : i < 6 := by omega
  obtain ⟨hS1, hS2, hS3, hS4⟩ := hS
  obtain ⟨hR1, hR2, hR3, hR4⟩ := hR
  obtain ⟨v1, v2, v3, v4, v5⟩ := hRV
  have b2 := v1 2 (by decide) (by decide)
  have b3 := v1 3 (by decide) (by decide)
  have hat : (3 : Int32) * nI p + nI b = nI i := by
    have : (3 : Int32) * nI p = nI (3 * p) := pk_mul 3 p
    rw [this, nI_add, hip]
  have epr : prB G (.inl (x, fr, to, poll)) = datL (G x) x fr to (decide (0 < fr ∨ to < (G x).length)) poll := rfl
  rw [epr] at hD hf ⊢
  have hlen := datL_len (l := G x) (x := x) (fr := fr) (to := to) (part := decide (0 < fr ∨ to < (G x).length)) (poll := poll)
  have d0 := hD 0 (by omega)
  have d1 := hD 1 (by omega)
  rw [Nat.add_zero, datL_0] at d0
  rw [datL_1, b128] at d1
  have e6 : (nI (x % 64) + nI (if decide (0 < fr ∨ to < (G x).length) = true ∧ to = (G x).length then 128 else 0)) &&& 63 = nI (x % 64) := by
    rw [nI_add]
    split
    · rw [a63 (by omega)]; congr 1; omega
    · rw [a63 (by omega)]; congr 1; omega
  have hm := meant_ok (x := x) (R := r.1 2) (e := 0) (Or.inl rfl) b2 hx1 (by omega)
  have e0 : nI (x % 64) + nI 0 = nI (x % 64) := by rw [nI_add]; rfl
  rw [e0] at hm
  have o : ∀ k, k ≠ 11 → vup r.1 11 (r.1 11 + 1) k = r.1 k := fun k hk => vup_o hk
  -- with the poll's bit
  have L37 : ∀ τ1 : Sg, RsM τ1 i (vup r.1 11 (r.1 11 + 1)) → (∀ c, c ≠ 41 → τ1 c = τ c) → FrA LG i τ τ1 → wpX9_dataComes_L37 Q (nI p) (nI b) 65 (nI f0) (nI (datL (G x) x fr to (decide (0 < fr ∨ to < (G x).length)) poll).length) (nI i) (b01 poll) τ1 := by
    intro τ1 hR1' ho hF1
    have h33 := hR1'.g2
    rw [o 2 (by decide)] at h33
    unfold wpX9_dataComes_L37 wpX9_meant
    rw [nI_clamp (n := i) (by omega), nI_1, nI_clamp (n := f0 + 1) (by omega), ho 65 (by decide), d1, e6, h33, hm]
    dsimp only
    rw [h33]
    have e32 : nI (r.1 2) + 32 = nI (r.1 2 + 32) := nI_add (r.1 2) 32
    rw [e32]
    refine ⟨vin rfl hi (by decide), vin rfl (by omega) (by decide), vin rfl hi (by decide), ?_⟩
    by_cases hx : r.1 2 ≤ x
    · rw [if_pos hx]
      refine pk_lt x (r.1 2 + 32) (fun _ => ?_) (fun hh => by omega)
      have hG0 := hG0 hx
      have hP1 : RpsM τ1 i (r.1 2) G r.2.1 := hR2.of (fun c c1 c2 => ho c (by omega))
      have hD1 : ∀ k, k < (datL (G x) x fr to (decide (0 < fr ∨ to < (G x).length)) poll).length → τ1 65 (f0 + k) = (datL (G x) x fr to (decide (0 < fr ∨ to < (G x).length)) poll).getD k 0 := fun k hk => by rw [ho 65 (by decide)]; exact hD k hk
      refine lays_ok hi hP1 hx (by omega) (by omega) hw hto hft rfl hD1 hf (fun τ2 g1 g2 => ?_)
      have em : tdM G (ksI (keyF y ep) (8 * b + 4 * (1 - p))) x fr to poll (s, r) = ((s.1, s.2.1, s.2.2.1, s.2.2.2.1, (tdN G (ksI (keyF y ep) (8 * b + 4 * (1 - p))) x fr to poll s r).2.2.2), (setV x poll (tdN G (ksI (keyF y ep) (8 * b + 4 * (1 - p))) x fr to poll s r).1, pcu r.2.1 x ((r.2.1 x).1 || decide (to = (G x).length)) (orT (r.2.1 x).2 fr to), (tdN G (ksI (keyF y ep) (8 * b + 4 * (1 - p))) x fr to poll s r).2.1, (tdN G (ksI (keyF y ep) (8 * b + 4 * (1 - p))) x fr to poll s r).2.2.1)) := by
        unfold tdM
        rw [if_neg (by show ¬ x < r.1 2; omega)]
      rw [em] at h
      have etd : tdN G (ksI (keyF y ep) (8 * b + 4 * (1 - p))) x fr to poll s r = dlL G (pcu r.2.1 x ((r.2.1 x).1 || decide (to = (G x).length)) (orT (r.2.1 x).2 fr to)) (ksI (keyF y ep) (8 * b + 4 * (1 - p))) s.2.2.2.1 32 (raiV G (pcu r.2.1 x ((r.2.1 x).1 || decide (to = (G x).length)) (orT (r.2.1 x).2 fr to)) (novV r.2.1 x fr to r.1), r.2.2.1, r.2.2.2, s.2.2.2.2) := rfl
      have en : ∀ k, k ≠ 3 → k ≠ 11 → k ≠ 12 → novV r.2.1 x fr to r.1 k = r.1 k := fun k k1 k2 k3 => by
        unfold novV novV1
        rw [vup_o k1]
        split
        · rw [vup_o k3, vup_o k2]
        · rw [vup_o k2]
      have en3 : novV r.2.1 x fr to r.1 3 = max (r.1 3) (x + 1) := by unfold novV; exact vup_s
      have hbn : RvB (novV r.2.1 x fr to r.1) := by
        unfold novV
        refine RvB.put ?_ (by omega)
        unfold novV1
        intro k k1 k2
        split
        · rw [vup_o (by omega), vup_o (by omega)]; exact v1 k k1 k2
        · rw [vup_o (by omega)]; exact v1 k k1 k2
      have hcl' : clrP (novV r.2.1 x fr to r.1) (pcu r.2.1 x ((r.2.1 x).1 || decide (to = (G x).length)) (orT (r.2.1 x).2 fr to)) := by
        intro z hz
        rw [en3] at hz
        unfold pcu
        rw [if_neg (by omega)]
        exact hcl z (by omega)
      have u2 : ∀ c, c ∉ LL → c ≠ 41 → τ2 c = τ c := fun c c1 c2 => by rw [g2.1 c c1, ho c c2]
      have hF2 : FrA LG i τ τ2 := hF1.tr (g2.mono (by decide))
      have hR2' : RsM τ2 i (vup r.1 11 (r.1 11 + 1)) := hR1'.of (fun c c1 c2 => by rw [g2.1 c (by unfold LL; simp only [List.mem_cons, List.not_mem_nil, or_false]; omega)])
      generalize hpc' : pcu r.2.1 x ((r.2.1 x).1 || decide (to = (G x).length)) (orT (r.2.1 x).2 fr to) = pc' at *
      generalize htd : tdN G (ksI (keyF y ep) (8 * b + 4 * (1 - p))) x fr to poll s r = td at *
      -- the numbers at the end
      have fin : ∀ (τ9 : Sg), RsM τ9 i (setV x poll td.1) → RpsM τ9 i (td.1 2) G pc' → HdM τ9 i s.2.2.2.1 td.2 → (∀ c, c ≤ 14 ∨ (25 ≤ c ∧ c ≤ 32) ∨ (16 ≤ c ∧ c ≤ 17) ∨ c = 19 → τ9 c = τ c) → FrA LG i τ τ9 → Q τ9 := by
        intro τ9 f1 f2 f3 f4 f5
        obtain ⟨q1, q2, q3, q4⟩ := f3
        refine h τ9 _ rfl ⟨hS1.of (fun c c1 c2 => f4 c (by omega)), hS2.of (fun c hc => f4 c (by omega)), q3, q4⟩ ⟨f1, ?_, q1, q2⟩ f5
        have es : setV x poll td.1 2 = td.1 2 := by
          have ea : ∀ u : Nat → Nat, ansV u 2 = u 2 := fun u => by
            unfold ansV
            split
            · rfl
            · rw [vup_o (by decide), vup_o (by decide)]
          have e1 : ∀ u : Nat → Nat, setV1 u 2 = u 2 := fun u => by
            unfold setV1
            split
            · rfl
            · rw [vup_o (by decide)]
          have e2 : ∀ u : Nat → Nat, setV2 u 2 = u 2 := fun u => by
            unfold setV2
            split
            · rw [vup_o (by decide), vup_o (by decide)]
            · rfl
          unfold setV
          split
          · rw [ea, vup_o (by decide), e2, e1, ea]
          · rw [e2, e1, ea]
        show RpsM τ9 i (setV x poll td.1 2) G pc'
        rw [es]
        exact f2
      have L243 : ∀ (τ5 : Sg), Gd td → RsM τ5 i td.1 → RpsM τ5 i (td.1 2) G pc' → HdM τ5 i s.2.2.2.1 td.2 → (∀ c, c ≤ 14 ∨ (25 ≤ c ∧ c ≤ 32) ∨ (16 ≤ c ∧ c ≤ 17) ∨ c = 19 → τ5 c = τ c) → FrA LG i τ τ5 → wpX9_dataComes_L243 Q (nI i) (b01 poll) (nI x) τ5 := by
        intro τ5 tG f1 f2 f3 f4 f5
        obtain ⟨⟨tb, tb2, tcl⟩, tp⟩ := hGb td tG
        have hset := setV_ref (v := td.1) (x := x) (poll := poll) tp
        have c8 := tb 8 (by decide) (by decide)
        have c2 := tb 2 (by decide) (by decide)
        have c5 := tb 5 (by decide) (by decide)
        have c3 := tb 3 (by decide) (by decide)
        -- from the numbers changed so far
        have keep : ∀ (τ6 : Sg) (u : Nat → Nat), RsM τ6 i u → (∀ c, c ∉ [36, 37, 39, 43] → τ6 c = τ5 c) → FrA [36, 37, 39, 43] i τ5 τ6 → u = setV x poll td.1 → Q τ6 := by
          intro τ6 u q1 q2 q3 eu
          rw [eu] at q1
          obtain ⟨h1, h2, h3, h4⟩ := f3
          refine fin τ6 q1 (f2.of (fun c c1 c2 => q2 c (by simp only [List.mem_cons, List.not_mem_nil, or_false]; omega))) ⟨h1.of (fun c hc => q2 c (by simp only [List.mem_cons, List.not_mem_nil, or_false]; omega)), h2.of (fun c c1 c2 => q2 c (by simp only [List.mem_cons, List.not_mem_nil, or_false]; omega)), h3.of (fun c hc => q2 c (by simp only [List.mem_cons, List.not_mem_nil, or_false]; omega)), h4.of (fun c c1 c2 => q2 c (by simp only [List.mem_cons, List.not_mem_nil, or_false]; omega))⟩ (fun c hc => by rw [q2 c (by simp only [List.mem_cons, List.not_mem_nil, or_false]; omega)]; exact f4 c hc) (f5.tr (q3.mono (by decide)))
        have L328 : ∀ (τ6 : Sg) (u : Nat → Nat), u = setV2 (setV1 td.1) → RvB u → RsM τ6 i u → FrA [36, 37, 39, 43] i τ5 τ6 → wpX9_dataComes_L328 Q (nI i) (b01 poll) (nI x) τ6 := by
          intro τ6 u eu ub q1 q3
          unfold wpX9_dataComes_L328
          refine br01 (fun ep => ?_) (fun ep => ?_)
          · unfold wpX9_dataComes_L342
            refine asks_ok hi q1 ub (fun τ7 z1 z2 => keep τ7 _ z1 (fun c hc => ?_) (q3.tr (z2.mono (by decide))) ?_)
            · exact (q3.tr (z2.mono (by decide))).1 c hc
            · rw [hset, ep, eu]
              rfl
          · rw [nI_clamp (n := i) (by omega)]
            refine ⟨vin rfl hi (by decide), ?_⟩
            rintro _ rfl
            unfold wpX9_dataComes_L342
            have e9 : nI x = nI (x + 1) - 1 := (nI_pred x).symm
            rw [e9]
            have q3' := q3.up (c := 39) (k := i) (v := nI (x + 1) - 1) (by decide) (fun _ => Nat.div_one i)
            refine asks_ok hi q1.put6 (ub.put (by omega)) (fun τ7 z1 z2 => keep τ7 _ z1 (fun c hc => (q3'.tr (z2.mono (by decide))).1 c hc) (q3'.tr (z2.mono (by decide))) ?_)
            rw [hset, ep, eu, if_pos rfl]
        have L278 : ∀ (τ6 : Sg) (u : Nat → Nat), u = setV1 td.1 → RvB u → RsM τ6 i u → FrA [36, 37, 39, 43] i τ5 τ6 → wpX9_dataComes_L278 Q (nI i) (b01 poll) (nI x) τ6 := by
          intro τ6 u eu ub q1 q3
          have u8 := ub 8 (by decide) (by decide)
          have u2 := ub 2 (by decide) (by decide)
          have u3 := ub 3 (by decide) (by decide)
          unfold wpX9_dataComes_L278
          rw [nI_clamp (n := i) (by omega), q1.g8, q1.g3, q1.g2]
          refine ⟨vin rfl hi (by decide), fun hne => ?_, fun he => ⟨vin rfl hi (by decide), vin rfl hi (by decide), pk_le (u 3) (u 2) (fun hh => ?_) (fun hh => ⟨vin rfl hi (by decide), ?_⟩)⟩⟩
          · refine L328 τ6 u ?_ ub q1 q3
            rw [← eu]
            unfold setV2
            rw [if_neg (fun hh => hne (by rw [hh.1]; rfl))]
          · refine L328 τ6 u ?_ ub q1 q3
            rw [← eu]
            unfold setV2
            rw [if_neg (by omega)]
          · have he : u 8 = 0 := (nI_eq (a := u 8) (b := 0) (by omega) (by decide)).mp he
            rintro _ rfl
            refine ⟨vin rfl hi (by decide), vin rfl hi (by decide), ?_⟩
            rintro _ rfl
            rw [up2_o (d := 34) (by decide), q1.g3]
            refine L328 _ (vup (vup u 8 6) 5 (u 3)) ?_ ((ub.put (by decide)).put (by omega)) ((q1.put (c := 37) (x := 6) (by decide) (by decide) (by decide)).put (c := 36) (by decide) (by decide) (by decide)) ((q3.up (by decide) (fun _ => Nat.div_one i)).up (by decide) (fun _ => Nat.div_one i))
            rw [← eu]
            unfold setV2
            rw [if_pos ⟨he, hh⟩]
        unfold wpX9_dataComes_L243
        rw [nI_clamp (n := i) (by omega), f1.g8, f1.g2, f1.g5]
        refine ⟨vin rfl hi (by decide), pk_le (td.1 8) 0 (fun hh => ?_) (fun hh => ⟨vin rfl hi (by decide), vin rfl hi (by decide), pk_lt (td.1 2) (td.1 5) (fun h9 => ?_) (fun h9 => ⟨vin rfl hi (by decide), ?_⟩)⟩)⟩
        · exact L278 τ5 td.1 (by unfold setV1; rw [if_pos (Or.inl (by omega))]) tb f1 FrA.rf
        · exact L278 τ5 td.1 (by unfold setV1; rw [if_pos (Or.inr h9)]) tb f1 FrA.rf
        · rintro _ rfl
          exact L278 _ (vup td.1 8 0) (by unfold setV1; rw [if_neg (by omega)]) (tb.put (by decide)) (f1.put (c := 37) (x := 0) (by decide) (by decide) (by decide)) (FrA.rf.up (by decide) (fun _ => Nat.div_one i))
      -- the window goes on
      have L150 : ∀ (τ3 : Sg), RsM τ3 i (novV r.2.1 x fr to r.1) → RpsM τ3 i (r.1 2) G pc' → (∀ c, c ≤ 32 ∨ 49 ≤ c → τ3 c = τ c) → FrA LG i τ τ3 → wpX9_dataComes_L150 Q (nI p) (nI b) (nI i) (b01 poll) (nI x) τ3 := by
        intro τ3 f1 f2 f3 f5
        unfold wpX9_dataComes_L150
        refine goOn_ok hi f1 hbn (by rw [en 2 (by decide) (by decide) (by decide)]; exact f2) hcl' (by rw [en 2 (by decide) (by decide) (by decide), en 4 (by decide) (by decide) (by decide)]; exact v2) (by rw [en 4 (by decide) (by decide) (by decide), en3]; omega) (by rw [en3, en 2 (by decide) (by decide) (by decide)]; omega) (fun τ4 q1 q2 => ?_)
        have er2 : raiV G pc' (novV r.2.1 x fr to r.1) 2 = r.1 2 := by
          unfold raiV
          rw [vup_o (by decide)]
          exact en 2 (by decide) (by decide) (by decide)
        have er3 : raiV G pc' (novV r.2.1 x fr to r.1) 3 = max (r.1 3) (x + 1) := by
          unfold raiV
          rw [vup_o (by decide)]
          exact en3
        have u4 : ∀ c, c ≤ 32 ∨ 49 ≤ c → τ4 c = τ c := fun c hc => by rw [q2.1 c (by simp only [List.mem_cons, List.not_mem_nil, or_false]; omega), f3 c hc]
        refine ⟨33, dc156 (nc := s.2.2.2.1) (G := G) (pc := pc') (Gd := Gd) (τ0 := τ4) hp hb hip (hK0.of (u4 0 (by omega)) (u4 67 (by omega))) hG1 hG2 (fun t ht => (hGb t ht).1) 32 τ4 (raiV G pc' (novV r.2.1 x fr to r.1), r.2.2.1, r.2.2.2, s.2.2.2.2) ?_ hG0 q1 ?_ ⟨hR3.of (fun c hc => u4 c (by omega)), hR4.of (fun c c1 c2 => u4 c (by omega)), hS3.of (fun c hc => u4 c (by omega)), hS4.of (fun c c1 c2 => u4 c (by omega))⟩ hOV FrA.rf (fun τ5 t et tG t1 t2 t3 t4 => ?_)⟩
        · show raiV G pc' (novV r.2.1 x fr to r.1) 3 ≤ raiV G pc' (novV r.2.1 x fr to r.1) 2 + 32
          rw [er2, er3]
          omega
        · show RpsM τ4 i (raiV G pc' (novV r.2.1 x fr to r.1) 2) G pc'
          rw [er2]
          exact f2.of (fun c c1 c2 => q2.1 c (by simp only [List.mem_cons, List.not_mem_nil, or_false]; omega))
        · have et' : t = td := by rw [et, etd]
          subst et'
          exact L243 τ5 tG t1 t2 t3 (fun c hc => by rw [t4.1 c (by unfold LG; simp only [List.mem_cons, List.not_mem_nil, or_false]; omega), u4 c (by omega)]) ((f5.tr (q2.mono (by decide))).tr t4)
      have L127 : ∀ (τ3 : Sg), RsM τ3 i (novV1 r.2.1 x fr to r.1) → RpsM τ3 i (r.1 2) G pc' → (∀ c, c ≤ 32 ∨ 49 ≤ c → τ3 c = τ c) → FrA LG i τ τ3 → wpX9_dataComes_L127 Q (nI p) (nI b) (nI i) (b01 poll) (nI x) τ3 := by
        intro τ3 f1 f2 f3 f5
        have e3 : novV1 r.2.1 x fr to r.1 3 = r.1 3 := by
          unfold novV1
          split
          · rw [vup_o (by decide), vup_o (by decide)]
          · rw [vup_o (by decide)]
        unfold wpX9_dataComes_L127
        rw [nI_clamp (n := i) (by omega), f1.g3, e3]
        refine ⟨vin rfl hi (by decide), pk_lt x (r.1 3) (fun hh => ?_) (fun hh => ⟨vin rfl hi (by decide), ?_⟩)⟩
        · refine L150 τ3 ?_ f2 f3 f5
          have : novV r.2.1 x fr to r.1 = novV1 r.2.1 x fr to r.1 := by
            unfold novV
            rw [Nat.max_eq_left (by omega)]
            funext j
            unfold vup
            split
            · next ej => rw [ej, e3]
            · rfl
          rw [this]
          exact f1
        · rw [nI_1]
          rintro _ rfl
          refine L150 _ ?_ (f2.of (fun c c1 c2 => up2_o (by omega))) (fun c hc => by rw [up2_o (by omega)]; exact f3 c hc) (f5.up (by decide) (fun _ => Nat.div_one i))
          have := f1.put (c := 34) (x := x + 1) (by decide) (by decide) (by decide)
          unfold novV
          rw [Nat.max_eq_right (by omega)]
          exact this
      have u3 : ∀ c, c ≤ 32 ∨ 49 ≤ c → τ2 c = τ c := fun c hc => u2 c (by unfold LL; simp only [List.mem_cons, List.not_mem_nil, or_false]; omega) (by omega)
      refine br01' (fun ef => ?_) (fun ef => ?_)
      · have ef := of_decide_eq_false ef
        have ef : cnt (orT (r.2.1 x).2 fr to) 0 240 = cnt (r.2.1 x).2 0 240 := Classical.not_not.mp ef
        refine ⟨vin rfl hi (by decide), vin rfl hi (by decide), ?_⟩
        rw [hR2'.g12, o 12 (by decide), nI_1]
        rintro _ rfl
        refine L127 _ ?_ (g1.of (fun c c1 c2 => up2_o (by omega))) (fun c hc => by rw [up2_o (by omega)]; exact u3 c hc) (hF2.up (by decide) (fun _ => Nat.div_one i))
        unfold novV1
        rw [if_pos ef]
        exact hR2'.put (c := 42) (by decide) (by decide) (by decide)
      · have ef := of_decide_eq_true ef
        refine L127 τ2 ?_ g1 u3 hF2
        unfold novV1
        rw [if_neg ef]
        exact hR2'
    · rw [if_neg hx]
      refine pk_lt (x + 64) (r.1 2 + 32) (fun hh => by omega) (fun _ => ⟨vin rfl hi (by decide), vin rfl hi (by decide), ?_⟩)
      rw [hR1'.g12, o 12 (by decide), nI_1]
      rintro _ rfl
      have em : tdM G (ksI (keyF y ep) (8 * b + 4 * (1 - p))) x fr to poll (s, r) = (s, oldV poll r.1, r.2) := by
        unfold tdM
        rw [if_pos (by show x < r.1 2; omega)]
      rw [em] at h
      have hR3' := hR1'.put (c := 42) (x := r.1 12 + 1) (by decide) (by decide) (by decide)
      have eo2 : oldV poll r.1 2 = r.1 2 := by unfold oldV; rw [vup_o (by decide), vup_o (by decide), vup_o (by decide)]
      have fin : ∀ τ9 : Sg, RsM τ9 i (oldV poll r.1) → (∀ c, c ≠ 41 → c ≠ 42 → c ≠ 43 → τ9 c = τ c) → FrA LG i τ τ9 → Q τ9 := fun τ9 q1 q2 q3 => h τ9 _ rfl (SmM.of ⟨hS1, hS2, hS3, hS4⟩ (fun c c1 c2 c3 => q2 c (by omega) (by omega) (by omega))) ⟨q1, by show RpsM τ9 i (oldV poll r.1 2) G r.2.1; rw [eo2]; exact hR2.of (fun c c1 c2 => q2 c (by omega) (by omega) (by omega)), hR3.of (fun c hc => q2 c (by omega) (by omega) (by omega)), hR4.of (fun c c1 c2 => q2 c (by omega) (by omega) (by omega))⟩ q3
      have hF3 := hF1.up (c := 42) (k := i) (v := nI (r.1 12 + 1)) (by decide) (fun _ => Nat.div_one i)
      refine br01 (fun ep => fin _ ?_ (fun c c1 c2 c3 => by rw [up2_o c2, ho c c1]) hF3) (fun ep => ⟨vin rfl hi (by decide), ?_⟩)
      · have : oldV poll r.1 = vup (vup r.1 11 (r.1 11 + 1)) (rk 42) (r.1 12 + 1) := by
          unfold oldV
          show vup (vup (vup r.1 11 (r.1 11 + 1)) 12 (r.1 12 + 1)) 7 _ = vup (vup r.1 11 (r.1 11 + 1)) 12 (r.1 12 + 1)
          funext j
          by_cases e7 : j = 7
          · subst e7
            rw [vup_s, vup_o (by decide), vup_o (by decide)]
            split
            · next hh => exact hh.1.symm
            · next hh =>
              have : ¬ r.1 7 = 0 := fun h0 => hh ⟨h0, ep⟩
              omega
          · rw [vup_o e7]
        rw [this]
        exact hR3'
      · rintro _ rfl
        refine fin _ ?_ (fun c c1 c2 c3 => by rw [up2_o c3, up2_o c2, ho c c1]) (hF3.up (by decide) (fun _ => Nat.div_one i))
        have : oldV poll r.1 = vup (vup (vup r.1 11 (r.1 11 + 1)) (rk 42) (r.1 12 + 1)) (rk 43) 1 := by
          unfold oldV
          rw [if_neg (by rw [ep]; simp)]
          rfl
        rw [this]
        exact hR3'.put (c := 43) (x := 1) (by decide) (by decide) (by decide)
  unfold wpX9_dataComes wpX9_at
  rw [hat]
  dsimp only
  rw [nI_clamp (n := i) (by omega), hR1.g11, nI_1]
  refine ⟨vin rfl hi (by decide), vin rfl hi (by decide), ?_⟩
  rintro _ rfl
  refine ⟨vin rfl (by omega) (by decide), ?_⟩
  rw [nI_clamp (n := f0) (by omega), up2_o (d := 65) (by decide), d0]
  rintro _ rfl
  have go := L37 _ (hR1.put (c := 41) (x := r.1 11 + 1) (by decide) (by decide) (by decide)) (fun c hc => up2_o hc) (FrA.rf.up (by decide) (fun _ => Nat.div_one i))
  refine brbit hdI_32 (fun e => ?_) (fun e => ?_)
  · rw [e] at go ⊢
    exact go
  · rw [e] at go ⊢
    exact go
