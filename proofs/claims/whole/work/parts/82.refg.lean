/-! PURE: the reference: timers -/
theorem vup_cm {v : Nat → Nat} {k j x z : Nat} (h : k ≠ j) : vup (vup v k x) j z = vup (vup v j z) k x := by
  funext q
  unfold vup
  by_cases e1 : q = j
  · by_cases e2 : q = k
    · exact absurd (e2.symm.trans e1) h
    · rw [if_pos e1, if_neg e2, if_pos e1]
  · by_cases e2 : q = k
    · rw [if_neg e1, if_pos e2, if_pos e2]
    · rw [if_neg e1, if_neg e2, if_neg e2, if_neg e1]
theorem ansV_k {v : Nat → Nat} {k : Nat} (h6 : k ≠ 6) (h7 : k ≠ 7) : ansV v k = v k := by
  unfold ansV
  split
  · rfl
  · rw [vup_o h6, vup_o h7]
theorem ansV_9 {v : Nat → Nat} {z : Nat} : ansV (vup v 9 z) = vup (ansV v) 9 z := by
  unfold ansV
  rw [vup_o (show (6 : Nat) ≠ 9 by decide), vup_o (show (4 : Nat) ≠ 9 by decide)]
  split
  · rfl
  · rw [vup_cm (k := 9) (j := 7) (by decide), vup_cm (k := 9) (j := 6) (by decide)]
theorem rstV_9 {v : Nat → Nat} {z : Nat} : rstV (vup v 9 z) = vup (rstV v) 9 z := by
  unfold rstV
  rw [vup_o (show (3 : Nat) ≠ 9 by decide), vup_o (show (4 : Nat) ≠ 9 by decide)]
  split
  · rfl
  · rw [vup_cm (k := 9) (j := 8) (by decide), vup_cm (k := 9) (j := 5) (by decide)]
theorem raiV_9 {G : Nat → List Cel} {pc : Rpc} {v : Nat → Nat} {z : Nat} : raiV G pc (vup v 9 z) = vup (raiV G pc v) 9 z := by
  unfold raiV
  rw [vup_o (show (2 : Nat) ≠ 9 by decide), vup_o (show (3 : Nat) ≠ 9 by decide), vup_o (show (4 : Nat) ≠ 9 by decide), vup_cm (k := 9) (j := 4) (by decide)]
theorem gupV_9 {G : Nat → List Cel} {pc : Rpc} {v : Nat → Nat} {z : Nat} : gupV G pc (vup v 9 z) = vup (gupV G pc v) 9 z := by
  unfold gupV
  rw [vup_o (show (4 : Nat) ≠ 9 by decide), vup_o (show (5 : Nat) ≠ 9 by decide), vup_cm (k := 9) (j := 4) (by decide), raiV_9, vup_cm (k := 9) (j := 7) (by decide), ansV_9, rstV_9]
theorem tmR8_9 {G : Nat → List Cel} {pc : Rpc} {v : Nat → Nat} {z : Nat} : tmR8 G pc (vup v 9 z) = vup (tmR8 G pc v) 9 z := by
  unfold tmR8
  rw [vup_o (show (8 : Nat) ≠ 9 by decide)]
  split
  · rfl
  · split
    · rw [vup_cm (k := 9) (j := 8) (by decide), gupV_9]
    · rw [vup_cm (k := 9) (j := 8) (by decide)]
theorem rstV_k {v : Nat → Nat} {k : Nat} (h8 : k ≠ 8) (h5 : k ≠ 5) : rstV v k = v k := by
  unfold rstV
  split
  · rfl
  · rw [vup_o h5, vup_o h8]
theorem gupV_k {G : Nat → List Cel} {pc : Rpc} {v : Nat → Nat} {k : Nat} (h4 : k ≠ 4) (h5 : k ≠ 5) (h6 : k ≠ 6) (h7 : k ≠ 7) (h8 : k ≠ 8) : gupV G pc v k = v k := by
  unfold gupV
  rw [rstV_k h8 h5, ansV_k h6 h7, vup_o h7]
  unfold raiV
  rw [vup_o h4, vup_o h4]
theorem tmR8_k {G : Nat → List Cel} {pc : Rpc} {v : Nat → Nat} {k : Nat} (h4 : k ≠ 4) (h5 : k ≠ 5) (h6 : k ≠ 6) (h7 : k ≠ 7) (h8 : k ≠ 8) : tmR8 G pc v k = v k := by
  unfold tmR8
  split
  · rfl
  · split
    · rw [gupV_k h4 h5 h6 h7 h8, vup_o h8]
    · rw [vup_o h8]
theorem tmR_k {G : Nat → List Cel} {pc : Rpc} {v : Nat → Nat} {k : Nat} (h4 : k ≠ 4) (h5 : k ≠ 5) (h6 : k ≠ 6) (h7 : k ≠ 7) (h8 : k ≠ 8) (h9 : k ≠ 9) : tmR G pc v k = v k := by
  unfold tmR
  rw [tmR8_k h4 h5 h6 h7 h8]
  split
  · rfl
  · rw [vup_o h9]
theorem tmR_ref {G : Nat → List Cel} {pc : Rpc} {v u : Nat → Nat} (h : u = tmR8 G pc v) : (if u 9 = 0 then u else vup u 9 (u 9 - 1)) = tmR G pc v := by
  have e9 : u 9 = v 9 := by rw [h]; exact tmR8_k (by decide) (by decide) (by decide) (by decide) (by decide)
  unfold tmR
  rw [e9]
  split
  · exact h
  · rw [tmR8_9, h]
def LTr : List Nat := [35, 36, 37, 38, 39, 43]
theorem rt217 {τ : Sg} {i : Nat} {u : Nat → Nat} {Q : Sg → Prop} (hi : i < 6) (hS : RsM τ i u) (hb : RvB u) (h : ∀ τ' : Sg, RsM τ' i (if u 9 = 0 then u else vup u 9 (u 9 - 1)) → FrA LTr i τ τ' → Q τ') : wpX9_timers_L217 Q (nI i) τ := by
  have b9 := hb 9 (by decide) (by decide)
  unfold wpX9_timers_L217
  rw [nI_clamp (n := i) (by omega), hS.g9]
  refine ⟨vin rfl hi (by decide), pk_le (u 9) 0 (fun hh => ?_) (fun hh => ⟨vin rfl hi (by decide), vin rfl hi (by decide), ?_⟩)⟩
  · refine h τ ?_ FrA.rf
    rw [if_pos (by omega)]
    exact hS
  · have e : nI (u 9) - 1 = nI (u 9 - 1) := pk_sub (a := u 9) (b := 1) (by omega)
    rw [e]
    rintro _ rfl
    refine h _ ?_ (FrA.rf.up (by decide) (fun _ => Nat.div_one i))
    rw [if_neg (by omega)]
    exact hS.put (c := 38) (by decide) (by decide) (by decide)
theorem rt165 {τ : Sg} {i : Nat} {w : Nat → Nat} {G : Nat → List Cel} {pc : Rpc} {Q : Sg → Prop} (hi : i < 6) (hS : RsM τ i w) (hb : RvB w) (hP : RpsM τ i (w 2) G pc) (hc : clrP w pc) (h2 : w 2 ≤ w 4) (h3 : w 4 ≤ w 3) (h4 : w 3 ≤ w 2 + 31) (h : ∀ (τ' : Sg) (u : Nat → Nat), u = rstV (ansV (vup (raiV G pc w) 7 1)) → RvB u → RsM τ' i u → FrA LTr i τ τ' → wpX9_timers_L217 Q (nI i) τ') : wpX9_timers_L165 Q (nI i) τ := by
  unfold wpX9_timers_L165
  refine goOn_ok hi hS hb hP hc h2 h3 h4 (fun τ1 g1 g2 => ⟨vin rfl hi (by decide), ?_⟩)
  rw [nI_clamp (n := i) (by omega)]
  rintro _ rfl
  have hbr := hb.rai (G := G) (pc := pc) h3
  have hbr7 : RvB (vup (raiV G pc w) 7 1) := hbr.put (by decide)
  have g1' : RsM (up2 τ1 43 i 1) i (vup (raiV G pc w) 7 1) := g1.put (c := 43) (x := 1) (by decide) (by decide) (by decide)
  have g2' : FrA LTr i τ (up2 τ1 43 i 1) := (g2.mono (by decide)).up (by decide) (fun _ => Nat.div_one i)
  generalize up2 τ1 43 i 1 = τ2 at *
  refine asks_ok hi g1' hbr7 (fun τ3 k1 k2 => ⟨vin rfl hi (by decide), vin rfl hi (by decide), ?_⟩)
  have hba := hbr7.ans
  have hF : FrA LTr i τ τ3 := g2'.tr (k2.mono (by decide))
  generalize hu : ansV (vup (raiV G pc w) 7 1) = u at *
  have b3 := hba 3 (by decide) (by decide)
  have b4 := hba 4 (by decide) (by decide)
  rw [k1.g3, k1.g4]
  refine pk_le (u 3) (u 4) (fun hh => h τ3 u ?_ hba k1 hF) (fun hh => ⟨vin rfl hi (by decide), ?_⟩)
  · unfold rstV
    rw [if_pos hh]
  · rintro _ rfl
    refine ⟨vin rfl hi (by decide), vin rfl hi (by decide), ?_⟩
    rintro _ rfl
    rw [up2_o (d := 34) (by decide), k1.g3]
    refine h _ (vup (vup u 8 6) 5 (u 3)) ?_ ((hba.put (by decide)).put b3) ((k1.put (c := 37) (x := 6) (by decide) (by decide) (by decide)).put (c := 36) (by decide) (by decide) (by decide)) ((hF.up (by decide) (fun _ => Nat.div_one i)).up (by decide) (fun _ => Nat.div_one i))
    unfold rstV
    rw [if_neg (by omega)]
theorem rt110 {τ : Sg} {i : Nat} {v : Nat → Nat} {G : Nat → List Cel} {pc : Rpc} {Q : Sg → Prop} (hi : i < 6) (hS : RsM τ i v) (hb : RvB v) (hP : RpsM τ i (v 2) G pc) (hc : clrP v pc) (h2 : v 2 ≤ v 4) (h3 : v 4 ≤ v 3) (h5 : v 5 ≤ v 3) (h4 : v 3 ≤ v 2 + 31) (h : ∀ τ' : Sg, RsM τ' i (tmR G pc v) → FrA LTr i τ τ' → Q τ') : wpX9_timers_L110 Q (nI i) τ := by
  have b8 := hb 8 (by decide) (by decide)
  have b5 := hb 5 (by decide) (by decide)
  have b4 := hb 4 (by decide) (by decide)
  have fin : ∀ (τ1 : Sg) (u : Nat → Nat), u = tmR8 G pc v → RvB u → RsM τ1 i u → FrA LTr i τ τ1 → wpX9_timers_L217 Q (nI i) τ1 := by
    intro τ1 u eu ub q1 q2
    refine rt217 hi q1 ub (fun τ2 k1 k2 => h τ2 ?_ (q2.tr k2))
    rw [tmR_ref eu] at k1
    exact k1
  unfold wpX9_timers_L110
  rw [nI_clamp (n := i) (by omega), hS.g8]
  refine ⟨vin rfl hi (by decide), pk_le (v 8) 0 (fun hh => ?_) (fun hh => ⟨vin rfl hi (by decide), vin rfl hi (by decide), ?_⟩)⟩
  · refine fin τ v ?_ hb hS FrA.rf
    unfold tmR8
    rw [if_pos (by omega)]
  · have e : nI (v 8) - 1 = nI (v 8 - 1) := pk_sub (a := v 8) (b := 1) (by omega)
    rw [e]
    rintro _ rfl
    have s1 : RsM (up2 τ 37 i (nI (v 8 - 1))) i (vup v 8 (v 8 - 1)) := hS.put (c := 37) (by decide) (by decide) (by decide)
    have f1 : FrA LTr i τ (up2 τ 37 i (nI (v 8 - 1))) := FrA.rf.up (by decide) (fun _ => Nat.div_one i)
    have p1 : RpsM (up2 τ 37 i (nI (v 8 - 1))) i (v 2) G pc := hP.of (fun c c1 c2 => up2_o (by omega))
    have ub1 : RvB (vup v 8 (v 8 - 1)) := hb.put (by omega)
    generalize up2 τ 37 i (nI (v 8 - 1)) = τ1 at *
    rw [s1.g8, vup_s]
    by_cases e1 : v 8 = 1
    · refine ⟨vin rfl hi (by decide), brt' (by rw [e1]; rfl) ⟨vin rfl hi (by decide), vin rfl hi (by decide), ?_⟩⟩
      rw [s1.g5, s1.g4, vup_o (by decide), vup_o (by decide)]
      have e0 : v 8 - 1 = 0 := by omega
      rw [e0] at s1 ub1
      have fin2 : ∀ (τ2 : Sg), RsM τ2 i (vup (vup v 8 0) 4 (max (v 4) (v 5))) → FrA LTr i τ τ2 → (∀ c, 44 ≤ c → c ≤ 48 → τ2 c = τ1 c) → wpX9_timers_L165 Q (nI i) τ2 := by
        intro τ2 q1 q2 q3
        refine rt165 (G := G) (pc := pc) hi q1 (ub1.put (by omega)) ?_ ?_ ?_ ?_ ?_ (fun τ3 u eu ub k1 k2 => fin τ3 u ?_ ub k1 (q2.tr k2))
        · rw [vup_o (by decide), vup_o (by decide)]
          exact p1.of q3
        · intro x hx
          rw [vup_o (by decide), vup_o (by decide)] at hx
          exact hc x hx
        · rw [vup_o (by decide), vup_o (by decide), vup_s]
          omega
        · rw [vup_s, vup_o (by decide), vup_o (by decide)]
          omega
        · rw [vup_o (by decide), vup_o (by decide), vup_o (by decide), vup_o (by decide)]
          exact h4
        · rw [eu]
          unfold tmR8 gupV
          rw [if_neg (by omega), if_pos e1, vup_o (k := 8) (j := 4) (by decide), vup_o (k := 8) (j := 5) (by decide)]
      refine pk_le (v 5) (v 4) (fun h9 => ?_) (fun h9 => ⟨vin rfl hi (by decide), vin rfl hi (by decide), ?_⟩)
      · refine fin2 τ1 ?_ f1 (fun c c1 c2 => rfl)
        rw [Nat.max_eq_left h9]
        have : vup (vup v 8 0) 4 (v 4) = vup v 8 0 := by
          funext j
          unfold vup
          by_cases ej : j = 4
          · subst ej
            rfl
          · rw [if_neg ej]
        rw [this]
        exact s1
      · rintro _ rfl
        refine fin2 _ ?_ (f1.up (by decide) (fun _ => Nat.div_one i)) (fun c c1 c2 => up2_o (by omega))
        rw [Nat.max_eq_right (by omega)]
        exact s1.put (c := 35) (by decide) (by decide) (by decide)
    · refine ⟨vin rfl hi (by decide), brf' (fun hz => ?_) (fin τ1 _ ?_ ub1 s1 f1)⟩
      · have := (nI_eq (a := v 8 - 1) (b := 0) (by omega) (by decide)).mp hz
        omega
      · unfold tmR8
        rw [if_neg (by omega), if_neg e1]
/-- the timers of one place -/
def tmS (s : Smd) : Smd := (tmSv s.1 s.2.2.1 s.2.2.2.2.2.1.length, s.2.1, tmSp s.1 s.2.2.1 s.2.2.2.2.2.1.length, s.2.2.2)
def tmQ (G : Nat → List Cel) (r : Rmd) : Rmd := (tmR G r.2.1 r.1, r.2)
theorem brP_240 {q : Pce} (h : q.1.length ≤ 240) : brP q 0 241 = brP q 0 240 := by
  unfold brP
  rw [Nat.min_eq_right (show q.1.length ≤ 241 by omega), Nat.min_eq_right h]
theorem brV_240 {v : Nat → Nat} {q : Pce} (h : q.1.length ≤ 240) : brV v q 0 241 = brV v q 0 240 := by
  unfold brV
  rw [brP_240 h]
theorem tmSv_k {v : Nat → Nat} {pc : Nat → Pce} {wl k : Nat} (h6 : k ≠ 6) (h7 : k ≠ 7) (h8 : k ≠ 8) (h10 : k ≠ 10) : tmSv v pc wl k = v k := by
  unfold tmSv
  split
  · rfl
  · split
    · split
      · rw [brV_45 h6 h8, vup_o h7, vup_o h10]
      · rw [vup_o h7, vup_o h10]
    · rw [vup_o h10]
def LTm : List Nat := [5, 12, 13, 26, 32, 35, 36, 37, 38, 39, 43]
theorem SnM.p5 {τ : Sg} {i z : Nat} {v : Nat → Nat} {bk : Int32} (h : SnM τ i v bk) : SnM (up2 τ 5 i (nI z)) i (vup v 10 z) bk := by
  obtain ⟨a3, a4, a5, a6, a7, a8, a9, a10, a11, a12, a13⟩ := h
  refine ⟨?_, ?_, ?_, ?_, ?_, ?_, ?_, ?_, ?_, ?_, ?_⟩
  · rw [up2_o (by decide), vup_o (by decide)]; exact a3
  · rw [up2_o (by decide), vup_o (by decide)]; exact a4
  · rw [up2_s, vup_s]; exact pk_us
  · rw [up2_o (by decide), vup_o (by decide)]; exact a6
  · rw [up2_o (by decide), vup_o (by decide)]; exact a7
  · rw [up2_o (by decide)]; exact a8
  · rw [up2_o (by decide), vup_o (by decide)]; exact a9
  · rw [up2_o (by decide), vup_o (by decide)]; exact a10
  · rw [up2_o (by decide), vup_o (by decide)]; exact a11
  · rw [up2_o (by decide), vup_o (by decide)]; exact a12
  · rw [up2_o (by decide), vup_o (by decide)]; exact a13
theorem SnM.p12 {τ : Sg} {i z : Nat} {v : Nat → Nat} {bk : Int32} (h : SnM τ i v bk) : SnM (up2 τ 12 i (nI z)) i (vup v 7 z) bk := by
  obtain ⟨a3, a4, a5, a6, a7, a8, a9, a10, a11, a12, a13⟩ := h
  refine ⟨?_, ?_, ?_, ?_, ?_, ?_, ?_, ?_, ?_, ?_, ?_⟩
  · rw [up2_o (by decide), vup_o (by decide)]; exact a3
  · rw [up2_o (by decide), vup_o (by decide)]; exact a4
  · rw [up2_o (by decide), vup_o (by decide)]; exact a5
  · rw [up2_o (by decide), vup_o (by decide)]; exact a6
  · rw [up2_o (by decide), vup_o (by decide)]; exact a7
  · rw [up2_o (by decide)]; exact a8
  · rw [up2_o (by decide), vup_o (by decide)]; exact a9
  · rw [up2_o (by decide), vup_o (by decide)]; exact a10
  · rw [up2_o (by decide), vup_o (by decide)]; exact a11
  · rw [up2_s, vup_s]; exact pk_us
  · rw [up2_o (by decide), vup_o (by decide)]; exact a13
theorem SI.vv {T : Nat} {v u : Nat → Nat} {pc : Nat → Pce} (h : SI T v pc) (hb : SvB u) (e4 : u 4 = v 4) (e5 : u 5 = v 5) (e6 : u 6 = v 6) : SI T u pc := by
  obtain ⟨h1, h2, h3, h4, h5⟩ := h
  refine ⟨hb, ?_, ?_, ?_, ?_⟩
  · rw [e4, e5]; exact h2
  · rw [e4, e5]; exact h3
  · rw [e4, e5, e6]; exact h4
  · rw [e4, e5]; exact h5
theorem SF.vv {v u : Nat → Nat} {pc : Nat → Pce} (h : SF v pc) (e4 : u 4 = v 4) (e5 : u 5 = v 5) (e8 : u 8 = v 8) : SF u pc := by
  unfold SF at *
  rw [e4, e5, e8]
  exact h
theorem rtimers_ok {τ : Sg} {i T : Nat} {G : Nat → List Cel} {s : Smd} {r : Rmd} {Q : Sg → Prop} (hi : i < 6) (hS : SmM τ i s) (hR : RmM τ i G r) (hI : SI T s.1 s.2.2.1) (hT : T + 1 < 2 ^ 20) (hSF : SF s.1 s.2.2.1) (hOV : ObV s.2.2.2.1 s.2.2.2.2.1 s.2.2.2.2.2) (hcA : s.1 4 < s.1 5 → (s.2.2.1 (s.1 4)).2.2.2 = false) (hRV : RvV r.1) (hc : clrP r.1 r.2.1) (h : ∀ τ' : Sg, SmM τ' i (tmS s) → RmM τ' i G (tmQ G r) → FrA LTm i τ τ' → Q τ') : wpX9_timers (nI i) τ Q := by
  obtain ⟨hS1, hS2, hS3, hS4⟩ := hS
  obtain ⟨hR1, hR2, hR3, hR4⟩ := hR
  obtain ⟨w1, w2, w3, w4, w5⟩ := hRV
  obtain ⟨i1, i2, i3, i4, i5⟩ := hI
  have hI : SI T s.1 s.2.2.1 := ⟨i1, i2, i3, i4, i5⟩
  have hpos := fltW_pos hOV
  have hfl := hS4.2.1
  have b4 := i1 4 (by decide) (by decide)
  have b5 := i1 5 (by decide) (by decide)
  have b6 := i1 6 (by decide) (by decide)
  have b10 := i1 10 (by decide) (by decide)
  have fin : ∀ τ1 : Sg, SnM τ1 i (tmS s).1 s.2.1 → PsM τ1 i (s.1 4) (s.1 5) (tmS s).2.2.1 → FrA [5, 12, 13, 26, 32] i τ τ1 → wpX9_timers_L110 Q (nI i) τ1 := by
    intro τ1 q1 q2 q3
    have u1 : ∀ c, c ≠ 5 → c ≠ 12 → c ≠ 13 → c ≠ 26 → c ≠ 32 → τ1 c = τ c := fun c c1 c2 c3 c4 c5 => q3.1 c (by simp only [List.mem_cons, List.not_mem_nil, or_false]; omega)
    refine rt110 (G := G) (pc := r.2.1) hi (hR1.of (fun c c1 c2 => by rw [u1 c (by omega) (by omega) (by omega) (by omega) (by omega)])) w1 (hR2.of (fun c c1 c2 => u1 c (by omega) (by omega) (by omega) (by omega) (by omega))) hc w2 w3 w4 w5 (fun τ2 k1 k2 => ?_)
    have u2 : ∀ c, c ∉ LTr → τ2 c = τ1 c := fun c c1 => k2.1 c c1
    have v2 : ∀ c, c ≤ 34 ∨ 44 ≤ c → τ2 c = τ1 c := fun c c1 => u2 c (by unfold LTr; simp only [List.mem_cons, List.not_mem_nil, or_false]; omega)
    refine h τ2 ⟨q1.of (fun c c1 c2 => v2 c (by omega)), ?_, hS3.of (fun c c1 => by rw [v2 c (by omega), u1 c (by omega) (by omega) (by omega) (by omega) (by omega)]), hS4.of (fun c c1 c2 => by rw [v2 c (by omega), u1 c (by omega) (by omega) (by omega) (by omega) (by omega)])⟩ ⟨k1, ?_, hR3.of (fun c c1 => by rw [v2 c (by omega), u1 c (by omega) (by omega) (by omega) (by omega) (by omega)]), hR4.of (fun c c1 c2 => by rw [v2 c (by omega), u1 c (by omega) (by omega) (by omega) (by omega) (by omega)])⟩ ((q3.mono (by decide)).tr (k2.mono (by decide)))
    · show PsM τ2 i (tmSv _ _ _ 4) (tmSv _ _ _ 5) _
      rw [tmSv_k (by decide) (by decide) (by decide) (by decide), tmSv_k (by decide) (by decide) (by decide) (by decide)]
      exact q2.of (fun c c1 => v2 c (by omega))
    · show RpsM τ2 i (tmR _ _ _ 2) G r.2.1
      rw [tmR_k (by decide) (by decide) (by decide) (by decide) (by decide) (by decide)]
      exact hR2.of (fun c c1 c2 => by rw [v2 c (by omega), u1 c (by omega) (by omega) (by omega) (by omega) (by omega)])
  have L67 : ∀ (z : Bool) (τ1 : Sg), s.1 10 = 1 → z = decide (s.2.2.2.2.2.1.length = 0 ∨ s.1 5 = s.1 4 + 16) → SnM τ1 i (vup (vup s.1 10 0) 7 1) s.2.1 → (∀ c, c ≠ 5 → c ≠ 12 → τ1 c = τ c) → FrA [5, 12, 13, 26, 32] i τ τ1 → wpX9_timers_L67 Q (nI i) (b01 z) τ1 := by
    intro z τ1 e10 hz q1 q2 q3
    have hP1 : PsM τ1 i (s.1 4) (s.1 5) s.2.2.1 := hS2.of (fun c c1 => q2 c (by omega) (by omega))
    have a3 : τ1 3 i = nI (s.1 4) := by rw [q2 3 (by decide) (by decide)]; exact hS1.1
    have a4 : τ1 4 i = nI (s.1 5) := by rw [q2 4 (by decide) (by decide)]; exact hS1.2.1
    have no : tmSb s.1 s.2.2.2.2.2.1.length = false → wpX9_timers_L110 Q (nI i) τ1 := by
      intro hf
      refine fin τ1 ?_ ?_ q3
      · show SnM τ1 i (tmSv _ _ _) _
        unfold tmSv
        rw [if_neg (by omega), if_pos e10, if_neg (by rw [hf]; decide)]
        exact q1
      · show PsM τ1 i _ _ (tmSp _ _ _)
        unfold tmSp
        rw [if_neg (fun hh => by rw [hf] at hh; exact absurd hh.2 (by decide))]
        exact hP1
    unfold wpX9_timers_L67
    refine allAgain_ok hi a3 a4 i2 b5 hP1 ?_
    rw [← i4, nI_clamp (n := i) (by omega), a3, a4]
    by_cases e6 : s.1 6 = 0
    · refine brt' (by rw [e6]; rfl) ⟨vin rfl hi (by decide), vin rfl hi (by decide), pk_le (s.1 5) (s.1 4) (fun hh => no (decide_eq_false (by omega))) (fun hh => br01 (fun ez => no ?_) (fun ez => ⟨vin rfl hi (by decide), ?_⟩))⟩
      · rw [hz] at ez
        have ez := of_decide_eq_false ez
        exact decide_eq_false (fun h9 => ez h9.2.2)
      · rw [hz] at ez
        have ez := of_decide_eq_true ez
        have hb1 : SvB (vup (vup s.1 10 0) 7 1) := (i1.put (by decide)).put (by decide)
        have hI1 : SI T (vup (vup s.1 10 0) 7 1) s.2.2.1 := hI.vv hb1 (by rw [vup_o (by decide), vup_o (by decide)]) (by rw [vup_o (by decide), vup_o (by decide)]) (by rw [vup_o (by decide), vup_o (by decide)])
        have hF1 : SF (vup (vup s.1 10 0) 7 1) s.2.2.1 := hSF.vv (by rw [vup_o (by decide), vup_o (by decide)]) (by rw [vup_o (by decide), vup_o (by decide)]) (by rw [vup_o (by decide), vup_o (by decide)])
        have o4 : vup (vup s.1 10 0) 7 1 4 = s.1 4 := by rw [vup_o (by decide), vup_o (by decide)]
        have o5 : vup (vup s.1 10 0) 7 1 5 = s.1 5 := by rw [vup_o (by decide), vup_o (by decide)]
        have hlen := (i5 (s.1 4) (Nat.le_refl _) hh).1
        have := comesAgain_ok (τ := τ1) (i := i) (x := s.1 4) (fr := 0) (to := 240) (T := T) (v := vup (vup s.1 10 0) 7 1) (bk := s.2.1) (pc := s.2.2.1) (Q := fun σ31 => wpX9_timers_L110 Q (nI i) σ31) hi q1 hI1 hT hF1 (by rw [o4, o5]; exact hP1) (by rw [o4]; exact Nat.le_refl _) (by rw [o5]; exact hh) (hcA hh) (by decide) (by decide) (fun τ2 k1 k2 k3 => ?_)
        · exact this
        · rw [o4, o5, brP_240 hlen] at k2
          rw [brV_240 hlen] at k1
          have ht : tmSb s.1 s.2.2.2.2.2.1.length = true := decide_eq_true ⟨e6, hh, ez⟩
          refine fin τ2 ?_ ?_ (q3.tr (k3.mono (by decide)))
          · show SnM τ2 i (tmSv _ _ _) _
            unfold tmSv
            rw [if_neg (by omega), if_pos e10, if_pos ht]
            exact k1
          · show PsM τ2 i _ _ (tmSp _ _ _)
            unfold tmSp
            rw [if_pos ⟨e10, ht⟩]
            exact k2
    · refine brf' (fun hz => e6 ((nI_eq (a := s.1 6) (b := 0) (by omega) (by decide)).mp hz)) (no (decide_eq_false (fun hh => e6 hh.1)))
  unfold wpX9_timers
  rw [nI_clamp (n := i) (by omega), hS1.2.2.1]
  refine ⟨vin rfl hi (by decide), pk_le (s.1 10) 0 (fun hh => ?_) (fun hh => ⟨vin rfl hi (by decide), vin rfl hi (by decide), ?_⟩)⟩
  · refine fin τ ?_ ?_ FrA.rf
    · show SnM τ i (tmSv _ _ _) _
      unfold tmSv
      rw [if_pos (by omega)]
      exact hS1
    · show PsM τ i _ _ (tmSp _ _ _)
      unfold tmSp
      rw [if_neg (by omega)]
      exact hS2
  · have e : nI (s.1 10) - 1 = nI (s.1 10 - 1) := pk_sub (a := s.1 10) (b := 1) (by omega)
    rw [e]
    rintro _ rfl
    have s1 := hS1.p5 (z := s.1 10 - 1)
    have f1 : FrA [5, 12, 13, 26, 32] i τ (up2 τ 5 i (nI (s.1 10 - 1))) := FrA.rf.up (by decide) (fun _ => Nat.div_one i)
    have u1 : ∀ c, c ≠ 5 → up2 τ 5 i (nI (s.1 10 - 1)) c = τ c := fun c hc => up2_o hc
    generalize up2 τ 5 i (nI (s.1 10 - 1)) = τ1 at *
    rw [s1.2.2.1, vup_s]
    by_cases e1 : s.1 10 = 1
    · have e0 : s.1 10 - 1 = 0 := by omega
      rw [e0] at s1
      refine ⟨vin rfl hi (by decide), brt' (by rw [e1]; rfl) ⟨vin rfl hi (by decide), ?_⟩⟩
      rintro _ rfl
      have s2 : SnM (up2 τ1 12 i 1) i (vup (vup s.1 10 0) 7 1) s.2.1 := s1.p12 (z := 1)
      have f2 : FrA [5, 12, 13, 26, 32] i τ (up2 τ1 12 i 1) := f1.up (by decide) (fun _ => Nat.div_one i)
      have u2 : ∀ c, c ≠ 5 → c ≠ 12 → up2 τ1 12 i 1 c = τ c := fun c c1 c2 => by rw [up2_o c2, u1 c c1]
      generalize up2 τ1 12 i 1 = τ2 at *
      rw [u2 22 (by decide) (by decide), hS4.1, u2 4 (by decide) (by decide), u2 3 (by decide) (by decide), hS1.1, hS1.2.1, pk_sub i2]
      refine ⟨vin rfl hi (by decide), pk_eq (fltW s.2.2.2.2.2).length 0 (fun hz => ?_) (fun hz => ⟨vin rfl hi (by decide), vin rfl hi (by decide), ?_⟩)⟩
      · unfold wpX9_timers_L62
        exact L67 true τ2 e1 (decide_eq_true (Or.inl (hpos.mp hz))).symm s2 u2 f2
      · by_cases e16 : s.1 5 = s.1 4 + 16
        · refine brt' (by rw [e16, Nat.add_sub_cancel_left]; rfl) ?_
          unfold wpX9_timers_L62
          exact L67 true τ2 e1 (decide_eq_true (Or.inr e16)).symm s2 u2 f2
        · refine brf' (fun h9 => ?_) ?_
          · have := (nI_eq (a := s.1 5 - s.1 4) (b := 16) (by omega) (by decide)).mp h9
            omega
          · exact L67 false τ2 e1 (decide_eq_false (fun h9 => h9.elim (fun h9 => hz (hpos.mpr h9)) e16)).symm s2 u2 f2
    · refine ⟨vin rfl hi (by decide), brf' (fun hz => ?_) (fin τ1 ?_ ?_ f1)⟩
      · have := (nI_eq (a := s.1 10 - 1) (b := 0) (by omega) (by decide)).mp hz
        omega
      · show SnM τ1 i (tmSv _ _ _) _
        unfold tmSv
        rw [if_neg (by omega), if_neg e1]
        exact s1
      · show PsM τ1 i _ _ (tmSp _ _ _)
        unfold tmSp
        rw [if_neg (fun hh => e1 hh.1)]
        exact hS2.of (fun c c1 => u1 c (by omega))
