/-! PURE: the reference: a PART is made -/
def SmM (τ : Sg) (i : Nat) (s : Smd) : Prop := SnM τ i s.1 s.2.1 ∧ PsM τ i (s.1 4) (s.1 5) s.2.2.1 ∧ KpM τ i s.2.2.2.1 s.2.2.2.2.1 ∧ WtM τ i (fltW s.2.2.2.2.2)
def BgM (τ : Sg) (i : Nat) (bg : Option (List Int32)) : Prop := match bg with
  | none => τ 49 i = -1
  | some pk => τ 49 i = nI pk.length ∧ ∀ k, k < pk.length → τ 50 (256 * i + k) = pk.getD k 0
def StM (τ : Sg) (s : Nat) (l : List Int32) : Prop := τ 59 s = b01 (decide (0 < l.length)) ∧ l.length ≤ 120 ∧ (0 < l.length → τ 56 s = nI l.length) ∧ ∀ k, k < l.length → τ 57 (120 * s + k) = l.getD k 0
def IbM (τ : Sg) (i : Nat) (r : Inr) : Prop := τ 51 i = r.1 ∧ τ 52 i = r.2.1 ∧ τ 53 i = r.2.2.1 ∧ τ 54 i = r.2.2.2.1 ∧ (τ 55 i = nI r.2.2.2.2.1.length ∧ r.2.2.2.2.1.length ≤ 120 ∧ ∀ k, k < r.2.2.2.2.1.length → τ 58 (120 * i + k) = r.2.2.2.2.1.getD k 0) ∧ ∀ s, s < 32 → StM τ (32 * i + s) (r.2.2.2.2.2 s)
def RmM (τ : Sg) (i : Nat) (G : Nat → List Cel) (r : Rmd) : Prop := RsM τ i r.1 ∧ RpsM τ i (r.1 2) G r.2.1 ∧ BgM τ i r.2.2.1 ∧ IbM τ i r.2.2.2
theorem KpM.of {τ τ' : Sg} {i nc : Nat} {un : Nat → Un} (h : KpM τ i nc un) (hc : ∀ c, c = 2 ∨ (15 ≤ c ∧ c ≤ 19) → τ' c = τ c) : KpM τ' i nc un := by
  unfold KpM at *
  rw [hc 2 (by omega), hc 15 (by omega), hc 16 (by omega), hc 17 (by omega), hc 18 (by omega), hc 19 (by omega)]
  exact h
theorem BgM.of {τ τ' : Sg} {i : Nat} {bg : Option (List Int32)} (h : BgM τ i bg) (hc : ∀ c, c = 49 ∨ c = 50 → τ' c = τ c) : BgM τ' i bg := by
  unfold BgM at *
  rw [hc 49 (by omega), hc 50 (by omega)]
  exact h
theorem IbM.of {τ τ' : Sg} {i : Nat} {r : Inr} (h : IbM τ i r) (hc : ∀ c, 51 ≤ c → c ≤ 59 → τ' c = τ c) : IbM τ' i r := by
  unfold IbM StM at *
  rw [hc 51 (by omega) (by omega), hc 52 (by omega) (by omega), hc 53 (by omega) (by omega), hc 54 (by omega) (by omega), hc 55 (by omega) (by omega), hc 56 (by omega) (by omega), hc 57 (by omega) (by omega), hc 58 (by omega) (by omega), hc 59 (by omega) (by omega)]
  exact h
theorem SmM.of {τ τ' : Sg} {i : Nat} {s : Smd} (h : SmM τ i s) (hc : ∀ c, 2 ≤ c → c ≤ 32 → c ≠ 14 → τ' c = τ c) : SmM τ' i s := ⟨h.1.of (fun c c1 c2 => hc c (by omega) (by omega) (by omega)), h.2.1.of (fun c c1 => hc c (by omega) (by omega) (by omega)), h.2.2.1.of (fun c c1 => hc c (by omega) (by omega) (by omega)), h.2.2.2.of (fun c c1 c2 => hc c (by omega) (by omega) (by omega))⟩
theorem RmM.of {τ τ' : Sg} {i : Nat} {G : Nat → List Cel} {r : Rmd} (h : RmM τ i G r) (hc : ∀ c, 33 ≤ c → c ≤ 59 → τ' c = τ c) : RmM τ' i G r := ⟨h.1.of (fun c c1 c2 => by rw [hc c (by omega) (by omega)]), h.2.1.of (fun c c1 c2 => hc c (by omega) (by omega)), h.2.2.1.of (fun c c1 => hc c (by omega) (by omega)), h.2.2.2.of (fun c c1 c2 => hc c (by omega) (by omega))⟩
/-- another place's rows -/
def FrO (i : Nat) (τ τ' : Sg) : Prop := ∀ c k, c ≤ 59 → k / wid c ≠ i → τ' c k = τ c k
theorem FrA.o {L : List Nat} {i : Nat} {τ τ' : Sg} (h : FrA L i τ τ') : FrO i τ τ' := h.2
theorem SmM.ot {τ τ' : Sg} {i j : Nat} {s : Smd} (h : SmM τ j s) (hV : ObV s.2.2.2.1 s.2.2.2.2.1 s.2.2.2.2.2) (hF : FrO i τ τ') (hj : j ≠ i) : SmM τ' j s := by
  have w1 : ∀ c, wid c = 1 → c ≤ 59 → τ' c j = τ c j := fun c hc h59 => hF c j h59 (by rw [hc, Nat.div_one]; exact hj)
  obtain ⟨⟨s3, s4, s5, s6, s7, s8, s9, s10, s11, s12, s13⟩, hP, ⟨k1, k2, k3, k4⟩, ⟨t1, t2, t3⟩⟩ := h
  refine ⟨?_, fun x x1 x2 => ?_, ?_, ?_⟩
  · unfold SnM
    rw [w1 3 rfl (by decide), w1 4 rfl (by decide), w1 5 rfl (by decide), w1 6 rfl (by decide), w1 7 rfl (by decide), w1 8 rfl (by decide), w1 9 rfl (by decide), w1 10 rfl (by decide), w1 11 rfl (by decide), w1 12 rfl (by decide), w1 13 rfl (by decide)]
    exact ⟨s3, s4, s5, s6, s7, s8, s9, s10, s11, s12, s13⟩
  · refine (hP x x1 x2).of (hF 25 _ (by decide) (show (16 * j + x % 16) / 16 ≠ i by omega)) (hF 26 _ (by decide) (show (16 * j + x % 16) / 16 ≠ i by omega)) (hF 29 _ (by decide) (show (16 * j + x % 16) / 16 ≠ i by omega)) (fun c k hc hk => hF c _ (by omega) ?_)
    have hw : wid c = 3840 := by rcases hc with rfl | rfl | rfl | rfl | rfl <;> rfl
    rw [hw]
    omega
  · refine ⟨by rw [w1 2 rfl (by decide)]; exact k1, fun c c1 c2 => ?_, fun t t1 t2 => ?_, fun c c1 c2 hk => ?_⟩
    · rw [hF 15 _ (by decide) (show (32 * j + c % 32) / 32 ≠ i by omega)]; exact k2 c c1 c2
    · rw [hF 15 _ (by decide) (show (32 * j + t) / 32 ≠ i by omega)]; exact k3 t t1 t2
    · rw [hF 16 _ (by decide) (show (32 * j + c % 32) / 32 ≠ i by omega), hF 17 _ (by decide) (show (32 * j + c % 32) / 32 ≠ i by omega), hF 18 _ (by decide) (show (32 * j + c % 32) / 32 ≠ i by omega)]
      obtain ⟨q1, q2, q3, q4⟩ := k4 c c1 c2 hk
      refine ⟨q1, q2, q3, fun k hk9 => ?_⟩
      have h9 := (hV.2.2.2.1 c hk).2.1
      rw [hF 19 _ (by decide) (show (120 * (32 * j + c % 32) + k) / 3840 ≠ i by omega)]
      exact q4 k hk9
  · refine ⟨by rw [w1 22 rfl (by decide)]; exact t1, t2, fun k hk => ?_⟩
    rw [hF 20 _ (by decide) (show (4400 * j + k) / 4400 ≠ i by omega), hF 21 _ (by decide) (show (4400 * j + k) / 4400 ≠ i by omega), hF 23 _ (by decide) (show (4400 * j + k) / 4400 ≠ i by omega), hF 24 _ (by decide) (show (4400 * j + k) / 4400 ≠ i by omega)]
    exact t3 k hk
theorem RmM.ot {τ τ' : Sg} {i j : Nat} {G : Nat → List Cel} {r : Rmd} (h : RmM τ j G r) (hbg : ∀ pk, r.2.2.1 = some pk → pk.length ≤ 256) (hF : FrO i τ τ') (hj : j ≠ i) : RmM τ' j G r := by
  have w1 : ∀ c, wid c = 1 → c ≤ 59 → τ' c j = τ c j := fun c hc h59 => hF c j h59 (by rw [hc, Nat.div_one]; exact hj)
  obtain ⟨hS, hP, hB, ⟨b1, b2, b3, b4, ⟨b5, b6, b7⟩, b8⟩⟩ := h
  refine ⟨hS.of (fun c c1 c2 => w1 c ?_ (by omega)), fun x x1 x2 => ?_, ?_, ?_⟩
  · have : c = 33 ∨ c = 34 ∨ c = 35 ∨ c = 36 ∨ c = 37 ∨ c = 38 ∨ c = 39 ∨ c = 40 ∨ c = 41 ∨ c = 42 ∨ c = 43 := by omega
    rcases this with rfl | rfl | rfl | rfl | rfl | rfl | rfl | rfl | rfl | rfl | rfl <;> rfl
  · refine (hP x x1 x2).of (hF 44 _ (by decide) (show (32 * j + x % 32) / 32 ≠ i by omega)) (fun c k hc hk => hF c _ (by omega) ?_)
    have hw : wid c = 7680 := by rcases hc with rfl | rfl | rfl | rfl <;> rfl
    rw [hw]
    omega
  · cases hbg2 : r.2.2.1 with
    | none =>
      rw [hbg2] at hB
      show τ' 49 j = -1
      rw [w1 49 rfl (by decide)]
      exact hB
    | some pk =>
      have hl := hbg pk hbg2
      rw [hbg2] at hB
      refine ⟨by rw [w1 49 rfl (by decide)]; exact hB.1, fun k hk => ?_⟩
      rw [hF 50 _ (by decide) (show (256 * j + k) / 256 ≠ i by omega)]
      exact hB.2 k hk
  · refine ⟨by rw [w1 51 rfl (by decide)]; exact b1, by rw [w1 52 rfl (by decide)]; exact b2, by rw [w1 53 rfl (by decide)]; exact b3, by rw [w1 54 rfl (by decide)]; exact b4, ⟨by rw [w1 55 rfl (by decide)]; exact b5, b6, fun k hk => ?_⟩, fun t ht => ?_⟩
    · rw [hF 58 _ (by decide) (show (120 * j + k) / 120 ≠ i by omega)]
      exact b7 k hk
    · obtain ⟨q1, q2, q3, q4⟩ := b8 t ht
      refine ⟨by rw [hF 59 _ (by decide) (show (32 * j + t) / 32 ≠ i by omega)]; exact q1, q2, fun h0 => by rw [hF 56 _ (by decide) (show (32 * j + t) / 32 ≠ i by omega)]; exact q3 h0, fun k hk => ?_⟩
      rw [hF 57 _ (by decide) (show (120 * (32 * j + t) + k) / 3840 ≠ i by omega)]
      exact q4 k hk
def LM : List Nat := [4, 5, 6, 7, 9, 10, 12, 20, 21, 22, 23, 24, 25, 26, 27, 28, 29, 30, 31, 32, 38, 40, 43, 66]
theorem rmake_ok {τ : Sg} {p b i room T : Nat} {G : Nat → List Cel} {s : Smd} {r : Rmd} {Q : Int32 → Sg → Prop} (hp : p < 2) (hb : b < 3) (hip : i = 3 * p + b) (h1 : 1 ≤ room) (hroom : room ≤ 250) (hS : SmM τ i s) (hR : RmM τ i G r) (hV : SmV T s) (hRV : RvV r.1) (hc : clrP r.1 r.2.1) (hk : knP r.2.1) (hn : mkPt G s r room = none → Q 0 τ) (h : ∀ (pt : Prt) (s' : Smd) (r' : Rmd), mkPt G s r room = some (pt, s', r') → ∀ τ' : Sg, SmM τ' i s' → RmM τ' i G r' → OutM τ' (prB (fldS s') pt) → FrA LM i τ τ' → Q (nI (prB (fldS s') pt).length) τ') : wpX9_make (nI p) (nI b) (nI room) τ Q := by
  have hi : i < 6 := by omega
  obtain ⟨hS1, hS2, hS3, hS4⟩ := hS
  obtain ⟨hR1, hR2, hR3, hR4⟩ := hR
  obtain ⟨hI, hOV, h5⟩ := hV
  obtain ⟨v1, v2, v3, v4, v5⟩ := hRV
  have hI0 := hI
  obtain ⟨i1, i2, i3, i4, i5⟩ := hI
  have b4 := i1 4 (by decide) (by decide)
  have b5 := i1 5 (by decide) (by decide)
  have b6 := i1 6 (by decide) (by decide)
  have b8 := i1 8 (by decide) (by decide)
  have b7r := v1 7 (by decide) (by decide)
  have b9r := v1 9 (by decide) (by decide)
  have hfl := fltW_lt hOV
  have hwl : (fltW s.2.2.2.2.2).length = 0 ↔ s.2.2.2.2.2.1.length = 0 := fltW_pos hOV
  obtain ⟨s3, s4, s5, s6, s7, s8, s9, s10, s11, s12, s13⟩ := hS1
  have hS1 : SnM τ i s.1 s.2.1 := ⟨s3, s4, s5, s6, s7, s8, s9, s10, s11, s12, s13⟩
  have hat : (3 : Int32) * nI p + nI b = nI i := by
    have : (3 : Int32) * nI p = nI (3 * p) := pk_mul 3 p
    rw [this, nI_add, hip]
  have L40 : mkSb r.1 room = false → wpX9_make_L40 Q (nI room) (nI i) τ := by
    intro em
    unfold wpX9_make_L40
    rw [nI_clamp (n := i) (by omega), s13]
    refine ⟨vin rfl hi (by decide), fun h8 => ?_, fun h8 => ?_⟩
    · have h8 : s.1 8 = 0 := (nI_eq (a := s.1 8) (b := 0) (by omega) (by decide)).mp h8
      refine allAgain_ok hi s3 s4 i2 (by omega) hS2 ?_
      rw [← i4]
      refine pk_le (s.1 6) 0 (fun h6 => ⟨vin rfl hi (by decide), ?_⟩) (fun h6 => ?_)
      · have h6 : s.1 6 = 0 := by omega
        rw [hS4.1, s4, s3, pk_sub i2]
        have non : s.2.2.2.2.2.1.length = 0 ∨ s.1 4 + 16 ≤ s.1 5 ∨ room < 3 → Q 0 τ := fun hh => hn (by unfold mkPt; rw [em, if_neg (by decide), if_neg (by omega), if_neg (by omega), if_pos hh])
        refine ⟨fun hw => non (Or.inl (hwl.mp ((nI_eq (a := (fltW s.2.2.2.2.2).length) (b := 0) (by omega) (by decide)).mp hw))), fun hw => ⟨vin rfl hi (by decide), vin rfl hi (by decide), pk_le 16 (s.1 5 - s.1 4) (fun h16 => non (Or.inr (Or.inl (by omega)))) (fun h16 => pk_le 3 room (fun h3 => ⟨vin rfl hi (by decide), ?_⟩) (fun h3 => non (Or.inr (Or.inr (by omega)))))⟩⟩
        have hw : ¬ s.2.2.2.2.2.1.length = 0 := fun hh => hw (by rw [hwl.mpr hh]; rfl)
        rw [a15 (by omega), i16]
        rintro _ rfl
        have go := rmakeNew_ok (Q := Q) hi hS1 hI0 hS2 hOV hS4 h3 hroom hw (by omega) h5 (fun τ' q1 q2 q3 q4 q5 => by
          have emk : mkPt G s r room = some (nwP s room, nwS s room, r) := by unfold mkPt; rw [em, if_neg (by decide), if_neg (by omega), if_neg (by omega), if_neg (by omega)]
          have ef : fldS (nwS s room) (s.1 5) = (newL room s.2.2.2.2.2).1 := by
            unfold fldS nwS
            show (spu s.2.2.1 (s.1 5) _ (s.1 5)).1 = _
            rw [spu_s]
          have epr : prB (fldS (nwS s room)) (nwP s room) = datL (newL room s.2.2.2.2.2).1 (s.1 5) 0 (newL room s.2.2.2.2.2).1.length false (polB (newV s.1) (newL room s.2.2.2.2.2).2.1.length) := by
            unfold nwP prB
            show datL (fldS (nwS s room) (s.1 5)) (s.1 5) 0 (newL room s.2.2.2.2.2).1.length (decide (0 < 0 ∨ (newL room s.2.2.2.2.2).1.length < (fldS (nwS s room) (s.1 5)).length)) _ = _
            rw [ef, decide_eq_false (by omega)]
          have o4 : (nwS s room).1 4 = s.1 4 := by
            show cdV (newV s.1) _ 4 = _
            rw [cdV_k (by decide) (by decide) (by decide) (by decide) (by decide)]
            exact vup_o (by decide)
          have o5 : (nwS s room).1 5 = s.1 5 + 1 := by
            show cdV (newV s.1) _ 5 = _
            rw [cdV_k (by decide) (by decide) (by decide) (by decide) (by decide)]
            exact vup_s
          have := h _ _ _ emk τ' ⟨q1, by rw [o4, o5]; exact q2, hS3.of (fun c hc9 => q5.1 c (by
            have : c = 2 ∨ c = 15 ∨ c = 16 ∨ c = 17 ∨ c = 18 ∨ c = 19 := by omega
            rcases this with rfl | rfl | rfl | rfl | rfl | rfl <;> decide)), q3⟩ (RmM.of ⟨hR1, hR2, hR3, hR4⟩ (fun c c1 c2 => q5.1 c (by unfold LN; simp only [List.mem_cons, List.not_mem_nil, or_false]; omega))) (by rw [epr]; exact q4) (q5.mono (by decide))
          rw [epr] at this
          exact this)
        refine ⟨vin rfl hi (by decide), pk_le 240 (fltW s.2.2.2.2.2).length (fun h24 => ?_) (fun h24 => ⟨vin rfl hi (by decide), ?_⟩)⟩
        · rw [show min 240 (fltW s.2.2.2.2.2).length = 240 by omega] at go
          exact go
        · rw [show min 240 (fltW s.2.2.2.2.2).length = (fltW s.2.2.2.2.2).length by omega] at go
          exact go
      · refine rmakeAgain_ok (wl := s.2.2.2.2.2.1.length) hi hS1 hI0 hS2 hS4 hwl h1 hroom h6 (fun hno => hn ?_) (fun hr τ' q1 q2 q3 q4 => ?_)
        · unfold mkPt
          rw [em, if_neg (by decide), if_neg (by omega), if_pos h6, if_neg (show ¬ (agW (agQ s) room = true ∨ 4 ≤ room) from hno)]
        · have emk : mkPt G s r room = some (agP s room, agS s room, r) := by
            unfold mkPt
            rw [em, if_neg (by decide), if_neg (by omega), if_pos h6, if_pos (show agW (agQ s) room = true ∨ 4 ≤ room from hr)]
          have ef : fldS (agS s room) (agX s.1 s.2.2.1) = (agQ s).1 := by
            unfold fldS agS
            show (spu s.2.2.1 (agX s.1 s.2.2.1) _ (agX s.1 s.2.2.1)).1 = _
            rw [spu_s]
            rfl
          have epr : prB (fldS (agS s room)) (agP s room) = datL (agQ s).1 (agX s.1 s.2.2.1) (agF (agQ s)) (agE (agQ s) room) (decide (0 < agF (agQ s) ∨ agE (agQ s) room < (agQ s).1.length)) (polB (agU s room) s.2.2.2.2.2.1.length) := by
            unfold agP prB
            show datL (fldS (agS s room) (agX s.1 s.2.2.1)) (agX s.1 s.2.2.1) (agF (agQ s)) (agE (agQ s) room) (decide (0 < agF (agQ s) ∨ agE (agQ s) room < (fldS (agS s room) (agX s.1 s.2.2.1)).length)) _ = _
            rw [ef]
          have o45 : (agS s room).1 4 = s.1 4 ∧ (agS s room).1 5 = s.1 5 := by
            show cdV (agU s room) _ 4 = _ ∧ cdV (agU s room) _ 5 = _
            rw [cdV_k (by decide) (by decide) (by decide) (by decide) (by decide), cdV_k (by decide) (by decide) (by decide) (by decide) (by decide)]
            unfold agU agV
            exact ⟨by rw [vup_o (by decide), vup_o (by decide)], by rw [vup_o (by decide), vup_o (by decide)]⟩
          have := h _ _ _ emk τ' ⟨q1, by rw [o45.1, o45.2]; exact q2, hS3.of (fun c hc9 => q4.1 c (by
            have : c = 2 ∨ c = 15 ∨ c = 16 ∨ c = 17 ∨ c = 18 ∨ c = 19 := by omega
            rcases this with rfl | rfl | rfl | rfl | rfl | rfl <;> decide)), hS4.of (fun c c1 c2 => q4.1 c (by
            have : c = 20 ∨ c = 21 ∨ c = 22 ∨ c = 23 ∨ c = 24 := by omega
            rcases this with rfl | rfl | rfl | rfl | rfl <;> decide))⟩ (RmM.of ⟨hR1, hR2, hR3, hR4⟩ (fun c c1 c2 => q4.1 c (by unfold LA; simp only [List.mem_cons, List.not_mem_nil, or_false]; omega))) (by rw [epr]; exact q3) (q4.mono (by decide))
          rw [epr] at this
          exact this
    · have h8 : ¬ s.1 8 = 0 := fun hh => h8 (by rw [hh]; rfl)
      exact hn (by unfold mkPt; rw [em, if_neg (by decide), if_pos h8])
  unfold wpX9_make wpX9_at
  rw [hat]
  dsimp only
  rw [nI_clamp (n := i) (by omega), hR1.g7, hR1.g9]
  refine ⟨vin rfl hi (by decide), fun h0 => ?_, fun h0 => ⟨vin rfl hi (by decide), fun h9 => ?_, fun h9 => pk_lt room 2 (fun hr => ?_) (fun hr => ?_)⟩⟩
  · have h0 : r.1 7 = 0 := (nI_eq (a := r.1 7) (b := 0) (by omega) (by decide)).mp h0
    exact L40 (decide_eq_false (fun hh => hh.1 h0))
  · have h9 : ¬ r.1 9 = 0 := fun hh => h9 (by rw [hh]; rfl)
    exact L40 (decide_eq_false (fun hh => h9 hh.2.1))
  · exact L40 (decide_eq_false (by omega))
  · have h0 : ¬ r.1 7 = 0 := fun hh => h0 (by rw [hh]; rfl)
    have h9 : r.1 9 = 0 := (nI_eq (a := r.1 9) (b := 0) (by omega) (by decide)).mp h9
    have em : mkSb r.1 room = true := decide_eq_true ⟨h0, h9, by omega⟩
    refine rmakeStatus_ok hi hR1 v1 hR2 hc hk v2 v3 v5 (by omega) hroom (fun τ' q1 q2 q3 => ?_)
    have emk : mkPt G s r room = some (.inr (stP G r room), s, (mksV r.1, r.2)) := by
      unfold mkPt
      rw [if_pos em]
    have o2 : mksV r.1 2 = r.1 2 := by unfold mksV; rw [vup_o (by decide), vup_o (by decide), vup_o (by decide)]
    exact h _ _ _ emk τ' (SmM.of ⟨hS1, hS2, hS3, hS4⟩ (fun c c1 c2 c3 => q3.1 c (by unfold LSt; simp only [List.mem_cons, List.not_mem_nil, or_false]; omega))) ⟨q1, by show RpsM τ' i (mksV r.1 2) G r.2.1; rw [o2]; exact hR2.of (fun c c1 c2 => q3.1 c (by unfold LSt; simp only [List.mem_cons, List.not_mem_nil, or_false]; omega)), hR3.of (fun c hc9 => q3.1 c (by unfold LSt; simp only [List.mem_cons, List.not_mem_nil, or_false]; omega)), hR4.of (fun c c1 c2 => q3.1 c (by unfold LSt; simp only [List.mem_cons, List.not_mem_nil, or_false]; omega))⟩ q2 (q3.mono (by decide))
