/-! PURE: the middle: a sender, a receiver; a PART is made, in the class -/
abbrev Smd : Type := (Nat → Nat) × Int32 × (Nat → Pce) × Nat × (Nat → Un) × Wt
abbrev Rmd : Type := (Nat → Nat) × Rpc × Option (List Int32) × Inr
def fldS (s : Smd) (x : Nat) : List Cel := (s.2.2.1 x).1
def SmC (σ : Sg) (c mk : Nat) (s : Smd) : Prop := SnS σ c s.1 s.2.1 ∧ SpsC σ c (s.1 4) (s.1 5) s.2.2.1 ∧ ObC σ (c + 2) mk s.2.2.2.1 s.2.2.2.2.1 s.2.2.2.2.2
def RmC (σ : Sg) (c mk : Nat) (G : Nat → List Cel) (r : Rmd) : Prop := RcS σ c r.1 ∧ RpsC σ c (r.1 2) G r.2.1 ∧ BgC σ (c + 2) r.2.2.1 ∧ InR σ (c + 2) mk r.2.2.2
theorem SmC.of {σ σ' : Sg} {c mk : Nat} {s : Smd} (h : SmC σ c mk s) (hd : ∀ d, c ≤ d → d < c + 42 → σ' d = σ d) : SmC σ' c mk s := ⟨h.1.of (hd c (by omega) (by omega)), h.2.1.of (fun d d1 d2 => hd d (by omega) (by omega)), h.2.2.of (fun d d1 d2 => hd d (by omega) (by omega))⟩
theorem RmC.of {σ σ' : Sg} {c mk : Nat} {G : Nat → List Cel} {r : Rmd} (h : RmC σ c mk G r) (hd : ∀ d, c ≤ d → d < c + 71 → σ' d = σ d) : RmC σ' c mk G r := ⟨h.1.of (hd c (by omega) (by omega)), h.2.1.of (fun d d1 d2 => hd d (by omega) (by omega)), h.2.2.1.of (fun d d1 d2 => hd d (by omega) (by omega)), h.2.2.2.of' (fun d d1 d2 => hd d (by omega) (by omega))⟩
/-- what belongs to a sender, to a receiver -/
def SmV (T : Nat) (s : Smd) : Prop := SI T s.1 s.2.2.1 ∧ ObV s.2.2.2.1 s.2.2.2.2.1 s.2.2.2.2.2 ∧ s.1 5 + 1 < 2 ^ 20
def RvV (v : Nat → Nat) : Prop := RvB v ∧ v 2 ≤ v 4 ∧ v 4 ≤ v 3 ∧ v 5 ≤ v 3 ∧ v 3 ≤ v 2 + 31
abbrev Prt : Type := (Nat × Nat × Nat × Bool) ⊕ (Nat × List Ent)
def prB (G : Nat → List Cel) : Prt → List Int32
  | .inl d => datL (G d.1) d.1 d.2.1 d.2.2.1 (decide (0 < d.2.1 ∨ d.2.2.1 < (G d.1).length)) d.2.2.2
  | .inr t => stB t.1 t.2
def mkSb (v : Nat → Nat) (room : Nat) : Bool := decide (¬ v 7 = 0 ∧ v 9 = 0 ∧ 2 ≤ room)
def stP (G : Nat → List Cel) (r : Rmd) (room : Nat) : Nat × List Ent := stE (whl G (r.1 2) (r.1 3) r.2.1) (pcE G r.2.1) room (r.1 4 - r.1 2) (r.1 2) []
def agQ (s : Smd) : Pce := s.2.2.1 (agX s.1 s.2.2.1)
def agU (s : Smd) (room : Nat) : Nat → Nat := agV s.1 (agF (agQ s)) (agE (agQ s) room)
def agS (s : Smd) (room : Nat) : Smd := (cdV (agU s room) s.2.2.2.2.2.1.length, s.2.1, spu s.2.2.1 (agX s.1 s.2.2.1) (uaP (agQ s) (agF (agQ s)) (agE (agQ s) room)), s.2.2.2)
def agP (s : Smd) (room : Nat) : Prt := .inl (agX s.1 s.2.2.1, agF (agQ s), agE (agQ s) room, polB (agU s room) s.2.2.2.2.2.1.length)
def nwS (s : Smd) (room : Nat) : Smd := (cdV (newV s.1) (newL room s.2.2.2.2.2).2.1.length, s.2.1, spu s.2.2.1 (s.1 5) ((newL room s.2.2.2.2.2).1, mnA, 0, false), s.2.2.2.1, s.2.2.2.2.1, (newL room s.2.2.2.2.2).2)
def nwP (s : Smd) (room : Nat) : Prt := .inl (s.1 5, 0, (newL room s.2.2.2.2.2).1.length, polB (newV s.1) (newL room s.2.2.2.2.2).2.1.length)
def mkPt (G : Nat → List Cel) (s : Smd) (r : Rmd) (room : Nat) : Option (Prt × Smd × Rmd) :=
  if mkSb r.1 room = true then some (.inr (stP G r room), s, (mksV r.1, r.2))
  else if ¬ s.1 8 = 0 then none
  else if 0 < s.1 6 then (if agW (agQ s) room = true ∨ 4 ≤ room then some (agP s room, agS s room, r) else none)
  else if s.2.2.2.2.2.1.length = 0 ∨ s.1 4 + 16 ≤ s.1 5 ∨ room < 3 then none
  else some (nwP s room, nwS s room, r)
def payB (s : Smd) (n : Nat) : Smd := (s.1, s.2.1 - nI (n + 2), s.2.2)
theorem aSum_ex {pc : Nat → Pce} {a : Nat} : ∀ m, 0 < aSum pc a m → ∃ y, a ≤ y ∧ y < a + m ∧ ¬ nMk (pc y) = 0
  | 0, h => by unfold aSum at h; omega
  | m + 1, h => by
    by_cases e : nMk (pc (a + m)) = 0
    · unfold aSum at h
      obtain ⟨y, y1, y2, y3⟩ := aSum_ex (pc := pc) (a := a) m (by omega)
      exact ⟨y, y1, by omega, y3⟩
    · exact ⟨a + m, by omega, by omega, e⟩
def FrP (pl a : Nat) (σ σ' : Sg) : Prop := ∀ d, (d < 9 + 113 * pl ∨ 122 + 113 * pl ≤ d) → d ≠ a → d ≠ a + 1 → d ≠ 5 → d ≠ 6 → σ' d = σ d
theorem makePart_ok {σ : Sg} {P B p b pl a room mkS mkR T : Nat} {G : Nat → List Cel} {s : Smd} {r : Rmd} {bs : List Int32} {Q : Int32 → Sg → Prop} (hB : σ 0 0 = nI B) (hB3 : B ≤ 3) (hP : P = 2 * B) (hp : p < 2) (hb : b < B) (hpl : pl = p * B + b) (ha : 9 + 113 * P ≤ a) (hA : Air σ a bs) (h1 : 1 ≤ room) (hroom : bs.length + 2 + room ≤ 250) (hS : SmC σ (9 + 113 * pl) mkS s) (hR : RmC σ (51 + 113 * pl) mkR G r) (hV : SmV T s) (hK : ObK (ksS (σ 4) mkS) s.2.2.2.2.1 s.2.2.2.2.2) (hRV : RvV r.1) (hn : mkPt G s r room = none → ∀ σ' : Sg, Air σ' a bs → (∀ d, d ≠ a → d ≠ a + 1 → σ' d = σ d) → Q 0 σ') (h : ∀ (pt : Prt) (s' : Smd) (r' : Rmd), mkPt G s r room = some (pt, s', r') → (prB (fldS s') pt).length ≤ room → 1 ≤ (prB (fldS s') pt).length → ∀ σ' : Sg, SmC σ' (9 + 113 * pl) mkS (payB s' (prB (fldS s') pt).length) → RmC σ' (51 + 113 * pl) mkR G r' → Air σ' a (bs ++ nI b :: nI (prB (fldS s') pt).length :: prB (fldS s') pt) → FrP pl a σ σ' → Q 1 σ') : wpX8_makePart P sbT (nI p) (nI b) (nI room) a σ Q := by
  have hplP : pl < P := by
    rw [hpl, hP]
    have : p * B ≤ 1 * B := Nat.mul_le_mul_right B (by omega)
    omega
  obtain ⟨hS1, hS2, hS3⟩ := hS
  obtain ⟨hR1, hR2, hR3, hR4⟩ := hR
  obtain ⟨hI, hOV, h5⟩ := hV
  obtain ⟨v1, v2, v3, v4, v5⟩ := hRV
  have hI0 := hI
  obtain ⟨i1, i2, i3, i4, i5⟩ := hI
  have b6 := i1 6 (by decide) (by decide)
  have b8 := i1 8 (by decide) (by decide)
  have b7r := v1 7 (by decide) (by decide)
  have b9r := v1 9 (by decide) (by decide)
  have hpo : (nI p * σ 0 0) + nI b = nI pl := by
    rw [hB, hpl]
    have : nI p * nI B = nI (p * B) := pk_mul p B
    rw [this, nI_add]
  unfold wpX8_makePart wpX8_placeOf
  dsimp only
  rw [hpo]
  refine ⟨vin rfl hplP (by omega), ?_⟩
  rintro _ rfl
  refine ⟨vin rfl hplP (by omega), ?_⟩
  rw [nI_clamp (by omega)]
  rintro _ rfl _ rfl
  rw [hA.1]
  refine put_ok hA (by omega) (fun σ1 g1 g2 => ?_)
  refine put_ok g1 (by rw [List.length_append, List.length_singleton]; omega) (fun σ2 k1 k2 => ?_)
  have hF2 : ∀ d, d ≠ a → d ≠ a + 1 → σ2 d = σ d := fun d d1 d2 => by rw [k2 d d1 d2, g2 d d1 d2]
  have eA2 : bs ++ [nI b] ++ [0] = (bs ++ [nI b]) ++ 0 :: [] := rfl
  have hA2 : Air σ2 a (bs ++ [nI b, 0]) := by
    have : bs ++ [nI b] ++ [0] = bs ++ [nI b, 0] := by simp
    rw [this] at k1
    exact k1
  have hl2 : (bs ++ [nI b, 0]).length = bs.length + 2 := by simp
  -- the end, with something made
  have L124 : ∀ (σ3 : Sg) (pt : Prt) (s' : Smd) (r' : Rmd), mkPt G s r room = some (pt, s', r') → (prB (fldS s') pt).length ≤ room → 1 ≤ (prB (fldS s') pt).length → SmC σ3 (9 + 113 * pl) mkS s' → RmC σ3 (51 + 113 * pl) mkR G r' → Air σ3 a ((bs ++ [nI b, 0]) ++ prB (fldS s') pt) → FrP pl a σ σ3 → wpX8_makePart_L124 P sbT Q a (9 + 113 * pl) (nI bs.length) σ3 := by
    intro σ3 pt s' r' e1 e2 e3 q1 q2 q3 q4
    have h := h pt s' r' e1 e2 e3
    generalize prB (fldS s') pt = D at *
    unfold wpX8_makePart_L124
    have hm : ((σ3 a 1) - nI bs.length) - 2 = nI D.length := by
      rw [q3.1, List.length_append, hl2, pk_sub (by omega)]
      show _ - nI 2 = _
      rw [pk_sub (by omega)]
      congr 1
      omega
    rw [hm]
    rintro _ rfl
    refine brf' (fun hh => ?_) ?_
    · have := (nI_eq (a := D.length) (b := 0) (by omega) (by decide)).mp hh
      omega
    · rw [nI_1]
      refine set_ok q3 (by rw [List.length_append, hl2]; omega) (fun σ4 j1 j2 => ?_)
      rintro _ rfl
      have eL : ((bs ++ [nI b, 0]) ++ D).set (bs.length + 1) (nI D.length) = bs ++ nI b :: nI D.length :: D := by
        have : (bs ++ [nI b, 0]) ++ D = (bs ++ [nI b]) ++ 0 :: D := by simp
        rw [this, set_mid (by simp)]
        simp
      rw [eL] at j1
      have q14 : SmC σ4 (9 + 113 * pl) mkS s' := q1.of (fun d d1 d2 => j2 d (by omega))
      have e2' : nI D.length + 2 = nI (D.length + 2) := nI_add _ 2
      rw [q14.1.2.2, e2']
      refine h _ ⟨q14.1.put3, q14.2.1.of (fun d d1 d2 => up2_o (by omega)), q14.2.2.of (fun d d1 d2 => up2_o (by omega))⟩ (q2.of (fun d d1 d2 => by rw [up2_o (by omega), j2 d (by omega)])) (j1.of (by rw [up2_o (by omega)]) (up2_o (by omega))) (fun d d1 d2 d3 d4 d5 => by rw [up2_o (by omega), j2 d d3, q4 d d1 d2 d3 d4 d5])
  -- the end, with nothing made
  have L124n : mkPt G s r room = none → wpX8_makePart_L124 P sbT Q a (9 + 113 * pl) (nI bs.length) σ2 := by
    intro e1
    unfold wpX8_makePart_L124
    have hm : ((σ2 a 1) - nI bs.length) - 2 = nI 0 := by
      rw [hA2.1, hl2, pk_sub (by omega)]
      show _ - nI 2 = _
      rw [pk_sub (by omega)]
      congr 1
      omega
    rw [hm]
    rintro _ rfl
    refine brt' rfl ?_
    rintro _ rfl
    refine hn e1 _ ⟨by rw [up2_e, if_pos ⟨rfl, rfl⟩], by omega, fun k x hk => ?_⟩ (fun d d1 d2 => by rw [up2_o d1, hF2 d d1 d2])
    rw [up2_o (by omega)]
    refine hA2.2.2 k x ?_
    have hlt := (List.getElem?_eq_some_iff.mp hk).1
    rw [List.getElem?_append_left hlt]
    exact hk
  have hS1' : SnS σ2 (9 + 113 * pl) s.1 s.2.1 := hS1.of (hF2 _ (by omega) (by omega))
  have hS2' : SpsC σ2 (9 + 113 * pl) (s.1 4) (s.1 5) s.2.2.1 := hS2.of (fun d d1 d2 => hF2 d (by omega) (by omega))
  have hS3' : ObC σ2 (9 + 113 * pl + 2) mkS s.2.2.2.1 s.2.2.2.2.1 s.2.2.2.2.2 := hS3.of (fun d d1 d2 => hF2 d (by omega) (by omega))
  have hRm : RmC σ2 (51 + 113 * pl) mkR G r := RmC.of ⟨hR1, hR2, hR3, hR4⟩ (fun d d1 d2 => hF2 d (by omega) (by omega))
  have hR1' := hRm.1
  have hR2' := hRm.2.1
  have hwl := hOV.len
  have hK2 : ObK (ksS (σ2 4) mkS) s.2.2.2.2.1 s.2.2.2.2.2 := by rw [hF2 4 (by omega) (by omega)]; exact hK
  have L104 : mkSb r.1 room = false → (s.1 8 = 0 → s.1 6 = 0) → wpX8_makePart_L104 P sbT Q (nI room) a (9 + 113 * pl) (nI bs.length) σ2 := by
    intro em e6
    unfold wpX8_makePart_L104
    rw [hS1'.1 8 (by decide) (by decide) (by decide) (by decide)]
    refine ⟨fun hne => ?_, fun he => ?_⟩
    · have hne : ¬ s.1 8 = 0 := fun hh => hne (by rw [hh]; rfl)
      exact L124n (by unfold mkPt; rw [em, if_neg (by decide), if_pos hne])
    · have he : s.1 8 = 0 := (nI_eq (a := s.1 8) (b := 0) (by omega) (by decide)).mp he
      have e6 := e6 he
      refine makeNew_ok hS1' i1 h5 hS2' i2 hS3' hOV hK2 (by omega) (by omega) hA2 (by rw [hl2]; omega) (fun hh => ?_) (fun hh σ3 q1 q2 q3 q4 q5 => ?_)
      · exact L124n (by unfold mkPt; rw [em, if_neg (by decide), if_neg (by omega), if_neg (by omega), if_pos hh])
      · have epr : prB (fldS (nwS s room)) (nwP s room) = datL (newL room s.2.2.2.2.2).1 (s.1 5) 0 (newL room s.2.2.2.2.2).1.length false (polB (newV s.1) (newL room s.2.2.2.2.2).2.1.length) := by
          unfold nwP prB
          show datL (fldS (nwS s room) (s.1 5)) (s.1 5) 0 (newL room s.2.2.2.2.2).1.length (decide (0 < 0 ∨ (newL room s.2.2.2.2.2).1.length < (fldS (nwS s room) (s.1 5)).length)) _ = _
          have ef : fldS (nwS s room) (s.1 5) = (newL room s.2.2.2.2.2).1 := by
            unfold fldS nwS
            show (spu s.2.2.1 (s.1 5) _ (s.1 5)).1 = _
            rw [spu_s]
          rw [ef, decide_eq_false (by omega)]
        have hnp := mnF_pos (m := 240) (left := room - 2) (w := s.2.2.2.2.2) (by decide) (by omega) (by omega)
        have hnc := (mnF_spec 240 (room - 2) [] s.2.2.2.2.2).1
        have en : newL room s.2.2.2.2.2 = mnF 240 (room - 2) [] s.2.2.2.2.2 := rfl
        rw [← en] at hnp hnc
        have es0 : cstL [] = 0 := rfl
        rw [es0] at hnc
        unfold cstL at hnc
        refine L124 σ3 (nwP s room) (nwS s room) r ?_ ?_ ?_ ⟨q1, ?_, q3⟩ ?_ (by rw [epr]; exact q4) (fun d d1 d2 d3 d4 d5 => ?_)
        · unfold mkPt
          rw [em, if_neg (by decide), if_neg (by omega), if_neg (by omega), if_neg hh]
        · rw [epr, datL_len, show b2n false = 0 from rfl, Nat.sub_zero, Nat.sub_zero]
          omega
        · rw [epr, datL_len]
          omega
        · have o4 : (nwS s room).1 4 = s.1 4 := by
            show cdV (newV s.1) _ 4 = _
            unfold cdV newV
            split
            · rw [vup_o (by decide), vup_o (by decide), vup_o (by decide), vup_o (by decide), vup_o (by decide), vup_o (by decide)]
            · rw [vup_o (by decide), vup_o (by decide), vup_o (by decide)]
          have o5 : (nwS s room).1 5 = s.1 5 + 1 := by
            show cdV (newV s.1) _ 5 = _
            unfold cdV newV
            split
            · rw [vup_o (by decide), vup_o (by decide), vup_o (by decide), vup_o (by decide), vup_o (by decide), vup_s]
            · rw [vup_o (by decide), vup_o (by decide), vup_s]
          rw [o4, o5]
          exact q2
        · exact hRm.of (fun d d1 d2 => q5 d (by omega) (by omega) (by omega) (by omega) (by omega))
        · rw [q5 d (by omega) d2 d3 d4 d5, hF2 d d2 d3]
  have L77 : mkSb r.1 room = false → wpX8_makePart_L77 P sbT Q (nI room) a (9 + 113 * pl) (nI bs.length) σ2 := by
    intro em
    unfold wpX8_makePart_L77
    rw [hS1'.1 8 (by decide) (by decide) (by decide) (by decide), hS1'.1 6 (by decide) (by decide) (by decide) (by decide)]
    refine ⟨fun hne => L104 em (fun hh => absurd (by rw [hh]; rfl) hne), fun he => pk_le (s.1 6) 0 (fun h0 => L104 em (fun _ => by omega)) (fun h0 => ?_)⟩
    have he : s.1 8 = 0 := (nI_eq (a := s.1 8) (b := 0) (by omega) (by decide)).mp he
    obtain ⟨y, y1, y2, y3⟩ := aSum_ex (pc := s.2.2.1) (a := s.1 4) (s.1 5 - s.1 4) (by omega)
    have ew : σ2 (9 + 113 * pl + 2) 9 = nI s.2.2.2.2.2.1.length := hS3'.2.2.2.2.2.1
    refine makeAgain_ok hS1' i1 hS2' i2 i3 ew (by omega) (by omega) hA2 (by rw [hl2]; omega) ⟨y, y1, by omega, y3⟩ (fun x x1 x2 => by rw [i4]; exact aSum_ge _ x1 (by omega)) (fun e1 e2 => ?_) (fun hr σ3 q1 q2 q3 q4 => ?_)
    · refine L124n ?_
      unfold mkPt
      rw [em, if_neg (by decide), if_neg (by omega), if_pos h0, if_neg (by unfold agQ; rw [e1]; simp; omega)]
    · have hq : nMk (agQ s) ≠ 0 := (frA_spec (pc := s.2.2.1) (s.1 5 - s.1 4) (s.1 4) y y1 (by omega) y3).2.2
      have hcf : (agQ s).2.2.2 = false := by
        cases e : (agQ s).2.2.2 with
        | true => exact absurd (nMk_t e) hq
        | false => rfl
      have hna : ¬ nAg (agQ s) = 0 := by rw [← nMk_f hcf]; exact hq
      obtain ⟨z1, z2, z3⟩ := ag_end hna hr
      have ef : fldS (agS s room) (agX s.1 s.2.2.1) = (agQ s).1 := by
        unfold fldS agS
        show (spu s.2.2.1 (agX s.1 s.2.2.1) _ (agX s.1 s.2.2.1)).1 = _
        rw [spu_s]
        rfl
      have epr : prB (fldS (agS s room)) (agP s room) = datL (agQ s).1 (agX s.1 s.2.2.1) (agF (agQ s)) (agE (agQ s) room) (decide (0 < agF (agQ s) ∨ agE (agQ s) room < (agQ s).1.length)) (polB (agU s room) s.2.2.2.2.2.1.length) := by
        unfold agP prB
        show datL (fldS (agS s room) (agX s.1 s.2.2.1)) (agX s.1 s.2.2.1) (agF (agQ s)) (agE (agQ s) room) (decide (0 < agF (agQ s) ∨ agE (agQ s) room < (fldS (agS s room) (agX s.1 s.2.2.1)).length)) _ = _
        rw [ef]
      rw [datL_len] at z3
      have o45 : (agS s room).1 4 = s.1 4 ∧ (agS s room).1 5 = s.1 5 := by
        show cdV (agU s room) _ 4 = _ ∧ cdV (agU s room) _ 5 = _
        unfold cdV agU agV
        split
        · exact ⟨by rw [vup_o (by decide), vup_o (by decide), vup_o (by decide), vup_o (by decide), vup_o (by decide), vup_o (by decide), vup_o (by decide)], by rw [vup_o (by decide), vup_o (by decide), vup_o (by decide), vup_o (by decide), vup_o (by decide), vup_o (by decide), vup_o (by decide)]⟩
        · exact ⟨by rw [vup_o (by decide), vup_o (by decide), vup_o (by decide), vup_o (by decide)], by rw [vup_o (by decide), vup_o (by decide), vup_o (by decide), vup_o (by decide)]⟩
      refine L124 σ3 (agP s room) (agS s room) r ?_ ?_ ?_ ⟨q1, ?_, hS3'.of (fun d d1 d2 => q4 d (by omega) (by omega) (by omega) (by omega))⟩ (hRm.of (fun d d1 d2 => q4 d (by omega) (by omega) (by omega) (by omega))) (by rw [epr]; exact q3) (fun d d1 d2 d3 d4 d5 => ?_)
      · unfold mkPt
        rw [em, if_neg (by decide), if_neg (by omega), if_pos h0, if_pos (show agW (agQ s) room = true ∨ 4 ≤ room from hr)]
      · rw [epr, datL_len]
        exact z3
      · rw [epr, datL_len]
        omega
      · rw [o45.1, o45.2]
        exact q2
      · rw [q4 d (by omega) (by omega) d2 d3, hF2 d d2 d3]
  rw [hR1'.1 7 (by decide) (by decide) (by decide), hR1'.1 9 (by decide) (by decide) (by decide)]
  refine ⟨fun h0 => ?_, fun h0 => ⟨fun h9 => ?_, fun h9 => pk_lt room 2 (fun hr => ?_) (fun hr => ?_)⟩⟩
  · have h0 : r.1 7 = 0 := (nI_eq (a := r.1 7) (b := 0) (by omega) (by decide)).mp h0
    exact L77 (decide_eq_false (fun hh => hh.1 h0))
  · have h9 : ¬ r.1 9 = 0 := fun hh => h9 (by rw [hh]; rfl)
    exact L77 (decide_eq_false (fun hh => h9 hh.2.1))
  · exact L77 (decide_eq_false (by omega))
  · have h0 : ¬ r.1 7 = 0 := fun hh => h0 (by rw [hh]; rfl)
    have h9 : r.1 9 = 0 := (nI_eq (a := r.1 9) (b := 0) (by omega) (by decide)).mp h9
    have em : mkSb r.1 room = true := decide_eq_true ⟨h0, h9, by omega⟩
    have epr : prB (fldS s) (.inr (stP G r room)) = stB (stP G r room).1 (stP G r room).2 := rfl
    have hsl : ∀ (m x : Nat) (es : List Ent), 2 + (enL es).length ≤ room → 2 + (enL (stE (whl G (r.1 2) (r.1 3) r.2.1) (pcE G r.2.1) room m x es).2).length ≤ room := by
      intro m
      induction m with
      | zero => intro x es he; exact he
      | succ m ih =>
        intro x es he
        unfold stE
        split
        · exact ih _ _ he
        · split
          · exact he
          · next hh => exact ih _ _ (by rw [enL_app, List.length_append]; omega)
    have hst := hsl (r.1 4 - r.1 2) (r.1 2) [] (by show 2 + 0 ≤ room; omega)
    have hstl : (stB (stP G r room).1 (stP G r room).2).length = 2 + (enL (stP G r room).2).length := by
      unfold stB
      rw [List.length_cons, List.length_cons]
      omega
    refine makeStatus_ok hR1' v1 hR2' (by omega) v2 v3 v5 hA2 (by rw [hl2]; omega) (by omega) (fun σ3 q1 q2 q3 => ?_)
    refine L124 σ3 (.inr (stP G r room)) s (mksV r.1, r.2) ?_ ?_ ?_ (SmC.of ⟨hS1', hS2', hS3'⟩ (fun d d1 d2 => q3 d (by omega) (by omega) (by omega))) ⟨q1, ?_, hRm.2.2.1.of (fun d d1 d2 => q3 d (by omega) (by omega) (by omega)), hRm.2.2.2.of' (fun d d1 d2 => q3 d (by omega) (by omega) (by omega))⟩ (by rw [epr]; exact q2) (fun d d1 d2 d3 d4 d5 => ?_)
    · unfold mkPt
      rw [if_pos em]
    · rw [epr, hstl]
      exact hst
    · rw [epr, hstl]
      omega
    · have o2 : mksV r.1 2 = r.1 2 := by unfold mksV; rw [vup_o (by decide), vup_o (by decide), vup_o (by decide)]
      show RpsC σ3 (51 + 113 * pl) (mksV r.1 2) G r.2.1
      rw [o2]
      exact hR2'.of (fun d d1 d2 => q3 d (by omega) (by omega) (by omega))
    · rw [q3 d (by omega) d2 d3, hF2 d d2 d3]
