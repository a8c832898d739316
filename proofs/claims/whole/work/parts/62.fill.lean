/-! PURE: a block is filled, in the class -/
abbrev Fst : Type := Smd × Rmd × List Int32 × List (Nat × Prt)
def rmN (bd : Bool) (bk : Int32) (left : Nat) : Nat := if bd = true ∧ bk < nI left then (if bk < 3 then 0 else bk.toNatClampNeg - 2) else left - 2
def fb2 (b : Nat) (s : Fst) (t : Prt × Smd × Rmd) : Fst := (payB t.2.1 (prB (fldS t.2.1) t.1).length, t.2.2, s.2.2.1 ++ nI b :: nI (prB (fldS t.2.1) t.1).length :: prB (fldS t.2.1) t.1, s.2.2.2 ++ [(b, t.1)])
def fb1 (G : Nat → List Cel) (bd : Bool) (g b : Nat) (s : Fst) : Option Fst := if rmN bd s.1.2.1 (g - s.2.2.1.length) = 0 then none else (mkPt G s.1 s.2.1 (rmN bd s.1.2.1 (g - s.2.2.1.length))).map (fb2 b s)
def fbI (G : Nat → List Cel) (bd : Bool) (g b : Nat) : Nat → Fst → Fst
  | 0, s => s
  | m + 1, s => match fb1 G bd g b s with
    | none => s
    | some t => fbI G bd g b m t
def bkB (lo : Int) (bk : Int32) : Prop := lo ≤ bk.toInt ∧ bk.toInt ≤ 2000
theorem sub_toInt {bk : Int32} {n : Nat} (h1 : -(2 ^ 30 : Int) ≤ bk.toInt) (h2 : bk.toInt ≤ 2 ^ 30) (hn : n < 2 ^ 29) : (bk - nI n).toInt = bk.toInt - n := by
  rw [Int32.toInt_sub, nI_toInt (by omega), Int.bmod_eq_of_le (by omega) (by omega)]
theorem bk_cl {bk : Int32} (h : 0 ≤ bk.toInt) : nI bk.toNatClampNeg = bk := by
  apply Int32.toInt_inj.mp
  have h1 : bk.toInt < 2 ^ 31 := Int32.toInt_lt bk
  have h2 : (bk.toNatClampNeg : Int) = bk.toInt := by
    show ((bk.toInt.toNat : Nat) : Int) = bk.toInt
    omega
  rw [nI_toInt (by omega)]
  exact h2
theorem lt_i {a b : Int32} : a < b ↔ a.toInt < b.toInt := Int32.lt_iff_toInt_lt
/-- what belongs to the filling -/
def FsV (T : Nat) (ks : Nat → Nat → Int32) (lo : Int) (s : Fst) : Prop := SI T s.1.1 s.1.2.2.1 ∧ ObV s.1.2.2.2.1 s.1.2.2.2.2.1 s.1.2.2.2.2.2 ∧ s.1.1 5 + 252 < 2 ^ 20 + s.2.2.1.length ∧ ObK ks s.1.2.2.2.2.1 s.1.2.2.2.2.2 ∧ RvV s.2.1.1 ∧ lo - s.2.2.1.length ≤ s.1.2.1.toInt ∧ s.1.2.1.toInt ≤ 2000
theorem FsV.nx {T g b room : Nat} {ks : Nat → Nat → Int32} {lo : Int} {G : Nat → List Cel} {s : Fst} {t : Prt × Smd × Rmd} (h : FsV T ks lo s) (hlo : -(2 ^ 20 : Int) ≤ lo) (hb : s.2.2.1.length + 2 + room ≤ 250) (e : mkPt G s.1 s.2.1 room = some t) (hl1 : 1 ≤ (prB (fldS t.2.1) t.1).length) (hl2 : (prB (fldS t.2.1) t.1).length ≤ room) : FsV T ks lo (fb2 b s t) ∧ (fb2 b s t).2.2.1.length = s.2.2.1.length + 2 + (prB (fldS t.2.1) t.1).length := by
  obtain ⟨h1, h2, h3, h4, h5, h6, h7⟩ := h
  obtain ⟨pt, s', r'⟩ := t
  obtain ⟨q1, q2, q3, q4, q5, q6⟩ := mkPt_V e ⟨h1, h2, by omega⟩ h4 h5
  have hlen : (fb2 b s (pt, s', r')).2.2.1.length = s.2.2.1.length + 2 + (prB (fldS s') pt).length := by
    show (s.2.2.1 ++ nI b :: nI _ :: prB (fldS s') pt).length = _
    rw [List.length_append, List.length_cons, List.length_cons]
    omega
  have hl1 : 1 ≤ (prB (fldS s') pt).length := hl1
  have hl2 : (prB (fldS s') pt).length ≤ room := hl2
  refine ⟨⟨q1, q2, ?_, q4, q5, ?_, ?_⟩, hlen⟩
  · rw [hlen]
    show s'.1 5 + 252 < _
    omega
  · rw [hlen]
    show _ ≤ (s'.2.1 - nI ((prB (fldS s') pt).length + 2)).toInt
    rw [q6, sub_toInt (by omega) (by omega) (by omega)]
    omega
  · show (s'.2.1 - nI ((prB (fldS s') pt).length + 2)).toInt ≤ 2000
    rw [q6, sub_toInt (by omega) (by omega) (by omega)]
    omega
theorem fb81 {P B p b pl a c2 g mkS mkR T : Nat} {x5 : Int32} {bd : Bool} {key : Nat → Int32} {lo : Int} {G : Nat → List Cel} {Q : Sg → Prop} {K15 : Int32 → Nat → Int32 → Nat → Int32 → Sg → Prop} {σ0 : Sg} (hB : σ0 0 0 = nI B) (hB3 : B ≤ 3) (hP : P = 2 * B) (hp : p < 2) (hb : b < B) (hpl : pl = p * B + b) (ha : 9 + 113 * P ≤ a) (hg : g ≤ 250) (hlo : -(2 ^ 20 : Int) ≤ lo) : ∀ (m k : Nat) (σ : Sg) (s : Fst), k + m = 250 → 3 * k ≤ s.2.2.1.length → s.2.2.1.length ≤ g → Air σ a s.2.2.1 → SmC σ (9 + 113 * pl) mkS s.1 → RmC σ (51 + 113 * pl) mkR G s.2.1 → FsV T (ksS key mkS) lo s → σ 4 = key → FrP pl a σ0 σ → (∀ (σ' : Sg) (t : Fst), t = fbI G bd g b m s → t.2.2.1.length ≤ g → s.2.2.1.length ≤ t.2.2.1.length → Air σ' a t.2.2.1 → SmC σ' (9 + 113 * pl) mkS t.1 → RmC σ' (51 + 113 * pl) mkR G t.2.1 → FsV T (ksS key mkS) lo t → FrP pl a σ0 σ' → wpX8_fillBlock_L160 P sbT Q K15 (nI p) c2 (nI g) a x5 σ') → wpX8_fillBlock_L81 P sbT Q K15 (m + 2) (nI p) c2 (nI g) a x5 (b01 bd) (nI b) (9 + 113 * pl) 1 (nI k) σ := by
  have hplP : pl < P := by
    rw [hpl, hP]
    have : p * B ≤ 1 * B := Nat.mul_le_mul_right B (by omega)
    omega
  intro m
  induction m with
  | zero =>
    intro k σ s hk h3 hlg
    omega
  | succ m ih =>
    intro k σ s hk h3 hlg hA hS hR hV h4 hF h
    have hV0 := hV
    obtain ⟨f1, f2, f3, f4, f5, f6, f7⟩ := hV
    unfold wpX8_fillBlock_L81
    refine pk_le 250 k (fun hh => by omega) (fun _ => brf (by decide) ?_)
    rw [hA.1, pk_sub hlg]
    rintro _ rfl
    -- nothing more
    have stop : fb1 G bd g b s = none → ∀ σ2 : Sg, Air σ2 a s.2.2.1 → (∀ d, d ≠ a → d ≠ a + 1 → σ2 d = σ d) → wpX8_fillBlock_L151 P sbT Q K15 (wpX8_fillBlock_L81 P sbT Q K15 (m + 2)) (nI p) c2 (nI g) a x5 (b01 bd) (nI b) (9 + 113 * pl) (nI k) σ2 := by
      intro e σ2 hA2 hF2
      unfold wpX8_fillBlock_L151 wpX8_fillBlock_L152
      rintro _ rfl
      unfold wpX8_fillBlock_L81
      have fin : wpX8_fillBlock_L160 P sbT Q K15 (nI p) c2 (nI g) a x5 σ2 := by
        refine h σ2 s ?_ hlg (Nat.le_refl _) hA2 (hS.of (fun d d1 d2 => hF2 d (by omega) (by omega))) (hR.of (fun d d1 d2 => hF2 d (by omega) (by omega))) hV0 (fun d d1 d2 d3 d4 d5 => by rw [hF2 d d2 d3, hF d d1 d2 d3 d4 d5])
        unfold fbI
        rw [e]
      rw [nI_1]
      exact pk_le 250 (k + 1) (fun _ => fin) (fun _ => brt rfl fin)
    -- with the room
    have L123 : ∀ z : Int32, (z - 2 < 1 → rmN bd s.1.2.1 (g - s.2.2.1.length) = 0) → (¬ z - 2 < 1 → z - 2 = nI (rmN bd s.1.2.1 (g - s.2.2.1.length)) ∧ 1 ≤ rmN bd s.1.2.1 (g - s.2.2.1.length) ∧ s.2.2.1.length + 2 + rmN bd s.1.2.1 (g - s.2.2.1.length) ≤ g) → wpX8_fillBlock_L123 P sbT Q K15 (wpX8_fillBlock_L81 P sbT Q K15 (m + 2)) (nI p) c2 (nI g) a x5 (b01 bd) (nI b) (9 + 113 * pl) (nI k) z σ := by
      intro z hz1 hz2
      unfold wpX8_fillBlock_L123
      rintro _ rfl
      refine ⟨fun hh => ?_, fun hh => ?_⟩
      · have e : fb1 G bd g b s = none := by unfold fb1; rw [if_pos (hz1 hh)]
        exact stop e σ hA (fun _ _ _ => rfl)
      · obtain ⟨ez, er1, er2⟩ := hz2 hh
        rw [ez]
        refine makePart_ok (T := T) (mkS := mkS) (mkR := mkR) (G := G) (s := s.1) (r := s.2.1) (by rw [hF 0 (by omega) (by omega) (by omega) (by omega) (by omega)]; exact hB) hB3 hP hp hb hpl ha hA er1 (by omega) hS hR ⟨f1, f2, by omega⟩ (by rw [h4]; exact f4) f5 (fun e σ2 q1 q2 => ?_) (fun pt s' r' e hl2 hl1 σ2 q1 q2 q3 q4 => ?_)
        · have e2 : fb1 G bd g b s = none := by
            unfold fb1
            rw [if_neg (by omega), e]
            rfl
          exact brt rfl (stop e2 σ2 q1 q2)
        · have e2 : fb1 G bd g b s = some (fb2 b s (pt, s', r')) := by
            unfold fb1
            rw [if_neg (by omega), e]
            rfl
          obtain ⟨n1, n2⟩ := hV0.nx (g := g) (b := b) hlo (by omega) e hl1 hl2
          have n2 : (fb2 b s (pt, s', r')).2.2.1.length = s.2.2.1.length + 2 + (prB (fldS s') pt).length := n2
          refine brf (by decide) ?_
          unfold wpX8_fillBlock_L152
          rintro _ rfl
          rw [nI_1]
          refine ih (k + 1) σ2 (fb2 b s (pt, s', r')) (by omega) (by omega) ?_ q3 q1 q2 n1 ?_ (fun d d1 d2 d3 d4 d5 => by rw [q4 d d1 d2 d3 d4 d5, hF d d1 d2 d3 d4 d5]) (fun σ' t et t1 t2 t3 t4 t5 t6 t7 => h σ' t ?_ t1 (by omega) t3 t4 t5 t6 t7)
          · have hl2 : (prB (fldS s') pt).length ≤ rmN bd s.1.2.1 (g - s.2.2.1.length) := hl2
            omega
          · rw [q4 4 (by omega) (by omega) (by omega) (by omega) (by omega)]; exact h4
          · rw [et, fbI, e2]
    refine br01 (fun e => ?_) (fun e => ?_)
    · -- as much as is left
      have er : rmN bd s.1.2.1 (g - s.2.2.1.length) = g - s.2.2.1.length - 2 := by unfold rmN; rw [if_neg (by rw [e]; simp)]
      rw [e] at L123 ⊢
      rw [e] at er
      refine L123 (nI (g - s.2.2.1.length)) (fun hh => ?_) (fun hh => ?_)
      · rw [er]
        rcases Nat.lt_or_ge (g - s.2.2.1.length) 3 with h9 | h9
        · omega
        · have e2 : nI (g - s.2.2.1.length) - 2 = nI (g - s.2.2.1.length - 2) := pk_sub (a := g - s.2.2.1.length) (b := 2) (by omega)
          rw [e2] at hh
          have := (nI_ltI (a := g - s.2.2.1.length - 2) (b := 1) (by omega) (by decide)).mp hh
          omega
      · rw [er]
        rcases Nat.lt_or_ge (g - s.2.2.1.length) 3 with h9 | h9
        · exfalso
          apply hh
          rw [lt_i]
          have := sub_toInt (bk := nI (g - s.2.2.1.length)) (n := 2) (by rw [nI_toInt (by omega)]; omega) (by rw [nI_toInt (by omega)]; omega) (by decide)
          have e2 : (nI (g - s.2.2.1.length) - 2).toInt = (nI (g - s.2.2.1.length)).toInt - 2 := this
          rw [e2, nI_toInt (by omega)]
          show _ < (1 : Int)
          omega
        · exact ⟨pk_sub (a := g - s.2.2.1.length) (b := 2) (by omega), by omega, by omega⟩
    · rintro _ rfl
      rw [hS.1.2.2]
      rw [e] at L123 ⊢
      by_cases hlt : s.1.2.1 < nI (g - s.2.2.1.length)
      · rw [if_pos hlt]
        have hlt2 := lt_i.mp hlt
        rw [nI_toInt (by omega)] at hlt2
        have es : (s.1.2.1 - 2).toInt = s.1.2.1.toInt - 2 := sub_toInt (n := 2) (by omega) (by omega) (by decide)
        by_cases h3k : s.1.2.1 < 3
        · have er : rmN true s.1.2.1 (g - s.2.2.1.length) = 0 := by unfold rmN; rw [if_pos ⟨rfl, hlt⟩, if_pos h3k]
          refine L123 s.1.2.1 (fun _ => er) (fun hh => ?_)
          exfalso
          apply hh
          have h3k := lt_i.mp h3k
          have h3k : s.1.2.1.toInt < 3 := h3k
          rw [lt_i, es]
          show _ < (1 : Int)
          omega
        · have er : rmN true s.1.2.1 (g - s.2.2.1.length) = s.1.2.1.toNatClampNeg - 2 := by unfold rmN; rw [if_pos ⟨rfl, hlt⟩, if_neg h3k]
          have h3k : ¬ s.1.2.1.toInt < (3 : Int) := fun hh => h3k (lt_i.mpr hh)
          have ecl := bk_cl (bk := s.1.2.1) (by omega)
          have hc : (s.1.2.1.toNatClampNeg : Int) = s.1.2.1.toInt := by
            show ((s.1.2.1.toInt.toNat : Nat) : Int) = _
            omega
          refine L123 s.1.2.1 (fun hh => ?_) (fun hh => ?_)
          · exfalso
            have hh := lt_i.mp hh
            rw [es] at hh
            have hh : s.1.2.1.toInt - 2 < (1 : Int) := hh
            omega
          · rw [er]
            refine ⟨?_, by omega, by omega⟩
            have e2 : nI s.1.2.1.toNatClampNeg - 2 = nI (s.1.2.1.toNatClampNeg - 2) := pk_sub (a := s.1.2.1.toNatClampNeg) (b := 2) (by omega)
            rw [ecl] at e2
            exact e2
      · rw [if_neg hlt]
        have er : rmN true s.1.2.1 (g - s.2.2.1.length) = g - s.2.2.1.length - 2 := by unfold rmN; rw [if_neg (fun hh => hlt hh.2)]
        refine L123 (nI (g - s.2.2.1.length)) (fun hh => ?_) (fun hh => ?_)
        · rw [er]
          rcases Nat.lt_or_ge (g - s.2.2.1.length) 3 with h9 | h9
          · omega
          · have e2 : nI (g - s.2.2.1.length) - 2 = nI (g - s.2.2.1.length - 2) := pk_sub (a := g - s.2.2.1.length) (b := 2) (by omega)
            rw [e2] at hh
            have := (nI_ltI (a := g - s.2.2.1.length - 2) (b := 1) (by omega) (by decide)).mp hh
            omega
        · rw [er]
          rcases Nat.lt_or_ge (g - s.2.2.1.length) 3 with h9 | h9
          · exfalso
            apply hh
            rw [lt_i]
            have := sub_toInt (bk := nI (g - s.2.2.1.length)) (n := 2) (by rw [nI_toInt (by omega)]; omega) (by rw [nI_toInt (by omega)]; omega) (by decide)
            have e2 : (nI (g - s.2.2.1.length) - 2).toInt = (nI (g - s.2.2.1.length)).toInt - 2 := this
            rw [e2, nI_toInt (by omega)]
            show _ < (1 : Int)
            omega
          · exact ⟨pk_sub (a := g - s.2.2.1.length) (b := 2) (by omega), by omega, by omega⟩
