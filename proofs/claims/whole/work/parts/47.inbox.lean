/-! PURE: packets that come, units out of them: in the class -/
abbrev Inr : Type := Int32 × Int32 × Int32 × Int32 × List Int32 × (Nat → List Int32)
def slot (x : Int32) : Nat := (x &&& 31).toNatClampNeg
theorem slot_and (x : Int32) : slot x < 32 ∧ x &&& 31 = nI (slot x) := by
  obtain ⟨j, hj, e⟩ := pk_andE x (m := 31) 5 (by decide)
  unfold slot
  rw [e, nI_clamp (by omega)]
  exact ⟨hj, rfl⟩
def stNe (st : Nat → List Int32) (s : Nat) : Bool := decide (0 < (st s).length)
def RwC (σ : Sg) (o : Nat) (st : Nat → List Int32) (s : Nat) : Prop := σ (o + 3) s = nI (st s).length ∧ (st s).length ≤ 120 ∧ ∀ k, k < (st s).length → σ (o + 2) (120 * s + k) = (st s).getD k 0
def LtC (σ : Sg) (o : Nat) (lt : List Int32) : Prop := σ o 12 = nI lt.length ∧ lt.length ≤ 120 ∧ ∀ k, k < lt.length → σ (o + 4) k = lt.getD k 0
def InR (σ : Sg) (o mk : Nat) (r : Inr) : Prop := σ o 0 = nI mk ∧ σ o 7 = r.1 ∧ σ o 8 = r.2.1 ∧ σ o 9 = r.2.2.1 ∧ σ o 10 = r.2.2.2.1 ∧ LtC σ o r.2.2.2.2.1 ∧ σ o 6 = nI (cnt (stNe r.2.2.2.2.2) 0 32) ∧ ∀ s, s < 32 → RwC σ o r.2.2.2.2.2 s
def PkC (σ : Sg) (o : Nat) (pk : List Int32) : Prop := σ o 2 = nI pk.length ∧ ∀ k, k < pk.length → σ (o + 1) k = pk.getD k 0
def BgC (σ : Sg) (o : Nat) (bg : Option (List Int32)) : Prop := match bg with
  | none => σ o 3 = 0
  | some pk => σ o 3 = 1 ∧ PkC σ o pk
theorem InR.of {σ σ' : Sg} {o mk : Nat} {r : Inr} (h : InR σ o mk r) (h0 : ∀ k, k ≠ 2 → k ≠ 3 → σ' o k = σ o k) (h2 : σ' (o + 2) = σ (o + 2)) (h3 : σ' (o + 3) = σ (o + 3)) (h4 : σ' (o + 4) = σ (o + 4)) : InR σ' o mk r := by
  unfold InR LtC RwC at *
  rw [h0 0 (by decide) (by decide), h0 7 (by decide) (by decide), h0 8 (by decide) (by decide), h0 9 (by decide) (by decide), h0 10 (by decide) (by decide), h0 12 (by decide) (by decide), h0 6 (by decide) (by decide), h2, h3, h4]
  exact h
def Fin5 (o : Nat) (σ σ' : Sg) : Prop := ∀ d, d < o ∨ o + 5 ≤ d → σ' d = σ d
/-- what a cell that is handed makes of the packet that was begun -/
def curB (bg : Option (List Int32)) (q : Cel) : Option (List Int32) := if q.2.1 then some [] else bg
def nxtB (bg : Option (List Int32)) (q : Cel) : Option (List Int32) := match curB bg q with
  | none => none
  | some pk => if q.2.2.1 then none else some (pk ++ [q.1])
def donB (bg : Option (List Int32)) (q : Cel) : Option (List Int32) := match curB bg q with
  | none => none
  | some pk => if q.2.2.1 then some (pk ++ [q.1]) else none
theorem getD_app {l : List Int32} {x : Int32} {k : Nat} (h : k < l.length) : (l ++ [x]).getD k 0 = l.getD k 0 := by
  rw [List.getD_eq_getElem?_getD, List.getElem?_append_left h, ← List.getD_eq_getElem?_getD]
theorem getD_end {l : List Int32} {x : Int32} : (l ++ [x]).getD l.length 0 = x := by
  rw [List.getD_eq_getElem?_getD, List.getElem?_append_right (Nat.le_refl _), Nat.sub_self]
  rfl
theorem completes_ok {σ : Sg} {o mk : Nat} {r : Inr} {bg : Option (List Int32)} {q : Cel} {m : Bool} {Q : Int32 → Sg → Prop} (hI : InR σ o mk r) (hB : BgC σ o bg) (hq : celOK q) (hl : ∀ pk, curB bg q = some pk → pk.length < 121) (h : ∀ σ' : Sg, InR σ' o mk r → BgC σ' o (nxtB bg q) → (∀ pk, donB bg q = some pk → PkC σ' o pk) → Fin5 o σ σ' → Q (b01 (donB bg q).isSome) σ') : wpX3_completes o (cod q m) σ Q := by
  have L18 : ∀ σ1 : Sg, InR σ1 o mk r → BgC σ1 o (curB bg q) → Fin5 o σ σ1 → wpX3_completes_L18 Q o (cod q m) σ1 := by
    intro σ1 hI1 hB1 hF1
    unfold wpX3_completes_L18
    cases ec : curB bg q with
    | none =>
      rw [ec] at hB1
      have hB1 : σ1 o 3 = 0 := hB1
      have e1 : nxtB bg q = none := by unfold nxtB; rw [ec]
      have e2 : donB bg q = none := by unfold donB; rw [ec]
      rw [e1, e2] at h
      exact brt hB1 (h σ1 hI1 hB1 (fun pk hh => by cases hh) hF1)
    | some pk =>
      rw [ec] at hB1
      obtain ⟨b3, b2, bk⟩ := hB1
      have hpl := hl pk ec
      rw [b3, b2]
      refine brf (by decide) (brt (nI_lt hpl (by decide)) ?_)
      rintro _ rfl
      refine ⟨vin rfl hpl (by decide), ?_⟩
      rintro _ rfl
      rw [nI_clamp (by omega), nI_1, cod_b hq]
      generalize eS : up2 (up2 σ1 o 2 (nI (pk.length + 1))) (o + 1) pk.length q.1 = σ2
      have s0 : ∀ k, σ2 o k = if k = 2 then nI (pk.length + 1) else σ1 o k := fun k => by rw [← eS, up2_o (by omega), up2_e]; simp
      have s1 : ∀ k, σ2 (o + 1) k = if k = pk.length then q.1 else σ1 (o + 1) k := fun k => by rw [← eS, up2_e, up2_o (by omega)]; simp
      have sd : ∀ d, d ≠ o → d ≠ o + 1 → σ2 d = σ1 d := fun d d1 d2 => by rw [← eS, up2_o d2, up2_o d1]
      clear eS
      have hP2 : ∀ z : Int32, PkC (up2 σ2 o 3 z) o (pk ++ [q.1]) := by
        intro z
        refine ⟨?_, fun k hk => ?_⟩
        · rw [up2_e, if_neg (by omega), s0, if_pos rfl]
          simp
        · rw [up2_o (by omega), s1]
          have hk : k < pk.length + 1 := by simpa using hk
          by_cases e : k = pk.length
          · subst e
            rw [if_pos rfl, getD_end]
          · rw [if_neg e, getD_app (by omega)]
            exact bk k (by omega)
      have hI2 : ∀ z : Int32, InR (up2 σ2 o 3 z) o mk r := fun z => hI1.of (fun k k2 k3 => by rw [up2_e, if_neg (by omega), s0, if_neg k2]) (by rw [up2_o (by omega), sd _ (by omega) (by omega)]) (by rw [up2_o (by omega), sd _ (by omega) (by omega)]) (by rw [up2_o (by omega), sd _ (by omega) (by omega)])
      have hF2 : ∀ z : Int32, Fin5 o σ (up2 σ2 o 3 z) := fun z d hd => by rw [up2_o (by omega), sd _ (by omega) (by omega), hF1 d hd]
      refine brbit' (cod_l hq) (fun e => ?_) (fun e => ?_)
      · have e1 : nxtB bg q = some (pk ++ [q.1]) := by unfold nxtB; rw [ec]; simp [e]
        have e2 : donB bg q = none := by unfold donB; rw [ec]; simp [e]
        rw [e1, e2] at h
        unfold wpX3_completes_L74
        refine ⟨Or.inr rfl, ?_⟩
        rintro _ rfl
        rw [up2_e, if_pos ⟨rfl, rfl⟩]
        exact brf' (by decide) (h _ (hI2 1) ⟨by rw [up2_e, if_pos ⟨rfl, rfl⟩], hP2 1⟩ (fun pk hh => by cases hh) (hF2 1))
      · have e1 : nxtB bg q = none := by unfold nxtB; rw [ec]; simp [e]
        have e2 : donB bg q = some (pk ++ [q.1]) := by unfold donB; rw [ec]; simp [e]
        rw [e1, e2] at h
        unfold wpX3_completes_L74
        refine ⟨Or.inl rfl, ?_⟩
        rintro _ rfl
        rw [up2_e, if_pos ⟨rfl, rfl⟩]
        refine brt' rfl (h _ (hI2 0) ?_ (fun pk' hh => ?_) (hF2 0))
        · show up2 σ2 o 3 0 o 3 = 0
          rw [up2_e, if_pos ⟨rfl, rfl⟩]
        · cases hh
          exact hP2 0
  unfold wpX3_completes
  refine brbit (cod_f hq) (fun e => ?_) (fun e => ?_)
  · refine L18 σ hI ?_ (fun _ _ => rfl)
    have ec : curB bg q = bg := by unfold curB; simp [e]
    rw [ec]
    exact hB
  · rintro _ rfl _ rfl
    refine L18 _ (hI.of (fun k k2 k3 => ?_) ?_ ?_ ?_) ?_ (fun d hd => ?_)
    · rw [up2_e, if_neg (by omega), up2_e, if_neg (by omega)]
    · rw [up2_o (by omega), up2_o (by omega)]
    · rw [up2_o (by omega), up2_o (by omega)]
    · rw [up2_o (by omega), up2_o (by omega)]
    · have ec : curB bg q = some [] := by unfold curB; simp [e]
      rw [ec]
      refine ⟨?_, ?_, fun k hk => ?_⟩
      · rw [up2_e, if_neg (by omega), up2_e, if_pos ⟨rfl, rfl⟩]
      · rw [up2_e, if_pos ⟨rfl, rfl⟩]
        rfl
      · simp at hk
    · rw [up2_o (by omega), up2_o (by omega)]
/-- delivering -/
def smF (lt : List Int32) : Nat → Nat → Int32 → Int32
  | 0, _, s => s
  | m + 1, k, s => smF lt m (k + 1) (31 * s + lt.getD k 0)
def lup (st : Nat → List Int32) (s : Nat) (v : List Int32) : Nat → List Int32 := fun d => if d = s then v else st d
def dlv1 (r : Inr) : Inr := (r.1 + 1, r.2.1 + nI (r.2.2.2.2.2 (slot r.1)).length, r.2.2.1, smF (r.2.2.2.2.2 (slot r.1)) (r.2.2.2.2.2 (slot r.1)).length 0 (31 * r.2.2.2.1 + nI (r.2.2.2.2.2 (slot r.1)).length), r.2.2.2.2.2 (slot r.1), lup r.2.2.2.2.2 (slot r.1) [])
def dlvN : Nat → Inr → Inr
  | 0, r => r
  | m + 1, r => if stNe r.2.2.2.2.2 (slot r.1) = true then dlvN m (dlv1 r) else r
theorem stNe_lup {st : Nat → List Int32} {s : Nat} {v : List Int32} : stNe (lup st s v) = bup (stNe st) s (decide (0 < v.length)) := by
  funext d
  unfold stNe lup bup
  by_cases e : d = s
  · simp [e]
  · simp [e]
theorem dl_sum {o i : Nat} {Q : Sg → Prop} {lt : List Int32} {K : Nat → Int32 → Sg → Prop} (hl : lt.length ≤ 120) : ∀ (m k : Nat) (s : Int32) (σ : Sg), k + m = lt.length → LtC σ o lt → σ o 10 = s → (∀ σ' : Sg, σ' o 10 = smF lt m k s → (∀ j, j ≠ 10 → σ' o j = σ o j) → (∀ d, d ≠ o → σ' d = σ d) → K o (nI (i + 1)) σ') → wpX3_deliverStored_L124 Q K (m + 1) o (nI i) (nI k) σ := by
  intro m
  induction m with
  | zero =>
    intro k s σ hk hL hs h
    unfold wpX3_deliverStored_L124
    rw [hL.1]
    refine brt (nI_le (by omega) (by omega)) ?_
    rintro _ rfl
    rw [nI_1]
    exact h σ hs (fun _ _ => rfl) (fun _ _ => rfl)
  | succ m ih =>
    intro k s σ hk hL hs h
    unfold wpX3_deliverStored_L124
    rw [hL.1]
    refine brf (nI_ge (by omega) (by omega)) ⟨vin rfl (by omega) (by decide), ?_⟩
    rintro _ rfl _ rfl
    rw [nI_clamp (by omega), nI_1, hs, hL.2.2 k (by omega)]
    refine ih (k + 1) (31 * s + lt.getD k 0) _ (by omega) ⟨?_, hL.2.1, fun j hj => ?_⟩ ?_ (fun σ' g1 g2 g3 => h σ' g1 (fun j hj => ?_) (fun d hd => ?_))
    · rw [up2_e, if_neg (by omega)]; exact hL.1
    · rw [up2_o (by omega)]; exact hL.2.2 j hj
    · rw [up2_e, if_pos ⟨rfl, rfl⟩]
    · rw [g2 j hj, up2_e, if_neg (by omega)]
    · rw [g3 d hd, up2_o hd]
theorem dl1 {o mk : Nat} {Q : Sg → Prop} : ∀ (m i : Nat) (σ : Sg) (r : Inr), i + m = 32 → InR σ o mk r → (∀ σ' : Sg, InR σ' o mk (dlvN m r) → (∀ k, k = 2 ∨ k = 3 → σ' o k = σ o k) → σ' (o + 1) = σ (o + 1) → Fin5 o σ σ' → Q σ') → wpX3_deliverStored_L2 Q (m + 1) o (nI i) σ := by
  intro m
  induction m with
  | zero =>
    intro i σ r hi hI h
    unfold wpX3_deliverStored_L2
    exact pk_le 32 i (fun _ => h σ hI (fun _ _ => rfl) rfl (fun _ _ => rfl)) (fun hh => by omega)
  | succ m ih =>
    intro i σ r hi hI h
    have hI0 := hI
    obtain ⟨i0, i7, i8, i9, i10, iL, i6, iR⟩ := hI
    obtain ⟨hs, es⟩ := slot_and r.1
    obtain ⟨r1, r2, r3⟩ := iR _ hs
    unfold wpX3_deliverStored_L2
    rw [i7, es, nI_clamp (by omega), r1]
    refine pk_le 32 i (fun hh => by omega) (fun _ => ⟨vin rfl hs (by decide), ?_⟩)
    refine pk_le (r.2.2.2.2.2 (slot r.1)).length 0 (fun h0 => ?_) (fun h0 => ?_)
    · refine h σ ?_ (fun _ _ => rfl) rfl (fun _ _ => rfl)
      unfold dlvN
      rw [if_neg (by unfold stNe; simp only [decide_eq_true_eq]; omega)]
      exact hI0
    · rintro _ rfl
      refine ⟨vin rfl hs (by decide), ?_⟩
      rw [nI_clamp (by omega), r1, if_neg (fun hh => by have := (nI_ltI (a := 120) (by decide) (by omega)).mp hh; omega)]
      rintro _ rfl _ rfl
      have e120 : nI (slot r.1) * 120 = nI (slot r.1 * 120) := pk_mul _ 120
      rw [up2_e, if_pos ⟨rfl, rfl⟩, nI_clamp (by omega), e120, nI_clamp (by omega)]
      refine ⟨nI_pos (by omega), by decide, nI_pos (by omega), by omega, ?_, ?_⟩
      · show 0 + _ ≤ 120
        omega
      rintro _ rfl
      refine ⟨vin rfl hs (by decide), ?_⟩
      rintro _ rfl _ rfl _ rfl _ rfl _ rfl
      rw [up2_o (d := o + 2) (by omega), up2_o (d := o + 4) (by omega)]
      generalize eR : va_cpy (σ (o + 2)) (σ (o + 4)) (slot r.1 * 120) (Int32.toNatClampNeg 0) (r.2.2.2.2.2 (slot r.1)).length = row
      have hrow : ∀ k, k < (r.2.2.2.2.2 (slot r.1)).length → row k = (r.2.2.2.2.2 (slot r.1)).getD k 0 := fun k hk => by
        rw [← eR, show Int32.toNatClampNeg 0 = 0 from rfl, pk_cpy_in (Nat.zero_le _) (by omega), Nat.sub_zero, Nat.mul_comm]
        exact r3 k hk
      simp only [up2_e, vu_o (show o ≠ o + 4 by omega), show o ≠ o + 3 by omega, false_and, true_and, if_false, if_true, show ¬ (7 : Nat) = 6 by decide, show ¬ (8 : Nat) = 7 by decide, show ¬ (8 : Nat) = 6 by decide, show ¬ (12 : Nat) = 7 by decide, show ¬ (12 : Nat) = 6 by decide, show ¬ (12 : Nat) = 8 by decide, show ¬ (10 : Nat) = 8 by decide, show ¬ (10 : Nat) = 7 by decide, show ¬ (10 : Nat) = 6 by decide, show ¬ (10 : Nat) = 12 by decide, show ¬ (8 : Nat) = 12 by decide, show ¬ (7 : Nat) = 12 by decide, show ¬ (6 : Nat) = 12 by decide]
      rw [i6, i7, i8, i10]
      have hcnt := cnt_bup (f := stNe r.2.2.2.2.2) (v := false) (a := 0) 32 (Nat.zero_le (slot r.1)) (by omega)
      have hne : stNe r.2.2.2.2.2 (slot r.1) = true := by unfold stNe; simp; omega
      rw [hne] at hcnt
      have hcnt : cnt (bup (stNe r.2.2.2.2.2) (slot r.1) false) 0 32 + 1 = cnt (stNe r.2.2.2.2.2) 0 32 := hcnt
      rw [← hcnt, nI_pred]
      generalize eS : up2 (up2 (up2 (up2 (up2 (va_up (up2 σ o 12 (nI (r.2.2.2.2.2 (slot r.1)).length)) (o + 4) row) (o + 3) (slot r.1) 0) o 6 (nI (cnt (bup (stNe r.2.2.2.2.2) (slot r.1) false) 0 32))) o 7 (r.1 + 1)) o 8 (r.2.1 + nI (r.2.2.2.2.2 (slot r.1)).length)) o 10 (31 * r.2.2.2.1 + nI (r.2.2.2.2.2 (slot r.1)).length) = σ1
      have s0 : ∀ k, σ1 o k = if k = 10 then 31 * r.2.2.2.1 + nI (r.2.2.2.2.2 (slot r.1)).length else if k = 8 then r.2.1 + nI (r.2.2.2.2.2 (slot r.1)).length else if k = 7 then r.1 + 1 else if k = 6 then nI (cnt (bup (stNe r.2.2.2.2.2) (slot r.1) false) 0 32) else if k = 12 then nI (r.2.2.2.2.2 (slot r.1)).length else σ o k := by
        intro k
        rw [← eS, up2_e, up2_e, up2_e, up2_e, up2_o (by omega), vu_o (by omega), up2_e]
        simp
      have s3 : ∀ k, σ1 (o + 3) k = if k = slot r.1 then 0 else σ (o + 3) k := by
        intro k
        rw [← eS, up2_o (by omega), up2_o (by omega), up2_o (by omega), up2_o (by omega), up2_e, vu_o (by omega), up2_o (by omega)]
        simp
      have s4 : σ1 (o + 4) = row := by
        rw [← eS, up2_o (by omega), up2_o (by omega), up2_o (by omega), up2_o (by omega), up2_o (by omega), vu_s]
      have sd : ∀ d, d ≠ o → d ≠ o + 3 → d ≠ o + 4 → σ1 d = σ d := by
        intro d d1 d2 d3
        rw [← eS, up2_o d1, up2_o d1, up2_o d1, up2_o d1, up2_o d2, vu_o d3, up2_o d1]
      clear eS eR
      have hL1 : LtC σ1 o (r.2.2.2.2.2 (slot r.1)) := ⟨by rw [s0]; simp, r2, fun k hk => by rw [s4]; exact hrow k hk⟩
      refine ⟨(r.2.2.2.2.2 (slot r.1)).length + 1, dl_sum r2 (r.2.2.2.2.2 (slot r.1)).length 0 (31 * r.2.2.2.1 + nI (r.2.2.2.2.2 (slot r.1)).length) σ1 (by omega) hL1 (by rw [s0]; simp) (fun σ2 g1 g2 g3 => ?_)⟩
      refine ih (i + 1) σ2 (dlv1 r) (by omega) ⟨?_, ?_, ?_, ?_, g1, ⟨?_, r2, fun k hk => ?_⟩, ?_, fun s hs9 => ?_⟩ (fun σ3 k1 k2 k3 k4 => h σ3 ?_ (fun k hk => ?_) ?_ (fun d hd => ?_))
      · rw [g2 0 (by decide), s0]; simp; exact i0
      · rw [g2 7 (by decide), s0]; simp [dlv1]
      · rw [g2 8 (by decide), s0]; simp [dlv1]
      · rw [g2 9 (by decide), s0]; simp [dlv1]; exact i9
      · rw [g2 12 (by decide)]; exact hL1.1
      · rw [g3 _ (by omega)]; exact hL1.2.2 k hk
      · rw [g2 6 (by decide), s0]
        show _ = nI (cnt (stNe (lup r.2.2.2.2.2 (slot r.1) [])) 0 32)
        rw [stNe_lup]
        simp
      · show RwC σ2 o (lup r.2.2.2.2.2 (slot r.1) []) s
        unfold RwC lup
        rw [g3 _ (by omega), g3 _ (by omega), s3, sd (o + 2) (by omega) (by omega) (by omega)]
        by_cases e : s = slot r.1
        · simp [e]
          rfl
        · rw [if_neg e, if_neg e]
          exact iR s hs9
      · have : dlvN (m + 1) r = dlvN m (dlv1 r) := by
          rw [dlvN, if_pos hne]
        rw [this]
        exact k1
      · rw [k2 k hk, g2 k (by omega), s0]
        rcases hk with rfl | rfl <;> simp
      · rw [k3, g3 _ (by omega), sd _ (by omega) (by omega) (by omega)]
      · rw [k4 d hd, g3 _ (by omega), sd _ (by omega) (by omega) (by omega)]
theorem deliverStored_ok {σ : Sg} {o mk : Nat} {r : Inr} {Q : Sg → Prop} (hI : InR σ o mk r) (h : ∀ σ' : Sg, InR σ' o mk (dlvN 32 r) → (∀ k, k = 2 ∨ k = 3 → σ' o k = σ o k) → σ' (o + 1) = σ (o + 1) → Fin5 o σ σ' → Q σ') : wpX3_deliverStored o σ Q := ⟨33, dl1 32 0 σ r rfl hI h⟩
