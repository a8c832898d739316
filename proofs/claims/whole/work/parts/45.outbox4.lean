/-! PURE: what stays of a box of packets -/
def rst (w : Wt) : List (Nat × List Int32) := if w.2 = 0 then w.1 else w.1.tail
theorem rst_iff {w : Wt} {P : Nat × List Int32 → Prop} : (∀ j, j < w.1.length → 0 < j ∨ w.2 = 0 → P (wg w j)) ↔ ∀ p ∈ rst w, P p := by
  obtain ⟨w1, g⟩ := w
  constructor
  · intro h p hp
    unfold rst at hp
    by_cases e : g = 0
    · simp only [e, if_true] at hp
      obtain ⟨j, hj, ej⟩ := List.getElem_of_mem hp
      have := h j hj (Or.inr e)
      have ew : wg (w1, g) j = p := by
        unfold wg
        rw [List.getD_eq_getElem?_getD, List.getElem?_eq_getElem hj, ej]
        rfl
      rw [ew] at this
      exact this
    · simp only [e, if_false] at hp
      cases w1 with
      | nil => cases hp
      | cons q qs =>
        obtain ⟨j, hj, ej⟩ := List.getElem_of_mem (show p ∈ qs from hp)
        have := h (j + 1) (by simp; omega) (Or.inl (by omega))
        have ew : wg (q :: qs, g) (j + 1) = p := by
          unfold wg
          rw [List.getD_eq_getElem?_getD]
          simp [hj, ej]
        rw [ew] at this
        exact this
  · intro h j hj hg
    apply h
    unfold rst
    by_cases e : g = 0
    · simp only [e, if_true]
      exact wg_mem (w := (w1, g)) hj
    · simp only [e, if_false]
      cases w1 with
      | nil => simp at hj
      | cons q qs =>
        cases j with
        | zero => rcases hg with h | h
                  · omega
                  · exact absurd h e
        | succ j =>
          have hj : j < qs.length := by simpa using hj
          show wg (q :: qs, g) (j + 1) ∈ qs
          unfold wg
          rw [List.getD_eq_getElem?_getD]
          simp [hj]
theorem rst_cut {w : Wt} {o : Nat} : rst (cutW w o) = (rst w).filter (fun q => decide (q.1 ≠ o)) := by
  obtain ⟨w1, g⟩ := w
  cases w1 with
  | nil => unfold rst cutW; simp
  | cons p ps =>
    show rst (if p.1 = o ∧ g = 0 then (ps.filter (fun q => decide (q.1 ≠ o)), 0) else (p :: ps.filter (fun q => decide (q.1 ≠ o)), g)) = (if g = 0 then p :: ps else ps).filter (fun q => decide (q.1 ≠ o))
    by_cases e : g = 0
    · rw [if_pos e]
      by_cases e2 : p.1 = o
      · rw [if_pos ⟨e2, e⟩, List.filter_cons, if_neg (by simp [e2])]
        rfl
      · rw [if_neg (fun h => e2 h.1), List.filter_cons, if_pos (by simpa using e2)]
        unfold rst
        rw [if_pos e]
    · rw [if_neg e, if_neg (fun h => e h.2)]
      unfold rst
      rw [if_neg e]
      rfl
theorem cut_sub {w : Wt} {o : Nat} : ((cutW w o).1).Sublist w.1 := by
  obtain ⟨w1, g⟩ := w
  cases w1 with
  | nil => exact List.Sublist.refl _
  | cons p ps =>
    show (if p.1 = o ∧ g = 0 then (ps.filter (fun q => decide (q.1 ≠ o)), 0) else (p :: ps.filter (fun q => decide (q.1 ≠ o)), g)).1.Sublist (p :: ps)
    split
    · exact List.Sublist.cons _ List.filter_sublist
    · exact List.Sublist.cons_cons _ List.filter_sublist
theorem lowK_mono {kp kp' : Nat → Bool} {nc : Nat} (h : ∀ k, kp' k = true → kp k = true) : lowK kp nc ≤ lowK kp' nc := by
  obtain ⟨g1, g2, g3⟩ := lowK_spec kp nc
  obtain ⟨f1, f2, f3⟩ := lowK_spec kp' nc
  rcases Nat.lt_or_ge (lowK kp' nc) (lowK kp nc) with hh | hh
  · have := h _ (f3 (by omega))
    rw [g2 _ hh] at this
    cases this
  · exact hh
theorem obV_cut {nc c : Nat} {un : Nat → Un} {w : Wt} (hV : ObV nc un w) : ObV nc (unK un c) (cutW w (c + 1)) := by
  obtain ⟨v1, v2, v3, v4, v5, v6, v7, v8, v9⟩ := hV
  have v9 := (rst_iff (P := fun p => p.1 = 0 ∨ kpt un (p.1 - 1) = true)).mp v9
  have hkp : ∀ k, bup (kpt un) c false k = true → kpt un k = true := fun k hk => by
    unfold bup at hk
    split at hk
    · cases hk
    · exact hk
  refine ⟨v1, ?_, fun d hd => ?_, fun d hd => ?_, ?_, fun p hp => v6 p (cutW_mem hp), ?_, ?_, (rst_iff (P := fun p => p.1 = 0 ∨ kpt (unK un c) (p.1 - 1) = true)).mpr ?_⟩
  · rw [kpt_unK]
    have := lowK_mono (nc := nc) hkp
    omega
  · rw [kpt_unK]
    unfold bup
    split
    · rfl
    · exact v3 d hd
  · rw [kpt_unK] at hd
    have e : (unK un c d).1 = (un d).1 := by
      unfold unK
      split
      · next h => rw [h]
      · rfl
    rw [e]
    exact v4 d (hkp d hd)
  · exact v5.sublist (cut_sub.map _)
  · intro p ps hp
    rw [cutW_g]
    rcases Nat.eq_zero_or_pos w.2 with e | e
    · have := (v6 p (cutW_mem (by rw [hp]; exact List.mem_cons_self ..))).1
      omega
    · have h1 := cutW_hd (o := c + 1) e
      have e0 : wg (cutW w (c + 1)) 0 = p := by
        unfold wg
        rw [hp]
        rfl
      rw [e0] at h1
      obtain ⟨w1, g⟩ := w
      cases w1 with
      | nil => have := v8 rfl; omega
      | cons q qs =>
        have : p = q := h1
        rw [this]
        exact v7 q qs rfl
  · intro hn
    rw [cutW_g]
    rcases Nat.eq_zero_or_pos w.2 with e | e
    · exact e
    · obtain ⟨w1, g⟩ := w
      cases w1 with
      | nil => exact v8 rfl
      | cons q qs =>
        exfalso
        have : (if q.1 = c + 1 ∧ g = 0 then (qs.filter (fun q => decide (q.1 ≠ c + 1)), 0) else (q :: qs.filter (fun q => decide (q.1 ≠ c + 1)), g)).1 = [] := hn
        rw [if_neg (fun h => by have := h.2; simp at e; omega)] at this
        cases this
  · rw [rst_cut]
    intro p hp
    obtain ⟨h1, h2⟩ := List.mem_filter.mp hp
    have h2 : p.1 ≠ c + 1 := by simpa using h2
    rcases v9 p h1 with h | h
    · exact Or.inl h
    · by_cases e0 : p.1 = 0
      · exact Or.inl e0
      · refine Or.inr ?_
        rw [kpt_unK, bup_o (by omega)]
        exact h
theorem obK_cut {ks : Nat → Nat → Int32} {c : Nat} {un : Nat → Un} {w : Wt} (hK : ObK ks un w) : ObK ks (unK un c) (cutW w (c + 1)) := by
  have hK := rst_iff (P := fun p => p.1 = 0 ∨ p.2 = pkU ks (p.1 - 1) (un (p.1 - 1)).1) |>.mp hK
  refine (rst_iff (P := fun p => p.1 = 0 ∨ p.2 = pkU ks (p.1 - 1) (unK un c (p.1 - 1)).1)).mpr ?_
  rw [rst_cut]
  intro p hp
  obtain ⟨h1, h2⟩ := List.mem_filter.mp hp
  rcases hK p h1 with h | h
  · exact Or.inl h
  · refine Or.inr ?_
    have e : (unK un c (p.1 - 1)).1 = (un (p.1 - 1)).1 := by
      unfold unK
      split
      · next h => rw [h]
      · rfl
    rw [e]
    exact h
theorem obK_unO {ks : Nat → Nat → Int32} {c : Nat} {v : Int32} {un : Nat → Un} {w : Wt} (hK : ObK ks un w) : ObK ks (unO un c v) w := by
  intro j hj hg
  have e : (unO un c v ((wg w j).1 - 1)).1 = (un ((wg w j).1 - 1)).1 := by
    unfold unO
    split
    · next h => rw [h]
    · rfl
  rw [e]
  exact hK j hj hg
theorem obV_cfB {nc o : Nat} {uw : (Nat → Un) × Wt} (hV : ObV nc uw.1 uw.2) : ObV nc (cfB uw o).1 (cfB uw o).2 := by
  unfold cfB
  split
  · exact hV
  · next h =>
    have ho : o - 1 + 1 = o := by
      have : o ≠ 0 := fun e => h (Or.inl e)
      omega
    split
    · have := obV_cut (c := o - 1) (obV_unO (c := o - 1) (v := (uw.1 (o - 1)).2.1 - 1) hV)
      rw [ho] at this
      exact this
    · exact obV_unO hV
theorem obK_cfB {ks : Nat → Nat → Int32} {o : Nat} {uw : (Nat → Un) × Wt} (hK : ObK ks uw.1 uw.2) : ObK ks (cfB uw o).1 (cfB uw o).2 := by
  unfold cfB
  split
  · exact hK
  · next h =>
    have ho : o - 1 + 1 = o := by
      have : o ≠ 0 := fun e => h (Or.inl e)
      omega
    split
    · have := obK_cut (c := o - 1) (obK_unO (c := o - 1) (v := (uw.1 (o - 1)).2.1 - 1) hK)
      rw [ho] at this
      exact this
    · exact obK_unO hK
theorem rst_pop {w : Wt} {p : Nat × List Int32} (h : p ∈ rst (pop w)) : p ∈ rst w := by
  obtain ⟨w1, g⟩ := w
  cases w1 with
  | nil => exact h
  | cons q qs =>
    have h2 : p ∈ rst (if g + 1 < q.2.length then (q :: qs, g + 1) else (qs, 0)) := h
    have h3 : p ∈ qs := by
      split at h2
      · exact h2
      · exact h2
    unfold rst
    split
    · exact List.mem_cons_of_mem _ h3
    · exact h3
theorem pop_sub {w : Wt} : ((pop w).1).Sublist w.1 := by
  obtain ⟨w1, g⟩ := w
  cases w1 with
  | nil => exact List.Sublist.refl _
  | cons p ps =>
    show (if g + 1 < p.2.length then (p :: ps, g + 1) else (ps, 0)).1.Sublist (p :: ps)
    split
    · exact List.Sublist.refl _
    · exact List.Sublist.cons _ (List.Sublist.refl _)
theorem obV_pop {nc : Nat} {un : Nat → Un} {w : Wt} (hV : ObV nc un w) : ObV nc un (pop w) := by
  obtain ⟨v1, v2, v3, v4, v5, v6, v7, v8, v9⟩ := hV
  have v9 := (rst_iff (P := fun p => p.1 = 0 ∨ kpt un (p.1 - 1) = true)).mp v9
  refine ⟨v1, v2, v3, v4, v5.sublist (pop_sub.map _), fun p hp => v6 p (pop_sub.mem hp), ?_, ?_, (rst_iff (P := fun p => p.1 = 0 ∨ kpt un (p.1 - 1) = true)).mpr (fun p hp => v9 p (rst_pop hp))⟩
  · intro p ps hp
    obtain ⟨w1, g⟩ := w
    cases w1 with
    | nil => cases hp
    | cons q qs =>
      have e : pop (q :: qs, g) = if g + 1 < q.2.length then (q :: qs, g + 1) else (qs, 0) := rfl
      rw [e] at hp ⊢
      split at hp
      · next h1 =>
        rw [if_pos h1]
        cases hp
        exact h1
      · next h1 =>
        rw [if_neg h1]
        have hp : qs = p :: ps := hp
        have := (v6 p (List.mem_cons_of_mem _ (by rw [hp]; exact List.mem_cons_self ..))).1
        show 0 < p.2.length
        omega
  · intro hn
    obtain ⟨w1, g⟩ := w
    cases w1 with
    | nil => exact v8 rfl
    | cons q qs =>
      have e : pop (q :: qs, g) = if g + 1 < q.2.length then (q :: qs, g + 1) else (qs, 0) := rfl
      rw [e] at hn ⊢
      split at hn
      · cases hn
      · next h1 => rw [if_neg h1]
theorem obK_pop {ks : Nat → Nat → Int32} {un : Nat → Un} {w : Wt} (hK : ObK ks un w) : ObK ks un (pop w) := by
  have hK := rst_iff (P := fun p => p.1 = 0 ∨ p.2 = pkU ks (p.1 - 1) (un (p.1 - 1)).1) |>.mp hK
  exact (rst_iff (P := fun p => p.1 = 0 ∨ p.2 = pkU ks (p.1 - 1) (un (p.1 - 1)).1)).mpr (fun p hp => hK p (rst_pop hp))
/-- a REPORT confirms -/
def cfU (uw : (Nat → Un) × Wt) (c : Nat) : (Nat → Un) × Wt := (unK uw.1 c, cutW uw.2 (c + 1))
def cfRF (has : Nat → Bool) : Nat → Nat → (Nat → Un) × Wt → (Nat → Un) × Wt
  | 0, _, uw => uw
  | m + 1, c, uw => cfRF has m (c + 1) (if kpt uw.1 c = true ∧ has c = true then cfU uw c else uw)
theorem obV_cfRF {has : Nat → Bool} {nc : Nat} : ∀ (m c : Nat) (uw : (Nat → Un) × Wt), ObV nc uw.1 uw.2 → ObV nc (cfRF has m c uw).1 (cfRF has m c uw).2
  | 0, _, _, h => h
  | m + 1, c, uw, h => by
    unfold cfRF
    refine obV_cfRF m (c + 1) _ ?_
    split
    · exact obV_cut h
    · exact h
theorem obK_cfRF {has : Nat → Bool} {ks : Nat → Nat → Int32} : ∀ (m c : Nat) (uw : (Nat → Un) × Wt), ObK ks uw.1 uw.2 → ObK ks (cfRF has m c uw).1 (cfRF has m c uw).2
  | 0, _, _, h => h
  | m + 1, c, uw, h => by
    unfold cfRF
    refine obK_cfRF m (c + 1) _ ?_
    split
    · exact obK_cut h
    · exact h
/-- what a REPORT's bytes say of a count -/
def nxR (pk : List Int32) : Nat := (pk.getD 0 0).toNatClampNeg % 64 * 256 + (pk.getD 1 0).toNatClampNeg
def btR (pk : List Int32) (i : Nat) : Bool := decide (2 + i / 8 < pk.length ∧ ¬ ((pk.getD (2 + i / 8) 0) >>> ((7 - nI (i % 8)) &&& 31)) &&& 1 = 0)
def hasR (pk : List Int32) (c : Nat) : Bool := decide (c < nxR pk) || (decide (nxR pk < c) && btR pk (c - nxR pk - 1))
theorem ior (a b : Nat) : nI a ||| nI b = nI (a ||| b) := by
  apply Int32.toBitVec_inj.mp
  rw [Int32.toBitVec_or]
  show BitVec.ofNat 32 a ||| BitVec.ofNat 32 b = BitVec.ofNat 32 (a ||| b)
  apply BitVec.eq_of_toNat_eq
  rw [BitVec.toNat_or, BitVec.toNat_ofNat, BitVec.toNat_ofNat, BitVec.toNat_ofNat, Nat.or_mod_two_pow]
theorem or8 {a b : Nat} (hb : b < 256) : nI (a * 256) ||| nI b = nI (a * 256 + b) := by
  rw [ior]
  have := Nat.shiftLeft_add_eq_or_of_lt (i := 8) (b := b) hb a
  rw [Nat.shiftLeft_eq] at this
  rw [show a * 256 = a * 2 ^ 8 from rfl, ← this]
theorem confirmReported_ok {σ : Sg} {o c1 mk nc : Nat} {un : Nat → Un} {w : Wt} {pk : List Int32} {Q : Sg → Prop} (hC : ObC σ o mk nc un w) (hV : ObV nc un w) (h1 : 2 ≤ pk.length) (h2 : pk.length ≤ 121) (hb : ∀ x ∈ pk, isB x) (hp : ∀ k, k < pk.length → σ c1 k = pk.getD k 0) (hc1 : c1 < o ∨ o + 8 ≤ c1) (h : ∀ σ' : Sg, ObC σ' o mk nc (cfRF (hasR pk) (nc - lowK (kpt un) nc) (lowK (kpt un) nc) (un, w)).1 (cfRF (hasR pk) (nc - lowK (kpt un) nc) (lowK (kpt un) nc) (un, w)).2 → Fob o σ σ' → Q σ') : wpX4_confirmReported o c1 (nI pk.length) σ Q := by
  have b0 := (hb _ (getD_mem (k := 0) (by omega))).cl
  have b1 := (hb _ (getD_mem (k := 1) (by omega))).cl
  have hnx : ((σ c1 0 &&& 63) <<< ((8 : Int32) &&& 31)) ||| σ c1 1 = nI (nxR pk) := by
    rw [hp 0 (by omega), hp 1 (by omega), ← b0.2, ← b1.2]
    rw [a63 (by omega), pk_shlN _ 8 (by decide) (by omega)]
    exact or8 b1.1
  have hnl : nxR pk < 2 ^ 15 := by
    unfold nxR
    omega
  have v1 := hV.1
  have l1 := (lowK_spec (kpt un) nc).1
  unfold wpX4_confirmReported
  refine brf (fun hh => by have := (nI_ltI (a := pk.length) (b := 2) (by omega) (by decide)).mp hh; omega) (brt ((nI_leI (by omega) (by decide)).mpr h2) ?_)
  rintro _ rfl _ rfl _ rfl
  rw [hnx, hC.2.1, hC.2.2.1]
  refine ⟨nc - lowK (kpt un) nc + 1, ?_⟩
  suffices H : ∀ (m c : Nat) (σ1 : Sg) (uw : (Nat → Un) × Wt), c + m = nc → ObC σ1 o mk nc uw.1 uw.2 → ObV nc uw.1 uw.2 → Fob o σ σ1 → (∀ σ' : Sg, ObC σ' o mk nc (cfRF (hasR pk) m c uw).1 (cfRF (hasR pk) m c uw).2 → Fob o σ σ' → Q σ') → wpX4_confirmReported_L38 Q (m + 1) o c1 (nI pk.length) (nI (nxR pk)) (nI nc) (nI c) σ1 by
    exact H (nc - lowK (kpt un) nc) (lowK (kpt un) nc) σ (un, w) (by omega) hC hV (fun _ _ => rfl) h
  intro m
  induction m with
  | zero =>
    intro c σ1 uw hc hC1 hV1 hF h
    unfold wpX4_confirmReported_L38
    exact brt (nI_le (by omega) (by omega)) (h σ1 hC1 hF)
  | succ m ih =>
    intro c σ1 uw hc hC1 hV1 hF h
    unfold wpX4_confirmReported_L38
    refine brf (nI_ge (by omega) (by omega)) ?_
    rintro _ rfl _ rfl
    have hs : ∀ k, k < pk.length → σ1 c1 k = pk.getD k 0 := fun k hk => by rw [hF c1 hc1]; exact hp k hk
    have fin : ∀ z : Bool, hasR pk c = (decide (c < nxR pk) || z) → wpX4_confirmReported_L95 Q (wpX4_confirmReported_L38 Q (m + 1)) o c1 (nI pk.length) (nI (nxR pk)) (nI nc) (nI c) (b01 z) σ1 := by
      intro z ez
      have nxt0 : ∀ (uw' : (Nat → Un) × Wt) (σ2 : Sg), (if kpt uw.1 c = true ∧ hasR pk c = true then cfU uw c else uw) = uw' → ObC σ2 o mk nc uw'.1 uw'.2 → ObV nc uw'.1 uw'.2 → Fob o σ σ2 → wpX4_confirmReported_L123 Q (wpX4_confirmReported_L38 Q (m + 1)) o c1 (nI pk.length) (nI (nxR pk)) (nI nc) (nI c) σ2 := by
        intro uw' σ2 eu hC2 hV2 hF2
        unfold wpX4_confirmReported_L123
        rintro _ rfl
        rw [nI_1]
        refine ih (c + 1) σ2 uw' (by omega) hC2 hV2 hF2 ?_
        unfold cfRF at h
        rw [eu] at h
        exact h
      have conf : kpt uw.1 c = true → hasR pk c = true → wpX4_confirmReported_L117 Q (wpX4_confirmReported_L38 Q (m + 1)) o c1 (nI pk.length) (nI (nxR pk)) (nI nc) (nI c) σ1 := by
        intro k1 k2
        unfold wpX4_confirmReported_L117
        exact confirmUnit_ok hC1 hV1 k1 (fun σ2 hC2 hF2 => nxt0 (cfU uw c) σ2 (if_pos ⟨k1, k2⟩) hC2 (obV_cut hV1) (fun d hd => by rw [hF2 d hd, hF d hd]))
      unfold wpX4_confirmReported_L95
      refine keeps_ok hC1 hV1 (by omega) (br01 (fun e => ?_) (fun e => ?_))
      · exact nxt0 uw σ1 (if_neg (by simp [e])) hC1 hV1 hF
      · refine pk_lt c (nxR pk) (fun hlt => conf e (by rw [ez]; simp [hlt])) (fun hge => br01 (fun e2 => ?_) (fun e2 => conf e (by rw [ez, e2]; simp)))
        refine nxt0 uw σ1 (if_neg ?_) hC1 hV1 hF
        rw [ez, e2]
        simp
        omega
    have f94 : hasR pk c = decide (c < nxR pk) → wpX4_confirmReported_L94 Q (wpX4_confirmReported_L38 Q (m + 1)) o c1 (nI pk.length) (nI (nxR pk)) (nI nc) (nI c) σ1 := by
      intro e
      unfold wpX4_confirmReported_L94
      exact fin false (by rw [e, Bool.or_false])
    rcases Nat.lt_or_ge (nxR pk) c with hlt | hge
    · have ei : (nI c - nI (nxR pk)) - 1 = nI (c - nxR pk - 1) := by
        rw [pk_sub (by omega)]
        exact pk_sub (a := c - nxR pk) (b := 1) (by omega)
      rw [ei, show ((3 : Int32) &&& 31) = 3 by decide, pk_shrN (by omega) 3 3 (by decide)]
      have e2 : (2 : Int32) + nI ((c - nxR pk - 1) / 2 ^ 3) = nI (2 + (c - nxR pk - 1) / 8) := nI_add 2 _
      rw [e2]
      refine brf (nI_pos (by omega)) ?_
      have hd : ∀ z : Bool, btR pk (c - nxR pk - 1) = z → hasR pk c = (decide (c < nxR pk) || z) := by
        intro z ez
        unfold hasR
        rw [ez]
        simp [hlt]
      refine pk_le pk.length (2 + (c - nxR pk - 1) / 8) (fun hh => f94 ?_) (fun hh => ⟨vin rfl (by omega) (by decide), ?_⟩)
      · rw [hd false (by unfold btR; simp; omega), Bool.or_false]
      · rw [nI_clamp (by omega), hs _ hh]
        have e7 : nI (c - nxR pk - 1) &&& 7 = nI ((c - nxR pk - 1) % 8) := pk_andN (by omega) 3 (by decide)
        rw [e7]
        refine ⟨fun hz => f94 ?_, fun hz => fin true (hd true ?_)⟩
        · rw [hd false (by unfold btR; exact decide_eq_false (fun h9 => h9.2 hz)), Bool.or_false]
        · unfold btR
          exact decide_eq_true ⟨hh, hz⟩
    · refine brt ?_ (f94 ?_)
      · have e1 : (nI c - nI (nxR pk)) - 1 = nI c - nI (nxR pk + 1) := by
          rw [← nI_1]
          simp only [Int32.sub_eq_add_neg, Int32.neg_add, Int32.add_assoc]
        rw [e1]
        exact pk_sneg (by omega) (by omega)
      · unfold hasR
        simp
        intro hh
        omega
