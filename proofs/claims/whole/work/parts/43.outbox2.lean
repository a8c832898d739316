/-! PURE: confirming units, in the class -/
theorem ObW.of {σ σ' : Sg} {o : Nat} {w : Wt} (h : ObW σ o w) (h9 : σ' o 9 = σ o 9) (h11 : σ' o 11 = σ o 11) (h12 : σ' o 12 = σ o 12) (h14 : σ' o 14 = σ o 14) (h5 : σ' (o + 5) = σ (o + 5)) (h6 : σ' (o + 6) = σ (o + 6)) (h7 : σ' (o + 7) = σ (o + 7)) : ObW σ' o w := by
  obtain ⟨a, b, c, d, e⟩ := h
  unfold ObW
  rw [h9, h11, h12, h14, h5, h6, h7]
  exact ⟨a, b, c, d, e⟩
theorem UnC.of {σ σ' : Sg} {o c : Nat} {u : Un} (h : UnC σ o u c) (h1 : σ' (o + 1) = σ (o + 1)) (h2 : σ' (o + 2) (c % 32) = σ (o + 2) (c % 32)) (h4 : σ' (o + 4) (c % 32) = σ (o + 4) (c % 32)) : UnC σ' o u c := by
  unfold UnC at *
  rw [h1, h2, h4]
  exact h
theorem wg_0 {p : Nat × List Int32} {ps : List (Nat × List Int32)} {g : Nat} : wg (p :: ps, g) 0 = p := rfl
theorem cutW_mem {w : Wt} {o : Nat} {p : Nat × List Int32} (h : p ∈ (cutW w o).1) : p ∈ w.1 := by
  obtain ⟨w1, g⟩ := w
  cases w1 with
  | nil => exact h
  | cons q qs =>
    unfold cutW at h
    split at h
    · next e => cases e
    · next e =>
      cases e
      split at h
      · exact List.mem_cons_of_mem _ (List.mem_filter.mp h).1
      · rcases List.mem_cons.mp h with h | h
        · rw [h]; exact List.mem_cons_self ..
        · exact List.mem_cons_of_mem _ (List.mem_filter.mp h).1
theorem cutW_g {w : Wt} {o : Nat} : (cutW w o).2 = w.2 := by
  obtain ⟨w1, g⟩ := w
  cases w1 with
  | nil => rfl
  | cons q qs =>
    unfold cutW
    split
    · rfl
    · split
      · next h => exact h.2.symm
      · rfl
theorem cutW_hd {w : Wt} {o : Nat} (h : 0 < w.2) : wg (cutW w o) 0 = wg w 0 := by
  obtain ⟨w1, g⟩ := w
  cases w1 with
  | nil => rfl
  | cons q qs =>
    unfold cutW
    split
    · rfl
    · next e =>
      cases e
      split
      · next hh => have := hh.2; simp at h; omega
      · rfl
theorem confirmUnit_ok {σ : Sg} {o mk nc cc : Nat} {un : Nat → Un} {w : Wt} {Q : Sg → Prop} (hC : ObC σ o mk nc un w) (hV : ObV nc un w) (hk : kpt un cc = true) (h : ∀ σ' : Sg, ObC σ' o mk nc (unK un cc) (cutW w (cc + 1)) → Fob o σ σ' → Q σ') : wpX4_confirmUnit o (nI cc) σ Q := by
  obtain ⟨c0, c7, c6, c5, cU, cW⟩ := hC
  have hlen := hV.len
  obtain ⟨v1, v2, v3, v4, v5, v6, v7, v8, v9⟩ := hV
  obtain ⟨l1, l2, l3⟩ := lowK_spec (kpt un) nc
  have hcn : cc < nc := by
    rcases Nat.lt_or_ge cc nc with h | h
    · exact h
    · rw [v3 cc h] at hk; cases hk
  have hlc : lowK (kpt un) nc ≤ cc := by
    rcases Nat.lt_or_ge cc (lowK (kpt un) nc) with h | h
    · rw [l2 cc h] at hk; cases hk
    · exact h
  have hcnt := cnt_bup (f := kpt un) (v := false) (a := 0) nc (Nat.zero_le cc) (by omega)
  rw [hk] at hcnt
  have hcnt : cnt (bup (kpt un) cc false) 0 nc + 1 = cnt (kpt un) 0 nc := hcnt
  have hgb : w.2 < 2 ^ 17 := by
    obtain ⟨w1, g⟩ := w
    cases w1 with
    | nil => have := v8 rfl; simp at this ⊢; omega
    | cons p ps =>
      have h1 := v7 p ps rfl
      have h2 := (v6 p (List.mem_cons_self ..)).2.1
      simp at h1 ⊢
      omega
  unfold wpX4_confirmUnit
  rw [a31 (by omega), nI_clamp (by omega)]
  refine ⟨vin rfl (by omega) (by decide), ?_⟩
  rintro _ rfl _ rfl
  refine ⟨w.1.length + 1, ?_⟩
  refine cf_ids (g := w.2) (by omega) w.1 (by omega) (fun p hp => by have := (v6 p hp).2.2.1; omega) hgb w.1 [] [] _ rfl (Nat.le_refl _) ?_ ?_ (fun j hj => by simp at hj) (fun j h1 h2 => ?_) ?_
  · rw [up2_e, if_neg (by omega), up2_o (by omega)]; exact cW.1
  · rw [up2_e, if_neg (by omega), up2_o (by omega)]; exact cW.2.1
  · rw [up2_o (by omega), up2_o (by omega)]; exact cW.2.2.1 j h2
  · intro σ3 fin hf1 hf2 hids hd3 hle
    have hfin : fin = (cutW w (cc + 1)).1 := by
      obtain ⟨w1, g⟩ := w
      cases w1 with
      | nil =>
        rcases hf1 with hf1 | ⟨-, -, p, ps, hh, -⟩
        · rw [hf1]; rfl
        · cases hh
      | cons p ps =>
        by_cases e : p.1 = cc + 1
        · rcases Nat.eq_zero_or_pos g with hg | hg
          · rcases hf1 with hf1 | ⟨-, hg2, -⟩
            · rw [hf1]
              show _ = (if p.1 = cc + 1 ∧ g = 0 then (ps.filter (fun q => decide (q.1 ≠ cc + 1)), 0) else (p :: ps.filter (fun q => decide (q.1 ≠ cc + 1)), g)).1
              rw [if_pos ⟨e, hg⟩, List.nil_append, List.filter_cons, if_neg (by simp [e])]
            · exact absurd hg2 (by simp; omega)
          · rw [hf2 rfl hg p ps rfl e]
            show _ = (if p.1 = cc + 1 ∧ g = 0 then (ps.filter (fun q => decide (q.1 ≠ cc + 1)), 0) else (p :: ps.filter (fun q => decide (q.1 ≠ cc + 1)), g)).1
            rw [if_neg (by omega)]
            rfl
        · rcases hf1 with hf1 | ⟨-, -, p', ps', hh, he, -⟩
          · rw [hf1]
            show _ = (if p.1 = cc + 1 ∧ g = 0 then (ps.filter (fun q => decide (q.1 ≠ cc + 1)), 0) else (p :: ps.filter (fun q => decide (q.1 ≠ cc + 1)), g)).1
            rw [if_neg (fun hh => e hh.1), List.nil_append, List.filter_cons, if_pos (by simpa using e)]
          · cases hh
            exact absurd he e
    unfold wpX4_confirmUnit_L83
    rintro _ rfl
    refine ⟨nc - lowK (kpt un) nc + 1, ?_⟩
    have ho : ∀ k, k ≠ 5 → σ3 o k = σ o k := fun k hk => by rw [hd3 o (by omega), up2_e, if_neg (by omega), up2_o (by omega)]
    have h3row : ∀ k, σ3 (o + 3) k = if k = cc % 32 then 0 else σ (o + 3) k := fun k => by
      rw [hd3 (o + 3) (by omega), up2_o (by omega), up2_e]
      simp
    refine cf_low (kp := bup (kpt un) cc false) v1 (nc - lowK (kpt un) nc) (lowK (kpt un) nc) 0 _ (by omega) (by omega) ?_ ?_ (fun k h1 h2 => ?_) ?_
    · rw [up2_e, if_neg (by omega), ho 7 (by decide)]; exact c7
    · rw [up2_e, if_neg (by omega), ho 6 (by decide)]; exact c6
    · rw [up2_o (by omega), h3row]
      by_cases e : k = cc
      · subst e
        rw [if_pos rfl, bup_s]
        rfl
      · rw [if_neg (by omega), bup_o e]
        exact (cU k h1 h2).1
    · intro σ4 g6 gk gd
      have hlow : lowF (bup (kpt un) cc false) (nc - lowK (kpt un) nc) (lowK (kpt un) nc) = lowK (bup (kpt un) cc false) nc := lowK_from l1 (fun k hk => by
        unfold bup
        split
        · rfl
        · exact l2 k hk)
      have hlow2 := (lowF_spec (kp := bup (kpt un) cc false) (nc - lowK (kpt un) nc) (lowK (kpt un) nc)).1
      rw [hlow] at g6 hlow2
      have oo : ∀ k, k ≠ 5 → k ≠ 6 → k ≠ 9 → σ4 o k = σ o k := fun k a b c => by rw [gk k b, up2_e, if_neg (by omega), ho k a]
      have od : ∀ d, d ≠ o → d ≠ o + 3 → d ≠ o + 5 → σ4 d = σ d := fun d a b c => by rw [gd d a, up2_o a, hd3 d c, up2_o a, up2_o b]
      refine h σ4 ⟨?_, ?_, ?_, ?_, ?_, ?_, ?_, ?_, ?_, ?_⟩ (fun d hd => od d (by omega) (by omega) (by omega))
      · rw [oo 0 (by decide) (by decide) (by decide)]; exact c0
      · rw [oo 7 (by decide) (by decide) (by decide)]; exact c7
      · rw [kpt_unK]; exact g6
      · rw [kpt_unK, gk 5 (by decide), up2_e, if_neg (by omega), hd3 o (by omega), up2_e, if_pos ⟨rfl, rfl⟩, up2_o (by omega), c5, ← hcnt, nI_pred]
      · rw [kpt_unK]
        intro c h1 h2
        have hc := cU c (by omega) h2
        rw [gd _ (by omega), up2_o (by omega), h3row, kpt_unK]
        by_cases e : c = cc
        · subst e
          rw [if_pos rfl, bup_s]
          exact ⟨rfl, fun hh => by cases hh⟩
        · rw [if_neg (by omega), bup_o e]
          refine ⟨hc.1, fun hkc => ?_⟩
          have eu : unK un cc c = un c := if_neg e
          rw [eu]
          refine (hc.2 hkc).of ?_ ?_ ?_
          · exact od _ (by omega) (by omega) (by omega)
          · rw [od _ (by omega) (by omega) (by omega)]
          · rw [od _ (by omega) (by omega) (by omega)]
      · rw [gk 9 (by decide), up2_e, if_pos ⟨rfl, rfl⟩, hfin]
      · rw [oo 12 (by decide) (by decide) (by decide), cutW_g]; exact cW.2.1
      · intro j hj
        rw [gd _ (by omega), up2_o (by omega), hids j (by rw [hfin]; exact hj), hfin]
        rfl
      · rw [cutW_g]
        intro hg
        rw [cutW_hd hg, oo 11 (by decide) (by decide) (by decide), od (o + 6) (by omega) (by omega) (by omega)]
        exact cW.2.2.2.1 hg
      · intro p hp hp0
        rw [oo 14 (by decide) (by decide) (by decide), od (o + 7) (by omega) (by omega) (by omega)]
        exact cW.2.2.2.2 p (cutW_mem hp) hp0
theorem keeps_ok {σ : Sg} {o mk nc c : Nat} {un : Nat → Un} {w : Wt} {Q : Int32 → Sg → Prop} (hC : ObC σ o mk nc un w) (hV : ObV nc un w) (hc : c < 2 ^ 20) (h : Q (b01 (kpt un c)) σ) : wpX4_keeps o (nI c) σ Q := by
  obtain ⟨c0, c7, c6, c5, cU, cW⟩ := hC
  obtain ⟨v1, v2, v3, -⟩ := hV
  obtain ⟨l1, l2, l3⟩ := lowK_spec (kpt un) nc
  unfold wpX4_keeps
  rw [c6, c7, a31 (by omega), nI_clamp (by omega)]
  refine pk_lt c (lowK (kpt un) nc) (fun h1 => ?_) (fun h1 => pk_le nc c (fun h2 => ?_) (fun h2 => ⟨vin rfl (by omega) (by decide), ?_⟩))
  · rw [l2 c h1] at h
    exact h
  · rw [v3 c h2] at h
    exact h
  · rw [(cU c h1 h2).1]
    refine br01 (fun e => ?_) (fun e => ?_)
    · rw [e] at h; exact h
    · rw [e] at h; exact h
theorem keeps_neg {σ : Sg} {o mk nc : Nat} {un : Nat → Un} {w : Wt} {Q : Int32 → Sg → Prop} (hC : ObC σ o mk nc un w) (hV : ObV nc un w) (h : Q 0 σ) : wpX4_keeps o (-1) σ Q := by
  obtain ⟨c0, c7, c6, c5, cU, cW⟩ := hC
  obtain ⟨v1, v2, v3, -⟩ := hV
  have l1 := (lowK_spec (kpt un) nc).1
  unfold wpX4_keeps
  rw [c6]
  refine brt ?_ h
  have := nI_pos' (n := lowK (kpt un) nc) (by omega)
  exact Int32.lt_of_lt_of_le (by decide) this
def unO (un : Nat → Un) (c : Nat) (v : Int32) : Nat → Un := fun d => if d = c then ((un c).1, v, (un c).2.2) else un d
theorem kpt_unO {un : Nat → Un} {c : Nat} {v : Int32} : kpt (unO un c v) = kpt un := by
  funext d
  unfold kpt unO
  by_cases e : d = c
  · simp [e]
  · simp [e]
theorem obV_unO {nc c : Nat} {un : Nat → Un} {w : Wt} {v : Int32} (h : ObV nc un w) : ObV nc (unO un c v) w := by
  obtain ⟨v1, v2, v3, v4, v5, v6, v7, v8, v9⟩ := h
  unfold ObV
  rw [kpt_unO]
  refine ⟨v1, v2, v3, fun d hd => ?_, v5, v6, v7, v8, v9⟩
  have e : (unO un c v d).1 = (un d).1 := by
    unfold unO
    split
    · next h => rw [h]
    · rfl
  rw [e]
  exact v4 d hd
/-- a byte of a unit's packet is confirmed -/
def cfB (uw : (Nat → Un) × Wt) (o : Nat) : (Nat → Un) × Wt := if o = 0 ∨ kpt uw.1 (o - 1) = false then uw else if (uw.1 (o - 1)).2.1 - 1 = 0 then (unK (unO uw.1 (o - 1) ((uw.1 (o - 1)).2.1 - 1)) (o - 1), cutW uw.2 o) else (unO uw.1 (o - 1) ((uw.1 (o - 1)).2.1 - 1), uw.2)
theorem confirmByte_ok {σ : Sg} {o mk nc : Nat} {un : Nat → Un} {w : Wt} {q : Cel} {m : Bool} {Q : Sg → Prop} (hC : ObC σ o mk nc un w) (hV : ObV nc un w) (hq : celOK q) (h : ∀ σ' : Sg, ObC σ' o mk nc (cfB (un, w) q.2.2.2).1 (cfB (un, w) q.2.2.2).2 → Fob o σ σ' → Q σ') : wpX4_confirmByte o (cod q m) σ Q := by
  have hq2 := hq.2
  unfold wpX4_confirmByte
  rintro _ rfl
  rw [show ((11 : Int32) &&& 31) = 11 by decide, cod_o hq]
  generalize q.2.2.2 = ow at *
  cases ow with
  | zero =>
    have e : cfB (un, w) 0 = (un, w) := if_pos (Or.inl rfl)
    rw [e] at h
    refine keeps_neg hC hV (brt rfl (h σ hC (fun _ _ => rfl)))
  | succ c =>
    rw [nI_pred]
    refine keeps_ok hC hV (by omega) (br01 (fun e => ?_) (fun e => ?_))
    · have e2 : cfB (un, w) (c + 1) = (un, w) := if_pos (Or.inr e)
      rw [e2] at h
      exact h σ hC (fun _ _ => rfl)
    · have hn : ¬ (c + 1 = 0 ∨ kpt un (c + 1 - 1) = false) := by
        rw [Nat.add_sub_cancel, e]; simp
      have hcf : cfB (un, w) (c + 1) = if (un c).2.1 - 1 = 0 then (unK (unO un c ((un c).2.1 - 1)) c, cutW w (c + 1)) else (unO un c ((un c).2.1 - 1), w) := if_neg hn
      rw [hcf] at h
      have hC0 := hC
      obtain ⟨c0, c7, c6, c5, cU, cW⟩ := hC
      have hV0 := hV
      obtain ⟨v1, v2, v3, -⟩ := hV
      obtain ⟨l1, l2, l3⟩ := lowK_spec (kpt un) nc
      have hcn : c < nc := by
        rcases Nat.lt_or_ge c nc with h | h
        · exact h
        · rw [v3 c h] at e; cases e
      have hlc : lowK (kpt un) nc ≤ c := by
        rcases Nat.lt_or_ge c (lowK (kpt un) nc) with h | h
        · rw [l2 c h] at e; cases e
        · exact h
      rintro _ rfl
      rw [a31 (by omega), nI_clamp (by omega)]
      refine ⟨vin rfl (by omega) (by decide), vin rfl (by omega) (by decide), ?_⟩
      rintro _ rfl
      have hu := (cU c hlc hcn).2 e
      rw [hu.2.1]
      have hC1 : ObC (up2 σ (o + 4) (c % 32) ((un c).2.1 - 1)) o mk nc (unO un c ((un c).2.1 - 1)) w := by
        unfold ObC
        rw [kpt_unO]
        refine ⟨by rw [up2_o (by omega)]; exact c0, by rw [up2_o (by omega)]; exact c7, by rw [up2_o (by omega)]; exact c6, by rw [up2_o (by omega)]; exact c5, fun d h1 h2 => ?_, cW.of ?_ ?_ ?_ ?_ ?_ ?_ ?_⟩
        · rw [up2_o (by omega), kpt_unO]
          refine ⟨(cU d h1 h2).1, fun hkd => ?_⟩
          have hd := (cU d h1 h2).2 hkd
          unfold UnC
          rw [up2_o (d := o + 2) (by omega), up2_o (d := o + 1) (by omega), up2_e]
          by_cases ed : d = c
          · subst ed
            rw [if_pos ⟨rfl, rfl⟩]
            have : unO un d ((un d).2.1 - 1) d = ((un d).1, (un d).2.1 - 1, (un d).2.2) := if_pos rfl
            rw [this]
            exact ⟨hd.1, rfl, hd.2.2⟩
          · rw [if_neg (by omega)]
            have : unO un c ((un c).2.1 - 1) d = un d := if_neg ed
            rw [this]
            exact hd
        · rw [up2_o (by omega)]
        · rw [up2_o (by omega)]
        · rw [up2_o (by omega)]
        · rw [up2_o (by omega)]
        · rw [up2_o (by omega)]
        · rw [up2_o (by omega)]
        · rw [up2_o (by omega)]
      refine ⟨vin rfl (by omega) (by decide), ?_⟩
      rw [up2_e, if_pos ⟨rfl, rfl⟩]
      refine ⟨fun hz => ?_, fun hz => ?_⟩
      · rw [if_neg hz] at h
        exact h _ hC1 (fun d hd => up2_o (by omega))
      · rw [if_pos hz] at h
        refine confirmUnit_ok hC1 (obV_unO hV0) (by rw [kpt_unO]; exact e) (fun σ' hC' hF' => h σ' hC' (fun d hd => ?_))
        rw [hF' d hd, up2_o (by omega)]
