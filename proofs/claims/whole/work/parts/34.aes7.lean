/-! PURE: the reference's stream -/
def cvR (x1 x2 x3 x5 : Int32) (k : Nat) : Int32 := if k < 4 then ctb x3 k else if k = 4 then (8 * x2) + (4 * x1) else if k < 12 then 0 else (x5 >>> ((8 * (15 - nI k)) &&& 31)) &&& 255
theorem c15 : ∀ k, k < 16 → 12 ≤ k → (8 * (15 - nI k)) = (24 - (8 * nI (k - 12))) := by decide +kernel
theorem cvR_ctr {x1 x2 x3 x5 : Int32} {old : Nat → Int32} (hb : isB ((8 * x2) + (4 * x1))) {k : Nat} (hk : k < 16) : cvR x1 x2 x3 x5 k = ctr x3 ((8 * x2) + (4 * x1)) x5 old k := by
  unfold ctr upd
  by_cases e4 : k = 4
  · rw [if_pos e4, hb.a255]
    unfold cvR
    rw [if_neg (by omega), if_pos e4]
  · rw [if_neg e4]
    unfold cvR ctI rowf
    rw [if_neg e4]
    by_cases e1 : k < 4
    · rw [if_pos e1, if_pos e1]
    · rw [if_neg e1, if_neg e1]
      by_cases e2 : k < 12
      · rw [if_pos e2, if_neg (by omega), if_pos hk]
      · have hc : 12 ≤ k ∧ k < 12 + 4 := ⟨by omega, by omega⟩
        rw [if_neg e2, if_pos hc, c15 k hk (by omega)]
        rfl
theorem cvR_b {x1 x2 x3 x5 : Int32} (hb : isB ((8 * x2) + (4 * x1))) (k : Nat) : isB (cvR x1 x2 x3 x5 k) := by
  unfold cvR
  split
  · exact isB.and _
  · split
    · exact hb
    · split
      · exact isB.z
      · exact isB.and _
def cvI (x1 x2 x3 x5 : Int32) (old : Nat → Int32) (n : Nat) : Nat → Int32 := fun k => if k < n then cvR x1 x2 x3 x5 k else old k
theorem str1 {Q : Sg → Prop} {K : Int32 → Int32 → Int32 → Int32 → Int32 → Sg → Prop} {x1 x2 x3 x4 x5 : Int32} {σ : Sg} (h : wpX9_encipher (va_up σ 69 (cvI x1 x2 x3 x5 (σ 69) 16)) (fun σ4 => ∃ nn, wpX9_makeStream_L113 Q K nn x1 x2 x3 x4 x5 0 σ4)) : ∀ (m i : Nat), i + m = 16 → wpX9_makeStream_L20 Q K (m + 1) x1 x2 x3 x4 x5 (nI i) (va_up σ 69 (cvI x1 x2 x3 x5 (σ 69) i)) := by
  intro m
  induction m with
  | zero =>
    intro i hi
    have e : i = 16 := by omega
    subst e
    unfold wpX9_makeStream_L20
    exact ⟨fun _ => h, fun hc => absurd (by decide) hc⟩
  | succ m ih =>
    intro i hi
    unfold wpX9_makeStream_L20
    have fin : ∀ z : Int32, z = cvR x1 x2 x3 x5 i → wpX9_makeStream_L99 Q K (wpX9_makeStream_L20 Q K (m + 1)) x1 x2 x3 x4 x5 (nI i) z (nI i) 69 (va_up σ 69 (cvI x1 x2 x3 x5 (σ 69) i)) := by
      intro z ez
      unfold wpX9_makeStream_L99
      refine ⟨vin rfl (by omega) (by decide), ?_⟩
      rintro _ rfl _ rfl
      rw [nI_1, nI_clamp (by omega), up2_up, ez]
      have e : upd (cvI x1 x2 x3 x5 (σ 69) i) i (cvR x1 x2 x3 x5 i) = cvI x1 x2 x3 x5 (σ 69) (i + 1) := upd_if (f := cvR x1 x2 x3 x5)
      rw [e]
      exact ih (i + 1) (by omega)
    refine ⟨fun hc => absurd hc (nI_ge (a := i) (b := 16) (by omega) (by decide)), fun _ => ⟨fun h4 => ⟨fun hn4 => ⟨fun h12 => fin _ ?_, fun h12 => fin _ ?_⟩, fun he4 => fin _ ?_⟩, fun h4 => fin _ ?_⟩⟩
    · have b : 12 ≤ i := (nI_leI (a := 12) (by decide) (by omega)).mp h12
      unfold cvR
      rw [if_neg (by omega), if_neg (by omega), if_neg (by omega)]
    · have a : 4 ≤ i := (nI_leI (a := 4) (by decide) (by omega)).mp h4
      have b : ¬ 12 ≤ i := fun h => h12 (nI_le (a := 12) h (by omega))
      have d : ¬ i = 4 := fun h => hn4 (by rw [h]; rfl)
      unfold cvR
      rw [if_neg (by omega), if_neg d, if_pos (by omega)]
    · have d : i = 4 := (nI_eq (a := i) (b := 4) (by omega) (by decide)).mp he4
      unfold cvR
      rw [if_neg (by omega), if_pos d]
    · have a : ¬ 4 ≤ i := fun h => h4 (nI_le (a := 4) h (by omega))
      unfold cvR ctb
      rw [if_pos (by omega)]
def stI (st old : Nat → Int32) (j n : Nat) : Nat → Int32 := fun k => if 16 * j ≤ k ∧ k < 16 * j + n then st (k - 16 * j) else old k
theorem str2 {Q : Sg → Prop} {K : Int32 → Int32 → Int32 → Int32 → Int32 → Sg → Prop} {x1 x2 x3 x4 : Int32} {j : Nat} {σ : Sg} (hj : j < 8) (h : K x1 x2 x3 x4 (nI (j + 1)) (va_up σ 71 (stI (σ 69) (σ 71) j 16))) : ∀ (m i : Nat), i + m = 16 → wpX9_makeStream_L113 Q K (m + 1) x1 x2 x3 x4 (nI j) (nI i) (va_up σ 71 (stI (σ 69) (σ 71) j i)) := by
  intro m
  induction m with
  | zero =>
    intro i hi
    have e : i = 16 := by omega
    subst e
    unfold wpX9_makeStream_L113
    refine ⟨fun _ => ?_, fun hc => absurd (by decide) hc⟩
    rintro _ rfl
    rw [nI_1]
    exact h
  | succ m ih =>
    intro i hi
    unfold wpX9_makeStream_L113
    have ea : 16 * nI j + nI i = nI (16 * j + i) := by
      rw [show (16 : Int32) * nI j = nI (16 * j) from pk_mul 16 j]
      exact nI_add _ _
    refine ⟨fun hc => absurd hc (nI_ge (a := i) (b := 16) (by omega) (by decide)), fun _ => ⟨vin rfl (by omega) (by decide), vin ea (by omega) (by decide), ?_⟩⟩
    rintro _ rfl _ rfl
    rw [nI_1, nI_clamp (n := i) (by omega), ncl ea (by omega), up2_up, vu_o (show (69 : Nat) ≠ 71 by decide)]
    have e : upd (stI (σ 69) (σ 71) j i) (16 * j + i) (σ 69 i) = stI (σ 69) (σ 71) j (i + 1) := by
      funext k
      unfold upd stI
      by_cases e1 : k = 16 * j + i
      · subst e1
        have hc : 16 * j ≤ 16 * j + i ∧ 16 * j + i < 16 * j + (i + 1) := ⟨by omega, by omega⟩
        rw [if_pos rfl, if_pos hc, show 16 * j + i - 16 * j = i by omega]
      · rw [if_neg e1]
        by_cases e2 : 16 * j ≤ k ∧ k < 16 * j + i
        · have hc : 16 * j ≤ k ∧ k < 16 * j + (i + 1) := ⟨e2.1, by omega⟩
          rw [if_pos e2, if_pos hc]
        · have hc : ¬ (16 * j ≤ k ∧ k < 16 * j + (i + 1)) := by omega
          rw [if_neg e2, if_neg hc]
    rw [e]
    exact ih (i + 1) (by omega)
theorem str3 {Q : Sg → Prop} {x1 x2 x3 : Int32} {n : Nat} {tb key : Nat → Int32} {σ0 : Sg} (hn : n ≤ 128) (hb : isB ((8 * x2) + (4 * x1))) (ht : ∀ k, k < 256 → isB (tb k)) (hk : ∀ k, k < 176 → isB (key k)) (hQ : ∀ σ' : Sg, (∀ k, k < n → σ' 71 k = ksb tb key x3 ((8 * x2) + (4 * x1)) (k / 16) (k % 16)) → (∀ d, d ≠ 69 → d ≠ 70 → d ≠ 71 → σ' d = σ0 d) → Q σ') : ∀ (m j : Nat) (σ : Sg), j + m = 8 → σ 67 = tb → σ 68 = key → (∀ k, k < 16 * j → σ 71 k = ksb tb key x3 ((8 * x2) + (4 * x1)) (k / 16) (k % 16)) → (∀ d, d ≠ 69 → d ≠ 70 → d ≠ 71 → σ d = σ0 d) → wpX9_makeStream_L7 Q (m + 1) x1 x2 x3 (nI n) (nI j) σ := by
  intro m
  induction m with
  | zero =>
    intro j σ hj h67 h68 h71 hd
    have e : j = 8 := by omega
    subst e
    unfold wpX9_makeStream_L7
    refine ⟨fun _ => hQ σ (fun k hk => h71 k (by omega)) hd, fun hc => absurd (nI_le (a := n) (b := 128) hn (by decide)) hc⟩
  | succ m ih =>
    intro j σ hj h67 h68 h71 hd
    unfold wpX9_makeStream_L7
    rw [show (16 : Int32) * nI j = nI (16 * j) from pk_mul 16 j]
    refine ⟨fun hc => ?_, fun hc => ⟨17, ?_⟩⟩
    · have h9 : n ≤ 16 * j := (nI_leI (by omega) (by omega)).mp hc
      exact hQ σ (fun k hk => h71 k (by omega)) hd
    · have := str1 (Q := Q) (K := wpX9_makeStream_L7 Q (m + 1)) (x1 := x1) (x2 := x2) (x3 := x3) (x4 := nI n) (x5 := nI j) (σ := σ) (encipher_ok (by
        intro k h
        rw [vu_s]
        unfold cvI
        rw [if_pos h]
        exact cvR_b hb k) (by rw [vu_o (show (68 : Nat) ≠ 69 by decide), h68]; exact hk) (by rw [vu_o (show (67 : Nat) ≠ 69 by decide), h67]; exact ht) ⟨17, by
          generalize eS : va_up (va_up (va_up σ 69 (cvI x1 x2 x3 (nI j) (σ 69) 16)) 70 _) 69 _ = σ1
          have s7 : σ1 67 = tb := by rw [← eS, vu_o (by decide), vu_o (by decide), vu_o (by decide)]; exact h67
          have s8 : σ1 68 = key := by rw [← eS, vu_o (by decide), vu_o (by decide), vu_o (by decide)]; exact h68
          have s71 : σ1 71 = σ 71 := by rw [← eS, vu_o (by decide), vu_o (by decide), vu_o (by decide)]
          have sd : ∀ d, d ≠ 69 → d ≠ 70 → d ≠ 71 → σ1 d = σ0 d := fun d d1 d2 d3 => by rw [← eS, vu_o d1, vu_o d2, vu_o d1]; exact hd d d1 d2 d3
          have s9 : ∀ k, k < 16 → σ1 69 k = ksb tb key x3 ((8 * x2) + (4 * x1)) j k := fun k hk2 => by
            rw [← eS, vu_s]
            unfold ksb
            rw [vu_o (show (67 : Nat) ≠ 69 by decide), vu_o (show (68 : Nat) ≠ 69 by decide), vu_s, h67, h68]
            refine rds_congr (fun k hk3 => ?_) 10 k hk2
            unfold cvI
            rw [if_pos hk3]
            exact cvR_ctr hb hk3
          have h2 := str2 (Q := Q) (K := wpX9_makeStream_L7 Q (m + 1)) (x1 := x1) (x2 := x2) (x3 := x3) (x4 := nI n) (j := j) (σ := σ1) (by omega) (ih (j + 1) _ (by omega) (by rw [vu_o (by decide)]; exact s7) (by rw [vu_o (by decide)]; exact s8) (fun k hk2 => by
            rw [vu_s]
            unfold stI
            by_cases e : 16 * j ≤ k ∧ k < 16 * j + 16
            · rw [if_pos e, s9 _ (by omega), show k / 16 = j by omega, show k % 16 = k - 16 * j by omega]
            · rw [if_neg e, s71]
              exact h71 k (by omega)) (fun d d1 d2 d3 => by rw [vu_o d3]; exact sd d d1 d2 d3)) 16 0 (by omega)
          rw [show stI (σ1 69) (σ1 71) j 0 = σ1 71 from by funext k; unfold stI; rw [if_neg (by omega)], vu_id] at h2
          exact h2⟩) 16 0 (by omega)
      rw [show cvI x1 x2 x3 (nI j) (σ 69) 0 = σ 69 from by funext k; simp [cvI], vu_id] at this
      exact this
theorem kF_b {tb : Nat → Int32} (ht : ∀ k, k < 256 → isB (tb k)) {seed ep : Int32} {r : Nat → Int32} : ∀ k, k < 176 → isB (kF tb seed ep r k) := fun k hk => (kr_bytes ksA_b ht 40).1 k (by omega)
theorem makeStream_ok {Q : Sg → Prop} {x1 x2 x3 : Int32} {n : Nat} {σ : Sg} (hn : n ≤ 128) (hb : isB ((8 * x2) + (4 * x1))) (ht : ∀ k, k < 256 → isB (σ 67 k)) (hQ : ∀ σ' : Sg, (∀ k, k < n → σ' 71 k = ksb (σ 67) (kF (σ 67) (σ 0 1) (σ 0 3) (σ 68)) x3 ((8 * x2) + (4 * x1)) (k / 16) (k % 16)) → (∀ d, d ≠ 68 → d ≠ 69 → d ≠ 70 → d ≠ 71 → σ' d = σ d) → Q σ') : wpX9_makeStream x1 x2 x3 (nI n) σ Q := by
  unfold wpX9_makeStream
  refine makeKey_ok ht ⟨9, ?_⟩
  refine str3 (σ0 := va_up σ 68 (kF (σ 67) (σ 0 1) (σ 0 3) (σ 68))) hn hb ht (kF_b ht) (fun σ' h1 h2 => hQ σ' h1 (fun d d1 d2 d3 d4 => by rw [h2 d d2 d3 d4, vu_o d1])) 8 0 _ (by omega) (by rw [vu_o (by decide)]) vu_s (fun k hk => by omega) (fun _ _ _ _ => rfl)
