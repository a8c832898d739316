theorem q4 {i : Nat} (h : i < 2 ^ 29) : nI i / 4 * 4 = nI (i / 4 * 4) := by
  rw [show nI i / 4 = nI (i / 4) from pk_div (by omega) (by decide) (by decide)]
  exact pk_mul (i / 4) 4
theorem r4 {i : Nat} (h : i < 2 ^ 29) : nI i - nI i / 4 * 4 = nI (i % 4) := pk_rem (a := i) (d := 4) (by omega) (by decide) (by decide)
theorem r16 {i : Nat} (h : i < 2 ^ 29) : nI i - nI i / 16 * 16 = nI (i % 16) := pk_rem (a := i) (d := 16) (by omega) (by decide) (by decide)
theorem ecp1 {Q : Sg → Prop} {σ : Sg} (h : ∃ nn, wpX9_encipher_L31 Q nn 1 (va_up σ 69 (xk (σ 69) (σ 68) 16))) : ∀ (m i : Nat), i + m = 16 → wpX9_encipher_L2 Q (m + 1) (nI i) (va_up σ 69 (xk (σ 69) (σ 68) i)) := by
  intro m
  induction m with
  | zero =>
    intro i hi
    have e : i = 16 := by omega
    subst e
    unfold wpX9_encipher_L2
    exact ⟨fun _ => h, fun hc => absurd (by decide) hc⟩
  | succ m ih =>
    intro i hi
    unfold wpX9_encipher_L2
    refine ⟨fun hc => absurd hc (nI_ge (a := i) (b := 16) (by omega) (by decide)), fun _ => ⟨vin rfl (by omega) (by decide), vin rfl (by omega) (by decide), vin rfl (by omega) (by decide), ?_⟩⟩
    rintro _ rfl _ rfl
    rw [nI_1, nI_clamp (by omega), up2_up, vu_s, vu_o (show (68 : Nat) ≠ 69 by decide), show xk (σ 69) (σ 68) i i = σ 69 i from by simp [xk]]
    have e : upd (xk (σ 69) (σ 68) i) i (σ 69 i ^^^ σ 68 i) = xk (σ 69) (σ 68) (i + 1) := upd_if (f := fun k => σ 69 k ^^^ σ 68 k)
    rw [e]
    exact ih (i + 1) (by omega)
theorem ecp2 {Q : Sg → Prop} {K : Int32 → Sg → Prop} {x1 : Int32} {σ : Sg} (hb : ∀ k, k < 16 → isB (σ 69 k)) (h : ∃ nn, wpX9_encipher_L79 Q K nn x1 0 (va_up σ 70 (sbI (σ 67) (σ 69) (σ 70) 16))) : ∀ (m i : Nat), i + m = 16 → wpX9_encipher_L39 Q K (m + 1) x1 (nI i) (va_up σ 70 (sbI (σ 67) (σ 69) (σ 70) i)) := by
  intro m
  induction m with
  | zero =>
    intro i hi
    have e : i = 16 := by omega
    subst e
    unfold wpX9_encipher_L39
    exact ⟨fun _ => h, fun hc => absurd (by decide) hc⟩
  | succ m ih =>
    intro i hi
    unfold wpX9_encipher_L39
    refine ⟨fun hc => absurd hc (nI_ge (a := i) (b := 16) (by omega) (by decide)), fun _ => ?_⟩
    intro w8 e8 w9 e9
    have e8' : w8 = nI (i % 4) := by rw [e8]; exact r4 (by omega)
    have e9' : w9 = nI ((i + 4 * (i % 4)) % 16) := by
      rw [e9, e8', show (4 : Int32) * nI (i % 4) = nI (4 * (i % 4)) from pk_mul 4 (i % 4), nI_add]
      exact r16 (by omega)
    have hl : (i + 4 * (i % 4)) % 16 < 16 := Nat.mod_lt _ (by decide)
    rw [ncl e9' (by omega), vu_o (show (69 : Nat) ≠ 70 by decide)]
    refine ⟨vin e9' hl (by decide), (hb _ hl).in', vin rfl (by omega) (by decide), ?_⟩
    rintro _ rfl _ rfl
    rw [nI_1, nI_clamp (n := i) (by omega), up2_up, vu_o (show (67 : Nat) ≠ 70 by decide)]
    have e : upd (sbI (σ 67) (σ 69) (σ 70) i) i (σ 67 (σ 69 ((i + 4 * (i % 4)) % 16)).toNatClampNeg) = sbI (σ 67) (σ 69) (σ 70) (i + 1) := by
      have := upd_if (n := i) (f := fun k => σ 67 (σ 69 ((k + 4 * (k % 4)) % 16) &&& 255).toNatClampNeg) (r := σ 70)
      rw [(hb _ hl).a255] at this
      exact this
    rw [e]
    exact ih (i + 1) (by omega)
theorem ecp3 {Q : Sg → Prop} {K : Int32 → Sg → Prop} {r : Nat} {σ : Sg} (h1 : 1 ≤ r) (h2 : r ≤ 10) (hb : ∀ k, k < 16 → isB (σ 70 k)) (h : K (nI (r + 1)) (va_up σ 69 (mxI r (σ 70) (σ 68) (σ 69) 16))) : ∀ (m i : Nat), i + m = 16 → wpX9_encipher_L79 Q K (m + 1) (nI r) (nI i) (va_up σ 69 (mxI r (σ 70) (σ 68) (σ 69) i)) := by
  intro m
  induction m with
  | zero =>
    intro i hi
    have e : i = 16 := by omega
    subst e
    unfold wpX9_encipher_L79
    refine ⟨fun _ => ?_, fun hc => absurd (by decide) hc⟩
    rintro _ rfl
    rw [nI_1]
    exact h
  | succ m ih =>
    intro i hi
    unfold wpX9_encipher_L79
    refine ⟨fun hc => absurd hc (nI_ge (a := i) (b := 16) (by omega) (by decide)), fun _ => ?_⟩
    intro x3 e3 w ew
    rw [q4 (by omega)] at e3
    rw [r4 (by omega)] at ew
    have a5 : 16 * nI r + nI i = nI (16 * r + i) := by
      rw [show (16 : Int32) * nI r = nI (16 * r) from pk_mul 16 r]
      exact nI_add _ _
    have fin : ∀ z0 : Int32, z0 = σ 70 i ^^^ mx (decide (10 ≤ r)) (σ 70) i → wpX9_encipher_L183 Q K (wpX9_encipher_L79 Q K (m + 1)) (nI r) (nI i) z0 (va_up σ 69 (mxI r (σ 70) (σ 68) (σ 69) i)) := by
      intro z0 ez
      unfold wpX9_encipher_L183
      refine ⟨vin a5 (by omega) (by decide), vin rfl (by omega) (by decide), ?_⟩
      rintro _ rfl _ rfl
      rw [nI_1, nI_clamp (n := i) (by omega), ncl a5 (by omega), up2_up, vu_o (show (68 : Nat) ≠ 69 by decide), ez]
      have e : upd (mxI r (σ 70) (σ 68) (σ 69) i) i ((σ 70 i ^^^ mx (decide (10 ≤ r)) (σ 70) i) ^^^ σ 68 (16 * r + i)) = mxI r (σ 70) (σ 68) (σ 69) (i + 1) := upd_if (f := fun k => (σ 70 k ^^^ mx (decide (10 ≤ r)) (σ 70) k) ^^^ σ 68 (16 * r + k))
      rw [e]
      exact ih (i + 1) (by omega)
    refine ⟨vin rfl (by omega) (by decide), ?_⟩
    intro x5 e5
    rw [nI_clamp (n := i) (by omega), vu_o (show (70 : Nat) ≠ 69 by decide)] at e5
    refine ⟨fun hc => fin x5 ?_, fun hc => ?_⟩
    · have h9 : 10 ≤ r := (nI_leI (a := 10) (by decide) (by omega)).mp hc
      rw [e5]
      simp [mx, h9]
    · have h9 : ¬ 10 ≤ r := fun h9 => hc (nI_le (a := 10) h9 (by omega))
      have b0 : x3 + w = nI i := by rw [e3, ew, nI_add, show i / 4 * 4 + i % 4 = i by omega]
      refine ⟨vin b0 (by omega) (by decide), doubled_ok ?_⟩
      intro w23 e23
      have e23' : w23 = nI ((i % 4 + 1) % 4) := by rw [e23, ew, show nI (i % 4) + 1 = nI (i % 4 + 1) from nI_1 _]; exact r4 (by omega)
      have b1 : x3 + w23 = nI (i / 4 * 4 + (i % 4 + 1) % 4) := by rw [e3, e23', nI_add]
      refine ⟨vin b1 (by omega) (by decide), doubled_ok ?_⟩
      intro w26 e26
      have e26' : w26 = nI ((i % 4 + 1) % 4) := by rw [e26, ew, show nI (i % 4) + 1 = nI (i % 4 + 1) from nI_1 _]; exact r4 (by omega)
      have b2 : x3 + w26 = nI (i / 4 * 4 + (i % 4 + 1) % 4) := by rw [e3, e26', nI_add]
      refine ⟨vin b2 (by omega) (by decide), ?_⟩
      intro w28 e28
      have e28' : w28 = nI ((i % 4 + 2) % 4) := by rw [e28, ew, show nI (i % 4) + 2 = nI (i % 4 + 2) from nI_add _ 2]; exact r4 (by omega)
      have b3 : x3 + w28 = nI (i / 4 * 4 + (i % 4 + 2) % 4) := by rw [e3, e28', nI_add]
      refine ⟨vin b3 (by omega) (by decide), ?_⟩
      intro w30 e30
      have e30' : w30 = nI ((i % 4 + 3) % 4) := by rw [e30, ew, show nI (i % 4) + 3 = nI (i % 4 + 3) from nI_add _ 3]; exact r4 (by omega)
      have b4 : x3 + w30 = nI (i / 4 * 4 + (i % 4 + 3) % 4) := by rw [e3, e30', nI_add]
      refine ⟨vin b4 (by omega) (by decide), ?_⟩
      intro x6 e6
      refine fin x6 ?_
      rw [e6, ncl b0 (by omega), ncl b1 (by omega), ncl b2 (by omega), ncl b3 (by omega), ncl b4 (by omega), vu_o (show (70 : Nat) ≠ 69 by decide), mix_eq hb (by omega)]
      simp [h9]
theorem rds_bytes {tb key st o : Nat → Int32} (hs : ∀ k, k < 16 → isB (st k)) (hk : ∀ k, k < 176 → isB (key k)) (ht : ∀ k, k < 256 → isB (tb k)) : ∀ r, r ≤ 10 → (∀ k, k < 16 → isB ((rds tb key st o r).1 k)) ∧ ∀ k, k < 16 → isB (sbI tb (rds tb key st o r).1 (rds tb key st o r).2 16 k) := by
  have sub : ∀ a b : Nat → Int32, ∀ k, k < 16 → isB (sbI tb a b 16 k) := by
    intro a b k h
    unfold sbI
    rw [if_pos h]
    obtain ⟨n, hn, e⟩ := isB.and (a ((k + 4 * (k % 4)) % 16))
    rw [ncl e (by omega)]
    exact ht n hn
  intro r
  induction r with
  | zero =>
    intro _
    refine ⟨fun k h => ?_, sub _ _⟩
    show isB (xk st key 16 k)
    unfold xk
    rw [if_pos h]
    exact (hs k h).xor (hk k (by omega))
  | succ r ih =>
    intro hr
    refine ⟨fun k h => ?_, sub _ _⟩
    show isB (mxI (r + 1) (sbI tb (rds tb key st o r).1 (rds tb key st o r).2 16) key _ 16 k)
    generalize eo : sbI tb (rds tb key st o r).1 (rds tb key st o r).2 16 = q
    have hq : ∀ k, k < 16 → isB (q k) := fun k h => by rw [← eo]; exact sub _ _ k h
    unfold mxI
    rw [if_pos h]
    refine ((hq k h).xor ?_).xor (hk _ (by omega))
    unfold mx
    split
    · exact isB.z
    · exact ((((hq _ (by omega)).xor (hq _ (by omega))).xor (hq _ (by omega))).xor (hq _ (by omega))).xor (isB.and _)
theorem ecp4 {Q : Sg → Prop} {σ : Sg} {st o : Nat → Int32} (hs : ∀ k, k < 16 → isB (st k)) (hk : ∀ k, k < 176 → isB (σ 68 k)) (ht : ∀ k, k < 256 → isB (σ 67 k)) (h : Q (va_up (va_up σ 70 (rds (σ 67) (σ 68) st o 10).2) 69 (rds (σ 67) (σ 68) st o 10).1)) : ∀ (m r : Nat), r + m = 10 → wpX9_encipher_L31 Q (m + 1) (nI (r + 1)) (va_up (va_up σ 70 (rds (σ 67) (σ 68) st o r).2) 69 (rds (σ 67) (σ 68) st o r).1) := by
  intro m
  induction m with
  | zero =>
    intro r hr
    have e : r = 10 := by omega
    subst e
    unfold wpX9_encipher_L31
    exact ⟨fun _ => h, fun hc => absurd (by decide) hc⟩
  | succ m ih =>
    intro r hr
    unfold wpX9_encipher_L31
    refine ⟨fun hc => absurd hc (by
      have := nI_le (a := r + 1) (b := 10) (by omega) (by decide)
      rw [Int32.lt_iff_toInt_lt]
      rw [Int32.le_iff_toInt_le] at this
      have e10 : (10 : Int32).toInt = (nI 10).toInt := rfl
      omega), fun _ => ⟨17, ?_⟩⟩
    obtain ⟨hb1, hb2⟩ := rds_bytes (o := o) hs hk ht r (by omega)
    generalize eS : va_up (va_up σ 70 (rds (σ 67) (σ 68) st o r).2) 69 (rds (σ 67) (σ 68) st o r).1 = σ1
    have s9 : σ1 69 = (rds (σ 67) (σ 68) st o r).1 := by rw [← eS, vu_s]
    have s70 : σ1 70 = (rds (σ 67) (σ 68) st o r).2 := by rw [← eS, vu_o (by decide), vu_s]
    have s8 : σ1 68 = σ 68 := by rw [← eS, vu_o (by decide), vu_o (by decide)]
    have s7 : σ1 67 = σ 67 := by rw [← eS, vu_o (by decide), vu_o (by decide)]
    have hk2 := ih (r + 1) (by omega)
    have := ecp2 (Q := Q) (K := wpX9_encipher_L31 Q (m + 1)) (x1 := nI (r + 1)) (σ := σ1) (fun k h => by rw [s9]; exact hb1 k h) ⟨17, by
      generalize eT : va_up σ1 70 (sbI (σ1 67) (σ1 69) (σ1 70) 16) = σ2
      have t70 : σ2 70 = sbI (σ1 67) (σ1 69) (σ1 70) 16 := by rw [← eT, vu_s]
      have t9 : σ2 69 = σ1 69 := by rw [← eT, vu_o (by decide)]
      have t8 : σ2 68 = σ1 68 := by rw [← eT, vu_o (by decide)]
      have h3 := ecp3 (Q := Q) (K := wpX9_encipher_L31 Q (m + 1)) (r := r + 1) (σ := σ2) (by omega) (by omega) (fun k h => by rw [t70, s7, s9, s70]; exact hb2 k h) (by
        have e : va_up σ2 69 (mxI (r + 1) (σ2 70) (σ2 68) (σ2 69) 16) = va_up (va_up σ 70 (rds (σ 67) (σ 68) st o (r + 1)).2) 69 (rds (σ 67) (σ 68) st o (r + 1)).1 := by
          rw [t70, t9, t8, s9, s70, s8, s7, ← eT, ← eS]
          funext d
          by_cases d2 : d = 69
          · subst d2
            simp [va_up, rds]
          · by_cases d3 : d = 70
            · subst d3
              simp [va_up, rds]
            · simp [va_up, d2, d3]
        rw [e]
        exact hk2) 16 0 (by omega)
      rw [show mxI (r + 1) (σ2 70) (σ2 68) (σ2 69) 0 = σ2 69 from by funext k; simp [mxI], vu_id] at h3
      exact h3⟩ 16 0 (by omega)
    rw [show sbI (σ1 67) (σ1 69) (σ1 70) 0 = σ1 70 from by funext k; simp [sbI], vu_id] at this
    exact this
theorem encipher_ok {Q : Sg → Prop} {σ : Sg} (hs : ∀ k, k < 16 → isB (σ 69 k)) (hk : ∀ k, k < 176 → isB (σ 68 k)) (ht : ∀ k, k < 256 → isB (σ 67 k)) (h : Q (va_up (va_up σ 70 (rds (σ 67) (σ 68) (σ 69) (σ 70) 10).2) 69 (rds (σ 67) (σ 68) (σ 69) (σ 70) 10).1)) : wpX9_encipher σ Q := by
  refine ⟨17, ?_⟩
  have := ecp1 (Q := Q) (σ := σ) ⟨11, by
    have := ecp4 (Q := Q) (σ := σ) (st := σ 69) (o := σ 70) hs hk ht h 10 0 (by omega)
    have e : va_up (va_up σ 70 (rds (σ 67) (σ 68) (σ 69) (σ 70) 0).2) 69 (rds (σ 67) (σ 68) (σ 69) (σ 70) 0).1 = va_up σ 69 (xk (σ 69) (σ 68) 16) := by
      show va_up (va_up σ 70 (σ 70)) 69 (xk (σ 69) (σ 68) 16) = _
      rw [vu_id]
    rw [e] at this
    exact this⟩ 16 0 (by omega)
  rw [show xk (σ 69) (σ 68) 0 = σ 69 from by funext k; simp [xk], vu_id] at this
  exact this
