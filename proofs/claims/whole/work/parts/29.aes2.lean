/-! PURE: the class enciphers a block -/
def xk (st key : Nat → Int32) (n : Nat) : Nat → Int32 := fun k => if k < n then st k ^^^ key k else st k
def sbI (tb st old : Nat → Int32) (n : Nat) : Nat → Int32 := fun k => if k < n then tb (st ((k + 4 * (k % 4)) % 16) &&& 255).toNatClampNeg else old k
def mx (last : Bool) (o : Nat → Int32) (k : Nat) : Int32 := if last then 0 else (((o (k / 4 * 4) ^^^ o (k / 4 * 4 + 1)) ^^^ o (k / 4 * 4 + 2)) ^^^ o (k / 4 * 4 + 3)) ^^^ dbl8 (o k ^^^ o (k / 4 * 4 + (k + 1) % 4))
def mxI (r : Nat) (o key st : Nat → Int32) (n : Nat) : Nat → Int32 := fun k => if k < n then (o k ^^^ mx (decide (10 ≤ r)) o k) ^^^ key (16 * r + k) else st k
/-- state and other row behind round r -/
def rds (tb key : Nat → Int32) (st o : Nat → Int32) : Nat → (Nat → Int32) × (Nat → Int32)
  | 0 => (xk st key 16, o)
  | r + 1 => (mxI (r + 1) (sbI tb (rds tb key st o r).1 (rds tb key st o r).2 16) key (rds tb key st o r).1 16, sbI tb (rds tb key st o r).1 (rds tb key st o r).2 16)
theorem upd_if {n : Nat} {f r : Nat → Int32} : upd (fun k => if k < n then f k else r k) n (f n) = fun k => if k < n + 1 then f k else r k := by
  funext k
  unfold upd
  by_cases e : k = n
  · subst e
    simp
  · by_cases e2 : k < n
    · simp [e, e2, show k < n + 1 by omega]
    · simp [e, e2, show ¬ k < n + 1 by omega]
theorem lt_if {n k : Nat} {f r : Nat → Int32} (h : ¬ k < n) : (fun k => if k < n then f k else r k) k = r k := by simp [h]
theorem enc1 {tb : Nat → Int32} {Q : Sg → Prop} {c0 : Nat} {σ : Sg} (h : ∃ nn, wpX2_encrypt_L31 tb Q nn c0 1 (va_up σ (c0 + 2) (xk (σ (c0 + 2)) (σ (c0 + 1)) 16))) : ∀ (m i : Nat), i + m = 16 → wpX2_encrypt_L2 tb Q (m + 1) c0 (nI i) (va_up σ (c0 + 2) (xk (σ (c0 + 2)) (σ (c0 + 1)) i)) := by
  intro m
  induction m with
  | zero =>
    intro i hi
    have e : i = 16 := by omega
    subst e
    unfold wpX2_encrypt_L2
    exact ⟨fun _ => h, fun hc => absurd (by decide) hc⟩
  | succ m ih =>
    intro i hi
    unfold wpX2_encrypt_L2
    refine ⟨fun hc => absurd hc (nI_ge (a := i) (b := 16) (by omega) (by decide)), fun _ => ⟨vin rfl (by omega) (by decide), vin rfl (by omega) (by decide), vin rfl (by omega) (by decide), ?_⟩⟩
    rintro _ rfl _ rfl
    rw [nI_1, nI_clamp (by omega), up2_up, vu_s, vu_o (show c0 + 1 ≠ c0 + 2 by omega), show xk (σ (c0 + 2)) (σ (c0 + 1)) i i = σ (c0 + 2) i from by simp [xk]]
    have e : upd (xk (σ (c0 + 2)) (σ (c0 + 1)) i) i (σ (c0 + 2) i ^^^ σ (c0 + 1) i) = xk (σ (c0 + 2)) (σ (c0 + 1)) (i + 1) := upd_if (f := fun k => σ (c0 + 2) k ^^^ σ (c0 + 1) k)
    rw [e]
    exact ih (i + 1) (by omega)
theorem i4 {k : Nat} (h : k < 2 ^ 29) : (nI k + 4 * (nI k &&& 3)) &&& 15 = nI ((k + 4 * (k % 4)) % 16) := by
  have e1 : nI k &&& 3 = nI (k % 4) := pk_andN (n := k) (by omega) (m := 3) 2 (by decide)
  have e2 : (4 : Int32) * nI (k % 4) = nI (4 * (k % 4)) := pk_mul 4 (k % 4)
  rw [e1, e2, nI_add]
  exact pk_andN (n := k + 4 * (k % 4)) (by omega) (m := 15) 4 (by decide)
theorem enc2 {tb : Nat → Int32} {Q : Sg → Prop} {K : Nat → Int32 → Sg → Prop} {c0 : Nat} {x1 : Int32} {σ : Sg} (h : ∃ nn, wpX2_encrypt_L82 tb Q K nn c0 x1 0 (va_up σ (c0 + 3) (sbI tb (σ (c0 + 2)) (σ (c0 + 3)) 16))) : ∀ (m i : Nat), i + m = 16 → wpX2_encrypt_L39 tb Q K (m + 1) c0 x1 (nI i) (va_up σ (c0 + 3) (sbI tb (σ (c0 + 2)) (σ (c0 + 3)) i)) := by
  intro m
  induction m with
  | zero =>
    intro i hi
    have e : i = 16 := by omega
    subst e
    unfold wpX2_encrypt_L39
    exact ⟨fun _ => h, fun hc => absurd (by decide) hc⟩
  | succ m ih =>
    intro i hi
    unfold wpX2_encrypt_L39
    refine ⟨fun hc => absurd hc (nI_ge (a := i) (b := 16) (by omega) (by decide)), fun _ => ⟨vin (i4 (by omega)) (Nat.mod_lt _ (by decide)) (by decide), and255 _, vin rfl (by omega) (by decide), ?_⟩⟩
    rintro _ rfl _ rfl
    rw [nI_1, nI_clamp (n := i) (by omega), ncl (i4 (k := i) (by omega)) (by omega), up2_up, vu_o (show c0 + 2 ≠ c0 + 3 by omega)]
    have e : upd (sbI tb (σ (c0 + 2)) (σ (c0 + 3)) i) i (tb (σ (c0 + 2) ((i + 4 * (i % 4)) % 16) &&& 255).toNatClampNeg) = sbI tb (σ (c0 + 2)) (σ (c0 + 3)) (i + 1) := upd_if (f := fun k => tb (σ (c0 + 2) ((k + 4 * (k % 4)) % 16) &&& 255).toNatClampNeg)
    rw [e]
    exact ih (i + 1) (by omega)
theorem and12 : ∀ k, k < 16 → nI k &&& 12 = nI (k / 4 * 4) := by decide +kernel
theorem enc3 {tb : Nat → Int32} {Q : Sg → Prop} {K : Nat → Int32 → Sg → Prop} {c0 r : Nat} {σ : Sg} (h1 : 1 ≤ r) (h2 : r ≤ 10) (h : K c0 (nI (r + 1)) (va_up σ (c0 + 2) (mxI r (σ (c0 + 3)) (σ (c0 + 1)) (σ (c0 + 2)) 16))) : ∀ (m i : Nat), i + m = 16 → wpX2_encrypt_L82 tb Q K (m + 1) c0 (nI r) (nI i) (va_up σ (c0 + 2) (mxI r (σ (c0 + 3)) (σ (c0 + 1)) (σ (c0 + 2)) i)) := by
  intro m
  induction m with
  | zero =>
    intro i hi
    have e : i = 16 := by omega
    subst e
    unfold wpX2_encrypt_L82
    refine ⟨fun _ => ?_, fun hc => absurd (by decide) hc⟩
    rintro _ rfl
    rw [nI_1]
    exact h
  | succ m ih =>
    intro i hi
    unfold wpX2_encrypt_L82
    refine ⟨fun hc => absurd hc (nI_ge (a := i) (b := 16) (by omega) (by decide)), fun _ => ?_⟩
    intro x3 e3
    rw [and12 i (by omega)] at e3
    have a1 : x3 + 1 = nI (i / 4 * 4 + 1) := by rw [e3]; exact nI_add _ 1
    have a2 : x3 + 2 = nI (i / 4 * 4 + 2) := by rw [e3]; exact nI_add _ 2
    have a3 : x3 + 3 = nI (i / 4 * 4 + 3) := by rw [e3]; exact nI_add _ 3
    have a4 : x3 + ((nI i + 1) &&& 3) = nI (i / 4 * 4 + (i + 1) % 4) := by rw [e3, and3 i (by omega)]; exact nI_add _ _
    have a5 : 16 * nI r + nI i = nI (16 * r + i) := by
      rw [show (16 : Int32) * nI r = nI (16 * r) from pk_mul 16 r]
      exact nI_add _ _
    refine ⟨vin e3 (by omega) (by decide), vin a1 (by omega) (by decide), vin a2 (by omega) (by decide), vin a3 (by omega) (by decide), ?_⟩
    intro w ew
    refine ⟨vin rfl (by omega) (by decide), vin a4 (by omega) (by decide), ?_⟩
    intro x5 e5
    rw [ncl e3 (by omega), ncl a1 (by omega), ncl a2 (by omega), ncl a3 (by omega), vu_o (show c0 + 3 ≠ c0 + 2 by omega)] at ew
    rw [nI_clamp (n := i) (by omega), ncl a4 (by omega), vu_o (show c0 + 3 ≠ c0 + 2 by omega)] at e5
    have fin : ∀ z0 : Int32, z0 = mx (decide (10 ≤ r)) (σ (c0 + 3)) i → wpX2_encrypt_L179 tb Q K (wpX2_encrypt_L82 tb Q K (m + 1)) c0 (nI r) (nI i) z0 (va_up σ (c0 + 2) (mxI r (σ (c0 + 3)) (σ (c0 + 1)) (σ (c0 + 2)) i)) := by
      intro z0 ez
      unfold wpX2_encrypt_L179
      refine ⟨vin rfl (by omega) (by decide), vin a5 (by omega) (by decide), vin rfl (by omega) (by decide), ?_⟩
      rintro _ rfl _ rfl
      rw [nI_1, nI_clamp (n := i) (by omega), ncl a5 (by omega), up2_up, vu_o (show c0 + 3 ≠ c0 + 2 by omega), vu_o (show c0 + 1 ≠ c0 + 2 by omega), ez]
      have e : upd (mxI r (σ (c0 + 3)) (σ (c0 + 1)) (σ (c0 + 2)) i) i ((σ (c0 + 3) i ^^^ mx (decide (10 ≤ r)) (σ (c0 + 3)) i) ^^^ σ (c0 + 1) (16 * r + i)) = mxI r (σ (c0 + 3)) (σ (c0 + 1)) (σ (c0 + 2)) (i + 1) := upd_if (f := fun k => (σ (c0 + 3) k ^^^ mx (decide (10 ≤ r)) (σ (c0 + 3)) k) ^^^ σ (c0 + 1) (16 * r + k))
      rw [e]
      exact ih (i + 1) (by omega)
    refine ⟨fun hc => fin 0 ?_, fun hc => fin _ ?_⟩
    · have h9 : 10 ≤ r := (nI_leI (a := 10) (by decide) (by omega)).mp hc
      simp [mx, h9]
    · have h9 : ¬ 10 ≤ r := fun h9 => hc (nI_le (a := 10) h9 (by omega))
      rw [ew, e5]
      simp [mx, h9, dbl8]
theorem enc4 {tb : Nat → Int32} {Q : Sg → Prop} {c0 : Nat} {σ : Sg} {st o : Nat → Int32} (h : Q (va_up (va_up σ (c0 + 3) (rds tb (σ (c0 + 1)) st o 10).2) (c0 + 2) (rds tb (σ (c0 + 1)) st o 10).1)) : ∀ (m r : Nat), r + m = 10 → wpX2_encrypt_L31 tb Q (m + 1) c0 (nI (r + 1)) (va_up (va_up σ (c0 + 3) (rds tb (σ (c0 + 1)) st o r).2) (c0 + 2) (rds tb (σ (c0 + 1)) st o r).1) := by
  intro m
  induction m with
  | zero =>
    intro r hr
    have e : r = 10 := by omega
    subst e
    unfold wpX2_encrypt_L31
    exact ⟨fun _ => h, fun hc => absurd (by decide) hc⟩
  | succ m ih =>
    intro r hr
    unfold wpX2_encrypt_L31
    refine ⟨fun hc => absurd hc (by
      have := nI_le (a := r + 1) (b := 10) (by omega) (by decide)
      rw [Int32.lt_iff_toInt_lt]
      rw [Int32.le_iff_toInt_le] at this
      have e10 : (10 : Int32).toInt = (nI 10).toInt := rfl
      omega), fun _ => ⟨17, ?_⟩⟩
    generalize eS : va_up (va_up σ (c0 + 3) (rds tb (σ (c0 + 1)) st o r).2) (c0 + 2) (rds tb (σ (c0 + 1)) st o r).1 = σ1
    have s2 : σ1 (c0 + 2) = (rds tb (σ (c0 + 1)) st o r).1 := by rw [← eS, vu_s]
    have s3 : σ1 (c0 + 3) = (rds tb (σ (c0 + 1)) st o r).2 := by rw [← eS, vu_o (by omega), vu_s]
    have s1 : σ1 (c0 + 1) = σ (c0 + 1) := by rw [← eS, vu_o (by omega), vu_o (by omega)]
    have hk := ih (r + 1) (by omega)
    have := enc2 (tb := tb) (Q := Q) (K := wpX2_encrypt_L31 tb Q (m + 1)) (c0 := c0) (x1 := nI (r + 1)) (σ := σ1) ⟨17, by
      generalize eT : va_up σ1 (c0 + 3) (sbI tb (σ1 (c0 + 2)) (σ1 (c0 + 3)) 16) = σ2
      have t3 : σ2 (c0 + 3) = sbI tb (σ1 (c0 + 2)) (σ1 (c0 + 3)) 16 := by rw [← eT, vu_s]
      have t2 : σ2 (c0 + 2) = σ1 (c0 + 2) := by rw [← eT, vu_o (by omega)]
      have t1 : σ2 (c0 + 1) = σ1 (c0 + 1) := by rw [← eT, vu_o (by omega)]
      have h3 := enc3 (tb := tb) (Q := Q) (K := wpX2_encrypt_L31 tb Q (m + 1)) (c0 := c0) (r := r + 1) (σ := σ2) (by omega) (by omega) (by
        have e : va_up σ2 (c0 + 2) (mxI (r + 1) (σ2 (c0 + 3)) (σ2 (c0 + 1)) (σ2 (c0 + 2)) 16) = va_up (va_up σ (c0 + 3) (rds tb (σ (c0 + 1)) st o (r + 1)).2) (c0 + 2) (rds tb (σ (c0 + 1)) st o (r + 1)).1 := by
          rw [t3, t2, t1, s2, s3, s1, ← eT, ← eS]
          funext d
          by_cases d2 : d = c0 + 2
          · subst d2
            simp [va_up, rds]
          · by_cases d3 : d = c0 + 3
            · subst d3
              simp [va_up, rds]
            · simp [va_up, d2, d3]
        rw [e]
        exact hk) 16 0 (by omega)
      rw [show mxI (r + 1) (σ2 (c0 + 3)) (σ2 (c0 + 1)) (σ2 (c0 + 2)) 0 = σ2 (c0 + 2) from by funext k; simp [mxI], vu_id] at h3
      exact h3⟩ 16 0 (by omega)
    rw [show sbI tb (σ1 (c0 + 2)) (σ1 (c0 + 3)) 0 = σ1 (c0 + 3) from by funext k; simp [sbI], vu_id] at this
    exact this
theorem encrypt_ok {tb : Nat → Int32} {Q : Sg → Prop} {c0 : Nat} {σ : Sg} (h : Q (va_up (va_up σ (c0 + 3) (rds tb (σ (c0 + 1)) (σ (c0 + 2)) (σ (c0 + 3)) 10).2) (c0 + 2) (rds tb (σ (c0 + 1)) (σ (c0 + 2)) (σ (c0 + 3)) 10).1)) : wpX2_encrypt tb c0 σ Q := by
  refine ⟨17, ?_⟩
  have := enc1 (tb := tb) (Q := Q) (c0 := c0) (σ := σ) ⟨11, by
    have := enc4 (tb := tb) (Q := Q) (c0 := c0) (σ := σ) (st := σ (c0 + 2)) (o := σ (c0 + 3)) h 10 0 (by omega)
    have e : va_up (va_up σ (c0 + 3) (rds tb (σ (c0 + 1)) (σ (c0 + 2)) (σ (c0 + 3)) 0).2) (c0 + 2) (rds tb (σ (c0 + 1)) (σ (c0 + 2)) (σ (c0 + 3)) 0).1 = va_up σ (c0 + 2) (xk (σ (c0 + 2)) (σ (c0 + 1)) 16) := by
      show va_up (va_up σ (c0 + 3) (σ (c0 + 3))) (c0 + 2) (xk (σ (c0 + 2)) (σ (c0 + 1)) 16) = _
      rw [vu_id]
    rw [e] at this
    exact this⟩ 16 0 (by omega)
  rw [show xk (σ (c0 + 2)) (σ (c0 + 1)) 0 = σ (c0 + 2) from by funext k; simp [xk], vu_id] at this
  exact this
