/-! PURE: the class masks a packet -/
theorem fill1 {N : Nat} {Q : Sg → Prop} {c0 : Nat} {v : Int32} {σ : Sg} (hN : N < 2 ^ 31) (h : Q (va_up σ c0 (rowf N v (σ c0)))) : ∀ (m i : Nat), i + m = N → wpJ7_fill_53178_L5 N Q (m + 1) c0 v (nI i) (nI N) (va_up σ c0 (rowf i v (σ c0))) := by
  intro m
  induction m with
  | zero =>
    intro i hi
    have e : i = N := by omega
    subst e
    unfold wpJ7_fill_53178_L5
    exact ⟨fun _ => h, fun hc => absurd (nI_le (Nat.le_refl _) hN) hc⟩
  | succ m ih =>
    intro i hi
    unfold wpJ7_fill_53178_L5
    refine ⟨fun hc => absurd hc (nI_ge (a := i) (b := N) (by omega) hN), fun _ => ⟨vin rfl (by omega) hN, ?_⟩⟩
    rintro _ rfl _ rfl
    rw [nI_1, nI_clamp (by omega), up2_up, rowf_up]
    exact ih (i + 1) (by omega)
theorem fill_ok {N : Nat} {Q : Sg → Prop} {c0 : Nat} {v : Int32} {σ : Sg} (hN : N < 2 ^ 31) (h : Q (va_up σ c0 (rowf N v (σ c0)))) : wpJ7_fill_53178 N c0 v σ Q := by
  unfold wpJ7_fill_53178
  rintro _ rfl
  refine ⟨N + 1, ?_⟩
  have := fill1 hN h N 0 (by omega)
  rw [rowf_0, vu_id] at this
  exact this
def ctb (x : Int32) (k : Nat) : Int32 := (x >>> ((24 - (8 * nI k)) &&& 31)) &&& 255
def ctI (count j : Int32) (r : Nat → Int32) (n : Nat) : Nat → Int32 := fun k => if k < n then ctb count k else if 12 ≤ k ∧ k < 12 + n then ctb j (k - 12) else r k
theorem ctI_up {count j : Int32} {r : Nat → Int32} {n : Nat} (h : n < 4) : upd (upd (ctI count j r n) n (ctb count n)) (12 + n) (ctb j n) = ctI count j r (n + 1) := by
  funext k
  unfold upd ctI
  by_cases e1 : k = 12 + n
  · subst e1
    rw [if_pos rfl, if_neg (by omega), if_pos ⟨by omega, by omega⟩, show 12 + n - 12 = n by omega]
  · rw [if_neg e1]
    by_cases e2 : k = n
    · subst e2
      rw [if_pos rfl, if_pos (by omega)]
    · rw [if_neg e2]
      by_cases e3 : k < n
      · rw [if_pos e3, if_pos (by omega)]
      · rw [if_neg e3, if_neg (show ¬ k < n + 1 by omega)]
        by_cases e4 : 12 ≤ k ∧ k < 12 + n
        · rw [if_pos e4, if_pos ⟨e4.1, by omega⟩]
        · rw [if_neg e4, if_neg (by omega)]
def ctr (count mark j : Int32) (old : Nat → Int32) : Nat → Int32 := upd (ctI count j (rowf 16 0 old) 4) 4 (mark &&& 255)
theorem ctr1 {Q : Sg → Prop} {c0 : Nat} {x1 x2 x3 : Int32} {σ : Sg} {r : Nat → Int32} (h : Q (va_up σ (c0 + 2) (upd (ctI x1 x3 r 4) 4 (x2 &&& 255)))) : ∀ (m i : Nat), i + m = 4 → wpX2_setCounter_L11 Q (m + 1) c0 x1 x2 x3 (nI i) (va_up σ (c0 + 2) (ctI x1 x3 r i)) := by
  intro m
  induction m with
  | zero =>
    intro i hi
    have e : i = 4 := by omega
    subst e
    unfold wpX2_setCounter_L11
    refine ⟨fun _ => ?_, fun hc => absurd (by decide) hc⟩
    rintro _ rfl
    rw [up2_up]
    exact h
  | succ m ih =>
    intro i hi
    unfold wpX2_setCounter_L11
    have e12 : 12 + nI i = nI (12 + i) := nI_add 12 i
    refine ⟨fun hc => absurd hc (nI_ge (a := i) (b := 4) (by omega) (by decide)), fun _ => ⟨vin rfl (by omega) (by decide), ?_⟩⟩
    rintro _ rfl
    refine ⟨vin e12 (by omega) (by decide), ?_⟩
    rintro _ rfl _ rfl
    rw [nI_1, nI_clamp (n := i) (by omega), ncl e12 (by omega), up2_up, up2_up]
    have := ctI_up (count := x1) (j := x3) (r := r) (n := i) (by omega)
    unfold ctb at this
    rw [this]
    exact ih (i + 1) (by omega)
theorem setCounter_ok {Q : Sg → Prop} {c0 : Nat} {x1 x2 x3 : Int32} {σ : Sg} (h : Q (va_up σ (c0 + 2) (ctr x1 x2 x3 (σ (c0 + 2))))) : wpX2_setCounter c0 x1 x2 x3 σ Q := by
  unfold wpX2_setCounter
  refine fill_ok (by decide) ⟨5, ?_⟩
  have e0 : ∀ r : Nat → Int32, ctI x1 x3 r 0 = r := fun r => by
    funext k
    unfold ctI
    rw [if_neg (by omega), if_neg (by omega)]
  have := ctr1 (Q := Q) (c0 := c0) (x1 := x1) (x2 := x2) (x3 := x3) (σ := va_up σ (c0 + 2) (rowf 16 0 (σ (c0 + 2)))) (r := rowf 16 0 (σ (c0 + 2))) (by
    have e : ∀ q, va_up (va_up σ (c0 + 2) (rowf 16 0 (σ (c0 + 2)))) (c0 + 2) q = va_up σ (c0 + 2) q := fun q => by
      funext d
      by_cases e : d = c0 + 2
      · simp [va_up, e]
      · simp [va_up, e]
    rw [e]
    exact h) 4 0 (by omega)
  rw [e0] at this
  have e : va_up (va_up σ (c0 + 2) (rowf 16 0 (σ (c0 + 2)))) (c0 + 2) (rowf 16 0 (σ (c0 + 2))) = va_up σ (c0 + 2) (rowf 16 0 (σ (c0 + 2))) := by
    funext d
    by_cases e : d = c0 + 2
    · simp [va_up, e]
    · simp [va_up, e]
  rw [e] at this
  exact this
/-- what a block's first sixteen numbers hang on -/
theorem rds_congr {tb key st st' o o' : Nat → Int32} (h : ∀ k, k < 16 → st k = st' k) : ∀ (r k : Nat), k < 16 → (rds tb key st o r).1 k = (rds tb key st' o' r).1 k := by
  intro r
  induction r with
  | zero =>
    intro k hk
    show xk st key 16 k = xk st' key 16 k
    simp [xk, hk, h k hk]
  | succ r ih =>
    intro k hk
    have hs : ∀ k, k < 16 → sbI tb (rds tb key st o r).1 (rds tb key st o r).2 16 k = sbI tb (rds tb key st' o' r).1 (rds tb key st' o' r).2 16 k := by
      intro k hk
      unfold sbI
      rw [if_pos hk, if_pos hk, ih _ (Nat.mod_lt _ (by decide))]
    show mxI (r + 1) _ key _ 16 k = mxI (r + 1) _ key _ 16 k
    unfold mxI
    rw [if_pos hk, if_pos hk, hs k hk]
    unfold mx
    rw [hs k hk, hs (k / 4 * 4) (by omega), hs (k / 4 * 4 + 1) (by omega), hs (k / 4 * 4 + 2) (by omega), hs (k / 4 * 4 + 3) (by omega), hs (k / 4 * 4 + (k + 1) % 4) (by omega)]
def ksb (tb key : Nat → Int32) (count mark : Int32) (j k : Nat) : Int32 := (rds tb key (ctr count mark (nI j) (fun _ => 0)) (fun _ => 0) 10).1 k
theorem ctr_congr {count mark j : Int32} {a b : Nat → Int32} {k : Nat} (h : k < 16) : ctr count mark j a k = ctr count mark j b k := by
  unfold ctr upd ctI rowf
  simp [h]
def mskI (tb key : Nat → Int32) (count mark : Int32) (n a : Nat) (p : Nat → Int32) : Nat → Int32 := fun k => if 1 ≤ k ∧ k < n ∧ k < a then p k ^^^ ksb tb key count mark ((k - 1) / 16) ((k - 1) % 16) else p k
theorem mskI_up {tb key : Nat → Int32} {count mark : Int32} {n a : Nat} {p : Nat → Int32} (h1 : 1 ≤ a) (h2 : a < n) : upd (mskI tb key count mark n a p) a (p a ^^^ ksb tb key count mark ((a - 1) / 16) ((a - 1) % 16)) = mskI tb key count mark n (a + 1) p := by
  funext k
  unfold upd mskI
  by_cases e : k = a
  · subst e
    rw [if_pos rfl, if_pos ⟨h1, h2, by omega⟩]
  · rw [if_neg e]
    by_cases e2 : 1 ≤ k ∧ k < n ∧ k < a
    · rw [if_pos e2, if_pos ⟨e2.1, e2.2.1, by omega⟩]
    · rw [if_neg e2, if_neg (by omega)]
theorem mskI_end {tb key : Nat → Int32} {count mark : Int32} {n a b : Nat} {p : Nat → Int32} (h1 : n ≤ a) (h2 : n ≤ b) : mskI tb key count mark n a p = mskI tb key count mark n b p := by
  funext k
  unfold mskI
  by_cases e : 1 ≤ k ∧ k < n
  · rw [if_pos ⟨e.1, e.2, by omega⟩, if_pos ⟨e.1, e.2, by omega⟩]
  · rw [if_neg (by omega), if_neg (by omega)]
theorem mask1 {tb : Nat → Int32} {Q : Sg → Prop} {K : Nat → Nat → Int32 → Int32 → Int32 → Int32 → Sg → Prop} {c0 c1 n j : Nat} {x3 x4 : Int32} {σ : Sg} {key p : Nat → Int32} (hn : n ≤ 121) (hj : 1 + 16 * j < n) (hc : c1 ≠ c0 + 2) (hs : ∀ k, k < 16 → σ (c0 + 2) k = ksb tb key x3 x4 j k) (hK : K c0 c1 (nI n) x3 x4 (nI (1 + 16 * (j + 1))) (va_up σ c1 (mskI tb key x3 x4 n (1 + 16 * (j + 1)) p))) : ∀ (m i : Nat), i + m = 16 → wpX2_mask_L27 tb Q K (m + 1) c0 c1 (nI n) x3 x4 (nI (1 + 16 * j)) (nI i) (va_up σ c1 (mskI tb key x3 x4 n (1 + 16 * j + i) p)) := by
  have e16 : nI (1 + 16 * j) + 16 = nI (1 + 16 * (j + 1)) := nI_add (1 + 16 * j) 16
  intro m
  induction m with
  | zero =>
    intro i hi
    have e : i = 16 := by omega
    subst e
    unfold wpX2_mask_L27
    refine ⟨fun _ => ?_, fun hc => absurd (by decide) hc⟩
    unfold wpX2_mask_L76
    rintro _ rfl
    rw [e16]
    exact hK
  | succ m ih =>
    intro i hi
    unfold wpX2_mask_L27
    have ea : nI (1 + 16 * j) + nI i = nI (1 + 16 * j + i) := nI_add _ _
    refine ⟨fun hc => absurd hc (nI_ge (a := i) (b := 16) (by omega) (by decide)), fun _ => ⟨fun h1 => ?_, fun h1 => ?_⟩⟩
    · unfold wpX2_mask_L76
      rintro _ rfl
      rw [ea] at h1
      have h2 : n ≤ 1 + 16 * j + i := (nI_leI (by omega) (by omega)).mp h1
      rw [e16, mskI_end (a := 1 + 16 * j + i) (b := 1 + 16 * (j + 1)) h2 (by omega)]
      exact hK
    · rw [ea] at h1 ⊢
      have h2 : 1 + 16 * j + i < n := Nat.not_le.mp fun h9 => h1 (nI_le h9 (by omega))
      refine ⟨fun h3 => absurd h3 (nI_ge (a := 1 + 16 * j + i) (b := 121) (by omega) (by decide)), fun _ => ⟨vin rfl (by omega) (by decide), vin rfl (by omega) (by decide), vin rfl (by omega) (by decide), ?_⟩⟩
      rintro _ rfl _ rfl
      rw [nI_1, nI_clamp (n := 1 + 16 * j + i) (by omega), nI_clamp (n := i) (by omega), up2_up, vu_s, vu_o (Ne.symm hc), hs i (by omega)]
      have e1 : mskI tb key x3 x4 n (1 + 16 * j + i) p (1 + 16 * j + i) = p (1 + 16 * j + i) := by unfold mskI; rw [if_neg (by omega)]
      have e2 : ksb tb key x3 x4 j i = ksb tb key x3 x4 ((1 + 16 * j + i - 1) / 16) ((1 + 16 * j + i - 1) % 16) := by
        rw [show (1 + 16 * j + i - 1) / 16 = j by omega, show (1 + 16 * j + i - 1) % 16 = i by omega]
      rw [e1, e2, mskI_up (by omega) h2]
      exact ih (i + 1) (by omega)
theorem mask2 {tb : Nat → Int32} {Q : Sg → Prop} {c0 c1 n : Nat} {x3 x4 : Int32} {key p : Nat → Int32} {σ0 : Sg} (hn : n ≤ 121) (h1 : c1 ≠ c0 + 1) (h2 : c1 ≠ c0 + 2) (h3 : c1 ≠ c0 + 3) (hQ : ∀ σ' : Sg, σ' c1 = mskI tb key x3 x4 n n p → (∀ d, d ≠ c1 → d ≠ c0 + 2 → d ≠ c0 + 3 → σ' d = σ0 d) → Q σ') : ∀ (m j : Nat) (σ : Sg), j + m = 8 → σ c1 = mskI tb key x3 x4 n (1 + 16 * j) p → σ (c0 + 1) = key → (∀ d, d ≠ c1 → d ≠ c0 + 2 → d ≠ c0 + 3 → σ d = σ0 d) → wpX2_mask_L3 tb Q (m + 1) c0 c1 (nI n) x3 x4 (nI (1 + 16 * j)) σ := by
  intro m
  induction m with
  | zero =>
    intro j σ hj hp hk hd
    unfold wpX2_mask_L3
    refine ⟨fun _ => hQ σ (by rw [hp]; exact mskI_end (by omega) (by omega)) hd, fun hc => absurd (nI_le (a := n) (b := 1 + 16 * j) (by omega) (by omega)) hc⟩
  | succ m ih =>
    intro j σ hj hp hk hd
    unfold wpX2_mask_L3
    refine ⟨fun hc => ?_, fun hc => ?_⟩
    · have h9 : n ≤ 1 + 16 * j := (nI_leI (by omega) (by omega)).mp hc
      exact hQ σ (by rw [hp]; exact mskI_end h9 (by omega)) hd
    · have h9 : 1 + 16 * j < n := Nat.not_le.mp fun h9 => hc (nI_le h9 (by omega))
      have ej : nI (1 + 16 * j) >>> ((4 : Int32) &&& 31) = nI j := by
        have := pk_shrN (n := 1 + 16 * j) (by omega) ((4 : Int32) &&& 31) 4 (by decide)
        rw [this, show (1 + 16 * j) / 2 ^ 4 = j by omega]
      rw [ej]
      refine setCounter_ok (encrypt_ok ⟨17, ?_⟩)
      generalize eS : va_up (va_up (va_up σ (c0 + 2) (ctr x3 x4 (nI j) (σ (c0 + 2)))) (c0 + 3) _) (c0 + 2) _ = σ1
      have s1 : σ1 (c0 + 1) = key := by rw [← eS, vu_o (by omega), vu_o (by omega), vu_o (by omega)]; exact hk
      have sp : σ1 c1 = mskI tb key x3 x4 n (1 + 16 * j) p := by rw [← eS, vu_o h2, vu_o h3, vu_o h2]; exact hp
      have sd : ∀ d, d ≠ c1 → d ≠ c0 + 2 → d ≠ c0 + 3 → σ1 d = σ0 d := fun d d1 d2 d3 => by rw [← eS, vu_o d2, vu_o d3, vu_o d2]; exact hd d d1 d2 d3
      have s2 : ∀ k, k < 16 → σ1 (c0 + 2) k = ksb tb key x3 x4 j k := fun k hk2 => by
        rw [← eS, vu_s]
        unfold ksb
        rw [vu_o (show c0 + 1 ≠ c0 + 2 by omega), vu_s, hk]
        exact rds_congr (fun k hk3 => ctr_congr hk3) 10 k hk2
      have := mask1 (tb := tb) (Q := Q) (K := wpX2_mask_L3 tb Q (m + 1)) (c0 := c0) (c1 := c1) (n := n) (j := j) (x3 := x3) (x4 := x4) (σ := σ1) (key := key) (p := p) hn h9 h2 s2 (ih (j + 1) _ (by omega) vu_s (by rw [vu_o (Ne.symm h1)]; exact s1) (fun d d1 d2 d3 => by rw [vu_o d1]; exact sd d d1 d2 d3)) 16 0 (by omega)
      rw [show 1 + 16 * j + 0 = 1 + 16 * j from rfl, ← sp, vu_id] at this
      exact this
theorem mask_ok {tb : Nat → Int32} {Q : Sg → Prop} {c0 c1 n : Nat} {x3 x4 : Int32} {σ : Sg} (hn : n ≤ 121) (h1 : c1 ≠ c0 + 1) (h2 : c1 ≠ c0 + 2) (h3 : c1 ≠ c0 + 3) (hQ : ∀ σ' : Sg, σ' c1 = mskI tb (σ (c0 + 1)) x3 x4 n n (σ c1) → (∀ d, d ≠ c1 → d ≠ c0 + 2 → d ≠ c0 + 3 → σ' d = σ d) → Q σ') : wpX2_mask tb c0 c1 (nI n) x3 x4 σ Q :=
  ⟨9, mask2 (σ0 := σ) hn h1 h2 h3 hQ 8 0 σ (by omega) (by
    funext k
    unfold mskI
    rw [if_neg (by omega)]) rfl (fun _ _ _ _ => rfl)⟩
