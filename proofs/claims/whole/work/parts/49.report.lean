/-! PURE: the REPORT, and what waits when the link is made anew: in the class -/
def rpF (r : Inr) (i : Nat) : Bool := decide (i < 31) && stNe r.2.2.2.2.2 (slot (r.1 + 1 + nI i))
def topN (f : Nat → Bool) : Nat → Nat
  | 0 => 0
  | n + 1 => if f n then n + 1 else topN f n
theorem topN_le {f : Nat → Bool} : ∀ n, topN f n ≤ n
  | 0 => Nat.le_refl _
  | n + 1 => by
    have := topN_le (f := f) n
    unfold topN
    split <;> omega
theorem topN_hi {f : Nat → Bool} : ∀ n k, topN f n ≤ k → k < n → f k = false
  | 0, k, _, h => by omega
  | n + 1, k, h1, h2 => by
    unfold topN at h1
    by_cases e : f n = true
    · rw [if_pos e] at h1
      omega
    · rw [if_neg e] at h1
      by_cases ek : k = n
      · rw [ek]; simpa using e
      · exact topN_hi n k h1 (by omega)
def pbN (f : Nat → Bool) (j : Nat) : Nat → Nat
  | 0 => 0
  | k + 1 => pbN f j k + b2n (f (8 * j + k)) * 2 ^ (7 - k)
theorem pbN_form {f : Nat → Bool} {j : Nat} : ∀ k, k ≤ 8 → ∃ q, pbN f j k = 2 ^ (8 - k) * q ∧ q < 2 ^ k
  | 0, _ => ⟨0, rfl, by decide⟩
  | k + 1, h => by
    obtain ⟨q, e, hq⟩ := pbN_form (f := f) (j := j) k (by omega)
    refine ⟨2 * q + b2n (f (8 * j + k)), ?_, ?_⟩
    · show pbN f j k + b2n (f (8 * j + k)) * 2 ^ (7 - k) = _
      rw [e, show 8 - k = (7 - k) + 1 by omega, show 8 - (k + 1) = 7 - k by omega, Nat.pow_succ]
      generalize 2 ^ (7 - k) = z
      rw [Nat.mul_add, Nat.mul_comm (b2n _) z, Nat.mul_assoc]
    · have := b2n_le (f (8 * j + k))
      rw [Nat.pow_succ]
      omega
theorem pbN_lt {f : Nat → Bool} {j k : Nat} (h : k ≤ 8) : pbN f j k < 256 := by
  obtain ⟨q, e, hq⟩ := pbN_form (f := f) (j := j) k h
  rw [e]
  have h1 : 2 ^ (8 - k) * q < 2 ^ (8 - k) * 2 ^ k := Nat.mul_lt_mul_of_pos_left hq (Nat.two_pow_pos _)
  rw [← Nat.pow_add, show 8 - k + k = 8 by omega] at h1
  exact h1
def rpL (r : Inr) : List Int32 := [(r.1 >>> 8) &&& 63, r.1 &&& 255] ++ (List.range ((topN (rpF r) 31 + 7) / 8)).map (fun j => nI (pbN (rpF r) j 8))
theorem rpL_len {r : Inr} : (rpL r).length = 2 + (topN (rpF r) 31 + 7) / 8 := by
  unfold rpL
  rw [List.length_append, List.length_map, List.length_range]
  rfl
theorem rpL_le {r : Inr} : (rpL r).length ≤ 6 := by
  rw [rpL_len]
  have := topN_le (f := rpF r) 31
  omega
theorem rpL_get {r : Inr} {j : Nat} (h : j < (topN (rpF r) 31 + 7) / 8) : (rpL r).getD (2 + j) 0 = nI (pbN (rpF r) j 8) := by
  unfold rpL
  rw [List.getD_eq_getElem?_getD, List.getElem?_append_right (by simp), show 2 + j - [(r.1 >>> 8) &&& 63, r.1 &&& 255].length = j from by simp, List.getElem?_map, List.getElem?_range h]
  rfl
theorem or_bit {n t : Nat} (ht : t < 8) (hn : ∃ q, n = 2 ^ (8 - t) * q ∧ q < 2 ^ t) : nI n ||| nI (2 ^ (7 - t)) = nI (n + 2 ^ (7 - t)) := by
  obtain ⟨q, e, hq⟩ := hn
  have hlt : n < 256 := by
    rw [e]
    have h1 : 2 ^ (8 - t) * q < 2 ^ (8 - t) * 2 ^ t := Nat.mul_lt_mul_of_pos_left hq (Nat.two_pow_pos _)
    rw [← Nat.pow_add, show 8 - t + t = 8 by omega] at h1
    exact h1
  have hb := bitN (n := n) (k := 7 - t) (m := nI (2 ^ (7 - t))) (by omega) (by omega) rfl
  have h0 : n / 2 ^ (7 - t) % 2 = 0 := by
    rw [e, show 8 - t = (7 - t) + 1 by omega, Nat.pow_succ, Nat.mul_assoc, Nat.mul_div_cancel_left _ (Nat.two_pow_pos _)]
    omega
  rw [h0] at hb
  rw [or_add (bit_0.mp (by rw [hb]; decide)), nI_add]
theorem sh128 {i : Nat} (h : i < 2 ^ 31) : (128 : Int32) >>> ((nI i &&& 7) &&& 31) = nI (2 ^ (7 - i % 8)) := by
  rw [show nI i &&& 7 = nI (i % 8) from pk_andN (by omega) 3 (by decide)]
  have : i % 8 < 8 := Nat.mod_lt _ (by decide)
  generalize i % 8 = t at this
  match t, this with
  | 0, _ => decide
  | 1, _ => decide
  | 2, _ => decide
  | 3, _ => decide
  | 4, _ => decide
  | 5, _ => decide
  | 6, _ => decide
  | 7, _ => decide
  | n + 8, h => omega
theorem rpF_at {σ : Sg} {o mk i : Nat} {r : Inr} (hI : InR σ o mk r) (hi : i < 31) : slot ((σ o 7) + 1 + nI i) < 32 ∧ (σ o 7 + 1 + nI i) &&& 31 = nI (slot (r.1 + 1 + nI i)) ∧ σ (o + 3) (slot (r.1 + 1 + nI i)) = nI (r.2.2.2.2.2 (slot (r.1 + 1 + nI i))).length ∧ (r.2.2.2.2.2 (slot (r.1 + 1 + nI i))).length ≤ 120 := by
  rw [hI.2.1]
  obtain ⟨h1, h2⟩ := slot_and (r.1 + 1 + nI i)
  obtain ⟨q1, q2, -⟩ := hI.2.2.2.2.2.2.2 _ h1
  exact ⟨h1, h2, q1, q2⟩
theorem wr2 {o c1 mk : Nat} {r : Inr} {n sz : Nat} {σ0 : Sg} {Q : Int32 → Sg → Prop} (hn : n ≤ 31) (hc1 : c1 < o ∨ o + 5 ≤ c1) (hsz : sz < 2 ^ 20) (h : ∀ σ' : Sg, (∀ j, j < 4 → σ' c1 (2 + j) = nI (pbN (rpF r) j (min 8 (n - 8 * j)))) → σ' c1 0 = σ0 c1 0 → σ' c1 1 = σ0 c1 1 → (∀ d, d ≠ c1 → σ' d = σ0 d) → Q (nI sz) σ') : ∀ (m i : Nat) (σ : Sg), i + m = n → InR σ o mk r → (∀ j, j < 4 → σ c1 (2 + j) = nI (pbN (rpF r) j (min 8 (i - 8 * j)))) → σ c1 0 = σ0 c1 0 → σ c1 1 = σ0 c1 1 → (∀ d, d ≠ c1 → σ d = σ0 d) → wpX3_writeReport_L88 Q (m + 1) o c1 (nI n) (nI sz) (nI i) σ := by
  intro m
  induction m with
  | zero =>
    intro i σ hi hI hj h0 h1 hd
    unfold wpX3_writeReport_L88
    rw [show i = n by omega] at *
    exact brt (nI_le (Nat.le_refl _) (by omega)) (h σ hj h0 h1 hd)
  | succ m ih =>
    intro i σ hi hI hj h0 h1 hd
    obtain ⟨q1, q2, q3, q4⟩ := rpF_at (i := i) hI (by omega)
    have hs := (slot_and (r.1 + 1 + nI i)).1
    have ef : rpF r i = stNe r.2.2.2.2.2 (slot (r.1 + 1 + nI i)) := by
      unfold rpF
      rw [show decide (i < 31) = true from decide_eq_true (by omega), Bool.true_and]
    have hsh : nI i >>> ((3 : Int32) &&& 31) = nI (i / 8) := pk_shrN (by omega) 3 3 (by decide)
    have hat : (2 : Int32) + nI (i / 8) = nI (2 + i / 8) := nI_add 2 (i / 8)
    have h8 : i / 8 < 4 := by omega
    unfold wpX3_writeReport_L88
    rw [q2, nI_clamp (by omega), q3, hsh, hat, sh128 (by omega), nI_clamp (by omega)]
    refine brf (nI_ge (by omega) (by omega)) ⟨vin rfl hs (by decide), pk_le _ 0 (fun e => ?_) (fun e => ?_)⟩
    · unfold wpX3_writeReport_L134
      rintro _ rfl
      rw [nI_1]
      have ef0 : rpF r i = false := by rw [ef]; exact decide_eq_false (by omega)
      refine ih (i + 1) σ (by omega) hI (fun j hj4 => ?_) h0 h1 hd
      rw [hj j hj4]
      congr 1
      rcases Nat.lt_trichotomy j (i / 8) with hlt | heq | hgt
      · rw [show min 8 (i - 8 * j) = 8 by omega, show min 8 (i + 1 - 8 * j) = 8 by omega]
      · subst heq
        rw [show min 8 (i - 8 * (i / 8)) = i % 8 by omega, show min 8 (i + 1 - 8 * (i / 8)) = i % 8 + 1 by omega]
        show _ = pbN (rpF r) (i / 8) (i % 8) + b2n (rpF r (8 * (i / 8) + i % 8)) * 2 ^ (7 - i % 8)
        rw [show 8 * (i / 8) + i % 8 = i by omega, ef0]
        simp [b2n]
      · rw [show min 8 (i - 8 * j) = 0 by omega, show min 8 (i + 1 - 8 * j) = 0 by omega]
    · have ef1 : rpF r i = true := by rw [ef]; exact decide_eq_true (by omega)
      refine ⟨vin rfl (by omega) (by decide), vin rfl (by omega) (by decide), ?_⟩
      rintro _ rfl
      unfold wpX3_writeReport_L134
      rintro _ rfl
      rw [nI_1, hj (i / 8) h8, show min 8 (i - 8 * (i / 8)) = i % 8 by omega, or_bit (by omega) (pbN_form (i % 8) (by omega))]
      refine ih (i + 1) _ (by omega) ?_ (fun j hj4 => ?_) ?_ ?_ (fun d hd9 => ?_)
      · exact hI.of (fun k _ _ => by rw [up2_o (by omega)]) (up2_o (by omega)) (up2_o (by omega)) (up2_o (by omega))
      · rw [up2_e]
        rcases Nat.lt_trichotomy j (i / 8) with hlt | heq | hgt
        · rw [if_neg (by omega), hj j hj4, show min 8 (i - 8 * j) = 8 by omega, show min 8 (i + 1 - 8 * j) = 8 by omega]
        · subst heq
          rw [if_pos ⟨rfl, rfl⟩, show min 8 (i + 1 - 8 * (i / 8)) = i % 8 + 1 by omega]
          show _ = nI (pbN (rpF r) (i / 8) (i % 8) + b2n (rpF r (8 * (i / 8) + i % 8)) * 2 ^ (7 - i % 8))
          rw [show 8 * (i / 8) + i % 8 = i by omega, ef1]
          simp [b2n]
        · rw [if_neg (by omega), hj j hj4, show min 8 (i - 8 * j) = 0 by omega, show min 8 (i + 1 - 8 * j) = 0 by omega]
      · rw [up2_e, if_neg (by omega)]; exact h0
      · rw [up2_e, if_neg (by omega)]; exact h1
      · rw [up2_o hd9]; exact hd d hd9
theorem wr1 {o c1 mk : Nat} {r : Inr} {σ : Sg} {Q : Int32 → Sg → Prop} (hI : InR σ o mk r) (hc1 : c1 < o ∨ o + 5 ≤ c1) (h : ∀ σ' : Sg, (∀ k, k < (rpL r).length → σ' c1 k = (rpL r).getD k 0) → (∀ d, d ≠ c1 → σ' d = σ d) → Q (nI (rpL r).length) σ') : ∀ (m i : Nat), i + m = 31 → wpX3_writeReport_L4 Q (m + 1) o c1 (nI (topN (rpF r) i)) (nI i) σ := by
  intro m
  induction m with
  | zero =>
    intro i hi
    have hi : i = 31 := by omega
    subst hi
    unfold wpX3_writeReport_L4
    have ht := topN_le (f := rpF r) 31
    refine pk_le 31 31 (fun _ => fill_ok (by decide) ?_) (fun hh => by omega)
    rintro _ rfl
    have e7 : nI (topN (rpF r) 31) + 7 = nI (topN (rpF r) 31 + 7) := nI_add _ 7
    have hsh : nI (topN (rpF r) 31 + 7) >>> ((3 : Int32) &&& 31) = nI ((topN (rpF r) 31 + 7) / 8) := pk_shrN (by omega) 3 3 (by decide)
    have hat : (2 : Int32) + nI ((topN (rpF r) 31 + 7) / 8) = nI (2 + (topN (rpF r) 31 + 7) / 8) := nI_add 2 _
    rw [e7, hsh, hat, ← rpL_len]
    have hle := rpL_le (r := r)
    have hln := rpL_len (r := r)
    refine brt (nI_le (by omega) (by omega)) ?_
    rintro _ rfl _ rfl
    have ho7 : va_up σ c1 (rowf 8 0 (σ c1)) o 7 = r.1 := by
      rw [vu_o (by omega)]
      exact hI.2.1
    rw [up2_o (d := o) (by omega), ho7]
    refine ⟨topN (rpF r) 31 + 1, wr2 (r := r) (mk := mk) (σ0 := up2 (up2 (va_up σ c1 (rowf 8 0 (σ c1))) c1 0 ((r.1 >>> (8 &&& 31)) &&& 63)) c1 1 (r.1 &&& 255)) ht hc1 (by omega) (fun σ' g1 g2 g3 g4 => h σ' (fun k hk => ?_) (fun d hd => ?_)) (topN (rpF r) 31) 0 _ (by omega) ?_ (fun j hj => ?_) rfl rfl (fun _ _ => rfl)⟩
    · match k with
      | 0 =>
        rw [g2, up2_e, if_neg (by omega), up2_e, if_pos ⟨rfl, rfl⟩]
        rfl
      | 1 =>
        rw [g3, up2_e, if_pos ⟨rfl, rfl⟩]
        rfl
      | k + 2 =>
        rw [Nat.add_comm k 2, g1 k (by omega), rpL_get (by omega)]
        congr 1
        -- beyond the top nothing is set
        have key : ∀ t, t ≤ 8 → topN (rpF r) 31 - 8 * k ≤ t → pbN (rpF r) k t = pbN (rpF r) k (min 8 (topN (rpF r) 31 - 8 * k)) := by
          intro t
          induction t with
          | zero => intro _ h2; rw [show min 8 (topN (rpF r) 31 - 8 * k) = 0 by omega]
          | succ t iht =>
            intro h1 h2
            by_cases e : topN (rpF r) 31 - 8 * k = t + 1
            · rw [show min 8 (topN (rpF r) 31 - 8 * k) = t + 1 by omega]
            · show pbN (rpF r) k t + b2n (rpF r (8 * k + t)) * 2 ^ (7 - t) = _
              rw [iht (by omega) (by omega)]
              have ef : rpF r (8 * k + t) = false := by
                by_cases h31 : 8 * k + t < 31
                · exact topN_hi 31 _ (by omega) h31
                · unfold rpF
                  simp [h31]
              rw [ef]
              simp [b2n]
        by_cases e8 : topN (rpF r) 31 - 8 * k ≤ 8
        · exact (key 8 (Nat.le_refl _) e8).symm
        · rw [show min 8 (topN (rpF r) 31 - 8 * k) = 8 by omega]
    · rw [g4 d hd, up2_o hd, up2_o hd, vu_o hd]
    · exact hI.of (fun k _ _ => by rw [up2_o (by omega), up2_o (by omega), vu_o (by omega)]) (by rw [up2_o (by omega), up2_o (by omega), vu_o (by omega)]) (by rw [up2_o (by omega), up2_o (by omega), vu_o (by omega)]) (by rw [up2_o (by omega), up2_o (by omega), vu_o (by omega)])
    · rw [up2_e, if_neg (by omega), up2_e, if_neg (by omega), vu_s, show min 8 (0 - 8 * j) = 0 by omega]
      unfold rowf
      rw [if_pos (by omega)]
      rfl
  | succ m ih =>
    intro i hi
    obtain ⟨q1, q2, q3, q4⟩ := rpF_at (i := i) hI (by omega)
    have hs := (slot_and (r.1 + 1 + nI i)).1
    have ef : rpF r i = stNe r.2.2.2.2.2 (slot (r.1 + 1 + nI i)) := by
      unfold rpF
      rw [show decide (i < 31) = true from decide_eq_true (by omega), Bool.true_and]
    have hk := ih (i + 1) (by omega)
    have et : topN (rpF r) (i + 1) = if rpF r i then i + 1 else topN (rpF r) i := rfl
    unfold wpX3_writeReport_L4
    rw [q2, nI_clamp (by omega), q3]
    refine pk_le 31 i (fun hh => by omega) (fun _ => ⟨vin rfl hs (by decide), pk_le _ 0 (fun e => ?_) (fun e => ?_)⟩)
    · unfold wpX3_writeReport_L33
      rintro _ rfl
      rw [nI_1]
      have ef0 : rpF r i = false := by rw [ef]; exact decide_eq_false (by omega)
      rw [et, ef0] at hk
      exact hk
    · rintro _ rfl
      unfold wpX3_writeReport_L33
      rintro _ rfl
      rw [nI_1]
      have ef1 : rpF r i = true := by rw [ef]; exact decide_eq_true (by omega)
      rw [et, ef1] at hk
      exact hk
theorem writeReport_ok {o c1 mk : Nat} {r : Inr} {σ : Sg} {Q : Int32 → Sg → Prop} (hI : InR σ o mk r) (hc1 : c1 < o ∨ o + 5 ≤ c1) (h : ∀ σ' : Sg, (∀ k, k < (rpL r).length → σ' c1 k = (rpL r).getD k 0) → (∀ d, d ≠ c1 → σ' d = σ d) → Q (nI (rpL r).length) σ') : wpX3_writeReport o c1 σ Q := ⟨32, wr1 hI hc1 h 31 0 rfl⟩
/-- what waits anew -/
def kpL (kp : Nat → Bool) (pc : Nat → List Int32) : Nat → Nat → List (Nat × List Int32)
  | 0, _ => []
  | m + 1, c => (if kp c then [(c + 1, pc c)] else []) ++ kpL kp pc m (c + 1)
def unA (un : Nat → Un) : Nat → Un := fun d => if kpt un d then ((un d).1, nI ((un d).1.length + 1), true) else un d
theorem kpt_unA {un : Nat → Un} : kpt (unA un) = kpt un := by
  funext d
  unfold kpt unA
  by_cases e : kpt un d = true
  · rw [if_pos e]
    exact e.symm
  · rw [if_neg e]
theorem wa1 {o nc lo : Nat} {un : Nat → Un} {pc : Nat → List Int32} {σ0 : Sg} {Q : Sg → Prop} (hlo : lo = lowK (kpt un) nc) (hn : nc < 2 ^ 17) (h24 : nc ≤ lo + 24) (h7 : σ0 o 7 = nI nc) (h6 : σ0 o 6 = nI lo) (h3 : ∀ c, lo ≤ c → c < nc → σ0 (o + 3) (c % 32) = b01 (kpt un c)) (h2 : ∀ c, lo ≤ c → c < nc → kpt un c = true → σ0 (o + 2) (c % 32) = nI (un c).1.length) : ∀ (m c : Nat) (σ : Sg) (don : List (Nat × List Int32)), c + m = nc → lo ≤ c → don.length ≤ 1 + (c - lo) → σ o 9 = nI don.length → (∀ k, k ≠ 9 → σ o k = σ0 o k) → (∀ d, d ≠ o → d ≠ o + 4 → d ≠ o + 5 → σ d = σ0 d) → (∀ j, j < don.length → σ (o + 5) j = nI (don.getD j (0, [])).1 - 1) → (∀ d, lo ≤ d → d < c → kpt un d = true → σ (o + 4) (d % 32) = nI ((un d).1.length + 1)) → (∀ σ' : Sg, σ' o 9 = nI (don ++ kpL (kpt un) pc m c).length → (∀ k, k ≠ 9 → σ' o k = σ0 o k) → (∀ d, d ≠ o → d ≠ o + 4 → d ≠ o + 5 → σ' d = σ0 d) → (∀ j, j < (don ++ kpL (kpt un) pc m c).length → σ' (o + 5) j = nI ((don ++ kpL (kpt un) pc m c).getD j (0, [])).1 - 1) → (∀ d, lo ≤ d → d < nc → kpt un d = true → σ' (o + 4) (d % 32) = nI ((un d).1.length + 1)) → Q σ') → wpX4_waitAnew_L32 Q (m + 1) o (nI c) σ := by
  intro m
  induction m with
  | zero =>
    intro c σ don hc hlc hdl h9 hk hd h5 h4 h
    have hc : c = nc := by omega
    subst hc
    unfold wpX4_waitAnew_L32
    rw [hk 7 (by decide), h7]
    have e : don ++ kpL (kpt un) pc 0 c = don := by unfold kpL; rw [List.append_nil]
    rw [e] at h
    exact brt (nI_le (Nat.le_refl _) (by omega)) (h σ h9 hk hd h5 h4)
  | succ m ih =>
    intro c σ don hc hlc hdl h9 hk hd h5 h4 h
    have e3 : σ (o + 3) (c % 32) = b01 (kpt un c) := by
      rw [hd _ (by omega) (by omega) (by omega)]
      exact h3 c hlc (by omega)
    have ea : kpL (kpt un) pc (m + 1) c = (if kpt un c then [(c + 1, pc c)] else []) ++ kpL (kpt un) pc m (c + 1) := rfl
    rw [ea, ← List.append_assoc] at h
    unfold wpX4_waitAnew_L32
    rw [hk 7 (by decide), h7]
    refine brf (nI_ge (by omega) (by omega)) ?_
    unfold wpX4_keeps
    rw [hk 7 (by decide), h7, hk 6 (by decide), h6, a31 (by omega), nI_clamp (by omega), e3]
    have stay : kpt un c = false → wpX4_waitAnew_L72 Q (wpX4_waitAnew_L32 Q (m + 1)) o (nI c) σ := by
      intro e
      unfold wpX4_waitAnew_L72
      rintro _ rfl
      rw [nI_1]
      rw [e, if_neg (by decide), List.append_nil] at h
      refine ih (c + 1) σ don (by omega) (by omega) (by omega) h9 hk hd h5 (fun d d1 d2 d3 => h4 d d1 ?_ d3) h
      by_cases ed : d = c
      · rw [ed, e] at d3
        cases d3
      · omega
    refine brf (fun hh => by have := (nI_ltI (by omega) (by omega)).mp hh; omega) (brf (nI_ge (by omega) (by omega)) ⟨vin rfl (by omega) (by decide), br01 (fun e => ?_) (fun e => ?_)⟩)
    · exact brt rfl (stay e)
    · refine brf (by decide) ?_
      rintro _ rfl
      rw [nI_clamp (by omega)]
      refine ⟨vin rfl (by omega) (by decide), vin rfl (by omega) (by decide), ?_⟩
      rintro _ rfl
      rw [hd (o + 2) (by omega) (by omega) (by omega), h2 c hlc (by omega) e, nI_1]
      refine addWaiting_ok (n := don.length) (by rw [up2_o (by omega)]; exact h9) (by omega) (fun σ2 g1 g2 g3 g4 => ?_)
      unfold wpX4_waitAnew_L72
      rintro _ rfl
      rw [nI_1]
      rw [e, if_pos rfl] at h
      have hl1 : (don ++ [(c + 1, pc c)]).length = don.length + 1 := by simp
      refine ih (c + 1) σ2 (don ++ [(c + 1, pc c)]) (by omega) (by omega) (by rw [hl1]; omega) (by rw [hl1]; exact g1) (fun k hk9 => ?_) (fun d d1 d2 d3 => ?_) (fun j hj => ?_) (fun d d1 d2 d3 => ?_) h
      · rw [g2 k hk9, up2_o (by omega)]; exact hk k hk9
      · rw [g4 d d1 d3, up2_o d2]; exact hd d d1 d2 d3
      · rw [hl1] at hj
        rw [g3]
        by_cases ej : j = don.length
        · subst ej
          rw [if_pos rfl, List.getD_eq_getElem?_getD, List.getElem?_append_right (Nat.le_refl _), Nat.sub_self]
          exact (nI_pred c).symm
        · rw [if_neg ej, up2_o (by omega), h5 j (by omega), List.getD_eq_getElem?_getD, List.getD_eq_getElem?_getD, List.getElem?_append_left (by omega)]
      · rw [g4 _ (by omega) (by omega), up2_e]
        by_cases ed : d = c
        · subst ed
          rw [if_pos ⟨rfl, rfl⟩]
        · rw [if_neg (by omega)]
          exact h4 d d1 (by omega) d3
theorem waitAnew_ok {o c1 mk mk1 nc : Nat} {r : Inr} {un : Nat → Un} {w : Wt} {pc : Nat → List Int32} {σ : Sg} {Q : Sg → Prop} (hC : ObC σ o mk nc un w) (hn : nc < 2 ^ 17) (h24 : nc ≤ lowK (kpt un) nc + 24) (hI : InR σ c1 mk1 r) (hc1 : c1 + 5 ≤ o ∨ o + 8 ≤ c1) (h : ∀ σ' : Sg, ObC σ' o mk nc (unA un) ((0, rpL r) :: kpL (kpt un) pc (nc - lowK (kpt un) nc) (lowK (kpt un) nc), 0) → Fob o σ σ' → Q σ') : wpX4_waitAnew o c1 σ Q := by
  obtain ⟨c0, c7, c6, c5, cU, cW⟩ := hC
  obtain ⟨l1, l2, l3⟩ := lowK_spec (kpt un) nc
  unfold wpX4_waitAnew
  refine writeReport_ok hI (by omega) (fun σ1 g1 g2 => ?_)
  rintro _ rfl _ rfl _ rfl
  refine addWaiting_ok (n := 0) (by rw [up2_e, if_neg (by omega), up2_e, if_pos ⟨rfl, rfl⟩]; rfl) (by omega) (fun σ2 k1 k2 k3 k4 => ?_)
  have o0 : ∀ k, k ≠ 9 → k ≠ 12 → k ≠ 14 → σ2 o k = σ o k := fun k h9 h12 h14 => by rw [k2 k h9, up2_e, if_neg (by omega), up2_e, if_neg (by omega), up2_e, if_neg (by omega), g2 o (by omega)]
  have od : ∀ d, d ≠ o → d ≠ o + 5 → d ≠ o + 7 → σ2 d = σ d := fun d d1 d2 d3 => by rw [k4 d d1 d2, up2_o d1, up2_o d1, up2_o d1, g2 d d3]
  rw [o0 6 (by decide) (by decide) (by decide), c6]
  rintro _ rfl
  refine ⟨nc - lowK (kpt un) nc + 1, ?_⟩
  refine wa1 (σ0 := σ2) (lo := lowK (kpt un) nc) (pc := pc) rfl hn h24 ?_ ?_ (fun c h1 h2 => ?_) (fun c h1 h2 h3 => ?_) (nc - lowK (kpt un) nc) (lowK (kpt un) nc) σ2 [(0, rpL r)] (by omega) (Nat.le_refl _) (by simp) k1 (fun _ _ => rfl) (fun _ _ _ _ => rfl) (fun j hj => ?_) (fun d h1 h2 => by omega) (fun σ3 q1 q2 q3 q4 q5 => ?_)
  · rw [o0 7 (by decide) (by decide) (by decide)]; exact c7
  · rw [o0 6 (by decide) (by decide) (by decide)]; exact c6
  · rw [od _ (by omega) (by omega) (by omega)]; exact (cU c h1 h2).1
  · rw [od _ (by omega) (by omega) (by omega)]; exact ((cU c h1 h2).2 h3).1
  · have hj : j < 1 := hj
    have hj : j = 0 := by omega
    subst hj
    rw [k3, if_pos rfl]
    show (-1 : Int32) = nI 0 - 1
    decide
  · have o3 : ∀ k, k ≠ 9 → k ≠ 12 → k ≠ 14 → σ3 o k = σ o k := fun k h9 h12 h14 => by rw [q2 k h9, o0 k h9 h12 h14]
    have d3 : ∀ d, d ≠ o → d ≠ o + 4 → d ≠ o + 5 → d ≠ o + 7 → σ3 d = σ d := fun d d1 d2 d3 d4 => by rw [q3 d d1 d2 d3, od d d1 d3 d4]
    refine h σ3 ⟨?_, ?_, ?_, ?_, ?_, ?_, ?_, ?_, ?_, ?_⟩ (fun d hd => d3 d (by omega) (by omega) (by omega) (by omega))
    · rw [o3 0 (by decide) (by decide) (by decide)]; exact c0
    · rw [o3 7 (by decide) (by decide) (by decide)]; exact c7
    · rw [kpt_unA, o3 6 (by decide) (by decide) (by decide)]; exact c6
    · rw [kpt_unA, o3 5 (by decide) (by decide) (by decide)]; exact c5
    · rw [kpt_unA]
      intro c h1 h2
      rw [kpt_unA]
      refine ⟨by rw [d3 _ (by omega) (by omega) (by omega) (by omega)]; exact (cU c h1 h2).1, fun hk => ?_⟩
      obtain ⟨u1, u2, u3⟩ := (cU c h1 h2).2 hk
      have eu : unA un c = ((un c).1, nI ((un c).1.length + 1), true) := by unfold unA; rw [if_pos hk]
      rw [eu]
      exact ⟨by rw [d3 _ (by omega) (by omega) (by omega) (by omega)]; exact u1, q5 c h1 h2 hk, fun k hk9 => by rw [d3 _ (by omega) (by omega) (by omega) (by omega)]; exact u3 k hk9⟩
    · exact q1
    · rw [q2 12 (by decide), k2 12 (by decide), up2_e, if_pos ⟨rfl, rfl⟩]; rfl
    · exact q4
    · intro hg
      exact absurd hg (by simp)
    · intro p hp hp0
      have ep : p = (0, rpL r) := by
        rcases List.mem_cons.mp hp with hp | hp
        · exact hp
        · exfalso
          have key : ∀ m c, ∀ p ∈ kpL (kpt un) pc m c, p.1 ≠ 0 := by
            intro m
            induction m with
            | zero => intro c p hp; exact absurd hp (by unfold kpL; simp)
            | succ m ih =>
              intro c p hp
              unfold kpL at hp
              rcases List.mem_append.mp hp with hp | hp
              · split at hp
                · rw [List.mem_singleton] at hp
                  rw [hp]
                  exact Nat.succ_ne_zero c
                · exact absurd hp (by simp)
              · exact ih (c + 1) p hp
          exact key _ _ p hp hp0
      rw [ep]
      refine ⟨?_, fun k hk => ?_⟩
      · rw [q2 14 (by decide), k2 14 (by decide), up2_e, if_neg (by omega), up2_e, if_neg (by omega), up2_e, if_pos ⟨rfl, rfl⟩]
      · rw [q3 _ (by omega) (by omega) (by omega), k4 _ (by omega) (by omega), up2_o (by omega), up2_o (by omega), up2_o (by omega)]
        exact g1 k hk
