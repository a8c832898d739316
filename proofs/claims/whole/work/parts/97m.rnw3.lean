/-! PURE: the reference: the REPORT waits; what is kept waits -/
def pvN (f : Nat → Bool) (j : Nat) : Nat → Nat
  | 0 => 0
  | k + 1 => 2 * pvN f j k + b2n (f (8 * j + k))
theorem pvN_lt {f : Nat → Bool} {j : Nat} : ∀ k, pvN f j k < 2 ^ k
  | 0 => Nat.zero_lt_one
  | k + 1 => by
    have h1 := pvN_lt (f := f) (j := j) k
    have h2 := b2n_le (f (8 * j + k))
    show 2 * pvN f j k + b2n (f (8 * j + k)) < 2 ^ (k + 1)
    rw [Nat.pow_succ]
    omega
theorem pvN_pb {f : Nat → Bool} {j : Nat} : ∀ k, k ≤ 8 → pbN f j k = 2 ^ (8 - k) * pvN f j k
  | 0, _ => rfl
  | k + 1, h => by
    show pbN f j k + b2n (f (8 * j + k)) * 2 ^ (7 - k) = 2 ^ (8 - (k + 1)) * (2 * pvN f j k + b2n (f (8 * j + k)))
    rw [pvN_pb k (by omega), show 8 - k = (7 - k) + 1 by omega, show 8 - (k + 1) = 7 - k by omega, Nat.pow_succ]
    generalize 2 ^ (7 - k) = z
    rw [Nat.mul_add, Nat.mul_comm (b2n _) z, Nat.mul_assoc]
theorem pvN_8 {f : Nat → Bool} {j : Nat} : pbN f j 8 = pvN f j 8 := by
  rw [pvN_pb 8 (Nat.le_refl _)]
  show 1 * _ = _
  rw [Nat.one_mul]
theorem ar59 {τ : Sg} {i : Nat} {r : Inr} {x : Int32} (hI : IbM τ i r) (hi : i < 6) : (32 : Int32) * nI i + (x &&& 31) = nI (32 * i + slot x) ∧ 32 * i + slot x < 192 ∧ τ 59 (nI (32 * i + slot x)).toNatClampNeg = b01 (stNe r.2.2.2.2.2 (slot x)) := by
  obtain ⟨hs, es⟩ := slot_and x
  have e : (32 : Int32) * nI i = nI (32 * i) := pk_mul 32 i
  rw [e, es, nI_add, nI_clamp (by omega)]
  exact ⟨rfl, by omega, (hI.2.2.2.2.2 _ hs).1⟩
theorem ar12 {i : Nat} {r : Inr} {τ : Sg} {Q : Sg → Prop} (hi : i < 6) (hI : IbM τ i r) (h : wpX9_awaitReport_L12 Q 1 (nI i) r.1 (nI (topN (rpF r) 31)) (nI 31) τ) : ∀ m x, x + m = 31 → wpX9_awaitReport_L12 Q (m + 1) (nI i) r.1 (nI (topN (rpF r) x)) (nI x) τ := by
  intro m
  induction m with
  | zero =>
    intro x hx
    have hx : x = 31 := by omega
    subst hx
    exact h
  | succ m ih =>
    intro x hx
    have hk := ih (x + 1) (by omega)
    have ef : rpF r x = stNe r.2.2.2.2.2 (slot (r.1 + 1 + nI x)) := by
      unfold rpF
      rw [show decide (x < 31) = true from decide_eq_true (by omega), Bool.true_and]
    have et : topN (rpF r) (x + 1) = if rpF r x then x + 1 else topN (rpF r) x := rfl
    obtain ⟨q1, q2, q3⟩ := ar59 (x := r.1 + 1 + nI x) hI hi
    unfold wpX9_awaitReport_L12
    rw [q1, q3]
    refine brf (nI_ge (a := x) (b := 31) (by omega) (by decide)) ⟨vin rfl q2 (by decide), br01 (fun e => ?_) (fun e => ?_)⟩
    · unfold wpX9_awaitReport_L46
      rw [nI_1]
      rintro _ rfl
      rw [et, ef, e] at hk
      exact hk
    · rw [nI_1]
      rintro _ rfl
      unfold wpX9_awaitReport_L46
      rw [nI_1]
      rintro _ rfl
      rw [et, ef, e] at hk
      exact hk
theorem ar114 {i j N : Nat} {r : Inr} {τ : Sg} {Q : Sg → Prop} {K101 : Int32 → Int32 → Int32 → Int32 → Int32 → Sg → Prop} (hi : i < 6) (hI : IbM τ i r) (hj : j < 4) (h : wpX9_awaitReport_L114 Q K101 1 (nI i) r.1 (nI (topN (rpF r) 31)) (nI N) (nI j) (nI (pvN (rpF r) j 8)) (nI 8) τ) : ∀ m k, k + m = 8 → wpX9_awaitReport_L114 Q K101 (m + 1) (nI i) r.1 (nI (topN (rpF r) 31)) (nI N) (nI j) (nI (pvN (rpF r) j k)) (nI k) τ := by
  intro m
  induction m with
  | zero =>
    intro k hk
    have hk : k = 8 := by omega
    subst hk
    exact h
  | succ m ih =>
    intro k hk
    have hn := ih (k + 1) (by omega)
    have hv := pvN_lt (f := rpF r) (j := j) k
    have h28 : 2 ^ k ≤ 2 ^ 8 := Nat.pow_le_pow_right (by decide) (by omega)
    have h28' : (2 : Nat) ^ 8 = 256 := rfl
    have ht := topN_le (f := rpF r) 31
    have e8 : (8 : Int32) * nI j + nI k = nI (8 * j + k) := by
      have : (8 : Int32) * nI j = nI (8 * j) := pk_mul 8 j
      rw [this, nI_add]
    have es : nI (pvN (rpF r) j k) <<< ((1 : Int32) &&& 31) = nI (pvN (rpF r) j k * 2 ^ 1) := pk_shlN _ 1 (by decide) (by omega)
    have ev : pvN (rpF r) j (k + 1) = 2 * pvN (rpF r) j k + b2n (rpF r (8 * j + k)) := rfl
    have f0 : rpF r (8 * j + k) = false → wpX9_awaitReport_L167 Q K101 (wpX9_awaitReport_L114 Q K101 (m + 1)) (nI i) r.1 (nI (topN (rpF r) 31)) (nI N) (nI j) (nI k) (nI (pvN (rpF r) j k * 2 ^ 1)) τ := by
      intro e
      unfold wpX9_awaitReport_L167 wpX9_awaitReport_L168
      rintro _ rfl
      rw [nI_1]
      rintro _ rfl
      have eo : nI (pvN (rpF r) j k * 2 ^ 1) ||| (0 : Int32) = nI (pvN (rpF r) j k * 2 ^ 1) := by simp
      rw [eo]
      rw [ev, e, show 2 * pvN (rpF r) j k + b2n false = pvN (rpF r) j k * 2 ^ 1 by show 2 * pvN (rpF r) j k + 0 = _; omega] at hn
      exact hn
    unfold wpX9_awaitReport_L114
    rw [e8, es]
    refine brf (nI_ge (a := k) (b := 8) (by omega) (by decide)) ?_
    rintro _ rfl
    refine pk_le (topN (rpF r) 31) (8 * j + k) (fun hle => ?_) (fun hlt => ?_)
    · refine f0 ?_
      by_cases h31 : 8 * j + k < 31
      · exact topN_hi 31 _ hle h31
      · unfold rpF
        simp [h31]
    · have ef : rpF r (8 * j + k) = stNe r.2.2.2.2.2 (slot (r.1 + 1 + nI (8 * j + k))) := by
        unfold rpF
        rw [show decide (8 * j + k < 31) = true from decide_eq_true (by omega), Bool.true_and]
      obtain ⟨q1, q2, q3⟩ := ar59 (x := r.1 + 1 + nI (8 * j + k)) hI hi
      rw [q1, q3]
      refine ⟨vin rfl q2 (by decide), br01 (fun e => f0 (by rw [ef]; exact e)) (fun e => ?_)⟩
      rw [← ef] at e
      unfold wpX9_awaitReport_L168
      rintro _ rfl
      rw [nI_1]
      rintro _ rfl
      have eo : nI (pvN (rpF r) j k * 2 ^ 1) ||| (1 : Int32) = nI (2 * pvN (rpF r) j k + 1) := by
        have h0 : nI (pvN (rpF r) j k * 2 ^ 1) &&& (1 : Int32) = 0 := by
          have : nI (pvN (rpF r) j k * 2 ^ 1) &&& (1 : Int32) = nI (pvN (rpF r) j k * 2 ^ 1 % 2 ^ 1) := pk_andN (by omega) 1 (by decide)
          rw [this, show pvN (rpF r) j k * 2 ^ 1 % 2 ^ 1 = 0 by omega]
          rfl
        rw [or_add h0, nI_1]
        congr 1
        omega
      rw [eo]
      rw [ev, e] at hn
      exact hn
theorem ar101 {i : Nat} {r : Inr} {fl : List Cel} {τ0 : Sg} {Q : Sg → Prop} (hi : i < 6) (hI : IbM τ0 i r) (hl : fl.length + 8 < 4400) (h : ∀ τ' : Sg, WtM τ' i (fl ++ pkC (0, rpL r)) → FrA LW i τ0 τ' → Q τ') : ∀ (m j : Nat) (τ : Sg), j + m = (topN (rpF r) 31 + 7) / 8 → WtM τ i (fl ++ pkT (0, rpL r) (2 + j)) → FrA LW i τ0 τ → wpX9_awaitReport_L101 Q (m + 1) (nI i) r.1 (nI (topN (rpF r) 31)) (nI ((topN (rpF r) 31 + 7) / 8)) (nI j) τ := by
  have ht := topN_le (f := rpF r) 31
  have hln := rpL_len (r := r)
  intro m
  induction m with
  | zero =>
    intro j τ hj hW hF
    unfold wpX9_awaitReport_L101
    refine brt (nI_le (by omega) (by omega)) (h τ ?_ hF)
    have e : pkC (0, rpL r) = pkT (0, rpL r) (2 + j) := by
      unfold pkC pkT
      rw [show (0, rpL r).2.length = 2 + j from by show (rpL r).length = _; omega]
    rw [e]
    exact hW
  | succ m ih =>
    intro j τ hj hW hF
    have hI1 : IbM τ i r := hI.of (fun c c1 c2 => hF.1 c (by unfold LW; simp only [List.mem_cons, List.not_mem_nil, or_false]; omega))
    unfold wpX9_awaitReport_L101
    refine brf (nI_ge (by omega) (by omega)) ⟨9, ar114 hi hI1 (by omega) ?_ 8 0 (by omega)⟩
    have ec : celP (0, rpL r) (2 + j) = (nI (pvN (rpF r) j 8), false, decide (j + 1 = (topN (rpF r) 31 + 7) / 8), 0) := by
      unfold celP
      show ((rpL r).getD (2 + j) 0, decide (2 + j = 0), decide (2 + j + 1 = (rpL r).length), 0) = _
      rw [rpL_get (by omega), pvN_8, decide_eq_false (by omega), hln]
      congr 3
      exact decide_eq_decide.mpr (by omega)
    have L197 : ∀ z : Bool, z = decide (j + 1 = (topN (rpF r) 31 + 7) / 8) → wpX9_awaitReport_L197 Q (wpX9_awaitReport_L101 Q (m + 1)) (nI i) r.1 (nI (topN (rpF r) 31)) (nI ((topN (rpF r) 31 + 7) / 8)) (nI j) (b01 z) 0 (-1) (nI (pvN (rpF r) j 8)) (nI i) τ := by
      intro z hz
      unfold wpX9_awaitReport_L197
      have hA := await_ok (q := celP (0, rpL r) (2 + j)) (Q := fun σ19 => ∀ x5_20 : Int32, x5_20 = nI j + 1 → wpX9_awaitReport_L101 Q (m + 1) (nI i) r.1 (nI (topN (rpF r) 31)) (nI ((topN (rpF r) 31 + 7) / 8)) x5_20 σ19) hi hW (by rw [List.length_append, pkT_len]; omega) (fun τ1 g1 g2 => ?_)
      · rw [ec, ← hz] at hA
        exact hA
      · rw [nI_1]
        rintro _ rfl
        refine ih (j + 1) τ1 (by omega) ?_ (hF.tr g2)
        rw [show 2 + (j + 1) = 2 + j + 1 by omega, pkT_up, ← List.append_assoc]
        exact g1
    unfold wpX9_awaitReport_L114
    refine brt (nI_le (Nat.le_refl _) (by decide)) ⟨fun hne => ?_, fun he => ?_⟩
    · refine L197 false (decide_eq_false (fun hh => hne ?_)).symm
      rw [nI_1, hh]
    · refine L197 true (decide_eq_true ?_).symm
      rw [nI_1] at he
      exact (nI_eq (by omega) (by omega)).mp he
theorem awaitReport_ok {τ : Sg} {i : Nat} {r : Inr} {fl : List Cel} {Q : Sg → Prop} (hi : i < 6) (hI : IbM τ i r) (hW : WtM τ i fl) (hl : fl.length + 8 < 4400) (h : ∀ τ' : Sg, WtM τ' i (fl ++ pkC (0, rpL r)) → FrA LW i τ τ' → Q τ') : wpX9_awaitReport (nI i) τ Q := by
  have ht := topN_le (f := rpF r) 31
  have hln := rpL_len (r := r)
  unfold wpX9_awaitReport
  refine ⟨vin rfl hi (by decide), ?_⟩
  rw [nI_clamp (n := i) (by omega), hI.1]
  rintro _ rfl
  refine ⟨32, ar12 hi hI ?_ 31 0 (by omega)⟩
  unfold wpX9_awaitReport_L12
  refine brt (nI_le (a := 31) (b := 31) (by omega) (by decide)) ?_
  have e7 : nI (topN (rpF r) 31) + 7 = nI (topN (rpF r) 31 + 7) := nI_add _ 7
  have ed : nI (topN (rpF r) 31 + 7) / 8 = nI ((topN (rpF r) 31 + 7) / 8) := pk_div (a := topN (rpF r) 31 + 7) (d := 8) (by omega) (by decide) (by decide)
  rw [e7, ed]
  rintro _ rfl
  have c0 : celP (0, rpL r) 0 = ((r.1 >>> ((8 : Int32) &&& 31)) &&& 63, true, false, 0) := by
    unfold celP
    show ((rpL r).getD 0 0, decide (0 = 0), decide (0 + 1 = (rpL r).length), 0) = _
    rw [decide_eq_false (p := 0 + 1 = (rpL r).length) (by omega)]
    rfl
  have c1 : celP (0, rpL r) 1 = (r.1 &&& 255, false, decide ((topN (rpF r) 31 + 7) / 8 = 0), 0) := by
    unfold celP
    show ((rpL r).getD 1 0, decide (1 = 0), decide (1 + 1 = (rpL r).length), 0) = _
    rw [hln]
    have : decide (1 + 1 = 2 + (topN (rpF r) 31 + 7) / 8) = decide ((topN (rpF r) 31 + 7) / 8 = 0) := decide_eq_decide.mpr (by omega)
    rw [this]
    rfl
  have p0 : fl = fl ++ pkT (0, rpL r) 0 := by
    have : pkT (0, rpL r) 0 = [] := rfl
    rw [this, List.append_nil]
  have hA := await_ok (q := celP (0, rpL r) 0) (Q := fun σ5 => ((¬ nI ((topN (rpF r) 31 + 7) / 8) = 0 → wpX9_awaitReport_L95 Q (nI i) r.1 (nI (topN (rpF r) 31)) (nI ((topN (rpF r) 31 + 7) / 8)) 0 0 (-1) (r.1 &&& 255) (nI i) σ5) ∧ (nI ((topN (rpF r) 31 + 7) / 8) = 0 → wpX9_awaitReport_L95 Q (nI i) r.1 (nI (topN (rpF r) 31)) (nI ((topN (rpF r) 31 + 7) / 8)) 1 0 (-1) (r.1 &&& 255) (nI i) σ5))) hi hW (by omega) (fun τ1 g1 g2 => ?_)
  · rw [c0] at hA
    exact hA
  · have L95 : ∀ z : Bool, z = decide ((topN (rpF r) 31 + 7) / 8 = 0) → wpX9_awaitReport_L95 Q (nI i) r.1 (nI (topN (rpF r) 31)) (nI ((topN (rpF r) 31 + 7) / 8)) (b01 z) 0 (-1) (r.1 &&& 255) (nI i) τ1 := by
      intro z hz
      unfold wpX9_awaitReport_L95
      have hB := await_ok (q := celP (0, rpL r) 1) (Q := fun σ10 => ∃ nn, wpX9_awaitReport_L101 Q nn (nI i) r.1 (nI (topN (rpF r) 31)) (nI ((topN (rpF r) 31 + 7) / 8)) 0 σ10) hi g1 (by rw [List.length_append, List.length_singleton]; omega) (fun τ2 k1 k2 => ?_)
      · rw [c1, ← hz] at hB
        exact hB
      · refine ⟨(topN (rpF r) 31 + 7) / 8 + 1, ar101 (τ0 := τ) hi hI hl h ((topN (rpF r) 31 + 7) / 8) 0 τ2 (by omega) ?_ (g2.tr k2)⟩
        have : pkT (0, rpL r) (2 + 0) = [celP (0, rpL r) 0, celP (0, rpL r) 1] := rfl
        rw [this]
        rw [List.append_assoc] at k1
        exact k1
    refine ⟨fun hne => ?_, fun he => ?_⟩
    · refine L95 false (decide_eq_false (fun hh => hne ?_)).symm
      rw [hh]
      rfl
    · exact L95 true (decide_eq_true ((nI_eq (b := 0) (by omega) (by decide)).mp he)).symm
/-- what is kept waits -/
theorem rn171 {p b i nc lo : Nat} {y ep : Int32} {un : Nat → Un} {τ0 : Sg} {Q : Int32 → Sg → Prop} {K138 : Int32 → Sg → Prop} {K145 : Int32 → Int32 → Sg → Prop} (hp : p < 2) (hbb : b < 3) (hip : i = 3 * p + b) (hK : KyM τ0 y ep) (hM : KpM τ0 i nc un) (hn : nc < 2 ^ 17) (h24 : nc ≤ lo + 24) (hU : ∀ c, kpt un c = true → 1 ≤ (un c).1.length ∧ (un c).1.length ≤ 120) {pc : Nat → List Int32} (hpc : ∀ c, pc c = pkU (ksS (keyF y ep) (8 * b + 4 * p)) c (un c).1) : ∀ (m c : Nat) (τ : Sg) (don : List (Nat × List Int32)), c + m = nc → lo ≤ c → don.length ≤ 1 + (c - lo) → (∀ q ∈ don, q.2.length ≤ 121) → WtM τ i (flL don) → (∀ d, lo ≤ d → d < c → kpt un d = true → τ 18 (32 * i + d % 32) = nI ((un d).1.length + 1)) → FrA LAu i τ0 τ → (∀ τ' : Sg, WtM τ' i (flL (don ++ kpL (kpt un) pc m c)) → (∀ d, lo ≤ d → d < nc → kpt un d = true → τ' 18 (32 * i + d % 32) = nI ((un d).1.length + 1)) → FrA LAu i τ0 τ' → K145 (nI p) (nI (b + 1)) τ') → wpX9_renew_L171 Q K138 K145 (m + 1) (nI p) (nI b) (nI i) (nI c) τ := by
  have hi : i < 6 := by omega
  obtain ⟨k1, k2, k3, k4⟩ := hM
  intro m
  induction m with
  | zero =>
    intro c τ don hc hlo hdl hdn hW h18 hF h
    have hc : c = nc := by omega
    subst hc
    unfold wpX9_renew_L171
    rw [nI_clamp (n := i) (by omega), hF.1 2 (by decide), k1, nI_1]
    refine ⟨vin rfl hi (by decide), brt (nI_le (Nat.le_refl _) (by omega)) ?_⟩
    rintro _ rfl
    have e : don ++ kpL (kpt un) pc 0 c = don := by unfold kpL; rw [List.append_nil]
    rw [e] at h
    exact h τ hW h18 hF
  | succ m ih =>
    intro c τ don hc hlo hdl hdn hW h18 hF h
    have ea : kpL (kpt un) pc (m + 1) c = (if kpt un c then [(c + 1, pc c)] else []) ++ kpL (kpt un) pc m (c + 1) := rfl
    rw [ea, ← List.append_assoc] at h
    have e32 : (32 : Int32) * nI i + (nI c &&& 31) = nI (32 * i + c % 32) := by
      have : (32 : Int32) * nI i = nI (32 * i) := pk_mul 32 i
      rw [this, a31 (by omega), nI_add]
    unfold wpX9_renew_L171
    rw [nI_clamp (n := i) (by omega), hF.1 2 (by decide), k1, e32, nI_clamp (n := 32 * i + c % 32) (by omega), hF.1 15 (by decide), k2 c (by omega) (by omega)]
    refine ⟨vin rfl hi (by decide), brf (nI_ge (by omega) (by omega)) ⟨vin rfl (by omega) (by decide), br01 (fun e => ?_) (fun e => ?_)⟩⟩
    · unfold wpX9_renew_L208
      rw [nI_1]
      rintro _ rfl
      rw [e, if_neg (by decide), List.append_nil] at h
      refine ih (c + 1) τ don (by omega) (by omega) (by omega) hdn hW (fun d d1 d2 d3 => h18 d d1 ?_ d3) hF h
      by_cases ed : d = c
      · rw [ed, e] at d3
        cases d3
      · omega
    · obtain ⟨r1, r2, r3, r4⟩ := k4 c (by omega) (by omega) e
      obtain ⟨u1, u2⟩ := hU c e
      have hsum := sumL_le don hdn
      refine awaitUnit_ok (bs := (un c).1) (fl := flL don) hp hbb hip (hK.of (hF.1 0 (by decide)) (hF.1 67 (by decide))) (by omega) ?_ (fun k hk => ?_) u1 u2 hW (by rw [flL_len]; omega) (fun τ1 g1 g2 g3 => ?_)
      · rw [hF.1 16 (by decide)]
        exact r1
      · rw [hF.1 19 (by decide)]
        exact r4 k hk
      · unfold wpX9_renew_L208
        rw [nI_1]
        rintro _ rfl
        rw [e, if_pos rfl] at h
        refine ih (c + 1) τ1 (don ++ [(c + 1, pc c)]) (by omega) (by omega) (by rw [List.length_append, List.length_singleton]; omega) (fun q hq => ?_) ?_ (fun d d1 d2 d3 => ?_) (hF.tr g3) h
        · rcases List.mem_append.mp hq with hh | hh
          · exact hdn q hh
          · rw [List.mem_singleton.mp hh, hpc]
            show (pkU _ _ _).length ≤ 121
            rw [pkU_len]
            omega
        · rw [flL_app, hpc]
          have : flL [(c + 1, pkU (ksS (keyF y ep) (8 * b + 4 * p)) c (un c).1)] = pkC (c + 1, pkU (ksS (keyF y ep) (8 * b + 4 * p)) c (un c).1) := List.append_nil _
          rw [this]
          exact g1
        · rw [g2]
          unfold upd
          by_cases ed : d = c
          · rw [ed, if_pos rfl]
          · rw [if_neg (by omega)]
            exact h18 d d1 (by omega) d3
