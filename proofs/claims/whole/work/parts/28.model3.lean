/-! PURE: InitM -/
theorem up2_vu {σ : Sg} {a b k : Nat} {v : Int32} {r : Nat → Int32} (h : b ≠ a) : up2 (va_up σ a r) b k v = va_up (up2 σ b k v) a r := by
  funext d j
  by_cases e : d = b
  · subst e
    simp [up2, va_up, h]
  · by_cases e2 : d = a
    · subst e2
      simp [up2, va_up, e]
    · simp [up2, va_up, e, e2]
def ms1 (B : Nat) (y : Int32) : Sg := up2 (up2 (fun _ _ => 0) 0 0 (nI B)) 0 1 y
def ms2 (B : Nat) (y : Int32) : Sg := va_up (ms1 B y) 14 (rowf 3 16 (ms1 B y 14))
def ms3 (σ : Sg) (i : Nat) : Sg := va_up (va_up (va_up σ 49 (rowf i (-1) (σ 49))) 39 (rowf i (-1) (σ 39))) 6 (rowf i (-1) (σ 6))
def ms4 (σ : Sg) : Sg := va_up σ 44 (rowf 192 (-1) (σ 44))
def ms5 (σ : Sg) : Sg := up2 (up2 σ 64 0 (-1)) 64 1 (-1)
def msF (B : Nat) (y : Int32) : Sg := va_up (ms5 (ms4 (ms3 (ms2 B y) 6))) 67 (boxR ((ms5 (ms4 (ms3 (ms2 B y) 6))) 67) 256)
def INM (x y : Int32) (τ : Sg) : Prop := ∃ B : Nat, 1 ≤ B ∧ B ≤ 3 ∧ (if x < 1 ∨ 3 < x then 2 else x) = nI B ∧ τ = msF B y
theorem vin0 {N : Nat} (h : 0 < N) (hN : N < 2 ^ 31) : vp_in 0 N := vp_in_nI (n := 0) h hN
theorem vin1 {N : Nat} (h : 1 < N) (hN : N < 2 ^ 31) : vp_in 1 N := vp_in_nI (n := 1) h hN
theorem m687 {kA : Nat → ClassId} {Q : GG → Sg → Prop} {G : GG} {σ : Sg} {k j : Nat} (hG : isModel G) (hk : k ≤ 72) (hj : j ≤ 459009) (hQ : Q G (va_up (ms5 (ms4 σ)) 67 (boxR ((ms5 (ms4 σ)) 67) 256))) : ∀ (m i : Nat), i + m = 192 → wpX9_init_L687 kA Q (m + 1) (ga G 0) (nI i) G (va_up σ 44 (rowf i (-1) (σ 44))) k j := by
  intro m
  induction m with
  | zero =>
    intro i hi
    have e : i = 192 := by omega
    subst e
    unfold wpX9_init_L687
    refine ⟨fun _ => ⟨0, _, ga G 64, rfl, hG.1, rfl, 64, 2, rfl, mA64 hG, vin0 (by decide) (by decide), ?_⟩, fun hc => absurd (by decide) hc⟩
    rintro _ rfl
    refine ⟨0, _, ga G 64, rfl, hG.1, rfl, 64, 2, rfl, mA64 hG, vin1 (by decide) (by decide), ?_⟩
    rintro _ rfl
    exact ⟨hk, hj, 0, rfl, rfl, hG, makeBox_ok ⟨hk, hj, hQ⟩⟩
  | succ m ih =>
    intro i hi
    unfold wpX9_init_L687
    refine ⟨fun hc => absurd hc (nI_ge (a := i) (b := 192) (by omega) (by decide)), fun _ => ⟨0, _, ga G 44, rfl, hG.1, rfl, 44, 192, rfl, mA44 hG, vp_in_nI (by omega) (by decide), ?_⟩⟩
    rintro _ rfl _ rfl
    rw [nI_clamp (by omega), up2_up, rowf_up, nI_1]
    exact ih (i + 1) (by omega)
theorem m652 {kA : Nat → ClassId} {Q : GG → Sg → Prop} {G : GG} {σ : Sg} {k j : Nat} (hG : isModel G) (hk : k ≤ 72) (hj : j ≤ 459009) (hQ : Q G (va_up (ms5 (ms4 (ms3 σ 6))) 67 (boxR ((ms5 (ms4 (ms3 σ 6))) 67) 256))) : ∀ (m i : Nat), i + m = 6 → wpX9_init_L652 kA Q (m + 1) (ga G 0) (nI i) G (ms3 σ i) k j := by
  intro m
  induction m with
  | zero =>
    intro i hi
    have e : i = 6 := by omega
    subst e
    unfold wpX9_init_L652
    refine ⟨fun _ => ⟨193, ?_⟩, fun hc => absurd (by decide) hc⟩
    have := m687 (kA := kA) (Q := Q) (σ := ms3 σ 6) hG hk hj hQ 192 0 (by omega)
    rw [rowf_0, vu_id] at this
    exact this
  | succ m ih =>
    intro i hi
    unfold wpX9_init_L652
    refine ⟨fun hc => absurd hc (nI_ge (a := i) (b := 6) (by omega) (by decide)), fun _ => ⟨0, _, ga G 49, rfl, hG.1, rfl, 49, 6, rfl, mA49 hG, vp_in_nI (by omega) (by decide), ?_⟩⟩
    rintro _ rfl
    refine ⟨0, _, ga G 39, rfl, hG.1, rfl, 39, 6, rfl, mA39 hG, vp_in_nI (by omega) (by decide), ?_⟩
    rintro _ rfl
    refine ⟨0, _, ga G 6, rfl, hG.1, rfl, 6, 6, rfl, mA6 hG, vp_in_nI (by omega) (by decide), ?_⟩
    rintro _ rfl _ rfl
    rw [nI_clamp (by omega), nI_1]
    have e : up2 (up2 (up2 (ms3 σ i) 49 i (-1)) 39 i (-1)) 6 i (-1) = ms3 σ (i + 1) := by
      unfold ms3
      rw [up2_vu (by decide), up2_vu (by decide), up2_up, rowf_up, up2_vu (by decide), up2_up, rowf_up, up2_up, rowf_up]
    rw [e]
    exact ih (i + 1) (by omega)
theorem m631 {kA : Nat → ClassId} {Q : GG → Sg → Prop} {G : GG} {B : Nat} {y : Int32} {k j : Nat} (hG : isModel G) (hk : k ≤ 72) (hj : j ≤ 459009) (hQ : Q G (msF B y)) : ∀ (m i : Nat), i + m = 3 → wpX9_init_L631 kA Q (m + 1) (ga G 0) (nI i) G (va_up (ms1 B y) 14 (rowf i 16 (ms1 B y 14))) k j := by
  intro m
  induction m with
  | zero =>
    intro i hi
    have e : i = 3 := by omega
    subst e
    unfold wpX9_init_L631
    refine ⟨fun _ => ⟨7, ?_⟩, fun hc => absurd (by decide) hc⟩
    have := m652 (kA := kA) (Q := Q) (σ := ms2 B y) hG hk hj hQ 6 0 (by omega)
    rw [show ms3 (ms2 B y) 0 = ms2 B y from by unfold ms3; rw [rowf_0, rowf_0, rowf_0, vu_id, show (ms2 B y) 39 = ms2 B y 39 from rfl, vu_id, vu_id]] at this
    exact this
  | succ m ih =>
    intro i hi
    unfold wpX9_init_L631
    refine ⟨fun hc => absurd hc (nI_ge (a := i) (b := 3) (by omega) (by decide)), fun _ => ⟨0, _, ga G 14, rfl, hG.1, rfl, 14, 3, rfl, mA14 hG, vp_in_nI (by omega) (by decide), ?_⟩⟩
    rintro _ rfl _ rfl
    rw [nI_clamp (by omega), up2_up, rowf_up, nI_1]
    exact ih (i + 1) (by omega)
theorem m621 {kA : Nat → ClassId} {Q : GG → Sg → Prop} {G : GG} {B a0 : Nat} {y : Int32} (hG : isModel G) (ha : ga G 0 = a0) (hQ : Q G (msF B y)) : wpX9_init_L621 kA Q a0 y (nI B) a0 G (fun _ _ => 0) 72 459009 := by
  subst ha
  unfold wpX9_init_L621
  refine ⟨0, _, rfl, hG.1, rfl, ?_⟩
  rintro _ rfl
  refine ⟨0, _, rfl, hG.1, rfl, ?_⟩
  rintro _ rfl
  refine ⟨4, ?_⟩
  have := m631 (kA := kA) (Q := Q) (B := B) (y := y) (k := 72) (j := 459009) hG (by decide) (by decide) hQ 3 0 (by omega)
  rw [rowf_0, vu_id] at this
  exact this
theorem bear {x : Int32} (hc : ¬ x < 1) (hd : x ≤ 3) : ∃ B : Nat, 1 ≤ B ∧ B ≤ 3 ∧ x = nI B ∧ (if x < 1 ∨ 3 < x then (2 : Int32) else x) = nI B := by
  have h1 : ¬ x < 0 := fun h => hc (by
    rw [Int32.lt_iff_toInt_lt] at h ⊢
    have e0 : (0 : Int32).toInt = 0 := rfl
    have e1 : (1 : Int32).toInt = 1 := rfl
    omega)
  obtain ⟨B, hB, eB⟩ := nI_of2 (x := x) (M := 3) (n := 3) rfl h1 hd
  have hB1 : 1 ≤ B := by
    rcases Nat.eq_zero_or_pos B with z | z
    · exact absurd (by rw [eB, z]; decide) hc
    · exact z
  refine ⟨B, hB1, hB, eB, ?_⟩
  have hne : ¬ (x < 1 ∨ 3 < x) := by
    rintro (h | h)
    · exact hc h
    · rw [Int32.lt_iff_toInt_lt] at h
      rw [Int32.le_iff_toInt_le] at hd
      omega
  rw [if_neg hne]
  exact eB
theorem initM_ok : InitM INM := by
  intro kA G a0 x y Q hn ha hs hk hQ
  refine mch0 (G0 := G) (Mid.zero (c0 := 0) hk hn hs) ha (fun G1 hM => ?_)
  have hG := Mid_model hM
  have ha1 : ga G1 0 = a0 := hM.a.trans ha
  unfold wpX9_init_L605
  refine ⟨fun hc => ?_, fun hc => ⟨fun hd => ?_, fun hd => ?_⟩⟩
  · unfold wpX9_init_L616
    exact m621 (B := 2) hG ha1 (hQ G1 _ hG ha1 ⟨2, by omega, by omega, by rw [if_pos (Or.inl hc)]; rfl, rfl⟩)
  · obtain ⟨B, h1, h2, h3, h4⟩ := bear hc hd
    have := m621 (kA := kA) (Q := Q) (B := B) (y := y) hG ha1 (hQ G1 _ hG ha1 ⟨B, h1, h2, h4, rfl⟩)
    rw [← h3] at this
    exact this
  · unfold wpX9_init_L616
    have h3 : 3 < x := by
      rw [Int32.lt_iff_toInt_lt]
      rw [Int32.le_iff_toInt_le] at hd
      omega
    exact m621 (B := 2) hG ha1 (hQ G1 _ hG ha1 ⟨2, by omega, by omega, by rw [if_pos (Or.inr h3)]; rfl, rfl⟩)
