/-! PURE: the reference: units come -/
def KyM (τ : Sg) (y ep : Int32) : Prop := (∀ k, k < 256 → τ 67 k = sbT k) ∧ τ 0 1 = y ∧ τ 0 3 = ep
def keyF (y ep : Int32) : Nat → Int32 := kF sbT y ep (fun _ => 0)
theorem KyM.of {τ τ' : Sg} {y ep : Int32} (h : KyM τ y ep) (h0 : τ' 0 = τ 0) (h67 : τ' 67 = τ 67) : KyM τ' y ep := by
  unfold KyM at *
  rw [h0, h67]
  exact h
theorem mstr_ok {τ : Sg} {p b n : Nat} {y ep count : Int32} {Q : Sg → Prop} (hK : KyM τ y ep) (hp : p < 2) (hb : b < 3) (hn : n ≤ 128) (h : ∀ τ' : Sg, (∀ k, k < n → τ' 71 k = ksI (keyF y ep) (8 * b + 4 * p) count k) → (∀ d, d ≠ 68 → d ≠ 69 → d ≠ 70 → d ≠ 71 → τ' d = τ d) → Q τ') : wpX9_makeStream (nI p) (nI b) count (nI n) τ Q := by
  obtain ⟨k1, k2, k3⟩ := hK
  have em : (8 * nI b : Int32) + (4 * nI p) = nI (8 * b + 4 * p) := by
    have e1 : (8 : Int32) * nI b = nI (8 * b) := pk_mul 8 b
    have e2 : (4 : Int32) * nI p = nI (4 * p) := pk_mul 4 p
    rw [e1, e2, nI_add]
  refine makeStream_ok hn (by rw [em]; exact ⟨8 * b + 4 * p, by omega, rfl⟩) (fun k hk => by rw [k1 k hk]; exact sbT_b hk) (fun τ' g1 g2 => h τ' (fun k hk => ?_) g2)
  rw [g1 k hk, em, k2, k3]
  unfold ksI
  refine ksb_congr k1 (fun j hj => ?_) (Nat.mod_lt _ (by decide))
  unfold keyF
  exact kF_congr k1 j hj
theorem andsub (a z : Int32) : ((a &&& 63) - z) &&& 63 = (a - z) &&& 63 := by
  apply Int32.toBitVec_inj.mp
  rw [Int32.toBitVec_and, Int32.toBitVec_and, Int32.toBitVec_sub, Int32.toBitVec_sub, Int32.toBitVec_and]
  show ((a.toBitVec &&& BitVec.ofNat 32 63) - z.toBitVec) &&& BitVec.ofNat 32 63 = (a.toBitVec - z.toBitVec) &&& BitVec.ofNat 32 63
  apply BitVec.eq_of_toNat_eq
  rw [BitVec.toNat_and, BitVec.toNat_and, BitVec.toNat_sub, BitVec.toNat_sub, BitVec.toNat_and, BitVec.toNat_ofNat]
  rw [show 63 % 2 ^ 32 = 2 ^ 6 - 1 from rfl, Nat.and_two_pow_sub_one_eq_mod, Nat.and_two_pow_sub_one_eq_mod, Nat.and_two_pow_sub_one_eq_mod]
  have h1 := a.toBitVec.isLt
  have h2 := z.toBitVec.isLt
  omega
def LV : List Nat := [51, 52, 54, 55, 58, 59]
theorem dv51 {i s : Nat} {lt : List Int32} {Q : Sg → Prop} {τ0 : Sg} (hi : i < 6) (hs : s < 192) (hl : lt.length ≤ 120) (h57 : ∀ k, k < lt.length → τ0 57 (120 * s + k) = lt.getD k 0) (h : ∀ τ' : Sg, τ' 51 i = τ0 51 i + 1 → τ' 54 i = smF lt lt.length 0 (τ0 54 i) → (∀ k, k < lt.length → τ' 58 (120 * i + k) = lt.getD k 0) → (∀ c j, c = 51 ∨ c = 54 → j ≠ i → τ' c j = τ0 c j) → (∀ j, j < 120 * i ∨ 120 * i + 120 ≤ j → τ' 58 j = τ0 58 j) → (∀ c, c ≠ 51 → c ≠ 54 → c ≠ 58 → τ' c = τ0 c) → Q τ') : ∀ (m k : Nat) (τ : Sg), k + m = lt.length → smF lt m k (τ 54 i) = smF lt lt.length 0 (τ0 54 i) → (∀ j, j < k → τ 58 (120 * i + j) = lt.getD j 0) → (∀ j, j ≠ i → τ 54 j = τ0 54 j) → (∀ j, j < 120 * i ∨ 120 * i + 120 ≤ j → τ 58 j = τ0 58 j) → (∀ c, c ≠ 54 → c ≠ 58 → τ c = τ0 c) → wpX9_deliver_L51 Q (m + 1) (nI i) (nI s) (nI lt.length) (nI k) τ := by
  intro m
  induction m with
  | zero =>
    intro k τ hk hsm h58 h54 ho58 ho
    have hk : k = lt.length := by omega
    subst hk
    unfold wpX9_deliver_L51
    rw [nI_clamp (n := i) (by omega)]
    refine brt (nI_le (Nat.le_refl _) (by omega)) ⟨vin rfl hi (by decide), vin rfl hi (by decide), ?_⟩
    rintro _ rfl
    refine h _ ?_ ?_ (fun j hj => ?_) (fun c j hc hj => ?_) (fun j hj => ?_) (fun c c1 c2 c3 => ?_)
    · rw [up2_e, if_pos ⟨rfl, rfl⟩, ho 51 (by decide) (by decide)]
    · rw [up2_o (by decide)]; exact hsm
    · rw [up2_o (by decide)]; exact h58 j hj
    · rcases hc with rfl | rfl
      · rw [up2_e, if_neg (fun hh => hj hh.2), ho 51 (by decide) (by decide)]
      · rw [up2_o (by decide)]; exact h54 j hj
    · rw [up2_o (by decide)]; exact ho58 j hj
    · rw [up2_o c1]; exact ho c c2 c3
  | succ m ih =>
    intro k τ hk hsm h58 h54 ho58 ho
    unfold wpX9_deliver_L51
    rw [i120, i120, nI_clamp (n := 120 * s + k) (by omega), nI_clamp (n := 120 * i + k) (by omega), nI_clamp (n := i) (by omega)]
    refine brf (nI_ge (by omega) (by omega)) ⟨vin rfl (by omega) (by decide), vin rfl (by omega) (by decide), ?_⟩
    rintro _ rfl
    refine ⟨vin rfl hi (by decide), vin rfl (by omega) (by decide), vin rfl hi (by decide), ?_⟩
    rw [up2_o (d := 54) (by decide), up2_o (d := 57) (by decide), ho 57 (by decide) (by decide), h57 k (by omega)]
    rintro _ rfl _ rfl
    rw [nI_1]
    refine ih (k + 1) _ (by omega) ?_ (fun j hj => ?_) (fun j hj => ?_) (fun j hj => ?_) (fun c c1 c2 => by rw [up2_o c1, up2_o c2, ho c c1 c2])
    · rw [up2_e, if_pos ⟨rfl, rfl⟩]
      rw [smF] at hsm
      exact hsm
    · rw [up2_o (by decide), up2_e]
      by_cases ej : j = k
      · rw [if_pos ⟨rfl, by omega⟩, ej]
      · rw [if_neg (by omega)]; exact h58 j (by omega)
    · rw [up2_e, if_neg (fun hh => hj hh.2), up2_o (by decide)]; exact h54 j hj
    · rw [up2_o (by decide), up2_e, if_neg (by omega)]; exact ho58 j hj
theorem deliver_ok {τ : Sg} {i : Nat} {r : Inr} {Q : Sg → Prop} (hi : i < 6) (hI : IbM τ i r) (hne : stNe r.2.2.2.2.2 (slot r.1) = true) (h : ∀ τ' : Sg, IbM τ' i (dlv1 r) → FrA LV i τ τ' → Q τ') : wpX9_deliver (nI i) (nI (32 * i + slot r.1)) τ Q := by
  obtain ⟨b1, b2, b3, b4, ⟨b5, b6, b7⟩, b8⟩ := hI
  have hsl := (slot_and r.1).1
  obtain ⟨q1, q2, q3, q4⟩ := b8 _ hsl
  have hpos : 0 < (r.2.2.2.2.2 (slot r.1)).length := of_decide_eq_true hne
  unfold wpX9_deliver
  rw [nI_clamp (n := 32 * i + slot r.1) (by omega), nI_clamp (n := i) (by omega)]
  refine ⟨vin rfl (by omega) (by decide), ?_⟩
  rintro _ rfl
  refine ⟨vin rfl (by omega) (by decide), ?_⟩
  rw [up2_o (d := 56) (by decide), q3 hpos]
  rintro _ rfl
  refine ⟨vin rfl hi (by decide), ?_⟩
  rintro _ rfl
  refine ⟨vin rfl hi (by decide), vin rfl hi (by decide), ?_⟩
  rw [up2_o (d := 52) (by decide), up2_o (d := 52) (by decide), b2]
  rintro _ rfl
  refine ⟨vin rfl hi (by decide), vin rfl hi (by decide), ?_⟩
  rw [up2_o (d := 54) (by decide), up2_o (d := 54) (by decide), up2_o (d := 54) (by decide), b4]
  rintro _ rfl
  generalize hτ : up2 (up2 (up2 (up2 τ 59 (32 * i + slot r.1) 0) 55 i (nI (r.2.2.2.2.2 (slot r.1)).length)) 52 i (r.2.1 + nI (r.2.2.2.2.2 (slot r.1)).length)) 54 i (31 * r.2.2.2.1 + nI (r.2.2.2.2.2 (slot r.1)).length) = τ1
  have t54 : τ1 54 i = 31 * r.2.2.2.1 + nI (r.2.2.2.2.2 (slot r.1)).length := by rw [← hτ, up2_e, if_pos ⟨rfl, rfl⟩]
  have t52 : τ1 52 i = r.2.1 + nI (r.2.2.2.2.2 (slot r.1)).length := by rw [← hτ, up2_o (by decide), up2_e, if_pos ⟨rfl, rfl⟩]
  have t55 : τ1 55 i = nI (r.2.2.2.2.2 (slot r.1)).length := by rw [← hτ, up2_o (by decide), up2_o (by decide), up2_e, if_pos ⟨rfl, rfl⟩]
  have t59 : ∀ j, τ1 59 j = if j = 32 * i + slot r.1 then 0 else τ 59 j := fun j => by
    rw [← hτ, up2_o (by decide), up2_o (by decide), up2_o (by decide), up2_e]
    simp
  have to : ∀ c, c ≠ 52 → c ≠ 54 → c ≠ 55 → c ≠ 59 → τ1 c = τ c := fun c c1 c2 c3 c4 => by rw [← hτ, up2_o c2, up2_o c1, up2_o c3, up2_o c4]
  have hF1 : FrA LV i τ τ1 := by
    rw [← hτ]
    exact (((FrA.rf.up (by decide) (fun _ => show (32 * i + slot r.1) / 32 = i by omega)).up (by decide) (fun _ => Nat.div_one i)).up (by decide) (fun _ => Nat.div_one i)).up (by decide) (fun _ => Nat.div_one i)
  clear hτ
  refine ⟨(r.2.2.2.2.2 (slot r.1)).length + 1, dv51 (lt := r.2.2.2.2.2 (slot r.1)) (τ0 := τ1) hi (by omega) q2 (fun k hk => by rw [to 57 (by decide) (by decide) (by decide) (by decide)]; exact q4 k hk) (fun τ2 g1 g2 g3 g4 g5 g6 => h τ2 ⟨?_, ?_, ?_, ?_, ⟨?_, q2, g3⟩, fun s hs => ?_⟩ (hF1.tr ⟨fun c hc => ?_, fun c k hc hk => ?_⟩)) (r.2.2.2.2.2 (slot r.1)).length 0 τ1 (by omega) rfl (fun j hj => by omega) (fun _ _ => rfl) (fun _ _ => rfl) (fun _ _ _ => rfl)⟩
  · rw [g1, to 51 (by decide) (by decide) (by decide) (by decide), b1]; rfl
  · rw [g6 52 (by decide) (by decide) (by decide), t52]; rfl
  · rw [g6 53 (by decide) (by decide) (by decide), to 53 (by decide) (by decide) (by decide) (by decide)]; exact b3
  · rw [g2, t54]; rfl
  · rw [g6 55 (by decide) (by decide) (by decide), t55]; rfl
  · show StM τ2 (32 * i + s) (lup r.2.2.2.2.2 (slot r.1) [] s)
    obtain ⟨z1, z2, z3, z4⟩ := b8 s hs
    unfold lup StM
    rw [g6 59 (by decide) (by decide) (by decide), g6 56 (by decide) (by decide) (by decide), g6 57 (by decide) (by decide) (by decide), t59, to 56 (by decide) (by decide) (by decide) (by decide), to 57 (by decide) (by decide) (by decide) (by decide)]
    by_cases e : s = slot r.1
    · subst e
      rw [if_pos rfl, if_pos rfl]
      exact ⟨rfl, by simp, fun hh => absurd hh (by simp), fun k hk => absurd hk (by simp)⟩
    · rw [if_neg (by omega), if_neg e]
      exact ⟨z1, z2, z3, z4⟩
  · simp only [LV, List.mem_cons, List.not_mem_nil, or_false, not_or] at hc
    exact g6 c hc.1 hc.2.2.1 hc.2.2.2.2.1
  · by_cases e : c = 51 ∨ c = 54
    · have hk : k / 1 ≠ i := by rcases e with rfl | rfl <;> exact hk
      rw [Nat.div_one] at hk
      exact g4 c k e hk
    · by_cases e8 : c = 58
      · subst e8
        have hk : k / 120 ≠ i := hk
        exact g5 k (by omega)
      · rw [g6 c (by omega) (by omega) e8]
theorem uc174 {i : Nat} {Q : Sg → Prop} {τ0 : Sg} (hi : i < 6) : ∀ (m : Nat) (τ : Sg) (r : Inr), cnt (stNe r.2.2.2.2.2) 0 32 ≤ m → IbM τ i r → FrA LV i τ0 τ → (∀ τ' : Sg, IbM τ' i (dlvN m r) → FrA LV i τ0 τ' → Q τ') → wpX9_unitComes_L174 Q (m + 1) (nI i) τ := by
  intro m
  induction m with
  | zero =>
    intro τ r hc hI hF h
    have hI0 := hI
    obtain ⟨b1, b2, b3, b4, b5, b8⟩ := hI
    obtain ⟨hs, es⟩ := slot_and r.1
    have hf : stNe r.2.2.2.2.2 (slot r.1) = false := cnt_none 32 (by omega) (slot r.1) (Nat.zero_le _) (by omega)
    unfold wpX9_unitComes_L174
    rw [nI_clamp (n := i) (by omega), b1, es, i32, nI_clamp (n := 32 * i + slot r.1) (by omega), (b8 _ hs).1]
    have hf2 : decide (0 < (r.2.2.2.2.2 (slot r.1)).length) = false := hf
    rw [hf2]
    exact ⟨vin rfl hi (by decide), vin rfl (by omega) (by decide), brt rfl (h τ hI0 hF)⟩
  | succ m ih =>
    intro τ r hc hI hF h
    have hI0 := hI
    obtain ⟨b1, b2, b3, b4, b5, b8⟩ := hI
    obtain ⟨hs, es⟩ := slot_and r.1
    unfold wpX9_unitComes_L174
    rw [nI_clamp (n := i) (by omega), b1, es, i32, nI_clamp (n := 32 * i + slot r.1) (by omega), (b8 _ hs).1]
    refine ⟨vin rfl hi (by decide), vin rfl (by omega) (by decide), br01 (fun e => ?_) (fun e => ⟨vin rfl hi (by decide), ?_⟩)⟩
    · refine h τ ?_ hF
      have e : stNe r.2.2.2.2.2 (slot r.1) = false := e
      unfold dlvN
      rw [if_neg (by rw [e]; decide)]
      exact hI0
    · have e : stNe r.2.2.2.2.2 (slot r.1) = true := e
      refine deliver_ok hi hI0 e (fun τ1 g1 g2 => ih τ1 (dlv1 r) ?_ g1 (hF.tr g2) (fun τ2 k1 k2 => h τ2 ?_ k2))
      · show cnt (stNe (lup r.2.2.2.2.2 (slot r.1) [])) 0 32 ≤ m
        rw [stNe_lup]
        have := cnt_bup (f := stNe r.2.2.2.2.2) (v := decide (0 < ([] : List Int32).length)) (a := 0) 32 (Nat.zero_le (slot r.1)) (by omega)
        rw [e] at this
        have this : cnt (bup (stNe r.2.2.2.2.2) (slot r.1) (decide (0 < ([] : List Int32).length))) 0 32 + 1 = cnt (stNe r.2.2.2.2.2) 0 32 + 0 := this
        omega
      · rw [dlvN, if_pos e]
        exact k1
def LY : List Nat := [51, 52, 53, 54, 55, 56, 57, 58, 59, 68, 69, 70, 71]
theorem FrA.sub {L L' : List Nat} {i : Nat} {τ τ' : Sg} (h : FrA L i τ τ') (hl : L.all (fun c => L'.contains c) = true) : FrA L' i τ τ' := h.mono (fun c hc => by
  rw [List.all_eq_true] at hl
  have := hl c hc
  rw [List.contains_iff_mem] at this
  exact this)
theorem unitComes_ok {τ : Sg} {p b i : Nat} {y ep : Int32} {r : Inr} {pk : List Int32} {Q : Sg → Prop} (hp : p < 2) (hb : b < 3) (hip : i = 3 * p + b) (hK : KyM τ y ep) (hI : IbM τ i r) (hpk : pkOK pk) (hP : ∀ k, k < pk.length → τ 50 (256 * i + k) = pk.getD k 0) (h : ∀ τ' : Sg, IbM τ' i (untR (ksI (keyF y ep) (8 * b + 4 * (1 - p))) r pk) → FrA LY i τ τ' → Q τ') : wpX9_unitComes (nI p) (nI b) (nI pk.length) τ Q := by
  have hi : i < 6 := by omega
  have hI0 := hI
  obtain ⟨b1, b2, b3, b4, b5, b8⟩ := hI
  obtain ⟨k1, k2, k3, k4⟩ := hpk
  have hat : (3 : Int32) * nI p + nI b = nI i := by
    have : (3 : Int32) * nI p = nI (3 * p) := pk_mul 3 p
    rw [this, nI_add, hip]
  have e256 : (256 : Int32) * nI i = nI (256 * i) := pk_mul 256 i
  unfold wpX9_unitComes wpX9_at
  rw [hat]
  dsimp only
  rw [nI_clamp (n := i) (by omega), b1]
  refine ⟨vin rfl hi (by decide), ?_⟩
  rintro _ rfl
  rw [e256, nI_clamp (n := 256 * i) (by omega)]
  have p0 : τ 50 (256 * i) = pk.getD 0 0 := by have := hP 0 (by omega); rw [Nat.add_zero] at this; exact this
  rw [p0, andsub]
  refine ⟨vin rfl (by omega) (by decide), ?_⟩
  have em : (r.1 - 32) + ((pk.getD 0 0 - (r.1 - 32)) &&& 63) = mnt r (pk.getD 0 0) := rfl
  rw [em]
  have eu : untR (ksI (keyF y ep) (8 * b + 4 * (1 - p))) r pk = if dbl r (mnt r (pk.getD 0 0)) = true then dbR r else dlvN 32 (stoR r (slot (mnt r (pk.getD 0 0))) (xrL (ksI (keyF y ep) (8 * b + 4 * (1 - p)) (mnt r (pk.getD 0 0))) 0 pk.tail)) := rfl
  rw [eu] at h
  generalize mnt r (pk.getD 0 0) = x at *
  intro x6 hx6
  rw [hx6]
  clear hx6
  obtain ⟨hs, es⟩ := slot_and x
  rw [es, i32]
  rintro _ rfl
  rw [nI_clamp (n := 32 * i + slot x) (by omega)]
  have L77 : dbl r x = true → wpX9_unitComes_L77 Q (nI i) τ := by
    intro ed
    rw [if_pos ed] at h
    unfold wpX9_unitComes_L77
    rw [nI_clamp (n := i) (by omega)]
    refine ⟨vin rfl hi (by decide), vin rfl hi (by decide), ?_⟩
    rintro _ rfl
    refine h _ ⟨?_, ?_, ?_, ?_, ?_, fun s hs9 => ?_⟩ (FrA.rf.up (by decide) (fun _ => Nat.div_one i))
    · rw [up2_o (by decide)]; exact b1
    · rw [up2_o (by decide)]; exact b2
    · rw [up2_e, if_pos ⟨rfl, rfl⟩, b3]; rfl
    · rw [up2_o (by decide)]; exact b4
    · rw [up2_o (by decide), up2_o (by decide)]; exact b5
    · unfold StM
      rw [up2_o (by decide), up2_o (by decide), up2_o (by decide)]
      exact b8 s hs9
  refine ⟨fun hlt => L77 (by unfold dbl; simp [hlt]), fun hlt => ⟨vin rfl (by omega) (by decide), ?_⟩⟩
  obtain ⟨q1, q2, q3, q4⟩ := b8 _ hs
  rw [q1]
  refine br01 (fun e => ?_) (fun e => L77 ?_)
  · have hn : stNe r.2.2.2.2.2 (slot x) = false := e
    have ed : dbl r x = false := by
      unfold dbl
      rw [hn]
      simpa using hlt
    rw [ed, if_neg (by decide)] at h
    have htl : pk.tail.length = pk.length - 1 := List.length_tail
    have e1p : (1 : Int32) - nI p = nI (1 - p) := by
      have : nI 1 - nI p = nI (1 - p) := pk_sub (by omega)
      exact this
    have en1 : nI pk.length - 1 = nI (pk.length - 1) := pk_sub (a := pk.length) (b := 1) (by omega)
    rw [e1p, en1]
    refine mstr_ok hK (by omega) hb (by omega) (fun τ1 g1 g2 => ?_)
    have u1 : ∀ c, c ≤ 67 → τ1 c = τ c := fun c hc => g2 c (by omega) (by omega) (by omega) (by omega)
    refine ⟨vin rfl (by omega) (by decide), ?_⟩
    rintro _ rfl
    refine ⟨vin rfl (by omega) (by decide), ?_⟩
    rintro _ rfl
    generalize hτ : up2 (up2 τ1 59 (32 * i + slot x) 1) 56 (32 * i + slot x) (nI (pk.length - 1)) = τ2
    have t56 : ∀ j, τ2 56 j = if j = 32 * i + slot x then nI (pk.length - 1) else τ 56 j := fun j => by
      rw [← hτ, up2_e, up2_o (by decide), u1 56 (by decide)]
      simp
    have t59 : ∀ j, τ2 59 j = if j = 32 * i + slot x then 1 else τ 59 j := fun j => by
      rw [← hτ, up2_o (by decide), up2_e, u1 59 (by decide)]
      simp
    have to : ∀ c, c ≠ 56 → c ≠ 59 → τ2 c = τ1 c := fun c c1 c2 => by rw [← hτ, up2_o c1, up2_o c2]
    have hF2 : FrA LY i τ τ2 := by
      refine ⟨fun c hc => ?_, fun c k hc hk => ?_⟩
      · simp only [LY, List.mem_cons, List.not_mem_nil, or_false, not_or] at hc
        rw [to c hc.2.2.2.2.2.1 hc.2.2.2.2.2.2.2.2.1]
        exact g2 c (by omega) (by omega) (by omega) (by omega)
      · by_cases e6 : c = 56
        · subst e6
          have hk : k / 32 ≠ i := hk
          rw [t56, if_neg (by omega)]
        · by_cases e9 : c = 59
          · subst e9
            have hk : k / 32 ≠ i := hk
            rw [t59, if_neg (by omega)]
          · rw [to c e6 e9, u1 c (by omega)]
    clear hτ
    -- the bytes
    have L123 : ∀ (m k : Nat) (τ3 : Sg), k + 1 + m = pk.length → (∀ j, j < k → τ3 57 (120 * (32 * i + slot x) + j) = (xrL (ksI (keyF y ep) (8 * b + 4 * (1 - p)) x) 0 pk.tail).getD j 0) → (∀ j, j < 120 * (32 * i + slot x) ∨ 120 * (32 * i + slot x) + 120 ≤ j → τ3 57 j = τ 57 j) → (∀ c, c ≠ 57 → τ3 c = τ2 c) → wpX9_unitComes_L123 Q (m + 1) (nI pk.length) (nI i) (nI (32 * i + slot x)) (nI k) τ3 := by
      intro m
      induction m with
      | zero =>
        intro k τ3 hk h57 ho57 ho
        unfold wpX9_unitComes_L123
        rw [nI_1]
        refine brt (nI_le (by omega) (by omega)) ?_
        have hI3 : IbM τ3 i (stoR r (slot x) (xrL (ksI (keyF y ep) (8 * b + 4 * (1 - p)) x) 0 pk.tail)) := by
          refine ⟨by rw [ho 51 (by decide), to 51 (by decide) (by decide), u1 51 (by decide)]; exact b1, by rw [ho 52 (by decide), to 52 (by decide) (by decide), u1 52 (by decide)]; exact b2, by rw [ho 53 (by decide), to 53 (by decide) (by decide), u1 53 (by decide)]; exact b3, by rw [ho 54 (by decide), to 54 (by decide) (by decide), u1 54 (by decide)]; exact b4, ⟨by rw [ho 55 (by decide), to 55 (by decide) (by decide), u1 55 (by decide)]; exact b5.1, b5.2.1, fun k hk9 => by rw [ho 58 (by decide), to 58 (by decide) (by decide), u1 58 (by decide)]; exact b5.2.2 k hk9⟩, fun s hs9 => ?_⟩
          show StM τ3 (32 * i + s) (lup r.2.2.2.2.2 (slot x) (xrL (ksI (keyF y ep) (8 * b + 4 * (1 - p)) x) 0 pk.tail) s)
          unfold StM lup
          rw [ho 59 (by decide), ho 56 (by decide), t59, t56]
          by_cases e9 : s = slot x
          · subst e9
            rw [if_pos rfl, if_pos rfl, if_pos rfl, xrL_len, htl]
            refine ⟨?_, by omega, fun _ => rfl, fun k hk9 => h57 k (by omega)⟩
            rw [decide_eq_true (by omega)]
            rfl
          · have e99 : ¬ 32 * i + s = 32 * i + slot x := by omega
            rw [if_neg e99, if_neg e9, if_neg e99]
            obtain ⟨z1, z2, z3, z4⟩ := b8 s hs9
            refine ⟨z1, z2, z3, fun k hk9 => ?_⟩
            rw [ho57 _ (by omega)]
            exact z4 k hk9
        refine ⟨33, uc174 (τ0 := τ3) hi 32 τ3 _ (cnt_le 32) hI3 FrA.rf (fun τ4 q1 q2 => h τ4 q1 ((hF2.tr ⟨fun c hc => ho c (fun e9 => hc (by rw [e9]; decide)), fun c k hc hk => ?_⟩).tr (q2.mono (by decide))))⟩
        by_cases e7 : c = 57
        · subst e7
          have hk : k / 3840 ≠ i := hk
          rw [ho57 k (by omega), to 57 (by decide) (by decide), u1 57 (by decide)]
        · rw [ho c e7]
      | succ m ih =>
        intro k τ3 hk h57 ho57 ho
        unfold wpX9_unitComes_L123
        rw [nI_1]
        have e5 : (((256 : Int32) * nI i) + 1) + nI k = nI (256 * i + 1 + k) := by
          rw [e256, nI_1, nI_add]
        rw [e5, i120, nI_clamp (n := 256 * i + 1 + k) (by omega), nI_clamp (n := k) (by omega), nI_clamp (n := 120 * (32 * i + slot x) + k) (by omega)]
        refine brf (nI_ge (by omega) (by omega)) ⟨vin rfl (by omega) (by decide), vin rfl (by omega) (by decide), vin rfl (by omega) (by decide), ?_⟩
        rw [ho 50 (by decide), to 50 (by decide) (by decide), u1 50 (by decide), show 256 * i + 1 + k = 256 * i + (k + 1) by omega, hP (k + 1) (by omega), ho 71 (by decide), to 71 (by decide) (by decide), g1 k (by omega)]
        rintro _ rfl _ rfl
        refine ih (k + 1) _ (by omega) (fun j hj => ?_) (fun j hj => ?_) (fun c hc => by rw [up2_o hc, ho c hc])
        · rw [up2_e]
          by_cases ej : j = k
          · subst ej
            rw [if_pos ⟨rfl, rfl⟩, xrL_get _ _ _ (by omega), tail_getD, Nat.zero_add]
          · rw [if_neg (by omega)]; exact h57 j (by omega)
        · rw [up2_e, if_neg (by omega)]; exact ho57 j hj
    exact ⟨pk.length - 1 + 1, L123 (pk.length - 1) 0 τ2 (by omega) (fun j hj => by omega) (fun j hj => by rw [to 57 (by decide) (by decide), u1 57 (by decide)]) (fun _ _ => rfl)⟩
  · unfold dbl
    have e : stNe r.2.2.2.2.2 (slot x) = true := e
    rw [e, Bool.or_true]
