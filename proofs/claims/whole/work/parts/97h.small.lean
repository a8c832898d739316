/-! PURE: process, block, end, rate, feed -/
theorem st_process : St_process Rel := by
  intro n P σ τ a b c hn hR
  have hup := Rel_up hR
  obtain ⟨B, y, tk, tp, M, hB1, hB3, hP, hC, hM, hI, htp, htb⟩ := hR
  have no : (a < 0 ∨ 1 < a ∨ b < 0 ∨ ¬ b < 4) → wpX9_process a b c τ (fun q τ1 => -1 = q ∧ Rel (n + 1) P σ τ1) := by
    intro h
    unfold wpX9_process
    refine ⟨fun _ => ⟨rfl, hup⟩, fun h1 => ⟨fun _ => ⟨rfl, hup⟩, fun h2 => ⟨fun _ => ⟨rfl, hup⟩, fun h3 => ⟨fun h4 => ?_, fun _ => ⟨rfl, hup⟩⟩⟩⟩⟩
    rcases h with h | h | h | h
    · exact absurd h h1
    · exact absurd h h2
    · exact absurd h h3
    · exfalso
      apply h
      rw [lt_i]
      show b.toInt < (4 : Int)
      have h9 : ¬ (3 : Int32) < b := Int32.not_lt.mpr h4
      rw [lt_i] at h9
      have h9 : ¬ (3 : Int) < b.toInt := h9
      omega
  unfold wpX8_process
  refine ⟨fun h1 => no (Or.inl h1), fun h1 => ⟨fun h2 => no (Or.inr (Or.inl h2)), fun h2 => ⟨fun h3 => no (Or.inr (Or.inr (Or.inl h3))), fun h3 => ⟨fun h4 => ?_, fun h4 => no (Or.inr (Or.inr (Or.inr h4)))⟩⟩⟩⟩
  obtain ⟨p, hp, rfl⟩ := nI_of2 (M := 1) (n := 1) rfl h1 (Int32.not_lt.mp h2)
  have h5 : b ≤ 3 := by
    refine Int32.not_lt.mp (fun h9 => ?_)
    have h9 := lt_i.mp h9
    have h4 := lt_i.mp h4
    have h9 : (3 : Int) < b.toInt := h9
    have h4 : b.toInt < (4 : Int) := h4
    omega
  obtain ⟨k, hk, rfl⟩ := nI_of2 (M := 3) (n := 3) rfl h3 h5
  have hj : 4 * p + k < 8 := by omega
  have ej : (nI p * 4) + nI k = nI (4 * p + k) := by
    have : nI p * 4 = nI (p * 4) := pk_mul p 4
    rw [this, nI_add]
    congr 1
    omega
  have ej2 : (4 * nI p) + nI k = nI (4 * p + k) := by
    have : 4 * nI p = nI (4 * p) := pk_mul 4 p
    rw [this, nI_add]
  rw [ej, nI_clamp (n := 4 * p + k) (by omega)]
  refine ⟨vin rfl hj (by decide), ?_⟩
  rintro _ rfl
  obtain ⟨c1, c2, c3, c4⟩ := hC.2.2.2.2.2.2.2.1 _ hj
  rw [← hP] at c1 c2 c3
  obtain ⟨d1, d2⟩ := hM.2.1 _ hj
  obtain ⟨q1, q2, q3, q4⟩ := hI.1.2.2 _ hj
  rw [c1, c2, c3]
  generalize M.2.2.1 (4 * p + k) = cc at *
  -- the reference
  have ref : ∀ (Q : Int32 → Sg → Prop), (∀ z : Bool, z = decide (0 < cc.1) → wpX9_process_L42 Q c (nI (4 * p + k)) (b01 z) τ) → wpX9_process (nI p) (nI k) c τ Q := by
    intro Q hq
    unfold wpX9_process
    refine brf (nI_pos (by omega)) (brf (nI_nlt (a := 1) (b := p) hp (by decide)) (brf (nI_pos (by omega)) (brt (nI_le (a := k) (b := 3) hk (by decide)) ?_)))
    rw [ej2]
    rintro _ rfl
    rw [nI_clamp (n := 4 * p + k) (by omega), d1]
    refine ⟨vin rfl hj (by decide), pk_le cc.1 0 (fun hh => ?_) (fun hh => ?_)⟩
    · exact hq false (decide_eq_false (by omega)).symm
    · exact hq true (decide_eq_true (by omega)).symm
  refine ⟨fun h => ?_, fun h => ?_, fun h => ?_, fun h => ?_⟩
  · subst h
    refine ref _ (fun z hz => ?_)
    unfold wpX9_process_L42
    rw [nI_clamp (n := 4 * p + k) (by omega), d1]
    exact ⟨fun _ => ⟨vin rfl hj (by decide), rfl, hup⟩, fun h => absurd h (by decide), fun h => absurd h (by decide), fun h => absurd (Or.inl rfl) h⟩
  · subst h
    refine ref _ (fun z hz => ?_)
    unfold wpX9_process_L42
    refine ⟨fun h => absurd h (by decide), fun _ => br01 (fun ez => ?_) (fun ez => ⟨vin rfl hj (by decide), ?_⟩), fun h => absurd h (by decide), fun h => absurd (Or.inr (Or.inl rfl)) h⟩
    · rw [ez] at hz
      have := of_decide_eq_false hz.symm
      rw [(q2 (by omega)).1]
      exact ⟨rfl, hup⟩
    · rw [ez] at hz
      have := of_decide_eq_true hz.symm
      rw [nI_clamp (n := 4 * p + k) (by omega), (d2 this).1]
      exact ⟨rfl, hup⟩
  · subst h
    -- whether it has come
    have key : ∀ v : Int32, v = b01 cc.2.2.1 → wpX9_process (nI p) (nI k) 2 τ (fun q τ1 => v = q ∧ Rel (n + 1) P σ τ1) := by
      intro v hv
      refine ref _ (fun z hz => ?_)
      unfold wpX9_process_L42
      refine ⟨fun h => absurd h (by decide), fun h => absurd h (by decide), fun _ => br01 (fun ez => ?_) (fun ez => ⟨vin rfl hj (by decide), ?_⟩), fun h => absurd (Or.inr (Or.inr rfl)) h⟩
      · rw [ez] at hz
        have := of_decide_eq_false hz.symm
        rw [(q2 (by omega)).2] at hv
        exact ⟨hv, hup⟩
      · rw [ez] at hz
        have := of_decide_eq_true hz.symm
        rw [nI_clamp (n := 4 * p + k) (by omega), (d2 this).2.1]
        refine br01 (fun e => ?_) (fun e => ?_)
        · rw [e] at hv
          exact ⟨hv, hup⟩
        · rw [e] at hv
          exact ⟨hv, hup⟩
    refine br01 (fun e => key 0 ?_) (fun e => key 1 ?_)
    · rw [e]; rfl
    · rw [e]; rfl
  · refine ref _ (fun z hz => ?_)
    unfold wpX9_process_L42
    exact ⟨fun h9 => absurd (Or.inl h9) h, fun h9 => absurd (Or.inr (Or.inl h9)) h, fun h9 => absurd (Or.inr (Or.inr h9)) h, fun _ => ⟨rfl, hup⟩⟩
theorem st_block : St_block Rel := by
  intro n P σ τ a b hn hR
  have hup := Rel_up hR
  obtain ⟨B, y, tk, tp, M, hB1, hB3, hP, hC, hM, hI, htp, htb⟩ := hR
  have htk := hI.2.1
  unfold wpX8_block
  have no1 : (a < 0 ∨ 1 < a) → wpX9_block a b τ (fun q τ1 => -1 = q ∧ Rel (n + 1) P σ τ1) := by
    intro h
    unfold wpX9_block
    refine ⟨fun _ => ⟨rfl, hup⟩, fun h1 => ⟨fun _ => ⟨rfl, hup⟩, fun h2 => ?_⟩⟩
    rcases h with h | h
    · exact absurd h h1
    · exact absurd h h2
  refine ⟨fun h1 => no1 (Or.inl h1), fun h1 => ⟨fun h2 => no1 (Or.inr h2), fun h2 => ?_⟩⟩
  obtain ⟨p, hp, rfl⟩ := nI_of2 (M := 1) (n := 1) rfl h1 (Int32.not_lt.mp h2)
  have hp2 : p < 2 := by omega
  have hj := pj_lt (tk := tk) hp2
  obtain ⟨s1, s2⟩ := hI.2.2.2 p hp2
  obtain ⟨t1, t2⟩ := hM.2.2.1 p hp2
  have cs := hC.2.2.2.2.2.2.2.2 p hp2
  have c9 := hC.2.2.1
  have hair := (hC.2.2.2.2.2.2.2.1 _ hj).2.2.2
  rw [← hP] at hair
  rw [nI_clamp (n := p) (by omega), cs]
  -- the reference
  have ref : ∀ (Q : Int32 → Sg → Prop), ((M.2.2.2.1 p = 0 → Q (-1) τ) ∧ (¬ M.2.2.2.1 p = 0 → ((b < (-1) → Q (-1) τ) ∧ (¬ (b < (-1)) → ((b < nI (M.2.2.2.1 p) → ((0 ≤ b → (vp_in ((250 * nI p) + b) 500 ∧ Q (τ 65 ((250 * nI p) + b).toNatClampNeg) τ)) ∧ (¬ (0 ≤ b) → Q (nI (M.2.2.2.1 p)) τ))) ∧ (¬ (b < nI (M.2.2.2.1 p)) → Q (-1) τ)))))) → wpX9_block (nI p) b τ Q := by
    intro Q hq
    unfold wpX9_block
    rw [nI_clamp (n := p) (by omega), t1]
    refine brf (nI_pos (by omega)) (brf (nI_nlt (a := 1) (b := p) hp (by decide)) ⟨vin rfl hp2 (by decide), ?_⟩)
    by_cases hz : M.2.2.2.1 p = 0
    · rw [if_pos hz]
      exact brt rfl (hq.1 hz)
    · rw [if_neg hz]
      obtain ⟨k1, k2⟩ := hq.2 hz
      refine brf (neg1 (by omega)) ⟨k1, fun h3 => ⟨vin rfl hp2 (by decide), fun h4 => ⟨(k2 h3).1 h4 |>.1, fun h5 => ⟨vin rfl hp2 (by decide), (k2 h3).1 h4 |>.2 h5⟩⟩, (k2 h3).2⟩⟩
  refine ⟨vin rfl hp2 (by decide), fun hz => ?_, fun hz => ?_⟩
  · have hz : ¬ M.2.2.2.1 p = 0 := fun hh => hz (by rw [hh]; rfl)
    refine ⟨fun hb1 => ⟨fun hb0 => ref _ ⟨fun h9 => absurd h9 hz, fun _ => ⟨fun _ => ⟨rfl, hup⟩, fun h9 => ?_⟩⟩, fun hb0 => ⟨vin rfl hp2 (by decide), fun hl => ?_, fun hl => ref _ ⟨fun h9 => absurd h9 hz, fun _ => ⟨fun h9 => ?_, fun _ => ⟨fun h9 => absurd h9 hl, fun _ => ⟨rfl, hup⟩⟩⟩⟩⟩⟩, fun hb1 => ⟨vin rfl hp2 (by decide), ref _ ⟨fun h9 => absurd h9 hz, fun _ => ⟨fun h9 => ?_, fun _ => ⟨fun _ => ⟨fun h9 => ?_, fun _ => ⟨rfl, hup⟩⟩, fun h9 => ?_⟩⟩⟩⟩⟩
    · exfalso
      apply hb1
      have h0 := lt_i.mp hb0
      rw [lt_i] at h9
      have h0 : b.toInt < (0 : Int) := h0
      have h9 : ¬ b.toInt < (-1 : Int) := h9
      exact Int32.toInt_inj.mp (by show b.toInt = (-1 : Int); omega)
    · -- a byte
      obtain ⟨k, hk31, rfl⟩ := nI_of hb0
      have hk : k < M.2.2.2.1 p := (nI_ltI (by omega) (by omega)).mp hl
      have ej : (nI p * 4) + ((σ 0 9) &&& 3) = nI (pj p tk) := by
        have e1 : nI p * 4 = nI (p * 4) := pk_mul p 4
        have e2 : nI tk &&& 3 = nI (tk % 4) := pk_andN (n := tk) (by omega) (k := 2) (by decide)
        rw [c9, e1, e2, nI_add]
        unfold pj
        congr 1
        omega
      rw [ej, nI_clamp (n := pj p tk) (by omega)]
      refine ⟨vin rfl hj (by decide), ?_⟩
      rintro _ rfl
      refine at_ok hair (by omega) (ref _ ⟨fun h9 => absurd h9 hz, fun _ => ⟨fun h9 => ?_, fun _ => ⟨fun _ => ⟨fun _ => ?_, fun h9 => absurd (nI_pos' (by omega)) h9⟩, fun h9 => absurd hl h9⟩⟩⟩)
      · exfalso
        have h9 := lt_i.mp h9
        rw [nI_toInt (by omega)] at h9
        have h9 : (k : Int) < (-1 : Int) := h9
        omega
      · have ea : (250 * nI p) + nI k = nI (250 * p + k) := by
          have : (250 : Int32) * nI p = nI (250 * p) := pk_mul 250 p
          rw [this, nI_add]
        rw [ea, nI_clamp (n := 250 * p + k) (by omega), t2 k hk]
        exact ⟨vin rfl (by omega) (by decide), rfl, hup⟩
    · exfalso
      apply hb0
      have h9 := lt_i.mp h9
      have h9 : b.toInt < (-1 : Int) := h9
      rw [lt_i]
      show b.toInt < (0 : Int)
      omega
    · exfalso
      rw [hb1] at h9
      exact absurd h9 (by decide)
    · exfalso
      rw [hb1] at h9
      exact absurd h9 (by decide)
    · exfalso
      apply h9
      rw [hb1, lt_i, nI_toInt (by omega)]
      show (-1 : Int) < _
      omega
  · have hz : M.2.2.2.1 p = 0 := (nI_eq (b := 0) (by omega) (by decide)).mp hz
    exact ref _ ⟨fun _ => ⟨rfl, hup⟩, fun h9 => absurd hz h9⟩
theorem st_end : St_end Rel := by
  intro n P σ τ a hn hR
  have hup := Rel_up hR
  obtain ⟨B, y, tk, tp, M, hB1, hB3, hP, hC, hM, hI, htp, htb⟩ := hR
  obtain ⟨a1, a2, a3, a4, a5, ⟨a6, a7⟩, a8, a9, a10⟩ := hC
  obtain ⟨⟨b1, b2, b3, b4, ⟨b5, b6⟩, b7⟩, b8, b9, b10⟩ := hM
  unfold wpX8_end wpX9_end
  rw [a6, b5]
  refine ⟨fun h1 => ⟨fun _ => ⟨rfl, hup⟩, fun h => absurd h1 h⟩, fun h1 => ⟨fun h2 => ?_, fun h2 => ⟨fun h => absurd h h1, fun _ => ⟨fun h => absurd h h2, fun _ => ⟨rfl, hup⟩⟩⟩⟩⟩
  obtain ⟨j, hj31, rfl⟩ := nI_of h1
  have hj : j ≤ tp.length := (nI_leI (by omega) (by omega)).mp h2
  rintro _ rfl
  refine ⟨fun h => absurd h h1, fun _ => ⟨fun _ => ?_, fun h => absurd h2 h⟩⟩
  rintro _ rfl
  have hl : (tp.take j).length = j := by rw [List.length_take]; omega
  have hg : ∀ k, k < j → (tp.take j).getD k 0 = tp.getD k 0 := fun k hk => by
    rw [List.getD_eq_getElem?_getD, List.getD_eq_getElem?_getD, List.getElem?_take, if_pos hk]
  refine ⟨rfl, B, y, tk, tp.take j, M, hB1, hB3, hP, ⟨?_, ?_, ?_, fun k k1 k2 => ?_, fun k hk => ?_, ⟨?_, fun k hk => ?_⟩, a8.of (fun d d1 d2 => up2_o (by omega)), fun i hi => (a9 i hi).of (up2_o (by omega)) (up2_o (by omega)) (up2_o (by omega)), fun p hp => ?_⟩, ⟨⟨?_, ⟨fun k hk => ?_, ?_, ?_⟩, ?_, fun k k1 k2 => ?_, ⟨?_, fun k hk => ?_⟩, b7.of (fun c c1 c2 _ => up2_o (by omega))⟩, fun i hi => (b8 i hi).of (fun d d1 d2 => up2_o (by omega)), fun p hp => ⟨?_, fun k hk => ?_⟩, fun b hb => ?_⟩, hI.up, by omega, fun x hx => htb x (List.mem_of_mem_take hx)⟩
  · rw [up2_e, if_neg (by omega)]; exact a1
  · rw [up2_e, if_neg (by omega)]; exact a2
  · rw [up2_e, if_neg (by omega)]; exact a3
  · rw [up2_e, if_neg (by omega)]; exact a4 k k1 k2
  · rw [up2_o (by decide)]; exact a5 k hk
  · rw [up2_e, if_pos ⟨rfl, rfl⟩, hl]
  · rw [hl] at hk
    rw [up2_o (by decide), hg k hk]; exact a7 k (by omega)
  · rw [up2_o (by decide)]; exact a10 p hp
  · rw [up2_e, if_neg (by omega)]; exact b1
  · rw [up2_o (by decide)]; exact b2.1 k hk
  · rw [up2_e, if_neg (by omega)]; exact b2.2.1
  · rw [up2_e, if_neg (by omega)]; exact b2.2.2
  · rw [up2_e, if_neg (by omega)]; exact b3
  · rw [up2_e, if_neg (by omega)]; exact b4 k k1 k2
  · rw [up2_e, if_pos ⟨rfl, rfl⟩, hl]
  · rw [hl] at hk
    rw [up2_o (by decide), hg k hk]; exact b6 k (by omega)
  · rw [up2_o (by decide)]; exact (b9 p hp).1
  · rw [up2_o (by decide)]; exact (b9 p hp).2 k hk
  · rw [up2_o (by decide)]; exact b10 b hb
/-- the rate of a bearer -/
def rtS (r : Nat) (s : Smd) : Smd := (vup s.1 2 r, s.2)
theorem rtS_V {T r : Nat} {s : Smd} (h : SndV T s) : SndV T (rtS r s) := by
  have o : ∀ k, k ≠ 2 → vup s.1 2 r k = s.1 k := fun k hk => vup_o hk
  have hb : SvB (vup s.1 2 r) := fun k k1 k2 => by rw [o k (by omega)]; exact h.1.1 k k1 k2
  exact h.of (s' := rtS r s) (h.1.vv hb (o 4 (by decide)) (o 5 (by decide)) (o 6 (by decide))) (h.2.2.1.vv (u := vup s.1 2 r) (o 4 (by decide)) (o 5 (by decide)) (o 8 (by decide))) (o 4 (by decide)) (o 5 (by decide)) rfl (fun _ => rfl) rfl
theorem st_rate : St_rate Rel := by
  intro n P σ τ a b hn hR
  have hup := Rel_up hR
  obtain ⟨B, y, tk, tp, M, hB1, hB3, hP, hC, hM, hI, htp, htb⟩ := hR
  have h0 := hC.1
  have t0 := hM.1.1
  have no : (a < 0 ∨ nI B ≤ a ∨ b < 0 ∨ ¬ b ≤ 200) → wpX9_rate a b τ (fun q τ1 => 0 = q ∧ Rel (n + 1) P σ τ1) := by
    intro h
    unfold wpX9_rate
    rw [t0]
    refine ⟨fun _ => ⟨rfl, hup⟩, fun h1 => ⟨fun _ => ⟨rfl, hup⟩, fun h2 => ⟨fun _ => ⟨rfl, hup⟩, fun h3 => ⟨fun h4 => ?_, fun _ => ⟨rfl, hup⟩⟩⟩⟩⟩
    rcases h with h | h | h | h
    · exact absurd h h1
    · exact absurd h h2
    · exact absurd h h3
    · exact absurd h4 h
  unfold wpX8_rate
  refine isPlace_ok h0 hB3 (fun hnp => brt rfl (no ?_)) (fun p q hp hq ep eq => brf (by decide) ⟨fun h3 => no (Or.inr (Or.inr (Or.inl h3))), fun h3 => ⟨fun h4 => ?_, fun h4 => no (Or.inr (Or.inr (Or.inr h4)))⟩⟩)
  · rcases hnp with h | h | h | h
    · exact absurd h (by decide)
    · exact absurd h (by decide)
    · exact Or.inl h
    · exact Or.inr (Or.inl h)
  · subst eq
    obtain ⟨r, hr, rfl⟩ := nI_of2 (M := 200) (n := 200) rfl h3 h4
    obtain ⟨a1, a2, a3, a4, a5, ⟨a6, a7⟩, a8, a9, a10⟩ := hC
    obtain ⟨⟨b1, b2, b3, b4, ⟨b5, b6⟩, b7⟩, b8, b9, b10⟩ := hM
    unfold wpX8_placeOf
    have e1 : ((0 : Int32) * σ 0 0) + nI q = nI (0 * B + q) := plI (p := 0) h0
    rw [e1]
    refine ⟨vin rfl (by omega) (by omega), ?_⟩
    rw [nI_clamp (n := 0 * B + q) (by omega)]
    rintro _ rfl _ rfl
    rw [up2_o (d := 0) (by omega)]
    have e2 : ((1 : Int32) * σ 0 0) + nI q = nI (1 * B + q) := plI (p := 1) h0
    rw [e2]
    refine ⟨vin rfl (by omega) (by omega), ?_⟩
    rw [nI_clamp (n := 1 * B + q) (by omega)]
    rintro _ rfl _ rfl
    rw [show 0 * B + q = q by omega, show 1 * B + q = B + q by omega]
    obtain ⟨hs2, ehs⟩ : ∃ hs2 : Nat → Smd, hs2 = fup (fup M.1 q (rtS r (M.1 q))) (B + q) (rtS r (M.1 (B + q))) := ⟨_, rfl⟩
    have hsq : ∀ pl, hs2 pl = if pl = q ∨ pl = B + q then rtS r (M.1 pl) else M.1 pl := fun pl => by
      rw [ehs]
      unfold fup
      by_cases e : pl = B + q
      · rw [if_pos e, if_pos (Or.inr e), e]
      · rw [if_neg e]
        by_cases e3 : pl = q
        · rw [if_pos e3, if_pos (Or.inl e3), e3]
        · rw [if_neg e3, if_neg (by omega)]
    have hfl : ∀ pl, fldS (hs2 pl) = fldS (M.1 pl) := fun pl => by
      rw [hsq]
      split <;> rfl
    have hk : ∀ pl k, k ≠ 2 → (hs2 pl).1 k = (M.1 pl).1 k := fun pl k hk => by
      rw [hsq]
      split
      · exact vup_o hk
      · rfl
    have hr2 : ∀ pl, (hs2 pl).2 = (M.1 pl).2 := fun pl => by
      rw [hsq]
      split <;> rfl
    have h22 : ∀ pl, (hs2 pl).1 2 = if pl = q ∨ pl = B + q then r else (M.1 pl).1 2 := fun pl => by
      rw [hsq]
      split
      · exact (vup_s : vup (M.1 pl).1 2 r 2 = r)
      · rfl
    have hCl : LkC (up2 (up2 σ (9 + 113 * q) 2 (nI r)) (9 + 113 * (B + q)) 2 (nI r)) B hs2 M.2.1 := by
      have er : ∀ k, fup M.2.1 k (M.2.1 k) = M.2.1 := fun k => by
        funext j
        unfold fup
        split
        · next e => rw [e]
        · rfl
      have l1 : LkC (up2 σ (9 + 113 * q) 2 (nI r)) B (fup M.1 q (rtS r (M.1 q))) M.2.1 := by
        obtain ⟨c1, c2⟩ := a8 q (by omega)
        have := a8.put (σ' := up2 σ (9 + 113 * q) 2 (nI r)) (s := rtS r (M.1 q)) (r := M.2.1 q) (by omega) rfl ⟨c1.1.put (by decide) (by decide), ?_, c1.2.2.of (fun d d1 d2 => up2_o (by omega))⟩ (c2.of (fun d d1 d2 => up2_o (by omega))) (fun d d1 d2 d3 => up2_o (by omega))
        · rw [er] at this
          exact this
        · show SpsC _ _ (vup (M.1 q).1 2 r 4) (vup (M.1 q).1 2 r 5) _
          rw [vup_o (by decide), vup_o (by decide)]
          exact c1.2.1.of (fun d d1 d2 => up2_o (by omega))
      obtain ⟨c1, c2⟩ := l1 (B + q) (by omega)
      rw [fup_o (by omega)] at c1
      have := l1.put (σ' := up2 (up2 σ (9 + 113 * q) 2 (nI r)) (9 + 113 * (B + q)) 2 (nI r)) (s := rtS r (M.1 (B + q))) (r := M.2.1 (B + q)) (by omega) (by rw [fup_o (by omega)]; rfl) ⟨c1.1.put (by decide) (by decide), ?_, c1.2.2.of (fun d d1 d2 => up2_o (by omega))⟩ (c2.of (fun d d1 d2 => up2_o (by omega))) (fun d d1 d2 d3 => up2_o (by omega))
      · rw [er, ← ehs] at this
        exact this
      · show SpsC _ _ (vup (M.1 (B + q)).1 2 r 4) (vup (M.1 (B + q)).1 2 r 5) _
        rw [vup_o (by decide), vup_o (by decide)]
        exact c1.2.1.of (fun d d1 d2 => up2_o (by omega))
    have hSm : ∀ (τ' : Sg) (i : Nat) (pl : Nat), SmM τ' i (M.1 pl) → SmM τ' i (hs2 pl) := by
      intro τ' i pl h
      obtain ⟨m1, m2, m3, m4⟩ := h
      refine ⟨?_, ?_, by rw [hr2]; exact m3, by rw [hr2]; exact m4⟩
      · unfold SnM
        rw [hk pl 4 (by decide), hk pl 5 (by decide), hk pl 10 (by decide), hk pl 9 (by decide), hk pl 11 (by decide), hk pl 12 (by decide), hk pl 13 (by decide), hk pl 14 (by decide), hk pl 7 (by decide), hk pl 8 (by decide), hr2]
        exact m1
      · rw [hk pl 4 (by decide), hk pl 5 (by decide), hr2]
        exact m2
    have hCor : Cor (4000 * n) B (keyF y (M.2.2.2.2 10)) hs2 M.2.1 := by
      intro pl hpl
      obtain ⟨k1, k2, k3⟩ := hI.1.1 pl hpl
      refine ⟨?_, by rw [hr2]; exact k2, k3.s (hk pl 4 (by decide)) (hk pl 5 (by decide)) (hfl pl) (fun x hx => by rw [hr2] at hx; exact hx)⟩
      rw [hsq]
      split
      · exact rtS_V k1
      · exact k1
    have hAd : AdA B (fun _ => 0) M.1 M.2.1 hs2 M.2.1 := by
      intro pl hpl
      refine ⟨⟨by rw [hk pl 5 (by decide)]; exact Nat.le_refl _, by rw [hk pl 5 (by decide)]; exact Nat.le_refl _, fun x _ => by rw [hfl]⟩, Nat.le_refl _, fun y hy => ?_⟩
      have ew : whR (hs2 (opp B pl)) (M.2.1 pl) = whR (M.1 (opp B pl)) (M.2.1 pl) := by unfold whR; rw [hfl]
      rw [ew]
      exact hy
    have hInv : InvH n B tk (keyF y (M.2.2.2.2 10)) (hs2, M.2.1, M.2.2) := by
      refine ⟨⟨hCor, fun pl hpl => ?_, fun j hj => (hI.1.2.2 j hj).ad0 (by omega) hAd⟩, hI.2.1, fun b hb => ?_, hI.2.2.2⟩
      · obtain ⟨z1, z2, z3, z4, z5⟩ := hI.1.2.1 pl hpl
        refine ⟨by show (hs2 pl).1 5 ≤ _; rw [hk pl 5 (by decide)]; exact z1, by show (hs2 pl).2.2.2.1 ≤ _; rw [hr2]; exact z2, by show _ ≤ (hs2 pl).2.1.toInt; rw [hr2]; exact z3, by show (hs2 pl).2.1.toInt ≤ _; rw [hr2]; exact z4, ?_⟩
        show (hs2 pl).1 2 ≤ 200
        rw [h22]
        split
        · exact hr
        · exact z5
      · show (hs2 (B + b)).1 2 = (hs2 b).1 2
        rw [h22, h22]
        by_cases e : b = q
        · rw [if_pos (Or.inr (by omega)), if_pos (Or.inl e)]
        · rw [if_neg (by omega), if_neg (by omega)]
          exact hI.2.2.1 b hb
    unfold wpX9_rate
    rw [t0]
    refine brf (nI_pos (by omega)) (brf (nI_ge hq (by omega)) (brf (nI_pos (by omega)) (brt (nI_le (a := r) (b := 200) hr (by decide)) ⟨vin rfl (by omega) (by decide), ?_⟩)))
    rw [nI_clamp (n := q) (by omega)]
    rintro _ rfl
    refine ⟨rfl, B, y, tk, tp, (hs2, M.2.1, M.2.2), hB1, hB3, hP, ⟨?_, ?_, ?_, fun k k1 k2 => ?_, fun k hk => ?_, ⟨?_, fun k hk => ?_⟩, hCl, fun i hi => (a9 i hi).of ?_ ?_ ?_, fun p hp => ?_⟩, ⟨⟨?_, ⟨fun k hk => ?_, ?_, ?_⟩, ?_, fun k k1 k2 => ?_, ⟨?_, fun k hk => ?_⟩, fun pl hpl => ⟨?_, ?_⟩⟩, fun i hi => (b8 i hi).of (fun d d1 d2 => up2_o (by omega)), fun p hp => ⟨?_, fun k hk => ?_⟩, fun b hb => ?_⟩, hInv.up, htp, htb⟩
    · rw [up2_o (by omega), up2_o (by omega)]; exact a1
    · rw [up2_o (by omega), up2_o (by omega)]; exact a2
    · rw [up2_o (by omega), up2_o (by omega)]; exact a3
    · rw [up2_o (by omega), up2_o (by omega)]; exact a4 k k1 k2
    · rw [up2_o (by omega), up2_o (by omega)]; exact a5 k hk
    · rw [up2_o (by omega), up2_o (by omega)]; exact a6
    · rw [up2_o (by omega), up2_o (by omega)]; exact a7 k hk
    · rw [up2_o (by omega), up2_o (by omega)]
    · rw [up2_o (by omega), up2_o (by omega)]
    · rw [up2_o (by omega), up2_o (by omega)]
    · rw [up2_o (by omega), up2_o (by omega)]; exact a10 p hp
    · rw [up2_o (by decide)]; exact b1
    · rw [up2_o (by decide)]; exact b2.1 k hk
    · rw [up2_o (by decide)]; exact b2.2.1
    · rw [up2_o (by decide)]; exact b2.2.2
    · rw [up2_o (by decide)]; exact b3
    · rw [up2_o (by decide)]; exact b4 k k1 k2
    · rw [up2_o (by decide)]; exact b5
    · rw [up2_o (by decide)]; exact b6 k hk
    · exact hSm _ _ _ ((b7 pl hpl).1.of (fun c c1 c2 c3 => up2_o (by omega)))
    · show RmM _ _ (fldS (hs2 (opp B pl))) _
      rw [hfl]
      exact (b7 pl hpl).2.of (fun c c1 c2 => up2_o (by omega))
    · rw [up2_o (by decide)]; exact (b9 p hp).1
    · rw [up2_o (by decide)]; exact (b9 p hp).2 k hk
    · rw [up2_e]
      show _ = nI ((hs2 b).1 2)
      rw [h22]
      by_cases e : b = q
      · rw [if_pos ⟨rfl, e⟩, if_pos (Or.inl e)]
      · rw [if_neg (fun hh => e hh.2), if_neg (by omega)]
        exact b10 b hb
