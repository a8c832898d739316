/-! PURE: the start -/
def s0 : Smd := (fun k => if k = 2 then 16 else 0, 0, fun _ => ([], mnA, 0, false), 0, fun _ => ([], 0, false), ([], 0))
def r0 : Rmd := (fun _ => 0, rp0, none, (0, 0, 0, 0, [], fun _ => []))
def M0 : Hm := (fun _ => s0, fun _ => r0, fun _ => (0, 0, false, [], []), fun _ => 0, fun _ => 0)
theorem rcvS_at {σ : Sg} {c0 d k : Nat} : ∀ n, rcvS σ c0 n d k = if c0 + 7 ≤ d ∧ d < c0 + 7 + 2 * n ∧ (d - (c0 + 7)) % 2 = 0 ∧ k = 1 then -1 else σ d k
  | 0 => by
    rw [if_neg (by omega)]
    rfl
  | n + 1 => by
    unfold rcvS
    rw [up2_e]
    by_cases e : d = c0 + 7 + 2 * n ∧ k = 1
    · rw [if_pos e, if_pos (by omega)]
    · rw [if_neg e, rcvS_at n]
      by_cases e2 : c0 + 7 ≤ d ∧ d < c0 + 7 + 2 * n ∧ (d - (c0 + 7)) % 2 = 0 ∧ k = 1
      · rw [if_pos e2, if_pos (by omega)]
      · rw [if_neg e2, if_neg (by omega)]
theorem hst_lo {σ : Sg} {B d : Nat} : ∀ m i, d < 9 + 113 * i → hst σ B (i + m) d = hst σ B i d
  | 0, _, _ => rfl
  | m + 1, i, h => by
    show hst2 (hst1 (hst σ B (i + m)) B (i + m)) B (i + m) d = _
    unfold hst2
    rw [rcvS_o (by omega), up2_o (by omega), up2_o (by omega)]
    unfold hst1
    rw [up2_o (by omega), up2_o (by omega), up2_o (by omega)]
    exact hst_lo m i h
theorem hm_eq : ∀ B, B < 4 → ∀ i, i < 6 → i < 2 * B → hmS B i (hpz B i) = nI (mkN B i) ∧ hmR B i (hpz B i) = nI (mkN B (opp B i)) := by decide
def hAt (B pl d k : Nat) : Int32 := if d = 9 + 113 * pl ∧ k = 2 then 16 else if d = 9 + 113 * pl ∧ k = 9 then -1 else if d = 11 + 113 * pl ∧ k = 0 then nI (mkN B pl) else if d = 51 + 113 * pl ∧ k = 6 then -1 else if d = 53 + 113 * pl ∧ k = 0 then nI (mkN B (opp B pl)) else if 58 + 113 * pl ≤ d ∧ (d - (58 + 113 * pl)) % 2 = 0 ∧ k = 1 then -1 else 0
theorem hst_at {σ : Sg} {B P pl d k : Nat} (hB3 : B ≤ 3) (hP : P = 2 * B) (hpl : pl < P) (hz : Zr0 σ 9) (h1 : 9 + 113 * pl ≤ d) (h2 : d < 122 + 113 * pl) : hst σ B P d k = hAt B pl d k := by
  obtain ⟨m, hm⟩ : ∃ m, P = pl + 1 + m := ⟨P - (pl + 1), by omega⟩
  rw [hm, hst_lo m (pl + 1) (by omega)]
  obtain ⟨e1, e2⟩ := hm_eq B (by omega) pl (by omega) (by omega)
  show hst2 (hst1 (hst σ B pl) B pl) B pl d k = _
  have z0 : hst σ B pl d k = 0 := by rw [hst_z hz pl d h1]
  unfold hst2
  rw [rcvS_at, up2_e, up2_e, e2]
  unfold hst1
  rw [up2_e, up2_e, up2_e, e1, z0]
  unfold hAt
  by_cases c1 : d = 9 + 113 * pl ∧ k = 2
  · rw [if_neg (by omega), if_neg (by omega), if_neg (by omega), if_neg (by omega), if_neg (by omega), if_pos c1, if_pos c1]
  · rw [if_neg c1, if_neg c1]
    by_cases c2 : d = 9 + 113 * pl ∧ k = 9
    · rw [if_neg (by omega), if_neg (by omega), if_neg (by omega), if_neg (by omega), if_pos c2, if_pos c2]
    · rw [if_neg c2, if_neg c2]
      by_cases c3 : d = 11 + 113 * pl ∧ k = 0
      · rw [if_neg (by omega), if_neg (by omega), if_neg (by omega), if_pos (by omega), if_pos c3]
      · rw [if_neg (c := d = 9 + 113 * pl + 2 ∧ k = 0) (by omega), if_neg c3]
        by_cases c4 : d = 51 + 113 * pl ∧ k = 6
        · rw [if_neg (by omega), if_neg (by omega), if_pos c4, if_pos c4]
        · rw [if_neg c4, if_neg c4]
          by_cases c5 : d = 53 + 113 * pl ∧ k = 0
          · rw [if_neg (by omega), if_pos (by omega), if_pos c5]
          · rw [if_neg (c := d = 51 + 113 * pl + 2 ∧ k = 0) (by omega), if_neg c5]
            by_cases c6 : 58 + 113 * pl ≤ d ∧ (d - (58 + 113 * pl)) % 2 = 0 ∧ k = 1
            · rw [if_pos c6, if_pos (by omega)]
            · rw [if_neg c6, if_neg (by omega)]
theorem hs0_z {B : Nat} {y : Int32} : Zr0 (hs0 sbT B y) 9 := fun c hc => by
  unfold hs0 va_up
  rw [if_neg (by omega), up2_o (by omega), up2_o (by omega)]
theorem s0_V : ObV s0.2.2.2.1 s0.2.2.2.2.1 s0.2.2.2.2.2 := ⟨by decide, Nat.zero_le _, fun _ _ => rfl, fun c hc => absurd hc Bool.false_ne_true, List.Pairwise.nil, fun p hp => absurd hp List.not_mem_nil, fun p ps hh => absurd hh (List.cons_ne_nil p ps).symm, fun _ => rfl, fun j hj => absurd hj (Nat.not_lt_zero j)⟩
theorem M0_inv {B : Nat} {key : Nat → Int32} : InvH 0 B 0 key M0 := by
  refine ⟨⟨fun pl hpl => ⟨?_, fun j hj => absurd hj (Nat.not_lt_zero j), ?_⟩, fun pl hpl => ⟨Nat.le_refl _, Nat.le_refl _, show -((1000 * 0 : Nat) : Int) ≤ (0 : Int32).toInt by decide, show (0 : Int32).toInt ≤ 2000 by decide, show (16 : Nat) ≤ 200 by decide⟩, fun j hj => ⟨Nat.zero_le _, fun _ => ⟨rfl, rfl⟩, Nat.zero_le _, fun hh => absurd hh (Nat.lt_irrefl 0)⟩⟩, Nat.le_refl _, fun b hb => rfl, fun p hp => ⟨Nat.zero_le _, fun hh => absurd hh (Nat.lt_irrefl 0)⟩⟩
  · refine ⟨⟨fun k k1 k2 => ?_, Nat.le_refl _, by show 0 ≤ 0 + 16; omega, rfl, fun x x1 x2 => absurd x2 (Nat.not_lt_zero x)⟩, s0_V, ⟨Nat.zero_le _, fun x x1 x2 => absurd x2 (Nat.not_lt_zero x)⟩, fun hh => absurd hh (Nat.lt_irrefl 0), fun x => ⟨Nat.zero_le _, fun q hq => absurd hq List.not_mem_nil⟩, fun x hx => absurd hx (Nat.not_lt_zero x), rfl⟩
    show (if k = 2 then 16 else 0) < 2 ^ 20
    rw [if_neg (by omega)]
    decide
  · have hw : ∀ (G : Nat → List Cel) (R H x : Nat), whl G R H rp0 x = false := fun G R H x => decide_eq_false (fun hh => Bool.false_ne_true hh.2.2.1)
    exact ⟨⟨fun k k1 k2 => by show 0 < 2 ^ 20; decide, Nat.le_refl _, Nat.le_refl _, Nat.le_refl _, Nat.le_refl _, Nat.le_refl _, by show 0 ≤ 0 + 16; omega, Nat.zero_le _, Or.inl rfl⟩, ⟨fun x hx => rfl, fun x hx => rfl, fun x k hh => absurd hh Bool.false_ne_true⟩, ⟨hw _ _ _ _, hw _ _ _ _⟩, fun x x1 x2 => absurd x2 (Nat.not_lt_zero x), rfl⟩
theorem M0_C {B P : Nat} {y : Int32} (hB1 : 1 ≤ B) (hB3 : B ≤ 3) (hP : P = 2 * B) : RepC (hst (hs0 sbT B y) B P) B y 0 [] M0 := by
  have lo : ∀ c, c < 9 → hst (hs0 sbT B y) B P c = hs0 sbT B y c := fun c hc => hst_o hc P
  have e0 : ∀ k, hst (hs0 sbT B y) B P 0 k = if k = 1 then y else if k = 0 then nI B else 0 := fun k => by
    rw [lo 0 (by decide)]
    unfold hs0 va_up
    rw [if_neg (by decide), up2_e, up2_e]
    by_cases e1 : k = 1
    · rw [if_pos ⟨rfl, e1⟩, if_pos e1]
    · rw [if_neg (fun hh => e1 hh.2), if_neg e1]
      by_cases e2 : k = 0
      · rw [if_pos ⟨rfl, e2⟩, if_pos e2]
      · rw [if_neg (fun hh => e2 hh.2), if_neg e2]
  have hi : ∀ d k, 9 + 113 * P ≤ d → hst (hs0 sbT B y) B P d k = 0 := fun d k hd => by rw [hst_z hs0_z P d hd]
  have at' : ∀ pl d k, pl < 2 * B → 9 + 113 * pl ≤ d → d < 122 + 113 * pl → hst (hs0 sbT B y) B P d k = hAt B pl d k := fun pl d k h1 h2 h3 => hst_at hB3 hP (by omega) hs0_z h2 h3
  have e2 : ∀ k, hst (hs0 sbT B y) B P 2 k = 0 := fun k => by
    rw [lo 2 (by decide)]
    unfold hs0 va_up
    rw [if_neg (by decide), up2_o (by decide), up2_o (by decide)]
  have e4 : ∀ k, hst (hs0 sbT B y) B P 4 k = keyF y 0 k := fun k => by
    rw [lo 4 (by decide)]
    unfold hs0 va_up
    rw [if_pos rfl]
    rfl
  generalize hst (hs0 sbT B y) B P = σ at *
  refine ⟨by rw [e0]; rfl, by rw [e0]; rfl, by rw [e0]; rfl, fun k k1 k2 => ?_, fun k hk => e4 k, ⟨by rw [e0]; rfl, fun k hk => absurd hk (Nat.not_lt_zero k)⟩, fun pl hpl => ?_, fun j hj => ?_, fun p hp => e2 p⟩
  · rw [e0, if_neg (by omega), if_neg (by omega)]
    rfl
  · have z : ∀ d k, 9 + 113 * pl ≤ d → d < 122 + 113 * pl → ¬ (d = 9 + 113 * pl ∧ k = 2) → ¬ (d = 9 + 113 * pl ∧ k = 9) → ¬ (d = 11 + 113 * pl ∧ k = 0) → ¬ (d = 51 + 113 * pl ∧ k = 6) → ¬ (d = 53 + 113 * pl ∧ k = 0) → ¬ (58 + 113 * pl ≤ d ∧ (d - (58 + 113 * pl)) % 2 = 0 ∧ k = 1) → σ d k = 0 := fun d k h1 h2 n1 n2 n3 n4 n5 n6 => by
      rw [at' pl d k hpl h1 h2]
      unfold hAt
      rw [if_neg n1, if_neg n2, if_neg n3, if_neg n4, if_neg n5, if_neg n6]
    have e11 : 9 + 113 * pl + 2 = 11 + 113 * pl := by omega
    have e53 : 51 + 113 * pl + 2 = 53 + 113 * pl := by omega
    refine ⟨⟨⟨fun k k1 k2 k3 k9 => ?_, ?_, ?_⟩, fun x x1 x2 => absurd x2 (Nat.not_lt_zero x), ?_⟩, ⟨fun k k1 k2 k6 => ?_, ?_⟩, fun x x1 x2 => ?_, ?_, ?_⟩
    · show _ = nI (if k = 2 then 16 else 0)
      by_cases e : k = 2
      · rw [at' pl _ k hpl (by omega) (by omega), if_pos e]
        unfold hAt
        rw [if_pos ⟨rfl, e⟩]
        rfl
      · rw [if_neg e, z _ k (by omega) (by omega) (by omega) (by omega) (by omega) (by omega) (by omega) (by omega)]
        rfl
    · rw [at' pl _ 9 hpl (by omega) (by omega)]
      unfold hAt
      rw [if_neg (by omega), if_pos ⟨rfl, rfl⟩]
      rfl
    · exact z _ 3 (by omega) (by omega) (by omega) (by omega) (by omega) (by omega) (by omega) (by omega)
    · rw [e11]
      have zo : ∀ k, k ≠ 0 → σ (11 + 113 * pl) k = 0 := fun k hk => z _ k (by omega) (by omega) (by omega) (by omega) (by omega) (by omega) (by omega) (by omega)
      refine ⟨?_, zo 7 (by decide), ?_, zo 5 (by decide), fun c c1 c2 => absurd c2 (Nat.not_lt_zero c), zo 9 (by decide), zo 12 (by decide), fun j hj => absurd hj (Nat.not_lt_zero j), fun hh => absurd hh (Nat.lt_irrefl 0), fun p hp => absurd hp List.not_mem_nil⟩
      · rw [at' pl _ 0 hpl (by omega) (by omega)]
        unfold hAt
        rw [if_neg (by omega), if_neg (by omega), if_pos ⟨rfl, rfl⟩]
      · rw [zo 6 (by decide)]
        have : lowK (kpt s0.2.2.2.2.1) s0.2.2.2.1 = 0 := Nat.le_zero.mp (lowK_spec _ _).1
        show (0 : Int32) = nI (lowK (kpt s0.2.2.2.2.1) s0.2.2.2.1)
        rw [this]
        rfl
    · rw [z _ k (by omega) (by omega) (by omega) (by omega) (by omega) (by omega) (by omega) (by omega)]
      rfl
    · rw [at' pl _ 6 hpl (by omega) (by omega)]
      unfold hAt
      rw [if_neg (by omega), if_neg (by omega), if_neg (by omega), if_pos ⟨rfl, rfl⟩]
      rfl
    · have hx : x % 32 < 32 := Nat.mod_lt _ (by decide)
      refine RpC.empty (Nat.zero_le _) (fun q hq => absurd hq List.not_mem_nil) ?_ ?_ (fun k hk => ?_)
      · rw [at' pl _ 1 hpl (by omega) (by omega)]
        unfold hAt
        rw [if_neg (by omega), if_neg (by omega), if_neg (by omega), if_neg (by omega), if_neg (by omega), if_pos (by omega)]
      · exact z _ 2 (by omega) (by omega) (by omega) (by omega) (by omega) (by omega) (by omega) (by omega)
      · exact z _ k (by omega) (by omega) (by omega) (by omega) (by omega) (by omega) (by omega) (by omega)
    · rw [e53]
      exact z _ 3 (by omega) (by omega) (by omega) (by omega) (by omega) (by omega) (by omega) (by omega)
    · rw [e53]
      have zo : ∀ k, k ≠ 0 → σ (53 + 113 * pl) k = 0 := fun k hk => z _ k (by omega) (by omega) (by omega) (by omega) (by omega) (by omega) (by omega) (by omega)
      refine ⟨?_, zo 7 (by decide), zo 8 (by decide), zo 9 (by decide), zo 10 (by decide), ⟨zo 12 (by decide), Nat.zero_le _, fun k hk => absurd hk (Nat.not_lt_zero k)⟩, ?_, fun s hs => ⟨?_, Nat.zero_le _, fun k hk => absurd hk (Nat.not_lt_zero k)⟩⟩
      · rw [at' pl _ 0 hpl (by omega) (by omega)]
        unfold hAt
        rw [if_neg (by omega), if_neg (by omega), if_neg (by omega), if_neg (by omega), if_pos ⟨rfl, rfl⟩]
      · rw [zo 6 (by decide)]
        have : cnt (stNe r0.2.2.2.2.2.2.2.2) 0 32 = 0 := cnt_0 32 (fun _ _ _ => rfl)
        show (0 : Int32) = nI (cnt (stNe r0.2.2.2.2.2.2.2.2) 0 32)
        rw [this]
        rfl
      · exact z _ s (by omega) (by omega) (by omega) (by omega) (by omega) (by omega) (by omega) (by omega)
  · have zo : ∀ d k, 9 + 113 * (2 * B) ≤ d → σ d k = 0 := fun d k hd => hi d k (by omega)
    exact ⟨zo _ 1 (by omega), zo _ 2 (by omega), zo _ 3 (by omega), zo _ 1 (by omega), Nat.zero_le _, fun k v hh => by
      have hh : ([] : List Int32)[k]? = some v := hh
      simp at hh⟩
def mAt (B : Nat) (y : Int32) (c k : Nat) : Int32 := if c = 64 ∧ k < 2 then -1 else if c = 44 ∧ k < 192 then -1 else if (c = 6 ∨ c = 39 ∨ c = 49) ∧ k < 6 then -1 else if c = 14 ∧ k < 3 then 16 else if c = 0 ∧ k = 1 then y else if c = 0 ∧ k = 0 then nI B else 0
theorem msF_at {B : Nat} {y : Int32} {c k : Nat} (hc : c ≠ 67) : msF B y c k = mAt B y c k := by
  have e1 : ∀ c k, ms1 B y c k = if c = 0 ∧ k = 1 then y else if c = 0 ∧ k = 0 then nI B else 0 := fun c k => by
    unfold ms1
    rw [up2_e, up2_e]
  have e2 : ∀ c k, ms2 B y c k = if c = 14 ∧ k < 3 then 16 else ms1 B y c k := fun c k => by
    unfold ms2 va_up
    by_cases e : c = 14
    · subst e
      rw [if_pos rfl]
      unfold rowf
      by_cases ek : k < 3
      · rw [if_pos ek, if_pos ⟨rfl, ek⟩]
      · rw [if_neg ek, if_neg (fun hh => ek hh.2)]
    · rw [if_neg e, if_neg (fun hh => e hh.1)]
  have e3 : ∀ c k, ms3 (ms2 B y) 6 c k = if (c = 6 ∨ c = 39 ∨ c = 49) ∧ k < 6 then -1 else ms2 B y c k := fun c k => by
    unfold ms3 va_up rowf
    by_cases e6 : c = 6
    · subst e6
      rw [if_pos rfl]
      by_cases ek : k < 6
      · rw [if_pos ek, if_pos ⟨Or.inl rfl, ek⟩]
      · rw [if_neg ek, if_neg (fun hh => ek hh.2)]
    · rw [if_neg e6]
      by_cases e39 : c = 39
      · subst e39
        rw [if_pos rfl]
        by_cases ek : k < 6
        · rw [if_pos ek, if_pos ⟨Or.inr (Or.inl rfl), ek⟩]
        · rw [if_neg ek, if_neg (fun hh => ek hh.2)]
      · rw [if_neg e39]
        by_cases e49 : c = 49
        · subst e49
          rw [if_pos rfl]
          by_cases ek : k < 6
          · rw [if_pos ek, if_pos ⟨Or.inr (Or.inr rfl), ek⟩]
          · rw [if_neg ek, if_neg (fun hh => ek hh.2)]
        · rw [if_neg e49, if_neg (by omega)]
  have e4 : ∀ c k, ms4 (ms3 (ms2 B y) 6) c k = if c = 44 ∧ k < 192 then -1 else ms3 (ms2 B y) 6 c k := fun c k => by
    unfold ms4 va_up
    by_cases e : c = 44
    · subst e
      rw [if_pos rfl]
      unfold rowf
      by_cases ek : k < 192
      · rw [if_pos ek, if_pos ⟨rfl, ek⟩]
      · rw [if_neg ek, if_neg (fun hh => ek hh.2)]
    · rw [if_neg e, if_neg (fun hh => e hh.1)]
  unfold msF va_up
  rw [if_neg hc]
  unfold ms5
  rw [up2_e, up2_e, e4, e3, e2, e1]
  unfold mAt
  by_cases e : c = 64 ∧ k < 2
  · rw [if_pos e]
    by_cases ek : k = 1
    · rw [if_pos ⟨e.1, ek⟩]
    · rw [if_neg (fun hh => ek hh.2), if_pos (by omega)]
  · rw [if_neg e, if_neg (by omega), if_neg (by omega)]
theorem M0_M {B : Nat} {y : Int32} (hB3 : B ≤ 3) : RepM (msF B y) B y 0 [] 2 M0 := by
  have h67 : ∀ k, k < 256 → msF B y 67 k = sbT k := fun k hk => by
    unfold msF va_up
    rw [if_pos rfl]
    unfold boxR
    rw [if_pos hk]
    exact box_eq hk
  have at' : ∀ c k, c ≠ 67 → msF B y c k = mAt B y c k := fun c k hc => msF_at hc
  have z : ∀ c k, c ≠ 67 → c ≠ 0 → c ≠ 6 → c ≠ 14 → c ≠ 39 → c ≠ 44 → c ≠ 49 → c ≠ 64 → msF B y c k = 0 := fun c k h1 h2 h3 h4 h5 h6 h7 h8 => by
    rw [at' c k h1]
    unfold mAt
    rw [if_neg (by omega), if_neg (by omega), if_neg (by omega), if_neg (by omega), if_neg (by omega), if_neg (by omega)]
  have z0 : ∀ k, 2 ≤ k → msF B y 0 k = 0 := fun k hk => by
    rw [at' 0 k (by decide)]
    unfold mAt
    rw [if_neg (by omega), if_neg (by omega), if_neg (by omega), if_neg (by omega), if_neg (by omega), if_neg (by omega)]
  have m1 : ∀ c k, c = 6 ∨ c = 39 ∨ c = 49 → k < 6 → msF B y c k = -1 := fun c k hc hk => by
    rw [at' c k (by omega)]
    unfold mAt
    rw [if_neg (by omega), if_neg (by omega), if_pos ⟨hc, hk⟩]
  have y0 : msF B y 0 0 = nI B := at' 0 0 (by decide)
  have y1 : msF B y 0 1 = y := at' 0 1 (by decide)
  have y44 : ∀ s, s < 192 → msF B y 44 s = -1 := fun s hs => by
    rw [at' 44 s (by decide)]
    unfold mAt
    rw [if_neg (by omega), if_pos ⟨rfl, hs⟩]
  have y64 : ∀ p, p < 2 → msF B y 64 p = -1 := fun p hp => by
    rw [at' 64 p (by decide)]
    unfold mAt
    rw [if_pos ⟨rfl, hp⟩]
  have y14 : ∀ b, b < 3 → msF B y 14 b = 16 := fun b hb => by
    rw [at' 14 b (by decide)]
    unfold mAt
    rw [if_neg (by omega), if_neg (by omega), if_neg (by omega), if_pos ⟨rfl, hb⟩]
  generalize msF B y = τ at *
  have zz : ∀ c k, 2 ≤ c → c ≤ 63 → c ≠ 6 → c ≠ 14 → c ≠ 39 → c ≠ 44 → c ≠ 49 → τ c k = 0 := fun c k h1 h2 h3 h4 h5 h6 h7 => z c k (by omega) (by omega) h3 h4 h5 h6 h7 (by omega)
  refine ⟨⟨y0, ⟨h67, y1, z0 3 (by decide)⟩, z0 2 (by decide), fun k k1 k2 => z0 k (by omega), ⟨z0 10 (by decide), fun k hk => absurd hk (Nat.not_lt_zero k)⟩, fun pl hpl => ?_⟩, fun j hj => ⟨zz 60 j (by decide) (by decide) (by decide) (by decide) (by decide) (by decide) (by decide), fun hh => absurd hh (Nat.lt_irrefl 0)⟩, fun p hp => ⟨y64 p hp, fun k hk => absurd hk (Nat.not_lt_zero k)⟩, fun b hb => y14 b (by omega)⟩
  have hi := iOf_lt hB3 hpl
  generalize iOf B pl = i at *
  have q : ∀ c, 2 ≤ c → c ≤ 63 → c ≠ 6 → c ≠ 14 → c ≠ 39 → c ≠ 44 → c ≠ 49 → ∀ k, τ c k = 0 := fun c h1 h2 h3 h4 h5 h6 h7 k => zz c k h1 h2 h3 h4 h5 h6 h7
  have w : ∀ c k, c = 2 ∨ c = 3 ∨ c = 4 ∨ c = 5 ∨ c = 7 ∨ c = 8 ∨ c = 9 ∨ c = 10 ∨ c = 11 ∨ c = 12 ∨ c = 13 ∨ c = 15 ∨ c = 22 ∨ c = 46 ∨ c = 51 ∨ c = 52 ∨ c = 53 ∨ c = 54 ∨ c = 55 ∨ c = 59 → τ c k = 0 := fun c k hc => zz c k (by omega) (by omega) (by omega) (by omega) (by omega) (by omega) (by omega)
  refine ⟨⟨⟨w 3 i (by decide), w 4 i (by decide), w 5 i (by decide), m1 6 i (by decide) hi, w 7 i (by decide), w 8 i (by decide), w 9 i (by decide), w 10 i (by decide), w 11 i (by decide), w 12 i (by decide), w 13 i (by decide)⟩, fun x x1 x2 => absurd x2 (Nat.not_lt_zero x), ⟨w 2 i (by decide), fun c c1 => absurd c1 (Nat.not_lt_zero c), fun s s1 s2 => w 15 _ (by decide), fun c c1 => absurd c1 (Nat.not_lt_zero c)⟩, w 22 i (by decide), by show (0 : Nat) < 4400; decide, fun k hk => absurd hk (Nat.not_lt_zero k)⟩, ⟨fun c c1 c2 c3 => ?_, m1 39 i (by decide) hi⟩, fun x x1 x2 => ?_, m1 49 i (by decide) hi, w 51 i (by decide), w 52 i (by decide), w 53 i (by decide), w 54 i (by decide), ⟨w 55 i (by decide), Nat.zero_le _, fun k hk => absurd hk (Nat.not_lt_zero k)⟩, fun s hs => ⟨w 59 _ (by decide), Nat.zero_le _, fun hh => absurd hh (Nat.lt_irrefl 0), fun k hk => absurd hk (Nat.not_lt_zero k)⟩⟩
  · rw [zz c i (by omega) (by omega) (by omega) (by omega) (by omega) (by omega) (by omega)]
    rfl
  · have hx : x % 32 < 32 := Nat.mod_lt _ (by decide)
    exact ⟨y44 _ (by omega), Nat.zero_le _, fun k hk => w 46 _ (by decide), fun k hk => absurd hk Bool.false_ne_true, fun k hk ht => absurd ht Bool.false_ne_true⟩
theorem start_ok : ∀ x y P σ τ, INC x y P σ → INM x y τ → Rel 0 P σ τ := by
  intro x y P σ τ hC hM
  obtain ⟨B, b1, b3, hP, hx, rfl⟩ := hC
  obtain ⟨B', b1', b3', hx', rfl⟩ := hM
  have e : B' = B := by
    rw [hx] at hx'
    exact ((nI_eq (by omega) (by omega)).mp hx').symm
  subst e
  exact ⟨B', y, 0, [], M0, b1, b3, hP, M0_C b1 b3 hP, M0_M b3, M0_inv, Nat.zero_le _, fun x hx => absurd hx List.not_mem_nil⟩
