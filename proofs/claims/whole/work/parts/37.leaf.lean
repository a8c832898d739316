/-! PURE: leaves of the class: bytes on the air, a piece's field -/
def Air (σ : Sg) (c : Nat) (l : List Int32) : Prop := σ c 1 = nI l.length ∧ l.length ≤ 250 ∧ ∀ (k : Nat) (v : Int32), l[k]? = some v → σ (c + 1) k = v
theorem Air.of {σ σ' : Sg} {c : Nat} {l : List Int32} (h : Air σ c l) (h0 : σ' c 1 = σ c 1) (h1 : σ' (c + 1) = σ (c + 1)) : Air σ' c l := ⟨h0.trans h.1, h.2.1, fun k v hk => by rw [h1]; exact h.2.2 k v hk⟩
theorem at_ok {σ : Sg} {c i : Nat} {l : List Int32} {Q : Int32 → Sg → Prop} (hA : Air σ c l) (hi : i < 2 ^ 31) (h : Q (l.getD i 0) σ) : wpX0_at c (nI i) σ Q := by
  obtain ⟨h1, h2, h3⟩ := hA
  unfold wpX0_at
  rw [h1, nI_clamp hi]
  refine ⟨fun hc => absurd hc (nI_pos hi), fun _ => ⟨fun hc => ?_, fun hc => ?_⟩⟩
  · have h9 : l.length ≤ i := (nI_leI (by omega) hi).mp hc
    rw [List.getD_eq_getElem?_getD, List.getElem?_eq_none h9] at h
    exact h
  · have h9 : i < l.length := Nat.not_le.mp fun h9 => hc (nI_le h9 hi)
    refine ⟨vin rfl (by omega) (by decide), ?_⟩
    rw [h3 i _ (List.getElem?_eq_getElem h9)]
    rw [List.getD_eq_getElem?_getD, List.getElem?_eq_getElem h9] at h
    exact h
theorem put_ok {σ : Sg} {c : Nat} {l : List Int32} {v : Int32} {Q : Sg → Prop} (hA : Air σ c l) (hl : l.length < 250) (h : ∀ σ' : Sg, Air σ' c (l ++ [v]) → (∀ d, d ≠ c → d ≠ c + 1 → σ' d = σ d) → Q σ') : wpX0_put c v σ Q := by
  obtain ⟨h1, h2, h3⟩ := hA
  unfold wpX0_put
  rw [h1]
  refine ⟨fun hc => absurd hc (nI_ge hl (by decide)), fun _ => ?_⟩
  rintro _ rfl
  refine ⟨vin rfl hl (by decide), ?_⟩
  rintro _ rfl
  rw [nI_clamp (by omega), nI_1]
  refine h _ ⟨?_, by simp; omega, fun k x hk => ?_⟩ (fun d d1 d2 => by rw [up2_o d2, up2_o d1])
  · rw [up2_o (by omega), up2_e, if_pos ⟨rfl, rfl⟩]
    simp
  · rw [up2_e]
    by_cases e : k = l.length
    · subst e
      rw [if_pos ⟨rfl, rfl⟩]
      simp at hk
      exact hk
    · rw [if_neg (fun h => e h.2), up2_o (by omega)]
      have hk2 : k < l.length := by
        have := (List.getElem?_eq_some_iff.mp hk).1
        simp at this
        omega
      rw [List.getElem?_append_left hk2] at hk
      exact h3 k x hk
theorem set_ok {σ : Sg} {c i : Nat} {l : List Int32} {v : Int32} {Q : Sg → Prop} (hA : Air σ c l) (hi : i < l.length) (h : ∀ σ' : Sg, Air σ' c (l.set i v) → (∀ d, d ≠ c + 1 → σ' d = σ d) → Q σ') : wpX0_set c (nI i) v σ Q := by
  obtain ⟨h1, h2, h3⟩ := hA
  unfold wpX0_set
  rw [h1]
  refine ⟨fun hc => absurd hc (nI_pos (by omega)), fun _ => ⟨fun hc => absurd hc (nI_ge hi (by omega)), fun _ => ⟨vin rfl (by omega) (by decide), ?_⟩⟩⟩
  rintro _ rfl
  rw [nI_clamp (by omega)]
  refine h _ ⟨by rw [up2_o (by omega), h1, List.length_set], by rw [List.length_set]; exact h2, fun k x hk => ?_⟩ (fun d d1 => up2_o d1)
  rw [up2_e]
  rw [List.getElem?_set] at hk
  by_cases e : k = i
  · subst e
    rw [if_pos ⟨rfl, rfl⟩]
    rw [if_pos rfl, if_pos hi] at hk
    exact Option.some.inj hk
  · rw [if_neg (fun h => e h.2)]
    rw [if_neg (fun h => e h.symm)] at hk
    exact h3 k x hk
/-- a bit of a cell -/
def bit (b x : Int32) : Bool := decide (¬ x &&& b = 0)
def b01 (b : Bool) : Int32 := if b then 1 else 0
theorem b01_0 {b : Bool} : b01 b = 0 ↔ b = false := by cases b <;> simp [b01]
theorem cell_ok {σ : Sg} {c i : Nat} {Q : Int32 → Sg → Prop} (hi : i < 240) (h : Q (σ (c + 1) i) σ) : wpX5_cell c (nI i) σ Q := by
  unfold wpX5_cell
  rw [nI_clamp (by omega)]
  exact ⟨fun hc => absurd hc (nI_pos (by omega)), fun _ => ⟨fun hc => absurd hc (nI_ge hi (by decide)), fun _ => ⟨vin rfl hi (by decide), h⟩⟩⟩
theorem has_ok {σ : Sg} {c i : Nat} {b : Int32} {Q : Int32 → Sg → Prop} (hi : i < 240) (h : Q (b01 (bit b (σ (c + 1) i))) σ) : wpX5_has c (nI i) b σ Q := by
  unfold wpX5_has
  rw [nI_clamp (by omega)]
  refine ⟨fun hc => absurd hc (nI_pos (by omega)), fun _ => ⟨fun hc => absurd hc (nI_ge hi (by decide)), fun _ => ⟨vin rfl hi (by decide), fun hz => ?_, fun hz => ?_⟩⟩⟩
  · simp [bit, hz, b01] at h
    exact h
  · simp [bit, hz, b01] at h
    exact h
theorem has_neg {σ : Sg} {c : Nat} {b : Int32} {Q : Int32 → Sg → Prop} (h : Q 0 σ) : wpX5_has c (-1) b σ Q := by
  unfold wpX5_has
  exact ⟨fun _ => h, fun hc => absurd (by decide) hc⟩
/-- how many of n places from a on -/
def cnt (f : Nat → Bool) (a : Nat) : Nat → Nat
  | 0 => 0
  | n + 1 => cnt f a n + if f (a + n) then 1 else 0
theorem cnt_le {f : Nat → Bool} {a : Nat} : ∀ n, cnt f a n ≤ n
  | 0 => Nat.le_refl 0
  | n + 1 => by
    have := cnt_le (f := f) (a := a) n
    unfold cnt
    split <;> omega
theorem ends1 {σ : Sg} {c a b : Nat} {Q : Int32 → Sg → Prop} (hb : b ≤ 240) (h1 : 1 ≤ b) (h : Q (nI (cnt (fun k => bit 512 (σ (c + 1) k)) a (b - 1 - a))) σ) : ∀ (m i : Nat), a ≤ i → i + m = b - 1 → wpX5_innerEnds_L5 Q (m + 1) c (nI b) (nI (cnt (fun k => bit 512 (σ (c + 1) k)) a (i - a))) (nI i) σ := by
  have eb : nI b - 1 = nI (b - 1) := pk_sub (a := b) (b := 1) h1
  intro m
  induction m with
  | zero =>
    intro i ha hi
    unfold wpX5_innerEnds_L5
    rw [eb]
    refine ⟨fun _ => ?_, fun hc => absurd (nI_le (a := b - 1) (b := i) (by omega) (by omega)) hc⟩
    rw [show i - a = b - 1 - a by omega]
    exact h
  | succ m ih =>
    intro i ha hi
    unfold wpX5_innerEnds_L5
    rw [eb]
    refine ⟨fun hc => absurd hc (nI_ge (a := i) (b := b - 1) (by omega) (by omega)), fun _ => has_ok (by omega) ?_⟩
    have hk := ih (i + 1) (by omega) (by omega)
    have ec : cnt (fun k => bit 512 (σ (c + 1) k)) a (i + 1 - a) = cnt (fun k => bit 512 (σ (c + 1) k)) a (i - a) + if bit 512 (σ (c + 1) i) then 1 else 0 := by
      rw [show i + 1 - a = (i - a) + 1 by omega]
      show cnt _ a (i - a) + _ = _
      rw [show a + (i - a) = i by omega]
    rw [ec] at hk
    refine ⟨fun hz => ?_, fun hz => ?_⟩
    · unfold wpX5_innerEnds_L28
      rintro _ rfl
      rw [b01_0] at hz
      rw [hz] at hk
      rw [nI_1]
      exact hk
    · rintro _ rfl
      unfold wpX5_innerEnds_L28
      rintro _ rfl
      rw [b01_0] at hz
      have hz : bit 512 (σ (c + 1) i) = true := by simpa using hz
      rw [hz] at hk
      rw [nI_1, nI_1]
      exact hk
theorem innerEnds_ok {σ : Sg} {c a b : Nat} {Q : Int32 → Sg → Prop} (hb : b ≤ 240) (hab : a < b) (h : Q (nI (cnt (fun k => bit 512 (σ (c + 1) k)) a (b - 1 - a))) σ) : wpX5_innerEnds c (nI a) (nI b) σ Q := by
  refine ⟨b - 1 - a + 1, ?_⟩
  have := ends1 hb (by omega) h (b - 1 - a) a (Nat.le_refl a) (by omega)
  rw [Nat.sub_self] at this
  exact this
/-- the first place from i on, below up, where the mark is as asked; else up -/
def nmF (row : Nat → Int32) (w : Bool) (up : Nat) : Nat → Nat → Nat
  | 0, _ => up
  | m + 1, i => if bit 1024 (row i) = w then i else nmF row w up m (i + 1)
theorem nm1 {σ : Sg} {c up : Nat} {w : Bool} {Q : Int32 → Sg → Prop} (hu : up ≤ 240) : ∀ (m i : Nat), i + m = up → Q (nI (nmF (σ (c + 1)) w up m i)) σ → wpX5_nextMark_L7 Q (m + 1) c (nI up) (b01 w) (nI i) σ := by
  intro m
  induction m with
  | zero =>
    intro i hi h
    unfold wpX5_nextMark_L7
    exact ⟨fun _ => h, fun hc => absurd (nI_le (a := up) (b := i) (by omega) (by omega)) hc⟩
  | succ m ih =>
    intro i hi h
    unfold wpX5_nextMark_L7
    rw [nI_clamp (n := i) (by omega)]
    have fin : ∀ z : Int32, z = b01 (bit 1024 (σ (c + 1) i)) → wpX5_nextMark_L42 Q (wpX5_nextMark_L7 Q (m + 1)) c (nI up) (b01 w) (nI i) z σ := by
      intro z ez
      unfold wpX5_nextMark_L42
      rw [ez]
      refine ⟨fun hz => ?_, fun hz => ?_⟩
      · rintro _ rfl
        rw [nI_1]
        refine ih (i + 1) (by omega) ?_
        rw [nmF, if_neg (fun e => hz (by rw [e]))] at h
        exact h
      · have e : bit 1024 (σ (c + 1) i) = w := by
          revert hz
          cases bit 1024 (σ (c + 1) i) <;> cases w <;> simp [b01]
        rw [nmF, if_pos e] at h
        exact h
    refine ⟨fun hc => absurd hc (nI_ge (a := i) (b := up) (by omega) (by omega)), fun _ => ⟨fun hc => absurd hc (nI_ge (a := i) (b := 240) (by omega) (by decide)), fun _ => ⟨vin rfl (by omega) (by decide), fun hz => fin 0 ?_, fun hz => fin 1 ?_⟩⟩⟩
    · simp [bit, hz, b01]
    · simp [bit, hz, b01]
theorem nextMark_ok {σ : Sg} {c up i : Nat} {w : Bool} {Q : Int32 → Sg → Prop} (hu : up ≤ 240) (hi : i ≤ up) (h : Q (nI (nmF (σ (c + 1)) w up (up - i) i)) σ) : wpX5_nextMark c (nI i) (nI up) (b01 w) σ Q := by
  unfold wpX5_nextMark
  intro w1 e1
  rw [if_neg (nI_pos (by omega))] at e1
  subst e1
  exact ⟨up - i + 1, nm1 hu (up - i) i (by omega) h⟩
theorem nmF_spec {row : Nat → Int32} {w : Bool} {up : Nat} : ∀ (m i : Nat), i + m = up → i ≤ nmF row w up m i ∧ nmF row w up m i ≤ up ∧ (∀ k, i ≤ k → k < nmF row w up m i → ¬ bit 1024 (row k) = w) ∧ (nmF row w up m i < up → bit 1024 (row (nmF row w up m i)) = w) := by
  intro m
  induction m with
  | zero => intro i hi; exact ⟨by simp [nmF]; omega, by simp [nmF], fun k h1 h2 => by simp [nmF] at h2; omega, fun h => by simp [nmF] at h⟩
  | succ m ih =>
    intro i hi
    rw [nmF]
    by_cases e : bit 1024 (row i) = w
    · rw [if_pos e]
      exact ⟨Nat.le_refl i, by omega, fun k h1 h2 => by omega, fun _ => e⟩
    · rw [if_neg e]
      obtain ⟨h1, h2, h3, h4⟩ := ih (i + 1) (by omega)
      refine ⟨by omega, h2, fun k a b => ?_, h4⟩
      by_cases ek : k = i
      · subst ek
        exact e
      · exact h3 k (by omega) b
