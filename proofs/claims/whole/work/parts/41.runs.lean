/-! PURE: runs of bytes that are missing -/
def nxG (f : Nat → Bool) (w : Bool) (up : Nat) : Nat → Nat → Nat
  | 0, _ => up
  | m + 1, i => if f i = w then i else nxG f w up m (i + 1)
def nxt (f : Nat → Bool) (w : Bool) (up i : Nat) : Nat := nxG f w up (up - i) i
theorem nmF_nxG {row : Nat → Int32} {f : Nat → Bool} {w : Bool} {up : Nat} : ∀ (m i : Nat), (∀ k, i ≤ k → k < i + m → bit 1024 (row k) = f k) → nmF row w up m i = nxG f w up m i
  | 0, _, _ => rfl
  | m + 1, i, h => by
    unfold nmF nxG
    rw [h i (Nat.le_refl _) (by omega), nmF_nxG m (i + 1) (fun k h1 h2 => h k (by omega) (by omega))]
theorem nxG_spec {f : Nat → Bool} {w : Bool} {up : Nat} : ∀ (m i : Nat), i + m = up → i ≤ nxG f w up m i ∧ nxG f w up m i ≤ up ∧ (∀ k, i ≤ k → k < nxG f w up m i → ¬ f k = w) ∧ (nxG f w up m i < up → f (nxG f w up m i) = w) := by
  intro m
  induction m with
  | zero => intro i hi; exact ⟨by simp [nxG]; omega, by simp [nxG], fun k h1 h2 => by simp [nxG] at h2; omega, fun h => by simp [nxG] at h⟩
  | succ m ih =>
    intro i hi
    rw [nxG]
    by_cases e : f i = w
    · rw [if_pos e]
      exact ⟨Nat.le_refl i, by omega, fun k h1 h2 => by omega, fun _ => e⟩
    · rw [if_neg e]
      obtain ⟨h1, h2, h3, h4⟩ := ih (i + 1) (by omega)
      refine ⟨by omega, h2, fun k a b => ?_, h4⟩
      by_cases ek : k = i
      · subst ek
        exact e
      · exact h3 k (by omega) b
theorem nxt_spec {f : Nat → Bool} {w : Bool} {up i : Nat} (h : i ≤ up) : i ≤ nxt f w up i ∧ nxt f w up i ≤ up ∧ (∀ k, i ≤ k → k < nxt f w up i → ¬ f k = w) ∧ (nxt f w up i < up → f (nxt f w up i) = w) := nxG_spec (up - i) i (by omega)
/-- it is the only such place -/
theorem nxt_uniq {f : Nat → Bool} {w : Bool} {up i a : Nat} (h1 : i ≤ a) (h2 : a ≤ up) (h3 : ∀ k, i ≤ k → k < a → ¬ f k = w) (h4 : a < up → f a = w) : nxt f w up i = a := by
  obtain ⟨g1, g2, g3, g4⟩ := nxt_spec (f := f) (w := w) (up := up) (i := i) (by omega)
  rcases Nat.lt_trichotomy (nxt f w up i) a with h | h | h
  · exact absurd (g4 (by omega)) (h3 _ g1 h)
  · exact h
  · exact absurd (h4 (by omega)) (g3 _ h1 h)
theorem nextMark_ok2 {σ : Sg} {c up i : Nat} {w : Bool} {f : Nat → Bool} {Q : Int32 → Sg → Prop} (hu : up ≤ 240) (hi : i ≤ up) (hf : ∀ k, i ≤ k → k < up → bit 1024 (σ (c + 1) k) = f k) (h : Q (nI (nxt f w up i)) σ) : wpX5_nextMark c (nI i) (nI up) (b01 w) σ Q := by
  refine nextMark_ok hu hi ?_
  rw [nmF_nxG (f := f) (up - i) i (fun k h1 h2 => hf k h1 (by omega))]
  exact h
def scn (f : Nat → Bool) (up : Nat) : Nat → Nat → List (Nat × Nat)
  | 0, _ => []
  | m + 1, k => if f k = false ∧ (k = 0 ∨ f (k - 1) = true) then (k, nxt f true up k) :: scn f up m (k + 1) else scn f up m (k + 1)
theorem scn_T {f : Nat → Bool} {up : Nat} : ∀ n i, i + n ≤ up → (∀ k, i ≤ k → k < i + n → f k = true) → scn f up (up - i) i = scn f up (up - (i + n)) (i + n)
  | 0, _, _, _ => rfl
  | n + 1, i, h, ht => by
    rw [show up - i = (up - (i + 1)) + 1 by omega, scn, if_neg (by rw [ht i (Nat.le_refl _) (by omega)]; simp), scn_T n (i + 1) (by omega) (fun k h1 h2 => ht k (by omega) (by omega)), show i + 1 + n = i + (n + 1) by omega]
theorem scn_F {f : Nat → Bool} {up : Nat} : ∀ n i, 0 < i → f (i - 1) = false → i + n ≤ up → (∀ k, i ≤ k → k < i + n → f k = false) → scn f up (up - i) i = scn f up (up - (i + n)) (i + n)
  | 0, _, _, _, _, _ => rfl
  | n + 1, i, h0, hp, h, ht => by
    rw [show up - i = (up - (i + 1)) + 1 by omega, scn, if_neg (by rw [hp]; simp; omega), scn_F n (i + 1) (by omega) (ht i (Nat.le_refl _) (by omega)) (by omega) (fun k h1 h2 => ht k (by omega) (by omega)), show i + 1 + n = i + (n + 1) by omega]
/-- the runs from a place on where one may begin -/
theorem scn_nxt {f : Nat → Bool} {up i : Nat} (hi : i ≤ up) (h : i = 0 ∨ f (i - 1) = true ∨ f i = true ∨ i = up) : scn f up (up - i) i = if nxt f false up i < up then (nxt f false up i, nxt f true up (nxt f false up i)) :: scn f up (up - nxt f true up (nxt f false up i)) (nxt f true up (nxt f false up i)) else [] := by
  obtain ⟨h1, h2, h3, h4⟩ := nxt_spec (f := f) (w := false) hi
  generalize nxt f false up i = a at *
  have hT : ∀ k, i ≤ k → k < a → f k = true := fun k x y => by simpa using h3 k x y
  rw [scn_T (a - i) i (by omega) (fun k x y => hT k x (by omega)), show i + (a - i) = a by omega]
  by_cases ha : a < up
  · rw [if_pos ha]
    obtain ⟨g1, g2, g3, g4⟩ := nxt_spec (f := f) (w := true) h2
    have hF : ∀ k, a ≤ k → k < nxt f true up a → f k = false := fun k x y => by simpa using g3 k x y
    have hb : a < nxt f true up a := by
      rcases Nat.lt_or_ge a (nxt f true up a) with h | h
      · exact h
      · have e : nxt f true up a = a := by omega
        have := g4 (by omega)
        rw [e, h4 ha] at this
        cases this
    rw [show up - a = (up - (a + 1)) + 1 by omega, scn, if_pos ?_]
    · congr 1
      rw [scn_F (nxt f true up a - (a + 1)) (a + 1) (by omega) (h4 ha) (by omega) (fun k x y => hF k (by omega) (by omega)), show a + 1 + (nxt f true up a - (a + 1)) = nxt f true up a by omega]
    · refine ⟨h4 ha, ?_⟩
      rcases Nat.eq_or_lt_of_le h1 with e | e
      · subst e
        rcases h with h | h | h | h
        · exact Or.inl h
        · exact Or.inr h
        · rw [h4 ha] at h; cases h
        · omega
      · exact Or.inr (hT (a - 1) (by omega) (by omega))
  · rw [if_neg ha, show up - a = 0 by omega]
    rfl
def upR (l : List Cel) (kn : Bool) : Nat := if kn then l.length else 240
theorem reach_ok {σ : Sg} {c : Nat} {l : List Cel} {kn : Bool} {th : Nat → Bool} {Q : Int32 → Sg → Prop} (hP : RpC σ c l kn th) (h : Q (nI (upR l kn)) σ) : wpX5_reach c σ Q := by
  obtain ⟨h1, h2, -⟩ := hP
  unfold wpX5_reach
  rw [h1]
  cases kn
  · exact brt' rfl h
  · refine brf' ?_ h
    show ¬ nI l.length = -1
    intro e
    have := nI_pos' (n := l.length) (by omega)
    rw [e] at this
    exact absurd this (by decide)
theorem upR_le {l : List Cel} {kn : Bool} (h : l.length ≤ 240) : upR l kn ≤ 240 := by unfold upR; split <;> omega
theorem mr1 {σ : Sg} {c : Nat} {l : List Cel} {kn : Bool} {th : Nat → Bool} {Q : Int32 → Sg → Prop} (hP : RpC σ c l kn th) : ∀ (n i j r : Nat), i ≤ upR l kn → (i = 0 ∨ th (i - 1) = true ∨ th i = true ∨ i = upR l kn) → upR l kn - i < n → j ≤ i → r < 1000 + j → Q (nI (r + (scn th (upR l kn) (upR l kn - i) i).length)) σ → wpX5_missingRuns_L15 Q n c (nI r) (nI (nxt th false (upR l kn) i)) (nI j) σ := by
  have hu := upR_le (kn := kn) hP.2.1
  have hm : ∀ i k, i ≤ k → k < upR l kn → bit 1024 (σ (c + 1) k) = th k := fun i k _ h => hP.mk (by omega)
  intro n
  induction n with
  | zero => intro i j r _ _ h; omega
  | succ n ih =>
    intro i j r hi hs hn hj hr h
    rw [scn_nxt hi hs] at h
    obtain ⟨h1, h2, h3, h4⟩ := nxt_spec (f := th) (w := false) hi
    generalize nxt th false (upR l kn) i = a at *
    unfold wpX5_missingRuns_L15
    by_cases ha : a < upR l kn
    · rw [if_pos ha] at h
      obtain ⟨g1, g2, g3, g4⟩ := nxt_spec (f := th) (w := true) h2
      have hb : a < nxt th true (upR l kn) a := by
        rcases Nat.lt_or_ge a (nxt th true (upR l kn) a) with h | h
        · exact h
        · have e : nxt th true (upR l kn) a = a := by omega
          have := g4 (by omega)
          rw [e, h4 ha] at this
          cases this
      refine pk_le 240 j (fun hc => by omega) (fun _ => reach_ok hP (brf (nI_ge ha (by omega)) ?_))
      rintro _ rfl
      refine reach_ok hP (nextMark_ok2 (w := true) hu h2 (hm _) (reach_ok hP (nextMark_ok2 (w := false) hu g2 (hm _) ?_)))
      rintro _ rfl
      rw [nI_1, nI_1]
      refine ih _ (j + 1) (r + 1) g2 ?_ (by omega) (by omega) (by omega) ?_
      · rcases Nat.lt_or_ge (nxt th true (upR l kn) a) (upR l kn) with h | h
        · exact Or.inr (Or.inr (Or.inl (g4 h)))
        · exact Or.inr (Or.inr (Or.inr (by omega)))
      · rw [List.length_cons] at h
        rw [show r + 1 + (scn th (upR l kn) (upR l kn - nxt th true (upR l kn) a) (nxt th true (upR l kn) a)).length = r + ((scn th (upR l kn) (upR l kn - nxt th true (upR l kn) a) (nxt th true (upR l kn) a)).length + 1) by omega]
        exact h
    · rw [if_neg ha] at h
      refine pk_le 240 j (fun hc => h) (fun _ => reach_ok hP (brt (nI_le (by omega) (by omega)) h))
def runs (l : List Cel) (kn : Bool) (th : Nat → Bool) : List (Nat × Nat) := scn th (upR l kn) (upR l kn) 0
theorem missingRuns_ok {σ : Sg} {c : Nat} {l : List Cel} {kn : Bool} {th : Nat → Bool} {Q : Int32 → Sg → Prop} (hP : RpC σ c l kn th) (h : Q (nI (runs l kn th).length) σ) : wpX5_missingRuns c σ Q := by
  have hu := upR_le (kn := kn) hP.2.1
  unfold wpX5_missingRuns
  refine reach_ok hP (nextMark_ok2 (i := 0) (w := false) hu (Nat.zero_le _) (fun k _ h => hP.mk (by omega)) ⟨upR l kn + 1, ?_⟩)
  refine mr1 hP (upR l kn + 1) 0 0 0 (Nat.zero_le _) (Or.inl rfl) (by omega) (Nat.le_refl _) (by decide) ?_
  rw [Nat.zero_add]
  exact h
def rnB (x : Nat) (kn : Bool) (r : Nat × Nat) : List Int32 := [nI (x % 64) + 128, nI r.1, if kn = false ∧ r.2 = 240 then 255 else nI (r.2 - 1)]
def rsB (x : Nat) (kn : Bool) : List (Nat × Nat) → List Int32
  | [] => []
  | r :: rs => rnB x kn r ++ rsB x kn rs
theorem rsB_len {x : Nat} {kn : Bool} : ∀ rs, (rsB x kn rs).length = 3 * rs.length
  | [] => rfl
  | r :: rs => by rw [rsB, List.length_append, rsB_len rs, List.length_cons]; simp [rnB]; omega
theorem wm1 {c a x : Nat} {l : List Cel} {kn : Bool} {th : Nat → Bool} {Q : Sg → Prop} (hca : c ≠ a ∧ c ≠ a + 1 ∧ c + 1 ≠ a) (hx : x < 2 ^ 31) : ∀ (n i j : Nat) (σ : Sg) (bs : List Int32), RpC σ c l kn th → Air σ a bs → i ≤ upR l kn → (i = 0 ∨ th (i - 1) = true ∨ th i = true ∨ i = upR l kn) → upR l kn - i < n → j ≤ i → bs.length + 3 * (scn th (upR l kn) (upR l kn - i) i).length ≤ 250 → (∀ σ' : Sg, Air σ' a (bs ++ rsB x kn (scn th (upR l kn) (upR l kn - i) i)) → Frm a σ σ' → Q σ') → wpX5_writeMissing_L14 Q n c a (nI x) (nI (nxt th false (upR l kn) i)) (nI j) σ := by
  intro n
  induction n with
  | zero => intro i j σ bs _ _ _ _ h; omega
  | succ n ih =>
    intro i j σ bs hP hA hi hs hn hj hl h
    have hu := upR_le (kn := kn) hP.2.1
    rw [scn_nxt hi hs] at h hl
    obtain ⟨h1, h2, h3, h4⟩ := nxt_spec (f := th) (w := false) hi
    generalize nxt th false (upR l kn) i = p at *
    unfold wpX5_writeMissing_L14
    by_cases ha : p < upR l kn
    · rw [if_pos ha] at h hl
      rw [List.length_cons] at hl
      obtain ⟨g1, g2, g3, g4⟩ := nxt_spec (f := th) (w := true) h2
      have hb : p < nxt th true (upR l kn) p := by
        rcases Nat.lt_or_ge p (nxt th true (upR l kn) p) with h | h
        · exact h
        · have e : nxt th true (upR l kn) p = p := by omega
          have := g4 (by omega)
          rw [e, h4 ha] at this
          cases this
      refine pk_le 240 j (fun hc => by omega) (fun _ => reach_ok hP (brf (nI_ge ha (by omega)) ?_))
      refine reach_ok hP (nextMark_ok2 (w := true) hu h2 (fun k _ h => hP.mk (by omega)) ?_)
      have hs2 : nxt th true (upR l kn) p = 0 ∨ th (nxt th true (upR l kn) p - 1) = true ∨ th (nxt th true (upR l kn) p) = true ∨ nxt th true (upR l kn) p = upR l kn := by
        rcases Nat.lt_or_ge (nxt th true (upR l kn) p) (upR l kn) with h | h
        · exact Or.inr (Or.inr (Or.inl (g4 h)))
        · exact Or.inr (Or.inr (Or.inr (by omega)))
      generalize nxt th true (upR l kn) p = q at *
      rw [a63 hx]
      refine put_ok hA (by omega) (fun σ1 hA1 hF1 => put_ok hA1 (by simp; omega) (fun σ2 hA2 hF2 => ?_))
      have hPF : ∀ σ3 : Sg, Frm a σ σ3 → RpC σ3 c l kn th := fun σ3 hF => hP.of (by rw [hF c hca.1 hca.2.1]) (by rw [hF c hca.1 hca.2.1]) (by rw [hF (c + 1) hca.2.2 (by omega)])
      have hF12 : Frm a σ σ2 := fun d d1 d2 => (hF2 d d1 d2).trans (hF1 d d1 d2)
      have fin : ∀ z : Int32, z = (if kn = false ∧ q = 240 then 255 else nI (q - 1)) → wpX5_writeMissing_L86 Q (wpX5_writeMissing_L14 Q n) c a (nI x) (nI j) (nI q) z a σ2 := by
        intro z ez
        unfold wpX5_writeMissing_L86
        refine put_ok hA2 (by simp; omega) (fun σ3 hA3 hF3 => ?_)
        have hF13 : Frm a σ σ3 := fun d d1 d2 => (hF3 d d1 d2).trans (hF12 d d1 d2)
        have hP3 := hPF σ3 hF13
        refine reach_ok hP3 (nextMark_ok2 (w := false) hu g2 (fun k _ h => hP3.mk (by omega)) ?_)
        rintro _ rfl
        rw [nI_1]
        refine ih q (j + 1) σ3 _ hP3 hA3 g2 hs2 (by omega) (by omega) (by simp; omega) (fun σ4 hA4 hF4 => h σ4 ?_ (fun d d1 d2 => (hF4 d d1 d2).trans (hF13 d d1 d2)))
        rw [rsB, rnB, ← ez]
        simpa using hA4
      have e1 : nI q - 1 = nI (q - 1) := pk_sub (a := q) (b := 1) (by omega)
      have hP2 := hPF σ2 hF12
      rw [hP2.1]
      have f82 : ¬ (kn = false ∧ q = 240) → wpX5_writeMissing_L82 Q (wpX5_writeMissing_L14 Q n) c a (nI x) (nI j) (nI q) a σ2 := by
        intro hne
        unfold wpX5_writeMissing_L82
        rw [e1]
        exact fin _ (by rw [if_neg hne])
      cases kn
      · refine brt' rfl ⟨fun hc => f82 (fun h9 => hc (by rw [h9.2]; rfl)), fun hc => ?_⟩
        have : q = 240 := (nI_eq (by omega) (by decide)).mp hc
        exact fin _ (by rw [if_pos ⟨rfl, this⟩])
      · refine brf' ?_ (f82 (by simp))
        show ¬ nI l.length = -1
        intro e
        have h9 := hP.2.1
        have := nI_pos' (n := l.length) (by omega)
        rw [e] at this
        exact absurd this (by decide)
    · rw [if_neg ha] at h
      have hend : Q σ := h σ (by rw [rsB, List.append_nil]; exact hA) (fun _ _ _ => rfl)
      refine pk_le 240 j (fun hc => hend) (fun _ => reach_ok hP (brt (nI_le (by omega) (by omega)) hend))
theorem writeMissing_ok {σ : Sg} {c a x : Nat} {l : List Cel} {kn : Bool} {th : Nat → Bool} {bs : List Int32} {Q : Sg → Prop} (hca : c ≠ a ∧ c ≠ a + 1 ∧ c + 1 ≠ a) (hx : x < 2 ^ 31) (hP : RpC σ c l kn th) (hA : Air σ a bs) (hl : bs.length + 3 * (runs l kn th).length ≤ 250) (h : ∀ σ' : Sg, Air σ' a (bs ++ rsB x kn (runs l kn th)) → Frm a σ σ' → Q σ') : wpX5_writeMissing c a (nI x) σ Q := by
  have hu := upR_le (kn := kn) hP.2.1
  unfold wpX5_writeMissing
  refine reach_ok hP (nextMark_ok2 (i := 0) (w := false) hu (Nat.zero_le _) (fun k _ h => hP.mk (by omega)) ⟨upR l kn + 1, ?_⟩)
  exact wm1 hca hx (upR l kn + 1) 0 0 σ bs hP hA (Nat.zero_le _) (Or.inl rfl) (by omega) (Nat.le_refl _) hl h
