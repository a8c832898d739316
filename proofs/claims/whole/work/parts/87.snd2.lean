/-! PURE: the house: a peer sends, in the reference -/
def CrD (τ : Sg) (j : Nat) (c : Car) : Prop := τ 61 j = nI c.2.1 ∧ τ 63 j = b01 c.2.2.1 ∧ ∀ k, k < c.2.1 → τ 62 (250 * j + k) = c.2.2.2.1.getD k 0
def CrM (τ : Sg) (j : Nat) (c : Car) : Prop := τ 60 j = nI c.1 ∧ (0 < c.1 → CrD τ j c)
def ShM (τ : Sg) (tk p : Nat) (M : Hm) : Prop := τ 64 p = (if M.2.2.2.1 p = 0 then -1 else nI (M.2.2.2.1 p)) ∧ ∀ k, k < M.2.2.2.1 p → τ 65 (250 * p + k) = (M.2.2.1 (pj p tk)).2.2.2.1.getD k 0
def Rp0 (τ : Sg) (B : Nat) (y : Int32) (tk : Nat) (tp : List Int32) (hs : Nat → Smd) (hr : Nat → Rmd) (gl : Nat → Int32) : Prop := τ 0 0 = nI B ∧ KyM τ y (gl 10) ∧ τ 0 2 = nI tk ∧ (∀ k, 4 ≤ k → k ≤ 8 → τ 0 k = gl (k + 7)) ∧ (τ 0 10 = nI tp.length ∧ ∀ k, k < tp.length → τ 1 k = tp.getD k 0) ∧ LkM τ B hs hr
def RepM (τ : Sg) (B : Nat) (y : Int32) (tk : Nat) (tp : List Int32) (q : Nat) (M : Hm) : Prop := Rp0 τ B y tk tp M.1 M.2.1 M.2.2.2.2 ∧ (∀ j, j < 8 → CrM τ j (M.2.2.1 j)) ∧ (∀ p, p < q → ShM τ tk p M) ∧ ∀ b, b < B → τ 14 b = nI ((M.1 b).1 2)
theorem Rp0.of {τ τ' : Sg} {B : Nat} {y : Int32} {tk : Nat} {tp : List Int32} {hs : Nat → Smd} {hr : Nat → Rmd} {gl : Nat → Int32} (h : Rp0 τ B y tk tp hs hr gl) (hc : ∀ c, c ≤ 59 ∨ c = 67 → τ' c = τ c) : Rp0 τ' B y tk tp hs hr gl := by
  obtain ⟨h1, h2, h3, h4, ⟨h5, h6⟩, h7⟩ := h
  have e0 := hc 0 (by omega)
  exact ⟨by rw [e0]; exact h1, h2.of e0 (hc 67 (by omega)), by rw [e0]; exact h3, fun k k1 k2 => by rw [e0]; exact h4 k k1 k2, ⟨by rw [e0]; exact h5, fun k hk => by rw [hc 1 (by omega)]; exact h6 k hk⟩, h7.of (fun c c1 c2 _ => hc c (by omega))⟩
theorem Rp0.gl {τ : Sg} {B : Nat} {y : Int32} {tk : Nat} {tp : List Int32} {hs : Nat → Smd} {hr : Nat → Rmd} {gl : Nat → Int32} {k : Nat} {v : Int32} (h : Rp0 τ B y tk tp hs hr gl) (k1 : 4 ≤ k) (k2 : k ≤ 8) : Rp0 (up2 τ 0 k v) B y tk tp hs hr (fup gl (k + 7) v) := by
  obtain ⟨h1, h2, h3, h4, ⟨h5, h6⟩, h7⟩ := h
  refine ⟨?_, ⟨fun j hj => ?_, ?_, ?_⟩, ?_, fun j j1 j2 => ?_, ⟨?_, fun j hj => ?_⟩, h7.of (fun c c1 c2 _ => up2_o (by omega))⟩
  · rw [up2_e, if_neg (by omega)]; exact h1
  · rw [up2_o (by decide)]; exact h2.1 j hj
  · rw [up2_e, if_neg (by omega)]; exact h2.2.1
  · rw [up2_e, if_neg (by omega), fup_o (by omega)]; exact h2.2.2
  · rw [up2_e, if_neg (by omega)]; exact h3
  · rw [up2_e]
    by_cases e : j = k
    · rw [if_pos ⟨rfl, e⟩, e, fup_s]
    · rw [if_neg (fun hh => e hh.2), fup_o (by omega)]; exact h4 j j1 j2
  · rw [up2_e, if_neg (by omega)]; exact h5
  · rw [up2_o (by decide)]; exact h6 j hj
theorem gl23 {n : Nat} {first turned : Bool} {gl : Nat → Int32} : gl2 n first (gl3 turned gl) = gl3 turned (gl2 n first gl) := by
  unfold gl2 gl3
  cases first <;> cases turned <;> try rfl
  show fup (fup gl 13 (gl 13 + 1)) 15 (fup gl 13 (gl 13 + 1) 15 + nI n) = fup (fup gl 15 (gl 15 + nI n)) 13 (fup gl 15 (gl 15 + nI n) 13 + 1)
  rw [fup_o (by decide), fup_o (by decide)]
  funext j
  unfold fup
  by_cases e1 : j = 15
  · subst e1
    rfl
  · by_cases e2 : j = 13
    · subst e2
      rfl
    · rw [if_neg e1, if_neg e2, if_neg e2, if_neg e1]
/-- the block is copied to what was sent -/
theorem rs129 {p j n : Nat} {x3 x4 : Int32} {bs : List Int32} {Q : Int32 → Sg → Prop} {τ0 : Sg} (hp : p < 2) (hj : j < 8) (hn : n ≤ 250) (h61 : τ0 61 j = nI n) (h62 : ∀ k, k < n → τ0 62 (250 * j + k) = bs.getD k 0) (h : ∀ τ' : Sg, (∀ k, k < n → τ' 65 (250 * p + k) = bs.getD k 0) → (∀ k, k < 250 * p ∨ 250 * p + 250 ≤ k → τ' 65 k = τ0 65 k) → (∀ c, c ≠ 65 → τ' c = τ0 c) → ((x3 = 0 → wpX9_sends_L188 Q (nI p) x3 x4 (nI j) τ') ∧ (¬ (x3 = 0) → ∀ σ21 : Sg, σ21 = up2 τ' 0 5 ((τ' 0 5) + 1) → wpX9_sends_L188 Q (nI p) x3 x4 (nI j) σ21))) : ∀ (m k : Nat) (τ : Sg), k + m = n → (∀ i, i < k → τ 65 (250 * p + i) = bs.getD i 0) → (∀ i, i < 250 * p ∨ 250 * p + 250 ≤ i → τ 65 i = τ0 65 i) → (∀ c, c ≠ 65 → τ c = τ0 c) → wpX9_sends_L129 Q (m + 1) (nI p) x3 x4 (nI j) (nI k) τ := by
  intro m
  induction m with
  | zero =>
    intro k τ hk h1 h2 h3
    unfold wpX9_sends_L129
    rw [nI_clamp (n := j) (by omega), h3 61 (by decide), h61]
    exact ⟨vin rfl hj (by decide), brt (nI_le (by omega) (by omega)) (h τ (fun i hi => h1 i (by omega)) h2 h3)⟩
  | succ m ih =>
    intro k τ hk h1 h2 h3
    have ea : (250 * nI j) + nI k = nI (250 * j + k) := by
      have : (250 : Int32) * nI j = nI (250 * j) := pk_mul 250 j
      rw [this, nI_add]
    have eb : (250 * nI p) + nI k = nI (250 * p + k) := by
      have : (250 : Int32) * nI p = nI (250 * p) := pk_mul 250 p
      rw [this, nI_add]
    unfold wpX9_sends_L129
    rw [nI_clamp (n := j) (by omega), h3 61 (by decide), h61, ea, eb, nI_clamp (n := 250 * j + k) (by omega), nI_clamp (n := 250 * p + k) (by omega), nI_1, h3 62 (by decide), h62 k (by omega)]
    refine ⟨vin rfl hj (by decide), brf (nI_ge (by omega) (by omega)) ⟨vin rfl (by omega) (by decide), vin rfl (by omega) (by decide), ?_⟩⟩
    rintro _ rfl _ rfl
    refine ih (k + 1) _ (by omega) (fun i hi => ?_) (fun i hi => ?_) (fun c hc => by rw [up2_o hc, h3 c hc])
    · rw [up2_e]
      by_cases e : i = k
      · rw [if_pos ⟨rfl, by omega⟩, e]
      · rw [if_neg (by omega)]; exact h1 i (by omega)
    · rw [up2_e, if_neg (by omega)]; exact h2 i hi
/-- the block that was laid is copied to the process -/
theorem rs59 {p j n : Nat} {x3 x4 : Int32} {bs : List Int32} {Q : Int32 → Sg → Prop} {τ0 : Sg} (hj : j < 8) (hn : n ≤ 250) (h72 : ∀ k, k < n → τ0 72 k = bs.getD k 0) (h : ∀ τ' : Sg, (∀ k, k < n → τ' 62 (250 * j + k) = bs.getD k 0) → (∀ k, k < 250 * j ∨ 250 * j + 250 ≤ k → τ' 62 k = τ0 62 k) → (∀ c, c ≠ 62 → τ' c = τ0 c) → wpX9_sends_L92 Q (nI p) x3 x4 (nI j) τ') : ∀ (m k : Nat) (τ : Sg), k + m = n → (∀ i, i < k → τ 62 (250 * j + i) = bs.getD i 0) → (∀ i, i < 250 * j ∨ 250 * j + 250 ≤ i → τ 62 i = τ0 62 i) → (∀ c, c ≠ 62 → τ c = τ0 c) → wpX9_sends_L59 Q (m + 1) (nI p) (nI n) x3 x4 (nI j) (nI k) τ := by
  intro m
  induction m with
  | zero =>
    intro k τ hk h1 h2 h3
    unfold wpX9_sends_L59
    exact brt (nI_le (by omega) (by omega)) (h τ (fun i hi => h1 i (by omega)) h2 h3)
  | succ m ih =>
    intro k τ hk h1 h2 h3
    have ea : (250 * nI j) + nI k = nI (250 * j + k) := by
      have : (250 : Int32) * nI j = nI (250 * j) := pk_mul 250 j
      rw [this, nI_add]
    unfold wpX9_sends_L59
    rw [ea, nI_clamp (n := 250 * j + k) (by omega), nI_clamp (n := k) (by omega), nI_1, h3 72 (by decide), h72 k (by omega)]
    refine brf (nI_ge (by omega) (by omega)) ⟨vin rfl (by omega) (by decide), vin rfl (by omega) (by decide), ?_⟩
    rintro _ rfl _ rfl
    refine ih (k + 1) _ (by omega) (fun i hi => ?_) (fun i hi => ?_) (fun c hc => by rw [up2_o hc, h3 c hc])
    · rw [up2_e]
      by_cases e : i = k
      · rw [if_pos ⟨rfl, by omega⟩, e]
      · rw [if_neg (by omega)]; exact h1 i (by omega)
    · rw [up2_e, if_neg (by omega)]; exact h2 i hi
/-- what is known of the processes and of what was sent, while peer p sends -/
def CrX (τ : Sg) (B j : Nat) (cr : Nat → Car) (sz : Int32) : Prop := (∀ i, i < 8 → i ≠ j → CrM τ i (cr i)) ∧ τ 60 j = sz
theorem CrM.of {τ τ' : Sg} {j : Nat} {c : Car} (h : CrM τ j c) (hc : ∀ d, 60 ≤ d → d ≤ 63 → τ' d = τ d) : CrM τ' j c := by
  refine ⟨by rw [hc 60 (by decide) (by decide)]; exact h.1, fun h0 => ?_⟩
  obtain ⟨a, b, d⟩ := h.2 h0
  exact ⟨by rw [hc 61 (by decide) (by decide)]; exact a, by rw [hc 63 (by decide) (by decide)]; exact b, fun k hk => by rw [hc 62 (by decide) (by decide)]; exact d k hk⟩
theorem CrM.up {τ : Sg} {j i d : Nat} {c : Car} {v : Int32} (h : CrM τ i c) (hij : i ≠ j) (hd : d ≠ 62) : CrM (up2 τ d j v) i c := by
  refine ⟨by rw [up2_e, if_neg (fun hh => hij hh.2)]; exact h.1, fun h0 => ?_⟩
  obtain ⟨a, b, e⟩ := h.2 h0
  exact ⟨by rw [up2_e, if_neg (fun hh => hij hh.2)]; exact a, by rw [up2_e, if_neg (fun hh => hij hh.2)]; exact b, fun k hk => by rw [up2_o (fun hh => hd hh.symm)]; exact e k hk⟩
theorem rs92 {B p tk z T : Nat} {y : Int32} {τ : Sg} {M : Hm} {tp : List Int32} {c1 : Car} {key : Nat → Int32} {lost turned : Bool} {Gd2 : List (Nat × Prt) → Wst → Prop} {Q : Int32 → Sg → Prop} (hB1 : 1 ≤ B) (hB3 : B ≤ 3) (hp : p < 2) (hkey : key = keyF y (M.2.2.2.2 10)) (ec : c1 = M.2.2.1 (pj p tk)) (hs : 0 < c1.2.1) (hs2 : c1.2.1 ≤ 250) (hc2 : c1.1 ≤ 2) (hR : Rp0 τ B y tk tp M.1 M.2.1 M.2.2.2.2) (hO : ∀ i, i < 8 → i ≠ pj p tk → CrM τ i (M.2.2.1 i)) (h60 : τ 60 (pj p tk) = nI c1.1) (hD : CrD τ (pj p tk) c1) (hSh : ∀ q, q < p → ShM τ tk q M) (hsh : ∀ q, q < p → M.2.2.2.1 q ≤ 250)
    (hW0 : fs1 lost c1 = true → c1.2.2.2.1 = blB (fun b => fldS (M.1 (p * B + b))) c1.2.2.2.2 ++ fil z ∧ c1.2.2.2.1.length = c1.2.1 ∧ Gd2 c1.2.2.2.2 (M.1, M.2.1)) (hW1 : ∀ (q : Nat × Prt) (r : List (Nat × Prt)) (s : Wst), Gd2 (q :: r) s → OkW2 T (1 - p) B key s q ∧ Gd2 r (wk1 (1 - p) B key s q))
    (h : ∀ τ' : Sg, Rp0 τ' B y tk tp (sdC turned (pj p tk) (sdB B p key (fs1 lost c1) c1.2.2.2.2 (sdA lost p (pj p tk) c1 M))).1 (sdC turned (pj p tk) (sdB B p key (fs1 lost c1) c1.2.2.2.2 (sdA lost p (pj p tk) c1 M))).2.1 (sdC turned (pj p tk) (sdB B p key (fs1 lost c1) c1.2.2.2.2 (sdA lost p (pj p tk) c1 M))).2.2.2.2 → (∀ i, i < 8 → CrM τ' i ((sdC turned (pj p tk) (sdB B p key (fs1 lost c1) c1.2.2.2.2 (sdA lost p (pj p tk) c1 M))).2.2.1 i)) → (∀ q, q < p + 1 → ShM τ' tk q (sdC turned (pj p tk) (sdB B p key (fs1 lost c1) c1.2.2.2.2 (sdA lost p (pj p tk) c1 M)))) → τ' 14 = τ 14 → Q (if fs1 lost c1 then 2 else 1) τ') : wpX9_sends_L92 Q (nI p) (b01 lost) (b01 turned) (nI (pj p tk)) τ := by
  have hj := pj_lt (tk := tk) hp
  have hne : ∀ q, q < p → pj q tk ≠ pj p tk := fun q hq => by unfold pj; omega
  -- the end: the answer
  have L260 : ∀ (τ5 : Sg) (s : Wst), Rp0 τ5 B y tk tp s.1 s.2 (gl3 turned (gl2 c1.2.2.2.2.length (fs1 lost c1) (gl1 lost M.2.2.2.2))) → s = wkM B p key (fs1 lost c1) c1.2.2.2.2 (M.1, M.2.1) → (∀ i, i < 8 → i ≠ pj p tk → CrM τ5 i (M.2.2.1 i)) → τ5 60 (pj p tk) = nI (c1.1 + 1) → CrD τ5 (pj p tk) (sn1 lost c1) → (∀ q, q < p → ShM τ5 tk q M) → τ5 64 p = nI c1.2.1 → (∀ k, k < c1.2.1 → τ5 65 (250 * p + k) = c1.2.2.2.1.getD k 0) → τ5 14 = τ 14 → wpX9_sends_L260 Q (b01 turned) (nI (pj p tk)) (b01 (fs1 lost c1)) τ5 := by
    intro τ5 s r5 es o5 a60 d5 sh5 a64 a65 a14
    have emp : (sdC turned (pj p tk) (sdB B p key (fs1 lost c1) c1.2.2.2.2 (sdA lost p (pj p tk) c1 M))).2.2.1 = fup M.2.2.1 (pj p tk) (sn2 turned (sn1 lost c1)) := by
      show fup (fup M.2.2.1 (pj p tk) (sn1 lost c1)) (pj p tk) (sn2 turned (fup M.2.2.1 (pj p tk) (sn1 lost c1) (pj p tk))) = _
      rw [fup_s]
      funext i
      unfold fup
      split <;> rfl
    have egl : (sdC turned (pj p tk) (sdB B p key (fs1 lost c1) c1.2.2.2.2 (sdA lost p (pj p tk) c1 M))).2.2.2.2 = gl4 turned (sn1 lost c1) (gl3 turned (gl2 c1.2.2.2.2.length (fs1 lost c1) (gl1 lost M.2.2.2.2))) := by
      show gl4 turned (fup M.2.2.1 (pj p tk) (sn1 lost c1) (pj p tk)) _ = _
      rw [fup_s]
      rfl
    have L329 : ∀ (τ6 : Sg), Rp0 τ6 B y tk tp s.1 s.2 (gl4 turned (sn1 lost c1) (gl3 turned (gl2 c1.2.2.2.2.length (fs1 lost c1) (gl1 lost M.2.2.2.2)))) → (∀ i, i < 8 → i ≠ pj p tk → CrM τ6 i (M.2.2.1 i)) → CrM τ6 (pj p tk) (sn2 turned (sn1 lost c1)) → (∀ c, c = 14 ∨ c = 64 ∨ c = 65 → τ6 c = τ5 c) → wpX9_sends_L329 Q (b01 (fs1 lost c1)) τ6 := by
      intro τ6 r6 o6 d6 u6
      have fin : Q (if fs1 lost c1 then 2 else 1) τ6 := by
        refine h τ6 ?_ (fun i hi => ?_) (fun q hq => ?_) (by rw [u6 14 (by omega), a14])
        · rw [egl]
          have e1 : (sdC turned (pj p tk) (sdB B p key (fs1 lost c1) c1.2.2.2.2 (sdA lost p (pj p tk) c1 M))).1 = s.1 := by rw [es]; rfl
          have e2 : (sdC turned (pj p tk) (sdB B p key (fs1 lost c1) c1.2.2.2.2 (sdA lost p (pj p tk) c1 M))).2.1 = s.2 := by rw [es]; rfl
          rw [e1, e2]
          exact r6
        · rw [emp]
          by_cases e : i = pj p tk
          · rw [e, fup_s]; exact d6
          · rw [fup_o e]; exact o6 i hi e
        · unfold ShM
          rw [emp, u6 64 (by omega), u6 65 (by omega)]
          show τ5 64 q = (if fup M.2.2.2.1 p c1.2.1 q = 0 then -1 else nI (fup M.2.2.2.1 p c1.2.1 q)) ∧ ∀ k, k < fup M.2.2.2.1 p c1.2.1 q → _
          by_cases e : q = p
          · rw [e, fup_s, if_neg (by omega), fup_s]
            refine ⟨a64, fun k hk => ?_⟩
            rw [a65 k hk]
            unfold sn2
            split <;> rfl
          · rw [fup_o e, fup_o (hne q (by omega))]
            exact sh5 q (by omega)
      unfold wpX9_sends_L329
      refine br01 (fun e => ?_) (fun e => ?_)
      · rw [e, if_neg (by decide)] at fin
        exact fin
      · rw [e, if_pos rfl] at fin
        exact fin
    have hle : c1.1 + 1 ≤ 3 := by omega
    have e61 : (sn1 lost c1).1 = c1.1 + 1 := rfl
    have L321 : ∀ (τ6 : Sg), Rp0 τ6 B y tk tp s.1 s.2 (gl4 turned (sn1 lost c1) (gl3 turned (gl2 c1.2.2.2.2.length (fs1 lost c1) (gl1 lost M.2.2.2.2)))) → (¬ (sn1 lost c1).2.2.1 = turned ∨ 3 ≤ (sn1 lost c1).1) → (∀ c, c ≠ 0 → τ6 c = τ5 c) → wpX9_sends_L321 Q (nI (pj p tk)) (b01 (fs1 lost c1)) τ6 := by
      intro τ6 r6 hor u6
      unfold wpX9_sends_L321
      rw [nI_clamp (n := pj p tk) (by omega)]
      refine ⟨vin rfl hj (by decide), ?_⟩
      rintro _ rfl
      refine L329 _ (r6.of (fun c hc => up2_o (by omega))) (fun i hi hij => ?_) ?_ (fun c hc => by rw [up2_o (by omega), u6 c (by omega)])
      · exact CrM.up ((o5 i hi hij).of (fun d d1 d2 => u6 d (by omega))) hij (by decide)
      · unfold sn2
        rw [if_pos hor]
        refine ⟨?_, fun h0 => absurd h0 (by show ¬ 0 < 0; decide)⟩
        rw [up2_e, if_pos ⟨rfl, rfl⟩]
        rfl
    have L277 : ∀ yes : Bool, yes = decide (¬ (sn1 lost c1).2.2.1 = turned) → wpX9_sends_L277 Q (nI (pj p tk)) (b01 (fs1 lost c1)) (b01 yes) τ5 := by
      intro yes hy
      unfold wpX9_sends_L277
      rw [nI_clamp (n := pj p tk) (by omega), a60]
      refine br01' (fun e => ?_) (fun e => ?_)
      · rw [e] at hy
        have hcb : (sn1 lost c1).2.2.1 = turned := Classical.not_not.mp (of_decide_eq_false hy.symm)
        rw [e]
        refine ⟨vin rfl hj (by decide), ?_⟩
        by_cases e3 : c1.1 + 1 = 3
        · refine brt' (by rw [e3]; rfl) ?_
          rintro _ rfl
          have e7 : τ5 0 7 = gl3 turned (gl2 c1.2.2.2.2.length (fs1 lost c1) (gl1 lost M.2.2.2.2)) 14 := r5.2.2.2.1 7 (by decide) (by decide)
          rw [e7]
          have e4 : gl4 turned (sn1 lost c1) (gl3 turned (gl2 c1.2.2.2.2.length (fs1 lost c1) (gl1 lost M.2.2.2.2))) = fup (gl3 turned (gl2 c1.2.2.2.2.length (fs1 lost c1) (gl1 lost M.2.2.2.2))) 14 (gl3 turned (gl2 c1.2.2.2.2.length (fs1 lost c1) (gl1 lost M.2.2.2.2)) 14 + 1) := by
            unfold gl4
            rw [if_pos ⟨hcb, by rw [e61]; omega⟩]
          unfold wpX9_sends_L305
          refine brt' rfl ⟨vin rfl hj (by decide), ?_⟩
          rw [nI_clamp (n := pj p tk) (by omega), up2_o (by decide), a60]
          refine brt' (by rw [e3]; rfl) (L321 _ ?_ (Or.inr (by rw [e61]; omega)) (fun c hc => up2_o hc))
          rw [e4]
          exact r5.gl (k := 7) (by decide) (by decide)
        · refine brf' (fun hh => e3 ((nI_eq (b := 3) (by omega) (by decide)).mp hh)) ?_
          unfold wpX9_sends_L305
          refine brt' rfl ⟨vin rfl hj (by decide), ?_⟩
          rw [nI_clamp (n := pj p tk) (by omega), a60]
          refine brf' (fun hh => e3 ((nI_eq (b := 3) (by omega) (by decide)).mp hh)) (L329 τ5 ?_ o5 ?_ (fun c hc => rfl))
          · unfold gl4
            rw [if_neg (by rw [e61]; omega)]
            exact r5
          · unfold sn2
            rw [if_neg (fun h9 => h9.elim (fun h9 => h9 hcb) (fun h9 => by rw [e61] at h9; omega))]
            exact ⟨a60, fun _ => d5⟩
      · rw [e] at hy
        have hcb := of_decide_eq_true hy.symm
        rw [e]
        unfold wpX9_sends_L305
        refine brf' (by decide) (L321 τ5 ?_ (Or.inl hcb) (fun c hc => rfl))
        unfold gl4
        rw [if_neg (fun h9 => hcb h9.1)]
        exact r5
    unfold wpX9_sends_L260
    rw [nI_clamp (n := pj p tk) (by omega), d5.2.1]
    refine ⟨vin rfl hj (by decide), fun hh => ?_, fun hh => ?_⟩
    · refine L277 false (decide_eq_false (fun h9 => h9 ?_)).symm
      cases h1 : (sn1 lost c1).2.2.1 <;> cases turned <;> first | rfl | (rw [h1] at hh; exact absurd hh (by decide))
    · have hn : ¬ (sn1 lost c1).2.2.1 = turned := fun h9 => hh (by rw [h9])
      exact L277 true (decide_eq_true hn).symm
  -- the work
  have L236 : ∀ (τ4 : Sg), Rp0 τ4 B y tk tp M.1 M.2.1 (gl3 turned (gl1 lost M.2.2.2.2)) → (∀ i, i < 8 → i ≠ pj p tk → CrM τ4 i (M.2.2.1 i)) → τ4 60 (pj p tk) = nI (c1.1 + 1) → CrD τ4 (pj p tk) (sn1 lost c1) → (∀ q, q < p → ShM τ4 tk q M) → τ4 64 p = nI c1.2.1 → (∀ k, k < c1.2.1 → τ4 65 (250 * p + k) = c1.2.2.2.1.getD k 0) → τ4 14 = τ 14 → wpX9_sends_L236 Q (nI p) (b01 turned) (nI (pj p tk)) (b01 (fs1 lost c1)) τ4 := by
    intro τ4 r4 o4 a60 d4 sh4 a64 a65 a14
    unfold wpX9_sends_L236
    refine br01 (fun e => ?_) (fun e => ?_)
    · refine L260 τ4 (M.1, M.2.1) ?_ ?_ o4 a60 d4 sh4 a64 a65 a14
      · rw [← gl23, e]
        exact r4
      · rw [e]
        rfl
    · obtain ⟨w1, w2, w3⟩ := hW0 e
      have e1p : 1 - nI p = nI (1 - p) := pk_sub (a := 1) (b := p) (by omega)
      have e2p : 250 * nI p = nI (250 * p) := pk_mul 250 p
      rw [nI_clamp (n := pj p tk) (by omega), d4.1, e1p, e2p]
      refine ⟨vin rfl hj (by decide), ?_⟩
      unfold wpX9_work
      have eg10 : gl3 turned (gl1 lost M.2.2.2.2) 10 = M.2.2.2.2 10 := by
        unfold gl3 gl1
        cases turned <;> cases lost <;> rfl
      have hK4 : KyM τ4 y (M.2.2.2.2 10) := by rw [← eg10]; exact r4.2.1
      rw [hkey] at hW1
      have hsn : (sn1 lost c1).2.1 = c1.2.1 := rfl
      rw [hsn]
      refine ⟨c1.2.2.2.2.length + 1, rw3 (B := B) (p := 1 - p) (T := T) (z := z) (fr := 250 * p) (sz := c1.2.1) (Gs := fun b => fldS (M.1 (p * B + b))) (Gd := Gd2) (τ0 := τ4) hB1 hB3 (by omega) (by omega) hK4 hW1 c1.2.2.2.2 (250 * p) 0 τ4 (M.1, M.2.1) (fun j hj2 => ?_) (by rw [← w1, w2]) w3 (fun b hb => ?_) r4.2.2.2.2.2 (fun _ _ _ => rfl) (fun j => ?_) (fun τ5 t et t1 t2 t3 t4 => ?_)⟩
      · rw [← w1]
        rw [← w1, w2] at hj2
        exact a65 j hj2
      · rw [opp_peer (by omega) hb, show 1 - (1 - p) = p by omega]
      · by_cases e8 : j = 8
        · rw [if_pos e8, e8]
          show _ = _ + (0 : Int32)
          rw [Int32.add_zero]
        · rw [if_neg e8]
      · rw [Nat.zero_add] at t4
        have f0 : ∀ j, j ≠ 8 → τ5 0 j = τ4 0 j := fun j hj => by rw [t4 j, if_neg hj]
        have u5 : ∀ c, 60 ≤ c → c ≤ 67 → τ5 c = τ4 c := fun c c1 c2 => t3 c (by omega) (by unfold LWk; simp only [List.mem_cons, List.not_mem_nil, or_false]; omega)
        refine L260 τ5 t ?_ (by rw [et, e, hkey]; rfl) (fun i hi hij => (o4 i hi hij).of (fun d d1 d2 => u5 d d1 (by omega))) (by rw [u5 60 (by decide) (by decide)]; exact a60) ?_ (fun q hq => ?_) (by rw [u5 64 (by decide) (by decide)]; exact a64) (fun k hk => by rw [u5 65 (by decide) (by decide)]; exact a65 k hk) (by rw [t3 14 (by decide) (by decide)]; exact a14)
        · rw [← gl23, e]
          obtain ⟨b1, b2, b3, b4, ⟨b5, b6⟩, b7⟩ := r4
          refine ⟨by rw [f0 0 (by decide)]; exact b1, ⟨fun k hk => by rw [u5 67 (by decide) (by decide)]; exact b2.1 k hk, by rw [f0 1 (by decide)]; exact b2.2.1, ?_⟩, by rw [f0 2 (by decide)]; exact b3, fun k k1 k2 => ?_, ⟨by rw [f0 10 (by decide)]; exact b5, fun k hk => by rw [t3 1 (by decide) (by decide)]; exact b6 k hk⟩, t2⟩
          · rw [f0 3 (by decide)]
            exact b2.2.2
          · have eg2 : gl2 c1.2.2.2.2.length true (gl3 turned (gl1 lost M.2.2.2.2)) = fup (gl3 turned (gl1 lost M.2.2.2.2)) 15 (gl3 turned (gl1 lost M.2.2.2.2) 15 + nI c1.2.2.2.2.length) := rfl
            rw [eg2]
            by_cases e8 : k = 8
            · rw [e8, t4 8, if_pos rfl, fup_s, b4 8 (by decide) (by decide)]
            · rw [fup_o (by omega), f0 k e8]
              exact b4 k k1 k2
        · obtain ⟨z1, z2, z3⟩ := d4
          exact ⟨by rw [u5 61 (by decide) (by decide)]; exact z1, by rw [u5 63 (by decide) (by decide)]; exact z2, fun k hk => by rw [u5 62 (by decide) (by decide)]; exact z3 k hk⟩
        · obtain ⟨z1, z2⟩ := sh4 q hq
          exact ⟨by rw [u5 64 (by decide) (by decide)]; exact z1, fun k hk => by rw [u5 65 (by decide) (by decide)]; exact z2 k hk⟩
  -- it comes, or is lost
  have L203 : ∀ (τ3 : Sg), Rp0 τ3 B y tk tp M.1 M.2.1 (gl3 turned (gl1 lost M.2.2.2.2)) → (∀ i, i < 8 → i ≠ pj p tk → CrM τ3 i (M.2.2.1 i)) → τ3 60 (pj p tk) = nI (c1.1 + 1) → CrD τ3 (pj p tk) c1 → (∀ q, q < p → ShM τ3 tk q M) → τ3 64 p = nI c1.2.1 → (∀ k, k < c1.2.1 → τ3 65 (250 * p + k) = c1.2.2.2.1.getD k 0) → τ3 14 = τ 14 → wpX9_sends_L203 Q (nI p) (b01 lost) (b01 turned) (nI (pj p tk)) τ3 := by
    intro τ3 r3 o3 a60 d3 sh3 a64 a65 a14
    have L222 : ∀ b : Bool, b = fs1 lost c1 → wpX9_sends_L222 Q (nI p) (b01 lost) (b01 turned) (nI (pj p tk)) (b01 b) τ3 := by
      intro b hb
      subst hb
      unfold wpX9_sends_L222
      refine br01' (fun el => ?_) (fun el => ?_)
      · rw [nI_clamp (n := pj p tk) (by omega)]
        refine ⟨vin rfl hj (by decide), ?_⟩
        rintro _ rfl
        refine L236 _ (r3.of (fun c hc => up2_o (by omega))) (fun i hi hij => CrM.up (o3 i hi hij) hij (by decide)) (by rw [up2_o (by decide)]; exact a60) ?_ (fun q hq => ?_) (by rw [up2_o (by decide)]; exact a64) (fun k hk => by rw [up2_o (by decide)]; exact a65 k hk) (by rw [up2_o (by decide)]; exact a14)
        · obtain ⟨z1, z2, z3⟩ := d3
          refine ⟨by rw [up2_o (by decide)]; exact z1, ?_, fun k hk => by rw [up2_o (by decide)]; exact z3 k hk⟩
          rw [up2_e, if_pos ⟨rfl, rfl⟩, el]
          show (1 : Int32) = b01 (c1.2.2.1 || true)
          rw [Bool.or_true]
          rfl
        · obtain ⟨z1, z2⟩ := sh3 q hq
          exact ⟨by rw [up2_o (by decide)]; exact z1, fun k hk => by rw [up2_o (by decide)]; exact z2 k hk⟩
      · have es : sn1 lost c1 = (c1.1 + 1, c1.2) := by
          unfold sn1
          rw [el, show (!true) = false from rfl, Bool.or_false]
        exact L236 τ3 r3 o3 a60 (by rw [es]; exact d3) sh3 a64 a65 a14
    unfold wpX9_sends_L203
    refine br01' (fun el => ?_) (fun el => ?_)
    · rw [nI_clamp (n := pj p tk) (by omega), d3.2.1]
      refine ⟨vin rfl hj (by decide), br01' (fun e9 => ?_) (fun e9 => ?_)⟩
      · exact L222 true (by unfold fs1; rw [el, e9]; rfl)
      · unfold wpX9_sends_L221
        exact L222 false (by unfold fs1; rw [e9, Bool.not_true, Bool.and_false])
    · unfold wpX9_sends_L221
      exact L222 false (by unfold fs1; rw [el]; rfl)
  have L188 : ∀ (τ3 : Sg), Rp0 τ3 B y tk tp M.1 M.2.1 (gl1 lost M.2.2.2.2) → (∀ i, i < 8 → i ≠ pj p tk → CrM τ3 i (M.2.2.1 i)) → τ3 60 (pj p tk) = nI (c1.1 + 1) → CrD τ3 (pj p tk) c1 → (∀ q, q < p → ShM τ3 tk q M) → τ3 64 p = nI c1.2.1 → (∀ k, k < c1.2.1 → τ3 65 (250 * p + k) = c1.2.2.2.1.getD k 0) → τ3 14 = τ 14 → wpX9_sends_L188 Q (nI p) (b01 lost) (b01 turned) (nI (pj p tk)) τ3 := by
    intro τ3 r3 o3 a60 d3 sh3 a64 a65 a14
    unfold wpX9_sends_L188
    refine br01 (fun et => ?_) (fun et => ?_)
    · refine L203 τ3 ?_ o3 a60 d3 sh3 a64 a65 a14
      rw [et]
      exact r3
    · rintro _ rfl
      have e6 : τ3 0 6 = gl1 lost M.2.2.2.2 13 := r3.2.2.2.1 6 (by decide) (by decide)
      rw [e6]
      refine L203 _ ?_ (fun i hi hij => (o3 i hi hij).of (fun d d1 d2 => up2_o (by omega))) (by rw [up2_o (by decide)]; exact a60) ⟨by rw [up2_o (by decide)]; exact d3.1, by rw [up2_o (by decide)]; exact d3.2.1, fun k hk => by rw [up2_o (by decide)]; exact d3.2.2 k hk⟩ (fun q hq => ⟨by rw [up2_o (by decide)]; exact (sh3 q hq).1, fun k hk => by rw [up2_o (by decide)]; exact (sh3 q hq).2 k hk⟩) (by rw [up2_o (by decide)]; exact a64) (fun k hk => by rw [up2_o (by decide)]; exact a65 k hk) (by rw [up2_o (by decide)]; exact a14)
      rw [et]
      exact r3.gl (k := 6) (by decide) (by decide)
  unfold wpX9_sends_L92
  rw [nI_clamp (n := pj p tk) (by omega), nI_clamp (n := p) (by omega), h60, nI_1]
  refine ⟨vin rfl hj (by decide), vin rfl hj (by decide), ?_⟩
  rintro _ rfl _ rfl
  refine ⟨vin rfl hj (by decide), vin rfl hp (by decide), ?_⟩
  rintro _ rfl
  rw [up2_o (d := 61) (by decide), up2_o (d := 61) (by decide), hD.1, up2_o (d := 0) (by decide)]
  have e4 : τ 0 4 = M.2.2.2.2 11 := hR.2.2.2.1 4 (by decide) (by decide)
  rw [e4]
  -- all three changes
  have R1 : Rp0 (up2 (up2 (up2 τ 60 (pj p tk) (nI (c1.1 + 1))) 0 4 (M.2.2.2.2 11 + 1)) 64 p (nI c1.2.1)) B y tk tp M.1 M.2.1 (fup M.2.2.2.2 11 (M.2.2.2.2 11 + 1)) := ((hR.of (τ' := up2 τ 60 (pj p tk) (nI (c1.1 + 1))) (fun c hc => up2_o (by omega))).gl (k := 4) (by decide) (by decide)).of (fun c hc => up2_o (by omega))
  have O1 : ∀ i, i < 8 → i ≠ pj p tk → CrM (up2 (up2 (up2 τ 60 (pj p tk) (nI (c1.1 + 1))) 0 4 (M.2.2.2.2 11 + 1)) 64 p (nI c1.2.1)) i (M.2.2.1 i) := fun i hi hij => (CrM.up (j := pj p tk) (d := 60) (v := nI (c1.1 + 1)) (hO i hi hij) hij (by decide)).of (fun d d1 d2 => by rw [up2_o (by omega), up2_o (by omega)])
  have A60 : up2 (up2 (up2 τ 60 (pj p tk) (nI (c1.1 + 1))) 0 4 (M.2.2.2.2 11 + 1)) 64 p (nI c1.2.1) 60 (pj p tk) = nI (c1.1 + 1) := by rw [up2_o (by decide), up2_o (by decide), up2_e, if_pos ⟨rfl, rfl⟩]
  have U1 : ∀ c, c ≠ 60 → c ≠ 0 → c ≠ 64 → up2 (up2 (up2 τ 60 (pj p tk) (nI (c1.1 + 1))) 0 4 (M.2.2.2.2 11 + 1)) 64 p (nI c1.2.1) c = τ c := fun c k1 k2 k3 => by rw [up2_o k3, up2_o k2, up2_o k1]
  have A64 : ∀ i, up2 (up2 (up2 τ 60 (pj p tk) (nI (c1.1 + 1))) 0 4 (M.2.2.2.2 11 + 1)) 64 p (nI c1.2.1) 64 i = if i = p then nI c1.2.1 else τ 64 i := fun i => by
    rw [up2_e]
    by_cases e : i = p
    · rw [if_pos ⟨rfl, e⟩, if_pos e]
    · rw [if_neg (fun hh => e hh.2), if_neg e, up2_o (by decide), up2_o (by decide)]
  generalize up2 (up2 (up2 τ 60 (pj p tk) (nI (c1.1 + 1))) 0 4 (M.2.2.2.2 11 + 1)) 64 p (nI c1.2.1) = τ1 at *
  refine ⟨c1.2.1 + 1, rs129 (τ0 := τ1) (bs := c1.2.2.2.1) (n := c1.2.1) hp hj hs2 (by rw [U1 61 (by decide) (by decide) (by decide)]; exact hD.1) (fun k hk => by rw [U1 62 (by decide) (by decide) (by decide)]; exact hD.2.2 k hk) (fun τ2 g1 g2 g3 => ?_) c1.2.1 0 τ1 (by omega) (fun i hi => by omega) (fun _ _ => rfl) (fun _ _ => rfl)⟩
  have R2 : Rp0 τ2 B y tk tp M.1 M.2.1 (fup M.2.2.2.2 11 (M.2.2.2.2 11 + 1)) := R1.of (fun c hc => g3 c (by omega))
  have O2 : ∀ i, i < 8 → i ≠ pj p tk → CrM τ2 i (M.2.2.1 i) := fun i hi hij => (O1 i hi hij).of (fun d d1 d2 => g3 d (by omega))
  have D2 : CrD τ2 (pj p tk) c1 := ⟨by rw [g3 61 (by decide), U1 61 (by decide) (by decide) (by decide)]; exact hD.1, by rw [g3 63 (by decide), U1 63 (by decide) (by decide) (by decide)]; exact hD.2.1, fun k hk => by rw [g3 62 (by decide), U1 62 (by decide) (by decide) (by decide)]; exact hD.2.2 k hk⟩
  have S2 : ∀ q, q < p → ShM τ2 tk q M := fun q hq => by
    obtain ⟨z1, z2⟩ := hSh q hq
    refine ⟨by rw [g3 64 (by decide), A64 q, if_neg (by omega)]; exact z1, fun k hk => ?_⟩
    have hq0 : q = 0 := by omega
    have hp1 : p = 1 := by omega
    have hk2 := hsh q hq
    rw [g2 _ (by omega), U1 65 (by decide) (by decide) (by decide)]
    exact z2 k hk
  have A64' : τ2 64 p = nI c1.2.1 := by rw [g3 64 (by decide), A64 p, if_pos rfl]
  have A14 : τ2 14 = τ 14 := by rw [g3 14 (by decide), U1 14 (by decide) (by decide) (by decide)]
  refine br01 (fun el => ?_) (fun el => ?_)
  · refine L188 τ2 ?_ O2 (by rw [g3 60 (by decide)]; exact A60) D2 S2 A64' g1 A14
    rw [el]
    exact R2
  · rintro _ rfl
    have e5 : τ2 0 5 = M.2.2.2.2 12 := R2.2.2.2.1 5 (by decide) (by decide)
    rw [e5]
    refine L188 _ ?_ (fun i hi hij => (O2 i hi hij).of (fun d d1 d2 => up2_o (by omega))) (by rw [up2_o (by decide), g3 60 (by decide)]; exact A60) ⟨by rw [up2_o (by decide)]; exact D2.1, by rw [up2_o (by decide)]; exact D2.2.1, fun k hk => by rw [up2_o (by decide)]; exact D2.2.2 k hk⟩ (fun q hq => ⟨by rw [up2_o (by decide)]; exact (S2 q hq).1, fun k hk => by rw [up2_o (by decide)]; exact (S2 q hq).2 k hk⟩) (by rw [up2_o (by decide)]; exact A64') (fun k hk => by rw [up2_o (by decide)]; exact g1 k hk) (by rw [up2_o (by decide)]; exact A14)
    rw [el]
    exact R2.gl (k := 5) (by decide) (by decide)
