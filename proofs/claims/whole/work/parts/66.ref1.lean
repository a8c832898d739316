/-! PURE: the reference: what its rows hold; leaves -/
def wid (c : Nat) : Nat := if c ≤ 13 then 1 else if c ≤ 18 then 32 else if c = 19 then 3840 else if c = 22 then 1 else if c ≤ 24 then 4400 else if c = 25 ∨ c = 26 ∨ c = 29 then 16 else if c ≤ 32 then 3840 else if c ≤ 43 then 1 else if c = 44 then 32 else if c ≤ 48 then 7680 else if c = 49 then 1 else if c = 50 then 256 else if c ≤ 55 then 1 else if c = 56 then 32 else if c = 57 then 3840 else if c = 58 then 120 else 32
/-- only these rows change, and of those of the places only what is the place's -/
def FrA (L : List Nat) (i : Nat) (τ τ' : Sg) : Prop := (∀ c, c ∉ L → τ' c = τ c) ∧ ∀ c k, c ≤ 59 → k / wid c ≠ i → τ' c k = τ c k
theorem FrA.rf {L : List Nat} {i : Nat} {τ : Sg} : FrA L i τ τ := ⟨fun _ _ => rfl, fun _ _ _ _ => rfl⟩
theorem FrA.tr {L : List Nat} {i : Nat} {τ τ1 τ2 : Sg} (h : FrA L i τ τ1) (h2 : FrA L i τ1 τ2) : FrA L i τ τ2 := ⟨fun c hc => (h2.1 c hc).trans (h.1 c hc), fun c k h1 h3 => (h2.2 c k h1 h3).trans (h.2 c k h1 h3)⟩
theorem FrA.mono {L L' : List Nat} {i : Nat} {τ τ1 : Sg} (h : FrA L i τ τ1) (hl : ∀ c, c ∈ L → c ∈ L') : FrA L' i τ τ1 := ⟨fun c hc => h.1 c (fun hh => hc (hl c hh)), h.2⟩
theorem FrA.up {L : List Nat} {i c k : Nat} {v : Int32} {τ τ1 : Sg} (h : FrA L i τ τ1) (hc : c ∈ L) (hk : c ≤ 59 → k / wid c = i) : FrA L i τ (up2 τ1 c k v) := by
  refine ⟨fun d hd => ?_, fun d j h1 h3 => ?_⟩
  · rw [up2_o (fun e => hd (by rw [e]; exact hc)), h.1 d hd]
  · rw [up2_e, if_neg (fun e => h3 (by rw [e.1, e.2]; exact hk (by rw [← e.1]; exact h1))), h.2 d j h1 h3]
/-- a sender's numbers in the reference -/
def SnM (τ : Sg) (i : Nat) (v : Nat → Nat) (bk : Int32) : Prop := τ 3 i = nI (v 4) ∧ τ 4 i = nI (v 5) ∧ τ 5 i = nI (v 10) ∧ τ 6 i = nI (v 9) - 1 ∧ τ 7 i = nI (v 11) ∧ τ 8 i = bk ∧ τ 9 i = nI (v 12) ∧ τ 10 i = nI (v 13) ∧ τ 11 i = nI (v 14) ∧ τ 12 i = nI (v 7) ∧ τ 13 i = nI (v 8)
/-- its pieces -/
def agR (q : Pce) (k : Nat) : Bool := !q.2.2.2 && q.2.1 k
def PcM (τ : Sg) (f : Nat) (q : Pce) : Prop := τ 25 f = nI q.1.length ∧ q.1.length ≤ 240 ∧ τ 26 f = nI q.2.2.1 ∧ τ 29 f = b01 q.2.2.2 ∧ ∀ k, k < q.1.length → τ 27 (240 * f + k) = (gc q.1 k).1 ∧ τ 28 (240 * f + k) = nI (gc q.1 k).2.2.2 - 1 ∧ τ 30 (240 * f + k) = b01 (gc q.1 k).2.1 ∧ τ 31 (240 * f + k) = b01 (gc q.1 k).2.2.1 ∧ τ 32 (240 * f + k) = b01 (agR q k)
def PsM (τ : Sg) (i A S : Nat) (pc : Nat → Pce) : Prop := ∀ x, A ≤ x → x < S → PcM τ (16 * i + x % 16) (pc x)
theorem PcM.of {τ τ' : Sg} {f : Nat} {q : Pce} (h : PcM τ f q) (h1 : τ' 25 f = τ 25 f) (h2 : τ' 26 f = τ 26 f) (h3 : τ' 29 f = τ 29 f) (h4 : ∀ c k, c = 27 ∨ c = 28 ∨ c = 30 ∨ c = 31 ∨ c = 32 → k < 240 → τ' c (240 * f + k) = τ c (240 * f + k)) : PcM τ' f q := by
  obtain ⟨a, b, c, d, e⟩ := h
  refine ⟨h1.trans a, b, h2.trans c, h3.trans d, fun k hk => ?_⟩
  rw [h4 27 k (by simp) (by omega), h4 28 k (by simp) (by omega), h4 30 k (by simp) (by omega), h4 31 k (by simp) (by omega), h4 32 k (by simp) (by omega)]
  exact e k hk
theorem PsM.of {τ τ' : Sg} {i A S : Nat} {pc : Nat → Pce} (h : PsM τ i A S pc) (hc : ∀ c, c = 25 ∨ c = 26 ∨ c = 27 ∨ c = 28 ∨ c = 29 ∨ c = 30 ∨ c = 31 ∨ c = 32 → τ' c = τ c) : PsM τ' i A S pc := fun x h1 h2 => (h x h1 h2).of (by rw [hc 25 (by simp)]) (by rw [hc 26 (by simp)]) (by rw [hc 29 (by simp)]) (fun c k hk _ => by rw [hc c (by omega)])
/-- what waits -/
def WtM (τ : Sg) (i : Nat) (fl : List Cel) : Prop := τ 22 i = nI fl.length ∧ fl.length < 4400 ∧ ∀ k, k < fl.length → τ 20 (4400 * i + k) = (gc fl k).1 ∧ τ 21 (4400 * i + k) = nI (gc fl k).2.2.2 - 1 ∧ τ 23 (4400 * i + k) = b01 (gc fl k).2.1 ∧ τ 24 (4400 * i + k) = b01 (gc fl k).2.2.1
/-- the units -/
def KpM (τ : Sg) (i nc : Nat) (un : Nat → Un) : Prop := τ 2 i = nI nc ∧ (∀ c, c < nc → nc ≤ c + 32 → τ 15 (32 * i + c % 32) = b01 (kpt un c)) ∧ (∀ s, s < 32 → nc ≤ s → τ 15 (32 * i + s) = 0) ∧ ∀ c, c < nc → nc ≤ c + 32 → kpt un c = true → τ 16 (32 * i + c % 32) = nI (un c).1.length ∧ τ 17 (32 * i + c % 32) = nI c ∧ τ 18 (32 * i + c % 32) = (un c).2.1 ∧ ∀ k, k < (un c).1.length → τ 19 (120 * (32 * i + c % 32) + k) = (un c).1.getD k 0
theorem i32 {i : Nat} (x : Nat) : (32 : Int32) * nI i + nI x = nI (32 * i + x) := by
  have : (32 : Int32) * nI i = nI (32 * i) := pk_mul 32 i
  rw [this, nI_add]
theorem i16 {i : Nat} (x : Nat) : (16 : Int32) * nI i + nI x = nI (16 * i + x) := by
  have : (16 : Int32) * nI i = nI (16 * i) := pk_mul 16 i
  rw [this, nI_add]
theorem i240 {i : Nat} (x : Nat) : (240 : Int32) * nI i + nI x = nI (240 * i + x) := by
  have : (240 : Int32) * nI i = nI (240 * i) := pk_mul 240 i
  rw [this, nI_add]
theorem i120 {i : Nat} (x : Nat) : (120 : Int32) * nI i + nI x = nI (120 * i + x) := by
  have : (120 : Int32) * nI i = nI (120 * i) := pk_mul 120 i
  rw [this, nI_add]
theorem i4400 {i : Nat} (x : Nat) : (4400 : Int32) * nI i + nI x = nI (4400 * i + x) := by
  have : (4400 : Int32) * nI i = nI (4400 * i) := pk_mul 4400 i
  rw [this, nI_add]
theorem i256 {i : Nat} (x : Nat) : (256 : Int32) * nI i + nI x = nI (256 * i + x) := by
  have : (256 : Int32) * nI i = nI (256 * i) := pk_mul 256 i
  rw [this, nI_add]
theorem lw26 {τ : Sg} {i nc : Nat} {un : Nat → Un} {Q : Int32 → Sg → Prop} (hi : i < 6) (hK : KpM τ i nc un) (hn : nc < 2 ^ 20) : ∀ (m c : Nat), c + m = nc → nc ≤ c + 32 → Q (nI (lowF (kpt un) m c)) τ → wpX9_lowest_L26 Q (m + 1) (nI i) (nI c) τ := by
  intro m
  induction m with
  | zero =>
    intro c hc h32 h
    unfold wpX9_lowest_L26
    rw [nI_clamp (by omega), hK.1]
    exact ⟨vin rfl hi (by decide), brt (nI_le (by omega) (by omega)) h⟩
  | succ m ih =>
    intro c hc h32 h
    unfold wpX9_lowest_L26
    rw [nI_clamp (by omega), hK.1, a31 (by omega), i32, nI_clamp (by omega), hK.2.1 c (by omega) h32]
    refine ⟨vin rfl hi (by decide), brf (nI_ge (by omega) (by omega)) ⟨vin rfl (by omega) (by decide), br01' (fun e => ?_) (fun e => ?_)⟩⟩
    · rintro _ rfl
      rw [nI_1]
      refine ih (c + 1) (by omega) (by omega) ?_
      rw [lowF, if_neg (by rw [e]; decide)] at h
      exact h
    · rw [lowF, if_pos e] at h
      exact h
theorem lowest_ok {τ : Sg} {i nc : Nat} {un : Nat → Un} {Q : Int32 → Sg → Prop} (hi : i < 6) (hK : KpM τ i nc un) (hn : nc < 2 ^ 20) (h24 : nc ≤ lowK (kpt un) nc + 24) (h : Q (nI (lowK (kpt un) nc)) τ) : wpX9_lowest (nI i) τ Q := by
  obtain ⟨l1, l2, l3⟩ := lowK_spec (kpt un) nc
  unfold wpX9_lowest
  rw [nI_clamp (by omega), hK.1]
  refine ⟨vin rfl hi (by decide), ?_⟩
  have go : wpX9_lowest_L25 Q (nI i) (nI (nc - 24)) τ := by
    unfold wpX9_lowest_L25
    refine ⟨nc - (nc - 24) + 1, lw26 hi hK hn (nc - (nc - 24)) (nc - 24) (by omega) (by omega) ?_⟩
    rw [lowK_from (by omega) (fun k hk => l2 k (by omega))]
    exact h
  rcases Nat.lt_or_ge nc 24 with h9 | h9
  · have hneg := pk_sneg (a := nc) (b := 24) (by decide) h9
    refine brf (Int32.not_le.mpr hneg) ?_
    rw [show nc - 24 = 0 by omega] at go
    exact go
  · have e : nI nc - 24 = nI (nc - 24) := pk_sub (a := nc) (b := 24) h9
    rw [e]
    exact brt (nI_pos' (by omega)) ⟨vin rfl hi (by decide), go⟩
theorem nAg_R {q : Pce} : cnt (agR q) 0 q.1.length = nMk q := by
  unfold nMk
  cases e : q.2.2.2 with
  | true => exact cnt_0 _ (fun k _ _ => by unfold agR; rw [e]; rfl)
  | false => exact cnt_congr _ (fun k _ _ => by unfold agR; rw [e]; rfl)
theorem ia16 {τ : Sg} {f : Nat} {q : Pce} {Q : Int32 → Sg → Prop} (hf : f < 96) (hP : PcM τ f q) (h : Q (nI (nMk q)) τ) : ∀ (m k : Nat), k + m = q.1.length → wpX9_isAgain_L16 Q (m + 1) (nI (cnt (agR q) 0 k)) (nI f) (nI k) τ := by
  obtain ⟨p1, p2, p3, p4, p5⟩ := hP
  intro m
  induction m with
  | zero =>
    intro k hk
    have hk : k = q.1.length := by omega
    subst hk
    unfold wpX9_isAgain_L16
    rw [nI_clamp (by omega), p1, nAg_R]
    exact ⟨vin rfl hf (by decide), brt (nI_le (Nat.le_refl _) (by omega)) h⟩
  | succ m ih =>
    intro k hk
    have hi := ih (k + 1) (by omega)
    have ec : cnt (agR q) 0 (k + 1) = cnt (agR q) 0 k + if agR q k then 1 else 0 := by
      show cnt (agR q) 0 k + (if agR q (0 + k) then 1 else 0) = _
      rw [Nat.zero_add]
    rw [ec] at hi
    unfold wpX9_isAgain_L16
    rw [nI_clamp (by omega), p1, i240, nI_clamp (by omega), (p5 k (by omega)).2.2.2.2]
    refine ⟨vin rfl hf (by decide), brf (nI_ge (by omega) (by omega)) ⟨vin rfl (by omega) (by decide), br01 (fun e => ?_) (fun e => ?_)⟩⟩
    · unfold wpX9_isAgain_L51
      rintro _ rfl _ rfl
      rw [e] at hi
      have e0 : nI (cnt (agR q) 0 k) + 0 = nI (cnt (agR q) 0 k + 0) := nI_add _ 0
      rw [e0, nI_1]
      exact hi
    · unfold wpX9_isAgain_L51
      rintro _ rfl _ rfl
      rw [e] at hi
      rw [nI_1, nI_1]
      exact hi
theorem isAgain_ok {τ : Sg} {i A S x : Nat} {pc : Nat → Pce} {Q : Int32 → Sg → Prop} (hi : i < 6) (hP : PsM τ i A S pc) (h1 : A ≤ x) (h2 : x < S) (hx : x < 2 ^ 20) (h : Q (nI (nMk (pc x))) τ) : wpX9_isAgain (nI i) (nI x) τ Q := by
  unfold wpX9_isAgain
  rw [a15 (by omega), i16]
  rintro _ rfl
  exact ⟨(pc x).1.length + 1, ia16 (by omega) (hP x h1 h2) h (pc x).1.length 0 (by omega)⟩
theorem aa9 {τ : Sg} {i A S : Nat} {pc : Nat → Pce} {Q : Int32 → Sg → Prop} (hi : i < 6) (h4 : τ 4 i = nI S) (hS : S < 2 ^ 20) (hP : PsM τ i A S pc) (h : Q (nI (aSum pc A (S - A))) τ) : ∀ (m x : Nat), x + m = S → A ≤ x → wpX9_allAgain_L9 Q (m + 1) (nI i) (nI (aSum pc A (x - A))) (nI x) τ := by
  intro m
  induction m with
  | zero =>
    intro x hx hA
    have hx : x = S := by omega
    subst hx
    unfold wpX9_allAgain_L9
    rw [nI_clamp (by omega), h4]
    exact ⟨vin rfl hi (by decide), brt (nI_le (Nat.le_refl _) (by omega)) h⟩
  | succ m ih =>
    intro x hx hA
    have hn := ih (x + 1) (by omega) (by omega)
    unfold wpX9_allAgain_L9
    rw [nI_clamp (by omega), h4]
    refine ⟨vin rfl hi (by decide), brf (nI_ge (by omega) (by omega)) (isAgain_ok hi hP hA (by omega) (by omega) ?_)⟩
    rintro _ rfl _ rfl
    rw [nI_add, nI_1]
    have e : aSum pc A (x + 1 - A) = aSum pc A (x - A) + nMk (pc x) := by
      rw [show x + 1 - A = (x - A) + 1 by omega]
      show aSum pc A (x - A) + nMk (pc (A + (x - A))) = _
      rw [show A + (x - A) = x by omega]
    rw [e] at hn
    exact hn
theorem allAgain_ok {τ : Sg} {i A S : Nat} {pc : Nat → Pce} {Q : Int32 → Sg → Prop} (hi : i < 6) (h3 : τ 3 i = nI A) (h4 : τ 4 i = nI S) (hA : A ≤ S) (hS : S < 2 ^ 20) (hP : PsM τ i A S pc) (h : Q (nI (aSum pc A (S - A))) τ) : wpX9_allAgain (nI i) τ Q := by
  unfold wpX9_allAgain
  rw [nI_clamp (by omega), h3]
  refine ⟨vin rfl hi (by decide), ?_⟩
  rintro _ rfl
  refine ⟨S - A + 1, ?_⟩
  have := aa9 hi h4 hS hP h (S - A) A (by omega) (Nat.le_refl _)
  rw [Nat.sub_self] at this
  exact this
theorem ft10 {τ : Sg} {f fr up n : Nat} {la : Nat → Bool} {Q : Int32 → Sg → Prop} (hf : f < 96) (hu : up ≤ 240) (hn : n < 2 ^ 20) (hla : ∀ k, fr ≤ k → k < up → τ 31 (240 * f + k) = b01 (la k)) : ∀ (m i used : Nat), i + m = up → fr ≤ i → used ≤ n → Q (nI (fitN la fr m (n - used) i - fr)) τ → wpX9_fitting_L10 Q (m + 2) (nI f) (nI fr) (nI up) (nI n) (nI used) (nI i) 1 τ := by
  intro m
  induction m with
  | zero =>
    intro i used hi hfr hus h
    unfold wpX9_fitting_L10
    refine brf (by decide) (brt (nI_le (by omega) (by omega)) ?_)
    rw [pk_sub hfr]
    exact h
  | succ m ih =>
    intro i used hi hfr hus h
    have hcs : cst la fr i ≤ 2 := by unfold cst; split <;> omega
    have L51 : ∀ z1 z0 : Int32, z1 + z0 = nI (cst la fr i) → wpX9_fitting_L51 Q (wpX9_fitting_L10 Q (m + 2)) (nI f) (nI fr) (nI up) (nI n) (nI used) (nI i) z0 z1 τ := by
      intro z1 z0 hz
      unfold wpX9_fitting_L51
      rintro _ rfl
      rw [hz, nI_add]
      refine pk_lt n (used + cst la fr i) (fun hlt => ?_) (fun hlt => ?_)
      · unfold wpX9_fitting_L69
        rintro _ rfl
        rw [nI_add]
        refine brt rfl ?_
        unfold wpX9_fitting_L90
        rintro _ rfl
        unfold wpX9_fitting_L10
        refine brt rfl ?_
        rw [fitN, if_neg (by omega)] at h
        have e0 : nI i + 0 = nI (i + 0) := nI_add i 0
        rw [e0, Nat.add_zero, pk_sub hfr]
        exact h
      · unfold wpX9_fitting_L69
        rintro _ rfl
        rw [nI_add]
        refine brf (by decide) ?_
        unfold wpX9_fitting_L90
        rintro _ rfl
        rw [nI_1]
        rw [fitN, if_pos (by omega)] at h
        refine ih (i + 1) (used + cst la fr i) (by omega) (by omega) (by omega) ?_
        rw [show n - (used + cst la fr i) = n - used - cst la fr i by omega]
        exact h
    unfold wpX9_fitting_L10
    refine brf (by decide) (brf (nI_ge (by omega) (by omega)) (pk_le i fr (fun hle => ?_) (fun hgt => ?_)))
    · unfold wpX9_fitting_L50
      exact L51 1 0 (by unfold cst; rw [if_neg (by omega)]; rfl)
    · have e1 : ((240 : Int32) * nI f + nI i) - 1 = nI (240 * f + (i - 1)) := by
        rw [i240]
        have : nI (240 * f + i) - 1 = nI (240 * f + i - 1) := pk_sub (a := 240 * f + i) (b := 1) (by omega)
        rw [this]
        congr 1
        omega
      rw [e1, nI_clamp (by omega), hla (i - 1) (by omega) (by omega)]
      refine ⟨vin rfl (by omega) (by decide), br01 (fun e => ?_) (fun e => ?_)⟩
      · unfold wpX9_fitting_L50
        exact L51 1 0 (by unfold cst; rw [if_neg (by rw [e]; simp)]; rfl)
      · exact L51 1 1 (by unfold cst; rw [if_pos ⟨hgt, e⟩]; rfl)
theorem rfitting_ok {τ : Sg} {f fr up head n : Nat} {la : Nat → Bool} {Q : Int32 → Sg → Prop} (hf : f < 96) (hu : up ≤ 240) (hfr : fr ≤ up) (hn : n < 2 ^ 20) (hh : head ≤ n) (hla : ∀ k, fr ≤ k → k < up → τ 31 (240 * f + k) = b01 (la k)) (h : Q (nI (fitN la fr (up - fr) (n - head) fr - fr)) τ) : wpX9_fitting (nI f) (nI fr) (nI up) (nI head) (nI n) τ Q := ⟨up - fr + 2, ft10 hf hu hn hla (up - fr) fr head (by omega) (Nat.le_refl _) hh h⟩
