/-! PURE: what is read -/
def noP (x1 x2 : Int32) (B : Nat) : Prop := x1 < 0 ∨ 1 < x1 ∨ x2 < 0 ∨ nI B ≤ x2
theorem isPlace_ok {P B : Nat} {x1 x2 : Int32} {σ : Sg} {Q : Int32 → Sg → Prop} (h0 : σ 0 0 = nI B) (hB : B ≤ 3) (hn : noP x1 x2 B → Q 0 σ) (hy : ∀ p b, p < 2 → b < B → x1 = nI p → x2 = nI b → Q 1 σ) : wpX8_isPlace P x1 x2 σ Q := by
  unfold wpX8_isPlace
  rw [h0]
  refine ⟨fun h1 => hn (Or.inl h1), fun h1 => ⟨fun h2 => hn (Or.inr (Or.inl h2)), fun h2 => ⟨fun h3 => hn (Or.inr (Or.inr (Or.inl h3))), fun h3 => ⟨fun h4 => hn (Or.inr (Or.inr (Or.inr h4))), fun h4 => ?_⟩⟩⟩⟩
  obtain ⟨p, hp, ep⟩ := nI_of2 (M := 1) (n := 1) rfl h1 (Int32.not_lt.mp h2)
  rcases pk_ix x2 (n := B) (by omega) with h | h | ⟨b, hb, eb⟩
  · exact absurd h h3
  · exact absurd h h4
  · exact hy p b (by omega) hb ep eb
theorem isThere_no {B : Nat} {x1 x2 : Int32} {τ : Sg} {Q : Int32 → Sg → Prop} (h0 : τ 0 0 = nI B) (hn : noP x1 x2 B) (h : Q 0 τ) : wpX9_isThere x1 x2 τ Q := by
  unfold wpX9_isThere
  rw [h0]
  refine ⟨fun _ => h, fun h1 => ⟨fun _ => h, fun h2 => ⟨fun _ => h, fun h3 => ⟨fun _ => h, fun h4 => ?_⟩⟩⟩⟩
  rcases hn with hn | hn | hn | hn
  · exact absurd hn h1
  · exfalso
    apply h2
    have h9 := lt_i.mp hn
    have h9 : (1 : Int) < x1.toInt := h9
    refine Int32.not_lt.mp (fun h8 => ?_)
    have h8 := lt_i.mp h8
    have h8 : x1.toInt < (2 : Int) := h8
    omega
  · exact absurd hn h3
  · exact absurd hn h4
theorem isThere_yes {B p b : Nat} {τ : Sg} {Q : Int32 → Sg → Prop} (h0 : τ 0 0 = nI B) (hB : B ≤ 3) (hp : p < 2) (hb : b < B) (h : Q 1 τ) : wpX9_isThere (nI p) (nI b) τ Q := by
  unfold wpX9_isThere
  rw [h0]
  exact brf (nI_pos (by omega)) (brf (nI_ge (a := p) (b := 2) hp (by decide)) (brf (nI_pos (by omega)) (brf (nI_ge hb (by omega)) h)))
theorem plI {p B b : Nat} {σ : Sg} (h0 : σ 0 0 = nI B) : (nI p * σ 0 0) + nI b = nI (p * B + b) := by
  rw [h0]
  have : nI p * nI B = nI (p * B) := pk_mul p B
  rw [this, nI_add]
/-- counts -/
theorem cnt_rot {f : Nat → Bool} : ∀ a, cnt (fun c => f (c % 32)) a 32 = cnt f 0 32
  | 0 => cnt_congr 32 (fun k _ k2 => by show f (k % 32) = f k; rw [Nat.mod_eq_of_lt (by omega)])
  | a + 1 => by
    have ih := cnt_rot (f := f) a
    have h1 := cnt_left (f := fun c => f (c % 32)) (a := a) (n := 31)
    have h2 : cnt (fun c => f (c % 32)) (a + 1) 32 = cnt (fun c => f (c % 32)) (a + 1) 31 + if f ((a + 1 + 31) % 32) then 1 else 0 := rfl
    have h3 : (a + 1 + 31) % 32 = a % 32 := by omega
    rw [h3] at h2
    have h4 : b2n (f (a % 32)) = if f (a % 32) then 1 else 0 := rfl
    rw [← ih, h1, h2]
    show _ = b2n (f (a % 32)) + _
    rw [h4]
    omega
theorem kept_cnt {τ : Sg} {i nc : Nat} {un : Nat → Un} {w : Wt} (hK : KpM τ i nc un) (hV : ObV nc un w) : cnt (fun s => decide (¬ τ 15 (32 * i + s) = 0)) 0 32 = cnt (kpt un) 0 nc := by
  obtain ⟨k1, k2, k3, k4⟩ := hK
  have hb : ∀ b : Bool, decide (¬ b01 b = 0) = b := fun b => by cases b <;> rfl
  have e : ∀ c, c < nc → nc ≤ c + 32 → decide (¬ τ 15 (32 * i + c % 32) = 0) = kpt un c := fun c c1 c2 => by rw [k2 c c1 c2]; exact hb _
  by_cases h32 : nc ≤ 32
  · have hs := cnt_split (f := fun s => decide (¬ τ 15 (32 * i + s) = 0)) (a := 0) (m := nc) (32 - nc)
    rw [show nc + (32 - nc) = 32 by omega] at hs
    rw [hs, cnt_0 (32 - nc) (fun k h1 h2 => by show decide (¬ τ 15 (32 * i + k) = 0) = false; rw [k3 k (by omega) (by omega)]; rfl), Nat.add_zero]
    refine cnt_congr nc (fun k h1 h2 => ?_)
    have := e k (by omega) (by omega)
    rw [Nat.mod_eq_of_lt (by omega)] at this
    exact this
  · have hs := cnt_split (f := kpt un) (a := 0) (m := nc - 32) 32
    rw [show nc - 32 + 32 = nc by omega] at hs
    have hl := hV.2.1
    have hlow := (lowK_spec (kpt un) nc).2.1
    rw [hs, cnt_0 (nc - 32) (fun k h1 h2 => hlow k (by omega)), Nat.zero_add, Nat.zero_add, ← cnt_rot (nc - 32)]
    refine cnt_congr 32 (fun k h1 h2 => ?_)
    exact e k (by omega) (by omega)

theorem rd102 {τ : Sg} {i : Nat} {f : Nat → Bool} {Q : Int32 → Sg → Prop} (hi : i < 6) (hf : ∀ s, s < 32 → f s = decide (¬ τ 15 (32 * i + s) = 0)) (h : Q (nI (cnt f 0 32)) τ) : ∀ (m k : Nat), k + m = 32 → wpX9_sender_L102 Q (m + 1) (nI i) (nI (cnt f 0 k)) (nI k) τ := by
  intro m
  induction m with
  | zero =>
    intro k hk
    have hk : k = 32 := by omega
    subst hk
    unfold wpX9_sender_L102
    exact brt (by decide) h
  | succ m ih =>
    intro k hk
    have ei : (32 * nI i) + nI k = nI (32 * i + k) := by
      have : (32 : Int32) * nI i = nI (32 * i) := pk_mul 32 i
      rw [this, nI_add]
    have next : ∀ z : Nat, z = (if f k then 1 else 0) → wpX9_sender_L132 Q (wpX9_sender_L102 Q (m + 1)) (nI i) (nI k) (nI z) (nI (cnt f 0 k)) τ := by
      intro z hz
      unfold wpX9_sender_L132
      rw [nI_add, nI_1]
      rintro _ rfl _ rfl
      have := ih (k + 1) (by omega)
      have e : cnt f 0 (k + 1) = cnt f 0 k + z := by
        show cnt f 0 k + (if f (0 + k) then 1 else 0) = _
        rw [Nat.zero_add, hz]
      rw [e] at this
      exact this
    unfold wpX9_sender_L102
    rw [ei, nI_clamp (n := 32 * i + k) (by omega)]
    refine brf (nI_ge (a := k) (b := 32) (by omega) (by decide)) ⟨vin rfl (by omega) (by decide), fun hz => ?_, fun hz => ?_⟩
    · refine next 0 ?_
      rw [hf k (by omega), decide_eq_false (fun hh => hh hz)]
      rfl
    · refine next 1 ?_
      rw [hf k (by omega), decide_eq_true hz]
      rfl
theorem rd86 {τ : Sg} {i : Nat} {f : Nat → Bool} {Q : Int32 → Sg → Prop} (hi : i < 6) (hf : ∀ s, s < 32 → f s = decide (¬ τ 59 (32 * i + s) = 0)) (h : Q (nI (cnt f 0 32)) τ) : ∀ (m k : Nat), k + m = 32 → wpX9_delivered_L86 Q (m + 1) (nI i) (nI (cnt f 0 k)) (nI k) τ := by
  intro m
  induction m with
  | zero =>
    intro k hk
    have hk : k = 32 := by omega
    subst hk
    unfold wpX9_delivered_L86
    exact brt (by decide) h
  | succ m ih =>
    intro k hk
    have ei : (32 * nI i) + nI k = nI (32 * i + k) := by
      have : (32 : Int32) * nI i = nI (32 * i) := pk_mul 32 i
      rw [this, nI_add]
    have next : ∀ z : Nat, z = (if f k then 1 else 0) → wpX9_delivered_L116 Q (wpX9_delivered_L86 Q (m + 1)) (nI i) (nI k) (nI z) (nI (cnt f 0 k)) τ := by
      intro z hz
      unfold wpX9_delivered_L116
      rw [nI_add, nI_1]
      rintro _ rfl _ rfl
      have := ih (k + 1) (by omega)
      have e : cnt f 0 (k + 1) = cnt f 0 k + z := by
        show cnt f 0 k + (if f (0 + k) then 1 else 0) = _
        rw [Nat.zero_add, hz]
      rw [e] at this
      exact this
    unfold wpX9_delivered_L86
    rw [ei, nI_clamp (n := 32 * i + k) (by omega)]
    refine brf (nI_ge (a := k) (b := 32) (by omega) (by decide)) ⟨vin rfl (by omega) (by decide), fun hz => ?_, fun hz => ?_⟩
    · refine next 0 ?_
      rw [hf k (by omega), decide_eq_false (fun hh => hh hz)]
      rfl
    · refine next 1 ?_
      rw [hf k (by omega), decide_eq_true hz]
      rfl
theorem rd150 {τ : Sg} {i : Nat} {f : Nat → Bool} {Q : Int32 → Sg → Prop} (hi : i < 6) (hf : ∀ s, s < 7680 → f s = decide (¬ τ 46 (7680 * i + s) = 0)) (h : Q (nI (cnt f 0 7680)) τ) : ∀ (m k : Nat), k + m = 7680 → wpX9_receiver_L150 Q (m + 1) (nI i) (nI (cnt f 0 k)) (nI k) τ := by
  intro m
  induction m with
  | zero =>
    intro k hk
    have hk : k = 7680 := by omega
    subst hk
    unfold wpX9_receiver_L150
    exact brt (by decide) h
  | succ m ih =>
    intro k hk
    have ei : (7680 * nI i) + nI k = nI (7680 * i + k) := by
      have : (7680 : Int32) * nI i = nI (7680 * i) := pk_mul 7680 i
      rw [this, nI_add]
    have next : ∀ z : Nat, z = (if f k then 1 else 0) → wpX9_receiver_L182 Q (wpX9_receiver_L150 Q (m + 1)) (nI i) (nI k) (nI z) (nI (cnt f 0 k)) τ := by
      intro z hz
      unfold wpX9_receiver_L182
      rw [nI_add, nI_1]
      rintro _ rfl _ rfl
      have := ih (k + 1) (by omega)
      have e : cnt f 0 (k + 1) = cnt f 0 k + z := by
        show cnt f 0 k + (if f (0 + k) then 1 else 0) = _
        rw [Nat.zero_add, hz]
      rw [e] at this
      exact this
    unfold wpX9_receiver_L150
    rw [ei, nI_clamp (n := 7680 * i + k) (by omega)]
    refine brf (nI_ge (a := k) (b := 7680) (by omega) (by decide)) ⟨vin rfl (by omega) (by decide), fun hz => ?_, fun hz => ?_⟩
    · refine next 0 ?_
      rw [hf k (by omega), decide_eq_false (fun hh => hh hz)]
      rfl
    · refine next 1 ?_
      rw [hf k (by omega), decide_eq_true hz]
      rfl
theorem cnt_blk {F : Nat → Bool} : ∀ m, cnt F 0 (240 * m) = hldN (fun s => (false, fun k => F (240 * s + k))) m 0 := by
  have key : ∀ m s, hldN (fun s => (false, fun k => F (240 * s + k))) m s = cnt F (240 * s) (240 * m) := by
    intro m
    induction m with
    | zero => intro s; rfl
    | succ m ih =>
      intro s
      show cnt (fun k => F (240 * s + k)) 0 240 + hldN (fun s => (false, fun k => F (240 * s + k))) m (s + 1) = _
      rw [ih (s + 1), show 240 * (m + 1) = 240 + 240 * m by omega, cnt_split, show 240 * (s + 1) = 240 * s + 240 by omega]
      have sh : ∀ n, cnt (fun k => F (240 * s + k)) 0 n = cnt F (240 * s) n := by
        intro n
        induction n with
        | zero => rfl
        | succ n ihn =>
          show cnt (fun k => F (240 * s + k)) 0 n + (if F (240 * s + (0 + n)) then 1 else 0) = cnt F (240 * s) n + (if F (240 * s + n) then 1 else 0)
          rw [ihn, Nat.zero_add]
      rw [sh 240]
  intro m
  rw [key m 0, Nat.mul_zero]
theorem hld_congr {pc pc' : Rpc} : ∀ (m x : Nat), (∀ y, x ≤ y → y < x + m → cnt (pc y).2 0 240 = cnt (pc' y).2 0 240) → hldN pc m x = hldN pc' m x
  | 0, _, _ => rfl
  | m + 1, x, h => by
    show cnt (pc x).2 0 240 + hldN pc m (x + 1) = cnt (pc' x).2 0 240 + hldN pc' m (x + 1)
    rw [h x (Nat.le_refl _) (by omega), hld_congr m (x + 1) (fun y y1 y2 => h y (by omega) (by omega))]
theorem hld_snoc {pc : Rpc} : ∀ (m x : Nat), hldN pc (m + 1) x = hldN pc m x + cnt (pc (x + m)).2 0 240
  | 0, x => by show cnt (pc x).2 0 240 + 0 = 0 + cnt (pc x).2 0 240; omega
  | m + 1, x => by
    show cnt (pc x).2 0 240 + hldN pc (m + 1) (x + 1) = (cnt (pc x).2 0 240 + hldN pc m (x + 1)) + _
    rw [hld_snoc m (x + 1), show x + 1 + m = x + (m + 1) by omega]
    omega
theorem hld_rot {pc : Rpc} : ∀ a, hldN (fun c => pc (c % 32)) 32 a = hldN pc 32 0
  | 0 => hld_congr 32 0 (fun y _ y2 => by show cnt (pc (y % 32)).2 0 240 = _; rw [Nat.mod_eq_of_lt (by omega)])
  | a + 1 => by
    have ih := hld_rot (pc := pc) a
    have h1 : hldN (fun c => pc (c % 32)) 32 a = cnt (pc (a % 32)).2 0 240 + hldN (fun c => pc (c % 32)) 31 (a + 1) := rfl
    have h2 := hld_snoc (pc := fun c => pc (c % 32)) 31 (a + 1)
    have h3 : (a + 1 + 31) % 32 = a % 32 := by omega
    have h2 : hldN (fun c => pc (c % 32)) 32 (a + 1) = hldN (fun c => pc (c % 32)) 31 (a + 1) + cnt (pc ((a + 1 + 31) % 32)).2 0 240 := h2
    rw [h3] at h2
    rw [← ih, h1, h2]
    omega
theorem hld_0 {pc : Rpc} : ∀ (m x : Nat), (∀ y, x ≤ y → y < x + m → cnt (pc y).2 0 240 = 0) → hldN pc m x = 0
  | 0, _, _ => rfl
  | m + 1, x, h => by
    show cnt (pc x).2 0 240 + hldN pc m (x + 1) = 0
    rw [h x (Nat.le_refl _) (by omega), hld_0 m (x + 1) (fun y y1 y2 => h y (by omega) (by omega))]
theorem hld_split {pc : Rpc} : ∀ (m n x : Nat), hldN pc (m + n) x = hldN pc m x + hldN pc n (x + m)
  | 0, n, x => by rw [Nat.zero_add, Nat.add_zero]; show _ = 0 + _; omega
  | m + 1, n, x => by
    rw [show m + 1 + n = (m + n) + 1 by omega]
    show cnt (pc x).2 0 240 + hldN pc (m + n) (x + 1) = (cnt (pc x).2 0 240 + hldN pc m (x + 1)) + _
    rw [hld_split m n (x + 1), show x + 1 + m = x + (m + 1) by omega]
    omega
theorem held_cnt {τ : Sg} {i : Nat} {G : Nat → List Cel} {r : Rmd} (hP : RpsM τ i (r.1 2) G r.2.1) (hc : clrP r.1 r.2.1) (h23 : r.1 2 ≤ r.1 3) (h3 : r.1 3 ≤ r.1 2 + 31) : cnt (fun k => decide (¬ τ 46 (7680 * i + k) = 0)) 0 7680 = hldN r.2.1 (r.1 3 - r.1 2) (r.1 2) := by
  have hb : ∀ b : Bool, decide (¬ b01 b = 0) = b := fun b => by cases b <;> rfl
  have e1 := cnt_blk (F := fun k => decide (¬ τ 46 (7680 * i + k) = 0)) 32
  rw [show 240 * 32 = 7680 from rfl] at e1
  rw [e1, ← hld_rot (r.1 2)]
  have e2 : hldN (fun c => (false, fun k => decide (¬ τ 46 (7680 * i + (240 * (c % 32) + k)) = 0))) 32 (r.1 2) = hldN r.2.1 32 (r.1 2) := by
    refine hld_congr 32 _ (fun y y1 y2 => ?_)
    refine cnt_congr 240 (fun k _ k2 => ?_)
    show decide (¬ τ 46 (7680 * i + (240 * (y % 32) + k)) = 0) = _
    obtain ⟨p1, p2, p3, p4, p5⟩ := hP y y1 y2
    have := p3 k (by omega)
    rw [show 7680 * i + (240 * (y % 32) + k) = 240 * (32 * i + y % 32) + k by omega, this]
    exact hb _
  have e3 : hldN r.2.1 32 (r.1 2) = hldN r.2.1 (r.1 3 - r.1 2) (r.1 2) := by
    have := hld_split (pc := r.2.1) (r.1 3 - r.1 2) (32 - (r.1 3 - r.1 2)) (r.1 2)
    rw [show r.1 3 - r.1 2 + (32 - (r.1 3 - r.1 2)) = 32 by omega] at this
    have hz := hld_0 (pc := r.2.1) (32 - (r.1 3 - r.1 2)) (r.1 2 + (r.1 3 - r.1 2)) (fun y y1 y2 => by
      rw [hc y (by omega)]
      exact cnt_0 240 (fun _ _ _ => rfl))
    omega
  rw [← e3, ← e2]

def a_sender (s : Smd) (x : Int32) : Int32 := if x = 0 then nI (s.1 4) else if x = 1 then nI (s.1 5) else if x = 2 then nI (cnt (kpt s.2.2.2.2.1) 0 s.2.2.2.1) else if x = 3 then nI (wLen s.2.2.2.2.2) else if x = 4 then nI (s.1 6) else if x = 5 then nI (s.1 10) else if x = 6 then nI (s.1 8) else if x = 7 then s.2.1 else if x = 8 then nI (s.1 12) else if x = 9 then nI (s.1 13) else if x = 10 then nI (s.1 14) else if x = 11 then nI s.2.2.2.1 else -1
theorem a_sender_no {s : Smd} {x3 : Int32} (hn : ¬ (x3 = 0 ∨ x3 = 1 ∨ x3 = 2 ∨ x3 = 3 ∨ x3 = 4 ∨ x3 = 5 ∨ x3 = 6 ∨ x3 = 7 ∨ x3 = 8 ∨ x3 = 9 ∨ x3 = 10 ∨ x3 = 11)) : a_sender s x3 = -1 := by
  simp only [not_or] at hn
  obtain ⟨n0, n1, n2, n3, n4, n5, n6, n7, n8, n9, n10, n11⟩ := hn
  unfold a_sender
  rw [if_neg n0, if_neg n1, if_neg n2, if_neg n3, if_neg n4, if_neg n5, if_neg n6, if_neg n7, if_neg n8, if_neg n9, if_neg n10, if_neg n11]
def a_receiver (r : Rmd) (x : Int32) : Int32 := if x = 0 then nI (r.1 2) else if x = 1 then nI (r.1 3) else if x = 2 then nI (r.1 4) else if x = 3 then nI (r.1 5) else if x = 4 then nI (r.1 8) else if x = 5 then nI (r.1 9) else if x = 6 then nI (r.1 7) else if x = 7 then nI (hldN r.2.1 (r.1 3 - r.1 2) (r.1 2)) else if x = 8 then nI (r.1 10) else if x = 9 then nI (r.1 11) else if x = 10 then nI (r.1 12) else if x = 11 then (nI (r.1 6) - 1) else -1
theorem a_receiver_no {r : Rmd} {x3 : Int32} (hn : ¬ (x3 = 0 ∨ x3 = 1 ∨ x3 = 2 ∨ x3 = 3 ∨ x3 = 4 ∨ x3 = 5 ∨ x3 = 6 ∨ x3 = 7 ∨ x3 = 8 ∨ x3 = 9 ∨ x3 = 10 ∨ x3 = 11)) : a_receiver r x3 = -1 := by
  simp only [not_or] at hn
  obtain ⟨n0, n1, n2, n3, n4, n5, n6, n7, n8, n9, n10, n11⟩ := hn
  unfold a_receiver
  rw [if_neg n0, if_neg n1, if_neg n2, if_neg n3, if_neg n4, if_neg n5, if_neg n6, if_neg n7, if_neg n8, if_neg n9, if_neg n10, if_neg n11]
def a_delivered (r : Inr) (x : Int32) : Int32 := if x = 0 then r.1 else if x = 1 then r.2.1 else if x = 2 then r.2.2.1 else if x = 3 then nI (cnt (stNe r.2.2.2.2.2) 0 32) else if x = 4 then r.2.2.2.1 else if x = 5 then nI r.2.2.2.2.1.length else -1
theorem a_delivered_no {r : Inr} {x3 : Int32} (hn : ¬ (x3 = 0 ∨ x3 = 1 ∨ x3 = 2 ∨ x3 = 3 ∨ x3 = 4 ∨ x3 = 5)) : a_delivered r x3 = -1 := by
  simp only [not_or] at hn
  obtain ⟨n0, n1, n2, n3, n4, n5⟩ := hn
  unfold a_delivered
  rw [if_neg n0, if_neg n1, if_neg n2, if_neg n3, if_neg n4, if_neg n5]
