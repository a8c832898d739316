/-! PURE: the key of the class -/
theorem up2_up {σ : Sg} {c k : Nat} {v : Int32} {r : Nat → Int32} : up2 (va_up σ c r) c k v = va_up σ c (upd r k v) := by
  funext d j
  by_cases e : d = c
  · subst e
    simp [up2, va_up, upd]
  · simp [up2, va_up, e]
theorem up2_as {σ : Sg} {c k : Nat} {v : Int32} : up2 σ c k v = va_up σ c (upd (σ c) k v) := rfl
theorem vu_s {σ : Sg} {c : Nat} {r : Nat → Int32} : va_up σ c r c = r := by simp [va_up]
theorem vu_o {σ : Sg} {c d : Nat} {r : Nat → Int32} (h : d ≠ c) : va_up σ c r d = σ d := by simp [va_up, h]
theorem vu_id {σ : Sg} {c : Nat} : va_up σ c (σ c) = σ := by
  funext d
  by_cases e : d = c
  · subst e
    simp [va_up]
  · simp [va_up, e]
/-- a number's place in a row -/
theorem vin {x : Int32} {n N : Nat} (e : x = nI n) (h : n < N) (hN : N < 2 ^ 31) : vp_in x N := by rw [e]; exact vp_in_nI h hN
theorem ncl {x : Int32} {n : Nat} (e : x = nI n) (h : n < 2 ^ 31) : x.toNatClampNeg = n := by rw [e]; exact nI_clamp h
def ks0 (seed ep : Int32) (i : Nat) : Int32 := (((seed >>> ((8 * (nI i &&& 3)) &&& 31)) + (17 * nI i)) + (29 * ep)) &&& 255
def ksA (seed ep : Int32) (r : Nat → Int32) (n : Nat) : Nat → Int32 := fun k => if k < n then ks0 seed ep k else r k
def dbl8 (x : Int32) : Int32 := ((x <<< ((1 : Int32) &&& 31)) ^^^ ((x >>> ((7 : Int32) &&& 31)) * 27)) &&& 255
def kwd (tb : Nat → Int32) (t : Bool) (r : Nat → Int32) (i k : Nat) : Int32 := if t then tb (r (i - 4 + (k + 1) % 4) &&& 255).toNatClampNeg else r (i - 4 + k)
def kst (tb : Nat → Int32) (r : Nat → Int32) (pw : Int32) (i : Nat) : Nat → Int32 := fun k => if i ≤ k ∧ k < i + 4 then (r (k - 16) ^^^ kwd tb (i % 16 == 0) r i (k - i)) ^^^ (if i % 16 = 0 ∧ k = i then pw else 0) else r k
def kr (tb : Nat → Int32) (r : Nat → Int32) : Nat → (Nat → Int32) × Int32
  | 0 => (r, 1)
  | m + 1 => (kst tb (kr tb r m).1 (kr tb r m).2 (16 + 4 * m), if (16 + 4 * m) % 16 = 0 then dbl8 (kr tb r m).2 else (kr tb r m).2)
def kF (tb : Nat → Int32) (seed ep : Int32) (r : Nat → Int32) : Nat → Int32 := (kr tb (ksA seed ep r 16) 40).1
theorem key1 {tb : Nat → Int32} {Q : Sg → Prop} {c0 : Nat} {x1 x2 : Int32} {σ : Sg} (h : ∃ nn, wpX2_setKey_L48 tb Q nn c0 1 16 (va_up σ (c0 + 1) (ksA x1 x2 (σ (c0 + 1)) 16))) : ∀ (m i : Nat), i + m = 16 → wpX2_setKey_L2 tb Q (m + 1) c0 x1 x2 (nI i) (va_up σ (c0 + 1) (ksA x1 x2 (σ (c0 + 1)) i)) := by
  intro m
  induction m with
  | zero =>
    intro i hi
    unfold wpX2_setKey_L2
    have e : i = 16 := by omega
    subst e
    exact ⟨fun _ => h, fun hc => absurd (by decide) hc⟩
  | succ m ih =>
    intro i hi
    unfold wpX2_setKey_L2
    refine ⟨fun hc => absurd hc (nI_ge (a := i) (b := 16) (by omega) (by decide)), fun _ => ⟨vin rfl (by omega) (by decide), ?_⟩⟩
    rintro _ rfl _ rfl
    rw [nI_1, nI_clamp (by omega), up2_up]
    have e : upd (ksA x1 x2 (σ (c0 + 1)) i) i (((((x1 >>> ((8 * (nI i &&& 3)) &&& 31)) + (17 * nI i)) + (29 * x2)) &&& 255)) = ksA x1 x2 (σ (c0 + 1)) (i + 1) := by
      funext k
      unfold ksA upd
      by_cases e1 : k = i
      · subst e1
        simp [ks0]
      · by_cases e2 : k < i
        · simp [e1, e2, show k < i + 1 by omega]
        · simp [e1, e2, show ¬ k < i + 1 by omega]
    rw [e]
    exact ih (i + 1) (by omega)
def kin (tb : Nat → Int32) (t : Bool) (r : Nat → Int32) (i k : Nat) : Nat → Int32 := fun j => if i ≤ j ∧ j < i + k then r (j - 16) ^^^ kwd tb t r i (j - i) else r j
theorem kin_up {tb : Nat → Int32} {t : Bool} {r : Nat → Int32} {i k : Nat} : upd (kin tb t r i k) (i + k) (r (i + k - 16) ^^^ kwd tb t r i k) = kin tb t r i (k + 1) := by
  funext j
  unfold kin upd
  by_cases e : j = i + k
  · subst e
    rw [if_pos rfl, if_pos ⟨by omega, by omega⟩, show i + k - i = k by omega]
  · rw [if_neg e]
    dsimp only
    by_cases e2 : i ≤ j ∧ j < i + k
    · rw [if_pos e2, if_pos ⟨e2.1, by omega⟩]
    · rw [if_neg e2, if_neg (by omega)]
theorem n4 {i k : Nat} (h : 4 ≤ i) : nI i - 4 + nI k = nI (i - 4 + k) := by
  show nI i - nI 4 + nI k = _
  rw [pk_sub h, nI_add]
theorem n16 {i k : Nat} (h : 16 ≤ i + k) : nI i + nI k - 16 = nI (i + k - 16) := by
  show nI i + nI k - nI 16 = _
  rw [nI_add, pk_sub h]
theorem and3 (k : Nat) (h : k < 2 ^ 31) : (nI k + 1) &&& 3 = nI ((k + 1) % 4) := by
  rw [nI_1]
  exact pk_andN (n := k + 1) (by omega) (m := 3) 2 (by decide)
theorem and255 (x : Int32) : vp_in (x &&& 255) 256 := pk_andIn x (m := 255) 8 (by decide) (by decide)
theorem key2 {tb : Nat → Int32} {Q : Sg → Prop} {K : Nat → Int32 → Int32 → Sg → Prop} {c0 i : Nat} {pw : Int32} {σ : Sg} {r : Nat → Int32} (h1 : 16 ≤ i) (h2 : i + 4 ≤ 176) (t : Bool) (hK : K c0 (if t then dbl8 pw else pw) (nI i + 4) (va_up σ (c0 + 1) (if t then upd (kin tb t r i 4) i (kin tb t r i 4 i ^^^ pw) else kin tb t r i 4))) : ∀ (m k : Nat), k + m = 4 → wpX2_setKey_L76 tb Q K (m + 1) c0 pw (nI i) (if t then 1 else 0) (nI k) (va_up σ (c0 + 1) (kin tb t r i k)) := by
  intro m
  induction m with
  | zero =>
    intro k hk
    have e : k = 4 := by omega
    subst e
    unfold wpX2_setKey_L76
    refine ⟨fun _ => ⟨fun hz => ?_, fun hz => ?_⟩, fun hc => absurd (by decide) hc⟩
    · cases t with
      | true => exact absurd hz (by decide)
      | false =>
        unfold wpX2_setKey_L192
        rintro _ rfl
        exact hK
    · cases t with
      | false => exact absurd rfl hz
      | true =>
        refine ⟨vin rfl (by omega) (by decide), vin rfl (by omega) (by decide), ?_⟩
        rintro _ rfl _ rfl
        unfold wpX2_setKey_L192
        rintro _ rfl
        rw [nI_clamp (by omega), up2_up, vu_s]
        exact hK
  | succ m ih =>
    intro k hk
    unfold wpX2_setKey_L76
    refine ⟨fun hc => absurd hc (nI_ge (a := k) (b := 4) (by omega) (by decide)), fun _ => ⟨fun hz => ?_, fun hz => ?_⟩⟩
    · cases t with
      | true => exact absurd hz (by decide)
      | false =>
        refine ⟨vin (n4 (by omega)) (by omega) (by decide), ?_⟩
        unfold wpX2_setKey_L126
        refine ⟨vin (n16 (by omega)) (by omega) (by decide), vin (nI_add i k) (by omega) (by decide), ?_⟩
        rintro _ rfl _ rfl
        rw [ncl (n4 (by omega)) (by omega), ncl (n16 (by omega)) (by omega), ncl (nI_add i k) (by omega), vu_s, up2_up, nI_1]
        have e1 : kin tb false r i k (i + k - 16) = r (i + k - 16) := by unfold kin; rw [if_neg (by omega)]
        have e2 : kin tb false r i k (i - 4 + k) = kwd tb false r i k := by unfold kin kwd; rw [if_neg (by omega)]; simp
        rw [e1, e2, kin_up]
        exact ih (k + 1) (by omega)
    · cases t with
      | false => exact absurd rfl hz
      | true =>
        have e4 : nI i - 4 + ((nI k + 1) &&& 3) = nI (i - 4 + (k + 1) % 4) := by rw [and3 k (by omega)]; exact n4 (by omega)
        refine ⟨vin e4 (by omega) (by decide), and255 _, ?_⟩
        unfold wpX2_setKey_L126
        refine ⟨vin (n16 (by omega)) (by omega) (by decide), vin (nI_add i k) (by omega) (by decide), ?_⟩
        rintro _ rfl _ rfl
        rw [ncl e4 (by omega), ncl (n16 (by omega)) (by omega), ncl (nI_add i k) (by omega), vu_s, up2_up, nI_1]
        have e1 : kin tb true r i k (i + k - 16) = r (i + k - 16) := by unfold kin; rw [if_neg (by omega)]
        have e2 : tb (kin tb true r i k (i - 4 + (k + 1) % 4) &&& 255).toNatClampNeg = kwd tb true r i k := by unfold kin kwd; rw [if_neg (by omega)]; simp
        rw [e1, e2, kin_up]
        exact ih (k + 1) (by omega)
theorem kst_of {tb : Nat → Int32} {r : Nat → Int32} {pw : Int32} {i : Nat} : (if (i % 16 == 0) = true then upd (kin tb (i % 16 == 0) r i 4) i (kin tb (i % 16 == 0) r i 4 i ^^^ pw) else kin tb (i % 16 == 0) r i 4) = kst tb r pw i := by
  funext j
  unfold kst
  by_cases e : i % 16 = 0
  · have eb : (i % 16 == 0) = true := by simp [e]
    rw [eb]
    simp only [if_pos, upd]
    by_cases e1 : j = i
    · subst e1
      rw [if_pos rfl, if_pos ⟨by omega, by omega⟩, if_pos ⟨e, rfl⟩]
      unfold kin
      rw [if_pos ⟨by omega, by omega⟩]
    · rw [if_neg e1]
      unfold kin
      by_cases e2 : i ≤ j ∧ j < i + 4
      · rw [if_pos e2, if_pos e2, if_neg (fun h => e1 h.2)]
        simp
      · rw [if_neg e2, if_neg e2]
  · have eb : (i % 16 == 0) = false := by simp [e]
    rw [eb]
    simp only [Bool.false_eq_true, if_false]
    unfold kin
    by_cases e2 : i ≤ j ∧ j < i + 4
    · rw [if_pos e2, if_pos e2, if_neg (fun h => e h.1)]
      simp
    · rw [if_neg e2, if_neg e2]
theorem key3 {tb : Nat → Int32} {Q : Sg → Prop} {c0 : Nat} {σ : Sg} {r : Nat → Int32} (h : Q (va_up σ (c0 + 1) (kr tb r 40).1)) : ∀ (n m : Nat), m + n = 40 → wpX2_setKey_L48 tb Q (n + 1) c0 (kr tb r m).2 (nI (16 + 4 * m)) (va_up σ (c0 + 1) (kr tb r m).1) := by
  intro n
  induction n with
  | zero =>
    intro m hm
    have e : m = 40 := by omega
    subst e
    unfold wpX2_setKey_L48
    exact ⟨fun _ => h, fun hc => absurd (by decide) hc⟩
  | succ n ih =>
    intro m hm
    unfold wpX2_setKey_L48
    refine ⟨fun hc => absurd hc (nI_ge (a := 16 + 4 * m) (b := 176) (by omega) (by decide)), fun _ => ?_⟩
    have ea : nI (16 + 4 * m) &&& 15 = nI ((16 + 4 * m) % 16) := pk_andN (n := 16 + 4 * m) (by omega) (m := 15) 4 (by decide)
    have go : ∀ t : Bool, ((16 + 4 * m) % 16 == 0) = t → wpX2_setKey_L71 tb Q (wpX2_setKey_L48 tb Q (n + 1)) c0 (kr tb r m).2 (nI (16 + 4 * m)) (if t then 1 else 0) (va_up σ (c0 + 1) (kr tb r m).1) := by
      intro t ht
      unfold wpX2_setKey_L71
      refine ⟨5, ?_⟩
      have e0 : (kr tb r m).1 = kin tb t (kr tb r m).1 (16 + 4 * m) 0 := by
        funext j
        unfold kin
        rw [if_neg (by omega)]
      have hk := ih (m + 1) (by omega)
      have e5 : nI (16 + 4 * m) + 4 = nI (16 + 4 * (m + 1)) := nI_add (16 + 4 * m) 4
      have := key2 (tb := tb) (Q := Q) (K := wpX2_setKey_L48 tb Q (n + 1)) (c0 := c0) (i := 16 + 4 * m) (pw := (kr tb r m).2) (σ := σ) (r := (kr tb r m).1) (by omega) (by omega) t (by
        subst ht
        rw [kst_of, e5]
        have e6 : (if ((16 + 4 * m) % 16 == 0) = true then dbl8 (kr tb r m).2 else (kr tb r m).2) = (kr tb r (m + 1)).2 := by simp [kr]
        rw [e6]
        exact hk) 4 0 (by omega)
      rw [← e0] at this
      exact this
    rw [ea]
    refine ⟨fun hz => ?_, fun hz => ?_⟩
    · exact go false (by
        have : ¬ (16 + 4 * m) % 16 = 0 := fun h9 => hz (by rw [h9]; rfl)
        rw [beq_eq_false_iff_ne]
        exact this)
    · exact go true (by
        have h9 : (16 + 4 * m) % 16 = 0 := (nI_eq (a := (16 + 4 * m) % 16) (b := 0) (by omega) (by decide)).mp hz
        rw [beq_iff_eq]
        exact h9)
theorem setKey_ok {tb : Nat → Int32} {Q : Sg → Prop} {c0 : Nat} {x1 x2 : Int32} {σ : Sg} (h : Q (va_up σ (c0 + 1) (kF tb x1 x2 (σ (c0 + 1))))) : wpX2_setKey tb c0 x1 x2 σ Q := by
  unfold wpX2_setKey
  refine ⟨17, ?_⟩
  have e0 : va_up σ (c0 + 1) (ksA x1 x2 (σ (c0 + 1)) 0) = σ := by
    rw [show ksA x1 x2 (σ (c0 + 1)) 0 = σ (c0 + 1) from by funext k; simp [ksA]]
    exact vu_id
  have := key1 (tb := tb) (Q := Q) (c0 := c0) (x1 := x1) (x2 := x2) (σ := σ) ⟨41, key3 (r := ksA x1 x2 (σ (c0 + 1)) 16) h 40 0 (by omega)⟩ 16 0 (by omega)
  rw [e0] at this
  exact this
