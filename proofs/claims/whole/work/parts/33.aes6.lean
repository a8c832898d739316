/-! PURE: the reference's key -/
theorem mky1 {Q : Sg → Prop} {σ : Sg} (h : ∃ nn, wpX9_makeKey_L53 Q nn 1 16 (va_up σ 68 (ksA (σ 0 1) (σ 0 3) (σ 68) 16))) : ∀ (m i : Nat), i + m = 16 → wpX9_makeKey_L2 Q (m + 1) (nI i) (va_up σ 68 (ksA (σ 0 1) (σ 0 3) (σ 68) i)) := by
  intro m
  induction m with
  | zero =>
    intro i hi
    have e : i = 16 := by omega
    subst e
    unfold wpX9_makeKey_L2
    exact ⟨fun _ => h, fun hc => absurd (by decide) hc⟩
  | succ m ih =>
    intro i hi
    unfold wpX9_makeKey_L2
    refine ⟨fun hc => absurd hc (nI_ge (a := i) (b := 16) (by omega) (by decide)), fun _ => ⟨vin rfl (by omega) (by decide), ?_⟩⟩
    rintro _ rfl _ rfl
    rw [nI_1, nI_clamp (by omega), up2_up, vu_o (show (0 : Nat) ≠ 68 by decide)]
    have e : upd (ksA (σ 0 1) (σ 0 3) (σ 68) i) i ((((((σ 0 1) >>> ((8 * (nI i &&& 3)) &&& 31)) + (17 * nI i)) + (29 * (σ 0 3))) &&& 255)) = ksA (σ 0 1) (σ 0 3) (σ 68) (i + 1) := upd_if (f := ks0 (σ 0 1) (σ 0 3))
    rw [e]
    exact ih (i + 1) (by omega)
def kiR (tb : Nat → Int32) (t : Bool) (pw : Int32) (r : Nat → Int32) (i k : Nat) : Nat → Int32 := fun j => if i ≤ j ∧ j < i + k then (r (j - 16) ^^^ kwd tb t r i (j - i)) ^^^ (if t = true ∧ j = i then pw else 0) else r j
theorem kiR_up {tb : Nat → Int32} {t : Bool} {pw : Int32} {r : Nat → Int32} {i k : Nat} : upd (kiR tb t pw r i k) (i + k) ((r (i + k - 16) ^^^ kwd tb t r i k) ^^^ (if t = true ∧ i + k = i then pw else 0)) = kiR tb t pw r i (k + 1) := by
  funext j
  unfold kiR upd
  by_cases e : j = i + k
  · subst e
    have hc : i ≤ i + k ∧ i + k < i + (k + 1) := ⟨by omega, by omega⟩
    rw [if_pos rfl, if_pos hc, show i + k - i = k by omega]
  · rw [if_neg e]
    dsimp only
    by_cases e2 : i ≤ j ∧ j < i + k
    · have hc : i ≤ j ∧ j < i + (k + 1) := ⟨e2.1, by omega⟩
      rw [if_pos e2, if_pos hc]
    · have hc : ¬ (i ≤ j ∧ j < i + (k + 1)) := by omega
      rw [if_neg e2, if_neg hc]
theorem kiR_0 {tb : Nat → Int32} {t : Bool} {pw : Int32} {r : Nat → Int32} {i : Nat} : kiR tb t pw r i 0 = r := by
  funext j
  unfold kiR
  rw [if_neg (by omega)]
theorem kiR_4 {tb : Nat → Int32} {pw : Int32} {r : Nat → Int32} {i : Nat} : kiR tb (i % 16 == 0) pw r i 4 = kst tb r pw i := by
  funext j
  unfold kiR kst
  by_cases e : i ≤ j ∧ j < i + 4
  · rw [if_pos e, if_pos e]
    simp
  · rw [if_neg e, if_neg e]
theorem x0 (x : Int32) : x ^^^ 0 = x := by simp
theorem xas (a b c : Int32) : a ^^^ (b ^^^ c) = (a ^^^ b) ^^^ c := (Int32.xor_assoc a b c).symm
theorem mky2 {Q : Sg → Prop} {K : Int32 → Int32 → Sg → Prop} {i : Nat} {pw : Int32} {σ : Sg} {r : Nat → Int32} (h1 : 16 ≤ i) (h2 : i + 4 ≤ 176) (hb : ∀ k, k < i → isB (r k)) (t : Bool) (ht : (i % 16 == 0) = t) (hK : K (if t = true then dblR pw else pw) (nI i + 4) (va_up σ 68 (kiR (σ 67) t pw r i 4))) : ∀ (m k : Nat), k + m = 4 → wpX9_makeKey_L62 Q K (m + 1) pw (nI i) (nI k) (va_up σ 68 (kiR (σ 67) t pw r i k)) := by
  have er : nI i - nI i / 16 * 16 = nI (i % 16) := r16 (by omega)
  intro m
  induction m with
  | zero =>
    intro k hk
    have e : k = 4 := by omega
    subst e
    unfold wpX9_makeKey_L62
    refine ⟨fun _ => ?_, fun hc => absurd (by decide) hc⟩
    intro w ew
    rw [er] at ew
    refine ⟨fun hz => ?_, fun hz => ?_⟩
    · have h9 : ¬ i % 16 = 0 := fun h9 => hz (by rw [ew, h9]; rfl)
      have e : t = false := by rw [← ht, beq_eq_false_iff_ne]; exact h9
      subst e
      unfold wpX9_makeKey_L157
      rintro _ rfl
      exact hK
    · have h9 : i % 16 = 0 := (nI_eq (a := i % 16) (b := 0) (by omega) (by decide)).mp (by rw [← ew]; exact hz)
      have e : t = true := by rw [← ht, beq_iff_eq]; exact h9
      subst e
      refine doubled_ok ?_
      unfold wpX9_makeKey_L157
      rintro _ rfl
      exact hK
  | succ m ih =>
    intro k hk
    unfold wpX9_makeKey_L62
    refine ⟨fun hc => absurd hc (nI_ge (a := k) (b := 4) (by omega) (by decide)), fun _ => ⟨vin (n4 (by omega)) (by omega) (by decide), ?_⟩⟩
    intro x4 e4 w ew
    rw [er] at ew
    rw [ncl (n4 (by omega)) (by omega), vu_s, show kiR (σ 67) t pw r i k (i - 4 + k) = r (i - 4 + k) from by unfold kiR; rw [if_neg (by omega)]] at e4
    have e16 : nI i - 16 + nI k = nI (i - 16 + k) := by
      show nI i - nI 16 + nI k = _
      rw [pk_sub h1, nI_add]
    have fin : ∀ v : Int32, v = kwd (σ 67) t r i k ^^^ (if t = true ∧ i + k = i then pw else 0) → wpX9_makeKey_L117 Q K (wpX9_makeKey_L62 Q K (m + 1)) pw (nI i) (nI k) v (va_up σ 68 (kiR (σ 67) t pw r i k)) := by
      intro v ev
      unfold wpX9_makeKey_L117
      refine ⟨vin e16 (by omega) (by decide), vin (nI_add i k) (by omega) (by decide), ?_⟩
      rintro _ rfl _ rfl
      rw [ncl e16 (by omega), ncl (nI_add i k) (by omega), vu_s, up2_up, nI_1, show kiR (σ 67) t pw r i k (i - 16 + k) = r (i + k - 16) from by unfold kiR; rw [if_neg (by omega), show i - 16 + k = i + k - 16 by omega], ev, xas, kiR_up]
      exact ih (k + 1) (by omega)
    refine ⟨fun hz => ?_, fun hz => ?_⟩
    · have h9 : ¬ i % 16 = 0 := fun h9 => hz (by rw [ew, h9]; rfl)
      have e : t = false := by rw [← ht, beq_eq_false_iff_ne]; exact h9
      subst e
      refine fin x4 ?_
      rw [e4]
      simp [kwd]
    · have h9 : i % 16 = 0 := (nI_eq (a := i % 16) (b := 0) (by omega) (by decide)).mp (by rw [← ew]; exact hz)
      have e : t = true := by rw [← ht, beq_iff_eq]; exact h9
      subst e
      intro w13 e13
      have e13' : w13 = nI ((k + 1) % 4) := by rw [e13, nI_1]; exact r4 (by omega)
      have b1 : nI i - 4 + w13 = nI (i - 4 + (k + 1) % 4) := by rw [e13']; exact n4 (by omega)
      have hbk : isB (r (i - 4 + (k + 1) % 4)) := hb _ (by omega)
      rw [ncl b1 (by omega), vu_s, show kiR (σ 67) true pw r i k (i - 4 + (k + 1) % 4) = r (i - 4 + (k + 1) % 4) from by unfold kiR; rw [if_neg (by omega)], vu_o (show (67 : Nat) ≠ 68 by decide)]
      have ek : σ 67 (r (i - 4 + (k + 1) % 4)).toNatClampNeg = kwd (σ 67) true r i k := by
        unfold kwd
        rw [if_pos rfl, hbk.a255]
      refine ⟨vin b1 (by omega) (by decide), hbk.in', fun hz3 => ?_, fun hz3 => ?_⟩
      · unfold wpX9_makeKey_L114
        intro x5 e5
        refine fin x5 ?_
        have hk0 : ¬ k = 0 := fun h => hz3 (by rw [h]; rfl)
        rw [e5, ek, if_neg (by omega)]
      · unfold wpX9_makeKey_L114
        intro x5 e5
        refine fin x5 ?_
        have hk0 : k = 0 := (nI_eq (a := k) (b := 0) (by omega) (by decide)).mp hz3
        rw [e5, ek, if_pos ⟨rfl, by omega⟩]
theorem kr_bytes {tb r : Nat → Int32} (hr : ∀ k, k < 16 → isB (r k)) (ht : ∀ k, k < 256 → isB (tb k)) : ∀ m, (∀ k, k < 16 + 4 * m → isB ((kr tb r m).1 k)) ∧ isB (kr tb r m).2 := by
  intro m
  induction m with
  | zero => exact ⟨hr, ⟨1, by decide, rfl⟩⟩
  | succ m ih =>
    obtain ⟨h1, h2⟩ := ih
    refine ⟨fun k hk => ?_, ?_⟩
    · show isB (kst tb (kr tb r m).1 (kr tb r m).2 (16 + 4 * m) k)
      unfold kst
      by_cases e : 16 + 4 * m ≤ k ∧ k < 16 + 4 * m + 4
      · rw [if_pos e]
        refine ((h1 _ (by omega)).xor ?_).xor ?_
        · unfold kwd
          split
          · obtain ⟨n, hn, en⟩ := isB.and ((kr tb r m).1 (16 + 4 * m - 4 + (k - (16 + 4 * m) + 1) % 4))
            rw [ncl en (by omega)]
            exact ht n hn
          · exact h1 _ (by omega)
        · split
          · exact h2
          · exact isB.z
      · rw [if_neg e]
        exact h1 k (by omega)
    · show isB (if (16 + 4 * m) % 16 = 0 then dbl8 (kr tb r m).2 else (kr tb r m).2)
      split
      · exact isB.and _
      · exact h2
theorem mky3 {Q : Sg → Prop} {σ : Sg} {r : Nat → Int32} (hr : ∀ k, k < 16 → isB (r k)) (ht : ∀ k, k < 256 → isB (σ 67 k)) (h : Q (va_up σ 68 (kr (σ 67) r 40).1)) : ∀ (n m : Nat), m + n = 40 → wpX9_makeKey_L53 Q (n + 1) (kr (σ 67) r m).2 (nI (16 + 4 * m)) (va_up σ 68 (kr (σ 67) r m).1) := by
  intro n
  induction n with
  | zero =>
    intro m hm
    have e : m = 40 := by omega
    subst e
    unfold wpX9_makeKey_L53
    exact ⟨fun _ => h, fun hc => absurd (by decide) hc⟩
  | succ n ih =>
    intro m hm
    unfold wpX9_makeKey_L53
    refine ⟨fun hc => absurd hc (nI_ge (a := 16 + 4 * m) (b := 176) (by omega) (by decide)), fun _ => ⟨5, ?_⟩⟩
    obtain ⟨hb1, hb2⟩ := kr_bytes hr ht m
    have hk := ih (m + 1) (by omega)
    have e5 : nI (16 + 4 * m) + 4 = nI (16 + 4 * (m + 1)) := nI_add (16 + 4 * m) 4
    have := mky2 (Q := Q) (K := wpX9_makeKey_L53 Q (n + 1)) (i := 16 + 4 * m) (pw := (kr (σ 67) r m).2) (σ := σ) (r := (kr (σ 67) r m).1) (by omega) (by omega) hb1 _ rfl (by
      rw [kiR_4, e5]
      have e6 : (if ((16 + 4 * m) % 16 == 0) = true then dblR (kr (σ 67) r m).2 else (kr (σ 67) r m).2) = (kr (σ 67) r (m + 1)).2 := by
        show _ = (if (16 + 4 * m) % 16 = 0 then dbl8 (kr (σ 67) r m).2 else (kr (σ 67) r m).2)
        rw [hb2.d8]
        by_cases e : (16 + 4 * m) % 16 = 0
        · rw [if_pos e, if_pos (by rw [beq_iff_eq]; exact e)]
        · rw [if_neg e, if_neg (by rw [beq_iff_eq]; exact e)]
      rw [e6]
      exact hk) 4 0 (by omega)
    rw [kiR_0] at this
    exact this
theorem ksA_b {seed ep : Int32} {r : Nat → Int32} : ∀ k, k < 16 → isB (ksA seed ep r 16 k) := fun k hk => by
  unfold ksA
  rw [if_pos hk]
  exact isB.and _
theorem makeKey_ok {Q : Sg → Prop} {σ : Sg} (ht : ∀ k, k < 256 → isB (σ 67 k)) (h : Q (va_up σ 68 (kF (σ 67) (σ 0 1) (σ 0 3) (σ 68)))) : wpX9_makeKey σ Q := by
  refine ⟨17, ?_⟩
  have e0 : va_up σ 68 (ksA (σ 0 1) (σ 0 3) (σ 68) 0) = σ := by
    rw [show ksA (σ 0 1) (σ 0 3) (σ 68) 0 = σ 68 from by funext k; simp [ksA]]
    exact vu_id
  have e2 : ∀ a b : Nat → Int32, va_up (va_up σ 68 a) 68 b = va_up σ 68 b := fun a b => by
    funext d
    by_cases e : d = 68
    · simp [va_up, e]
    · simp [va_up, e]
  have := mky1 (Q := Q) (σ := σ) ⟨41, by
    have := mky3 (Q := Q) (σ := va_up σ 68 (ksA (σ 0 1) (σ 0 3) (σ 68) 16)) (r := ksA (σ 0 1) (σ 0 3) (σ 68) 16) ksA_b (by rw [vu_o (show (67 : Nat) ≠ 68 by decide)]; exact ht) (by rw [vu_o (show (67 : Nat) ≠ 68 by decide), e2]; exact h) 40 0 (by omega)
    rw [e2] at this
    exact this⟩ 16 0 (by omega)
  rw [e0] at this
  exact this
