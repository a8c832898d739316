/-! PURE: the reference's box is the class's table -/
def tmN (b : Nat) : Nat → Nat → Nat → Nat → Nat
  | 0, _, v, _ => v
  | m + 1, k, v, x => tmN b m (k + 1) (if Nat.shiftRight b k % 2 = 1 then Nat.xor v x else v) (if x < 128 then 2 * x else Nat.xor (2 * x - 256) 27)
theorem bitb : ∀ b, b < 256 → ∀ k, k < 8 → (((nI b >>> (nI k &&& 31)) &&& 1) = 1 ↔ Nat.shiftRight b k % 2 = 1) := by decide +kernel
theorem dblN_lt : ∀ n, n < 256 → dblN n < 256 := by decide +kernel
theorem tm_eq {b : Nat} (hb : b < 256) : ∀ (m k v x : Nat), k + m = 8 → v < 256 → x < 256 → tmF (nI b) m k (nI v) (nI x) = nI (tmN b m k v x) ∧ tmN b m k v x < 256 := by
  intro m
  induction m with
  | zero => intro k v x _ hv _; exact ⟨rfl, hv⟩
  | succ m ih =>
    intro k v x hk hv hx
    have hvx : Nat.xor v x < 256 := Nat.xor_lt_two_pow (n := 8) hv hx
    have ed : dblR (nI x) = nI (dblN x) := dblN_eq x hx
    have el := dblN_lt x hx
    have edN : (if x < 128 then 2 * x else Nat.xor (2 * x - 256) 27) = dblN x := rfl
    rw [tmF, tmN, ed, edN]
    by_cases e : Nat.shiftRight b k % 2 = 1
    · rw [if_pos e, if_pos ((bitb b hb k (by omega)).mpr e), ixor]
      exact ih (k + 1) (Nat.xor v x) (dblN x) (by omega) hvx el
    · rw [if_neg e, if_neg (fun h => e ((bitb b hb k (by omega)).mp h))]
      exact ih (k + 1) v (dblN x) (by omega) hv el
def ivN (v : Nat) : Nat → Nat → Nat → Nat
  | 0, _, i => i
  | m + 1, w, i => ivN v m (w + 1) (if tmN w 8 0 0 v = 1 then w else i)
theorem iv_eq {v : Nat} (hv : v < 256) : ∀ (m w i : Nat), w + m ≤ 256 → ivF (nI v) m w (nI i) = nI (ivN v m w i) := by
  intro m
  induction m with
  | zero => intro w i _; rfl
  | succ m ih =>
    intro w i hw
    obtain ⟨h1, h2⟩ := tm_eq (b := w) (by omega) 8 0 0 v (by omega) (by omega) hv
    rw [ivF, ivN, show timesF (nI v) (nI w) = nI (tmN w 8 0 0 v) from h1]
    by_cases e : tmN w 8 0 0 v = 1
    · rw [if_pos e, if_pos (by rw [e]; rfl)]
      exact ih (w + 1) w (by omega)
    · have hne : ¬ nI (tmN w 8 0 0 v) = (1 : Int32) := fun h => e ((nI_eq (a := tmN w 8 0 0 v) (b := 1) (by omega) (by decide)).mp h)
      rw [if_neg e, if_neg hne]
      exact ih (w + 1) i (by omega)
theorem box_n : ∀ v, v < 256 → afF (nI (if v = 0 then 0 else ivN v 255 1 0)) 5 0 99 = sbT v := by decide +kernel
theorem box_eq {v : Nat} (hv : v < 256) : boxF v = sbT v := by
  rw [← box_n v hv]
  unfold boxF
  by_cases e : v = 0
  · subst e
    rw [if_pos (by decide), if_pos rfl]
    rfl
  · rw [if_neg e, if_neg (nI_nle (by omega) (by omega)), show ivF (nI v) 255 1 0 = nI (ivN v 255 1 0) from iv_eq hv 255 1 0 (by omega)]
theorem sb_and : ∀ k, k < 256 → sbT k &&& 255 = sbT k := by decide +kernel
theorem sbT_b {k : Nat} (h : k < 256) : isB (sbT k) := by rw [← sb_and k h]; exact isB.and _
