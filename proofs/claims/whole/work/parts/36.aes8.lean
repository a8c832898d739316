/-! PURE: keys and streams hang on bytes alone -/
theorem and_lt (x : Int32) : (x &&& 255).toNatClampNeg < 256 := by
  obtain ⟨n, hn, e⟩ := isB.and x
  rw [ncl e (by omega)]
  exact hn
theorem kr_congr {tb tb' r r' : Nat → Int32} (ht : ∀ k, k < 256 → tb k = tb' k) (hr : ∀ k, k < 16 → r k = r' k) : ∀ m, (∀ k, k < 16 + 4 * m → (kr tb r m).1 k = (kr tb' r' m).1 k) ∧ (kr tb r m).2 = (kr tb' r' m).2 := by
  intro m
  induction m with
  | zero => exact ⟨hr, rfl⟩
  | succ m ih =>
    obtain ⟨h1, h2⟩ := ih
    refine ⟨fun k hk => ?_, ?_⟩
    · show kst tb (kr tb r m).1 (kr tb r m).2 (16 + 4 * m) k = kst tb' (kr tb' r' m).1 (kr tb' r' m).2 (16 + 4 * m) k
      unfold kst
      by_cases e : 16 + 4 * m ≤ k ∧ k < 16 + 4 * m + 4
      · rw [if_pos e, if_pos e, h2, h1 (k - 16) (by omega)]
        congr 2
        unfold kwd
        rw [h1 (16 + 4 * m - 4 + (k - (16 + 4 * m) + 1) % 4) (by omega), h1 (16 + 4 * m - 4 + (k - (16 + 4 * m))) (by omega), ht _ (and_lt _)]
      · rw [if_neg e, if_neg e]
        exact h1 k (by omega)
    · show (if (16 + 4 * m) % 16 = 0 then dbl8 (kr tb r m).2 else (kr tb r m).2) = (if (16 + 4 * m) % 16 = 0 then dbl8 (kr tb' r' m).2 else (kr tb' r' m).2)
      rw [h2]
theorem kF_congr {tb tb' r r' : Nat → Int32} {seed ep : Int32} (ht : ∀ k, k < 256 → tb k = tb' k) : ∀ k, k < 176 → kF tb seed ep r k = kF tb' seed ep r' k := fun k hk => (kr_congr ht (fun k hk => by unfold ksA; rw [if_pos hk, if_pos hk]) 40).1 k (by omega)
theorem rds_congr2 {tb tb' key key' st o o' : Nat → Int32} (ht : ∀ k, k < 256 → tb k = tb' k) (hk : ∀ k, k < 176 → key k = key' k) : ∀ r, r ≤ 10 → ∀ k, k < 16 → (rds tb key st o r).1 k = (rds tb' key' st o' r).1 k := by
  intro r
  induction r with
  | zero =>
    intro _ k h
    show xk st key 16 k = xk st key' 16 k
    unfold xk
    rw [if_pos h, if_pos h, hk k (by omega)]
  | succ r ih =>
    intro hr k h
    have hs : ∀ k, k < 16 → sbI tb (rds tb key st o r).1 (rds tb key st o r).2 16 k = sbI tb' (rds tb' key' st o' r).1 (rds tb' key' st o' r).2 16 k := by
      intro k h
      unfold sbI
      rw [if_pos h, if_pos h, ih (by omega) _ (Nat.mod_lt _ (by decide)), ht _ (and_lt _)]
    show mxI (r + 1) _ key _ 16 k = mxI (r + 1) _ key' _ 16 k
    unfold mxI
    rw [if_pos h, if_pos h, hs k h, hk (16 * (r + 1) + k) (by omega)]
    unfold mx
    rw [hs k h, hs (k / 4 * 4) (by omega), hs (k / 4 * 4 + 1) (by omega), hs (k / 4 * 4 + 2) (by omega), hs (k / 4 * 4 + 3) (by omega), hs (k / 4 * 4 + (k + 1) % 4) (by omega)]
theorem ksb_congr {tb tb' key key' : Nat → Int32} {count mark : Int32} {j k : Nat} (ht : ∀ k, k < 256 → tb k = tb' k) (hk : ∀ k, k < 176 → key k = key' k) (h : k < 16) : ksb tb key count mark j k = ksb tb' key' count mark j k := rds_congr2 ht hk 10 (by omega) k h
