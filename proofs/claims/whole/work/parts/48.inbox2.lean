/-! PURE: a packet that is complete, in the class -/
def ksI (key : Nat → Int32) (mk : Nat) (count : Int32) (k : Nat) : Int32 := ksb sbT key count (nI mk) (k / 16) (k % 16)
def mnt (r : Inr) (b : Int32) : Int32 := (r.1 - 32) + ((b - (r.1 - 32)) &&& 63)
def dbl (r : Inr) (x : Int32) : Bool := decide (x < r.1) || stNe r.2.2.2.2.2 (slot x)
def stoR (r : Inr) (s : Nat) (bs : List Int32) : Inr := (r.1, r.2.1, r.2.2.1, r.2.2.2.1, r.2.2.2.2.1, lup r.2.2.2.2.2 s bs)
def dbR (r : Inr) : Inr := (r.1, r.2.1, r.2.2.1 + 1, r.2.2.2)
def untR (ks : Int32 → Nat → Int32) (r : Inr) (pk : List Int32) : Inr := if dbl r (mnt r (pk.getD 0 0)) = true then dbR r else dlvN 32 (stoR r (slot (mnt r (pk.getD 0 0))) (xrL (ks (mnt r (pk.getD 0 0))) 0 pk.tail))
theorem tail_getD {l : List Int32} {k : Nat} : l.tail.getD k 0 = l.getD (k + 1) 0 := by
  cases l with
  | nil => rfl
  | cons a l => rfl
theorem store_ok {σ : Sg} {o mk : Nat} {r : Inr} {pk : List Int32} {x : Int32} {Q : Sg → Prop} (hI : InR σ o mk r) (hP : PkC σ o pk) (h2 : 2 ≤ pk.length) (h3 : pk.length ≤ 121) (hn : stNe r.2.2.2.2.2 (slot x) = false) (h : ∀ σ' : Sg, InR σ' o mk (stoR r (slot x) pk.tail) → σ' o 3 = σ o 3 → Fin5 o σ σ' → Q σ') : wpX3_store o x σ Q := by
  obtain ⟨hs, es⟩ := slot_and x
  obtain ⟨i0, i7, i8, i9, i10, iL, i6, iR⟩ := hI
  obtain ⟨p2, pk1⟩ := hP
  have htl : pk.tail.length = pk.length - 1 := List.length_tail
  unfold wpX3_store
  have e1 : nI pk.length - 1 = nI pk.tail.length := by rw [htl]; exact pk_sub (a := pk.length) (b := 1) (by omega)
  rw [p2, e1]
  have h4 : 1 ≤ pk.tail.length := by omega
  have h5 : pk.tail.length ≤ 120 := by omega
  have hg : ∀ k, k < pk.tail.length → σ (o + 1) (k + 1) = pk.tail.getD k 0 := fun k hk => by rw [tail_getD]; exact pk1 (k + 1) (by omega)
  generalize pk.tail = bs at *
  rintro _ rfl
  refine pk_lt bs.length 1 (fun hh => by omega) (fun _ => pk_le bs.length 120 (fun _ => ?_) (fun hh => by omega))
  rintro _ rfl
  have e120 : nI (slot x) * 120 = nI (slot x * 120) := pk_mul _ 120
  rw [es, e120, nI_clamp (by omega), nI_clamp (by omega), nI_clamp (by omega)]
  refine ⟨by decide, nI_pos (by omega), nI_pos (by omega), ?_, by omega, ?_⟩
  · show 1 + _ ≤ 121
    omega
  rintro _ rfl
  refine ⟨vin rfl hs (by decide), ?_⟩
  rintro _ rfl _ rfl
  rw [show Int32.toNatClampNeg 1 = 1 from rfl]
  generalize eR : va_cpy (σ (o + 1)) (σ (o + 2)) 1 (slot x * 120) bs.length = row
  have hin : ∀ k, k < bs.length → row (120 * slot x + k) = bs.getD k 0 := fun k hk => by
    rw [← eR, Nat.mul_comm 120, pk_cpy_in (by omega) (by omega), ← hg k hk]
    congr 1
    omega
  have hout : ∀ k, k < slot x * 120 ∨ slot x * 120 + bs.length ≤ k → row k = σ (o + 2) k := fun k hk => by
    rw [← eR, pk_cpy_out hk]
  clear eR
  have hcnt := cnt_bupT (f := stNe r.2.2.2.2.2) (a := 0) (n := 32) (Nat.zero_le (slot x)) (by omega) hn
  rw [up2_o (d := o) (by omega), vu_o (d := o) (by omega), i6, nI_1, ← hcnt]
  generalize eS : up2 (up2 (va_up σ (o + 2) row) (o + 3) (slot x) (nI bs.length)) o 6 (nI (cnt (bup (stNe r.2.2.2.2.2) (slot x) true) 0 32)) = σ1
  have s0 : ∀ k, σ1 o k = if k = 6 then nI (cnt (bup (stNe r.2.2.2.2.2) (slot x) true) 0 32) else σ o k := by
    intro k
    rw [← eS, up2_e, up2_o (by omega), vu_o (by omega)]
    simp
  have s3 : ∀ k, σ1 (o + 3) k = if k = slot x then nI bs.length else σ (o + 3) k := by
    intro k
    rw [← eS, up2_o (by omega), up2_e, vu_o (by omega)]
    simp
  have s2 : σ1 (o + 2) = row := by rw [← eS, up2_o (by omega), up2_o (by omega), vu_s]
  have sd : ∀ d, d ≠ o → d ≠ o + 2 → d ≠ o + 3 → σ1 d = σ d := by
    intro d d1 d2 d3
    rw [← eS, up2_o d1, up2_o d3, vu_o d2]
  clear eS
  refine h σ1 ⟨?_, ?_, ?_, ?_, ?_, ⟨?_, iL.2.1, fun k hk => ?_⟩, ?_, fun s hs9 => ?_⟩ ?_ (fun d hd => sd d (by omega) (by omega) (by omega))
  · rw [s0]; simp; exact i0
  · rw [s0]; simp; exact i7
  · rw [s0]; simp; exact i8
  · rw [s0]; simp; exact i9
  · rw [s0]; simp; exact i10
  · rw [s0]; simp; exact iL.1
  · rw [sd _ (by omega) (by omega) (by omega)]; exact iL.2.2 k hk
  · rw [s0]
    show _ = nI (cnt (stNe (lup r.2.2.2.2.2 (slot x) bs)) 0 32)
    rw [stNe_lup, show decide (0 < bs.length) = true from decide_eq_true (by omega), if_pos rfl]
  · show RwC σ1 o (lup r.2.2.2.2.2 (slot x) bs) s
    unfold RwC lup
    rw [s3, s2]
    obtain ⟨q1, q2, q3⟩ := iR s hs9
    by_cases e : s = slot x
    · subst e
      rw [if_pos rfl, if_pos rfl]
      exact ⟨rfl, h5, hin⟩
    · rw [if_neg e, if_neg e]
      refine ⟨q1, q2, fun k hk => ?_⟩
      rw [hout _ (by omega)]
      exact q3 k hk
  · rw [s0]; simp
theorem takeU_ok {P : Nat} {x1 : Int32} {σ : Sg} {o mk : Nat} {r : Inr} {pk : List Int32} {Q : Sg → Prop} (hI : InR σ o mk r) (hP : PkC σ o pk) (h2 : 2 ≤ pk.length) (h3 : pk.length ≤ 121) (hb : ∃ b, pk.getD 0 0 = nI b ∧ 128 ≤ b ∧ b < 256) (ho : 7 ≤ o) (h : ∀ σ' : Sg, InR σ' o mk (untR (ksI (σ 4) mk) r pk) → σ' o 3 = σ o 3 → (∀ d, d < o ∨ o + 5 ≤ d → d ≠ 5 → d ≠ 6 → σ' d = σ d) → Q σ') : wpX8_takePacket P sbT x1 o σ Q := by
  have hI0 := hI
  obtain ⟨i0, i7, i8, i9, i10, iL, i6, iR⟩ := hI
  obtain ⟨b, eb, hb1, hb2⟩ := hb
  unfold wpX8_takePacket
  rw [hP.2 0 (by omega)]
  have h128 : (128 : Int32) ≤ pk.getD 0 0 := by rw [eb]; exact nI_le (a := 128) hb1 (by omega)
  refine brt h128 ?_
  unfold wpX3_meantCount
  rintro _ rfl
  rw [i7, hP.2 0 (by omega)]
  have eu : untR (ksI (σ 4) mk) r pk = if dbl r (mnt r (pk.getD 0 0)) = true then dbR r else dlvN 32 (stoR r (slot (mnt r (pk.getD 0 0))) (xrL (ksI (σ 4) mk (mnt r (pk.getD 0 0))) 0 pk.tail)) := rfl
  rw [eu] at h
  have em : (r.1 - 32) + ((pk.getD 0 0 - (r.1 - 32)) &&& 63) = mnt r (pk.getD 0 0) := rfl
  rw [em]
  generalize mnt r (pk.getD 0 0) = x at *
  obtain ⟨hs, es⟩ := slot_and x
  have dbc : dbl r x = true → ∀ σ8 : Sg, σ8 = up2 σ o 9 (σ o 9 + 1) → Q σ8 := by
    rintro ed _ rfl
    rw [if_pos ed] at h
    refine h _ ⟨?_, ?_, ?_, ?_, ?_, ⟨?_, iL.2.1, fun k hk => ?_⟩, ?_, fun s hs => ?_⟩ ?_ (fun d h1 h2 h3 => ?_)
    · rw [up2_e, if_neg (by omega)]; exact i0
    · rw [up2_e, if_neg (by omega)]; exact i7
    · rw [up2_e, if_neg (by omega)]; exact i8
    · rw [up2_e, if_pos ⟨rfl, rfl⟩, i9]; rfl
    · rw [up2_e, if_neg (by omega)]; exact i10
    · rw [up2_e, if_neg (by omega)]; exact iL.1
    · rw [up2_o (by omega)]; exact iL.2.2 k hk
    · rw [up2_e, if_neg (by omega)]; exact i6
    · unfold RwC
      rw [up2_o (by omega), up2_o (by omega)]
      exact iR s hs
    · rw [up2_e, if_neg (by omega)]
    · rw [up2_o (by omega)]
  unfold wpX3_isDouble
  rw [i7]
  refine ⟨fun hlt => ?_, fun hlt => ?_⟩
  · unfold wpX3_isDouble_L20
    exact ⟨fun h => absurd h (by decide), fun _ => dbc (by unfold dbl; simp [hlt])⟩
  · rw [es, nI_clamp (by omega), (iR _ hs).1]
    have q120 := (iR _ hs).2.1
    refine ⟨vin rfl hs (by decide), pk_le (r.2.2.2.2.2 (slot x)).length 0 (fun h0 => ?_) (fun h0 => ?_)⟩
    · have hn : stNe r.2.2.2.2.2 (slot x) = false := decide_eq_false (by omega)
      have ed : dbl r x = false := by
        unfold dbl
        rw [hn]
        simpa using hlt
      rw [ed, if_neg (by decide)] at h
      refine brt rfl ?_
      rw [hP.1, i0]
      refine mask_ok h3 (by omega) (by omega) (by omega) (fun σ1 g1 g2 => ?_)
      have g1 : σ1 (o + 1) = mskI sbT (σ 4) x (nI mk) pk.length pk.length (σ (o + 1)) := g1
      have hI1 : InR σ1 o mk r := hI0.of (fun k _ _ => by rw [g2 o (by omega) (by omega) (by omega)]) (g2 _ (by omega) (by omega) (by omega)) (g2 _ (by omega) (by omega) (by omega)) (g2 _ (by omega) (by omega) (by omega))
      have hpl : (pk.getD 0 0 :: xrL (ksI (σ 4) mk x) 0 pk.tail).length = pk.length := by
        rw [List.length_cons, xrL_len, List.length_tail]
        omega
      have hP1 : PkC σ1 o (pk.getD 0 0 :: xrL (ksI (σ 4) mk x) 0 pk.tail) := by
        refine ⟨?_, fun k hk => ?_⟩
        · rw [hpl, g2 o (by omega) (by omega) (by omega)]
          exact hP.1
        · rw [hpl] at hk
          rw [g1]
          cases k with
          | zero =>
            show mskI _ _ _ _ _ _ _ 0 = pk.getD 0 0
            unfold mskI
            rw [if_neg (by omega)]
            exact hP.2 0 hk
          | succ k =>
            have htl : pk.tail.length = pk.length - 1 := List.length_tail
            rw [mskI_get (by omega) hk, hP.2 _ hk]
            show _ = (xrL (ksI (σ 4) mk x) 0 pk.tail).getD k 0
            rw [xrL_get _ _ _ (by omega), tail_getD, Nat.zero_add, Nat.add_sub_cancel]
            unfold ksI
            exact rfl
      refine store_ok hI1 hP1 (by rw [hpl]; exact h2) (by rw [hpl]; exact h3) hn (fun σ2 k1 k2 k3 => ?_)
      refine deliverStored_ok k1 (fun σ3 q1 q2 q3 q4 => h σ3 q1 ?_ (fun d h1 h2 h3 => ?_))
      · rw [q2 3 (Or.inr rfl), k2, g2 o (by omega) (by omega) (by omega)]
      · rw [q4 d h1, k3 d h1, g2 d (by omega) (by omega) (by omega)]
    · unfold wpX3_isDouble_L20
      exact ⟨fun h => absurd h (by decide), fun _ => dbc (by unfold dbl; rw [show stNe r.2.2.2.2.2 (slot x) = true from decide_eq_true (by omega), Bool.or_true])⟩
