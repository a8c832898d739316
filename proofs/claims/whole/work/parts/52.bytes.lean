/-! PURE: DATA that come, in the class -/
def wfF (l : List Cel) : Prop := (∀ k, 0 < k → k < l.length → (gc l k).2.1 = lasF l (k - 1)) ∧ ∀ s, s + 121 ≤ l.length → ∃ k, s ≤ k ∧ k < s + 121 ∧ lasF l k = true
theorem wfF.seg {l : List Cel} (h : wfF l) {s j : Nat} (hsj : s ≤ j) (hj : j < l.length) (hn : ∀ k, s ≤ k → k < j → lasF l k = false) : j + 1 - s ≤ 121 := by
  rcases Nat.lt_or_ge (j + 1 - s) 122 with hlt | hge
  · omega
  · obtain ⟨k, k1, k2, k3⟩ := h.2 s (by omega)
    rw [hn k k1 (by omega)] at k3
    cases k3
theorem cnt_pos_T {f : Nat → Bool} {a n : Nat} (h : f a = true) : cnt f a (n + 1) = cnt f (a + 1) n + 1 := by
  rw [cnt_left, h]
  show 1 + _ = _
  omega
theorem cnt_pos_F {f : Nat → Bool} {a n : Nat} (h : f a = false) : cnt f a (n + 1) = cnt f (a + 1) n := by
  rw [cnt_left, h]
  show 0 + _ = _
  omega
theorem lenL_at {l : List Cel} (hw : wfF l) : ∀ (m i s : Nat), s ≤ i → i + m ≤ l.length → (∀ k, s ≤ k → k < i → lasF l k = false) → ∀ j, j < cnt (lasF l) i m → ∃ n, 1 ≤ n ∧ n ≤ 121 ∧ (lenL (lasF l) m i s).getD j 0 = nI (n + if j + 1 < cnt (lasF l) i m then 128 else 0)
  | 0, i, s, _, _, _, j, hj => by
    have : cnt (lasF l) i 0 = 0 := rfl
    omega
  | m + 1, i, s, h1, h2, h3, j, hj => by
    unfold lenL
    cases e : lasF l i with
    | true =>
      rw [cnt_pos_T e] at hj ⊢
      rw [if_pos rfl]
      have hs := hw.seg h1 (by omega) h3
      cases j with
      | zero =>
        refine ⟨i + 1 - s, by omega, hs, ?_⟩
        show nI _ = _
        congr 2
        by_cases e0 : 0 < cnt (lasF l) (i + 1) m
        · rw [if_pos e0, if_pos (by omega)]
        · rw [if_neg e0, if_neg (by omega)]
      | succ j =>
        obtain ⟨n, n1, n2, n3⟩ := lenL_at hw m (i + 1) (i + 1) (Nat.le_refl _) (by omega) (fun k k1 k2 => by omega) j (by omega)
        refine ⟨n, n1, n2, ?_⟩
        show (lenL (lasF l) m (i + 1) (i + 1)).getD j 0 = _
        rw [n3]
        congr 2
        by_cases e0 : j + 1 < cnt (lasF l) (i + 1) m
        · rw [if_pos e0, if_pos (by omega)]
        · rw [if_neg e0, if_neg (by omega)]
    | false =>
      rw [cnt_pos_F e] at hj ⊢
      rw [if_neg (by decide)]
      exact lenL_at hw m (i + 1) s (by omega) (by omega) (fun k k1 k2 => by
        by_cases ek : k = i
        · rw [ek]; exact e
        · exact h3 k k1 (by omega)) j hj
/-- the first of the LENGTHS that are left -/
theorem lenL_hd {l : List Cel} : ∀ (m i s : Nat), s ≤ i → 0 < cnt (lasF l) i m → ∃ j, i ≤ j ∧ j < i + m ∧ lasF l j = true ∧ (∀ k, i ≤ k → k < j → lasF l k = false) ∧ (lenL (lasF l) m i s).getD 0 0 = nI (j + 1 - s + if 1 < cnt (lasF l) i m then 128 else 0)
  | 0, i, s, _, h => by
    have : cnt (lasF l) i 0 = 0 := rfl
    omega
  | m + 1, i, s, h1, h => by
    unfold lenL
    cases e : lasF l i with
    | true =>
      rw [cnt_pos_T e] at h ⊢
      rw [if_pos rfl]
      refine ⟨i, Nat.le_refl _, by omega, e, fun k k1 k2 => by omega, ?_⟩
      show nI _ = _
      congr 2
      by_cases e0 : 0 < cnt (lasF l) (i + 1) m
      · rw [if_pos e0, if_pos (by omega)]
      · rw [if_neg e0, if_neg (by omega)]
    | false =>
      rw [cnt_pos_F e] at h ⊢
      rw [if_neg (by decide)]
      obtain ⟨j, j1, j2, j3, j4, j5⟩ := lenL_hd m (i + 1) s (by omega) h
      refine ⟨j, by omega, by omega, j3, fun k k1 k2 => ?_, j5⟩
      by_cases ek : k = i
      · rw [ek]; exact e
      · exact j4 k (by omega) k2
theorem hdI_4 {part poll f e : Bool} {en : Nat} : bit 4 (hdI part poll f e en) = decide (0 < en) := by
  unfold hdI
  by_cases h : 0 < en
  · rw [if_pos h, decide_eq_true h]; revert part poll f e; decide
  · rw [if_neg h, decide_eq_false h]; revert part poll f e; decide
theorem hdI_8 {part poll f e : Bool} {en : Nat} : bit 8 (hdI part poll f e en) = !e := by
  unfold hdI
  by_cases h : 0 < en
  · rw [if_pos h]; revert part poll f e; decide
  · rw [if_neg h]; revert part poll f e; decide
theorem hdI_16 {part poll f e : Bool} {en : Nat} : bit 16 (hdI part poll f e en) = !f := by
  unfold hdI
  by_cases h : 0 < en
  · rw [if_pos h]; revert part poll f e; decide
  · rw [if_neg h]; revert part poll f e; decide
theorem hdI_32 {part poll f e : Bool} {en : Nat} : bit 32 (hdI part poll f e en) = poll := by
  unfold hdI
  by_cases h : 0 < en
  · rw [if_pos h]; revert part poll f e; decide
  · rw [if_neg h]; revert part poll f e; decide
theorem hdI_64 {part poll f e : Bool} {en : Nat} : bit 64 (hdI part poll f e en) = part := by
  unfold hdI
  by_cases h : 0 < en
  · rw [if_pos h]; revert part poll f e; decide
  · rw [if_neg h]; revert part poll f e; decide
theorem hdI_128 {part poll f e : Bool} {en : Nat} : (128 : Int32) ≤ hdI part poll f e en ∧ hdI part poll f e en ≤ 252 := by
  unfold hdI
  by_cases h : 0 < en
  · rw [if_pos h]; revert part poll f e; decide
  · rw [if_neg h]; revert part poll f e; decide
theorem cod_sum {q : Cel} (h : celOK q) : (q.1 + (if q.2.1 then 256 else 0)) + (if q.2.2.1 then 512 else 0) = cod (rc q) false := by
  obtain ⟨a, f, l, o⟩ := q
  obtain ⟨n, hn, rfl⟩ := h.1
  unfold cod rc
  show (nI n + _) + _ = nI ((nI n).toNatClampNeg + _ + _ + _ + _)
  rw [nI_clamp (by omega)]
  cases f <;> cases l
  · show (nI n + nI 0) + nI 0 = _
    rw [nI_add, nI_add]; rfl
  · show (nI n + nI 0) + nI 512 = _
    rw [nI_add, nI_add]; rfl
  · show (nI n + nI 256) + nI 0 = _
    rw [nI_add, nI_add]; rfl
  · show (nI n + nI 256) + nI 512 = _
    rw [nI_add, nI_add]; rfl
theorem cl1 {a c lAt : Nat} {σ : Sg} {bs : List Int32} {Q : Int32 → Sg → Prop} (hA : Air σ a bs) (hc : 1 ≤ c) (hin : lAt + c ≤ bs.length) (hel : ∀ j, j < c → ∃ n, 1 ≤ n ∧ n ≤ 121 ∧ bs.getD (lAt + j) 0 = nI (n + if j + 1 < c then 128 else 0)) (h : Q (nI c) σ) : ∀ (m j : Nat), j + m + 1 = c → wpX6_countLengths_L4 Q (m + 1) a (nI (j + 1)) (nI (lAt + j)) σ := by
  have hl := hA.2.1
  intro m
  induction m with
  | zero =>
    intro j hj
    unfold wpX6_countLengths_L4
    obtain ⟨n, n1, n2, n3⟩ := hel j (by omega)
    rw [if_neg (by omega)] at n3
    rw [hA.1]
    refine brf (nI_ge (by omega) (by omega)) (at_ok hA (by omega) ?_)
    rw [n3]
    refine brbit (bitN (k := 7) (by omega) (by decide) rfl) (fun _ => ?_) (fun e => ?_)
    · rw [show j + 1 = c by omega]
      exact h
    · have := of_decide_eq_true e
      omega
  | succ m ih =>
    intro j hj
    unfold wpX6_countLengths_L4
    obtain ⟨n, n1, n2, n3⟩ := hel j (by omega)
    rw [if_pos (by omega)] at n3
    rw [hA.1]
    refine brf (nI_ge (by omega) (by omega)) (at_ok hA (by omega) ?_)
    rw [n3]
    refine brbit (bitN (k := 7) (by omega) (by decide) rfl) (fun e => ?_) (fun _ => ?_)
    · have := of_decide_eq_false e
      omega
    · rintro _ rfl _ rfl
      rw [nI_1, nI_1]
      exact ih (j + 1) (by omega)
def orT (th : Nat → Bool) (fr to : Nat) : Nat → Bool := fun k => th k || decide (fr ≤ k ∧ k < to)
theorem orT_step {th : Nat → Bool} {fr i : Nat} (h : fr ≤ i) : bup (orT th fr i) i true = orT th fr (i + 1) := by
  funext k
  unfold bup orT
  by_cases e : k = i
  · subst e
    rw [if_pos rfl, decide_eq_true (by omega), Bool.or_true]
  · rw [if_neg e]
    congr 1
    by_cases h9 : fr ≤ k ∧ k < i
    · rw [decide_eq_true h9, decide_eq_true (by omega)]
    · rw [decide_eq_false h9, decide_eq_false (by omega)]
theorem orT_0 {th : Nat → Bool} {fr : Nat} : orT th fr fr = th := by
  funext k
  unfold orT
  rw [decide_eq_false (by omega), Bool.or_false]
theorem tc1 {p a fr to bAt : Nat} {l : List Cel} {kn : Bool} {th : Nat → Bool} {bs : List Int32} {hd : Int32} {Q : Int32 → Sg → Prop} {σ0 : Sg} (hw : wfF l) (hto : to ≤ l.length) (hft : fr < to) (hpa : p ≠ a ∧ p ≠ a + 1 ∧ p + 1 ≠ a) (h8 : bit 8 hd = !(lasF l (to - 1))) (hby : ∀ k, fr ≤ k → k < to → bs.getD (bAt + (k - fr)) 0 = (gc l k).1) (hbl : bAt + (to - fr) ≤ 250) (h : ∀ σ' : Sg, RpC σ' p l kn (orT th fr to) → (∀ j, j ≠ 2 → σ' p j = σ0 p j) → Frm p σ0 σ' → Q (nI to) σ') : ∀ (m i s lAt : Nat) (σ : Sg) (bf : Bool), i + m = to → fr ≤ s → s ≤ i → (∀ k, s ≤ k → k < i → lasF l k = false) → RpC σ p l kn (orT th fr i) → Air σ a bs → lAt + cnt (lasF l) i (to - 1 - i) = bAt → (∀ j, j < cnt (lasF l) i (to - 1 - i) → bs.getD (lAt + j) 0 = (lenL (lasF l) (to - 1 - i) i s).getD j 0) → (i < to → bf = (gc l i).2.1) → (∀ j, j ≠ 2 → σ p j = σ0 p j) → Frm p σ0 σ → wpX6_takeCells_L53 Q (m + 1) p (nI fr) a (nI (bAt + (to - fr))) hd (nI bAt) (nI lAt) (nI (bAt + (s - fr))) (b01 bf) (nI (bAt + (i - fr))) σ := by
  intro m
  induction m with
  | zero =>
    intro i s lAt σ bf hi h1 h2 h3 hP hA hL hle hbf hj hF
    have hi : i = to := by omega
    subst hi
    unfold wpX6_takeCells_L53
    refine brt (nI_le (Nat.le_refl _) (by omega)) ?_
    have e : (nI fr + nI (bAt + (i - fr))) - nI bAt = nI i := by
      rw [nI_add, pk_sub (by omega)]
      congr 1
      omega
    rw [e]
    exact h σ hP hj hF
  | succ m ih =>
    intro i s lAt σ bf hi h1 h2 h3 hP hA hL hle hbf hj hF
    have hbf := hbf (by omega)
    have hql : i < l.length := by omega
    have hqi : celOK (gc l i) := hP.2.2.2.1 _ (gc_mem hql)
    have hl240 := hP.2.1
    -- the byte is laid
    have L122 : ∀ (lAt' s' : Nat) (la : Bool), la = lasF l i → fr ≤ s' → s' ≤ i + 1 → (∀ k, s' ≤ k → k < i + 1 → lasF l k = false) → (lAt' + cnt (lasF l) (i + 1) (to - 1 - (i + 1)) = bAt) → (∀ j, j < cnt (lasF l) (i + 1) (to - 1 - (i + 1)) → bs.getD (lAt' + j) 0 = (lenL (lasF l) (to - 1 - (i + 1)) (i + 1) s').getD j 0) → wpX6_takeCells_L122 Q (wpX6_takeCells_L53 Q (m + 1)) p (nI fr) a (nI (bAt + (to - fr))) hd (nI bAt) (nI lAt') (nI (bAt + (s' - fr))) (b01 bf) (nI (bAt + (i - fr))) (b01 la) σ := by
      intro lAt' s' la hla k1 k2 k3 k4 k5
      unfold wpX6_takeCells_L122
      refine at_ok hA (by omega) ?_
      rw [hby i (by omega) (by omega)]
      have ei : (nI fr + nI (bAt + (i - fr))) - nI bAt = nI i := by
        rw [nI_add, pk_sub (by omega)]
        congr 1
        omega
      rw [ei]
      have fin : wpX5_putArrived p (nI i) (((gc l i).1 + (if (gc l i).2.1 then 256 else 0)) + (if (gc l i).2.2.1 then 512 else 0)) σ (fun σ16 => ∀ x12_17 : Int32, x12_17 = nI (bAt + (i - fr)) + 1 → (wpX6_takeCells_L53 Q (m + 1)) p (nI fr) a (nI (bAt + (to - fr))) hd (nI bAt) (nI lAt') (nI (bAt + (s' - fr))) (b01 la) x12_17 σ16) := by
        rw [cod_sum hqi]
        refine putArrived_ok hP hql (fun σ2 g1 g2 g3 => ?_)
        rintro _ rfl
        rw [nI_1, show bAt + (i - fr) + 1 = bAt + (i + 1 - fr) by omega]
        rw [orT_step (by omega)] at g1
        refine ih (i + 1) s' lAt' σ2 la (by omega) k1 k2 k3 g1 (hA.of ?_ ?_) k4 k5 (fun hlt => ?_) (fun j hj2 => ?_) (fun d d1 d2 => ?_)
        · rw [g3 a (by omega) (by omega)]
        · exact g3 (a + 1) (by omega) (by omega)
        · rw [hla, hw.1 (i + 1) (by omega) (by omega), Nat.add_sub_cancel]
        · rw [g2 j hj2, hj j hj2]
        · rw [g3 d d1 d2, hF d d1 d2]
      have hla2 : la = (gc l i).2.2.1 := hla
      rw [← hbf, ← hla2] at fin
      refine br01 (fun e => ?_) (fun e => ?_)
      · rw [e] at fin
        unfold wpX6_takeCells_L148
        refine br01 (fun e2 => ?_) (fun e2 => ?_)
        · rw [e2] at fin ⊢
          unfold wpX6_takeCells_L161
          exact fin
        · rw [e2] at fin ⊢
          unfold wpX6_takeCells_L161
          exact fin
      · rw [e] at fin
        unfold wpX6_takeCells_L148
        refine br01 (fun e2 => ?_) (fun e2 => ?_)
        · rw [e2] at fin ⊢
          unfold wpX6_takeCells_L161
          exact fin
        · rw [e2] at fin ⊢
          unfold wpX6_takeCells_L161
          exact fin
    have ebe : (nI (bAt + (i - fr)) + 1) - nI (bAt + (s - fr)) = nI (i + 1 - s) := by
      rw [nI_1, pk_sub (by omega)]
      congr 1
      omega
    unfold wpX6_takeCells_L53
    have et : nI (bAt + (to - fr)) - 1 = nI (bAt + (to - fr) - 1) := pk_sub (a := bAt + (to - fr)) (b := 1) (by omega)
    rw [et]
    refine brf (nI_ge (by omega) (by omega)) ?_
    by_cases el : i = to - 1
    · -- the last one
      have e0 : to - 1 - i = 0 := by omega
      have e1 : to - 1 - (i + 1) = 0 := by omega
      rw [e0] at hL
      have hL : lAt = bAt := hL
      subst hL
      refine brt' (by congr 1; omega) ?_
      rw [← el] at h8
      have fin2 : ∀ z : Bool, z = lasF l i → wpX6_takeCells_L82 Q (wpX6_takeCells_L53 Q (m + 1)) p (nI fr) a (nI (lAt + (to - fr))) hd (nI lAt) (nI lAt) (nI (lAt + (s - fr))) (b01 bf) (nI (lAt + (i - fr))) (b01 z) σ := by
        intro z hz
        unfold wpX6_takeCells_L82
        refine brt (nI_le (Nat.le_refl _) (by omega)) ?_
        -- no LENGTH is left: where the next segment begins does not matter
        have hm : m = 0 := by omega
        unfold wpX6_takeCells_L122
        refine at_ok hA (by omega) ?_
        rw [hby i (by omega) (by omega)]
        have ei : (nI fr + nI (lAt + (i - fr))) - nI lAt = nI i := by
          rw [nI_add, pk_sub (by omega)]
          congr 1
          omega
        rw [ei]
        have fin : wpX5_putArrived p (nI i) (((gc l i).1 + (if (gc l i).2.1 then 256 else 0)) + (if (gc l i).2.2.1 then 512 else 0)) σ (fun σ16 => ∀ x12_17 : Int32, x12_17 = nI (lAt + (i - fr)) + 1 → (wpX6_takeCells_L53 Q (m + 1)) p (nI fr) a (nI (lAt + (to - fr))) hd (nI lAt) (nI lAt) (nI (lAt + (s - fr))) (b01 z) x12_17 σ16) := by
          rw [cod_sum hqi]
          refine putArrived_ok hP hql (fun σ2 g1 g2 g3 => ?_)
          rintro _ rfl
          rw [orT_step (by omega), show i + 1 = to by omega] at g1
          unfold wpX6_takeCells_L53
          rw [nI_1, show lAt + (i - fr) + 1 = lAt + (to - fr) by omega]
          refine brt (nI_le (Nat.le_refl _) (by omega)) ?_
          have e : (nI fr + nI (lAt + (to - fr))) - nI lAt = nI to := by
            rw [nI_add, pk_sub (by omega)]
            congr 1
            omega
          rw [e]
          exact h σ2 g1 (fun j hj2 => by rw [g2 j hj2, hj j hj2]) (fun d d1 d2 => by rw [g3 d d1 d2, hF d d1 d2])
        have hla2 : z = (gc l i).2.2.1 := hz
        rw [← hbf, ← hla2] at fin
        refine br01 (fun e => ?_) (fun e => ?_)
        · rw [e] at fin
          unfold wpX6_takeCells_L148
          refine br01 (fun e2 => ?_) (fun e2 => ?_)
          · rw [e2] at fin ⊢
            unfold wpX6_takeCells_L161
            exact fin
          · rw [e2] at fin ⊢
            unfold wpX6_takeCells_L161
            exact fin
        · rw [e] at fin
          unfold wpX6_takeCells_L148
          refine br01 (fun e2 => ?_) (fun e2 => ?_)
          · rw [e2] at fin ⊢
            unfold wpX6_takeCells_L161
            exact fin
          · rw [e2] at fin ⊢
            unfold wpX6_takeCells_L161
            exact fin
      refine brbit' h8 (fun e => ?_) (fun e => ?_)
      · exact fin2 true (by simpa using e)
      · unfold wpX6_takeCells_L81
        exact fin2 false (by simpa using e)
    · have e1 : to - 1 - i = (to - 1 - (i + 1)) + 1 := by omega
      refine brf' (fun hh => ?_) ?_
      · have := (nI_eq (by omega) (by omega)).mp hh
        omega
      unfold wpX6_takeCells_L81 wpX6_takeCells_L82
      rw [e1] at hL hle
      cases ela : lasF l i with
      | true =>
        have hcp := cnt_pos_T (n := to - 1 - (i + 1)) ela
        rw [hcp] at hL hle
        have hlt : lAt < bAt := by omega
        refine brf (nI_ge hlt (by omega)) (at_ok hA (by omega) ?_)
        have h0 := hle 0 (by omega)
        have hlen : lenL (lasF l) (to - 1 - (i + 1) + 1) i s = nI (i + 1 - s + (if 0 < cnt (lasF l) (i + 1) (to - 1 - (i + 1)) then 128 else 0)) :: lenL (lasF l) (to - 1 - (i + 1)) (i + 1) (i + 1) := by
          rw [lenL, if_pos ela]
        rw [hlen] at h0 hle
        have h0 : bs.getD lAt 0 = nI (i + 1 - s + (if 0 < cnt (lasF l) (i + 1) (to - 1 - (i + 1)) then 128 else 0)) := h0
        have hsg := hw.seg h2 hql h3
        have hval : bs.getD lAt 0 &&& 127 = nI (i + 1 - s) := by
          rw [h0]
          split
          · rw [a127 (by omega)]; congr 1; omega
          · rw [a127 (by omega)]; congr 1; omega
        rw [hval, ebe]
        refine brt' rfl ?_
        rintro _ rfl _ rfl
        rw [nI_1, nI_1, show bAt + (i - fr) + 1 = bAt + (i + 1 - fr) by omega]
        refine L122 (lAt + 1) (i + 1) true ela.symm (by omega) (Nat.le_refl _) (fun k k1 k2 => by omega) (by omega) (fun j hj9 => ?_)
        have := hle (j + 1) (by omega)
        rw [show lAt + 1 + j = lAt + (j + 1) by omega]
        exact this
      | false =>
        have hcp := cnt_pos_F (n := to - 1 - (i + 1)) ela
        rw [hcp] at hL hle
        have hlen : lenL (lasF l) (to - 1 - (i + 1) + 1) i s = lenL (lasF l) (to - 1 - (i + 1)) (i + 1) s := by
          rw [lenL, if_neg (by rw [ela]; decide)]
        have h3' : ∀ k, s ≤ k → k < i + 1 → lasF l k = false := fun k k1 k2 => by
          by_cases ek : k = i
          · rw [ek]; exact ela
          · exact h3 k k1 (by omega)
        rw [hlen] at hle
        have go := L122 lAt s false ela.symm h1 (by omega) h3' hL hle
        rcases Nat.eq_zero_or_pos (cnt (lasF l) (i + 1) (to - 1 - (i + 1))) with h0 | h0
        · exact brt (nI_le (by omega) (by omega)) go
        · refine brf (nI_ge (by omega) (by omega)) (at_ok hA (by omega) ?_)
          obtain ⟨j, j1, j2, j3, j4, j5⟩ := lenL_hd (l := l) (to - 1 - (i + 1)) (i + 1) s (by omega) h0
          have hv := hle 0 h0
          rw [j5] at hv
          have hv : bs.getD lAt 0 = nI (j + 1 - s + if 1 < cnt (lasF l) (i + 1) (to - 1 - (i + 1)) then 128 else 0) := hv
          have hsg := hw.seg (s := s) (j := j) (by omega) (by omega) (fun k k1 k2 => by
            by_cases ek : k < i + 1
            · exact h3' k k1 ek
            · exact j4 k (by omega) k2)
          have hval : bs.getD lAt 0 &&& 127 = nI (j + 1 - s) := by
            rw [hv]
            split
            · rw [a127 (by omega)]; congr 1; omega
            · rw [a127 (by omega)]; congr 1; omega
          rw [hval, ebe]
          refine brf' (fun hh => ?_) go
          have := (nI_eq (by omega) (by omega)).mp hh
          omega
theorem takeCells_ok {σ : Sg} {c0 p a fr to lAt : Nat} {l : List Cel} {kn : Bool} {th : Nat → Bool} {part poll : Bool} {bs : List Int32} {Q : Int32 → Sg → Prop} (hw : wfF l) (hto : to ≤ l.length) (hft : fr < to) (hpa : p ≠ a ∧ p ≠ a + 1 ∧ p + 1 ≠ a) (hP : RpC σ p l kn th) (hA : Air σ a bs) (hle : ∀ j, j < cnt (lasF l) fr (to - 1 - fr) → bs.getD (lAt + j) 0 = (lenL (lasF l) (to - 1 - fr) fr fr).getD j 0) (hby : ∀ k, fr ≤ k → k < to → bs.getD (lAt + cnt (lasF l) fr (to - 1 - fr) + (k - fr)) 0 = (gc l k).1) (hbl : lAt + cnt (lasF l) fr (to - 1 - fr) + (to - fr) ≤ bs.length) (h : ∀ σ' : Sg, RpC σ' p l kn (orT th fr to) → (∀ j, j ≠ 2 → σ' p j = σ p j) → Frm p σ σ' → Q (nI to) σ') : wpX6_takeCells c0 p (nI fr) a (nI lAt) (nI (lAt + cnt (lasF l) fr (to - 1 - fr) + (to - fr))) (hdI part poll (gc l fr).2.1 (lasF l (to - 1)) (cnt (lasF l) fr (to - 1 - fr))) σ Q := by
  have hbs := hA.2.1
  have L17 : wpX6_takeCells_L17 Q p (nI fr) a (nI lAt) (nI (lAt + cnt (lasF l) fr (to - 1 - fr) + (to - fr))) (hdI part poll (gc l fr).2.1 (lasF l (to - 1)) (cnt (lasF l) fr (to - 1 - fr))) (nI (cnt (lasF l) fr (to - 1 - fr))) σ := by
    unfold wpX6_takeCells_L17
    rintro _ rfl
    rw [nI_add]
    have go : wpX6_takeCells_L47 Q p (nI fr) a (nI (lAt + cnt (lasF l) fr (to - 1 - fr) + (to - fr))) (hdI part poll (gc l fr).2.1 (lasF l (to - 1)) (cnt (lasF l) fr (to - 1 - fr))) (nI (lAt + cnt (lasF l) fr (to - 1 - fr))) (nI lAt) (nI (lAt + cnt (lasF l) fr (to - 1 - fr))) (b01 (gc l fr).2.1) σ := by
      unfold wpX6_takeCells_L47
      refine ⟨to - fr + 1, ?_⟩
      have := tc1 (th := th) (σ0 := σ) (hd := hdI part poll (gc l fr).2.1 (lasF l (to - 1)) (cnt (lasF l) fr (to - 1 - fr))) hw hto hft hpa hdI_8 hby (by omega) h (to - fr) fr fr lAt σ (gc l fr).2.1 (by omega) (Nat.le_refl _) (Nat.le_refl _) (fun k k1 k2 => by omega) (by rw [orT_0]; exact hP) hA rfl hle (fun _ => rfl) (fun _ _ => rfl) (fun _ _ _ => rfl)
      rw [Nat.sub_self, Nat.add_zero] at this
      exact this
    refine brbit' (hdI_16 (part := part) (poll := poll)) (fun e => ?_) (fun e => ?_)
    · have e : (gc l fr).2.1 = true := by simpa using e
      rw [e] at go ⊢
      exact go
    · have e : (gc l fr).2.1 = false := by simpa using e
      rw [e] at go ⊢
      exact go
  unfold wpX6_takeCells
  refine brbit (hdI_4 (part := part) (poll := poll)) (fun e => ?_) (fun e => ?_)
  · have e : cnt (lasF l) fr (to - 1 - fr) = 0 := by
      have := of_decide_eq_false e
      omega
    rw [e] at L17 ⊢
    exact L17
  · have e : 0 < cnt (lasF l) fr (to - 1 - fr) := of_decide_eq_true e
    have := cl1 (c := cnt (lasF l) fr (to - 1 - fr)) (lAt := lAt) (Q := fun r2 σ2 => wpX6_takeCells_L17 Q p (nI fr) a (nI lAt) (nI (lAt + cnt (lasF l) fr (to - 1 - fr) + (to - fr))) (hdI part poll (gc l fr).2.1 (lasF l (to - 1)) (cnt (lasF l) fr (to - 1 - fr))) r2 σ2) hA e (by omega) (fun j hj => ?_) L17 (cnt (lasF l) fr (to - 1 - fr) - 1) 0 (by omega)
    · exact ⟨_, this⟩
    · rw [hle j hj]
      exact lenL_at hw (to - 1 - fr) fr fr (Nat.le_refl _) (by omega) (fun k k1 k2 => by omega) j hj
