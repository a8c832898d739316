/-! PURE: the reference: DATA made new -/
def LN : List Nat := [4, 5, 6, 7, 9, 12, 20, 21, 22, 23, 24, 25, 26, 27, 28, 29, 30, 31, 32, 66]
theorem gc_take {l : List Cel} {n k : Nat} (h : k < n) : gc (l.take n) k = gc l k := by
  unfold gc
  rw [List.getD_eq_getElem?_getD, List.getElem?_take, if_pos h, ← List.getD_eq_getElem?_getD]
theorem mk155 {i f n room : Nat} {fl : List Cel} {Q : Int32 → Sg → Prop} {τ0 : Sg} (hi : i < 6) (hf : f < 96) (hn : n ≤ 240) (hnl : n ≤ fl.length) (hW0 : WtM τ0 i fl) (h : ∀ τ' : Sg, (∀ k, k < n → τ' 27 (240 * f + k) = (gc fl k).1 ∧ τ' 28 (240 * f + k) = nI (gc fl k).2.2.2 - 1 ∧ τ' 30 (240 * f + k) = b01 (gc fl k).2.1 ∧ τ' 31 (240 * f + k) = b01 (gc fl k).2.2.1 ∧ τ' 32 (240 * f + k) = 0) → (∀ c, c ∉ [27, 28, 30, 31, 32] → τ' c = τ0 c) → (∀ c j, j < 240 * f ∨ 240 * f + 240 ≤ j → τ' c j = τ0 c j) → wpX9_make_L155 Q 1 (nI room) (nI i) (nI f) (nI n) (nI n) τ') : ∀ (m k : Nat) (τ : Sg), k + m = n → (∀ j, j < k → τ 27 (240 * f + j) = (gc fl j).1 ∧ τ 28 (240 * f + j) = nI (gc fl j).2.2.2 - 1 ∧ τ 30 (240 * f + j) = b01 (gc fl j).2.1 ∧ τ 31 (240 * f + j) = b01 (gc fl j).2.2.1 ∧ τ 32 (240 * f + j) = 0) → (∀ c, c ∉ [27, 28, 30, 31, 32] → τ c = τ0 c) → (∀ c j, j < 240 * f ∨ 240 * f + 240 ≤ j → τ c j = τ0 c j) → wpX9_make_L155 Q (m + 1) (nI room) (nI i) (nI f) (nI n) (nI k) τ := by
  intro m
  induction m with
  | zero =>
    intro k τ hk h1 h2 h3
    have hk : k = n := by omega
    subst hk
    exact h τ h1 h2 h3
  | succ m ih =>
    intro k τ hk h1 h2 h3
    have hw := hW0.2.2 k (by omega)
    rw [← h2 20 (by decide), ← h2 21 (by decide), ← h2 23 (by decide), ← h2 24 (by decide)] at hw
    obtain ⟨w1, w2, w3, w4⟩ := hw
    unfold wpX9_make_L155
    refine brf (nI_ge (by omega) (by omega)) ?_
    rw [i4400, i240]
    rintro _ rfl
    rw [nI_clamp (n := 4400 * i + k) (by omega), nI_clamp (n := 240 * f + k) (by omega)]
    refine ⟨vin rfl (by omega) (by decide), vin rfl (by omega) (by decide), ?_⟩
    rintro _ rfl
    refine ⟨vin rfl (by omega) (by decide), vin rfl (by omega) (by decide), ?_⟩
    rw [up2_o (d := 21) (by decide), w1, w2]
    rintro _ rfl
    rw [up2_o (d := 23) (by decide), up2_o (d := 23) (by decide), w3]
    refine ⟨vin rfl (by omega) (by decide), b01_z _, vin rfl (by omega) (by decide), ?_⟩
    rintro _ rfl
    rw [up2_o (d := 24) (by decide), up2_o (d := 24) (by decide), up2_o (d := 24) (by decide), w4]
    refine ⟨vin rfl (by omega) (by decide), b01_z _, vin rfl (by omega) (by decide), ?_⟩
    rintro _ rfl
    refine ⟨vin rfl (by omega) (by decide), ?_⟩
    rintro _ rfl _ rfl
    rw [nI_1]
    refine ih (k + 1) _ (by omega) (fun j hj => ?_) (fun c hc => ?_) (fun c j hj => ?_)
    · rw [up2_o (d := 27) (by decide), up2_o (d := 27) (by decide), up2_o (d := 27) (by decide), up2_o (d := 27) (by decide), up2_e (d := 27), up2_o (d := 28) (by decide), up2_o (d := 28) (by decide), up2_o (d := 28) (by decide), up2_e (d := 28), up2_o (d := 28) (by decide), up2_o (d := 30) (by decide), up2_o (d := 30) (by decide), up2_e (d := 30), up2_o (d := 30) (by decide), up2_o (d := 30) (by decide), up2_o (d := 31) (by decide), up2_e (d := 31), up2_o (d := 31) (by decide), up2_o (d := 31) (by decide), up2_o (d := 31) (by decide), up2_e (d := 32), up2_o (d := 32) (by decide), up2_o (d := 32) (by decide), up2_o (d := 32) (by decide), up2_o (d := 32) (by decide)]
      by_cases e : j = k
      · subst e
        simp only [true_and, if_true]
      · have e2 : ¬ 240 * f + j = 240 * f + k := by omega
        simp only [e2, and_false, if_false]
        exact h1 j (by omega)
    · simp only [List.mem_cons, List.not_mem_nil, or_false, not_or] at hc
      rw [up2_o hc.2.2.2.2, up2_o hc.2.2.2.1, up2_o hc.2.2.1, up2_o hc.2.1, up2_o hc.1]
      exact h2 c (by simp [hc])
    · rw [up2_e, if_neg (by omega), up2_e, if_neg (by omega), up2_e, if_neg (by omega), up2_e, if_neg (by omega), up2_e, if_neg (by omega)]
      exact h3 c j hj
theorem rmakeNew_ok {τ : Sg} {i room nc T : Nat} {v : Nat → Nat} {bk : Int32} {pc : Nat → Pce} {un : Nat → Un} {w : Wt} {Q : Int32 → Sg → Prop} (hi : i < 6) (hS : SnM τ i v bk) (hI : SI T v pc) (hP : PsM τ i (v 4) (v 5) pc) (hV : ObV nc un w) (hW : WtM τ i (fltW w)) (hr3 : 3 ≤ room) (hroom : room ≤ 250) (hw0 : ¬ w.1.length = 0) (hf : ¬ v 4 + 16 ≤ v 5) (h5 : v 5 + 1 < 2 ^ 20) (h : ∀ τ' : Sg, SnM τ' i (cdV (newV v) (newL room w).2.1.length) bk → PsM τ' i (v 4) (v 5 + 1) (spu pc (v 5) ((newL room w).1, mnA, 0, false)) → WtM τ' i (fltW (newL room w).2) → OutM τ' (datL (newL room w).1 (v 5) 0 (newL room w).1.length false (polB (newV v) (newL room w).2.1.length)) → FrA LN i τ τ' → Q (nI (datL (newL room w).1 (v 5) 0 (newL room w).1.length false (polB (newV v) (newL room w).2.1.length)).length) τ') : wpX9_make_L150 Q (nI room) (nI i) (nI (16 * i + v 5 % 16)) (nI (min 240 (fltW w).length)) τ := by
  obtain ⟨hb, h45, h16, h6, hpl⟩ := hI
  have b4 := hb 4 (by decide) (by decide)
  have b5 := hb 5 (by decide) (by decide)
  have hfl := fltW_lt hV
  have hfp : 0 < (fltW w).length := by
    have := fltW_pos hV
    omega
  obtain ⟨m1, m2⟩ := mnF_flat 240 (room - 2) [] w hV
  have en : newL room w = mnF 240 (room - 2) [] w := rfl
  rw [List.nil_append, List.length_nil, ← en] at m1 m2
  have hs := fitN_spec (la := lasF (fltW w)) (fr := 0) (min 240 (fltW w).length) (room - 2) 0
  have hpos := fitN_1 (la := lasF (fltW w)) (fr := 0) (m := min 240 (fltW w).length) (left := room - 2) (by omega) (by omega)
  have hcost := fitN_cost hpos
  generalize hn0 : fitN (lasF (fltW w)) 0 (min 240 (fltW w).length) (room - 2) 0 = n0 at *
  have hlen : (newL room w).1.length = n0 := by
    rw [m1, List.length_take]
    omega
  have hgc : ∀ k, k < n0 → gc (newL room w).1 k = gc (fltW w) k := fun k hk => by rw [m1, gc_take hk]
  have hV2 : ObV nc un (newL room w).2 := obV_mn _ _ _ _ hV
  have hwl2 : (fltW (newL room w).2).length = 0 ↔ (newL room w).2.1.length = 0 := fltW_pos hV2
  have hcnt : cnt (lasF (newL room w).1) 0 (n0 - 1) = cnt (lasF (fltW w)) 0 (n0 - 1) := cnt_congr _ (fun k _ hk => by unfold lasF; rw [hgc k (by omega)])
  have hf96 : 16 * i + v 5 % 16 < 96 := by omega
  unfold wpX9_make_L150
  refine ⟨min 240 (fltW w).length + 1, mk155 (τ0 := τ) hi hf96 (by omega) (by omega) hW (fun τ1 g1 g2 g3 => ?_) (min 240 (fltW w).length) 0 τ (by omega) (fun j hj => by omega) (fun _ _ => rfl) (fun _ _ _ => rfl)⟩
  unfold wpX9_make_L155
  refine brt (nI_le (Nat.le_refl _) (by omega)) ?_
  refine rfitting_ok (fr := 0) (head := 2) (la := lasF (fltW w)) hf96 (by omega) (Nat.zero_le _) (by omega) (by omega) (fun k k1 k2 => (g1 k k2).2.2.2.1) ?_
  have e0 : fitN (lasF (fltW w)) 0 (min 240 (fltW w).length - 0) (room - 2) 0 - 0 = n0 := by rw [Nat.sub_zero, Nat.sub_zero]; exact hn0
  rw [e0]
  generalize ef : 16 * i + v 5 % 16 = f at *
  rw [nI_clamp (n := f) (by omega)]
  refine ⟨vin rfl hf96 (by decide), ?_⟩
  rintro _ rfl
  refine ⟨vin rfl hf96 (by decide), ?_⟩
  rintro _ rfl
  refine ⟨vin rfl hf96 (by decide), ?_⟩
  rintro _ rfl
  refine ⟨vin rfl hf96 (by decide), ?_⟩
  have e25 : up2 (up2 (up2 τ1 25 f (nI n0)) 26 f 0) 29 f 0 25 f = nI n0 := by rw [up2_o (by decide), up2_o (by decide), up2_e, if_pos ⟨rfl, rfl⟩]
  have u2 : ∀ c, c ∉ [25, 26, 27, 28, 29, 30, 31, 32] → up2 (up2 (up2 τ1 25 f (nI n0)) 26 f 0) 29 f 0 c = τ c := fun c hc => by
    simp only [List.mem_cons, List.not_mem_nil, or_false, not_or] at hc
    rw [up2_o hc.2.2.2.2.1, up2_o hc.2.1, up2_o hc.1]
    exact g2 c (by simp [hc])
  have u3 : ∀ f', f' ≠ f → up2 (up2 (up2 τ1 25 f (nI n0)) 26 f 0) 29 f 0 25 f' = τ 25 f' ∧ up2 (up2 (up2 τ1 25 f (nI n0)) 26 f 0) 29 f 0 26 f' = τ 26 f' ∧ up2 (up2 (up2 τ1 25 f (nI n0)) 26 f 0) 29 f 0 29 f' = τ 29 f' ∧ ∀ c k, c = 27 ∨ c = 28 ∨ c = 30 ∨ c = 31 ∨ c = 32 → k < 240 → up2 (up2 (up2 τ1 25 f (nI n0)) 26 f 0) 29 f 0 c (240 * f' + k) = τ c (240 * f' + k) := fun f' hf' => by
    refine ⟨?_, ?_, ?_, fun c k hc hk => ?_⟩
    · rw [up2_o (by decide), up2_o (by decide), up2_e, if_neg (fun hh => hf' hh.2), g2 25 (by decide)]
    · rw [up2_o (by decide), up2_e, if_neg (fun hh => hf' hh.2), up2_o (by decide), g2 26 (by decide)]
    · rw [up2_e, if_neg (fun hh => hf' hh.2), up2_o (by decide), up2_o (by decide), g2 29 (by decide)]
    · rw [up2_o (by omega), up2_o (by omega), up2_o (by omega)]
      exact g3 c _ (by omega)
  have hPq : PcM (up2 (up2 (up2 τ1 25 f (nI n0)) 26 f 0) 29 f 0) f ((newL room w).1, mnA, 0, false) := by
    refine ⟨by rw [e25, ← hlen], by rw [hlen]; omega, by rw [up2_o (by decide), up2_e, if_pos ⟨rfl, rfl⟩]; rfl, by rw [up2_e, if_pos ⟨rfl, rfl⟩]; rfl, fun k hk => ?_⟩
    have hk : k < (newL room w).1.length := hk
    rw [hlen] at hk
    show _ = (gc (newL room w).1 k).1 ∧ _ = nI (gc (newL room w).1 k).2.2.2 - 1 ∧ _ = b01 (gc (newL room w).1 k).2.1 ∧ _ = b01 (gc (newL room w).1 k).2.2.1 ∧ _
    rw [hgc k hk]
    obtain ⟨z1, z2, z3, z4, z5⟩ := g1 k (by omega)
    have uu : ∀ c, c = 27 ∨ c = 28 ∨ c = 30 ∨ c = 31 ∨ c = 32 → up2 (up2 (up2 τ1 25 f (nI n0)) 26 f 0) 29 f 0 c = τ1 c := fun c hc => by rw [up2_o (by omega), up2_o (by omega), up2_o (by omega)]
    rw [uu 27 (by simp), uu 28 (by simp), uu 30 (by simp), uu 31 (by simp), uu 32 (by simp)]
    exact ⟨z1, z2, z3, z4, z5⟩
  have hF2 : FrA LN i τ (up2 (up2 (up2 τ1 25 f (nI n0)) 26 f 0) 29 f 0) := by
    refine ⟨fun c hc => u2 c (fun hh => hc ?_), fun c k hc hk => ?_⟩
    · have key : ∀ c, c ∈ [25, 26, 27, 28, 29, 30, 31, 32] → c ∈ LN := by decide
      exact key c hh
    · by_cases e1 : c = 25 ∨ c = 26 ∨ c = 29
      · have hkf : k ≠ f := fun e => hk (by rcases e1 with rfl | rfl | rfl <;> (show k / 16 = i; omega))
        obtain ⟨q1, q2, q3, q4⟩ := u3 k hkf
        rcases e1 with rfl | rfl | rfl
        · exact q1
        · exact q2
        · exact q3
      · by_cases e2 : c = 27 ∨ c = 28 ∨ c = 30 ∨ c = 31 ∨ c = 32
        · rw [up2_o (by omega), up2_o (by omega), up2_o (by omega)]
          refine g3 c k ?_
          have hk3 : k / 3840 ≠ i := by
            rcases e2 with rfl | rfl | rfl | rfl | rfl <;> exact hk
          omega
        · rw [u2 c (by simp; omega)]
  rw [e25]
  have hW2 : WtM (up2 (up2 (up2 τ1 25 f (nI n0)) 26 f 0) 29 f 0) i (fltW w) := hW.of (fun c c1 c2 => u2 c (by simp; omega))
  generalize up2 (up2 (up2 τ1 25 f (nI n0)) 26 f 0) 29 f 0 = τ2 at *
  refine cutWaiting_ok (fr := 0) hi hW2 (Nat.zero_le _) (by omega) (fun τ3 k1 k2 => ?_)
  rw [List.take_zero, List.nil_append, ← m2] at k1
  rw [nI_clamp (by omega)]
  refine ⟨vin rfl hi (by decide), vin rfl hi (by decide), ?_⟩
  have u23 : ∀ c, c ∉ LW → τ3 c = τ2 c := fun c hc => k2.1 c hc
  obtain ⟨s3, s4, s5, s6, s7, s8, s9, s10, s11, s12, s13⟩ := hS
  rw [u23 4 (by decide), u2 4 (by decide), s4, nI_1]
  rintro _ rfl
  have e4 : up2 τ3 4 i (nI (v 5 + 1)) 4 i = nI (v 5 + 1) := by rw [up2_e, if_pos ⟨rfl, rfl⟩]
  have e25' : up2 τ3 4 i (nI (v 5 + 1)) 25 f = nI n0 := by rw [up2_o (by decide), u23 25 (by decide)]; exact e25
  rw [e4, e25', nI_pred]
  refine ⟨vin rfl hi (by decide), vin rfl hf96 (by decide), ?_⟩
  have u4 : ∀ c, c ≠ 4 → c ∉ LW → c ∉ [25, 26, 27, 28, 29, 30, 31, 32] → up2 τ3 4 i (nI (v 5 + 1)) c = τ c := fun c h1 h2 h3 => by rw [up2_o h1, u23 c h2, u2 c h3]
  have hS4 : SnM (up2 τ3 4 i (nI (v 5 + 1))) i (newV v) bk := by
    have o : ∀ k, k ≠ 5 → newV v k = v k := fun k hk => vup_o hk
    refine ⟨?_, ?_, ?_, ?_, ?_, ?_, ?_, ?_, ?_, ?_, ?_⟩
    · rw [u4 3 (by decide) (by decide) (by decide), o 4 (by decide)]; exact s3
    · rw [e4]; unfold newV; rw [vup_s]
    · rw [u4 5 (by decide) (by decide) (by decide), o 10 (by decide)]; exact s5
    · rw [u4 6 (by decide) (by decide) (by decide), o 9 (by decide)]; exact s6
    · rw [u4 7 (by decide) (by decide) (by decide), o 11 (by decide)]; exact s7
    · rw [u4 8 (by decide) (by decide) (by decide)]; exact s8
    · rw [u4 9 (by decide) (by decide) (by decide), o 12 (by decide)]; exact s9
    · rw [u4 10 (by decide) (by decide) (by decide), o 13 (by decide)]; exact s10
    · rw [u4 11 (by decide) (by decide) (by decide), o 14 (by decide)]; exact s11
    · rw [u4 12 (by decide) (by decide) (by decide), o 7 (by decide)]; exact s12
    · rw [u4 13 (by decide) (by decide) (by decide), o 8 (by decide)]; exact s13
  have hPs4 : PsM (up2 τ3 4 i (nI (v 5 + 1))) i (v 4) (v 5 + 1) (spu pc (v 5) ((newL room w).1, mnA, 0, false)) := by
    have base : PsM τ2 i (v 4) (v 5 + 1) (spu pc (v 5) ((newL room w).1, mnA, 0, false)) := by
      intro y y1 y2
      by_cases e : y = v 5
      · subst e
        rw [spu_s, ef]
        exact hPq
      · rw [spu_o e]
        obtain ⟨d1, d2, d3, d4⟩ := u3 (16 * i + y % 16) (by omega)
        exact (hP y y1 (by omega)).of d1 d2 d3 d4
    exact base.of (fun c hc => by rw [up2_o (by omega), u23 c (by rcases hc with rfl | rfl | rfl | rfl | rfl | rfl | rfl | rfl <;> decide)])
  have hF4 : FrA LN i τ (up2 τ3 4 i (nI (v 5 + 1))) := (hF2.tr (k2.mono (by decide))).up (by decide) (fun _ => Nat.div_one i)
  have hIn : SI T (newV v) (spu pc (v 5) ((newL room w).1, mnA, 0, false)) := by
    have o4 : newV v 4 = v 4 := vup_o (by decide)
    have o5 : newV v 5 = v 5 + 1 := vup_s
    have o6 : newV v 6 = v 6 := vup_o (by decide)
    refine ⟨hb.put h5, by rw [o4, o5]; omega, by rw [o4, o5]; omega, ?_, ?_⟩
    · rw [o4, o5, o6, show v 5 + 1 - v 4 = (v 5 - v 4) + 1 by omega]
      show v 6 = aSum (spu pc (v 5) _) (v 4) (v 5 - v 4) + nMk (spu pc (v 5) _ (v 4 + (v 5 - v 4)))
      rw [show v 4 + (v 5 - v 4) = v 5 by omega, spu_s, aSum_congr (pc' := pc) _ (fun x x1 x2 => by rw [spu_o (by omega)]), h6]
      have : nMk ((newL room w).1, mnA, 0, false) = 0 := by
        rw [nMk_f rfl]
        exact cnt_0 _ (fun _ _ _ => rfl)
      rw [this]
      omega
    · rw [o4, o5]
      intro x x1 x2
      by_cases ex : x = v 5
      · rw [ex, spu_s]
        exact ⟨by show (newL room w).1.length ≤ 240; omega, Nat.zero_le _⟩
      · rw [spu_o ex]
        exact hpl x x1 (by omega)
  have hfx : (spu pc (v 5) ((newL room w).1, mnA, 0, false) (v 5)).1 = (newL room w).1 := by rw [spu_s]
  have hD := data_ok (x := v 5) (fr := 0) (to := n0) (part := false) (wl := (newL room w).2.1.length) (fl := fltW (newL room w).2) (v := newV v) (pc := spu pc (v 5) ((newL room w).1, mnA, 0, false)) (Q := Q) hi hS4 hIn.1 hIn.2.1 hIn.2.2.2.1 (by rw [show newV v 4 = v 4 from vup_o (by decide), show newV v 5 = v 5 + 1 from vup_s]; exact hPs4) (k1.of (fun c c1 c2 => up2_o (by omega))) hwl2 (by rw [show newV v 4 = v 4 from vup_o (by decide)]; exact h45) (by rw [show newV v 5 = v 5 + 1 from vup_s]; omega) (by omega) (by rw [hfx, hlen]; exact Nat.le_refl _) (by rw [hfx, Nat.sub_zero, Nat.sub_zero, hcnt, show b2n false = 0 from rfl]; rw [Nat.sub_zero, Nat.sub_zero] at hcost; omega) (fun τ5 q1 q2 q3 => ?_)
  · exact hD
  · rw [hfx] at q2 ⊢
    rw [← hlen] at q2 ⊢
    exact h τ5 q1 (hPs4.of (fun c hc => q3.1 c (by rcases hc with rfl | rfl | rfl | rfl | rfl | rfl | rfl | rfl <;> decide))) (k1.of (fun c c1 c2 => by
      rw [q3.1 c (by
        have : c = 20 ∨ c = 21 ∨ c = 22 ∨ c = 23 ∨ c = 24 := by omega
        rcases this with rfl | rfl | rfl | rfl | rfl <;> decide), up2_o (by omega)])) q2 (hF4.tr (q3.mono (by decide)))
