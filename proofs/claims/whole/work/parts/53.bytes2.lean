/-! PURE: DATA that come: the number, the piece -/
theorem gD_l {a b : List Int32} {k : Nat} (h : k < a.length) : (a ++ b).getD k 0 = a.getD k 0 := by
  rw [List.getD_eq_getElem?_getD, List.getElem?_append_left h, ← List.getD_eq_getElem?_getD]
theorem gD_r {a b : List Int32} {k : Nat} (h : a.length ≤ k) : (a ++ b).getD k 0 = b.getD (k - a.length) 0 := by
  rw [List.getD_eq_getElem?_getD, List.getElem?_append_right h, ← List.getD_eq_getElem?_getD]
theorem byL_get {l : List Cel} : ∀ (m i k : Nat), k < m → (byL l m i).getD k 0 = (gc l (i + k)).1
  | 0, _, _, h => by omega
  | m + 1, i, 0, _ => rfl
  | m + 1, i, k + 1, h => by
    show (byL l m (i + 1)).getD k 0 = _
    rw [byL_get m (i + 1) k (by omega)]
    congr 2
    omega
theorem datL_0 {l : List Cel} {x fr to : Nat} {part poll : Bool} : (datL l x fr to part poll).getD 0 0 = hdI part poll (gc l fr).2.1 (lasF l (to - 1)) (cnt (lasF l) fr (to - 1 - fr)) := rfl
theorem datL_1 {l : List Cel} {x fr to : Nat} {part poll : Bool} : (datL l x fr to part poll).getD 1 0 = nI (x % 64) + (if part = true ∧ to = l.length then 128 else 0) := rfl
theorem datL_2 {l : List Cel} {x fr to : Nat} {poll : Bool} : (datL l x fr to true poll).getD 2 0 = nI fr := rfl
theorem datL_h {l : List Cel} {x fr to : Nat} {part poll : Bool} : ([hdI part poll (gc l fr).2.1 (lasF l (to - 1)) (cnt (lasF l) fr (to - 1 - fr)), nI (x % 64) + (if part = true ∧ to = l.length then 128 else 0)] ++ (if part then [nI fr] else [])).length = 2 + b2n part := by
  cases part <;> rfl
theorem datL_le {l : List Cel} {x fr to : Nat} {part poll : Bool} {j : Nat} (h : j < cnt (lasF l) fr (to - 1 - fr)) : (datL l x fr to part poll).getD (2 + b2n part + j) 0 = (lenL (lasF l) (to - 1 - fr) fr fr).getD j 0 := by
  unfold datL
  rw [gD_l (by rw [List.length_append, datL_h (poll := poll), lenL_len]; omega), gD_r (by rw [datL_h (poll := poll)]; omega), datL_h (poll := poll), Nat.add_sub_cancel_left]
theorem datL_by {l : List Cel} {x fr to : Nat} {part poll : Bool} {k : Nat} (h1 : fr ≤ k) (h2 : k < to) : (datL l x fr to part poll).getD (2 + b2n part + cnt (lasF l) fr (to - 1 - fr) + (k - fr)) 0 = (gc l k).1 := by
  unfold datL
  rw [gD_r (by rw [List.length_append, datL_h (poll := poll), lenL_len]; omega), List.length_append, datL_h (poll := poll), lenL_len, Nat.add_sub_cancel_left, byL_get _ _ _ (by omega)]
  congr 2
  omega
theorem sub63 {a b : Nat} (ha : a < 2 ^ 30) (hb : b < 2 ^ 30) : (nI a - nI b) &&& 63 = nI ((a + 63 * b) % 64) := by
  apply Int32.toBitVec_inj.mp
  rw [Int32.toBitVec_and, Int32.toBitVec_sub]
  show (BitVec.ofNat 32 a - BitVec.ofNat 32 b) &&& BitVec.ofNat 32 63 = BitVec.ofNat 32 ((a + 63 * b) % 64)
  apply BitVec.eq_of_toNat_eq
  rw [BitVec.toNat_and, BitVec.toNat_sub, BitVec.toNat_ofNat, BitVec.toNat_ofNat, BitVec.toNat_ofNat, BitVec.toNat_ofNat]
  rw [show 63 % 2 ^ 32 = 2 ^ 6 - 1 from rfl, Nat.and_two_pow_sub_one_eq_mod]
  omega
/-- the number that is meant -/
theorem meant_ok {x R e : Nat} (he : e = 0 ∨ e = 128) (hR : R < 2 ^ 20) (h1 : R ≤ x + 32) (h2 : x < R + 32) : nI R + ((nI (x % 64) + nI e) - nI R &&& 63) = nI (if R ≤ x then x else x + 64) := by
  rw [nI_add, sub63 (by omega) (by omega), nI_add]
  congr 1
  rcases he with rfl | rfl
  · split <;> omega
  · split <;> omega
def oldV (poll : Bool) (v : Nat → Nat) : Nat → Nat := vup (vup (vup v 11 (v 11 + 1)) 12 (v 12 + 1)) 7 (if v 7 = 0 ∧ poll = false then 0 else 1)
def pcu (pc : Rpc) (x : Nat) (kn : Bool) (th : Nat → Bool) : Rpc := fun y => if y = x then (kn, th) else pc y
def novV1 (pc : Rpc) (x fr to : Nat) (v : Nat → Nat) : Nat → Nat := if cnt (orT (pc x).2 fr to) 0 240 = cnt (pc x).2 0 240 then vup (vup v 11 (v 11 + 1)) 12 (v 12 + 1) else vup v 11 (v 11 + 1)
def novV (pc : Rpc) (x fr to : Nat) (v : Nat → Nat) : Nat → Nat := vup (novV1 pc x fr to v) 3 (max (v 3) (x + 1))
theorem b128 {p : Prop} [Decidable p] : (if p then (128 : Int32) else 0) = nI (if p then 128 else 0) := by split <;> rfl
theorem takeOld_ok {σ : Sg} {c a f0 x fr to : Nat} {v : Nat → Nat} {l : List Cel} {part poll : Bool} {bs : List Int32} {x3 : Int32} {Q : Int32 → Sg → Prop} (hS : RcS σ c v) (hb : RvB v) (h7 : v 7 ≤ 1) (hA : Air σ a bs) (ha : a + 1 < c ∨ c < a) (hD : ∀ k, k < (datL l x fr to part poll).length → bs.getD (f0 + k) 0 = (datL l x fr to part poll).getD k 0) (hf : f0 < 2 ^ 20) (h1 : x < v 2) (h2 : v 2 ≤ x + 32) (h : ∀ σ' : Sg, RcS σ' c (oldV poll v) → FrS c σ σ' → Q (-1) σ') : wpX6_takeBytes c a (nI f0) x3 σ Q := by
  have b2 := hb 2 (by decide) (by decide)
  have hlen := datL_len (l := l) (x := x) (fr := fr) (to := to) (part := part) (poll := poll)
  unfold wpX6_takeBytes
  rintro _ rfl
  rw [hS.1 11 (by decide) (by decide) (by decide), nI_1]
  have hS1 := hS.put (k := 11) (x := v 11 + 1) (by decide)
  have hA1 : Air (up2 σ c 11 (nI (v 11 + 1))) a bs := hA.of (by rw [up2_o (by omega)]) (up2_o (by omega))
  refine at_ok hA1 (by omega) ?_
  rw [nI_1]
  refine at_ok hA1 (by omega) ?_
  have d0 := hD 0 (by omega)
  have d1 := hD 1 (by omega)
  rw [Nat.add_zero, datL_0] at d0
  rw [datL_1, b128] at d1
  rw [d0, d1, hS1.1 2 (by decide) (by decide) (by decide), vup_o (by decide), meant_ok (by split <;> simp) b2 h2 (by omega), if_neg (by omega)]
  rintro _ rfl
  have e32 : nI (v 2) + 32 = nI (v 2 + 32) := nI_add (v 2) 32
  rw [e32]
  refine pk_lt (x + 64) (v 2 + 32) (fun hh => by omega) (fun _ => ?_)
  rintro _ rfl
  rw [hS1.1 12 (by decide) (by decide) (by decide), vup_o (by decide), nI_1]
  have hS2 := hS1.put (k := 12) (x := v 12 + 1) (by decide)
  rw [hS2.1 7 (by decide) (by decide) (by decide), vup_o (by decide), vup_o (by decide)]
  unfold oldV at h
  have fr2 : ∀ z : Int32, FrS c σ (up2 (up2 (up2 σ c 11 (nI (v 11 + 1))) c 12 (nI (v 12 + 1))) c 7 z) := fun z d hd => by rw [up2_o hd, up2_o hd, up2_o hd]
  refine ⟨fun hne => ?_, fun he => ?_⟩
  · unfold wpX6_takeBytes_L77
    rintro _ rfl
    rw [if_neg (fun hh => hne (by rw [hh.1]; rfl))] at h
    exact h _ (hS2.put (k := 7) (x := 1) (by decide)) (fr2 1)
  · have he : v 7 = 0 := (nI_eq (a := v 7) (b := 0) (by omega) (by decide)).mp he
    refine brbit hdI_32 (fun e => ?_) (fun e => ?_)
    · rintro _ rfl
      rw [if_pos ⟨he, e⟩] at h
      exact h _ (hS2.put (k := 7) (x := 0) (by decide)) (fr2 0)
    · unfold wpX6_takeBytes_L77
      rintro _ rfl
      rw [if_neg (fun hh => by rw [e] at hh; cases hh.2)] at h
      exact h _ (hS2.put (k := 7) (x := 1) (by decide)) (fr2 1)
theorem RpC.size {σ : Sg} {p : Nat} {l : List Cel} {kn : Bool} {th : Nat → Bool} (h : RpC σ p l kn th) : RpC (up2 σ p 1 (nI l.length)) p l true th := by
  obtain ⟨h1, h2, h3, h4, h5, h6⟩ := h
  refine ⟨?_, h2, ?_, h4, h5, fun k hk => ?_⟩
  · rw [up2_e, if_pos ⟨rfl, rfl⟩, if_pos rfl]
  · rw [up2_e, if_neg (by omega)]; exact h3
  · rw [up2_o (by omega)]; exact h6 k hk
theorem takeBytes_ok {σ : Sg} {c a f0 x fr to : Nat} {v : Nat → Nat} {G : Nat → List Cel} {pc : Rpc} {part poll : Bool} {bs : List Int32} {Q : Int32 → Sg → Prop} (hS : RcS σ c v) (hb : RvB v) (hP : RpsC σ c (v 2) G pc) (hA : Air σ a bs) (ha : a + 1 < c ∨ c + 71 ≤ a) (hw : wfF (G x)) (hto : to ≤ (G x).length) (hft : fr < to) (hpt : part = decide (0 < fr ∨ to < (G x).length)) (hD : ∀ k, k < (datL (G x) x fr to part poll).length → bs.getD (f0 + k) 0 = (datL (G x) x fr to part poll).getD k 0) (hf : f0 + (datL (G x) x fr to part poll).length ≤ bs.length) (h1 : v 2 ≤ x) (h2 : x < v 2 + 32) (h : ∀ σ' : Sg, RcS σ' c (novV pc x fr to v) → RpsC σ' c (v 2) G (pcu pc x ((pc x).1 || decide (to = (G x).length)) (orT (pc x).2 fr to)) → (∀ d, d ≠ c → d < c + 7 ∨ c + 71 ≤ d → σ' d = σ d) → Q (nI x) σ') : wpX6_takeBytes c a (nI f0) (nI (f0 + (datL (G x) x fr to part poll).length)) σ Q := by
  have b2 := hb 2 (by decide) (by decide)
  have b3 := hb 3 (by decide) (by decide)
  have hbs := hA.2.1
  have hlen := datL_len (l := G x) (x := x) (fr := fr) (to := to) (part := part) (poll := poll)
  have hPx := hP x h1 h2
  have hl240 := hPx.2.1
  unfold wpX6_takeBytes
  rintro _ rfl
  rw [hS.1 11 (by decide) (by decide) (by decide), nI_1]
  have hS1 := hS.put (k := 11) (x := v 11 + 1) (by decide)
  have hA1 : Air (up2 σ c 11 (nI (v 11 + 1))) a bs := hA.of (by rw [up2_o (by omega)]) (up2_o (by omega))
  refine at_ok hA1 (by omega) ?_
  rw [nI_1]
  refine at_ok hA1 (by omega) ?_
  have d0 := hD 0 (by omega)
  have d1 := hD 1 (by omega)
  rw [Nat.add_zero, datL_0] at d0
  rw [datL_1, b128] at d1
  rw [d0, d1, hS1.1 2 (by decide) (by decide) (by decide), vup_o (by decide), meant_ok (by split <;> simp) b2 (by omega) h2, if_pos h1]
  rintro _ rfl
  have e32 : nI (v 2) + 32 = nI (v 2 + 32) := nI_add (v 2) 32
  rw [e32]
  refine pk_lt x (v 2 + 32) (fun _ => ?_) (fun hh => by omega)
  unfold wpX6_pieceAt
  rw [a31 (by omega), nI_clamp (by omega)]
  refine ⟨vin rfl (by omega) (by decide), ?_⟩
  rintro _ rfl
  have hp1 : RpC (up2 σ c 11 (nI (v 11 + 1))) (c + 7 + 2 * (x % 32)) (G x) (pc x).1 (pc x).2 := hPx.of (by rw [up2_o (by omega)]) (by rw [up2_o (by omega)]) (up2_o (by omega))
  generalize eσ : up2 σ c 11 (nI (v 11 + 1)) = σ1 at *
  have hs1 : ∀ d, d ≠ c → σ1 d = σ d := fun d hd => by rw [← eσ, up2_o hd]
  clear eσ
  generalize ep : c + 7 + 2 * (x % 32) = p at *
  -- the end
  have L217 : ∀ (σ2 : Sg), RcS σ2 c (novV1 pc x fr to v) → RpC σ2 p (G x) ((pc x).1 || decide (to = (G x).length)) (orT (pc x).2 fr to) → (∀ d, d ≠ c → d ≠ p → d ≠ p + 1 → σ2 d = σ d) → wpX6_takeBytes_L217 Q c (nI x) σ2 := by
    intro σ2 k1 k2 k3
    unfold wpX6_takeBytes_L217
    have e3 : novV1 pc x fr to v 3 = v 3 := by
      unfold novV1
      split
      · rw [vup_o (by decide), vup_o (by decide)]
      · rw [vup_o (by decide)]
    rw [k1.1 3 (by decide) (by decide) (by decide), e3, nI_1, maxI (by omega) (by omega)]
    rintro _ rfl _ rfl
    refine h _ (k1.put (by decide)) (fun y y1 y2 => ?_) (fun d d1 d2 => ?_)
    · unfold pcu
      by_cases e : y = x
      · subst e
        rw [if_pos rfl, ep]
        exact k2.of (by rw [up2_o (by omega)]) (by rw [up2_o (by omega)]) (up2_o (by omega))
      · rw [if_neg e]
        have hne : y % 32 ≠ x % 32 := by omega
        have e0 : ∀ d, d = c + 7 + 2 * (y % 32) ∨ d = c + 7 + 2 * (y % 32) + 1 → up2 σ2 c 3 (nI (max (v 3) (x + 1))) d = σ d := fun d hd => by
          rw [up2_o (by omega), k3 d (by omega) (by omega) (by omega)]
        exact (hP y y1 y2).of (by rw [e0 _ (Or.inl rfl)]) (by rw [e0 _ (Or.inl rfl)]) (e0 _ (Or.inr rfl))
    · rw [up2_o d1, k3 d d1 (by omega) (by omega)]
  have L197 : ∀ (σ2 : Sg), RcS σ2 c (vup v 11 (v 11 + 1)) → RpC σ2 p (G x) ((pc x).1 || decide (to = (G x).length)) (orT (pc x).2 fr to) → (∀ d, d ≠ c → d ≠ p → d ≠ p + 1 → σ2 d = σ d) → wpX6_takeBytes_L197 Q c (nI x) p (nI (cnt (pc x).2 0 240)) σ2 := by
    intro σ2 k1 k2 k3
    unfold wpX6_takeBytes_L197
    have hc1 := cnt_le (f := (pc x).2) (a := 0) 240
    have hc2 := cnt_le (f := orT (pc x).2 fr to) (a := 0) 240
    rw [k2.2.2.1]
    refine ⟨fun hne => ?_, fun he => ?_⟩
    · refine L217 σ2 ?_ k2 k3
      unfold novV1
      rw [if_neg (fun hh => hne (by rw [hh]))]
      exact k1
    · have he := (nI_eq (by omega) (by omega)).mp he
      rintro _ rfl
      rw [k1.1 12 (by decide) (by decide) (by decide), vup_o (by decide), nI_1]
      refine L217 _ ?_ (k2.of (by rw [up2_o (by omega)]) (by rw [up2_o (by omega)]) (up2_o (by omega))) (fun d d1 d2 d3 => by rw [up2_o d1, k3 d d1 d2 d3])
      unfold novV1
      rw [if_pos he]
      exact k1.put (by decide)
  have L139 : wpX6_takeBytes_L139 Q c a (nI f0) (nI (f0 + (datL (G x) x fr to part poll).length)) (hdI part poll (gc (G x) fr).2.1 (lasF (G x) (to - 1)) (cnt (lasF (G x)) fr (to - 1 - fr))) (nI x) p (b01 part) (nI fr) (nI (2 + b2n part)) (nI f0) σ1 := by
    unfold wpX6_takeBytes_L139
    rintro _ rfl _ rfl
    rw [nI_add, hp1.2.2.1, hlen, show f0 + (2 + b2n part + cnt (lasF (G x)) fr (to - 1 - fr) + (to - fr)) = f0 + (2 + b2n part) + cnt (lasF (G x)) fr (to - 1 - fr) + (to - fr) by omega]
    refine takeCells_ok hw hto hft (by omega) hp1 hA1 (fun j hj => ?_) (fun k k1 k2 => ?_) (by omega) (fun σ2 g1 g2 g3 => ?_)
    · have := hD (2 + b2n part + j) (by omega)
      rw [datL_le hj] at this
      rw [← this]
      congr 1
      omega
    · have := hD (2 + b2n part + cnt (lasF (G x)) fr (to - 1 - fr) + (k - fr)) (by omega)
      rw [datL_by k1 k2] at this
      rw [← this]
      congr 1
      omega
    · have hS2 : RcS σ2 c (vup v 11 (v 11 + 1)) := hS1.of (g3 c (by omega) (by omega))
      have hA2 : Air σ2 a bs := hA1.of (by rw [g3 a (by omega) (by omega)]) (g3 (a + 1) (by omega) (by omega))
      have hd2 : ∀ d, d ≠ c → d ≠ p → d ≠ p + 1 → σ2 d = σ d := fun d d1 d2 d3 => by rw [g3 d d2 d3, hs1 d d1]
      have L184 : to = (G x).length → wpX6_takeBytes_L184 Q c (nI x) p (nI (cnt (pc x).2 0 240)) (nI to) σ2 := by
        intro et
        unfold wpX6_takeBytes_L184
        rw [if_neg (fun hh => by have := (nI_ltI (a := 240) (b := to) (by decide) (by omega)).mp hh; omega)]
        rintro _ rfl _ rfl
        refine L197 _ (hS2.of (up2_o (by omega))) ?_ (fun d d1 d2 d3 => by rw [up2_o d2, hd2 d d1 d2 d3])
        rw [decide_eq_true et, Bool.or_true, et]
        rw [et] at g1
        exact g1.size
      refine br01 (fun e => ?_) (fun e => ?_)
      · refine L184 ?_
        rw [e] at hpt
        have := of_decide_eq_false hpt.symm
        omega
      · rw [nI_1]
        refine at_ok hA2 (by omega) ?_
        rw [d1, nI_add]
        have hx : x % 64 + (if part = true ∧ to = (G x).length then 128 else 0) < 2 ^ 31 := by split <;> omega
        refine brbit (bitN (k := 7) hx (by decide) rfl) (fun e2 => ?_) (fun e2 => ?_)
        · have e2 := of_decide_eq_false e2
          have hne : ¬ to = (G x).length := fun hh => e2 (by rw [if_pos ⟨e, hh⟩]; omega)
          refine L197 σ2 hS2 ?_ hd2
          rw [decide_eq_false hne, Bool.or_false]
          exact g1
        · have e2 := of_decide_eq_true e2
          refine L184 ?_
          by_cases hh : to = (G x).length
          · exact hh
          · rw [if_neg (fun h9 => hh h9.2)] at e2
            omega
  refine brbit hdI_64 (fun e => ?_) (fun e => ?_)
  · rw [e] at L139 hpt ⊢
    unfold wpX6_takeBytes_L108
    refine brt rfl ?_
    unfold wpX6_takeBytes_L126
    refine brt rfl ?_
    have hfr : fr = 0 := by
      have := of_decide_eq_false hpt.symm
      omega
    subst hfr
    exact L139
  · rw [e] at L139 ⊢
    unfold wpX6_takeBytes_L108
    refine brf (by decide) ?_
    have d2 := hD 2 (by rw [e] at hlen ⊢; rw [hlen]; simp [b2n]; omega)
    rw [e, datL_2] at d2
    have ef : nI f0 + 2 = nI (f0 + 2) := nI_add f0 2
    rw [ef]
    refine at_ok hA1 (by omega) ?_
    rw [d2]
    unfold wpX6_takeBytes_L126
    refine brf (by decide) ?_
    exact L139
