/-! PURE: packets that wait; their bytes taken one by one -/
def xrL (f : Nat → Int32) : Nat → List Int32 → List Int32
  | _, [] => []
  | k, b :: bs => (b ^^^ f k) :: xrL f (k + 1) bs
theorem xrL_len {f : Nat → Int32} : ∀ (l : List Int32) (k : Nat), (xrL f k l).length = l.length
  | [], _ => rfl
  | b :: bs, k => by rw [xrL, List.length_cons, List.length_cons, xrL_len bs]
theorem xrL_get {f : Nat → Int32} : ∀ (l : List Int32) (k j : Nat), j < l.length → (xrL f k l).getD j 0 = l.getD j 0 ^^^ f (k + j)
  | [], _, _, h => by simp at h
  | b :: bs, k, 0, _ => rfl
  | b :: bs, k, j + 1, h => by
    rw [xrL, List.getD_cons_succ, List.getD_cons_succ, xrL_get bs (k + 1) j (by simpa using h), show k + 1 + j = k + (j + 1) by omega]
def pkU (ks : Nat → Nat → Int32) (c : Nat) (bs : List Int32) : List Int32 := nI (128 + c % 64) :: xrL (ks c) 0 bs
theorem pkU_len {ks : Nat → Nat → Int32} {c : Nat} {bs : List Int32} : (pkU ks c bs).length = bs.length + 1 := by rw [pkU, List.length_cons, xrL_len]
theorem pkU_get {ks : Nat → Nat → Int32} {c k : Nat} {bs : List Int32} (h : k < bs.length) : (pkU ks c bs).getD (k + 1) 0 = bs.getD k 0 ^^^ ks c k := by
  rw [pkU, List.getD_cons_succ, xrL_get bs 0 k h, Nat.zero_add]
/-- packets of units are what the units say -/
def ObK (ks : Nat → Nat → Int32) (un : Nat → Un) (w : Wt) : Prop := ∀ j, j < w.1.length → 0 < j ∨ w.2 = 0 → (wg w j).1 = 0 ∨ (wg w j).2 = pkU ks ((wg w j).1 - 1) (un ((wg w j).1 - 1)).1
def FrC (σ : Sg) (o : Nat) (p : Nat × List Int32) : Prop := σ o 11 = nI p.2.length ∧ ∀ k, k < p.2.length → σ (o + 6) k = p.2.getD k 0
/-- the keystream of one box -/
def ksS (key : Nat → Int32) (mk : Nat) (c k : Nat) : Int32 := ksb sbT key (nI c) (nI mk) (k / 16) (k % 16)
theorem neg1 {n : Nat} (h : n < 2 ^ 31) : ¬ nI n = -1 := by
  intro e
  have := nI_pos' (n := n) h
  rw [e] at this
  exact absurd this (by decide)
theorem wg_mem {w : Wt} {j : Nat} (h : j < w.1.length) : wg w j ∈ w.1 := by
  unfold wg
  rw [List.getD_eq_getElem?_getD, List.getElem?_eq_getElem h]
  exact List.getElem_mem h
theorem packetSize_ok {σ : Sg} {o mk nc j : Nat} {ks : Nat → Nat → Int32} {un : Nat → Un} {w : Wt} {Q : Int32 → Sg → Prop} (hC : ObC σ o mk nc un w) (hV : ObV nc un w) (hK : ObK ks un w) (hj : j < w.1.length) (hg : 0 < j ∨ w.2 = 0) (h : Q (nI (wg w j).2.length) σ) : wpX4_packetSize o (nI (wg w j).1 - 1) σ Q := by
  obtain ⟨c0, c7, c6, c5, cU, cW⟩ := hC
  obtain ⟨v1, v2, v3, v4, v5, v6, v7, v8, v9⟩ := hV
  obtain ⟨l1, l2, l3⟩ := lowK_spec (kpt un) nc
  have hm := wg_mem hj
  have hle := (v6 _ hm).2.2.1
  unfold wpX4_packetSize
  rcases Nat.eq_zero_or_pos (wg w j).1 with e | e
  · rw [e]
    refine brt' rfl ?_
    rw [(cW.2.2.2.2 _ hm e).1]
    exact h
  · obtain ⟨c, ec⟩ : ∃ c, (wg w j).1 = c + 1 := ⟨(wg w j).1 - 1, by omega⟩
    have hk : kpt un c = true := by
      rcases v9 j hj hg with h | h
      · omega
      · rw [ec] at h; exact h
    have hp : (wg w j).2 = pkU ks c (un c).1 := by
      rcases hK j hj hg with h | h
      · omega
      · rw [ec] at h; exact h
    have hcn : c < nc := by omega
    have hlc : lowK (kpt un) nc ≤ c := by
      rcases Nat.lt_or_ge c (lowK (kpt un) nc) with h | h
      · rw [l2 c h] at hk; cases hk
      · exact h
    rw [ec, nI_pred, a31 (by omega), nI_clamp (by omega)]
    refine brf' (neg1 (by omega)) ⟨vin rfl (by omega) (by decide), ?_⟩
    rw [((cU c hlc hcn).2 hk).1, nI_1]
    rw [hp, pkU_len] at h
    exact h
theorem mskI_get {tb key : Nat → Int32} {count mark : Int32} {n k : Nat} {p : Nat → Int32} (h1 : 1 ≤ k) (h2 : k < n) : mskI tb key count mark n n p k = p k ^^^ ksb tb key count mark ((k - 1) / 16) ((k - 1) % 16) := if_pos ⟨h1, h2, h2⟩
theorem openFront_ok {σ : Sg} {o cc mk nc : Nat} {un : Nat → Un} {w : Wt} {Q : Sg → Prop} (hC : ObC σ o mk nc un w) (hV : ObV nc un w) (hK : ObK (ksS (σ (cc + 1)) mk) un w) (hw : 0 < w.1.length) (hg : w.2 = 0) (hcc : cc + 4 ≤ o) (h : ∀ σ' : Sg, FrC σ' o (wg w 0) → (∀ k, k ≠ 11 → σ' o k = σ o k) → (∀ d, d ≠ o → d ≠ o + 6 → d ≠ cc + 2 → d ≠ cc + 3 → σ' d = σ d) → Q σ') : wpX4_openFront sbT o cc σ Q := by
  have hC0 := hC
  obtain ⟨c0, c7, c6, c5, cU, cW⟩ := hC
  have hV0 := hV
  obtain ⟨v1, v2, v3, v4, v5, v6, v7, v8, v9⟩ := hV
  obtain ⟨l1, l2, l3⟩ := lowK_spec (kpt un) nc
  have hm := wg_mem hw
  have hl := v6 _ hm
  unfold wpX4_openFront
  rintro _ rfl
  rw [cW.2.2.1 0 hw]
  refine packetSize_ok hC0 hV0 hK hw (Or.inr hg) ?_
  rintro _ rfl
  rcases Nat.eq_zero_or_pos (wg w 0).1 with e | e
  · rw [e]
    obtain ⟨r1, r2⟩ := cW.2.2.2.2 _ hm e
    refine brt' rfl ?_
    rw [up2_e, if_neg (by omega), r1, nI_clamp (by omega)]
    have hl7 : (wg w 0).2.length ≤ 8 := hl.2.2.2.1 e
    refine ⟨by decide, by decide, nI_pos (by omega), ?_, ?_, ?_⟩
    · show 0 + _ ≤ 8
      omega
    · show 0 + _ ≤ 121
      omega
    · rintro _ rfl
      refine h _ ⟨?_, fun k hk => ?_⟩ (fun k hk => ?_) (fun d d1 d2 d3 d4 => ?_)
      · rw [vu_o (by omega), up2_e, if_pos ⟨rfl, rfl⟩]
      · rw [vu_s, up2_o (by omega), show Int32.toNatClampNeg 0 = 0 from rfl, pk_cpy_in (Nat.zero_le k) (by omega)]
        show σ (o + 7) (0 + (k - 0)) = _
        rw [Nat.sub_zero, Nat.zero_add]
        exact r2 k hk
      · rw [vu_o (by omega), up2_e, if_neg (by omega)]
      · rw [vu_o d2, up2_o d1]
  · obtain ⟨c, ec⟩ : ∃ c, (wg w 0).1 = c + 1 := ⟨(wg w 0).1 - 1, by omega⟩
    have hk : kpt un c = true := by
      rcases v9 0 hw (Or.inr hg) with h | h
      · omega
      · rw [ec] at h; exact h
    have hp : (wg w 0).2 = pkU (ksS (σ (cc + 1)) mk) c (un c).1 := by
      rcases hK 0 hw (Or.inr hg) with h | h
      · omega
      · rw [ec] at h; exact h
    have hcn : c < nc := by omega
    have hlc : lowK (kpt un) nc ≤ c := by
      rcases Nat.lt_or_ge c (lowK (kpt un) nc) with h | h
      · rw [l2 c h] at hk; cases hk
      · exact h
    obtain ⟨u1, u2, u3⟩ := (cU c hlc hcn).2 hk
    have hub := v4 c hk
    have hlen : (wg w 0).2.length = (un c).1.length + 1 := by rw [hp, pkU_len]
    rw [ec, nI_pred]
    refine brf' (neg1 (by omega)) ?_
    rintro _ rfl _ rfl
    have e120 : nI (c % 32) * 120 = nI (c % 32 * 120) := pk_mul (c % 32) 120
    rw [a31 (by omega), a63 (by omega), nI_clamp (by omega), e120, nI_clamp (by omega)]
    refine ⟨vin rfl (by omega) (by decide), nI_pos (by omega), by decide, ?_⟩
    rw [up2_o (d := o + 2) (by omega), up2_o (d := o + 2) (by omega), u1, nI_clamp (by omega)]
    refine ⟨nI_pos (by omega), by omega, ?_, ?_⟩
    · show 1 + _ ≤ 121
      omega
    · rintro _ rfl
      have e11 : va_up (up2 (up2 σ o 11 (nI (wg w 0).2.length)) (o + 6) 0 (128 + nI (c % 64))) (o + 6) (va_cpy (up2 (up2 σ o 11 (nI (wg w 0).2.length)) (o + 6) 0 (128 + nI (c % 64)) (o + 1)) (up2 (up2 σ o 11 (nI (wg w 0).2.length)) (o + 6) 0 (128 + nI (c % 64)) (o + 6)) (c % 32 * 120) (Int32.toNatClampNeg 1) (un c).1.length) o 11 = nI (wg w 0).2.length := by
        rw [vu_o (by omega), up2_o (by omega), up2_e, if_pos ⟨rfl, rfl⟩]
      have e0 : va_up (up2 (up2 σ o 11 (nI (wg w 0).2.length)) (o + 6) 0 (128 + nI (c % 64))) (o + 6) (va_cpy (up2 (up2 σ o 11 (nI (wg w 0).2.length)) (o + 6) 0 (128 + nI (c % 64)) (o + 1)) (up2 (up2 σ o 11 (nI (wg w 0).2.length)) (o + 6) 0 (128 + nI (c % 64)) (o + 6)) (c % 32 * 120) (Int32.toNatClampNeg 1) (un c).1.length) o 0 = nI mk := by
        rw [vu_o (by omega), up2_o (by omega), up2_e, if_neg (by omega)]
        exact c0
      rw [e11, e0]
      refine mask_ok (by omega) (by omega) (by omega) (by omega) (fun σ' m1 m2 => ?_)
      rw [vu_s, vu_o (by omega), up2_o (by omega), up2_o (by omega), up2_o (d := o + 1) (by omega), up2_o (d := o + 1) (by omega)] at m1
      refine h σ' ⟨?_, fun k hk => ?_⟩ (fun k hk => ?_) (fun d d1 d2 d3 d4 => ?_)
      · rw [m2 o (by omega) (by omega) (by omega)]
        exact e11
      · have hp' : (wg w 0).2.getD k 0 = (pkU (ksS (σ (cc + 1)) mk) c (un c).1).getD k 0 := by rw [hp]
        rw [m1, hp']
        cases k with
        | zero =>
          show (if 1 ≤ 0 ∧ _ then _ else _) = _
          rw [if_neg (by omega), pk_cpy_out (Or.inl (by decide)), up2_e, if_pos ⟨rfl, rfl⟩]
          show 128 + nI (c % 64) = nI (128 + c % 64)
          exact nI_add 128 (c % 64)
        | succ k =>
          rw [mskI_get (by omega) hk, pk_cpy_in (by show 1 ≤ k + 1; omega) (by show k + 1 < 1 + _; omega), pkU_get (by omega)]
          show σ (o + 1) (c % 32 * 120 + (k + 1 - 1)) ^^^ _ = _
          rw [Nat.add_sub_cancel, Nat.mul_comm, u3 k (by omega)]
          rfl
      · rw [m2 o (by omega) (by omega) (by omega), vu_o (by omega), up2_o (by omega), up2_e, if_neg (by omega)]
      · rw [m2 d d2 d3 d4, vu_o d2, up2_o d2, up2_o d1]
theorem df1 {o n : Nat} {Q : Sg → Prop} {σ0 : Sg} (hn : n ≤ 32) (h1 : 1 ≤ n) (h9 : σ0 o 9 = nI n) (h : ∀ σ' : Sg, σ' o 9 = nI (n - 1) → σ' o 12 = 0 → (∀ k, k ≠ 9 → k ≠ 12 → σ' o k = σ0 o k) → (∀ j, j < n - 1 → σ' (o + 5) j = σ0 (o + 5) (j + 1)) → (∀ d, d ≠ o → d ≠ o + 5 → σ' d = σ0 d) → Q σ') : ∀ (m i : Nat) (σ : Sg), i + m = n → 1 ≤ i → (∀ j, j < i - 1 → σ (o + 5) j = σ0 (o + 5) (j + 1)) → (∀ j, i ≤ j → σ (o + 5) j = σ0 (o + 5) j) → (∀ d, d ≠ o + 5 → σ d = σ0 d) → wpX4_dropFront_L2 Q (m + 1) o (nI i) σ := by
  have hend : ∀ σ : Sg, (∀ j, j < n - 1 → σ (o + 5) j = σ0 (o + 5) (j + 1)) → (∀ d, d ≠ o + 5 → σ d = σ0 d) → wpX4_dropFront_L39 Q o σ := by
    intro σ g1 g2
    unfold wpX4_dropFront_L39
    have e9 : σ o 9 - 1 = nI (n - 1) := by
      rw [g2 o (by omega), h9]
      exact pk_sub (a := n) (b := 1) h1
    rw [e9, if_neg (nI_pos (by omega))]
    rintro _ rfl _ rfl _ rfl
    refine h _ ?_ ?_ (fun k k1 k2 => ?_) (fun j hj => ?_) (fun d d1 d2 => ?_)
    · rw [up2_e, if_neg (by omega), up2_e, if_pos ⟨rfl, rfl⟩]
    · rw [up2_e, if_pos ⟨rfl, rfl⟩]
    · rw [up2_e, if_neg (by omega), up2_e, if_neg (by omega), g2 o (by omega)]
    · rw [up2_o (by omega), up2_o (by omega)]; exact g1 j hj
    · rw [up2_o d1, up2_o d1]; exact g2 d d2
  intro m
  induction m with
  | zero =>
    intro i σ hi h1i g1 g2 g3
    unfold wpX4_dropFront_L2
    rw [g3 o (by omega), h9]
    exact brt (nI_le (by omega) (by omega)) (hend σ (fun j hj => g1 j (by omega)) g3)
  | succ m ih =>
    intro i σ hi h1i g1 g2 g3
    unfold wpX4_dropFront_L2
    rw [g3 o (by omega), h9]
    refine brf (nI_ge (by omega) (by omega)) (brf (nI_ge (by omega) (by decide)) ?_)
    have e1 : nI i - 1 = nI (i - 1) := pk_sub (a := i) (b := 1) h1i
    rw [e1]
    refine ⟨vin rfl (by omega) (by decide), vin rfl (by omega) (by decide), ?_⟩
    rintro _ rfl _ rfl
    rw [nI_clamp (by omega), nI_clamp (by omega), nI_1]
    refine ih (i + 1) _ (by omega) (by omega) (fun j hj => ?_) (fun j hj => ?_) (fun d hd => ?_)
    · rw [up2_e]
      by_cases e : j = i - 1
      · rw [if_pos ⟨rfl, e⟩, g2 i (Nat.le_refl _), e, show i - 1 + 1 = i by omega]
      · rw [if_neg (fun h => e h.2)]
        exact g1 j (by omega)
    · rw [up2_e, if_neg (by omega)]
      exact g2 j (by omega)
    · rw [up2_o hd]
      exact g3 d hd
theorem dropFront_ok {o n : Nat} {Q : Sg → Prop} {σ : Sg} (hn : n ≤ 32) (h1 : 1 ≤ n) (h9 : σ o 9 = nI n) (h : ∀ σ' : Sg, σ' o 9 = nI (n - 1) → σ' o 12 = 0 → (∀ k, k ≠ 9 → k ≠ 12 → σ' o k = σ o k) → (∀ j, j < n - 1 → σ' (o + 5) j = σ (o + 5) (j + 1)) → (∀ d, d ≠ o → d ≠ o + 5 → σ' d = σ d) → Q σ') : wpX4_dropFront o σ Q :=
  ⟨n - 1 + 1, df1 hn h1 h9 h (n - 1) 1 σ (by omega) (Nat.le_refl _) (fun j hj => by omega) (fun _ _ => rfl) (fun _ _ => rfl)⟩
/-- a cell of a packet -/
def celP (p : Nat × List Int32) (k : Nat) : Cel := (p.2.getD k 0, decide (k = 0), decide (k + 1 = p.2.length), p.1)
def pop (w : Wt) : Wt := match w.1 with
  | [] => w
  | p :: ps => if w.2 + 1 < p.2.length then (p :: ps, w.2 + 1) else (ps, 0)
theorem getD_mem {l : List Int32} {k : Nat} (h : k < l.length) : l.getD k 0 ∈ l := by
  rw [List.getD_eq_getElem?_getD, List.getElem?_eq_getElem h]
  exact List.getElem_mem h
theorem celP_ok {nc : Nat} {un : Nat → Un} {w : Wt} {p : Nat × List Int32} {k : Nat} (hV : ObV nc un w) (hp : p ∈ w.1) (hk : k < p.2.length) : celOK (celP p k) := by
  obtain ⟨v1, v2, v3, v4, v5, v6, v7, v8, v9⟩ := hV
  have := v6 p hp
  exact ⟨this.2.2.2.2.2 _ (getD_mem hk), by show p.1 < 2 ^ 18; omega⟩
theorem takeCell_ok {σ : Sg} {o mk nc : Nat} {un : Nat → Un} {w : Wt} {Q : Int32 → Sg → Prop} (hC : ObC σ o mk nc un w) (hV : ObV nc un w) (hw : 0 < w.1.length) (hF : FrC σ o (wg w 0)) (h : ∀ σ' : Sg, ObC σ' o mk nc un (pop w) → Fob o σ σ' → Q (cod (celP (wg w 0) w.2) false) σ') : wpX4_takeCell o σ Q := by
  obtain ⟨c0, c7, c6, c5, cU, cW⟩ := hC
  have hV0 := hV
  have hlen := hV.len
  obtain ⟨v1, v2, v3, v4, v5, v6, v7, v8, v9⟩ := hV
  obtain ⟨w1, g⟩ := w
  cases w1 with
  | nil => simp at hw
  | cons p ps =>
    have hw0 : wg (p :: ps, g) 0 = p := rfl
    rw [hw0] at hF h
    have hpm : p ∈ (p :: ps, g).1 := List.mem_cons_self ..
    have hp := v6 p hpm
    have hg : g < p.2.length := v7 p ps rfl
    have hok := celP_ok hV0 hpm hg
    have hb := (hp.2.2.2.2.2 _ (getD_mem hg)).cl
    have hids : σ (o + 5) 0 = nI p.1 - 1 := cW.2.2.1 0 hw
    have hgo : σ o 12 = nI g := cW.2.1
    have h9 : σ o 9 = nI (ps.length + 1) := cW.1
    unfold wpX4_takeCell
    rw [hgo, nI_clamp (by omega), hids, Int32.sub_add_cancel, hF.2 g hg]
    refine brf (nI_pos (by omega)) (brt (nI_lt (by omega) (by decide)) ⟨vin rfl (by omega) (by decide), ?_⟩)
    rintro _ rfl
    rw [pk_shlN _ 11 (by decide) (by omega)]
    have L58 : ∀ z0 : Int32, z0 = nI (256 * b2n (decide (g = 0))) → wpX4_takeCell_L58 Q o z0 (p.2.getD g 0 + nI (p.1 * 2 ^ 11)) σ := by
      intro z0 ez
      unfold wpX4_takeCell_L58
      rintro _ rfl _ rfl
      rw [up2_e, if_pos ⟨rfl, rfl⟩, up2_e, if_neg (by omega), hgo, hF.1, nI_1, ez]
      refine pk_lt (g + 1) p.2.length (fun hlt => ?_) (fun hge => ?_)
      · have ec : p.2.getD g 0 + nI (p.1 * 2 ^ 11) + nI (256 * b2n (decide (g = 0))) = cod (celP p g) false := by
          rw [← hb.2, nI_add, nI_add]
          unfold cod celP
          rw [show decide (g + 1 = p.2.length) = false by simp; omega]
          congr 1
          simp [b2n]
          omega
        rw [ec]
        have ep : pop (p :: ps, g) = (p :: ps, g + 1) := if_pos hlt
        rw [ep] at h
        refine h _ ⟨?_, ?_, ?_, ?_, fun c h1 h2 => ?_, ?_, ?_, ?_, ?_, ?_⟩ (fun d hd => up2_o (by omega))
        · rw [up2_e, if_neg (by omega)]; exact c0
        · rw [up2_e, if_neg (by omega)]; exact c7
        · rw [up2_e, if_neg (by omega)]; exact c6
        · rw [up2_e, if_neg (by omega)]; exact c5
        · rw [up2_o (by omega)]
          exact ⟨(cU c h1 h2).1, fun hk => ((cU c h1 h2).2 hk).of (up2_o (by omega)) (by rw [up2_o (by omega)]) (by rw [up2_o (by omega)])⟩
        · rw [up2_e, if_neg (by omega)]; exact cW.1
        · rw [up2_e, if_pos ⟨rfl, rfl⟩]
        · intro j hj
          rw [up2_o (by omega)]
          exact cW.2.2.1 j hj
        · intro _
          rw [up2_e, if_neg (by omega), up2_o (by omega)]
          exact hF
        · intro q hq hq0
          rw [up2_e, if_neg (by omega), up2_o (by omega)]
          exact cW.2.2.2.2 q hq hq0
      · have ec : p.2.getD g 0 + nI (p.1 * 2 ^ 11) + nI (256 * b2n (decide (g = 0))) + 512 = cod (celP p g) false := by
          rw [← hb.2, nI_add, nI_add, show (512 : Int32) = nI 512 from rfl, nI_add]
          unfold cod celP
          rw [show decide (g + 1 = p.2.length) = true by simp; omega]
          congr 1
          simp [b2n]
          omega
        rintro _ rfl
        rw [ec]
        have ep : pop (p :: ps, g) = (ps, 0) := if_neg (by omega)
        rw [ep] at h
        have h9' : (up2 σ o 12 (nI (g + 1))) o 9 = nI (ps.length + 1) := by rw [up2_e, if_neg (by omega)]; exact h9
        have hl5 : ps.length + 1 ≤ 25 := by simpa using hlen
        refine dropFront_ok (n := ps.length + 1) (by omega) (by omega) h9' (fun σ' g9 g12 gk gj gd => h σ' ⟨?_, ?_, ?_, ?_, fun c h1 h2 => ?_, ?_, ?_, ?_, ?_, ?_⟩ (fun d hd => ?_))
        · rw [gk 0 (by decide) (by decide), up2_e, if_neg (by omega)]; exact c0
        · rw [gk 7 (by decide) (by decide), up2_e, if_neg (by omega)]; exact c7
        · rw [gk 6 (by decide) (by decide), up2_e, if_neg (by omega)]; exact c6
        · rw [gk 5 (by decide) (by decide), up2_e, if_neg (by omega)]; exact c5
        · have od : ∀ d, d ≠ o → d ≠ o + 5 → σ' d = σ d := fun d d1 d2 => by rw [gd d d1 d2, up2_o d1]
          rw [od _ (by omega) (by omega)]
          exact ⟨(cU c h1 h2).1, fun hk => ((cU c h1 h2).2 hk).of (od _ (by omega) (by omega)) (by rw [od _ (by omega) (by omega)]) (by rw [od _ (by omega) (by omega)])⟩
        · rw [g9]
          rfl
        · exact g12
        · intro j hj
          have hj : j < ps.length := hj
          rw [gj j (by omega), up2_o (by omega)]
          exact cW.2.2.1 (j + 1) (by show j + 1 < ps.length + 1; omega)
        · intro hh
          exact absurd hh (by simp)
        · intro q hq hq0
          rw [gk 14 (by decide) (by decide), up2_e, if_neg (by omega), gd _ (by omega) (by omega), up2_o (by omega)]
          exact cW.2.2.2.2 q (List.mem_cons_of_mem _ hq) hq0
        · rw [gd d (by omega) (by omega), up2_o (by omega)]
    refine ⟨fun hne => L58 0 ?_, fun he => L58 256 ?_⟩
    · have : g ≠ 0 := fun e => hne (by rw [e]; rfl)
      rw [show decide (g = 0) = false by simpa using this]
      rfl
    · have : g = 0 := (nI_eq (by omega) (by decide)).mp he
      rw [show decide (g = 0) = true by simpa using this]
      rfl
