/-! PURE: send -/
theorem ksS_b {y ep : Int32} {mk c k : Nat} : isB (ksS (keyF y ep) mk c k) := by
  unfold ksS ksb
  refine (rds_bytes (fun j hj => ?_) (kF_b (fun k hk => sbT_b hk)) (fun k hk => sbT_b hk) 10 (Nat.le_refl _)).1 _ (Nat.mod_lt _ (by decide))
  unfold ctr upd ctI ctb rowf
  split
  · exact isB.and _
  · split
    · exact isB.and _
    · split
      · exact isB.and _
      · exact isB.z
theorem xrL_b {f : Nat → Int32} (hf : ∀ k, isB (f k)) : ∀ (l : List Int32) (k : Nat), (∀ x ∈ l, isB x) → ∀ x ∈ xrL f k l, isB x
  | [], _, _, x, h => by simp [xrL] at h
  | b :: bs, k, hb, x, h => by
    unfold xrL at h
    rcases List.mem_cons.mp h with e | e
    · rw [e]; exact (hb b List.mem_cons_self).xor (hf k)
    · exact xrL_b hf bs (k + 1) (fun z hz => hb z (List.mem_cons_of_mem _ hz)) x e
theorem pkU_b {ks : Nat → Nat → Int32} {c : Nat} {bs : List Int32} (hk : ∀ k, isB (ks c k)) (hb : ∀ x ∈ bs, isB x) : ∀ x ∈ pkU ks c bs, isB x := by
  intro x hx
  unfold pkU at hx
  rcases List.mem_cons.mp hx with e | e
  · rw [e]; exact ⟨128 + c % 64, by omega, rfl⟩
  · exact xrL_b hk bs 0 hb x e
/-- the reference: a unit's packet waits -/
def pkT (p : Nat × List Int32) (m : Nat) : List Cel := (List.range m).map (celP p)
theorem pkT_up {p : Nat × List Int32} {m : Nat} : pkT p (m + 1) = pkT p m ++ [celP p m] := by
  unfold pkT
  rw [List.range_succ, List.map_append]
  rfl
theorem pkT_len {p : Nat × List Int32} {m : Nat} : (pkT p m).length = m := by
  unfold pkT
  rw [List.length_map, List.length_range]
def LAu : List Nat := [18, 20, 21, 22, 23, 24, 68, 69, 70, 71]
theorem au57 {i c n : Nat} {bs : List Int32} {ks : Nat → Nat → Int32} {fl : List Cel} {Q : Sg → Prop} {τ0 : Sg} (hi : i < 6) (hc : c < 2 ^ 17) (hn : n = bs.length) (h1 : 1 ≤ n) (h2 : n ≤ 120) (hl : fl.length + n + 2 < 4400) (h19 : ∀ k, k < n → τ0 19 (120 * (32 * i + c % 32) + k) = bs.getD k 0) (h71 : ∀ k, k < n → τ0 71 k = ks c k) (h : ∀ τ' : Sg, WtM τ' i (fl ++ pkC (c + 1, pkU ks c bs)) → FrA LW i τ0 τ' → Q (up2 τ' 18 (32 * i + c % 32) (nI (n + 1)))) : ∀ (m k : Nat) (τ : Sg), k + m = n → WtM τ i (fl ++ pkT (c + 1, pkU ks c bs) (k + 1)) → FrA LW i τ0 τ → wpX9_awaitUnit_L57 Q (m + 1) (nI c) (nI i) (nI (32 * i + c % 32)) (nI n) (nI k) τ := by
  have hpl : (pkU ks c bs).length = n + 1 := by rw [pkU_len, hn]
  intro m
  induction m with
  | zero =>
    intro k τ hk hW hF
    unfold wpX9_awaitUnit_L57
    refine brt (nI_le (by omega) (by omega)) ⟨vin rfl (by omega) (by decide), ?_⟩
    rw [nI_1, nI_clamp (n := 32 * i + c % 32) (by omega)]
    rintro _ rfl
    refine h τ ?_ hF
    have e : pkC (c + 1, pkU ks c bs) = pkT (c + 1, pkU ks c bs) (k + 1) := by
      unfold pkC pkT
      rw [hpl, show k = n by omega]
    rw [e]
    exact hW
  | succ m ih =>
    intro k τ hk hW hF
    have hlt : k < bs.length := by omega
    have ecel : celP (c + 1, pkU ks c bs) (k + 1) = (bs.getD k 0 ^^^ ks c k, false, decide (k + 1 = n), c + 1) := by
      unfold celP
      show ((pkU ks c bs).getD (k + 1) 0, decide (k + 1 = 0), decide (k + 1 + 1 = (pkU ks c bs).length), c + 1) = _
      rw [pkU_get hlt, hpl, decide_eq_false (by omega)]
      congr 3
      exact decide_eq_decide.mpr (by omega)
    have L104 : ∀ z : Bool, z = decide (k + 1 = n) → wpX9_awaitUnit_L104 Q (wpX9_awaitUnit_L57 Q (m + 1)) (nI c) (nI i) (nI (32 * i + c % 32)) (nI n) (nI k) (b01 z) 0 (nI c) (bs.getD k 0 ^^^ ks c k) (nI i) τ := by
      intro z hz
      unfold wpX9_awaitUnit_L104
      have := await_ok (τ := τ) (i := i) (fl := fl ++ pkT (c + 1, pkU ks c bs) (k + 1)) (q := celP (c + 1, pkU ks c bs) (k + 1)) (Q := fun σ12 => ∀ x7_13 : Int32, x7_13 = nI k + 1 → wpX9_awaitUnit_L57 Q (m + 1) (nI c) (nI i) (nI (32 * i + c % 32)) (nI n) x7_13 σ12) hi hW (by rw [List.length_append, pkT_len]; omega) (fun τ1 g1 g2 => ?_)
      · rw [ecel] at this
        have this : wpX9_await (nI i) (bs.getD k 0 ^^^ ks c k) (nI (c + 1) - 1) (b01 false) (b01 (decide (k + 1 = n))) τ _ := this
        rw [nI_pred, ← hz] at this
        exact this
      · rw [nI_1]
        rintro _ rfl
        refine ih (k + 1) τ1 (by omega) ?_ (hF.tr g2)
        rw [List.append_assoc, ← pkT_up] at g1
        exact g1
    unfold wpX9_awaitUnit_L57
    rw [i120, nI_clamp (n := 120 * (32 * i + c % 32) + k) (by omega), nI_clamp (n := k) (by omega), nI_1, hF.1 19 (by decide), hF.1 71 (by decide), h19 k (by omega), h71 k (by omega)]
    refine brf (nI_ge (by omega) (by omega)) ⟨vin rfl (by omega) (by decide), vin rfl (by omega) (by decide), ?_⟩
    by_cases e : k + 1 = n
    · exact brt' (by rw [nI_1, e]) (L104 true (decide_eq_true e).symm)
    · exact brf' (fun hh => e ((nI_eq (by omega) (by omega)).mp (by rw [← nI_1]; exact hh))) (L104 false (decide_eq_false e).symm)
theorem awaitUnit_ok {τ : Sg} {p b i c : Nat} {y ep : Int32} {bs : List Int32} {fl : List Cel} {Q : Sg → Prop} (hp : p < 2) (hb : b < 3) (hip : i = 3 * p + b) (hK : KyM τ y ep) (hc : c < 2 ^ 17) (h16 : τ 16 (32 * i + c % 32) = nI bs.length) (h19 : ∀ k, k < bs.length → τ 19 (120 * (32 * i + c % 32) + k) = bs.getD k 0) (h1 : 1 ≤ bs.length) (h2 : bs.length ≤ 120) (hW : WtM τ i fl) (hl : fl.length + bs.length + 2 < 4400) (h : ∀ τ' : Sg, WtM τ' i (fl ++ pkC (c + 1, pkU (ksS (keyF y ep) (8 * b + 4 * p)) c bs)) → τ' 18 = upd (τ 18) (32 * i + c % 32) (nI (bs.length + 1)) → FrA LAu i τ τ' → Q τ') : wpX9_awaitUnit (nI p) (nI b) (nI c) τ Q := by
  have hi : i < 6 := by omega
  unfold wpX9_awaitUnit wpX9_at
  rw [atI, ← hip]
  dsimp only
  rw [a31 (by omega), i32]
  rintro _ rfl
  rw [nI_clamp (n := 32 * i + c % 32) (by omega), h16]
  refine ⟨vin rfl (by omega) (by decide), ?_⟩
  rintro _ rfl
  refine mstr_ok hK hp hb (by omega) (fun τ1 g1 g2 => ?_)
  have hW1 : WtM τ1 i fl := hW.of (fun d d1 d2 => g2 d (by omega) (by omega) (by omega) (by omega))
  have hF1 : FrA LAu i τ τ1 := ⟨fun d hd => g2 d (fun e => hd (by rw [e]; decide)) (fun e => hd (by rw [e]; decide)) (fun e => hd (by rw [e]; decide)) (fun e => hd (by rw [e]; decide)), fun d k d1 d2 => by rw [g2 d (by omega) (by omega) (by omega) (by omega)]⟩
  have e128 : (128 : Int32) + (nI c &&& 63) = nI (128 + c % 64) := by rw [a63 (by omega)]; exact nI_add 128 _
  have := await_ok (τ := τ1) (i := i) (fl := fl) (q := celP (c + 1, pkU (ksS (keyF y ep) (8 * b + 4 * p)) c bs) 0) (Q := fun σ6 => ∃ nn, wpX9_awaitUnit_L57 Q nn (nI c) (nI i) (nI (32 * i + c % 32)) (nI bs.length) 0 σ6) hi hW1 (by omega) (fun τ2 k1 k2 => ?_)
  · have ecel : celP (c + 1, pkU (ksS (keyF y ep) (8 * b + 4 * p)) c bs) 0 = (nI (128 + c % 64), true, false, c + 1) := by
      unfold celP
      show ((pkU (ksS (keyF y ep) (8 * b + 4 * p)) c bs).getD 0 0, decide (0 = 0), decide (0 + 1 = (pkU (ksS (keyF y ep) (8 * b + 4 * p)) c bs).length), c + 1) = _
      rw [pkU_len, decide_eq_true rfl, decide_eq_false (by omega)]
      rfl
    rw [ecel] at this
    have this : wpX9_await (nI i) (nI (128 + c % 64)) (nI (c + 1) - 1) (b01 true) (b01 false) τ1 _ := this
    rw [nI_pred] at this
    rw [e128]
    exact this
  · refine ⟨bs.length + 1, au57 (τ0 := τ2) (bs := bs) (ks := ksS (keyF y ep) (8 * b + 4 * p)) (fl := fl) hi hc rfl h1 h2 hl (fun k hk => ?_) (fun k hk => ?_) (fun τ3 q1 q2 => ?_) bs.length 0 τ2 (by omega) ?_ FrA.rf⟩
    · rw [k2.1 19 (by decide), g2 19 (by decide) (by decide) (by decide) (by decide)]
      exact h19 k hk
    · rw [k2.1 71 (by decide)]
      exact g1 k hk
    · have hF3 : FrA LAu i τ τ3 := (hF1.tr (k2.mono (by decide))).tr (q2.mono (by decide))
      refine h _ (q1.of (fun d d1 d2 => up2_o (by omega))) ?_ (hF3.up (by decide) (fun _ => ?_))
      · rw [up2_s, q2.1 18 (by decide), k2.1 18 (by decide), g2 18 (by decide) (by decide) (by decide) (by decide)]
      · show (32 * i + c % 32) / 32 = i
        omega
    · exact k1
/-- the middle of send -/
def sdS (ks : Nat → Nat → Int32) (bs : List Int32) (s : Smd) : Smd := (s.1, s.2.1, s.2.2.1, s.2.2.2.1 + 1, unN s.2.2.2.2.1 s.2.2.2.1 bs, (s.2.2.2.2.2.1 ++ [(s.2.2.2.1 + 1, pkU ks s.2.2.2.1 bs)], s.2.2.2.2.2.2))
theorem sdS_V {T : Nat} {ks : Nat → Nat → Int32} {bs : List Int32} {s : Smd} (h : SndV T s) (hn : s.2.2.2.1 + 1 < 2 ^ 17) (hlt : s.2.2.2.1 < lowK (kpt s.2.2.2.2.1) s.2.2.2.1 + 24) (h1 : 1 ≤ bs.length) (h2 : bs.length ≤ 120) (hb : ∀ x ∈ bs, isB x) (hk : ∀ c k, isB (ks c k)) : SndV T (sdS ks bs s) := by
  obtain ⟨k1, k2, k3, k4, k5, k6, k7⟩ := h
  refine ⟨k1, obV_new k2 hn hlt h1 h2 hb (pkU_b (hk _) hb), k3, k4, k5, fun x hx => chn_mono (Nat.le_succ _) _ _ (k6 x hx), ?_⟩
  show bgN (fldS s) (s.1 5) = frW (s.2.2.2.2.2.1 ++ [(s.2.2.2.1 + 1, pkU ks s.2.2.2.1 bs)], s.2.2.2.2.2.2)
  rw [frW_app (w := s.2.2.2.2.2) k2.2.2.2.2.2.2.2.1]
  exact k7
theorem rs90 {u i nc : Nat} {x1 x2 : Int32} {tp : List Int32} {Q : Int32 → Sg → Prop} {τ0 : Sg} (hu : u < 192) (htp : tp.length ≤ 120) (h10 : τ0 0 10 = nI tp.length) (h1 : ∀ k, k < tp.length → τ0 1 k = tp.getD k 0) (hi : i < 6) (h : ∀ τ' : Sg, (∀ k, k < tp.length → τ' 19 (120 * u + k) = tp.getD k 0) → (∀ j, j < 120 * u ∨ 120 * u + 120 ≤ j → τ' 19 j = τ0 19 j) → (∀ d, d ≠ 19 → τ' d = τ0 d) → ∀ σ14 : Sg, σ14 = up2 τ' 0 10 0 → (vp_in (nI i) 6 ∧ (vp_in (nI i) 6 ∧ ∀ σ16 : Sg, σ16 = up2 σ14 2 (nI i).toNatClampNeg ((σ14 2 (nI i).toNatClampNeg) + 1) → wpX9_awaitUnit x1 x2 (nI nc) σ16 (fun σ17 => Q (nI nc) σ17)))) : ∀ (m k : Nat) (τ : Sg), k + m = tp.length → (∀ j, j < k → τ 19 (120 * u + j) = tp.getD j 0) → (∀ j, j < 120 * u ∨ 120 * u + 120 ≤ j → τ 19 j = τ0 19 j) → (∀ d, d ≠ 19 → τ d = τ0 d) → wpX9_send_L90 Q (m + 1) x1 x2 (nI i) (nI nc) (nI u) (nI k) τ := by
  intro m
  induction m with
  | zero =>
    intro k τ hk g1 g2 g3
    unfold wpX9_send_L90
    rw [g3 0 (by decide), h10]
    exact brt (nI_le (by omega) (by omega)) (h τ (fun j hj => g1 j (by omega)) g2 g3)
  | succ m ih =>
    intro k τ hk g1 g2 g3
    unfold wpX9_send_L90
    rw [g3 0 (by decide), h10, i120, nI_clamp (n := 120 * u + k) (by omega), nI_clamp (n := k) (by omega), nI_1, g3 1 (by decide), h1 k (by omega)]
    refine brf (nI_ge (by omega) (by omega)) ⟨vin rfl (by omega) (by decide), vin rfl (by omega) (by decide), ?_⟩
    rintro _ rfl _ rfl
    refine ih (k + 1) _ (by omega) (fun j hj => ?_) (fun j hj => ?_) (fun d hd => by rw [up2_o hd, g3 d hd])
    · rw [up2_e]
      by_cases e : j = k
      · rw [if_pos ⟨rfl, by omega⟩, e]
      · rw [if_neg (by omega)]; exact g1 j (by omega)
    · rw [up2_e, if_neg (by omega)]; exact g2 j hj
/-- the reference's send, at a place -/
theorem rsend_ok {τ : Sg} {B p b i : Nat} {y ep : Int32} {tp : List Int32} {s : Smd} {Q : Int32 → Sg → Prop} (h0 : τ 0 0 = nI B) (hB3 : B ≤ 3) (hp : p < 2) (hb : b < B) (hi : i = 3 * p + b) (hK : KyM τ y ep) (h10 : τ 0 10 = nI tp.length) (h1 : ∀ k, k < tp.length → τ 1 k = tp.getD k 0) (htp : tp.length ≤ 120) (hS : SmM τ i s) (hV : ObV s.2.2.2.1 s.2.2.2.2.1 s.2.2.2.2.2) (hn : (tp.length = 0 ∨ lowK (kpt s.2.2.2.2.1) s.2.2.2.1 + 24 ≤ s.2.2.2.1) → Q (-1) τ) (hy : 1 ≤ tp.length → s.2.2.2.1 < lowK (kpt s.2.2.2.2.1) s.2.2.2.1 + 24 → ∀ τ' : Sg, SmM τ' i (sdS (ksS (keyF y ep) (8 * b + 4 * p)) tp s) → (∀ c k, 2 ≤ c → c ≤ 59 → k / wid c ≠ i → τ' c k = τ c k) → (∀ d, d = 1 ∨ d = 14 ∨ (33 ≤ d ∧ d ≤ 67) → τ' d = τ d) → (∀ j, τ' 0 j = if j = 10 then 0 else τ 0 j) → Q (nI s.2.2.2.1) τ') : wpX9_send (nI p) (nI b) τ Q := by
  have hi6 : i < 6 := by omega
  have hnc := hV.1
  obtain ⟨m1, m2, ⟨k1, k2, k3, k4⟩, m4⟩ := hS
  unfold wpX9_send
  refine isThere_yes h0 hB3 hp hb (brf (by decide) ?_)
  rw [h10]
  refine ⟨fun hz => ?_, fun hz => hn (Or.inl ((nI_eq (b := 0) (by omega) (by decide)).mp hz))⟩
  have hz : ¬ tp.length = 0 := fun hh => hz (by rw [hh]; rfl)
  unfold wpX9_at
  rw [atI, ← hi]
  dsimp only
  rw [nI_clamp (n := i) (by omega), k1]
  refine ⟨vin rfl hi6 (by decide), ?_⟩
  rintro _ rfl
  refine lowest_ok hi6 ⟨k1, k2, k3, k4⟩ (by omega) hV.2.1 ?_
  have e24 : nI (lowK (kpt s.2.2.2.2.1) s.2.2.2.1) + 24 = nI (lowK (kpt s.2.2.2.2.1) s.2.2.2.1 + 24) := nI_add _ 24
  have hlk := (lowK_spec (kpt s.2.2.2.2.1) s.2.2.2.1).1
  rw [e24, a31 (by omega), i32]
  refine pk_lt s.2.2.2.1 (lowK (kpt s.2.2.2.2.1) s.2.2.2.1 + 24) (fun hlt => ?_) (fun hge => hn (Or.inr hge))
  rintro _ rfl
  rw [nI_clamp (n := 32 * i + s.2.2.2.1 % 32) (by omega)]
  refine ⟨vin rfl (by omega) (by decide), ?_⟩
  rintro _ rfl
  refine ⟨vin rfl (by omega) (by decide), ?_⟩
  rintro _ rfl
  refine ⟨vin rfl (by omega) (by decide), ?_⟩
  rintro _ rfl
  rw [up2_o (d := 0) (by decide), up2_o (d := 0) (by decide), h10]
  obtain ⟨u, eu⟩ : ∃ u, u = 32 * i + s.2.2.2.1 % 32 := ⟨_, rfl⟩
  rw [← eu]
  have z15 : ∀ j, up2 (up2 (up2 τ 15 u 1) 17 u (nI s.2.2.2.1)) 16 u (nI tp.length) 15 j = if j = u then 1 else τ 15 j := fun j => by
    rw [up2_o (by decide), up2_o (by decide), up2_e]
    by_cases e : j = u
    · rw [if_pos ⟨rfl, e⟩, if_pos e]
    · rw [if_neg (fun hh => e hh.2), if_neg e]
  have z17 : ∀ j, up2 (up2 (up2 τ 15 u 1) 17 u (nI s.2.2.2.1)) 16 u (nI tp.length) 17 j = if j = u then nI s.2.2.2.1 else τ 17 j := fun j => by
    rw [up2_o (by decide), up2_e]
    by_cases e : j = u
    · rw [if_pos ⟨rfl, e⟩, if_pos e]
    · rw [if_neg (fun hh => e hh.2), if_neg e, up2_o (by decide)]
  have z16 : ∀ j, up2 (up2 (up2 τ 15 u 1) 17 u (nI s.2.2.2.1)) 16 u (nI tp.length) 16 j = if j = u then nI tp.length else τ 16 j := fun j => by
    rw [up2_e]
    by_cases e : j = u
    · rw [if_pos ⟨rfl, e⟩, if_pos e]
    · rw [if_neg (fun hh => e hh.2), if_neg e, up2_o (by decide), up2_o (by decide)]
  have zo : ∀ d, d ≠ 15 → d ≠ 16 → d ≠ 17 → up2 (up2 (up2 τ 15 u 1) 17 u (nI s.2.2.2.1)) 16 u (nI tp.length) d = τ d := fun d d1 d2 d3 => by rw [up2_o d2, up2_o d3, up2_o d1]
  generalize up2 (up2 (up2 τ 15 u 1) 17 u (nI s.2.2.2.1)) 16 u (nI tp.length) = τ1 at *
  refine ⟨tp.length + 1, rs90 (τ0 := τ1) (u := u) (i := i) (nc := s.2.2.2.1) (tp := tp) (by omega) htp (by rw [zo 0 (by decide) (by decide) (by decide)]; exact h10) (fun k hk => by rw [zo 1 (by decide) (by decide) (by decide)]; exact h1 k hk) hi6 (fun τ2 g1 g2 g3 => ?_) tp.length 0 τ1 (by omega) (fun j hj => by omega) (fun _ _ => rfl) (fun _ _ => rfl)⟩
  rintro _ rfl
  refine ⟨vin rfl hi6 (by decide), vin rfl hi6 (by decide), ?_⟩
  rw [nI_clamp (n := i) (by omega), up2_o (d := 2) (by decide), g3 2 (by decide), zo 2 (by decide) (by decide) (by decide), k1, nI_1]
  rintro _ rfl
  -- all changes so far
  have y0 : ∀ j, up2 (up2 τ2 0 10 0) 2 i (nI (s.2.2.2.1 + 1)) 0 j = if j = 10 then 0 else τ 0 j := fun j => by
    rw [up2_o (by decide), up2_e]
    by_cases e : j = 10
    · rw [if_pos ⟨rfl, e⟩, if_pos e]
    · rw [if_neg (fun hh => e hh.2), if_neg e, g3 0 (by decide), zo 0 (by decide) (by decide) (by decide)]
  have y2 : ∀ j, up2 (up2 τ2 0 10 0) 2 i (nI (s.2.2.2.1 + 1)) 2 j = if j = i then nI (s.2.2.2.1 + 1) else τ 2 j := fun j => by
    rw [up2_e]
    by_cases e : j = i
    · rw [if_pos ⟨rfl, e⟩, if_pos e]
    · rw [if_neg (fun hh => e hh.2), if_neg e, up2_o (by decide), g3 2 (by decide), zo 2 (by decide) (by decide) (by decide)]
  have yr : ∀ d, d ≠ 0 → d ≠ 2 → up2 (up2 τ2 0 10 0) 2 i (nI (s.2.2.2.1 + 1)) d = τ2 d := fun d d0 d2 => by rw [up2_o d2, up2_o d0]
  generalize up2 (up2 τ2 0 10 0) 2 i (nI (s.2.2.2.1 + 1)) = τ3 at *
  have yo : ∀ d, d ≠ 0 → d ≠ 2 → d ≠ 15 → d ≠ 16 → d ≠ 17 → d ≠ 19 → τ3 d = τ d := fun d d0 d2 d3 d4 d5 d6 => by rw [yr d d0 d2, g3 d d6, zo d d3 d4 d5]
  have hW3 : WtM τ3 i (fltW s.2.2.2.2.2) := m4.of (fun d d1 d2 => yo d (by omega) (by omega) (by omega) (by omega) (by omega) (by omega))
  have hfl := fltW_lt hV
  have hK3 : KyM τ3 y ep := ⟨fun k hk => by rw [yo 67 (by decide) (by decide) (by decide) (by decide) (by decide) (by decide)]; exact hK.1 k hk, by rw [y0 1, if_neg (by decide)]; exact hK.2.1, by rw [y0 3, if_neg (by decide)]; exact hK.2.2⟩
  refine awaitUnit_ok (bs := tp) (fl := fltW s.2.2.2.2.2) hp (by omega) hi hK3 hnc ?_ (fun k hk => ?_) (by omega) htp hW3 (by omega) (fun τ4 q1 q2 q3 => ?_)
  · rw [yr 16 (by decide) (by decide), g3 16 (by decide), ← eu, z16 u, if_pos rfl]
  · rw [yr 19 (by decide) (by decide), ← eu, g1 k hk]
  · have e4 : ∀ d, d ∉ LAu → τ4 d = τ3 d := fun d hd => q3.1 d hd
    refine hy (by omega) hlt τ4 ⟨m1.of (fun d d1 d2 => ?_), m2.of (fun d hd => ?_), ?_, ?_⟩ ?_ (fun d hd => ?_) (fun j => ?_)
    · rw [e4 d (by unfold LAu; simp only [List.mem_cons, List.not_mem_nil, or_false]; omega), yo d (by omega) (by omega) (by omega) (by omega) (by omega) (by omega)]
    · rw [e4 d (by unfold LAu; simp only [List.mem_cons, List.not_mem_nil, or_false]; omega), yo d (by omega) (by omega) (by omega) (by omega) (by omega) (by omega)]
    · -- the units
      have x15 : ∀ j, τ4 15 j = if j = u then 1 else τ 15 j := fun j => by rw [e4 15 (by decide), yr 15 (by decide) (by decide), g3 15 (by decide), z15 j]
      have x16 : ∀ j, τ4 16 j = if j = u then nI tp.length else τ 16 j := fun j => by rw [e4 16 (by decide), yr 16 (by decide) (by decide), g3 16 (by decide), z16 j]
      have x17 : ∀ j, τ4 17 j = if j = u then nI s.2.2.2.1 else τ 17 j := fun j => by rw [e4 17 (by decide), yr 17 (by decide) (by decide), g3 17 (by decide), z17 j]
      have x18 : ∀ j, τ4 18 j = if j = u then nI (tp.length + 1) else τ 18 j := fun j => by
        rw [q2, yo 18 (by decide) (by decide) (by decide) (by decide) (by decide) (by decide)]
        unfold upd
        rw [← eu]
      have hneu : ∀ c, c < s.2.2.2.1 → s.2.2.2.1 + 1 ≤ c + 32 → 32 * i + c % 32 ≠ u := fun c c1 c2 => by omega
      refine ⟨?_, fun c c1 c2 => ?_, fun j j1 j2 => ?_, fun c c1 c2 c3 => ?_⟩
      · rw [e4 2 (by decide), y2 i, if_pos rfl]
        rfl
      · show τ4 15 (32 * i + c % 32) = b01 (kpt (unN s.2.2.2.2.1 s.2.2.2.1 tp) c)
        have c1 : c < s.2.2.2.1 + 1 := c1
        have c2 : s.2.2.2.1 + 1 ≤ c + 32 := c2
        rw [x15, kpt_unN]
        by_cases e : c = s.2.2.2.1
        · rw [e, if_pos eu.symm, bup_s]
          rfl
        · rw [if_neg (hneu c (by omega) c2), bup_o e]
          exact k2 c (by omega) (by omega)
      · have j2 : s.2.2.2.1 + 1 ≤ j := j2
        rw [x15, if_neg (by omega)]
        exact k3 j j1 (by omega)
      · have c1 : c < s.2.2.2.1 + 1 := c1
        have c2 : s.2.2.2.1 + 1 ≤ c + 32 := c2
        have c3 : kpt (unN s.2.2.2.2.1 s.2.2.2.1 tp) c = true := c3
        rw [x16, x17, x18]
        show _ = nI (unN s.2.2.2.2.1 s.2.2.2.1 tp c).1.length ∧ _ ∧ _ = (unN s.2.2.2.2.1 s.2.2.2.1 tp c).2.1 ∧ ∀ k, k < (unN s.2.2.2.2.1 s.2.2.2.1 tp c).1.length → τ4 19 _ = (unN s.2.2.2.2.1 s.2.2.2.1 tp c).1.getD k 0
        by_cases e : c = s.2.2.2.1
        · have en : unN s.2.2.2.2.1 s.2.2.2.1 tp c = (tp, nI (tp.length + 1), true) := by unfold unN; rw [if_pos e]
          rw [en, e, ← eu, if_pos rfl, if_pos rfl, if_pos rfl]
          refine ⟨rfl, rfl, rfl, fun k hk => ?_⟩
          rw [e4 19 (by decide), yr 19 (by decide) (by decide)]
          exact g1 k hk
        · have en : unN s.2.2.2.2.1 s.2.2.2.1 tp c = s.2.2.2.2.1 c := by unfold unN; rw [if_neg e]
          rw [kpt_unN, bup_o e] at c3
          have hne := hneu c (by omega) c2
          rw [en, if_neg hne, if_neg hne, if_neg hne]
          obtain ⟨r1, r2, r3, r4⟩ := k4 c (by omega) (by omega) c3
          refine ⟨r1, r2, r3, fun k hk => ?_⟩
          have hl120 := (hV.2.2.2.1 c c3).2.1
          rw [e4 19 (by decide), yr 19 (by decide) (by decide), g2 _ (by omega), zo 19 (by decide) (by decide) (by decide)]
          exact r4 k hk
    · show WtM τ4 i (fltW (s.2.2.2.2.2.1 ++ [(s.2.2.2.1 + 1, pkU _ s.2.2.2.1 tp)], s.2.2.2.2.2.2))
      rw [fltW_app hV.gone]
      exact q1
    · intro d k d0 d1 d2
      by_cases hd : d ∈ LAu
      · rw [q3.2 d k d1 d2]
        have hdd : d = 18 ∨ d = 20 ∨ d = 21 ∨ d = 22 ∨ d = 23 ∨ d = 24 := by
          unfold LAu at hd
          simp only [List.mem_cons, List.not_mem_nil, or_false] at hd
          omega
        rw [yo d (by omega) (by omega) (by omega) (by omega) (by omega) (by omega)]
      · rw [e4 d hd]
        have e0 : d ≠ 0 := by omega
        by_cases e2 : d = 2
        · subst e2
          rw [y2 k, if_neg (fun hh => d2 (by show k / 1 = i; rw [Nat.div_one]; exact hh))]
        · rw [yr d e0 e2]
          by_cases e19 : d = 19
          · subst e19
            have : k / 3840 ≠ i := d2
            rw [g2 k (by omega), zo 19 (by decide) (by decide) (by decide)]
          · rw [g3 d e19]
            by_cases e15 : d = 15
            · subst e15
              have : k / 32 ≠ i := d2
              rw [z15 k, if_neg (by omega)]
            · by_cases e16 : d = 16
              · subst e16
                have : k / 32 ≠ i := d2
                rw [z16 k, if_neg (by omega)]
              · by_cases e17 : d = 17
                · subst e17
                  have : k / 32 ≠ i := d2
                  rw [z17 k, if_neg (by omega)]
                · rw [zo d e15 e16 e17]
    · rw [e4 d (by unfold LAu; simp only [List.mem_cons, List.not_mem_nil, or_false]; omega), yo d (by omega) (by omega) (by omega) (by omega) (by omega) (by omega)]
    · rw [e4 0 (by decide), y0 j]
theorem LkM.put2 {τ τ' : Sg} {B pl : Nat} {hs : Nat → Smd} {hr : Nat → Rmd} {s : Smd} {r : Rmd} (h : LkM τ B hs hr) (hB : B ≤ 3) (hpl : pl < 2 * B) (hO : OkA B hs hr) (hg : Grw (fldS (hs pl)) (fldS s) (hr (opp B pl)).2.1) (h1 : SmM τ' (iOf B pl) s) (h2 : RmM τ' (iOf B pl) (fldS (hs (opp B pl))) r) (hF : ∀ c k, 2 ≤ c → c ≤ 59 → k / wid c ≠ iOf B pl → τ' c k = τ c k) : LkM τ' B (fup hs pl s) (fup hr pl r) := by
  have hl : LkM (fun d => if d ≤ 1 then τ' d else τ d) B hs hr := h.of (fun c c1 c2 _ => by
    show (if c ≤ 1 then τ' c else τ c) = _
    rw [if_neg (by omega)])
  refine hl.put hB hpl hO hg h1 h2 (fun c k c1 c2 => ?_)
  show τ' c k = (if c ≤ 1 then τ' c else τ c) k
  by_cases e : c ≤ 1
  · rw [if_pos e]
  · rw [if_neg e]
    exact hF c k (by omega) c1 c2
theorem st_send : St_send Rel := by
  intro n P σ τ a b hn hR
  have hup := Rel_up hR
  obtain ⟨B, y, tk, tp, M, hB1, hB3, hP, hC, hM, hI, htp, htb⟩ := hR
  have h0 := hC.1
  have t0 := hM.1.1
  obtain ⟨a1, a2, a3, a4, a5, ⟨a6, a7⟩, a8, a9, a10⟩ := hC
  obtain ⟨⟨b1, b2, b3, b4, ⟨b5, b6⟩, b7⟩, b8, b9, b10⟩ := hM
  unfold wpX8_send
  refine isPlace_ok h0 hB3 (fun hnp => brt rfl ?_) (fun p q hp hq ep eq => brf (by decide) ?_)
  · unfold wpX9_send
    exact isThere_no t0 hnp (brt rfl ⟨rfl, hup⟩)
  · subst ep eq
    have hpl := pl_lt hp hq
    obtain ⟨o1, o2, o3⟩ := opp_lt hpl
    have ei : iOf B (p * B + q) = 3 * p + q := iOf_pb hp hq
    obtain ⟨c1, c2⟩ := a8 _ hpl
    obtain ⟨m1, m2⟩ := b7 _ hpl
    rw [ei] at m1 m2
    obtain ⟨k1, k2, k3⟩ := hI.1.1 _ hpl
    obtain ⟨z1, z2, z3, z4, z5⟩ := hI.1.2.1 _ hpl
    have hmk : mkN B (p * B + q) = 8 * q + 4 * p := mkN_pb hp hq
    rw [a6]
    -- refused by the reference
    have no : (tp.length = 0 ∨ lowK (kpt (M.1 (p * B + q)).2.2.2.2.1) (M.1 (p * B + q)).2.2.2.1 + 24 ≤ (M.1 (p * B + q)).2.2.2.1) → wpX9_send (nI p) (nI q) τ (fun r τ1 => -1 = r ∧ Rel (n + 1) P σ τ1) := by
      intro hh
      refine rsend_ok t0 hB3 hp hq rfl b2 b5 b6 htp m1 k1.2.1 (fun _ => ⟨rfl, hup⟩) (fun h1 h2 => ?_)
      omega
    refine ⟨fun hz => ?_, fun hz => no (Or.inl ((nI_eq (b := 0) (by omega) (by decide)).mp hz))⟩
    have hz : ¬ tp.length = 0 := fun hh => hz (by rw [hh]; rfl)
    unfold wpX8_placeOf
    rw [plI h0]
    refine ⟨vin rfl (by omega) (by omega), ?_⟩
    rw [nI_clamp (n := p * B + q) (by omega), a6]
    rintro _ rfl
    have hVn := k1.2.1.1
    refine takeUnit_ok (pk := pkU (ksS (keyF y (M.2.2.2.2 10)) (8 * q + 4 * p)) (M.1 (p * B + q)).2.2.2.1 tp) c1.2.2 k1.2.1 (by omega) htp a7 ?_
    by_cases hlow : lowK (kpt (M.1 (p * B + q)).2.2.2.2.1) (M.1 (p * B + q)).2.2.2.1 + 24 ≤ (M.1 (p * B + q)).2.2.2.1
    · rw [if_pos hlow]
      exact brt rfl (no (Or.inr hlow))
    · rw [if_neg hlow]
      intro σ1 g1 g2
      refine brf (neg1 (by omega)) ?_
      rintro _ rfl
      refine rsend_ok t0 hB3 hp hq rfl b2 b5 b6 htp m1 k1.2.1 (fun hh => by omega) (fun _ hlt τ1 q1 q2 q3 q4 => ⟨rfl, ?_⟩)
      -- the middle
      obtain ⟨s', es⟩ : ∃ s', s' = sdS (ksS (keyF y (M.2.2.2.2 10)) (8 * q + 4 * p)) tp (M.1 (p * B + q)) := ⟨_, rfl⟩
      rw [← es] at q1
      have hsV : SndV (4000 * n) s' := by rw [es]; exact sdS_V k1 (by omega) hlt (by omega) htp htb (fun _ _ => ksS_b)
      have hsf : fldS s' = fldS (M.1 (p * B + q)) := by rw [es]; rfl
      have hs1 : s'.1 = (M.1 (p * B + q)).1 := by rw [es]; rfl
      have hs3 : s'.2.2.1 = (M.1 (p * B + q)).2.2.1 := by rw [es]; rfl
      have hs2 : s'.2.1 = (M.1 (p * B + q)).2.1 := by rw [es]; rfl
      have hsn : s'.2.2.2.1 = (M.1 (p * B + q)).2.2.2.1 + 1 := by rw [es]; rfl
      have hK' : ObK (ksS (keyF y (M.2.2.2.2 10)) (mkN B (p * B + q))) s'.2.2.2.2.1 s'.2.2.2.2.2 := by
        rw [es, hmk]
        rw [hmk] at k2
        exact obK_new k1.2.1 k2
      have hj := (hI.1.1 _ o1).2.2
      rw [o3] at hj
      obtain ⟨w1, w2⟩ := hI.1.1.put (s' := s') (r' := M.2.1 (p * B + q)) (Nat.le_refl _) hpl hsV hK' (k3.s (by rw [hs1]) (by rw [hs1]) hsf (fun x hx => by rw [hs3] at hx; exact hx)) hj ⟨by rw [hs1]; exact Nat.le_refl _, by rw [hs1]; exact Nat.le_refl _, fun x _ => by rw [hsf]⟩ hsf AdvR.rf
      have er : fup M.2.1 (p * B + q) (M.2.1 (p * B + q)) = M.2.1 := by
        funext j
        unfold fup
        split
        · next e => rw [e]
        · rfl
      rw [er] at w1 w2
      have hrate : ∀ pl, (fup M.1 (p * B + q) s' pl).1 2 = (M.1 pl).1 2 := fun pl => by
        by_cases e : pl = p * B + q
        · rw [e, fup_s, hs1]
        · rw [fup_o e]
      have hInv : InvH (n + 1) B tk (keyF y (M.2.2.2.2 10)) (fup M.1 (p * B + q) s', M.2.1, M.2.2) := by
        refine ⟨⟨w1.mono (by omega), fun pl hpl2 => ?_, fun j hj => (hI.1.2.2 j hj).ad0 (by omega) w2⟩, by have := hI.2.1; omega, fun b hb => ?_, hI.2.2.2⟩
        · show BkV _ _ (fup M.1 (p * B + q) s' pl)
          by_cases e : pl = p * B + q
          · rw [e, fup_s]
            exact ⟨by rw [hs1]; omega, by omega, by rw [hs2]; omega, by rw [hs2]; exact z4, by rw [hs1]; exact z5⟩
          · rw [fup_o e]
            exact (hI.1.2.1 pl hpl2).mono (by omega) (by omega)
        · show (fup M.1 (p * B + q) s' (B + b)).1 2 = (fup M.1 (p * B + q) s' b).1 2
          rw [hrate, hrate]
          exact hI.2.2.1 b hb
      have f0 : ∀ d, d < 11 + 113 * (p * B + q) ∨ 19 + 113 * (p * B + q) ≤ d → σ1 d = σ d := fun d hd => g2 d (by omega)
      have e0 : ∀ j, up2 σ1 0 3 0 0 j = if j = 3 then 0 else σ 0 j := fun j => by
        rw [up2_e]
        by_cases e : j = 3
        · rw [if_pos ⟨rfl, e⟩, if_pos e]
        · rw [if_neg (fun hh => e hh.2), if_neg e, f0 0 (by omega)]
      have eo : ∀ d, d ≠ 0 → (d < 11 + 113 * (p * B + q) ∨ 19 + 113 * (p * B + q) ≤ d) → up2 σ1 0 3 0 d = σ d := fun d d0 hd => by rw [up2_o d0, f0 d hd]
      have hcl : LkC (up2 σ1 0 3 0) B (fup M.1 (p * B + q) s') M.2.1 := by
        have hput := a8.put (σ' := up2 σ1 0 3 0) (s := s') (r := M.2.1 (p * B + q)) hpl hsf ⟨?_, ?_, ?_⟩ (c2.of (fun d d1 d2 => eo d (by omega) (by omega))) (fun d d1 d2 d3 => eo d (by omega) (by omega))
        · rw [er] at hput
          exact hput
        · rw [hs1, hs2]
          exact c1.1.of (eo _ (by omega) (by omega))
        · rw [hs1, hs3]
          exact c1.2.1.of (fun d d1 d2 => eo d (by omega) (by omega))
        · rw [es, hmk]
          rw [hmk] at g1
          exact g1.of (fun d d1 d2 => up2_o (by omega))
      have hml : LkM τ1 B (fup M.1 (p * B + q) s') M.2.1 := by
        have hput := b7.put2 (τ' := τ1) (s := s') (r := M.2.1 (p * B + q)) hB3 hpl hI.1.1.ok (by rw [hsf]; exact Grw.rf) (by rw [ei]; exact q1) (by rw [ei]; exact m2.of (fun c c1 c2 => q3 c (by omega))) (by rw [ei]; exact q2)
        rw [er] at hput
        exact hput
      refine ⟨B, y, tk, [], (fup M.1 (p * B + q) s', M.2.1, M.2.2), hB1, hB3, hP, ⟨by rw [e0 0, if_neg (by decide)]; exact a1, by rw [e0 1, if_neg (by decide)]; exact a2, by rw [e0 9, if_neg (by decide)]; exact a3, fun k k1 k2 => by rw [e0 k, if_neg (by omega)]; exact a4 k k1 k2, fun k hk => by rw [eo 4 (by decide) (by omega)]; exact a5 k hk, ⟨by rw [e0 3, if_pos rfl]; rfl, fun k hk => absurd hk (Nat.not_lt_zero k)⟩, hcl, fun i hi => (a9 i hi).of (eo _ (by omega) (by omega)) (eo _ (by omega) (by omega)) (eo _ (by omega) (by omega)), fun p hp => by rw [eo 2 (by decide) (by omega)]; exact a10 p hp⟩, ⟨⟨by rw [q4 0, if_neg (by decide)]; exact b1, ⟨fun k hk => by rw [q3 67 (by omega)]; exact b2.1 k hk, by rw [q4 1, if_neg (by decide)]; exact b2.2.1, by rw [q4 3, if_neg (by decide)]; exact b2.2.2⟩, by rw [q4 2, if_neg (by decide)]; exact b3, fun k k1 k2 => by rw [q4 k, if_neg (by omega)]; exact b4 k k1 k2, ⟨by rw [q4 10, if_pos rfl]; rfl, fun k hk => absurd hk (Nat.not_lt_zero k)⟩, hml⟩, fun i hi => (b8 i hi).of (fun d d1 d2 => q3 d (by omega)), fun p hp => ⟨by rw [q3 64 (by omega)]; exact (b9 p hp).1, fun k hk => by rw [q3 65 (by omega)]; exact (b9 p hp).2 k hk⟩, fun b hb => ?_⟩, hInv, Nat.zero_le _, fun x hx => absurd hx (List.not_mem_nil)⟩
      rw [q3 14 (by omega)]
      show _ = nI ((fup M.1 (p * B + q) s' b).1 2)
      rw [hrate]
      exact b10 b hb
