/-! PURE: the reference: what waits -/
def ClM (τ : Sg) (i k : Nat) (q : Cel) : Prop := τ 20 (4400 * i + k) = q.1 ∧ τ 21 (4400 * i + k) = nI q.2.2.2 - 1 ∧ τ 23 (4400 * i + k) = b01 q.2.1 ∧ τ 24 (4400 * i + k) = b01 q.2.2.1
def LW : List Nat := [20, 21, 22, 23, 24]
theorem gc_l {a b : List Cel} {k : Nat} (h : k < a.length) : gc (a ++ b) k = gc a k := by
  unfold gc
  rw [List.getD_eq_getElem?_getD, List.getElem?_append_left h, ← List.getD_eq_getElem?_getD]
theorem gc_r {a b : List Cel} {k : Nat} (h : a.length ≤ k) : gc (a ++ b) k = gc b (k - a.length) := by
  unfold gc
  rw [List.getD_eq_getElem?_getD, List.getElem?_append_right h, ← List.getD_eq_getElem?_getD]
theorem await_ok {τ : Sg} {i : Nat} {fl : List Cel} {q : Cel} {Q : Sg → Prop} (hi : i < 6) (hW : WtM τ i fl) (hl : fl.length + 1 < 4400) (h : ∀ τ' : Sg, WtM τ' i (fl ++ [q]) → FrA LW i τ τ' → Q τ') : wpX9_await (nI i) q.1 (nI q.2.2.2 - 1) (b01 q.2.1) (b01 q.2.2.1) τ Q := by
  obtain ⟨w1, w2, w3⟩ := hW
  unfold wpX9_await
  rw [nI_clamp (by omega), w1, i4400]
  refine ⟨vin rfl hi (by decide), ?_⟩
  rintro _ rfl
  rw [nI_clamp (by omega)]
  refine ⟨vin rfl (by omega) (by decide), ?_⟩
  rintro _ rfl
  refine ⟨vin rfl (by omega) (by decide), ?_⟩
  rintro _ rfl
  refine ⟨b01_z _, vin rfl (by omega) (by decide), ?_⟩
  rintro _ rfl
  refine ⟨b01_z _, vin rfl (by omega) (by decide), ?_⟩
  rintro _ rfl
  refine ⟨vin rfl hi (by decide), vin rfl hi (by decide), ?_⟩
  rintro _ rfl
  rw [up2_o (d := 22) (by decide), up2_o (d := 22) (by decide), up2_o (d := 22) (by decide), up2_o (d := 22) (by decide), w1, nI_1]
  have hdv : (4400 * i + fl.length) / 4400 = i := by omega
  refine h _ ⟨?_, by rw [List.length_append, List.length_singleton]; exact hl, fun k hk => ?_⟩ (((((FrA.rf.up (by decide) (fun _ => hdv)).up (by decide) (fun _ => hdv)).up (by decide) (fun _ => hdv)).up (by decide) (fun _ => hdv)).up (by decide) (fun _ => Nat.div_one i))
  · rw [up2_e, if_pos ⟨rfl, rfl⟩, List.length_append, List.length_singleton]
  · rw [List.length_append, List.length_singleton] at hk
    rw [up2_o (d := 20) (by decide), up2_o (d := 20) (by decide), up2_o (d := 20) (by decide), up2_o (d := 20) (by decide), up2_e, up2_o (d := 21) (by decide), up2_o (d := 21) (by decide), up2_o (d := 21) (by decide), up2_e, up2_o (d := 21) (by decide), up2_o (d := 23) (by decide), up2_o (d := 23) (by decide), up2_e, up2_o (d := 23) (by decide), up2_o (d := 23) (by decide), up2_o (d := 24) (by decide), up2_e, up2_o (d := 24) (by decide), up2_o (d := 24) (by decide), up2_o (d := 24) (by decide)]
    by_cases e : k = fl.length
    · subst e
      rw [if_pos ⟨rfl, rfl⟩, if_pos ⟨rfl, rfl⟩, if_pos ⟨rfl, rfl⟩, if_pos ⟨rfl, rfl⟩, gc_end]
      exact ⟨rfl, rfl, rfl, rfl⟩
    · rw [if_neg (by omega), if_neg (by omega), if_neg (by omega), if_neg (by omega), gc_app (by omega)]
      exact w3 k (by omega)
theorem cw3 {i fr to n : Nat} {f : Nat → Cel} {Q : Sg → Prop} {τ0 : Sg} (hi : i < 6) (hft : fr ≤ to) (hn : n < 4400) (h : ∀ τ' : Sg, τ' 22 i = nI (n - (to - fr)) → (∀ j, j < n - (to - fr) → ClM τ' i j (if j < fr then f j else f (j - fr + to))) → FrA LW i τ0 τ' → Q τ') : ∀ (m k : Nat) (τ : Sg), k + m = n → to ≤ k → τ 22 i = nI n → (∀ j, j < fr + (k - to) → ClM τ i j (if j < fr then f j else f (j - fr + to))) → (∀ j, k ≤ j → j < n → ClM τ i j (f j)) → FrA LW i τ0 τ → wpX9_cutWaiting_L3 Q (m + 1) (nI i) (nI fr) (nI to) (nI k) τ := by
  intro m
  induction m with
  | zero =>
    intro k τ hk hto h22 hlo hhi hF
    have hk : k = n := by omega
    subst hk
    unfold wpX9_cutWaiting_L3
    rw [nI_clamp (by omega), h22]
    refine ⟨vin rfl hi (by decide), brt (nI_le (Nat.le_refl _) (by omega)) ⟨vin rfl hi (by decide), vin rfl hi (by decide), ?_⟩⟩
    rintro _ rfl
    rw [pk_sub hft, pk_sub (by omega)]
    refine h _ (by rw [up2_e, if_pos ⟨rfl, rfl⟩]) (fun j hj => ?_) (hF.up (by decide) (fun _ => Nat.div_one i))
    have := hlo j (by omega)
    unfold ClM at *
    rw [up2_o (d := 20) (by decide), up2_o (d := 21) (by decide), up2_o (d := 23) (by decide), up2_o (d := 24) (by decide)]
    exact this
  | succ m ih =>
    intro k τ hk hto h22 hlo hhi hF
    have hkk := hhi k (Nat.le_refl _) (by omega)
    obtain ⟨c1, c2, c3, c4⟩ := hkk
    unfold wpX9_cutWaiting_L3
    rw [nI_clamp (by omega), h22, i4400]
    refine ⟨vin rfl hi (by decide), brf (nI_ge (by omega) (by omega)) ?_⟩
    rintro _ rfl
    have ey : (nI (4400 * i + k) - nI to) + nI fr = nI (4400 * i + (k - to + fr)) := by
      rw [pk_sub (by omega), nI_add]
      congr 1
      omega
    rw [ey]
    rintro _ rfl
    rw [nI_clamp (by omega), nI_clamp (by omega)]
    refine ⟨vin rfl (by omega) (by decide), vin rfl (by omega) (by decide), ?_⟩
    rintro _ rfl
    refine ⟨vin rfl (by omega) (by decide), vin rfl (by omega) (by decide), ?_⟩
    rw [up2_o (d := 21) (by decide), c1, c2]
    rintro _ rfl
    rw [up2_o (d := 23) (by decide), up2_o (d := 23) (by decide), c3]
    refine ⟨vin rfl (by omega) (by decide), b01_z _, vin rfl (by omega) (by decide), ?_⟩
    rintro _ rfl
    rw [up2_o (d := 24) (by decide), up2_o (d := 24) (by decide), up2_o (d := 24) (by decide), c4]
    refine ⟨vin rfl (by omega) (by decide), b01_z _, vin rfl (by omega) (by decide), ?_⟩
    rintro _ rfl _ rfl
    rw [nI_1]
    have hdv : (4400 * i + (k - to + fr)) / 4400 = i := by omega
    have key : ∀ j q, j ≠ k - to + fr → ClM τ i j q → ClM (up2 (up2 (up2 (up2 τ 20 (4400 * i + (k - to + fr)) (f k).1) 21 (4400 * i + (k - to + fr)) (nI (f k).2.2.2 - 1)) 23 (4400 * i + (k - to + fr)) (b01 (f k).2.1)) 24 (4400 * i + (k - to + fr)) (b01 (f k).2.2.1)) i j q := by
      intro j q hj hq
      unfold ClM at *
      rw [up2_o (d := 20) (by decide), up2_o (d := 20) (by decide), up2_o (d := 20) (by decide), up2_e, if_neg (by omega), up2_o (d := 21) (by decide), up2_o (d := 21) (by decide), up2_e, if_neg (by omega), up2_o (d := 21) (by decide), up2_o (d := 23) (by decide), up2_e, if_neg (by omega), up2_o (d := 23) (by decide), up2_o (d := 23) (by decide), up2_e, if_neg (by omega), up2_o (d := 24) (by decide), up2_o (d := 24) (by decide), up2_o (d := 24) (by decide)]
      exact hq
    refine ih (k + 1) _ (by omega) (by omega) ?_ (fun j hj => ?_) (fun j j1 j2 => ?_) ((((hF.up (by decide) (fun _ => hdv)).up (by decide) (fun _ => hdv)).up (by decide) (fun _ => hdv)).up (by decide) (fun _ => hdv))
    · rw [up2_o (d := 22) (by decide), up2_o (d := 22) (by decide), up2_o (d := 22) (by decide), up2_o (d := 22) (by decide)]
      exact h22
    · by_cases e : j = k - to + fr
      · subst e
        rw [if_neg (by omega), show k - to + fr - fr + to = k by omega]
        unfold ClM
        rw [up2_o (d := 20) (by decide), up2_o (d := 20) (by decide), up2_o (d := 20) (by decide), up2_e, if_pos ⟨rfl, rfl⟩, up2_o (d := 21) (by decide), up2_o (d := 21) (by decide), up2_e, if_pos ⟨rfl, rfl⟩, up2_o (d := 23) (by decide), up2_e, if_pos ⟨rfl, rfl⟩, up2_e, if_pos ⟨rfl, rfl⟩]
        exact ⟨rfl, rfl, rfl, rfl⟩
      · exact key j _ e (hlo j (by omega))
    · exact key j _ (by omega) (hhi j (by omega) j2)
theorem cutWaiting_ok {τ : Sg} {i fr to : Nat} {fl : List Cel} {Q : Sg → Prop} (hi : i < 6) (hW : WtM τ i fl) (hft : fr ≤ to) (hto : to ≤ fl.length) (h : ∀ τ' : Sg, WtM τ' i (fl.take fr ++ fl.drop to) → FrA LW i τ τ' → Q τ') : wpX9_cutWaiting (nI i) (nI fr) (nI to) τ Q := by
  obtain ⟨w1, w2, w3⟩ := hW
  have hlen : (fl.take fr ++ fl.drop to).length = fl.length - (to - fr) := by
    rw [List.length_append, List.length_take, List.length_drop]
    omega
  refine ⟨fl.length - to + 1, cw3 (f := gc fl) (n := fl.length) hi hft w2 (fun τ' g1 g2 g3 => h τ' ⟨by rw [hlen]; exact g1, by omega, fun k hk => ?_⟩ g3) (fl.length - to) to τ (by omega) (Nat.le_refl _) w1 (fun j hj => ?_) (fun j _ hj => w3 j hj) FrA.rf⟩
  · rw [hlen] at hk
    have hg := g2 k hk
    have e : gc (fl.take fr ++ fl.drop to) k = if k < fr then gc fl k else gc fl (k - fr + to) := by
      have htl : (fl.take fr).length = fr := by rw [List.length_take]; omega
      split
      · next hk2 =>
        rw [gc_l (by rw [htl]; exact hk2)]
        unfold gc
        rw [List.getD_eq_getElem?_getD, List.getElem?_take, if_pos hk2, ← List.getD_eq_getElem?_getD]
      · next hk2 =>
        rw [gc_r (by rw [htl]; omega), htl]
        unfold gc
        rw [List.getD_eq_getElem?_getD, List.getElem?_drop, ← List.getD_eq_getElem?_getD, Nat.add_comm]
    rw [e]
    exact hg
  · rw [if_pos (by omega)]
    exact w3 j (by omega)
/-- where a unit's bytes wait -/
def owF (fl : List Cel) (o : Nat) (k : Nat) : Bool := decide ((gc fl k).2.2.2 = o)
def owI (fl : List Cel) (o : Nat) : Nat := nxt (owF fl o) true fl.length 0
def owE (fl : List Cel) (o : Nat) : Nat := nxt (owF fl o) false fl.length (owI fl o)
def cnF (fl : List Cel) (o : Nat) : List Cel := if owI fl o = fl.length ∨ (gc fl (owI fl o)).2.1 = false then fl else fl.take (owI fl o) ++ fl.drop (owE fl o)
theorem own_eq {a c : Nat} (ha : a < 2 ^ 20) (hc : c < 2 ^ 20) : (nI a - 1 = nI c) ↔ a = c + 1 := by
  constructor
  · intro e
    have e2 : nI a = nI (c + 1) := by rw [← nI_1, ← e, Int32.sub_add_cancel]
    exact (nI_eq (by omega) (by omega)).mp e2
  · intro e
    rw [e]
    exact nI_pred c
theorem rconfirm_ok {τ : Sg} {i c : Nat} {fl : List Cel} {Q : Sg → Prop} (hi : i < 6) (hc : c < 2 ^ 19) (hW : WtM τ i fl) (hO : ∀ k, k < fl.length → (gc fl k).2.2.2 < 2 ^ 20) (h : ∀ τ' : Sg, WtM τ' i (cnF fl (c + 1)) → τ' 15 = upd (τ 15) (32 * i + c % 32) 0 → FrA (15 :: LW) i τ τ' → Q τ') : wpX9_confirm (nI i) (nI c) τ Q := by
  unfold wpX9_confirm
  rw [a31 (by omega), i32, nI_clamp (by omega)]
  refine ⟨vin rfl (by omega) (by decide), ?_⟩
  rintro _ rfl
  have hF1 : FrA (15 :: LW) i τ (up2 τ 15 (32 * i + c % 32) 0) := FrA.rf.up (by decide) (fun _ => show (32 * i + c % 32) / 32 = i by omega)
  have h15 : up2 τ 15 (32 * i + c % 32) 0 15 = upd (τ 15) (32 * i + c % 32) 0 := up2_s
  have hW1 : WtM (up2 τ 15 (32 * i + c % 32) 0) i fl := by
    obtain ⟨w1, w2, w3⟩ := hW
    refine ⟨by rw [up2_o (by decide)]; exact w1, w2, fun k hk => ?_⟩
    rw [up2_o (d := 20) (by decide), up2_o (d := 21) (by decide), up2_o (d := 23) (by decide), up2_o (d := 24) (by decide)]
    exact w3 k hk
  generalize up2 τ 15 (32 * i + c % 32) 0 = τ1 at *
  obtain ⟨w1, w2, w3⟩ := hW1
  obtain ⟨n1, n2, n3, n4⟩ := nxt_spec (f := owF fl (c + 1)) (w := true) (up := fl.length) (i := 0) (Nat.zero_le _)
  have hI : owI fl (c + 1) = nxt (owF fl (c + 1)) true fl.length 0 := rfl
  rw [← hI] at n1 n2 n3 n4
  obtain ⟨e1, e2, e3, e4⟩ := nxt_spec (f := owF fl (c + 1)) (w := false) (up := fl.length) (i := owI fl (c + 1)) n2
  have hE : owE fl (c + 1) = nxt (owF fl (c + 1)) false fl.length (owI fl (c + 1)) := rfl
  rw [← hE] at e1 e2 e3 e4
  have keep : owI fl (c + 1) = fl.length ∨ (gc fl (owI fl (c + 1))).2.1 = false → Q τ1 := by
    intro hh
    refine h τ1 ?_ h15 hF1
    unfold cnF
    rw [if_pos hh]
    exact ⟨w1, w2, w3⟩
  -- the end of the run
  have L86 : owI fl (c + 1) < fl.length → (gc fl (owI fl (c + 1))).2.1 = true → ∀ (m k : Nat), k + m = owE fl (c + 1) → owI fl (c + 1) ≤ k → wpX9_confirm_L86 Q (m + 1) (nI i) (nI c) (nI (owI fl (c + 1))) (nI k) τ1 := by
    intro hlt hfi m
    have fin : wpX9_confirm_L120 Q (nI i) (nI (owI fl (c + 1))) (nI (owE fl (c + 1))) τ1 := by
      unfold wpX9_confirm_L120
      refine cutWaiting_ok hi ⟨w1, w2, w3⟩ e1 e2 (fun τ2 g1 g2 => h τ2 ?_ ?_ (hF1.tr (g2.mono (fun d hd => List.mem_cons_of_mem _ hd))))
      · unfold cnF
        rw [if_neg (by rw [hfi]; simp; omega)]
        exact g1
      · rw [g2.1 15 (by decide), h15]
    induction m with
    | zero =>
      intro k hk hk1
      have hk : k = owE fl (c + 1) := by omega
      subst hk
      unfold wpX9_confirm_L86
      rw [nI_clamp (by omega), w1]
      refine ⟨vin rfl hi (by decide), pk_le fl.length (owE fl (c + 1)) (fun _ => fin) (fun hh => ?_)⟩
      rw [i4400, nI_clamp (by omega), (w3 _ hh).2.1]
      refine ⟨vin rfl (by omega) (by decide), brf' (fun hh2 => ?_) fin⟩
      have h9 := (own_eq (hO _ hh) (by omega)).mp hh2
      have h8 := e4 hh
      unfold owF at h8
      exact absurd h9 (of_decide_eq_false h8)
    | succ m ih =>
      intro k hk hk1
      have hkE : k < owE fl (c + 1) := by omega
      unfold wpX9_confirm_L86
      rw [nI_clamp (by omega), w1, i4400, nI_clamp (by omega), (w3 k (by omega)).2.1]
      refine ⟨vin rfl hi (by decide), brf (nI_ge (by omega) (by omega)) ⟨vin rfl (by omega) (by decide), ?_⟩⟩
      have h8 : owF fl (c + 1) k = true := by
        have := e3 k hk1 hkE
        simpa using this
      have h8 := of_decide_eq_true h8
      refine brt' ((own_eq (hO _ (by omega)) (by omega)).mpr h8) ?_
      rintro _ rfl
      rw [nI_1]
      exact ih (k + 1) (by omega) (by omega)
  have L62 : owI fl (c + 1) < fl.length → wpX9_confirm_L62 Q (nI i) (nI c) (nI (owI fl (c + 1))) τ1 := by
    intro hlt
    unfold wpX9_confirm_L62
    rw [i4400, nI_clamp (by omega), (w3 _ hlt).2.2.1]
    refine brf (neg1 (by omega)) ⟨vin rfl (by omega) (by decide), br01' (fun e => keep (Or.inr e)) (fun e => ?_)⟩
    exact ⟨owE fl (c + 1) - owI fl (c + 1) + 1, L86 hlt e (owE fl (c + 1) - owI fl (c + 1)) (owI fl (c + 1)) (by omega) (Nat.le_refl _)⟩
  have L20 : ∀ (m k : Nat), k + m = owI fl (c + 1) → wpX9_confirm_L20 Q (m + 2) (nI i) (nI c) (-1) (nI k) τ1 := by
    intro m
    induction m with
    | zero =>
      intro k hk
      have hk : k = owI fl (c + 1) := by omega
      subst hk
      unfold wpX9_confirm_L20
      rw [nI_clamp (by omega), w1]
      refine ⟨vin rfl hi (by decide), pk_le fl.length (owI fl (c + 1)) (fun hh => ?_) (fun hh => brt' rfl ?_)⟩
      · unfold wpX9_confirm_L62
        exact brt rfl (keep (Or.inl (by omega)))
      · rw [i4400, nI_clamp (by omega), (w3 _ hh).2.1]
        refine ⟨vin rfl (by omega) (by decide), ?_⟩
        have h8 := n4 hh
        have h8 := of_decide_eq_true h8
        refine brt' ((own_eq (hO _ hh) (by omega)).mpr h8) ?_
        unfold wpX9_confirm_L56
        rintro _ rfl
        unfold wpX9_confirm_L20
        rw [nI_1, nI_clamp (by omega), w1]
        refine ⟨vin rfl hi (by decide), pk_le fl.length (owI fl (c + 1) + 1) (fun _ => L62 hh) (fun _ => brf' (neg1 (by omega)) (L62 hh))⟩
    | succ m ih =>
      intro k hk
      unfold wpX9_confirm_L20
      rw [nI_clamp (by omega), w1]
      refine ⟨vin rfl hi (by decide), brf (nI_ge (by omega) (by omega)) (brt' rfl ?_)⟩
      rw [i4400, nI_clamp (by omega), (w3 k (by omega)).2.1]
      refine ⟨vin rfl (by omega) (by decide), brf' (fun hh => ?_) ?_⟩
      · have h9 := (own_eq (hO _ (by omega)) (by omega)).mp hh
        have := n3 k (Nat.zero_le _) (by omega)
        exact this (decide_eq_true h9)
      · unfold wpX9_confirm_L56
        rintro _ rfl
        rw [nI_1]
        exact ih (k + 1) (by omega)
  exact ⟨owI fl (c + 1) + 2, L20 (owI fl (c + 1)) 0 (by omega)⟩
