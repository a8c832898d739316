/-! PURE: the reference: DATA is laid -/
def LL : List Nat := [44, 45, 46, 47, 48]
def F1 (l : List Cel) (th : Nat → Bool) (fr j : Nat) : Bool := if th j then (gc l j).2.1 else decide (j = fr) && (gc l j).2.1
def L1 (l : List Cel) (th : Nat → Bool) (to j : Nat) : Bool := if th j then lasF l j else decide (j = to - 1) && lasF l j
/-- the LENGTHS mark ends and beginnings -/
theorem ly270 {s c3 bAt fr to : Nat} {l : List Cel} {z : Bool} {f47 f48 : Nat → Bool} {Q : Int32 → Sg → Prop} {τ0 : Sg} (hs : s < 192) (hc3 : c3 = 65) (hw : wfF l) (hto : to ≤ l.length) (hl : l.length ≤ 240) (hft : fr < to) (hbA : bAt < 500) (h : ∀ τ' : Sg, (∀ j, fr ≤ j → j < to → τ' 47 (240 * s + j) = b01 (f47 j || (decide (fr < j) && lasF l (j - 1))) ∧ τ' 48 (240 * s + j) = b01 (f48 j || (decide (j + 1 < to) && lasF l j))) → (∀ c j, c = 47 ∨ c = 48 → j < 240 * s + fr ∨ 240 * s + to ≤ j → τ' c j = τ0 c j) → (∀ c, c ≠ 47 → c ≠ 48 → τ' c = τ0 c) → Q (b01 z) τ') : ∀ (m i t lAt : Nat) (τ : Sg), i + m = to - 1 → fr ≤ t → t ≤ i → (∀ k, t ≤ k → k < i → lasF l k = false) → lAt + cnt (lasF l) i m = bAt → (∀ j, j < cnt (lasF l) i m → τ0 c3 (lAt + j) = (lenL (lasF l) m i t).getD j 0) → (∀ j, fr ≤ j → j < to → τ 47 (240 * s + j) = b01 (f47 j || (decide (fr < j ∧ j - 1 < i) && lasF l (j - 1))) ∧ τ 48 (240 * s + j) = b01 (f48 j || (decide (j < i) && lasF l j))) → (∀ c j, c = 47 ∨ c = 48 → j < 240 * s + fr ∨ 240 * s + to ≤ j → τ c j = τ0 c j) → (∀ c, c ≠ 47 → c ≠ 48 → τ c = τ0 c) → wpX9_lays_L270 Q (cnt (lasF l) i m + 1) c3 (nI s) (nI bAt) (nI fr) (b01 z) (nI (t - fr)) (nI lAt) τ := by
  intro m
  induction m with
  | zero =>
    intro i t lAt τ hi ht1 ht2 hn hL hle hst hout ho
    have hc : cnt (lasF l) i 0 = 0 := rfl
    rw [hc] at hL ⊢
    have hi : i = to - 1 := by omega
    subst hi
    unfold wpX9_lays_L270
    refine brt (nI_le (by omega) (by omega)) ⟨b01_z _, h τ (fun j j1 j2 => ?_) hout ho⟩
    obtain ⟨q1, q2⟩ := hst j j1 j2
    rw [q1, q2]
    refine ⟨?_, ?_⟩
    · congr 2
      by_cases e : fr < j
      · rw [decide_eq_true e, decide_eq_true (by omega)]
      · rw [decide_eq_false e, decide_eq_false (by omega)]
    · congr 2
      by_cases e : j < to - 1
      · rw [decide_eq_true e, decide_eq_true (by omega)]
      · rw [decide_eq_false e, decide_eq_false (by omega)]
  | succ m ih =>
    intro i t lAt τ hi ht1 ht2 hn hL hle hst hout ho
    cases e : lasF l i with
    | false =>
      have hcp := cnt_pos_F (n := m) e
      rw [hcp] at hL hle ⊢
      refine ih (i + 1) t lAt τ (by omega) ht1 (by omega) (fun k k1 k2 => ?_) hL ?_ (fun j j1 j2 => ?_) hout ho
      · by_cases ek : k = i
        · rw [ek]; exact e
        · exact hn k k1 (by omega)
      · rw [lenL, if_neg (by rw [e]; decide)] at hle
        exact hle
      · obtain ⟨q1, q2⟩ := hst j j1 j2
        rw [q1, q2]
        refine ⟨?_, ?_⟩
        · congr 2
          by_cases ej : j - 1 = i
          · rw [ej, e, Bool.and_false, Bool.and_false]
          · congr 1
            by_cases e9 : fr < j ∧ j - 1 < i
            · rw [decide_eq_true e9, decide_eq_true (by omega)]
            · rw [decide_eq_false e9, decide_eq_false (by omega)]
        · congr 2
          by_cases ej : j = i
          · rw [ej, e, Bool.and_false, Bool.and_false]
          · congr 1
            by_cases e9 : j < i
            · rw [decide_eq_true e9, decide_eq_true (by omega)]
            · rw [decide_eq_false e9, decide_eq_false (by omega)]
    | true =>
      have hcp := cnt_pos_T (n := m) e
      rw [hcp] at hL hle ⊢
      have hlen : lenL (lasF l) (m + 1) i t = nI (i + 1 - t + (if 0 < cnt (lasF l) (i + 1) m then 128 else 0)) :: lenL (lasF l) m (i + 1) (i + 1) := by rw [lenL, if_pos e]
      rw [hlen] at hle
      have h0 := hle 0 (by omega)
      have h0 : τ0 c3 lAt = nI (i + 1 - t + (if 0 < cnt (lasF l) (i + 1) m then 128 else 0)) := h0
      have hsg := hw.seg ht2 (by omega) hn
      have hval : τ c3 lAt &&& 127 = nI (i + 1 - t) := by
        rw [ho c3 (by omega) (by omega), h0]
        split
        · rw [a127 (by omega)]; congr 1; omega
        · rw [a127 (by omega)]; congr 1; omega
      unfold wpX9_lays_L270
      rw [nI_clamp (n := lAt) (by omega), hval, nI_add, show t - fr + (i + 1 - t) = i + 1 - fr by omega]
      refine brf (nI_ge (by omega) (by omega)) ⟨vin rfl (by omega) (by decide), ?_⟩
      rintro _ rfl
      have e1 : ((240 : Int32) * nI s + nI fr) + nI (i + 1 - fr) = nI (240 * s + (i + 1)) := by
        rw [i240, nI_add]
        congr 1
        omega
      have e2 : nI (240 * s + (i + 1)) - 1 = nI (240 * s + i) := by
        have : nI (240 * s + (i + 1)) - 1 = nI (240 * s + (i + 1) - 1) := pk_sub (a := 240 * s + (i + 1)) (b := 1) (by omega)
        rw [this]
        rfl
      rw [e1, e2, nI_clamp (n := 240 * s + i) (by omega), nI_clamp (n := 240 * s + (i + 1)) (by omega)]
      refine ⟨vin rfl (by omega) (by decide), ?_⟩
      rintro _ rfl
      refine ⟨vin rfl (by omega) (by decide), ?_⟩
      rintro _ rfl _ rfl
      rw [nI_1]
      refine ih (i + 1) (i + 1) (lAt + 1) _ (by omega) (by omega) (Nat.le_refl _) (fun k k1 k2 => by omega) (by omega) (fun j hj => ?_) (fun j j1 j2 => ?_) (fun c j hc hj => ?_) (fun c c1 c2 => by rw [up2_o c1, up2_o c2, ho c c1 c2])
      · have := hle (j + 1) (by omega)
        rw [show lAt + 1 + j = lAt + (j + 1) by omega]
        exact this
      · obtain ⟨q1, q2⟩ := hst j j1 j2
        rw [up2_e (d := 47), up2_o (d := 47) (by decide), up2_o (d := 48) (by decide), up2_e (d := 48), q1, q2]
        refine ⟨?_, ?_⟩
        · by_cases ej : j = i + 1
          · subst ej
            rw [if_pos ⟨rfl, rfl⟩, Nat.add_sub_cancel, e, decide_eq_true (by omega), Bool.and_true, Bool.or_true]
            rfl
          · rw [if_neg (by omega)]
            congr 3
            by_cases e9 : fr < j ∧ j - 1 < i
            · rw [decide_eq_true e9, decide_eq_true (by omega)]
            · rw [decide_eq_false e9, decide_eq_false (by omega)]
        · by_cases ej : j = i
          · subst ej
            rw [if_pos ⟨rfl, rfl⟩, e, decide_eq_true (by omega), Bool.and_true, Bool.or_true]
            rfl
          · rw [if_neg (by omega)]
            congr 3
            by_cases e9 : j < i
            · rw [decide_eq_true e9, decide_eq_true (by omega)]
            · rw [decide_eq_false e9, decide_eq_false (by omega)]
      · rw [up2_e, if_neg (by omega), up2_e, if_neg (by omega)]
        exact hout c j hc hj
/-- the bytes are laid -/
theorem ly144 {s c3 bAt lAt fr to : Nat} {l : List Cel} {th : Nat → Bool} {hd : Int32} {Q : Int32 → Sg → Prop} {τ0 : Sg} (hs : s < 192) (hc3 : c3 = 65) (hto : to ≤ l.length) (hl : l.length ≤ 240) (hft : fr < to) (hbA : bAt + (to - fr) ≤ 500) (hby : ∀ k, fr ≤ k → k < to → τ0 c3 (bAt + (k - fr)) = (gc l k).1) (h8 : bit 8 hd = !(lasF l (to - 1))) (h16 : bit 16 hd = !(gc l fr).2.1) (hfl : ∀ k, k < 240 → th k = true → τ0 47 (240 * s + k) = b01 (gc l k).2.1 ∧ τ0 48 (240 * s + k) = b01 (lasF l k)) (h : ∀ τ' : Sg, (∀ j, j < 240 → τ' 46 (240 * s + j) = b01 (orT th fr to j)) → (∀ j, fr ≤ j → j < to → τ' 45 (240 * s + j) = (gc l j).1 ∨ th j = true) → (∀ j, fr ≤ j → j < to → τ' 47 (240 * s + j) = b01 (F1 l th fr j) ∧ τ' 48 (240 * s + j) = b01 (L1 l th to j)) → (∀ j, (j < 240 * s + fr ∨ 240 * s + to ≤ j ∨ ∃ k, j = 240 * s + k ∧ th k = true) → τ' 45 j = τ0 45 j) → (∀ c j, c = 47 ∨ c = 48 → j < 240 * s + fr ∨ 240 * s + to ≤ j → τ' c j = τ0 c j) → (∀ j, j < 240 * s ∨ 240 * s + 240 ≤ j → τ' 46 j = τ0 46 j) → (∀ c, c ≠ 45 → c ≠ 46 → c ≠ 47 → c ≠ 48 → τ' c = τ0 c) → ∃ nn, wpX9_lays_L270 Q nn c3 (nI s) (nI bAt) (nI fr) (b01 (decide (¬ cnt (orT th fr to) 0 240 = cnt th 0 240))) 0 (nI lAt) τ') : ∀ (m k : Nat) (τ : Sg), k + m = to → fr ≤ k → (∀ j, j < 240 → τ 46 (240 * s + j) = b01 (orT th fr k j)) → (∀ j, fr ≤ j → j < k → τ 45 (240 * s + j) = (gc l j).1 ∨ th j = true) → (∀ j, fr ≤ j → j < k → τ 47 (240 * s + j) = b01 (F1 l th fr j) ∧ τ 48 (240 * s + j) = b01 (L1 l th to j)) → (∀ j, (j < 240 * s + fr ∨ 240 * s + k ≤ j ∨ ∃ k, j = 240 * s + k ∧ th k = true) → τ 45 j = τ0 45 j) → (∀ c j, c = 47 ∨ c = 48 → j < 240 * s + fr ∨ 240 * s + k ≤ j → τ c j = τ0 c j) → (∀ j, j < 240 * s ∨ 240 * s + 240 ≤ j → τ 46 j = τ0 46 j) → (∀ c, c ≠ 45 → c ≠ 46 → c ≠ 47 → c ≠ 48 → τ c = τ0 c) → wpX9_lays_L144 Q (m + 1) c3 hd (nI s) (nI bAt) (nI fr) (nI lAt) (nI (to - fr)) (b01 (decide (¬ cnt (orT th fr k) 0 240 = cnt th 0 240))) (nI (k - fr)) τ := by
  intro m
  induction m with
  | zero =>
    intro k τ hk hfk a1 a2 a3 a4 a5 a6 a7
    have hk : k = to := by omega
    subst hk
    unfold wpX9_lays_L144
    exact brt (nI_le (Nat.le_refl _) (by omega)) (h τ a1 a2 a3 a4 a5 a6 a7)
  | succ m ih =>
    intro k τ hk hfk a1 a2 a3 a4 a5 a6 a7
    have hge := cnt_orT (f := th) (fr := fr) (to := k) (a := 0) 240
    unfold wpX9_lays_L144
    have e1 : ((240 : Int32) * nI s + nI fr) + nI (k - fr) = nI (240 * s + k) := by
      rw [i240, nI_add]
      congr 1
      omega
    rw [e1]
    refine brf (nI_ge (by omega) (by omega)) ?_
    rintro _ rfl
    rw [nI_clamp (n := 240 * s + k) (by omega), a1 k (by omega)]
    have eo : orT th fr k k = th k := by
      unfold orT
      rw [decide_eq_false (by omega), Bool.or_false]
    rw [eo]
    refine ⟨vin rfl (by omega) (by decide), br01 (fun et => ⟨vin rfl (by omega) (by decide), ?_⟩) (fun et => ?_)⟩
    · -- a new byte
      rintro _ rfl
      rw [nI_add, show bAt + (k - fr) = bAt + (k - fr) from rfl, nI_clamp (n := bAt + (k - fr)) (by omega), up2_o (d := c3) (by omega), a7 c3 (by omega) (by omega) (by omega) (by omega), hby k hfk (by omega)]
      refine ⟨vin rfl (by omega) (by decide), vin rfl (by omega) (by decide), ?_⟩
      rintro _ rfl
      have hnew : decide (¬ cnt (orT th fr (k + 1)) 0 240 = cnt th 0 240) = true := by
        refine decide_eq_true ?_
        rw [← orT_step hfk, cnt_bupT (Nat.zero_le k) (by omega) (by rw [eo]; exact et)]
        omega
      -- the next one
      have next : ∀ τ2 : Sg, τ2 47 (240 * s + k) = b01 (F1 l th fr k) → τ2 48 (240 * s + k) = b01 (L1 l th to k) → (∀ c j, c = 47 ∨ c = 48 → j ≠ 240 * s + k → τ2 c j = τ c j) → (∀ c, c ≠ 47 → c ≠ 48 → τ2 c = up2 (up2 τ 46 (240 * s + k) 1) 45 (240 * s + k) (gc l k).1 c) → wpX9_lays_L257 Q (wpX9_lays_L144 Q (m + 1)) c3 hd (nI s) (nI bAt) (nI fr) (nI lAt) (nI (to - fr)) 1 (nI (k - fr)) τ2 := by
        intro τ2 b1 b2 b3 b4
        unfold wpX9_lays_L257
        rintro _ rfl
        rw [nI_1, show k - fr + 1 = k + 1 - fr by omega]
        have hn := ih (k + 1) τ2 (by omega) (by omega) (fun j hj => ?_) (fun j j1 j2 => ?_) (fun j j1 j2 => ?_) (fun j hj => ?_) (fun c j hc hj => ?_) (fun j hj => ?_) (fun c c1 c2 c3 c4 => ?_)
        · rw [hnew] at hn
          exact hn
        · rw [b4 46 (by decide) (by decide), up2_o (by decide), up2_e, ← orT_step hfk]
          unfold bup
          by_cases ej : j = k
          · rw [if_pos ⟨rfl, by omega⟩, if_pos ej]
            rfl
          · rw [if_neg (by omega), if_neg ej]
            exact a1 j hj
        · rw [b4 45 (by decide) (by decide), up2_e]
          by_cases ej : j = k
          · rw [if_pos ⟨rfl, by omega⟩, ej]
            exact Or.inl rfl
          · rw [if_neg (by omega), up2_o (by decide)]
            exact a2 j j1 (by omega)
        · by_cases ej : j = k
          · rw [ej]
            exact ⟨b1, b2⟩
          · rw [b3 47 _ (by simp) (by omega), b3 48 _ (by simp) (by omega)]
            exact a3 j j1 (by omega)
        · rw [b4 45 (by decide) (by decide), up2_e, if_neg (fun hh => ?_), up2_o (by decide)]
          · refine a4 j ?_
            rcases hj with hj | hj | hj
            · exact Or.inl hj
            · exact Or.inr (Or.inl (by omega))
            · exact Or.inr (Or.inr hj)
          · rcases hj with hj | hj | ⟨k', hj, hk'⟩
            · omega
            · omega
            · have : k' = k := by omega
              rw [this, et] at hk'
              cases hk'
        · rw [b3 c j hc (by omega)]
          exact a5 c j hc (by omega)
        · rw [b4 46 (by decide) (by decide), up2_o (by decide), up2_e, if_neg (by omega)]
          exact a6 j hj
        · rw [b4 c c3 c4, up2_o c1, up2_o c2]
          exact a7 c c1 c2 c3 c4
      -- whether it is a first one
      have L227 : ∀ zf : Bool, zf = F1 l th fr k → wpX9_lays_L227 Q (wpX9_lays_L144 Q (m + 1)) c3 hd (nI s) (nI bAt) (nI fr) (nI lAt) (nI (to - fr)) 1 (nI (k - fr)) (nI (240 * s + k)) (b01 zf) (nI (240 * s + k)) 47 (up2 (up2 τ 46 (240 * s + k) 1) 45 (240 * s + k) (gc l k).1) := by
        intro zf hzf
        unfold wpX9_lays_L227
        rw [nI_clamp (n := 240 * s + k) (by omega), nI_1]
        refine ⟨b01_z _, vin rfl (by omega) (by decide), ?_⟩
        rintro _ rfl
        have L256 : ∀ zl : Bool, zl = L1 l th to k → wpX9_lays_L256 Q (wpX9_lays_L144 Q (m + 1)) c3 hd (nI s) (nI bAt) (nI fr) (nI lAt) (nI (to - fr)) 1 (nI (k - fr)) (b01 zl) (nI (240 * s + k)) 48 (up2 (up2 (up2 τ 46 (240 * s + k) 1) 45 (240 * s + k) (gc l k).1) 47 (240 * s + k) (b01 zf)) := by
          intro zl hzl
          unfold wpX9_lays_L256
          rw [nI_clamp (n := 240 * s + k) (by omega)]
          refine ⟨b01_z _, vin rfl (by omega) (by decide), ?_⟩
          rintro _ rfl
          refine next _ ?_ ?_ (fun c j hc hj => ?_) (fun c c1 c2 => ?_)
          · rw [up2_o (by decide), up2_e, if_pos ⟨rfl, rfl⟩, hzf]
          · rw [up2_e, if_pos ⟨rfl, rfl⟩, hzl]
          · rw [up2_e, if_neg (fun hh => hj hh.2), up2_e, if_neg (fun hh => hj hh.2), up2_o (by omega), up2_o (by omega)]
          · rw [up2_o c2, up2_o c1]
        have e1f : L1 l th to k = (decide (k = to - 1) && lasF l k) := by unfold L1; rw [et]; rfl
        refine ⟨fun hne => ?_, fun he => ?_⟩
        · have hne : ¬ k - fr + 1 = to - fr := fun hh => hne (by rw [hh])
          unfold wpX9_lays_L255
          exact L256 false (by rw [e1f, decide_eq_false (by omega)]; rfl)
        · have he := (nI_eq (by omega) (by omega)).mp he
          have ek : k = to - 1 := by omega
          refine brbit' h8 (fun e8 => ?_) (fun e8 => ?_)
          · refine L256 true ?_
            rw [e1f, decide_eq_true ek, ek]
            simpa using e8
          · unfold wpX9_lays_L255
            refine L256 false ?_
            rw [e1f, decide_eq_true ek, ek]
            simpa using e8
      have e1f : F1 l th fr k = (decide (k = fr) && (gc l k).2.1) := by unfold F1; rw [et]; rfl
      refine ⟨fun hne => ?_, fun he => ?_⟩
      · have hne : ¬ k - fr = 0 := fun hh => hne (by rw [hh]; rfl)
        unfold wpX9_lays_L226
        exact L227 false (by rw [e1f, decide_eq_false (by omega)]; rfl)
      · have he : k - fr = 0 := (nI_eq (a := k - fr) (b := 0) (by omega) (by decide)).mp he
        have ek : k = fr := by omega
        refine brbit' h16 (fun e6 => ?_) (fun e6 => ?_)
        · refine L227 true ?_
          rw [e1f, decide_eq_true ek, ek]
          simpa using e6
        · unfold wpX9_lays_L226
          refine L227 false ?_
          rw [e1f, decide_eq_true ek, ek]
          simpa using e6
    · -- it is there
      have hsame : orT th fr (k + 1) = orT th fr k := by
        rw [← orT_step hfk]
        funext j
        unfold bup
        split
        · next ej => rw [ej, eo, et]
        · rfl
      unfold wpX9_lays_L257
      rintro _ rfl
      rw [nI_1, show k - fr + 1 = k + 1 - fr by omega]
      have hn := ih (k + 1) τ (by omega) (by omega) (fun j hj => by rw [hsame]; exact a1 j hj) (fun j j1 j2 => ?_) (fun j j1 j2 => ?_) (fun j hj => ?_) (fun c j hc hj => a5 c j hc (by omega)) a6 a7
      · rw [hsame] at hn
        exact hn
      · by_cases ej : j = k
        · rw [ej]; exact Or.inr et
        · exact a2 j j1 (by omega)
      · by_cases ej : j = k
        · subst ej
          rw [a5 47 _ (by simp) (by omega), a5 48 _ (by simp) (by omega)]
          unfold F1 L1
          rw [if_pos et, if_pos et]
          exact hfl j (by omega) et
        · exact a3 j j1 (by omega)
      · refine a4 j ?_
        rcases hj with hj | hj | hj
        · exact Or.inl hj
        · exact Or.inr (Or.inl (by omega))
        · exact Or.inr (Or.inr hj)
