/-! PURE: what is KEPT and WAITING; confirming, in the class -/
abbrev Un : Type := List Int32 × Int32 × Bool
abbrev Wt : Type := List (Nat × List Int32) × Nat
def kpt (un : Nat → Un) (c : Nat) : Bool := (un c).2.2
def lowF (kp : Nat → Bool) : Nat → Nat → Nat
  | 0, c => c
  | m + 1, c => if kp c then c else lowF kp m (c + 1)
def lowK (kp : Nat → Bool) (nc : Nat) : Nat := lowF kp nc 0
theorem lowF_spec {kp : Nat → Bool} : ∀ (m c : Nat), c ≤ lowF kp m c ∧ lowF kp m c ≤ c + m ∧ (∀ k, c ≤ k → k < lowF kp m c → kp k = false) ∧ (lowF kp m c < c + m → kp (lowF kp m c) = true)
  | 0, c => ⟨Nat.le_refl _, Nat.le_refl _, fun k h1 h2 => by simp [lowF] at h2; omega, fun h => by simp [lowF] at h⟩
  | m + 1, c => by
    unfold lowF
    by_cases e : kp c = true
    · rw [if_pos e]
      exact ⟨Nat.le_refl _, by omega, fun k h1 h2 => by omega, fun _ => e⟩
    · rw [if_neg e]
      obtain ⟨h1, h2, h3, h4⟩ := lowF_spec (kp := kp) m (c + 1)
      refine ⟨by omega, by omega, fun k g1 g2 => ?_, fun h => h4 (by omega)⟩
      by_cases ek : k = c
      · subst ek; simpa using e
      · exact h3 k (by omega) g2
theorem lowK_spec (kp : Nat → Bool) (nc : Nat) : lowK kp nc ≤ nc ∧ (∀ k, k < lowK kp nc → kp k = false) ∧ (lowK kp nc < nc → kp (lowK kp nc) = true) := by
  obtain ⟨h1, h2, h3, h4⟩ := lowF_spec (kp := kp) nc 0
  exact ⟨by unfold lowK; omega, fun k h => h3 k (Nat.zero_le _) h, fun h => h4 (by unfold lowK at h; omega)⟩
theorem lowK_uniq {kp : Nat → Bool} {nc a : Nat} (h1 : a ≤ nc) (h2 : ∀ k, k < a → kp k = false) (h3 : a < nc → kp a = true) : lowK kp nc = a := by
  obtain ⟨g1, g2, g3⟩ := lowK_spec kp nc
  rcases Nat.lt_trichotomy (lowK kp nc) a with h | h | h
  · have := g3 (by omega)
    rw [h2 _ h] at this
    cases this
  · exact h
  · have := h3 (by omega)
    rw [g2 _ h] at this
    cases this
theorem lowK_from {kp : Nat → Bool} {nc a : Nat} (h1 : a ≤ nc) (h2 : ∀ k, k < a → kp k = false) : lowF kp (nc - a) a = lowK kp nc := by
  obtain ⟨g1, g2, g3, g4⟩ := lowF_spec (kp := kp) (nc - a) a
  refine (lowK_uniq (by omega) (fun k hk => ?_) (fun h => g4 (by omega))).symm
  rcases Nat.lt_or_ge k a with h | h
  · exact h2 k h
  · exact g3 k h hk
def wg (w : Wt) (j : Nat) : Nat × List Int32 := w.1.getD j (0, [])
def UnC (σ : Sg) (o : Nat) (u : Un) (c : Nat) : Prop := σ (o + 2) (c % 32) = nI u.1.length ∧ σ (o + 4) (c % 32) = u.2.1 ∧ ∀ k, k < u.1.length → σ (o + 1) (120 * (c % 32) + k) = u.1.getD k 0
def ObU (σ : Sg) (o nc lo : Nat) (un : Nat → Un) : Prop := ∀ c, lo ≤ c → c < nc → σ (o + 3) (c % 32) = b01 (kpt un c) ∧ (kpt un c = true → UnC σ o (un c) c)
def ObW (σ : Sg) (o : Nat) (w : Wt) : Prop := σ o 9 = nI w.1.length ∧ σ o 12 = nI w.2 ∧ (∀ j, j < w.1.length → σ (o + 5) j = nI (wg w j).1 - 1) ∧ (0 < w.2 → σ o 11 = nI (wg w 0).2.length ∧ ∀ k, k < (wg w 0).2.length → σ (o + 6) k = (wg w 0).2.getD k 0) ∧ (∀ p ∈ w.1, p.1 = 0 → σ o 14 = nI p.2.length ∧ ∀ k, k < p.2.length → σ (o + 7) k = p.2.getD k 0)
def ObC (σ : Sg) (o mk nc : Nat) (un : Nat → Un) (w : Wt) : Prop := σ o 0 = nI mk ∧ σ o 7 = nI nc ∧ σ o 6 = nI (lowK (kpt un) nc) ∧ σ o 5 = nI (cnt (kpt un) 0 nc) ∧ ObU σ o nc (lowK (kpt un) nc) un ∧ ObW σ o w
/-- what belongs to a box of packets -/
def ObV (nc : Nat) (un : Nat → Un) (w : Wt) : Prop := nc < 2 ^ 17 ∧ nc ≤ lowK (kpt un) nc + 24 ∧ (∀ c, nc ≤ c → kpt un c = false) ∧ (∀ c, kpt un c = true → 1 ≤ (un c).1.length ∧ (un c).1.length ≤ 120 ∧ ∀ x ∈ (un c).1, isB x) ∧ (w.1.map (·.1)).Pairwise (· < ·) ∧ (∀ p ∈ w.1, 2 ≤ p.2.length ∧ p.2.length ≤ 121 ∧ p.1 ≤ nc ∧ (p.1 = 0 → p.2.length ≤ 8) ∧ (∃ b, p.2.getD 0 0 = nI b ∧ b < 256 ∧ (b < 64 ∨ 128 ≤ b)) ∧ ∀ x ∈ p.2, isB x) ∧ (∀ p ps, w.1 = p :: ps → w.2 < p.2.length) ∧ (w.1 = [] → w.2 = 0) ∧ (∀ j, j < w.1.length → 0 < j ∨ w.2 = 0 → (wg w j).1 = 0 ∨ kpt un ((wg w j).1 - 1) = true)
theorem pw_len {a b : Nat} : ∀ (l : List Nat), l.Pairwise (· < ·) → (∀ x ∈ l, a ≤ x ∧ x < b) → l.length ≤ b - a
  | [], _, _ => Nat.zero_le _
  | x :: l, hp, h => by
    rw [List.pairwise_cons] at hp
    have hx := h x (List.mem_cons_self ..)
    have := pw_len (a := x + 1) (b := b) l hp.2 (fun y hy => ⟨hp.1 y hy, (h y (List.mem_cons_of_mem _ hy)).2⟩)
    rw [List.length_cons]
    omega
theorem ObV.len {nc : Nat} {un : Nat → Un} {w : Wt} (h : ObV nc un w) : w.1.length ≤ 25 := by
  obtain ⟨h1, h2, h3, h4, h5, h6, h7, h8, h9⟩ := h
  obtain ⟨w1, g⟩ := w
  cases w1 with
  | nil => exact Nat.zero_le _
  | cons p ps =>
    rw [List.map_cons, List.pairwise_cons] at h5
    have := pw_len (a := lowK (kpt un) nc + 1) (b := nc + 1) (ps.map (·.1)) h5.2 (fun x hx => ?_)
    · rw [List.length_map] at this
      rw [List.length_cons]
      omega
    · obtain ⟨q, hq, rfl⟩ := List.mem_map.mp hx
      have hgt := h5.1 q.1 (List.mem_map_of_mem hq)
      obtain ⟨j, hj, ej⟩ := List.getElem_of_mem hq
      have hk := h9 (j + 1) (by simp; omega) (Or.inl (by omega))
      have ew : wg (p :: ps, g) (j + 1) = q := by
        unfold wg
        rw [List.getD_eq_getElem?_getD]
        simp [hj, ej]
      rw [ew] at hk
      have hle := (h6 q (List.mem_cons_of_mem _ hq)).2.2.1
      rcases hk with hk | hk
      · omega
      · refine ⟨?_, by omega⟩
        rcases Nat.lt_or_ge (q.1 - 1) (lowK (kpt un) nc) with h | h
        · have := (lowK_spec (kpt un) nc).2.1 _ h
          rw [this] at hk
          cases hk
        · omega
/-- what a confirmed unit takes out of WAITING -/
def cutW (w : Wt) (o : Nat) : Wt := match w.1 with
  | [] => w
  | p :: ps => if p.1 = o ∧ w.2 = 0 then (ps.filter (fun q => decide (q.1 ≠ o)), 0) else (p :: ps.filter (fun q => decide (q.1 ≠ o)), w.2)
def unK (un : Nat → Un) (c : Nat) : Nat → Un := fun d => if d = c then ((un c).1, (un c).2.1, false) else un d
theorem kpt_unK {un : Nat → Un} {c : Nat} : kpt (unK un c) = bup (kpt un) c false := by
  funext d
  unfold kpt unK bup
  by_cases e : d = c
  · simp [e]
  · simp [e]
def Fob (o : Nat) (σ σ' : Sg) : Prop := ∀ d, d < o ∨ o + 8 ≤ d → σ' d = σ d
theorem cf_low {o nc : Nat} {kp : Nat → Bool} {Q : Sg → Prop} (hn : nc < 2 ^ 17) : ∀ (m c i : Nat) (σ : Sg), c + m = nc → i + m ≤ 31 → σ o 7 = nI nc → σ o 6 = nI c → (∀ k, c ≤ k → k < nc → σ (o + 3) (k % 32) = b01 (kp k)) → (∀ σ' : Sg, σ' o 6 = nI (lowF kp m c) → (∀ k, k ≠ 6 → σ' o k = σ o k) → (∀ d, d ≠ o → σ' d = σ d) → Q σ') → wpX4_confirmUnit_L90 Q (m + 1) o (nI i) σ := by
  intro m
  induction m with
  | zero =>
    intro c i σ hc hi h7 h6 hk h
    unfold wpX4_confirmUnit_L90
    rw [h7, h6]
    have hQ : Q σ := h σ h6 (fun _ _ => rfl) (fun _ _ => rfl)
    refine pk_le 32 i (fun _ => hQ) (fun _ => brt (nI_le (by omega) (by omega)) hQ)
  | succ m ih =>
    intro c i σ hc hi h7 h6 hk h
    unfold wpX4_confirmUnit_L90
    rw [h7, h6, a31 (by omega), nI_clamp (by omega), hk c (Nat.le_refl _) (by omega)]
    refine pk_le 32 i (fun hx => by omega) (fun _ => brf (nI_ge (by omega) (by omega)) ⟨vin rfl (by omega) (by decide), br01' (fun e => ?_) (fun e => ?_)⟩)
    · rintro _ rfl _ rfl
      rw [nI_1, nI_1]
      refine ih (c + 1) (i + 1) _ (by omega) (by omega) ?_ ?_ (fun k h1 h2 => ?_) (fun σ' g1 g2 g3 => h σ' ?_ (fun k hk => ?_) (fun d hd => ?_))
      · rw [up2_e, if_neg (by omega)]; exact h7
      · rw [up2_e, if_pos ⟨rfl, rfl⟩]
      · rw [up2_o (by omega)]; exact hk k (by omega) h2
      · rw [g1, lowF, if_neg (by simp [e])]
      · rw [g2 k hk, up2_e, if_neg (by omega)]
      · rw [g3 d hd, up2_o hd]
    · refine h σ ?_ (fun _ _ => rfl) (fun _ _ => rfl)
      rw [h6, lowF, if_pos e]
/-- the loop over the packets that wait: those behind i are as they were, s have been put in front -/
theorem cf_ids {o cc g : Nat} {Q : Sg → Prop} (hcc : cc < 2 ^ 17) (L : List (Nat × List Int32)) (hL : L.length ≤ 26) (hO : ∀ p ∈ L, p.1 < 2 ^ 18) (hg : g < 2 ^ 17) : ∀ (r : List (Nat × List Int32)) (pre don : List (Nat × List Int32)) (σ : Sg), pre ++ r = L → don.length ≤ pre.length → σ o 9 = nI L.length → σ o 12 = nI g → (∀ j, j < don.length → σ (o + 5) j = nI (don.getD j (0, [])).1 - 1) → (∀ j, pre.length ≤ j → j < L.length → σ (o + 5) j = nI (L.getD j (0, [])).1 - 1) → (∀ (σ' : Sg) (fin : List (Nat × List Int32)), fin = don ++ r.filter (fun q => decide (q.1 ≠ cc + 1)) ∨ (pre = [] ∧ 0 < g ∧ ∃ p ps, r = p :: ps ∧ p.1 = cc + 1 ∧ fin = don ++ p :: ps.filter (fun q => decide (q.1 ≠ cc + 1))) → (pre = [] → 0 < g → ∀ p ps, r = p :: ps → p.1 = cc + 1 → fin = don ++ p :: ps.filter (fun q => decide (q.1 ≠ cc + 1))) → (∀ j, j < fin.length → σ' (o + 5) j = nI (fin.getD j (0, [])).1 - 1) → (∀ d, d ≠ o + 5 → σ' d = σ d) → fin.length ≤ L.length → wpX4_confirmUnit_L83 Q o (nI fin.length) σ') → wpX4_confirmUnit_L24 Q (r.length + 1) o (nI cc) (nI don.length) (nI pre.length) σ := by
  intro r
  induction r with
  | nil =>
    intro pre don σ hL2 hd h9 h12 hdon hrest h
    rw [List.append_nil] at hL2
    subst hL2
    unfold wpX4_confirmUnit_L24
    rw [h9]
    refine brt (nI_le (Nat.le_refl _) (by omega)) (h σ don (Or.inl ?_) (fun _ _ p ps hh => by cases hh) hdon (fun _ _ => rfl) hd)
    rw [List.filter_nil, List.append_nil]
  | cons p r ih =>
    intro pre don σ hL2 hd h9 h12 hdon hrest h
    have hlen : L.length = pre.length + (r.length + 1) := by rw [← hL2]; simp
    have hp : p ∈ L := by rw [← hL2]; simp
    have hget : L.getD pre.length (0, []) = p := by
      rw [← hL2, List.getD_eq_getElem?_getD, List.getElem?_append_right (Nat.le_refl _), Nat.sub_self]
      rfl
    have hp1 := hO p hp
    have hr1 : (pre ++ [p]).length = pre.length + 1 := by simp
    -- the packet stays
    have stay : ∀ hno : pre = [] ∧ 0 < g ∧ p.1 = cc + 1 ∨ p.1 ≠ cc + 1, wpX4_confirmUnit_L62 Q (wpX4_confirmUnit_L24 Q (r.length + 1)) o (nI cc) (nI don.length) (nI pre.length) σ := by
      intro hno
      unfold wpX4_confirmUnit_L62
      rintro _ rfl
      refine ⟨vin rfl (by omega) (by decide), vin rfl (by omega) (by decide), ?_⟩
      rintro _ rfl
      rw [nI_clamp (by omega), nI_clamp (by omega), hrest pre.length (Nat.le_refl _) (by omega), hget]
      unfold wpX4_confirmUnit_L77
      rintro _ rfl
      rw [nI_1, nI_1]
      have := ih (pre ++ [p]) (don ++ [p]) (up2 σ (o + 5) don.length (nI p.1 - 1)) (by rw [List.append_assoc]; exact hL2) (by simp; exact hd) (by rw [up2_o (by omega)]; exact h9) (by rw [up2_o (by omega)]; exact h12) ?_ ?_ ?_
      · rw [hr1, show (don ++ [p]).length = don.length + 1 by simp] at this
        exact this
      · intro j hj
        rw [List.length_append, List.length_singleton] at hj
        rw [up2_e]
        by_cases e : j = don.length
        · subst e
          rw [if_pos ⟨rfl, rfl⟩, List.getD_eq_getElem?_getD, List.getElem?_append_right (Nat.le_refl _), Nat.sub_self]
          rfl
        · rw [if_neg (fun h => e h.2), hdon j (by omega), List.getD_eq_getElem?_getD, List.getD_eq_getElem?_getD, List.getElem?_append_left (by omega)]
      · intro j h1 h2
        rw [hr1] at h1
        rw [up2_e, if_neg (by omega)]
        exact hrest j (by omega) h2
      · intro σ' fin hf hf2 hj hd' hle
        have hfin : fin = don ++ [p] ++ r.filter (fun q => decide (q.1 ≠ cc + 1)) := by
          rcases hf with hf | ⟨hx, -⟩
          · exact hf
          · have := congrArg List.length hx
            rw [hr1] at this
            exact absurd this (by simp)
        refine h σ' fin ?_ ?_ hj (fun d hd9 => by rw [hd' d hd9, up2_o hd9]) hle
        · rcases hno with ⟨n1, n2, n3⟩ | hne
          · exact Or.inr ⟨n1, n2, p, r, rfl, n3, by rw [hfin, List.append_assoc]; rfl⟩
          · refine Or.inl ?_
            rw [hfin, List.append_assoc, List.filter_cons, if_pos (by simpa using hne)]
            rfl
        · intro _ _ p' ps' hpp _
          cases hpp
          rw [hfin, List.append_assoc]
          rfl
    have goes : p.1 = cc + 1 → ¬ (pre = [] ∧ 0 < g) → wpX4_confirmUnit_L77 Q (wpX4_confirmUnit_L24 Q (r.length + 1)) o (nI cc) (nI don.length) (nI pre.length) σ := by
      intro he hnn
      unfold wpX4_confirmUnit_L77
      rintro _ rfl
      rw [nI_1]
      have := ih (pre ++ [p]) don σ (by rw [List.append_assoc]; exact hL2) (by rw [hr1]; omega) h9 h12 hdon (fun j h1 h2 => hrest j (by rw [hr1] at h1; omega) h2) ?_
      · rw [hr1] at this
        exact this
      · intro σ' fin hf hf2 hj hd' hle
        have hfin : fin = don ++ r.filter (fun q => decide (q.1 ≠ cc + 1)) := by
          rcases hf with hf | ⟨hx, -⟩
          · exact hf
          · have := congrArg List.length hx
            rw [hr1] at this
            exact absurd this (by simp)
        refine h σ' fin (Or.inl ?_) (fun q1 q2 => absurd ⟨q1, q2⟩ hnn) hj hd' hle
        rw [hfin, List.filter_cons, if_neg (by simp [he])]
    show wpX4_confirmUnit_L24 Q (r.length + 1 + 1) o (nI cc) (nI don.length) (nI pre.length) σ
    unfold wpX4_confirmUnit_L24
    rw [h9, h12]
    refine brf (nI_ge (by omega) (by omega)) (brf (nI_ge (by omega) (by decide)) ⟨vin rfl (by omega) (by decide), ?_⟩)
    rw [nI_clamp (by omega), hrest pre.length (Nat.le_refl _) (by omega), hget]
    have hid : (nI p.1 - 1 = nI cc) ↔ p.1 = cc + 1 := by
      constructor
      · intro e
        have e2 : nI p.1 = nI (cc + 1) := by
          rw [← nI_1, ← e, Int32.sub_add_cancel]
        exact (nI_eq (by omega) (by omega)).mp e2
      · intro e
        rw [e]
        exact nI_pred cc
    refine ⟨fun hne => stay (Or.inr (fun e => hne (hid.mpr e))), fun he => ?_⟩
    have he := hid.mp he
    refine ⟨fun h0 => goes he (fun hh => h0 (by rw [hh.1]; rfl)), fun h0 => ?_⟩
    have hpre : pre = [] := by
      have : pre.length = 0 := (nI_eq (by omega) (by decide)).mp h0
      exact List.eq_nil_of_length_eq_zero this
    refine pk_le g 0 (fun hg0 => goes he (fun hh => by omega)) (fun hg0 => stay (Or.inl ⟨hpre, hg0, he⟩))
