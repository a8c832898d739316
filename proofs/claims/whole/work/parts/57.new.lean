/-! PURE: DATA made new, in the class -/
def mnC (l : List Cel) : Nat := if 0 < l.length ∧ lasF l (l.length - 1) = true then 2 else 1
def mnF : Nat → Nat → List Cel → Wt → List Cel × Wt
  | 0, _, l, w => (l, w)
  | m + 1, left, l, w => if w.1.length = 0 then (l, w) else if left < mnC l then (l, w) else mnF m (left - mnC l) (l ++ [celP (wg w 0) w.2]) (pop w)
def cstL (l : List Cel) : Nat := l.length + cnt (lasF l) 0 (l.length - 1)
theorem lasF_app {l : List Cel} {q : Cel} {k : Nat} (h : k < l.length) : lasF (l ++ [q]) k = lasF l k := by
  unfold lasF
  rw [gc_app h]
theorem cstL_app {l : List Cel} {q : Cel} : cstL (l ++ [q]) = cstL l + mnC l := by
  unfold cstL mnC
  rw [List.length_append, List.length_singleton, Nat.add_sub_cancel, cnt_congr (g := lasF l) l.length (fun k _ hk => lasF_app (by omega))]
  cases hl : l.length with
  | zero => simp [cnt]
  | succ n =>
    rw [Nat.add_sub_cancel]
    show n + 1 + 1 + (cnt (lasF l) 0 n + if lasF l (0 + n) = true then 1 else 0) = n + 1 + cnt (lasF l) 0 n + _
    rw [Nat.zero_add]
    by_cases e : lasF l n = true
    · rw [if_pos e, if_pos ⟨by omega, e⟩]
      omega
    · rw [if_neg e, if_neg (fun hh => e hh.2)]
      omega
theorem mnF_spec : ∀ (m left : Nat) (l : List Cel) (w : Wt), cstL (mnF m left l w).1 ≤ cstL l + left ∧ l.length ≤ (mnF m left l w).1.length ∧ (mnF m left l w).1.length ≤ l.length + m
  | 0, left, l, w => ⟨Nat.le_add_right _ _, Nat.le_refl _, Nat.le_refl _⟩
  | m + 1, left, l, w => by
    unfold mnF
    by_cases e : w.1.length = 0
    · rw [if_pos e]
      exact ⟨Nat.le_add_right _ _, Nat.le_refl _, Nat.le_add_right _ _⟩
    · rw [if_neg e]
      by_cases e2 : left < mnC l
      · rw [if_pos e2]
        exact ⟨Nat.le_add_right _ _, Nat.le_refl _, Nat.le_add_right _ _⟩
      · rw [if_neg e2]
        obtain ⟨a, b, c⟩ := mnF_spec m (left - mnC l) (l ++ [celP (wg w 0) w.2]) (pop w)
        rw [cstL_app] at a
        rw [List.length_append, List.length_singleton] at b c
        exact ⟨by omega, by omega, by omega⟩
theorem mnF_pos {m left : Nat} {w : Wt} (hm : 0 < m) (hl : 1 ≤ left) (hw : ¬ w.1.length = 0) : 1 ≤ (mnF m left [] w).1.length := by
  cases m with
  | zero => omega
  | succ m =>
    unfold mnF
    have e : mnC [] = 1 := by unfold mnC; simp
    rw [if_neg hw, e, if_neg (by omega)]
    have := (mnF_spec m (left - 1) ([] ++ [celP (wg w 0) w.2]) (pop w)).2.1
    simpa using this
def mnA : Nat → Bool := fun _ => false
theorem ObC.of11 {σ σ' : Sg} {o mk nc : Nat} {un : Nat → Un} {w : Wt} (h : ObC σ o mk nc un w) (hg : w.2 = 0) (h0 : ∀ k, k ≠ 11 → σ' o k = σ o k) (hd : ∀ d, o < d → d < o + 8 → d ≠ o + 6 → σ' d = σ d) : ObC σ' o mk nc un w := by
  obtain ⟨c0, c7, c6, c5, cU, cW⟩ := h
  refine ⟨by rw [h0 0 (by decide)]; exact c0, by rw [h0 7 (by decide)]; exact c7, by rw [h0 6 (by decide)]; exact c6, by rw [h0 5 (by decide)]; exact c5, fun c h1 h2 => ?_, by rw [h0 9 (by decide)]; exact cW.1, by rw [h0 12 (by decide)]; exact cW.2.1, fun j hj => by rw [hd (o + 5) (by omega) (by omega) (by omega)]; exact cW.2.2.1 j hj, fun h9 => by omega, fun p hp hp0 => by rw [h0 14 (by decide), hd (o + 7) (by omega) (by omega) (by omega)]; exact cW.2.2.2.2 p hp hp0⟩
  rw [hd (o + 3) (by omega) (by omega) (by omega)]
  exact ⟨(cU c h1 h2).1, fun hk => ((cU c h1 h2).2 hk).of (hd (o + 1) (by omega) (by omega) (by omega)) (by rw [hd (o + 2) (by omega) (by omega) (by omega)]) (by rw [hd (o + 4) (by omega) (by omega) (by omega)])⟩
theorem mn54 {c a p mk nc : Nat} {un : Nat → Un} {key : Nat → Int32} {Q : Sg → Prop} {σ0 : Sg} (hc : 9 ≤ c) (hcp : c + 10 ≤ p ∧ p + 1 < c + 42) : ∀ (m : Nat) (left : Nat) (l : List Cel) (w : Wt) (σ : Sg), l.length + m = 240 → left < 2 ^ 20 → PcC σ p l mnA → ObC σ (c + 2) mk nc un w → ObV nc un w → ObK (ksS key mk) un w → σ 4 = key → (∀ j, j ≠ 1 → σ p j = σ0 p j) → (∀ d, d < c + 2 ∨ c + 10 ≤ d → d ≠ p → d ≠ p + 1 → d ≠ 5 → d ≠ 6 → σ d = σ0 d) → (∀ σ' : Sg, PcC σ' p (mnF m left l w).1 mnA → ObC σ' (c + 2) mk nc un (mnF m left l w).2 → (∀ j, j ≠ 1 → σ' p j = σ0 p j) → (∀ d, d < c + 2 ∨ c + 10 ≤ d → d ≠ p → d ≠ p + 1 → d ≠ 5 → d ≠ 6 → σ' d = σ0 d) → wpX7_makeNew_L141 sbT Q c a p σ') → wpX7_makeNew_L54 sbT Q (m + 1) c a 3 p (nI left) (nI l.length) σ := by
  intro m
  induction m with
  | zero =>
    intro left l w σ hm hlf hP hC hV hK h4 hj hF h
    unfold wpX7_makeNew_L54
    exact pk_le 240 l.length (fun _ => h σ hP hC hj hF) (fun hh => by omega)
  | succ m ih =>
    intro left l w σ hm hlf hP hC hV hK h4 hj hF h
    have hwl := hV.len
    unfold wpX7_makeNew_L54
    rw [hC.2.2.2.2.2.1]
    refine pk_le 240 l.length (fun hh => by omega) (fun _ => pk_le w.1.length 0 (fun h0 => ?_) (fun h0 => ?_))
    · have e : mnF (m + 1) left l w = (l, w) := by unfold mnF; rw [if_pos (by omega)]
      rw [e] at h
      exact h σ hP hC hj hF
    · have hne : ¬ w.1.length = 0 := by omega
      have hmem := wg_mem (w := w) (j := 0) (by omega)
      -- the byte that comes
      have L94 : ∀ cst9 : Nat, cst9 = mnC l → wpX7_makeNew_L94 sbT Q (wpX7_makeNew_L54 sbT Q (m + 1)) c a 3 p (nI l.length) (nI cst9) (nI left) σ := by
        intro cst9 hcst
        have hmc : mnC l ≤ 2 := by unfold mnC; split <;> omega
        unfold wpX7_makeNew_L94
        rintro _ rfl
        rcases Nat.lt_or_ge left cst9 with hlt | hge
        · have e : mnF (m + 1) left l w = (l, w) := by unfold mnF; rw [if_neg hne, if_pos (by omega)]
          rw [e] at h
          refine brf (fun hh => ?_) (h σ hP hC hj hF)
          have h1 := pk_sneg (a := left) (b := cst9) (by omega) hlt
          exact absurd h1 (Int32.not_lt.mpr hh)
        · have e : mnF (m + 1) left l w = mnF m (left - mnC l) (l ++ [celP (wg w 0) w.2]) (pop w) := by
            rw [mnF, if_neg hne, if_neg (by omega)]
          rw [e] at h
          rw [pk_sub hge]
          refine brt (nI_pos' (by omega)) ?_
          -- with the front opened
          have L123 : ∀ σ1 : Sg, ObC σ1 (c + 2) mk nc un w → FrC σ1 (c + 2) (wg w 0) → PcC σ1 p l mnA → σ1 4 = key → (∀ j, j ≠ 1 → σ1 p j = σ0 p j) → (∀ d, d < c + 2 ∨ c + 10 ≤ d → d ≠ p → d ≠ p + 1 → d ≠ 5 → d ≠ 6 → σ1 d = σ0 d) → wpX7_makeNew_L123 sbT Q (wpX7_makeNew_L54 sbT Q (m + 1)) c a 3 p (nI (left - cst9)) (nI l.length) σ1 := by
            intro σ1 hC1 hFr hP1 h41 hj1 hF1
            unfold wpX7_makeNew_L123
            refine takeCell_ok hC1 hV (by omega) hFr (fun σ2 g1 g2 => ?_)
            have hgl : w.2 < (wg w 0).2.length := by
              obtain ⟨w1, g⟩ := w
              cases w1 with
              | nil => exact absurd rfl hne
              | cons p1 ps => exact hV.2.2.2.2.2.2.1 p1 ps rfl
            have hcel := celP_ok hV hmem hgl
            have hP2 : PcC σ2 p l mnA := hP1.of (by rw [g2 _ (by omega)]) (by rw [g2 _ (by omega)]) (g2 _ (by omega))
            refine append_ok hP2 (by omega) hcel rfl (fun σ3 k1 k2 k3 => ?_)
            rintro _ rfl
            rw [nI_1]
            have hl1 : (l ++ [celP (wg w 0) w.2]).length = l.length + 1 := by simp
            have := ih (left - cst9) (l ++ [celP (wg w 0) w.2]) (pop w) σ3 (by rw [hl1]; omega) (by omega) k1 (g1.of (fun d d1 d2 => k3 d (by omega) (by omega))) (obV_pop hV) (obK_pop hK) ?_ (fun j hj9 => ?_) (fun d d1 d2 d3 d4 d5 => ?_) (by rw [hcst]; exact h)
            · rw [hl1] at this
              exact this
            · rw [k3 4 (by omega) (by omega), g2 4 (by omega)]; exact h41
            · rw [k2 j hj9, g2 p (by omega)]; exact hj1 j hj9
            · rw [k3 d d2 d3, g2 d (by omega)]; exact hF1 d d1 d2 d3 d4 d5
          rw [hC.2.2.2.2.2.2.1]
          refine ⟨fun hg => ?_, fun hg => ?_⟩
          · have hg : ¬ w.2 = 0 := fun hh => hg (by rw [hh]; rfl)
            exact L123 σ hC (hC.2.2.2.2.2.2.2.2.1 (by omega)) hP h4 hj hF
          · have hgb : w.2 < 2 ^ 31 := by
              obtain ⟨w1, g⟩ := w
              cases w1 with
              | nil => exact absurd rfl hne
              | cons p1 ps =>
                have h1 := hV.2.2.2.2.2.2.1 p1 ps rfl
                have h2 := (hV.2.2.2.2.2.1 p1 (List.mem_cons_self ..)).2.1
                have h1 : g < p1.2.length := h1
                show g < 2 ^ 31
                omega
            have hg : w.2 = 0 := (nI_eq (a := w.2) (b := 0) hgb (by decide)).mp hg
            refine openFront_ok hC hV (by rw [show σ (3 + 1) = key from h4]; exact hK) (by omega) hg (by omega) (fun σ1 g1 g2 g3 => ?_)
            refine L123 σ1 (hC.of11 hg g2 (fun d d1 d2 d3 => g3 d (by omega) (by omega) (by omega) (by omega))) g1 (hP.of ?_ ?_ ?_) ?_ (fun j hj9 => ?_) (fun d d1 d2 d3 d4 d5 => ?_)
            · rw [g3 p (by omega) (by omega) (by omega) (by omega)]
            · rw [g3 p (by omega) (by omega) (by omega) (by omega)]
            · exact g3 _ (by omega) (by omega) (by omega) (by omega)
            · rw [g3 4 (by omega) (by omega) (by omega) (by omega)]; exact h4
            · rw [g3 p (by omega) (by omega) (by omega) (by omega)]; exact hj j hj9
            · rw [g3 d (by omega) (by omega) (by omega) (by omega)]; exact hF d d1 d2 d3 d4 d5
      cases hl : l.length with
      | zero =>
        rw [hl] at L94
        have e : nI 0 - 1 = (-1 : Int32) := m1z.symm
        rw [e]
        refine has_neg (brt rfl ?_)
        exact L94 1 (by unfold mnC; rw [if_neg (by omega)])
      | succ n =>
        rw [hl] at L94
        rw [nI_pred]
        refine has_ok (by omega) ?_
        rw [hP.la (by omega)]
        have e : mnC l = if lasF l n = true then 2 else 1 := by
          unfold mnC
          rw [hl, Nat.add_sub_cancel]
          by_cases e : lasF l n = true
          · rw [if_pos ⟨by omega, e⟩, if_pos e]
          · rw [if_neg (fun hh => e hh.2), if_neg e]
        refine br01 (fun ef => ?_) (fun ef => ?_)
        · exact L94 1 (by rw [e, if_neg (by unfold lasF; rw [ef]; decide)])
        · exact L94 2 (by rw [e, if_pos (show lasF l n = true from ef)])
def newV (v : Nat → Nat) : Nat → Nat := vup v 5 (v 5 + 1)
def newL (room : Nat) (w : Wt) : List Cel × Wt := mnF 240 (room - 2) [] w
theorem makeNew_ok {σ : Sg} {c a room mk nc : Nat} {v : Nat → Nat} {bk : Int32} {pc : Nat → Pce} {un : Nat → Un} {w : Wt} {bs : List Int32} {Q : Sg → Prop} (hS : SnS σ c v bk) (hb : SvB v) (hS1 : v 5 + 1 < 2 ^ 20) (hP : SpsC σ c (v 4) (v 5) pc) (h45 : v 4 ≤ v 5) (hC : ObC σ (c + 2) mk nc un w) (hV : ObV nc un w) (hK : ObK (ksS (σ 4) mk) un w) (hc : 9 ≤ c) (hca : c + 42 ≤ a) (hA : Air σ a bs) (hroom : bs.length + room ≤ 250) (hn : w.1.length = 0 ∨ v 4 + 16 ≤ v 5 ∨ room < 3 → Q σ) (h : ¬ (w.1.length = 0 ∨ v 4 + 16 ≤ v 5 ∨ room < 3) → ∀ σ' : Sg, SnS σ' c (cdV (newV v) (newL room w).2.1.length) bk → SpsC σ' c (v 4) (v 5 + 1) (spu pc (v 5) ((newL room w).1, mnA, 0, false)) → ObC σ' (c + 2) mk nc un (newL room w).2 → Air σ' a (bs ++ datL (newL room w).1 (v 5) 0 (newL room w).1.length false (polB (newV v) (newL room w).2.1.length)) → (∀ d, d < c ∨ c + 42 ≤ d → d ≠ a → d ≠ a + 1 → d ≠ 5 → d ≠ 6 → σ' d = σ d) → Q σ') : wpX7_makeNew sbT c a (nI room) 3 σ Q := by
  have b4 := hb 4 (by decide) (by decide)
  have b5 := hb 5 (by decide) (by decide)
  have hwl := hV.len
  unfold wpX7_makeNew
  rw [hC.2.2.2.2.2.1, hS.1 5 (by decide) (by decide) (by decide) (by decide), hS.1 4 (by decide) (by decide) (by decide) (by decide), pk_sub h45]
  refine ⟨fun h0 => hn (Or.inl ((nI_eq (a := w.1.length) (b := 0) (by omega) (by decide)).mp h0)), fun h0 => pk_le 16 (v 5 - v 4) (fun h9 => hn (Or.inr (Or.inl (by omega)))) (fun h9 => pk_le 3 room (fun h3 => ?_) (fun h3 => hn (Or.inr (Or.inr (by omega)))))⟩
  have h0 : ¬ w.1.length = 0 := fun hh => h0 (by rw [hh]; rfl)
  have h := h (by omega)
  unfold wpX7_pieceAt
  rw [a15 (by omega), nI_clamp (by omega)]
  refine ⟨vin rfl (by omega) (by decide), ?_⟩
  rintro _ rfl
  have hcp : c + 10 ≤ c + 10 + 2 * (v 5 % 16) ∧ c + 10 + 2 * (v 5 % 16) + 1 < c + 42 := by omega
  have hoth : ∀ y, v 4 ≤ y → y < v 5 → c + 10 + 2 * (y % 16) ≠ c + 10 + 2 * (v 5 % 16) ∧ c + 10 + 2 * (y % 16) + 1 ≠ c + 10 + 2 * (v 5 % 16) ∧ c + 10 + 2 * (y % 16) ≠ c + 10 + 2 * (v 5 % 16) + 1 := by
    intro y y1 y2
    omega
  generalize ep : c + 10 + 2 * (v 5 % 16) = p at *
  refine clear_ok (fun σ1 g1 g2 g3 g4 g5 g6 g7 => ?_)
  have e2 : nI room - 2 = nI (room - 2) := pk_sub (a := room) (b := 2) (by omega)
  rw [e2]
  rintro _ rfl
  have hP1 : PcC σ1 p [] mnA := ⟨g2, by simp, by rw [g3]; rfl, (fun q hq => by cases hq), (fun k hk => absurd hk (Nat.not_lt_zero k))⟩
  have hC1 : ObC σ1 (c + 2) mk nc un w := hC.of (fun d d1 d2 => g7 d (by omega) (by omega))
  have e41 : σ1 4 = σ 4 := g7 4 (by omega) (by omega)
  obtain ⟨s1, s2, s3⟩ := mnF_spec 240 (room - 2) [] w
  have s4 := mnF_pos (m := 240) (left := room - 2) (w := w) (by decide) (by omega) h0
  have es : cstL [] = 0 := rfl
  rw [es, Nat.zero_add] at s1
  refine ⟨241, mn54 (σ0 := σ1) (key := σ 4) hc hcp 240 (room - 2) [] w σ1 rfl (by omega) hP1 hC1 hV hK e41 (fun _ _ => rfl) (fun _ _ _ _ _ _ => rfl) (fun σ2 k1 k2 k3 k4 => ?_)⟩
  have enl : newL room w = mnF 240 (room - 2) [] w := rfl
  rw [← enl] at s1 s2 s3 s4 k1 k2
  have hl240 := k1.2.1
  generalize hL : (newL room w).1 = l at *
  generalize hW : (newL room w).2 = w' at *
  have hS2 : SnS σ2 c v bk := hS.of (by rw [k4 c (by omega) (by omega) (by omega) (by omega) (by omega), g7 c (by omega) (by omega)])
  have hV' : w'.1.length ≤ 25 := by
    have key : ∀ (m left : Nat) (l : List Cel) (w : Wt), ObV nc un w → ObV nc un (mnF m left l w).2 := by
      intro m
      induction m with
      | zero => intro left l w h; exact h
      | succ m ih =>
        intro left l w h
        unfold mnF
        split
        · exact h
        · split
          · exact h
          · exact ih _ _ _ (obV_pop h)
    have := key 240 (room - 2) [] w hV
    rw [← enl, hW] at this
    exact this.len
  unfold wpX7_makeNew_L141
  rw [hS2.1 5 (by decide) (by decide) (by decide) (by decide), nI_1]
  rintro _ rfl
  have hS3 := hS2.put (k := 5) (x := v 5 + 1) (by decide) (by decide)
  have en5 : up2 σ2 c 5 (nI (v 5 + 1)) c 5 = nI (v 5 + 1) := by rw [up2_e, if_pos ⟨rfl, rfl⟩]
  have en1 : up2 σ2 c 5 (nI (v 5 + 1)) p 1 = nI l.length := by rw [up2_o (by omega)]; exact k1.1
  rw [en5, en1, nI_pred]
  have ew : up2 σ2 c 5 (nI (v 5 + 1)) (c + 2) 9 = nI w'.1.length := by rw [up2_o (by omega)]; exact k2.2.2.2.2.2.1
  refine countData_ok (v := newV v) (wl := w'.1.length) hS3 (hb.put hS1) ?_ ew (by omega) (fun σ4 j1 j2 => ?_)
  · unfold newV
    rw [vup_o (by decide), vup_s]
    omega
  · have hF4 : ∀ d, d ≠ c → σ4 d = σ2 d := fun d hd => by rw [j2 d hd, up2_o hd]
    have hP4 : PcC σ4 p l mnA := k1.of (by rw [hF4 _ (by omega)]) (by rw [hF4 _ (by omega)]) (hF4 _ (by omega))
    have hF24 : ∀ d, d < c + 2 ∨ c + 10 ≤ d → d ≠ c → d ≠ p → d ≠ p + 1 → d ≠ 5 → d ≠ 6 → σ4 d = σ d := fun d d1 d2 d3 d4 d5 d6 => by rw [hF4 d d2, k4 d d1 d3 d4 d5 d6, g7 d d3 d4]
    have hA4 : Air σ4 a bs := hA.of (by rw [hF24 _ (by omega) (by omega) (by omega) (by omega) (by omega) (by omega)]) (by rw [hF24 _ (by omega) (by omega) (by omega) (by omega) (by omega) (by omega)])
    have epart : decide (0 < 0 ∨ l.length < l.length) = false := decide_eq_false (by omega)
    have hdl := datL_len (l := l) (x := v 5) (fr := 0) (to := l.length) (part := false) (poll := polB (newV v) w'.1.length)
    have hb0 : b2n false = 0 := rfl
    unfold cstL at s1
    have hw := writeData_ok (fr := 0) (x := v 5) (poll := polB (newV v) w'.1.length) (Q := Q) hP4 hA4 (by omega) (by omega) (by omega) (Nat.le_refl _) (by rw [epart, hdl, hb0, Nat.sub_zero, Nat.sub_zero]; omega) (fun σ5 q1 q2 => ?_)
    · exact hw
    · rw [epart] at q1
      refine h σ5 (j1.of (q2 c (by omega) (by omega))) (fun y y1 y2 => ?_) (k2.of (fun d d1 d2 => by rw [q2 d (by omega) (by omega), hF4 d (by omega)])) q1 (fun d d1 d2 d3 d4 d5 => by rw [q2 d d2 d3, hF24 d (by omega) (by omega) (by omega) (by omega) d4 d5])
      by_cases e : y = v 5
      · subst e
        rw [spu_s, ep]
        refine ⟨?_, ?_, fun e => (by cases e), fun _ => hP4.of (by rw [q2 _ (by omega) (by omega)]) (by rw [q2 _ (by omega) (by omega)]) (q2 _ (by omega) (by omega))⟩
        · rw [q2 p (by omega) (by omega), hF4 p (by omega), k3 3 (by decide)]; exact g4
        · rw [q2 p (by omega) (by omega), hF4 p (by omega), k3 4 (by decide)]; exact g5
      · rw [spu_o e]
        obtain ⟨o1, o2, o3⟩ := hoth y y1 (by omega)
        have e0 : ∀ d, d = c + 10 + 2 * (y % 16) ∨ d = c + 10 + 2 * (y % 16) + 1 → σ5 d = σ d := fun d hd => by
          rw [q2 d (by omega) (by omega), hF24 d (by omega) (by omega) (by omega) (by omega) (by omega) (by omega)]
        exact (hP y y1 (by omega)).of (fun k _ => by rw [e0 _ (Or.inl rfl)]) (e0 _ (Or.inr rfl))
