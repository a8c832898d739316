/-! PURE: what waits, as one row of bytes -/
def pkC (p : Nat × List Int32) : List Cel := (List.range p.2.length).map (celP p)
def flL : List (Nat × List Int32) → List Cel
  | [] => []
  | p :: ps => pkC p ++ flL ps
def fltW (w : Wt) : List Cel := (flL w.1).drop w.2
theorem pkC_len {p : Nat × List Int32} : (pkC p).length = p.2.length := by
  unfold pkC
  rw [List.length_map, List.length_range]
theorem pkC_get {p : Nat × List Int32} {k : Nat} (h : k < p.2.length) : gc (pkC p) k = celP p k := by
  unfold gc pkC
  rw [List.getD_eq_getElem?_getD, List.getElem?_map, List.getElem?_range h]
  rfl
theorem flL_app : ∀ a b, flL (a ++ b) = flL a ++ flL b
  | [], _ => rfl
  | p :: a, b => by
    show pkC p ++ flL (a ++ b) = (pkC p ++ flL a) ++ flL b
    rw [flL_app a b, List.append_assoc]
theorem flL_len : ∀ l, (flL l).length = sumL l
  | [] => rfl
  | p :: l => by
    show (pkC p ++ flL l).length = p.2.length + sumL l
    rw [List.length_append, pkC_len, flL_len l]
theorem fltW_len {w : Wt} : (fltW w).length = wLen w := by
  unfold fltW wLen
  rw [List.length_drop, flL_len]
theorem sumL_le : ∀ l : List (Nat × List Int32), (∀ p ∈ l, p.2.length ≤ 121) → sumL l ≤ 121 * l.length
  | [], _ => Nat.le_refl _
  | p :: l, h => by
    have h1 := h p (List.mem_cons_self ..)
    have h2 := sumL_le l (fun q hq => h q (List.mem_cons_of_mem _ hq))
    show p.2.length + sumL l ≤ 121 * (l.length + 1)
    omega
theorem fltW_lt {nc : Nat} {un : Nat → Un} {w : Wt} (hV : ObV nc un w) : (fltW w).length ≤ 3025 := by
  rw [fltW_len]
  unfold wLen
  have h1 := hV.len
  have h2 := sumL_le w.1 (fun p hp => (hV.2.2.2.2.2.1 p hp).2.1)
  omega
theorem gc_drop {l : List Cel} {n k : Nat} : gc (l.drop n) k = gc l (n + k) := by
  unfold gc
  rw [List.getD_eq_getElem?_getD, List.getElem?_drop, ← List.getD_eq_getElem?_getD]
theorem flL_own : ∀ (l : List (Nat × List Int32)) (k : Nat), k < (flL l).length → ∃ p ∈ l, ∃ j, j < p.2.length ∧ gc (flL l) k = celP p j
  | [], k, h => by simp [flL] at h
  | p :: l, k, h => by
    have h : k < (pkC p ++ flL l).length := h
    rw [List.length_append, pkC_len] at h
    by_cases e : k < p.2.length
    · refine ⟨p, List.mem_cons_self .., k, e, ?_⟩
      show gc (pkC p ++ flL l) k = _
      rw [gc_l (by rw [pkC_len]; exact e), pkC_get e]
    · obtain ⟨q, hq, j, hj, ej⟩ := flL_own l (k - p.2.length) (by omega)
      refine ⟨q, List.mem_cons_of_mem _ hq, j, hj, ?_⟩
      show gc (pkC p ++ flL l) k = _
      rw [gc_r (by rw [pkC_len]; omega), pkC_len]
      exact ej
theorem fltW_own {nc : Nat} {un : Nat → Un} {w : Wt} (hV : ObV nc un w) {k : Nat} (h : k < (fltW w).length) : (gc (fltW w) k).2.2.2 < 2 ^ 18 ∧ celOK (gc (fltW w) k) := by
  unfold fltW at *
  rw [List.length_drop] at h
  rw [gc_drop]
  obtain ⟨p, hp, j, hj, e⟩ := flL_own w.1 (w.2 + k) (by omega)
  rw [e]
  have := celP_ok hV hp hj
  exact ⟨this.2, this⟩
theorem fltW_pop {nc : Nat} {un : Nat → Un} {w : Wt} (hV : ObV nc un w) (h : ¬ w.1.length = 0) : fltW w = celP (wg w 0) w.2 :: fltW (pop w) := by
  obtain ⟨w1, g⟩ := w
  cases w1 with
  | nil => exact absurd rfl h
  | cons p ps =>
    have hg := hV.2.2.2.2.2.2.1 p ps rfl
    have hg : g < p.2.length := hg
    show (pkC p ++ flL ps).drop g = celP p g :: fltW (pop (p :: ps, g))
    have hlt : g < (pkC p ++ flL ps).length := by
      rw [List.length_append, pkC_len]
      omega
    rw [List.drop_eq_getElem_cons hlt]
    congr 1
    · have h1 : gc (pkC p ++ flL ps) g = celP p g := by rw [gc_l (by rw [pkC_len]; exact hg), pkC_get hg]
      unfold gc at h1
      rw [List.getD_eq_getElem?_getD, List.getElem?_eq_getElem hlt] at h1
      exact h1
    · unfold pop fltW
      by_cases e : g + 1 < p.2.length
      · show _ = (flL (if g + 1 < p.2.length then (p :: ps, g + 1) else (ps, 0)).1).drop (if g + 1 < p.2.length then (p :: ps, g + 1) else (ps, 0)).2
        rw [if_pos e]
        rfl
      · show _ = (flL (if g + 1 < p.2.length then (p :: ps, g + 1) else (ps, 0)).1).drop (if g + 1 < p.2.length then (p :: ps, g + 1) else (ps, 0)).2
        rw [if_neg e]
        show _ = (flL ps).drop 0
        rw [List.drop_zero, show g + 1 = (pkC p).length by rw [pkC_len]; omega, List.drop_left]
theorem fltW_0 {w : Wt} (h : w.1.length = 0) : fltW w = [] := by
  unfold fltW
  rw [List.eq_nil_of_length_eq_zero h]
  show ([] : List Cel).drop w.2 = []
  rw [List.drop_nil]
theorem fltW_pos {nc : Nat} {un : Nat → Un} {w : Wt} (hV : ObV nc un w) : (fltW w).length = 0 ↔ w.1.length = 0 := by
  constructor
  · intro h
    by_cases e : w.1.length = 0
    · exact e
    · rw [fltW_pop hV e, List.length_cons] at h
      omega
  · intro h
    rw [fltW_0 h]
    rfl
theorem fltW_app {w : Wt} {p : Nat × List Int32} (h : w.2 ≤ sumL w.1) : fltW (w.1 ++ [p], w.2) = fltW w ++ pkC p := by
  unfold fltW
  show (flL (w.1 ++ [p])).drop w.2 = _
  rw [flL_app, List.drop_append_of_le_length (by rw [flL_len]; exact h)]
  congr 1
  show pkC p ++ [] = pkC p
  rw [List.append_nil]
theorem ObV.gone {nc : Nat} {un : Nat → Un} {w : Wt} (hV : ObV nc un w) : w.2 ≤ sumL w.1 := by
  obtain ⟨w1, g⟩ := w
  cases w1 with
  | nil => have := hV.2.2.2.2.2.2.2.1 rfl; simp at this; show g ≤ 0; omega
  | cons p ps =>
    have hg : g < p.2.length := hV.2.2.2.2.2.2.1 p ps rfl
    show g ≤ p.2.length + sumL ps
    omega
/-- a run of one owner in the midst -/
theorem cnF_mid {X Y Z : List Cel} {o : Nat} (hX : ∀ k, k < X.length → (gc X k).2.2.2 ≠ o) (hY : ∀ k, k < Y.length → (gc Y k).2.2.2 = o) (hZ : 0 < Z.length → (gc Z 0).2.2.2 ≠ o) (h0 : 0 < Y.length) : owI (X ++ (Y ++ Z)) o = X.length ∧ owE (X ++ (Y ++ Z)) o = X.length + Y.length ∧ gc (X ++ (Y ++ Z)) X.length = gc Y 0 := by
  have hl : (X ++ (Y ++ Z)).length = X.length + (Y.length + Z.length) := by rw [List.length_append, List.length_append]
  have hg0 : gc (X ++ (Y ++ Z)) X.length = gc Y 0 := by rw [gc_r (Nat.le_refl _), Nat.sub_self, gc_l h0]
  have e1 : owI (X ++ (Y ++ Z)) o = X.length := by
    refine nxt_uniq (Nat.zero_le _) (by omega) (fun k _ hk hh => ?_) (fun _ => ?_)
    · have := of_decide_eq_true hh
      rw [gc_l hk] at this
      exact hX k hk this
    · refine decide_eq_true ?_
      rw [hg0]
      exact hY 0 h0
  refine ⟨e1, ?_, hg0⟩
  unfold owE
  rw [e1]
  refine nxt_uniq (by omega) (by omega) (fun k h1 h2 hh => ?_) (fun h9 => ?_)
  · have := of_decide_eq_false hh
    rw [gc_r (by omega), gc_l (by omega)] at this
    exact this (hY _ (by omega))
  · refine decide_eq_false ?_
    rw [gc_r (by omega), gc_r (by omega), show X.length + Y.length - X.length - Y.length = 0 by omega]
    exact hZ (by omega)
theorem cnF_no {fl : List Cel} {o : Nat} (h : ∀ k, k < fl.length → (gc fl k).2.2.2 ≠ o) : cnF fl o = fl := by
  have e : owI fl o = fl.length := nxt_uniq (Nat.zero_le _) (Nat.le_refl _) (fun k _ hk hh => h k hk (of_decide_eq_true hh)) (fun hh => by omega)
  unfold cnF
  rw [if_pos (Or.inl e)]
theorem filter_no {l : List (Nat × List Int32)} {o : Nat} (h : ∀ p ∈ l, p.1 ≠ o) : l.filter (fun q => decide (q.1 ≠ o)) = l := by
  rw [List.filter_eq_self]
  intro p hp
  exact decide_eq_true (h p hp)
theorem fltW_cut {nc o : Nat} {un : Nat → Un} {w : Wt} (hV : ObV nc un w) : cnF (fltW w) o = fltW (cutW w o) := by
  have hV0 := hV
  obtain ⟨v1, v2, v3, v4, v5, v6, v7, v8, v9⟩ := hV
  obtain ⟨w1, g⟩ := w
  cases w1 with
  | nil =>
    have e0 : cutW ([], g) o = ([], g) := rfl
    rw [e0, fltW_0 (w := ([], g)) rfl]
    exact cnF_no (fun k hk => absurd hk (Nat.not_lt_zero k))
  | cons p ps =>
    have hg : g < p.2.length := v7 p ps rfl
    rw [List.map_cons, List.pairwise_cons] at v5
    obtain ⟨u1, u2⟩ := v5
    have hps : ∀ q ∈ ps, p.1 < q.1 := fun q hq => u1 q.1 (List.mem_map_of_mem hq)
    have hcut : cutW (p :: ps, g) o = if p.1 = o ∧ g = 0 then (ps.filter (fun q => decide (q.1 ≠ o)), 0) else (p :: ps.filter (fun q => decide (q.1 ≠ o)), g) := rfl
    have hfl : fltW (p :: ps, g) = (pkC p).drop g ++ flL ps := by
      show (pkC p ++ flL ps).drop g = _
      rw [List.drop_append_of_le_length (by rw [pkC_len]; omega)]
    have hdl : ((pkC p).drop g).length = p.2.length - g := by rw [List.length_drop, pkC_len]
    have hdo : ∀ k, k < ((pkC p).drop g).length → gc ((pkC p).drop g) k = celP p (g + k) := fun k hk => by
      rw [hdl] at hk
      rw [gc_drop, pkC_get (by omega)]
    by_cases e : p.1 = o
    · have hno : ∀ q ∈ ps, q.1 ≠ o := fun q hq => by have := hps q hq; omega
      rw [hcut, filter_no hno, hfl]
      have hz : 0 < (flL ps).length → (gc (flL ps) 0).2.2.2 ≠ o := fun h9 => by
        obtain ⟨q, hq, j, hj, ej⟩ := flL_own ps 0 h9
        rw [ej]
        exact hno q hq
      obtain ⟨c1, c2, c3⟩ := cnF_mid (X := []) (Y := (pkC p).drop g) (Z := flL ps) (o := o) (fun k hk => by simp at hk) (fun k hk => by rw [hdo k hk]; exact e) hz (by omega)
      rw [List.nil_append] at c1 c2 c3
      have c3 : gc ((pkC p).drop g ++ flL ps) 0 = gc ((pkC p).drop g) 0 := c3
      rw [hdo 0 (by omega), Nat.add_zero] at c3
      unfold cnF
      rw [c1, c2]
      show (if 0 = ((pkC p).drop g ++ flL ps).length ∨ (gc ((pkC p).drop g ++ flL ps) 0).2.1 = false then _ else _) = _
      rw [c3]
      by_cases eg : g = 0
      · subst eg
        rw [if_neg, if_pos ⟨e, rfl⟩]
        · show List.take 0 _ ++ List.drop (0 + _) _ = (flL ps).drop 0
          rw [List.take_zero, List.nil_append, List.drop_zero, Nat.zero_add, List.drop_left, List.drop_zero]
        · intro hh
          rcases hh with hh | hh
          · rw [List.length_append] at hh
            omega
          · have hh : decide (0 = 0) = false := hh
            simp at hh
      · rw [if_pos, if_neg (fun hh => eg hh.2)]
        · exact hfl.symm
        · right
          show decide (g = 0) = false
          exact decide_eq_false eg
    · rw [hcut, if_neg (fun hh => e hh.1)]
      by_cases ex : ∃ q ∈ ps, q.1 = o
      · obtain ⟨q, hq, eq⟩ := ex
        obtain ⟨a, b, hab⟩ := List.append_of_mem hq
        subst hab
        rw [List.map_append, List.map_cons, List.pairwise_append, List.pairwise_cons] at u2
        obtain ⟨u3, ⟨u4, u5⟩, u6⟩ := u2
        have ha : ∀ r ∈ a, r.1 ≠ o := fun r hr => by
          have := u6 r.1 (List.mem_map_of_mem hr) q.1 (List.mem_cons_self ..)
          omega
        have hb : ∀ r ∈ b, r.1 ≠ o := fun r hr => by
          have := u4 r.1 (List.mem_map_of_mem hr)
          omega
        have hfi : (a ++ q :: b).filter (fun r => decide (r.1 ≠ o)) = a ++ b := by
          rw [List.filter_append, List.filter_cons, if_neg (by simp [eq]), filter_no ha, filter_no hb]
        rw [hfi]
        have hq2 := (v6 q (List.mem_cons_of_mem _ hq)).1
        have e1 : fltW (p :: (a ++ q :: b), g) = ((pkC p).drop g ++ flL a) ++ (pkC q ++ flL b) := by
          rw [hfl, flL_app]
          show _ ++ (flL a ++ (pkC q ++ flL b)) = _
          rw [List.append_assoc]
        have e2 : fltW (p :: (a ++ b), g) = ((pkC p).drop g ++ flL a) ++ flL b := by
          show (pkC p ++ flL (a ++ b)).drop g = _
          rw [List.drop_append_of_le_length (by rw [pkC_len]; omega), flL_app, List.append_assoc]
        have hX : ∀ k, k < ((pkC p).drop g ++ flL a).length → (gc ((pkC p).drop g ++ flL a) k).2.2.2 ≠ o := fun k hk => by
          by_cases ek : k < ((pkC p).drop g).length
          · rw [gc_l ek, hdo k ek]
            exact e
          · rw [List.length_append] at hk
            rw [gc_r (by omega)]
            obtain ⟨r, hr, j, hj, ej⟩ := flL_own a (k - ((pkC p).drop g).length) (by omega)
            rw [ej]
            exact ha r hr
        obtain ⟨c1, c2, c3⟩ := cnF_mid (X := (pkC p).drop g ++ flL a) (Y := pkC q) (Z := flL b) (o := o) hX (fun k hk => by rw [pkC_len] at hk; rw [pkC_get hk]; exact eq) (fun h9 => by
          obtain ⟨r, hr, j, hj, ej⟩ := flL_own b 0 h9
          rw [ej]
          exact hb r hr) (by rw [pkC_len]; omega)
        rw [pkC_get (by omega)] at c3
        rw [e1, e2]
        unfold cnF
        rw [c1, c2, c3, if_neg]
        · rw [List.take_left]
          congr 1
          rw [← List.length_append, ← List.append_assoc, List.drop_left]
        · intro hh
          rcases hh with hh | hh
          · rw [List.length_append (as := (pkC p).drop g ++ flL a), List.length_append (as := pkC q), pkC_len] at hh
            omega
          · have hh : decide (0 = 0) = false := hh
            simp at hh
      · have hno : ∀ q ∈ ps, q.1 ≠ o := fun q hq hh => ex ⟨q, hq, hh⟩
        rw [filter_no hno]
        refine cnF_no (fun k hk => ?_)
        rw [hfl] at hk ⊢
        by_cases ek : k < ((pkC p).drop g).length
        · rw [gc_l ek, hdo k ek]
          exact e
        · rw [List.length_append] at hk
          rw [gc_r (by omega)]
          obtain ⟨r, hr, j, hj, ej⟩ := flL_own ps (k - ((pkC p).drop g).length) (by omega)
          rw [ej]
          exact hno r hr
/-- the new piece's bytes are the first ones that fit -/
theorem mnF_flat {nc : Nat} {un : Nat → Un} : ∀ (m left : Nat) (l : List Cel) (w : Wt), ObV nc un w → (mnF m left l w).1 = (l ++ fltW w).take (fitN (lasF (l ++ fltW w)) 0 (min m (fltW w).length) left l.length) ∧ fltW (mnF m left l w).2 = (l ++ fltW w).drop (fitN (lasF (l ++ fltW w)) 0 (min m (fltW w).length) left l.length)
  | 0, left, l, w, hV => by
    rw [Nat.zero_min]
    unfold mnF fitN
    show l = _ ∧ fltW w = _
    rw [List.take_left, List.drop_left]
    exact ⟨rfl, rfl⟩
  | m + 1, left, l, w, hV => by
    unfold mnF
    by_cases e : w.1.length = 0
    · rw [if_pos e]
      show l = _ ∧ fltW w = _
      rw [fltW_0 e, List.length_nil, Nat.min_zero, List.append_nil]
      unfold fitN
      rw [List.take_length, List.drop_length]
      exact ⟨rfl, rfl⟩
    · rw [if_neg e]
      have hp := fltW_pop hV e
      have hlen : (fltW w).length = (fltW (pop w)).length + 1 := by rw [hp, List.length_cons]
      have hm : min (m + 1) (fltW w).length = min m (fltW (pop w)).length + 1 := by omega
      rw [hm, fitN]
      have hc : cst (lasF (l ++ fltW w)) 0 l.length = mnC l := by
        unfold cst mnC
        by_cases hl : 0 < l.length
        · have : lasF (l ++ fltW w) (l.length - 1) = lasF l (l.length - 1) := by
            unfold lasF
            rw [gc_l (by omega)]
          rw [this]
        · rw [if_neg (fun hh => hl hh.1), if_neg (fun hh => hl hh.1)]
      rw [hc]
      by_cases e2 : left < mnC l
      · rw [if_pos e2, if_neg (by omega)]
        show l = _ ∧ fltW w = _
        rw [List.take_left, List.drop_left]
        exact ⟨rfl, rfl⟩
      · rw [if_neg e2, if_pos (by omega)]
        have ih := mnF_flat m (left - mnC l) (l ++ [celP (wg w 0) w.2]) (pop w) (obV_pop hV)
        have ea : l ++ [celP (wg w 0) w.2] ++ fltW (pop w) = l ++ fltW w := by
          rw [hp, List.append_assoc]
          rfl
        rw [ea, List.length_append, List.length_singleton] at ih
        exact ih
