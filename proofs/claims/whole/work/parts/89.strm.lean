/-! PURE: the middle: the row of bytes that a sender puts into fields -/
def bgL : Option (List Int32) → List Cel → Option (List Int32)
  | bg, [] => bg
  | bg, q :: l => bgL (nxtB bg q) l
def okT (nc : Nat) (bg : Option (List Int32)) (q : Cel) : Prop := okS bg q ∧ (q.2.1 = true ↔ bg = none) ∧ (∀ pk, nxtB bg q = some pk → pk.length < 121) ∧ q.2.2.2 ≤ nc
def chn (nc : Nat) : Option (List Int32) → List Cel → Prop
  | _, [] => True
  | bg, q :: l => okT nc bg q ∧ chn nc (nxtB bg q) l
def bgN (G : Nat → List Cel) : Nat → Option (List Int32)
  | 0 => none
  | n + 1 => bgL (bgN G n) (G n)
def frW (w : Wt) : Option (List Int32) := if w.2 = 0 then none else some ((wg w 0).2.take w.2)
theorem chn_V {nc : Nat} : ∀ (l : List Cel) (bg : Option (List Int32)), chn nc bg l → hndV bg l
  | [], _, _ => trivial
  | q :: l, bg, h => ⟨h.1.1, chn_V l _ h.2⟩
theorem chn_mono {nc nc' : Nat} (hn : nc ≤ nc') : ∀ (l : List Cel) (bg : Option (List Int32)), chn nc bg l → chn nc' bg l
  | [], _, _ => trivial
  | q :: l, bg, h => ⟨⟨h.1.1, h.1.2.1, h.1.2.2.1, Nat.le_trans h.1.2.2.2 hn⟩, chn_mono hn l _ h.2⟩
theorem hndV_none : ∀ (l : List Cel) (bg : Option (List Int32)), hndV bg l → hndV none l
  | [], _, _ => trivial
  | q :: l, bg, h => by
    obtain ⟨⟨h1, h2, h3⟩, h4⟩ := h
    by_cases e : q.2.1 = true
    · have ec : curB none q = curB bg q := by unfold curB; rw [if_pos e, if_pos e]
      have en : nxtB none q = nxtB bg q := by unfold nxtB; rw [ec]
      have ed : donB none q = donB bg q := by unfold donB; rw [ec]
      refine ⟨⟨h1, ?_, ?_⟩, ?_⟩
      · rw [ec]; exact h2
      · rw [ed]; exact h3
      · rw [en]; exact h4
    · have ec : curB none q = none := by unfold curB; rw [if_neg e]
      have en : nxtB none q = none := by unfold nxtB; rw [ec]
      have ed : donB none q = none := by unfold donB; rw [ec]
      refine ⟨⟨h1, ?_, ?_⟩, ?_⟩
      · intro pk hpk; rw [ec] at hpk; cases hpk
      · intro pk hpk; rw [ed] at hpk; cases hpk
      · rw [en]; exact hndV_none l _ h4
theorem bgL_app : ∀ (a b : List Cel) (bg : Option (List Int32)), bgL bg (a ++ b) = bgL (bgL bg a) b
  | [], _, _ => rfl
  | q :: a, b, bg => bgL_app a b (nxtB bg q)
theorem chn_app {nc : Nat} : ∀ (a b : List Cel) (bg : Option (List Int32)), chn nc bg (a ++ b) ↔ chn nc bg a ∧ chn nc (bgL bg a) b
  | [], b, bg => ⟨fun h => ⟨trivial, h⟩, fun h => h.2⟩
  | q :: a, b, bg => by
    have ih := chn_app (nc := nc) a b (nxtB bg q)
    constructor
    · intro h
      exact ⟨⟨h.1, (ih.mp h.2).1⟩, (ih.mp h.2).2⟩
    · intro h
      exact ⟨h.1.1, ih.mpr ⟨h.1.2, h.2⟩⟩
theorem chn_at {nc : Nat} : ∀ (l : List Cel) (bg : Option (List Int32)) (k : Nat), chn nc bg l → k < l.length → okT nc (bgL bg (l.take k)) (gc l k) ∧ bgL bg (l.take (k + 1)) = nxtB (bgL bg (l.take k)) (gc l k)
  | [], _, _, _, h => by simp at h
  | q :: l, bg, 0, h, _ => ⟨h.1, rfl⟩
  | q :: l, bg, k + 1, h, hk => by
    have := chn_at l (nxtB bg q) k h.2 (by simpa using hk)
    exact this
/-- what may be begun at a cell -/
theorem okT_cur {nc : Nat} {bg : Option (List Int32)} {q : Cel} (h : okT nc bg q) : ∃ pk, curB bg q = some pk ∧ (bg = some pk ∨ bg = none ∧ pk = []) ∧ nxtB bg q = if q.2.2.1 then none else some (pk ++ [q.1]) := by
  cases hb : bg with
  | none =>
    have e : q.2.1 = true := h.2.1.mpr hb
    have ec : curB none q = some [] := by unfold curB; rw [if_pos e]
    exact ⟨[], ec, Or.inr ⟨rfl, rfl⟩, by unfold nxtB; rw [ec]⟩
  | some pk =>
    have e : ¬ q.2.1 = true := fun hh => by have := h.2.1.mp hh; rw [hb] at this; cases this
    have ec : curB (some pk) q = some pk := by unfold curB; rw [if_neg e]
    exact ⟨pk, ec, Or.inl rfl, by unfold nxtB; rw [ec]⟩
theorem chn_wf {nc : Nat} {l : List Cel} {bg : Option (List Int32)} (h : chn nc bg l) : wfF l := by
  refine ⟨fun k k0 k1 => ?_, fun s hs => ?_⟩
  · obtain ⟨a1, a2⟩ := chn_at l bg (k - 1) h (by omega)
    obtain ⟨b1, b2⟩ := chn_at l bg k h k1
    rw [show k - 1 + 1 = k by omega] at a2
    obtain ⟨pk, c1, c2, c3⟩ := okT_cur a1
    rw [a2, c3] at b1
    have hf := b1.2.1
    show (gc l k).2.1 = (gc l (k - 1)).2.2.1
    cases e : (gc l (k - 1)).2.2.1 with
    | true =>
      rw [e, if_pos rfl] at hf
      exact hf.mpr rfl
    | false =>
      rw [e, if_neg (by decide)] at hf
      cases e2 : (gc l k).2.1 with
      | false => rfl
      | true => exact absurd (hf.mp e2) (by simp)
  · refine Classical.byContradiction (fun hn => ?_)
    have hno : ∀ k, s ≤ k → k < s + 121 → lasF l k = false := fun k k1 k2 => by
      cases e : lasF l k with
      | false => rfl
      | true => exact absurd ⟨k, k1, k2, e⟩ hn
    have key : ∀ j, j < 121 → ∃ pk, bgL bg (l.take (s + j + 1)) = some pk ∧ j + 1 ≤ pk.length := by
      intro j
      induction j with
      | zero =>
        intro _
        obtain ⟨a1, a2⟩ := chn_at l bg s h (by omega)
        obtain ⟨pk, c1, c2, c3⟩ := okT_cur a1
        have e : (gc l s).2.2.1 = false := hno s (Nat.le_refl _) (by omega)
        rw [e, if_neg (by decide)] at c3
        exact ⟨_, by rw [Nat.add_zero, a2, c3], by simp⟩
      | succ j ih =>
        intro hj
        obtain ⟨pk0, p1, p2⟩ := ih (by omega)
        obtain ⟨a1, a2⟩ := chn_at l bg (s + j + 1) h (by omega)
        obtain ⟨pk, c1, c2, c3⟩ := okT_cur a1
        have e : (gc l (s + j + 1)).2.2.1 = false := hno (s + j + 1) (by omega) (by omega)
        rw [e, if_neg (by decide)] at c3
        refine ⟨_, by rw [show s + (j + 1) + 1 = s + j + 1 + 1 by omega, a2, c3], ?_⟩
        rcases c2 with c2 | c2
        · rw [p1] at c2
          cases c2
          simp
          omega
        · rw [p1] at c2
          exact absurd c2.1 (by simp)
    obtain ⟨pk, p1, p2⟩ := key 120 (by decide)
    obtain ⟨a1, a2⟩ := chn_at l bg (s + 120) h (by omega)
    rw [a2] at p1
    have := a1.2.2.1 pk p1
    omega
/-- a cell of the front packet -/
theorem take_snoc {l : List Int32} {k : Nat} (h : k < l.length) : l.take k ++ [l.getD k 0] = l.take (k + 1) := by
  rw [List.take_succ, List.getD_eq_getElem?_getD, List.getElem?_eq_getElem h]
  rfl
theorem frW_step {nc : Nat} {un : Nat → Un} {w : Wt} (hV : ObV nc un w) (hw : ¬ w.1.length = 0) : okT nc (frW w) (celP (wg w 0) w.2) ∧ nxtB (frW w) (celP (wg w 0) w.2) = frW (pop w) := by
  obtain ⟨l, g⟩ := w
  cases l with
  | nil => exact absurd rfl hw
  | cons p ps =>
    obtain ⟨v1, v2, v3, v4, v5, v6, v7, v8, v9⟩ := hV
    have hg : g < p.2.length := v7 p ps rfl
    obtain ⟨q1, q2, q3, q4, q5, q6⟩ := v6 p List.mem_cons_self
    have hc : celOK (celP p g) := celP_ok ⟨v1, v2, v3, v4, v5, v6, v7, v8, v9⟩ (p := p) List.mem_cons_self hg
    have e0 : wg (p :: ps, g) 0 = p := rfl
    rw [e0]
    have ecur : curB (frW (p :: ps, g)) (celP p g) = some (p.2.take g) := by
      unfold curB frW celP
      show (if decide (g = 0) = true then some [] else if g = 0 then none else some ((wg (p :: ps, g) 0).2.take g)) = some (p.2.take g)
      by_cases eg : g = 0
      · rw [decide_eq_true eg, if_pos rfl, eg, List.take_zero]
      · rw [decide_eq_false eg, if_neg (by decide), if_neg eg]
        rfl
    have hlt : (p.2.take g).length = g := by rw [List.length_take]; omega
    have enx : nxtB (frW (p :: ps, g)) (celP p g) = if g + 1 = p.2.length then none else some (p.2.take (g + 1)) := by
      unfold nxtB
      rw [ecur]
      show (if decide (g + 1 = p.2.length) = true then none else some (p.2.take g ++ [p.2.getD g 0])) = _
      rw [take_snoc hg]
      by_cases e : g + 1 = p.2.length
      · rw [decide_eq_true e, if_pos rfl, if_pos e]
      · rw [decide_eq_false e, if_neg (by decide), if_neg e]
    refine ⟨⟨⟨hc, fun pk hpk => ?_, fun pk hpk => ?_⟩, ?_, fun pk hpk => ?_, q3⟩, ?_⟩
    · rw [ecur] at hpk
      cases hpk
      omega
    · unfold donB at hpk
      rw [ecur] at hpk
      have hpk : (if decide (g + 1 = p.2.length) = true then some (p.2.take g ++ [p.2.getD g 0]) else none) = some pk := hpk
      by_cases e : g + 1 = p.2.length
      · rw [decide_eq_true e, if_pos rfl, take_snoc hg, e, List.take_length] at hpk
        cases hpk
        exact ⟨q1, q2, q5, q6⟩
      · rw [decide_eq_false e, if_neg (by decide)] at hpk
        cases hpk
    · show decide (g = 0) = true ↔ frW (p :: ps, g) = none
      unfold frW
      by_cases eg : g = 0
      · rw [decide_eq_true eg, if_pos eg]
        exact ⟨fun _ => rfl, fun _ => rfl⟩
      · rw [decide_eq_false eg, if_neg eg]
        exact ⟨fun h => by simp at h, fun h => by simp at h⟩
    · rw [enx] at hpk
      by_cases e : g + 1 = p.2.length
      · rw [if_pos e] at hpk; cases hpk
      · rw [if_neg e] at hpk
        cases hpk
        rw [List.length_take]
        omega
    · rw [enx]
      unfold pop
      show _ = frW (if g + 1 < p.2.length then (p :: ps, g + 1) else (ps, 0))
      by_cases e : g + 1 = p.2.length
      · rw [if_pos e, if_neg (by omega)]
        rfl
      · rw [if_neg e, if_pos (by omega)]
        unfold frW
        show _ = if g + 1 = 0 then none else _
        rw [if_neg (by omega)]
        rfl
theorem mnF_chn {nc : Nat} {un : Nat → Un} {bg : Option (List Int32)} : ∀ (m left : Nat) (l : List Cel) (w : Wt), ObV nc un w → chn nc bg l → bgL bg l = frW w → chn nc bg (mnF m left l w).1 ∧ bgL bg (mnF m left l w).1 = frW (mnF m left l w).2 := by
  intro m
  induction m with
  | zero => intro left l w hV h1 h2; exact ⟨h1, h2⟩
  | succ m ih =>
    intro left l w hV h1 h2
    unfold mnF
    by_cases e : w.1.length = 0
    · rw [if_pos e]; exact ⟨h1, h2⟩
    · rw [if_neg e]
      by_cases e2 : left < mnC l
      · rw [if_pos e2]; exact ⟨h1, h2⟩
      · rw [if_neg e2]
        obtain ⟨k1, k2⟩ := frW_step hV e
        refine ih _ _ _ (obV_pop hV) ((chn_app l _ bg).mpr ⟨h1, ?_⟩) ?_
        · rw [h2]
          exact ⟨k1, trivial⟩
        · rw [bgL_app, h2]
          exact k2
theorem chn_cel {nc : Nat} : ∀ (l : List Cel) (bg : Option (List Int32)), chn nc bg l → ∀ q ∈ l, celOK q ∧ q.2.2.2 ≤ nc
  | [], _, _, _, h => by simp at h
  | a :: l, bg, hc, q, hq => by
    rcases List.mem_cons.mp hq with e | e
    · rw [e]; exact ⟨hc.1.1.1, hc.1.2.2.2⟩
    · exact chn_cel l _ hc.2 q e
theorem bgN_congr {G G' : Nat → List Cel} : ∀ n, (∀ x, x < n → G' x = G x) → bgN G' n = bgN G n
  | 0, _ => rfl
  | n + 1, h => by
    unfold bgN
    rw [bgN_congr n (fun x hx => h x (by omega)), h n (by omega)]
/-- what is gone of the front stays -/
theorem frW_cut {w : Wt} {o : Nat} : frW (cutW w o) = frW w := by
  unfold frW
  rw [cutW_g]
  by_cases e : w.2 = 0
  · rw [if_pos e, if_pos e]
  · rw [if_neg e, if_neg e, cutW_hd (by omega)]
theorem frW_cfB {uw : (Nat → Un) × Wt} {o : Nat} : frW (cfB uw o).2 = frW uw.2 := by
  unfold cfB
  split
  · rfl
  · split
    · exact frW_cut
    · rfl
theorem frW_cfO : ∀ (l : List Cel) (uw : (Nat → Un) × Wt), frW (cfO uw l).2 = frW uw.2
  | [], _ => rfl
  | q :: l, uw => by
    show frW (cfO (cfB uw q.2.2.2) l).2 = _
    rw [frW_cfO l, frW_cfB]
theorem frW_cfRF {has : Nat → Bool} : ∀ (m c : Nat) (uw : (Nat → Un) × Wt), frW (cfRF has m c uw).2 = frW uw.2
  | 0, _, _ => rfl
  | m + 1, c, uw => by
    unfold cfRF
    rw [frW_cfRF m]
    split
    · exact frW_cut
    · rfl
theorem frW_hnd1 {ks : Int32 → Nat → Int32} {nc : Nat} {s : Hst} {q : Cel} : frW (hnd1 ks nc s q).2.2.2 = frW s.2.2.2 := by
  unfold hnd1
  split
  · rfl
  · split
    · rfl
    · exact frW_cfRF _ _ _
theorem frW_hndL {ks : Int32 → Nat → Int32} {nc : Nat} : ∀ (l : List Cel) (s : Hst), frW (hndL ks nc l s).2.2.2 = frW s.2.2.2
  | [], _ => rfl
  | q :: l, s => by
    show frW (hndL ks nc l (hnd1 ks nc s q)).2.2.2 = _
    rw [frW_hndL l, frW_hnd1]
theorem hndL_bg {ks : Int32 → Nat → Int32} {nc : Nat} : ∀ (l : List Cel) (s : Hst), (hndL ks nc l s).1 = bgL s.1 l
  | [], _ => rfl
  | q :: l, s => by
    show (hndL ks nc l (hnd1 ks nc s q)).1 = bgL (nxtB s.1 q) l
    rw [hndL_bg l, hnd1_bg]
theorem frW_stK {es : List Ent} : ∀ (m x : Nat) (s : Sst), frW (stK es m x s).2.2.2 = frW s.2.2.2
  | 0, _, _ => rfl
  | m + 1, x, s => by
    unfold stK
    rw [frW_stK m]
    split
    · exact frW_cfO _ _
    · rfl
theorem frW_stF {ack : Nat} {es : List Ent} {s : Sst} : frW (stF ack es s).2.2.2 = frW s.2.2.2 := by
  unfold stF
  split
  · rfl
  · unfold stM stM2 stM3
    exact frW_stK _ _ _
theorem frW_app {w : Wt} {q : Nat × List Int32} (h : w.1 = [] → w.2 = 0) : frW (w.1 ++ [q], w.2) = frW w := by
  unfold frW
  show (if w.2 = 0 then none else some ((wg (w.1 ++ [q], w.2) 0).2.take w.2)) = _
  by_cases e : w.2 = 0
  · rw [if_pos e, if_pos e]
  · rw [if_neg e, if_neg e]
    have : 0 < w.1.length := by
      cases hw : w.1 with
      | nil => exact absurd (h hw) e
      | cons a b => simp
    rw [wg_app this]
