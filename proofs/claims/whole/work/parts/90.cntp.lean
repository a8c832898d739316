/-! PURE: the middle: how many new pieces a block makes -/
theorem mnF_end : ∀ (m left : Nat) (l : List Cel) (w : Wt), (mnF m left l w).1.length = l.length + m ∨ (mnF m left l w).2.1.length = 0 ∨ left + cstL l < cstL (mnF m left l w).1 + mnC (mnF m left l w).1 := by
  intro m
  induction m with
  | zero => intro left l w; exact Or.inl rfl
  | succ m ih =>
    intro left l w
    unfold mnF
    by_cases e : w.1.length = 0
    · rw [if_pos e]; exact Or.inr (Or.inl e)
    · rw [if_neg e]
      by_cases e2 : left < mnC l
      · rw [if_pos e2]
        refine Or.inr (Or.inr ?_)
        show left + cstL l < cstL l + mnC l
        omega
      · rw [if_neg e2]
        rcases ih (left - mnC l) (l ++ [celP (wg w 0) w.2]) (pop w) with h | h | h
        · refine Or.inl ?_
          rw [h]
          simp
          omega
        · exact Or.inr (Or.inl h)
        · refine Or.inr (Or.inr ?_)
          rw [cstL_app] at h
          omega
theorem mnC_le {l : List Cel} : mnC l ≤ 2 := by
  unfold mnC
  split <;> omega
theorem mkSb_mono {v : Nat → Nat} {room room' : Nat} (h : mkSb v room = false) (h2 : 2 ≤ room) : mkSb v room' = false := by
  have h := of_decide_eq_false h
  exact decide_eq_false (fun hh => h ⟨hh.1, hh.2.1, h2⟩)
theorem rm_le {bd : Bool} {bk : Int32} {left : Nat} (hl : left ≤ 250) (h : 1 ≤ rmN bd bk left) : 2 + rmN bd bk left ≤ left := by
  unfold rmN at h ⊢
  by_cases e : bd = true ∧ bk < nI left
  · rw [if_pos e] at h ⊢
    by_cases h3 : bk < 3
    · rw [if_pos h3] at h
      omega
    · rw [if_neg h3] at h ⊢
      have hlt := lt_i.mp e.2
      rw [nI_toInt (by omega)] at hlt
      have h3 : ¬ bk.toInt < (3 : Int) := fun hh => h3 (lt_i.mpr hh)
      have hc : (bk.toNatClampNeg : Int) = bk.toInt := by
        show ((bk.toInt.toNat : Nat) : Int) = _
        omega
      omega
  · rw [if_neg e] at h ⊢
    omega
theorem rm_shrink {bd : Bool} {bk : Int32} {left n room : Nat} (hl : left ≤ 250) (h1 : -(2 ^ 22 : Int) ≤ bk.toInt) (h2 : bk.toInt ≤ 2000) (hr : room = rmN bd bk left) (hr1 : 1 ≤ room) (hn : n ≤ room) (hs : room < n + 2) : rmN bd (bk - nI (n + 2)) (left - (n + 2)) = 0 := by
  have hle := rm_le (bd := bd) (bk := bk) hl (by omega)
  have es : (bk - nI (n + 2)).toInt = bk.toInt - ((n + 2 : Nat) : Int) := sub_toInt (by omega) (by omega) (by omega)
  unfold rmN at hr ⊢
  by_cases e : bd = true ∧ bk < nI left
  · rw [if_pos e] at hr
    by_cases h3 : bk < 3
    · rw [if_pos h3] at hr
      omega
    · rw [if_neg h3] at hr
      have h3 : ¬ bk.toInt < (3 : Int) := fun hh => h3 (lt_i.mpr hh)
      have hc : (bk.toNatClampNeg : Int) = bk.toInt := by
        show ((bk.toInt.toNat : Nat) : Int) = _
        omega
      by_cases e' : bd = true ∧ bk - nI (n + 2) < nI (left - (n + 2))
      · rw [if_pos e', if_pos]
        rw [lt_i, es]
        show _ < (3 : Int)
        omega
      · rw [if_neg e']
        have e' : ¬ bk - nI (n + 2) < nI (left - (n + 2)) := fun hh => e' ⟨e.1, hh⟩
        rw [lt_i, es, nI_toInt (by omega)] at e'
        omega
  · rw [if_neg e] at hr
    by_cases e' : bd = true ∧ bk - nI (n + 2) < nI (left - (n + 2))
    · have h9 := lt_i.mp e'.2
      rw [es, nI_toInt (by omega)] at h9
      rw [if_pos e', if_pos]
      rw [lt_i, es]
      show _ < (3 : Int)
      omega
    · rw [if_neg e']
      omega
theorem agS_k {s : Smd} {room k : Nat} (h6 : k ≠ 6) (h7 : k ≠ 7) (h9 : k ≠ 9) (h10 : k ≠ 10) (h11 : k ≠ 11) (h12 : k ≠ 12) (h13 : k ≠ 13) : (agS s room).1 k = s.1 k := by
  show cdV (agU s room) _ k = _
  rw [cdV_k h7 h9 h10 h11 h12]
  unfold agU agV
  rw [vup_o h13, vup_o h6]
theorem nwS_k {s : Smd} {room k : Nat} (h5 : k ≠ 5) (h7 : k ≠ 7) (h9 : k ≠ 9) (h10 : k ≠ 10) (h11 : k ≠ 11) (h12 : k ≠ 12) : (nwS s room).1 k = s.1 k := by
  show cdV (newV s.1) _ k = _
  rw [cdV_k h7 h9 h10 h11 h12]
  exact vup_o h5
theorem nwS_5 {s : Smd} {room : Nat} : (nwS s room).1 5 = s.1 5 + 1 := by
  show cdV (newV s.1) _ 5 = _
  rw [cdV_k (by decide) (by decide) (by decide) (by decide) (by decide)]
  exact vup_s
/-- one step of the filling -/
theorem fb1_inv {G : Nat → List Cel} {bd : Bool} {g b : Nat} {s t : Fst} (e : fb1 G bd g b s = some t) : 1 ≤ rmN bd s.1.2.1 (g - s.2.2.1.length) ∧ ∃ (pt : Prt) (s' : Smd) (r' : Rmd), mkPt G s.1 s.2.1 (rmN bd s.1.2.1 (g - s.2.2.1.length)) = some (pt, s', r') ∧ t = fb2 b s (pt, s', r') := by
  unfold fb1 at e
  split at e
  · cases e
  · next h0 =>
    refine ⟨by omega, ?_⟩
    cases hm : mkPt G s.1 s.2.1 (rmN bd s.1.2.1 (g - s.2.2.1.length)) with
    | none => rw [hm] at e; cases e
    | some q =>
      rw [hm] at e
      obtain ⟨pt, s', r'⟩ := q
      cases e
      exact ⟨pt, s', r', rfl, rfl⟩
theorem fb1_V {T g b : Nat} {bd : Bool} {ks : Nat → Nat → Int32} {lo : Int} {G : Nat → List Cel} {s t : Fst} (hg : g ≤ 250) (hlo : -(2 ^ 20 : Int) ≤ lo) (hV : FsV T ks lo s) (hl : s.2.2.1.length ≤ g) (e : fb1 G bd g b s = some t) : FsV T ks lo t ∧ t.2.2.1.length ≤ g ∧ s.2.2.1.length + 3 ≤ t.2.2.1.length := by
  obtain ⟨h1, pt, s', r', hm, et⟩ := fb1_inv e
  have hle := rm_le (bd := bd) (bk := s.1.2.1) (left := g - s.2.2.1.length) (by omega) h1
  obtain ⟨l1, l2⟩ := mkPt_len hm hV.1
  obtain ⟨n1, n2⟩ := hV.nx (g := g) (b := b) hlo (by omega) hm l1 l2
  have n2 : (fb2 b s (pt, s', r')).2.2.1.length = s.2.2.1.length + 2 + (prB (fldS s') pt).length := n2
  subst et
  exact ⟨n1, by omega, by omega⟩
theorem fbI_ind {G : Nat → List Cel} {bd : Bool} {g b : Nat} {Pp : Fst → Prop} (hP : ∀ s t, Pp s → fb1 G bd g b s = some t → Pp t) : ∀ (m : Nat) (s : Fst), Pp s → Pp (fbI G bd g b m s)
  | 0, _, h => h
  | m + 1, s, h => by
    unfold fbI
    cases e : fb1 G bd g b s with
    | none => exact h
    | some t => exact fbI_ind hP m t (hP s t h e)
theorem fbI_cnt {T g b : Nat} {bd : Bool} {ks : Nat → Nat → Int32} {lo : Int} {G : Nat → List Cel} (hg : g ≤ 250) (hlo : -(2 ^ 20 : Int) ≤ lo) : ∀ (m : Nat) (s : Fst), FsV T ks lo s → s.2.2.1.length ≤ g → ∃ k, (fbI G bd g b m s).1.1 5 = s.1.1 5 + k ∧ s.2.2.1.length + 5 * k ≤ (fbI G bd g b m s).2.2.1.length ∧ (2 ≤ k → s.2.2.1.length + 244 * (k - 1) + 5 ≤ (fbI G bd g b m s).2.2.1.length) ∧ (fbI G bd g b m s).2.2.1.length ≤ g := by
  intro m
  induction m with
  | zero => intro s hV hl; exact ⟨0, rfl, Nat.le_refl _, fun h => by omega, hl⟩
  | succ m ih =>
    intro s hV hl
    unfold fbI
    cases e : fb1 G bd g b s with
    | none => exact ⟨0, rfl, Nat.le_refl _, fun h => by omega, hl⟩
    | some t =>
      show ∃ k, (fbI G bd g b m t).1.1 5 = s.1.1 5 + k ∧ s.2.2.1.length + 5 * k ≤ (fbI G bd g b m t).2.2.1.length ∧ (2 ≤ k → s.2.2.1.length + 244 * (k - 1) + 5 ≤ (fbI G bd g b m t).2.2.1.length) ∧ (fbI G bd g b m t).2.2.1.length ≤ g
      obtain ⟨v1, v2, v3⟩ := fb1_V hg hlo hV hl e
      obtain ⟨k, i1, i2, i3, i4⟩ := ih t v1 v2
      obtain ⟨h1, pt, s', r', hm, et⟩ := fb1_inv e
      have hle := rm_le (bd := bd) (bk := s.1.2.1) (left := g - s.2.2.1.length) (by omega) h1
      obtain ⟨l1, l2⟩ := mkPt_len hm hV.1
      have et5 : t.1.1 5 = s'.1 5 := by rw [et]; rfl
      have etl : t.2.2.1.length = s.2.2.1.length + 2 + (prB (fldS s') pt).length := by
        rw [et]
        show (s.2.2.1 ++ nI b :: nI (prB (fldS s') pt).length :: prB (fldS s') pt).length = _
        rw [List.length_append, List.length_cons, List.length_cons]
        omega
      rcases mkPt_inv hm with ⟨q1, q2, q3, q4⟩ | ⟨q1, q2, q3, q4, q5, q6, q7⟩ | ⟨q1, q2, q3, q4, q5, q6, q7⟩
      · rw [q3] at et5
        exact ⟨k, by omega, by omega, fun h => by have := i3 h; omega, i4⟩
      · rw [q6, agS_k (by decide) (by decide) (by decide) (by decide) (by decide) (by decide) (by decide)] at et5
        exact ⟨k, by omega, by omega, fun h => by have := i3 h; omega, i4⟩
      · rw [q6, nwS_5] at et5
        have hroom : 3 ≤ rmN bd s.1.2.1 (g - s.2.2.1.length) := by omega
        obtain ⟨z1, z2, z3⟩ := newL_sz (room := rmN bd s.1.2.1 (g - s.2.2.1.length)) (w := s.1.2.2.2.2.2) (by omega) hroom
        have epl : (prB (fldS s') pt).length = 2 + (newL (rmN bd s.1.2.1 (g - s.2.2.1.length)) s.1.2.2.2.2.2).1.length + cnt (lasF (newL (rmN bd s.1.2.1 (g - s.2.2.1.length)) s.1.2.2.2.2.2).1) 0 ((newL (rmN bd s.1.2.1 (g - s.2.2.1.length)) s.1.2.2.2.2.2).1.length - 1) := by
          rw [q5, q6, nwP_B.2, datL_len, show b2n false = 0 from rfl, Nat.sub_zero, Nat.sub_zero]
          omega
        have once : fb1 G bd g b t = none → ∃ k, (fbI G bd g b m t).1.1 5 = s.1.1 5 + k ∧ s.2.2.1.length + 5 * k ≤ (fbI G bd g b m t).2.2.1.length ∧ (2 ≤ k → s.2.2.1.length + 244 * (k - 1) + 5 ≤ (fbI G bd g b m t).2.2.1.length) ∧ (fbI G bd g b m t).2.2.1.length ≤ g := by
          intro en
          have ei : fbI G bd g b m t = t := by
            cases m with
            | zero => rfl
            | succ m => unfold fbI; rw [en]
          rw [ei]
          exact ⟨1, et5, by omega, fun h => by omega, v2⟩
        rcases mnF_end 240 (rmN bd s.1.2.1 (g - s.2.2.1.length) - 2) [] s.1.2.2.2.2.2 with h240 | hw0 | hrm
        · have h240 : (newL (rmN bd s.1.2.1 (g - s.2.2.1.length)) s.1.2.2.2.2.2).1.length = 240 := by
            have : (newL (rmN bd s.1.2.1 (g - s.2.2.1.length)) s.1.2.2.2.2.2).1.length = ([] : List Cel).length + 240 := h240
            simpa using this
          refine ⟨k + 1, by omega, by omega, fun h => ?_, i4⟩
          rcases Nat.lt_or_ge k 2 with hk | hk
          · have : k = 1 := by omega
            subst this
            omega
          · have := i3 hk
            omega
        · refine once ?_
          unfold fb1
          split
          · rfl
          · have : mkPt G t.1 t.2.1 (rmN bd t.1.2.1 (g - t.2.2.1.length)) = none := by
              have et1 : t.1 = payB (nwS s.1 (rmN bd s.1.2.1 (g - s.2.2.1.length))) (prB (fldS s') pt).length := by rw [et, q6]; rfl
              have et2 : t.2.1 = s.2.1 := by rw [et, q7]; rfl
              unfold mkPt
              rw [et2, mkSb_mono q1 (by omega), if_neg (by decide)]
              have e8 : t.1.1 8 = 0 := by
                rw [et1]
                show (nwS s.1 _).1 8 = 0
                rw [nwS_k (by decide) (by decide) (by decide) (by decide) (by decide) (by decide)]
                exact q2
              have e6 : t.1.1 6 = 0 := by
                rw [et1]
                show (nwS s.1 _).1 6 = 0
                rw [nwS_k (by decide) (by decide) (by decide) (by decide) (by decide) (by decide)]
                exact q3
              have ew : t.1.2.2.2.2.2.1.length = 0 := by
                rw [et1]
                exact hw0
              rw [if_neg (by omega), if_neg (by omega), if_pos (Or.inl ew)]
            rw [this]
            rfl
        · refine once ?_
          have hc := mnC_le (l := (newL (rmN bd s.1.2.1 (g - s.2.2.1.length)) s.1.2.2.2.2.2).1)
          have hrm : rmN bd s.1.2.1 (g - s.2.2.1.length) - 2 + cstL [] < cstL (newL (rmN bd s.1.2.1 (g - s.2.2.1.length)) s.1.2.2.2.2.2).1 + mnC (newL (rmN bd s.1.2.1 (g - s.2.2.1.length)) s.1.2.2.2.2.2).1 := hrm
          have es0 : cstL [] = 0 := rfl
          have es1 : cstL (newL (rmN bd s.1.2.1 (g - s.2.2.1.length)) s.1.2.2.2.2.2).1 = (newL (rmN bd s.1.2.1 (g - s.2.2.1.length)) s.1.2.2.2.2.2).1.length + cnt (lasF (newL (rmN bd s.1.2.1 (g - s.2.2.1.length)) s.1.2.2.2.2.2).1) 0 ((newL (rmN bd s.1.2.1 (g - s.2.2.1.length)) s.1.2.2.2.2.2).1.length - 1) := rfl
          obtain ⟨f1, f2, f3, f4, f5, f6, f7⟩ := hV
          have hz := rm_shrink (bd := bd) (bk := s.1.2.1) (left := g - s.2.2.1.length) (n := (prB (fldS s') pt).length) (by omega) (by omega) f7 rfl h1 l2 (by omega)
          unfold fb1
          rw [if_pos]
          have eb : t.1.2.1 = s.1.2.1 - nI ((prB (fldS s') pt).length + 2) := by
            rw [et, q6]
            rfl
          rw [eb, etl, show g - (s.2.2.1.length + 2 + (prB (fldS s') pt).length) = g - s.2.2.1.length - ((prB (fldS s') pt).length + 2) by omega]
          exact hz
