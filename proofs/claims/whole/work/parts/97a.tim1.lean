/-! PURE: the middle: timers, before the blocks -/
theorem gupV_all {s : Smd} {r : Rmd} {v : Nat → Nat} (hj : JntV s r) (hv : ∀ k, k ≠ 8 → k ≠ 9 → v k = r.1 k) (hb : RvB v) : RvB (gupV (fldS s) r.2.1 v) ∧ r.1 2 ≤ gupV (fldS s) r.2.1 v 4 ∧ gupV (fldS s) r.2.1 v 4 ≤ r.1 3 ∧ gupV (fldS s) r.2.1 v 5 ≤ r.1 3 ∧ gupV (fldS s) r.2.1 v 7 ≤ 1 ∧ (gupV (fldS s) r.2.1 v 6 = 0 ∨ gupV (fldS s) r.2.1 v 4 + 1 ≤ gupV (fldS s) r.2.1 v 6) ∧ whR s r (gupV (fldS s) r.2.1 v 4) = false := by
  obtain ⟨⟨a1, a2, a3, a4, a5, a6, a7, a8, a9⟩, b, c, d, e⟩ := hj
  have e2 := hv 2 (by decide) (by decide)
  have e3 := hv 3 (by decide) (by decide)
  have e4 := hv 4 (by decide) (by decide)
  have e5 := hv 5 (by decide) (by decide)
  have b3 := hb 3 (by decide) (by decide)
  have b4 := hb 4 (by decide) (by decide)
  have b5 := hb 5 (by decide) (by decide)
  obtain ⟨w, ew⟩ : ∃ w, w = vup v 4 (max (v 4) (v 5)) := ⟨_, rfl⟩
  have w2 : w 2 = r.1 2 := by rw [ew, vup_o (by decide), e2]
  have w3 : w 3 = r.1 3 := by rw [ew, vup_o (by decide), e3]
  have w4 : w 4 = max (r.1 4) (r.1 5) := by rw [ew, vup_s, e4, e5]
  have hbw : RvB w := by rw [ew]; exact hb.put (by omega)
  obtain ⟨u, eu⟩ : ∃ u, u = ansV (vup (raiV (fldS s) r.2.1 w) 7 1) := ⟨_, rfl⟩
  have er : ∀ k, k ≠ 4 → raiV (fldS s) r.2.1 w k = w k := fun k hk => by unfold raiV; rw [vup_o hk]
  obtain ⟨l1, l2⟩ := rai_le (G := fldS s) (pc := r.2.1) (v := w) (by omega)
  have u3 : u 3 = r.1 3 := by rw [eu, ansV_k (by decide) (by decide), vup_o (by decide), er 3 (by decide), w3]
  have u4 : u 4 = raiV (fldS s) r.2.1 w 4 := by rw [eu, ansV_k (by decide) (by decide), vup_o (by decide)]
  have u5 : u 5 = r.1 5 := by rw [eu, ansV_k (by decide) (by decide), vup_o (by decide), er 5 (by decide), ew, vup_o (by decide), e5]
  have hbu : RvB u := by rw [eu]; exact ((hbw.rai (by omega)).put (by decide)).ans
  have hp : u 6 = 0 ∨ u 4 + 1 ≤ u 6 := by
    have := ansV_p (v := vup (raiV (fldS s) r.2.1 w) 7 1)
    rw [vup_o (by decide), ← u4, ← eu] at this
    exact this
  have h7 : u 7 ≤ 1 := by
    rw [eu]
    refine ansV_7 ?_
    rw [vup_s]
    omega
  have eg : gupV (fldS s) r.2.1 v = rstV u := by
    unfold gupV
    rw [eu, ew]
  have hw : whR s r (u 4) = false := by
    rw [u4]
    unfold raiV
    rw [vup_s, w2, w3]
    have := rsT_spec (wh := whl (fldS s) (r.1 2) (r.1 3) r.2.1) 32 (w 4)
    by_cases h9 : rsT (whl (fldS s) (r.1 2) (r.1 3) r.2.1) 32 (w 4) < w 4 + 32
    · exact this.2.2.2 h9
    · exact decide_eq_false (fun hh => by have := hh.2.1; omega)
  rw [eg]
  unfold rstV
  split
  · exact ⟨hbu, by omega, by omega, by omega, h7, hp, hw⟩
  · have b3u := hbu 3 (by decide) (by decide)
    refine ⟨(hbu.put (by decide)).put b3u, ?_, ?_, ?_, ?_, ?_, ?_⟩
    · rw [vup_o (by decide), vup_o (by decide)]; omega
    · rw [vup_o (by decide), vup_o (by decide)]; omega
    · rw [vup_s]; omega
    · rw [vup_o (by decide), vup_o (by decide)]; exact h7
    · rw [vup_o (by decide), vup_o (by decide), vup_o (by decide), vup_o (by decide)]; exact hp
    · rw [vup_o (by decide), vup_o (by decide)]; exact hw
theorem JntV.tm {s : Smd} {r : Rmd} (hj : JntV s r) : JntV s (tmQ (fldS s) r) ∧ AdvR s r s (tmQ (fldS s) r) := by
  obtain ⟨⟨a1, a2, a3, a4, a5, a6, a7, a8, a9⟩, ⟨b1, b2, b3⟩, ⟨c1, c2⟩, d, e⟩ := id hj
  have b9 := a1 9 (by decide) (by decide)
  have b8 := a1 8 (by decide) (by decide)
  obtain ⟨v, ev⟩ : ∃ v, v = if r.1 9 = 0 then r.1 else vup r.1 9 (r.1 9 - 1) := ⟨_, rfl⟩
  have hv : ∀ k, k ≠ 9 → v k = r.1 k := fun k hk => by
    rw [ev]
    split
    · rfl
    · exact vup_o hk
  have hbv : RvB v := by
    rw [ev]
    split
    · exact a1
    · exact a1.put (by omega)
  have et : tmR (fldS s) r.2.1 r.1 = tmR8 (fldS s) r.2.1 v := by
    unfold tmR
    rw [← ev]
  have t2 : tmR (fldS s) r.2.1 r.1 2 = r.1 2 := tmR_k (by decide) (by decide) (by decide) (by decide) (by decide) (by decide)
  have t3 : tmR (fldS s) r.2.1 r.1 3 = r.1 3 := tmR_k (by decide) (by decide) (by decide) (by decide) (by decide) (by decide)
  have ew : whR s (tmQ (fldS s) r) = whR s r := by
    unfold whR tmQ
    show whl _ (tmR _ _ _ 2) (tmR _ _ _ 3) _ = _
    rw [t2, t3]
  have key : RvB (tmR (fldS s) r.2.1 r.1) ∧ r.1 2 ≤ tmR (fldS s) r.2.1 r.1 4 ∧ tmR (fldS s) r.2.1 r.1 4 ≤ r.1 3 ∧ tmR (fldS s) r.2.1 r.1 5 ≤ r.1 3 ∧ tmR (fldS s) r.2.1 r.1 7 ≤ 1 ∧ (tmR (fldS s) r.2.1 r.1 6 = 0 ∨ tmR (fldS s) r.2.1 r.1 4 + 1 ≤ tmR (fldS s) r.2.1 r.1 6) ∧ whR s r (tmR (fldS s) r.2.1 r.1 4) = false := by
    rw [et]
    unfold tmR8
    split
    · rw [hv 4 (by decide), hv 5 (by decide), hv 6 (by decide), hv 7 (by decide)]
      exact ⟨hbv, a2, a3, a4, a8, a9, c2⟩
    · split
      · exact gupV_all hj (fun k h8 h9 => by rw [vup_o h8]; exact hv k h9) (hbv.put (by decide))
      · have b8v := hbv 8 (by decide) (by decide)
        rw [vup_o (k := 8) (j := 4) (by decide), vup_o (k := 8) (j := 5) (by decide), vup_o (k := 8) (j := 6) (by decide), vup_o (k := 8) (j := 7) (by decide), hv 4 (by decide), hv 5 (by decide), hv 6 (by decide), hv 7 (by decide)]
        exact ⟨hbv.put (by omega), a2, a3, a4, a8, a9, c2⟩
  obtain ⟨k1, k2, k3, k4, k5, k6, k7⟩ := key
  refine ⟨⟨⟨k1, ?_, ?_, ?_, ?_, ?_, a7, k5, k6⟩, ⟨fun x hx => ?_, b2, b3⟩, ⟨?_, ?_⟩, ?_, ?_⟩, ?_, fun y hy => ?_⟩
  · show tmR (fldS s) r.2.1 r.1 2 ≤ tmR (fldS s) r.2.1 r.1 4
    omega
  · show tmR (fldS s) r.2.1 r.1 4 ≤ tmR (fldS s) r.2.1 r.1 3
    omega
  · show tmR (fldS s) r.2.1 r.1 5 ≤ tmR (fldS s) r.2.1 r.1 3
    omega
  · show tmR (fldS s) r.2.1 r.1 3 ≤ _
    omega
  · show _ ≤ tmR (fldS s) r.2.1 r.1 2
    omega
  · have hx : tmR (fldS s) r.2.1 r.1 3 ≤ x := hx
    exact b1 x (by omega)
  · rw [ew]
    show whR s r (tmR _ _ _ 2) = false
    rw [t2]; exact c1
  · rw [ew]
    exact k7
  · rw [ew]
    intro x x1 x2 x3
    show x < tmR _ _ _ 2 ∨ _
    rw [t2]
    exact d x x1 x2 x3
  · show r.2.2.1 = bgN (fldS s) (tmR _ _ _ 2)
    rw [t2]; exact e
  · show _ ≤ tmR _ _ _ 3
    omega
  · rw [ew]
    show y < tmR _ _ _ 2 ∨ _
    rw [t2]; exact hy
/-- the sender's timer, as one entry that names its lowest piece -/
theorem tm_st {s : Smd} (h10 : s.1 10 = 1) (hb : tmSb s.1 s.2.2.2.2.2.1.length = true) (hc : (s.2.2.1 (s.1 4)).2.2.2 = false) : (tmSv s.1 s.2.2.1 s.2.2.2.2.2.1.length, tmSp s.1 s.2.2.1 s.2.2.2.2.2.1.length) = stN1 (vup (vup s.1 10 0) 7 1, s.2.2.1) (s.1 4, some (0, 239)) := by
  have hb2 := of_decide_eq_true hb
  unfold tmSv tmSp stN1
  rw [if_neg (by omega), if_pos h10, if_pos hb, if_pos ⟨h10, hb⟩]
  have o4 : vup (vup s.1 10 0) 7 1 4 = s.1 4 := by rw [vup_o (by decide), vup_o (by decide)]
  have o5 : vup (vup s.1 10 0) 7 1 5 = s.1 5 := by rw [vup_o (by decide), vup_o (by decide)]
  rw [if_pos ⟨by show vup (vup s.1 10 0) 7 1 4 ≤ s.1 4; rw [o4]; exact Nat.le_refl _, by show s.1 4 < vup (vup s.1 10 0) 7 1 5; rw [o5]; exact hb2.2.1, hc⟩]
  rfl
theorem tmS_V {T : Nat} {s : Smd} (h : SndV T s) : SndV (T + 1) (tmS s) ∧ fldS (tmS s) = fldS s ∧ (∀ x, ((tmS s).2.2.1 x).2.2.2 = (s.2.2.1 x).2.2.2) ∧ (tmS s).1 4 = s.1 4 ∧ (tmS s).1 5 = s.1 5 ∧ (tmS s).1 2 = s.1 2 := by
  obtain ⟨h1, h2, h3, h4, h5, h6, h7⟩ := id h
  have e4 : (tmS s).1 4 = s.1 4 := tmSv_k (by decide) (by decide) (by decide) (by decide)
  have e5 : (tmS s).1 5 = s.1 5 := tmSv_k (by decide) (by decide) (by decide) (by decide)
  have e2 : (tmS s).1 2 = s.1 2 := tmSv_k (by decide) (by decide) (by decide) (by decide)
  have b10 := h1.1 10 (by decide) (by decide)
  have key : SI (T + 1) (tmS s).1 (tmS s).2.2.1 ∧ SF (tmS s).1 (tmS s).2.2.1 ∧ (∀ x, ((tmS s).2.2.1 x).1 = (s.2.2.1 x).1) ∧ (∀ x, ((tmS s).2.2.1 x).2.2.2 = (s.2.2.1 x).2.2.2) := by
    by_cases c10 : s.1 10 = 1 ∧ tmSb s.1 s.2.2.2.2.2.1.length = true
    · have hlt : s.1 4 < s.1 5 := (of_decide_eq_true c10.2).2.1
      have est := tm_st c10.1 c10.2 (h4 hlt)
      have e1 : (tmS s).1 = (stN1 (vup (vup s.1 10 0) 7 1, s.2.2.1) (s.1 4, some (0, 239))).1 := by rw [← est]; rfl
      have e3 : (tmS s).2.2.1 = (stN1 (vup (vup s.1 10 0) 7 1, s.2.2.1) (s.1 4, some (0, 239))).2 := by rw [← est]; rfl
      rw [e1, e3]
      have o : ∀ k, k ≠ 7 → k ≠ 10 → vup (vup s.1 10 0) 7 1 k = s.1 k := fun k k7 k10 => by rw [vup_o k7, vup_o k10]
      have hI : SI T (vup (vup s.1 10 0) 7 1) s.2.2.1 := h1.vv ((h1.1.put (by decide)).put (by decide)) (o 4 (by decide) (by decide)) (o 5 (by decide) (by decide)) (o 6 (by decide) (by decide))
      have hF : SF (vup (vup s.1 10 0) 7 1) s.2.2.1 := h3.vv (o 4 (by decide) (by decide)) (o 5 (by decide) (by decide)) (o 8 (by decide) (by decide))
      refine ⟨SI.n1 hI, SF.n1 (T := T) hI hF, fun x => ?_, fun x => stN1_pc⟩
      have := stN_fld [(s.1 4, some (0, 239))] (vup (vup s.1 10 0) 7 1, s.2.2.1) x
      exact this
    · have e3 : (tmS s).2.2.1 = s.2.2.1 := by
        show tmSp _ _ _ = _
        unfold tmSp
        rw [if_neg c10]
      rw [e3]
      have hv : ∀ k, k ≠ 7 → k ≠ 10 → (tmS s).1 k = s.1 k := fun k k7 k10 => by
        show tmSv _ _ _ k = _
        unfold tmSv
        split
        · rfl
        · split
          · next h9 =>
            rw [if_neg (fun hh => c10 ⟨h9, hh⟩), vup_o k7, vup_o k10]
          · rw [vup_o k10]
      have hb : SvB (tmS s).1 := by
        show SvB (tmSv _ _ _)
        unfold tmSv
        split
        · exact h1.1
        · split
          · next h9 =>
            rw [if_neg (fun hh => c10 ⟨h9, hh⟩)]
            exact (h1.1.put (by decide)).put (by decide)
          · exact h1.1.put (by omega)
      exact ⟨(h1.vv hb e4 e5 (hv 6 (by decide) (by decide))).mono (by omega), h3.vv e4 e5 (hv 8 (by decide) (by decide)), fun _ => rfl, fun _ => rfl⟩
  obtain ⟨k1, k2, k3, k4⟩ := key
  have ef : fldS (tmS s) = fldS s := by
    funext x
    exact k3 x
  exact ⟨h.of k1 k2 e4 e5 ef k4 rfl, ef, k4, e4, e5, e2⟩
def prS (s : Smd) : Smd := (prV s.1 s.2.2.2.2.2.1.length, bkF (nI (s.1 2)) s.2.1, s.2.2)
theorem prV_k {v : Nat → Nat} {wl k : Nat} (h : k ≠ 10) : prV v wl k = v k := by
  unfold prV
  split
  · exact vup_o h
  · rfl
theorem prS_V {T : Nat} {s : Smd} (h : SndV T s) : SndV T (prS s) := by
  have hb : SvB (prS s).1 := by
    show SvB (prV _ _)
    unfold prV
    split
    · exact h.1.1.put (by decide)
    · exact h.1.1
  exact h.of (s' := prS s) (h.1.vv hb (prV_k (by decide)) (prV_k (by decide)) (prV_k (by decide))) (h.2.2.1.vv (prV_k (by decide)) (prV_k (by decide)) (prV_k (by decide))) (prV_k (by decide)) (prV_k (by decide)) rfl (fun _ => rfl) rfl
theorem add_toInt {a : Int32} {n : Nat} (h1 : -(2 ^ 30 : Int) ≤ a.toInt) (h2 : a.toInt ≤ 2 ^ 20) (hn : n < 2 ^ 20) : (a + nI n).toInt = a.toInt + n := by
  rw [Int32.toInt_add, nI_toInt (by omega)]
  apply Int.bmod_eq_of_le
  · omega
  · omega
theorem bkF_V {N r : Nat} {bk : Int32} (hN : N < 2 ^ 21) (hr : r ≤ 200) (h1 : -(N : Int) ≤ bk.toInt) (h2 : bk.toInt ≤ 2000) : -(N : Int) ≤ (bkF (nI r) bk).toInt ∧ (bkF (nI r) bk).toInt ≤ 2000 := by
  unfold bkF
  have e5 : (5 : Int32) * nI r = nI (5 * r) := pk_mul 5 r
  rw [e5]
  have ea := add_toInt (a := bk) (n := r) (by omega) (by omega) (by omega)
  split
  · exact ⟨h1, h2⟩
  · split
    · rw [nI_toInt (by omega)]
      omega
    · next h9 =>
      rw [lt_i, ea, nI_toInt (by omega)] at h9
      rw [ea]
      omega
/-- all places, the timers and what is before the blocks -/
def tmH (hs : Nat → Smd) : Nat → Smd := fun pl => tmS (hs pl)
def tmG (B : Nat) (hs : Nat → Smd) (hr : Nat → Rmd) : Nat → Rmd := fun pl => tmQ (fldS (hs (opp B pl))) (hr pl)
def prH (hs : Nat → Smd) : Nat → Smd := fun pl => prS (hs pl)
theorem tick0_V {T N n B : Nat} {key : Nat → Int32} {ad as' : Nat → Nat} {M : Hm} (hN : N < 2 ^ 20) (h : InvM T N n B key ad as' M) : InvM (T + 1) N n B key ad as' (prH (tmH M.1), tmG B M.1 M.2.1, M.2.2) ∧ (∀ pl, pl < 2 * B → (prH (tmH M.1) pl).1 2 = (M.1 pl).1 2) ∧ (∀ pl, fldS (prH (tmH M.1) pl) = fldS (tmH M.1 pl)) := by
  obtain ⟨h1, h2, h3⟩ := h
  have e2 : ∀ pl, pl < 2 * B → (prH (tmH M.1) pl).1 2 = (M.1 pl).1 2 := fun pl hpl => by
    show prV (tmS (M.1 pl)).1 _ 2 = _
    rw [prV_k (by decide)]
    exact (tmS_V (h1 pl hpl).1).2.2.2.2.2
  have ef : ∀ pl, pl < 2 * B → fldS (prH (tmH M.1) pl) = fldS (M.1 pl) := fun pl hpl => (tmS_V (h1 pl hpl).1).2.1
  have hA : AdA B (fun _ => 0) M.1 M.2.1 (prH (tmH M.1)) (tmG B M.1 M.2.1) := by
    intro pl hpl
    obtain ⟨o1, o2, o3⟩ := opp_lt hpl
    obtain ⟨t1, t2, t3, t4, t5, t6⟩ := tmS_V (h1 pl hpl).1
    have e5 : (prH (tmH M.1) pl).1 5 = (M.1 pl).1 5 := by
      show prV (tmS (M.1 pl)).1 _ 5 = _
      rw [prV_k (by decide)]
      exact t5
    refine ⟨⟨by omega, by show (prH (tmH M.1) pl).1 5 ≤ (M.1 pl).1 5 + 0; omega, fun x _ => by rw [ef pl hpl]⟩, ?_⟩
    have hj := (h1 _ o1).2.2
    rw [o3] at hj
    obtain ⟨j1, j2⟩ := hj.tm.2
    refine ⟨j1, fun y hy => ?_⟩
    have ew : whR (prH (tmH M.1) (opp B pl)) (tmG B M.1 M.2.1 pl) = whR (M.1 (opp B pl)) (tmQ (fldS (M.1 (opp B pl))) (M.2.1 pl)) := by
      unfold whR
      rw [ef _ o1]
      rfl
    rw [ew]
    exact j2 y hy
  refine ⟨⟨fun pl hpl => ?_, fun pl hpl => ?_, fun j hj => (h3 j hj).ad0 (by omega) hA⟩, e2, fun _ => rfl⟩
  · obtain ⟨k1, k2, k3⟩ := h1 pl hpl
    obtain ⟨o1, o2, o3⟩ := opp_lt hpl
    obtain ⟨t1, t2, t3, t4, t5, t6⟩ := tmS_V k1
    refine ⟨prS_V t1, k2, ?_⟩
    have hj := k3.tm.1
    show JntV (prS (tmS (M.1 pl))) (tmQ (fldS (M.1 (opp B (opp B pl)))) (M.2.1 (opp B pl)))
    rw [o3]
    refine hj.s (s' := prS (tmS (M.1 pl))) ?_ ?_ t2 (fun x hx => ?_)
    · show prV (tmS (M.1 pl)).1 _ 4 = _
      rw [prV_k (by decide)]; exact t4
    · show prV (tmS (M.1 pl)).1 _ 5 = _
      rw [prV_k (by decide)]; exact t5
    · have hx : ((tmS (M.1 pl)).2.2.1 x).2.2.2 = true := hx
      rw [t3] at hx
      exact hx
  · obtain ⟨b1, b2, b3, b4, b5⟩ := h2 pl hpl
    obtain ⟨t1, t2, t3, t4, t5, t6⟩ := tmS_V (h1 pl hpl).1
    have hbk := bkF_V (N := N) (r := (tmS (M.1 pl)).1 2) (bk := (M.1 pl).2.1) (by omega) (by rw [t6]; exact b5) b3 b4
    refine ⟨?_, b2, hbk.1, hbk.2, by rw [e2 pl hpl]; exact b5⟩
    show prV (tmS (M.1 pl)).1 _ 5 ≤ N
    rw [prV_k (by decide), t5]
    exact b1
