/-! PURE: the middle: what a PART that is made leaves true -/
theorem cdV_k {v : Nat → Nat} {wl k : Nat} (h7 : k ≠ 7) (h9 : k ≠ 9) (h10 : k ≠ 10) (h11 : k ≠ 11) (h12 : k ≠ 12) : cdV v wl k = v k := by
  unfold cdV
  split
  · rw [vup_o h10, vup_o h9, vup_o h11, vup_o h7, vup_o h12]
  · rw [vup_o h11, vup_o h12]
theorem SvB.cd {v : Nat → Nat} {wl : Nat} (h : SvB v) : SvB (cdV v wl) := by
  unfold cdV
  split
  · exact (((((h.putc (by decide)).put (by decide)).put (by decide)).put (h 5 (by decide) (by decide))).put (by decide))
  · next hp =>
    refine (h.putc (by decide)).put ?_
    have : ¬ 3 ≤ v 11 := fun hh => hp (decide_eq_true (Or.inr (Or.inl hh)))
    omega
theorem SI.cd {T wl : Nat} {v : Nat → Nat} {pc : Nat → Pce} (h : SI T v pc) : SI T (cdV v wl) pc := by
  obtain ⟨a, b, c, d, e⟩ := h
  have e4 : cdV v wl 4 = v 4 := cdV_k (by decide) (by decide) (by decide) (by decide) (by decide)
  have e5 : cdV v wl 5 = v 5 := cdV_k (by decide) (by decide) (by decide) (by decide) (by decide)
  have e6 : cdV v wl 6 = v 6 := cdV_k (by decide) (by decide) (by decide) (by decide) (by decide)
  refine ⟨a.cd, ?_, ?_, ?_, ?_⟩
  · rw [e4, e5]; exact b
  · rw [e4, e5]; exact c
  · rw [e4, e5, e6]; exact d
  · rw [e4, e5]; exact e
/-- marks that are taken away -/
theorem cnt_unT {f : Nat → Bool} {fr to n : Nat} (h1 : fr ≤ to) (h2 : to ≤ n) (h3 : ∀ k, fr ≤ k → k < to → f k = true) : cnt (unT f fr to) 0 n + (to - fr) = cnt f 0 n := by
  have key : ∀ m, fr + m ≤ to → cnt (unT f fr (fr + m)) 0 n + m = cnt f 0 n := by
    intro m
    induction m with
    | zero => intro _; rw [Nat.add_zero, show fr + 0 = fr from rfl, unT_0]
    | succ m ih =>
      intro hm
      have := ih (by omega)
      have hs := unT_step (f := f) (fr := fr) (i := fr + m) (by omega)
      have hc := cnt_bup (f := unT f fr (fr + m)) (v := false) (a := 0) n (Nat.zero_le (fr + m)) (by omega)
      rw [hs] at hc
      have hu : unT f fr (fr + m) (fr + m) = true := by
        unfold unT
        rw [h3 (fr + m) (by omega) (by omega), decide_eq_false (by omega)]
        rfl
      rw [hu] at hc
      simp only [b2n, if_true, Bool.false_eq_true, if_false] at hc
      rw [show fr + (m + 1) = fr + m + 1 by omega]
      omega
  have := key (to - fr) (by omega)
  rw [show fr + (to - fr) = to by omega] at this
  exact this
theorem SI.ag {T room : Nat} {s : Smd} (h : SI T s.1 s.2.2.1) (h0 : 0 < s.1 6) (hr : agW (agQ s) room = true ∨ 4 ≤ room) : SI T (agS s room).1 (agS s room).2.2.1 ∧ s.1 4 ≤ agX s.1 s.2.2.1 ∧ agX s.1 s.2.2.1 < s.1 5 ∧ (agQ s).2.2.2 = false ∧ ¬ nAg (agQ s) = 0 := by
  obtain ⟨a, b, c, d, e⟩ := h
  obtain ⟨y, y1, y2, y3⟩ := aSum_ex (pc := s.2.2.1) (a := s.1 4) (s.1 5 - s.1 4) (by omega)
  have hspec := frA_spec (pc := s.2.2.1) (s.1 5 - s.1 4) (s.1 4) y y1 (by omega) y3
  have hX1 : s.1 4 ≤ agX s.1 s.2.2.1 := hspec.1
  have hX2 : agX s.1 s.2.2.1 < s.1 5 := by
    have h9 : agX s.1 s.2.2.1 ≤ y := hspec.2.1
    omega
  have hq : nMk (agQ s) ≠ 0 := hspec.2.2
  have hcf : (agQ s).2.2.2 = false := by
    cases e : (agQ s).2.2.2 with
    | true => exact absurd (nMk_t e) hq
    | false => rfl
  have hna : ¬ nAg (agQ s) = 0 := by rw [← nMk_f hcf]; exact hq
  obtain ⟨z1, z2, z3⟩ := ag_end hna hr
  obtain ⟨r1, r2, r3, r4, r5⟩ := ag_run hna
  have hun := cnt_unT (f := (agQ s).2.1) (fr := agF (agQ s)) (to := agE (agQ s) room) (n := (agQ s).1.length) (by omega) (by omega) (fun k k1 k2 => r3 k k1 (by omega))
  have hsum := aSum_upd (pc := s.2.2.1) (q := uaP (agQ s) (agF (agQ s)) (agE (agQ s) room)) (s.1 5 - s.1 4) hX1 (by omega)
  have hge := aSum_ge (pc := s.2.2.1) (s.1 5 - s.1 4) hX1 (by omega)
  have hq1 : nMk (s.2.2.1 (agX s.1 s.2.2.1)) = nAg (agQ s) := nMk_f hcf
  have hq2 : nMk (uaP (agQ s) (agF (agQ s)) (agE (agQ s) room)) = cnt (unT (agQ s).2.1 (agF (agQ s)) (agE (agQ s) room)) 0 (agQ s).1.length := nMk_f (q := uaP (agQ s) (agF (agQ s)) (agE (agQ s) room)) hcf
  have hq3 : nAg (agQ s) = cnt (agQ s).2.1 0 (agQ s).1.length := rfl
  have b6 := a 6 (by decide) (by decide)
  refine ⟨SI.cd ⟨?_, ?_, ?_, ?_, ?_⟩, hX1, hX2, hcf, hna⟩
  · unfold agU agV
    exact (a.put (by omega)).putc (by decide)
  · unfold agU agV
    rw [vup_o (by decide), vup_o (by decide), vup_o (by decide), vup_o (by decide)]
    exact b
  · unfold agU agV
    rw [vup_o (by decide), vup_o (by decide), vup_o (by decide), vup_o (by decide)]
    exact c
  · unfold agU agV
    rw [vup_o (by decide), vup_s, vup_o (by decide), vup_o (by decide), vup_o (by decide), vup_o (by decide)]
    show _ = aSum (spu s.2.2.1 (agX s.1 s.2.2.1) (uaP (agQ s) (agF (agQ s)) (agE (agQ s) room))) (s.1 4) (s.1 5 - s.1 4)
    omega
  · unfold agU agV
    rw [vup_o (by decide), vup_o (by decide), vup_o (by decide), vup_o (by decide)]
    intro x x1 x2
    show (spu s.2.2.1 (agX s.1 s.2.2.1) (uaP (agQ s) (agF (agQ s)) (agE (agQ s) room)) x).1.length ≤ 240 ∧ (spu s.2.2.1 (agX s.1 s.2.2.1) (uaP (agQ s) (agF (agQ s)) (agE (agQ s) room)) x).2.2.1 ≤ T
    unfold spu
    split
    · exact e _ hX1 hX2
    · exact e x x1 x2
theorem SI.nw {T room : Nat} {s : Smd} (h : SI T s.1 s.2.2.1) (h5 : s.1 5 + 1 < 2 ^ 20) (hf : ¬ s.1 4 + 16 ≤ s.1 5) : SI T (nwS s room).1 (nwS s room).2.2.1 := by
  obtain ⟨a, b, c, d, e⟩ := h
  have hl := (mnF_spec 240 (room - 2) [] s.2.2.2.2.2).2.2
  have o4 : newV s.1 4 = s.1 4 := vup_o (by decide)
  have o5 : newV s.1 5 = s.1 5 + 1 := vup_s
  have o6 : newV s.1 6 = s.1 6 := vup_o (by decide)
  refine SI.cd ⟨a.put h5, ?_, ?_, ?_, ?_⟩
  · rw [o4, o5]; omega
  · rw [o4, o5]; omega
  · rw [o4, o5, o6, show s.1 5 + 1 - s.1 4 = (s.1 5 - s.1 4) + 1 by omega]
    show s.1 6 = aSum (spu s.2.2.1 (s.1 5) _) (s.1 4) (s.1 5 - s.1 4) + nMk (spu s.2.2.1 (s.1 5) _ (s.1 4 + (s.1 5 - s.1 4)))
    rw [show s.1 4 + (s.1 5 - s.1 4) = s.1 5 by omega, spu_s, aSum_congr (pc' := s.2.2.1) _ (fun x x1 x2 => by rw [spu_o (by omega)]), d]
    have : nMk ((newL room s.2.2.2.2.2).1, mnA, 0, false) = 0 := by
      rw [nMk_f rfl]
      exact cnt_0 _ (fun _ _ _ => rfl)
    rw [this]
    omega
  · rw [o4, o5]
    intro x x1 x2
    show (spu s.2.2.1 (s.1 5) ((newL room s.2.2.2.2.2).1, mnA, 0, false) x).1.length ≤ 240 ∧ (spu s.2.2.1 (s.1 5) ((newL room s.2.2.2.2.2).1, mnA, 0, false) x).2.2.1 ≤ T
    by_cases ex : x = s.1 5
    · rw [ex, spu_s]
      refine ⟨?_, Nat.zero_le _⟩
      exact Nat.le_trans hl (by simp)
    · rw [spu_o ex]
      exact e x x1 (by omega)
theorem obV_mn {nc : Nat} {un : Nat → Un} : ∀ (m left : Nat) (l : List Cel) (w : Wt), ObV nc un w → ObV nc un (mnF m left l w).2 := by
  intro m
  induction m with
  | zero => intro left l w h; exact h
  | succ m ih =>
    intro left l w h
    unfold mnF
    split
    · exact h
    · split
      · exact h
      · exact ih _ _ _ (obV_pop h)
theorem obK_mn {ks : Nat → Nat → Int32} {un : Nat → Un} : ∀ (m left : Nat) (l : List Cel) (w : Wt), ObK ks un w → ObK ks un (mnF m left l w).2 := by
  intro m
  induction m with
  | zero => intro left l w h; exact h
  | succ m ih =>
    intro left l w h
    unfold mnF
    split
    · exact h
    · split
      · exact h
      · exact ih _ _ _ (obK_pop h)
theorem RvV.mks {v : Nat → Nat} (h : RvV v) : RvV (mksV v) := by
  obtain ⟨a, b, c, d, e⟩ := h
  have o : ∀ k, k ≠ 7 → k ≠ 9 → k ≠ 10 → mksV v k = v k := fun k h7 h9 h10 => by unfold mksV; rw [vup_o h10, vup_o h9, vup_o h7]
  refine ⟨?_, ?_, ?_, ?_, ?_⟩
  · intro k k1 k2
    unfold mksV
    rw [vup_o (by omega)]
    exact ((a.put (by decide)).put (by decide)) k k1 k2
  · rw [o 2 (by decide) (by decide) (by decide), o 4 (by decide) (by decide) (by decide)]; exact b
  · rw [o 3 (by decide) (by decide) (by decide), o 4 (by decide) (by decide) (by decide)]; exact c
  · rw [o 3 (by decide) (by decide) (by decide), o 5 (by decide) (by decide) (by decide)]; exact d
  · rw [o 3 (by decide) (by decide) (by decide), o 2 (by decide) (by decide) (by decide)]; exact e
/-- a PART that is made keeps what belongs -/
theorem mkPt_V {T room : Nat} {G : Nat → List Cel} {s s' : Smd} {r r' : Rmd} {pt : Prt} {ks : Nat → Nat → Int32} (e : mkPt G s r room = some (pt, s', r')) (hV : SmV T s) (hK : ObK ks s.2.2.2.2.1 s.2.2.2.2.2) (hR : RvV r.1) : SI T s'.1 s'.2.2.1 ∧ ObV s'.2.2.2.1 s'.2.2.2.2.1 s'.2.2.2.2.2 ∧ s'.1 5 ≤ s.1 5 + 1 ∧ ObK ks s'.2.2.2.2.1 s'.2.2.2.2.2 ∧ RvV r'.1 ∧ s'.2.1 = s.2.1 := by
  obtain ⟨h1, h2, h3⟩ := hV
  unfold mkPt at e
  split at e
  · cases e
    exact ⟨h1, h2, Nat.le_succ _, hK, hR.mks, rfl⟩
  · split at e
    · cases e
    · split at e
      · next h0 =>
        split at e
        · next hr =>
          cases e
          refine ⟨(h1.ag h0 hr).1, h2, ?_, hK, hR, rfl⟩
          have : (agS s room).1 5 = s.1 5 := by
            show cdV (agU s room) _ 5 = _
            rw [cdV_k (by decide) (by decide) (by decide) (by decide) (by decide)]
            unfold agU agV
            rw [vup_o (by decide), vup_o (by decide)]
          omega
        · cases e
      · split at e
        · cases e
        · next hh =>
          cases e
          refine ⟨h1.nw h3 (by omega), obV_mn _ _ _ _ h2, ?_, obK_mn _ _ _ _ hK, hR, rfl⟩
          have : (nwS s room).1 5 = s.1 5 + 1 := by
            show cdV (newV s.1) _ 5 = _
            rw [cdV_k (by decide) (by decide) (by decide) (by decide) (by decide)]
            exact vup_s
          omega
