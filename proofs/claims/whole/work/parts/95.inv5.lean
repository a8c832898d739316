/-! PURE: the middle: a STATUS is worked on -/
theorem SI.mono {T T' : Nat} {v : Nat → Nat} {pc : Nat → Pce} (h : SI T v pc) (ht : T ≤ T') : SI T' v pc := ⟨h.1, h.2.1, h.2.2.1, h.2.2.2.1, fun x x1 x2 => ⟨(h.2.2.2.2 x x1 x2).1, Nat.le_trans (h.2.2.2.2 x x1 x2).2 ht⟩⟩
theorem SndV.mono {T T' : Nat} {s : Smd} (h : SndV T s) (ht : T ≤ T') : SndV T' s := ⟨h.1.mono ht, h.2⟩
theorem stN1_pc {s : (Nat → Nat) × (Nat → Pce)} {e : Ent} {y : Nat} : ((stN1 s e).2 y).2.2.2 = (s.2 y).2.2.2 := by
  unfold stN1
  split
  · show (spu s.2 e.1 _ y).2.2.2 = _
    unfold spu
    split
    · next h => rw [h]; rfl
    · rfl
  · rfl
theorem stN_cf : ∀ (es : List Ent) (s : (Nat → Nat) × (Nat → Pce)) (y : Nat), ((stN es s).2 y).2.2.2 = (s.2 y).2.2.2
  | [], _, _ => rfl
  | e :: es, s, y => by
    show ((stN es (stN1 s e)).2 y).2.2.2 = _
    rw [stN_cf es, stN1_pc]
theorem stK_tr {es : List Ent} : ∀ (m y : Nat) (s : Sst) (x : Nat), ((stK es m y s).2.1 x).2.2.1 = (s.2.1 x).2.2.1
  | 0, _, _, _ => rfl
  | m + 1, y, s, x => by
    unfold stK
    rw [stK_tr m]
    split
    · unfold stK1
      show (spu s.2.1 y _ x).2.2.1 = _
      unfold spu
      split
      · next h => rw [h]; rfl
      · rfl
    · rfl
theorem stK_cf {es : List Ent} : ∀ (m y : Nat) (s : Sst) (x : Nat), ((stK es m y s).2.1 x).2.2.2 = true → (s.2.1 x).2.2.2 = true ∨ (y ≤ x ∧ x < y + m ∧ nmd es x = false)
  | 0, _, _, _, h => Or.inl h
  | m + 1, y, s, x, h => by
    unfold stK at h
    rcases stK_cf m (y + 1) _ x h with h1 | ⟨h1, h2, h3⟩
    · split at h1
      · next hc =>
        unfold stK1 at h1
        have h1 : (spu s.2.1 y (cfQ (s.2.1 y)) x).2.2.2 = true := h1
        unfold spu at h1
        split at h1
        · next e =>
          rw [e]
          exact Or.inr ⟨Nat.le_refl _, by omega, hc.1⟩
        · exact Or.inl h1
      · exact Or.inl h1
    · exact Or.inr ⟨by omega, by omega, h3⟩
theorem SF.n {T : Nat} : ∀ (es : List Ent) (s : (Nat → Nat) × (Nat → Pce)), SI T s.1 s.2 → SF s.1 s.2 → SF (stN es s).1 (stN es s).2
  | [], _, _, h => h
  | e :: es, s, hI, h => SF.n (T := T + 1) es (stN1 s e) (SI.n1 hI) (SF.n1 hI h)
theorem aSum_up {pc : Nat → Pce} : ∀ (m a S : Nat), a + m ≤ S → (∀ x, a ≤ x → x < a + m → nMk (pc x) = 0) → aSum pc a (S - a) = aSum pc (a + m) (S - (a + m))
  | 0, _, _, _, _ => rfl
  | m + 1, a, S, h, hz => by
    rw [show S - a = (S - (a + 1)) + 1 by omega, aSum_left, hz a (Nat.le_refl _) (by omega), Nat.zero_add, aSum_up m (a + 1) S (by omega) (fun x x1 x2 => hz x (by omega) (by omega)), show a + 1 + m = a + (m + 1) by omega]
theorem SI.up {T a' : Nat} {v : Nat → Nat} {pc : Nat → Pce} (h : SI T v pc) (h1 : v 4 ≤ a') (h2 : a' ≤ v 5) (h3 : ∀ x, v 4 ≤ x → x < a' → (pc x).2.2.2 = true) : SI T (vup v 4 a') pc := by
  obtain ⟨k1, k2, k3, k4, k5⟩ := h
  have b5 := k1 5 (by decide) (by decide)
  refine ⟨k1.put (by omega), ?_, ?_, ?_, ?_⟩
  · rw [vup_s, vup_o (by decide)]; exact h2
  · rw [vup_s, vup_o (by decide)]; omega
  · rw [vup_s, vup_o (by decide), vup_o (by decide), k4]
    have := aSum_up (pc := pc) (a' - v 4) (v 4) (v 5) (by omega) (fun x x1 x2 => nMk_t (h3 x x1 (by omega)))
    rw [show v 4 + (a' - v 4) = a' by omega] at this
    exact this
  · rw [vup_s, vup_o (by decide)]
    exact fun x x1 x2 => k5 x (by omega) x2
theorem pt0_k {ack k : Nat} {v : Nat → Nat} (h : k ≠ 10) : pt0 ack v k = v k := by
  unfold pt0
  split
  · rfl
  · exact vup_o h
theorem stat_V {T a : Nat} {s : Smd} {ro : Rmd} {t : Nat × List Ent} (hs : SndV T s) (hj : JntV s ro) (ht : StaV s ro a t) (ha : a ≤ 31) (hT : T + 20 < 2 ^ 20) : OkT2 T s t ∧ SndV (T + 15) (stX t.1 t.2 s) ∧ JntV (stX t.1 t.2 s) ro ∧ AdvS 0 s (stX t.1 t.2 s) ∧ whR (stX t.1 t.2 s) ro = whR s ro ∧ (∀ kc, ObK kc s.2.2.2.2.1 s.2.2.2.2.2 → ObK kc (stX t.1 t.2 s).2.2.2.2.1 (stX t.1 t.2 s).2.2.2.2.2) ∧ (stX t.1 t.2 s).1 2 = s.1 2 ∧ (stX t.1 t.2 s).2.1 = s.2.1 ∧ (stX t.1 t.2 s).2.2.2.1 = s.2.2.2.1 := by
  obtain ⟨ack, es⟩ := t
  obtain ⟨t1, t2, t3, t4, t5⟩ := ht
  have t1 : es.length ≤ 15 := t1
  have t2 : ack ≤ ro.1 3 := t2
  have t3 : s.1 5 ≤ ack + 16 + a := t3
  obtain ⟨h1, h2, h3, h4, h5, h6, h7⟩ := id hs
  obtain ⟨⟨a1, a2, a3, a4, a5, a6, a7, a8, a9⟩, b, ⟨c1, c2⟩, e1, e2⟩ := id hj
  have h45 := h1.2.1
  have hB : EsB (s.1 4) es := fun e he => by
    obtain ⟨q1, q2, q3⟩ := t4 e he
    have q1 : e.1 < ack := q1
    exact ⟨by omega, by omega, q3⟩
  have hOk : OkT2 T s (ack, es) := by
    refine ⟨⟨hB, by show es.length < 128; omega, by show s.1 4 ≤ ack + 47; omega, by show ack ≤ s.1 5; omega, h1, by show T + es.length < 2 ^ 20; omega, h2⟩, h3, by show T + es.length + 1 < 2 ^ 20; omega, fun x x1 x2 k hk => ?_⟩
    exact (chn_cel _ _ (h6 x x2) _ (gc_mem hk)).2
  have hf : fldS (stX ack es s) = fldS s := stX_fld
  have ew : whR (stX ack es s) ro = whR s ro := by unfold whR; rw [hf]
  refine ⟨hOk, ?_⟩
  show SndV (T + 15) (stX ack es s) ∧ JntV (stX ack es s) ro ∧ AdvS 0 s (stX ack es s) ∧ whR (stX ack es s) ro = whR s ro ∧ (∀ kc, ObK kc s.2.2.2.2.1 s.2.2.2.2.2 → ObK kc (stX ack es s).2.2.2.2.1 (stX ack es s).2.2.2.2.2) ∧ (stX ack es s).1 2 = s.1 2 ∧ (stX ack es s).2.1 = s.2.1 ∧ (stX ack es s).2.2.2.1 = s.2.2.2.1
  by_cases hack : ack < s.1 4
  · have ex : stX ack es s = (vup s.1 14 (s.1 14 + 1), s.2) := by
      unfold stX stF
      rw [if_pos hack]
    have o14 : ∀ j, j ≠ 14 → vup s.1 14 (s.1 14 + 1) j = s.1 j := fun j hj => vup_o hj
    have hI1 : SI T (vup s.1 14 (s.1 14 + 1)) s.2.2.1 := h1.vv (h1.1.putc (by decide)) (o14 4 (by decide)) (o14 5 (by decide)) (o14 6 (by decide))
    rw [ex] at hf ⊢
    refine ⟨(hs.of (s' := (vup s.1 14 (s.1 14 + 1), s.2)) hI1 (h3.vv (u := vup s.1 14 (s.1 14 + 1)) (o14 4 (by decide)) (o14 5 (by decide)) (o14 8 (by decide))) (o14 4 (by decide)) (o14 5 (by decide)) hf (fun _ => rfl) rfl).mono (by omega), hj.s (s' := (vup s.1 14 (s.1 14 + 1), s.2)) (o14 4 (by decide)) (o14 5 (by decide)) hf (fun _ h => h), ⟨?_, ?_, fun x _ => by rw [hf]⟩, by unfold whR; rw [hf], fun kc h => h, o14 2 (by decide), rfl, rfl⟩
    · show s.1 5 ≤ vup s.1 14 (s.1 14 + 1) 5
      rw [vup_o (by decide)]; exact Nat.le_refl _
    · show vup s.1 14 (s.1 14 + 1) 5 ≤ s.1 5 + 0
      rw [vup_o (by decide)]; exact Nat.le_refl _
  · obtain ⟨k, ek⟩ : ∃ k, k = stK es (ack - s.1 4) (s.1 4) (vup s.1 14 (s.1 14 + 1), s.2.2.1, s.2.2.2.2) := ⟨_, rfl⟩
    obtain ⟨n, en⟩ : ∃ n, n = stN es (k.1, k.2.1) := ⟨_, rfl⟩
    have ex : stX ack es s = (pt0 ack (vup n.1 4 (upA n.2 (n.1 5) 16 (n.1 4))), s.2.1, n.2, s.2.2.2.1, k.2.2) := by
      unfold stX stF stM stM2 stM3
      rw [if_neg (by show ¬ ack < s.1 4; exact hack), en, ek]
    have o14 : ∀ j, j ≠ 14 → vup s.1 14 (s.1 14 + 1) j = s.1 j := fun j hj => vup_o hj
    have kk : ∀ j, j ≠ 6 → j ≠ 14 → k.1 j = s.1 j := fun j h6 h14 => by
      rw [ek, stK_k h6]
      exact o14 j h14
    have nk : ∀ j, j ≠ 6 → j ≠ 8 → j ≠ 14 → n.1 j = s.1 j := fun j h6 h8 h14 => by
      rw [en, stN_k h6 h8]
      exact kk j h6 h14
    have hI1 : SI T (vup s.1 14 (s.1 14 + 1)) s.2.2.1 := h1.vv (h1.1.putc (by decide)) (o14 4 (by decide)) (o14 5 (by decide)) (o14 6 (by decide))
    have hIk : SI T k.1 k.2.1 := by
      rw [ek]
      refine SI.k _ _ _ ?_ ?_ hI1
      · show vup s.1 14 (s.1 14 + 1) 4 ≤ s.1 4
        rw [o14 4 (by decide)]; exact Nat.le_refl _
      · show s.1 4 + (ack - s.1 4) ≤ vup s.1 14 (s.1 14 + 1) 5
        rw [o14 5 (by decide)]; omega
    have hIn : SI (T + es.length) n.1 n.2 := by
      rw [en]
      exact SI.n es (k.1, k.2.1) hIk
    have hFk : SF k.1 k.2.1 := by
      refine (h3.vv (u := vup s.1 14 (s.1 14 + 1)) (o14 4 (by decide)) (o14 5 (by decide)) (o14 8 (by decide))).pc ?_ ?_ ?_ (fun x => ?_)
      · rw [kk 4 (by decide) (by decide), o14 4 (by decide)]
      · rw [kk 5 (by decide) (by decide), o14 5 (by decide)]
      · rw [kk 8 (by decide) (by decide), o14 8 (by decide)]
      · rw [ek, stK_tr]
    have hFn : SF n.1 n.2 := by
      rw [en]
      exact SF.n (T := T) es (k.1, k.2.1) hIk hFk
    have hcf : ∀ x, (n.2 x).2.2.2 = true → s.1 4 ≤ x → x < s.1 5 → x < ro.1 2 ∨ whR s ro x = true := fun x hx x1 x2 => by
      rw [en, stN_cf] at hx
      have hx : (k.2.1 x).2.2.2 = true := hx
      rw [ek] at hx
      rcases stK_cf _ _ _ x hx with q | ⟨q1, q2, q3⟩
      · exact e1 x x1 x2 q
      · exact t5 x (by show x < ack; omega) q3
    obtain ⟨A', eA⟩ : ∃ A', A' = upA n.2 (n.1 5) 16 (n.1 4) := ⟨_, rfl⟩
    rw [← eA] at ex
    obtain ⟨u1, u2, u3, u4⟩ := upA_spec (pc := n.2) (S := n.1 5) 16 (n.1 4) (by rw [nk 4 (by decide) (by decide) (by decide), nk 5 (by decide) (by decide) (by decide)]; exact h45)
    rw [← eA] at u1 u2 u3 u4
    rw [nk 4 (by decide) (by decide) (by decide)] at u1 u3 u4
    rw [nk 5 (by decide) (by decide) (by decide)] at u2 u4
    have hA' : A' ≤ ro.1 2 := by
      refine Classical.byContradiction (fun hh => ?_)
      have hc := u3 (ro.1 2) a6 (by omega)
      rcases hcf (ro.1 2) hc a6 (by omega) with q | q
      · omega
      · rw [c1] at q; cases q
    have hI' : SI (T + 15) (pt0 ack (vup n.1 4 A')) n.2 := by
      have hup := (hIn.mono (T' := T + 15) (by omega)).up (a' := A') (by rw [nk 4 (by decide) (by decide) (by decide)]; exact u1) (by rw [nk 5 (by decide) (by decide) (by decide)]; exact u2) (by rw [nk 4 (by decide) (by decide) (by decide)]; exact u3)
      refine hup.vv ?_ (pt0_k (by decide)) (pt0_k (by decide)) (pt0_k (by decide))
      unfold pt0
      split
      · exact hup.1
      · exact hup.1.put (by decide)
    have f4 : pt0 ack (vup n.1 4 A') 4 = A' := by rw [pt0_k (by decide), vup_s]
    have f5 : pt0 ack (vup n.1 4 A') 5 = s.1 5 := by rw [pt0_k (by decide), vup_o (by decide), nk 5 (by decide) (by decide) (by decide)]
    have f8 : pt0 ack (vup n.1 4 A') 8 = n.1 8 := by rw [pt0_k (by decide), vup_o (by decide)]
    rw [ex] at hf ew ⊢
    refine ⟨⟨hI', ?_, ⟨by show pt0 ack (vup n.1 4 A') 8 ≤ 1; rw [f8]; exact hFn.1, fun x x1 x2 x3 => ?_⟩, fun hh => ?_, ?_, ?_, ?_⟩, ⟨⟨a1, a2, a3, a4, ?_, ?_, ?_, a8, a9⟩, ?_, ?_, fun x x1 x2 x3 => ?_, ?_⟩, ⟨?_, ?_, fun x _ => by rw [hf]⟩, ew, fun kc hk => ?_, ?_, rfl, rfl⟩
    · show ObV s.2.2.2.1 k.2.2.1 k.2.2.2
      rw [ek]
      exact obV_stK _ _ _ h2
    · have x1 : pt0 ack (vup n.1 4 A') 4 ≤ x := x1
      have x2 : x < pt0 ack (vup n.1 4 A') 5 := x2
      show pt0 ack (vup n.1 4 A') 8 = 1
      rw [f8]
      exact hFn.2 x (by rw [nk 4 (by decide) (by decide) (by decide)]; omega) (by rw [nk 5 (by decide) (by decide) (by decide)]; omega) x3
    · have hh : pt0 ack (vup n.1 4 A') 4 < pt0 ack (vup n.1 4 A') 5 := hh
      show (n.2 (pt0 ack (vup n.1 4 A') 4)).2.2.2 = false
      rw [f4] at hh ⊢
      exact u4 (by omega) (by omega)
    · rw [hf]; exact h5
    · intro x hx
      have hx : x < pt0 ack (vup n.1 4 A') 5 := hx
      rw [hf]
      exact h6 x (by omega)
    · show bgN _ (pt0 ack (vup n.1 4 A') 5) = frW k.2.2.2
      rw [hf, f5, ek, frW_stK]
      exact h7
    · show _ ≤ pt0 ack (vup n.1 4 A') 5
      omega
    · show pt0 ack (vup n.1 4 A') 4 ≤ _
      omega
    · show pt0 ack (vup n.1 4 A') 5 ≤ pt0 ack (vup n.1 4 A') 4 + 16
      omega
    · rw [hf]; exact b
    · rw [ew]; exact ⟨c1, c2⟩
    · have x1 : pt0 ack (vup n.1 4 A') 4 ≤ x := x1
      have x2 : x < pt0 ack (vup n.1 4 A') 5 := x2
      rw [ew]
      exact hcf x x3 (by omega) (by omega)
    · rw [hf]; exact e2
    · show _ ≤ pt0 ack (vup n.1 4 A') 5
      omega
    · show pt0 ack (vup n.1 4 A') 5 ≤ _
      omega
    · show ObK kc k.2.2.1 k.2.2.2
      rw [ek]
      exact obK_stK _ _ _ hk
    · show pt0 ack (vup n.1 4 A') 2 = _
      rw [pt0_k (by decide), vup_o (by decide), nk 2 (by decide) (by decide) (by decide)]
