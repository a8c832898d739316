/-! PURE: the middle: DATA is worked on -/
theorem dlL_uw {G : Nat → List Cel} {pc : Rpc} {ks : Int32 → Nat → Int32} {nc : Nat} : ∀ (m : Nat) (s : Dst), (ObV nc s.2.2.2.1 s.2.2.2.2 → ObV nc (dlL G pc ks nc m s).2.2.2.1 (dlL G pc ks nc m s).2.2.2.2) ∧ frW (dlL G pc ks nc m s).2.2.2.2 = frW s.2.2.2.2 ∧ ∀ kc : Nat → Nat → Int32, ObK kc s.2.2.2.1 s.2.2.2.2 → ObK kc (dlL G pc ks nc m s).2.2.2.1 (dlL G pc ks nc m s).2.2.2.2
  | 0, _ => ⟨fun h => h, rfl, fun _ h => h⟩
  | m + 1, s => by
    unfold dlL
    split
    · obtain ⟨h1, h2, h3⟩ := dlL_uw (G := G) (pc := pc) (ks := ks) (nc := nc) m (dlS G ks nc s)
      refine ⟨fun h => h1 (obV_hndL _ _ h), ?_, fun kc h => h3 kc (obK_hndL _ _ h)⟩
      rw [h2]
      exact frW_hndL _ _
    · exact ⟨fun h => h, rfl, fun _ h => h⟩
theorem dlL_ind {G : Nat → List Cel} {pc : Rpc} {ks : Int32 → Nat → Int32} {nc : Nat} {Gd : Dst → Prop} (h2 : ∀ t : Dst, Gd t → whl G (t.1 2) (t.1 3) pc (t.1 2) = true → Gd (dlS G ks nc t)) : ∀ (m : Nat) (s : Dst), Gd s → Gd (dlL G pc ks nc m s)
  | 0, _, h => h
  | m + 1, s, h => by
    unfold dlL
    split
    · next e => exact dlL_ind h2 m _ (h2 s h e)
    · exact h
theorem dlL_end {G : Nat → List Cel} {pc : Rpc} {ks : Int32 → Nat → Int32} {nc : Nat} : ∀ (m : Nat) (s : Dst), s.1 3 ≤ s.1 2 + m → whl G ((dlL G pc ks nc m s).1 2) ((dlL G pc ks nc m s).1 3) pc ((dlL G pc ks nc m s).1 2) = false
  | 0, s, h => decide_eq_false (fun hh => by have := hh.2.1; show False; have h : s.1 3 ≤ s.1 2 + 0 := h; have : s.1 2 < s.1 3 := this; omega)
  | m + 1, s, h => by
    unfold dlL
    split
    · refine dlL_end m _ ?_
      show pasV s.1 3 ≤ pasV s.1 2 + m
      unfold pasV
      rw [vup_o (by decide), vup_o (by decide), vup_o (by decide), vup_s]
      omega
    · next e => simpa using e
/-- the state while pieces are handed -/
def GdD (G : Nat → List Cel) (R0 H M4 p6 : Nat) (v0 : Nat → Nat) (t : Dst) : Prop := RvB t.1 ∧ R0 ≤ t.1 2 ∧ t.1 2 ≤ M4 ∧ t.1 4 = M4 ∧ t.1 3 = H ∧ t.1 6 = p6 ∧ t.1 5 = v0 5 ∧ t.1 7 = v0 7 ∧ t.2.1 = bgN G (t.1 2)
theorem whl_R {G : Nat → List Cel} {R R' H y : Nat} {pc : Rpc} (h1 : R ≤ y) (h2 : R' ≤ y) : whl G R H pc y = whl G R' H pc y := by
  unfold whl
  by_cases h : y < H ∧ (pc y).1 = true ∧ cnt (pc y).2 0 240 = (G y).length
  · rw [decide_eq_true ⟨h1, h⟩, decide_eq_true ⟨h2, h⟩]
  · rw [decide_eq_false (fun hh => h hh.2), decide_eq_false (fun hh => h hh.2)]
theorem setV_k {x k : Nat} {poll : Bool} {v : Nat → Nat} (h5 : k ≠ 5) (h6 : k ≠ 6) (h7 : k ≠ 7) (h8 : k ≠ 8) : setV x poll v k = v k := by
  have e1 : ∀ u : Nat → Nat, setV1 u k = u k := fun u => by
    unfold setV1
    split
    · rfl
    · rw [vup_o h8]
  have e2 : ∀ u : Nat → Nat, setV2 u k = u k := fun u => by
    unfold setV2
    split
    · rw [vup_o h5, vup_o h8]
    · rfl
  unfold setV
  split
  · rw [ansV_k h6 h7, vup_o h6, e2, e1, ansV_k h6 h7]
  · rw [e2, e1, ansV_k h6 h7]
theorem ansV_p {v : Nat → Nat} : ansV v 6 = 0 ∨ v 4 + 1 ≤ ansV v 6 := by
  unfold ansV
  split
  · next h => exact h
  · exact Or.inl vup_s
theorem ansV_7 {v : Nat → Nat} (h : v 7 ≤ 1) : ansV v 7 ≤ 1 := by
  unfold ansV
  split
  · exact h
  · rw [vup_o (by decide), vup_s]
    omega
theorem setV_b {x : Nat} {poll : Bool} {v : Nat → Nat} (hb : RvB v) (hx : x + 1 < 2 ^ 20) : RvB (setV x poll v) := by
  unfold setV
  split
  · exact ((hb.ans.set1.set2).put hx).ans
  · exact hb.ans.set1.set2
theorem setV_5 {x : Nat} {poll : Bool} {v : Nat → Nat} (h : v 5 ≤ v 3) : setV x poll v 5 ≤ v 3 := by
  have e1 : ∀ u : Nat → Nat, setV1 u 5 = u 5 ∧ setV1 u 3 = u 3 := fun u => by
    unfold setV1
    split
    · exact ⟨rfl, rfl⟩
    · exact ⟨vup_o (by decide), vup_o (by decide)⟩
  have e2 : ∀ u : Nat → Nat, u 5 ≤ u 3 → setV2 u 5 ≤ u 3 := fun u hu => by
    unfold setV2
    split
    · rw [vup_s]
      exact Nat.le_refl _
    · exact hu
  have ea : setV2 (setV1 (ansV v)) 5 ≤ v 3 := by
    have := e2 (setV1 (ansV v)) (by rw [(e1 _).1, (e1 _).2, ansV_k (by decide) (by decide), ansV_k (by decide) (by decide)]; exact h)
    rw [(e1 _).2, ansV_k (by decide) (by decide)] at this
    exact this
  unfold setV
  split
  · rw [ansV_k (by decide) (by decide), vup_o (by decide)]
    exact ea
  · exact ea
theorem setV_67 {x : Nat} {poll : Bool} {v : Nat → Nat} (h7 : v 7 ≤ 1) : (setV x poll v 6 = 0 ∨ v 4 + 1 ≤ setV x poll v 6) ∧ setV x poll v 7 ≤ 1 := by
  have e1 : ∀ (u : Nat → Nat) (k : Nat), k ≠ 8 → setV1 u k = u k := fun u k hk => by
    unfold setV1
    split
    · rfl
    · exact vup_o hk
  have e2 : ∀ (u : Nat → Nat) (k : Nat), k ≠ 5 → k ≠ 8 → setV2 u k = u k := fun u k h5 h8 => by
    unfold setV2
    split
    · rw [vup_o h5, vup_o h8]
    · rfl
  unfold setV
  split
  · have o4 : vup (setV2 (setV1 (ansV v))) 6 (x + 1) 4 = v 4 := by rw [vup_o (by decide), e2 _ 4 (by decide) (by decide), e1 _ 4 (by decide), ansV_k (by decide) (by decide)]
    have hp := ansV_p (v := vup (setV2 (setV1 (ansV v))) 6 (x + 1))
    rw [o4] at hp
    refine ⟨hp, ansV_7 ?_⟩
    rw [vup_o (by decide), e2 _ 7 (by decide) (by decide), e1 _ 7 (by decide)]
    exact ansV_7 h7
  · rw [e2 _ 6 (by decide) (by decide), e1 _ 6 (by decide), e2 _ 7 (by decide) (by decide), e1 _ 7 (by decide)]
    exact ⟨ansV_p, ansV_7 h7⟩
theorem orT_T {th : Nat → Bool} {fr to k : Nat} (h : orT th fr to k = true) : th k = true ∨ (fr ≤ k ∧ k < to) := by
  unfold orT at h
  rcases (Bool.or_eq_true _ _).mp h with h | h
  · exact Or.inl h
  · exact Or.inr (of_decide_eq_true h)
theorem orT_mono {th : Nat → Bool} {fr to k : Nat} (h : th k = true) : orT th fr to k = true := by
  unfold orT
  rw [h]
  rfl
/-- the DATA part at a place -/
theorem data_V {T a nc : Nat} {so : Smd} {r : Rmd} {s : Smd} {d : Nat × Nat × Nat × Bool} {ks : Int32 → Nat → Int32} (hso : SndV T so) (hj : JntV so r) (hs : SndV T s) (hd : DatV so a d) (ha : a ≤ 16) (hnc : nc = s.2.2.2.1) : OkD2 (fldS so) ks s r d ∧ (∀ t, t = tdM (fldS so) ks d.1 d.2.1 d.2.2.1 d.2.2.2 (s, r) → JntV so t.2 ∧ AdvR so r so t.2 ∧ SndV T t.1 ∧ (∀ kc, ObK kc s.2.2.2.2.1 s.2.2.2.2.2 → ObK kc t.1.2.2.2.2.1 t.1.2.2.2.2.2) ∧ t.1.1 = s.1 ∧ t.1.2.1 = s.2.1 ∧ t.1.2.2.1 = s.2.2.1 ∧ t.1.2.2.2.1 = s.2.2.2.1) := by
  obtain ⟨x, fr, to, poll⟩ := d
  obtain ⟨d1, d2, d3, d4⟩ := hd
  have d1 : x < so.1 5 := d1
  have d2 : fr < to := d2
  have d3 : to ≤ (fldS so x).length := d3
  have d4 : so.1 5 ≤ x + 16 + a := d4
  obtain ⟨⟨a1, a2, a3, a4, a5, a6, a7, a8, a9⟩, ⟨b1, b2, b3⟩, ⟨c1, c2⟩, e1, e2⟩ := id hj
  have b5 := hso.1.1 5 (by decide) (by decide)
  have hlen := (hso.2.2.2.2.1 x).1
  obtain ⟨pc', epc⟩ : ∃ pc', pc' = pcD (fldS so) r.2.1 (x, fr, to, poll) := ⟨_, rfl⟩
  have epx : pc' x = ((r.2.1 x).1 || decide (to = (fldS so x).length), orT (r.2.1 x).2 fr to) := by
    rw [epc]
    unfold pcD pcu
    rw [if_pos rfl]
  have epo : ∀ y, y ≠ x → pc' y = r.2.1 y := fun y hy => by
    rw [epc]
    unfold pcD pcu
    rw [if_neg hy]
  -- the numbers before the handing
  obtain ⟨nv, env⟩ : ∃ nv, nv = novV r.2.1 x fr to r.1 := ⟨_, rfl⟩
  have nk : ∀ k, k ≠ 3 → k ≠ 11 → k ≠ 12 → nv k = r.1 k := fun k h3 h11 h12 => by
    rw [env]
    unfold novV novV1
    rw [vup_o h3]
    split
    · rw [vup_o h12, vup_o h11]
    · rw [vup_o h11]
  have n3 : nv 3 = max (r.1 3) (x + 1) := by
    rw [env]
    unfold novV
    exact vup_s
  have n2 := nk 2 (by decide) (by decide) (by decide)
  have n4 := nk 4 (by decide) (by decide) (by decide)
  have hbn : RvB nv := by
    intro k k1 k2
    by_cases e : k = 3
    · rw [e, n3]
      have := a1 3 (by decide) (by decide)
      omega
    · rw [nk k e (by omega) (by omega)]
      exact a1 k k1 k2
  have hH : nv 3 ≤ so.1 5 := by omega
  have hcl' : ∀ y, nv 3 ≤ y → pc' y = (false, fun _ => false) := fun y hy => by
    rw [epo y (by omega)]
    exact b1 y (by omega)
  -- the raised number
  obtain ⟨M4, eM4⟩ : ∃ M4, M4 = rsT (whl (fldS so) (r.1 2) (nv 3) pc') 32 (r.1 4) := ⟨_, rfl⟩
  obtain ⟨m1, m2, m3, m4⟩ := rsT_spec (wh := whl (fldS so) (r.1 2) (nv 3) pc') 32 (r.1 4)
  rw [← eM4] at m1 m2 m3 m4
  have hM4 : M4 ≤ nv 3 := by
    rcases Nat.lt_or_ge (r.1 4) M4 with h9 | h9
    · have := (of_decide_eq_true (m3 (M4 - 1) (by omega) (by omega))).2.1
      omega
    · omega
  have hwM : whl (fldS so) (r.1 2) (nv 3) pc' M4 = false := by
    by_cases h9 : M4 < r.1 4 + 32
    · exact m4 h9
    · exact decide_eq_false (fun hh => by have := hh.2.1; omega)
  have erai : raiV (fldS so) pc' nv = vup nv 4 M4 := by
    unfold raiV
    rw [n2, n4, ← eM4]
  have hpol : r.1 6 = 0 ∨ M4 + 1 ≤ r.1 6 ∨ x < M4 := by
    rcases Nat.lt_or_ge (r.1 4) M4 with h9 | h9
    · have hw4 := of_decide_eq_true (m3 (r.1 4) (Nat.le_refl _) h9)
      have ex : r.1 4 = x := by
        refine Classical.byContradiction (fun hne => ?_)
        have hold : whR so r (r.1 4) = true := by
          refine decide_eq_true ⟨hw4.1, ?_, ?_, ?_⟩
          · refine Classical.byContradiction (fun hge => ?_)
            have h3 := hw4.2.2.1
            rw [epo _ hne, b1 _ (by omega)] at h3
            exact absurd h3 Bool.false_ne_true
          · have h3 := hw4.2.2.1
            rw [epo _ hne] at h3
            exact h3
          · have h3 := hw4.2.2.2
            rw [epo _ hne] at h3
            exact h3
        rw [c2] at hold
        cases hold
      exact Or.inr (Or.inr (by omega))
    · rcases a9 with h8 | h8
      · exact Or.inl h8
      · exact Or.inr (Or.inl (by omega))
  have hG0 : r.1 2 ≤ x → GdD (fldS so) (r.1 2) (nv 3) M4 (r.1 6) r.1 (raiV (fldS so) pc' nv, r.2.2.1, r.2.2.2, s.2.2.2.2) := by
    intro _
    rw [erai]
    refine ⟨hbn.put (by have := hbn 3 (by decide) (by decide); omega), ?_, ?_, (vup_s : vup nv 4 M4 4 = M4), ?_, ?_, ?_, ?_, ?_⟩
    · show _ ≤ vup nv 4 M4 2
      rw [vup_o (by decide), n2]
      exact Nat.le_refl _
    · show vup nv 4 M4 2 ≤ M4
      rw [vup_o (by decide), n2]
      omega
    · show vup nv 4 M4 3 = _
      rw [vup_o (by decide)]
    · show vup nv 4 M4 6 = _
      rw [vup_o (by decide), nk 6 (by decide) (by decide) (by decide)]
    · show vup nv 4 M4 5 = _
      rw [vup_o (by decide), nk 5 (by decide) (by decide) (by decide)]
    · show vup nv 4 M4 7 = _
      rw [vup_o (by decide), nk 7 (by decide) (by decide) (by decide)]
    · show r.2.2.1 = bgN (fldS so) (vup nv 4 M4 2)
      rw [vup_o (by decide), n2]
      exact e2
  have hlow : ∀ t : Dst, GdD (fldS so) (r.1 2) (nv 3) M4 (r.1 6) r.1 t → whl (fldS so) (t.1 2) (t.1 3) pc' (t.1 2) = true → t.1 2 + 1 ≤ M4 := by
    intro t ht hw
    obtain ⟨t1, t2, t3, t4, t5, t6, t7, t8, t9⟩ := ht
    rcases Nat.lt_or_ge (t.1 2) M4 with h9 | h9
    · exact h9
    · have : t.1 2 = M4 := by omega
      rw [t5, whl_R (R' := r.1 2) (Nat.le_refl _) t2, this, hwM] at hw
      cases hw
  have hG1 : ∀ t : Dst, GdD (fldS so) (r.1 2) (nv 3) M4 (r.1 6) r.1 t → whl (fldS so) (t.1 2) (t.1 3) pc' (t.1 2) = true → DlV (fldS so) pc' t ∧ t.1 2 + 1 ≤ t.1 4 := by
    intro t ht hw
    have hlt := hlow t ht hw
    obtain ⟨t1, t2, t3, t4, t5, t6, t7, t8, t9⟩ := ht
    refine ⟨⟨t1, by omega, by omega, by omega, hcl' _ (by omega), hso.2.2.2.2.1 _, ?_⟩, by omega⟩
    rw [t9]
    exact chn_V _ _ (hso.2.2.2.2.2.1 _ (by omega))
  have hG2 : ∀ t : Dst, GdD (fldS so) (r.1 2) (nv 3) M4 (r.1 6) r.1 t → whl (fldS so) (t.1 2) (t.1 3) pc' (t.1 2) = true → GdD (fldS so) (r.1 2) (nv 3) M4 (r.1 6) r.1 (dlS (fldS so) ks s.2.2.2.1 t) := by
    intro t ht hw
    have hlt := hlow t ht hw
    obtain ⟨t1, t2, t3, t4, t5, t6, t7, t8, t9⟩ := ht
    have o2 : pasV t.1 2 = t.1 2 + 1 := by unfold pasV; rw [vup_o (by decide), vup_s]
    have o4 : pasV t.1 4 = M4 := by unfold pasV; rw [vup_s]; omega
    have ok : ∀ k, k ≠ 2 → k ≠ 4 → pasV t.1 k = t.1 k := fun k k2 k4 => by unfold pasV; rw [vup_o k4, vup_o k2]
    have hM20 := hbn 3 (by decide) (by decide)
    refine ⟨?_, ?_, ?_, o4, ?_, ?_, ?_, ?_, ?_⟩
    · unfold dlS pasV
      exact (t1.put (by omega)).put (by omega)
    · show _ ≤ pasV t.1 2
      omega
    · show pasV t.1 2 ≤ M4
      omega
    · show pasV t.1 3 = _
      rw [ok 3 (by decide) (by decide)]; exact t5
    · show pasV t.1 6 = _
      rw [ok 6 (by decide) (by decide)]; exact t6
    · show pasV t.1 5 = _
      rw [ok 5 (by decide) (by decide)]; exact t7
    · show pasV t.1 7 = _
      rw [ok 7 (by decide) (by decide)]; exact t8
    · show (hndL ks s.2.2.2.1 (fldS so (t.1 2)) t.2).1 = bgN (fldS so) (pasV t.1 2)
      rw [hndL_bg, o2, t9]
      rfl
  refine ⟨⟨hs.2.1, hj.rv, a8, b1, chn_wf (hso.2.2.2.2.2.1 x d1), d3, d2, by show r.1 2 ≤ x + 32; omega, by show x < r.1 2 + 31; omega, by show x + 1 < 2 ^ 20; omega, GdD (fldS so) (r.1 2) (nv 3) M4 (r.1 6) r.1, ?_, ?_, ?_, fun t ht => ?_⟩, fun t et => ?_⟩
  · rw [← epc, ← env]
    exact hG0
  · rw [← epc]
    exact hG1
  · rw [← epc]
    exact hG2
  · obtain ⟨t1, t2, t3, t4, t5, t6, t7, t8, t9⟩ := ht
    refine ⟨⟨t1, by omega, fun y hy => ?_⟩, ?_⟩
    · rw [← epc]
      exact hcl' y (by omega)
    · rw [t4, t6]
      exact hpol
  · -- what is left
    have et : t = tdM (fldS so) ks x fr to poll (s, r) := et
    by_cases hx : x < r.1 2
    · have em : t = (s, oldV poll r.1, r.2) := by
        rw [et]
        unfold tdM
        rw [if_pos hx]
      subst em
      have o : ∀ k, k ≠ 7 → k ≠ 11 → k ≠ 12 → oldV poll r.1 k = r.1 k := fun k h7 h11 h12 => by unfold oldV; rw [vup_o h7, vup_o h12, vup_o h11]
      have h7 : oldV poll r.1 7 ≤ 1 := by
        unfold oldV
        rw [vup_s]
        split <;> omega
      have hb : RvB (oldV poll r.1) := by
        intro k k1 k2
        by_cases e7 : k = 7
        · rw [e7]; omega
        · rw [o k e7 (by omega) (by omega)]; exact a1 k k1 k2
      refine ⟨hj.r hb (o 2 (by decide) (by decide) (by decide)) (o 3 (by decide) (by decide) (by decide)) (o 4 (by decide) (by decide) (by decide)) (o 5 (by decide) (by decide) (by decide)) (o 6 (by decide) (by decide) (by decide)) h7 rfl rfl, ⟨?_, fun y hy => ?_⟩, hs, fun kc h => h, rfl, rfl, rfl, rfl⟩
      · show _ ≤ oldV poll r.1 3
        rw [o 3 (by decide) (by decide) (by decide)]
        exact Nat.le_refl _
      · have ew : whR so (oldV poll r.1, r.2) = whR so r := by
          unfold whR
          show whl _ (oldV poll r.1 2) (oldV poll r.1 3) _ = _
          rw [o 2 (by decide) (by decide) (by decide), o 3 (by decide) (by decide) (by decide)]
        rw [ew]
        show y < oldV poll r.1 2 ∨ _
        rw [o 2 (by decide) (by decide) (by decide)]
        exact hy
    · obtain ⟨td, etd⟩ : ∃ td, td = tdN (fldS so) ks x fr to poll s r := ⟨_, rfl⟩
      have em : t = ((s.1, s.2.1, s.2.2.1, s.2.2.2.1, td.2.2.2), (setV x poll td.1, pc', td.2.1, td.2.2.1)) := by
        rw [et, etd, epc]
        unfold tdM
        rw [if_neg (by show ¬ x < r.1 2; exact hx)]
        rfl
      have etd2 : td = dlL (fldS so) pc' ks s.2.2.2.1 32 (raiV (fldS so) pc' nv, r.2.2.1, r.2.2.2, s.2.2.2.2) := by
        rw [etd, epc, env]
        rfl
      have hGt : GdD (fldS so) (r.1 2) (nv 3) M4 (r.1 6) r.1 td := by
        rw [etd2]
        exact dlL_ind hG2 32 _ (hG0 (by omega))
      have hend : whl (fldS so) (td.1 2) (td.1 3) pc' (td.1 2) = false := by
        rw [etd2]
        refine dlL_end 32 _ ?_
        show raiV (fldS so) pc' nv 3 ≤ raiV (fldS so) pc' nv 2 + 32
        rw [erai, vup_o (by decide), vup_o (by decide), n2]
        omega
      obtain ⟨u1, u2, u3⟩ := dlL_uw (G := fldS so) (pc := pc') (ks := ks) (nc := s.2.2.2.1) 32 (raiV (fldS so) pc' nv, r.2.2.1, r.2.2.2, s.2.2.2.2)
      rw [← etd2] at u1 u2 u3
      obtain ⟨t1, t2, t3, t4, t5, t6, t7, t8, t9⟩ := hGt
      have s2 : setV x poll td.1 2 = td.1 2 := setV_k (by decide) (by decide) (by decide) (by decide)
      have s3 : setV x poll td.1 3 = td.1 3 := setV_k (by decide) (by decide) (by decide) (by decide)
      have s4 : setV x poll td.1 4 = td.1 4 := setV_k (by decide) (by decide) (by decide) (by decide)
      obtain ⟨s6, s7⟩ := setV_67 (x := x) (poll := poll) (v := td.1) (by rw [t8]; exact a8)
      have hth' : ∀ y k, (pc' y).2 k = true → k < (fldS so y).length := fun y k hk => by
        by_cases ey : y = x
        · subst ey
          rw [epx] at hk
          rcases orT_T hk with h9 | h9
          · exact b3 _ k h9
          · omega
        · rw [epo y ey] at hk
          exact b3 y k hk
      have hkn' : knP pc' := fun y hy => by
        by_cases ey : y = x
        · subst ey
          rw [epx] at hy ⊢
          have hy := (Bool.or_eq_false_iff).mp hy
          have hne := of_decide_eq_false hy.2
          cases e9 : orT (r.2.1 y).2 fr to 239 with
          | false => exact e9
          | true =>
            rcases orT_T e9 with h9 | h9
            · rw [b2 y hy.1] at h9
              cases h9
            · omega
        · rw [epo y ey] at hy ⊢
          exact b2 y hy
      have hadv : ∀ y, y < r.1 2 ∨ whR so r y = true → y < td.1 2 ∨ whl (fldS so) (td.1 2) (td.1 3) pc' y = true := by
        intro y hy
        rcases hy with hy | hy
        · exact Or.inl (by omega)
        · by_cases h9 : y < td.1 2
          · exact Or.inl h9
          · obtain ⟨y1, y2, y3, y4⟩ := of_decide_eq_true hy
            refine Or.inr (decide_eq_true ⟨by omega, by omega, ?_⟩)
            by_cases ey : y = x
            · subst ey
              rw [epx]
              refine ⟨by show ((r.2.1 y).1 || _) = true; rw [y3]; rfl, ?_⟩
              have hfull := (cnt_all (f := (r.2.1 y).2) (a := 0) (fldS so y).length).mp (by
                have hsp := cnt_split (f := (r.2.1 y).2) (a := 0) (m := (fldS so y).length) (240 - (fldS so y).length)
                rw [show (fldS so y).length + (240 - (fldS so y).length) = 240 by omega] at hsp
                have h0 : cnt (r.2.1 y).2 (0 + (fldS so y).length) (240 - (fldS so y).length) = 0 := cnt_0 _ (fun k k1 k2 => by
                  cases ek : (r.2.1 y).2 k with
                  | false => rfl
                  | true => have := b3 y k ek; omega)
                omega)
              refine cnt_full hlen (fun k hk => orT_mono (hfull k (Nat.zero_le _) (by omega))) (fun k hk => ?_)
              have := hth' y k (by rw [epx]; exact hk)
              exact this
            · rw [epo y ey]
              exact ⟨y3, y4⟩
      subst em
      have ew : whR so (setV x poll td.1, pc', td.2.1, td.2.2.1) = whl (fldS so) (td.1 2) (td.1 3) pc' := by
        unfold whR
        show whl _ (setV x poll td.1 2) (setV x poll td.1 3) _ = _
        rw [s2, s3]
      refine ⟨⟨⟨setV_b t1 (by omega), ?_, ?_, ?_, ?_, ?_, a7, s7, ?_⟩, ⟨fun y hy => ?_, hkn', hth'⟩, ⟨?_, ?_⟩, fun y y1 y2 y3 => ?_, ?_⟩, ⟨?_, fun y hy => ?_⟩, ?_, ?_, rfl, rfl, rfl, rfl⟩
      · show setV x poll td.1 2 ≤ setV x poll td.1 4
        omega
      · show setV x poll td.1 4 ≤ setV x poll td.1 3
        omega
      · show setV x poll td.1 5 ≤ setV x poll td.1 3
        rw [s3]
        exact setV_5 (by omega)
      · show setV x poll td.1 3 ≤ _
        omega
      · show _ ≤ setV x poll td.1 2
        omega
      · show setV x poll td.1 6 = 0 ∨ setV x poll td.1 4 + 1 ≤ setV x poll td.1 6
        rw [s4]
        exact s6
      · have hy : setV x poll td.1 3 ≤ y := hy
        exact hcl' y (by omega)
      · rw [ew]
        show whl _ _ _ _ (setV x poll td.1 2) = false
        rw [s2]
        exact hend
      · rw [ew]
        show whl _ _ _ _ (setV x poll td.1 4) = false
        rw [s4, t4, t5, whl_R (R' := r.1 2) t3 (by omega)]
        exact hwM
      · rw [ew]
        show y < setV x poll td.1 2 ∨ _
        rw [s2]
        exact hadv y (e1 y y1 y2 y3)
      · show td.2.1 = bgN (fldS so) (setV x poll td.1 2)
        rw [s2]
        exact t9
      · show _ ≤ setV x poll td.1 3
        omega
      · rw [ew]
        show y < setV x poll td.1 2 ∨ _
        rw [s2]
        exact hadv y hy
      · obtain ⟨h1, h2, h3, h4, h5, h6, h7⟩ := hs
        exact ⟨h1, u1 h2, h3, h4, h5, h6, by show bgN (fldS s) (s.1 5) = frW td.2.2.2.2; rw [u2]; exact h7⟩
      · intro kc hk
        exact u3 kc hk
