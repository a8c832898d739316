/-! PURE: the reference: DATA is laid -/
theorem RpsM.upd {τ τ' : Sg} {i R x : Nat} {G : Nat → List Cel} {pc : Rpc} {kn : Bool} {th : Nat → Bool} (h : RpsM τ i R G pc) (h1 : R ≤ x) (h2 : x < R + 32) (hq : RpM τ' (32 * i + x % 32) (G x) kn th) (hd : ∀ s, s ≠ 32 * i + x % 32 → τ' 44 s = τ 44 s ∧ ∀ c k, c = 45 ∨ c = 46 ∨ c = 47 ∨ c = 48 → k < 240 → τ' c (240 * s + k) = τ c (240 * s + k)) : RpsM τ' i R G (pcu pc x kn th) := by
  intro y y1 y2
  unfold pcu
  by_cases e : y = x
  · subst e
    rw [if_pos rfl]
    exact hq
  · rw [if_neg e]
    obtain ⟨d1, d2⟩ := hd (32 * i + y % 32) (by omega)
    exact (h y y1 y2).of d1 d2
theorem lays_ok {τ : Sg} {i x f0 fr to R : Nat} {part poll : Bool} {G : Nat → List Cel} {pc : Rpc} {Q : Int32 → Sg → Prop} (hi : i < 6) (hP : RpsM τ i R G pc) (h1 : R ≤ x) (h2 : x < R + 32) (hx : x < 2 ^ 20) (hw : wfF (G x)) (hto : to ≤ (G x).length) (hft : fr < to) (hpt : part = decide (0 < fr ∨ to < (G x).length)) (hD : ∀ k, k < (datL (G x) x fr to part poll).length → τ 65 (f0 + k) = (datL (G x) x fr to part poll).getD k 0) (hf : f0 + (datL (G x) x fr to part poll).length ≤ 500) (h : ∀ τ' : Sg, RpsM τ' i R G (pcu pc x ((pc x).1 || decide (to = (G x).length)) (orT (pc x).2 fr to)) → FrA LL i τ τ' → Q (b01 (decide (¬ cnt (orT (pc x).2 fr to) 0 240 = cnt (pc x).2 0 240))) τ') : wpX9_lays (nI i) (nI x) 65 (nI f0) (nI (datL (G x) x fr to part poll).length) τ Q := by
  have hlen := datL_len (l := G x) (x := x) (fr := fr) (to := to) (part := part) (poll := poll)
  have hpx := hP x h1 h2
  have hpx0 := hpx
  obtain ⟨p1, p2, p3, p4, p5⟩ := hpx
  have d0 := hD 0 (by omega)
  have d1 := hD 1 (by omega)
  rw [Nat.add_zero, datL_0] at d0
  rw [datL_1, b128] at d1
  have hcl := cnt_le (f := lasF (G x)) (a := fr) (to - 1 - fr)
  have hs192 : 32 * i + x % 32 < 192 := by omega
  have hsi : (32 * i + x % 32) / 32 = i := by omega
  have hupd := fun (τ9 : Sg) (kn : Bool) (th : Nat → Bool) => hP.upd (τ' := τ9) (kn := kn) (th := th) h1 h2
  generalize hs0 : 32 * i + x % 32 = s at *
  have hle : ∀ j, j < cnt (lasF (G x)) fr (to - 1 - fr) → τ 65 (f0 + (2 + b2n part) + j) = (lenL (lasF (G x)) (to - 1 - fr) fr fr).getD j 0 := fun j hj => by
    have := hD (2 + b2n part + j) (by omega)
    rw [datL_le hj] at this
    rw [← this]
    congr 1
    omega
  have hby : ∀ k, fr ≤ k → k < to → τ 65 (f0 + (2 + b2n part) + cnt (lasF (G x)) fr (to - 1 - fr) + (k - fr)) = (gc (G x) k).1 := fun k k1 k2 => by
    have := hD (2 + b2n part + cnt (lasF (G x)) fr (to - 1 - fr) + (k - fr)) (by omega)
    rw [datL_by k1 k2] at this
    rw [← this]
    congr 1
    omega
  generalize hlA : f0 + (2 + b2n part) = lAt at *
  generalize hcL : cnt (lasF (G x)) fr (to - 1 - fr) = L at *
  -- with the size set
  have L138 : ∀ τ1 : Sg, τ1 44 s = (if (pc x).1 || decide (to = (G x).length) then nI (G x).length else -1) → (∀ j, j ≠ s → τ1 44 j = τ 44 j) → (∀ c, c ≠ 44 → τ1 c = τ c) → wpX9_lays_L138 Q 65 (hdI part poll (gc (G x) fr).2.1 (lasF (G x) (to - 1)) L) (nI s) (nI (lAt + L)) (nI fr) (nI lAt) (nI (to - fr)) τ1 := by
    intro τ1 q44 qo qc
    unfold wpX9_lays_L138
    refine ⟨to - fr + 1, ?_⟩
    have hz : decide (¬ cnt (orT (pc x).2 fr fr) 0 240 = cnt (pc x).2 0 240) = false := by
      rw [orT_0]
      exact decide_eq_false (by simp)
    have go := ly144 (s := s) (c3 := 65) (bAt := lAt + L) (lAt := lAt) (fr := fr) (to := to) (l := G x) (th := (pc x).2) (hd := hdI part poll (gc (G x) fr).2.1 (lasF (G x) (to - 1)) L) (Q := Q) (τ0 := τ1) hs192 rfl hto p2 hft (by omega) (fun k k1 k2 => by rw [qc 65 (by decide)]; exact hby k k1 k2) hdI_8 hdI_16 (fun k k1 k2 => by rw [qc 47 (by decide), qc 48 (by decide)]; exact ⟨(p5 k k1 k2).2.1, (p5 k k1 k2).2.2⟩) (fun τ2 a1 a2 a3 a4 a5 a6 a7 => ?_) (to - fr) fr τ1 (by omega) (Nat.le_refl _) (fun j hj => by rw [orT_0, qc 46 (by decide)]; exact p3 j hj) (fun j j1 j2 => by omega) (fun j j1 j2 => by omega) (fun _ _ => rfl) (fun _ _ _ _ => rfl) (fun _ _ => rfl) (fun _ _ _ _ _ => rfl)
    · rw [hz, Nat.sub_self] at go
      exact go
    · refine ⟨cnt (lasF (G x)) fr (to - 1 - fr) + 1, ?_⟩
      have g2 := ly270 (s := s) (c3 := 65) (bAt := lAt + L) (fr := fr) (to := to) (l := G x) (z := decide (¬ cnt (orT (pc x).2 fr to) 0 240 = cnt (pc x).2 0 240)) (f47 := F1 (G x) (pc x).2 fr) (f48 := L1 (G x) (pc x).2 to) (Q := Q) (τ0 := τ2) hs192 rfl hw hto p2 hft (by omega) (fun τ3 b1 b2 b3 => ?_) (to - 1 - fr) fr fr lAt τ2 (by omega) (Nat.le_refl _) (Nat.le_refl _) (fun k k1 k2 => by omega) (by rw [hcL]) (fun j hj => by rw [a7 65 (by decide) (by decide) (by decide) (by decide), qc 65 (by decide)]; exact hle j (by omega)) (fun j j1 j2 => ?_) (fun _ _ _ _ => rfl) (fun _ _ _ => rfl)
      · rw [Nat.sub_self] at g2
        exact g2
      · -- the piece as it is now
        have u44 : ∀ j, τ3 44 j = τ1 44 j := fun j => by rw [b3 44 (by decide) (by decide), a7 44 (by decide) (by decide) (by decide) (by decide)]
        have hq : RpM τ3 s (G x) ((pc x).1 || decide (to = (G x).length)) (orT (pc x).2 fr to) := by
          refine ⟨by rw [u44, q44], p2, fun k hk => by rw [b3 46 (by decide) (by decide)]; exact a1 k hk, fun k hk => ?_, fun k hk ht => ?_⟩
          · unfold orT at hk
            rw [Bool.or_eq_true] at hk
            rcases hk with hk | hk
            · exact p4 k hk
            · have := of_decide_eq_true hk
              omega
          · by_cases hin : fr ≤ k ∧ k < to
            · obtain ⟨c1, c2⟩ := b1 k hin.1 hin.2
              refine ⟨?_, ?_, ?_⟩
              · rw [b3 45 (by decide) (by decide)]
                rcases a2 k hin.1 hin.2 with h9 | h9
                · exact h9
                · rw [a4 _ (Or.inr (Or.inr ⟨k, rfl, h9⟩)), qc 45 (by decide)]
                  exact (p5 k hk h9).1
              · rw [c1]
                congr 1
                unfold F1
                by_cases e : k = fr
                · subst e
                  rw [decide_eq_false (by omega : ¬ k < k), Bool.false_and, Bool.or_false]
                  split
                  · rfl
                  · rw [decide_eq_true rfl, Bool.true_and]
                · have hwf := hw.1 k (by omega) (by omega)
                  rw [decide_eq_true (by omega : fr < k), Bool.true_and, ← hwf]
                  split
                  · rw [Bool.or_self]
                  · rw [decide_eq_false e, Bool.false_and, Bool.false_or]
              · rw [c2]
                show b01 _ = b01 (lasF (G x) k)
                congr 1
                unfold L1
                by_cases e : k = to - 1
                · rw [decide_eq_false (by omega : ¬ k + 1 < to), Bool.false_and, Bool.or_false]
                  split
                  · rfl
                  · rw [decide_eq_true e, Bool.true_and]
                · rw [decide_eq_true (by omega : k + 1 < to), Bool.true_and]
                  split
                  · rw [Bool.or_self]
                  · rw [decide_eq_false e, Bool.false_and, Bool.false_or]
            · have hth : (pc x).2 k = true := by
                unfold orT at ht
                rw [decide_eq_false hin, Bool.or_false] at ht
                exact ht
              rw [b3 45 (by decide) (by decide), a4 _ (by omega), qc 45 (by decide), b2 47 _ (by simp) (by omega), b2 48 _ (by simp) (by omega), a5 47 _ (by simp) (by omega), a5 48 _ (by simp) (by omega), qc 47 (by decide), qc 48 (by decide)]
              exact p5 k hk hth
        have hother : ∀ c j, c = 45 ∨ c = 46 ∨ c = 47 ∨ c = 48 → j < 240 * s ∨ 240 * s + 240 ≤ j → τ3 c j = τ c j := fun c j hc hj => by
          by_cases e5 : c = 45
          · subst e5
            rw [b3 45 (by decide) (by decide), a4 _ (by omega), qc 45 (by decide)]
          · by_cases e6 : c = 46
            · subst e6
              rw [b3 46 (by decide) (by decide), a6 _ (by omega), qc 46 (by decide)]
            · rw [b2 c j (by omega) (by omega), a5 c j (by omega) (by omega), qc c (by omega)]
        refine h τ3 (hupd τ3 _ _ hq (fun s' hs' => ⟨by rw [u44, qo s' hs'], fun c k hc hk => hother c _ hc (by omega)⟩)) ⟨fun c hc => ?_, fun c k hc hk => ?_⟩
        · simp only [LL, List.mem_cons, List.not_mem_nil, or_false, not_or] at hc
          rw [b3 c hc.2.2.2.1 hc.2.2.2.2, a7 c hc.2.1 hc.2.2.1 hc.2.2.2.1 hc.2.2.2.2, qc c hc.1]
        · by_cases e : c = 45 ∨ c = 46 ∨ c = 47 ∨ c = 48
          · have hk : k / 7680 ≠ i := by rcases e with rfl | rfl | rfl | rfl <;> exact hk
            exact hother c k e (by omega)
          · rw [b3 c (by omega) (by omega), a7 c (by omega) (by omega) (by omega) (by omega)]
            by_cases e4 : c = 44
            · subst e4
              have hk : k / 32 ≠ i := hk
              exact qo k (by omega)
            · rw [qc c e4]
      · obtain ⟨q1, q2⟩ := a3 j j1 j2
        rw [q1, q2, decide_eq_false (by omega : ¬ (fr < j ∧ j - 1 < fr)), decide_eq_false (by omega : ¬ j < fr), Bool.false_and, Bool.false_and, Bool.or_false, Bool.or_false]
        exact ⟨rfl, rfl⟩
  have L126 : to = (G x).length → wpX9_lays_L126 Q 65 (hdI part poll (gc (G x) fr).2.1 (lasF (G x) (to - 1)) L) (nI s) (nI (lAt + L)) (nI fr) (nI lAt) (nI (to - fr)) τ := by
    intro et
    unfold wpX9_lays_L126
    rw [nI_clamp (n := s) (by omega), nI_add, show fr + (to - fr) = to by omega]
    refine ⟨vin rfl hs192 (by decide), ?_⟩
    rintro _ rfl
    refine L138 _ ?_ (fun j hj => by rw [up2_e, if_neg (fun hh => hj hh.2)]) (fun c hc => up2_o hc)
    rw [up2_e, if_pos ⟨rfl, rfl⟩, decide_eq_true et, Bool.or_true, if_pos rfl, et]
  have L73e : wpX9_lays_L73 Q 1 65 (nI f0) (nI (datL (G x) x fr to part poll).length) (hdI part poll (gc (G x) fr).2.1 (lasF (G x) (to - 1)) L) (b01 part) (nI s) (nI (lAt + L)) (nI fr) (nI lAt) 0 τ := by
    unfold wpX9_lays_L73
    refine brt rfl ?_
    rw [nI_add, pk_sub (by omega), show f0 + (datL (G x) x fr to part poll).length - (lAt + L) = to - fr by omega]
    rintro _ rfl
    refine br01 (fun e => ?_) (fun e => ?_)
    · refine L126 ?_
      rw [e] at hpt
      have := of_decide_eq_false hpt.symm
      omega
    · rw [nI_1, nI_clamp (n := f0 + 1) (by omega), d1, nI_add]
      refine ⟨vin rfl (by omega) (by decide), ?_⟩
      by_cases et : to = (G x).length
      · rw [if_pos ⟨e, et⟩]
        exact brf (nI_ge (a := 127) (by omega) (by omega)) (L126 et)
      · rw [if_neg (fun hh => et hh.2)]
        refine brt (nI_le (a := x % 64 + 0) (b := 127) (by omega) (by decide)) (L138 τ ?_ (fun _ _ => rfl) (fun _ _ => rfl))
        rw [decide_eq_false et, Bool.or_false]
        exact p1
  have L73 : ∀ (m j : Nat), j + m = L → wpX9_lays_L73 Q (m + 1) 65 (nI f0) (nI (datL (G x) x fr to part poll).length) (hdI part poll (gc (G x) fr).2.1 (lasF (G x) (to - 1)) L) (b01 part) (nI s) (nI (lAt + j)) (nI fr) (nI lAt) (b01 (decide (j < L))) τ := by
    intro m
    induction m with
    | zero =>
      intro j hj
      have hj : j = L := by omega
      subst hj
      rw [decide_eq_false (by omega)]
      exact L73e
    | succ m ih =>
      intro j hj
      rw [decide_eq_true (by omega)]
      have hn := ih (j + 1) (by omega)
      obtain ⟨n, n1, n2, n3⟩ := lenL_at hw (to - 1 - fr) fr fr (Nat.le_refl _) (by omega) (fun k k1 k2 => by omega) j (by omega)
      rw [hcL] at n3
      show wpX9_lays_L73 Q (m + 1 + 1) 65 (nI f0) (nI (datL (G x) x fr to part poll).length) (hdI part poll (gc (G x) fr).2.1 (lasF (G x) (to - 1)) L) (b01 part) (nI s) (nI (lAt + j)) (nI fr) (nI lAt) 1 τ
      unfold wpX9_lays_L73
      refine brf (by decide) ?_
      rw [nI_clamp (n := lAt + j) (by omega), hle j (by omega), n3]
      refine ⟨vin rfl (by omega) (by decide), ?_⟩
      by_cases ej : j + 1 < L
      · rw [if_pos ej]
        rw [decide_eq_true ej] at hn
        refine brf (nI_ge (a := 127) (by omega) (by omega)) ?_
        unfold wpX9_lays_L92
        rintro _ rfl
        rw [nI_1]
        exact hn
      · rw [if_neg ej]
        rw [decide_eq_false ej] at hn
        refine brt (nI_le (b := 127) (by omega) (by decide)) ?_
        unfold wpX9_lays_L92
        rintro _ rfl
        rw [nI_1]
        exact hn
  have L55 : wpX9_lays_L55 Q 65 (nI f0) (nI (datL (G x) x fr to part poll).length) (hdI part poll (gc (G x) fr).2.1 (lasF (G x) (to - 1)) L) (b01 part) (nI s) (nI lAt) (nI fr) τ := by
    have hg : wpX9_lays_L71 Q 65 (nI f0) (nI (datL (G x) x fr to part poll).length) (hdI part poll (gc (G x) fr).2.1 (lasF (G x) (to - 1)) L) (b01 part) (nI s) (nI lAt) (nI fr) (nI lAt) (b01 (decide (0 < L))) τ := by
      unfold wpX9_lays_L71
      exact ⟨L + 1, L73 L 0 (by omega)⟩
    unfold wpX9_lays_L55
    refine brbit hdI_4 (fun e => ?_) (fun e => ?_)
    · rw [e] at hg
      exact hg
    · rw [e] at hg
      exact hg
  have L19 : wpX9_lays_L19 Q (nI i) (nI x) 65 (nI f0) (nI (datL (G x) x fr to part poll).length) (hdI part poll (gc (G x) fr).2.1 (lasF (G x) (to - 1)) L) (b01 part) τ := by
    unfold wpX9_lays_L19
    rw [a31 (by omega), i32, hs0]
    rintro _ rfl
    have e2 : nI f0 + 2 = nI (f0 + 2) := nI_add f0 2
    rw [e2]
    rintro _ rfl
    refine br01 (fun e => ?_) (fun e => ?_)
    · have hfr : fr = 0 := by
        rw [e] at hpt
        have := of_decide_eq_false hpt.symm
        omega
      rw [e] at hlA
      have hlA : f0 + 2 = lAt := hlA
      rw [← hlA, hfr] at L55
      rw [hlA, hfr]
      rw [hlA] at L55
      exact L55
    · rw [e] at hlA
      have hlA : f0 + 3 = lAt := hlA
      have d2 := hD 2 (by rw [hlen, e]; simp [b2n]; omega)
      rw [e, datL_2] at d2
      rw [nI_clamp (n := f0 + 2) (by omega), d2]
      refine ⟨vin rfl (by omega) (by decide), ?_⟩
      rintro _ rfl _ rfl
      rw [nI_1, show f0 + 2 + 1 = lAt by omega]
      exact L55
  unfold wpX9_lays
  rw [nI_clamp (n := f0) (by omega), d0]
  refine ⟨vin rfl (by omega) (by decide), ?_⟩
  rintro _ rfl
  refine brbit hdI_64 (fun e => ?_) (fun e => ?_)
  · rw [e] at L19 ⊢
    exact L19
  · rw [e] at L19 ⊢
    exact L19
