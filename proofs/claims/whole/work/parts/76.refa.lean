/-! PURE: the reference: a STATUS comes -/
def EnR (τ : Sg) (c2 f0 ack : Nat) (es : List Ent) : Prop := f0 + 2 + (enL es).length ≤ 500 ∧ τ c2 f0 = nI es.length ∧ τ c2 (f0 + 1) = nI (ack % 64) ∧ ∀ k, k < (enL es).length → τ c2 (f0 + 2 + k) = (enL es).getD k 0
theorem EnR.of {τ τ' : Sg} {c2 f0 ack : Nat} {es : List Ent} (h : EnR τ c2 f0 ack es) (hc : τ' c2 = τ c2) : EnR τ' c2 f0 ack es := by
  unfold EnR at *
  rw [hc]
  exact h
theorem EnR.at' {τ : Sg} {c2 f0 ack : Nat} {es pre r : List Ent} {e : Ent} (h : EnR τ c2 f0 ack es) (he : pre ++ e :: r = es) {t : Nat} (ht : t < (enB e).length) : τ c2 (f0 + 2 + (enL pre).length + t) = (enB e).getD t 0 ∧ f0 + 2 + (enL pre).length + (enB e).length ≤ 500 := by
  have el : enL es = enL pre ++ (enB e ++ enL r) := by rw [← he, enL_app]; rfl
  have hl : (enL es).length = (enL pre).length + ((enB e).length + (enL r).length) := by rw [el, List.length_append, List.length_append]
  have h0 := h.1
  have := h.2.2.2 ((enL pre).length + t) (by omega)
  rw [← Nat.add_assoc, el, gD_r (by omega), Nat.add_sub_cancel_left, gD_l ht] at this
  exact ⟨this, by omega⟩
theorem e63 {x : Nat} {o : Option (Nat × Nat)} : (nI (x % 64) + nI (if o = none then 0 else 128)) &&& 63 = nI (x % 64) := by
  rw [nI_add]
  split
  · rw [a63 (by omega)]; congr 1; omega
  · rw [a63 (by omega)]; congr 1; omega
theorem in11 {τ : Sg} {c2 f0 ack A x : Nat} {es : List Ent} {Q : Int32 → Sg → Prop} (hE : EnR τ c2 f0 ack es) (hB : EsB A es) (hx1 : A ≤ x) (hx2 : x < A + 16) (hx : x < 2 ^ 20) (hes : es.length < 2 ^ 10) (h : Q (b01 (nmd es x)) τ) : ∀ (r pre : List Ent), pre ++ r = es → wpX9_isNamed_L11 Q (r.length + 1) c2 (nI es.length) (nI x) (nI (f0 + 2 + (enL pre).length)) (b01 (nmd pre x)) (nI pre.length) τ := by
  have hf0 := hE.1
  intro r
  induction r with
  | nil =>
    intro pre he
    rw [List.append_nil] at he
    subst he
    unfold wpX9_isNamed_L11
    exact brt (nI_le (Nat.le_refl _) (by omega)) ⟨b01_z _, h⟩
  | cons e r ih =>
    intro pre he
    have hel : es.length = pre.length + (r.length + 1) := by rw [← he]; simp
    have hmem : e ∈ es := by rw [← he]; simp
    obtain ⟨m1, m2, m3⟩ := hB e hmem
    obtain ⟨z1, z2, z3, z4⟩ := enB_0 (e := e)
    obtain ⟨a1, a2⟩ := hE.at' he z1
    rw [Nat.add_zero, z3] at a1
    have hn := ih (pre ++ [e]) (by rw [List.append_assoc]; exact he)
    rw [enL_app, List.length_append, List.length_append, show (enL [e]).length = (enB e).length from by show (enB e ++ []).length = _; rw [List.append_nil]] at hn
    have L41 : ∀ z : Bool, z = nmd (pre ++ [e]) x → wpX9_isNamed_L41 Q (wpX9_isNamed_L11 Q (r.length + 1)) c2 (nI es.length) (nI x) (nI (f0 + 2 + (enL pre).length)) (nI pre.length) (b01 z) τ := by
      intro z hz
      unfold wpX9_isNamed_L41
      rw [nI_clamp (n := f0 + 2 + (enL pre).length) (by omega), a1, nI_add]
      have go : ∀ s : Nat, s = (enB e).length → wpX9_isNamed_L59 Q (wpX9_isNamed_L11 Q (r.length + 1)) c2 (nI es.length) (nI x) (b01 z) (nI pre.length) (nI s) (nI (f0 + 2 + (enL pre).length)) τ := by
        intro s hs
        unfold wpX9_isNamed_L59
        rintro _ rfl _ rfl
        rw [nI_add, nI_1, hz, hs, Nat.add_assoc (f0 + 2)]
        exact hn
      refine ⟨vin rfl (by omega) (by decide), ?_⟩
      by_cases eo : e.2 = none
      · rw [if_pos eo] at z4 ⊢
        exact brt (nI_le (a := e.1 % 64 + 0) (b := 127) (by omega) (by decide)) (go 1 z4.symm)
      · rw [if_neg eo] at z4 ⊢
        exact brf (nI_ge (a := 127) (by omega) (by omega)) (go 3 z4.symm)
    show wpX9_isNamed_L11 Q (r.length + 1 + 1) c2 (nI es.length) (nI x) (nI (f0 + 2 + (enL pre).length)) (b01 (nmd pre x)) (nI pre.length) τ
    unfold wpX9_isNamed_L11
    refine brf (nI_ge (by omega) (by omega)) (br01' (fun e0 => ?_) (fun e1 => ?_))
    · rw [nI_clamp (n := f0 + 2 + (enL pre).length) (by omega), a1, e63, a63 (by omega)]
      refine ⟨vin rfl (by omega) (by decide), fun hne => ?_, fun heq => ?_⟩
      · refine L41 false ?_
        unfold nmd at *
        rw [any_snoc, e0, Bool.false_or]
        have : ¬ e.1 = x := fun hh => hne (by rw [hh])
        simp [this]
      · have heq := (nI_eq (by omega) (by omega)).mp heq
        unfold wpX9_isNamed_L36
        refine L41 true ?_
        unfold nmd
        rw [any_snoc]
        have : e.1 = x := by omega
        simp [this]
    · unfold wpX9_isNamed_L36
      refine L41 true ?_
      unfold nmd at *
      rw [any_snoc, e1, Bool.true_or]
theorem isNamed_ok {τ : Sg} {c2 f0 ack A x : Nat} {es : List Ent} {Q : Int32 → Sg → Prop} (hE : EnR τ c2 f0 ack es) (hB : EsB A es) (hx1 : A ≤ x) (hx2 : x < A + 16) (hx : x < 2 ^ 20) (hes : es.length < 2 ^ 10) (h : Q (b01 (nmd es x)) τ) : wpX9_isNamed c2 (nI f0) (nI es.length) (nI x) τ Q := by
  unfold wpX9_isNamed
  have e2 : nI f0 + 2 = nI (f0 + 2) := nI_add f0 2
  rw [e2]
  rintro _ rfl
  exact ⟨es.length + 1, in11 hE hB hx1 hx2 hx hes h es [] rfl⟩
theorem SF.n1 {T : Nat} {s : (Nat → Nat) × (Nat → Pce)} {e : Ent} (hI : SI T s.1 s.2) (h : SF s.1 s.2) : SF (stN1 s e).1 (stN1 s e).2 := by
  unfold stN1
  split
  · next hh =>
    obtain ⟨c1, c2, c3⟩ := hh
    have e8 : brV s.1 (s.2 e.1) (enR e).1 (enR e).2 8 = if nAg (s.2 e.1) = 0 then (if s.1 8 = 0 ∧ (s.2 e.1).2.2.1 + 1 < 5 then 0 else 1) else s.1 8 := by
      unfold brV
      rw [vup_o (by decide)]
      split
      · rw [vup_s]
      · rfl
    have h81 := h.1
    refine ⟨?_, fun x x1 x2 => ?_⟩
    · show brV s.1 (s.2 e.1) (enR e).1 (enR e).2 8 ≤ 1
      rw [e8]
      split
      · split <;> omega
      · exact h81
    · have x1 : brV s.1 (s.2 e.1) (enR e).1 (enR e).2 4 ≤ x := x1
      have x2 : x < brV s.1 (s.2 e.1) (enR e).1 (enR e).2 5 := x2
      rw [brV_45 (by decide) (by decide)] at x1 x2
      show 5 ≤ (spu s.2 e.1 (brP (s.2 e.1) (enR e).1 (enR e).2) x).2.2.1 → brV s.1 (s.2 e.1) (enR e).1 (enR e).2 8 = 1
      intro h5
      rw [e8]
      have hx := h.2 x x1 x2
      unfold spu at h5
      split at h5
      · next ex =>
        have h5 : 5 ≤ (if nAg (s.2 e.1) = 0 then (s.2 e.1).2.2.1 + 1 else (s.2 e.1).2.2.1) := h5
        rw [ex] at hx
        split
        · next e0 =>
          rw [if_pos e0] at h5
          rw [if_neg (by omega)]
        · next e0 =>
          rw [if_neg e0] at h5
          exact hx h5
      · have := hx h5
        split
        · rw [if_neg (by omega)]
        · exact this
  · exact h
def LR : List Nat := [3, 5, 11, 13, 15, 18, 20, 21, 22, 23, 24, 26, 29, 32]
theorem st94 {i c2 f0 ack A S : Nat} {bk : Int32} {es : List Ent} {Q : Sg → Prop} {τ0 : Sg} (hi : i < 6) (hc2 : c2 = 65) (hE0 : EnR τ0 c2 f0 ack es) (hB : EsB A es) (hA : A < 2 ^ 20) (hS20 : S < 2 ^ 20) (hSA : S ≤ A + 16) (hes : es.length < 2 ^ 10) : ∀ (r pre : List Ent) (τ : Sg) (T : Nat) (s : (Nat → Nat) × (Nat → Pce)), pre ++ r = es → s.1 4 = A → s.1 5 = S → SnM τ i s.1 bk → PsM τ i A S s.2 → SI T s.1 s.2 → SF s.1 s.2 → T + r.length + 1 < 2 ^ 20 → FrA LB i τ0 τ → (∀ τ' : Sg, SnM τ' i (stN r s).1 bk → PsM τ' i A S (stN r s).2 → FrA LB i τ0 τ' → ∃ nn, wpX9_status_L220 Q nn (nI i) (nI ack) τ') → wpX9_status_L94 Q (r.length + 1) (nI i) c2 (nI es.length) (nI A) (nI ack) (nI (f0 + 2 + (enL pre).length)) (nI pre.length) τ := by
  have hf0 := hE0.1
  intro r
  induction r with
  | nil =>
    intro pre τ T s he h4 h5 hS hP hI hSF hT hF h
    rw [List.append_nil] at he
    subst he
    unfold wpX9_status_L94
    exact brt (nI_le (Nat.le_refl _) (by omega)) (h τ hS hP hF)
  | cons e r ih =>
    intro pre τ T s he h4 h5 hS hP hI hSF hT hF h
    have hE : EnR τ c2 f0 ack es := hE0.of (hF.1 c2 (by rw [hc2]; decide))
    have hel : es.length = pre.length + (r.length + 1) := by rw [← he]; simp
    have hmem : e ∈ es := by rw [← he]; simp
    obtain ⟨m1, m2, m3⟩ := hB e hmem
    obtain ⟨z1, z2, z3, z4⟩ := enB_0 (e := e)
    obtain ⟨a1, a2⟩ := hE.at' he z1
    rw [Nat.add_zero, z3] at a1
    rw [List.length_cons] at hT
    -- the next one
    have L199 : ∀ (τ1 : Sg) (z : Bool), z = decide (¬ e.2 = none) → SnM τ1 i (stN1 s e).1 bk → PsM τ1 i A S (stN1 s e).2 → FrA LB i τ0 τ1 → wpX9_status_L199 Q (wpX9_status_L94 Q (r.length + 1)) (nI i) c2 (nI es.length) (nI A) (nI ack) (nI (f0 + 2 + (enL pre).length)) (nI pre.length) (b01 z) τ1 := by
      intro τ1 z hz k1 k2 k3
      have go : ∀ n : Nat, n = (enB e).length → wpX9_status_L211 Q (wpX9_status_L94 Q (r.length + 1)) (nI i) c2 (nI es.length) (nI A) (nI ack) (nI pre.length) (nI n) (nI (f0 + 2 + (enL pre).length)) τ1 := by
        intro n hn
        unfold wpX9_status_L211
        rintro _ rfl _ rfl
        rw [nI_add, nI_1]
        have e4 : (stN1 s e).1 4 = s.1 4 := stN1_k (by decide) (by decide)
        have e5 : (stN1 s e).1 5 = s.1 5 := stN1_k (by decide) (by decide)
        have := ih (pre ++ [e]) τ1 (T + 1) (stN1 s e) (by rw [List.append_assoc]; exact he) (by rw [e4]; exact h4) (by rw [e5]; exact h5) k1 k2 hI.n1 (hSF.n1 hI) (by omega) k3 h
        rw [enL_app, List.length_append, List.length_append, show (enL [e]).length = (enB e).length from by show (enB e ++ []).length = _; rw [List.append_nil]] at this
        rw [hn, Nat.add_assoc (f0 + 2)]
        exact this
      unfold wpX9_status_L199
      refine br01 (fun ez => ?_) (fun ez => ?_)
      · rw [hz] at ez
        have ez := of_decide_eq_false ez
        rw [if_pos (Classical.not_not.mp ez)] at z4
        exact go 1 z4.symm
      · rw [hz] at ez
        rw [if_neg (of_decide_eq_true ez)] at z4
        exact go 3 z4.symm
    have L115 : ∀ z : Bool, z = decide (¬ e.2 = none) → wpX9_status_L115 Q (wpX9_status_L94 Q (r.length + 1)) (nI i) c2 (nI es.length) (nI A) (nI ack) (nI (f0 + 2 + (enL pre).length)) (nI pre.length) (b01 z) τ := by
      intro z hz
      have skip : ¬ (s.1 4 ≤ e.1 ∧ e.1 < s.1 5 ∧ (s.2 e.1).2.2.2 = false) → wpX9_status_L199 Q (wpX9_status_L94 Q (r.length + 1)) (nI i) c2 (nI es.length) (nI A) (nI ack) (nI (f0 + 2 + (enL pre).length)) (nI pre.length) (b01 z) τ := by
        intro hh
        have es1 : stN1 s e = s := by unfold stN1; rw [if_neg hh]
        exact L199 τ z hz (by rw [es1]; exact hS) (by rw [es1]; exact hP) hF
      unfold wpX9_status_L115 wpX9_meant
      rw [nI_clamp (n := f0 + 2 + (enL pre).length) (by omega), a1, e63]
      have hm := meant2 (x := e.1) (A := A) (e := 0) (Or.inl rfl) hA (by omega) (by omega)
      have e0 : nI (e.1 % 64) + nI 0 = nI (e.1 % 64) := by rw [nI_add]; rfl
      rw [e0] at hm
      rw [hm]
      dsimp only
      rw [nI_clamp (n := i) (by omega), hS.2.1, h5]
      refine ⟨vin rfl (by omega) (by decide), vin rfl hi (by decide), ?_⟩
      by_cases hx : A ≤ e.1
      · rw [if_pos hx]
        refine pk_le S e.1 (fun h9 => skip (by omega)) (fun h9 => ?_)
        rw [a15 (by omega), i16, nI_clamp (n := 16 * i + e.1 % 16) (by omega), (hP e.1 hx h9).2.2.2.1]
        refine ⟨vin rfl (by omega) (by decide), br01' (fun ec => ?_) (fun ec => skip (fun hh => by rw [hh.2.2] at ec; cases ec))⟩
        have est : stN1 s e = (brV s.1 (s.2 e.1) (enR e).1 (enR e).2, spu s.2 e.1 (brP (s.2 e.1) (enR e).1 (enR e).2)) := by unfold stN1; rw [if_pos ⟨by omega, by omega, ec⟩]
        have L196 : ∀ fr to : Nat, (fr, to + 1) = enR e → fr < 2 ^ 10 → to < 2 ^ 10 → wpX9_status_L196 Q (wpX9_status_L94 Q (r.length + 1)) (nI i) c2 (nI es.length) (nI A) (nI ack) (nI (f0 + 2 + (enL pre).length)) (nI pre.length) (b01 z) (nI to) (nI fr) (nI e.1) (nI i) τ := by
          intro fr to hft hfr hto
          unfold wpX9_status_L196
          refine comesAgain_ok hi hS hI (by omega) hSF (by rw [h4, h5]; exact hP) (by rw [h4]; exact hx) (by rw [h5]; exact h9) ec (by omega) (by omega) (fun τ2 g1 g2 g3 => L199 τ2 z hz ?_ ?_ (hF.tr g3))
          · rw [est, ← hft]; exact g1
          · rw [est, ← hft]
            rw [h4, h5] at g2
            exact g2
        refine br01 (fun ez => ?_) (fun ez => ?_)
        · have en : e.2 = none := by
            rw [hz] at ez
            exact Classical.not_not.mp (of_decide_eq_false ez)
          unfold wpX9_status_L179
          have := L196 0 240 (by unfold enR; rw [en]) (by decide) (by decide)
          rw [ez] at this ⊢
          exact brt rfl this
        · have ez' := ez
          rw [hz] at ez'
          have ez' := of_decide_eq_true ez'
          obtain ⟨rr, hrr⟩ : ∃ rr, e.2 = some rr := by
            cases h2 : e.2 with
            | none => exact absurd h2 ez'
            | some rr => exact ⟨rr, rfl⟩
          have hb3 : enB e = [nI (e.1 % 64) + 128, nI rr.1, nI rr.2] := by unfold enB; rw [hrr]
          obtain ⟨t1, t9⟩ := hE.at' (t := 1) he (by rw [hb3]; exact (by decide : 1 < 3))
          obtain ⟨t2, -⟩ := hE.at' (t := 2) he (by rw [hb3]; exact (by decide : 2 < 3))
          rw [hb3] at t1 t2 t9
          have t1 : τ c2 (f0 + 2 + (enL pre).length + 1) = nI rr.1 := t1
          have t2 : τ c2 (f0 + 2 + (enL pre).length + 2) = nI rr.2 := t2
          have t9 : f0 + 2 + (enL pre).length + 3 ≤ 500 := t9
          rw [nI_1, nI_clamp (n := f0 + 2 + (enL pre).length + 1) (by omega), t1]
          refine ⟨vin rfl (by omega) (by decide), ?_⟩
          unfold wpX9_status_L179
          have e2 : nI (f0 + 2 + (enL pre).length) + 2 = nI (f0 + 2 + (enL pre).length + 2) := nI_add _ 2
          rw [e2, nI_clamp (n := f0 + 2 + (enL pre).length + 2) (by omega), t2]
          have := L196 rr.1 rr.2 (by unfold enR; rw [hrr]) (m3 rr hrr).1 (m3 rr hrr).2
          rw [ez] at this ⊢
          exact brf (by decide) ⟨vin rfl (by omega) (by decide), this⟩
      · rw [if_neg hx]
        exact pk_le S (e.1 + 64) (fun h9 => skip (by omega)) (fun h9 => by omega)
    show wpX9_status_L94 Q (r.length + 1 + 1) (nI i) c2 (nI es.length) (nI A) (nI ack) (nI (f0 + 2 + (enL pre).length)) (nI pre.length) τ
    unfold wpX9_status_L94
    rw [nI_clamp (n := f0 + 2 + (enL pre).length) (by omega), a1, nI_add]
    refine brf (nI_ge (by omega) (by omega)) ⟨vin rfl (by omega) (by decide), ?_⟩
    by_cases eo : e.2 = none
    · have := L115 false (decide_eq_false (by rw [eo]; simp)).symm
      rw [if_pos eo]
      exact brt (nI_le (a := e.1 % 64 + 0) (b := 127) (by omega) (by decide)) this
    · have := L115 true (decide_eq_true eo).symm
      rw [if_neg eo]
      exact brf (nI_ge (a := 127) (by omega) (by omega)) this
theorem st220 {i ack S A' : Nat} {bk : Int32} {pc : Nat → Pce} {Q : Sg → Prop} {τ0 : Sg} (hi : i < 6) (hack : ack < 2 ^ 20) (hcA : A' < S → (pc A').2.2.2 = false) (hA'S : A' ≤ S) : ∀ (m : Nat) (τ : Sg) (v : Nat → Nat), v 4 + m = A' → v 5 = S → SvB v → (∀ x, v 4 ≤ x → x < A' → (pc x).2.2.2 = true) → SnM τ i v bk → PsM τ i (v 4) S pc → FrA [3, 5] i τ0 τ → (∀ τ' : Sg, SnM τ' i (pt0 ack (vup v 4 A')) bk → PsM τ' i A' S pc → FrA [3, 5] i τ0 τ' → Q τ') → wpX9_status_L220 Q (m + 1) (nI i) (nI ack) τ := by
  intro m
  induction m with
  | zero =>
    intro τ v hm h5 hb hcf hS hP hF h
    have hm : v 4 = A' := by omega
    have b4 := hb 4 (by decide) (by decide)
    have b5 := hb 5 (by decide) (by decide)
    have b9 := hb 9 (by decide) (by decide)
    have ev : vup v 4 A' = v := by
      funext j
      unfold vup
      split
      · next e => rw [e]; exact hm.symm
      · rfl
    rw [ev] at h
    obtain ⟨s3, s4, s5, s6, s7, s8, s9, s10, s11, s12, s13⟩ := hS
    have hS : SnM τ i v bk := ⟨s3, s4, s5, s6, s7, s8, s9, s10, s11, s12, s13⟩
    have hPA : PsM τ i A' S pc := by rw [← hm]; exact hP
    have zero10 : SnM (up2 τ 5 i 0) i (vup v 10 0) bk := by
      have o : ∀ k, k ≠ 10 → vup v 10 0 k = v k := fun k hk => vup_o hk
      refine ⟨?_, ?_, ?_, ?_, ?_, ?_, ?_, ?_, ?_, ?_, ?_⟩
      · rw [up2_o (by decide), o 4 (by decide)]; exact s3
      · rw [up2_o (by decide), o 5 (by decide)]; exact s4
      · rw [up2_e, if_pos ⟨rfl, rfl⟩, vup_s]; rfl
      · rw [up2_o (by decide), o 9 (by decide)]; exact s6
      · rw [up2_o (by decide), o 11 (by decide)]; exact s7
      · rw [up2_o (by decide)]; exact s8
      · rw [up2_o (by decide), o 12 (by decide)]; exact s9
      · rw [up2_o (by decide), o 13 (by decide)]; exact s10
      · rw [up2_o (by decide), o 14 (by decide)]; exact s11
      · rw [up2_o (by decide), o 7 (by decide)]; exact s12
      · rw [up2_o (by decide), o 8 (by decide)]; exact s13
    have L270 : wpX9_status_L270 Q (nI i) (nI ack) τ := by
      unfold wpX9_status_L270
      rw [nI_clamp (n := i) (by omega), s6]
      refine ⟨vin rfl hi (by decide), ?_⟩
      unfold pt0 at h
      cases e9 : v 9 with
      | zero =>
        rw [e9, if_neg (by omega)] at h
        refine brf (fun hh => ?_) ⟨vin rfl hi (by decide), ?_⟩
        · have h1 := nI_pos' (n := ack) (by omega)
          have h2 : (0 : Int32) ≤ nI 0 - 1 := Int32.le_trans h1 hh
          exact absurd h2 (by decide)
        · rintro _ rfl
          exact h _ zero10 (hPA.of (fun c hc => up2_o (by omega))) (hF.up (by decide) (fun _ => Nat.div_one i))
      | succ p =>
        rw [e9] at h b9
        rw [nI_pred]
        refine pk_le ack p (fun hh => ?_) (fun hh => ⟨vin rfl hi (by decide), ?_⟩)
        · rw [if_pos (by omega)] at h
          exact h τ hS hPA hF
        · rw [if_neg (by omega)] at h
          rintro _ rfl
          exact h _ zero10 (hPA.of (fun c hc => up2_o (by omega))) (hF.up (by decide) (fun _ => Nat.div_one i))
    unfold wpX9_status_L220
    rw [nI_clamp (n := i) (by omega), s4, s3]
    refine ⟨vin rfl hi (by decide), vin rfl hi (by decide), pk_le (v 5) (v 4) (fun _ => L270) (fun hh => ⟨vin rfl hi (by decide), ?_⟩)⟩
    rw [a15 (by omega), i16, nI_clamp (n := 16 * i + v 4 % 16) (by omega), (hP (v 4) (Nat.le_refl _) (by omega)).2.2.2.1, hm, hcA (by omega)]
    exact ⟨vin rfl (by omega) (by decide), brt rfl L270⟩
  | succ m ih =>
    intro τ v hm h5 hb hcf hS hP hF h
    have b4 := hb 4 (by decide) (by decide)
    have b5 := hb 5 (by decide) (by decide)
    obtain ⟨s3, s4, s5, s6, s7, s8, s9, s10, s11, s12, s13⟩ := hS
    unfold wpX9_status_L220
    rw [nI_clamp (n := i) (by omega), s4, s3]
    refine ⟨vin rfl hi (by decide), vin rfl hi (by decide), pk_le (v 5) (v 4) (fun hh => by omega) (fun hh => ⟨vin rfl hi (by decide), ?_⟩)⟩
    rw [a15 (by omega), i16, nI_clamp (n := 16 * i + v 4 % 16) (by omega), (hP (v 4) (Nat.le_refl _) (by omega)).2.2.2.1, hcf (v 4) (Nat.le_refl _) (by omega)]
    refine ⟨vin rfl (by omega) (by decide), brf (by decide) ⟨vin rfl hi (by decide), vin rfl hi (by decide), ?_⟩⟩
    rw [nI_1]
    rintro _ rfl
    have o4 : vup v 4 (v 4 + 1) 4 = v 4 + 1 := vup_s
    have o : ∀ k, k ≠ 4 → vup v 4 (v 4 + 1) k = v k := fun k hk => vup_o hk
    refine ih _ (vup v 4 (v 4 + 1)) (by omega) (by rw [o 5 (by decide)]; exact h5) (hb.put (by omega)) (fun x x1 x2 => hcf x (by omega) x2) ?_ ?_ (hF.up (by decide) (fun _ => Nat.div_one i)) (fun τ' g1 g2 g3 => h τ' ?_ g2 g3)
    · refine ⟨?_, ?_, ?_, ?_, ?_, ?_, ?_, ?_, ?_, ?_, ?_⟩
      · rw [up2_e, if_pos ⟨rfl, rfl⟩, o4]
      · rw [up2_o (by decide), o 5 (by decide)]; exact s4
      · rw [up2_o (by decide), o 10 (by decide)]; exact s5
      · rw [up2_o (by decide), o 9 (by decide)]; exact s6
      · rw [up2_o (by decide), o 11 (by decide)]; exact s7
      · rw [up2_o (by decide)]; exact s8
      · rw [up2_o (by decide), o 12 (by decide)]; exact s9
      · rw [up2_o (by decide), o 13 (by decide)]; exact s10
      · rw [up2_o (by decide), o 14 (by decide)]; exact s11
      · rw [up2_o (by decide), o 7 (by decide)]; exact s12
      · rw [up2_o (by decide), o 8 (by decide)]; exact s13
    · rw [o4]
      intro x x1 x2
      exact (hP.of (τ' := up2 τ 3 i (nI (v 4 + 1))) (fun c hc => up2_o (by omega))) x (by omega) x2
    · have e : vup (vup v 4 (v 4 + 1)) 4 A' = vup v 4 A' := by
        funext j
        unfold vup
        split <;> rfl
      rw [e] at g1
      exact g1
theorem status_ok {τ : Sg} {i c2 f0 ack nc T : Nat} {bk : Int32} {es : List Ent} {s : Sst} {Q : Sg → Prop} (hi : i < 6) (hc2 : c2 = 65) (hE : EnR τ c2 f0 ack es) (hB : EsB (s.1 4) es) (hes : es.length < 128) (hk1 : s.1 4 ≤ ack + 47) (hk2 : ack ≤ s.1 5) (hS : SnM τ i s.1 bk) (hP : PsM τ i (s.1 4) (s.1 5) s.2.1) (hI : SI T s.1 s.2.1) (hSF : SF s.1 s.2.1) (hT : T + es.length + 1 < 2 ^ 20) (hK : KpM τ i nc s.2.2.1) (hW : WtM τ i (fltW s.2.2.2)) (hV : ObV nc s.2.2.1 s.2.2.2) (hO : ∀ x, s.1 4 ≤ x → x < s.1 5 → ∀ k, k < (s.2.1 x).1.length → (gc (s.2.1 x).1 k).2.2.2 ≤ nc) (h : ∀ τ' : Sg, SnM τ' i (stF ack es s).1 bk → PsM τ' i ((stF ack es s).1 4) ((stF ack es s).1 5) (stF ack es s).2.1 → KpM τ' i nc (stF ack es s).2.2.1 → WtM τ' i (fltW (stF ack es s).2.2.2) → FrA LR i τ τ' → Q τ') : wpX9_status (nI i) c2 (nI f0) τ Q := by
  have hb := hI.1
  have b4 := hb 4 (by decide) (by decide)
  have b5 := hb 5 (by decide) (by decide)
  have h45 := hI.2.1
  have h16 := hI.2.2.1
  have hf0 := hE.1
  obtain ⟨s3, s4, s5, s6, s7, s8, s9, s10, s11, s12, s13⟩ := hS
  unfold wpX9_status
  rw [nI_clamp (n := i) (by omega), s11, nI_1, nI_1]
  refine ⟨vin rfl hi (by decide), vin rfl hi (by decide), ?_⟩
  rintro _ rfl
  have o4 : vup s.1 14 (s.1 14 + 1) 4 = s.1 4 := vup_o (by decide)
  have o5 : vup s.1 14 (s.1 14 + 1) 5 = s.1 5 := vup_o (by decide)
  have o : ∀ k, k ≠ 14 → vup s.1 14 (s.1 14 + 1) k = s.1 k := fun k hk => vup_o hk
  have hF1 : FrA LR i τ (up2 τ 11 i (nI (s.1 14 + 1))) := FrA.rf.up (by decide) (fun _ => Nat.div_one i)
  have hS1 : SnM (up2 τ 11 i (nI (s.1 14 + 1))) i (vup s.1 14 (s.1 14 + 1)) bk := by
    refine ⟨?_, ?_, ?_, ?_, ?_, ?_, ?_, ?_, ?_, ?_, ?_⟩
    · rw [up2_o (by decide), o4]; exact s3
    · rw [up2_o (by decide), o5]; exact s4
    · rw [up2_o (by decide), o 10 (by decide)]; exact s5
    · rw [up2_o (by decide), o 9 (by decide)]; exact s6
    · rw [up2_o (by decide), o 11 (by decide)]; exact s7
    · rw [up2_o (by decide)]; exact s8
    · rw [up2_o (by decide), o 12 (by decide)]; exact s9
    · rw [up2_o (by decide), o 13 (by decide)]; exact s10
    · rw [up2_e, if_pos ⟨rfl, rfl⟩, vup_s]
    · rw [up2_o (by decide), o 7 (by decide)]; exact s12
    · rw [up2_o (by decide), o 8 (by decide)]; exact s13
  have hE1 : EnR (up2 τ 11 i (nI (s.1 14 + 1))) c2 f0 ack es := hE.of (up2_o (by rw [hc2]; decide))
  have hP1 : PsM (up2 τ 11 i (nI (s.1 14 + 1))) i (s.1 4) (s.1 5) s.2.1 := hP.of (fun c hc => up2_o (by omega))
  have hK1 : KpM (up2 τ 11 i (nI (s.1 14 + 1))) i nc s.2.2.1 := hK.of (fun c hc => up2_o (by omega))
  have hW1 : WtM (up2 τ 11 i (nI (s.1 14 + 1))) i (fltW s.2.2.2) := hW.of (fun c c1 c2 => up2_o (by omega))
  have hI1 : SI T (vup s.1 14 (s.1 14 + 1)) s.2.1 := by
    obtain ⟨i1, i2, i3, i4, i5⟩ := hI
    refine ⟨i1.putc (by decide), ?_, ?_, ?_, ?_⟩
    · rw [o4, o5]; exact i2
    · rw [o4, o5]; exact i3
    · rw [o4, o5, vup_o (by decide)]; exact i4
    · rw [o4, o5]; exact i5
  have hSF1 : SF (vup s.1 14 (s.1 14 + 1)) s.2.1 := ⟨by rw [o 8 (by decide)]; exact hSF.1, fun x x1 x2 h5 => by rw [o 8 (by decide)]; rw [o4] at x1; rw [o5] at x2; exact hSF.2 x x1 x2 h5⟩
  generalize up2 τ 11 i (nI (s.1 14 + 1)) = τ1 at *
  rw [nI_clamp (n := f0) (by omega), nI_clamp (n := f0 + 1) (by omega), hE1.2.1, hE1.2.2.1]
  refine ⟨vin rfl (by omega) (by decide), ?_⟩
  rintro _ rfl
  have h3 := hS1.1
  rw [o4] at h3
  rw [h3]
  refine ⟨vin rfl hi (by decide), ?_⟩
  rintro _ rfl
  refine ⟨vin rfl (by omega) (by decide), ?_⟩
  unfold wpX9_meant
  have e6 : nI (ack % 64) &&& 63 = nI (ack % 64) := by rw [a63 (by omega)]; congr 1; omega
  have hm := meant2 (x := ack) (A := s.1 4) (e := 0) (Or.inl rfl) b4 (by omega) (by omega)
  have e0 : nI (ack % 64) + nI 0 = nI (ack % 64) := by rw [nI_add]; rfl
  rw [e0] at hm
  rw [e6, hm]
  dsimp only
  have h4 := hS1.2.1
  rw [o5] at h4
  rw [h4]
  refine ⟨vin rfl hi (by decide), ?_⟩
  by_cases hx : s.1 4 ≤ ack
  · rw [if_pos hx]
    have ef : stF ack es s = stM ack es s := if_neg (by omega)
    rw [ef] at h
    refine pk_le ack (s.1 5) (fun _ => ?_) (fun hh => by omega)
    -- the pieces below ack
    have L54 : ∀ (m x : Nat) (τ2 : Sg) (u : Sst), x + m = ack → s.1 4 ≤ x → u.1 4 = s.1 4 → u.1 5 = s.1 5 → stK es m x u = stK es (ack - s.1 4) (s.1 4) (vup s.1 14 (s.1 14 + 1), s.2) → SnM τ2 i u.1 bk → PsM τ2 i (s.1 4) (s.1 5) u.2.1 → SI T u.1 u.2.1 → SF u.1 u.2.1 → KpM τ2 i nc u.2.2.1 → WtM τ2 i (fltW u.2.2.2) → ObV nc u.2.2.1 u.2.2.2 → (∀ x, s.1 4 ≤ x → x < s.1 5 → ∀ k, k < (u.2.1 x).1.length → (gc (u.2.1 x).1 k).2.2.2 ≤ nc) → EnR τ2 c2 f0 ack es → FrA LR i τ τ2 → wpX9_status_L54 Q (m + 1) (nI i) c2 (nI f0) (nI es.length) (nI (s.1 4)) (nI ack) (nI x) τ2 := by
      intro m
      induction m with
      | zero =>
        intro x τ2 u hxm hx4 hu4 hu5 hst hS2 hP2 hI2 hSF2 hK2 hW2 hV2 hO2 hE2 hF2
        unfold wpX9_status_L54
        refine brt (nI_le (by omega) (by omega)) ?_
        have e2 : nI f0 + 2 = nI (f0 + 2) := nI_add f0 2
        rw [e2]
        rintro _ rfl
        have hst : u = stK es (ack - s.1 4) (s.1 4) (vup s.1 14 (s.1 14 + 1), s.2) := hst
        unfold stM at h
        rw [← hst] at h
        unfold stM2 at h
        refine ⟨es.length + 1, st94 (τ0 := τ2) (A := s.1 4) (S := s.1 5) hi hc2 hE2 hB b4 b5 h16 (by omega) es [] τ2 T (u.1, u.2.1) rfl hu4 hu5 hS2 hP2 hI2 hSF2 hT FrA.rf (fun τ3 g1 g2 g3 => ?_)⟩
        have hIn := SI.n es (u.1, u.2.1) hI2
        have n4 : (stN es (u.1, u.2.1)).1 4 = s.1 4 := by rw [stN_k (by decide) (by decide)]; exact hu4
        have n5 : (stN es (u.1, u.2.1)).1 5 = s.1 5 := by rw [stN_k (by decide) (by decide)]; exact hu5
        have hK3 : KpM τ3 i nc u.2.2.1 := hK2.of (fun c hc => g3.1 c (by
          have : c = 2 ∨ c = 15 ∨ c = 16 ∨ c = 17 ∨ c = 18 ∨ c = 19 := by omega
          rcases this with rfl | rfl | rfl | rfl | rfl | rfl <;> decide))
        have hW3 : WtM τ3 i (fltW u.2.2.2) := hW2.of (fun c c1 c2 => g3.1 c (by unfold LB; simp only [List.mem_cons, List.not_mem_nil, or_false]; omega))
        generalize stN es (u.1, u.2.1) = s2 at *
        obtain ⟨u1, u2, u3, u4⟩ := upA_spec (pc := s2.2) (S := s.1 5) 16 (s.1 4) h45
        refine ⟨upA s2.2 (s.1 5) 16 (s.1 4) - s.1 4 + 1, st220 (τ0 := τ3) (A' := upA s2.2 (s.1 5) 16 (s.1 4)) (pc := s2.2) hi (by omega) (fun hh => u4 (by omega) hh) u2 (upA s2.2 (s.1 5) 16 (s.1 4) - s.1 4) τ3 s2.1 (by rw [n4]; omega) n5 hIn.1 (by rw [n4]; exact u3) g1 (by rw [n4]; exact g2) FrA.rf (fun τ4 p1 p2 p3 => h τ4 ?_ ?_ ?_ ?_ ?_)⟩
        · unfold stM3
          rw [n5, n4]
          exact p1
        · have e4 : (stM3 ack u.2.2 s2).1 4 = upA s2.2 (s.1 5) 16 (s.1 4) := by
            show pt0 ack _ 4 = _
            unfold pt0
            rw [n5, n4]
            split
            · exact vup_s
            · rw [vup_o (by decide)]; exact vup_s
          have e5 : (stM3 ack u.2.2 s2).1 5 = s.1 5 := by
            show pt0 ack _ 5 = _
            unfold pt0
            split
            · rw [vup_o (by decide)]; exact n5
            · rw [vup_o (by decide), vup_o (by decide)]; exact n5
          rw [e4, e5]
          exact p2
        · exact hK3.of (fun c hc => p3.1 c (by simp only [List.mem_cons, List.not_mem_nil, or_false]; omega))
        · exact hW3.of (fun c c1 c2 => p3.1 c (by simp only [List.mem_cons, List.not_mem_nil, or_false]; omega))
        · exact (hF2.tr (g3.mono (by decide))).tr (p3.mono (by decide))
      | succ m ih =>
        intro x τ2 u hxm hx4 hu4 hu5 hst hS2 hP2 hI2 hSF2 hK2 hW2 hV2 hO2 hE2 hF2
        unfold wpX9_status_L54
        refine brf (nI_ge (by omega) (by omega)) (isNamed_ok hE2 hB hx4 (by omega) (by omega) (by omega) ?_)
        have skip : ¬ (nmd es x = false ∧ (u.2.1 x).2.2.2 = false) → wpX9_status_L80 Q (wpX9_status_L54 Q (m + 1)) (nI i) c2 (nI f0) (nI es.length) (nI (s.1 4)) (nI ack) (nI x) τ2 := by
          intro hh
          unfold wpX9_status_L80
          rintro _ rfl
          rw [nI_1]
          rw [stK, if_neg hh] at hst
          exact ih (x + 1) τ2 u (by omega) (by omega) hu4 hu5 hst hS2 hP2 hI2 hSF2 hK2 hW2 hV2 hO2 hE2 hF2
        refine br01' (fun en => ?_) (fun en => skip (fun hh => by rw [hh.1] at en; cases en))
        refine confirmPiece_ok hi h16 (by omega) hP2 hK2 hW2 hV2 hx4 (by omega) (hO2 x hx4 (by omega)) (fun ec => skip (fun hh => by rw [hh.2] at ec; cases ec)) (fun ec τ3 g1 g2 g3 g4 => ?_)
        unfold wpX9_status_L80
        rintro _ rfl
        rw [nI_1]
        rw [stK, if_pos ⟨en, ec⟩] at hst
        have k4 : (stK1 u x).1 4 = u.1 4 := stK1_k (by decide)
        have k5 : (stK1 u x).1 5 = u.1 5 := stK1_k (by decide)
        refine ih (x + 1) τ3 (stK1 u x) (by omega) (by omega) (by rw [k4]; exact hu4) (by rw [k5]; exact hu5) hst ?_ g1 (hI2.cf (by omega) (by omega) ec).2 ?_ g2 g3 (obV_cfO _ _ hV2) (fun y y1 y2 => ?_) (hE2.of (g4.1 c2 (by rw [hc2]; decide))) (hF2.tr (g4.mono (by decide)))
        · have hS3 : SnM τ3 i u.1 bk := hS2.of (fun c c1 c2 => g4.1 c (by unfold LPc; simp only [List.mem_cons, List.not_mem_nil, or_false]; omega))
          have oo : ∀ k, k ≠ 6 → (stK1 u x).1 k = u.1 k := fun k hk => stK1_k hk
          unfold SnM at hS3 ⊢
          rw [oo 4 (by decide), oo 5 (by decide), oo 10 (by decide), oo 9 (by decide), oo 11 (by decide), oo 12 (by decide), oo 13 (by decide), oo 14 (by decide), oo 7 (by decide), oo 8 (by decide)]
          exact hS3
        · refine ⟨by rw [stK1_k (by decide)]; exact hSF2.1, fun y y1 y2 h5 => ?_⟩
          rw [k4] at y1
          rw [k5] at y2
          rw [stK1_k (by decide)]
          refine hSF2.2 y y1 y2 ?_
          have h5 : 5 ≤ (spu u.2.1 x (cfQ (u.2.1 x)) y).2.2.1 := h5
          unfold spu at h5
          split at h5
          · next ey => rw [ey]; exact h5
          · exact h5
        · show ∀ k, k < (spu u.2.1 x (cfQ (u.2.1 x)) y).1.length → (gc (spu u.2.1 x (cfQ (u.2.1 x)) y).1 k).2.2.2 ≤ nc
          unfold spu
          split
          · exact hO2 x hx4 (by omega)
          · exact hO2 y y1 y2
    exact ⟨ack - s.1 4 + 1, L54 (ack - s.1 4) (s.1 4) τ1 (vup s.1 14 (s.1 14 + 1), s.2) (by omega) (Nat.le_refl _) o4 o5 rfl hS1 hP1 hI1 hSF1 hK1 hW1 hV hO hE1 hF1⟩
  · rw [if_neg hx]
    have ef : stF ack es s = (vup s.1 14 (s.1 14 + 1), s.2) := if_pos (by omega)
    rw [ef] at h
    refine pk_le (ack + 64) (s.1 5) (fun hh => by omega) (fun _ => h _ hS1 ?_ hK1 hW1 hF1)
    show PsM τ1 i (vup s.1 14 (s.1 14 + 1) 4) (vup s.1 14 (s.1 14 + 1) 5) s.2.1
    rw [o4, o5]
    exact hP1
