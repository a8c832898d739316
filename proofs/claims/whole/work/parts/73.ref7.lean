/-! PURE: the reference: a STATUS is made -/
def OutA (τ : Sg) (n : Nat) (l : List Int32) : Prop := ∀ j, j < l.length → τ 66 (n + j) = l.getD j 0
theorem OutA.app {τ : Sg} {n k : Nat} {l : List Int32} {v : Int32} (h : OutA τ n l) (hk : k = n + l.length) : OutA (up2 τ 66 k v) n (l ++ [v]) := by
  subst hk
  intro j hj
  rw [List.length_append, List.length_singleton] at hj
  rw [up2_e]
  by_cases e : j = l.length
  · subst e
    rw [if_pos ⟨rfl, rfl⟩, getD_end]
  · rw [if_neg (by omega), getD_app (by omega)]
    exact h j (by omega)
theorem putRun_ok {τ : Sg} {n k x a b : Nat} {l : List Int32} {Q : Sg → Prop} (hx : x < 2 ^ 20) (h : OutA τ n l) (hk : k = n + l.length) (hl : k + 3 ≤ 250) (hQ : ∀ τ' : Sg, OutA τ' n (l ++ enB (x, some (a, b))) → Fr66 τ τ' → Q τ') : wpX9_putRun (nI k) (nI x) (nI a) (nI b) τ Q := by
  unfold wpX9_putRun
  have e2 : nI k + 2 = nI (k + 2) := nI_add k 2
  rw [a63 (by omega), nI_1, e2, nI_clamp (n := k) (by omega), nI_clamp (n := k + 1) (by omega), nI_clamp (n := k + 2) (by omega)]
  refine ⟨vin rfl (by omega) (by decide), ?_⟩
  rintro _ rfl
  refine ⟨vin rfl (by omega) (by decide), ?_⟩
  rintro _ rfl
  refine ⟨vin rfl (by omega) (by decide), ?_⟩
  rintro _ rfl
  have h1 := h.app (v := nI (x % 64) + 128) hk
  have h2 := h1.app (v := nI a) (k := k + 1) (by rw [List.length_append, List.length_singleton]; omega)
  have h3 := h2.app (v := nI b) (k := k + 2) (by rw [List.length_append, List.length_append, List.length_singleton, List.length_singleton]; omega)
  refine hQ _ ?_ (fun c hc => by rw [up2_o hc, up2_o hc, up2_o hc])
  have e : l ++ enB (x, some (a, b)) = l ++ [nI (x % 64) + 128] ++ [nI a] ++ [nI b] := by
    show l ++ [nI (x % 64) + 128, nI a, nI b] = _
    simp
  rw [e]
  exact h3
def rnF (x : Nat) (r : Nat × Nat) : Ent := (x, some (r.1, r.2 - 1))
theorem enL_rn {x : Nat} : ∀ rs : List (Nat × Nat), (enL (rs.map (rnF x))).length = 3 * rs.length
  | [] => rfl
  | r :: rs => by
    show (enB (rnF x r) ++ enL (rs.map (rnF x))).length = _
    rw [List.length_append, enL_rn rs, List.length_cons]
    show 3 + _ = _
    omega
theorem scn_len {f : Nat → Bool} {up : Nat} : ∀ m k, (scn f up m k).length ≤ m := by
  intro m
  induction m with
  | zero => intro k; exact Nat.le_refl _
  | succ m ih =>
    intro k
    unfold scn
    have := ih (k + 1)
    split
    · rw [List.length_cons]; omega
    · omega
/-- the runs below the end -/
theorem en116 {s x n n0 e : Nat} {pre : List Int32} {th : Nat → Bool} {puts kn : Bool} {Q : Int32 → Sg → Prop} {τ0 : Sg} (hs : s < 192) (hx : x < 2 ^ 20) (he : e ≤ 240) (hn : n < 2 ^ 20) (hn0 : n = n0 + pre.length) (h46 : ∀ k, k < 240 → τ0 46 (240 * s + k) = b01 (th k)) (h44 : (τ0 44 s = -1) ↔ kn = false) : ∀ (m k : Nat) (τ : Sg) (rs : List (Nat × Nat)), k + m = e → (puts = true → n + 3 * (rs.length + (scn th e m k).length) + (if kn then 0 else 3) ≤ 250) → rs.length ≤ k → (puts = true → OutA τ n0 (pre ++ enL (rs.map (rnF x)))) → (puts = false → τ = τ0) → Fr66 τ0 τ → (∀ (τ' : Sg) (pe : List Ent), pe = (rs ++ scn th e m k).map (rnF x) ++ (if kn then [] else [(x, some (e, 255))]) → (puts = true → OutA τ' n0 (pre ++ enL pe)) → (puts = false → τ' = τ0) → Fr66 τ0 τ' → Q (nI pe.length) τ') → wpX9_entries_L116 Q (m + 1) (nI x) (nI n) (b01 puts) (nI s) (nI e) (nI rs.length) (nI k) τ := by
  intro m
  induction m with
  | zero =>
    intro k τ rs hk hl hrk hO hp hF h
    have hk : k = e := by omega
    subst hk
    have hz : scn th k 0 k = [] := rfl
    rw [hz, List.append_nil] at h
    rw [hz] at hl
    unfold wpX9_entries_L116
    rw [nI_clamp (n := s) (by omega), hF 44 (by decide)]
    refine brt (nI_le (Nat.le_refl _) (by omega)) ⟨vin rfl hs (by decide), fun h1 => ?_, fun h1 => ?_⟩
    · have hkn := h44.mp h1
      rw [hkn, if_neg (by decide)] at h
      rw [hkn, if_neg (by decide)] at hl
      have hel : (rs.map (rnF x) ++ [(x, some (k, 255))]).length = rs.length + 1 := by rw [List.length_append, List.length_map]; rfl
      have e3 : nI n + (3 : Int32) * nI rs.length = nI (n + 3 * rs.length) := by
        have : (3 : Int32) * nI rs.length = nI (3 * rs.length) := pk_mul 3 rs.length
        rw [this, nI_add]
      refine br01 (fun ep => ?_) (fun ep => ?_)
      · have := h τ _ rfl (fun hh => by rw [ep] at hh; cases hh) hp hF
        rw [hel] at this
        rw [nI_1]
        exact this
      · rw [e3]
        have hl := hl ep
        rw [List.length_nil] at hl
        refine putRun_ok (b := 255) hx (hO ep) (by rw [List.length_append, enL_rn]; omega) (by omega) (fun τ2 g1 g2 => ?_)
        have := h τ2 _ rfl (fun _ => by rw [enL_app, ← List.append_assoc]; show OutA τ2 n0 (_ ++ (enB (x, some (k, 255)) ++ [])); rw [List.append_nil]; exact g1) (fun hh => by rw [ep] at hh; cases hh) (fun c hc => by rw [g2 c hc, hF c hc])
        rw [hel] at this
        rw [nI_1]
        exact this
    · have hkn : kn = true := by
        cases ek : kn with
        | true => rfl
        | false => exact absurd (h44.mpr ek) h1
      rw [hkn, if_pos rfl, List.append_nil] at h
      have := h τ _ rfl hO hp hF
      rw [List.length_map] at this
      exact this
  | succ m ih =>
    intro k τ rs hk hl hrk hO hp hF h
    have t46 : ∀ j, j < 240 → τ 46 (240 * s + j) = b01 (th j) := fun j hj => by rw [hF 46 (by decide)]; exact h46 j hj
    -- no run begins here
    have skip : ¬ (th k = false ∧ (k = 0 ∨ th (k - 1) = true)) → wpX9_entries_L240 Q (wpX9_entries_L116 Q (m + 1)) (nI x) (nI n) (b01 puts) (nI s) (nI e) (nI rs.length) (nI k) τ := by
      intro hno
      unfold wpX9_entries_L240
      rintro _ rfl
      rw [nI_1]
      rw [scn, if_neg hno] at h hl
      exact ih (k + 1) τ rs (by omega) hl (by omega) hO hp hF h
    have L168 : ¬ (th k = false ∧ (k = 0 ∨ th (k - 1) = true)) → wpX9_entries_L168 Q (wpX9_entries_L116 Q (m + 1)) (nI x) (nI n) (b01 puts) (nI s) (nI e) (nI rs.length) (nI k) τ := by
      intro hno
      unfold wpX9_entries_L168 wpX9_entries_L169
      exact brt' rfl (skip hno)
    have L164 : th k = false → (k = 0 ∨ th (k - 1) = true) → wpX9_entries_L164 Q (wpX9_entries_L116 Q (m + 1)) (nI x) (nI n) (b01 puts) (nI s) (nI e) (nI rs.length) (nI k) τ := by
      intro h1 h2
      obtain ⟨n1, n2, n3, n4⟩ := nxt_spec (f := th) (w := true) (up := e) (i := k) (by omega)
      have hgt : k < nxt th true e k := by
        rcases Nat.lt_or_ge k (nxt th true e k) with h9 | h9
        · exact h9
        · have e9 : nxt th true e k = k := by omega
          have := n4 (by omega)
          rw [e9, h1] at this
          cases this
      rw [scn, if_pos ⟨h1, h2⟩] at h hl
      -- the run's end
      have L217 : wpX9_entries_L217 Q (wpX9_entries_L116 Q (m + 1)) (nI x) (nI n) (b01 puts) (nI s) (nI e) (nI rs.length) (nI k) (nI (nxt th true e k - 1)) τ := by
        have hr1 : (rs ++ [(k, nxt th true e k)]).length = rs.length + 1 := by simp
        have happ : rs ++ (k, nxt th true e k) :: scn th e m (k + 1) = rs ++ [(k, nxt th true e k)] ++ scn th e m (k + 1) := by rw [List.append_assoc]; rfl
        rw [happ] at h
        rw [List.length_cons] at hl
        have L237 : ∀ τ2 : Sg, (puts = true → OutA τ2 n0 (pre ++ enL ((rs ++ [(k, nxt th true e k)]).map (rnF x)))) → (puts = false → τ2 = τ0) → Fr66 τ0 τ2 → wpX9_entries_L237 Q (wpX9_entries_L116 Q (m + 1)) (nI x) (nI n) (b01 puts) (nI s) (nI e) (nI rs.length) (nI k) τ2 := by
          intro τ2 q1 q2 q3
          unfold wpX9_entries_L237
          rintro _ rfl
          unfold wpX9_entries_L240
          rintro _ rfl
          rw [nI_1, nI_1]
          have := ih (k + 1) τ2 (rs ++ [(k, nxt th true e k)]) (by omega) (fun hh => by rw [hr1]; have := hl hh; omega) (by rw [hr1]; omega) q1 q2 q3 h
          rw [hr1] at this
          exact this
        unfold wpX9_entries_L217
        refine br01 (fun ep => ?_) (fun ep => ?_)
        · exact L237 τ (fun hh => by rw [ep] at hh; cases hh) hp hF
        · have e3 : nI n + (3 : Int32) * nI rs.length = nI (n + 3 * rs.length) := by
            have : (3 : Int32) * nI rs.length = nI (3 * rs.length) := pk_mul 3 rs.length
            rw [this, nI_add]
          rw [e3]
          have hl := hl ep
          refine putRun_ok hx (hO ep) (by rw [List.length_append, enL_rn]; omega) (by omega) (fun τ2 g1 g2 => L237 τ2 (fun _ => ?_) (fun hh => by rw [ep] at hh; cases hh) (fun c hc => by rw [g2 c hc, hF c hc]))
          rw [List.map_append, enL_app, ← List.append_assoc]
          show OutA τ2 n0 (_ ++ (enB (rnF x (k, nxt th true e k)) ++ []))
          rw [List.append_nil]
          exact g1
      have L183 : ∀ (m' t : Nat), t + 1 + m' = nxt th true e k → k ≤ t → wpX9_entries_L183 Q (wpX9_entries_L116 Q (m + 1)) (m' + 1) (nI x) (nI n) (b01 puts) (nI s) (nI e) (nI rs.length) (nI k) (nI t) τ := by
        intro m'
        induction m' with
        | zero =>
          intro t ht hkt
          have ht : t = nxt th true e k - 1 := by omega
          unfold wpX9_entries_L183
          rw [nI_1]
          refine pk_le e (t + 1) (fun _ => by rw [ht]; exact L217) (fun hlt => ?_)
          have e1 : ((240 : Int32) * nI s + nI t) + 1 = nI (240 * s + (t + 1)) := by rw [i240, nI_1]; rfl
          rw [e1, nI_clamp (by omega), t46 (t + 1) (by omega), show t + 1 = nxt th true e k by omega, n4 (by omega)]
          refine ⟨vin rfl (by omega) (by decide), brf' (by decide) ?_⟩
          rw [ht]
          exact L217
        | succ m' ih' =>
          intro t ht hkt
          unfold wpX9_entries_L183
          rw [nI_1]
          refine brf (nI_ge (by omega) (by omega)) ?_
          have e1 : ((240 : Int32) * nI s + nI t) + 1 = nI (240 * s + (t + 1)) := by rw [i240, nI_1]; rfl
          have hf : th (t + 1) = false := by
            have := n3 (t + 1) (by omega) (by omega)
            simpa using this
          rw [e1, nI_clamp (by omega), t46 (t + 1) (by omega), hf]
          refine ⟨vin rfl (by omega) (by decide), brt' rfl ?_⟩
          rintro _ rfl
          exact ih' (t + 1) (by omega) (by omega)
      unfold wpX9_entries_L164 wpX9_entries_L169
      exact brf' (by decide) ⟨nxt th true e k - 1 - k + 1, L183 (nxt th true e k - 1 - k) k (by omega) (Nat.le_refl _)⟩
    unfold wpX9_entries_L116
    rw [i240, nI_clamp (n := 240 * s + k) (by omega), t46 k (by omega)]
    refine brf (nI_ge (by omega) (by omega)) ⟨vin rfl (by omega) (by decide), br01' (fun e0 => ⟨fun hz => ?_, fun hz => ?_⟩) (fun e1 => ?_)⟩
    · have hz : k = 0 := (nI_eq (a := k) (b := 0) (by omega) (by decide)).mp hz
      exact L164 e0 (Or.inl hz)
    · have hz : ¬ k = 0 := fun hh => hz (by rw [hh]; rfl)
      have e1 : nI (240 * s + k) - 1 = nI (240 * s + (k - 1)) := by
        have : nI (240 * s + k) - 1 = nI (240 * s + k - 1) := pk_sub (a := 240 * s + k) (b := 1) (by omega)
        rw [this]
        congr 1
        omega
      rw [e1, nI_clamp (by omega), t46 (k - 1) (by omega)]
      refine ⟨vin rfl (by omega) (by decide), br01 (fun e2 => L168 (fun hh => ?_)) (fun e2 => L164 e0 (Or.inr e2))⟩
      rcases hh.2 with h9 | h9
      · exact hz h9
      · rw [e2] at h9; cases h9
    · exact L168 (fun hh => by rw [hh.1] at e1; cases e1)
/-- of a piece whose end is not known -/
theorem scn_app {f : Nat → Bool} {up e : Nat} (he : e < up) (hl : 0 < e) (h1 : f (e - 1) = true) (h2 : ∀ k, e ≤ k → k < up → f k = false) : ∀ (m k : Nat), k + m = e → scn f up (up - k) k = scn f e m k ++ [(e, up)] := by
  intro m
  induction m with
  | zero =>
    intro k hk
    have hk : k = e := by omega
    subst hk
    have hn : nxt f false up k = k := nxt_uniq (Nat.le_refl _) (by omega) (fun j h9 h8 => by omega) (fun _ => h2 k (Nat.le_refl _) he)
    have hn2 : nxt f true up k = up := nxt_uniq (by omega) (Nat.le_refl _) (fun j h9 h8 => by rw [h2 j h9 h8]; decide) (fun hh => by omega)
    have := scn_nxt (f := f) (up := up) (i := k) (by omega) (Or.inr (Or.inl h1))
    rw [hn, hn2, if_pos he] at this
    rw [this, Nat.sub_self]
    rfl
  | succ m ih =>
    intro k hk
    have hs := ih (k + 1) (by omega)
    rw [show up - k = (up - (k + 1)) + 1 by omega]
    unfold scn
    have hnx : nxt f true up k = nxt f true e k := by
      obtain ⟨n1, n2, n3, n4⟩ := nxt_spec (f := f) (w := true) (up := e) (i := k) (by omega)
      have hlt : nxt f true e k < e := by
        rcases Nat.lt_or_ge (nxt f true e k) e with h9 | h9
        · exact h9
        · exact absurd h1 (n3 (e - 1) (by omega) (by omega))
      exact nxt_uniq n1 (by omega) n3 (fun _ => n4 hlt)
    by_cases ec : f k = false ∧ (k = 0 ∨ f (k - 1) = true)
    · rw [if_pos ec, if_pos ec, hs, hnx]
      rfl
    · rw [if_neg ec, if_neg ec, hs]
theorem topN_at {f : Nat → Bool} : ∀ n, 0 < topN f n → f (topN f n - 1) = true
  | 0, h => by unfold topN at h; omega
  | n + 1, h => by
    unfold topN at h ⊢
    by_cases e : f n = true
    · rw [if_pos e, Nat.add_sub_cancel]; exact e
    · rw [if_neg e] at h ⊢
      exact topN_at n h
theorem topN_0 {f : Nat → Bool} : ∀ n, topN f n = 0 ↔ cnt f 0 n = 0
  | 0 => ⟨fun _ => rfl, fun _ => rfl⟩
  | n + 1 => by
    have ih := topN_0 (f := f) n
    show topN f (n + 1) = 0 ↔ cnt f 0 n + (if f (0 + n) then 1 else 0) = 0
    rw [Nat.zero_add]
    unfold topN
    by_cases e : f n = true
    · rw [if_pos e, if_pos e]
      omega
    · rw [if_neg e, if_neg e]
      omega
theorem rentries_ok {τ : Sg} {i x n n0 : Nat} {pre : List Int32} {G : Nat → List Cel} {pc : Rpc} {puts : Bool} {R : Nat} {Q : Int32 → Sg → Prop} (hi : i < 6) (hP : RpsM τ i R G pc) (h1 : R ≤ x) (h2 : x < R + 32) (hx : x < 2 ^ 20) (hkn : (pc x).1 = false → (pc x).2 239 = false) (hn : n < 2 ^ 20) (hn0 : n = n0 + pre.length) (hO : puts = true → OutA τ n0 pre) (hl : puts = true → n + (enL (pcE G pc x)).length ≤ 250) (h : ∀ τ' : Sg, (puts = true → OutA τ' n0 (pre ++ enL (pcE G pc x))) → (puts = false → τ' = τ) → Fr66 τ τ' → Q (nI (pcE G pc x).length) τ') : wpX9_entries (nI i) (nI x) (nI n) (b01 puts) τ Q := by
  obtain ⟨p1, p2, p3, p4, p5⟩ := hP x h1 h2
  unfold wpX9_entries
  rw [a31 (by omega), i32]
  rintro _ rfl
  have hs192 : 32 * i + x % 32 < 192 := by omega
  generalize 32 * i + x % 32 = s at *
  have hc240 := cnt_le (f := (pc x).2) (a := 0) 240
  have ht240 := topN_le (f := (pc x).2) 240
  have h44 : (τ 44 s = -1) ↔ (pc x).1 = false := by
    rw [p1]
    cases (pc x).1 with
    | false => exact ⟨fun _ => rfl, fun _ => rfl⟩
    | true => exact ⟨fun hh => absurd hh (neg1 (by omega)), fun hh => by cases hh⟩
  -- with the end
  have L108 : ∀ e : Nat, e ≤ 240 → ¬ cnt (pc x).2 0 240 = 0 → (scn (pc x).2 e e 0).map (rnF x) ++ (if (pc x).1 then [] else [(x, some (e, 255))]) = pcE G pc x → wpX9_entries_L108 Q (nI x) (nI n) (b01 puts) (nI s) (nI e) τ := by
    intro e he hne epe
    have hel : (enL (pcE G pc x)).length = 3 * (scn (pc x).2 e e 0).length + (if (pc x).1 then 0 else 3) := by
      rw [← epe, enL_app, List.length_append, enL_rn]
      congr 1
      split <;> rfl
    unfold wpX9_entries_L108
    refine ⟨e + 1, en116 (kn := (pc x).1) (th := (pc x).2) (n0 := n0) (pre := pre) (τ0 := τ) hs192 hx he hn hn0 p3 h44 e 0 τ [] (by omega) (fun hh => ?_) (Nat.le_refl _) (fun hh => ?_) (fun _ => rfl) (fun _ _ => rfl) (fun τ' pe hpe q1 q2 q3 => ?_)⟩
    · have := hl hh
      rw [hel] at this
      rw [List.length_nil]
      omega
    · show OutA τ n0 (pre ++ [])
      rw [List.append_nil]
      exact hO hh
    · rw [List.nil_append, epe] at hpe
      subst hpe
      exact h τ' q1 q2 q3
  have fin : wpX9_entries_L20 Q 1 (nI x) (nI n) (b01 puts) (nI s) (nI (cnt (pc x).2 0 240)) (nI (topN (pc x).2 240) - 1) (nI 240) τ := by
    unfold wpX9_entries_L20
    rw [nI_clamp (n := s) (by omega)]
    refine pk_le 240 240 (fun _ => ⟨fun hne => ⟨vin rfl hs192 (by decide), fun hk => ⟨vin rfl hs192 (by decide), ?_⟩, fun hk => ?_⟩, fun he => ?_⟩) (fun hh => by omega)
    · have hne : ¬ cnt (pc x).2 0 240 = 0 := fun hh => hne (by rw [hh]; rfl)
      have hkt : (pc x).1 = true := by
        cases ek : (pc x).1 with
        | true => rfl
        | false => exact absurd (h44.mpr ek) hk
      rw [p1, if_pos hkt]
      refine L108 (G x).length p2 hne ?_
      rw [if_pos hkt, List.append_nil, pcE_1 hne]
      unfold runs upR
      rw [if_pos hkt]
      refine List.map_congr_left (fun r _ => ?_)
      unfold rnF rnE
      rw [hkt, if_neg (by simp)]
    · have hne : ¬ cnt (pc x).2 0 240 = 0 := fun hh => hne (by rw [hh]; rfl)
      have hkf := h44.mp hk
      rw [Int32.sub_add_cancel]
      have hpos : 0 < topN (pc x).2 240 := by
        have := topN_0 (f := (pc x).2) 240
        omega
      have hat := topN_at (f := (pc x).2) 240 hpos
      have hlt : topN (pc x).2 240 < 240 := by
        rcases Nat.lt_or_ge (topN (pc x).2 240) 240 with h9 | h9
        · exact h9
        · rw [show topN (pc x).2 240 - 1 = 239 by omega, hkn hkf] at hat
          cases hat
      refine L108 (topN (pc x).2 240) (by omega) hne ?_
      rw [hkf, if_neg (by decide), pcE_1 hne]
      unfold runs upR
      rw [hkf, if_neg (by decide)]
      have hsc := scn_app (f := (pc x).2) (up := 240) (e := topN (pc x).2 240) hlt hpos hat (fun k k1 k2 => topN_hi 240 k k1 k2) (topN (pc x).2 240) 0 (by omega)
      rw [Nat.sub_zero] at hsc
      rw [hsc, List.map_append]
      congr 1
      refine List.map_congr_left (fun r hr => ?_)
      have hr2 : r.2 ≠ 240 := by
        have key : ∀ (m k : Nat), ∀ r ∈ scn (pc x).2 (topN (pc x).2 240) m k, k + m ≤ topN (pc x).2 240 → r.2 ≤ topN (pc x).2 240 := by
          intro m
          induction m with
          | zero => intro k r hr _; exact absurd hr (by unfold scn; simp)
          | succ m ih =>
            intro k r hr hkm
            unfold scn at hr
            split at hr
            · rcases List.mem_cons.mp hr with hr | hr
              · rw [hr]
                exact (nxt_spec (f := (pc x).2) (w := true) (up := topN (pc x).2 240) (i := k) (by omega)).2.1
              · exact ih (k + 1) r hr (by omega)
            · exact ih (k + 1) r hr (by omega)
        have := key (topN (pc x).2 240) 0 r hr (by omega)
        omega
      unfold rnF rnE
      rw [if_neg (fun hh => hr2 hh.2)]
    · have he : cnt (pc x).2 0 240 = 0 := (nI_eq (a := cnt (pc x).2 0 240) (b := 0) (by omega) (by decide)).mp he
      have epe := pcE_0 (G := G) he
      rw [epe] at h hl
      refine br01 (fun ep => ?_) (fun ep => ?_)
      · exact h τ (fun hh => by rw [ep] at hh; cases hh) (fun _ => rfl) (fun _ _ => rfl)
      · have hl : n + 1 ≤ 250 := hl ep
        rw [nI_clamp (n := n) (by omega), a63 (by omega)]
        refine ⟨vin rfl (by omega) (by decide), ?_⟩
        rintro _ rfl
        exact h _ (fun _ => (hO ep).app hn0) (fun hh => by rw [ep] at hh; cases hh) (fun c hc => up2_o hc)
  have L20 : ∀ (m k : Nat), k + m = 240 → wpX9_entries_L20 Q (m + 1) (nI x) (nI n) (b01 puts) (nI s) (nI (cnt (pc x).2 0 k)) (nI (topN (pc x).2 k) - 1) (nI k) τ := by
    intro m
    induction m with
    | zero =>
      intro k hk
      have hk : k = 240 := by omega
      subst hk
      exact fin
    | succ m ih =>
      intro k hk
      have hi2 := ih (k + 1) (by omega)
      have ec : cnt (pc x).2 0 (k + 1) = cnt (pc x).2 0 k + if (pc x).2 k then 1 else 0 := by
        show cnt (pc x).2 0 k + (if (pc x).2 (0 + k) then 1 else 0) = _
        rw [Nat.zero_add]
      have et : topN (pc x).2 (k + 1) = if (pc x).2 k then k + 1 else topN (pc x).2 k := rfl
      rw [ec, et] at hi2
      unfold wpX9_entries_L20
      rw [i240, nI_clamp (n := 240 * s + k) (by omega), p3 k (by omega)]
      refine pk_le 240 k (fun hh => by omega) (fun _ => ⟨vin rfl (by omega) (by decide), br01' (fun e => ?_) (fun e => ?_)⟩)
      · unfold wpX9_entries_L55
        rintro _ rfl
        rw [nI_1]
        rw [e] at hi2
        exact hi2
      · rintro _ rfl
        unfold wpX9_entries_L55
        rintro _ rfl
        rw [nI_1, nI_1]
        rw [e, if_pos rfl, if_pos rfl, nI_pred] at hi2
        exact hi2
  refine ⟨241, ?_⟩
  have := L20 240 0 rfl
  have e0 : nI (topN (pc x).2 0) - 1 = (-1 : Int32) := m1z.symm
  rw [e0] at this
  exact this
theorem isEmpty_ok {τ : Sg} {i x R : Nat} {G : Nat → List Cel} {pc : Rpc} {Q : Int32 → Sg → Prop} (hi : i < 6) (hP : RpsM τ i R G pc) (h1 : R ≤ x) (h2 : x < R + 32) (hx : x < 2 ^ 20) (h : Q (b01 (decide (cnt (pc x).2 0 240 = 0))) τ) : wpX9_isEmpty (nI i) (nI x) τ Q := by
  obtain ⟨p1, p2, p3, p4, p5⟩ := hP x h1 h2
  unfold wpX9_isEmpty
  rw [a31 (by omega), i32]
  rintro _ rfl
  have hs192 : 32 * i + x % 32 < 192 := by omega
  generalize 32 * i + x % 32 = s at *
  have L16 : ∀ (m k : Nat), k + m = 240 → wpX9_isEmpty_L16 Q (m + 1) (nI s) (b01 (decide (cnt (pc x).2 0 k = 0))) (nI k) τ := by
    intro m
    induction m with
    | zero =>
      intro k hk
      have hk : k = 240 := by omega
      subst hk
      unfold wpX9_isEmpty_L16
      exact pk_le 240 240 (fun _ => ⟨b01_z _, h⟩) (fun hh => by omega)
    | succ m ih =>
      intro k hk
      have hi2 := ih (k + 1) (by omega)
      have ec : cnt (pc x).2 0 (k + 1) = cnt (pc x).2 0 k + if (pc x).2 k then 1 else 0 := by
        show cnt (pc x).2 0 k + (if (pc x).2 (0 + k) then 1 else 0) = _
        rw [Nat.zero_add]
      rw [ec] at hi2
      unfold wpX9_isEmpty_L16
      refine pk_le 240 k (fun hh => by omega) (fun _ => br01 (fun e => ?_) (fun e => ?_))
      · unfold wpX9_isEmpty_L49 wpX9_isEmpty_L50
        rintro _ rfl
        rw [nI_1]
        have e := of_decide_eq_false e
        rw [decide_eq_false (by omega)] at hi2
        exact hi2
      · have e := of_decide_eq_true e
        rw [i240, nI_clamp (n := 240 * s + k) (by omega), p3 k (by omega)]
        refine ⟨vin rfl (by omega) (by decide), br01' (fun et => ?_) (fun et => ?_)⟩
        · unfold wpX9_isEmpty_L50
          rintro _ rfl
          rw [nI_1]
          rw [et, e] at hi2
          exact hi2
        · unfold wpX9_isEmpty_L49 wpX9_isEmpty_L50
          rintro _ rfl
          rw [nI_1]
          rw [et, if_pos rfl, decide_eq_false (by omega)] at hi2
          exact hi2
  exact ⟨241, L16 240 0 rfl⟩
/-- what the entries of a piece need: its end is known where its last byte is there -/
def knP (pc : Rpc) : Prop := ∀ x, (pc x).1 = false → (pc x).2 239 = false
def LSt : List Nat := [38, 40, 43, 66]
theorem rmakeStatus_ok {τ : Sg} {i room : Nat} {v : Nat → Nat} {G : Nat → List Cel} {pc : Rpc} {Q : Int32 → Sg → Prop} (hi : i < 6) (hS : RsM τ i v) (hb : RvB v) (hP : RpsM τ i (v 2) G pc) (hc : clrP v pc) (hk : knP pc) (h24 : v 2 ≤ v 4) (h43 : v 4 ≤ v 3) (h3 : v 3 ≤ v 2 + 31) (h2 : 2 ≤ room) (hroom : room ≤ 250) (h : ∀ τ' : Sg, RsM τ' i (mksV v) → OutM τ' (stB (stE (whl G (v 2) (v 3) pc) (pcE G pc) room (v 4 - v 2) (v 2) []).1 (stE (whl G (v 2) (v 3) pc) (pcE G pc) room (v 4 - v 2) (v 2) []).2) → FrA LSt i τ τ' → Q (nI (stB (stE (whl G (v 2) (v 3) pc) (pcE G pc) room (v 4 - v 2) (v 2) []).1 (stE (whl G (v 2) (v 3) pc) (pcE G pc) room (v 4 - v 2) (v 2) []).2).length) τ') : wpX9_makeStatus (nI i) (nI room) τ Q := by
  have b3 := hb 3 (by decide) (by decide)
  have b4 := hb 4 (by decide) (by decide)
  -- the end
  have L141 : ∀ (τ1 : Sg) (ack : Nat) (es : List Ent), (ack, es) = stE (whl G (v 2) (v 3) pc) (pcE G pc) room (v 4 - v 2) (v 2) [] → ack ≤ v 4 → OutA τ1 2 (enL es) → Fr66 τ τ1 → wpX9_makeStatus_L141 Q (nI i) (nI (2 + (enL es).length)) (nI es.length) (nI ack) τ1 := by
    intro τ1 ack es hst hack hO hF
    rw [← hst] at h
    unfold wpX9_makeStatus_L141
    rintro _ rfl _ rfl
    rw [a63 (by omega), nI_clamp (n := i) (by omega)]
    refine ⟨vin rfl hi (by decide), ?_⟩
    rintro _ rfl
    refine ⟨vin rfl hi (by decide), ?_⟩
    rintro _ rfl
    refine ⟨vin rfl hi (by decide), vin rfl hi (by decide), ?_⟩
    rintro _ rfl
    have hS1 : RsM τ1 i v := hS.of (fun c c1 c2 => by rw [hF c (by omega)])
    have hS2 : RsM (up2 (up2 τ1 66 0 (nI es.length)) 66 1 (nI (ack % 64))) i v := hS1.of (fun c c1 c2 => by rw [up2_o (by omega), up2_o (by omega)])
    have hS4 := (hS2.put (c := 43) (x := 0) (by decide) (by decide) (by decide)).put (c := 38) (x := 5) (by decide) (by decide) (by decide)
    have e40 := hS4.g10
    have e40 : up2 (up2 (up2 (up2 τ1 66 0 (nI es.length)) 66 1 (nI (ack % 64))) 43 i 0) 38 i 5 40 i = nI (v 10) := by
      have o : vup (vup v (rk 43) 0) (rk 38) 5 10 = v 10 := by
        rw [vup_o (by decide), vup_o (by decide)]
      rw [o] at e40
      exact e40
    rw [e40, nI_1]
    have hS5 := hS4.put (c := 40) (x := v 10 + 1) (by decide) (by decide) (by decide)
    have hlen := (stB_at (ack := ack) (es := es)).1
    rw [← hlen]
    refine h _ hS5 (fun k hk9 => ?_) ?_
    · rw [up2_o (d := 66) (by decide), up2_o (d := 66) (by decide), up2_o (d := 66) (by decide), up2_e, up2_e]
      have hk9 : k < (stB ack es).length := hk9
      rw [hlen] at hk9
      match k with
      | 0 => rfl
      | 1 => rfl
      | k + 2 =>
        rw [if_neg (by omega), if_neg (by omega)]
        have := hO k (by omega)
        rw [Nat.add_comm k 2, this]
        exact ((stB_at (ack := ack) (es := es)).2.2.2 k).symm
    · refine ((FrA.up (FrA.up (FrA.up ?_ (by decide) (fun _ => Nat.div_one i)) (by decide) (fun _ => Nat.div_one i)) (by decide) (fun _ => Nat.div_one i)))
      refine ⟨fun c hc9 => ?_, fun c k hc9 hk9 => ?_⟩
      · have hc66 : c ≠ 66 := fun e => hc9 (by rw [e]; decide)
        rw [up2_o hc66, up2_o hc66, hF c hc66]
      · rw [up2_o (by omega), up2_o (by omega), hF c (by omega)]
  have L21 : ∀ (m x : Nat) (τ1 : Sg) (es : List Ent), x + m = v 4 → v 2 ≤ x → stE (whl G (v 2) (v 3) pc) (pcE G pc) room m x es = stE (whl G (v 2) (v 3) pc) (pcE G pc) room (v 4 - v 2) (v 2) [] → es.length ≤ 15 → 2 + (enL es).length ≤ room → OutA τ1 2 (enL es) → Fr66 τ τ1 → wpX9_makeStatus_L21 Q (m + 2) (nI i) (nI room) (nI (2 + (enL es).length)) (nI es.length) (nI (v 4)) (nI x) τ1 := by
    intro m
    induction m with
    | zero =>
      intro x τ1 es hx hx2 hst he hel hO hF
      have hx : x = v 4 := by omega
      subst hx
      have hS1 : RsM τ1 i v := hS.of (fun c c1 c2 => by rw [hF c (by omega)])
      unfold wpX9_makeStatus_L21
      rw [nI_clamp (n := i) (by omega), hS1.g4]
      exact ⟨vin rfl hi (by decide), brt (nI_le (Nat.le_refl _) (by omega)) (L141 τ1 (v 4) es hst (Nat.le_refl _) hO hF)⟩
    | succ m ih =>
      intro x τ1 es hx hx2 hst he hel hO hF
      have hS1 : RsM τ1 i v := hS.of (fun c c1 c2 => by rw [hF c (by omega)])
      have hP1 : RpsM τ1 i (v 2) G pc := hP.of (fun c c1 c2 => hF c (by omega))
      have hpl : (pcE G pc x).length ≤ 240 ∧ (enL (pcE G pc x)).length ≤ 720 := by
        unfold pcE
        split
        · exact ⟨show 1 ≤ 240 by decide, show 1 ≤ 720 by decide⟩
        · rw [List.length_map, ← rsB_enL, rsB_len]
          have h9 : (runs (G x) (pc x).1 (pc x).2).length ≤ 240 := Nat.le_trans (scn_len _ _) (upR_le (hP1 x hx2 (by omega)).2.1)
          omega
      unfold wpX9_makeStatus_L21
      rw [nI_clamp (n := i) (by omega), hS1.g4]
      refine ⟨vin rfl hi (by decide), brf (nI_ge (by omega) (by omega)) ⟨vin rfl hi (by decide), brt' rfl ?_⟩⟩
      refine risWhole_ok hi hS1 hb hP1 hc hx2 (by omega) ?_
      rw [stE] at hst
      refine br01 (fun e => ?_) (fun e => ?_)
      · rw [e, if_neg (by decide)] at hst
        refine rentries_ok (n := 0) (n0 := 0) (pre := []) (puts := false) hi hP1 hx2 (by omega) (by omega) (hk x) (by decide) rfl (fun hh => by cases hh) (fun hh => by cases hh) (fun τ2 _ q2 _ => ?_)
        have q2 := q2 rfl
        subst q2
        refine isEmpty_ok hi hP1 hx2 (by omega) (by omega) ?_
        have L85 : ∀ cost : Nat, cost = (enL (pcE G pc x)).length → wpX9_makeStatus_L85 Q (wpX9_makeStatus_L21 Q (m + 2)) (nI i) (nI room) (nI (2 + (enL es).length)) (nI es.length) (nI (v 4)) (nI x) (nI (pcE G pc x).length) (nI cost) τ2 := by
          intro cost hcost
          subst hcost
          unfold wpX9_makeStatus_L85
          rw [nI_add, nI_add]
          have stop : (15 < es.length + (pcE G pc x).length ∨ room < 2 + (enL es).length + (enL (pcE G pc x)).length) → wpX9_makeStatus_L105 Q (wpX9_makeStatus_L21 Q (m + 2)) (nI i) (nI room) (nI (2 + (enL es).length)) (nI es.length) (nI x) τ2 := by
            intro hs
            rw [if_pos hs] at hst
            unfold wpX9_makeStatus_L105 wpX9_makeStatus_L135
            rintro _ rfl
            unfold wpX9_makeStatus_L21
            rw [nI_clamp (n := i) (by omega), hS1.g4, nI_1]
            have fin := L141 τ2 x es hst (by omega) hO hF
            refine ⟨vin rfl hi (by decide), pk_le (v 4) (x + 1) (fun _ => fin) (fun _ => ⟨vin rfl hi (by decide), brf' (fun hh => ?_) fin⟩)⟩
            have := (nI_eq (by omega) (by omega)).mp hh
            omega
          refine pk_lt 15 (es.length + (pcE G pc x).length) (fun hh => stop (Or.inl hh)) (fun hh => pk_le (2 + (enL es).length + (enL (pcE G pc x)).length) room (fun h9 => ?_) (fun h9 => stop (Or.inr (by omega))))
          rw [if_neg (by omega)] at hst
          refine rentries_ok (n := 2 + (enL es).length) (n0 := 2) (pre := enL es) (puts := true) hi hP1 hx2 (by omega) (by omega) (hk x) (by omega) rfl (fun _ => hO) (fun _ => by omega) (fun τ3 q1 _ q3 => ?_)
          rintro _ rfl _ rfl
          unfold wpX9_makeStatus_L135
          rintro _ rfl
          rw [nI_add, nI_1]
          have := ih (x + 1) τ3 (es ++ pcE G pc x) (by omega) (by omega) hst (by rw [List.length_append]; omega) (by rw [enL_app, List.length_append]; omega) (by rw [enL_app]; exact q1 rfl) (fun c hc9 => by rw [q3 c hc9, hF c hc9])
          rw [List.length_append, enL_app, List.length_append, ← Nat.add_assoc] at this
          exact this
        refine br01 (fun e0 => ?_) (fun e0 => ?_)
        · have e0 := of_decide_eq_false e0
          have e3 : (3 : Int32) * nI (pcE G pc x).length = nI (3 * (pcE G pc x).length) := pk_mul 3 _
          rw [e3]
          exact L85 _ (by rw [pcE_1 e0, List.length_map, ← rsB_enL, rsB_len])
        · have e0 := of_decide_eq_true e0
          exact L85 1 (by rw [pcE_0 e0]; rfl)
      · rw [e, if_pos rfl] at hst
        unfold wpX9_makeStatus_L135
        rintro _ rfl
        rw [nI_1]
        exact ih (x + 1) τ1 es (by omega) (by omega) hst he hel hO hF
  unfold wpX9_makeStatus
  rw [nI_clamp (n := i) (by omega), hS.g4, hS.g2]
  refine ⟨vin rfl hi (by decide), ?_⟩
  rintro _ rfl
  refine ⟨vin rfl hi (by decide), ?_⟩
  rintro _ rfl
  exact ⟨v 4 - v 2 + 2, L21 (v 4 - v 2) (v 2) τ [] (by omega) (Nat.le_refl _) rfl (by simp) (by show 2 + 0 ≤ room; omega) (fun j hj => absurd hj (Nat.not_lt_zero j)) (fun _ _ => rfl)⟩
