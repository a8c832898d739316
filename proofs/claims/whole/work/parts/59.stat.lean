/-! PURE: a STATUS comes, in the class -/
def aSum (pc : Nat → Pce) (a : Nat) : Nat → Nat
  | 0 => 0
  | m + 1 => aSum pc a m + nMk (pc (a + m))
theorem aSum_congr {pc pc' : Nat → Pce} {a : Nat} : ∀ m, (∀ x, a ≤ x → x < a + m → nMk (pc x) = nMk (pc' x)) → aSum pc a m = aSum pc' a m
  | 0, _ => rfl
  | m + 1, h => by
    unfold aSum
    rw [aSum_congr m (fun x h1 h2 => h x h1 (by omega)), h (a + m) (by omega) (by omega)]
theorem aSum_upd {pc : Nat → Pce} {a x : Nat} {q : Pce} : ∀ m, a ≤ x → x < a + m → aSum (spu pc x q) a m + nMk (pc x) = aSum pc a m + nMk q
  | 0, _, h => by omega
  | m + 1, h1, h2 => by
    unfold aSum
    by_cases e : x = a + m
    · subst e
      rw [spu_s, aSum_congr (pc' := pc) m (fun y y1 y2 => by rw [spu_o (by omega)])]
      omega
    · rw [spu_o (fun hh => e hh.symm)]
      have := aSum_upd (pc := pc) (q := q) m h1 (by omega)
      omega
theorem aSum_ge {pc : Nat → Pce} {a x : Nat} : ∀ m, a ≤ x → x < a + m → nMk (pc x) ≤ aSum pc a m
  | 0, _, h => by omega
  | m + 1, h1, h2 => by
    unfold aSum
    by_cases e : x = a + m
    · subst e
      omega
    · have := aSum_ge (pc := pc) m h1 (by omega)
      omega
theorem aSum_left {pc : Nat → Pce} {a : Nat} : ∀ m, aSum pc a (m + 1) = nMk (pc a) + aSum pc (a + 1) m
  | 0 => by simp [aSum]
  | m + 1 => by
    have := aSum_left (pc := pc) (a := a) m
    show aSum pc a (m + 1) + nMk (pc (a + (m + 1))) = nMk (pc a) + (aSum pc (a + 1) m + nMk (pc (a + 1 + m)))
    rw [this, show a + (m + 1) = a + 1 + m by omega]
    omega
theorem aSum_le {pc : Nat → Pce} {a : Nat} : ∀ m, (∀ x, a ≤ x → x < a + m → (pc x).1.length ≤ 240) → aSum pc a m ≤ 240 * m
  | 0, _ => Nat.le_refl _
  | m + 1, h => by
    unfold aSum
    have h1 := aSum_le (pc := pc) (a := a) m (fun x x1 x2 => h x x1 (by omega))
    have h2 := h (a + m) (by omega) (by omega)
    have h3 := nAg_le (pc (a + m))
    have h4 : nMk (pc (a + m)) ≤ nAg (pc (a + m)) := by unfold nMk; split <;> omega
    omega
/-- what holds of a sender's numbers and pieces -/
def SI (T : Nat) (v : Nat → Nat) (pc : Nat → Pce) : Prop := SvB v ∧ v 4 ≤ v 5 ∧ v 5 ≤ v 4 + 16 ∧ v 6 = aSum pc (v 4) (v 5 - v 4) ∧ ∀ x, v 4 ≤ x → x < v 5 → (pc x).1.length ≤ 240 ∧ (pc x).2.2.1 ≤ T
theorem nMk_f {q : Pce} (h : q.2.2.2 = false) : nMk q = nAg q := by unfold nMk; rw [h, if_neg (by decide)]
theorem nMk_t {q : Pce} (h : q.2.2.2 = true) : nMk q = 0 := by unfold nMk; rw [h, if_pos rfl]
theorem SI.cf {T x : Nat} {v : Nat → Nat} {pc : Nat → Pce} (h : SI T v pc) (h1 : v 4 ≤ x) (h2 : x < v 5) (hc : (pc x).2.2.2 = false) : nAg (pc x) ≤ v 6 ∧ SI T (vup v 6 (v 6 - nAg (pc x))) (spu pc x (cfQ (pc x))) := by
  obtain ⟨a, b, c, d, e⟩ := h
  have b6 := a 6 (by decide) (by decide)
  have hg := aSum_ge (pc := pc) (v 5 - v 4) h1 (by omega)
  rw [nMk_f hc, ← d] at hg
  refine ⟨hg, a.put (by omega), ?_, ?_, ?_, fun y y1 y2 => ?_⟩
  · rw [vup_o (by decide), vup_o (by decide)]; exact b
  · rw [vup_o (by decide), vup_o (by decide)]; exact c
  · rw [vup_s, vup_o (by decide), vup_o (by decide)]
    have hu := aSum_upd (pc := pc) (q := cfQ (pc x)) (v 5 - v 4) h1 (by omega)
    rw [nMk_f hc, nMk_t (q := cfQ (pc x)) rfl, ← d] at hu
    omega
  · rw [vup_o (by decide)] at y1 y2
    unfold spu
    split
    · next e1 => rw [← e1]; exact e y y1 y2
    · exact e y y1 y2
theorem nAg_br {q : Pce} {fr to : Nat} : nAg q ≤ nAg (brP q fr to) := cnt_orT _
theorem SI.br {T x fr to : Nat} {v : Nat → Nat} {pc : Nat → Pce} (h : SI T v pc) (h1 : v 4 ≤ x) (h2 : x < v 5) (hc : (pc x).2.2.2 = false) : SI (T + 1) (brV v (pc x) fr to) (spu pc x (brP (pc x) fr to)) := by
  obtain ⟨a, b, c, d, e⟩ := h
  have hge := nAg_br (q := pc x) (fr := fr) (to := to)
  have hu := aSum_upd (pc := pc) (q := brP (pc x) fr to) (v 5 - v 4) h1 (by omega)
  rw [nMk_f hc, nMk_f (q := brP (pc x) fr to) hc, ← d] at hu
  have hle : ∀ y, v 4 ≤ y → y < v 5 → (spu pc x (brP (pc x) fr to) y).1.length ≤ 240 ∧ (spu pc x (brP (pc x) fr to) y).2.2.1 ≤ T + 1 := fun y y1 y2 => by
    unfold spu
    split
    · have := e x h1 h2
      refine ⟨this.1, ?_⟩
      show (if nAg (pc x) = 0 then (pc x).2.2.1 + 1 else (pc x).2.2.1) ≤ T + 1
      split <;> omega
    · have := e y y1 y2
      exact ⟨this.1, by omega⟩
  have hs := aSum_le (pc := spu pc x (brP (pc x) fr to)) (a := v 4) (v 5 - v 4) (fun y y1 y2 => (hle y y1 (by omega)).1)
  have e45 : brV v (pc x) fr to 4 = v 4 ∧ brV v (pc x) fr to 5 = v 5 := by
    unfold brV
    rw [vup_o (by decide), vup_o (by decide)]
    split
    · rw [vup_o (by decide), vup_o (by decide)]; exact ⟨rfl, rfl⟩
    · exact ⟨rfl, rfl⟩
  have e6 : brV v (pc x) fr to 6 = v 6 + (nAg (brP (pc x) fr to) - nAg (pc x)) := vup_s
  refine ⟨?_, ?_, ?_, ?_, ?_⟩
  · unfold brV
    refine SvB.put ?_ (by omega)
    split
    · exact a.put (by split <;> decide)
    · exact a
  · rw [e45.1, e45.2]; exact b
  · rw [e45.1, e45.2]; exact c
  · rw [e45.1, e45.2, e6]; omega
  · rw [e45.1, e45.2]; exact hle
def enR (e : Ent) : Nat × Nat := match e.2 with
  | none => (0, 241)
  | some r => (r.1, r.2 + 1)
def stN1 (s : (Nat → Nat) × (Nat → Pce)) (e : Ent) : (Nat → Nat) × (Nat → Pce) := if s.1 4 ≤ e.1 ∧ e.1 < s.1 5 ∧ (s.2 e.1).2.2.2 = false then (brV s.1 (s.2 e.1) (enR e).1 (enR e).2, spu s.2 e.1 (brP (s.2 e.1) (enR e).1 (enR e).2)) else s
def stN : List Ent → (Nat → Nat) × (Nat → Pce) → (Nat → Nat) × (Nat → Pce)
  | [], s => s
  | e :: es, s => stN es (stN1 s e)
theorem brV_45 {v : Nat → Nat} {q : Pce} {fr to k : Nat} (h6 : k ≠ 6) (h8 : k ≠ 8) : brV v q fr to k = v k := by
  unfold brV
  rw [vup_o h6]
  split
  · rw [vup_o h8]
  · rfl
theorem stN1_k {s : (Nat → Nat) × (Nat → Pce)} {e : Ent} {k : Nat} (h6 : k ≠ 6) (h8 : k ≠ 8) : (stN1 s e).1 k = s.1 k := by
  unfold stN1
  split
  · exact brV_45 h6 h8
  · rfl
theorem stN_k {k : Nat} (h6 : k ≠ 6) (h8 : k ≠ 8) : ∀ (es : List Ent) (s : (Nat → Nat) × (Nat → Pce)), (stN es s).1 k = s.1 k
  | [], _ => rfl
  | e :: es, s => by
    show (stN es (stN1 s e)).1 k = _
    rw [stN_k h6 h8 es, stN1_k h6 h8]
theorem SI.n1 {T : Nat} {s : (Nat → Nat) × (Nat → Pce)} {e : Ent} (h : SI T s.1 s.2) : SI (T + 1) (stN1 s e).1 (stN1 s e).2 := by
  unfold stN1
  split
  · next hh => exact h.br hh.1 hh.2.1 hh.2.2
  · obtain ⟨a, b, c, d, e⟩ := h
    exact ⟨a, b, c, d, fun x x1 x2 => ⟨(e x x1 x2).1, Nat.le_succ_of_le (e x x1 x2).2⟩⟩
theorem SI.n {T : Nat} : ∀ (es : List Ent) (s : (Nat → Nat) × (Nat → Pce)), SI T s.1 s.2 → SI (T + es.length) (stN es s).1 (stN es s).2
  | [], _, h => h
  | e :: es, s, h => by
    have := SI.n es (stN1 s e) h.n1
    rw [List.length_cons, show T + (es.length + 1) = T + 1 + es.length by omega]
    exact this
theorem te7 {c a f0 ack A : Nat} {bk : Int32} {bs : List Int32} {es : List Ent} {Q : Sg → Prop} {σ0 : Sg} (hca : a + 1 < c ∨ c + 42 ≤ a) (hE : EnA bs f0 ack es) (hB : EsB A es) (hA0 : Air σ0 a bs) (hes : es.length < 2 ^ 10) : ∀ (r pre : List Ent) (σ : Sg) (T : Nat) (s : (Nat → Nat) × (Nat → Pce)), pre ++ r = es → s.1 4 = A → SnS σ c s.1 bk → SpsC σ c (s.1 4) (s.1 5) s.2 → SI T s.1 s.2 → T + r.length < 2 ^ 20 → (∀ d, d ≠ c → d < c + 10 ∨ c + 42 ≤ d → σ d = σ0 d) → (∀ σ' : Sg, SnS σ' c (stN r s).1 bk → SpsC σ' c (s.1 4) (s.1 5) (stN r s).2 → (∀ d, d ≠ c → d < c + 10 ∨ c + 42 ≤ d → σ' d = σ0 d) → Q σ') → wpX7_takeEntries_L7 Q (r.length + 1) c a (nI f0) (nI (f0 + 2 + (enL pre).length)) (nI pre.length) σ := by
  have hbs := hA0.2.1
  have hf0 := hE.1
  intro r
  induction r with
  | nil =>
    intro pre σ T s he h4 hS hP hI hT hF h
    rw [List.append_nil] at he
    subst he
    have hA : Air σ a bs := hA0.of (by rw [hF a (by omega) (by omega)]) (hF _ (by omega) (by omega))
    unfold wpX7_takeEntries_L7
    refine at_ok hA (by omega) ?_
    rw [hE.2.1]
    exact brt (nI_le (Nat.le_refl _) (by omega)) (h σ hS hP hF)
  | cons e r ih =>
    intro pre σ T s he h4 hS hP hI hT hF h
    have hI0 := hI
    obtain ⟨i1, i2, i3, i4, i5⟩ := hI
    have b4 := i1 4 (by decide) (by decide)
    have b5 := i1 5 (by decide) (by decide)
    have hA : Air σ a bs := hA0.of (by rw [hF a (by omega) (by omega)]) (hF _ (by omega) (by omega))
    have hel : es.length = pre.length + (r.length + 1) := by rw [← he]; simp
    have hmem : e ∈ es := by rw [← he]; simp
    obtain ⟨m1, m2, m3⟩ := hB e hmem
    obtain ⟨z1, z2, z3, z4⟩ := enB_0 (e := e)
    obtain ⟨a1, a2⟩ := hE.at' he z1
    rw [Nat.add_zero, z3] at a1
    rw [List.length_cons] at hT
    show wpX7_takeEntries_L7 Q (r.length + 1 + 1) c a (nI f0) (nI (f0 + 2 + (enL pre).length)) (nI pre.length) σ
    unfold wpX7_takeEntries_L7
    refine at_ok hA (by omega) ?_
    rw [hE.2.1]
    refine brf (nI_ge (by omega) (by omega)) (at_ok hA (by omega) ?_)
    rw [a1]
    unfold wpX7_meant
    rw [hS.1 4 (by decide) (by decide) (by decide) (by decide), meant2 (by split <;> simp) b4 (by omega) (by omega)]
    dsimp only
    refine at_ok hA (by omega) ?_
    rw [a1, nI_add]
    -- the next one
    have L121 : ∀ (σ1 : Sg) (z : Bool), z = decide (e.2 = none) → SnS σ1 c (stN1 s e).1 bk → SpsC σ1 c (s.1 4) (s.1 5) (stN1 s e).2 → (∀ d, d ≠ c → d < c + 10 ∨ c + 42 ≤ d → σ1 d = σ0 d) → wpX7_takeEntries_L121 Q (wpX7_takeEntries_L7 Q (r.length + 1)) c a (nI f0) (nI (f0 + 2 + (enL pre).length)) (nI pre.length) (b01 z) σ1 := by
      intro σ1 z hz k1 k2 k3
      have go : ∀ n : Nat, n = (enB e).length → wpX7_takeEntries_L132 Q (wpX7_takeEntries_L7 Q (r.length + 1)) c a (nI f0) (nI pre.length) (nI n) (nI (f0 + 2 + (enL pre).length)) σ1 := by
        intro n hn
        unfold wpX7_takeEntries_L132
        rintro _ rfl _ rfl
        rw [nI_add, nI_1]
        have e4 : (stN1 s e).1 4 = s.1 4 := stN1_k (by decide) (by decide)
        have e5 : (stN1 s e).1 5 = s.1 5 := stN1_k (by decide) (by decide)
        have := ih (pre ++ [e]) σ1 (T + 1) (stN1 s e) (by rw [List.append_assoc]; exact he) (by rw [e4]; exact h4) k1 (by rw [e4, e5]; exact k2) hI0.n1 (by omega) k3 (fun σ' q1 q2 q3 => h σ' q1 (by rw [e4, e5] at q2; exact q2) q3)
        rw [enL_app, List.length_append, List.length_append, show (enL [e]).length = (enB e).length from by show (enB e ++ []).length = _; rw [List.append_nil]] at this
        rw [hn, Nat.add_assoc (f0 + 2)]
        exact this
      unfold wpX7_takeEntries_L121
      refine br01 (fun ez => ?_) (fun ez => ?_)
      · rw [hz] at ez
        rw [if_neg (of_decide_eq_false ez)] at z4
        exact go 3 z4.symm
      · rw [hz] at ez
        rw [if_pos (of_decide_eq_true ez)] at z4
        exact go 1 z4.symm
    have L44 : ∀ z : Bool, z = decide (e.2 = none) → wpX7_takeEntries_L44 Q (wpX7_takeEntries_L7 Q (r.length + 1)) c a (nI f0) (nI (f0 + 2 + (enL pre).length)) (nI pre.length) (nI (if s.1 4 ≤ e.1 then e.1 else e.1 + 64)) (b01 z) σ := by
      intro z hz
      have skip : ¬ (s.1 4 ≤ e.1 ∧ e.1 < s.1 5 ∧ (s.2 e.1).2.2.2 = false) → wpX7_takeEntries_L121 Q (wpX7_takeEntries_L7 Q (r.length + 1)) c a (nI f0) (nI (f0 + 2 + (enL pre).length)) (nI pre.length) (b01 z) σ := by
        intro hh
        have es1 : stN1 s e = s := by unfold stN1; rw [if_neg hh]
        exact L121 σ z hz (by rw [es1]; exact hS) (by rw [es1]; exact hP) hF
      unfold wpX7_takeEntries_L44
      rw [hS.1 5 (by decide) (by decide) (by decide) (by decide)]
      by_cases hx : s.1 4 ≤ e.1
      · rw [if_pos hx]
        refine pk_le (s.1 5) e.1 (fun h9 => skip (by omega)) (fun h9 => ?_)
        unfold wpX7_pieceAt
        rw [a15 (by omega), nI_clamp (by omega)]
        refine ⟨vin rfl (by omega) (by decide), ?_⟩
        rintro _ rfl
        have hq := hP e.1 hx h9
        rw [hq.2.1]
        refine br01' (fun ec => ?_) (fun ec => skip (fun hh => by rw [hh.2.2] at ec; cases ec))
        have est : stN1 s e = (brV s.1 (s.2 e.1) (enR e).1 (enR e).2, spu s.2 e.1 (brP (s.2 e.1) (enR e).1 (enR e).2)) := by unfold stN1; rw [if_pos ⟨hx, h9, ec⟩]
        have ht := (i5 e.1 hx h9).2
        have L103 : ∀ fr to : Nat, (fr, to + 1) = enR e → fr < 2 ^ 10 → to < 2 ^ 10 → wpX7_takeEntries_L103 Q (wpX7_takeEntries_L7 Q (r.length + 1)) c a (nI f0) (nI (f0 + 2 + (enL pre).length)) (nI pre.length) (nI e.1) (b01 z) (nI fr) (nI to) σ := by
          intro fr to hft hfr hto
          unfold wpX7_takeEntries_L103 wpX7_pieceAt
          rw [a15 (by omega), nI_clamp (by omega)]
          refine ⟨vin rfl (by omega) (by decide), ?_⟩
          rintro _ rfl
          rw [nI_1]
          refine bringAgain_ok hS i1 hq ec (by omega) (by omega) (by omega) (by omega) (fun σ2 g1 g2 g3 g4 => L121 σ2 z hz ?_ ?_ (fun d d1 d2 => by rw [g4 d d1 (by omega) (by omega), hF d d1 d2]))
          · rw [est, ← hft]; exact g1
          · rw [est, ← hft]
            exact hP.upd i3 hx h9 g2 (fun d d1 d2 d3 d4 => g4 d (by omega) d3 d4)
        refine br01 (fun ez => ?_) (fun ez => ?_)
        · rw [hz] at ez
          have ez := of_decide_eq_false ez
          obtain ⟨rr, hrr⟩ : ∃ rr, e.2 = some rr := by
            cases h2 : e.2 with
            | none => exact absurd h2 ez
            | some rr => exact ⟨rr, rfl⟩
          have hb3 : enB e = [nI (e.1 % 64) + 128, nI rr.1, nI rr.2] := by unfold enB; rw [hrr]
          obtain ⟨t1, -⟩ := hE.at' (t := 1) he (by rw [hb3]; exact (by decide : 1 < 3))
          obtain ⟨t2, -⟩ := hE.at' (t := 2) he (by rw [hb3]; exact (by decide : 2 < 3))
          rw [hb3] at t1 t2
          have t1 : bs.getD (f0 + 2 + (enL pre).length + 1) 0 = nI rr.1 := t1
          have t2 : bs.getD (f0 + 2 + (enL pre).length + 2) 0 = nI rr.2 := t2
          rw [nI_1]
          refine at_ok hA (by omega) ?_
          rw [t1]
          unfold wpX7_takeEntries_L83
          have ez0 : z = false := by rw [hz]; exact decide_eq_false ez
          rw [ez0]
          refine brt rfl ?_
          have e2 : nI (f0 + 2 + (enL pre).length) + 2 = nI (f0 + 2 + (enL pre).length + 2) := nI_add _ 2
          rw [e2]
          refine at_ok hA (by omega) ?_
          rw [t2]
          have := L103 rr.1 rr.2 (by unfold enR; rw [hrr]) (m3 rr hrr).1 (m3 rr hrr).2
          rw [ez0] at this
          exact this
        · unfold wpX7_takeEntries_L83
          rw [ez]
          refine brf (by decide) ?_
          have en : e.2 = none := by rw [hz] at ez; exact of_decide_eq_true ez
          have := L103 0 240 (by unfold enR; rw [en]) (by decide) (by decide)
          rw [ez] at this
          exact this
      · rw [if_neg hx]
        exact pk_le (s.1 5) (e.1 + 64) (fun h9 => skip (fun hh => hx hh.1)) (fun h9 => by omega)
    by_cases eo : e.2 = none
    · have := L44 true (decide_eq_true eo).symm
      rw [if_pos eo]
      exact brf (nI_ge (a := e.1 % 64 + 0) (b := 128) (by omega) (by decide)) this
    · have := L44 false (decide_eq_false eo).symm
      rw [if_neg eo]
      exact brt (nI_le (a := 128) (by omega) (by omega)) this
theorem takeEntries_ok {σ : Sg} {c a f0 ack T : Nat} {v : Nat → Nat} {pc : Nat → Pce} {bk : Int32} {bs : List Int32} {es : List Ent} {Q : Sg → Prop} (hca : a + 1 < c ∨ c + 42 ≤ a) (hE : EnA bs f0 ack es) (hB : EsB (v 4) es) (hA : Air σ a bs) (hes : es.length < 2 ^ 10) (hS : SnS σ c v bk) (hP : SpsC σ c (v 4) (v 5) pc) (hI : SI T v pc) (hT : T + es.length < 2 ^ 20) (h : ∀ σ' : Sg, SnS σ' c (stN es (v, pc)).1 bk → SpsC σ' c (v 4) (v 5) (stN es (v, pc)).2 → (∀ d, d ≠ c → d < c + 10 ∨ c + 42 ≤ d → σ' d = σ d) → Q σ') : wpX7_takeEntries c a (nI f0) σ Q := by
  unfold wpX7_takeEntries
  have e2 : nI f0 + 2 = nI (f0 + 2) := nI_add f0 2
  rw [e2]
  rintro _ rfl
  exact ⟨es.length + 1, te7 hca hE hB hA hes es [] σ T (v, pc) rfl rfl hS hP hI hT (fun _ _ _ => rfl) h⟩
abbrev Sst : Type := (Nat → Nat) × (Nat → Pce) × (Nat → Un) × Wt
def stK1 (s : Sst) (x : Nat) : Sst := (vup s.1 6 (s.1 6 - nAg (s.2.1 x)), spu s.2.1 x (cfQ (s.2.1 x)), cfO s.2.2 (s.2.1 x).1)
theorem stK1_k {s : Sst} {x k : Nat} (h : k ≠ 6) : (stK1 s x).1 k = s.1 k := by
  unfold stK1
  exact vup_o h
def stK (es : List Ent) : Nat → Nat → Sst → Sst
  | 0, _, s => s
  | m + 1, x, s => stK es m (x + 1) (if nmd es x = false ∧ (s.2.1 x).2.2.2 = false then stK1 s x else s)
theorem stK_k {es : List Ent} {k : Nat} (h6 : k ≠ 6) : ∀ (m x : Nat) (s : Sst), (stK es m x s).1 k = s.1 k
  | 0, _, _ => rfl
  | m + 1, x, s => by
    unfold stK
    rw [stK_k h6 m]
    split
    · exact vup_o h6
    · rfl
theorem SI.k {T : Nat} {es : List Ent} : ∀ (m x : Nat) (s : Sst), s.1 4 ≤ x → x + m ≤ s.1 5 → SI T s.1 s.2.1 → SI T (stK es m x s).1 (stK es m x s).2.1
  | 0, _, _, _, _, h => h
  | m + 1, x, s, h1, h2, h => by
    unfold stK
    split
    · next hh =>
      have e4 : (stK1 s x).1 4 = s.1 4 := stK1_k (by decide)
      have e5 : (stK1 s x).1 5 = s.1 5 := stK1_k (by decide)
      exact SI.k m (x + 1) (stK1 s x) (by omega) (by omega) (h.cf h1 (by omega) hh.2).2
    · exact SI.k m (x + 1) s (by omega) (by omega) h
theorem obV_stK {es : List Ent} {nc : Nat} : ∀ (m x : Nat) (s : Sst), ObV nc s.2.2.1 s.2.2.2 → ObV nc (stK es m x s).2.2.1 (stK es m x s).2.2.2
  | 0, _, _, h => h
  | m + 1, x, s, h => by
    unfold stK
    refine obV_stK m (x + 1) _ ?_
    split
    · exact obV_cfO _ _ h
    · exact h
theorem obK_stK {es : List Ent} {ks : Nat → Nat → Int32} : ∀ (m x : Nat) (s : Sst), ObK ks s.2.2.1 s.2.2.2 → ObK ks (stK es m x s).2.2.1 (stK es m x s).2.2.2
  | 0, _, _, h => h
  | m + 1, x, s, h => by
    unfold stK
    refine obK_stK m (x + 1) _ ?_
    split
    · exact obK_cfO _ _ h
    · exact h
def upA (pc : Nat → Pce) (S : Nat) : Nat → Nat → Nat
  | 0, a => a
  | m + 1, a => if a < S ∧ (pc a).2.2.2 = true then upA pc S m (a + 1) else a
theorem upA_spec {pc : Nat → Pce} {S : Nat} : ∀ (m a : Nat), a ≤ S → a ≤ upA pc S m a ∧ upA pc S m a ≤ S ∧ (∀ x, a ≤ x → x < upA pc S m a → (pc x).2.2.2 = true) ∧ (S ≤ a + m → upA pc S m a < S → (pc (upA pc S m a)).2.2.2 = false)
  | 0, a, h => ⟨Nat.le_refl _, h, fun x h1 h2 => by unfold upA at h2; omega, fun h1 h2 => by unfold upA at h2; omega⟩
  | m + 1, a, h => by
    unfold upA
    by_cases e : a < S ∧ (pc a).2.2.2 = true
    · rw [if_pos e]
      obtain ⟨h1, h2, h3, h4⟩ := upA_spec m (a + 1) e.1
      refine ⟨by omega, h2, fun x x1 x2 => ?_, fun h5 h6 => h4 (by omega) h6⟩
      by_cases ex : x = a
      · rw [ex]; exact e.2
      · exact h3 x (by omega) x2
    · rw [if_neg e]
      refine ⟨Nat.le_refl _, h, fun x h1 h2 => by omega, fun _ h6 => ?_⟩
      cases hc : (pc a).2.2.2 with
      | true => exact absurd ⟨h6, hc⟩ e
      | false => rfl
def pt0 (ack : Nat) (v : Nat → Nat) : Nat → Nat := if ack + 1 ≤ v 9 then v else vup v 10 0
def stM3 (ack : Nat) (uw : (Nat → Un) × Wt) (s : (Nat → Nat) × (Nat → Pce)) : Sst := (pt0 ack (vup s.1 4 (upA s.2 (s.1 5) 16 (s.1 4))), s.2, uw)
def stM2 (ack : Nat) (es : List Ent) (s : Sst) : Sst := stM3 ack s.2.2 (stN es (s.1, s.2.1))
def stM (ack : Nat) (es : List Ent) (s : Sst) : Sst := stM2 ack es (stK es (ack - s.1 4) (s.1 4) (vup s.1 14 (s.1 14 + 1), s.2))
def stF (ack : Nat) (es : List Ent) (s : Sst) : Sst := if ack < s.1 4 then (vup s.1 14 (s.1 14 + 1), s.2) else stM ack es s
theorem ts94 {c ack S A0 : Nat} {bk : Int32} {pc : Nat → Pce} {Q : Sg → Prop} (hack : ack < 2 ^ 20) : ∀ (m i : Nat) (σ : Sg) (v : Nat → Nat), i + m = 16 → v 4 = A0 + i → v 4 ≤ v 5 → v 5 ≤ A0 + 16 → SvB v → SnS σ c v bk → SpsC σ c (v 4) (v 5) pc → v 5 = S → (∀ σ' : Sg, SnS σ' c (pt0 ack (vup v 4 (upA pc S m (v 4)))) bk → SpsC σ' c (upA pc S m (v 4)) S pc → FrS c σ σ' → Q σ') → wpX7_takeStatus_L94 Q (m + 1) c (nI ack) (nI i) σ := by
  intro m
  induction m with
  | zero =>
    intro i σ v hi h4 h45 h16 hb hS hP h5 h
    subst h5
    have ev : vup v 4 (upA pc (v 5) 0 (v 4)) = v := by
      funext j
      unfold vup
      split
      · next e => rw [e]; rfl
      · rfl
    rw [ev] at h
    have b9 := hb 9 (by decide) (by decide)
    have fin : wpX7_takeStatus_L142 Q c (nI ack) σ := by
      unfold wpX7_takeStatus_L142
      rw [hS.2.1]
      unfold pt0 at h
      cases e9 : v 9 with
      | zero =>
        rw [e9, if_neg (by omega)] at h
        refine brf (fun hh => ?_) ?_
        · have h1 := nI_pos' (n := ack) (by omega)
          have h2 : (0 : Int32) ≤ nI 0 - 1 := Int32.le_trans h1 hh
          exact absurd h2 (by decide)
        · rintro _ rfl
          exact h _ (hS.put (k := 10) (x := 0) (by decide) (by decide)) (hP.of (fun d d1 d2 => up2_o (by omega))) (fun d hd => up2_o hd)
      | succ p =>
        rw [e9] at h b9
        rw [nI_pred]
        refine pk_le ack p (fun hh => ?_) (fun hh => ?_)
        · rw [if_pos (by omega)] at h
          exact h σ hS hP (fun _ _ => rfl)
        · rw [if_neg (by omega)] at h
          rintro _ rfl
          exact h _ (hS.put (k := 10) (x := 0) (by decide) (by decide)) (hP.of (fun d d1 d2 => up2_o (by omega))) (fun d hd => up2_o hd)
    unfold wpX7_takeStatus_L94
    exact pk_le 16 i (fun _ => fin) (fun hh => by omega)
  | succ m ih =>
    intro i σ v hi h4 h45 h16 hb hS hP h5 h
    subst h5
    have b4 := hb 4 (by decide) (by decide)
    have b5 := hb 5 (by decide) (by decide)
    have b9 := hb 9 (by decide) (by decide)
    have fin : upA pc (v 5) (m + 1) (v 4) = v 4 → wpX7_takeStatus_L142 Q c (nI ack) σ := by
      intro eu
      have ev : vup v 4 (upA pc (v 5) (m + 1) (v 4)) = v := by
        rw [eu]
        funext j
        unfold vup
        split
        · next e => rw [e]
        · rfl
      rw [ev, eu] at h
      unfold wpX7_takeStatus_L142
      rw [hS.2.1]
      unfold pt0 at h
      cases e9 : v 9 with
      | zero =>
        rw [e9, if_neg (by omega)] at h
        refine brf (fun hh => ?_) ?_
        · have h1 := nI_pos' (n := ack) (by omega)
          have h2 : (0 : Int32) ≤ nI 0 - 1 := Int32.le_trans h1 hh
          exact absurd h2 (by decide)
        · rintro _ rfl
          exact h _ (hS.put (k := 10) (x := 0) (by decide) (by decide)) (hP.of (fun d d1 d2 => up2_o (by omega))) (fun d hd => up2_o hd)
      | succ p =>
        rw [e9] at h b9
        rw [nI_pred]
        refine pk_le ack p (fun hh => ?_) (fun hh => ?_)
        · rw [if_pos (by omega)] at h
          exact h σ hS hP (fun _ _ => rfl)
        · rw [if_neg (by omega)] at h
          rintro _ rfl
          exact h _ (hS.put (k := 10) (x := 0) (by decide) (by decide)) (hP.of (fun d d1 d2 => up2_o (by omega))) (fun d hd => up2_o hd)
    unfold wpX7_takeStatus_L94
    rw [hS.1 5 (by decide) (by decide) (by decide) (by decide), hS.1 4 (by decide) (by decide) (by decide) (by decide)]
    refine pk_le 16 i (fun hh => by omega) (fun _ => pk_le (v 5) (v 4) (fun hh => fin ?_) (fun hh => ?_))
    · unfold upA
      rw [if_neg (by omega)]
    · unfold wpX7_pieceAt
      rw [a15 (by omega), nI_clamp (by omega)]
      refine ⟨vin rfl (by omega) (by decide), ?_⟩
      rintro _ rfl
      rw [(hP (v 4) (Nat.le_refl _) hh).2.1]
      refine br01 (fun e => fin ?_) (fun e => ?_)
      · unfold upA
        rw [if_neg (fun h9 => by rw [e] at h9; cases h9.2)]
      · have eu : upA pc (v 5) (m + 1) (v 4) = upA pc (v 5) m (v 4 + 1) := by
          rw [upA, if_pos ⟨hh, e⟩]
        rw [eu] at h
        rintro _ rfl _ rfl
        rw [hS.1 4 (by decide) (by decide) (by decide) (by decide), nI_1, nI_1]
        have o4 : vup v 4 (v 4 + 1) 4 = v 4 + 1 := vup_s
        have o5 : vup v 4 (v 4 + 1) 5 = v 5 := vup_o (by decide)
        refine ih (i + 1) _ (vup v 4 (v 4 + 1)) (by omega) (by omega) (by omega) (by omega) (hb.put (by omega)) (hS.put (by decide) (by decide)) ?_ o5 (fun σ' g1 g2 g3 => h σ' ?_ ?_ (fun d hd => by rw [g3 d hd, up2_o hd]))
        · rw [o4, o5]
          intro x x1 x2
          exact (hP.of (σ' := up2 σ c 4 (nI (v 4 + 1))) (fun d d1 d2 => up2_o (by omega))) x (by omega) x2
        · rw [o4] at g1
          have ev : vup (vup v 4 (v 4 + 1)) 4 (upA pc (v 5) m (v 4 + 1)) = vup v 4 (upA pc (v 5) m (v 4 + 1)) := by
            funext j
            unfold vup
            split <;> rfl
          rw [ev] at g1
          exact g1
        · rw [o4] at g2
          exact g2
theorem ts43 {c a f0 ack mk nc : Nat} {bk : Int32} {bs : List Int32} {es : List Ent} {T : Nat} {Q : Sg → Prop} {σ0 : Sg} (hca : a + 1 < c ∨ c + 42 ≤ a) (hA0 : Air σ0 a bs) (hack : ack < 2 ^ 20) : ∀ (m x : Nat) (σ : Sg) (s : Sst), x + m = ack → s.1 4 ≤ x → ack ≤ s.1 5 → SnS σ c s.1 bk → SpsC σ c (s.1 4) (s.1 5) s.2.1 → SI T s.1 s.2.1 → ObC σ (c + 2) mk nc s.2.2.1 s.2.2.2 → ObV nc s.2.2.1 s.2.2.2 → (∀ k, s.1 4 ≤ k → k < s.1 5 → σ (c + 10 + 2 * (k % 16)) 5 = b01 (nmd es k)) → (∀ d, d < c ∨ c + 42 ≤ d → σ d = σ0 d) → (∀ σ' : Sg, SnS σ' c (stK es m x s).1 bk → SpsC σ' c (s.1 4) (s.1 5) (stK es m x s).2.1 → ObC σ' (c + 2) mk nc (stK es m x s).2.2.1 (stK es m x s).2.2.2 → (∀ d, d < c ∨ c + 42 ≤ d → σ' d = σ0 d) → wpX7_takeEntries c a (nI f0) σ' (fun σ8 => ∃ nn, wpX7_takeStatus_L94 Q nn c (nI ack) 0 σ8)) → wpX7_takeStatus_L43 Q (m + 1) c a (nI f0) (nI ack) (nI x) σ := by
  intro m
  induction m with
  | zero =>
    intro x σ s hx h4 h5 hS hP hI hC hV hn hF h
    unfold wpX7_takeStatus_L43
    exact brt (nI_le (by omega) (by omega)) (h σ hS hP hC hF)
  | succ m ih =>
    intro x σ s hx h4 h5 hS hP hI hC hV hn hF h
    have b5 := hI.1 5 (by decide) (by decide)
    unfold wpX7_takeStatus_L43
    refine brf (nI_ge (by omega) (by omega)) ?_
    unfold wpX7_pieceAt
    rw [a15 (by omega), nI_clamp (by omega)]
    refine ⟨vin rfl (by omega) (by decide), ?_⟩
    rintro _ rfl
    have hq := hP x h4 (by omega)
    rw [hn x h4 (by omega), hq.2.1]
    have skip : ¬ (nmd es x = false ∧ (s.2.1 x).2.2.2 = false) → wpX7_takeStatus_L79 Q (wpX7_takeStatus_L43 Q (m + 1)) c a (nI f0) (nI ack) (nI x) σ := by
      intro hh
      unfold wpX7_takeStatus_L79
      rintro _ rfl
      rw [nI_1]
      rw [stK, if_neg hh] at h
      exact ih (x + 1) σ s (by omega) (by omega) h5 hS hP hI hC hV hn hF h
    refine br01' (fun en => br01' (fun ec => ?_) (fun ec => skip (fun hh => by rw [hh.2] at ec; cases ec))) (fun en => skip (fun hh => by rw [hh.1] at en; cases en))
    obtain ⟨c1, c2⟩ := hI.cf h4 (by omega) ec
    refine confirm_ok hS hq ec c1 hC hV (by omega) (fun σ1 g1 g2 g3 g4 g5 => ?_)
    unfold wpX7_takeStatus_L79
    rintro _ rfl
    rw [nI_1]
    rw [stK, if_pos ⟨en, ec⟩] at h
    have o4 : (stK1 s x).1 4 = s.1 4 := stK1_k (by decide)
    have o5 : (stK1 s x).1 5 = s.1 5 := stK1_k (by decide)
    refine ih (x + 1) σ1 (stK1 s x) (by omega) (by omega) (by omega) g1 ?_ c2 g4 (obV_cfO _ _ hV) (fun k k1 k2 => ?_) (fun d hd => by rw [g5 d (by omega) (by omega) (by omega), hF d hd]) (fun σ' q1 q2 q3 q4 => h σ' q1 (by rw [o4, o5] at q2; exact q2) q3 q4)
    · rw [o4, o5]
      exact hP.upd hI.2.2.1 h4 (by omega) g2 (fun d d1 d2 d3 d4 => g5 d (by omega) d3 (by omega))
    · rw [o4] at k1
      rw [o5] at k2
      by_cases e : k = x
      · subst e
        rw [g3]
        exact hn k k1 k2
      · have := hI.2.2.1
        have hne : k % 16 ≠ x % 16 := by omega
        rw [g5 _ (by omega) (by omega) (by omega)]
        exact hn k k1 k2
theorem takeStatus_ok {σ : Sg} {c a f0 ack mk nc T : Nat} {bk : Int32} {bs : List Int32} {es : List Ent} {s : Sst} {Q : Sg → Prop} (hca : a + 1 < c ∨ c + 42 ≤ a) (hA : Air σ a bs) (hE : EnA bs f0 ack es) (hB : EsB (s.1 4) es) (hes : es.length < 2 ^ 10) (hk1 : s.1 4 ≤ ack + 47) (hk2 : ack ≤ s.1 5) (hS : SnS σ c s.1 bk) (hP : SpsC σ c (s.1 4) (s.1 5) s.2.1) (hI : SI T s.1 s.2.1) (hT : T + es.length < 2 ^ 20) (hC : ObC σ (c + 2) mk nc s.2.2.1 s.2.2.2) (hV : ObV nc s.2.2.1 s.2.2.2) (h : ∀ σ' : Sg, SnS σ' c (stF ack es s).1 bk → SpsC σ' c ((stF ack es s).1 4) ((stF ack es s).1 5) (stF ack es s).2.1 → ObC σ' (c + 2) mk nc (stF ack es s).2.2.1 (stF ack es s).2.2.2 → (∀ d, d < c ∨ c + 42 ≤ d → σ' d = σ d) → Q σ') : wpX7_takeStatus c a (nI f0) σ Q := by
  have hb := hI.1
  have b4 := hb 4 (by decide) (by decide)
  have b5 := hb 5 (by decide) (by decide)
  have h45 := hI.2.1
  have h16 := hI.2.2.1
  have hbs := hA.2.1
  have hf0 := hE.1
  unfold wpX7_takeStatus
  rw [hS.1 14 (by decide) (by decide) (by decide) (by decide), nI_1]
  rintro _ rfl
  have hS1 := hS.put (k := 14) (x := s.1 14 + 1) (by decide) (by decide)
  have o4 : vup s.1 14 (s.1 14 + 1) 4 = s.1 4 := vup_o (by decide)
  have o5 : vup s.1 14 (s.1 14 + 1) 5 = s.1 5 := vup_o (by decide)
  have hF1 : FrS c σ (up2 σ c 14 (nI (s.1 14 + 1))) := fun d hd => up2_o hd
  have hA1 : Air (up2 σ c 14 (nI (s.1 14 + 1))) a bs := hA.of (by rw [hF1 a (by omega)]) (hF1 _ (by omega))
  rw [nI_1]
  refine at_ok hA1 (by omega) ?_
  rw [hE.2.2.1]
  unfold wpX7_meant
  rw [hS1.1 4 (by decide) (by decide) (by decide) (by decide), o4]
  have hm := meant2 (x := ack) (A := s.1 4) (e := 0) (Or.inl rfl) b4 (by omega) (by omega)
  have e0 : nI (ack % 64) + nI 0 = nI (ack % 64) := by rw [nI_add]; rfl
  rw [e0] at hm
  rw [hm]
  dsimp only
  rw [hS1.1 5 (by decide) (by decide) (by decide) (by decide), o5]
  have hP1 : SpsC (up2 σ c 14 (nI (s.1 14 + 1))) c (s.1 4) (s.1 5) s.2.1 := hP.of (fun d d1 d2 => hF1 d (by omega))
  have hC1 : ObC (up2 σ c 14 (nI (s.1 14 + 1))) (c + 2) mk nc s.2.2.1 s.2.2.2 := hC.of (fun d d1 d2 => hF1 d (by omega))
  have hI1 : SI T (vup s.1 14 (s.1 14 + 1)) s.2.1 := by
    obtain ⟨i1, i2, i3, i4, i5⟩ := hI
    refine ⟨i1.putc (by decide), ?_, ?_, ?_, ?_⟩
    · rw [o4, o5]; exact i2
    · rw [o4, o5]; exact i3
    · rw [o4, o5, vup_o (by decide)]; exact i4
    · rw [o4, o5]; exact i5
  by_cases hx : s.1 4 ≤ ack
  · rw [if_pos hx]
    have ef : stF ack es s = stM ack es s := if_neg (by omega)
    rw [ef] at h
    refine pk_le ack (s.1 5) (fun _ => ?_) (fun hh => by omega)
    refine nameEntries_ok hS1 (hb.putc (by decide)) (by rw [o4, o5]; exact h45) (by rw [o4, o5]; exact h16) hca hE (by rw [o4]; exact hB) hA1 hes (fun σ2 g1 g2 => ?_)
    rw [o4, o5] at g1
    have hd2 : ∀ d, (∀ y, d ≠ c + 10 + 2 * (y % 16)) → σ2 d = up2 σ c 14 (nI (s.1 14 + 1)) d := fun d hd => funext fun k => g2 d k (Or.inr hd)
    have hS2 : SnS σ2 c (vup s.1 14 (s.1 14 + 1)) bk := hS1.of (hd2 c (fun y => by omega))
    rw [hS2.1 4 (by decide) (by decide) (by decide) (by decide), o4]
    rintro _ rfl
    have hP2 : SpsC σ2 c (s.1 4) (s.1 5) s.2.1 := fun x x1 x2 => (hP1 x x1 x2).of (fun k hk => g2 _ k (Or.inl hk)) (hd2 _ (fun y => by omega))
    have hC2 : ObC σ2 (c + 2) mk nc s.2.2.1 s.2.2.2 := hC1.of (fun d d1 d2 => hd2 d (fun y => by omega))
    have hF2 : ∀ d, d < c ∨ c + 42 ≤ d → σ2 d = σ d := fun d hd => by rw [hd2 d (fun y => by omega), hF1 d (by omega)]
    have hA2 : Air σ2 a bs := hA.of (by rw [hF2 a (by omega)]) (hF2 _ (by omega))
    refine ⟨ack - s.1 4 + 1, ts43 (T := T) (σ0 := σ2) (mk := mk) (nc := nc) (bk := bk) (es := es) hca hA2 (by omega) (ack - s.1 4) (s.1 4) σ2 (vup s.1 14 (s.1 14 + 1), s.2) (by omega) (by show vup s.1 14 (s.1 14 + 1) 4 ≤ _; rw [o4]; exact Nat.le_refl _) (by show _ ≤ vup s.1 14 (s.1 14 + 1) 5; rw [o5]; exact hk2) hS2 (by show SpsC σ2 c (vup s.1 14 (s.1 14 + 1) 4) (vup s.1 14 (s.1 14 + 1) 5) s.2.1; rw [o4, o5]; exact hP2) hI1 hC2 hV (by show ∀ k, vup s.1 14 (s.1 14 + 1) 4 ≤ k → k < vup s.1 14 (s.1 14 + 1) 5 → _; rw [o4, o5]; exact g1) (fun _ _ => rfl) (fun σ3 k1 k2 k3 k4 => ?_)⟩
    have hIk : SI T (stK es (ack - s.1 4) (s.1 4) (vup s.1 14 (s.1 14 + 1), s.2)).1 (stK es (ack - s.1 4) (s.1 4) (vup s.1 14 (s.1 14 + 1), s.2)).2.1 := SI.k (ack - s.1 4) (s.1 4) (vup s.1 14 (s.1 14 + 1), s.2) (by show vup s.1 14 (s.1 14 + 1) 4 ≤ _; rw [o4]; exact Nat.le_refl _) (by show _ ≤ vup s.1 14 (s.1 14 + 1) 5; rw [o5]; omega) hI1
    have q4 : (stK es (ack - s.1 4) (s.1 4) (vup s.1 14 (s.1 14 + 1), s.2)).1 4 = s.1 4 := by rw [stK_k (by decide)]; exact o4
    have q5 : (stK es (ack - s.1 4) (s.1 4) (vup s.1 14 (s.1 14 + 1), s.2)).1 5 = s.1 5 := by rw [stK_k (by decide)]; exact o5
    have k2 : SpsC σ3 c (s.1 4) (s.1 5) (stK es (ack - s.1 4) (s.1 4) (vup s.1 14 (s.1 14 + 1), s.2)).2.1 := by
      have k2 : SpsC σ3 c (vup s.1 14 (s.1 14 + 1) 4) (vup s.1 14 (s.1 14 + 1) 5) (stK es (ack - s.1 4) (s.1 4) (vup s.1 14 (s.1 14 + 1), s.2)).2.1 := k2
      rw [o4, o5] at k2
      exact k2
    unfold stM at h
    generalize stK es (ack - s.1 4) (s.1 4) (vup s.1 14 (s.1 14 + 1), s.2) = s1 at *
    unfold stM2 at h
    have hA3 : Air σ3 a bs := hA2.of (by rw [k4 a (by omega)]) (k4 _ (by omega))
    refine takeEntries_ok (v := s1.1) (pc := s1.2.1) hca hE (by rw [q4]; exact hB) hA3 hes k1 (by rw [q4, q5]; exact k2) hIk hT (fun σ4 j1 j2 j3 => ?_)
    have hIn := SI.n es (s1.1, s1.2.1) hIk
    have n4 : (stN es (s1.1, s1.2.1)).1 4 = s.1 4 := by rw [stN_k (by decide) (by decide)]; exact q4
    have n5 : (stN es (s1.1, s1.2.1)).1 5 = s.1 5 := by rw [stN_k (by decide) (by decide)]; exact q5
    rw [q4, q5] at j2
    have hC4 : ObC σ4 (c + 2) mk nc s1.2.2.1 s1.2.2.2 := k3.of (fun d d1 d2 => j3 d (by omega) (by omega))
    generalize stN es (s1.1, s1.2.1) = s2 at *
    refine ⟨17, ts94 (A0 := s.1 4) (S := s.1 5) (pc := s2.2) (by omega) 16 0 σ4 s2.1 rfl (by rw [n4]; rfl) (by omega) (by omega) hIn.1 j1 (by rw [n4, n5]; exact j2) n5 (fun σ5 p1 p2 p3 => h σ5 ?_ ?_ ?_ (fun d hd => ?_))⟩
    · unfold stM3
      rw [n5]
      exact p1
    · have e4 : (stM3 ack s1.2.2 s2).1 4 = upA s2.2 (s.1 5) 16 (s2.1 4) := by
        show pt0 ack _ 4 = _
        unfold pt0
        rw [n5]
        split
        · exact vup_s
        · rw [vup_o (by decide)]; exact vup_s
      have e5 : (stM3 ack s1.2.2 s2).1 5 = s.1 5 := by
        show pt0 ack _ 5 = _
        unfold pt0
        split
        · rw [vup_o (by decide)]; exact n5
        · rw [vup_o (by decide), vup_o (by decide)]; exact n5
      rw [e4, e5]
      exact p2
    · exact hC4.of (fun d d1 d2 => p3 d (by omega))
    · rw [p3 d (by omega), j3 d (by omega) (by omega), k4 d hd, hF2 d hd]
  · rw [if_neg hx]
    have ef : stF ack es s = (vup s.1 14 (s.1 14 + 1), s.2) := if_pos (by omega)
    rw [ef] at h
    refine pk_le (ack + 64) (s.1 5) (fun hh => by omega) (fun _ => h _ hS1 ?_ hC1 (fun d hd => hF1 d (by omega)))
    show SpsC _ c (vup s.1 14 (s.1 14 + 1) 4) (vup s.1 14 (s.1 14 + 1) 5) s.2.1
    rw [o4, o5]
    exact hP1
