/-! PURE: a STATUS comes: confirming a piece, naming, in the class -/
def cfO : (Nat → Un) × Wt → List Cel → (Nat → Un) × Wt
  | uw, [] => uw
  | uw, q :: l => cfO (cfB uw q.2.2.2) l
theorem obV_cfO {nc : Nat} : ∀ (l : List Cel) (uw : (Nat → Un) × Wt), ObV nc uw.1 uw.2 → ObV nc (cfO uw l).1 (cfO uw l).2
  | [], _, h => h
  | _ :: l, _, h => obV_cfO l _ (obV_cfB h)
theorem obK_cfO {ks : Nat → Nat → Int32} : ∀ (l : List Cel) (uw : (Nat → Un) × Wt), ObK ks uw.1 uw.2 → ObK ks (cfO uw l).1 (cfO uw l).2
  | [], _, h => h
  | _ :: l, _, h => obK_cfO l _ (obK_cfB h)
theorem cf25 {c p mk nc n : Nat} {f : Nat → Bool} {Q : Sg → Prop} {σ0 : Sg} (hcp : c + 10 ≤ p) (hn : n ≤ 240) (hp1 : σ0 p 1 = nI n) : ∀ (l : List Cel) (i : Nat) (σ : Sg) (uw : (Nat → Un) × Wt), i + l.length = n → (∀ k, k < l.length → celOK (gc l k) ∧ σ0 (p + 1) (i + k) = cod (gc l k) (f (i + k))) → ObC σ (c + 2) mk nc uw.1 uw.2 → ObV nc uw.1 uw.2 → (∀ d, d < c + 2 ∨ c + 10 ≤ d → σ d = σ0 d) → (∀ σ' : Sg, ObC σ' (c + 2) mk nc (cfO uw l).1 (cfO uw l).2 → (∀ d, d < c + 2 ∨ c + 10 ≤ d → σ' d = σ0 d) → Q σ') → wpX7_confirm_L25 Q (l.length + 1) c p (nI i) σ := by
  intro l
  induction l with
  | nil =>
    intro i σ uw hi hc hC hV hF h
    unfold wpX7_confirm_L25
    rw [hF p (by omega), hp1]
    rw [List.length_nil] at hi
    exact brt (nI_le (by omega) (by omega)) (h σ hC hF)
  | cons q l ih =>
    intro i σ uw hi hc hC hV hF h
    rw [List.length_cons] at hi
    show wpX7_confirm_L25 Q (l.length + 1 + 1) c p (nI i) σ
    unfold wpX7_confirm_L25
    rw [hF p (by omega), hp1]
    refine brf (nI_ge (by omega) (by omega)) (cell_ok (by omega) ?_)
    have h0 := hc 0 (by simp)
    have e0 : σ (p + 1) i = cod q (f i) := by
      rw [hF (p + 1) (by omega)]
      exact h0.2
    rw [e0]
    refine confirmByte_ok hC hV h0.1 (fun σ1 g1 g2 => ?_)
    rintro _ rfl
    rw [nI_1]
    refine ih (i + 1) σ1 (cfB uw q.2.2.2) (by omega) (fun k hk => ?_) g1 (obV_cfB hV) (fun d hd => by rw [g2 d (by omega), hF d hd]) h
    have := hc (k + 1) (by rw [List.length_cons]; omega)
    rw [show i + 1 + k = i + (k + 1) by omega]
    exact this
def cfQ (q : Pce) : Pce := (q.1, q.2.1, q.2.2.1, true)
theorem confirm_ok {σ : Sg} {c p mk nc : Nat} {v : Nat → Nat} {bk : Int32} {q : Pce} {un : Nat → Un} {w : Wt} {Q : Sg → Prop} (hS : SnS σ c v bk) (hq : SpC σ p q) (hcf : q.2.2.2 = false) (h6 : nAg q ≤ v 6) (hC : ObC σ (c + 2) mk nc un w) (hV : ObV nc un w) (hcp : c + 10 ≤ p) (h : ∀ σ' : Sg, SnS σ' c (vup v 6 (v 6 - nAg q)) bk → SpC σ' p (cfQ q) → σ' p 5 = σ p 5 → ObC σ' (c + 2) mk nc (cfO (un, w) q.1).1 (cfO (un, w) q.1).2 → (∀ d, d ≠ c → d ≠ p → d < c + 2 ∨ c + 10 ≤ d → σ' d = σ d) → Q σ') : wpX7_confirm c p σ Q := by
  obtain ⟨q1, q2, q3, q4⟩ := hq
  have hP := q4 hcf
  unfold wpX7_confirm
  rintro _ rfl
  rw [up2_o (d := c) (by omega), hS.1 6 (by decide) (by decide) (by decide) (by decide), up2_e (d := p), if_neg (by omega), hP.2.2.1, show cnt q.2.1 0 q.1.length = nAg q from rfl, pk_sub h6]
  rintro _ rfl _ rfl
  have hS1 : SnS (up2 σ p 4 1) c v bk := hS.of (up2_o (by omega))
  have hS2 := hS1.put (k := 6) (x := v 6 - nAg q) (by decide) (by decide)
  have hS3 : SnS (up2 (up2 (up2 σ p 4 1) c 6 (nI (v 6 - nAg q))) p 2 0) c (vup v 6 (v 6 - nAg q)) bk := hS2.of (up2_o (by omega))
  have ep : ∀ k, up2 (up2 (up2 σ p 4 1) c 6 (nI (v 6 - nAg q))) p 2 0 p k = if k = 2 then 0 else if k = 4 then 1 else σ p k := fun k => by
    rw [up2_e, up2_o (by omega), up2_e]
    simp
  have eo : ∀ d, d ≠ c → d ≠ p → up2 (up2 (up2 σ p 4 1) c 6 (nI (v 6 - nAg q))) p 2 0 d = σ d := fun d d1 d2 => by rw [up2_o d2, up2_o d1, up2_o d2]
  show ∃ nn, wpX7_confirm_L25 Q nn c p 0 (up2 (up2 (up2 σ p 4 1) c 6 (nI (v 6 - nAg q))) p 2 0)
  generalize up2 (up2 (up2 σ p 4 1) c 6 (nI (v 6 - nAg q))) p 2 0 = σ3 at *
  refine ⟨q.1.length + 1, cf25 (σ0 := σ3) (f := q.2.1) (n := q.1.length) hcp hP.2.1 ?_ q.1 0 σ3 (un, w) (by omega) (fun k hk => ⟨hP.ok hk, ?_⟩) (hC.of (fun d d1 d2 => eo d (by omega) (by omega))) hV (fun _ _ => rfl) (fun σ4 g1 g2 => h σ4 (hS3.of (g2 c (by omega))) ⟨?_, ?_, fun _ => ?_, fun e => by cases e⟩ ?_ g1 (fun d d1 d2 d3 => by rw [g2 d d3, eo d d1 d2]))⟩
  · rw [ep]; exact hP.1
  · rw [eo _ (by omega) (by omega), Nat.zero_add]; exact hP.2.2.2.2 k hk
  · rw [g2 p (by omega), ep]; exact q1
  · rw [g2 p (by omega), ep]; rfl
  · rw [g2 p (by omega), ep]; rfl
  · rw [g2 p (by omega), ep]; rfl
/-- the number that is meant: wider -/
theorem meant2 {x A e : Nat} (he : e = 0 ∨ e = 128) (hA : A < 2 ^ 20) (h1 : A ≤ x + 64) (h2 : x < A + 64) : nI A + ((nI (x % 64) + nI e) - nI A &&& 63) = nI (if A ≤ x then x else x + 64) := by
  rw [nI_add, sub63 (by omega) (by omega), nI_add]
  congr 1
  rcases he with rfl | rfl
  · split <;> omega
  · split <;> omega
def nmd (es : List Ent) (k : Nat) : Bool := es.any (fun e => e.1 == k)
/-- where the entries lie -/
def EnA (bs : List Int32) (f0 ack : Nat) (es : List Ent) : Prop := f0 + 2 + (enL es).length ≤ bs.length ∧ bs.getD f0 0 = nI es.length ∧ bs.getD (f0 + 1) 0 = nI (ack % 64) ∧ ∀ k, k < (enL es).length → bs.getD (f0 + 2 + k) 0 = (enL es).getD k 0
theorem EnA.at' {bs : List Int32} {f0 ack : Nat} {es pre r : List Ent} {e : Ent} (h : EnA bs f0 ack es) (he : pre ++ e :: r = es) {t : Nat} (ht : t < (enB e).length) : bs.getD (f0 + 2 + (enL pre).length + t) 0 = (enB e).getD t 0 ∧ f0 + 2 + (enL pre).length + (enB e).length ≤ bs.length := by
  have el : enL es = enL pre ++ (enB e ++ enL r) := by rw [← he, enL_app]; rfl
  have hl : (enL es).length = (enL pre).length + ((enB e).length + (enL r).length) := by rw [el, List.length_append, List.length_append]
  have h0 := h.1
  have := h.2.2.2 ((enL pre).length + t) (by omega)
  rw [← Nat.add_assoc, el, gD_r (by omega), Nat.add_sub_cancel_left, gD_l ht] at this
  exact ⟨this, by omega⟩
theorem enB_0 {e : Ent} : 0 < (enB e).length ∧ (enB e).length ≤ 3 ∧ (enB e).getD 0 0 = nI (e.1 % 64) + nI (if e.2 = none then 0 else 128) ∧ (enB e).length = (if e.2 = none then 1 else 3) := by
  obtain ⟨x, o⟩ := e
  cases o with
  | none =>
    refine ⟨show 0 < 1 by decide, show 1 ≤ 3 by decide, ?_, rfl⟩
    show nI (x % 64) = nI (x % 64) + nI 0
    rw [nI_add]
    rfl
  | some r => exact ⟨show 0 < 3 by decide, show 3 ≤ 3 by decide, rfl, rfl⟩
def EsB (A : Nat) (es : List Ent) : Prop := ∀ e ∈ es, A ≤ e.1 + 48 ∧ e.1 < A + 64 ∧ ∀ r, e.2 = some r → r.1 < 2 ^ 10 ∧ r.2 < 2 ^ 10
theorem any_snoc {f : Ent → Bool} {l : List Ent} {e : Ent} : (l ++ [e]).any f = (l.any f || f e) := by
  rw [List.any_append]
  simp
theorem ne35 {c a f0 ack : Nat} {v : Nat → Nat} {bk : Int32} {bs : List Int32} {es : List Ent} {Q : Sg → Prop} {σ0 : Sg} (hS0 : SnS σ0 c v bk) (hb : SvB v) (h45 : v 4 ≤ v 5) (h16 : v 5 ≤ v 4 + 16) (hca : a + 1 < c ∨ c + 42 ≤ a) (hE : EnA bs f0 ack es) (hB : EsB (v 4) es) (hA0 : Air σ0 a bs) (hes : es.length < 2 ^ 10) : ∀ (r pre : List Ent) (σ : Sg), pre ++ r = es → (∀ k, v 4 ≤ k → k < v 5 → σ (c + 10 + 2 * (k % 16)) 5 = b01 (nmd pre k)) → (∀ d k, k ≠ 5 ∨ (∀ y, d ≠ c + 10 + 2 * (y % 16)) → σ d k = σ0 d k) → (∀ σ' : Sg, (∀ k, v 4 ≤ k → k < v 5 → σ' (c + 10 + 2 * (k % 16)) 5 = b01 (nmd es k)) → (∀ d k, k ≠ 5 ∨ (∀ y, d ≠ c + 10 + 2 * (y % 16)) → σ' d k = σ0 d k) → Q σ') → wpX7_nameEntries_L35 Q (r.length + 1) c a (nI f0) (nI (f0 + 2 + (enL pre).length)) (nI pre.length) σ := by
  have b4 := hb 4 (by decide) (by decide)
  have b5 := hb 5 (by decide) (by decide)
  have hbs := hA0.2.1
  intro r
  induction r with
  | nil =>
    intro pre σ he hn hF h
    rw [List.append_nil] at he
    subst he
    have hA : Air σ a bs := hA0.of (hF _ _ (Or.inr (fun y => by omega))) (funext fun k => hF _ _ (Or.inr (fun y => by omega)))
    unfold wpX7_nameEntries_L35
    have := hE.1
    refine at_ok hA (by omega) ?_
    rw [hE.2.1]
    exact brt (nI_le (Nat.le_refl _) (by omega)) (h σ hn hF)
  | cons e r ih =>
    intro pre σ he hn hF h
    have hA : Air σ a bs := hA0.of (hF _ _ (Or.inr (fun y => by omega))) (funext fun k => hF _ _ (Or.inr (fun y => by omega)))
    have hS : SnS σ c v bk := hS0.of (funext fun k => hF _ _ (Or.inr (fun y => by omega)))
    have hel : es.length = pre.length + (r.length + 1) := by rw [← he]; simp
    have hmem : e ∈ es := by rw [← he]; simp
    obtain ⟨m1, m2, m3⟩ := hB e hmem
    obtain ⟨z1, z2, z3, z4⟩ := enB_0 (e := e)
    obtain ⟨a1, a2⟩ := hE.at' he z1
    rw [Nat.add_zero, z3] at a1
    have hf0 := hE.1
    show wpX7_nameEntries_L35 Q (r.length + 1 + 1) c a (nI f0) (nI (f0 + 2 + (enL pre).length)) (nI pre.length) σ
    unfold wpX7_nameEntries_L35
    refine at_ok hA (by omega) ?_
    rw [hE.2.1]
    refine brf (nI_ge (by omega) (by omega)) (at_ok hA (by omega) ?_)
    rw [a1]
    unfold wpX7_meant
    rw [hS.1 4 (by decide) (by decide) (by decide) (by decide), meant2 (by split <;> simp) b4 (by omega) (by omega)]
    dsimp only
    rw [hS.1 5 (by decide) (by decide) (by decide) (by decide)]
    -- the next one
    have L75 : ∀ σ1 : Sg, (∀ k, v 4 ≤ k → k < v 5 → σ1 (c + 10 + 2 * (k % 16)) 5 = b01 (nmd (pre ++ [e]) k)) → (∀ d k, k ≠ 5 ∨ (∀ y, d ≠ c + 10 + 2 * (y % 16)) → σ1 d k = σ0 d k) → wpX7_nameEntries_L75 Q (wpX7_nameEntries_L35 Q (r.length + 1)) c a (nI f0) (nI (f0 + 2 + (enL pre).length)) (nI pre.length) σ1 := by
      intro σ1 k1 k2
      have hA1 : Air σ1 a bs := hA0.of (k2 _ _ (Or.inr (fun y => by omega))) (funext fun k => k2 _ _ (Or.inr (fun y => by omega)))
      have go : ∀ s : Nat, s = (enB e).length → wpX7_nameEntries_L92 Q (wpX7_nameEntries_L35 Q (r.length + 1)) c a (nI f0) (nI pre.length) (nI s) (nI (f0 + 2 + (enL pre).length)) σ1 := by
        intro s hs
        unfold wpX7_nameEntries_L92
        rintro _ rfl _ rfl
        rw [nI_add, nI_1]
        have := ih (pre ++ [e]) σ1 (by rw [List.append_assoc]; exact he) k1 k2 h
        rw [enL_app, List.length_append, List.length_append, show (enL [e]).length = (enB e).length from by show (enB e ++ []).length = _; rw [List.append_nil]] at this
        rw [hs, Nat.add_assoc (f0 + 2)]
        exact this
      unfold wpX7_nameEntries_L75
      refine at_ok hA1 (by omega) ?_
      rw [a1, nI_add]
      by_cases eo : e.2 = none
      · rw [if_pos eo] at z4 ⊢
        exact brf (nI_ge (a := e.1 % 64 + 0) (b := 128) (by omega) (by decide)) (go 1 z4.symm)
      · rw [if_neg eo] at z4 ⊢
        exact brt (nI_le (a := 128) (by omega) (by omega)) (go 3 z4.symm)
    by_cases hx : v 4 ≤ e.1
    · rw [if_pos hx]
      refine pk_le (v 5) e.1 (fun h9 => ?_) (fun h9 => ?_)
      · refine L75 σ (fun k k1 k2 => ?_) hF
        rw [hn k k1 k2]
        unfold nmd
        rw [any_snoc, show (e.1 == k) = false from by simp; omega, Bool.or_false]
      · unfold wpX7_pieceAt
        rw [a15 (by omega), nI_clamp (by omega)]
        refine ⟨vin rfl (by omega) (by decide), ?_⟩
        rintro _ rfl _ rfl
        refine L75 _ (fun k k1 k2 => ?_) (fun d k hk => ?_)
        · rw [up2_e]
          unfold nmd
          rw [any_snoc]
          by_cases ek : k = e.1
          · subst ek
            rw [if_pos ⟨rfl, rfl⟩]
            simp [b01]
          · rw [if_neg (by omega), show (e.1 == k) = false from by simp; omega, Bool.or_false]
            exact hn k k1 k2
        · rw [up2_e, if_neg (fun hh => ?_)]
          · exact hF d k hk
          · rcases hk with hk | hk
            · exact hk hh.2
            · exact hk _ hh.1
    · rw [if_neg hx]
      refine pk_le (v 5) (e.1 + 64) (fun h9 => ?_) (fun h9 => ?_)
      · refine L75 σ (fun k k1 k2 => ?_) hF
        rw [hn k k1 k2]
        unfold nmd
        rw [any_snoc, show (e.1 == k) = false from by simp; omega, Bool.or_false]
      · exfalso
        omega
theorem ne5 {c a f0 ack : Nat} {v : Nat → Nat} {bk : Int32} {bs : List Int32} {es : List Ent} {Q : Sg → Prop} {σ0 : Sg} (hS0 : SnS σ0 c v bk) (hb : SvB v) (h45 : v 4 ≤ v 5) (h16 : v 5 ≤ v 4 + 16) (hca : a + 1 < c ∨ c + 42 ≤ a) (hE : EnA bs f0 ack es) (hB : EsB (v 4) es) (hA0 : Air σ0 a bs) (hes : es.length < 2 ^ 10) (h : ∀ σ' : Sg, (∀ k, v 4 ≤ k → k < v 5 → σ' (c + 10 + 2 * (k % 16)) 5 = b01 (nmd es k)) → (∀ d k, k ≠ 5 ∨ (∀ y, d ≠ c + 10 + 2 * (y % 16)) → σ' d k = σ0 d k) → Q σ') : ∀ (m x : Nat) (σ : Sg), x + m = v 5 → v 4 ≤ x → (∀ k, v 4 ≤ k → k < x → σ (c + 10 + 2 * (k % 16)) 5 = 0) → (∀ d k, k ≠ 5 ∨ (∀ y, d ≠ c + 10 + 2 * (y % 16)) → σ d k = σ0 d k) → wpX7_nameEntries_L5 Q (m + 1) c a (nI f0) (nI x) σ := by
  have b5 := hb 5 (by decide) (by decide)
  intro m
  induction m with
  | zero =>
    intro x σ hx h4 hz hF
    have hS : SnS σ c v bk := hS0.of (funext fun k => hF _ _ (Or.inr (fun y => by omega)))
    unfold wpX7_nameEntries_L5
    rw [hS.1 5 (by decide) (by decide) (by decide) (by decide)]
    refine brt (nI_le (by omega) (by omega)) ?_
    have e2 : nI f0 + 2 = nI (f0 + 2) := nI_add f0 2
    rw [e2]
    rintro _ rfl
    exact ⟨es.length + 1, ne35 hS0 hb h45 h16 hca hE hB hA0 hes es [] σ rfl (fun k k1 k2 => by rw [hz k k1 (by omega)]; rfl) hF h⟩
  | succ m ih =>
    intro x σ hx h4 hz hF
    have hS : SnS σ c v bk := hS0.of (funext fun k => hF _ _ (Or.inr (fun y => by omega)))
    unfold wpX7_nameEntries_L5
    rw [hS.1 5 (by decide) (by decide) (by decide) (by decide)]
    refine brf (nI_ge (by omega) (by omega)) ?_
    unfold wpX7_pieceAt
    rw [a15 (by omega), nI_clamp (by omega)]
    refine ⟨vin rfl (by omega) (by decide), ?_⟩
    rintro _ rfl _ rfl _ rfl
    rw [nI_1]
    refine ih (x + 1) _ (by omega) (by omega) (fun k k1 k2 => ?_) (fun d k hk => ?_)
    · rw [up2_e]
      by_cases e : k = x
      · subst e
        rw [if_pos ⟨rfl, rfl⟩]
      · rw [if_neg (by omega)]
        exact hz k k1 (by omega)
    · rw [up2_e, if_neg (fun hh => ?_)]
      · exact hF d k hk
      · rcases hk with hk | hk
        · exact hk hh.2
        · exact hk _ hh.1
theorem nameEntries_ok {σ : Sg} {c a f0 ack : Nat} {v : Nat → Nat} {bk : Int32} {bs : List Int32} {es : List Ent} {Q : Sg → Prop} (hS : SnS σ c v bk) (hb : SvB v) (h45 : v 4 ≤ v 5) (h16 : v 5 ≤ v 4 + 16) (hca : a + 1 < c ∨ c + 42 ≤ a) (hE : EnA bs f0 ack es) (hB : EsB (v 4) es) (hA : Air σ a bs) (hes : es.length < 2 ^ 10) (h : ∀ σ' : Sg, (∀ k, v 4 ≤ k → k < v 5 → σ' (c + 10 + 2 * (k % 16)) 5 = b01 (nmd es k)) → (∀ d k, k ≠ 5 ∨ (∀ y, d ≠ c + 10 + 2 * (y % 16)) → σ' d k = σ d k) → Q σ') : wpX7_nameEntries c a (nI f0) σ Q := by
  unfold wpX7_nameEntries
  rw [hS.1 4 (by decide) (by decide) (by decide) (by decide)]
  rintro _ rfl
  exact ⟨v 5 - v 4 + 1, ne5 hS hb h45 h16 hca hE hB hA hes h (v 5 - v 4) (v 4) σ (by omega) (Nat.le_refl _) (fun k k1 k2 => by omega) (fun _ _ _ => rfl)⟩
