/-! PURE: a SENDER's numbers and pieces, in the class -/
def SnS (σ : Sg) (c : Nat) (v : Nat → Nat) (bk : Int32) : Prop := (∀ k, 2 ≤ k → k ≤ 14 → k ≠ 3 → k ≠ 9 → σ c k = nI (v k)) ∧ σ c 9 = nI (v 9) - 1 ∧ σ c 3 = bk
theorem SnS.put {σ : Sg} {c k x : Nat} {v : Nat → Nat} {bk : Int32} (h : SnS σ c v bk) (h3 : k ≠ 3) (h9 : k ≠ 9) : SnS (up2 σ c k (nI x)) c (vup v k x) bk := by
  refine ⟨fun j h1 h2 q3 q9 => ?_, ?_, ?_⟩
  · rw [up2_e]
    by_cases e : j = k
    · subst e
      rw [if_pos ⟨rfl, rfl⟩, vup_s]
    · rw [if_neg (fun hh => e hh.2), vup_o e]
      exact h.1 j h1 h2 q3 q9
  · rw [up2_e, if_neg (fun hh => h9 hh.2.symm), vup_o (fun hh => h9 hh.symm)]
    exact h.2.1
  · rw [up2_e, if_neg (fun hh => h3 hh.2.symm)]
    exact h.2.2
theorem SnS.put9 {σ : Sg} {c x : Nat} {v : Nat → Nat} {bk : Int32} (h : SnS σ c v bk) : SnS (up2 σ c 9 (nI x - 1)) c (vup v 9 x) bk := by
  refine ⟨fun j h1 h2 q3 q9 => ?_, ?_, ?_⟩
  · rw [up2_e, if_neg (fun hh => q9 hh.2), vup_o q9]
    exact h.1 j h1 h2 q3 q9
  · rw [up2_e, if_pos ⟨rfl, rfl⟩, vup_s]
  · rw [up2_e, if_neg (by omega)]
    exact h.2.2
theorem SnS.put3 {σ : Sg} {c : Nat} {v : Nat → Nat} {bk b : Int32} (h : SnS σ c v bk) : SnS (up2 σ c 3 b) c v b := by
  refine ⟨fun j h1 h2 q3 q9 => ?_, ?_, ?_⟩
  · rw [up2_e, if_neg (fun hh => q3 hh.2)]
    exact h.1 j h1 h2 q3 q9
  · rw [up2_e, if_neg (by omega)]
    exact h.2.1
  · rw [up2_e, if_pos ⟨rfl, rfl⟩]
theorem SnS.of {σ σ' : Sg} {c : Nat} {v : Nat → Nat} {bk : Int32} (h : SnS σ c v bk) (he : σ' c = σ c) : SnS σ' c v bk := by
  unfold SnS at *
  rw [he]
  exact h
def SvB (v : Nat → Nat) : Prop := ∀ k, 4 ≤ k → k ≤ 11 → v k < 2 ^ 20
theorem SvB.put {v : Nat → Nat} {k x : Nat} (h : SvB v) (hx : x < 2 ^ 20) : SvB (vup v k x) := by
  intro j h1 h2
  unfold vup
  split
  · exact hx
  · exact h j h1 h2
theorem SvB.putc {v : Nat → Nat} {k x : Nat} (h : SvB v) (hk : 12 ≤ k) : SvB (vup v k x) := by
  intro j h1 h2
  rw [vup_o (by omega)]
  exact h j h1 h2
/-- field, AGAIN, tries, confirmed -/
abbrev Pce : Type := List Cel × (Nat → Bool) × Nat × Bool
def SpC (σ : Sg) (p : Nat) (q : Pce) : Prop := σ p 3 = nI q.2.2.1 ∧ σ p 4 = b01 q.2.2.2 ∧ (q.2.2.2 = true → σ p 2 = 0) ∧ (q.2.2.2 = false → PcC σ p q.1 q.2.1)
theorem SpC.of {σ σ' : Sg} {p : Nat} {q : Pce} (h : SpC σ p q) (h0 : ∀ k, k ≠ 5 → σ' p k = σ p k) (h1 : σ' (p + 1) = σ (p + 1)) : SpC σ' p q := by
  obtain ⟨a, b, c, d⟩ := h
  exact ⟨by rw [h0 3 (by decide)]; exact a, by rw [h0 4 (by decide)]; exact b, fun e => by rw [h0 2 (by decide)]; exact c e, fun e => (d e).of (h0 1 (by decide)) (h0 2 (by decide)) h1⟩
def SpsC (σ : Sg) (c A S : Nat) (pc : Nat → Pce) : Prop := ∀ x, A ≤ x → x < S → SpC σ (c + 10 + 2 * (x % 16)) (pc x)
theorem SpsC.of {σ σ' : Sg} {c A S : Nat} {pc : Nat → Pce} (h : SpsC σ c A S pc) (hd : ∀ d, c + 10 ≤ d → d < c + 42 → σ' d = σ d) : SpsC σ' c A S pc := fun x h1 h2 => (h x h1 h2).of (fun k _ => by rw [hd _ (by omega) (by omega)]) (hd _ (by omega) (by omega))
def spu (pc : Nat → Pce) (x : Nat) (q : Pce) : Nat → Pce := fun y => if y = x then q else pc y
theorem spu_s {pc : Nat → Pce} {x : Nat} {q : Pce} : spu pc x q x = q := if_pos rfl
theorem spu_o {pc : Nat → Pce} {x y : Nat} {q : Pce} (h : y ≠ x) : spu pc x q y = pc y := if_neg h
theorem SpsC.upd {σ σ' : Sg} {c A S x : Nat} {pc : Nat → Pce} {q : Pce} (h : SpsC σ c A S pc) (hS : S ≤ A + 16) (h1 : A ≤ x) (h2 : x < S) (hq : SpC σ' (c + 10 + 2 * (x % 16)) q) (hd : ∀ d, c + 10 ≤ d → d < c + 42 → d ≠ c + 10 + 2 * (x % 16) → d ≠ c + 10 + 2 * (x % 16) + 1 → σ' d = σ d) : SpsC σ' c A S (spu pc x q) := by
  intro y y1 y2
  by_cases e : y = x
  · subst e
    rw [spu_s]
    exact hq
  · rw [spu_o e]
    have hne : y % 16 ≠ x % 16 := by omega
    exact (h y y1 y2).of (fun k _ => by rw [hd _ (by omega) (by omega) (by omega) (by omega)]) (hd _ (by omega) (by omega) (by omega) (by omega))
/-- bytes come into AGAIN -/
def nAg (q : Pce) : Nat := cnt q.2.1 0 q.1.length
def brP (q : Pce) (fr to : Nat) : Pce := (q.1, orT q.2.1 fr (min to q.1.length), (if nAg q = 0 then q.2.2.1 + 1 else q.2.2.1), q.2.2.2)
def brV (v : Nat → Nat) (q : Pce) (fr to : Nat) : Nat → Nat := vup (if nAg q = 0 then vup v 8 (if v 8 = 0 ∧ q.2.2.1 + 1 < 5 then 0 else 1) else v) 6 (v 6 + (nAg (brP q fr to) - nAg q))
theorem cnt_orT {f : Nat → Bool} {fr to a : Nat} : ∀ n, cnt f a n ≤ cnt (orT f fr to) a n
  | 0 => Nat.le_refl _
  | n + 1 => by
    have := cnt_orT (f := f) (fr := fr) (to := to) (a := a) n
    unfold cnt
    unfold orT at *
    cases f (a + n) with
    | true =>
      simp only [Bool.true_or, if_true]
      omega
    | false =>
      simp only [Bool.false_or, Bool.false_eq_true, if_false]
      omega
theorem nAg_le (q : Pce) : nAg q ≤ q.1.length := cnt_le _
theorem ba1 {c p fr to : Nat} {l : List Cel} {ag : Nat → Bool} {x4 : Int32} {Q : Sg → Prop} {σ0 : Sg} (hcp : c ≠ p ∧ c ≠ p + 1) (hto : to < 2 ^ 20) (h : ∀ σ' : Sg, PcC σ' p l (orT ag fr (min to l.length)) → (∀ j, j ≠ 2 → σ' p j = σ0 p j) → Frm p σ0 σ' → wpX7_bringAgain_L77 Q c p x4 σ') : ∀ (m i : Nat) (σ : Sg), min to l.length ≤ i + m → fr ≤ i → (fr < i → i ≤ min to l.length) → PcC σ p l (orT ag fr i) → i + m < 2 ^ 20 → (∀ j, j ≠ 2 → σ p j = σ0 p j) → Frm p σ0 σ → wpX7_bringAgain_L50 Q (m + 1) c p (nI to) x4 (nI i) σ := by
  intro m
  induction m with
  | zero =>
    intro i σ hm hf hle hP hb hj hF
    have hl := hP.2.1
    have fin : wpX7_bringAgain_L77 Q c p x4 σ := by
      refine h σ ?_ hj hF
      rcases Nat.lt_or_ge fr i with h1 | h1
      · rw [show min to l.length = i by have := hle h1; omega]
        exact hP
      · have e : i = fr := by omega
        have e2 : orT ag fr (min to l.length) = orT ag fr i := by
          funext k
          unfold orT
          congr 1
          rw [decide_eq_false (by omega), decide_eq_false (by omega)]
        rw [e2]
        exact hP
    unfold wpX7_bringAgain_L50
    rw [hP.1]
    refine pk_le to i (fun _ => fin) (fun h1 => pk_le l.length i (fun _ => fin) (fun h2 => by omega))
  | succ m ih =>
    intro i σ hm hf hle hP hb hj hF
    have hl := hP.2.1
    have fin : min to l.length ≤ i → wpX7_bringAgain_L77 Q c p x4 σ := by
      intro h0
      refine h σ ?_ hj hF
      rcases Nat.lt_or_ge fr i with h1 | h1
      · rw [show min to l.length = i by have := hle h1; omega]
        exact hP
      · have e : i = fr := by omega
        have e2 : orT ag fr (min to l.length) = orT ag fr i := by
          funext k
          unfold orT
          congr 1
          rw [decide_eq_false (by omega), decide_eq_false (by omega)]
        rw [e2]
        exact hP
    unfold wpX7_bringAgain_L50
    rw [hP.1]
    refine pk_le to i (fun h0 => fin (by omega)) (fun h1 => pk_le l.length i (fun h0 => fin (by omega)) (fun h2 => ?_))
    refine markCell_ok hP h2 (fun σ1 g1 g2 g3 => ?_)
    rintro _ rfl
    rw [nI_1]
    rw [orT_step hf] at g1
    exact ih (i + 1) σ1 (by omega) (by omega) (fun _ => by omega) g1 (by omega) (fun j hj2 => by rw [g2 j hj2, hj j hj2]) (fun d d1 d2 => by rw [g3 d d1 d2, hF d d1 d2])
theorem bringAgain_ok {σ : Sg} {c p fr to : Nat} {v : Nat → Nat} {bk : Int32} {q : Pce} {Q : Sg → Prop} (hS : SnS σ c v bk) (hb : SvB v) (hq : SpC σ p q) (hcf : q.2.2.2 = false) (ht : q.2.2.1 < 2 ^ 20) (hcp : c + 10 ≤ p) (hto : to < 2 ^ 18) (hfr : fr < 2 ^ 18) (h : ∀ σ' : Sg, SnS σ' c (brV v q fr to) bk → SpC σ' p (brP q fr to) → (σ' p 5 = σ p 5) → (∀ d, d ≠ c → d ≠ p → d ≠ p + 1 → σ' d = σ d) → Q σ') : wpX7_bringAgain c p (nI fr) (nI to) σ Q := by
  obtain ⟨q1, q2, q3, q4⟩ := hq
  have hP := q4 hcf
  have hl := hP.2.1
  have b8 := hb 8 (by decide) (by decide)
  have n0 := nAg_le q
  -- from the marks of before on
  have L41 : ∀ (σ1 : Sg) (v1 : Nat → Nat) (t1 : Nat), v1 = (if nAg q = 0 then vup v 8 (if v 8 = 0 ∧ q.2.2.1 + 1 < 5 then 0 else 1) else v) → t1 = (if nAg q = 0 then q.2.2.1 + 1 else q.2.2.1) → SnS σ1 c v1 bk → σ1 p 3 = nI t1 → (∀ k, k ≠ 3 → σ1 p k = σ p k) → (∀ d, d ≠ c → d ≠ p → σ1 d = σ d) → wpX7_bringAgain_L41 Q c p (nI fr) (nI to) σ1 := by
    intro σ1 v1 t1 ev et k1 k2 k3 k4
    have hP1 : PcC σ1 p q.1 q.2.1 := hP.of (k3 1 (by decide)) (k3 2 (by decide)) (k4 _ (by omega) (by omega))
    unfold wpX7_bringAgain_L41
    rintro _ rfl
    rw [hP1.2.2.1]
    refine ⟨min to q.1.length + 1, ?_⟩
    refine ba1 (σ0 := σ1) (l := q.1) (ag := q.2.1) (by omega) (by omega) (fun σ2 g1 g2 g3 => ?_) (min to q.1.length) fr σ1 (by omega) (Nat.le_refl _) (fun hh => by omega) (by rw [orT_0]; exact hP1) (by omega) (fun _ _ => rfl) (fun _ _ _ => rfl)
    unfold wpX7_bringAgain_L77
    rintro _ rfl
    have k1' : SnS σ2 c v1 bk := k1.of (g3 c (by omega) (by omega))
    have e6 : v1 6 = v 6 := by
      rw [ev]
      split
      · rw [vup_o (by decide)]
      · rfl
    have hle := cnt_orT (f := q.2.1) (fr := fr) (to := min to q.1.length) (a := 0) q.1.length
    rw [k1'.1 6 (by decide) (by decide) (by decide) (by decide), e6, g1.2.2.1, pk_sub hle, nI_add]
    have hfin := k1'.put (k := 6) (x := v 6 + (cnt (orT q.2.1 fr (min to q.1.length)) 0 q.1.length - cnt q.2.1 0 q.1.length)) (by decide) (by decide)
    refine h _ ?_ ⟨?_, ?_, fun e => ?_, fun e => ?_⟩ ?_ (fun d d1 d2 d3 => ?_)
    · rw [ev] at hfin
      exact hfin
    · rw [up2_o (by omega), g2 3 (by decide), k2, et]
      rfl
    · rw [up2_o (by omega), g2 4 (by decide), k3 4 (by decide)]
      exact q2
    · have e : q.2.2.2 = true := e
      rw [hcf] at e
      cases e
    · exact g1.of (by rw [up2_o (by omega)]) (by rw [up2_o (by omega)]) (up2_o (by omega))
    · rw [up2_o (by omega), g2 5 (by decide), k3 5 (by decide)]
    · rw [up2_o d1, g3 d d2 d3, k4 d d1 d2]
  unfold wpX7_bringAgain
  rw [hP.2.2.1]
  refine ⟨fun hne => ?_, fun he => ?_⟩
  · have hne : ¬ nAg q = 0 := fun h0 => hne (by unfold nAg at h0; rw [h0]; rfl)
    exact L41 σ v q.2.2.1 (by rw [if_neg hne]) (by rw [if_neg hne]) hS q1 (fun _ _ => rfl) (fun _ _ _ => rfl)
  · have he : nAg q = 0 := (nI_eq (a := nAg q) (b := 0) (by omega) (by decide)).mp he
    rintro _ rfl
    rw [q1, nI_1, up2_o (by omega), hS.1 8 (by decide) (by decide) (by decide) (by decide), up2_e, if_pos ⟨rfl, rfl⟩]
    have hS1 : SnS (up2 σ p 3 (nI (q.2.2.1 + 1))) c v bk := hS.of (up2_o (by omega))
    have go : ∀ z : Nat, z = (if v 8 = 0 ∧ q.2.2.1 + 1 < 5 then 0 else 1) → wpX7_bringAgain_L38 Q c p (nI fr) (nI to) (nI z) c (up2 σ p 3 (nI (q.2.2.1 + 1))) := by
      intro z hz
      unfold wpX7_bringAgain_L38
      refine ⟨?_, ?_⟩
      · rw [hz]
        split
        · exact Or.inl rfl
        · exact Or.inr rfl
      · rintro _ rfl
        refine L41 _ (vup v 8 z) (q.2.2.1 + 1) ?_ ?_ (hS1.put (by decide) (by decide)) ?_ (fun k hk => ?_) (fun d d1 d2 => ?_)
        · rw [if_pos he, hz]
        · rw [if_pos he]
        · rw [up2_o (by omega), up2_e, if_pos ⟨rfl, rfl⟩]
        · rw [up2_o (by omega), up2_e, if_neg (by omega)]
        · rw [up2_o d1, up2_o d2]
    refine ⟨fun hne => ?_, fun he8 => ?_⟩
    · unfold wpX7_bringAgain_L33
      exact go 1 (by rw [if_neg (fun hh => hne (by rw [hh.1]; rfl))])
    · have he8 : v 8 = 0 := (nI_eq (a := v 8) (b := 0) (by omega) (by decide)).mp he8
      refine pk_lt (q.2.2.1 + 1) 5 (fun h5 => ?_) (fun h5 => ?_)
      · exact go 0 (by rw [if_pos ⟨he8, h5⟩])
      · unfold wpX7_bringAgain_L33
        exact go 1 (by rw [if_neg (by omega)])
/-- the poll's timer -/
def tmSb (v : Nat → Nat) (wl : Nat) : Bool := decide (v 6 = 0 ∧ v 4 < v 5 ∧ (wl = 0 ∨ v 5 = v 4 + 16))
def tmSv (v : Nat → Nat) (pc : Nat → Pce) (wl : Nat) : Nat → Nat := if v 10 = 0 then v else if v 10 = 1 then (if tmSb v wl then brV (vup (vup v 10 0) 7 1) (pc (v 4)) 0 240 else vup (vup v 10 0) 7 1) else vup v 10 (v 10 - 1)
def tmSp (v : Nat → Nat) (pc : Nat → Pce) (wl : Nat) : Nat → Pce := if v 10 = 1 ∧ tmSb v wl = true then spu pc (v 4) (brP (pc (v 4)) 0 240) else pc
theorem scountDown_ok {σ : Sg} {c wl : Nat} {v : Nat → Nat} {bk : Int32} {pc : Nat → Pce} {Q : Sg → Prop} (hS : SnS σ c v bk) (hb : SvB v) (hP : SpsC σ c (v 4) (v 5) pc) (h45 : v 4 ≤ v 5) (h16 : v 5 ≤ v 4 + 16) (hw : σ (c + 2) 9 = nI wl) (hwl : wl < 2 ^ 20) (hA : v 4 < v 5 → (pc (v 4)).2.2.2 = false ∧ (pc (v 4)).2.2.1 < 2 ^ 20) (h : ∀ σ' : Sg, SnS σ' c (tmSv v pc wl) bk → SpsC σ' c (v 4) (v 5) (tmSp v pc wl) → (∀ d, d ≠ c → d < c + 10 ∨ c + 42 ≤ d → σ' d = σ d) → Q σ') : wpX7_countDown c σ Q := by
  have b4 := hb 4 (by decide) (by decide)
  have b5 := hb 5 (by decide) (by decide)
  have b6 := hb 6 (by decide) (by decide)
  have b10 := hb 10 (by decide) (by decide)
  unfold wpX7_countDown
  rw [hS.1 10 (by decide) (by decide) (by decide) (by decide)]
  unfold tmSv tmSp at h
  refine ⟨fun hne => ?_, fun he => ?_⟩
  · have hne : ¬ v 10 = 0 := fun h0 => hne (by rw [h0]; rfl)
    rw [if_neg hne] at h
    have e10 : nI (v 10) - 1 = nI (v 10 - 1) := pk_sub (a := v 10) (b := 1) (by omega)
    rintro _ rfl
    rw [e10, up2_e, if_pos ⟨rfl, rfl⟩]
    refine pk_le (v 10 - 1) 0 (fun h1 => ?_) (fun h1 => ?_)
    · have h1 : v 10 = 1 := by omega
      rw [if_pos h1] at h
      rintro _ rfl
      rw [h1]
      have hS2 := (hS.put (k := 10) (x := 0) (by decide) (by decide)).put (k := 7) (x := 1) (by decide) (by decide)
      have ew : up2 (up2 σ c 10 (nI (1 - 1))) c 7 1 (c + 2) 9 = nI wl := by rw [up2_o (by omega), up2_o (by omega)]; exact hw
      have e5 : up2 (up2 σ c 10 (nI (1 - 1))) c 7 1 c 5 = nI (v 5) := by
        have := hS2.1 5 (by decide) (by decide) (by decide) (by decide)
        rw [vup_o (by decide), vup_o (by decide)] at this
        exact this
      have e4 : up2 (up2 σ c 10 (nI (1 - 1))) c 7 1 c 4 = nI (v 4) := by
        have := hS2.1 4 (by decide) (by decide) (by decide) (by decide)
        rw [vup_o (by decide), vup_o (by decide)] at this
        exact this
      have e6 : up2 (up2 σ c 10 (nI (1 - 1))) c 7 1 c 6 = nI (v 6) := by
        have := hS2.1 6 (by decide) (by decide) (by decide) (by decide)
        rw [vup_o (by decide), vup_o (by decide)] at this
        exact this
      have hS2 : SnS (up2 (up2 σ c 10 (nI (1 - 1))) c 7 1) c (vup (vup v 10 0) 7 1) bk := hS2
      have hF2 : ∀ d, d ≠ c → up2 (up2 σ c 10 (nI (1 - 1))) c 7 1 d = σ d := fun d hd => by rw [up2_o hd, up2_o hd]
      generalize up2 (up2 σ c 10 (nI (1 - 1))) c 7 1 = σ2 at *
      have L60 : ∀ z : Bool, z = decide (wl = 0 ∨ v 5 = v 4 + 16) → wpX7_countDown_L60 Q c (b01 z) σ2 := by
        intro z hz
        have no : tmSb v wl = false → Q σ2 := by
          intro ef
          rw [ef, if_neg (by decide), if_neg (by simp)] at h
          exact h σ2 hS2 (hP.of (fun d d1 d2 => hF2 d (by omega))) (fun d d1 d2 => hF2 d d1)
        unfold wpX7_countDown_L60
        rw [e6, e5, e4]
        refine ⟨fun hn6 => no (decide_eq_false (fun hh => hn6 (by rw [hh.1]; rfl))), fun h6 => pk_le (v 5) (v 4) (fun h9 => no (decide_eq_false (by omega))) (fun h9 => br01 (fun ez => no ?_) (fun ez => ?_))⟩
        · rw [hz] at ez
          have := of_decide_eq_false ez
          exact decide_eq_false (fun hh => this hh.2.2)
        · rw [hz] at ez
          have hh := of_decide_eq_true ez
          have h6 : v 6 = 0 := (nI_eq (a := v 6) (b := 0) (by omega) (by decide)).mp h6
          have et : tmSb v wl = true := decide_eq_true ⟨h6, h9, hh⟩
          rw [et, if_pos rfl, if_pos ⟨h1, rfl⟩] at h
          unfold wpX7_pieceAt
          rw [a15 (by omega), nI_clamp (by omega)]
          refine ⟨vin rfl (by omega) (by decide), ?_⟩
          rintro _ rfl
          have hq := (hP (v 4) (Nat.le_refl _) h9).of (σ' := σ2) (fun k _ => by rw [hF2 _ (by omega)]) (hF2 _ (by omega))
          refine bringAgain_ok (fr := 0) (to := 240) hS2 ((hb.put (by decide)).put (by decide)) hq (hA h9).1 (hA h9).2 (by omega) (by decide) (by decide) (fun σ3 g1 g2 g3 g4 => h σ3 g1 ?_ (fun d d1 d2 => ?_))
          · exact (hP.of (σ' := σ2) (fun d d1 d2 => hF2 d (by omega))).upd h16 (Nat.le_refl _) h9 g2 (fun d d1 d2 d3 d4 => g4 d (by omega) d3 d4)
          · rw [g4 d d1 (by omega) (by omega), hF2 d d1]
      rw [ew, e5, e4]
      refine ⟨fun h0 => ?_, fun h0 => ?_⟩
      · have h0 : wl = 0 := (nI_eq (a := wl) (b := 0) (by omega) (by decide)).mp h0
        unfold wpX7_countDown_L55
        exact L60 true (decide_eq_true (Or.inl h0)).symm
      · have h0 : ¬ wl = 0 := fun hh => h0 (by rw [hh]; rfl)
        rw [pk_sub h45]
        refine ⟨fun hn => ?_, fun hn => ?_⟩
        · have hn : ¬ v 5 - v 4 = 16 := fun hh => hn (by rw [hh]; rfl)
          exact L60 false (decide_eq_false (by omega)).symm
        · have hn : v 5 - v 4 = 16 := (nI_eq (a := v 5 - v 4) (b := 16) (by omega) (by decide)).mp hn
          unfold wpX7_countDown_L55
          exact L60 true (decide_eq_true (Or.inr (by omega))).symm
    · rw [if_neg (by omega), if_neg (by omega)] at h
      exact h _ (hS.put (by decide) (by decide)) (hP.of (fun d d1 d2 => up2_o (by omega))) (fun d d1 d2 => up2_o d1)
  · have he : v 10 = 0 := (nI_eq (a := v 10) (b := 0) (by omega) (by decide)).mp he
    rw [if_pos he, if_neg (by omega)] at h
    exact h σ hS hP (fun _ _ _ => rfl)
/-- before the blocks are filled -/
def prV (v : Nat → Nat) (wl : Nat) : Nat → Nat := if v 8 = 0 ∧ v 10 = 0 ∧ v 4 < v 5 ∧ wl = 0 ∧ v 6 = 0 then vup v 10 10 else v
def bkF (r bk : Int32) : Int32 := if 5 * r ≤ bk then bk else if 5 * r < bk + r then 5 * r else bk + r
theorem prepare_ok {σ : Sg} {c wl : Nat} {v : Nat → Nat} {bk : Int32} {Q : Sg → Prop} (hS : SnS σ c v bk) (hb : SvB v) (hw : σ (c + 2) 9 = nI wl) (hwl : wl < 2 ^ 20) (h : ∀ σ' : Sg, SnS σ' c (prV v wl) (bkF (nI (v 2)) bk) → FrS c σ σ' → Q σ') : wpX7_prepare c σ Q := by
  have b4 := hb 4 (by decide) (by decide)
  have b5 := hb 5 (by decide) (by decide)
  have b6 := hb 6 (by decide) (by decide)
  have b8 := hb 8 (by decide) (by decide)
  have b10 := hb 10 (by decide) (by decide)
  have L48 : ∀ σ1 : Sg, SnS σ1 c (prV v wl) bk → FrS c σ σ1 → wpX7_prepare_L48 Q c σ1 := by
    intro σ1 k1 k2
    have e2 : σ1 c 2 = nI (v 2) := by
      rw [k1.1 2 (by decide) (by decide) (by decide) (by decide)]
      unfold prV
      split
      · rw [vup_o (by decide)]
      · rfl
    unfold wpX7_prepare_L48
    rw [e2, k1.2.2]
    unfold bkF at h
    refine ⟨fun hh => ?_, fun hh => ?_⟩
    · rw [if_pos hh] at h
      exact h σ1 k1 k2
    · rw [if_neg hh] at h
      rintro _ rfl _ rfl
      exact h _ k1.put3 (fun d hd => by rw [up2_o hd, k2 d hd])
  have no : ¬ (v 8 = 0 ∧ v 10 = 0 ∧ v 4 < v 5 ∧ wl = 0 ∧ v 6 = 0) → wpX7_prepare_L48 Q c σ := fun hh => L48 σ (by unfold prV; rw [if_neg hh]; exact hS) (fun _ _ => rfl)
  unfold wpX7_prepare
  rw [hS.1 8 (by decide) (by decide) (by decide) (by decide), hS.1 10 (by decide) (by decide) (by decide) (by decide), hS.1 4 (by decide) (by decide) (by decide) (by decide), hS.1 5 (by decide) (by decide) (by decide) (by decide), hS.1 6 (by decide) (by decide) (by decide) (by decide), hw]
  refine ⟨fun hn => no (fun hh => hn (by rw [hh.1]; rfl)), fun h8 => ⟨fun hn => no (fun hh => hn (by rw [hh.2.1]; rfl)), fun h10 => pk_le (v 5) (v 4) (fun h9 => no (fun hh => by omega)) (fun h9 => ⟨fun hn => no (fun hh => hn (by rw [hh.2.2.2.1]; rfl)), fun hw0 => ⟨fun hn => no (fun hh => hn (by rw [hh.2.2.2.2]; rfl)), fun h6 => ?_⟩⟩)⟩⟩
  have h8 : v 8 = 0 := (nI_eq (a := v 8) (b := 0) (by omega) (by decide)).mp h8
  have h10 : v 10 = 0 := (nI_eq (a := v 10) (b := 0) (by omega) (by decide)).mp h10
  have h6 : v 6 = 0 := (nI_eq (a := v 6) (b := 0) (by omega) (by decide)).mp h6
  have hw0 : wl = 0 := (nI_eq (a := wl) (b := 0) (by omega) (by decide)).mp hw0
  rintro _ rfl
  refine L48 _ ?_ (fun d hd => up2_o hd)
  unfold prV
  rw [if_pos ⟨h8, h10, h9, hw0, h6⟩]
  exact hS.put (k := 10) (x := 10) (by decide) (by decide)
/-- whether POLL stands in the DATA -/
def polB (v : Nat → Nat) (wl : Nat) : Bool := decide (¬ v 7 = 0 ∨ 3 ≤ v 11 ∨ (wl = 0 ∧ v 6 = 0) ∨ v 5 = v 4 + 16)
def cdV (v : Nat → Nat) (wl : Nat) : Nat → Nat := if polB v wl then vup (vup (vup (vup (vup v 12 (v 12 + 1)) 7 0) 11 0) 9 (v 5)) 10 10 else vup (vup v 12 (v 12 + 1)) 11 (v 11 + 1)
theorem countData_ok {σ : Sg} {c wl : Nat} {v : Nat → Nat} {bk : Int32} {Q : Int32 → Sg → Prop} (hS : SnS σ c v bk) (hb : SvB v) (h45 : v 4 ≤ v 5) (hw : σ (c + 2) 9 = nI wl) (hwl : wl < 2 ^ 20) (h : ∀ σ' : Sg, SnS σ' c (cdV v wl) bk → FrS c σ σ' → Q (b01 (polB v wl)) σ') : wpX7_countData c σ Q := by
  have b4 := hb 4 (by decide) (by decide)
  have b5 := hb 5 (by decide) (by decide)
  have b6 := hb 6 (by decide) (by decide)
  have b7 := hb 7 (by decide) (by decide)
  have b11 := hb 11 (by decide) (by decide)
  unfold wpX7_countData
  rw [hS.1 12 (by decide) (by decide) (by decide) (by decide), nI_1]
  rintro _ rfl
  have hS1 := hS.put (k := 12) (x := v 12 + 1) (by decide) (by decide)
  have o1 : ∀ k, k ≠ 12 → vup v 12 (v 12 + 1) k = v k := fun k hk => vup_o hk
  have ew : up2 σ c 12 (nI (v 12 + 1)) (c + 2) 9 = nI wl := by rw [up2_o (by omega)]; exact hw
  have hF1 : FrS c σ (up2 σ c 12 (nI (v 12 + 1))) := fun d hd => up2_o hd
  have e4 := hS1.1 4 (by decide) (by decide) (by decide) (by decide)
  have e5 := hS1.1 5 (by decide) (by decide) (by decide) (by decide)
  have e6 := hS1.1 6 (by decide) (by decide) (by decide) (by decide)
  have e7 := hS1.1 7 (by decide) (by decide) (by decide) (by decide)
  have e11 := hS1.1 11 (by decide) (by decide) (by decide) (by decide)
  rw [o1 _ (by decide)] at e4 e5 e6 e7 e11
  generalize up2 σ c 12 (nI (v 12 + 1)) = σ1 at *
  have L88 : polB v wl = true → wpX7_countData_L88 Q c σ1 := by
    intro ep
    unfold wpX7_countData_L88
    unfold cdV at h
    rw [ep, if_pos rfl] at h
    rintro _ rfl _ rfl _ rfl _ rfl
    have hS3 := (hS1.put (k := 7) (x := 0) (by decide) (by decide)).put (k := 11) (x := 0) (by decide) (by decide)
    have h5 : up2 (up2 σ1 c 7 0) c 11 0 c 5 = nI (v 5) := by rw [up2_e, if_neg (by omega), up2_e, if_neg (by omega)]; exact e5
    rw [h5]
    exact h _ ((hS3.put9 (x := v 5)).put (k := 10) (x := 10) (by decide) (by decide)) (fun d hd => by rw [up2_o hd, up2_o hd, up2_o hd, up2_o hd, hF1 d hd])
  have L52 : ∀ a f : Bool, a = decide (wl = 0 ∧ v 6 = 0) → f = decide (v 5 = v 4 + 16) → wpX7_countData_L52 Q c (b01 a) (b01 f) σ1 := by
    intro a f ha hf
    unfold wpX7_countData_L52
    rw [e7, e11]
    refine ⟨fun hn => L88 (decide_eq_true (Or.inl (fun hh => hn (by rw [hh]; rfl)))), fun h7 => pk_le 3 (v 11) (fun h3 => L88 (decide_eq_true (Or.inr (Or.inl h3)))) (fun h3 => br01' (fun ea => br01' (fun ef => ?_) (fun ef => ?_)) (fun ea => ?_))⟩
    · have h7 : v 7 = 0 := (nI_eq (a := v 7) (b := 0) (by omega) (by decide)).mp h7
      rw [ha] at ea
      rw [hf] at ef
      have ea := of_decide_eq_false ea
      have ef := of_decide_eq_false ef
      have ep : polB v wl = false := decide_eq_false (fun hh => by
        rcases hh with hh | hh | hh | hh
        · exact hh h7
        · omega
        · exact ea hh
        · exact ef hh)
      unfold cdV at h
      rw [ep, if_neg (by decide)] at h
      rintro _ rfl
      rw [nI_1]
      exact h _ (hS1.put (by decide) (by decide)) (fun d hd => by rw [up2_o hd, hF1 d hd])
    · rw [hf] at ef
      exact L88 (decide_eq_true (Or.inr (Or.inr (Or.inr (of_decide_eq_true ef)))))
    · rw [ha] at ea
      exact L88 (decide_eq_true (Or.inr (Or.inr (Or.inl (of_decide_eq_true ea)))))
  have L32 : ∀ a : Bool, a = decide (wl = 0 ∧ v 6 = 0) → wpX7_countData_L32 Q c (b01 a) σ1 := by
    intro a ha
    unfold wpX7_countData_L32
    rw [e5, e4, pk_sub h45]
    refine ⟨fun hn => L52 a false ha ?_, fun hn => L52 a true ha ?_⟩
    · have hn : ¬ v 5 - v 4 = 16 := fun hh => hn (by rw [hh]; rfl)
      exact (decide_eq_false (by omega)).symm
    · have hn : v 5 - v 4 = 16 := (nI_eq (a := v 5 - v 4) (b := 16) (by omega) (by decide)).mp hn
      exact (decide_eq_true (by omega)).symm
  rw [ew, e6]
  refine ⟨fun hn => ?_, fun hw0 => ⟨fun hn => ?_, fun h6 => ?_⟩⟩
  · unfold wpX7_countData_L31
    exact L32 false (decide_eq_false (fun hh => hn (by rw [hh.1]; rfl))).symm
  · unfold wpX7_countData_L31
    exact L32 false (decide_eq_false (fun hh => hn (by rw [hh.2]; rfl))).symm
  · have h6 : v 6 = 0 := (nI_eq (a := v 6) (b := 0) (by omega) (by decide)).mp h6
    have hw0 : wl = 0 := (nI_eq (a := wl) (b := 0) (by omega) (by decide)).mp hw0
    exact L32 true (decide_eq_true ⟨hw0, h6⟩).symm
/-- it starts anew -/
def anwS (v : Nat → Nat) : Nat → Nat := fun k => if 4 ≤ k ∧ k ≤ 11 then 0 else v k
theorem sstartAnew_ok {σ : Sg} {c : Nat} {v : Nat → Nat} {bk : Int32} {Q : Sg → Prop} (hS : SnS σ c v bk) (h : ∀ σ' : Sg, SnS σ' c (anwS v) bk → FrS c σ σ' → Q σ') : wpX7_startAnew c σ Q := by
  unfold wpX7_startAnew
  rintro _ rfl _ rfl _ rfl _ rfl _ rfl _ rfl _ rfl _ rfl
  have hS8 := (((((((hS.put (k := 4) (x := 0) (by decide) (by decide)).put (k := 5) (x := 0) (by decide) (by decide)).put (k := 6) (x := 0) (by decide) (by decide)).put (k := 7) (x := 0) (by decide) (by decide)).put (k := 8) (x := 0) (by decide) (by decide)).put9 (x := 0)).put (k := 10) (x := 0) (by decide) (by decide)).put (k := 11) (x := 0) (by decide) (by decide)
  rw [← m1z] at hS8
  refine h _ ⟨fun k k1 k2 k3 k9 => ?_, ?_, hS8.2.2⟩ (fun d hd => by rw [up2_o hd, up2_o hd, up2_o hd, up2_o hd, up2_o hd, up2_o hd, up2_o hd, up2_o hd])
  · refine Eq.trans (hS8.1 k k1 k2 k3 k9) ?_
    congr 1
    have hk : k = 2 ∨ k = 4 ∨ k = 5 ∨ k = 6 ∨ k = 7 ∨ k = 8 ∨ k = 10 ∨ k = 11 ∨ k = 12 ∨ k = 13 ∨ k = 14 := by omega
    rcases hk with rfl | rfl | rfl | rfl | rfl | rfl | rfl | rfl | rfl | rfl | rfl <;> rfl
  · exact hS8.2.1
