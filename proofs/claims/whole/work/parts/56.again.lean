/-! PURE: DATA made again, in the class -/
def nMk (q : Pce) : Nat := if q.2.2.2 then 0 else nAg q
def frA (pc : Nat → Pce) : Nat → Nat → Nat
  | 0, x => x
  | m + 1, x => if nMk (pc x) = 0 then frA pc m (x + 1) else x
theorem frA_spec {pc : Nat → Pce} : ∀ (m x y : Nat), x ≤ y → y < x + m → ¬ nMk (pc y) = 0 → x ≤ frA pc m x ∧ frA pc m x ≤ y ∧ ¬ nMk (pc (frA pc m x)) = 0
  | 0, x, y, h1, h2, _ => by omega
  | m + 1, x, y, h1, h2, h3 => by
    unfold frA
    by_cases e : nMk (pc x) = 0
    · rw [if_pos e]
      have hne : x ≠ y := fun hh => h3 (by rw [← hh]; exact e)
      obtain ⟨a, b, c⟩ := frA_spec m (x + 1) y (by omega) (by omega) h3
      exact ⟨by omega, b, c⟩
    · rw [if_neg e]
      exact ⟨Nat.le_refl _, h1, e⟩
theorem fitN_c1 {la : Nat → Bool} {fr : Nat} : ∀ (m left i : Nat), fr < i → (fitN la fr m left i - i) + cnt la (i - 1) (fitN la fr m left i - i) ≤ left
  | 0, left, i, _ => by
    unfold fitN
    rw [Nat.sub_self]
    exact Nat.zero_le _
  | m + 1, left, i, h => by
    unfold fitN
    by_cases e : cst la fr i ≤ left
    · rw [if_pos e]
      have ih := fitN_c1 (la := la) (fr := fr) m (left - cst la fr i) (i + 1) (by omega)
      have h2 := (fitN_spec (la := la) (fr := fr) m (left - cst la fr i) (i + 1)).1
      generalize fitN la fr m (left - cst la fr i) (i + 1) = z at *
      rw [show z - i = (z - (i + 1)) + 1 by omega, cnt_left, show i - 1 + 1 = i by omega]
      rw [show i + 1 - 1 = i by omega] at ih
      unfold cst at *
      cases el : la (i - 1) with
      | true =>
        rw [el, if_pos ⟨h, rfl⟩] at e ih
        simp only [b2n, if_true]
        omega
      | false =>
        rw [el, if_neg (by simp)] at e ih
        simp only [b2n, Bool.false_eq_true, if_false]
        omega
    · rw [if_neg e, Nat.sub_self]
      exact Nat.zero_le _
theorem fitN_cost {la : Nat → Bool} {fr m left : Nat} (h : fr < fitN la fr m left fr) : (fitN la fr m left fr - fr) + cnt la fr (fitN la fr m left fr - 1 - fr) ≤ left := by
  cases m with
  | zero => unfold fitN at h; omega
  | succ m =>
    unfold fitN at h ⊢
    have ec : cst la fr fr = 1 := by unfold cst; rw [if_neg (by omega)]
    rw [ec] at h ⊢
    by_cases e : 1 ≤ left
    · rw [if_pos e] at h ⊢
      have := fitN_c1 (la := la) (fr := fr) m (left - 1) (fr + 1) (by omega)
      generalize fitN la fr m (left - 1) (fr + 1) = z at *
      rw [show fr + 1 - 1 = fr by omega, show z - (fr + 1) = z - 1 - fr by omega] at this
      omega
    · rw [if_neg e] at h
      omega
theorem fitN_1 {la : Nat → Bool} {fr m left : Nat} (hm : 0 < m) (hl : 1 ≤ left) : fr < fitN la fr m left fr := by
  cases m with
  | zero => omega
  | succ m =>
    unfold fitN
    have ec : cst la fr fr = 1 := by unfold cst; rw [if_neg (by omega)]
    rw [ec, if_pos hl]
    have := (fitN_spec (la := la) (fr := fr) m (left - 1) (fr + 1)).1
    omega
def agF (q : Pce) : Nat := nxt q.2.1 true q.1.length 0
def agT (q : Pce) : Nat := nxt q.2.1 false q.1.length (agF q)
def agW (q : Pce) (room : Nat) : Bool := decide (agF q = 0 ∧ agT q = q.1.length ∧ 2 + cnt (lasF q.1) 0 (agT q - 1) + agT q ≤ room)
def agE (q : Pce) (room : Nat) : Nat := if agW q room then agT q else fitN (lasF q.1) (agF q) (agT q - agF q) (room - 3) (agF q)
def unT (f : Nat → Bool) (fr to : Nat) : Nat → Bool := fun k => f k && !(decide (fr ≤ k ∧ k < to))
def uaP (q : Pce) (fr to : Nat) : Pce := (q.1, unT q.2.1 fr to, q.2.2)
theorem unT_step {f : Nat → Bool} {fr i : Nat} (h : fr ≤ i) : bup (unT f fr i) i false = unT f fr (i + 1) := by
  funext k
  unfold bup unT
  by_cases e : k = i
  · subst e
    rw [if_pos rfl, decide_eq_true (by omega)]
    simp
  · rw [if_neg e]
    congr 2
    by_cases h9 : fr ≤ k ∧ k < i
    · rw [decide_eq_true h9, decide_eq_true (by omega)]
    · rw [decide_eq_false h9, decide_eq_false (by omega)]
theorem unT_0 {f : Nat → Bool} {fr : Nat} : unT f fr fr = f := by
  funext k
  unfold unT
  rw [decide_eq_false (by omega)]
  simp
/-- where the run of AGAIN lies -/
theorem ag_run {q : Pce} (h : ¬ nAg q = 0) : agF q < agT q ∧ agT q ≤ q.1.length ∧ (∀ k, agF q ≤ k → k < agT q → q.2.1 k = true) ∧ (∀ k, k < agF q → q.2.1 k = false) ∧ (agT q < q.1.length → q.2.1 (agT q) = false) := by
  obtain ⟨a1, a2, a3, a4⟩ := nxt_spec (f := q.2.1) (w := true) (up := q.1.length) (i := 0) (Nat.zero_le _)
  have hlt : agF q < q.1.length := by
    rcases Nat.lt_or_ge (agF q) q.1.length with h9 | h9
    · exact h9
    · exfalso
      apply h
      unfold nAg
      refine cnt_0 _ (fun k _ hk => ?_)
      have h9 : q.1.length ≤ nxt q.2.1 true q.1.length 0 := h9
      have := a3 k (Nat.zero_le _) (by omega)
      simpa using this
  obtain ⟨b1, b2, b3, b4⟩ := nxt_spec (f := q.2.1) (w := false) (up := q.1.length) (i := agF q) (by omega)
  refine ⟨?_, b2, fun k h1 h2 => ?_, fun k hk => ?_, fun hk => b4 hk⟩
  · rcases Nat.lt_or_ge (agF q) (agT q) with h9 | h9
    · exact h9
    · have e : agT q = agF q := Nat.le_antisymm h9 b1
      have := b4 (by unfold agT at e; rw [e]; exact hlt)
      unfold agT at e
      rw [e] at this
      have h4 : q.2.1 (agF q) = true := a4 hlt
      rw [this] at h4
      cases h4
  · have := b3 k h1 h2
    simpa using this
  · have := a3 k (Nat.zero_le _) hk
    simpa using this
theorem ag_end {q : Pce} {room : Nat} (h : ¬ nAg q = 0) (hr : agW q room = true ∨ 4 ≤ room) : agF q < agE q room ∧ agE q room ≤ agT q ∧ (datL q.1 0 (agF q) (agE q room) (decide (0 < agF q ∨ agE q room < q.1.length)) false).length ≤ room := by
  obtain ⟨h1, h2, h3, h4, h5⟩ := ag_run h
  rw [datL_len]
  unfold agE
  cases e : agW q room with
  | true =>
    rw [if_pos rfl]
    have e := of_decide_eq_true e
    refine ⟨h1, Nat.le_refl _, ?_⟩
    rw [decide_eq_false (by omega), e.1]
    have := e.2.2
    simp only [b2n, Bool.false_eq_true, if_false]
    rw [Nat.sub_zero, Nat.sub_zero]
    omega
  | false =>
    rw [if_neg (by decide)]
    have h4r : 4 ≤ room := by
      rcases hr with hr | hr
      · rw [e] at hr; cases hr
      · exact hr
    have hlt := fitN_1 (la := lasF q.1) (fr := agF q) (m := agT q - agF q) (left := room - 3) (by omega) (by omega)
    have hc := fitN_cost hlt
    have hs := fitN_spec (la := lasF q.1) (fr := agF q) (agT q - agF q) (room - 3) (agF q)
    refine ⟨hlt, by omega, ?_⟩
    have := b2n_le (decide (0 < agF q ∨ fitN (lasF q.1) (agF q) (agT q - agF q) (room - 3) (agF q) < q.1.length))
    omega
def agX (v : Nat → Nat) (pc : Nat → Pce) : Nat := frA pc (v 5 - v 4) (v 4)
def agV (v : Nat → Nat) (fr to : Nat) : Nat → Nat := vup (vup v 6 (v 6 - (to - fr))) 13 (v 13 + 1)
theorem ma139 {c a x p fr to wl : Nat} {v : Nat → Nat} {bk : Int32} {q : Pce} {bs : List Int32} {Q : Sg → Prop} {σ0 : Sg} (hS0 : SnS σ0 c v bk) (hb : SvB v) (h45 : v 4 ≤ v 5) (h6 : to - fr ≤ v 6) (hw : σ0 (c + 2) 9 = nI wl) (hwl : wl < 2 ^ 20) (hcp : c + 10 ≤ p ∧ p + 1 < c + 42) (hca : a + 1 < c ∨ c + 42 ≤ a) (hA0 : Air σ0 a bs) (hx : x < 2 ^ 20) (hft : fr < to) (hto : to ≤ q.1.length) (hlen : bs.length + (datL q.1 x fr to (decide (0 < fr ∨ to < q.1.length)) (polB (agV v fr to) wl)).length ≤ 250) (h : ∀ σ' : Sg, SnS σ' c (cdV (agV v fr to) wl) bk → PcC σ' p q.1 (unT q.2.1 fr to) → (∀ j, j ≠ 2 → σ' p j = σ0 p j) → Air σ' a (bs ++ datL q.1 x fr to (decide (0 < fr ∨ to < q.1.length)) (polB (agV v fr to) wl)) → (∀ d, d ≠ c → d ≠ p → d ≠ p + 1 → d ≠ a → d ≠ a + 1 → σ' d = σ0 d) → Q σ') : ∀ (m i : Nat) (σ : Sg), i + m = to → fr ≤ i → PcC σ p q.1 (unT q.2.1 fr i) → (∀ j, j ≠ 2 → σ p j = σ0 p j) → Frm p σ0 σ → wpX7_makeAgain_L139 Q (m + 1) c a (nI x) p (nI fr) (nI to) (nI i) σ := by
  have b6 := hb 6 (by decide) (by decide)
  intro m
  induction m with
  | zero =>
    intro i σ hi hf hP hj hF
    have hi : i = to := by omega
    subst hi
    have hl := hP.2.1
    unfold wpX7_makeAgain_L139
    refine brt (nI_le (Nat.le_refl _) (by omega)) ?_
    have hS : SnS σ c v bk := hS0.of (hF c (by omega) (by omega))
    rw [hS.1 6 (by decide) (by decide) (by decide) (by decide), pk_sub (by omega), pk_sub h6]
    rintro _ rfl _ rfl
    have hS1 := hS.put (k := 6) (x := v 6 - (i - fr)) (by decide) (by decide)
    have e13 := hS1.1 13 (by decide) (by decide) (by decide) (by decide)
    rw [vup_o (by decide)] at e13
    rw [e13, nI_1]
    have hS2 := hS1.put (k := 13) (x := v 13 + 1) (by decide) (by decide)
    have hb2 : SvB (agV v fr i) := (hb.put (by omega)).putc (by decide)
    refine countData_ok (wl := wl) hS2 hb2 ?_ ?_ hwl (fun σ3 g1 g2 => ?_)
    · rw [vup_o (by decide), vup_o (by decide), vup_o (by decide), vup_o (by decide)]; exact h45
    · rw [up2_o (by omega), up2_o (by omega), hF _ (by omega) (by omega)]; exact hw
    · have hF3 : ∀ d, d ≠ c → σ3 d = σ d := fun d hd => by rw [g2 d hd, up2_o hd, up2_o hd]
      have hP3 : PcC σ3 p q.1 (unT q.2.1 fr i) := hP.of (by rw [hF3 _ (by omega)]) (by rw [hF3 _ (by omega)]) (hF3 _ (by omega))
      have hA3 : Air σ3 a bs := hA0.of (by rw [hF3 _ (by omega), hF _ (by omega) (by omega)]) (by rw [hF3 _ (by omega), hF _ (by omega) (by omega)])
      refine writeData_ok hP3 hA3 (by omega) (by omega) hft hto hlen (fun σ4 k1 k2 => h σ4 (g1.of (k2 c (by omega) (by omega))) (hP3.of (by rw [k2 _ (by omega) (by omega)]) (by rw [k2 _ (by omega) (by omega)]) (k2 _ (by omega) (by omega))) (fun j hj2 => ?_) k1 (fun d d1 d2 d3 d4 d5 => ?_))
      · rw [k2 p (by omega) (by omega), hF3 p (by omega), hj j hj2]
      · rw [k2 d d4 d5, hF3 d d1, hF d d2 d3]
  | succ m ih =>
    intro i σ hi hf hP hj hF
    have hl := hP.2.1
    unfold wpX7_makeAgain_L139
    refine brf (nI_ge (by omega) (by omega)) ?_
    refine unmarkCell_ok hP (by omega) (fun σ1 g1 g2 g3 => ?_)
    rintro _ rfl
    rw [nI_1]
    rw [unT_step hf] at g1
    exact ih (i + 1) σ1 (by omega) (by omega) g1 (fun j hj2 => by rw [g2 j hj2, hj j hj2]) (fun d d1 d2 => by rw [g3 d d1 d2, hF d d1 d2])
theorem makeAgain_ok {σ : Sg} {c a wl room : Nat} {v : Nat → Nat} {bk : Int32} {pc : Nat → Pce} {bs : List Int32} {Q : Sg → Prop} (hS : SnS σ c v bk) (hb : SvB v) (hP : SpsC σ c (v 4) (v 5) pc) (h45 : v 4 ≤ v 5) (h16 : v 5 ≤ v 4 + 16) (hw : σ (c + 2) 9 = nI wl) (hwl : wl < 2 ^ 20) (hca : a + 1 < c ∨ c + 42 ≤ a) (hA : Air σ a bs) (hroom : bs.length + room ≤ 250) (hex : ∃ y, v 4 ≤ y ∧ y < v 5 ∧ ¬ nMk (pc y) = 0) (h6 : ∀ y, v 4 ≤ y → y < v 5 → nMk (pc y) ≤ v 6) (hn : agW (pc (agX v pc)) room = false → room < 4 → Q σ) (h : agW (pc (agX v pc)) room = true ∨ 4 ≤ room → ∀ σ' : Sg, SnS σ' c (cdV (agV v (agF (pc (agX v pc))) (agE (pc (agX v pc)) room)) wl) bk → SpsC σ' c (v 4) (v 5) (spu pc (agX v pc) (uaP (pc (agX v pc)) (agF (pc (agX v pc))) (agE (pc (agX v pc)) room))) → Air σ' a (bs ++ datL (pc (agX v pc)).1 (agX v pc) (agF (pc (agX v pc))) (agE (pc (agX v pc)) room) (decide (0 < agF (pc (agX v pc)) ∨ agE (pc (agX v pc)) room < (pc (agX v pc)).1.length)) (polB (agV v (agF (pc (agX v pc))) (agE (pc (agX v pc)) room)) wl)) → (∀ d, d ≠ c → d < c + 10 ∨ c + 42 ≤ d → d ≠ a → d ≠ a + 1 → σ' d = σ d) → Q σ') : wpX7_makeAgain c a (nI room) σ Q := by
  have b4 := hb 4 (by decide) (by decide)
  have b5 := hb 5 (by decide) (by decide)
  have b6 := hb 6 (by decide) (by decide)
  obtain ⟨y, y1, y2, y3⟩ := hex
  have hspec := frA_spec (pc := pc) (v 5 - v 4) (v 4) y y1 (by omega) y3
  have hmk : ∀ x, v 4 ≤ x → x < v 5 → σ (c + 10 + 2 * (x % 16)) 2 = nI (nMk (pc x)) ∧ nMk (pc x) ≤ 240 := by
    intro x x1 x2
    obtain ⟨q1, q2, q3, q4⟩ := hP x x1 x2
    unfold nMk
    cases e : (pc x).2.2.2 with
    | true => exact ⟨q3 e, by simp⟩
    | false =>
      have := q4 e
      refine ⟨this.2.2.1, ?_⟩
      have h1 := nAg_le (pc x)
      have h2 := this.2.1
      simp only [Bool.false_eq_true, if_false]
      omega
  have L35 : wpX7_makeAgain_L35 Q c a (nI room) (nI (agX v pc)) σ := by
    have hX : v 4 ≤ agX v pc ∧ agX v pc < v 5 ∧ ¬ nMk (pc (agX v pc)) = 0 := ⟨hspec.1, Nat.lt_of_le_of_lt hspec.2.1 y2, hspec.2.2⟩
    generalize agX v pc = x at *
    obtain ⟨x1, x2, x3⟩ := hX
    have hcf : (pc x).2.2.2 = false := by
      cases e : (pc x).2.2.2 with
      | true => exact absurd (by unfold nMk; rw [e, if_pos rfl]) x3
      | false => rfl
    have hna : ¬ nAg (pc x) = 0 := by
      unfold nMk at x3
      rw [hcf, if_neg (by decide)] at x3
      exact x3
    have hle6 : nAg (pc x) ≤ v 6 := by
      have := h6 x x1 x2
      unfold nMk at this
      rw [hcf, if_neg (by decide)] at this
      exact this
    have hpx := hP x x1 x2
    have hPc := hpx.2.2.2 hcf
    have hl := hPc.2.1
    obtain ⟨r1, r2, r3, r4, r5⟩ := ag_run hna
    unfold wpX7_makeAgain_L35 wpX7_pieceAt
    rw [a15 (by omega), nI_clamp (by omega)]
    refine ⟨vin rfl (by omega) (by decide), ?_⟩
    rintro _ rfl
    have hcp : c + 10 ≤ c + 10 + 2 * (x % 16) ∧ c + 10 + 2 * (x % 16) + 1 < c + 42 := by omega
    have hupd : ∀ (σ' : Sg) (q' : Pce), SpC σ' (c + 10 + 2 * (x % 16)) q' → (∀ d, d ≠ c → d ≠ c + 10 + 2 * (x % 16) → d ≠ c + 10 + 2 * (x % 16) + 1 → d ≠ a → d ≠ a + 1 → σ' d = σ d) → SpsC σ' c (v 4) (v 5) (spu pc x q') := fun σ' q' g1 g2 => hP.upd h16 x1 x2 g1 (fun d d1 d2 d3 d4 => g2 d (by omega) d3 d4 (by omega) (by omega))
    have ep0 := hpx
    generalize c + 10 + 2 * (x % 16) = p at *
    rw [hPc.1]
    refine nextMark_ok2 (i := 0) (w := true) (f := (pc x).2.1) hl (Nat.zero_le _) (fun k _ hk => hPc.mk hk) ?_
    rw [hPc.1]
    refine nextMark_ok2 (w := false) (f := (pc x).2.1) hl (by have := r1; have := r2; unfold agF at *; omega) (fun k _ hk => hPc.mk hk) ?_
    rw [hPc.1]
    show (¬ nI (agF (pc x)) = 0 → wpX7_makeAgain_L90 Q c a (nI room) (nI x) p (nI (agF (pc x))) (nI (agT (pc x))) σ) ∧ (nI (agF (pc x)) = 0 → ((¬ nI (agT (pc x)) = nI (pc x).1.length → wpX7_makeAgain_L90 Q c a (nI room) (nI x) p (nI (agF (pc x))) (nI (agT (pc x))) σ) ∧ (nI (agT (pc x)) = nI (pc x).1.length → wpX7_makeAgain_L91 Q c a (nI room) (nI x) p (nI (agF (pc x))) (nI (agT (pc x))) 1 σ)))
    -- with the end found
    have L135 : (agW (pc x) room = true ∨ 4 ≤ room) → wpX7_makeAgain_L135 Q c a (nI x) p (nI (agF (pc x))) (nI (agE (pc x) room)) σ := by
      intro hr
      have h := h hr
      obtain ⟨e1, e2, e3⟩ := ag_end hna hr
      rw [datL_len] at e3
      have hcn : agE (pc x) room - agF (pc x) ≤ nAg (pc x) := by
        have h9 := cnt_all (f := (pc x).2.1) (a := agF (pc x)) (agE (pc x) room - agF (pc x))
        have h8 := h9.mpr (fun k k1 k2 => r3 k k1 (by omega))
        have s1 := cnt_split (f := (pc x).2.1) (a := 0) (m := agF (pc x)) ((pc x).1.length - agF (pc x))
        have s2 := cnt_split (f := (pc x).2.1) (a := 0 + agF (pc x)) (m := agE (pc x) room - agF (pc x)) ((pc x).1.length - agE (pc x) room)
        rw [show agF (pc x) + ((pc x).1.length - agF (pc x)) = (pc x).1.length by omega] at s1
        rw [show agE (pc x) room - agF (pc x) + ((pc x).1.length - agE (pc x) room) = (pc x).1.length - agF (pc x) by omega, Nat.zero_add] at s2
        rw [Nat.zero_add] at s1
        unfold nAg
        omega
      unfold wpX7_makeAgain_L135
      refine ⟨agE (pc x) room - agF (pc x) + 1, ma139 (wl := wl) (q := pc x) hS hb h45 (by omega) hw hwl hcp hca hA (by omega) e1 (by omega) (by rw [datL_len]; omega) (fun σ' g1 g2 g3 g4 g5 => h σ' g1 (hupd σ' _ ⟨?_, ?_, fun e => ?_, fun _ => g2⟩ g5) g4 (fun d d1 d2 d3 d4 => g5 d d1 (by omega) (by omega) d3 d4)) (agE (pc x) room - agF (pc x)) (agF (pc x)) σ (by omega) (Nat.le_refl _) (by rw [unT_0]; exact hPc) (fun _ _ => rfl) (fun _ _ _ => rfl)⟩
      · rw [g3 3 (by decide)]; exact ep0.1
      · rw [g3 4 (by decide)]; exact ep0.2.1
      · have e : (pc x).2.2.2 = true := e
        rw [hcf] at e
        cases e
    have L115 : agW (pc x) room = false → wpX7_makeAgain_L115 Q c a (nI room) (nI x) p (nI (agF (pc x))) (nI (agT (pc x))) σ := by
      intro ew
      unfold wpX7_makeAgain_L115
      refine pk_le 4 room (fun h4 => ?_) (fun h4 => hn ew (by omega))
      have e3 : nI room - 3 = nI (room - 3) := pk_sub (a := room) (b := 3) (by omega)
      rw [e3]
      refine fitting_ok (la := lasF (pc x).1) (by omega) (by omega) (by omega) (fun k k1 k2 => hPc.la (by omega)) ?_
      have ee : agE (pc x) room = fitN (lasF (pc x).1) (agF (pc x)) (agT (pc x) - agF (pc x)) (room - 3) (agF (pc x)) := by unfold agE; rw [ew, if_neg (by decide)]
      rw [← ee]
      exact L135 (Or.inr h4)
    have L90 : ¬ (agF (pc x) = 0 ∧ agT (pc x) = (pc x).1.length) → wpX7_makeAgain_L90 Q c a (nI room) (nI x) p (nI (agF (pc x))) (nI (agT (pc x))) σ := by
      intro hh
      unfold wpX7_makeAgain_L90 wpX7_makeAgain_L91
      exact brt rfl (L115 (decide_eq_false (fun h9 => hh ⟨h9.1, h9.2.1⟩)))
    refine ⟨fun hne => L90 (fun hh => hne (by rw [hh.1]; rfl)), fun he => ⟨fun hne => L90 (fun hh => hne (by rw [hh.2])), fun he2 => ?_⟩⟩
    have he : agF (pc x) = 0 := (nI_eq (a := agF (pc x)) (b := 0) (by omega) (by decide)).mp he
    have he2 : agT (pc x) = (pc x).1.length := (nI_eq (by omega) (by omega)).mp he2
    unfold wpX7_makeAgain_L91
    refine brf (by decide) ?_
    have hie : cnt (fun k => bit 512 (σ (p + 1) k)) 0 (agT (pc x) - 1 - 0) = cnt (lasF (pc x).1) 0 (agT (pc x) - 1) := by
      rw [Nat.sub_zero]
      exact cnt_congr _ (fun k k1 k2 => hPc.la (by omega))
    refine innerEnds_ok (a := 0) (by omega) (by omega) ?_
    have hcl := cnt_le (f := lasF (pc x).1) (a := 0) (agT (pc x) - 1)
    have e2 : ((2 : Int32) + nI (cnt (lasF (pc x).1) 0 (agT (pc x) - 1))) + nI (agT (pc x)) = nI (2 + cnt (lasF (pc x).1) 0 (agT (pc x) - 1) + agT (pc x)) := by
      show (nI 2 + _) + _ = _
      rw [nI_add, nI_add]
    rw [hie, e2]
    refine pk_le (2 + cnt (lasF (pc x).1) 0 (agT (pc x) - 1) + agT (pc x)) room (fun h9 => ?_) (fun h9 => L115 (decide_eq_false (by omega)))
    have ew : agW (pc x) room = true := decide_eq_true ⟨he, he2, h9⟩
    have ee : agE (pc x) room = agT (pc x) := by unfold agE; rw [ew, if_pos rfl]
    have := L135 (Or.inl ew)
    rw [ee] at this
    exact this
  have L8 : ∀ (m x i : Nat), x + m = v 5 → i = x - v 4 → v 4 ≤ x → (m = 0 → False) → frA pc m x = agX v pc → wpX7_makeAgain_L8 Q (m + 1) c a (nI room) (nI x) (nI i) σ := by
    intro m
    induction m with
    | zero => intro x i _ _ _ h0; exact absurd rfl h0
    | succ m ih =>
      intro x i hx hi hx4 _ hfr
      unfold wpX7_makeAgain_L8 wpX7_pieceAt
      rw [a15 (by omega), nI_clamp (by omega)]
      refine pk_le 16 i (fun hh => by omega) (fun _ => ⟨vin rfl (by omega) (by decide), ?_⟩)
      rintro _ rfl
      obtain ⟨m1, m2⟩ := hmk x hx4 (by omega)
      rw [m1]
      unfold frA at hfr
      refine ⟨fun hne => ?_, fun he => ?_⟩
      · rw [if_neg (fun hh => hne (by rw [hh]; rfl))] at hfr
        rw [hfr]
        exact L35
      · have he : nMk (pc x) = 0 := (nI_eq (a := nMk (pc x)) (b := 0) (by omega) (by decide)).mp he
        rw [if_pos he] at hfr
        rintro _ rfl _ rfl
        rw [nI_1, nI_1]
        refine ih (x + 1) (i + 1) (by omega) (by omega) (by omega) (fun h0 => ?_) hfr
        subst h0
        have e : agX v pc = x + 1 := hfr.symm
        have h9 : agX v pc ≤ y := hspec.2.1
        omega
  unfold wpX7_makeAgain
  rw [hS.1 4 (by decide) (by decide) (by decide) (by decide)]
  rintro _ rfl
  exact ⟨v 5 - v 4 + 1, L8 (v 5 - v 4) (v 4) 0 (by omega) (by omega) (Nat.le_refl _) (by omega) rfl⟩
