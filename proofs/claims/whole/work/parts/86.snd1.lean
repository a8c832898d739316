/-! PURE: the house: processes, what was sent; a peer sends, in the class -/
abbrev Car : Type := Nat × Nat × Bool × List Int32 × List (Nat × Prt)
abbrev Hm : Type := (Nat → Smd) × (Nat → Rmd) × (Nat → Car) × (Nat → Nat) × (Nat → Int32)
def CrC (σ : Sg) (cc : Nat) (c : Car) : Prop := σ cc 1 = nI c.2.1 ∧ σ cc 2 = nI c.1 ∧ σ cc 3 = b01 c.2.2.1 ∧ Air σ (cc + 1) c.2.2.2.1
def RepC (σ : Sg) (B : Nat) (y : Int32) (tk : Nat) (tp : List Int32) (M : Hm) : Prop := σ 0 0 = nI B ∧ σ 0 1 = y ∧ σ 0 9 = nI tk ∧ (∀ k, 10 ≤ k → k ≤ 15 → σ 0 k = M.2.2.2.2 k) ∧ (∀ k, k < 176 → σ 4 k = keyF y (M.2.2.2.2 10) k) ∧ (σ 0 3 = nI tp.length ∧ ∀ k, k < tp.length → σ 1 k = tp.getD k 0) ∧ LkC σ B M.1 M.2.1 ∧ (∀ j, j < 8 → CrC σ (10 + 113 * (2 * B) + 3 * j) (M.2.2.1 j)) ∧ ∀ p, p < 2 → σ 2 p = nI (M.2.2.2.1 p)
def pj (p tk : Nat) : Nat := 4 * p + tk % 4
def flT (B p g : Nat) (M : Hm) : Ost := fbO p B g (2 * B) 0 (M.1, M.2.1, [], [])
def flC (g : Nat) (t : Ost) : Car := if t.2.2.1.length = 0 then (0, 0, false, [], []) else (0, g, false, t.2.2.1 ++ fil (g - t.2.2.1.length), t.2.2.2)
def flM (B p g tk : Nat) (M : Hm) : Hm := if (M.2.2.1 (pj p tk)).1 = 0 then ((flT B p g M).1, (flT B p g M).2.1, fup M.2.2.1 (pj p tk) (flC g (flT B p g M)), M.2.2.2) else M
def sn1 (lost : Bool) (c : Car) : Car := (c.1 + 1, c.2.1, c.2.2.1 || !lost, c.2.2.2)
def fs1 (lost : Bool) (c : Car) : Bool := !lost && !c.2.2.1
def sn2 (turned : Bool) (c : Car) : Car := if ¬ c.2.2.1 = turned ∨ 3 ≤ c.1 then (0, 0, false, c.2.2.2) else c
def gl1 (lost : Bool) (gl : Nat → Int32) : Nat → Int32 := if lost then fup (fup gl 11 (gl 11 + 1)) 12 (gl 12 + 1) else fup gl 11 (gl 11 + 1)
def gl2 (n : Nat) (first : Bool) (gl : Nat → Int32) : Nat → Int32 := if first then fup gl 15 (gl 15 + nI n) else gl
def gl3 (turned : Bool) (gl : Nat → Int32) : Nat → Int32 := if turned then fup gl 13 (gl 13 + 1) else gl
def gl4 (turned : Bool) (c : Car) (gl : Nat → Int32) : Nat → Int32 := if c.2.2.1 = turned ∧ 3 ≤ c.1 then fup gl 14 (gl 14 + 1) else gl
def wkM (B p : Nat) (key : Nat → Int32) (first : Bool) (parts : List (Nat × Prt)) (s : Wst) : Wst := if first then wkL (1 - p) B key parts s else s
def sdA (lost : Bool) (p j : Nat) (c : Car) (M : Hm) : Hm := (M.1, M.2.1, fup M.2.2.1 j (sn1 lost c), fup M.2.2.2.1 p c.2.1, gl1 lost M.2.2.2.2)
def sdB (B p : Nat) (key : Nat → Int32) (first : Bool) (parts : List (Nat × Prt)) (M : Hm) : Hm := ((wkM B p key first parts (M.1, M.2.1)).1, (wkM B p key first parts (M.1, M.2.1)).2, M.2.2.1, M.2.2.2.1, gl2 parts.length first M.2.2.2.2)
def sdC (turned : Bool) (j : Nat) (M : Hm) : Hm := (M.1, M.2.1, fup M.2.2.1 j (sn2 turned (M.2.2.1 j)), M.2.2.2.1, gl4 turned (M.2.2.1 j) (gl3 turned M.2.2.2.2))
def sdM (B p tk : Nat) (key : Nat → Int32) (lost turned : Bool) (M : Hm) : Hm := if (M.2.2.1 (pj p tk)).2.1 = 0 then (M.1, M.2.1, M.2.2.1, fup M.2.2.2.1 p 0, M.2.2.2.2) else sdC turned (pj p tk) (sdB B p key (fs1 lost (M.2.2.1 (pj p tk))) (M.2.2.1 (pj p tk)).2.2.2.2 (sdA lost p (pj p tk) (M.2.2.1 (pj p tk)) M))
theorem ksI_key {key key' : Nat → Int32} (h : ∀ k, k < 176 → key k = key' k) : ksI key = ksI key' := by
  funext mk count k
  exact ksb_congr (fun _ _ => rfl) h (Nat.mod_lt _ (by decide))
theorem ksS_key {key key' : Nat → Int32} (h : ∀ k, k < 176 → key k = key' k) : ksS key = ksS key' := by
  funext mk c k
  exact ksb_congr (fun _ _ => rfl) h (Nat.mod_lt _ (by decide))
theorem wk1_key {p B : Nat} {key key' : Nat → Int32} {s : Wst} {q : Nat × Prt} (h : ksI key = ksI key') : wk1 p B key s q = wk1 p B key' s q := by
  unfold wk1 wkD
  rw [h]
theorem wkL_key {p B : Nat} {key key' : Nat → Int32} (h : ksI key = ksI key') : ∀ (r : List (Nat × Prt)) (s : Wst), wkL p B key r s = wkL p B key' r s
  | [], _ => rfl
  | q :: r, s => by
    show wkL p B key r (wk1 p B key s q) = wkL p B key' r (wk1 p B key' s q)
    rw [wk1_key h, wkL_key h r]
theorem OkW_key {T p B : Nat} {key key' : Nat → Int32} {s : Wst} {q : Nat × Prt} (h : ksI key = ksI key') (hO : OkW T p B key' s q) : OkW T p B key s q := by
  obtain ⟨h1, h2⟩ := hO
  refine ⟨h1, ?_⟩
  rw [h]
  exact h2
theorem CrC.of {σ σ' : Sg} {cc : Nat} {c : Car} (h : CrC σ cc c) (h0 : σ' cc = σ cc) (h1 : σ' (cc + 1) = σ (cc + 1)) (h2 : σ' (cc + 2) = σ (cc + 2)) : CrC σ' cc c := by
  obtain ⟨a, b, d, e⟩ := h
  exact ⟨by rw [h0]; exact a, by rw [h0]; exact b, by rw [h0]; exact d, e.of (by rw [h1]) h2⟩
theorem RepC.gl {σ : Sg} {B : Nat} {y : Int32} {tk : Nat} {tp : List Int32} {M : Hm} {k : Nat} {v : Int32} (h : RepC σ B y tk tp M) (h1 : 11 ≤ k) (h2 : k ≤ 15) : RepC (up2 σ 0 k v) B y tk tp (M.1, M.2.1, M.2.2.1, M.2.2.2.1, fup M.2.2.2.2 k v) := by
  obtain ⟨a1, a2, a3, a4, a5, ⟨a6, a7⟩, a8, a9, a10⟩ := h
  refine ⟨?_, ?_, ?_, fun j j1 j2 => ?_, fun j hj => ?_, ⟨?_, fun j hj => ?_⟩, a8.of (fun d d1 d2 => up2_o (by omega)), fun j hj => ?_, fun p hp => ?_⟩
  · rw [up2_e, if_neg (by omega)]; exact a1
  · rw [up2_e, if_neg (by omega)]; exact a2
  · rw [up2_e, if_neg (by omega)]; exact a3
  · rw [up2_e]
    show _ = fup M.2.2.2.2 k v j
    unfold fup
    by_cases e : j = k
    · rw [if_pos ⟨rfl, e⟩, if_pos e]
    · rw [if_neg (fun hh => e hh.2), if_neg e]; exact a4 j j1 j2
  · rw [up2_o (by decide)]
    show _ = keyF y (fup M.2.2.2.2 k v 10) j
    rw [fup_o (by omega)]
    exact a5 j hj
  · rw [up2_e, if_neg (by omega)]; exact a6
  · rw [up2_o (by decide)]; exact a7 j hj
  · exact (a9 j hj).of (up2_o (by omega)) (up2_o (by omega)) (up2_o (by omega))
  · rw [up2_o (by decide)]; exact a10 p hp
theorem RepC.cr {σ σ' : Sg} {B : Nat} {y : Int32} {tk : Nat} {tp : List Int32} {M : Hm} {j : Nat} {c : Car} (h : RepC σ B y tk tp M) (hj : j < 8) (hF : ∀ d, d ≠ 10 + 113 * (2 * B) + 3 * j → σ' d = σ d) (hc : CrC σ' (10 + 113 * (2 * B) + 3 * j) c) : RepC σ' B y tk tp (M.1, M.2.1, fup M.2.2.1 j c, M.2.2.2) := by
  obtain ⟨a1, a2, a3, a4, a5, ⟨a6, a7⟩, a8, a9, a10⟩ := h
  have e0 := hF 0 (by omega)
  refine ⟨by rw [e0]; exact a1, by rw [e0]; exact a2, by rw [e0]; exact a3, fun k k1 k2 => by rw [e0]; exact a4 k k1 k2, fun k hk => by rw [hF 4 (by omega)]; exact a5 k hk, ⟨by rw [e0]; exact a6, fun k hk => by rw [hF 1 (by omega)]; exact a7 k hk⟩, a8.of (fun d d1 d2 => hF d (by omega)), fun i hi => ?_, fun p hp => by rw [hF 2 (by omega)]; exact a10 p hp⟩
  show CrC σ' _ (fup M.2.2.1 j c i)
  by_cases e : i = j
  · subst e
    rw [fup_s]; exact hc
  · rw [fup_o e]
    exact (a9 i hi).of (hF _ (by omega)) (hF _ (by omega)) (hF _ (by omega))
theorem RepC.sh {σ : Sg} {B : Nat} {y : Int32} {tk : Nat} {tp : List Int32} {M : Hm} {p v : Nat} (h : RepC σ B y tk tp M) : RepC (up2 σ 2 p (nI v)) B y tk tp (M.1, M.2.1, M.2.2.1, fup M.2.2.2.1 p v, M.2.2.2.2) := by
  obtain ⟨a1, a2, a3, a4, a5, ⟨a6, a7⟩, a8, a9, a10⟩ := h
  have e0 : up2 σ 2 p (nI v) 0 = σ 0 := up2_o (by decide)
  refine ⟨by rw [e0]; exact a1, by rw [e0]; exact a2, by rw [e0]; exact a3, fun k k1 k2 => by rw [e0]; exact a4 k k1 k2, fun k hk => by rw [up2_o (by decide)]; exact a5 k hk, ⟨by rw [e0]; exact a6, fun k hk => by rw [up2_o (by decide)]; exact a7 k hk⟩, a8.of (fun d d1 d2 => up2_o (by omega)), fun j hj => (a9 j hj).of (up2_o (by omega)) (up2_o (by omega)) (up2_o (by omega)), fun q hq => ?_⟩
  rw [up2_e]
  show _ = nI (fup M.2.2.2.1 p v q)
  unfold fup
  by_cases e : q = p
  · rw [if_pos ⟨rfl, e⟩, if_pos e]
  · rw [if_neg (fun hh => e hh.2), if_neg e]; exact a10 q hq
theorem pj_lt {p tk : Nat} (hp : p < 2) : pj p tk < 8 := by unfold pj; omega
def sBit (p : Nat) (sent first : Bool) (x : Int32) : Int32 := if sent then (if first then (x ||| ((1 : Int32) <<< (nI p &&& 31))) ||| ((4 : Int32) <<< (nI p &&& 31)) else x ||| ((1 : Int32) <<< (nI p &&& 31))) else x
def snt (p tk : Nat) (M : Hm) : Bool := decide (0 < (M.2.2.1 (pj p tk)).2.1)
theorem csend_ok {P B p tk n g T z : Nat} {y g0 g1 f x4 : Int32} {σ : Sg} {M : Hm} {tp : List Int32} {lo : Int} {lost turned : Bool} {Gd1 : Nat → Ost → Prop} {Gd2 : List (Nat × Prt) → Wst → Prop} {Q : Int32 → Sg → Prop} (hB1 : 1 ≤ B) (hB3 : B ≤ 3) (hP : P = 2 * B) (hp : p < 2) (hR : RepC σ B y tk tp M) (hg : g ≤ 250) (hgg : (if p = 0 then g0 else g1) = nI g) (htk : tk < 2 ^ 31) (hlo : -(2 ^ 20 : Int) ≤ lo) (hlost : lost = decide (¬ (f >>> (nI p &&& 31)) &&& 1 = 0)) (hturn : turned = decide (¬ (f >>> ((nI p + 2) &&& 31)) &&& 1 = 0)) (hc2 : (M.2.2.1 (pj p tk)).1 ≤ 2) (hc0 : (M.2.2.1 (pj p tk)).1 = 0 → (M.2.2.1 (pj p tk)).2.1 = 0 ∧ (M.2.2.1 (pj p tk)).2.2.1 = false) (hcs : (M.2.2.1 (pj p tk)).2.1 ≤ 250)
    (hG0 : (M.2.2.1 (pj p tk)).1 = 0 → Gd1 0 (M.1, M.2.1, [], [])) (hG1 : ∀ (i : Nat) (s : Ost), i < 2 * B → Gd1 i s → FsV T (ksS (keyF y (M.2.2.2.2 10)) (mkN B (p * B + bOf B i))) lo (s.1 (p * B + bOf B i), s.2.1 (p * B + bOf B i), s.2.2.1, s.2.2.2) ∧ Grw (fldS (s.1 (p * B + bOf B i))) (fldS (fbT p B g i s).1) (s.2.1 (opp B (p * B + bOf B i))).2.1) (hG2 : ∀ (i : Nat) (s : Ost), i < 2 * B → Gd1 i s → Gd1 (i + 1) (fbS p B g i s))
    (hW0 : 0 < ((flM B p g tk M).2.2.1 (pj p tk)).2.1 → fs1 lost ((flM B p g tk M).2.2.1 (pj p tk)) = true → ((flM B p g tk M).2.2.1 (pj p tk)).2.2.2.1 = blB (fun b => fldS ((flM B p g tk M).1 (p * B + b))) ((flM B p g tk M).2.2.1 (pj p tk)).2.2.2.2 ++ fil z ∧ Gd2 ((flM B p g tk M).2.2.1 (pj p tk)).2.2.2.2 ((flM B p g tk M).1, (flM B p g tk M).2.1)) (hW1 : ∀ (q : Nat × Prt) (r : List (Nat × Prt)) (s : Wst), Gd2 (q :: r) s → OkW T (1 - p) B (keyF y (M.2.2.2.2 10)) s q ∧ Gd2 r (wk1 (1 - p) B (keyF y (M.2.2.2.2 10)) s q))
    (h : ∀ σ' : Sg, RepC σ' B y tk tp (sdM B p tk (keyF y (M.2.2.2.2 10)) lost turned (flM B p g tk M)) → wpX8_tick_L108 P sbT Q n g0 g1 f (sBit p (snt p tk (flM B p g tk M)) (fs1 lost ((flM B p g tk M).2.2.1 (pj p tk))) x4) (nI (p + 1)) σ') : wpX8_tick_L108 P sbT Q (n + 1) g0 g1 f x4 (nI p) σ := by
  have hj := pj_lt (tk := tk) hp
  obtain ⟨a1, a2, a3, a4, a5, ⟨a6, a7⟩, a8, a9, a10⟩ := hR
  have hR : RepC σ B y tk tp M := ⟨a1, a2, a3, a4, a5, ⟨a6, a7⟩, a8, a9, a10⟩
  have ej : (nI p * 4) + ((σ 0 9) &&& 3) = nI (pj p tk) := by
    have e1 : nI p * 4 = nI (p * 4) := pk_mul p 4
    have e2 : nI tk &&& 3 = nI (tk % 4) := pk_andN (n := tk) (by omega) (k := 2) (by decide)
    rw [a3, e1, e2, nI_add]
    unfold pj
    congr 1
    omega
  have hcc := a9 _ hj
  have eks : ksI (σ 4) = ksI (keyF y (M.2.2.2.2 10)) := ksI_key a5
  have ekS : ksS (σ 4) = ksS (keyF y (M.2.2.2.2 10)) := ksS_key a5
  -- after the filling
  have L158 : ∀ (σ1 : Sg), RepC σ1 B y tk tp (flM B p g tk M) → wpX8_tick_L158 P sbT Q (wpX8_tick_L108 P sbT Q n) g0 g1 f x4 (nI p) (10 + 113 * P + 3 * pj p tk) σ1 := by
    intro σ1 hR1
    have e10 : (flM B p g tk M).2.2.2.2 = M.2.2.2.2 := by
      unfold flM
      split <;> rfl
    have hsz : ((flM B p g tk M).2.2.1 (pj p tk)).2.1 ≤ 250 ∧ ((flM B p g tk M).2.2.1 (pj p tk)).1 ≤ 2 := by
      unfold flM
      split
      · show (fup M.2.2.1 (pj p tk) _ (pj p tk)).2.1 ≤ 250 ∧ (fup M.2.2.1 (pj p tk) _ (pj p tk)).1 ≤ 2
        rw [fup_s]
        unfold flC
        split
        · exact ⟨by decide, by decide⟩
        · exact ⟨hg, by show (0 : Nat) ≤ 2; decide⟩
      · exact ⟨hcs, hc2⟩
    generalize flM B p g tk M = M1 at *
    obtain ⟨c1, ec1⟩ : ∃ c1, c1 = M1.2.2.1 (pj p tk) := ⟨_, rfl⟩
    rw [← ec1] at hW0 hsz
    obtain ⟨s1, s2⟩ := hsz
    have hcr := hR1.2.2.2.2.2.2.2.1 _ hj
    rw [← ec1, ← hP] at hcr
    unfold wpX8_tick_L158
    rw [nI_clamp (n := p) (by omega), hcr.1]
    refine ⟨vin rfl hp (by decide), ?_⟩
    rintro _ rfl
    rw [up2_o (show 10 + 113 * P + 3 * pj p tk ≠ 2 by omega), hcr.1]
    refine pk_le c1.2.1 0 (fun hz => ?_) (fun hz => ?_)
    · have hz : c1.2.1 = 0 := by omega
      unfold wpX8_tick_L258
      rw [nI_1]
      rintro _ rfl
      have e1 : snt p tk M1 = false := decide_eq_false (by rw [← ec1]; omega)
      have e2 : sdM B p tk (keyF y (M.2.2.2.2 10)) lost turned M1 = (M1.1, M1.2.1, M1.2.2.1, fup M1.2.2.2.1 p 0, M1.2.2.2.2) := by
        unfold sdM
        rw [← ec1, if_pos hz]
      have := h (up2 σ1 2 p (nI c1.2.1)) (by rw [e2, hz]; exact hR1.sh)
      rw [e1] at this
      exact this
    · have e1 : snt p tk M1 = true := decide_eq_true (by rw [← ec1]; omega)
      have e2 : sdM B p tk (keyF y (M.2.2.2.2 10)) lost turned M1 = sdC turned (pj p tk) (sdB B p (keyF y (M.2.2.2.2 10)) (fs1 lost c1) c1.2.2.2.2 (sdA lost p (pj p tk) c1 M1)) := by
        unfold sdM
        rw [← ec1, if_neg (by omega)]
      rw [e1, e2, ← ec1] at h
      have hS := hR1.sh (p := p) (v := c1.2.1)
      have hcrS : CrC (up2 σ1 2 p (nI c1.2.1)) (10 + 113 * P + 3 * pj p tk) c1 := hcr.of (up2_o (by omega)) (up2_o (by omega)) (up2_o (by omega))
      generalize up2 σ1 2 p (nI c1.2.1) = σ2 at *
      rintro _ rfl
      -- the answer
      have L236 : ∀ (x : Int32) (σ5 : Sg), (∀ σ' : Sg, RepC σ' B y tk tp (sdC turned (pj p tk) (sdB B p (keyF y (M.2.2.2.2 10)) (fs1 lost c1) c1.2.2.2.2 (sdA lost p (pj p tk) c1 M1))) → wpX8_tick_L108 P sbT Q n g0 g1 f x (nI (p + 1)) σ') → RepC σ5 B y tk tp (sdB B p (keyF y (M.2.2.2.2 10)) (fs1 lost c1) c1.2.2.2.2 (sdA lost p (pj p tk) c1 M1)) → wpX8_tick_L236 P sbT Q (wpX8_tick_L108 P sbT Q n) g0 g1 f x (nI p) (10 + 113 * P + 3 * pj p tk) σ5 := by
        intro x σ5 hx hR5
        have em : (sdB B p (keyF y (M.2.2.2.2 10)) (fs1 lost c1) c1.2.2.2.2 (sdA lost p (pj p tk) c1 M1)).2.2.1 (pj p tk) = sn1 lost c1 := by
          show fup M1.2.2.1 (pj p tk) (sn1 lost c1) (pj p tk) = _
          exact fup_s
        generalize sdB B p (keyF y (M.2.2.2.2 10)) (fs1 lost c1) c1.2.2.2.2 (sdA lost p (pj p tk) c1 M1) = M5 at *
        have L255 : ∀ b : Bool, b = turned → wpX8_tick_L255 P sbT Q (wpX8_tick_L108 P sbT Q n) g0 g1 f x (nI p) (b01 b) (10 + 113 * P + 3 * pj p tk) σ5 := by
          intro b hb
          subst hb
          have L258 : ∀ σ6 : Sg, RepC σ6 B y tk tp (sdC b (pj p tk) M5) → wpX8_tick_L258 P sbT Q (wpX8_tick_L108 P sbT Q n) g0 g1 f x (nI p) σ6 := by
            intro σ6 hR6
            unfold wpX8_tick_L258
            rw [nI_1]
            rintro _ rfl
            exact hx σ6 hR6
          have L14 : ∀ σ6 : Sg, RepC σ6 B y tk tp (M5.1, M5.2.1, M5.2.2.1, M5.2.2.2.1, gl3 b M5.2.2.2.2) → wpX8_takeAnswer_L14 P (fun σ31 => wpX8_tick_L258 P sbT Q (wpX8_tick_L108 P sbT Q n) g0 g1 f x (nI p) σ31) (10 + 113 * P + 3 * pj p tk) (b01 b) σ6 := by
            intro σ6 hR6
            have hc6 := hR6.2.2.2.2.2.2.2.1 _ hj
            rw [← hP] at hc6
            have hc6 : CrC σ6 (10 + 113 * P + 3 * pj p tk) (M5.2.2.1 (pj p tk)) := hc6
            rw [em] at hc6
            -- it is empty
            have emp : ∀ (σ7 : Sg) (gl : Nat → Int32), RepC σ7 B y tk tp (M5.1, M5.2.1, M5.2.2.1, M5.2.2.2.1, gl) → CrC σ7 (10 + 113 * P + 3 * pj p tk) (sn1 lost c1) → (¬ (sn1 lost c1).2.2.1 = b ∨ 3 ≤ (sn1 lost c1).1) → gl = gl4 b (sn1 lost c1) (gl3 b M5.2.2.2.2) → wpX1_makeEmpty (10 + 113 * P + 3 * pj p tk) σ7 (fun σ8 => wpX8_tick_L258 P sbT Q (wpX8_tick_L108 P sbT Q n) g0 g1 f x (nI p) σ8) := by
              intro σ7 gl r7 c7 hor hgl
              unfold wpX1_makeEmpty
              rintro _ rfl _ rfl _ rfl
              refine L258 _ ?_
              unfold sdC
              rw [em]
              unfold sn2
              rw [if_pos hor, ← hgl]
              refine r7.cr hj (fun d hd => by rw [up2_o (by omega), up2_o (by omega), up2_o (by omega)]) ?_
              rw [← hP]
              refine ⟨?_, ?_, ?_, ?_⟩
              · rw [up2_e, if_neg (by omega), up2_e, if_neg (by omega), up2_e, if_pos ⟨rfl, rfl⟩]; rfl
              · rw [up2_e, if_neg (by omega), up2_e, if_pos ⟨rfl, rfl⟩]; rfl
              · rw [up2_e, if_pos ⟨rfl, rfl⟩]; rfl
              · refine c7.2.2.2.of ?_ ?_
                · rw [up2_o (by omega), up2_o (by omega), up2_o (by omega)]
                · rw [up2_o (by omega), up2_o (by omega), up2_o (by omega)]
            unfold wpX8_takeAnswer_L14
            rw [hc6.2.2.1, hc6.2.1]
            refine ⟨fun hh => ?_, fun hh => ?_⟩
            · have hcb : (sn1 lost c1).2.2.1 = b := by
                cases h1 : (sn1 lost c1).2.2.1 <;> cases b <;> first | rfl | (rw [h1] at hh; exact absurd hh (by decide))
              have hle : (sn1 lost c1).1 ≤ 3 := by
                show c1.1 + 1 ≤ 3
                omega
              refine pk_lt (sn1 lost c1).1 3 (fun hl => ?_) (fun hl => ?_)
              · refine L258 σ6 ?_
                unfold sdC
                rw [em]
                have e4 : gl4 b (sn1 lost c1) (gl3 b M5.2.2.2.2) = gl3 b M5.2.2.2.2 := by
                  unfold gl4
                  rw [if_neg (by omega)]
                have e5 : sn2 b (sn1 lost c1) = sn1 lost c1 := by
                  unfold sn2
                  rw [if_neg (fun h9 => h9.elim (fun h9 => h9 hcb) (fun h9 => by omega))]
                rw [e4, e5]
                exact hR6.cr hj (fun d hd => rfl) (by rw [← hP]; exact hc6)
              · rintro _ rfl
                have e4 : gl4 b (sn1 lost c1) (gl3 b M5.2.2.2.2) = fup (gl3 b M5.2.2.2.2) 14 (gl3 b M5.2.2.2.2 14 + 1) := by
                  unfold gl4
                  rw [if_pos ⟨hcb, hl⟩]
                have e14 : σ6 0 14 = gl3 b M5.2.2.2.2 14 := hR6.2.2.2.1 14 (by decide) (by decide)
                rw [e14]
                exact emp _ _ (hR6.gl (by decide) (by decide)) (hc6.of (up2_o (by omega)) (up2_o (by omega)) (up2_o (by omega))) (Or.inr hl) e4.symm
            · have hcb : ¬ (sn1 lost c1).2.2.1 = b := fun h9 => hh (by rw [h9])
              refine emp σ6 _ hR6 hc6 (Or.inl hcb) ?_
              unfold gl4
              rw [if_neg (fun h9 => hcb h9.1)]
          unfold wpX8_tick_L255 wpX8_takeAnswer
          refine br01 (fun eb => ?_) (fun eb => ?_)
          · refine L14 σ5 ?_
            unfold gl3
            rw [eb, if_neg (by decide)]
            exact hR5
          · rintro _ rfl
            refine L14 _ ?_
            have e13 : σ5 0 13 = M5.2.2.2.2 13 := hR5.2.2.2.1 13 (by decide) (by decide)
            rw [e13]
            unfold gl3
            rw [eb, if_pos rfl]
            exact hR5.gl (by decide) (by decide)
        unfold wpX8_tick_L236
        refine ⟨fun hh => ?_, fun hh => ?_⟩
        · have := L255 false (by rw [hturn, decide_eq_false (fun h9 => h9 hh)])
          exact this
        · have := L255 true (by rw [hturn, decide_eq_true hh])
          exact this
      have L201 : ∀ b : Bool, b = lost → wpX8_tick_L201 P sbT Q (wpX8_tick_L108 P sbT Q n) g0 g1 f (x4 ||| ((1 : Int32) <<< (nI p &&& 31))) (nI p) (10 + 113 * P + 3 * pj p tk) (b01 b) σ2 := by
        intro b hb
        subst hb
        unfold wpX8_tick_L201 wpX8_countSending
        rintro _ rfl _ rfl
        have e11 : σ2 0 11 = M1.2.2.2.2 11 := hS.2.2.2.1 11 (by decide) (by decide)
        rw [e11, up2_o (show 10 + 113 * P + 3 * pj p tk ≠ 0 by omega), hcrS.2.1, nI_1]
        have r2 := hS.gl (k := 11) (v := M1.2.2.2.2 11 + 1) (by decide) (by decide)
        have c2 : CrC (up2 σ2 0 11 (M1.2.2.2.2 11 + 1)) (10 + 113 * P + 3 * pj p tk) c1 := hcrS.of (up2_o (by omega)) (up2_o (by omega)) (up2_o (by omega))
        generalize up2 σ2 0 11 (M1.2.2.2.2 11 + 1) = σ3 at *
        -- one more sending
        have c3 : CrC (up2 σ3 (10 + 113 * P + 3 * pj p tk) 2 (nI (c1.1 + 1))) (10 + 113 * P + 3 * pj p tk) (c1.1 + 1, c1.2) := by
          obtain ⟨z1, z2, z3, z4⟩ := c2
          exact ⟨by rw [up2_e, if_neg (by omega)]; exact z1, by rw [up2_e, if_pos ⟨rfl, rfl⟩], by rw [up2_e, if_neg (by omega)]; exact z3, z4.of (by rw [up2_o (by omega)]) (up2_o (by omega))⟩
        have r3 := r2.cr (c := (c1.1 + 1, c1.2)) hj (σ' := up2 σ3 (10 + 113 * P + 3 * pj p tk) 2 (nI (c1.1 + 1))) (fun d hd => up2_o (by rw [hP]; exact hd)) (by rw [← hP]; exact c3)
        generalize up2 σ3 (10 + 113 * P + 3 * pj p tk) 2 (nI (c1.1 + 1)) = σ4 at *
        rw [c3.2.2.1]
        have nowork : fs1 b c1 = false → sdB B p (keyF y (M.2.2.2.2 10)) (fs1 b c1) c1.2.2.2.2 (sdA b p (pj p tk) c1 M1) = sdA b p (pj p tk) c1 M1 := by
          intro e
          rw [e]
          rfl
        refine br01 (fun eb => ?_) (fun eb => ?_)
        · subst eb
          -- it comes
          have c4 : CrC (up2 σ4 (10 + 113 * P + 3 * pj p tk) 3 1) (10 + 113 * P + 3 * pj p tk) (sn1 false c1) := by
            obtain ⟨z1, z2, z3, z4⟩ := c3
            refine ⟨by rw [up2_e, if_neg (by omega)]; exact z1, by rw [up2_e, if_neg (by omega)]; exact z2, ?_, z4.of (by rw [up2_o (by omega)]) (up2_o (by omega))⟩
            rw [up2_e, if_pos ⟨rfl, rfl⟩]
            show (1 : Int32) = b01 (c1.2.2.1 || true)
            rw [Bool.or_true]
            rfl
          have r4 : RepC (up2 σ4 (10 + 113 * P + 3 * pj p tk) 3 1) B y tk tp (sdA false p (pj p tk) c1 M1) := by
            have := r3.cr (c := sn1 false c1) hj (σ' := up2 σ4 (10 + 113 * P + 3 * pj p tk) 3 1) (fun d hd => up2_o (by rw [hP]; exact hd)) (by rw [← hP]; exact c4)
            have ef : fup (fup M1.2.2.1 (pj p tk) (c1.1 + 1, c1.2)) (pj p tk) (sn1 false c1) = fup M1.2.2.1 (pj p tk) (sn1 false c1) := by
              funext i
              unfold fup
              split <;> rfl
            have this : RepC (up2 σ4 (10 + 113 * P + 3 * pj p tk) 3 1) B y tk tp (M1.1, M1.2.1, fup (fup M1.2.2.1 (pj p tk) (c1.1 + 1, c1.2)) (pj p tk) (sn1 false c1), fup M1.2.2.2.1 p c1.2.1, fup M1.2.2.2.2 11 (M1.2.2.2.2 11 + 1)) := this
            rw [ef] at this
            exact this
          have L48 : ∀ z0 : Int32, vz z0 → (∀ σ5 : Sg, CrC σ5 (10 + 113 * P + 3 * pj p tk) (sn1 false c1) → RepC σ5 B y tk tp (sdA false p (pj p tk) c1 M1) → ((z0 = 0 → wpX8_tick_L236 P sbT Q (wpX8_tick_L108 P sbT Q n) g0 g1 f (x4 ||| ((1 : Int32) <<< (nI p &&& 31))) (nI p) (10 + 113 * P + 3 * pj p tk) σ5) ∧ (¬ (z0 = 0) → ∀ x4_28 : Int32, x4_28 = (x4 ||| ((1 : Int32) <<< (nI p &&& 31))) ||| ((4 : Int32) <<< (nI p &&& 31)) → wpX8_workOn P sbT (1 - nI p) (10 + 113 * P + 3 * pj p tk + 1) σ5 (fun σ29 => wpX8_tick_L236 P sbT Q (wpX8_tick_L108 P sbT Q n) g0 g1 f x4_28 (nI p) (10 + 113 * P + 3 * pj p tk) σ29)))) → wpX8_countSending_L48 P (fun r26 σ26 => ((r26 = 0 → wpX8_tick_L236 P sbT Q (wpX8_tick_L108 P sbT Q n) g0 g1 f (x4 ||| ((1 : Int32) <<< (nI p &&& 31))) (nI p) (10 + 113 * P + 3 * pj p tk) σ26) ∧ (¬ (r26 = 0) → ∀ x4_28 : Int32, x4_28 = (x4 ||| ((1 : Int32) <<< (nI p &&& 31))) ||| ((4 : Int32) <<< (nI p &&& 31)) → wpX8_workOn P sbT (1 - nI p) (10 + 113 * P + 3 * pj p tk + 1) σ26 (fun σ29 => wpX8_tick_L236 P sbT Q (wpX8_tick_L108 P sbT Q n) g0 g1 f x4_28 (nI p) (10 + 113 * P + 3 * pj p tk) σ29)))) (10 + 113 * P + 3 * pj p tk) z0 σ4 := by
            intro z0 hz0 hh
            unfold wpX8_countSending_L48
            rintro _ rfl
            exact ⟨hz0, hh _ c4 r4⟩
          refine br01' (fun ec => ?_) (fun ec => ?_)
          · have ec : c1.2.2.1 = false := ec
            have efs : fs1 false c1 = true := by unfold fs1; rw [ec]; rfl
            refine L48 1 (Or.inr rfl) (fun σ5 c5 r5 => brf (by decide) ?_)
            rintro _ rfl
            have e1p : 1 - nI p = nI (1 - p) := pk_sub (a := 1) (b := p) (by omega)
            rw [e1p]
            obtain ⟨w1, w2⟩ := hW0 (by omega) efs
            obtain ⟨b1, b2, b3, b4, b5, ⟨b6, b7⟩, b8, b9, b10⟩ := r5
            have eg : (sdA false p (pj p tk) c1 M1).2.2.2.2 = fup M1.2.2.2.2 11 (M1.2.2.2.2 11 + 1) := rfl
            have ek : ksI (σ5 4) = ksI (keyF y (M.2.2.2.2 10)) := ksI_key (fun k hk => by
              rw [b5 k hk, eg, fup_o (by decide), e10])
            unfold wpX8_workOn
            refine ⟨c1.2.2.2.2.length + 1, wo5 (P := P) (B := B) (p := 1 - p) (a := 10 + 113 * P + 3 * pj p tk + 1) (T := T) (z := z) (key := σ5 4) (bs := c1.2.2.2.1) (Gs := fun b => fldS (M1.1 (p * B + b))) (Gd := Gd2) (σ0 := σ5) b1 hB1 hB3 hP (by omega) (by omega) rfl c5.2.2.2 (fun q r s hs => ⟨OkW_key ek (hW1 q r s hs).1, by rw [wk1_key ek]; exact (hW1 q r s hs).2⟩) c1.2.2.2.2 0 0 σ5 (M1.1, M1.2.1) (fun j hj => by rw [w1, Nat.zero_add]) (by rw [w1, Nat.zero_add]) (by omega) w2 (fun b hb => ?_) b8 (fun _ _ _ _ _ => rfl) (fun j => ?_) (fun σ6 t et t1 t2 t3 t4 => ?_)⟩
            · rw [opp_peer (by omega) hb, show 1 - (1 - p) = p by omega]
            · by_cases e15 : j = 15
              · rw [if_pos e15, e15]
                show _ = _ + (0 : Int32)
                rw [Int32.add_zero]
              · rw [if_neg e15]
            · have et' : t = wkL (1 - p) B (keyF y (M.2.2.2.2 10)) c1.2.2.2.2 (M1.1, M1.2.1) := by rw [et, wkL_key ek]
              have eB : sdB B p (keyF y (M.2.2.2.2 10)) (fs1 false c1) c1.2.2.2.2 (sdA false p (pj p tk) c1 M1) = (t.1, t.2, fup M1.2.2.1 (pj p tk) (sn1 false c1), fup M1.2.2.2.1 p c1.2.1, fup (fup M1.2.2.2.2 11 (M1.2.2.2.2 11 + 1)) 15 (fup M1.2.2.2.2 11 (M1.2.2.2.2 11 + 1) 15 + nI c1.2.2.2.2.length)) := by
                rw [efs, et']
                rfl
              refine L236 _ σ6 (fun σ' hσ' => ?_) ?_
              · have := h σ' hσ'
                rw [efs] at this
                exact this
              · rw [eB]
                rw [Nat.zero_add] at t4
                have f0 : ∀ j, j ≠ 15 → σ6 0 j = σ5 0 j := fun j hj => by rw [t4 j, if_neg hj]
                refine ⟨by rw [f0 0 (by decide)]; exact b1, by rw [f0 1 (by decide)]; exact b2, by rw [f0 9 (by decide)]; exact b3, fun k k1 k2 => ?_, fun k hk => ?_, ⟨by rw [f0 3 (by decide)]; exact b6, fun k hk => by rw [t3 1 (by omega) (by omega) (by omega) (by omega)]; exact b7 k hk⟩, t2, fun j hj2 => ?_, fun q hq => by rw [t3 2 (by omega) (by omega) (by omega) (by omega)]; exact b10 q hq⟩
                · show σ6 0 k = fup _ 15 _ k
                  by_cases e15 : k = 15
                  · rw [e15, fup_s, t4 15, if_pos rfl, b4 15 (by decide) (by decide), eg]
                  · rw [fup_o e15, f0 k e15]
                    exact b4 k k1 k2
                · rw [t3 4 (by omega) (by omega) (by omega) (by omega)]
                  have e5 := b5 k hk
                  rw [eg] at e5
                  exact e5
                · exact (b9 j hj2).of (t3 _ (by omega) (by omega) (by omega) (by omega)) (t3 _ (by omega) (by omega) (by omega) (by omega)) (t3 _ (by omega) (by omega) (by omega) (by omega))
          · have ec : c1.2.2.1 = true := ec
            have efs : fs1 false c1 = false := by unfold fs1; rw [ec]; rfl
            refine L48 0 (Or.inl rfl) (fun σ5 c5 r5 => brt rfl (L236 _ σ5 (fun σ' hσ' => ?_) ?_))
            · have := h σ' hσ'
              rw [efs] at this
              exact this
            · rw [nowork efs]
              exact r5
        · subst eb
          have efs : fs1 true c1 = false := rfl
          rintro _ rfl
          refine brt rfl (L236 _ _ (fun σ' hσ' => ?_) ?_)
          · have := h σ' hσ'
            rw [efs] at this
            exact this
          · rw [nowork efs]
            have e12 : σ4 0 12 = M1.2.2.2.2 12 := r3.2.2.2.1 12 (by decide) (by decide)
            rw [e12]
            have es : sn1 true c1 = (c1.1 + 1, c1.2) := by
              unfold sn1
              rw [show (!true) = false from rfl, Bool.or_false]
            unfold sdA
            rw [es]
            exact r3.gl (k := 12) (by decide) (by decide)
      refine ⟨fun hh => ?_, fun hh => ?_⟩
      · exact L201 false (by rw [hlost, decide_eq_false (fun h9 => h9 hh)])
      · exact L201 true (by rw [hlost, decide_eq_true hh])
  unfold wpX8_tick_L108
  refine brf (nI_ge (a := p) (b := 2) hp (by decide)) ?_
  rw [ej, nI_clamp (n := pj p tk) (by omega)]
  refine ⟨vin rfl hj (by decide), ?_⟩
  rintro _ rfl
  have hcc' : CrC σ (10 + 113 * P + 3 * pj p tk) (M.2.2.1 (pj p tk)) := by rw [hP]; exact hcc
  rw [hcc'.2.1]
  refine ⟨fun hne => ?_, fun he => ?_⟩
  · have hne : ¬ (M.2.2.1 (pj p tk)).1 = 0 := fun hh => hne (by rw [hh]; rfl)
    have e1 : flM B p g tk M = M := by unfold flM; rw [if_neg hne]
    exact L158 σ (by rw [e1]; exact hR)
  · have he : (M.2.2.1 (pj p tk)).1 = 0 := (nI_eq (b := 0) (by omega) (by decide)).mp he
    have e1 : flM B p g tk M = ((flT B p g M).1, (flT B p g M).2.1, fup M.2.2.1 (pj p tk) (flC g (flT B p g M)), M.2.2.2) := by unfold flM; rw [if_pos he]
    obtain ⟨z1, z2⟩ := hc0 he
    have L155 : wpX8_tick_L155 P sbT Q (wpX8_tick_L108 P sbT Q n) g0 g1 f x4 (nI p) (10 + 113 * P + 3 * pj p tk) (nI g) (10 + 113 * P + 3 * pj p tk) (nI p) σ := by
      unfold wpX8_tick_L155
      refine fillBlock_ok (T := T) (lo := lo) (Gd := Gd1) (hs := M.1) (hr := M.2.1) a1 hB1 hB3 hP hp (by omega) hg hlo (fun i s hi hs => by rw [ekS]; exact hG1 i s hi hs) hG2 (hG0 he) a8 (fun σ1 t et t1 t2 t3 t4 t5 t6 => L158 σ1 ?_)
      have et : t = flT B p g M := et
      rw [e1, ← et]
      have e0 : σ1 0 = σ 0 := t5 0 (by omega) (by omega) (by omega) (by omega) (by omega) (by omega)
      refine ⟨by rw [e0]; exact a1, by rw [e0]; exact a2, by rw [e0]; exact a3, fun k k1 k2 => by rw [e0]; exact a4 k k1 k2, fun k hk => by rw [t5 4 (by omega) (by omega) (by omega) (by omega) (by omega) (by omega)]; exact a5 k hk, ⟨by rw [e0]; exact a6, fun k hk => by rw [t5 1 (by omega) (by omega) (by omega) (by omega) (by omega) (by omega)]; exact a7 k hk⟩, t3, fun j hj2 => ?_, fun q hq => by rw [t5 2 (by omega) (by omega) (by omega) (by omega) (by omega) (by omega)]; exact a10 q hq⟩
      show CrC σ1 _ (fup M.2.2.1 (pj p tk) (flC g t) j)
      by_cases e : j = pj p tk
      · rw [e, fup_s, ← hP]
        unfold flC
        by_cases ez : t.2.2.1.length = 0
        · rw [if_pos ez] at t2 ⊢
          refine ⟨?_, ?_, ?_, t2⟩
          · rw [t6 1, if_neg (fun hh => hh.2 ez), hcc'.1, z1]
          · rw [t6 2, if_neg (by omega), hcc'.2.1, he]
          · rw [t6 3, if_neg (by omega), hcc'.2.2.1, z2]
        · rw [if_neg ez] at t2 ⊢
          refine ⟨?_, ?_, ?_, t2⟩
          · rw [t6 1, if_pos ⟨rfl, ez⟩]
          · rw [t6 2, if_neg (by omega), hcc'.2.1, he]
          · rw [t6 3, if_neg (by omega), hcc'.2.2.1, z2]
      · rw [fup_o e]
        exact (a9 j hj2).of (t5 _ (by omega) (by omega) (by omega) (by omega) (by omega) (by omega)) (t5 _ (by omega) (by omega) (by omega) (by omega) (by omega) (by omega)) (t5 _ (by omega) (by omega) (by omega) (by omega) (by omega) (by omega))
    by_cases ep : p = 0
    · rw [if_pos ep] at hgg
      refine brt' (by rw [ep]; rfl) ?_
      rw [← hgg] at L155
      exact L155
    · rw [if_neg ep] at hgg
      refine brf' (fun hh => ep ((nI_eq (b := 0) (by omega) (by decide)).mp hh)) ?_
      rw [← hgg] at L155
      exact L155
