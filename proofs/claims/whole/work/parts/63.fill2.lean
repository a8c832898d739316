/-! PURE: a block is filled: all bearers, in the class -/
def fup {α : Type} (f : Nat → α) (k : Nat) (x : α) : Nat → α := fun j => if j = k then x else f j
theorem fup_s {α : Type} {f : Nat → α} {k : Nat} {x : α} : fup f k x k = x := if_pos rfl
theorem fup_o {α : Type} {f : Nat → α} {k j : Nat} {x : α} (h : j ≠ k) : fup f k x j = f j := if_neg h
def opp (B pl : Nat) : Nat := if pl < B then pl + B else pl - B
theorem opp_lt {B pl : Nat} (h : pl < 2 * B) : opp B pl < 2 * B ∧ opp B pl ≠ pl ∧ opp B (opp B pl) = pl := by
  unfold opp
  by_cases e : pl < B
  · rw [if_pos e, if_neg (by omega)]
    omega
  · rw [if_neg e, if_pos (by omega)]
    omega
def mkN (B pl : Nat) : Nat := if pl < B then 8 * pl else 8 * (pl - B) + 4
def LkC (σ : Sg) (B : Nat) (hs : Nat → Smd) (hr : Nat → Rmd) : Prop := ∀ pl, pl < 2 * B → SmC σ (9 + 113 * pl) (mkN B pl) (hs pl) ∧ RmC σ (51 + 113 * pl) (mkN B (opp B pl)) (fldS (hs (opp B pl))) (hr pl)
theorem LkC.of {σ σ' : Sg} {B : Nat} {hs : Nat → Smd} {hr : Nat → Rmd} (h : LkC σ B hs hr) (hd : ∀ d, 9 ≤ d → d < 9 + 113 * (2 * B) → σ' d = σ d) : LkC σ' B hs hr := fun pl hpl => ⟨(h pl hpl).1.of (fun d d1 d2 => hd d (by omega) (by omega)), (h pl hpl).2.of (fun d d1 d2 => hd d (by omega) (by omega))⟩
/-- fields may grow where nothing is there yet -/
def Grw (G G' : Nat → List Cel) (pc : Rpc) : Prop := ∀ x, G' x = G x ∨ (pc x = (false, fun _ => false) ∧ (G' x).length ≤ 240 ∧ ∀ q ∈ G' x, celOK q)
theorem RmC.grow {σ : Sg} {c mk : Nat} {G G' : Nat → List Cel} {r : Rmd} (h : RmC σ c mk G r) (hg : Grw G G' r.2.1) : RmC σ c mk G' r := by
  refine ⟨h.1, fun x x1 x2 => ?_, h.2.2⟩
  have hx := h.2.1 x x1 x2
  rcases hg x with e | ⟨e, e1, e2⟩
  · rw [e]; exact hx
  · rw [e] at hx ⊢
    obtain ⟨p1, p2, p3, p4, p5, p6⟩ := hx
    exact RpC.empty e1 e2 p1 (by rw [p3, cnt_0 240 (fun _ _ _ => rfl)]; rfl) (fun k hk => by have := p6 k hk; simpa using this)
abbrev Ost : Type := (Nat → Smd) × (Nat → Rmd) × List Int32 × List (Nat × Prt)
def bOf (B i : Nat) : Nat := if i < B then i else i - B
def fbT (p B g i : Nat) (s : Ost) : Fst := fbI (fldS (s.1 (opp B (p * B + bOf B i)))) (decide (i < B)) g (bOf B i) 250 (s.1 (p * B + bOf B i), s.2.1 (p * B + bOf B i), s.2.2.1, s.2.2.2)
def fbS (p B g i : Nat) (s : Ost) : Ost := (fup s.1 (p * B + bOf B i) (fbT p B g i s).1, fup s.2.1 (p * B + bOf B i) (fbT p B g i s).2.1, (fbT p B g i s).2.2.1, (fbT p B g i s).2.2.2)
def fbO (p B g : Nat) : Nat → Nat → Ost → Ost
  | 0, _, s => s
  | m + 1, i, s => fbO p B g m (i + 1) (fbS p B g i s)
def fil : Nat → List Int32
  | 0 => []
  | n + 1 => 255 :: List.replicate n 0
theorem fil_len : ∀ n, (fil n).length = n
  | 0 => rfl
  | n + 1 => by
    unfold fil
    rw [List.length_cons, List.length_replicate]
theorem fu20 {P a g : Nat} {Q : Sg → Prop} {σ0 : Sg} (hg : g ≤ 250) : ∀ (m : Nat) (σ : Sg) (bs : List Int32), bs.length + m = g → Air σ a bs → Frm a σ0 σ → (∀ σ' : Sg, Air σ' a (bs ++ List.replicate m 0) → Frm a σ0 σ' → Q σ') → wpX8_fillUp_L20 P Q (m + 1) a (nI g) (nI bs.length) σ := by
  intro m
  induction m with
  | zero =>
    intro σ bs hl hA hF h
    unfold wpX8_fillUp_L20
    rw [List.replicate_zero, List.append_nil] at h
    exact brt (nI_le (by omega) (by omega)) (h σ hA hF)
  | succ m ih =>
    intro σ bs hl hA hF h
    unfold wpX8_fillUp_L20
    refine brf (nI_ge (by omega) (by omega)) (put_ok hA (by omega) (fun σ1 g1 g2 => ?_))
    rintro _ rfl
    rw [nI_1]
    have hl1 : (bs ++ [(0 : Int32)]).length = bs.length + 1 := by simp
    have := ih σ1 (bs ++ [0]) (by omega) g1 (fun d d1 d2 => by rw [g2 d d1 d2, hF d d1 d2]) (fun σ' k1 k2 => h σ' ?_ k2)
    · rw [hl1] at this
      exact this
    · rw [List.replicate_succ]
      rw [List.append_assoc] at k1
      exact k1
theorem fillUp_ok {P a g : Nat} {σ : Sg} {bs : List Int32} {Q : Sg → Prop} (hg : g ≤ 250) (hl : bs.length ≤ g) (hA : Air σ a bs) (h : ∀ σ' : Sg, Air σ' a (bs ++ fil (g - bs.length)) → Frm a σ σ' → Q σ') : wpX8_fillUp P a (nI g) σ Q := by
  unfold wpX8_fillUp
  rw [hA.1]
  refine pk_le g bs.length (fun hh => ?_) (fun hh => ?_)
  · have e : g - bs.length = 0 := by omega
    rw [e] at h
    unfold wpX8_fillUp_L15
    rw [hA.1]
    rintro _ rfl
    exact ⟨1, fu20 hg 0 σ bs (by omega) hA (fun _ _ _ => rfl) h⟩
  · obtain ⟨n, hn⟩ : ∃ n, g - bs.length = n + 1 := ⟨g - bs.length - 1, by omega⟩
    rw [hn] at h
    refine put_ok hA (by omega) (fun σ1 g1 g2 => ?_)
    unfold wpX8_fillUp_L15
    rw [g1.1]
    rintro _ rfl
    have hl1 : (bs ++ [(255 : Int32)]).length = bs.length + 1 := by simp
    refine ⟨n + 1, fu20 (σ0 := σ1) hg n σ1 (bs ++ [255]) (by omega) g1 (fun _ _ _ => rfl) (fun σ' k1 k2 => h σ' ?_ (fun d d1 d2 => by rw [k2 d d1 d2, g2 d d1 d2]))⟩
    rw [List.append_assoc] at k1
    exact k1
def FrF (P a c2 : Nat) (σ σ' : Sg) : Prop := ∀ d, d < 9 ∨ 9 + 113 * P ≤ d → d ≠ a → d ≠ a + 1 → d ≠ c2 → d ≠ 5 → d ≠ 6 → σ' d = σ d
theorem fb15 {P B p a c2 g T : Nat} {key : Nat → Int32} {lo : Int} {Gd : Nat → Ost → Prop} {Q : Sg → Prop} {σ0 : Sg} (hB : σ0 0 0 = nI B) (hB1 : 1 ≤ B) (hB3 : B ≤ 3) (hP : P = 2 * B) (hp : p < 2) (hc2 : 9 + 113 * P ≤ c2) (ha : a = c2 + 1) (hg : g ≤ 250) (hlo : -(2 ^ 20 : Int) ≤ lo) (hk : σ0 4 = key) (hG1 : ∀ (i : Nat) (s : Ost), i < 2 * B → Gd i s → FsV T (ksS key (mkN B (p * B + bOf B i))) lo (s.1 (p * B + bOf B i), s.2.1 (p * B + bOf B i), s.2.2.1, s.2.2.2) ∧ Grw (fldS (s.1 (p * B + bOf B i))) (fldS (fbT p B g i s).1) (s.2.1 (opp B (p * B + bOf B i))).2.1) (hG2 : ∀ (i : Nat) (s : Ost), i < 2 * B → Gd i s → Gd (i + 1) (fbS p B g i s)) : ∀ (m i : Nat) (σ : Sg) (s : Ost), i + m = 2 * B → Gd i s → s.2.2.1.length ≤ g → Air σ a s.2.2.1 → LkC σ B s.1 s.2.1 → FrF P a c2 σ0 σ → σ c2 = σ0 c2 → (∀ (σ' : Sg) (t : Ost), t = fbO p B g m i s → t.2.2.1.length ≤ g → Air σ' a (if t.2.2.1.length = 0 then [] else t.2.2.1 ++ fil (g - t.2.2.1.length)) → LkC σ' B t.1 t.2.1 → Gd (2 * B) t → FrF P a c2 σ0 σ' → (∀ k, σ' c2 k = if k = 1 ∧ ¬ t.2.2.1.length = 0 then nI g else σ0 c2 k) → Q σ') → wpX8_fillBlock_L15 P sbT Q (m + 1) (nI p) c2 (nI g) a (nI i) σ := by
  intro m
  induction m with
  | zero =>
    intro i σ s hi hGd hlg hA hL hF hc h
    have hi : i = 2 * B := by omega
    subst hi
    have h0 : σ 0 0 = nI B := by rw [hF 0 (by omega) (by omega) (by omega) (by omega) (by omega) (by omega)]; exact hB
    unfold wpX8_fillBlock_L15
    have e2 : (2 : Int32) * nI B = nI (2 * B) := pk_mul 2 B
    rw [h0, e2, hA.1]
    refine brt (nI_le (Nat.le_refl _) (by omega)) (pk_le s.2.2.1.length 0 (fun hz => ?_) (fun hz => ?_))
    · have hz : s.2.2.1.length = 0 := by omega
      have en : s.2.2.1 = [] := List.eq_nil_of_length_eq_zero hz
      refine h σ s rfl hlg ?_ hL hGd hF (fun k => ?_)
      · rw [if_pos hz, ← en]; exact hA
      · rw [if_neg (fun hh => hh.2 hz), hc]
    · refine fillUp_ok hg hlg hA (fun σ1 g1 g2 => ?_)
      rintro _ rfl
      refine h _ s rfl hlg ?_ ?_ hGd ?_ (fun k => ?_)
      · rw [if_neg (by omega)]
        exact g1.of (by rw [up2_o (by omega)]) (up2_o (by omega))
      · exact hL.of (fun d d1 d2 => by rw [up2_o (by omega), g2 d (by omega) (by omega)])
      · intro d d1 d2 d3 d4 d5 d6
        rw [up2_o d4, g2 d d2 d3, hF d d1 d2 d3 d4 d5 d6]
      · rw [up2_e, g2 c2 (by omega) (by omega), hc]
        by_cases ek : k = 1
        · rw [if_pos ⟨rfl, ek⟩, if_pos ⟨ek, by omega⟩]
        · rw [if_neg (fun hh => ek hh.2), if_neg (fun hh => ek hh.1)]
  | succ m ih =>
    intro i σ s hi hGd hlg hA hL hF hc h
    have hi2 : i < 2 * B := by omega
    have h0 : σ 0 0 = nI B := by rw [hF 0 (by omega) (by omega) (by omega) (by omega) (by omega) (by omega)]; exact hB
    have hbO : bOf B i < B := by unfold bOf; split <;> omega
    obtain ⟨hV, hGr⟩ := hG1 i s hi2 hGd
    have hplP : p * B + bOf B i < 2 * B := by
      have : p * B ≤ 1 * B := Nat.mul_le_mul_right B (by omega)
      omega
    have h4 : σ 4 = key := by rw [hF 4 (by omega) (by omega) (by omega) (by omega) (by omega) (by omega)]; exact hk
    -- the bearer's turn
    have L59 : ∀ bd : Bool, bd = decide (i < B) → wpX8_fillBlock_L59 P sbT Q (wpX8_fillBlock_L15 P sbT Q (m + 1)) (nI p) c2 (nI g) a (nI i) (b01 bd) (nI (bOf B i)) σ := by
      intro bd hbd
      unfold wpX8_fillBlock_L59 wpX8_placeOf
      have hpo : (nI p * σ 0 0) + nI (bOf B i) = nI (p * B + bOf B i) := by
        rw [h0]
        have : nI p * nI B = nI (p * B) := pk_mul p B
        rw [this, nI_add]
      rw [hpo]
      refine ⟨vin rfl (by rw [hP]; exact hplP) (by omega), ?_⟩
      rintro _ rfl
      rw [nI_clamp (by omega)]
      refine ⟨252, fb81 (T := T) (mkS := mkN B (p * B + bOf B i)) (mkR := mkN B (opp B (p * B + bOf B i))) (G := fldS (s.1 (opp B (p * B + bOf B i)))) (σ0 := σ) (key := key) (lo := lo) h0 hB3 hP hp hbO rfl (by omega) hg hlo 250 0 σ (s.1 (p * B + bOf B i), s.2.1 (p * B + bOf B i), s.2.2.1, s.2.2.2) rfl (by omega) hlg hA (hL _ hplP).1 (hL _ hplP).2 hV h4 (fun _ _ _ _ _ _ => rfl) (fun σ1 t et t1 t2 t3 t4 t5 t6 t7 => ?_)⟩
      have et : t = fbT p B g i s := by rw [et, hbd]; rfl
      subst et
      unfold wpX8_fillBlock_L160
      rintro _ rfl
      rw [nI_1]
      obtain ⟨o1, o2, o3⟩ := opp_lt hplP
      refine ih (i + 1) σ1 (fbS p B g i s) (by omega) (hG2 i s hi2 hGd) t1 t3 (fun q hq => ?_) (fun d d1 d2 d3 d4 d5 d6 => ?_) ?_ (fun σ' t' et' => h σ' t' (by rw [et']; rfl))
      · have hfr : ∀ d, (d < 9 + 113 * (p * B + bOf B i) ∨ 122 + 113 * (p * B + bOf B i) ≤ d) → 9 ≤ d → d < 9 + 113 * (2 * B) → σ1 d = σ d := fun d d1 d2 d3 => t7 d d1 (by omega) (by omega) (by omega) (by omega)
        by_cases eq : q = p * B + bOf B i
        · subst eq
          show SmC σ1 _ _ (fup s.1 _ _ _) ∧ RmC σ1 _ _ (fldS (fup s.1 _ _ _)) (fup s.2.1 _ _ _)
          rw [fup_s, fup_s, fup_o o2]
          exact ⟨t4, t5⟩
        · show SmC σ1 _ _ (fup s.1 _ _ _) ∧ RmC σ1 _ _ (fldS (fup s.1 _ _ _)) (fup s.2.1 _ _ _)
          rw [fup_o eq, fup_o eq]
          refine ⟨(hL q hq).1.of (fun d d1 d2 => hfr d (by omega) (by omega) (by omega)), ?_⟩
          have hr1 : RmC σ1 (51 + 113 * q) (mkN B (opp B q)) (fldS (s.1 (opp B q))) (s.2.1 q) := (hL q hq).2.of (fun d d1 d2 => hfr d (by omega) (by omega) (by omega))
          by_cases eo : opp B q = p * B + bOf B i
          · have eq2 : q = opp B (p * B + bOf B i) := by
              rw [← eo]
              exact (opp_lt hq).2.2.symm
            rw [eo, fup_s]
            rw [eo] at hr1
            refine hr1.grow ?_
            rw [eq2]
            exact hGr
          · rw [fup_o eo]
            exact hr1
      · rw [t7 d (by omega) d2 d3 d5 d6, hF d d1 d2 d3 d4 d5 d6]
      · rw [t7 c2 (by omega) (by omega) (by omega) (by omega) (by omega), hc]
    unfold wpX8_fillBlock_L15
    have e2 : (2 : Int32) * nI B = nI (2 * B) := pk_mul 2 B
    rw [h0, e2]
    refine brf (nI_ge (by omega) (by omega)) (pk_le B i (fun hh => ?_) (fun hh => ?_))
    · unfold wpX8_fillBlock_L40
      refine brt rfl ?_
      rw [h0, pk_sub hh]
      have := L59 false (decide_eq_false (by omega)).symm
      rw [show bOf B i = i - B by unfold bOf; rw [if_neg (by omega)]] at this
      exact this
    · unfold wpX8_fillBlock_L40
      refine brf (by decide) ?_
      have := L59 true (decide_eq_true hh).symm
      rw [show bOf B i = i by unfold bOf; rw [if_pos hh]] at this
      exact this
theorem fillBlock_ok {P B p c2 g T : Nat} {σ : Sg} {lo : Int} {Gd : Nat → Ost → Prop} {hs : Nat → Smd} {hr : Nat → Rmd} {Q : Sg → Prop} (hB : σ 0 0 = nI B) (hB1 : 1 ≤ B) (hB3 : B ≤ 3) (hP : P = 2 * B) (hp : p < 2) (hc2 : 9 + 113 * P ≤ c2) (hg : g ≤ 250) (hlo : -(2 ^ 20 : Int) ≤ lo) (hG1 : ∀ (i : Nat) (s : Ost), i < 2 * B → Gd i s → FsV T (ksS (σ 4) (mkN B (p * B + bOf B i))) lo (s.1 (p * B + bOf B i), s.2.1 (p * B + bOf B i), s.2.2.1, s.2.2.2) ∧ Grw (fldS (s.1 (p * B + bOf B i))) (fldS (fbT p B g i s).1) (s.2.1 (opp B (p * B + bOf B i))).2.1) (hG2 : ∀ (i : Nat) (s : Ost), i < 2 * B → Gd i s → Gd (i + 1) (fbS p B g i s)) (hG0 : Gd 0 (hs, hr, [], [])) (hL : LkC σ B hs hr) (h : ∀ (σ' : Sg) (t : Ost), t = fbO p B g (2 * B) 0 (hs, hr, [], []) → t.2.2.1.length ≤ g → Air σ' (c2 + 1) (if t.2.2.1.length = 0 then [] else t.2.2.1 ++ fil (g - t.2.2.1.length)) → LkC σ' B t.1 t.2.1 → Gd (2 * B) t → FrF P (c2 + 1) c2 σ σ' → (∀ k, σ' c2 k = if k = 1 ∧ ¬ t.2.2.1.length = 0 then nI g else σ c2 k) → Q σ') : wpX8_fillBlock P sbT (nI p) c2 (nI g) σ Q := by
  unfold wpX8_fillBlock
  rintro _ rfl
  refine ⟨2 * B + 1, fb15 (T := T) (σ0 := up2 σ (c2 + 1) 1 0) (key := σ 4) (lo := lo) (Gd := Gd) (by rw [up2_o (by omega)]; exact hB) hB1 hB3 hP hp hc2 rfl hg hlo (up2_o (by omega)) hG1 hG2 (2 * B) 0 _ (hs, hr, [], []) (by omega) hG0 (by simp) ⟨by rw [up2_e, if_pos ⟨rfl, rfl⟩]; rfl, by simp, fun k v hk => by simp at hk⟩ (hL.of (fun d d1 d2 => up2_o (by omega))) (fun _ _ _ _ _ _ _ => rfl) rfl (fun σ' t et t1 t2 t3 t4 t5 t6 => h σ' t et t1 t2 t3 t4 (fun d d1 d2 d3 d4 d5 d6 => by rw [t5 d d1 d2 d3 d4 d5 d6, up2_o d2]) (fun k => by rw [t6 k, up2_o (by omega)]))⟩
