/-! PURE: the reference: a block is laid -/
theorem mkPt_inv {G : Nat → List Cel} {s s' : Smd} {r r' : Rmd} {room : Nat} {pt : Prt} (e : mkPt G s r room = some (pt, s', r')) : (mkSb r.1 room = true ∧ pt = .inr (stP G r room) ∧ s' = s ∧ r' = (mksV r.1, r.2)) ∨ (mkSb r.1 room = false ∧ s.1 8 = 0 ∧ 0 < s.1 6 ∧ (agW (agQ s) room = true ∨ 4 ≤ room) ∧ pt = agP s room ∧ s' = agS s room ∧ r' = r) ∨ (mkSb r.1 room = false ∧ s.1 8 = 0 ∧ s.1 6 = 0 ∧ ¬ (s.2.2.2.2.2.1.length = 0 ∨ s.1 4 + 16 ≤ s.1 5 ∨ room < 3) ∧ pt = nwP s room ∧ s' = nwS s room ∧ r' = r) := by
  unfold mkPt at e
  by_cases h1 : mkSb r.1 room = true
  · rw [if_pos h1] at e
    cases e
    exact Or.inl ⟨h1, rfl, rfl, rfl⟩
  · rw [if_neg h1] at e
    have h1 : mkSb r.1 room = false := by simpa using h1
    by_cases h2 : ¬ s.1 8 = 0
    · rw [if_pos h2] at e
      cases e
    · rw [if_neg h2] at e
      have h2 : s.1 8 = 0 := Classical.not_not.mp h2
      by_cases h3 : 0 < s.1 6
      · rw [if_pos h3] at e
        by_cases h4 : agW (agQ s) room = true ∨ 4 ≤ room
        · rw [if_pos h4] at e
          cases e
          exact Or.inr (Or.inl ⟨h1, h2, h3, h4, rfl, rfl, rfl⟩)
        · rw [if_neg h4] at e
          cases e
      · rw [if_neg h3] at e
        by_cases h4 : s.2.2.2.2.2.1.length = 0 ∨ s.1 4 + 16 ≤ s.1 5 ∨ room < 3
        · rw [if_pos h4] at e
          cases e
        · rw [if_neg h4] at e
          cases e
          exact Or.inr (Or.inr ⟨h1, h2, by omega, h4, rfl, rfl, rfl⟩)
theorem nwP_B {s : Smd} {room : Nat} : fldS (nwS s room) (s.1 5) = (newL room s.2.2.2.2.2).1 ∧ prB (fldS (nwS s room)) (nwP s room) = datL (newL room s.2.2.2.2.2).1 (s.1 5) 0 (newL room s.2.2.2.2.2).1.length false (polB (newV s.1) (newL room s.2.2.2.2.2).2.1.length) := by
  have ef : fldS (nwS s room) (s.1 5) = (newL room s.2.2.2.2.2).1 := by
    unfold fldS nwS
    show (spu s.2.2.1 (s.1 5) _ (s.1 5)).1 = _
    rw [spu_s]
  refine ⟨ef, ?_⟩
  unfold nwP prB
  show datL (fldS (nwS s room) (s.1 5)) (s.1 5) 0 (newL room s.2.2.2.2.2).1.length (decide (0 < 0 ∨ (newL room s.2.2.2.2.2).1.length < (fldS (nwS s room) (s.1 5)).length)) _ = _
  rw [ef, decide_eq_false (by omega)]
theorem agP_B {s : Smd} {room : Nat} : fldS (agS s room) (agX s.1 s.2.2.1) = (agQ s).1 ∧ prB (fldS (agS s room)) (agP s room) = datL (agQ s).1 (agX s.1 s.2.2.1) (agF (agQ s)) (agE (agQ s) room) (decide (0 < agF (agQ s) ∨ agE (agQ s) room < (agQ s).1.length)) (polB (agU s room) s.2.2.2.2.2.1.length) := by
  have ef : fldS (agS s room) (agX s.1 s.2.2.1) = (agQ s).1 := by
    unfold fldS agS
    show (spu s.2.2.1 (agX s.1 s.2.2.1) _ (agX s.1 s.2.2.1)).1 = _
    rw [spu_s]
    rfl
  refine ⟨ef, ?_⟩
  unfold agP prB
  show datL (fldS (agS s room) (agX s.1 s.2.2.1)) (agX s.1 s.2.2.1) (agF (agQ s)) (agE (agQ s) room) (decide (0 < agF (agQ s) ∨ agE (agQ s) room < (fldS (agS s room) (agX s.1 s.2.2.1)).length)) _ = _
  rw [ef]
theorem newL_sz {room : Nat} {w : Wt} (hw : ¬ w.1.length = 0) (hr : 3 ≤ room) : 1 ≤ (newL room w).1.length ∧ (newL room w).1.length ≤ 240 ∧ (newL room w).1.length + cnt (lasF (newL room w).1) 0 ((newL room w).1.length - 1) ≤ room - 2 := by
  have hnp := mnF_pos (m := 240) (left := room - 2) (w := w) (by decide) (by omega) hw
  obtain ⟨h1, h2, h3⟩ := mnF_spec 240 (room - 2) [] w
  have es0 : cstL [] = 0 := rfl
  rw [es0] at h1
  unfold cstL at h1
  have h3 : (mnF 240 (room - 2) [] w).1.length ≤ 240 := by simpa using h3
  rw [Nat.zero_add] at h1
  exact ⟨hnp, h3, h1⟩
theorem stE_room {wh : Nat → Bool} {pe : Nat → List Ent} {room : Nat} : ∀ (m x : Nat) (es : List Ent), 2 + (enL es).length ≤ room → 2 + (enL (stE wh pe room m x es).2).length ≤ room := by
  intro m
  induction m with
  | zero => intro x es he; exact he
  | succ m ih =>
    intro x es he
    unfold stE
    split
    · exact ih _ _ he
    · split
      · exact he
      · next hh => exact ih _ _ (by rw [enL_app, List.length_append]; omega)
theorem mkPt_len {T room : Nat} {G : Nat → List Cel} {s s' : Smd} {r r' : Rmd} {pt : Prt} (e : mkPt G s r room = some (pt, s', r')) (hI : SI T s.1 s.2.2.1) : 1 ≤ (prB (fldS s') pt).length ∧ (prB (fldS s') pt).length ≤ room := by
  rcases mkPt_inv e with ⟨h1, h2, h3, h4⟩ | ⟨h1, h2, h3, h4, h5, h6, h7⟩ | ⟨h1, h2, h3, h4, h5, h6, h7⟩
  · have hm := of_decide_eq_true h1
    subst h2
    have epr : prB (fldS s') (.inr (stP G r room)) = stB (stP G r room).1 (stP G r room).2 := rfl
    rw [epr, stB_at.1]
    have := stE_room (wh := whl G (r.1 2) (r.1 3) r.2.1) (pe := pcE G r.2.1) (room := room) (r.1 4 - r.1 2) (r.1 2) [] (by show 2 + 0 ≤ room; omega)
    exact ⟨by omega, this⟩
  · subst h5 h6
    obtain ⟨k1, k2, k3, k4, k5⟩ := SI.ag hI h3 h4
    obtain ⟨z1, z2, z3⟩ := ag_end k5 h4
    rw [datL_len] at z3
    rw [agP_B.2, datL_len]
    exact ⟨by omega, z3⟩
  · subst h5 h6
    obtain ⟨z1, z2, z3⟩ := newL_sz (room := room) (w := s.2.2.2.2.2) (by omega) (by omega)
    rw [nwP_B.2, datL_len, show b2n false = 0 from rfl, Nat.sub_zero, Nat.sub_zero]
    exact ⟨by omega, by omega⟩
theorem rm_side {bd : Bool} {bk z : Int32} {left : Nat} (hl : left ≤ 250) (h1 : -(2 ^ 22 : Int) ≤ bk.toInt) (h2 : bk.toInt ≤ 2000) (hz : z = if bd = true ∧ bk < nI left then bk else nI left) : ((¬ (1 : Int32) ≤ z - 2) → rmN bd bk left = 0) ∧ ((1 : Int32) ≤ z - 2 → z - 2 = nI (rmN bd bk left) ∧ 1 ≤ rmN bd bk left ∧ 2 + rmN bd bk left ≤ left) := by
  have key : ∀ x : Int32, (1 : Int32) ≤ x ↔ (1 : Int) ≤ x.toInt := fun x => by
    constructor
    · intro h
      have h : ¬ x < 1 := Int32.not_lt.mpr h
      rw [lt_i] at h
      have h : ¬ x.toInt < (1 : Int) := h
      omega
    · intro h
      refine Int32.not_lt.mp ?_
      rw [lt_i]
      show ¬ x.toInt < (1 : Int)
      omega
  rw [key]
  unfold rmN
  by_cases e : bd = true ∧ bk < nI left
  · rw [if_pos e] at hz ⊢
    subst hz
    have hlt := lt_i.mp e.2
    rw [nI_toInt (by omega)] at hlt
    have es : (z - 2).toInt = z.toInt - 2 := sub_toInt (n := 2) (by omega) (by omega) (by decide)
    rw [es]
    by_cases h3 : z < 3
    · have h3' := lt_i.mp h3
      have h3' : z.toInt < (3 : Int) := h3'
      rw [if_pos h3]
      exact ⟨fun _ => rfl, fun hh => by omega⟩
    · rw [if_neg h3]
      have h3 : ¬ z.toInt < (3 : Int) := fun hh => h3 (lt_i.mpr hh)
      have ecl := bk_cl (bk := z) (by omega)
      have hc : (z.toNatClampNeg : Int) = z.toInt := by
        show ((z.toInt.toNat : Nat) : Int) = _
        omega
      refine ⟨fun hh => by omega, fun hh => ⟨?_, by omega, by omega⟩⟩
      have e2 : nI z.toNatClampNeg - 2 = nI (z.toNatClampNeg - 2) := pk_sub (a := z.toNatClampNeg) (b := 2) (by omega)
      rw [ecl] at e2
      exact e2
  · rw [if_neg e] at hz ⊢
    subst hz
    have es : (nI left - 2).toInt = (nI left).toInt - 2 := sub_toInt (n := 2) (by rw [nI_toInt (by omega)]; omega) (by rw [nI_toInt (by omega)]; omega) (by decide)
    rw [es, nI_toInt (by omega)]
    refine ⟨fun hh => by omega, fun hh => ⟨pk_sub (a := left) (b := 2) (by omega), by omega, by omega⟩⟩
def LdM (τ : Sg) (l : List Int32) : Prop := ∀ k, k < l.length → τ 72 k = l.getD k 0
theorem SnM.p8 {τ : Sg} {i : Nat} {z : Int32} {v : Nat → Nat} {bk : Int32} (h : SnM τ i v bk) : SnM (up2 τ 8 i z) i v z := by
  obtain ⟨a3, a4, a5, a6, a7, a8, a9, a10, a11, a12, a13⟩ := h
  refine ⟨?_, ?_, ?_, ?_, ?_, ?_, ?_, ?_, ?_, ?_, ?_⟩
  · rw [up2_o (by decide)]; exact a3
  · rw [up2_o (by decide)]; exact a4
  · rw [up2_o (by decide)]; exact a5
  · rw [up2_o (by decide)]; exact a6
  · rw [up2_o (by decide)]; exact a7
  · rw [up2_s]; exact pk_us
  · rw [up2_o (by decide)]; exact a9
  · rw [up2_o (by decide)]; exact a10
  · rw [up2_o (by decide)]; exact a11
  · rw [up2_o (by decide)]; exact a12
  · rw [up2_o (by decide)]; exact a13
theorem ly156 {p g b i u : Nat} {rd x7 : Int32} {l : List Int32} {Q : Int32 → Sg → Prop} {K5 : Int32 → Int32 → Int32 → Int32 → Sg → Prop} {K14 : Int32 → Int32 → Int32 → Int32 → Int32 → Sg → Prop} {K54 : Int32 → Int32 → Int32 → Int32 → Int32 → Int32 → Int32 → Sg → Prop} {τ0 : Sg} (hi : i < 6) (hl : u + 2 + l.length ≤ 250) (hO : OutM τ0 l) (h : ∀ τ' : Sg, (∀ j, j < l.length → τ' 72 (u + 2 + j) = l.getD j 0) → (∀ j, j < u + 2 → τ' 72 j = τ0 72 j) → (∀ c, c ≠ 72 → τ' c = τ0 c) → K54 (nI p) (nI g) (nI (u + (l.length + 2))) rd (nI b) (nI i) x7 (up2 τ' 8 i (τ' 8 i - nI (l.length + 2)))) : ∀ (m k : Nat) (τ : Sg), k + m = l.length → (∀ j, j < k → τ 72 (u + 2 + j) = l.getD j 0) → (∀ j, j < u + 2 → τ 72 j = τ0 72 j) → (∀ c, c ≠ 72 → τ c = τ0 c) → wpX9_lay_L156 Q K5 K14 K54 (m + 1) (nI p) (nI g) (nI u) rd (nI b) (nI i) x7 (nI l.length) (nI k) τ := by
  intro m
  induction m with
  | zero =>
    intro k τ hk h1 h2 h3
    unfold wpX9_lay_L156
    refine brt (nI_le (by omega) (by omega)) ?_
    have e2 : nI l.length + 2 = nI (l.length + 2) := nI_add l.length 2
    rw [e2, nI_add, nI_clamp (n := i) (by omega)]
    rintro _ rfl
    refine ⟨vin rfl hi (by decide), vin rfl hi (by decide), ?_⟩
    rintro _ rfl
    exact h τ (fun j hj => h1 j (by omega)) h2 h3
  | succ m ih =>
    intro k τ hk h1 h2 h3
    unfold wpX9_lay_L156
    have e5 : (nI u + 2) + nI k = nI (u + 2 + k) := by
      have : nI u + 2 = nI (u + 2) := nI_add u 2
      rw [this, nI_add]
    rw [e5, nI_clamp (n := u + 2 + k) (by omega), nI_clamp (n := k) (by omega), nI_1, h3 66 (by decide), hO k (by omega)]
    refine brf (nI_ge (by omega) (by omega)) ⟨vin rfl (by omega) (by decide), vin rfl (by omega) (by decide), ?_⟩
    rintro _ rfl _ rfl
    refine ih (k + 1) _ (by omega) (fun j hj => ?_) (fun j hj => ?_) (fun c hc => by rw [up2_o hc, h3 c hc])
    · rw [up2_e]
      by_cases ej : j = k
      · rw [if_pos ⟨rfl, by omega⟩, ej]
      · rw [if_neg (by omega)]
        exact h1 j (by omega)
    · rw [up2_e, if_neg (by omega)]
      exact h2 j hj
def LY2 : List Nat := [4, 5, 6, 7, 8, 9, 10, 12, 20, 21, 22, 23, 24, 25, 26, 27, 28, 29, 30, 31, 32, 38, 40, 43, 66, 72]
theorem mkPt_cl {G : Nat → List Cel} {s s' : Smd} {r r' : Rmd} {room : Nat} {pt : Prt} (e : mkPt G s r room = some (pt, s', r')) : r'.2 = r.2 ∧ r'.1 3 = r.1 3 := by
  rcases mkPt_inv e with ⟨h1, h2, h3, h4⟩ | ⟨h1, h2, h3, h4, h5, h6, h7⟩ | ⟨h1, h2, h3, h4, h5, h6, h7⟩
  · subst h4
    refine ⟨rfl, ?_⟩
    show mksV r.1 3 = _
    unfold mksV
    rw [vup_o (by decide), vup_o (by decide), vup_o (by decide)]
  · subst h7
    exact ⟨rfl, rfl⟩
  · subst h7
    exact ⟨rfl, rfl⟩
theorem ly54 {p b i g T : Nat} {rd : Int32} {bd : Bool} {ks : Nat → Nat → Int32} {lo : Int} {G : Nat → List Cel} {Q : Int32 → Sg → Prop} {K5 : Int32 → Int32 → Int32 → Int32 → Sg → Prop} {K14 : Int32 → Int32 → Int32 → Int32 → Int32 → Sg → Prop} {τ0 : Sg} (hp : p < 2) (hb : b < 3) (hip : i = 3 * p + b) (hg : g ≤ 250) (hlo : -(2 ^ 20 : Int) ≤ lo) (hrd : rd = if bd then 0 else 1) : ∀ (m k : Nat) (τ : Sg) (s : Fst), k + m = 250 → 3 * k ≤ s.2.2.1.length → s.2.2.1.length ≤ g → LdM τ s.2.2.1 → SmM τ i s.1 → RmM τ i G s.2.1 → FsV T ks lo s → clrP s.2.1.1 s.2.1.2.1 → knP s.2.1.2.1 → FrA LY2 i τ0 τ → (∀ (τ' : Sg) (t : Fst), t = fbI G bd g b m s → t.2.2.1.length ≤ g → LdM τ' t.2.2.1 → SmM τ' i t.1 → RmM τ' i G t.2.1 → FrA LY2 i τ0 τ' → K14 (nI p) (nI g) (nI t.2.2.1.length) rd (nI (b + 1)) τ') → wpX9_lay_L54 Q K5 K14 (m + 2) (nI p) (nI g) (nI s.2.2.1.length) rd (nI b) (nI i) 1 τ := by
  have hi : i < 6 := by omega
  intro m
  induction m with
  | zero =>
    intro k τ s hk h3 hg2
    omega
  | succ m ih =>
    intro k τ s hk h3 hg2 hL hS hR hV hcl hkn hF h
    obtain ⟨f1, f2, f3, f4, f5, f6, f7⟩ := hV
    have hV : FsV T ks lo s := ⟨f1, f2, f3, f4, f5, f6, f7⟩
    have stop : fb1 G bd g b s = none → wpX9_lay_L54 Q K5 K14 (m + 2) (nI p) (nI g) (nI s.2.2.1.length) rd (nI b) (nI i) 0 τ := by
      intro e
      have et : s = fbI G bd g b (m + 1) s := by rw [fbI, e]
      unfold wpX9_lay_L54
      rw [nI_1]
      refine brt rfl ?_
      rintro _ rfl
      exact h τ s et hg2 hL hS hR hF
    have L90 : ∀ z : Int32, z = (if bd = true ∧ s.1.2.1 < nI (g - s.2.2.1.length) then s.1.2.1 else nI (g - s.2.2.1.length)) → wpX9_lay_L90 Q K5 K14 (wpX9_lay_L54 Q K5 K14 (m + 2)) (nI p) (nI g) (nI s.2.2.1.length) rd (nI b) (nI i) z τ := by
      intro z hz
      obtain ⟨r1, r2⟩ := rm_side (bd := bd) (bk := s.1.2.1) (z := z) (left := g - s.2.2.1.length) (by omega) (by omega) f7 hz
      have zero : fb1 G bd g b s = none → wpX9_lay_L113 Q K5 K14 (wpX9_lay_L54 Q K5 K14 (m + 2)) (nI p) (nI g) (nI s.2.2.1.length) rd (nI b) (nI i) 0 τ := by
        intro e
        unfold wpX9_lay_L113 wpX9_lay_L125
        exact brt (by decide) (brt' rfl (stop e))
      unfold wpX9_lay_L90
      refine ⟨fun hh => ?_, fun hh => zero ?_⟩
      · obtain ⟨ez, er1, er2⟩ := r2 hh
        rw [ez]
        refine rmake_ok (T := T) (G := G) (s := s.1) (r := s.2.1) hp hb hip er1 (by omega) hS hR ⟨f1, f2, by omega⟩ f5 hcl hkn (fun e => zero ?_) (fun pt s' r' e τ1 q1 q2 q3 q4 => ?_)
        · unfold fb1
          rw [if_neg (by omega), e]
          rfl
        · have e2 : fb1 G bd g b s = some (fb2 b s (pt, s', r')) := by
            unfold fb1
            rw [if_neg (by omega), e]
            rfl
          obtain ⟨l1, l2⟩ := mkPt_len e f1
          obtain ⟨c1, c2⟩ := mkPt_cl e
          obtain ⟨n1, n2⟩ := hV.nx (g := g) (b := b) hlo (by omega) e l1 l2
          have n2 : (fb2 b s (pt, s', r')).2.2.1.length = s.2.2.1.length + 2 + (prB (fldS s') pt).length := n2
          unfold wpX9_lay_L113
          refine brf (nI_nle (by omega) (by omega)) ?_
          unfold wpX9_lay_L125
          refine brf' (by decide) ⟨vin rfl (by omega) (by decide), ?_⟩
          rw [nI_clamp (n := s.2.2.1.length) (by omega), nI_1, nI_clamp (n := s.2.2.1.length + 1) (by omega)]
          rintro _ rfl
          refine ⟨vin rfl (by omega) (by decide), ?_⟩
          rintro _ rfl
          have w1 : ∀ c, c ≠ 72 → up2 (up2 τ1 72 s.2.2.1.length (nI b)) 72 (s.2.2.1.length + 1) (nI (prB (fldS s') pt).length) c = τ1 c := fun c hc => by rw [up2_o hc, up2_o hc]
          have w2 : ∀ j, j < s.2.2.1.length → up2 (up2 τ1 72 s.2.2.1.length (nI b)) 72 (s.2.2.1.length + 1) (nI (prB (fldS s') pt).length) 72 j = τ1 72 j := fun j hj => by rw [up2_e, if_neg (by omega), up2_e, if_neg (by omega)]
          have w3 : up2 (up2 τ1 72 s.2.2.1.length (nI b)) 72 (s.2.2.1.length + 1) (nI (prB (fldS s') pt).length) 72 s.2.2.1.length = nI b := by rw [up2_e, if_neg (by omega), up2_e, if_pos ⟨rfl, rfl⟩]
          have w4 : up2 (up2 τ1 72 s.2.2.1.length (nI b)) 72 (s.2.2.1.length + 1) (nI (prB (fldS s') pt).length) 72 (s.2.2.1.length + 1) = nI (prB (fldS s') pt).length := by rw [up2_e, if_pos ⟨rfl, rfl⟩]
          have wF : FrA LY2 i τ0 (up2 (up2 τ1 72 s.2.2.1.length (nI b)) 72 (s.2.2.1.length + 1) (nI (prB (fldS s') pt).length)) := ((hF.tr (q4.mono (by decide))).up (by decide) (fun hh => absurd hh (by decide))).up (by decide) (fun hh => absurd hh (by decide))
          generalize up2 (up2 τ1 72 s.2.2.1.length (nI b)) 72 (s.2.2.1.length + 1) (nI (prB (fldS s') pt).length) = τ2 at *
          refine ⟨(prB (fldS s') pt).length + 1, ly156 (u := s.2.2.1.length) (l := prB (fldS s') pt) (τ0 := τ2) hi (by omega) (fun j hj => by rw [w1 66 (by decide)]; exact q3 j hj) (fun τ3 g1 g2 g3 => ?_) (prB (fldS s') pt).length 0 τ2 (by omega) (fun j hj => by omega) (fun j hj => rfl) (fun c hc => rfl)⟩
          have hs3 : SmM τ3 i s' := q1.of (fun c c1 c2 c3 => by rw [g3 c (by omega), w1 c (by omega)])
          have hr3 : RmM τ3 i G r' := q2.of (fun c c1 c2 => by rw [g3 c (by omega), w1 c (by omega)])
          have e8 : τ3 8 i = s'.2.1 := hs3.1.2.2.2.2.2.1
          rw [e8]
          have hs4 : SmM (up2 τ3 8 i (s'.2.1 - nI ((prB (fldS s') pt).length + 2))) i (payB s' (prB (fldS s') pt).length) := ⟨hs3.1.p8, hs3.2.1.of (fun c hc => up2_o (by omega)), hs3.2.2.1.of (fun c hc => up2_o (by omega)), hs3.2.2.2.of (fun c k1 k2 => up2_o (by omega))⟩
          have hr4 : RmM (up2 τ3 8 i (s'.2.1 - nI ((prB (fldS s') pt).length + 2))) i G r' := hr3.of (fun c k1 k2 => up2_o (by omega))
          have hF4 : FrA LY2 i τ0 (up2 τ3 8 i (s'.2.1 - nI ((prB (fldS s') pt).length + 2))) := by
            have hF3 : FrA LY2 i τ0 τ3 := wF.tr ⟨fun c hc => g3 c (fun e9 => hc (by rw [e9]; decide)), fun c k c1 c2 => by rw [g3 c (by omega)]⟩
            exact hF3.up (by decide) (fun _ => Nat.div_one i)
          have hL4 : LdM (up2 τ3 8 i (s'.2.1 - nI ((prB (fldS s') pt).length + 2))) (fb2 b s (pt, s', r')).2.2.1 := by
            intro j hj
            rw [n2] at hj
            rw [up2_o (by decide)]
            show τ3 72 j = (s.2.2.1 ++ nI b :: nI (prB (fldS s') pt).length :: prB (fldS s') pt).getD j 0
            rcases Nat.lt_or_ge j s.2.2.1.length with hj1 | hj1
            · rw [gD_l hj1, g2 j (by omega), w2 j hj1, q4.1 72 (by decide)]
              exact hL j hj1
            · rw [gD_r hj1]
              rcases Nat.lt_or_ge j (s.2.2.1.length + 1) with hj2 | hj2
              · have : j = s.2.2.1.length := by omega
                subst this
                rw [g2 _ (by omega), w3, Nat.sub_self]
                rfl
              · rcases Nat.lt_or_ge j (s.2.2.1.length + 2) with hj3 | hj3
                · have : j = s.2.2.1.length + 1 := by omega
                  subst this
                  rw [g2 _ (by omega), w4, Nat.add_sub_cancel_left]
                  rfl
                · obtain ⟨t, ht⟩ : ∃ t, j = s.2.2.1.length + 2 + t := ⟨j - (s.2.2.1.length + 2), by omega⟩
                  subst ht
                  rw [g1 t (by omega), show s.2.2.1.length + 2 + t - s.2.2.1.length = t + 1 + 1 by omega]
                  rfl
          have en : s.2.2.1.length + ((prB (fldS s') pt).length + 2) = (fb2 b s (pt, s', r')).2.2.1.length := by omega
          rw [en]
          refine ih (k + 1) _ (fb2 b s (pt, s', r')) (by omega) (by omega) (by omega) hL4 hs4 hr4 n1 ?_ ?_ hF4 (fun τ' t et => h τ' t ?_)
          · show clrP r'.1 r'.2.1
            intro x hx
            rw [c2] at hx
            rw [c1]
            exact hcl x hx
          · show knP r'.2.1
            rw [c1]
            exact hkn
          · rw [et, fbI, e2]
      · unfold fb1
        rw [if_pos (r1 hh)]
    unfold wpX9_lay_L54
    refine brf (by decide) ?_
    rw [pk_sub hg2]
    rintro _ rfl
    rw [nI_clamp (n := i) (by omega), hS.1.2.2.2.2.2.1]
    cases bd with
    | false =>
      have er : rd = 1 := hrd
      rw [er] at L90 ⊢
      exact brf' (by decide) (L90 _ (by rw [if_neg (fun hh => Bool.false_ne_true hh.1)]))
    | true =>
      have er : rd = 0 := hrd
      rw [er] at L90 ⊢
      refine brt' rfl ⟨vin rfl hi (by decide), fun hh => L90 _ ?_, fun hh => ⟨vin rfl hi (by decide), ?_⟩⟩
      · rw [if_neg (fun h9 => Int32.not_lt.mpr hh h9.2)]
      · rintro _ rfl
        exact L90 _ (by rw [if_pos ⟨rfl, Int32.not_le.mp hh⟩])
