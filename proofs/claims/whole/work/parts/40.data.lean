/-! PURE: how much fits; DATA on the air, as the class writes them -/
def cst (la : Nat → Bool) (fr i : Nat) : Nat := if fr < i ∧ la (i - 1) = true then 2 else 1
def fitN (la : Nat → Bool) (fr : Nat) : Nat → Nat → Nat → Nat
  | 0, _, i => i
  | m + 1, left, i => if cst la fr i ≤ left then fitN la fr m (left - cst la fr i) (i + 1) else i
theorem fit1 {σ : Sg} {c fr up : Nat} {la : Nat → Bool} {Q : Int32 → Sg → Prop} (hu : up ≤ 240) (hla : ∀ k, fr ≤ k → k < up → bit 512 (σ (c + 1) k) = la k) : ∀ (m i left : Nat), i + m = up → fr ≤ i → left < 2 ^ 30 → Q (nI (fitN la fr m left i)) σ → wpX5_fitting_L6 Q (m + 1) c (nI fr) (nI up) (nI left) (nI i) σ := by
  intro m
  induction m with
  | zero =>
    intro i left hi hf hl h
    unfold wpX5_fitting_L6
    refine brt (nI_le (by omega) (by omega)) ?_
    rw [show up = i by omega]
    exact h
  | succ m ih =>
    intro i left hi hf hl h
    unfold wpX5_fitting_L6
    refine brf (nI_ge (by omega) (by omega)) ?_
    have fin : ∀ z : Nat, 0 < z → z < 3 → cst la fr i = z → wpX5_fitting_L39 Q (wpX5_fitting_L6 Q (m + 1)) c (nI fr) (nI up) (nI i) (nI z) (nI left) σ := by
      intro z z0 z3 ez
      unfold wpX5_fitting_L39
      rintro _ rfl
      unfold fitN at h
      rw [ez] at h
      by_cases hz : z ≤ left
      · rw [if_pos hz] at h
        rw [pk_sub hz]
        refine brt (nI_pos' (by omega)) ?_
        rintro _ rfl
        rw [nI_1]
        exact ih (i + 1) (left - z) (by omega) (by omega) (by omega) h
      · rw [if_neg hz] at h
        refine brf ?_ h
        intro hn
        exact Int32.not_lt.mpr hn (pk_sneg (by omega) (by omega))
    refine pk_le i fr (fun h1 => ?_) (fun h1 => ?_)
    · exact fin 1 (by decide) (by decide) (by unfold cst; rw [if_neg (by omega)])
    · have e1 : nI i - 1 = nI (i - 1) := pk_sub (a := i) (b := 1) (by omega)
      rw [e1]
      refine has_ok (by omega) ?_
      rw [hla (i - 1) (by omega) (by omega)]
      refine br01 (fun e => ?_) (fun e => ?_)
      · exact fin 1 (by decide) (by decide) (by unfold cst; rw [if_neg (by simp [e])])
      · exact fin 2 (by decide) (by decide) (by unfold cst; rw [if_pos ⟨h1, e⟩])
theorem fitting_ok {σ : Sg} {c fr up room : Nat} {la : Nat → Bool} {Q : Int32 → Sg → Prop} (hu : up ≤ 240) (hf : fr ≤ up) (hr : room < 2 ^ 30) (hla : ∀ k, fr ≤ k → k < up → bit 512 (σ (c + 1) k) = la k) (h : Q (nI (fitN la fr (up - fr) room fr)) σ) : wpX5_fitting c (nI fr) (nI up) (nI room) σ Q := ⟨up - fr + 1, fit1 hu hla (up - fr) fr room (by omega) (Nat.le_refl _) hr h⟩
theorem cnt_left {f : Nat → Bool} {a n : Nat} : cnt f a (n + 1) = b2n (f a) + cnt f (a + 1) n := by
  have := cnt_split (f := f) (a := a) (m := 1) n
  rw [Nat.add_comm 1 n] at this
  rw [this]
  congr 1
  show 0 + (if f (a + 0) then 1 else 0) = _
  unfold b2n
  rw [Nat.add_zero, Nat.zero_add]
/-- what fits is as much as its cost -/
theorem fitN_spec {la : Nat → Bool} {fr : Nat} : ∀ (m left i : Nat), i ≤ fitN la fr m left i ∧ fitN la fr m left i ≤ i + m
  | 0, _, _ => ⟨Nat.le_refl _, Nat.le_refl _⟩
  | m + 1, left, i => by
    unfold fitN
    have := fitN_spec (la := la) (fr := fr) m (left - cst la fr i) (i + 1)
    split
    · omega
    · omega
/-- LENGTHS -/
def lenL (la : Nat → Bool) : Nat → Nat → Nat → List Int32
  | 0, _, _ => []
  | m + 1, k, s => if la k then nI (k + 1 - s + (if 0 < cnt la (k + 1) m then 128 else 0)) :: lenL la m (k + 1) (k + 1) else lenL la m (k + 1) s
theorem lenL_len {la : Nat → Bool} : ∀ (m k s : Nat), (lenL la m k s).length = cnt la k m
  | 0, _, _ => rfl
  | m + 1, k, s => by
    unfold lenL
    rw [cnt_left]
    by_cases e : la k = true
    · rw [if_pos e, List.length_cons, lenL_len m, e, b2n, if_pos rfl, Nat.add_comm]
    · rw [if_neg e, lenL_len m]
      simp [b2n, e]
theorem wl1 {σ : Sg} {c a to : Nat} {la : Nat → Bool} {Q : Sg → Prop} (hu : to ≤ 240) (h0 : 1 ≤ to) (hca : c ≠ a ∧ c ≠ a + 1 ∧ c + 1 ≠ a) : ∀ (m i s : Nat) (σ : Sg) (bs : List Int32), i + m = to - 1 → s ≤ i → (∀ k, i ≤ k → k < to - 1 → bit 512 (σ (c + 1) k) = la k) → Air σ a bs → bs.length + cnt la i m ≤ 250 → (∀ σ' : Sg, Air σ' a (bs ++ lenL la m i s) → Frm a σ σ' → Q σ') → wpX5_writeLengths_L10 Q (m + 1) c a (nI to) (nI (cnt la i m)) (nI s) (nI i) σ := by
  have et : nI to - 1 = nI (to - 1) := pk_sub (a := to) (b := 1) h0
  intro m
  induction m with
  | zero =>
    intro i s σ bs hi hs hla hA hl h
    unfold wpX5_writeLengths_L10
    rw [et]
    refine brt (nI_le (by omega) (by omega)) (h σ ?_ (fun _ _ _ => rfl))
    rw [lenL, List.append_nil]
    exact hA
  | succ m ih =>
    intro i s σ bs hi hs hla hA hl h
    unfold wpX5_writeLengths_L10
    rw [et]
    refine brf (nI_ge (by omega) (by omega)) (has_ok (by omega) ?_)
    rw [hla i (Nat.le_refl _) (by omega)]
    rw [cnt_left] at hl ⊢
    have hcl := cnt_le (f := la) (a := i + 1) m
    refine br01 (fun e => ?_) (fun e => ?_)
    · unfold wpX5_writeLengths_L63
      rintro _ rfl
      rw [nI_1, e]
      rw [e] at hl
      show wpX5_writeLengths_L10 Q (m + 1) c a (nI to) (nI (0 + cnt la (i + 1) m)) (nI s) (nI (i + 1)) σ
      rw [Nat.zero_add]
      refine ih (i + 1) s σ bs (by omega) (by omega) (fun k h1 h2 => hla k (by omega) h2) hA (by omega) (fun σ' hA' hF => h σ' ?_ hF)
      rw [lenL, if_neg (by simp [e])]
      exact hA'
    · rintro _ rfl
      rw [e]
      rw [e] at hl
      have e5 : nI (b2n true + cnt la (i + 1) m) + (-1) = nI (cnt la (i + 1) m) := by
        rw [show b2n true + cnt la (i + 1) m = cnt la (i + 1) m + 1 from Nat.add_comm _ _]
        exact pk_m1 _
      rw [e5]
      have hb1 : b2n true = 1 := rfl
      rw [hb1] at hl
      have fin : ∀ z : Nat, (if 0 < cnt la (i + 1) m then 128 else 0) = z → wpX5_writeLengths_L53 Q (wpX5_writeLengths_L10 Q (m + 1)) c a (nI to) (nI (cnt la (i + 1) m)) (nI i) (nI z) (nI i + 1 - nI s) a σ := by
        intro z ez
        unfold wpX5_writeLengths_L53
        rw [nI_1, pk_sub (by omega), nI_add]
        refine put_ok hA (by omega) (fun σ' hA' hF' => ?_)
        rintro _ rfl
        unfold wpX5_writeLengths_L63
        rintro _ rfl
        rw [nI_1]
        refine ih (i + 1) (i + 1) σ' _ (by omega) (by omega) (fun k h1 h2 => ?_) hA' (by simp; omega) (fun σ'' hA'' hF'' => h σ'' ?_ (fun d h1 h2 => (hF'' d h1 h2).trans (hF' d h1 h2)))
        · rw [hF' (c + 1) hca.2.2 (by omega)]
          exact hla k (by omega) h2
        · rw [lenL, if_pos e, ez]
          rw [List.append_assoc] at hA''
          exact hA''
      refine pk_le (cnt la (i + 1) m) 0 (fun h1 => ?_) (fun h1 => ?_)
      · exact fin 0 (if_neg (by omega))
      · exact fin 128 (if_pos h1)
def byL (l : List Cel) : Nat → Nat → List Int32
  | 0, _ => []
  | m + 1, i => (gc l i).1 :: byL l m (i + 1)
theorem byL_len {l : List Cel} : ∀ (m i : Nat), (byL l m i).length = m
  | 0, _ => rfl
  | m + 1, i => by rw [byL, List.length_cons, byL_len m]
theorem wd1 {c a to : Nat} {l : List Cel} {ag : Nat → Bool} {Q : Sg → Prop} (hu : to ≤ l.length) (hca : c ≠ a ∧ c ≠ a + 1 ∧ c + 1 ≠ a) : ∀ (m i : Nat) (σ : Sg) (bs : List Int32), i + m = to → PcC σ c l ag → Air σ a bs → bs.length + m ≤ 250 → (∀ σ' : Sg, Air σ' a (bs ++ byL l m i) → Frm a σ σ' → Q σ') → wpX5_writeData_L163 Q (m + 1) c a (nI to) (nI i) σ := by
  intro m
  induction m with
  | zero =>
    intro i σ bs hi hP hA hl h
    have h240 := hP.2.1
    unfold wpX5_writeData_L163
    refine brt (nI_le (by omega) (by omega)) (h σ ?_ (fun _ _ _ => rfl))
    rw [byL, List.append_nil]
    exact hA
  | succ m ih =>
    intro i σ bs hi hP hA hl h
    have h240 := hP.2.1
    unfold wpX5_writeData_L163
    refine brf (nI_ge (by omega) (by omega)) (cell_ok (by omega) ?_)
    rw [hP.2.2.2.2 i (by omega), cod_b (hP.ok (by omega))]
    refine put_ok hA (by omega) (fun σ' hA' hF' => ?_)
    rintro _ rfl
    rw [nI_1]
    refine ih (i + 1) σ' _ (by omega) (hP.of ?_ ?_ ?_) hA' (by simp; omega) (fun σ'' hA'' hF'' => h σ'' ?_ (fun d h1 h2 => (hF'' d h1 h2).trans (hF' d h1 h2)))
    · rw [hF' c hca.1 hca.2.1]
    · rw [hF' c hca.1 hca.2.1]
    · rw [hF' (c + 1) hca.2.2 (by omega)]
    · rw [byL]
      rw [List.append_assoc] at hA''
      exact hA''
def lasF (l : List Cel) (k : Nat) : Bool := (gc l k).2.2.1
def hdI (part poll f e : Bool) (en : Nat) : Int32 := ((((128 + (if part then 64 else 0)) + (if poll then 32 else 0)) + (if f then 0 else 16)) + (if e then 0 else 8)) + (if 0 < en then 4 else 0)
def datL (l : List Cel) (x fr to : Nat) (part poll : Bool) : List Int32 := [hdI part poll (gc l fr).2.1 (lasF l (to - 1)) (cnt (lasF l) fr (to - 1 - fr)), nI (x % 64) + (if part = true ∧ to = l.length then 128 else 0)] ++ (if part then [nI fr] else []) ++ lenL (lasF l) (to - 1 - fr) fr fr ++ byL l (to - fr) fr
theorem datL_len {l : List Cel} {x fr to : Nat} {part poll : Bool} : (datL l x fr to part poll).length = 2 + b2n part + cnt (lasF l) fr (to - 1 - fr) + (to - fr) := by
  unfold datL
  simp only [List.length_append, lenL_len, byL_len, List.length_cons, List.length_nil]
  cases part <;> simp [b2n]
theorem writeData_ok {σ : Sg} {c a x fr to : Nat} {l : List Cel} {ag : Nat → Bool} {poll : Bool} {bs : List Int32} {Q : Sg → Prop} (hP : PcC σ c l ag) (hA : Air σ a bs) (hca : c ≠ a ∧ c ≠ a + 1 ∧ c + 1 ≠ a) (hx : x < 2 ^ 31) (hf : fr < to) (ht : to ≤ l.length) (hl : bs.length + (datL l x fr to (decide (0 < fr ∨ to < l.length)) poll).length ≤ 250) (h : ∀ σ' : Sg, Air σ' a (bs ++ datL l x fr to (decide (0 < fr ∨ to < l.length)) poll) → Frm a σ σ' → Q σ') : wpX5_writeData c a (nI x) (nI fr) (nI to) (b01 poll) σ Q := by
  have h240 := hP.2.1
  generalize ep : decide (0 < fr ∨ to < l.length) = part at hl h
  have hla : ∀ σ' : Sg, PcC σ' c l ag → ∀ k, k < l.length → bit 512 (σ' (c + 1) k) = lasF l k := fun σ' hP k hk => hP.la hk
  have en_c : ∀ k n, k + n ≤ l.length → cnt (fun k => bit 512 (σ (c + 1) k)) k n = cnt (lasF l) k n := fun k n hk => cnt_congr n (fun j h1 h2 => hla σ hP j (by omega))
  rw [datL_len] at hl
  have L150 : ∀ (σ1 : Sg) (b1 : List Int32), PcC σ1 c l ag → Air σ1 a b1 → b1.length + cnt (lasF l) fr (to - 1 - fr) + (to - fr) ≤ 250 → (∀ σ' : Sg, Air σ' a (b1 ++ lenL (lasF l) (to - 1 - fr) fr fr ++ byL l (to - fr) fr) → Frm a σ1 σ' → Q σ') → wpX5_writeData_L150 Q c a (nI fr) (nI to) (nI (cnt (lasF l) fr (to - 1 - fr))) σ1 := by
    intro σ1 b1 hP1 hA1 hl1 h1
    unfold wpX5_writeData_L150
    refine ⟨to - 1 - fr + 1, wl1 (σ := σ1) (la := lasF l) (by omega) (by omega) hca (to - 1 - fr) fr fr σ1 b1 (by omega) (Nat.le_refl _) (fun k h1 h2 => hla σ1 hP1 k (by omega)) hA1 (by omega) (fun σ2 hA2 hF2 => ?_)⟩
    refine ⟨to - fr + 1, wd1 ht hca (to - fr) fr σ2 _ (by omega) (hP1.of ?_ ?_ ?_) hA2 (by rw [List.length_append, lenL_len]; omega) (fun σ3 hA3 hF3 => h1 σ3 hA3 (fun d d1 d2 => (hF3 d d1 d2).trans (hF2 d d1 d2)))⟩
    · rw [hF2 c hca.1 hca.2.1]
    · rw [hF2 c hca.1 hca.2.1]
    · rw [hF2 (c + 1) hca.2.2 (by omega)]
  have L136 : ∀ (σ1 : Sg) (z1 z0 : Int32), PcC σ1 c l ag → Air σ1 a (bs ++ [hdI part poll (gc l fr).2.1 (lasF l (to - 1)) (cnt (lasF l) fr (to - 1 - fr))]) → Frm a σ σ1 → z1 + z0 = nI (x % 64) + (if part = true ∧ to = l.length then 128 else 0) → wpX5_writeData_L136 Q c a (nI fr) (nI to) (b01 part) (nI (cnt (lasF l) fr (to - 1 - fr))) z0 z1 a σ1 := by
    intro σ1 z1 z0 hP1 hA1 hF1 ez
    unfold wpX5_writeData_L136
    rw [ez]
    have hPF : ∀ σ2 : Sg, Frm a σ1 σ2 → PcC σ2 c l ag := fun σ2 hF => hP1.of (by rw [hF c hca.1 hca.2.1]) (by rw [hF c hca.1 hca.2.1]) (by rw [hF (c + 1) hca.2.2 (by omega)])
    refine put_ok hA1 (by simp; omega) (fun σ2 hA2 hF2 => br01 (fun e => ?_) (fun e => ?_))
    · rw [e] at hl
      refine L150 σ2 _ (hPF σ2 hF2) hA2 (by simp; simp [b2n] at hl; omega) (fun σ' hA' hF' => h σ' ?_ (fun d d1 d2 => ((hF' d d1 d2).trans (hF2 d d1 d2)).trans (hF1 d d1 d2)))
      unfold datL
      subst e
      simpa using hA'
    · rw [e] at hl
      refine put_ok hA2 (by simp; simp [b2n] at hl; omega) (fun σ3 hA3 hF3 => ?_)
      refine L150 σ3 _ (hPF σ3 (fun d d1 d2 => (hF3 d d1 d2).trans (hF2 d d1 d2))) hA3 (by simp; simp [b2n] at hl; omega) (fun σ' hA' hF' => h σ' ?_ (fun d d1 d2 => (((hF' d d1 d2).trans (hF3 d d1 d2)).trans (hF2 d d1 d2)).trans (hF1 d d1 d2)))
      unfold datL
      subst e
      simpa using hA'
  have L106 : ∀ z1 z0 : Int32, z1 + z0 = hdI part poll (gc l fr).2.1 (lasF l (to - 1)) (cnt (lasF l) fr (to - 1 - fr)) → wpX5_writeData_L106 Q c a (nI x) (nI fr) (nI to) (b01 part) (nI (cnt (lasF l) fr (to - 1 - fr))) z0 z1 a σ := by
    intro z1 z0 ez
    unfold wpX5_writeData_L106
    rw [ez, a63 hx]
    refine put_ok hA (by omega) (fun σ1 hA1 hF1 => ?_)
    have hP1 : PcC σ1 c l ag := hP.of (by rw [hF1 c hca.1 hca.2.1]) (by rw [hF1 c hca.1 hca.2.1]) (by rw [hF1 (c + 1) hca.2.2 (by omega)])
    refine br01 (fun e => ?_) (fun e => ?_)
    · unfold wpX5_writeData_L135
      exact L136 σ1 _ _ hP1 hA1 hF1 (by rw [if_neg (by simp [e])])
    · rw [hP1.1]
      refine ⟨fun hn => ?_, fun hn => ?_⟩
      · unfold wpX5_writeData_L135
        exact L136 σ1 _ _ hP1 hA1 hF1 (by rw [if_neg (fun h9 => hn (by rw [h9.2]))])
      · have : to = l.length := (nI_eq (by omega) (by omega)).mp hn
        exact L136 σ1 _ _ hP1 hA1 hF1 (by rw [if_pos ⟨e, this⟩])
  have L95 : ∀ z1 z0 : Int32, (z1 + z0) + (if 0 < cnt (lasF l) fr (to - 1 - fr) then 4 else 0) = hdI part poll (gc l fr).2.1 (lasF l (to - 1)) (cnt (lasF l) fr (to - 1 - fr)) → wpX5_writeData_L95 Q c a (nI x) (nI fr) (nI to) (b01 part) (nI (cnt (lasF l) fr (to - 1 - fr))) z0 z1 a σ := by
    intro z1 z0 ez
    have hcl := cnt_le (f := lasF l) (a := fr) (to - 1 - fr)
    unfold wpX5_writeData_L95
    refine pk_le (cnt (lasF l) fr (to - 1 - fr)) 0 (fun h1 => L106 _ _ ?_) (fun h1 => L106 _ _ ?_)
    · rw [if_neg (by omega)] at ez
      exact ez
    · rw [if_pos h1] at ez
      exact ez
  have L74 : ∀ z1 z0 : Int32, ((z1 + z0) + (if lasF l (to - 1) then 0 else 8)) + (if 0 < cnt (lasF l) fr (to - 1 - fr) then 4 else 0) = hdI part poll (gc l fr).2.1 (lasF l (to - 1)) (cnt (lasF l) fr (to - 1 - fr)) → wpX5_writeData_L74 Q c a (nI x) (nI fr) (nI to) (b01 part) (nI (cnt (lasF l) fr (to - 1 - fr))) z0 z1 a σ := by
    intro z1 z0 ez
    unfold wpX5_writeData_L74
    have e1 : nI to - 1 = nI (to - 1) := pk_sub (a := to) (b := 1) (by omega)
    rw [e1]
    refine has_ok (by omega) ?_
    rw [hla σ hP (to - 1) (by omega)]
    refine br01 (fun e => L95 _ _ ?_) (fun e => L95 _ _ ?_)
    · rw [e] at ez ⊢
      exact ez
    · rw [e] at ez ⊢
      exact ez
  have L56 : ∀ z1 z0 : Int32, (((z1 + z0) + (if (gc l fr).2.1 then 0 else 16)) + (if lasF l (to - 1) then 0 else 8)) + (if 0 < cnt (lasF l) fr (to - 1 - fr) then 4 else 0) = hdI part poll (gc l fr).2.1 (lasF l (to - 1)) (cnt (lasF l) fr (to - 1 - fr)) → wpX5_writeData_L56 Q c a (nI x) (nI fr) (nI to) (b01 part) (nI (cnt (lasF l) fr (to - 1 - fr))) z0 z1 a σ := by
    intro z1 z0 ez
    unfold wpX5_writeData_L56
    refine has_ok (by omega) ?_
    rw [hP.fi (by omega)]
    refine br01 (fun e => L74 _ _ ?_) (fun e => L74 _ _ ?_)
    · rw [e] at ez ⊢
      exact ez
    · rw [e] at ez ⊢
      exact ez
  have L18 : wpX5_writeData_L18 Q c a (nI x) (nI fr) (nI to) (b01 poll) (b01 part) σ := by
    unfold wpX5_writeData_L18
    refine innerEnds_ok (by omega) hf ?_
    rw [en_c fr (to - 1 - fr) (by omega)]
    have L44 : ∀ z1 z0 : Int32, z1 + z0 = 128 + (if part then 64 else 0) → wpX5_writeData_L44 Q c a (nI x) (nI fr) (nI to) (b01 poll) (b01 part) (nI (cnt (lasF l) fr (to - 1 - fr))) z0 z1 a σ := by
      intro z1 z0 ez
      unfold wpX5_writeData_L44
      rw [ez]
      refine br01 (fun e => L56 _ _ ?_) (fun e => L56 _ _ ?_)
      · rw [e]; rfl
      · rw [e]; rfl
    refine br01 (fun e => L44 _ _ ?_) (fun e => L44 _ _ ?_)
    · rw [e]; rfl
    · rw [e]; rfl
  unfold wpX5_writeData
  rw [hP.1]
  have L13 : part = true → wpX5_writeData_L13 Q c a (nI x) (nI fr) (nI to) (b01 poll) σ := by
    intro e
    unfold wpX5_writeData_L13
    rw [e] at L18
    exact L18
  refine pk_lt 0 fr (fun h1 => L13 ?_) (fun h1 => pk_le l.length to (fun h2 => ?_) (fun h2 => L13 ?_))
  · rw [← ep]; simp [h1]
  · have : part = false := by rw [← ep]; simp; omega
    rw [this] at L18
    exact L18
  · rw [← ep]; simp; omega
