/-! PURE: a block is worked on, in the class -/
abbrev Wst : Type := (Nat → Smd) × (Nat → Rmd)
def stX (ack : Nat) (es : List Ent) (s : Smd) : Smd := ((stF ack es (s.1, s.2.2.1, s.2.2.2.2)).1, s.2.1, (stF ack es (s.1, s.2.2.1, s.2.2.2.2)).2.1, s.2.2.2.1, (stF ack es (s.1, s.2.2.1, s.2.2.2.2)).2.2)
theorem stN_fld : ∀ (es : List Ent) (s : (Nat → Nat) × (Nat → Pce)) (x : Nat), ((stN es s).2 x).1 = (s.2 x).1
  | [], _, _ => rfl
  | e :: es, s, x => by
    show ((stN es (stN1 s e)).2 x).1 = _
    rw [stN_fld es]
    unfold stN1
    split
    · show (spu s.2 e.1 _ x).1 = _
      unfold spu
      split
      · next h => rw [h]; rfl
      · rfl
    · rfl
theorem stK_fld {es : List Ent} : ∀ (m y : Nat) (s : Sst) (x : Nat), ((stK es m y s).2.1 x).1 = (s.2.1 x).1
  | 0, _, _, _ => rfl
  | m + 1, y, s, x => by
    unfold stK
    rw [stK_fld m]
    split
    · unfold stK1
      show (spu s.2.1 y _ x).1 = _
      unfold spu
      split
      · next h => rw [h]; rfl
      · rfl
    · rfl
theorem stF_fld {ack : Nat} {es : List Ent} {s : Sst} {x : Nat} : ((stF ack es s).2.1 x).1 = (s.2.1 x).1 := by
  unfold stF
  split
  · rfl
  · unfold stM stM2 stM3
    show ((stN es _).2 x).1 = _
    rw [stN_fld]
    exact stK_fld _ _ _ _
theorem stX_fld {ack : Nat} {es : List Ent} {s : Smd} : fldS (stX ack es s) = fldS s := by
  funext x
  exact stF_fld
theorem tdM_fld {G : Nat → List Cel} {ks : Int32 → Nat → Int32} {x fr to : Nat} {poll : Bool} {sr : Smd × Rmd} : fldS (tdM G ks x fr to poll sr).1 = fldS sr.1 := by
  funext y
  unfold tdM
  split <;> rfl
def wkD (p B : Nat) (key : Nat → Int32) (s : Wst) (b : Nat) (d : Nat × Nat × Nat × Bool) : Smd × Rmd := tdM (fldS (s.1 (opp B (p * B + b)))) (ksI key (mkN B (opp B (p * B + b)))) d.1 d.2.1 d.2.2.1 d.2.2.2 (s.1 (p * B + b), s.2 (p * B + b))
def wk1 (p B : Nat) (key : Nat → Int32) (s : Wst) (q : Nat × Prt) : Wst := match q.2 with
  | .inl d => (fup s.1 (p * B + q.1) (wkD p B key s q.1 d).1, fup s.2 (p * B + q.1) (wkD p B key s q.1 d).2)
  | .inr t => (fup s.1 (p * B + q.1) (stX t.1 t.2 (s.1 (p * B + q.1))), s.2)
def wkL (p B : Nat) (key : Nat → Int32) : List (Nat × Prt) → Wst → Wst
  | [], s => s
  | q :: r, s => wkL p B key r (wk1 p B key s q)
def blP (Gs : Nat → Nat → List Cel) (q : Nat × Prt) : List Int32 := nI q.1 :: nI (prB (Gs q.1) q.2).length :: prB (Gs q.1) q.2
def blB (Gs : Nat → Nat → List Cel) : List (Nat × Prt) → List Int32
  | [] => []
  | q :: r => blP Gs q ++ blB Gs r
theorem blB_app {Gs : Nat → Nat → List Cel} : ∀ a b, blB Gs (a ++ b) = blB Gs a ++ blB Gs b
  | [], _ => rfl
  | q :: a, b => by
    show blP Gs q ++ blB Gs (a ++ b) = (blP Gs q ++ blB Gs a) ++ blB Gs b
    rw [blB_app a b, List.append_assoc]
/-- what the work on DATA needs -/
def OkD (T : Nat) (G : Nat → List Cel) (ks : Int32 → Nat → Int32) (s : Smd) (r : Rmd) (d : Nat × Nat × Nat × Bool) : Prop := ObV s.2.2.2.1 s.2.2.2.2.1 s.2.2.2.2.2 ∧ RvV r.1 ∧ r.1 7 ≤ 1 ∧ wfF (G d.1) ∧ d.2.2.1 ≤ (G d.1).length ∧ d.2.1 < d.2.2.1 ∧ r.1 2 ≤ d.1 + 32 ∧ d.1 < r.1 2 + 31 ∧ d.1 + 1 < 2 ^ 20 ∧ ∃ Gd : Dst → Prop, (r.1 2 ≤ d.1 → Gd (raiV G (pcu r.2.1 d.1 ((r.2.1 d.1).1 || decide (d.2.2.1 = (G d.1).length)) (orT (r.2.1 d.1).2 d.2.1 d.2.2.1)) (novV r.2.1 d.1 d.2.1 d.2.2.1 r.1), r.2.2.1, r.2.2.2, s.2.2.2.2)) ∧ (∀ t : Dst, Gd t → whl G (t.1 2) (t.1 3) (pcu r.2.1 d.1 ((r.2.1 d.1).1 || decide (d.2.2.1 = (G d.1).length)) (orT (r.2.1 d.1).2 d.2.1 d.2.2.1)) (t.1 2) = true → DlV G (pcu r.2.1 d.1 ((r.2.1 d.1).1 || decide (d.2.2.1 = (G d.1).length)) (orT (r.2.1 d.1).2 d.2.1 d.2.2.1)) t) ∧ (∀ t : Dst, Gd t → whl G (t.1 2) (t.1 3) (pcu r.2.1 d.1 ((r.2.1 d.1).1 || decide (d.2.2.1 = (G d.1).length)) (orT (r.2.1 d.1).2 d.2.1 d.2.2.1)) (t.1 2) = true → Gd (dlS G ks s.2.2.2.1 t)) ∧ (∀ t : Dst, Gd t → RvB t.1)
/-- what the work on a STATUS needs -/
def OkT (T : Nat) (s : Smd) (t : Nat × List Ent) : Prop := EsB (s.1 4) t.2 ∧ t.2.length < 128 ∧ s.1 4 ≤ t.1 + 47 ∧ t.1 ≤ s.1 5 ∧ SI T s.1 s.2.2.1 ∧ T + t.2.length < 2 ^ 20 ∧ ObV s.2.2.2.1 s.2.2.2.2.1 s.2.2.2.2.2
def OkW (T p B : Nat) (key : Nat → Int32) (s : Wst) (q : Nat × Prt) : Prop := q.1 < B ∧ match q.2 with
  | .inl d => OkD T (fldS (s.1 (opp B (p * B + q.1)))) (ksI key (mkN B (opp B (p * B + q.1)))) (s.1 (p * B + q.1)) (s.2 (p * B + q.1)) d
  | .inr t => OkT T (s.1 (p * B + q.1)) t
theorem LkC.put {σ σ' : Sg} {B pl : Nat} {hs : Nat → Smd} {hr : Nat → Rmd} {s : Smd} {r : Rmd} (h : LkC σ B hs hr) (hpl : pl < 2 * B) (hf : fldS s = fldS (hs pl)) (h1 : SmC σ' (9 + 113 * pl) (mkN B pl) s) (h2 : RmC σ' (51 + 113 * pl) (mkN B (opp B pl)) (fldS (hs (opp B pl))) r) (hd : ∀ d, (d < 9 + 113 * pl ∨ 122 + 113 * pl ≤ d) → 9 ≤ d → d < 9 + 113 * (2 * B) → σ' d = σ d) : LkC σ' B (fup hs pl s) (fup hr pl r) := by
  intro q hq
  obtain ⟨o1, o2, o3⟩ := opp_lt hpl
  by_cases e : q = pl
  · subst e
    rw [fup_s, fup_s, fup_o o2]
    exact ⟨h1, h2⟩
  · rw [fup_o e, fup_o e]
    refine ⟨(h q hq).1.of (fun d d1 d2 => hd d (by omega) (by omega) (by omega)), ?_⟩
    have hr1 : RmC σ' (51 + 113 * q) (mkN B (opp B q)) (fldS (hs (opp B q))) (hr q) := (h q hq).2.of (fun d d1 d2 => hd d (by omega) (by omega) (by omega))
    by_cases eo : opp B q = pl
    · rw [eo, fup_s, hf]
      rw [eo] at hr1
      exact hr1
    · rw [fup_o eo]
      exact hr1
theorem opp_peer {p B b : Nat} (hp : p < 2) (hb : b < B) : opp B (p * B + b) = (1 - p) * B + b := by
  have : p = 0 ∨ p = 1 := by omega
  unfold opp
  rcases this with rfl | rfl
  · rw [Nat.zero_mul, Nat.zero_add, if_pos hb, Nat.sub_zero, Nat.one_mul]
    omega
  · rw [Nat.one_mul, if_neg (by omega), Nat.sub_self, Nat.zero_mul]
    omega
theorem wk1_opp {p B : Nat} {key : Nat → Int32} {s : Wst} {q : Nat × Prt} {b : Nat} (hp : p < 2) (hq : q.1 < B) (hb : b < B) : (wk1 p B key s q).1 (opp B (p * B + b)) = s.1 (opp B (p * B + b)) := by
  have hne : opp B (p * B + b) ≠ p * B + q.1 := by
    rw [opp_peer hp hb]
    have : p = 0 ∨ p = 1 := by omega
    rcases this with rfl | rfl
    · omega
    · omega
  unfold wk1
  split
  · exact fup_o hne
  · exact fup_o hne
theorem stB_at {ack : Nat} {es : List Ent} : (stB ack es).length = 2 + (enL es).length ∧ (stB ack es).getD 0 0 = nI es.length ∧ (stB ack es).getD 1 0 = nI (ack % 64) ∧ ∀ k, (stB ack es).getD (2 + k) 0 = (enL es).getD k 0 := by
  refine ⟨?_, rfl, rfl, fun k => ?_⟩
  · unfold stB
    rw [List.length_cons, List.length_cons]
    omega
  · rw [Nat.add_comm 2 k]
    rfl
theorem wo5 {P B p a T z : Nat} {key : Nat → Int32} {bs : List Int32} {Gs : Nat → Nat → List Cel} {Gd : List (Nat × Prt) → Wst → Prop} {Q : Sg → Prop} {σ0 : Sg} (hB : σ0 0 0 = nI B) (hB1 : 1 ≤ B) (hB3 : B ≤ 3) (hP : P = 2 * B) (hp : p < 2) (ha : 9 + 113 * P ≤ a) (hk : σ0 4 = key) (hA0 : Air σ0 a bs) (hG1 : ∀ (q : Nat × Prt) (r : List (Nat × Prt)) (s : Wst), Gd (q :: r) s → OkW T p B key s q ∧ Gd r (wk1 p B key s q)) : ∀ (r : List (Nat × Prt)) (at' k : Nat) (σ : Sg) (s : Wst), (∀ j, j < (blB Gs r ++ fil z).length → bs.getD (at' + j) 0 = (blB Gs r ++ fil z).getD j 0) → at' + (blB Gs r ++ fil z).length = bs.length → 3 * k ≤ at' → Gd r s → (∀ b, b < B → fldS (s.1 (opp B (p * B + b))) = Gs b) → LkC σ B s.1 s.2 → (∀ d, d = 0 ∨ 9 + 113 * P ≤ d ∨ d < 9 → d ≠ 5 → d ≠ 6 → d ≠ 0 → σ d = σ0 d) → (∀ j, σ 0 j = if j = 15 then σ0 0 15 + nI k else σ0 0 j) → (∀ (σ' : Sg) (t : Wst), t = wkL p B key r s → Gd [] t → LkC σ' B t.1 t.2 → (∀ d, d = 0 ∨ 9 + 113 * P ≤ d ∨ d < 9 → d ≠ 5 → d ≠ 6 → d ≠ 0 → σ' d = σ0 d) → (∀ j, σ' 0 j = if j = 15 then σ0 0 15 + nI (k + r.length) else σ0 0 j) → Q σ') → wpX8_workOn_L5 P sbT Q (r.length + 1) (nI p) a (nI at') (nI k) σ := by
  have hbs := hA0.2.1
  intro r
  induction r with
  | nil =>
    intro at' k σ s hby hlen h3 hGd hGs hL hF h0 h
    have hA : Air σ a bs := hA0.of (by rw [hF a (by omega) (by omega) (by omega) (by omega)]) (hF _ (by omega) (by omega) (by omega) (by omega))
    have fin : Q σ := h σ s rfl hGd hL hF (by rw [List.length_nil, Nat.add_zero]; exact h0)
    have e1 : blB Gs [] ++ fil z = fil z := rfl
    rw [e1] at hby hlen
    rw [fil_len] at hlen
    unfold wpX8_workOn_L5
    have e2 : nI at' + 2 = nI (at' + 2) := nI_add at' 2
    rw [hA.1, e2]
    refine pk_le 250 k (fun _ => fin) (fun _ => pk_le bs.length (at' + 2) (fun _ => fin) (fun hh => ?_))
    refine at_ok hA (by omega) ?_
    have hz : 0 < z := by omega
    have h255 : bs.getD at' 0 = 255 := by
      have := hby 0 (by rw [fil_len]; exact hz)
      rw [Nat.add_zero] at this
      rw [this]
      cases z with
      | zero => omega
      | succ z => rfl
    have hs0 : σ 0 0 = nI B := by rw [h0 0, if_neg (by decide)]; exact hB
    rw [h255, hs0]
    exact brt (nI_le (a := B) (b := 255) (by omega) (by decide)) fin
  | cons q r ih =>
    intro at' k σ s hby hlen h3 hGd hGs hL hF h0 h
    have hA : Air σ a bs := hA0.of (by rw [hF a (by omega) (by omega) (by omega) (by omega)]) (hF _ (by omega) (by omega) (by omega) (by omega))
    obtain ⟨hOk, hGn⟩ := hG1 q r s hGd
    obtain ⟨hqB, hOk⟩ := hOk
    have hs0 : σ 0 0 = nI B := by rw [h0 0, if_neg (by decide)]; exact hB
    have h4 : σ 4 = key := by rw [hF 4 (by omega) (by omega) (by omega) (by omega)]; exact hk
    have hplP : p * B + q.1 < 2 * B := by
      have : p * B ≤ 1 * B := Nat.mul_le_mul_right B (by omega)
      omega
    -- where it lies
    have eb : blB Gs (q :: r) ++ fil z = blP Gs q ++ (blB Gs r ++ fil z) := by
      show (blP Gs q ++ blB Gs r) ++ fil z = _
      rw [List.append_assoc]
    rw [eb] at hby hlen
    have hpl : (blP Gs q).length = 2 + (prB (Gs q.1) q.2).length := by
      unfold blP
      rw [List.length_cons, List.length_cons]
      omega
    rw [List.length_append, hpl] at hlen
    have hby1 : ∀ j, j < (blP Gs q).length → bs.getD (at' + j) 0 = (blP Gs q).getD j 0 := fun j hj => by
      rw [hby j (by rw [List.length_append]; omega), gD_l hj]
    have hby2 : ∀ j, j < (blB Gs r ++ fil z).length → bs.getD (at' + (2 + (prB (Gs q.1) q.2).length) + j) 0 = (blB Gs r ++ fil z).getD j 0 := fun j hj => by
      have := hby (2 + (prB (Gs q.1) q.2).length + j) (by rw [List.length_append, hpl]; omega)
      rw [gD_r (by omega), hpl, Nat.add_sub_cancel_left, ← Nat.add_assoc] at this
      exact this
    have hDy : ∀ j, j < (prB (Gs q.1) q.2).length → bs.getD (at' + 2 + j) 0 = (prB (Gs q.1) q.2).getD j 0 := fun j hj => by
      have := hby1 (j + 2) (by omega)
      rw [show at' + 2 + j = at' + (j + 2) by omega, this]
      rfl
    have b0 : bs.getD at' 0 = nI q.1 := by
      have := hby1 0 (by omega)
      rw [Nat.add_zero] at this
      rw [this]
      rfl
    have b1 : bs.getD (at' + 1) 0 = nI (prB (Gs q.1) q.2).length := by
      rw [hby1 1 (by omega)]
      rfl
    have hGq := hGs q.1 hqB
    have hD2 : 2 ≤ (prB (Gs q.1) q.2).length := by
      cases hq2 : q.2 with
      | inl d =>
        show 2 ≤ (datL _ _ _ _ _ _).length
        rw [datL_len]
        omega
      | inr t =>
        show 2 ≤ (stB _ _).length
        rw [stB_at.1]
        omega
    have epl : (nI p * nI B) + nI q.1 = nI (p * B + q.1) := by
      have : nI p * nI B = nI (p * B) := pk_mul p B
      rw [this, nI_add]
    show wpX8_workOn_L5 P sbT Q (r.length + 1 + 1) (nI p) a (nI at') (nI k) σ
    unfold wpX8_workOn_L5
    have e2 : nI at' + 2 = nI (at' + 2) := nI_add at' 2
    rw [hA.1, e2]
    refine pk_le 250 k (fun hh => by omega) (fun _ => pk_le bs.length (at' + 2) (fun hh => by omega) (fun _ => ?_))
    refine at_ok hA (by omega) ?_
    rw [b0, hs0]
    refine brf (nI_ge (by omega) (by omega)) (at_ok hA (by omega) ?_)
    rw [b0]
    unfold wpX8_placeOf
    rw [hs0, epl, nI_1]
    refine at_ok hA (by omega) ?_
    rw [b1]
    rintro _ rfl
    have h15 : σ 0 15 + 1 = σ0 0 15 + nI (k + 1) := by
      rw [h0 15, if_pos rfl, ← nI_1, Int32.add_assoc]
    rw [h15]
    have hL1 : LkC (up2 σ 0 15 (σ0 0 15 + nI (k + 1))) B s.1 s.2 := hL.of (fun d d1 d2 => up2_o (by omega))
    have hF1 : ∀ d, d = 0 ∨ 9 + 113 * P ≤ d ∨ d < 9 → d ≠ 5 → d ≠ 6 → d ≠ 0 → up2 σ 0 15 (σ0 0 15 + nI (k + 1)) d = σ0 d := fun d d1 d2 d3 d4 => by rw [up2_o d4, hF d d1 d2 d3 d4]
    have h01 : ∀ j, up2 σ 0 15 (σ0 0 15 + nI (k + 1)) 0 j = if j = 15 then σ0 0 15 + nI (k + 1) else σ0 0 j := fun j => by
      rw [up2_e]
      by_cases ej : j = 15
      · rw [if_pos ⟨rfl, ej⟩, if_pos ej]
      · rw [if_neg (fun hh => ej hh.2), if_neg ej, h0 j, if_neg ej]
    have h41 : up2 σ 0 15 (σ0 0 15 + nI (k + 1)) 4 = key := by rw [up2_o (by omega)]; exact h4
    generalize up2 σ 0 15 (σ0 0 15 + nI (k + 1)) = σ1 at *
    have hA1 : Air σ1 a bs := hA0.of (by rw [hF1 a (by omega) (by omega) (by omega) (by omega)]) (hF1 _ (by omega) (by omega) (by omega) (by omega))
    refine at_ok hA1 (by omega) ?_
    have b2 : bs.getD (at' + 2) 0 = (prB (Gs q.1) q.2).getD 0 0 := by
      have := hDy 0 (by omega)
      rw [Nat.add_zero] at this
      exact this
    rw [b2]
    -- the next one
    have next : ∀ σ2 : Sg, LkC σ2 B (wk1 p B key s q).1 (wk1 p B key s q).2 → (∀ d, d = 0 ∨ 9 + 113 * P ≤ d ∨ d < 9 → d ≠ 5 → d ≠ 6 → d ≠ 0 → σ2 d = σ0 d) → (∀ j, σ2 0 j = if j = 15 then σ0 0 15 + nI (k + 1) else σ0 0 j) → wpX8_workOn_L112 P sbT Q (wpX8_workOn_L5 P sbT Q (r.length + 1)) (nI p) a (nI at') (nI k) (nI (prB (Gs q.1) q.2).length) σ2 := by
      intro σ2 n1 n2 n3
      unfold wpX8_workOn_L112
      have e5 : nI at' + ((2 : Int32) + nI (prB (Gs q.1) q.2).length) = nI (at' + (2 + (prB (Gs q.1) q.2).length)) := by
        show nI at' + (nI 2 + _) = _
        rw [nI_add, nI_add]
      rw [e5, nI_1]
      rintro _ rfl _ rfl
      refine ih (at' + (2 + (prB (Gs q.1) q.2).length)) (k + 1) σ2 (wk1 p B key s q) hby2 (by omega) (by omega) hGn (fun b hb => ?_) n1 n2 n3 (fun σ' t et t1 t2 t3 t4 => h σ' t (by rw [et]; rfl) t1 t2 t3 (by rw [List.length_cons, show k + (r.length + 1) = k + 1 + r.length by omega]; exact t4))
      rw [wk1_opp hp hqB hb]
      exact hGs b hb
    cases hq2 : q.2 with
    | inl d =>
      rw [hq2] at hOk
      obtain ⟨k1, k2, k3, k4, k5, k6, k7, k8, k9, Gd', k10, k11, k12, k13⟩ := hOk
      rw [hGq] at k4 k5 k10 k11 k12
      have ew : wk1 p B key s q = (fup s.1 (p * B + q.1) (wkD p B key s q.1 d).1, fup s.2 (p * B + q.1) (wkD p B key s q.1 d).2) := by
        unfold wk1
        rw [hq2]
      have h128 : ¬ (prB (Gs q.1) (.inl d)).getD 0 0 < 128 := by
        show ¬ hdI _ _ _ _ _ < 128
        exact Int32.not_lt.mpr hdI_128.1
      rw [hq2] at hD2 hlen hDy next
      refine brf h128 ?_
      obtain ⟨hLs, hLr⟩ := hL1 _ hplP
      rw [hGq] at hLr
      rw [nI_add]
      have := takeData_ok (P := P) (pl := p * B + q.1) (a := a) (f0 := at' + 2) (x := d.1) (fr := d.2.1) (to := d.2.2.1) (poll := d.2.2.2) (σ := σ1) (G := Gs q.1) (bs := bs) (Gd := Gd') (Q := fun σ13 => wpX8_workOn_L112 P sbT Q (wpX8_workOn_L5 P sbT Q (r.length + 1)) (nI p) a (nI at') (nI k) (nI (prB (Gs q.1) (Sum.inl d)).length) σ13) (by omega) (by omega) ha hLs hLr k1 k2 k3 hA1 k4 k5 k6 hDy (by show at' + 2 + (prB (Gs q.1) (Sum.inl d)).length ≤ bs.length; omega) k7 k8 k9 k10 k11 (by rw [h41]; exact k12) k13 (fun σ2 t et t1 t2 t3 => ?_)
      · exact this
      · have et : t = wkD p B key s q.1 d := by
          rw [et, h41]
          unfold wkD
          rw [hGq]
        refine next σ2 ?_ (fun d' d1 d2 d3 d4 => by rw [t3 d' (by omega) d2 d3, hF1 d' d1 d2 d3 d4]) (fun j => by rw [t3 0 (by omega) (by omega) (by omega), h01 j])
        rw [ew]
        rw [et] at t1 t2
        exact hL1.put hplP (by unfold wkD; rw [tdM_fld]) t1 (by rw [hGq]; exact t2) (fun d' d1 d2 d3 => t3 d' d1 (by omega) (by omega))
    | inr t =>
      rw [hq2] at hOk
      obtain ⟨k1, k2, k3, k4, k5, k6, k7⟩ := hOk
      have ew : wk1 p B key s q = (fup s.1 (p * B + q.1) (stX t.1 t.2 (s.1 (p * B + q.1))), s.2) := by
        unfold wk1
        rw [hq2]
      rw [hq2] at hD2 hlen hDy next
      have h128 : (prB (Gs q.1) (.inr t)).getD 0 0 < 128 := by
        show nI t.2.length < nI 128
        exact (nI_ltI (by omega) (by decide)).mpr (by omega)
      refine brt h128 ⟨vin rfl (by omega) (by omega), ?_⟩
      rintro _ rfl
      rw [nI_clamp (by omega)]
      obtain ⟨hLs, hLr⟩ := hL1 _ hplP
      have epr : prB (Gs q.1) (.inr t) = stB t.1 t.2 := rfl
      rw [epr] at hlen hDy
      obtain ⟨z1, z2, z3, z4⟩ := stB_at (ack := t.1) (es := t.2)
      have hEn : EnA bs (at' + 2) t.1 t.2 := by
        refine ⟨by omega, ?_, ?_, fun k' hk' => ?_⟩
        · have := hDy 0 (by omega)
          rw [Nat.add_zero, z2] at this
          exact this
        · rw [hDy 1 (by omega), z3]
        · rw [show at' + 2 + 2 + k' = at' + 2 + (2 + k') by omega, hDy (2 + k') (by omega), z4]
      refine takeStatus_ok (T := T) (nc := (s.1 (p * B + q.1)).2.2.2.1) (mk := mkN B (p * B + q.1)) (bk := (s.1 (p * B + q.1)).2.1) (s := ((s.1 (p * B + q.1)).1, (s.1 (p * B + q.1)).2.2.1, (s.1 (p * B + q.1)).2.2.2.2)) (by omega) hA1 hEn k1 (by omega) k3 k4 hLs.1 hLs.2.1 k5 k6 hLs.2.2 k7 (fun σ2 t1 t2 t3 t4 => ?_)
      refine next σ2 ?_ (fun d' d1 d2 d3 d4 => by rw [t4 d' (by omega), hF1 d' d1 d2 d3 d4]) (fun j => by rw [t4 0 (by omega), h01 j])
      rw [ew]
      have hput := hL1.put (σ' := σ2) (s := stX t.1 t.2 (s.1 (p * B + q.1))) (r := s.2 (p * B + q.1)) hplP stX_fld ⟨t1, t2, t3⟩ (hLr.of (fun d' d1 d2 => t4 d' (by omega))) (fun d' d1 d2 d3 => t4 d' (by omega))
      have er : fup s.2 (p * B + q.1) (s.2 (p * B + q.1)) = s.2 := by
        funext j
        unfold fup
        split
        · next e => rw [e]
        · rfl
      rw [er] at hput
      exact hput
