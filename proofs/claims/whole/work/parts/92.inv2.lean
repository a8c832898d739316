/-! PURE: the middle: what goes on; blocks; a place's filling -/
def AdvS (k : Nat) (s s' : Smd) : Prop := s.1 5 ≤ s'.1 5 ∧ s'.1 5 ≤ s.1 5 + k ∧ ∀ x, x < s.1 5 → fldS s' x = fldS s x
def AdvR (s : Smd) (r : Rmd) (s' : Smd) (r' : Rmd) : Prop := r.1 3 ≤ r'.1 3 ∧ ∀ y, y < r.1 2 ∨ whR s r y = true → y < r'.1 2 ∨ whR s' r' y = true
theorem AdvS.rf {k : Nat} {s : Smd} : AdvS k s s := ⟨Nat.le_refl _, Nat.le_add_right _ _, fun _ _ => rfl⟩
theorem AdvS.mono {k k' : Nat} {s s' : Smd} (h : AdvS k s s') (hk : k ≤ k') : AdvS k' s s' := ⟨h.1, by have := h.2.1; omega, h.2.2⟩
theorem AdvR.rf {s : Smd} {r : Rmd} : AdvR s r s r := ⟨Nat.le_refl _, fun _ h => h⟩
theorem DatV.adv {s s' : Smd} {a k : Nat} {d : Nat × Nat × Nat × Bool} (h : DatV s a d) (hA : AdvS k s s') : DatV s' (a + k) d := by
  obtain ⟨h1, h2, h3, h4⟩ := h
  obtain ⟨a1, a2, a3⟩ := hA
  exact ⟨by omega, h2, by rw [a3 _ h1]; exact h3, by omega⟩
theorem StaV.adv {s s' : Smd} {r r' : Rmd} {a k : Nat} {t : Nat × List Ent} (h : StaV s r a t) (hA : AdvS k s s') (hR : AdvR s r s' r') : StaV s' r' (a + k) t := by
  obtain ⟨h1, h2, h3, h4, h5⟩ := h
  obtain ⟨a1, a2, a3⟩ := hA
  refine ⟨h1, Nat.le_trans h2 hR.1, by omega, fun e he => ?_, fun y y1 y2 => hR.2 y (h5 y y1 y2)⟩
  obtain ⟨q1, q2, q3⟩ := h4 e he
  exact ⟨q1, by omega, q3⟩
def PrtV (B : Nat) (hs : Nat → Smd) (hr : Nat → Rmd) (p ad as' : Nat) (q : Nat × Prt) : Prop := q.1 < B ∧ match q.2 with
  | .inl d => DatV (hs (p * B + q.1)) ad d
  | .inr t => StaV (hs (opp B (p * B + q.1))) (hr (p * B + q.1)) as' t
theorem PrtV.adv {B : Nat} {hs hs' : Nat → Smd} {hr hr' : Nat → Rmd} {p ad as' kd ks : Nat} {q : Nat × Prt} (h : PrtV B hs hr p ad as' q) (h1 : ∀ b, b < B → AdvS kd (hs (p * B + b)) (hs' (p * B + b))) (h2 : ∀ b, b < B → AdvS ks (hs (opp B (p * B + b))) (hs' (opp B (p * B + b)))) (h3 : ∀ b, b < B → AdvR (hs (opp B (p * B + b))) (hr (p * B + b)) (hs' (opp B (p * B + b))) (hr' (p * B + b))) : PrtV B hs' hr' p (ad + kd) (as' + ks) q := by
  obtain ⟨hb, hq⟩ := h
  refine ⟨hb, ?_⟩
  cases e : q.2 with
  | inl d => rw [e] at hq; exact DatV.adv hq (h1 _ hb)
  | inr t => rw [e] at hq; exact StaV.adv hq (h2 _ hb) (h3 _ hb)
theorem blB_congr {Gs Gs' : Nat → Nat → List Cel} : ∀ (l : List (Nat × Prt)), (∀ q ∈ l, ∀ d, q.2 = .inl d → Gs' q.1 d.1 = Gs q.1 d.1) → blB Gs' l = blB Gs l
  | [], _ => rfl
  | q :: l, h => by
    have hp : prB (Gs' q.1) q.2 = prB (Gs q.1) q.2 := by
      cases e : q.2 with
      | inl d =>
        have := h q List.mem_cons_self d e
        show datL (Gs' q.1 d.1) d.1 d.2.1 d.2.2.1 (decide (0 < d.2.1 ∨ d.2.2.1 < (Gs' q.1 d.1).length)) d.2.2.2 = datL (Gs q.1 d.1) d.1 d.2.1 d.2.2.1 (decide (0 < d.2.1 ∨ d.2.2.1 < (Gs q.1 d.1).length)) d.2.2.2
        rw [this]
      | inr t => rfl
    show blP Gs' q ++ blB Gs' l = blP Gs q ++ blB Gs l
    rw [blB_congr l (fun a ha => h a (List.mem_cons_of_mem _ ha))]
    unfold blP
    rw [hp]
/-- a block that is alive -/
def BkB (B : Nat) (hs : Nat → Smd) (hr : Nat → Rmd) (p ad as' : Nat) (c : Car) : Prop := 0 < c.2.1 ∧ (∃ z, c.2.2.2.1 = blB (fun b => fldS (hs (p * B + b))) c.2.2.2.2 ++ fil z) ∧ c.2.2.2.1.length = c.2.1 ∧ ∀ q ∈ c.2.2.2.2, PrtV B hs hr p ad as' q
def BlkV (B : Nat) (hs : Nat → Smd) (hr : Nat → Rmd) (p ad as' : Nat) (c : Car) : Prop := c.1 ≤ 2 ∧ (c.1 = 0 → c.2.1 = 0 ∧ c.2.2.1 = false) ∧ c.2.1 ≤ 250 ∧ (0 < c.1 → BkB B hs hr p ad as' c)
theorem BkB.adv {B : Nat} {hs hs' : Nat → Smd} {hr hr' : Nat → Rmd} {p ad as' kd ks : Nat} {c : Car} (h : BkB B hs hr p ad as' c) (h1 : ∀ b, b < B → AdvS kd (hs (p * B + b)) (hs' (p * B + b))) (h2 : ∀ b, b < B → AdvS ks (hs (opp B (p * B + b))) (hs' (opp B (p * B + b)))) (h3 : ∀ b, b < B → AdvR (hs (opp B (p * B + b))) (hr (p * B + b)) (hs' (opp B (p * B + b))) (hr' (p * B + b))) : BkB B hs' hr' p (ad + kd) (as' + ks) c := by
  obtain ⟨a1, ⟨z, a2⟩, a3, a4⟩ := h
  refine ⟨a1, ⟨z, ?_⟩, a3, fun q hq => (a4 q hq).adv h1 h2 h3⟩
  rw [a2]
  congr 1
  refine (blB_congr _ (fun q hq d hd => ?_)).symm
  obtain ⟨hb, hx⟩ := a4 q hq
  rw [hd] at hx
  exact (h1 _ hb).2.2 _ hx.1
theorem BlkV.adv {B : Nat} {hs hs' : Nat → Smd} {hr hr' : Nat → Rmd} {p ad as' kd ks : Nat} {c : Car} (h : BlkV B hs hr p ad as' c) (h1 : ∀ b, b < B → AdvS kd (hs (p * B + b)) (hs' (p * B + b))) (h2 : ∀ b, b < B → AdvS ks (hs (opp B (p * B + b))) (hs' (opp B (p * B + b)))) (h3 : ∀ b, b < B → AdvR (hs (opp B (p * B + b))) (hr (p * B + b)) (hs' (opp B (p * B + b))) (hr' (p * B + b))) : BlkV B hs' hr' p (ad + kd) (as' + ks) c :=
  ⟨h.1, h.2.1, h.2.2.1, fun hh => (h.2.2.2 hh).adv h1 h2 h3⟩
theorem DatV.mono {s : Smd} {a a' : Nat} {d : Nat × Nat × Nat × Bool} (h : DatV s a d) (ha : a ≤ a') : DatV s a' d := ⟨h.1, h.2.1, h.2.2.1, by have := h.2.2.2; omega⟩
theorem StaV.mono {s : Smd} {r : Rmd} {a a' : Nat} {t : Nat × List Ent} (h : StaV s r a t) (ha : a ≤ a') : StaV s r a' t := ⟨h.1, h.2.1, by have := h.2.2.1; omega, fun e he => ⟨(h.2.2.2.1 e he).1, by have := (h.2.2.2.1 e he).2.1; omega, (h.2.2.2.1 e he).2.2⟩, h.2.2.2.2⟩
theorem BkB.mono {B : Nat} {hs : Nat → Smd} {hr : Nat → Rmd} {p ad as' ad2 as2 : Nat} {c : Car} (h : BkB B hs hr p ad as' c) (h1 : ad ≤ ad2) (h2 : as' ≤ as2) : BkB B hs hr p ad2 as2 c := by
  refine ⟨h.1, h.2.1, h.2.2.1, fun q hq => ?_⟩
  obtain ⟨a, b⟩ := h.2.2.2 q hq
  refine ⟨a, ?_⟩
  cases e : q.2 with
  | inl d => rw [e] at b; exact DatV.mono b h1
  | inr t => rw [e] at b; exact StaV.mono b h2
theorem BlkV.mono {B : Nat} {hs : Nat → Smd} {hr : Nat → Rmd} {p ad as' ad2 as2 : Nat} {c : Car} (h : BlkV B hs hr p ad as' c) (h1 : ad ≤ ad2) (h2 : as' ≤ as2) : BlkV B hs hr p ad2 as2 c := ⟨h.1, h.2.1, h.2.2.1, fun hh => (h.2.2.2 hh).mono h1 h2⟩
/-- the filling of one place -/
def DatF (s : Smd) (d : Nat × Nat × Nat × Bool) : Prop := s.1 4 ≤ d.1 ∧ d.1 < s.1 5 ∧ d.2.1 < d.2.2.1 ∧ d.2.2.1 ≤ (fldS s d.1).length
def PrtF (so : Smd) (s : Smd) (r : Rmd) : Prt → Prop
  | .inl d => DatF s d
  | .inr t => StaV so r 0 t
def FlI (T : Nat) (so : Smd) (ro : Rmd) (s0 : Fst) (b : Nat) (t : Fst) : Prop := SndV T t.1 ∧ JntV t.1 ro ∧ JntV so t.2.1 ∧ (s0.1.1 5 ≤ t.1.1 5 ∧ (∀ x, x < s0.1.1 5 → fldS t.1 x = fldS s0.1 x) ∧ t.2.1.2 = s0.2.1.2 ∧ t.2.1.1 2 = s0.2.1.1 2 ∧ t.2.1.1 3 = s0.2.1.1 3 ∧ t.1.1 2 = s0.1.1 2 ∧ t.1.2.2.2.1 = s0.1.2.2.2.1) ∧ t.1.1 4 = s0.1.1 4 ∧ ∃ np, t.2.2.2 = s0.2.2.2 ++ np ∧ t.2.2.1 = s0.2.2.1 ++ blB (fun _ => fldS t.1) np ∧ ∀ q ∈ np, q.1 = b ∧ PrtF so t.1 t.2.1 q.2
theorem payB_fld {s : Smd} {n : Nat} : fldS (payB s n) = fldS s := rfl
theorem payB_V {T n : Nat} {s : Smd} (h : SndV T s) : SndV T (payB s n) := h
theorem payB_J {n : Nat} {s : Smd} {r : Rmd} (h : JntV s r) : JntV (payB s n) r := h
theorem FlI.nx {T : Nat} {so : Smd} {ro : Rmd} {s0 t u : Fst} {b g : Nat} {bd : Bool} (hso : ∀ x, (fldS so x).length ≤ 240) (h : FlI T so ro s0 b t) (h5 : t.1.1 5 + 1 < 2 ^ 20) (e : fb1 (fldS so) bd g b t = some u) : FlI T so ro s0 b u := by
  obtain ⟨a1, a2, a3, ⟨a4, a5, a6, a7, a8, a9, a10⟩, a11, np, a12, a13, a14⟩ := h
  obtain ⟨h1, pt, s', r', hm, et⟩ := fb1_inv e
  have eu1 : u.1 = payB s' (prB (fldS s') pt).length := by rw [et]; rfl
  have eu2 : u.2.1 = r' := by rw [et]; rfl
  have eu3 : u.2.2.2 = t.2.2.2 ++ [(b, pt)] := by rw [et]; rfl
  have eu4 : u.2.2.1 = t.2.2.1 ++ nI b :: nI (prB (fldS s') pt).length :: prB (fldS s') pt := by rw [et]; rfl
  -- enough: what the three ways leave
  have fin : SndV T s' → JntV s' ro → JntV so r' → t.1.1 5 ≤ s'.1 5 → (∀ x, x < t.1.1 5 → fldS s' x = fldS t.1 x) → r'.2 = t.2.1.2 → r'.1 2 = t.2.1.1 2 → r'.1 3 = t.2.1.1 3 → s'.1 2 = t.1.1 2 → s'.2.2.2.1 = t.1.2.2.2.1 → s'.1 4 = t.1.1 4 → PrtF so s' r' pt → FlI T so ro s0 b u := by
    intro k1 k2 k3 k4 k5 k6 k7 k8 k9 k10 k11 k12
    refine ⟨?_, ?_, ?_, ⟨?_, fun x hx => ?_, ?_, ?_, ?_, ?_, ?_⟩, ?_, np ++ [(b, pt)], ?_, ?_, fun q hq => ?_⟩
    · rw [eu1]; exact payB_V k1
    · rw [eu1]; exact payB_J k2
    · rw [eu2]; exact k3
    · rw [eu1]; exact Nat.le_trans a4 k4
    · rw [eu1, payB_fld, k5 x (by omega), a5 x hx]
    · rw [eu2, k6, a6]
    · rw [eu2, k7, a7]
    · rw [eu2, k8, a8]
    · rw [eu1]; show s'.1 2 = _; rw [k9, a9]
    · rw [eu1]; show s'.2.2.2.1 = _; rw [k10, a10]
    · rw [eu1]; show s'.1 4 = _; rw [k11, a11]
    · rw [eu3, a12, List.append_assoc]
    · have ecg : blB (fun _ => fldS u.1) np = blB (fun _ => fldS t.1) np := blB_congr np (fun q hq d hd => by
        obtain ⟨_, q2⟩ := a14 q hq
        rw [hd] at q2
        show fldS u.1 d.1 = fldS t.1 d.1
        rw [eu1, payB_fld]
        exact k5 _ q2.2.1)
      rw [eu4, blB_app, ecg, a13, List.append_assoc]
      congr 2
      show _ = blP (fun _ => fldS u.1) (b, pt) ++ []
      rw [List.append_nil, eu1]
      rfl
    · rcases List.mem_append.mp hq with e1 | e1
      · obtain ⟨q1, q2⟩ := a14 q e1
        refine ⟨q1, ?_⟩
        rw [eu1, eu2]
        cases hq2 : q.2 with
        | inl d =>
          rw [hq2] at q2
          obtain ⟨d1, d2, d3, d4⟩ := q2
          exact ⟨by show s'.1 4 ≤ d.1; rw [k11]; exact d1, by show d.1 < s'.1 5; omega, d3, by rw [payB_fld, k5 _ d2]; exact d4⟩
        | inr v =>
          rw [hq2] at q2
          obtain ⟨v1, v2, v3, v4, v5⟩ := q2
          have ew : whR so r' = whR so t.2.1 := by unfold whR; rw [k7, k8, k6]
          exact ⟨v1, by rw [k8]; exact v2, v3, v4, fun y y1 y2 => by rw [k7, ew]; exact v5 y y1 y2⟩
      · rw [List.mem_singleton] at e1
        subst e1
        refine ⟨rfl, ?_⟩
        rw [eu1, eu2]
        cases pt with
        | inl d => exact k12
        | inr v => exact k12
  rcases mkPt_inv hm with ⟨q1, q2, q3, q4⟩ | ⟨q1, q2, q3, q4, q5, q6, q7⟩ | ⟨q1, q2, q3, q4, q5, q6, q7⟩
  · subst q2 q3 q4
    have o : ∀ k, k ≠ 7 → k ≠ 9 → k ≠ 10 → mksV t.2.1.1 k = t.2.1.1 k := fun k h7 h9 h10 => by unfold mksV; rw [vup_o h10, vup_o h9, vup_o h7]
    refine fin a1 a2 a3.mk (Nat.le_refl _) (fun _ _ => rfl) rfl (o 2 (by decide) (by decide) (by decide)) (o 3 (by decide) (by decide) (by decide)) rfl rfl rfl ?_
    show StaV so (mksV t.2.1.1, t.2.1.2) 0 (stP (fldS so) t.2.1 _)
    obtain ⟨v1, v2, v3, v4, v5⟩ := StaV.mk (room := rmN bd t.1.2.1 (g - t.2.2.1.length)) hso a3
    have ew : whR so (mksV t.2.1.1, t.2.1.2) = whR so t.2.1 := by
      unfold whR
      show whl _ (mksV t.2.1.1 2) (mksV t.2.1.1 3) _ = _
      rw [o 2 (by decide) (by decide) (by decide), o 3 (by decide) (by decide) (by decide)]
    exact ⟨v1, by show _ ≤ mksV t.2.1.1 3; rw [o 3 (by decide) (by decide) (by decide)]; exact v2, v3, v4, fun y y1 y2 => by rw [ew]; show y < mksV t.2.1.1 2 ∨ _; rw [o 2 (by decide) (by decide) (by decide)]; exact v5 y y1 y2⟩
  · subst q5 q6 q7
    have e4 : (agS t.1 (rmN bd t.1.2.1 (g - t.2.2.1.length))).1 4 = t.1.1 4 := agS_k (by decide) (by decide) (by decide) (by decide) (by decide) (by decide) (by decide)
    have e5 : (agS t.1 (rmN bd t.1.2.1 (g - t.2.2.1.length))).1 5 = t.1.1 5 := agS_k (by decide) (by decide) (by decide) (by decide) (by decide) (by decide) (by decide)
    obtain ⟨k1, k2, k3, k4, k5⟩ := SI.ag a1.1 q3 q4
    obtain ⟨w1, w2, w3, w4⟩ := DatV.ag (poll := polB (agU t.1 (rmN bd t.1.2.1 (g - t.2.2.1.length))) t.1.2.2.2.2.2.1.length) a1 q3 q4
    refine fin (a1.ag q3 q4) (a2.s e4 e5 agS_fld (fun x hx => by rw [agS_pc] at hx; exact hx)) a3 (by rw [e5]; exact Nat.le_refl _) (fun _ _ => by rw [agS_fld]) rfl rfl rfl (agS_k (by decide) (by decide) (by decide) (by decide) (by decide) (by decide) (by decide)) rfl e4 ⟨by rw [e4]; exact k2, w1, w2, w3⟩
  · subst q5 q6 q7
    have e4 : (nwS t.1 (rmN bd t.1.2.1 (g - t.2.2.1.length))).1 4 = t.1.1 4 := nwS_k (by decide) (by decide) (by decide) (by decide) (by decide) (by decide)
    obtain ⟨w1, w2, w3, w4⟩ := DatV.nw (poll := polB (newV t.1.1) (newL (rmN bd t.1.2.1 (g - t.2.2.1.length)) t.1.2.2.2.2.2).2.1.length) q4
    have h45 := a1.1.2.1
    refine fin (a1.nw h5 q4) (a2.nw (by omega)) a3 (by rw [nwS_5]; exact Nat.le_succ _) (fun x hx => nwS_fld (by omega)) rfl rfl rfl (nwS_k (by decide) (by decide) (by decide) (by decide) (by decide) (by decide)) rfl e4 ⟨by rw [e4]; exact h45, w1, w2, w3⟩
