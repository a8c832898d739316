/-! PURE: the middle: a peer sends -/
def InvM (T N n B : Nat) (key : Nat → Int32) (ad as' : Nat → Nat) (M : Hm) : Prop := Cor T B key M.1 M.2.1 ∧ (∀ pl, pl < 2 * B → BkV N n (M.1 pl)) ∧ ∀ j, j < 8 → BlkV B M.1 M.2.1 (j / 4) (ad j) (as' j) (M.2.2.1 j)
theorem kfP_v {p q B b k : Nat} (hp : p < 2) (hq : q < 2) (hb : b < B) : kfP p B k (q * B + b) = if q = p then k else 0 := by
  have h1 : p = 0 ∨ p = 1 := by omega
  have h2 : q = 0 ∨ q = 1 := by omega
  unfold kfP
  rcases h1 with rfl | rfl <;> rcases h2 with rfl | rfl
  · rw [if_pos (by omega), if_pos rfl]
  · rw [if_neg (by omega), if_neg (by decide)]
  · rw [if_neg (by omega), if_neg (by decide)]
  · rw [if_pos (by omega), if_pos rfl]
theorem BlkV.ada {B p q ad as' k : Nat} {hs hs' : Nat → Smd} {hr hr' : Nat → Rmd} {c : Car} (hp : p < 2) (hq : q < 2) (h : BlkV B hs hr q ad as' c) (hA : AdA B (kfP p B k) hs hr hs' hr') : BlkV B hs' hr' q (ad + if q = p then k else 0) (as' + if q = p then 0 else k) c := by
  refine h.adv (fun b hb => ?_) (fun b hb => ?_) (fun b hb => (hA _ (pl_lt hq hb)).2)
  · have := (hA _ (pl_lt hq hb)).1
    rw [kfP_v hp hq hb] at this
    exact this
  · have h9 := (hA _ (opp_lt (pl_lt hq hb)).1).1
    rw [opp_peer hq hb] at h9 ⊢
    rw [kfP_v hp (by omega) hb] at h9
    have e : (if 1 - q = p then k else 0) = if q = p then 0 else k := by
      by_cases e1 : q = p
      · rw [if_pos e1, if_neg (by omega)]
      · rw [if_neg e1, if_pos (by omega)]
    rw [e] at h9
    exact h9
theorem BlkV.ad0 {B q ad as' : Nat} {hs hs' : Nat → Smd} {hr hr' : Nat → Rmd} {c : Car} (hq : q < 2) (h : BlkV B hs hr q ad as' c) (hA : AdA B (fun _ => 0) hs hr hs' hr') : BlkV B hs' hr' q ad as' c :=
  h.adv (kd := 0) (ks := 0) (fun b hb => (hA _ (pl_lt hq hb)).1) (fun b hb => (hA _ (opp_lt (pl_lt hq hb)).1).1) (fun b hb => (hA _ (pl_lt hq hb)).2)
theorem BkB.ad0 {B q ad as' : Nat} {hs hs' : Nat → Smd} {hr hr' : Nat → Rmd} {c : Car} (hq : q < 2) (h : BkB B hs hr q ad as' c) (hA : AdA B (fun _ => 0) hs hr hs' hr') : BkB B hs' hr' q ad as' c :=
  h.adv (kd := 0) (ks := 0) (fun b hb => (hA _ (pl_lt hq hb)).1) (fun b hb => (hA _ (opp_lt (pl_lt hq hb)).1).1) (fun b hb => (hA _ (pl_lt hq hb)).2)
def slO (c : Car) (a : Nat) : Nat := if c.1 = 0 then 0 else a
def adN (p tk : Nat) (M : Hm) (ad : Nat → Nat) (j : Nat) : Nat := if j = pj p tk then slO (M.2.2.1 (pj p tk)) (ad j) else ad j + if j / 4 = p then 2 else 0
def asN (p tk : Nat) (M : Hm) (as' : Nat → Nat) (j : Nat) : Nat := if j = pj p tk then slO (M.2.2.1 (pj p tk)) (as' j) else as' j + if j / 4 = p then 0 else 2
theorem pj_4 {p tk : Nat} (hp : p < 2) : pj p tk / 4 = p := by unfold pj; omega
/-- after the filling -/
theorem fill_V {T N n B p g tk : Nat} {key : Nat → Int32} {ad as' : Nat → Nat} {M M1 : Hm} (hB1 : 1 ≤ B) (hp : p < 2) (hg : g ≤ 250) (hN : N + 300 < 2 ^ 20) (h : InvM T N n B key ad as' M) (eM : M1 = flM B p g tk M) : Cor T B key M1.1 M1.2.1 ∧ (∀ pl, pl < 2 * B → BkV (N + 250) n (M1.1 pl)) ∧ (∀ j, j < 8 → j ≠ pj p tk → M1.2.2.1 j = M.2.2.1 j ∧ BlkV B M1.1 M1.2.1 (j / 4) (adN p tk M ad j) (asN p tk M as' j) (M.2.2.1 j)) ∧ ((M1.2.2.1 (pj p tk)).1 = (M.2.2.1 (pj p tk)).1 ∧ (M1.2.2.1 (pj p tk)).2.1 ≤ 250 ∧ ((M1.2.2.1 (pj p tk)).2.1 = 0 → (M1.2.2.1 (pj p tk)).1 = 0 ∧ (M1.2.2.1 (pj p tk)).2.2.1 = false) ∧ (0 < (M1.2.2.1 (pj p tk)).2.1 → BkB B M1.1 M1.2.1 p (adN p tk M ad (pj p tk)) (asN p tk M as' (pj p tk)) (M1.2.2.1 (pj p tk)))) ∧ (∀ pl, pl < 2 * B → (M1.1 pl).1 2 = (M.1 pl).1 2) ∧ M1.2.2.2 = M.2.2.2 := by
  obtain ⟨h1, h2, h3⟩ := h
  have hj := pj_lt (tk := tk) hp
  have h4 := pj_4 (tk := tk) hp
  have eN : ∀ j, j ≠ pj p tk → adN p tk M ad j = ad j + (if j / 4 = p then 2 else 0) ∧ asN p tk M as' j = as' j + (if j / 4 = p then 0 else 2) := fun j hjn => by
    unfold adN asN
    rw [if_neg hjn, if_neg hjn]
    exact ⟨rfl, rfl⟩
  have eO : adN p tk M ad (pj p tk) = slO (M.2.2.1 (pj p tk)) (ad (pj p tk)) ∧ asN p tk M as' (pj p tk) = slO (M.2.2.1 (pj p tk)) (as' (pj p tk)) := by
    unfold adN asN
    rw [if_pos rfl, if_pos rfl]
    exact ⟨rfl, rfl⟩
  obtain ⟨q1, q2, q3, q4⟩ := h3 _ hj
  by_cases hz : (M.2.2.1 (pj p tk)).1 = 0
  · have e1 : M1 = ((flT B p g M).1, (flT B p g M).2.1, fup M.2.2.1 (pj p tk) (flC g (flT B p g M)), M.2.2.2) := by rw [eM]; unfold flM; rw [if_pos hz]
    obtain ⟨f1, f2, f3, f4, f5, f6⟩ := fl_V (t := flT B p g M) hB1 hp hg hN h1 h2 rfl
    subst e1
    generalize flT B p g M = t at *
    refine ⟨f1, f2, fun j hj2 hjn => ⟨fup_o hjn, ?_⟩, ?_, f5, rfl⟩
    · rw [(eN j hjn).1, (eN j hjn).2]
      exact (h3 j hj2).ada hp (by omega) f3
    · show (fup M.2.2.1 (pj p tk) (flC g t) (pj p tk)).1 = _ ∧ (fup M.2.2.1 (pj p tk) (flC g t) (pj p tk)).2.1 ≤ 250 ∧ ((fup M.2.2.1 (pj p tk) (flC g t) (pj p tk)).2.1 = 0 → (fup M.2.2.1 (pj p tk) (flC g t) (pj p tk)).1 = 0 ∧ (fup M.2.2.1 (pj p tk) (flC g t) (pj p tk)).2.2.1 = false) ∧ (0 < (fup M.2.2.1 (pj p tk) (flC g t) (pj p tk)).2.1 → BkB B t.1 t.2.1 p _ _ (fup M.2.2.1 (pj p tk) (flC g t) (pj p tk)))
      rw [fup_s, eO.1, eO.2]
      unfold slO
      rw [if_pos hz, if_pos hz, hz]
      by_cases ez : t.2.2.1.length = 0
      · have ec : flC g t = (0, 0, false, [], []) := by unfold flC; rw [if_pos ez]
        rw [ec]
        exact ⟨rfl, Nat.zero_le _, fun _ => ⟨rfl, rfl⟩, fun hh => absurd hh (by show ¬ 0 < 0; omega)⟩
      · have hb := f4 ez
        have ec : flC g t = (0, g, false, t.2.2.1 ++ fil (g - t.2.2.1.length), t.2.2.2) := by unfold flC; rw [if_neg ez]
        rw [ec] at hb ⊢
        exact ⟨rfl, hg, fun _ => ⟨rfl, rfl⟩, fun _ => hb⟩
  · have e1 : M1 = M := by rw [eM]; unfold flM; rw [if_neg hz]
    subst e1
    refine ⟨h1, fun pl hpl => ?_, fun j hj2 hjn => ⟨rfl, ?_⟩, ⟨rfl, q3, fun hh => ?_, fun hh => ?_⟩, fun _ _ => rfl, rfl⟩
    · obtain ⟨b1, b2, b3, b4, b5⟩ := h2 pl hpl
      exact ⟨by omega, b2, by omega, b4, b5⟩
    · rw [(eN j hjn).1, (eN j hjn).2]
      exact (h3 j hj2).mono (by omega) (by omega)
    · have := (q4 (by omega)).1
      omega
    · rw [eO.1, eO.2]
      unfold slO
      rw [if_neg hz, if_neg hz, ← h4, h4]
      have := q4 (by omega)
      rw [h4] at this
      exact this
theorem SmK.bk {B N n : Nat} {hs hs' : Nat → Smd} {hr hr' : Nat → Rmd} (h : SmK B hs hs') (hA : AdA B (fun _ => 0) hs hr hs' hr') (hb : ∀ pl, pl < 2 * B → BkV N n (hs pl)) : ∀ pl, pl < 2 * B → BkV N n (hs' pl) := by
  intro pl hpl
  obtain ⟨b1, b2, b3, b4, b5⟩ := hb pl hpl
  obtain ⟨s1, s2, s3⟩ := h pl hpl
  have := (hA pl hpl).1.2.1
  have this : (hs' pl).1 5 ≤ (hs pl).1 5 + 0 := this
  exact ⟨by omega, by rw [s3]; exact b2, by rw [s2]; exact b3, by rw [s2]; exact b4, by rw [s1]; exact b5⟩
/-- after the sending -/
theorem send_V {T N n B p g tk : Nat} {key : Nat → Int32} {ad as' : Nat → Nat} {lost turned : Bool} {M M1 M2 : Hm} (hB1 : 1 ≤ B) (hp : p < 2) (hg : g ≤ 250) (hN : N + 300 < 2 ^ 20) (hT : T + 2000 < 2 ^ 20) (h : InvM T N n B key ad as' M) (had : slO (M.2.2.1 (pj p tk)) (ad (pj p tk)) ≤ 16) (has : slO (M.2.2.1 (pj p tk)) (as' (pj p tk)) ≤ 31) (e1 : M1 = flM B p g tk M) (e2 : M2 = sdM B p tk key lost turned M1) : InvM (T + 1875) (N + 250) n B key (adN p tk M ad) (asN p tk M as') M2 ∧ (∀ pl, pl < 2 * B → (M2.1 pl).1 2 = (M.1 pl).1 2) ∧ (M2.2.2.2.1 = fup M.2.2.2.1 p (M1.2.2.1 (pj p tk)).2.1 ∧ (M2.2.2.1 (pj p tk)).2.2.2.1 = (M1.2.2.1 (pj p tk)).2.2.2.1 ∧ (M1.2.2.1 (pj p tk)).2.1 ≤ 250 ∧ (0 < (M1.2.2.1 (pj p tk)).2.1 → (M1.2.2.1 (pj p tk)).2.2.2.1.length = (M1.2.2.1 (pj p tk)).2.1)) ∧ (∀ j, j ≠ pj p tk → j < 8 → M2.2.2.1 j = M.2.2.1 j) ∧ (0 < (M2.2.2.1 (pj p tk)).1 → (M2.2.2.1 (pj p tk)).1 = (M.2.2.1 (pj p tk)).1 + 1) ∧ M2.2.2.2.2 10 = M.2.2.2.2 10 ∧ (∃ z, ∀ lo1, lo1 = lost → 0 < (M1.2.2.1 (pj p tk)).2.1 → fs1 lo1 (M1.2.2.1 (pj p tk)) = true → (M1.2.2.1 (pj p tk)).2.2.2.1 = blB (fun b => fldS (M1.1 (p * B + b))) (M1.2.2.1 (pj p tk)).2.2.2.2 ++ fil z ∧ (M1.2.2.1 (pj p tk)).2.2.2.1.length = (M1.2.2.1 (pj p tk)).2.1 ∧ GdW T 125 B p (slO (M.2.2.1 (pj p tk)) (ad (pj p tk))) (slO (M.2.2.1 (pj p tk)) (as' (pj p tk))) key M1.1 M1.2.1 (M1.2.2.1 (pj p tk)).2.2.2.2 (M1.1, M1.2.1)) := by
  have hj := pj_lt (tk := tk) hp
  have h4 := pj_4 (tk := tk) hp
  have hc0 := (h.2.2 _ hj).1
  obtain ⟨f1, f2, f3, ⟨f4, f5, f6, f7⟩, f8, f9⟩ := fill_V hB1 hp hg hN h e1
  have eO : adN p tk M ad (pj p tk) = slO (M.2.2.1 (pj p tk)) (ad (pj p tk)) ∧ asN p tk M as' (pj p tk) = slO (M.2.2.1 (pj p tk)) (as' (pj p tk)) := by
    unfold adN asN
    rw [if_pos rfl, if_pos rfl]
    exact ⟨rfl, rfl⟩
  obtain ⟨c1, ec⟩ : ∃ c1, c1 = M1.2.2.1 (pj p tk) := ⟨_, rfl⟩
  rw [← ec] at f4 f5 f6 f7 ⊢
  by_cases hz : c1.2.1 = 0
  · have em : M2 = (M1.1, M1.2.1, M1.2.2.1, fup M1.2.2.2.1 p 0, M1.2.2.2.2) := by
      rw [e2]
      unfold sdM
      rw [← ec, if_pos hz]
    subst em
    obtain ⟨z1, z2⟩ := f6 hz
    refine ⟨⟨f1.mono (by omega), f2, fun j hj2 => ?_⟩, f8, ⟨by show fup M1.2.2.2.1 p 0 = _; rw [hz, f9], by show (M1.2.2.1 (pj p tk)).2.2.2.1 = _; rw [ec], f5, fun hh => by omega⟩, fun j hjn hj2 => (f3 j hj2 hjn).1, fun hh => ?_, by show M1.2.2.2.2 10 = _; rw [f9], 0, fun _ _ hh => by omega⟩
    · show BlkV B M1.1 M1.2.1 _ _ _ (M1.2.2.1 j)
      by_cases e : j = pj p tk
      · rw [e, ← ec]
        exact ⟨by omega, fun _ => ⟨hz, z2⟩, by omega, fun hh => by omega⟩
      · rw [(f3 j hj2 e).1]
        exact (f3 j hj2 e).2
    · have hh : 0 < (M1.2.2.1 (pj p tk)).1 := hh
      rw [← ec] at hh
      omega
  · have hpos : 0 < c1.2.1 := by omega
    have hB := f7 hpos
    rw [eO.1, eO.2] at hB
    obtain ⟨b1, ⟨z, b2⟩, b3, b4⟩ := id hB
    have hn : c1.2.2.2.2.length ≤ 125 := by
      have := blB_len2 (Gs := fun b => fldS (M1.1 (p * B + b))) c1.2.2.2.2
      have hl : (blB (fun b => fldS (M1.1 (p * B + b))) c1.2.2.2.2).length ≤ c1.2.2.2.1.length := by
        rw [b2, List.length_append]
        omega
      omega
    have hW0 : GdW T 125 B p (slO (M.2.2.1 (pj p tk)) (ad (pj p tk))) (slO (M.2.2.1 (pj p tk)) (as' (pj p tk))) key M1.1 M1.2.1 c1.2.2.2.2 (M1.1, M1.2.1) := ⟨0, by omega, f1, b4, AdA.rf, fun _ _ => ⟨rfl, rfl, rfl⟩⟩
    have em : M2 = sdC turned (pj p tk) (sdB B p key (fs1 lost c1) c1.2.2.2.2 (sdA lost p (pj p tk) c1 M1)) := by
      rw [e2]
      unfold sdM
      rw [← ec, if_neg hz]
    -- the places after the work
    have hwk : ∀ s : Wst, s = wkM B p key (fs1 lost c1) c1.2.2.2.2 (M1.1, M1.2.1) → Cor (T + 1875) B key s.1 s.2 ∧ AdA B (fun _ => 0) M1.1 M1.2.1 s.1 s.2 ∧ SmK B M1.1 s.1 := by
      intro s es
      unfold wkM at es
      cases hf : fs1 lost c1 with
      | false =>
        rw [hf, if_neg (by decide)] at es
        subst es
        exact ⟨f1.mono (by omega), AdA.rf, fun _ _ => ⟨rfl, rfl, rfl⟩⟩
      | true =>
        rw [hf, if_pos rfl] at es
        obtain ⟨k, k1, k2, k3, k4, k5⟩ := GdW.all hp had has (by omega) c1.2.2.2.2 _ hW0
        rw [← es] at k2 k4 k5
        have k1 : k + 0 ≤ 125 := k1
        exact ⟨k2.mono (by omega), k4, k5⟩
    obtain ⟨w1, w2, w3⟩ := hwk _ rfl
    have es1 : M2.1 = (wkM B p key (fs1 lost c1) c1.2.2.2.2 (M1.1, M1.2.1)).1 := by rw [em]; rfl
    have es2 : M2.2.1 = (wkM B p key (fs1 lost c1) c1.2.2.2.2 (M1.1, M1.2.1)).2 := by rw [em]; rfl
    have es3 : M2.2.2.1 = fup M1.2.2.1 (pj p tk) (sn2 turned (sn1 lost c1)) := by
      rw [em]
      show fup (fup M1.2.2.1 (pj p tk) (sn1 lost c1)) (pj p tk) (sn2 turned (fup M1.2.2.1 (pj p tk) (sn1 lost c1) (pj p tk))) = _
      rw [fup_s]
      funext i
      unfold fup
      split <;> rfl
    have es4 : M2.2.2.2.1 = fup M1.2.2.2.1 p c1.2.1 := by rw [em]; rfl
    have es5 : M2.2.2.2.2 10 = M1.2.2.2.2 10 := by
      rw [em]
      show gl4 turned _ (gl3 turned (gl2 _ (fs1 lost c1) (gl1 lost M1.2.2.2.2))) 10 = _
      unfold gl4 gl3 gl2 gl1
      cases turned <;> cases lost <;> cases fs1 _ c1 <;> (split <;> rfl)
    rw [← es1, ← es2] at w1 w2
    rw [← es1] at w3
    have hown : BlkV B M2.1 M2.2.1 p (adN p tk M ad (pj p tk)) (asN p tk M as' (pj p tk)) (sn2 turned (sn1 lost c1)) := by
      unfold sn2
      by_cases hor : ¬ (sn1 lost c1).2.2.1 = turned ∨ 3 ≤ (sn1 lost c1).1
      · rw [if_pos hor]
        exact ⟨by show 0 ≤ 2; omega, fun _ => ⟨rfl, rfl⟩, by show 0 ≤ 250; omega, fun hh => absurd hh (by show ¬ 0 < 0; omega)⟩
      · rw [if_neg hor]
        refine ⟨?_, fun hh => ?_, f5, fun _ => ?_⟩
        · have : ¬ 3 ≤ (sn1 lost c1).1 := fun hh => hor (Or.inr hh)
          omega
        · have hh : c1.1 + 1 = 0 := hh
          omega
        · have hb2 := (f7 hpos).ad0 hp w2
          exact hb2
    refine ⟨⟨w1, w3.bk w2 f2, fun j hj2 => ?_⟩, fun pl hpl => by rw [(w3 pl hpl).1, f8 pl hpl], ⟨by rw [es4, f9], ?_, f5, fun _ => b3⟩, fun j hjn hj2 => ?_, fun hh => ?_, by rw [es5, f9], z, fun lo1 hlo1 _ _ => ⟨b2, b3, hW0⟩⟩
    · rw [es3]
      by_cases e : j = pj p tk
      · rw [e, fup_s, h4]
        exact hown
      · rw [fup_o e, (f3 j hj2 e).1]
        exact (f3 j hj2 e).2.ad0 (by omega) w2
    · rw [es3, fup_s]
      unfold sn2
      split <;> rfl
    · rw [es3, fup_o hjn]
      exact (f3 j hj2 hjn).1
    · rw [es3, fup_s] at hh ⊢
      unfold sn2 at hh ⊢
      by_cases hor : ¬ (sn1 lost c1).2.2.1 = turned ∨ 3 ≤ (sn1 lost c1).1
      · rw [if_pos hor] at hh
        exact absurd hh (by show ¬ 0 < 0; omega)
      · rw [if_neg hor]
        show c1.1 + 1 = _
        omega
