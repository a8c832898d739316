/-! PURE: the middle: all places; a block is worked on, a block is filled -/
def Cor (T B : Nat) (key : Nat → Int32) (hs : Nat → Smd) (hr : Nat → Rmd) : Prop := ∀ pl, pl < 2 * B → SndV T (hs pl) ∧ ObK (ksS key (mkN B pl)) (hs pl).2.2.2.2.1 (hs pl).2.2.2.2.2 ∧ JntV (hs pl) (hr (opp B pl))
def AdA (B : Nat) (kf : Nat → Nat) (hs : Nat → Smd) (hr : Nat → Rmd) (hs' : Nat → Smd) (hr' : Nat → Rmd) : Prop := ∀ pl, pl < 2 * B → AdvS (kf pl) (hs pl) (hs' pl) ∧ AdvR (hs (opp B pl)) (hr pl) (hs' (opp B pl)) (hr' pl)
def SmK (B : Nat) (hs hs' : Nat → Smd) : Prop := ∀ pl, pl < 2 * B → (hs' pl).1 2 = (hs pl).1 2 ∧ (hs' pl).2.1 = (hs pl).2.1 ∧ (hs' pl).2.2.2.1 = (hs pl).2.2.2.1
theorem AdA.rf {B : Nat} {kf : Nat → Nat} {hs : Nat → Smd} {hr : Nat → Rmd} : AdA B kf hs hr hs hr := fun _ _ => ⟨AdvS.rf, AdvR.rf⟩
theorem AdA.tr {B : Nat} {hs hs1 hs2 : Nat → Smd} {hr hr1 hr2 : Nat → Rmd} (h1 : AdA B (fun _ => 0) hs hr hs1 hr1) (h2 : AdA B (fun _ => 0) hs1 hr1 hs2 hr2) : AdA B (fun _ => 0) hs hr hs2 hr2 := by
  intro pl hpl
  obtain ⟨⟨a1, a2, a3⟩, b1, b2⟩ := h1 pl hpl
  obtain ⟨⟨c1, c2, c3⟩, d1, d2⟩ := h2 pl hpl
  have a2 : (hs1 pl).1 5 ≤ (hs pl).1 5 + 0 := a2
  have c2 : (hs2 pl).1 5 ≤ (hs1 pl).1 5 + 0 := c2
  refine ⟨⟨by omega, by show (hs2 pl).1 5 ≤ (hs pl).1 5 + 0; omega, fun x hx => by rw [c3 x (by omega), a3 x hx]⟩, by omega, fun y hy => d2 y (b2 y hy)⟩
theorem Cor.mono {T T' B : Nat} {key : Nat → Int32} {hs : Nat → Smd} {hr : Nat → Rmd} (h : Cor T B key hs hr) (ht : T ≤ T') : Cor T' B key hs hr := fun pl hpl => ⟨(h pl hpl).1.mono ht, (h pl hpl).2⟩
theorem Cor.ok {T B : Nat} {key : Nat → Int32} {hs : Nat → Smd} {hr : Nat → Rmd} (h : Cor T B key hs hr) : OkA B hs hr := by
  intro q hq
  obtain ⟨o1, o2, o3⟩ := opp_lt hq
  have hj := (h _ o1).2.2
  rw [o3] at hj
  exact ⟨(h q hq).1.2.1, begun_len (h _ o1).1 hj⟩
theorem Cor.put {T T' B pl : Nat} {key : Nat → Int32} {hs : Nat → Smd} {hr : Nat → Rmd} {s' : Smd} {r' : Rmd} (h : Cor T B key hs hr) (ht : T ≤ T') (hpl : pl < 2 * B) (h1 : SndV T' s') (h2 : ObK (ksS key (mkN B pl)) s'.2.2.2.2.1 s'.2.2.2.2.2) (h3 : JntV s' (hr (opp B pl))) (h4 : JntV (hs (opp B pl)) r') (h5 : AdvS 0 (hs pl) s') (h6 : fldS s' = fldS (hs pl)) (h7 : AdvR (hs (opp B pl)) (hr pl) (hs (opp B pl)) r') : Cor T' B key (fup hs pl s') (fup hr pl r') ∧ AdA B (fun _ => 0) hs hr (fup hs pl s') (fup hr pl r') := by
  obtain ⟨o1, o2, o3⟩ := opp_lt hpl
  constructor
  · intro q hq
    obtain ⟨q1, q2, q3⟩ := opp_lt hq
    by_cases e : q = pl
    · subst e
      rw [fup_s, fup_o o2]
      exact ⟨h1, h2, h3⟩
    · rw [fup_o e]
      obtain ⟨k1, k2, k3⟩ := h q hq
      refine ⟨k1.mono ht, k2, ?_⟩
      by_cases eo : opp B q = pl
      · have eq2 : q = opp B pl := by rw [← eo]; exact q3.symm
        rw [eo, fup_s, eq2]
        exact h4
      · rw [fup_o eo]
        exact k3
  · intro q hq
    obtain ⟨q1, q2, q3⟩ := opp_lt hq
    by_cases e : q = pl
    · subst e
      rw [fup_s, fup_s, fup_o o2]
      exact ⟨h5, h7⟩
    · rw [fup_o e, fup_o e]
      refine ⟨AdvS.rf, ?_⟩
      by_cases eo : opp B q = pl
      · rw [eo, fup_s]
        refine ⟨Nat.le_refl _, fun y hy => ?_⟩
        have ew : whR s' (hr q) = whR (hs pl) (hr q) := by unfold whR; rw [h6]
        rw [ew]
        exact hy
      · rw [fup_o eo]
        exact AdvR.rf
theorem PrtV.ada {B : Nat} {hs hs' : Nat → Smd} {hr hr' : Nat → Rmd} {p ad as' : Nat} {q : Nat × Prt} (hp : p < 2) (h : PrtV B hs hr p ad as' q) (hA : AdA B (fun _ => 0) hs hr hs' hr') : PrtV B hs' hr' p ad as' q :=
  h.adv (kd := 0) (ks := 0) (fun b hb => (hA _ (pl_lt hp hb)).1) (fun b hb => (hA _ (opp_lt (pl_lt hp hb)).1).1) (fun b hb => (hA _ (pl_lt hp hb)).2)
/-- the work on a block of peer p -/
def GdW (T n0 B p ad as' : Nat) (key : Nat → Int32) (hs : Nat → Smd) (hr : Nat → Rmd) (r : List (Nat × Prt)) (s : Wst) : Prop := ∃ k, k + r.length ≤ n0 ∧ Cor (T + 15 * k) B key s.1 s.2 ∧ (∀ q ∈ r, PrtV B s.1 s.2 p ad as' q) ∧ AdA B (fun _ => 0) hs hr s.1 s.2 ∧ SmK B hs s.1
theorem OkT2.mono {T T' : Nat} {s : Smd} {t : Nat × List Ent} (h : OkT2 T s t) (ht : T ≤ T') (hT : T' + 20 < 2 ^ 20) (hl : t.2.length ≤ 15) : OkT2 T' s t := by
  obtain ⟨⟨a1, a2, a3, a4, a5, a6, a7⟩, b, c, d⟩ := h
  exact ⟨⟨a1, a2, a3, a4, a5.mono ht, by omega, a7⟩, b, by omega, d⟩
theorem GdW.nx {T n0 B p ad as' : Nat} {key : Nat → Int32} {hs : Nat → Smd} {hr : Nat → Rmd} {r : List (Nat × Prt)} {s : Wst} {q : Nat × Prt} (hp : p < 2) (had : ad ≤ 16) (has : as' ≤ 31) (hT : T + 15 * n0 + 20 < 2 ^ 20) (h : GdW T n0 B p ad as' key hs hr (q :: r) s) : OkW2 (T + 15 * n0) (1 - p) B key s q ∧ GdW T n0 B p ad as' key hs hr r (wk1 (1 - p) B key s q) := by
  obtain ⟨k, h1, h2, h3, h4, h5⟩ := h
  rw [List.length_cons] at h1
  obtain ⟨hb, hq⟩ := h3 q List.mem_cons_self
  have hp1 : 1 - p < 2 := by omega
  have hpl := pl_lt hp1 hb
  obtain ⟨o1, o2, o3⟩ := opp_lt hpl
  have eo : opp B ((1 - p) * B + q.1) = p * B + q.1 := by rw [opp_peer hp1 hb, show 1 - (1 - p) = p by omega]
  have eo2 : opp B (p * B + q.1) = (1 - p) * B + q.1 := opp_peer hp hb
  obtain ⟨k1, k2, k3⟩ := h2 _ hpl
  obtain ⟨m1, m2, m3⟩ := h2 _ o1
  rw [o3] at m3
  -- what follows the change at the place
  have fin : ∀ (s' : Smd) (r' : Rmd), SndV (T + 15 * (k + 1)) s' → ObK (ksS key (mkN B ((1 - p) * B + q.1))) s'.2.2.2.2.1 s'.2.2.2.2.2 → JntV s' (s.2 (opp B ((1 - p) * B + q.1))) → JntV (s.1 (opp B ((1 - p) * B + q.1))) r' → AdvS 0 (s.1 ((1 - p) * B + q.1)) s' → fldS s' = fldS (s.1 ((1 - p) * B + q.1)) → AdvR (s.1 (opp B ((1 - p) * B + q.1))) (s.2 ((1 - p) * B + q.1)) (s.1 (opp B ((1 - p) * B + q.1))) r' → s'.1 2 = (s.1 ((1 - p) * B + q.1)).1 2 → s'.2.1 = (s.1 ((1 - p) * B + q.1)).2.1 → s'.2.2.2.1 = (s.1 ((1 - p) * B + q.1)).2.2.2.1 → GdW T n0 B p ad as' key hs hr r (fup s.1 ((1 - p) * B + q.1) s', fup s.2 ((1 - p) * B + q.1) r') := by
    intro s' r' g1 g2 g3 g4 g5 g6 g7 g8 g9 g10
    obtain ⟨c1, c2⟩ := h2.put (by omega) hpl g1 g2 g3 g4 g5 g6 g7
    refine ⟨k + 1, by omega, c1, fun q' hq' => (h3 q' (List.mem_cons_of_mem _ hq')).ada hp c2, h4.tr c2, fun pl hp2 => ?_⟩
    obtain ⟨z1, z2, z3⟩ := h5 pl hp2
    by_cases e : pl = (1 - p) * B + q.1
    · subst e
      show (fup s.1 _ s' _).1 2 = _ ∧ (fup s.1 _ s' _).2.1 = _ ∧ (fup s.1 _ s' _).2.2.2.1 = _
      rw [fup_s]
      exact ⟨by rw [g8, z1], by rw [g9, z2], by rw [g10, z3]⟩
    · show (fup s.1 _ s' _).1 2 = _ ∧ (fup s.1 _ s' _).2.1 = _ ∧ (fup s.1 _ s' _).2.2.2.1 = _
      rw [fup_o e]
      exact ⟨z1, z2, z3⟩
  cases hq2 : q.2 with
  | inl d =>
    rw [hq2] at hq
    have hq : DatV (s.1 (opp B ((1 - p) * B + q.1))) ad d := by rw [eo]; exact hq
    obtain ⟨d1, d2⟩ := data_V (nc := (s.1 ((1 - p) * B + q.1)).2.2.2.1) (ks := ksI key (mkN B (opp B ((1 - p) * B + q.1)))) m1 m3 k1 hq had rfl
    obtain ⟨t1, t2, t3, t4, t5, t6, t7, t8⟩ := d2 _ rfl
    refine ⟨⟨hb, h2.ok, ?_⟩, ?_⟩
    · rw [hq2]
      exact d1
    · have ew : wk1 (1 - p) B key s q = (fup s.1 ((1 - p) * B + q.1) (wkD (1 - p) B key s q.1 d).1, fup s.2 ((1 - p) * B + q.1) (wkD (1 - p) B key s q.1 d).2) := by
        unfold wk1
        rw [hq2]
      rw [ew]
      have ef : fldS (wkD (1 - p) B key s q.1 d).1 = fldS (s.1 ((1 - p) * B + q.1)) := by
        unfold wkD
        rw [tdM_fld]
      refine fin _ _ (t3.mono (by omega)) (t4 _ k2) (k3.s (by rw [show (wkD (1 - p) B key s q.1 d).1.1 = (s.1 ((1 - p) * B + q.1)).1 from t5]) (by rw [show (wkD (1 - p) B key s q.1 d).1.1 = (s.1 ((1 - p) * B + q.1)).1 from t5]) ef (fun x hx => by rw [show (wkD (1 - p) B key s q.1 d).1.2.2.1 = (s.1 ((1 - p) * B + q.1)).2.2.1 from t7] at hx; exact hx)) t1 ⟨?_, ?_, fun x _ => by rw [ef]⟩ ef t2 (by rw [show (wkD (1 - p) B key s q.1 d).1.1 = (s.1 ((1 - p) * B + q.1)).1 from t5]) t6 t8
      · rw [show (wkD (1 - p) B key s q.1 d).1.1 = (s.1 ((1 - p) * B + q.1)).1 from t5]
        exact Nat.le_refl _
      · rw [show (wkD (1 - p) B key s q.1 d).1.1 = (s.1 ((1 - p) * B + q.1)).1 from t5]
        exact Nat.le_refl _
  | inr t =>
    rw [hq2] at hq
    have hq : StaV (s.1 ((1 - p) * B + q.1)) (s.2 (opp B ((1 - p) * B + q.1))) as' t := by
      rw [eo2] at hq
      rw [eo]
      exact hq
    obtain ⟨d1, d2, d3, d4, d5, d6, d7, d8, d9⟩ := stat_V k1 k3 hq has (by omega)
    refine ⟨⟨hb, h2.ok, ?_⟩, ?_⟩
    · rw [hq2]
      exact d1.mono (by omega) hT hq.1
    · have ew : wk1 (1 - p) B key s q = (fup s.1 ((1 - p) * B + q.1) (stX t.1 t.2 (s.1 ((1 - p) * B + q.1))), s.2) := by
        unfold wk1
        rw [hq2]
      have er : fup s.2 ((1 - p) * B + q.1) (s.2 ((1 - p) * B + q.1)) = s.2 := by
        funext j
        unfold fup
        split
        · next e => rw [e]
        · rfl
      have := fin (stX t.1 t.2 (s.1 ((1 - p) * B + q.1))) (s.2 ((1 - p) * B + q.1)) (d2.mono (by omega)) (d6 _ k2) d3 m3 d4 stX_fld AdvR.rf d7 d8 d9
      rw [er] at this
      rw [ew]
      exact this
theorem GdW.all {T n0 B p ad as' : Nat} {key : Nat → Int32} {hs : Nat → Smd} {hr : Nat → Rmd} (hp : p < 2) (had : ad ≤ 16) (has : as' ≤ 31) (hT : T + 15 * n0 + 20 < 2 ^ 20) : ∀ (r : List (Nat × Prt)) (s : Wst), GdW T n0 B p ad as' key hs hr r s → GdW T n0 B p ad as' key hs hr [] (wkL (1 - p) B key r s)
  | [], _, h => h
  | q :: r, s, h => GdW.all hp had has hT r _ (h.nx hp had has hT).2
theorem blB_len2 {Gs : Nat → Nat → List Cel} : ∀ l : List (Nat × Prt), 2 * l.length ≤ (blB Gs l).length
  | [] => Nat.le_refl _
  | q :: l => by
    show 2 * (l.length + 1) ≤ (blP Gs q ++ blB Gs l).length
    have := blB_len2 (Gs := Gs) l
    rw [List.length_append]
    unfold blP
    rw [List.length_cons, List.length_cons]
    omega
/-- the filling, from what holds to what holds -/
def kfP (p B k pl : Nat) : Nat := if p * B ≤ pl ∧ pl < p * B + B then k else 0
theorem fl_V {T N n B p g : Nat} {key : Nat → Int32} {hs : Nat → Smd} {hr : Nat → Rmd} {t : Ost} (hB1 : 1 ≤ B) (hp : p < 2) (hg : g ≤ 250) (hN : N + 300 < 2 ^ 20) (h : Cor T B key hs hr) (hb : ∀ pl, pl < 2 * B → BkV N n (hs pl)) (et : t = fbO p B g (2 * B) 0 (hs, hr, [], [])) : Cor T B key t.1 t.2.1 ∧ (∀ pl, pl < 2 * B → BkV (N + 250) n (t.1 pl)) ∧ AdA B (kfP p B 2) hs hr t.1 t.2.1 ∧ (¬ t.2.2.1.length = 0 → BkB B t.1 t.2.1 p 0 0 (flC g t)) ∧ (∀ pl, pl < 2 * B → (t.1 pl).1 2 = (hs pl).1 2) ∧ GdF T p B g key (-(N : Int)) hs hr 0 (hs, hr, [], []) := by
  have hlo : -(2 ^ 20 : Int) ≤ -(N : Int) := by omega
  have hG0 : GdF T p B g key (-(N : Int)) hs hr 0 (hs, hr, [], []) := by
    refine ⟨fun pl hpl => ?_, Nat.zero_le _, fun b hb2 => ⟨rfl, rfl⟩, fun b hb2 => ⟨⟨Nat.le_refl _, fun _ _ => rfl, rfl, rfl, rfl, rfl, rfl⟩, Nat.le_add_right _ _, fun _ => ⟨by rw [Nat.sub_self]; exact Nat.zero_le _, fun hh => by have hh : (hs (p * B + b)).1 5 = (hs (p * B + b)).1 5 + 2 := hh; omega⟩, fun _ => rfl⟩, rfl, fun q hq => by simp at hq⟩
    obtain ⟨k1, k2, k3⟩ := h pl hpl
    obtain ⟨b1, b2, b3, b4, b5⟩ := hb pl hpl
    refine ⟨k1, k2, k3, ?_, by omega, ?_⟩
    · show -(N : Int) - ((0 : Nat) : Int) ≤ (hs pl).2.1.toInt
      omega
    · show (hs pl).1 5 + 252 < 2 ^ 20 + 0
      omega
  have step : ∀ (m i : Nat) (s : Ost), i + m = 2 * B → GdF T p B g key (-(N : Int)) hs hr i s → GdF T p B g key (-(N : Int)) hs hr (2 * B) (fbO p B g m i s) := by
    intro m
    induction m with
    | zero => intro i s hi hs; have : i = 2 * B := by omega
              subst this; exact hs
    | succ m ih =>
      intro i s hi hs
      exact ih (i + 1) _ (by omega) (hs.g2 hp hg hlo (by omega))
  have hGt := step (2 * B) 0 _ (by omega) hG0
  rw [← et] at hGt
  obtain ⟨g1, g2, g3, g4, g5, g6⟩ := hGt
  have plc : ∀ pl, pl < 2 * B → (∃ b, b < B ∧ pl = p * B + b ∧ kfP p B 2 pl = 2) ∨ (∃ b, b < B ∧ pl = opp B (p * B + b) ∧ opp B pl = p * B + b ∧ kfP p B 2 pl = 0) := by
    intro pl hpl
    unfold kfP
    have hp2 : p = 0 ∨ p = 1 := by omega
    rcases hp2 with rfl | rfl
    · by_cases hl : pl < B
      · exact Or.inl ⟨pl, hl, by omega, by rw [if_pos (by omega)]⟩
      · refine Or.inr ⟨pl - B, by omega, ?_, ?_, by rw [if_neg (by omega)]⟩
        · unfold opp
          rw [if_pos (by omega)]
          omega
        · unfold opp
          rw [if_neg hl]
          omega
    · by_cases hl : pl < B
      · refine Or.inr ⟨pl, hl, ?_, ?_, by rw [if_neg (by omega)]⟩
        · unfold opp
          rw [if_neg (by omega)]
          omega
        · unfold opp
          rw [if_pos hl]
          omega
      · exact Or.inl ⟨pl - B, by omega, by omega, by rw [if_pos (by omega)]⟩
  refine ⟨fun pl hpl => ⟨(g1 pl hpl).1, (g1 pl hpl).2.1, (g1 pl hpl).2.2.1⟩, fun pl hpl => ?_, fun pl hpl => ?_, fun hne => ?_, fun pl hpl => ?_, hG0⟩
  · obtain ⟨k1, k2, k3, k4, k5, k6⟩ := g1 pl hpl
    obtain ⟨b1, b2, b3, b4, b5⟩ := hb pl hpl
    rcases plc pl hpl with ⟨b, hbb, e, -⟩ | ⟨b, hbb, e, -, -⟩
    · obtain ⟨⟨f1, f2, f3, f4, f5, f6, f7⟩, c1, -⟩ := g4 b hbb
      rw [← e] at f1 f6 f7 c1
      refine ⟨by omega, by rw [f7]; exact b2, ?_, k5, by rw [f6]; exact b5⟩
      have : (t.2.2.1.length : Int) ≤ 250 := by omega
      have : ((N + 250 : Nat) : Int) = (N : Int) + 250 := by omega
      omega
    · have := (g3 b hbb).1
      rw [← e] at this
      rw [this]
      refine ⟨by omega, b2, by omega, b4, b5⟩
  · rcases plc pl hpl with ⟨b, hbb, e, ek⟩ | ⟨b, hbb, e, eo, ek⟩
    · obtain ⟨⟨f1, f2, f3, f4, f5, f6, f7⟩, c1, -⟩ := g4 b hbb
      have hso := (g3 b hbb).1
      rw [← e] at f1 f2 f3 f4 f5 c1 hso
      rw [ek, hso]
      refine ⟨⟨f1, c1, f2⟩, by omega, fun y hy => ?_⟩
      have ew : whR (hs (opp B pl)) (t.2.1 pl) = whR (hs (opp B pl)) (hr pl) := by unfold whR; rw [f4, f5, f3]
      rw [f4, ew]
      exact hy
    · have hse := (g3 b hbb).1
      have hre := (g3 b hbb).2
      obtain ⟨⟨f1, f2, f3, f4, f5, f6, f7⟩, c1, -⟩ := g4 b hbb
      rw [← e] at hse hre
      rw [ek, hse, hre, eo]
      refine ⟨AdvS.rf, Nat.le_refl _, fun y hy => ?_⟩
      have hj := (h _ (pl_lt hp hbb)).2.2
      rw [← e] at hj
      have ew : whR (t.1 (p * B + b)) (hr pl) = whR (hs (p * B + b)) (hr pl) := whl_congr (fun y hy => f2 y (by have := hj.1.2.2.2.2.1; omega))
      rw [ew]
      exact hy
  · have ec : flC g t = (0, g, false, t.2.2.1 ++ fil (g - t.2.2.1.length), t.2.2.2) := by unfold flC; rw [if_neg hne]
    rw [ec]
    refine ⟨by show 0 < g; omega, ⟨g - t.2.2.1.length, ?_⟩, ?_, fun q hq => ?_⟩
    · show t.2.2.1 ++ fil (g - t.2.2.1.length) = blB (fun b => fldS (t.1 (p * B + b))) t.2.2.2 ++ fil (g - t.2.2.1.length)
      rw [← g5]
    · show (t.2.2.1 ++ fil (g - t.2.2.1.length)).length = g
      rw [List.length_append, fil_len]
      omega
    · obtain ⟨q1, q2⟩ := g6 q hq
      refine ⟨q1, ?_⟩
      cases hq2 : q.2 with
      | inl d =>
        rw [hq2] at q2
        obtain ⟨d1, d2, d3, d4⟩ := q2
        have h16 := (g1 _ (pl_lt hp q1)).1.1.2.2.1
        exact ⟨d2, d3, d4, by omega⟩
      | inr u =>
        rw [hq2] at q2
        show StaV (t.1 (opp B (p * B + q.1))) (t.2.1 (p * B + q.1)) 0 u
        rw [(g3 _ q1).1]
        exact q2
  · rcases plc pl hpl with ⟨b, hbb, e, -⟩ | ⟨b, hbb, e, -, -⟩
    · have := (g4 b hbb).1.2.2.2.2.2.1
      rw [← e] at this
      exact this
    · have := (g3 b hbb).1
      rw [← e] at this
      rw [this]
