/-! PURE: the middle: a block is filled -/
theorem bgL_len {nc : Nat} : ∀ (l : List Cel) (bg : Option (List Int32)), chn nc bg l → (∀ pk, bg = some pk → pk.length < 121) → ∀ pk, bgL bg l = some pk → pk.length < 121
  | [], _, _, h, pk, e => h pk e
  | q :: l, bg, hc, h, pk, e => bgL_len l (nxtB bg q) hc.2 hc.1.2.2.1 pk e
theorem bgN_len {nc : Nat} {G : Nat → List Cel} : ∀ n, (∀ x, x < n → chn nc (bgN G x) (G x)) → ∀ pk, bgN G n = some pk → pk.length < 121
  | 0, _, pk, e => by cases e
  | n + 1, h, pk, e => bgL_len (G n) (bgN G n) (h n (by omega)) (bgN_len n (fun x hx => h x (by omega))) pk e
theorem begun_len {T : Nat} {s : Smd} {r : Rmd} (h : SndV T s) (hj : JntV s r) : ∀ pk, r.2.2.1 = some pk → pk.length ≤ 256 := by
  intro pk e
  obtain ⟨⟨a1, a2, a3, a4, a5, a6, a7, a8, a9⟩, -, -, -, e1⟩ := hj
  rw [e1] at e
  have := bgN_len (nc := s.2.2.2.1) (r.1 2) (fun x hx => h.2.2.2.2.2.1 x (by omega)) pk e
  omega
def PlF (s0 : Smd) (r0 : Rmd) (s : Smd) (r : Rmd) : Prop := s0.1 5 ≤ s.1 5 ∧ (∀ x, x < s0.1 5 → fldS s x = fldS s0 x) ∧ r.2 = r0.2 ∧ r.1 2 = r0.1 2 ∧ r.1 3 = r0.1 3 ∧ s.1 2 = s0.1 2 ∧ s.2.2.2.1 = s0.2.2.2.1
def CnF (B i b len : Nat) (s0 s : Smd) : Prop := s.1 5 ≤ s0.1 5 + 2 ∧ (i ≤ B + b → 5 * (s.1 5 - s0.1 5) ≤ len ∧ (s.1 5 = s0.1 5 + 2 → 249 ≤ len)) ∧ (i ≤ b → s.1 5 = s0.1 5)
def GdF (T p B g : Nat) (key : Nat → Int32) (lo : Int) (hs0 : Nat → Smd) (hr0 : Nat → Rmd) (i : Nat) (s : Ost) : Prop := (∀ pl, pl < 2 * B → SndV T (s.1 pl) ∧ ObK (ksS key (mkN B pl)) (s.1 pl).2.2.2.2.1 (s.1 pl).2.2.2.2.2 ∧ JntV (s.1 pl) (s.2.1 (opp B pl)) ∧ lo - s.2.2.1.length ≤ (s.1 pl).2.1.toInt ∧ (s.1 pl).2.1.toInt ≤ 2000 ∧ (s.1 pl).1 5 + 252 < 2 ^ 20 + s.2.2.1.length) ∧ s.2.2.1.length ≤ g ∧ (∀ b, b < B → s.1 (opp B (p * B + b)) = hs0 (opp B (p * B + b)) ∧ s.2.1 (opp B (p * B + b)) = hr0 (opp B (p * B + b))) ∧ (∀ b, b < B → PlF (hs0 (p * B + b)) (hr0 (p * B + b)) (s.1 (p * B + b)) (s.2.1 (p * B + b)) ∧ CnF B i b s.2.2.1.length (hs0 (p * B + b)) (s.1 (p * B + b))) ∧ s.2.2.1 = blB (fun b => fldS (s.1 (p * B + b))) s.2.2.2 ∧ ∀ q ∈ s.2.2.2, q.1 < B ∧ PrtF (hs0 (opp B (p * B + q.1))) (s.1 (p * B + q.1)) (s.2.1 (p * B + q.1)) q.2
theorem bOf_lt {B i : Nat} (h : i < 2 * B) : bOf B i < B := by unfold bOf; split <;> omega
theorem pl_lt {p B b : Nat} (hp : p < 2) (hb : b < B) : p * B + b < 2 * B := by
  have : p * B ≤ 1 * B := Nat.mul_le_mul_right B (by omega)
  omega
theorem pl_inj {p B b c : Nat} (h : p * B + b = p * B + c) : b = c := by omega
theorem opp_ne {p B b c : Nat} (hp : p < 2) (hb : b < B) (hc : c < B) : opp B (p * B + b) ≠ p * B + c := by
  rw [opp_peer hp hb]
  have : p = 0 ∨ p = 1 := by omega
  rcases this with rfl | rfl
  · omega
  · omega
theorem GdF.fs {T p B g : Nat} {key : Nat → Int32} {lo : Int} {hs0 : Nat → Smd} {hr0 : Nat → Rmd} {i : Nat} {s : Ost} (hp : p < 2) (h : GdF T p B g key lo hs0 hr0 i s) (hi : i < 2 * B) : FsV T (ksS key (mkN B (p * B + bOf B i))) lo (s.1 (p * B + bOf B i), s.2.1 (p * B + bOf B i), s.2.2.1, s.2.2.2) := by
  have hpl := pl_lt hp (bOf_lt hi)
  obtain ⟨o1, o2, o3⟩ := opp_lt hpl
  obtain ⟨k1, k2, k3, k4, k5, k6⟩ := h.1 _ hpl
  have hj := (h.1 _ o1).2.2.1
  rw [o3] at hj
  exact ⟨k1.1, k1.2.1, k6, k2, hj.rv, k4, k5⟩
theorem GdF.t {T p B g : Nat} {key : Nat → Int32} {lo : Int} {hs0 : Nat → Smd} {hr0 : Nat → Rmd} {i : Nat} {s : Ost} (hp : p < 2) (hg : g ≤ 250) (hlo : -(2 ^ 20 : Int) ≤ lo) (h : GdF T p B g key lo hs0 hr0 i s) (hi : i < 2 * B) : FlI T (s.1 (opp B (p * B + bOf B i))) (s.2.1 (opp B (p * B + bOf B i))) (s.1 (p * B + bOf B i), s.2.1 (p * B + bOf B i), s.2.2.1, s.2.2.2) (bOf B i) (fbT p B g i s) ∧ FsV T (ksS key (mkN B (p * B + bOf B i))) lo (fbT p B g i s) ∧ s.2.2.1.length ≤ (fbT p B g i s).2.2.1.length := by
  have hpl := pl_lt hp (bOf_lt hi)
  obtain ⟨o1, o2, o3⟩ := opp_lt hpl
  have hso := (h.1 _ o1).1.2.2.2.2.1
  have hfs := h.fs hp hi
  have hk := h.1 _ hpl
  have hj := (h.1 _ o1).2.2.1
  rw [o3] at hj
  have key2 := fbI_ind (G := fldS (s.1 (opp B (p * B + bOf B i)))) (bd := decide (i < B)) (g := g) (b := bOf B i) (Pp := fun t => FlI T (s.1 (opp B (p * B + bOf B i))) (s.2.1 (opp B (p * B + bOf B i))) (s.1 (p * B + bOf B i), s.2.1 (p * B + bOf B i), s.2.2.1, s.2.2.2) (bOf B i) t ∧ FsV T (ksS key (mkN B (p * B + bOf B i))) lo t ∧ t.2.2.1.length ≤ g ∧ s.2.2.1.length ≤ t.2.2.1.length) (fun t u ht e => by
    obtain ⟨t1, t2, t3, t4⟩ := ht
    obtain ⟨v1, v2, v3⟩ := fb1_V hg hlo t2 t3 e
    exact ⟨t1.nx (fun x => (hso x).1) (by have := t2.2.2.1; omega) e, v1, v2, by omega⟩) 250 (s.1 (p * B + bOf B i), s.2.1 (p * B + bOf B i), s.2.2.1, s.2.2.2) ⟨⟨hk.1, hk.2.2.1, hj, ⟨Nat.le_refl _, fun _ _ => rfl, rfl, rfl, rfl, rfl, rfl⟩, rfl, [], by rw [List.append_nil], by show s.2.2.1 = s.2.2.1 ++ []; rw [List.append_nil], fun q hq => by simp at hq⟩, hfs, h.2.1, Nat.le_refl _⟩
  exact ⟨key2.1, key2.2.1, key2.2.2.2⟩
theorem GdF.g1 {T p B g : Nat} {key : Nat → Int32} {lo : Int} {hs0 : Nat → Smd} {hr0 : Nat → Rmd} {i : Nat} {s : Ost} (hp : p < 2) (hg : g ≤ 250) (hlo : -(2 ^ 20 : Int) ≤ lo) (h : GdF T p B g key lo hs0 hr0 i s) (hi : i < 2 * B) : FsV T (ksS key (mkN B (p * B + bOf B i))) lo (s.1 (p * B + bOf B i), s.2.1 (p * B + bOf B i), s.2.2.1, s.2.2.2) ∧ Grw (fldS (s.1 (p * B + bOf B i))) (fldS (fbT p B g i s).1) (s.2.1 (opp B (p * B + bOf B i))).2.1 ∧ clrP (s.2.1 (p * B + bOf B i)).1 (s.2.1 (p * B + bOf B i)).2.1 ∧ knP (s.2.1 (p * B + bOf B i)).2.1 ∧ OkA B s.1 s.2.1 := by
  have hpl := pl_lt hp (bOf_lt hi)
  obtain ⟨o1, o2, o3⟩ := opp_lt hpl
  obtain ⟨t1, t2, t3⟩ := h.t hp hg hlo hi
  have hj := (h.1 _ o1).2.2.1
  rw [o3] at hj
  have hj2 := (h.1 _ hpl).2.2.1
  refine ⟨h.fs hp hi, fun x => ?_, hj.2.1.1, hj.2.1.2.1, fun q hq => ?_⟩
  · by_cases hx : x < (s.1 (p * B + bOf B i)).1 5
    · exact Or.inl (t1.2.2.2.1.2.1 x hx)
    · refine Or.inr ⟨hj2.2.1.1 x ?_, t1.1.2.2.2.2.1 x⟩
      have := hj2.1.2.2.2.2.1
      omega
  · obtain ⟨q1, q2, q3⟩ := opp_lt hq
    have hk := h.1 _ q1
    have hjq := hk.2.2.1
    rw [q3] at hjq
    exact ⟨(h.1 _ hq).1.2.1, begun_len hk.1 hjq⟩
theorem GdF.g2 {T p B g : Nat} {key : Nat → Int32} {lo : Int} {hs0 : Nat → Smd} {hr0 : Nat → Rmd} {i : Nat} {s : Ost} (hp : p < 2) (hg : g ≤ 250) (hlo : -(2 ^ 20 : Int) ≤ lo) (h : GdF T p B g key lo hs0 hr0 i s) (hi : i < 2 * B) : GdF T p B g key lo hs0 hr0 (i + 1) (fbS p B g i s) := by
  have hbO := bOf_lt hi
  have hpl := pl_lt hp hbO
  obtain ⟨o1, o2, o3⟩ := opp_lt hpl
  obtain ⟨⟨f1, f2, f3, ⟨f4, f5, f6, f7, f8, f9, f10⟩, f11, np, f12, f13, f14⟩, v, hl3⟩ := h.t hp hg hlo hi
  obtain ⟨v1, v2, v3, v4, v5, v6, v7⟩ := v
  obtain ⟨k, c1, c2, c3, c4⟩ := fbI_cnt (T := T) (g := g) (b := bOf B i) (bd := decide (i < B)) (ks := ksS key (mkN B (p * B + bOf B i))) (lo := lo) (G := fldS (s.1 (opp B (p * B + bOf B i)))) hg hlo 250 _ (h.fs hp hi) h.2.1
  have c1 : (fbT p B g i s).1.1 5 = (s.1 (p * B + bOf B i)).1 5 + k := c1
  have c2 : s.2.2.1.length + 5 * k ≤ (fbT p B g i s).2.2.1.length := c2
  have c3 : 2 ≤ k → s.2.2.1.length + 244 * (k - 1) + 5 ≤ (fbT p B g i s).2.2.1.length := c3
  have c4 : (fbT p B g i s).2.2.1.length ≤ g := c4
  obtain ⟨h1, h2, h3, h4, h5, h6⟩ := h
  have f4 : (s.1 (p * B + bOf B i)).1 5 ≤ (fbT p B g i s).1.1 5 := f4
  have f5 : ∀ x, x < (s.1 (p * B + bOf B i)).1 5 → fldS (fbT p B g i s).1 x = fldS (s.1 (p * B + bOf B i)) x := f5
  have f6 : (fbT p B g i s).2.1.2 = (s.2.1 (p * B + bOf B i)).2 := f6
  have f7 : (fbT p B g i s).2.1.1 2 = (s.2.1 (p * B + bOf B i)).1 2 := f7
  have f8 : (fbT p B g i s).2.1.1 3 = (s.2.1 (p * B + bOf B i)).1 3 := f8
  have f9 : (fbT p B g i s).1.1 2 = (s.1 (p * B + bOf B i)).1 2 := f9
  have f10 : (fbT p B g i s).1.2.2.2.1 = (s.1 (p * B + bOf B i)).2.2.2.1 := f10
  have f11 : (fbT p B g i s).1.1 4 = (s.1 (p * B + bOf B i)).1 4 := f11
  have f12 : (fbT p B g i s).2.2.2 = s.2.2.2 ++ np := f12
  have f13 : (fbT p B g i s).2.2.1 = s.2.2.1 ++ blB (fun _ => fldS (fbT p B g i s).1) np := f13
  have e1 : (fbS p B g i s).1 = fup s.1 (p * B + bOf B i) (fbT p B g i s).1 := rfl
  have e2 : (fbS p B g i s).2.1 = fup s.2.1 (p * B + bOf B i) (fbT p B g i s).2.1 := rfl
  have e3 : (fbS p B g i s).2.2.1 = (fbT p B g i s).2.2.1 := rfl
  have e4 : (fbS p B g i s).2.2.2 = (fbT p B g i s).2.2.2 := rfl
  unfold GdF
  rw [e1, e2, e3, e4]
  generalize fbT p B g i s = t at *
  refine ⟨fun pl hq => ?_, c4, fun b hb => ?_, fun b hb => ?_, ?_, fun q hq => ?_⟩
  · obtain ⟨q1, q2, q3⟩ := opp_lt hq
    obtain ⟨k1, k2, k3, k4, k5, k6⟩ := h1 pl hq
    by_cases e : pl = p * B + bOf B i
    · subst e
      rw [fup_s, fup_o q2]
      exact ⟨f1, v4, f2, v6, v7, v3⟩
    · rw [fup_o e]
      refine ⟨k1, k2, ?_, by omega, k5, by omega⟩
      by_cases eo : opp B pl = p * B + bOf B i
      · have ep : pl = opp B (p * B + bOf B i) := by rw [← eo]; exact q3.symm
        rw [eo, fup_s, ep]
        exact f3
      · rw [fup_o eo]
        exact k3
  · rw [fup_o (opp_ne hp hb hbO), fup_o (opp_ne hp hb hbO)]
    exact h3 b hb
  · obtain ⟨⟨m1, m2, m3, m4, m5, m6, m7⟩, ⟨n1, n2, n3⟩⟩ := h4 b hb
    by_cases e : b = bOf B i
    · subst e
      rw [fup_s, fup_s]
      refine ⟨⟨by omega, fun x hx => by rw [f5 x (by omega), m2 x hx], by rw [f6, m3], by rw [f7, m4], by rw [f8, m5], by rw [f9, m6], by rw [f10, m7]⟩, ?_⟩
      unfold bOf at n1 n2 n3 c1 m1 ⊢
      by_cases eb : i < B
      · rw [if_pos eb] at n1 n2 n3 c1 m1 ⊢
        have n3 := n3 (Nat.le_refl _)
        refine ⟨?_, fun _ => ⟨by omega, fun h2 => ?_⟩, fun hh => by omega⟩
        · rcases Nat.lt_or_ge k 3 with hk | hk
          · omega
          · have := c3 (by omega)
            omega
        · have := c3 (by omega)
          omega
      · rw [if_neg eb] at n1 n2 n3 c1 m1 ⊢
        obtain ⟨n21, n22⟩ := n2 (by omega)
        refine ⟨?_, fun hh => by omega, fun hh => by omega⟩
        rcases Nat.lt_or_ge k 2 with hk | hk
        · rcases Nat.lt_or_ge k 1 with hk1 | hk1
          · omega
          · have hne : (s.1 (p * B + (i - B))).1 5 ≠ (hs0 (p * B + (i - B))).1 5 + 2 := fun hh => by
              have := n22 hh
              omega
            omega
        · have := c3 hk
          omega
    · have e' : p * B + b ≠ p * B + bOf B i := fun hh => e (pl_inj hh)
      rw [fup_o e', fup_o e']
      refine ⟨⟨m1, m2, m3, m4, m5, m6, m7⟩, n1, fun hh => ?_, fun hh => ?_⟩
      · obtain ⟨z1, z2⟩ := n2 (by omega)
        exact ⟨by omega, fun h2 => by have := z2 h2; omega⟩
      · exact n3 (by omega)
  · rw [f13, f12, blB_app]
    have a1 : blB (fun b => fldS (fup s.1 (p * B + bOf B i) t.1 (p * B + b))) s.2.2.2 = s.2.2.1 := by
      rw [h5]
      refine blB_congr _ (fun q hq d hd => ?_)
      obtain ⟨b1, b2⟩ := h6 q hq
      rw [hd] at b2
      show fldS (fup s.1 (p * B + bOf B i) t.1 (p * B + q.1)) d.1 = fldS (s.1 (p * B + q.1)) d.1
      by_cases e : q.1 = bOf B i
      · rw [e] at b2 ⊢
        rw [fup_s]
        exact f5 _ b2.2.1
      · rw [fup_o (fun hh => e (pl_inj hh))]
    have a2 : blB (fun b => fldS (fup s.1 (p * B + bOf B i) t.1 (p * B + b))) np = blB (fun _ => fldS t.1) np := by
      refine blB_congr _ (fun q hq d hd => ?_)
      show fldS (fup s.1 (p * B + bOf B i) t.1 (p * B + q.1)) d.1 = fldS t.1 d.1
      rw [(f14 q hq).1, fup_s]
    rw [a1, a2]
  · rw [f12] at hq
    rcases List.mem_append.mp hq with e | e
    · obtain ⟨b1, b2⟩ := h6 q e
      refine ⟨b1, ?_⟩
      by_cases eb : q.1 = bOf B i
      · rw [eb] at b2 ⊢
        rw [fup_s, fup_s]
        cases hq2 : q.2 with
        | inl d =>
          rw [hq2] at b2
          obtain ⟨d1, d2, d3, d4⟩ := b2
          exact ⟨by rw [f11]; exact d1, by omega, d3, by rw [f5 _ d2]; exact d4⟩
        | inr u =>
          rw [hq2] at b2
          obtain ⟨u1, u2, u3, u4, u5⟩ := b2
          have ew : whR (hs0 (opp B (p * B + bOf B i))) t.2.1 = whR (hs0 (opp B (p * B + bOf B i))) (s.2.1 (p * B + bOf B i)) := by unfold whR; rw [f7, f8, f6]
          exact ⟨u1, by rw [f8]; exact u2, u3, u4, fun y y1 y2 => by rw [f7, ew]; exact u5 y y1 y2⟩
      · rw [fup_o (fun hh => eb (pl_inj hh)), fup_o (fun hh => eb (pl_inj hh))]
        exact b2
    · obtain ⟨b1, b2⟩ := f14 q e
      refine ⟨by rw [b1]; exact hbO, ?_⟩
      rw [b1, fup_s, fup_s]
      rw [(h3 _ hbO).1] at b2
      exact b2
