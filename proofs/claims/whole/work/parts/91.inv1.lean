/-! PURE: the middle: what holds of a sender and of its receiver -/
def SndV (T : Nat) (s : Smd) : Prop := SI T s.1 s.2.2.1 ∧ ObV s.2.2.2.1 s.2.2.2.2.1 s.2.2.2.2.2 ∧ SF s.1 s.2.2.1 ∧ (s.1 4 < s.1 5 → (s.2.2.1 (s.1 4)).2.2.2 = false) ∧ (∀ x, (fldS s x).length ≤ 240 ∧ ∀ q ∈ fldS s x, celOK q) ∧ (∀ x, x < s.1 5 → chn s.2.2.2.1 (bgN (fldS s) x) (fldS s x)) ∧ bgN (fldS s) (s.1 5) = frW s.2.2.2.2.2
def BkV (N n : Nat) (s : Smd) : Prop := s.1 5 ≤ N ∧ s.2.2.2.1 ≤ n ∧ -(N : Int) ≤ s.2.1.toInt ∧ s.2.1.toInt ≤ 2000 ∧ s.1 2 ≤ 200
def whR (s : Smd) (r : Rmd) : Nat → Bool := whl (fldS s) (r.1 2) (r.1 3) r.2.1
def JntV (s : Smd) (r : Rmd) : Prop := (RvB r.1 ∧ r.1 2 ≤ r.1 4 ∧ r.1 4 ≤ r.1 3 ∧ r.1 5 ≤ r.1 3 ∧ r.1 3 ≤ s.1 5 ∧ s.1 4 ≤ r.1 2 ∧ s.1 5 ≤ s.1 4 + 16 ∧ r.1 7 ≤ 1 ∧ (r.1 6 = 0 ∨ r.1 4 + 1 ≤ r.1 6)) ∧ (clrP r.1 r.2.1 ∧ knP r.2.1 ∧ ∀ x k, (r.2.1 x).2 k = true → k < (fldS s x).length) ∧ (whR s r (r.1 2) = false ∧ whR s r (r.1 4) = false) ∧ (∀ x, s.1 4 ≤ x → x < s.1 5 → (s.2.2.1 x).2.2.2 = true → x < r.1 2 ∨ whR s r x = true) ∧ r.2.2.1 = bgN (fldS s) (r.1 2)
theorem JntV.rv {s : Smd} {r : Rmd} (h : JntV s r) : RvV r.1 := by
  obtain ⟨⟨a1, a2, a3, a4, a5, a6, a7, a8, a9⟩, -⟩ := h
  exact ⟨a1, a2, a3, a4, by omega⟩
theorem whl_congr {G G' : Nat → List Cel} {R H : Nat} {pc : Rpc} (h : ∀ y, y < H → G' y = G y) : whl G' R H pc = whl G R H pc := by
  funext y
  unfold whl
  by_cases e : y < H
  · rw [h y e]
  · rw [decide_eq_false (fun hh => e hh.2.1), decide_eq_false (fun hh => e hh.2.1)]
theorem JntV.s {s s' : Smd} {r : Rmd} (h : JntV s r) (e4 : s'.1 4 = s.1 4) (e5 : s'.1 5 = s.1 5) (ef : fldS s' = fldS s) (hc : ∀ x, (s'.2.2.1 x).2.2.2 = true → (s.2.2.1 x).2.2.2 = true) : JntV s' r := by
  obtain ⟨⟨a1, a2, a3, a4, a5, a6, a7, a8, a9⟩, b, c, d, e⟩ := h
  have ew : whR s' r = whR s r := by unfold whR; rw [ef]
  refine ⟨⟨a1, a2, a3, a4, by rw [e5]; exact a5, by rw [e4]; exact a6, by rw [e4, e5]; exact a7, a8, a9⟩, ?_, ?_, fun x x1 x2 x3 => ?_, ?_⟩
  · rw [ef]; exact b
  · rw [ew]; exact c
  · rw [ew]
    exact d x (by rw [e4] at x1; exact x1) (by rw [e5] at x2; exact x2) (hc x x3)
  · rw [ef]; exact e
theorem JntV.r {s : Smd} {r r' : Rmd} (h : JntV s r) (hb : RvB r'.1) (e2 : r'.1 2 = r.1 2) (e3 : r'.1 3 = r.1 3) (e4 : r'.1 4 = r.1 4) (e5 : r'.1 5 = r.1 5) (e6 : r'.1 6 = r.1 6) (h7 : r'.1 7 ≤ 1) (ep : r'.2.1 = r.2.1) (eb : r'.2.2.1 = r.2.2.1) : JntV s r' := by
  obtain ⟨⟨a1, a2, a3, a4, a5, a6, a7, a8, a9⟩, ⟨b1, b2, b3⟩, c, d, e⟩ := h
  have ew : whR s r' = whR s r := by unfold whR; rw [e2, e3, ep]
  refine ⟨⟨hb, by rw [e2, e4]; exact a2, by rw [e3, e4]; exact a3, by rw [e3, e5]; exact a4, by rw [e3]; exact a5, by rw [e2]; exact a6, a7, h7, by rw [e4, e6]; exact a9⟩, ⟨fun x hx => ?_, by rw [ep]; exact b2, by rw [ep]; exact b3⟩, by rw [ew, e2, e4]; exact c, ?_, by rw [eb, e2]; exact e⟩
  · rw [ep]
    exact b1 x (by rw [e3] at hx; exact hx)
  · rw [ew, e2]; exact d
theorem SF.pc {v u : Nat → Nat} {pc pc' : Nat → Pce} (h : SF v pc) (e4 : u 4 = v 4) (e5 : u 5 = v 5) (e8 : u 8 = v 8) (ht : ∀ x, (pc' x).2.2.1 = (pc x).2.2.1) : SF u pc' := by
  refine ⟨by rw [e8]; exact h.1, fun x x1 x2 x3 => ?_⟩
  rw [e8]
  exact h.2 x (by rw [e4] at x1; exact x1) (by rw [e5] at x2; exact x2) (by rw [ht] at x3; exact x3)
theorem SndV.of {T T' : Nat} {s s' : Smd} (h : SndV T s) (hI : SI T' s'.1 s'.2.2.1) (hS : SF s'.1 s'.2.2.1) (e4 : s'.1 4 = s.1 4) (e5 : s'.1 5 = s.1 5) (ef : fldS s' = fldS s) (hc : ∀ x, (s'.2.2.1 x).2.2.2 = (s.2.2.1 x).2.2.2) (en : s'.2.2.2 = s.2.2.2) : SndV T' s' := by
  obtain ⟨a1, a2, a3, a4, a5, a6, a7⟩ := h
  refine ⟨hI, by rw [en]; exact a2, hS, fun hh => ?_, by rw [ef]; exact a5, by rw [ef, e5, en]; exact a6, by rw [ef, e5, en]; exact a7⟩
  rw [hc, e4]
  exact a4 (by rw [e4, e5] at hh; exact hh)
theorem agS_fld {s : Smd} {room : Nat} : fldS (agS s room) = fldS s := by
  funext x
  unfold fldS agS
  show (spu s.2.2.1 (agX s.1 s.2.2.1) _ x).1 = _
  unfold spu
  split
  · next e => rw [e]; rfl
  · rfl
theorem agS_pc {s : Smd} {room x : Nat} : ((agS s room).2.2.1 x).2.2 = (s.2.2.1 x).2.2 := by
  unfold agS
  show (spu s.2.2.1 (agX s.1 s.2.2.1) _ x).2.2 = _
  unfold spu
  split
  · next e => rw [e]; rfl
  · rfl
theorem SndV.ag {T room : Nat} {s : Smd} (h : SndV T s) (h0 : 0 < s.1 6) (hr : agW (agQ s) room = true ∨ 4 ≤ room) : SndV T (agS s room) := by
  refine h.of (SI.ag h.1 h0 hr).1 (h.2.2.1.pc (agS_k (by decide) (by decide) (by decide) (by decide) (by decide) (by decide) (by decide)) (agS_k (by decide) (by decide) (by decide) (by decide) (by decide) (by decide) (by decide)) (agS_k (by decide) (by decide) (by decide) (by decide) (by decide) (by decide) (by decide)) (fun x => by rw [agS_pc])) (agS_k (by decide) (by decide) (by decide) (by decide) (by decide) (by decide) (by decide)) (agS_k (by decide) (by decide) (by decide) (by decide) (by decide) (by decide) (by decide)) agS_fld (fun x => by rw [agS_pc]) rfl
theorem nwS_fld {s : Smd} {room x : Nat} (h : x ≠ s.1 5) : fldS (nwS s room) x = fldS s x := by
  unfold fldS nwS
  show (spu s.2.2.1 (s.1 5) _ x).1 = _
  rw [spu_o h]
theorem nwS_pc {s : Smd} {room x : Nat} (h : x ≠ s.1 5) : (nwS s room).2.2.1 x = s.2.2.1 x := by
  unfold nwS
  show spu s.2.2.1 (s.1 5) _ x = _
  rw [spu_o h]
theorem nwS_pn {s : Smd} {room : Nat} : (nwS s room).2.2.1 (s.1 5) = ((newL room s.2.2.2.2.2).1, mnA, 0, false) := by
  unfold nwS
  show spu s.2.2.1 (s.1 5) _ (s.1 5) = _
  rw [spu_s]
theorem SndV.nw {T room : Nat} {s : Smd} (h : SndV T s) (h5 : s.1 5 + 1 < 2 ^ 20) (hf : ¬ (s.2.2.2.2.2.1.length = 0 ∨ s.1 4 + 16 ≤ s.1 5 ∨ room < 3)) : SndV T (nwS s room) := by
  obtain ⟨a1, a2, a3, a4, a5, a6, a7⟩ := h
  have e4 : (nwS s room).1 4 = s.1 4 := nwS_k (by decide) (by decide) (by decide) (by decide) (by decide) (by decide)
  have e8 : (nwS s room).1 8 = s.1 8 := nwS_k (by decide) (by decide) (by decide) (by decide) (by decide) (by decide)
  have e5 : (nwS s room).1 5 = s.1 5 + 1 := nwS_5
  obtain ⟨z1, z2, z3⟩ := newL_sz (room := room) (w := s.2.2.2.2.2) (by omega) (by omega)
  obtain ⟨c1, c2⟩ := mnF_chn (bg := bgN (fldS s) (s.1 5)) 240 (room - 2) [] s.2.2.2.2.2 a2 trivial a7
  have hb : ∀ n, n ≤ s.1 5 → bgN (fldS (nwS s room)) n = bgN (fldS s) n := fun n hn => bgN_congr n (fun x hx => nwS_fld (by omega))
  refine ⟨SI.nw a1 h5 (by omega), obV_mn _ _ _ _ a2, ⟨by rw [e8]; exact a3.1, fun x x1 x2 x3 => ?_⟩, fun hh => ?_, fun x => ?_, fun x hx => ?_, ?_⟩
  · rw [e8]
    by_cases ex : x = s.1 5
    · rw [ex, nwS_pn] at x3
      exact absurd x3 (by show ¬ 5 ≤ 0; omega)
    · rw [nwS_pc ex] at x3
      exact a3.2 x (by omega) (by omega) x3
  · rw [e4]
    by_cases ex : s.1 4 = s.1 5
    · rw [ex, nwS_pn]
    · rw [nwS_pc ex]
      have := a1.2.1
      exact a4 (by omega)
  · by_cases ex : x = s.1 5
    · rw [ex, nwP_B.1]
      exact ⟨z2, fun q hq => (chn_cel _ _ c1 q hq).1⟩
    · rw [nwS_fld ex]; exact a5 x
  · show chn s.2.2.2.1 _ _
    rw [e5] at hx
    rw [hb x (by omega)]
    by_cases ex : x = s.1 5
    · rw [ex, nwP_B.1]
      exact c1
    · rw [nwS_fld ex]
      exact a6 x (by omega)
  · rw [e5]
    show bgL (bgN (fldS (nwS s room)) (s.1 5)) (fldS (nwS s room) (s.1 5)) = frW (newL room s.2.2.2.2.2).2
    rw [hb _ (Nat.le_refl _), nwP_B.1]
    exact c2
theorem JntV.nw {room : Nat} {s : Smd} {r : Rmd} (h : JntV s r) (hf : ¬ s.1 4 + 16 ≤ s.1 5) : JntV (nwS s room) r := by
  obtain ⟨⟨a1, a2, a3, a4, a5, a6, a7, a8, a9⟩, ⟨b1, b2, b3⟩, c, d, e⟩ := h
  have e4 : (nwS s room).1 4 = s.1 4 := nwS_k (by decide) (by decide) (by decide) (by decide) (by decide) (by decide)
  have e5 : (nwS s room).1 5 = s.1 5 + 1 := nwS_5
  have ew : whR (nwS s room) r = whR s r := whl_congr (fun y hy => nwS_fld (by omega))
  refine ⟨⟨a1, a2, a3, a4, by omega, by omega, by omega, a8, a9⟩, ⟨b1, b2, fun x k hk => ?_⟩, by rw [ew]; exact c, fun x x1 x2 x3 => ?_, ?_⟩
  · by_cases ex : x < r.1 3
    · rw [nwS_fld (by omega)]; exact b3 x k hk
    · rw [b1 x (by omega)] at hk
      exact absurd hk Bool.false_ne_true
  · rw [ew]
    by_cases ex : x = s.1 5
    · rw [ex, nwS_pn] at x3
      exact absurd x3 Bool.false_ne_true
    · rw [nwS_pc ex] at x3
      exact d x (by omega) (by omega) x3
  · rw [e]
    exact (bgN_congr _ (fun x hx => nwS_fld (by omega))).symm
theorem JntV.mk {s : Smd} {r : Rmd} (h : JntV s r) : JntV s (mksV r.1, r.2) := by
  have o : ∀ k, k ≠ 7 → k ≠ 9 → k ≠ 10 → mksV r.1 k = r.1 k := fun k h7 h9 h10 => by unfold mksV; rw [vup_o h10, vup_o h9, vup_o h7]
  refine h.r h.rv.mks.1 (o 2 (by decide) (by decide) (by decide)) (o 3 (by decide) (by decide) (by decide)) (o 4 (by decide) (by decide) (by decide)) (o 5 (by decide) (by decide) (by decide)) (o 6 (by decide) (by decide) (by decide)) ?_ rfl rfl
  show mksV r.1 7 ≤ 1
  unfold mksV
  rw [vup_o (by decide), vup_o (by decide), vup_s]
  omega
/-- parts of a block: DATA of a sender; a STATUS of a receiver -/
def DatV (s : Smd) (a : Nat) (d : Nat × Nat × Nat × Bool) : Prop := d.1 < s.1 5 ∧ d.2.1 < d.2.2.1 ∧ d.2.2.1 ≤ (fldS s d.1).length ∧ s.1 5 ≤ d.1 + 16 + a
def StaV (s : Smd) (r : Rmd) (a : Nat) (t : Nat × List Ent) : Prop := t.2.length ≤ 15 ∧ t.1 ≤ r.1 3 ∧ s.1 5 ≤ t.1 + 16 + a ∧ (∀ e ∈ t.2, e.1 < t.1 ∧ s.1 5 ≤ e.1 + 16 + a ∧ ∀ q, e.2 = some q → q.1 < 2 ^ 10 ∧ q.2 < 2 ^ 10) ∧ ∀ y, y < t.1 → nmd t.2 y = false → y < r.1 2 ∨ whR s r y = true
theorem nmd_app {a b : List Ent} {y : Nat} : nmd (a ++ b) y = (nmd a y || nmd b y) := by
  unfold nmd
  rw [List.any_append]
theorem nmd_mem {es : List Ent} {y : Nat} (h : es ≠ []) (hm : ∀ e ∈ es, e.1 = y) : nmd es y = true := by
  unfold nmd
  cases es with
  | nil => exact absurd rfl h
  | cons e es =>
    rw [List.any_cons, hm e List.mem_cons_self]
    simp
theorem stE_spec {wh : Nat → Bool} {pe : Nat → List Ent} {room R0 lim : Nat} (h1 : ∀ y, R0 ≤ y → y < lim → wh y = false → pe y ≠ []) (h2 : ∀ y, ∀ e ∈ pe y, e.1 = y ∧ ∀ q, e.2 = some q → q.1 < 2 ^ 10 ∧ q.2 < 2 ^ 10) : ∀ (m x : Nat) (es : List Ent), R0 ≤ x → x + m = lim → es.length ≤ 15 → (∀ e ∈ es, R0 ≤ e.1 ∧ e.1 < x ∧ ∀ q, e.2 = some q → q.1 < 2 ^ 10 ∧ q.2 < 2 ^ 10) → (∀ y, R0 ≤ y → y < x → nmd es y = false → wh y = true) → x ≤ (stE wh pe room m x es).1 ∧ (stE wh pe room m x es).1 ≤ lim ∧ (stE wh pe room m x es).2.length ≤ 15 ∧ (∀ e ∈ (stE wh pe room m x es).2, R0 ≤ e.1 ∧ e.1 < (stE wh pe room m x es).1 ∧ ∀ q, e.2 = some q → q.1 < 2 ^ 10 ∧ q.2 < 2 ^ 10) ∧ ∀ y, R0 ≤ y → y < (stE wh pe room m x es).1 → nmd (stE wh pe room m x es).2 y = false → wh y = true := by
  intro m
  induction m with
  | zero => intro x es hx hm hl he hy; exact ⟨Nat.le_refl _, by show x ≤ lim; omega, hl, he, hy⟩
  | succ m ih =>
    intro x es hx hm hl he hy
    unfold stE
    by_cases ew : wh x = true
    · rw [if_pos ew]
      obtain ⟨i1, i2, i3, i4, i5⟩ := ih (x + 1) es (by omega) (by omega) hl (fun e ee => ⟨(he e ee).1, Nat.lt_succ_of_lt (he e ee).2.1, (he e ee).2.2⟩) (fun y y1 y2 y3 => by
        by_cases ey : y = x
        · rw [ey]; exact ew
        · exact hy y y1 (by omega) y3)
      exact ⟨by omega, i2, i3, i4, i5⟩
    · rw [if_neg ew]
      have ew : wh x = false := by simpa using ew
      by_cases ec : 15 < es.length + (pe x).length ∨ room < 2 + (enL es).length + (enL (pe x)).length
      · rw [if_pos ec]
        exact ⟨Nat.le_refl _, by show x ≤ lim; omega, hl, he, hy⟩
      · rw [if_neg ec]
        obtain ⟨i1, i2, i3, i4, i5⟩ := ih (x + 1) (es ++ pe x) (by omega) (by omega) (by rw [List.length_append]; omega) (fun e ee => by
          rcases List.mem_append.mp ee with e1 | e1
          · exact ⟨(he e e1).1, Nat.lt_succ_of_lt (he e e1).2.1, (he e e1).2.2⟩
          · obtain ⟨q1, q2⟩ := h2 x e e1
            exact ⟨by omega, by omega, q2⟩) (fun y y1 y2 y3 => by
          rw [nmd_app, Bool.or_eq_false_iff] at y3
          by_cases ey : y = x
          · have := nmd_mem (h1 x hx (by omega) ew) (fun e ee => (h2 x e ee).1)
            rw [ey, this] at y3
            exact absurd y3.2 (by decide)
          · exact hy y y1 (by omega) y3.1)
        exact ⟨by omega, i2, i3, i4, i5⟩
theorem scn_mem {f : Nat → Bool} {up : Nat} : ∀ (m k : Nat), k + m ≤ up → ∀ r ∈ scn f up m k, r.1 < up ∧ r.2 ≤ up
  | 0, _, _, r, h => by simp [scn] at h
  | m + 1, k, hk, r, h => by
    unfold scn at h
    split at h
    · rcases List.mem_cons.mp h with e | e
      · rw [e]
        exact ⟨by show k < up; omega, (nxt_spec (f := f) (w := true) (up := up) (i := k) (by omega)).2.1⟩
      · exact scn_mem m (k + 1) (by omega) r e
    · exact scn_mem m (k + 1) (by omega) r h
theorem pcE_mem {s : Smd} {r : Rmd} (hl : ∀ x, (fldS s x).length ≤ 240) (y : Nat) : ∀ e ∈ pcE (fldS s) r.2.1 y, e.1 = y ∧ ∀ q, e.2 = some q → q.1 < 2 ^ 10 ∧ q.2 < 2 ^ 10 := by
  intro e he
  unfold pcE at he
  split at he
  · rw [List.mem_singleton] at he
    subst he
    exact ⟨rfl, fun q hq => by cases hq⟩
  · obtain ⟨ru, h1, h2⟩ := List.mem_map.mp he
    have hu := upR_le (l := fldS s y) (kn := (r.2.1 y).1) (hl y)
    obtain ⟨m1, m2⟩ := scn_mem (f := (r.2.1 y).2) (up := upR (fldS s y) (r.2.1 y).1) _ 0 (by omega) ru h1
    rw [← h2]
    refine ⟨rfl, fun q hq => ?_⟩
    have hq : some (ru.1, if (r.2.1 y).1 = false ∧ ru.2 = 240 then 255 else ru.2 - 1) = some q := hq
    cases hq
    refine ⟨by show ru.1 < 2 ^ 10; omega, ?_⟩
    show (if (r.2.1 y).1 = false ∧ ru.2 = 240 then 255 else ru.2 - 1) < 2 ^ 10
    split <;> omega
theorem cnt_full {f : Nat → Bool} {n m : Nat} (hn : n ≤ m) (h1 : ∀ k, k < n → f k = true) (h2 : ∀ k, f k = true → k < n) : cnt f 0 m = n := by
  have hs := cnt_split (f := f) (a := 0) (m := n) (m - n)
  rw [show n + (m - n) = m by omega] at hs
  have ha : cnt f 0 n = n := (cnt_all n).mpr (fun k _ k2 => h1 k (by omega))
  have h0 : cnt f (0 + n) (m - n) = 0 := cnt_0 _ (fun k k1 k2 => by
    cases ek : f k with
    | false => rfl
    | true => have := h2 k ek; omega)
  omega
theorem pcE_ne {s : Smd} {r : Rmd} (hl : ∀ x, (fldS s x).length ≤ 240) (hj : JntV s r) {y : Nat} (h1 : r.1 2 ≤ y) (h2 : y < r.1 4) (hw : whR s r y = false) : pcE (fldS s) r.2.1 y ≠ [] := by
  obtain ⟨⟨a1, a2, a3, a4, a5, a6, a7, a8, a9⟩, ⟨b1, b2, b3⟩, -⟩ := hj
  intro he
  unfold pcE at he
  split at he
  · cases he
  · have he : runs (fldS s y) (r.2.1 y).1 (r.2.1 y).2 = [] := List.map_eq_nil_iff.mp he
    unfold runs at he
    have hu := upR_le (l := fldS s y) (kn := (r.2.1 y).1) (hl y)
    have hsn := scn_nxt (f := (r.2.1 y).2) (up := upR (fldS s y) (r.2.1 y).1) (i := 0) (Nat.zero_le _) (Or.inl rfl)
    rw [Nat.sub_zero, he] at hsn
    obtain ⟨n1, n2, n3, n4⟩ := nxt_spec (f := (r.2.1 y).2) (w := false) (up := upR (fldS s y) (r.2.1 y).1) (i := 0) (Nat.zero_le _)
    have hge : ¬ nxt (r.2.1 y).2 false (upR (fldS s y) (r.2.1 y).1) 0 < upR (fldS s y) (r.2.1 y).1 := fun hh => by
      rw [if_pos hh] at hsn
      cases hsn
    have hall : ∀ k, k < upR (fldS s y) (r.2.1 y).1 → (r.2.1 y).2 k = true := fun k hk => by
      have := n3 k (Nat.zero_le _) (by omega)
      simpa using this
    cases hk : (r.2.1 y).1 with
    | true =>
      rw [hk] at hall
      have hfull := cnt_full (f := (r.2.1 y).2) (n := (fldS s y).length) (m := 240) (hl y) hall (b3 y)
      have : whR s r y = true := decide_eq_true ⟨h1, by omega, hk, hfull⟩
      rw [this] at hw
      cases hw
    | false =>
      rw [hk] at hall
      have h239 := hall 239 (by show 239 < 240; decide)
      rw [b2 y hk] at h239
      cases h239
theorem StaV.mk {s : Smd} {r : Rmd} {room : Nat} (hl : ∀ x, (fldS s x).length ≤ 240) (hj : JntV s r) : StaV s r 0 (stP (fldS s) r room) := by
  obtain ⟨⟨a1, a2, a3, a4, a5, a6, a7, a8, a9⟩, -⟩ := id hj
  obtain ⟨i1, i2, i3, i4, i5⟩ := stE_spec (wh := whR s r) (pe := pcE (fldS s) r.2.1) (room := room) (R0 := r.1 2) (lim := r.1 4) (fun y y1 y2 y3 => pcE_ne hl hj y1 y2 y3) (pcE_mem hl) (r.1 4 - r.1 2) (r.1 2) [] (Nat.le_refl _) (by omega) (by simp) (fun e he => by simp at he) (fun y y1 y2 => by omega)
  have est : stP (fldS s) r room = stE (whR s r) (pcE (fldS s) r.2.1) room (r.1 4 - r.1 2) (r.1 2) [] := rfl
  rw [est]
  refine ⟨i3, by omega, by omega, fun e he => ?_, fun y y1 y2 => ?_⟩
  · obtain ⟨q1, q2, q3⟩ := i4 e he
    exact ⟨q2, by omega, q3⟩
  · by_cases hy : y < r.1 2
    · exact Or.inl hy
    · exact Or.inr (i5 y (by omega) y1 y2)
theorem DatV.ag {T room : Nat} {s : Smd} (h : SndV T s) (h0 : 0 < s.1 6) (hr : agW (agQ s) room = true ∨ 4 ≤ room) {poll : Bool} : DatV (agS s room) 0 (agX s.1 s.2.2.1, agF (agQ s), agE (agQ s) room, poll) := by
  obtain ⟨k1, k2, k3, k4, k5⟩ := SI.ag h.1 h0 hr
  obtain ⟨z1, z2, z3⟩ := ag_end k5 hr
  obtain ⟨r1, r2, -⟩ := ag_run k5
  have e5 : (agS s room).1 5 = s.1 5 := agS_k (by decide) (by decide) (by decide) (by decide) (by decide) (by decide) (by decide)
  have h16 := h.1.2.2.1
  refine ⟨by rw [e5]; exact k3, z1, ?_, ?_⟩
  · rw [agS_fld]
    show agE (agQ s) room ≤ (agQ s).1.length
    omega
  · rw [e5]
    show s.1 5 ≤ agX s.1 s.2.2.1 + 16 + 0
    omega
theorem DatV.nw {room : Nat} {s : Smd} (hf : ¬ (s.2.2.2.2.2.1.length = 0 ∨ s.1 4 + 16 ≤ s.1 5 ∨ room < 3)) {poll : Bool} : DatV (nwS s room) 0 (s.1 5, 0, (newL room s.2.2.2.2.2).1.length, poll) := by
  obtain ⟨z1, z2, z3⟩ := newL_sz (room := room) (w := s.2.2.2.2.2) (by omega) (by omega)
  refine ⟨by rw [nwS_5]; exact Nat.lt_succ_self _, z1, ?_, ?_⟩
  · rw [nwP_B.1]
    exact Nat.le_refl _
  · rw [nwS_5]
    show s.1 5 + 1 ≤ s.1 5 + 16 + 0
    omega
