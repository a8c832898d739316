/-! PURE: the reference: DATA made again -/
theorem fitN_f1 {la : Nat → Bool} {fr : Nat} : ∀ (m left i : Nat), fr < i → m + cnt la (i - 1) m ≤ left → fitN la fr m left i = i + m
  | 0, _, _, _, _ => rfl
  | m + 1, left, i, h, hl => by
    rw [cnt_left, show i - 1 + 1 = i by omega] at hl
    have hc : cst la fr i = 1 + b2n (la (i - 1)) := by
      unfold cst
      cases e : la (i - 1) with
      | true => rw [if_pos ⟨h, rfl⟩]; rfl
      | false => rw [if_neg (by simp)]; rfl
    unfold fitN
    rw [hc, if_pos (by omega), fitN_f1 m _ (i + 1) (by omega) (by rw [Nat.add_sub_cancel]; omega)]
    omega
theorem fitN_full {la : Nat → Bool} {fr m left : Nat} (hm : 0 < m) : fitN la fr m left fr = fr + m ↔ m + cnt la fr (m - 1) ≤ left := by
  constructor
  · intro h
    have := fitN_cost (la := la) (fr := fr) (m := m) (left := left) (by omega)
    rw [h, show fr + m - fr = m by omega, show fr + m - 1 - fr = m - 1 by omega] at this
    exact this
  · intro h
    cases m with
    | zero => omega
    | succ m =>
      have ec : cst la fr fr = 1 := by unfold cst; rw [if_neg (by omega)]
      unfold fitN
      rw [ec, if_pos (by omega), fitN_f1 m (left - 1) (fr + 1) (by omega) (by rw [Nat.add_sub_cancel] at h ⊢; omega)]
      omega
theorem rfit_small {τ : Sg} {f fr up head n : Nat} {Q : Int32 → Sg → Prop} (hfr : fr < up) (hu : up ≤ 240) (hn : n ≤ head) (hh : head < 2 ^ 20) (h : Q (nI 0) τ) : wpX9_fitting (nI f) (nI fr) (nI up) (nI head) (nI n) τ Q := by
  refine ⟨2, ?_⟩
  unfold wpX9_fitting_L10
  refine brf (by decide) (brf (nI_ge (by omega) (by omega)) (brt (nI_le (Nat.le_refl _) (by omega)) ?_))
  unfold wpX9_fitting_L50 wpX9_fitting_L51
  rintro _ rfl
  have e1 : nI head + ((1 : Int32) + 0) = nI (head + 1) := nI_add head 1
  rw [e1]
  refine brt ((nI_ltI (by omega) (by omega)).mpr (by omega)) ?_
  unfold wpX9_fitting_L69
  rw [e1]
  rintro _ rfl
  refine brt rfl ?_
  unfold wpX9_fitting_L90
  rintro _ rfl
  unfold wpX9_fitting_L10
  refine brt rfl ?_
  have e0 : nI fr + 0 = nI (fr + 0) := nI_add fr 0
  rw [e0, Nat.add_zero, pk_sub (Nat.le_refl _), Nat.sub_self]
  exact h
theorem ag_part {q : Pce} {room : Nat} (h : ¬ nAg q = 0) (hr : agW q room = true ∨ 4 ≤ room) : decide (0 < agF q ∨ agE q room < q.1.length) = !(agW q room) := by
  obtain ⟨h1, h2, h3, h4, h5⟩ := ag_run h
  unfold agE
  cases e : agW q room with
  | true =>
    have e := of_decide_eq_true e
    rw [if_pos rfl]
    exact decide_eq_false (by omega)
  | false =>
    have e' := of_decide_eq_false e
    rw [if_neg (by decide)]
    refine decide_eq_true ?_
    have hs := fitN_spec (la := lasF q.1) (fr := agF q) (agT q - agF q) (room - 3) (agF q)
    have h4r : 4 ≤ room := by
      rcases hr with hr | hr
      · rw [e] at hr; cases hr
      · exact hr
    by_cases h0 : 0 < agF q
    · exact Or.inl h0
    · right
      rcases Nat.lt_or_ge (fitN (lasF q.1) (agF q) (agT q - agF q) (room - 3) (agF q)) q.1.length with h9 | h9
      · exact h9
      · exfalso
        apply e'
        have h0 : agF q = 0 := by omega
        have hfu := (fitN_full (la := lasF q.1) (fr := agF q) (m := agT q - agF q) (left := room - 3) (by omega)).mp (by omega)
        rw [h0] at hfu
        rw [Nat.sub_zero] at hfu
        exact ⟨h0, by omega, by omega⟩
theorem PsM.upd {τ τ' : Sg} {i A S x : Nat} {pc : Nat → Pce} {q : Pce} (h : PsM τ i A S pc) (hS : S ≤ A + 16) (h1 : A ≤ x) (h2 : x < S) (hq : PcM τ' (16 * i + x % 16) q) (hd : ∀ f, f ≠ 16 * i + x % 16 → τ' 25 f = τ 25 f ∧ τ' 26 f = τ 26 f ∧ τ' 29 f = τ 29 f ∧ ∀ c k, c = 27 ∨ c = 28 ∨ c = 30 ∨ c = 31 ∨ c = 32 → k < 240 → τ' c (240 * f + k) = τ c (240 * f + k)) : PsM τ' i A S (spu pc x q) := by
  intro y y1 y2
  by_cases e : y = x
  · subst e
    rw [spu_s]
    exact hq
  · rw [spu_o e]
    obtain ⟨d1, d2, d3, d4⟩ := hd (16 * i + y % 16) (by omega)
    exact (h y y1 y2).of d1 d2 d3 d4
def LA : List Nat := [5, 6, 7, 9, 10, 12, 32, 66]
theorem SnM.of {τ τ' : Sg} {i : Nat} {v : Nat → Nat} {bk : Int32} (h : SnM τ i v bk) (hc : ∀ c, 3 ≤ c → c ≤ 13 → τ' c = τ c) : SnM τ' i v bk := by
  unfold SnM at *
  rw [hc 3 (by decide) (by decide), hc 4 (by decide) (by decide), hc 5 (by decide) (by decide), hc 6 (by decide) (by decide), hc 7 (by decide) (by decide), hc 8 (by decide) (by decide), hc 9 (by decide) (by decide), hc 10 (by decide) (by decide), hc 11 (by decide) (by decide), hc 12 (by decide) (by decide), hc 13 (by decide) (by decide)]
  exact h
theorem WtM.of {τ τ' : Sg} {i : Nat} {fl : List Cel} (h : WtM τ i fl) (hc : ∀ c, 20 ≤ c → c ≤ 24 → τ' c = τ c) : WtM τ' i fl := by
  unfold WtM at *
  rw [hc 20 (by decide) (by decide), hc 21 (by decide) (by decide), hc 22 (by decide) (by decide), hc 23 (by decide) (by decide), hc 24 (by decide) (by decide)]
  exact h
theorem rmakeAgain_ok {τ : Sg} {i wl room : Nat} {v : Nat → Nat} {bk : Int32} {pc : Nat → Pce} {fl : List Cel} {T : Nat} {Q : Int32 → Sg → Prop} (hi : i < 6) (hS : SnM τ i v bk) (hI : SI T v pc) (hP : PsM τ i (v 4) (v 5) pc) (hW : WtM τ i fl) (hwl : fl.length = 0 ↔ wl = 0) (hr1 : 1 ≤ room) (hroom : room ≤ 250) (h0 : 0 < v 6) (hn : ¬ (agW (pc (agX v pc)) room = true ∨ 4 ≤ room) → Q 0 τ) (h : agW (pc (agX v pc)) room = true ∨ 4 ≤ room → ∀ τ' : Sg, SnM τ' i (cdV (agV v (agF (pc (agX v pc))) (agE (pc (agX v pc)) room)) wl) bk → PsM τ' i (v 4) (v 5) (spu pc (agX v pc) (uaP (pc (agX v pc)) (agF (pc (agX v pc))) (agE (pc (agX v pc)) room))) → OutM τ' (datL (pc (agX v pc)).1 (agX v pc) (agF (pc (agX v pc))) (agE (pc (agX v pc)) room) (decide (0 < agF (pc (agX v pc)) ∨ agE (pc (agX v pc)) room < (pc (agX v pc)).1.length)) (polB (agV v (agF (pc (agX v pc))) (agE (pc (agX v pc)) room)) wl)) → FrA LA i τ τ' → Q (nI (datL (pc (agX v pc)).1 (agX v pc) (agF (pc (agX v pc))) (agE (pc (agX v pc)) room) (decide (0 < agF (pc (agX v pc)) ∨ agE (pc (agX v pc)) room < (pc (agX v pc)).1.length)) (polB (agV v (agF (pc (agX v pc))) (agE (pc (agX v pc)) room)) wl)).length) τ') : wpX9_makeAgain (nI i) (nI room) τ Q := by
  obtain ⟨hb, h45, h16, h6, hpl⟩ := hI
  have b4 := hb 4 (by decide) (by decide)
  have b5 := hb 5 (by decide) (by decide)
  have b6 := hb 6 (by decide) (by decide)
  obtain ⟨y, y1, y2, y3⟩ := aSum_ex (pc := pc) (a := v 4) (v 5 - v 4) (by omega)
  have hspec := frA_spec (pc := pc) (v 5 - v 4) (v 4) y y1 (by omega) y3
  have hX : v 4 ≤ agX v pc ∧ agX v pc ≤ y ∧ ¬ nMk (pc (agX v pc)) = 0 := hspec
  have hfrX : frA pc (v 5 - v 4) (v 4) = agX v pc := rfl
  -- from the piece on
  have L36 : ∀ x4_5 : Int32, x4_5 = nI (16 * i + agX v pc % 16) → ∃ nn, wpX9_makeAgain_L36 Q nn (nI i) (nI room) (nI (agX v pc)) x4_5 0 τ := by
    rintro _ rfl
    generalize agX v pc = x at *
    obtain ⟨x1, xy, x3⟩ := hX
    have x2 : x < v 5 := by omega
    have hcf : (pc x).2.2.2 = false := by
      cases e : (pc x).2.2.2 with
      | true => exact absurd (nMk_t e) x3
      | false => rfl
    have hna : ¬ nAg (pc x) = 0 := by rw [← nMk_f hcf]; exact x3
    have hle6 : nAg (pc x) ≤ v 6 := by
      have := aSum_ge (pc := pc) (v 5 - v 4) x1 (by omega)
      rw [nMk_f hcf] at this
      omega
    have hag : ∀ k, agR (pc x) k = (pc x).2.1 k := fun k => by unfold agR; rw [hcf]; rfl
    have hpx := hP x x1 x2
    obtain ⟨p1, p2, p3, p4, p5⟩ := hpx
    obtain ⟨r1, r2, r3, r4, r5⟩ := ag_run hna
    have hf96 : 16 * i + x % 16 < 96 := by omega
    have hgf : ∀ k, k < (pc x).1.length → τ 32 (240 * (16 * i + x % 16) + k) = b01 ((pc x).2.1 k) := fun k hk => by rw [(p5 k hk).2.2.2.2, hag]
    -- the piece with marks taken away
    have L172 : (agW (pc x) room = true ∨ 4 ≤ room) → wpX9_makeAgain_L172 Q (nI i) (nI x) (nI (16 * i + x % 16)) (nI (agF (pc x))) (nI (agE (pc x) room)) (b01 (agW (pc x) room)) τ := by
      intro hr
      have h := h hr
      obtain ⟨e1, e2, e3⟩ := ag_end hna hr
      rw [datL_len] at e3
      have hap := ag_part hna hr
      have hcn : agE (pc x) room - agF (pc x) ≤ nAg (pc x) := by
        have := cnt_unT (f := (pc x).2.1) (fr := agF (pc x)) (to := agE (pc x) room) (n := (pc x).1.length) (by omega) (by omega) (fun k k1 k2 => r3 k k1 (by omega))
        unfold nAg
        omega
      unfold wpX9_makeAgain_L172
      have L176 : ∀ (m k : Nat) (τ1 : Sg), k + m = agE (pc x) room → agF (pc x) ≤ k → (∀ j, τ1 32 j = if 240 * (16 * i + x % 16) + agF (pc x) ≤ j ∧ j < 240 * (16 * i + x % 16) + k then 0 else τ 32 j) → (∀ c, c ≠ 32 → τ1 c = τ c) → wpX9_makeAgain_L176 Q (m + 1) (nI i) (nI x) (nI (16 * i + x % 16)) (nI (agF (pc x))) (nI (agE (pc x) room)) (b01 (agW (pc x) room)) (nI k) τ1 := by
        intro m
        induction m with
        | zero =>
          intro k τ1 hk hfk h32 ho
          have hk : k = agE (pc x) room := by omega
          subst hk
          unfold wpX9_makeAgain_L176
          refine brt (nI_le (Nat.le_refl _) (by omega)) ?_
          rw [nI_clamp (by omega)]
          refine ⟨vin rfl hi (by decide), vin rfl hi (by decide), ?_⟩
          obtain ⟨s3, s4, s5, s6, s7, s8, s9, s10, s11, s12, s13⟩ := hS
          rw [ho 10 (by decide), s10, nI_1]
          rintro _ rfl
          have u : ∀ c, c ≠ 10 → c ≠ 32 → up2 τ1 10 i (nI (v 13 + 1)) c = τ c := fun c h1 h2 => by rw [up2_o h1, ho c h2]
          have hS2 : SnM (up2 τ1 10 i (nI (v 13 + 1))) i (agV v (agF (pc x)) (agE (pc x) room)) bk := by
            have o : ∀ k, k ≠ 6 → k ≠ 13 → agV v (agF (pc x)) (agE (pc x) room) k = v k := fun k h1 h2 => by unfold agV; rw [vup_o h2, vup_o h1]
            refine ⟨?_, ?_, ?_, ?_, ?_, ?_, ?_, ?_, ?_, ?_, ?_⟩
            · rw [u 3 (by decide) (by decide), o 4 (by decide) (by decide)]; exact s3
            · rw [u 4 (by decide) (by decide), o 5 (by decide) (by decide)]; exact s4
            · rw [u 5 (by decide) (by decide), o 10 (by decide) (by decide)]; exact s5
            · rw [u 6 (by decide) (by decide), o 9 (by decide) (by decide)]; exact s6
            · rw [u 7 (by decide) (by decide), o 11 (by decide) (by decide)]; exact s7
            · rw [u 8 (by decide) (by decide)]; exact s8
            · rw [u 9 (by decide) (by decide), o 12 (by decide) (by decide)]; exact s9
            · rw [up2_e, if_pos ⟨rfl, rfl⟩]; unfold agV; rw [vup_s]
            · rw [u 11 (by decide) (by decide), o 14 (by decide) (by decide)]; exact s11
            · rw [u 12 (by decide) (by decide), o 7 (by decide) (by decide)]; exact s12
            · rw [u 13 (by decide) (by decide), o 8 (by decide) (by decide)]; exact s13
          have hPq : PcM (up2 τ1 10 i (nI (v 13 + 1))) (16 * i + x % 16) (uaP (pc x) (agF (pc x)) (agE (pc x) room)) := by
            refine ⟨by rw [u 25 (by decide) (by decide)]; exact p1, p2, by rw [u 26 (by decide) (by decide)]; exact p3, by rw [u 29 (by decide) (by decide)]; exact p4, fun k hk => ?_⟩
            have hk : k < (pc x).1.length := hk
            rw [u 27 (by decide) (by decide), u 28 (by decide) (by decide), u 30 (by decide) (by decide), u 31 (by decide) (by decide)]
            obtain ⟨z1, z2, z3, z4, z5⟩ := p5 k hk
            refine ⟨z1, z2, z3, z4, ?_⟩
            rw [up2_o (by decide), h32]
            have eR : agR (uaP (pc x) (agF (pc x)) (agE (pc x) room)) k = unT (pc x).2.1 (agF (pc x)) (agE (pc x) room) k := by
              unfold agR
              show (!(pc x).2.2.2 && _) = _
              rw [hcf]
              rfl
            rw [eR]
            unfold unT
            by_cases e9 : agF (pc x) ≤ k ∧ k < agE (pc x) room
            · rw [if_pos (by omega), decide_eq_true e9, Bool.not_true, Bool.and_false]
              rfl
            · rw [if_neg (by omega), decide_eq_false e9, Bool.not_false, Bool.and_true]
              exact hgf k hk
          have hPs : PsM (up2 τ1 10 i (nI (v 13 + 1))) i (v 4) (v 5) (spu pc x (uaP (pc x) (agF (pc x)) (agE (pc x) room))) := by
            refine hP.upd h16 x1 x2 hPq (fun f hf => ⟨by rw [u 25 (by decide) (by decide)], by rw [u 26 (by decide) (by decide)], by rw [u 29 (by decide) (by decide)], fun c k hc hk => ?_⟩)
            by_cases ec : c = 32
            · subst ec
              rw [up2_o (by decide), h32, if_neg (by omega)]
            · rw [u c (by omega) ec]
          have o45 : agV v (agF (pc x)) (agE (pc x) room) 4 = v 4 ∧ agV v (agF (pc x)) (agE (pc x) room) 5 = v 5 := ⟨by unfold agV; rw [vup_o (by decide), vup_o (by decide)], by unfold agV; rw [vup_o (by decide), vup_o (by decide)]⟩
          have hIn : SI T (agV v (agF (pc x)) (agE (pc x) room)) (spu pc x (uaP (pc x) (agF (pc x)) (agE (pc x) room))) := by
            have hun := cnt_unT (f := (pc x).2.1) (fr := agF (pc x)) (to := agE (pc x) room) (n := (pc x).1.length) (by omega) (by omega) (fun k k1 k2 => r3 k k1 (by omega))
            have hsum := aSum_upd (pc := pc) (q := uaP (pc x) (agF (pc x)) (agE (pc x) room)) (v 5 - v 4) x1 (by omega)
            have hq2 : nMk (uaP (pc x) (agF (pc x)) (agE (pc x) room)) = cnt (unT (pc x).2.1 (agF (pc x)) (agE (pc x) room)) 0 (pc x).1.length := nMk_f (q := uaP (pc x) (agF (pc x)) (agE (pc x) room)) hcf
            have hq1 : nMk (pc x) = cnt (pc x).2.1 0 (pc x).1.length := nMk_f hcf
            refine ⟨(hb.put (by omega)).putc (by decide), by rw [o45.1, o45.2]; exact h45, by rw [o45.1, o45.2]; exact h16, ?_, ?_⟩
            · rw [o45.1, o45.2]
              have e6 : agV v (agF (pc x)) (agE (pc x) room) 6 = v 6 - (agE (pc x) room - agF (pc x)) := by unfold agV; rw [vup_o (by decide), vup_s]
              rw [e6]
              omega
            · rw [o45.1, o45.2]
              intro z z1 z2
              unfold spu
              split
              · exact hpl x x1 x2
              · exact hpl z z1 z2
          have hW2 : WtM (up2 τ1 10 i (nI (v 13 + 1))) i fl := hW.of (fun c c1 c2 => u c (by omega) (by omega))
          have hfx : (spu pc x (uaP (pc x) (agF (pc x)) (agE (pc x) room)) x).1 = (pc x).1 := by rw [spu_s]; rfl
          have hF2 : FrA LA i τ (up2 τ1 10 i (nI (v 13 + 1))) := by
            refine ⟨fun c hc => u c (fun e => hc (by rw [e]; decide)) (fun e => hc (by rw [e]; decide)), fun c k hc hk => ?_⟩
            rw [up2_e]
            by_cases e10 : c = 10
            · subst e10
              rw [if_neg (fun hh => hk (by rw [hh.2]; exact Nat.div_one i)), ho 10 (by decide)]
            · rw [if_neg (fun hh => e10 hh.1)]
              by_cases e32 : c = 32
              · subst e32
                rw [h32, if_neg (fun hh => hk ?_)]
                show k / 3840 = i
                omega
              · rw [ho c e32]
          have fin : ∀ pb : Bool, pb = decide (0 < agF (pc x) ∨ agE (pc x) room < (pc x).1.length) → wpX9_makeAgain_L231 Q (b01 pb) (nI (agE (pc x) room)) (nI (agF (pc x))) (nI x) (nI i) (up2 τ1 10 i (nI (v 13 + 1))) := by
            intro pb hpb
            unfold wpX9_makeAgain_L231
            refine data_ok (wl := wl) (fl := fl) (v := agV v (agF (pc x)) (agE (pc x) room)) (pc := spu pc x (uaP (pc x) (agF (pc x)) (agE (pc x) room))) hi hS2 hIn.1 hIn.2.1 hIn.2.2.2.1 (by rw [o45.1, o45.2]; exact hPs) hW2 hwl (by rw [o45.1]; exact x1) (by rw [o45.2]; exact x2) e1 (by rw [hfx]; omega) (by rw [hfx, hpb]; omega) (fun τ3 g1 g2 g3 => ?_)
            rw [hfx, hpb] at g2 ⊢
            refine h τ3 g1 ?_ g2 (hF2.tr (g3.mono (by decide)))
            exact hPs.of (fun c hc => g3.1 c (by rcases hc with rfl | rfl | rfl | rfl | rfl | rfl | rfl | rfl <;> decide))
          refine br01' (fun e => ?_) (fun e => ?_)
          · exact fin true (by rw [hap, e]; rfl)
          · exact fin false (by rw [hap, e]; rfl)
        | succ m ih =>
          intro k τ1 hk hfk h32 ho
          unfold wpX9_makeAgain_L176
          rw [i240, nI_clamp (n := 240 * (16 * i + x % 16) + k) (by omega)]
          refine brf (nI_ge (by omega) (by omega)) ⟨vin rfl (by omega) (by decide), ?_⟩
          rintro _ rfl _ rfl
          rw [nI_1]
          refine ih (k + 1) _ (by omega) (by omega) (fun j => ?_) (fun c hc => by rw [up2_o hc, ho c hc])
          rw [up2_e]
          by_cases ej : j = 240 * (16 * i + x % 16) + k
          · rw [if_pos ⟨rfl, ej⟩, if_pos (by omega)]
          · rw [if_neg (fun hh => ej hh.2), h32 j]
            by_cases e9 : 240 * (16 * i + x % 16) + agF (pc x) ≤ j ∧ j < 240 * (16 * i + x % 16) + k
            · rw [if_pos e9, if_pos (by omega)]
            · rw [if_neg e9, if_neg (by omega)]
      exact ⟨agE (pc x) room - agF (pc x) + 1, L176 (agE (pc x) room - agF (pc x)) (agF (pc x)) τ (by omega) (Nat.le_refl _) (fun j => by rw [if_neg (by omega)]) (fun _ _ => rfl)⟩
    have L136 : wpX9_makeAgain_L136 Q (nI i) (nI room) (nI x) (nI (16 * i + x % 16)) (nI (agF (pc x))) (nI (agT (pc x))) (b01 (agW (pc x) room)) τ := by
      unfold wpX9_makeAgain_L136
      refine br01' (fun e => ?_) (fun e => ?_)
      · refine pk_le 4 room (fun h4 => ?_) (fun h4 => hn (by rw [e]; simp; omega))
        unfold wpX9_makeAgain_L150
        rw [e]
        refine brt' rfl ?_
        refine rfitting_ok (head := 3) (la := lasF (pc x).1) hf96 (by omega) (by omega) (by omega) (by omega) (fun k k1 k2 => (p5 k (by omega)).2.2.2.1) ?_
        rintro _ rfl
        have hs := fitN_spec (la := lasF (pc x).1) (fr := agF (pc x)) (agT (pc x) - agF (pc x)) (room - 3) (agF (pc x))
        rw [nI_add, show agF (pc x) + (fitN (lasF (pc x).1) (agF (pc x)) (agT (pc x) - agF (pc x)) (room - 3) (agF (pc x)) - agF (pc x)) = agE (pc x) room by unfold agE; rw [e, if_neg (by decide)]; omega]
        have := L172 (Or.inr h4)
        rw [e] at this
        exact this
      · unfold wpX9_makeAgain_L150
        have ee : agE (pc x) room = agT (pc x) := by unfold agE; rw [e, if_pos rfl]
        have := L172 (Or.inl e)
        rw [ee] at this
        rw [e] at this ⊢
        exact brf' (by decide) this
    have L98 : wpX9_makeAgain_L98 Q (nI i) (nI room) (nI x) (nI (16 * i + x % 16)) (nI (agF (pc x))) (nI (agT (pc x))) τ := by
      have L135 : agW (pc x) room = false → wpX9_makeAgain_L135 Q (nI i) (nI room) (nI x) (nI (16 * i + x % 16)) (nI (agF (pc x))) (nI (agT (pc x))) τ := by
        intro e
        unfold wpX9_makeAgain_L135
        rw [e] at L136
        exact L136
      unfold wpX9_makeAgain_L98
      rw [nI_clamp (by omega), p1]
      refine ⟨fun hne => L135 (decide_eq_false (fun hh => hne (by rw [hh.1]; rfl))), fun he => ⟨vin rfl hf96 (by decide), fun hne => L135 (decide_eq_false (fun hh => hne (by rw [hh.2.1]))), fun he2 => ?_⟩⟩
      have he : agF (pc x) = 0 := (nI_eq (a := agF (pc x)) (b := 0) (by omega) (by decide)).mp he
      have he2 : agT (pc x) = (pc x).1.length := (nI_eq (by omega) (by omega)).mp he2
      rcases Nat.lt_or_ge room 2 with hr2 | hr2
      · refine rfit_small (fr := 0) (head := 2) (by omega) (by omega) (by omega) (by decide) ?_
        refine brf' (fun hh => ?_) (L135 (decide_eq_false (by omega)))
        have := (nI_eq (a := 0) (b := agT (pc x)) (by decide) (by omega)).mp hh
        omega
      · refine rfitting_ok (fr := 0) (head := 2) (la := lasF (pc x).1) hf96 (by omega) (Nat.zero_le _) (by omega) (by omega) (fun k k1 k2 => (p5 k (by omega)).2.2.2.1) ?_
        have hs := fitN_spec (la := lasF (pc x).1) (fr := 0) (agT (pc x) - 0) (room - 2) 0
        have hfu := fitN_full (la := lasF (pc x).1) (fr := 0) (m := agT (pc x) - 0) (left := room - 2) (by omega)
        rw [Nat.sub_zero] at hs hfu ⊢
        rw [Nat.sub_zero]
        rw [Nat.zero_add] at hfu
        refine ⟨fun hne => L135 (decide_eq_false (fun hh => hne ?_)), fun heq => ?_⟩
        · rw [hfu.mpr (by omega)]
        · have heq := (nI_eq (by omega) (by omega)).mp heq
          have ew : agW (pc x) room = true := decide_eq_true ⟨he, he2, by have := hfu.mp heq; omega⟩
          rw [ew] at L136
          exact L136
    have L63 : ∀ (m k : Nat), k + m = agT (pc x) → agF (pc x) ≤ k → wpX9_makeAgain_L63 Q (m + 1) (nI i) (nI room) (nI x) (nI (16 * i + x % 16)) (nI (agF (pc x))) (nI k) τ := by
      intro m
      induction m with
      | zero =>
        intro k hk hfk
        have hk : k = agT (pc x) := by omega
        subst hk
        unfold wpX9_makeAgain_L63
        rw [nI_clamp (by omega), p1]
        refine ⟨vin rfl hf96 (by decide), pk_le (pc x).1.length (agT (pc x)) (fun _ => L98) (fun hlt => ?_)⟩
        rw [i240, nI_clamp (by omega), hgf _ hlt, r5 hlt]
        exact ⟨vin rfl (by omega) (by decide), brt rfl L98⟩
      | succ m ih =>
        intro k hk hfk
        unfold wpX9_makeAgain_L63
        rw [nI_clamp (by omega), p1, i240, nI_clamp (by omega), hgf k (by omega), r3 k hfk (by omega)]
        refine ⟨vin rfl hf96 (by decide), brf (nI_ge (by omega) (by omega)) ⟨vin rfl (by omega) (by decide), brf (by decide) ?_⟩⟩
        rintro _ rfl
        rw [nI_1]
        exact ih (k + 1) (by omega) (by omega)
    have L36 : ∀ (m k : Nat), k + m = agF (pc x) → wpX9_makeAgain_L36 Q (m + 1) (nI i) (nI room) (nI x) (nI (16 * i + x % 16)) (nI k) τ := by
      intro m
      induction m with
      | zero =>
        intro k hk
        have hk : k = agF (pc x) := by omega
        subst hk
        unfold wpX9_makeAgain_L36
        rw [i240, nI_clamp (by omega), hgf _ (by omega), r3 _ (Nat.le_refl _) r1]
        exact ⟨vin rfl (by omega) (by decide), brf' (by decide) ⟨agT (pc x) - agF (pc x) + 1, L63 (agT (pc x) - agF (pc x)) (agF (pc x)) (by omega) (Nat.le_refl _)⟩⟩
      | succ m ih =>
        intro k hk
        unfold wpX9_makeAgain_L36
        rw [i240, nI_clamp (by omega), hgf k (by omega), r4 k (by omega)]
        refine ⟨vin rfl (by omega) (by decide), brt' rfl ?_⟩
        rintro _ rfl
        rw [nI_1]
        exact ih (k + 1) (by omega)
    exact ⟨agF (pc x) + 1, L36 (agF (pc x)) 0 (by omega)⟩
  have L7 : ∀ (m x : Nat), x + m = v 5 → v 4 ≤ x → (m = 0 → False) → frA pc m x = agX v pc → wpX9_makeAgain_L7 Q (m + 1) (nI i) (nI room) (nI x) τ := by
    intro m
    induction m with
    | zero => intro x _ _ h0; exact absurd rfl h0
    | succ m ih =>
      intro x hx hx4 _ hfr
      unfold wpX9_makeAgain_L7
      refine isAgain_ok hi hP hx4 (by omega) (by omega) ?_
      have hm240 : nMk (pc x) ≤ 240 := by
        have h1 := nAg_le (pc x)
        have h2 := (hpl x hx4 (by omega)).1
        have h3 : nMk (pc x) ≤ nAg (pc x) := by unfold nMk; split <;> omega
        omega
      unfold frA at hfr
      refine ⟨fun hne => ?_, fun he => ?_⟩
      · rw [if_neg (fun hh => hne (by rw [hh]; rfl))] at hfr
        rw [hfr, a15 (by omega), i16]
        exact L36
      · have he : nMk (pc x) = 0 := (nI_eq (a := nMk (pc x)) (b := 0) (by omega) (by decide)).mp he
        rw [if_pos he] at hfr
        rintro _ rfl
        rw [nI_1]
        refine ih (x + 1) (by omega) (by omega) (fun h9 => ?_) hfr
        subst h9
        have e : agX v pc = x + 1 := hfr.symm
        omega
  unfold wpX9_makeAgain
  rw [nI_clamp (by omega), hS.1]
  refine ⟨vin rfl hi (by decide), ?_⟩
  rintro _ rfl
  exact ⟨v 5 - v 4 + 1, L7 (v 5 - v 4) (v 4) (by omega) (Nat.le_refl _) (by omega) rfl⟩
