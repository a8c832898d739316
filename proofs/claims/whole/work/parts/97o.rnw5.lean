/-! PURE: renew: what waits anew keeps the invariants; the reference; the step -/
theorem kpL_mem {kp : Nat → Bool} {pc : Nat → List Int32} : ∀ (m c : Nat), ∀ q ∈ kpL kp pc m c, c + 1 ≤ q.1 ∧ q.1 ≤ c + m ∧ kp (q.1 - 1) = true ∧ q.2 = pc (q.1 - 1)
  | 0, _, q, h => absurd h List.not_mem_nil
  | m + 1, c, q, h => by
    have ea : kpL kp pc (m + 1) c = (if kp c then [(c + 1, pc c)] else []) ++ kpL kp pc m (c + 1) := rfl
    rw [ea] at h
    rcases List.mem_append.mp h with hh | hh
    · by_cases e : kp c = true
      · rw [if_pos e] at hh
        rw [List.mem_singleton.mp hh]
        exact ⟨Nat.le_refl _, by show c + 1 ≤ c + (m + 1); omega, e, rfl⟩
      · rw [if_neg e] at hh
        exact absurd hh List.not_mem_nil
    · obtain ⟨a, b, d⟩ := kpL_mem m (c + 1) q hh
      exact ⟨by omega, by omega, d⟩
theorem kpL_pw {kp : Nat → Bool} {pc : Nat → List Int32} : ∀ (m c : Nat), ((kpL kp pc m c).map (·.1)).Pairwise (· < ·)
  | 0, _ => List.Pairwise.nil
  | m + 1, c => by
    have ea : kpL kp pc (m + 1) c = (if kp c then [(c + 1, pc c)] else []) ++ kpL kp pc m (c + 1) := rfl
    rw [ea]
    by_cases e : kp c = true
    · rw [if_pos e]
      refine List.Pairwise.cons (fun z hz => ?_) (kpL_pw m (c + 1))
      obtain ⟨q, q1, q2⟩ := List.mem_map.mp hz
      have := (kpL_mem m (c + 1) q q1).1
      show c + 1 < z
      rw [← q2]
      show c + 1 < q.1
      omega
    · rw [if_neg e]
      exact kpL_pw m (c + 1)
theorem unA_1 {un : Nat → Un} {c : Nat} : (unA un c).1 = (un c).1 := by
  unfold unA
  split <;> rfl
theorem obV_wtA {nc : Nat} {un : Nat → Un} {w : Wt} {ks : Nat → Nat → Int32} {r : Inr} (hV : ObV nc un w) (hk : ∀ c k, isB (ks c k)) : ObV nc (unA un) (wtA ks r nc un) := by
  obtain ⟨h1, h2, h3, h4, h5⟩ := hV
  have hln := rpL_len (r := r)
  have hle := rpL_le (r := r)
  obtain ⟨l1, l2, l3⟩ := lowK_spec (kpt un) nc
  refine ⟨h1, by rw [kpt_unA]; exact h2, fun c hc => by rw [kpt_unA]; exact h3 c hc, fun c hc => ?_, ?_, fun p hp => ?_, fun p ps hh => ?_, fun hh => absurd hh (List.cons_ne_nil _ _), fun j hj _ => ?_⟩
  · rw [kpt_unA] at hc
    rw [unA_1]
    exact h4 c hc
  · show (0 :: (kpL _ _ _ _).map (·.1)).Pairwise (· < ·)
    refine List.Pairwise.cons (fun z hz => ?_) (kpL_pw _ _)
    obtain ⟨q, q1, q2⟩ := List.mem_map.mp hz
    have := (kpL_mem _ _ q q1).1
    rw [← q2]
    show 0 < q.1
    omega
  · rcases List.mem_cons.mp hp with hh | hh
    · rw [hh]
      refine ⟨by show 2 ≤ (rpL r).length; omega, by show (rpL r).length ≤ 121; omega, Nat.zero_le _, fun _ => by show (rpL r).length ≤ 8; omega, ?_, fun x hx => ?_⟩
      · obtain ⟨j, j1, j2⟩ := pk_andE (r.1 >>> 8) (m := 63) 6 (by decide)
        exact ⟨j, j2, by omega, Or.inl (by omega)⟩
      · have hx : x ∈ rpL r := hx
        unfold rpL at hx
        rcases List.mem_append.mp hx with hy | hy
        · rcases List.mem_cons.mp hy with e | e
          · obtain ⟨j, j1, j2⟩ := pk_andE (r.1 >>> 8) (m := 63) 6 (by decide)
            rw [e]
            exact ⟨j, by omega, j2⟩
          · rw [List.mem_singleton.mp e]
            exact isB.and _
        · obtain ⟨j, j1, j2⟩ := List.mem_map.mp hy
          rw [← j2]
          exact ⟨_, pbN_lt (Nat.le_refl _), rfl⟩
    · obtain ⟨a, b, d, e⟩ := kpL_mem _ _ p hh
      obtain ⟨u1, u2, u3⟩ := h4 _ d
      have e : p.2 = pkU ks (p.1 - 1) (un (p.1 - 1)).1 := e
      rw [e, pkU_len]
      refine ⟨by omega, by omega, by omega, fun h0 => by omega, ⟨128 + (p.1 - 1) % 64, rfl, by omega, Or.inr (by omega)⟩, pkU_b (hk _) u3⟩
  · have hh : (0, rpL r) :: kpL _ _ _ _ = p :: ps := hh
    have hp : (0, rpL r) = p := (List.cons.inj hh).1
    rw [← hp]
    show 0 < (rpL r).length
    omega
  · rw [kpt_unA]
    match j with
    | 0 => exact Or.inl rfl
    | j + 1 =>
      right
      have hj : j + 1 < ((0, rpL r) :: kpL (kpt un) (fun c => pkU ks c (un c).1) (nc - lowK (kpt un) nc) (lowK (kpt un) nc)).length := hj
      rw [List.length_cons] at hj
      have hm : wg (wtA ks r nc un) (j + 1) ∈ kpL (kpt un) (fun c => pkU ks c (un c).1) (nc - lowK (kpt un) nc) (lowK (kpt un) nc) := by
        show (List.getD (_ :: kpL (kpt un) (fun c => pkU ks c (un c).1) (nc - lowK (kpt un) nc) (lowK (kpt un) nc)) (j + 1) (0, [])) ∈ _
        rw [List.getD_cons_succ, List.getD_eq_getElem?_getD, List.getElem?_eq_getElem (by omega)]
        exact List.getElem_mem _
      exact (kpL_mem _ _ _ hm).2.2.1
theorem obK_wtA {nc : Nat} {un : Nat → Un} {ks : Nat → Nat → Int32} {r : Inr} : ObK ks (unA un) (wtA ks r nc un) := by
  intro j hj _
  match j with
  | 0 => exact Or.inl rfl
  | j + 1 =>
    right
    have hj : j + 1 < ((0, rpL r) :: kpL (kpt un) (fun c => pkU ks c (un c).1) (nc - lowK (kpt un) nc) (lowK (kpt un) nc)).length := hj
    rw [List.length_cons] at hj
    have hm : wg (wtA ks r nc un) (j + 1) ∈ kpL (kpt un) (fun c => pkU ks c (un c).1) (nc - lowK (kpt un) nc) (lowK (kpt un) nc) := by
      show (List.getD (_ :: kpL (kpt un) (fun c => pkU ks c (un c).1) (nc - lowK (kpt un) nc) (lowK (kpt un) nc)) (j + 1) (0, [])) ∈ _
      rw [List.getD_cons_succ, List.getD_eq_getElem?_getD, List.getElem?_eq_getElem (by omega)]
      exact List.getElem_mem _
    rw [unA_1]
    exact (kpL_mem _ _ _ hm).2.2.2
/-- the reference, in the end -/
def fnS (B : Nat) (key : Nat → Int32) (hs : Nat → Smd) (hr : Nat → Rmd) (pl : Nat) : Smd := anU (ksS key (mkN B pl)) (hr pl).2.2.2 (anS (hs pl))
theorem fnS_V {B : Nat} {y ep : Int32} {hs : Nat → Smd} {hr : Nat → Rmd} {pl : Nat} (h : Ob1 (hs pl)) : Ob1 (fnS B (keyF y ep) hs hr pl) := obV_wtA h (fun _ _ => ksS_b)
theorem rn145 {B p : Nat} {y ep : Int32} {hs : Nat → Smd} {hr : Nat → Rmd} {Q : Int32 → Sg → Prop} {K138 : Int32 → Sg → Prop} {τ0 : Sg} (hB3 : B ≤ 3) (hp : p < 2) (h0 : τ0 0 0 = nI B) (hK : KyM τ0 y ep) (hO : ∀ q, q < 2 * B → Ob1 (hs q)) : ∀ (m b : Nat) (τ : Sg), b + m = B → SM τ B (mix (fnS B (keyF y ep) hs hr) (fun pl => clS (hs pl)) (p * B + b)) → RM τ B (fun _ _ => []) hr → FrZ τ0 τ ∧ τ 60 = τ0 60 → (∀ τ' : Sg, SM τ' B (mix (fnS B (keyF y ep) hs hr) (fun pl => clS (hs pl)) (p * B + B)) → RM τ' B (fun _ _ => []) hr → FrZ τ0 τ' ∧ τ' 60 = τ0 60 → K138 (nI (p + 1)) τ') → wpX9_renew_L145 Q K138 (m + 1) (nI p) (nI b) τ := by
  intro m
  induction m with
  | zero =>
    intro b τ hb hS hR hF h
    have hb : b = B := by omega
    subst hb
    unfold wpX9_renew_L145
    rw [hF.1 0 (by omega), h0, nI_1]
    refine brt (nI_le (Nat.le_refl _) (by omega)) ?_
    rintro _ rfl
    exact h τ hS hR hF
  | succ m ih =>
    intro b τ hb hS hR hF h
    have hbB : b < B := by omega
    have hpl := pl_lt hp hbB
    have ei : iOf B (p * B + b) = 3 * p + b := iOf_pb hp hbB
    have hmk : mkN B (p * B + b) = 8 * b + 4 * p := mkN_pb hp hbB
    have l1 := hS _ hpl
    have l2 := hR _ hpl
    rw [mix_at, ei] at l1
    rw [ei] at l2
    obtain ⟨m1, m2, m3, m4⟩ := l1
    have hV := hO _ hpl
    obtain ⟨v1, v2, v3, v4, v5⟩ := id hV
    obtain ⟨w1, w2, w3⟩ := lowK_spec (kpt (hs (p * B + b)).2.2.2.2.1) (hs (p * B + b)).2.2.2.1
    have hi6 : 3 * p + b < 6 := by omega
    have hle := rpL_le (r := (hr (p * B + b)).2.2.2)
    unfold wpX9_renew_L145 wpX9_at
    rw [hF.1 0 (by omega), h0, atI]
    refine brf (nI_ge (by omega) (by omega)) (awaitReport_ok (fl := []) hi6 l2.2.2.2 m4 (by show 0 + 8 < 4400; omega) (fun τ1 g1 g2 => ?_))
    have u1 : ∀ c, c ≤ 19 ∨ 25 ≤ c → τ1 c = τ c := fun c hc => g2.1 c (by unfold LW; simp only [List.mem_cons, List.not_mem_nil, or_false]; omega)
    have m3' : KpM τ1 (3 * p + b) (hs (p * B + b)).2.2.2.1 (hs (p * B + b)).2.2.2.2.1 := m3.of (fun c hc => u1 c (by omega))
    refine lowest_ok hi6 m3' (by omega) v2 ⟨(hs (p * B + b)).2.2.2.1 - lowK (kpt (hs (p * B + b)).2.2.2.2.1) (hs (p * B + b)).2.2.2.1 + 1, ?_⟩
    refine rn171 (τ0 := τ1) (pc := fun c => pkU (ksS (keyF y ep) (8 * b + 4 * p)) c ((hs (p * B + b)).2.2.2.2.1 c).1) hp (by omega) rfl (hK.of (by rw [u1 0 (by omega), hF.1 0 (by omega)]) (by rw [u1 67 (by omega), hF.1 67 (by omega)])) m3' v1 v2 (fun c hc => ⟨(v4 c hc).1, (v4 c hc).2.1⟩) (fun _ => rfl) _ _ τ1 [(0, rpL (hr (p * B + b)).2.2.2)] (by omega) (Nat.le_refl _) (by rw [List.length_singleton]; omega) (fun q hq => ?_) ?_ (fun d d1 d2 _ => by omega) FrA.rf (fun τ2 q1 q2 q3 => ?_)
    · rw [List.mem_singleton.mp hq]
      show (rpL _).length ≤ 121
      omega
    · have : flL [(0, rpL (hr (p * B + b)).2.2.2)] = pkC (0, rpL (hr (p * B + b)).2.2.2) := List.append_nil _
      rw [this]
      exact g1
    · have u2 : ∀ c, c ≤ 17 ∨ c = 19 ∨ (25 ≤ c ∧ c ≤ 67) → τ2 c = τ c := fun c hc => by rw [q3.1 c (by unfold LAu; simp only [List.mem_cons, List.not_mem_nil, or_false]; omega), u1 c (by omega)]
      refine ih (b + 1) τ2 (by omega) ?_ (fun pl hpl2 => (hR pl hpl2).of (fun c c1 c2 => u2 c (by omega))) ⟨fun c hc => by rw [u2 c (by omega), hF.1 c hc], by rw [u2 60 (by omega)]; exact hF.2⟩ h
      show SM τ2 B (mix _ _ (p * B + b + 1))
      rw [← mix_up]
      refine hS.put hB3 hpl (fun q hq => mix_p (fnS_V (hO q hq)) (clS_V (hO q hq))) ?_ ?_
      · rw [ei]
        obtain ⟨k1, k2, k3, k4⟩ := m3
        refine ⟨m1.of (fun c c1 c2 => u2 c (by omega)), fun x x1 x2 => absurd x2 (Nat.not_lt_zero x), ⟨by rw [u2 2 (by omega)]; exact k1, fun c c1 c2 => ?_, fun s s1 s2 => by rw [u2 15 (by omega)]; exact k3 s s1 s2, fun c c1 c2 c3 => ?_⟩, ?_⟩
        · rw [u2 15 (by omega)]
          show _ = b01 (kpt (unA (hs (p * B + b)).2.2.2.2.1) c)
          rw [kpt_unA]
          exact k2 c c1 c2
        · have c3 : kpt (unA (hs (p * B + b)).2.2.2.2.1) c = true := c3
          rw [kpt_unA] at c3
          obtain ⟨r1, r2, r3, r4⟩ := k4 c c1 c2 c3
          show τ2 16 _ = nI (unA (hs (p * B + b)).2.2.2.2.1 c).1.length ∧ τ2 17 _ = nI c ∧ τ2 18 _ = (unA (hs (p * B + b)).2.2.2.2.1 c).2.1 ∧ ∀ k, k < (unA (hs (p * B + b)).2.2.2.2.1 c).1.length → τ2 19 _ = (unA (hs (p * B + b)).2.2.2.2.1 c).1.getD k 0
          have eu : unA (hs (p * B + b)).2.2.2.2.1 c = (((hs (p * B + b)).2.2.2.2.1 c).1, nI (((hs (p * B + b)).2.2.2.2.1 c).1.length + 1), true) := by
            unfold unA
            rw [if_pos c3]
          rw [eu, u2 16 (by omega), u2 17 (by omega), u2 19 (by omega)]
          refine ⟨r1, r2, q2 c ?_ c1 c3, r4⟩
          rcases Nat.lt_or_ge c (lowK (kpt (hs (p * B + b)).2.2.2.2.1) (hs (p * B + b)).2.2.2.1) with hlt | hge
          · rw [w2 c hlt] at c3
            cases c3
          · exact hge
        · show WtM τ2 _ (flL (wtA (ksS (keyF y ep) (mkN B (p * B + b))) _ _ _).1)
          rw [hmk]
          exact q1
      · rw [ei]
        exact (((g2.mono (L' := LAu) (by decide))).tr q3).o
theorem rn138 {B : Nat} {y ep : Int32} {hs : Nat → Smd} {hr : Nat → Rmd} {Q : Int32 → Sg → Prop} {τ0 : Sg} (hB3 : B ≤ 3) (h0 : τ0 0 0 = nI B) (hK : KyM τ0 y ep) (hO : ∀ q, q < 2 * B → Ob1 (hs q)) (h : ∀ τ' : Sg, SM τ' B (fnS B (keyF y ep) hs hr) → RM τ' B (fun _ _ => []) hr → FrZ τ0 τ' ∧ τ' 60 = τ0 60 → Q (τ' 0 3) τ') : ∀ (m p : Nat) (τ : Sg), p + m = 2 → SM τ B (mix (fnS B (keyF y ep) hs hr) (fun pl => clS (hs pl)) (p * B)) → RM τ B (fun _ _ => []) hr → FrZ τ0 τ ∧ τ 60 = τ0 60 → wpX9_renew_L138 Q (m + 1) (nI p) τ := by
  intro m
  induction m with
  | zero =>
    intro p τ hp hS hR hF
    have hp : p = 2 := by omega
    subst hp
    unfold wpX9_renew_L138
    refine brt (nI_le (a := 2) (b := 2) (by omega) (by decide)) (h τ (fun pl hpl => ?_) hR hF)
    have := hS pl hpl
    rw [mix_all (by omega)] at this
    exact this
  | succ m ih =>
    intro p τ hp hS hR hF
    unfold wpX9_renew_L138
    refine brf (nI_ge (a := p) (b := 2) (by omega) (by decide)) ⟨B + 1, rn145 hB3 (by omega) h0 hK hO B 0 τ (by omega) hS hR hF (fun τ1 s1 r1 f1 => ?_)⟩
    have e : p * B + B = (p + 1) * B := by rw [Nat.succ_mul]
    rw [e] at s1
    exact ih (p + 1) τ1 (by omega) s1 r1 f1
theorem rrenew_ok {n B tk : Nat} {y : Int32} {τ : Sg} {M : Hm} {tp : List Int32} {Q : Int32 → Sg → Prop} (hB3 : B ≤ 3) (hR : RepM τ B y tk tp 2 M) (hI : InvH n B tk (keyF y (M.2.2.2.2 10)) M) (h : ∀ τ' : Sg, RepM τ' B y tk tp 2 (rnM B y M) → Q (M.2.2.2.2 10 + 1) τ') : wpX9_renew τ Q := by
  obtain ⟨⟨b1, b2, b3, b4, ⟨b5, b6⟩, b7⟩, b8, b9, b10⟩ := hR
  have hC := hI.1.1
  unfold wpX9_renew
  refine ⟨3, rn2 (τ0 := τ) hB3 b1 b2 hC (fun τ1 s1 r1 f1 => ⟨7, ?_⟩) 2 0 τ (by omega) (fun pl hpl => ?_) (fun pl hpl => ?_) (fun _ _ => rfl)⟩
  · refine rn37 (τ0 := τ1) (hs := r1S B (keyF y (M.2.2.2.2 10)) M.1 M.2.1) hB3 (fun q hq => r1S_V hC hq) (fun τ2 s2 f2 => ⟨9, ?_⟩) 6 0 τ1 (by omega) (fun pl hpl => ?_) (fun _ _ => rfl)
    · refine rn107 (τ0 := τ2) (fun τ3 z3 f3 => ?_) 8 0 τ2 (by omega) (fun j hj => by omega) (fun _ _ => rfl)
      have g3 : ∀ c, c ∉ LZ → c ≠ 60 → τ3 c = τ1 c := fun c hc hc2 => by rw [f3 c hc2, f2 c hc]
      have z0 : τ3 0 = τ 0 := by rw [g3 0 (by decide) (by decide), f1 0 (by omega)]
      unfold wpX9_renew_L107
      refine brt (nI_le (a := 8) (b := 8) (by omega) (by decide)) ?_
      rintro _ rfl
      rw [z0, b2.2.2]
      have y0 : ∀ k, up2 τ3 0 3 (M.2.2.2.2 10 + 1) 0 k = if k = 3 then M.2.2.2.2 10 + 1 else τ 0 k := fun k => by
        rw [up2_e]
        by_cases e : k = 3
        · rw [if_pos ⟨rfl, e⟩, if_pos e]
        · rw [if_neg (fun hh => e hh.2), if_neg e, z0]
      have yo : ∀ d, d ≠ 0 → up2 τ3 0 3 (M.2.2.2.2 10 + 1) d = τ3 d := fun d hd => up2_o hd
      generalize up2 τ3 0 3 (M.2.2.2.2 10 + 1) = τ4 at *
      have hK4 : KyM τ4 y (M.2.2.2.2 10 + 1) := ⟨fun k hk => by rw [yo 67 (by decide), g3 67 (by decide) (by decide), f1 67 (by omega)]; exact b2.1 k hk, by rw [y0 1, if_neg (by decide)]; exact b2.2.1, by rw [y0 3, if_pos rfl]⟩
      refine ⟨3, rn138 (τ0 := τ4) (hs := r1S B (keyF y (M.2.2.2.2 10)) M.1 M.2.1) (hr := r1R B (keyF y (M.2.2.2.2 10)) M.1 M.2.1) hB3 (by rw [y0 0, if_neg (by decide)]; exact b1) hK4 (fun q hq => r1S_V hC hq) (fun τ5 s5 r5 f5 => ?_) 2 0 τ4 (by omega) (fun pl hpl => ?_) (fun pl hpl => ?_) ⟨fun _ _ => rfl, rfl⟩⟩
      · have x0 : ∀ k, τ5 0 k = if k = 3 then M.2.2.2.2 10 + 1 else τ 0 k := fun k => by rw [f5.1 0 (by omega)]; exact y0 k
        have xo : ∀ c, c = 1 ∨ c = 14 ∨ c = 64 ∨ c = 65 ∨ c = 67 → τ5 c = τ c := fun c hc => by rw [f5.1 c (by omega), yo c (by omega), g3 c (by unfold LZ; simp only [List.mem_cons, List.not_mem_nil, or_false]; omega) (by omega), f1 c (by omega)]
        have e10 : (rnM B y M).2.2.2.2 10 = M.2.2.2.2 10 + 1 := by
          show fup M.2.2.2.2 10 (M.2.2.2.2 10 + 1) 10 = _
          rw [fup_s]
        rw [x0 3, if_pos rfl]
        refine h τ5 ⟨⟨by rw [x0 0, if_neg (by decide)]; exact b1, ⟨fun k hk => by rw [xo 67 (by omega)]; exact b2.1 k hk, by rw [x0 1, if_neg (by decide)]; exact b2.2.1, by rw [x0 3, if_pos rfl, e10]⟩, by rw [x0 2, if_neg (by decide)]; exact b3, fun k k1 k2 => ?_, ⟨by rw [x0 10, if_neg (by decide)]; exact b5, fun k hk => by rw [xo 1 (by omega)]; exact b6 k hk⟩, fun pl hpl => ⟨s5 pl hpl, r5 pl hpl⟩⟩, fun j hj => ⟨?_, fun hh => absurd hh (Nat.lt_irrefl 0)⟩, fun p hp => ⟨by rw [xo 64 (by omega)]; exact (b9 p hp).1, fun k hk => by rw [xo 65 (by omega)]; exact (b9 p hp).2 k hk⟩, fun b hb => by rw [xo 14 (by omega)]; exact b10 b hb⟩
        · rw [x0 k, if_neg (by omega)]
          show _ = fup M.2.2.2.2 10 (M.2.2.2.2 10 + 1) (k + 7)
          rw [fup_o (by omega)]
          exact b4 k k1 k2
        · rw [f5.2, yo 60 (by decide), z3 j hj]
          rfl
      · rw [Nat.zero_mul]
        exact (s2 pl hpl).of (fun c c1 c2 c3 => by rw [yo c (by omega), f3 c (by omega)])
      · exact (r1 pl hpl).of (fun c c1 c2 => by rw [yo c (by omega), g3 c (by unfold LZ; simp only [List.mem_cons, List.not_mem_nil, or_false]; omega) (by omega)])
    · show SmM τ1 (iOf B pl) (if iOf B pl < 0 then _ else _)
      rw [if_neg (by omega)]
      exact s1 pl hpl
  · rw [Nat.zero_mul]
    exact (b7 pl hpl).1
  · rw [Nat.zero_mul]
    exact (b7 pl hpl).2
theorem rnM_inv {n B tk : Nat} {y : Int32} {M : Hm} (hI : InvH n B tk (keyF y (M.2.2.2.2 10)) M) : InvH (n + 1) B tk (keyF y ((rnM B y M).2.2.2.2 10)) (rnM B y M) := by
  have e10 : (rnM B y M).2.2.2.2 10 = M.2.2.2.2 10 + 1 := by
    show fup M.2.2.2.2 10 (M.2.2.2.2 10 + 1) 10 = _
    rw [fup_s]
  rw [e10]
  obtain ⟨⟨h1, h2, h3⟩, h4, h5, h6⟩ := hI
  refine ⟨⟨fun pl hpl => ⟨?_, obK_wtA, ?_⟩, fun pl hpl => ?_, fun j hj => ⟨Nat.zero_le _, fun _ => ⟨rfl, rfl⟩, Nat.zero_le _, fun hh => absurd hh (Nat.lt_irrefl 0)⟩⟩, by omega, fun b hb => h5 b hb, fun p hp => h6 p hp⟩
  · refine ⟨⟨fun k k1 k2 => ?_, Nat.le_refl _, by show 0 ≤ 0 + 16; omega, rfl, fun x x1 x2 => absurd x2 (Nat.not_lt_zero x)⟩, fnS_V (r1S_V h1 hpl), ⟨Nat.zero_le _, fun x x1 x2 => absurd x2 (Nat.not_lt_zero x)⟩, fun hh => absurd hh (Nat.lt_irrefl 0), fun x => ⟨Nat.zero_le _, fun q hq => absurd hq List.not_mem_nil⟩, fun x hx => absurd hx (Nat.not_lt_zero x), rfl⟩
    show anwS _ k < 2 ^ 20
    unfold anwS
    rw [if_pos ⟨k1, k2⟩]
    decide
  · have hw : ∀ (G : Nat → List Cel) (R H x : Nat), whl G R H rp0 x = false := fun G R H x => decide_eq_false (fun hh => Bool.false_ne_true hh.2.2.1)
    refine ⟨⟨fun k k1 k2 => ?_, Nat.le_refl _, Nat.le_refl _, Nat.le_refl _, Nat.le_refl _, Nat.le_refl _, by show 0 ≤ 0 + 16; omega, Nat.zero_le _, Or.inl rfl⟩, ⟨fun x hx => rfl, fun x hx => rfl, fun x k hh => absurd hh Bool.false_ne_true⟩, ⟨hw _ _ _ _, hw _ _ _ _⟩, fun x x1 x2 => absurd x2 (Nat.not_lt_zero x), rfl⟩
    show anwV _ k < 2 ^ 20
    unfold anwV
    rw [if_pos (by omega)]
    decide
  · obtain ⟨z1, z2, z3, z4, z5⟩ := h2 pl hpl
    refine ⟨Nat.zero_le _, ?_, ?_, z4, z5⟩
    · show (M.1 pl).2.2.2.1 ≤ n + 1
      omega
    · show -((1000 * (n + 1) : Nat) : Int) ≤ (M.1 pl).2.1.toInt
      omega
theorem st_renew : St_renew Rel := by
  intro n P σ τ hn hR
  obtain ⟨B, y, tk, tp, M, hB1, hB3, hP, hC, hM, hI, htp, htb⟩ := hR
  refine crenew_ok hB1 hB3 hP hC hI (fun pl hpl => r1S_V hI.1.1 hpl) (fun σ1 g1 => ?_)
  refine rrenew_ok hB3 hM hI (fun τ1 g2 => ⟨rfl, B, y, tk, tp, rnM B y M, hB1, hB3, hP, g1, g2, rnM_inv hI, htp, htb⟩)
