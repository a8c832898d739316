/-! PURE: renew, in the reference -/
def SM (τ : Sg) (B : Nat) (hs : Nat → Smd) : Prop := ∀ pl, pl < 2 * B → SmM τ (iOf B pl) (hs pl)
def RM (τ : Sg) (B : Nat) (G : Nat → Nat → List Cel) (hr : Nat → Rmd) : Prop := ∀ pl, pl < 2 * B → RmM τ (iOf B pl) (G pl) (hr pl)
def Ob1 (s : Smd) : Prop := ObV s.2.2.2.1 s.2.2.2.2.1 s.2.2.2.2.2
def FrZ (τ τ' : Sg) : Prop := ∀ c, c = 0 ∨ c = 1 ∨ c = 14 ∨ c = 64 ∨ c = 65 ∨ c = 67 → τ' c = τ c
theorem SM.put {τ τ' : Sg} {B pl : Nat} {hs : Nat → Smd} {s : Smd} (h : SM τ B hs) (hB : B ≤ 3) (hpl : pl < 2 * B) (hO : ∀ q, q < 2 * B → Ob1 (hs q)) (h1 : SmM τ' (iOf B pl) s) (hF : FrO (iOf B pl) τ τ') : SM τ' B (fup hs pl s) := by
  intro q hq
  by_cases e : q = pl
  · subst e
    rw [fup_s]
    exact h1
  · rw [fup_o e]
    exact (h q hq).ot (hO q hq) hF (iOf_ne hB hq hpl e)
theorem RM.put {τ τ' : Sg} {B pl : Nat} {G : Nat → Nat → List Cel} {g : Nat → List Cel} {hr : Nat → Rmd} {r : Rmd} (h : RM τ B G hr) (hB : B ≤ 3) (hpl : pl < 2 * B) (hO : ∀ q, q < 2 * B → ∀ pk, (hr q).2.2.1 = some pk → pk.length ≤ 256) (h1 : RmM τ' (iOf B pl) g r) (hF : FrO (iOf B pl) τ τ') : RM τ' B (fup G pl g) (fup hr pl r) := by
  intro q hq
  by_cases e : q = pl
  · subst e
    rw [fup_s, fup_s]
    exact h1
  · rw [fup_o e, fup_o e]
    exact (h q hq).ot (hO q hq) hF (iOf_ne hB hq hpl e)
theorem mix_p {α : Type} {P : α → Prop} {f g : Nat → α} {k q : Nat} (h1 : P (f q)) (h2 : P (g q)) : P (mix f g k q) := by
  unfold mix
  split
  · exact h1
  · exact h2
theorem hawF_V {G : Nat → List Cel} {wh : Nat → Bool} {ks : Int32 → Nat → Int32} {nc : Nat} : ∀ (m x : Nat) (s : Hst), ObV nc s.2.2.1 s.2.2.2 → ObV nc (hawF G wh ks nc m x s).2.2.1 (hawF G wh ks nc m x s).2.2.2
  | 0, _, _, h => h
  | m + 1, x, s, h => by
    unfold hawF
    refine hawF_V m (x + 1) _ ?_
    split
    · exact obV_hndL _ _ h
    · exact h
theorem r1S_V {T B : Nat} {key : Nat → Int32} {hs : Nat → Smd} {hr : Nat → Rmd} (hC : Cor T B key hs hr) {pl : Nat} (hpl : pl < 2 * B) : Ob1 (r1S B key hs hr pl) := hawF_V _ _ _ (hC pl hpl).1.2.1
theorem rn9 {B p T : Nat} {y ep : Int32} {hs : Nat → Smd} {hr : Nat → Rmd} {Q : Int32 → Sg → Prop} {K2 : Int32 → Sg → Prop} {τ0 : Sg} (hB3 : B ≤ 3) (hp : p < 2) (h0 : τ0 0 0 = nI B) (hK : KyM τ0 y ep) (hC : Cor T B (keyF y ep) hs hr) : ∀ (m b : Nat) (τ : Sg), b + m = B → SM τ B (mix (r1S B (keyF y ep) hs hr) hs (p * B + b)) → RM τ B (mix (fun _ _ => []) (fun pl => fldS (hs (opp B pl))) (p * B + b)) (mix (r1R B (keyF y ep) hs hr) hr (p * B + b)) → FrZ τ0 τ → (∀ τ' : Sg, SM τ' B (mix (r1S B (keyF y ep) hs hr) hs (p * B + B)) → RM τ' B (mix (fun _ _ => []) (fun pl => fldS (hs (opp B pl))) (p * B + B)) (mix (r1R B (keyF y ep) hs hr) hr (p * B + B)) → FrZ τ0 τ' → K2 (nI (p + 1)) τ') → wpX9_renew_L9 Q K2 (m + 1) (nI p) (nI b) τ := by
  intro m
  induction m with
  | zero =>
    intro b τ hb hS hR hF h
    have hb : b = B := by omega
    subst hb
    unfold wpX9_renew_L9
    rw [hF 0 (by omega), h0, nI_1]
    refine brt (nI_le (Nat.le_refl _) (by omega)) ?_
    rintro _ rfl
    exact h τ hS hR hF
  | succ m ih =>
    intro b τ hb hS hR hF h
    have hbB : b < B := by omega
    have hpl := pl_lt hp hbB
    obtain ⟨o1, o2, o3⟩ := opp_lt hpl
    have ei : iOf B (p * B + b) = 3 * p + b := iOf_pb hp hbB
    have l1 := hS _ hpl
    have l2 := hR _ hpl
    rw [mix_at] at l1
    rw [mix_at, mix_at] at l2
    rw [ei] at l1 l2
    have hmk : mkN B (opp B (p * B + b)) = 8 * b + 4 * (1 - p) := by
      rw [opp_peer hp hbB]
      exact mkN_pb (by omega) hbB
    obtain ⟨k1, k2, k3⟩ := hC _ hpl
    have hj := (hC _ o1).2.2
    rw [o3] at hj
    have hsv := (hC _ o1).1
    unfold wpX9_renew_L9
    rw [hF 0 (by omega), h0]
    refine brf (nI_ge (by omega) (by omega)) (renewReceiver_ok (G' := fun _ => []) hp (by omega) rfl (hK.of (hF 0 (by omega)) (hF 67 (by omega))) l1 l2 k1.2.1 hj.rv hj.2.1.1 (HwV.mk hsv hj) hj.2.2.2.2 (fun x => Nat.zero_le _) (fun τ1 g1 g2 g3 => ?_))
    rw [← hmk] at g1 g2
    rw [nI_1]
    rintro _ rfl
    refine ih (b + 1) τ1 (by omega) ?_ ?_ (fun c hc => by rw [g3.1 c (by unfold LRr; simp only [List.mem_cons, List.not_mem_nil, or_false]; omega), hF c hc]) h
    · show SM τ1 B (mix _ _ (p * B + b + 1))
      rw [← mix_up]
      exact hS.put hB3 hpl (fun q hq => mix_p (r1S_V hC hq) (hC q hq).1.2.1) (by rw [ei]; exact g1) (by rw [ei]; exact g3.o)
    · show RM τ1 B (mix _ _ (p * B + b + 1)) (mix _ _ (p * B + b + 1))
      rw [← mix_up, ← mix_up]
      exact hR.put hB3 hpl (fun q hq => mix_p (P := fun r : Rmd => ∀ pk, r.2.2.1 = some pk → pk.length ≤ 256) (fun pk hh => by cases hh) (hC.ok q hq).2) (by rw [ei]; exact g2) (by rw [ei]; exact g3.o)
theorem rn2 {B T : Nat} {y ep : Int32} {hs : Nat → Smd} {hr : Nat → Rmd} {Q : Int32 → Sg → Prop} {τ0 : Sg} (hB3 : B ≤ 3) (h0 : τ0 0 0 = nI B) (hK : KyM τ0 y ep) (hC : Cor T B (keyF y ep) hs hr) (h : ∀ τ' : Sg, SM τ' B (r1S B (keyF y ep) hs hr) → RM τ' B (fun _ _ => []) (r1R B (keyF y ep) hs hr) → FrZ τ0 τ' → ∃ nn, wpX9_renew_L37 Q nn 0 τ') : ∀ (m p : Nat) (τ : Sg), p + m = 2 → SM τ B (mix (r1S B (keyF y ep) hs hr) hs (p * B)) → RM τ B (mix (fun _ _ => []) (fun pl => fldS (hs (opp B pl))) (p * B)) (mix (r1R B (keyF y ep) hs hr) hr (p * B)) → FrZ τ0 τ → wpX9_renew_L2 Q (m + 1) (nI p) τ := by
  intro m
  induction m with
  | zero =>
    intro p τ hp hS hR hF
    have hp : p = 2 := by omega
    subst hp
    unfold wpX9_renew_L2
    refine brt (nI_le (a := 2) (b := 2) (by omega) (by decide)) (h τ (fun pl hpl => ?_) (fun pl hpl => ?_) hF)
    · have := hS pl hpl
      rw [mix_all (by omega)] at this
      exact this
    · have := hR pl hpl
      rw [mix_all (by omega), mix_all (by omega)] at this
      exact this
  | succ m ih =>
    intro p τ hp hS hR hF
    unfold wpX9_renew_L2
    refine brf (nI_ge (a := p) (b := 2) (by omega) (by decide)) ⟨B + 1, rn9 hB3 (by omega) h0 hK hC B 0 τ (by omega) hS hR hF (fun τ1 s1 r1 f1 => ?_)⟩
    have e : p * B + B = (p + 1) * B := by rw [Nat.succ_mul]
    rw [e] at s1 r1
    exact ih (p + 1) τ1 (by omega) s1 r1 f1
/-- all is reset -/
def clS (s : Smd) : Smd := (anwS s.1, s.2.1, fun _ => ([], mnA, 0, false), s.2.2.2.1, s.2.2.2.2.1, ([], 0))
theorem clS_V {s : Smd} (h : Ob1 s) : Ob1 (clS s) := by
  obtain ⟨h1, h2, h3, h4, h5⟩ := h
  exact ⟨h1, h2, h3, h4, List.Pairwise.nil, fun p hp => absurd hp List.not_mem_nil, fun p ps hh => absurd hh (List.cons_ne_nil p ps).symm, fun _ => rfl, fun j hj => absurd hj (Nat.not_lt_zero j)⟩
def LZ : List Nat := [3, 4, 5, 6, 7, 12, 13, 22]
theorem rn37 {B : Nat} {hs : Nat → Smd} {Q : Int32 → Sg → Prop} {τ0 : Sg} (hB3 : B ≤ 3) (hO : ∀ q, q < 2 * B → Ob1 (hs q)) (h : ∀ τ' : Sg, SM τ' B (fun pl => clS (hs pl)) → (∀ c, c ∉ LZ → τ' c = τ0 c) → ∃ nn, wpX9_renew_L107 Q nn 0 τ') : ∀ (m x : Nat) (τ : Sg), x + m = 6 → SM τ B (fun pl => if iOf B pl < x then clS (hs pl) else hs pl) → (∀ c, c ∉ LZ → τ c = τ0 c) → wpX9_renew_L37 Q (m + 1) (nI x) τ := by
  intro m
  induction m with
  | zero =>
    intro x τ hx hS hF
    have hx : x = 6 := by omega
    subst hx
    unfold wpX9_renew_L37
    refine brt (nI_le (a := 6) (b := 6) (by omega) (by decide)) (h τ (fun pl hpl => ?_) hF)
    have hh : SmM τ (iOf B pl) (if iOf B pl < 6 then clS (hs pl) else hs pl) := hS pl hpl
    rw [if_pos (iOf_lt hB3 hpl)] at hh
    exact hh
  | succ m ih =>
    intro x τ hx hS hF
    have hx6 : x < 6 := by omega
    unfold wpX9_renew_L37
    rw [nI_clamp (n := x) (by omega)]
    refine brf (nI_ge (a := x) (b := 6) (by omega) (by decide)) ⟨vin rfl hx6 (by decide), ?_⟩
    rintro _ rfl
    refine ⟨vin rfl hx6 (by decide), ?_⟩
    rintro _ rfl
    refine ⟨vin rfl hx6 (by decide), ?_⟩
    rintro _ rfl
    refine ⟨vin rfl hx6 (by decide), ?_⟩
    rintro _ rfl
    refine ⟨vin rfl hx6 (by decide), ?_⟩
    rintro _ rfl
    refine ⟨vin rfl hx6 (by decide), ?_⟩
    rintro _ rfl
    refine ⟨vin rfl hx6 (by decide), ?_⟩
    rintro _ rfl
    refine ⟨vin rfl hx6 (by decide), ?_⟩
    rintro _ rfl
    rw [nI_1]
    rintro _ rfl
    have fA : FrA LZ x τ (up2 (up2 (up2 (up2 (up2 (up2 (up2 (up2 τ 3 x 0) 4 x 0) 12 x 0) 13 x 0) 5 x 0) 7 x 0) 6 x (-1)) 22 x 0) := (((((((FrA.rf.up (by decide) (fun _ => Nat.div_one x)).up (by decide) (fun _ => Nat.div_one x)).up (by decide) (fun _ => Nat.div_one x)).up (by decide) (fun _ => Nat.div_one x)).up (by decide) (fun _ => Nat.div_one x)).up (by decide) (fun _ => Nat.div_one x)).up (by decide) (fun _ => Nat.div_one x)).up (by decide) (fun _ => Nat.div_one x)
    have z : ∀ c, up2 (up2 (up2 (up2 (up2 (up2 (up2 (up2 τ 3 x 0) 4 x 0) 12 x 0) 13 x 0) 5 x 0) 7 x 0) 6 x (-1)) 22 x 0 c x = if c = 6 then -1 else if c = 3 ∨ c = 4 ∨ c = 5 ∨ c = 7 ∨ c = 12 ∨ c = 13 ∨ c = 22 then 0 else τ c x := by
      intro c
      simp only [up2_e, and_true]
      by_cases e22 : c = 22
      · subst e22
        rfl
      · by_cases e6 : c = 6
        · subst e6
          rfl
        · by_cases e7 : c = 7
          · subst e7
            rfl
          · by_cases e5 : c = 5
            · subst e5
              rfl
            · by_cases e13 : c = 13
              · subst e13
                rfl
              · by_cases e12 : c = 12
                · subst e12
                  rfl
                · by_cases e4 : c = 4
                  · subst e4
                    rfl
                  · by_cases e3 : c = 3
                    · subst e3
                      rfl
                    · rw [if_neg e22, if_neg e6, if_neg e7, if_neg e5, if_neg e13, if_neg e12, if_neg e4, if_neg e3, if_neg e6, if_neg (by omega)]
    generalize up2 (up2 (up2 (up2 (up2 (up2 (up2 (up2 τ 3 x 0) 4 x 0) 12 x 0) 13 x 0) 5 x 0) 7 x 0) 6 x (-1)) 22 x 0 = τ1 at *
    refine ih (x + 1) τ1 (by omega) (fun pl hpl => ?_) (fun c hc => by rw [fA.1 c hc, hF c hc])
    have hh : SmM τ (iOf B pl) (if iOf B pl < x then clS (hs pl) else hs pl) := hS pl hpl
    by_cases e : iOf B pl = x
    · rw [if_neg (by omega)] at hh
      show SmM τ1 (iOf B pl) (if iOf B pl < x + 1 then clS (hs pl) else hs pl)
      rw [if_pos (by omega)]
      rw [e] at hh ⊢
      obtain ⟨m1, m2, m3, m4⟩ := hh
      refine ⟨?_, fun y y1 y2 => absurd y2 (Nat.not_lt_zero y), m3.of (fun c hc => fA.1 c (by unfold LZ; simp only [List.mem_cons, List.not_mem_nil, or_false]; omega)), ?_, by show (0 : Nat) < 4400; decide, fun k hk => absurd hk (Nat.not_lt_zero k)⟩
      · obtain ⟨q1, q2, q3, q4, q5, q6, q7, q8, q9, q10, q11⟩ := m1
        exact ⟨by rw [z]; rfl, by rw [z]; rfl, by rw [z]; rfl, by rw [z]; rfl, by rw [z]; rfl, by rw [z]; exact q6, by rw [z]; exact q7, by rw [z]; exact q8, by rw [z]; exact q9, by rw [z]; rfl, by rw [z]; rfl⟩
      · rw [z]
        rfl
    · have hob : Ob1 (if iOf B pl < x then clS (hs pl) else hs pl) := by
        split
        · exact clS_V (hO pl hpl)
        · exact hO pl hpl
      have h2 := hh.ot hob fA.o e
      show SmM τ1 (iOf B pl) (if iOf B pl < x + 1 then clS (hs pl) else hs pl)
      by_cases e2 : iOf B pl < x
      · rw [if_pos e2] at h2
        rw [if_pos (by omega)]
        exact h2
      · rw [if_neg e2] at h2
        rw [if_neg (by omega)]
        exact h2
theorem rn107 {Q : Int32 → Sg → Prop} {τ0 : Sg} (h : ∀ τ' : Sg, (∀ j, j < 8 → τ' 60 j = 0) → (∀ c, c ≠ 60 → τ' c = τ0 c) → wpX9_renew_L107 Q 1 (nI 8) τ') : ∀ (m x : Nat) (τ : Sg), x + m = 8 → (∀ j, j < x → τ 60 j = 0) → (∀ c, c ≠ 60 → τ c = τ0 c) → wpX9_renew_L107 Q (m + 1) (nI x) τ := by
  intro m
  induction m with
  | zero =>
    intro x τ hx h6 hF
    have hx : x = 8 := by omega
    subst hx
    exact h τ h6 hF
  | succ m ih =>
    intro x τ hx h6 hF
    unfold wpX9_renew_L107
    rw [nI_clamp (n := x) (by omega), nI_1]
    refine brf (nI_ge (a := x) (b := 8) (by omega) (by decide)) ⟨vin rfl (by omega) (by decide), ?_⟩
    rintro _ rfl _ rfl
    refine ih (x + 1) _ (by omega) (fun j hj => ?_) (fun c hc => by rw [up2_o hc, hF c hc])
    rw [up2_e]
    by_cases e : j = x
    · rw [if_pos ⟨rfl, e⟩]
    · rw [if_neg (fun hh => e hh.2)]
      exact h6 j (by omega)
