/-! PURE: a STATUS is made; what a receiver holds; it starts anew: in the class -/
abbrev Ent : Type := Nat × Option (Nat × Nat)
def enB (e : Ent) : List Int32 := match e.2 with
  | none => [nI (e.1 % 64)]
  | some r => [nI (e.1 % 64) + 128, nI r.1, nI r.2]
def enL : List Ent → List Int32
  | [] => []
  | e :: es => enB e ++ enL es
theorem enL_app : ∀ a b : List Ent, enL (a ++ b) = enL a ++ enL b
  | [], _ => rfl
  | e :: a, b => by
    show enB e ++ enL (a ++ b) = (enB e ++ enL a) ++ enL b
    rw [enL_app a b, List.append_assoc]
def stB (ack : Nat) (es : List Ent) : List Int32 := nI es.length :: nI (ack % 64) :: enL es
def rnE (x : Nat) (kn : Bool) (r : Nat × Nat) : Ent := (x, some (r.1, if kn = false ∧ r.2 = 240 then 255 else r.2 - 1))
theorem rsB_enL {x : Nat} {kn : Bool} : ∀ rs, rsB x kn rs = enL (rs.map (rnE x kn))
  | [] => rfl
  | r :: rs => by
    show rnB x kn r ++ rsB x kn rs = enB (rnE x kn r) ++ enL (rs.map (rnE x kn))
    rw [rsB_enL rs]
    congr 1
    unfold rnB enB rnE
    show _ = [nI (x % 64) + 128, nI r.1, nI (if kn = false ∧ r.2 = 240 then 255 else r.2 - 1)]
    congr 3
    split <;> rfl
def pcE (G : Nat → List Cel) (pc : Rpc) (x : Nat) : List Ent := if cnt (pc x).2 0 240 = 0 then [(x, none)] else (runs (G x) (pc x).1 (pc x).2).map (rnE x (pc x).1)
theorem pcE_0 {G : Nat → List Cel} {pc : Rpc} {x : Nat} (h : cnt (pc x).2 0 240 = 0) : pcE G pc x = [(x, none)] := if_pos h
theorem pcE_1 {G : Nat → List Cel} {pc : Rpc} {x : Nat} (h : ¬ cnt (pc x).2 0 240 = 0) : pcE G pc x = (runs (G x) (pc x).1 (pc x).2).map (rnE x (pc x).1) := if_neg h
def stE (wh : Nat → Bool) (pe : Nat → List Ent) (room : Nat) : Nat → Nat → List Ent → Nat × List Ent
  | 0, x, es => (x, es)
  | m + 1, x, es => if wh x then stE wh pe room m (x + 1) es else if 15 < es.length + (pe x).length ∨ room < 2 + (enL es).length + (enL (pe x)).length then (x, es) else stE wh pe room m (x + 1) (es ++ pe x)
def mksV (v : Nat → Nat) : Nat → Nat := vup (vup (vup v 7 0) 9 5) 10 (v 10 + 1)
theorem set_mid {a t : List Int32} {x v : Int32} {n : Nat} (h : n = a.length) : (a ++ x :: t).set n v = a ++ v :: t := by
  subst h
  rw [List.set_append_right _ _ (Nat.le_refl _), Nat.sub_self]
  rfl
theorem mst1 {c a room : Nat} {v : Nat → Nat} {G : Nat → List Cel} {pc : Rpc} {bs : List Int32} {Q : Sg → Prop} {σ0 : Sg} (hS0 : RcS σ0 c v) (hb : RvB v) (hP0 : RpsC σ0 c (v 2) G pc) (hca : a + 1 < c ∨ c + 71 ≤ a) (h43 : v 4 ≤ v 3) (h3 : v 3 ≤ v 2 + 31) (hroom : bs.length + room ≤ 250) (hend : ∀ (σ' : Sg) (ack : Nat) (es : List Ent), (ack, es) = stE (whl G (v 2) (v 3) pc) (pcE G pc) room (v 4 - v 2) (v 2) [] → ack ≤ v 4 → Air σ' a (bs ++ 0 :: 0 :: enL es) → Frm a σ0 σ' → wpX6_makeStatus_L167 Q c a (nI bs.length) (nI es.length) (nI ack) σ') : ∀ (m x : Nat) (σ : Sg) (es : List Ent), x + m = v 4 → v 2 ≤ x → stE (whl G (v 2) (v 3) pc) (pcE G pc) room m x es = stE (whl G (v 2) (v 3) pc) (pcE G pc) room (v 4 - v 2) (v 2) [] → es.length ≤ 15 → 2 + (enL es).length ≤ room → Air σ a (bs ++ 0 :: 0 :: enL es) → Frm a σ0 σ → wpX6_makeStatus_L30 Q (m + 1) c a (nI room) (nI bs.length) (nI es.length) (nI (v 4)) (nI x) σ := by
  have b3 := hb 3 (by decide) (by decide)
  have b4 := hb 4 (by decide) (by decide)
  intro m
  induction m with
  | zero =>
    intro x σ es hx h2 hst he15 hel hA hF
    have hx : x = v 4 := by omega
    subst hx
    have hS : RcS σ c v := hS0.of (hF c (by omega) (by omega))
    unfold wpX6_makeStatus_L30
    rw [hS.1 4 (by decide) (by decide) (by decide)]
    exact brt (nI_le (Nat.le_refl _) (by omega)) (hend σ (v 4) es hst (Nat.le_refl _) hA hF)
  | succ m ih =>
    intro x σ es hx h2 hst he15 hel hA hF
    have hS : RcS σ c v := hS0.of (hF c (by omega) (by omega))
    have hP : RpsC σ c (v 2) G pc := hP0.of (fun d d1 d2 => hF d (by omega) (by omega))
    have hPx := hP x h2 (by omega)
    have hc240 := cnt_le (f := (pc x).2) (a := 0) 240
    have hp : c + 7 ≤ c + 7 + 2 * (x % 32) ∧ c + 7 + 2 * (x % 32) < c + 70 := by omega
    have hAl : (bs ++ 0 :: 0 :: enL es).length = bs.length + 2 + (enL es).length := by simp; omega
    unfold wpX6_makeStatus_L30
    rw [hS.1 4 (by decide) (by decide) (by decide)]
    refine brf (nI_ge (by omega) (by omega)) ?_
    unfold wpX6_pieceAt
    rw [a31 (by omega), nI_clamp (by omega)]
    refine ⟨vin rfl (by omega) (by decide), ?_⟩
    rintro _ rfl
    refine isWhole_ok hS hb hP h2 (by omega) ?_
    rw [stE] at hst
    refine br01 (fun e => ?_) (fun e => ?_)
    · rw [e, if_neg (by decide)] at hst
      rw [hPx.2.2.1]
      generalize ep : c + 7 + 2 * (x % 32) = p at *
      -- with the entries of the piece
      have L94 : ∀ (pe : List Ent) (cost : Nat), pe = pcE G pc x → cost = (enL pe).length → wpX6_makeStatus_L94 Q (wpX6_makeStatus_L30 Q (m + 1)) c a (nI room) (nI bs.length) (nI es.length) (nI (v 4)) (nI x) p (nI pe.length) (nI cost) σ := by
        intro pe cost hpe hcost
        subst hcost
        rw [← hpe] at hst
        have hpl : pe.length ≤ 240 ∧ (enL pe).length ≤ 720 := by
          rw [hpe]
          unfold pcE
          split
          · exact ⟨show 1 ≤ 240 by decide, show 1 ≤ 720 by decide⟩
          · rw [List.length_map, ← rsB_enL, rsB_len]
            have key : ∀ (f : Nat → Bool) (up m k : Nat), (scn f up m k).length ≤ m := by
              intro f up m
              induction m with
              | zero => intro k; exact Nat.le_refl _
              | succ m ih =>
                intro k
                unfold scn
                split
                · rw [List.length_cons]
                  have := ih (k + 1)
                  omega
                · have := ih (k + 1)
                  omega
            have h9 : (runs (G x) (pc x).1 (pc x).2).length ≤ 240 := Nat.le_trans (key _ _ _ _) (upR_le hPx.2.1)
            omega
        unfold wpX6_makeStatus_L94
        rw [hA.1, hAl, nI_add, pk_sub (by omega), nI_add, show bs.length + 2 + (enL es).length - bs.length + (enL pe).length = 2 + (enL es).length + (enL pe).length by omega]
        have stop : (15 < es.length + pe.length ∨ room < 2 + (enL es).length + (enL pe).length) → wpX6_makeStatus_L119 Q c a (nI bs.length) (nI es.length) (nI x) σ := by
          intro hs
          rw [if_pos hs] at hst
          unfold wpX6_makeStatus_L119
          exact hend σ x es hst (by omega) hA hF
        refine pk_lt 15 (es.length + pe.length) (fun hh => stop (Or.inl hh)) (fun hh => pk_le (2 + (enL es).length + (enL pe).length) room (fun h9 => ?_) (fun h9 => stop (Or.inr (by omega))))
        rw [if_neg (by omega)] at hst
        have hnext : ∀ σ2 : Sg, Air σ2 a (bs ++ 0 :: 0 :: enL (es ++ pe)) → Frm a σ0 σ2 → wpX6_makeStatus_L154 Q (wpX6_makeStatus_L30 Q (m + 1)) c a (nI room) (nI bs.length) (nI es.length) (nI (v 4)) (nI x) (nI pe.length) σ2 := by
          intro σ2 hA2 hF2
          unfold wpX6_makeStatus_L154
          rintro _ rfl
          unfold wpX6_makeStatus_L161
          rintro _ rfl
          rw [nI_add, nI_1]
          have := ih (x + 1) σ2 (es ++ pe) (by omega) (by omega) hst (by rw [List.length_append]; omega) (by rw [enL_app, List.length_append]; omega) hA2 hF2
          rw [List.length_append] at this
          exact this
        have eapp : bs ++ 0 :: 0 :: enL (es ++ pe) = (bs ++ 0 :: 0 :: enL es) ++ enL pe := by
          rw [enL_app]
          simp
        rw [eapp] at hnext
        rw [hPx.2.2.1]
        refine ⟨fun hne => ?_, fun he => ?_⟩
        · have hne : ¬ cnt (pc x).2 0 240 = 0 := fun h0 => hne (by rw [h0]; rfl)
          have epe : enL pe = rsB x (pc x).1 (runs (G x) (pc x).1 (pc x).2) := by rw [hpe, pcE_1 hne, rsB_enL]
          rw [epe] at hnext h9
          rw [rsB_len] at h9
          refine writeMissing_ok (by omega) (by omega) hPx hA (by rw [hAl]; omega) (fun σ2 g1 g2 => hnext σ2 g1 (fun d d1 d2 => by rw [g2 d d1 d2, hF d d1 d2]))
        · have he : cnt (pc x).2 0 240 = 0 := (nI_eq (a := cnt (pc x).2 0 240) (b := 0) (by omega) (by decide)).mp he
          have epe : enL pe = [nI (x % 64)] := by rw [hpe, pcE_0 he]; rfl
          rw [epe] at hnext h9
          rw [a63 (by omega)]
          have h9 : 2 + (enL es).length + 1 ≤ room := h9
          refine put_ok hA (by rw [hAl]; omega) (fun σ2 g1 g2 => hnext σ2 g1 (fun d d1 d2 => by rw [g2 d d1 d2, hF d d1 d2]))
      refine ⟨fun hne => ?_, fun he => ?_⟩
      · have hne2 : ¬ cnt (pc x).2 0 240 = 0 := fun h0 => hne (by rw [h0]; rfl)
        refine missingRuns_ok hPx ?_
        unfold wpX6_makeStatus_L76
        rw [hPx.2.2.1]
        refine ⟨fun _ => ?_, fun h0 => absurd h0 hne⟩
        have e3 : (3 : Int32) * nI (runs (G x) (pc x).1 (pc x).2).length = nI (3 * (runs (G x) (pc x).1 (pc x).2).length) := pk_mul 3 _
        rw [e3]
        have := L94 (pcE G pc x) (3 * (runs (G x) (pc x).1 (pc x).2).length) rfl (by rw [pcE_1 hne2, ← rsB_enL, rsB_len])
        rw [pcE_1 hne2, List.length_map] at this
        exact this
      · have he2 : cnt (pc x).2 0 240 = 0 := (nI_eq (a := cnt (pc x).2 0 240) (b := 0) (by omega) (by decide)).mp he
        unfold wpX6_makeStatus_L76
        rw [hPx.2.2.1]
        refine ⟨fun h0 => absurd he h0, fun _ => ?_⟩
        have := L94 (pcE G pc x) 1 rfl (by rw [pcE_0 he2]; rfl)
        rw [pcE_0 he2] at this
        exact this
    · rw [e, if_pos rfl] at hst
      unfold wpX6_makeStatus_L161
      rintro _ rfl
      rw [nI_1]
      exact ih (x + 1) σ es (by omega) (by omega) hst he15 hel hA hF
theorem makeStatus_ok {σ : Sg} {c a room : Nat} {v : Nat → Nat} {G : Nat → List Cel} {pc : Rpc} {bs : List Int32} {Q : Sg → Prop} (hS : RcS σ c v) (hb : RvB v) (hP : RpsC σ c (v 2) G pc) (hca : a + 1 < c ∨ c + 71 ≤ a) (h24 : v 2 ≤ v 4) (h43 : v 4 ≤ v 3) (h3 : v 3 ≤ v 2 + 31) (hA : Air σ a bs) (hroom : bs.length + room ≤ 250) (h2 : 2 ≤ room) (h : ∀ σ' : Sg, RcS σ' c (mksV v) → Air σ' a (bs ++ stB (stE (whl G (v 2) (v 3) pc) (pcE G pc) room (v 4 - v 2) (v 2) []).1 (stE (whl G (v 2) (v 3) pc) (pcE G pc) room (v 4 - v 2) (v 2) []).2) → (∀ d, d ≠ c → d ≠ a → d ≠ a + 1 → σ' d = σ d) → Q σ') : wpX6_makeStatus c a (nI room) σ Q := by
  have b4 := hb 4 (by decide) (by decide)
  unfold wpX6_makeStatus
  rintro _ rfl
  rw [hA.1]
  refine put_ok hA (by omega) (fun σ1 g1 g2 => ?_)
  refine put_ok g1 (by simp; omega) (fun σ2 k1 k2 => ?_)
  have hF : Frm a σ σ2 := fun d d1 d2 => by rw [k2 d d1 d2, g2 d d1 d2]
  have hS2 : RcS σ2 c v := hS.of (hF c (by omega) (by omega))
  have hP2 : RpsC σ2 c (v 2) G pc := hP.of (fun d d1 d2 => hF d (by omega) (by omega))
  rw [hS2.1 4 (by decide) (by decide) (by decide), hS2.1 2 (by decide) (by decide) (by decide)]
  rintro _ rfl _ rfl
  refine ⟨v 4 - v 2 + 1, mst1 hS2 hb hP2 hca h43 h3 hroom (fun σ3 ack es hst hack hA3 hF3 => ?_) (v 4 - v 2) (v 2) σ2 [] (by omega) (Nat.le_refl _) rfl (by simp) h2 ?_ (fun _ _ _ => rfl)⟩
  · rw [← hst] at h
    have hS3 : RcS σ3 c v := hS2.of (hF3 c (by omega) (by omega))
    have hAl : (bs ++ 0 :: 0 :: enL es).length = bs.length + 2 + (enL es).length := by simp; omega
    unfold wpX6_makeStatus_L167
    refine set_ok hA3 (by rw [hAl]; omega) (fun σ4 q1 q2 => ?_)
    rw [set_mid rfl] at q1
    rw [nI_1, a63 (by omega)]
    refine set_ok q1 (by simp) (fun σ5 j1 j2 => ?_)
    have e1 : bs ++ nI es.length :: 0 :: enL es = (bs ++ [nI es.length]) ++ 0 :: enL es := by simp
    rw [e1, set_mid (by simp)] at j1
    have e2 : (bs ++ [nI es.length]) ++ nI (ack % 64) :: enL es = bs ++ stB ack es := by
      unfold stB
      simp
    rw [e2] at j1
    have hF5 : ∀ d, d ≠ a → d ≠ a + 1 → σ5 d = σ d := fun d d1 d2 => by rw [j2 d d2, q2 d d2, hF3 d d1 d2, hF d d1 d2]
    have hS5 : RcS σ5 c v := hS.of (hF5 c (by omega) (by omega))
    rintro _ rfl _ rfl _ rfl
    have hS6 := (hS5.put (k := 7) (x := 0) (by decide)).put (k := 9) (x := 5) (by decide)
    have e10 := hS6.1 10 (by decide) (by decide) (by decide)
    rw [vup_o (by decide), vup_o (by decide)] at e10
    have e10 : up2 (up2 σ5 c 7 0) c 9 5 c 10 = nI (v 10) := e10
    rw [e10, nI_1]
    refine h _ (hS6.put (by decide)) (j1.of ?_ ?_) (fun d d1 d2 d3 => ?_)
    · rw [up2_o (by omega), up2_o (by omega), up2_o (by omega)]
    · rw [up2_o (by omega), up2_o (by omega), up2_o (by omega)]
    · rw [up2_o d1, up2_o d1, up2_o d1, hF5 d d2 d3]
  · have e : bs ++ 0 :: 0 :: enL [] = bs ++ [0] ++ [0] := by simp [enL]
    rw [e]
    exact k1
/-- how many bytes are held -/
def hldN (pc : Rpc) : Nat → Nat → Nat
  | 0, _ => 0
  | m + 1, x => cnt (pc x).2 0 240 + hldN pc m (x + 1)
theorem hb1 {σ : Sg} {c : Nat} {v : Nat → Nat} {G : Nat → List Cel} {pc : Rpc} {Q : Int32 → Sg → Prop} (hS : RcS σ c v) (hb : RvB v) (hP : RpsC σ c (v 2) G pc) (h3 : v 3 ≤ v 2 + 31) : ∀ (m x s : Nat), x + m = v 3 → v 2 ≤ x → Q (nI (s + hldN pc m x)) σ → wpX6_heldBytes_L7 Q (m + 1) c (nI s) (nI x) σ := by
  have b3 := hb 3 (by decide) (by decide)
  intro m
  induction m with
  | zero =>
    intro x s hx h2 h
    unfold wpX6_heldBytes_L7
    rw [hS.1 3 (by decide) (by decide) (by decide)]
    exact brt (nI_le (by omega) (by omega)) h
  | succ m ih =>
    intro x s hx h2 h
    unfold wpX6_heldBytes_L7
    rw [hS.1 3 (by decide) (by decide) (by decide)]
    refine brf (nI_ge (by omega) (by omega)) ?_
    unfold wpX6_pieceAt
    rw [a31 (by omega), nI_clamp (by omega)]
    refine ⟨vin rfl (by omega) (by decide), ?_⟩
    rintro _ rfl _ rfl _ rfl
    rw [(hP x h2 (by omega)).2.2.1, nI_add, nI_1]
    refine ih (x + 1) _ (by omega) (by omega) ?_
    rw [hldN] at h
    rw [Nat.add_assoc]
    exact h
theorem heldBytes_ok {σ : Sg} {c : Nat} {v : Nat → Nat} {G : Nat → List Cel} {pc : Rpc} {Q : Int32 → Sg → Prop} (hS : RcS σ c v) (hb : RvB v) (hP : RpsC σ c (v 2) G pc) (h23 : v 2 ≤ v 3) (h3 : v 3 ≤ v 2 + 31) (h : Q (nI (hldN pc (v 3 - v 2) (v 2))) σ) : wpX6_heldBytes c σ Q := by
  unfold wpX6_heldBytes
  rw [hS.1 2 (by decide) (by decide) (by decide)]
  rintro _ rfl
  refine ⟨v 3 - v 2 + 1, ?_⟩
  have := hb1 hS hb hP h3 (Q := Q) (v 3 - v 2) (v 2) 0 (by omega) (Nat.le_refl _) (by rw [Nat.zero_add]; exact h)
  exact this
/-- it starts anew -/
def anwV (v : Nat → Nat) : Nat → Nat := fun k => if k ≤ 9 then 0 else v k
def rp0 : Rpc := fun _ => (false, fun _ => false)
theorem sa1 {c : Nat} {v : Nat → Nat} {Q : Sg → Prop} {σ0 : Sg} (hS0 : RcS σ0 c v) (hb : RvB v) (h23 : v 2 ≤ v 3) (h3 : v 3 ≤ v 2 + 31) (hcl : ∀ x, v 3 ≤ x → x < v 2 + 32 → σ0 (c + 7 + 2 * (x % 32)) 1 = -1 ∧ σ0 (c + 7 + 2 * (x % 32)) 2 = 0 ∧ ∀ k, k < 240 → σ0 (c + 7 + 2 * (x % 32) + 1) k = 0) (h : ∀ σ' : Sg, RcS σ' c (anwV v) → (∀ s, s < 32 → σ' (c + 7 + 2 * s) 1 = -1 ∧ σ' (c + 7 + 2 * s) 2 = 0 ∧ ∀ k, k < 240 → σ' (c + 7 + 2 * s + 1) k = 0) → (∀ d, d ≠ c → d < c + 7 ∨ c + 71 ≤ d → σ' d = σ0 d) → Q σ') : ∀ (m x : Nat) (σ : Sg), x + m = v 3 → v 2 ≤ x → σ c = σ0 c → (∀ y, v 2 ≤ y → y < x → σ (c + 7 + 2 * (y % 32)) 1 = -1 ∧ σ (c + 7 + 2 * (y % 32)) 2 = 0 ∧ ∀ k, k < 240 → σ (c + 7 + 2 * (y % 32) + 1) k = 0) → (∀ y, x ≤ y → y < v 2 + 32 → σ (c + 7 + 2 * (y % 32)) = σ0 (c + 7 + 2 * (y % 32)) ∧ σ (c + 7 + 2 * (y % 32) + 1) = σ0 (c + 7 + 2 * (y % 32) + 1)) → (∀ d, d < c + 7 ∨ c + 71 ≤ d → σ d = σ0 d) → wpX6_startAnew_L5 Q (m + 1) c (nI x) σ := by
  have b3 := hb 3 (by decide) (by decide)
  intro m
  induction m with
  | zero =>
    intro x σ hx h2 hc hdn hup hd
    have hS : RcS σ c v := hS0.of hc
    unfold wpX6_startAnew_L5
    rw [hS.1 3 (by decide) (by decide) (by decide)]
    refine brt (nI_le (by omega) (by omega)) ?_
    rintro _ rfl _ rfl _ rfl _ rfl _ rfl _ rfl _ rfl _ rfl
    have hS8 := (((((((hS.put (k := 2) (x := 0) (by decide)).put (k := 3) (x := 0) (by decide)).put (k := 4) (x := 0) (by decide)).put (k := 5) (x := 0) (by decide)).put6 (x := 0)).put (k := 7) (x := 0) (by decide)).put (k := 8) (x := 0) (by decide)).put (k := 9) (x := 0) (by decide)
    rw [← m1z] at hS8
    have eo : ∀ d, d ≠ c → up2 (up2 (up2 (up2 (up2 (up2 (up2 (up2 σ c 2 0) c 3 0) c 4 0) c 5 0) c 6 (-1)) c 7 0) c 8 0) c 9 0 d = σ d := fun d hd9 => by rw [up2_o hd9, up2_o hd9, up2_o hd9, up2_o hd9, up2_o hd9, up2_o hd9, up2_o hd9, up2_o hd9]
    refine h _ ⟨fun k k1 k2 k3 => ?_, ?_⟩ (fun s hs => ?_) (fun d d1 d2 => by rw [eo d d1, hd d d2])
    · have := hS8.1 k k1 k2 k3
      refine Eq.trans this ?_
      congr 1
      have hk : k = 2 ∨ k = 3 ∨ k = 4 ∨ k = 5 ∨ k = 7 ∨ k = 8 ∨ k = 9 ∨ k = 10 ∨ k = 11 ∨ k = 12 := by omega
      rcases hk with rfl | rfl | rfl | rfl | rfl | rfl | rfl | rfl | rfl | rfl <;> rfl
    · have := hS8.2
      refine Eq.trans this ?_
      congr 2
    · rw [eo _ (by omega), eo _ (by omega)]
      -- the number in [R, R + 32) of the slot
      obtain ⟨y, y1, y2, y3⟩ : ∃ y, v 2 ≤ y ∧ y < v 2 + 32 ∧ y % 32 = s := ⟨v 2 + (s + 32 - v 2 % 32) % 32, by omega, by omega, by omega⟩
      rcases Nat.lt_or_ge y x with hlt | hge
      · have := hdn y y1 hlt
        rw [y3] at this
        exact this
      · have h4 := hup y hge y2
        have h5 := hcl y (by omega) y2
        rw [y3] at h4 h5
        rw [h4.1, h4.2]
        exact h5
  | succ m ih =>
    intro x σ hx h2 hc hdn hup hd
    have hS : RcS σ c v := hS0.of hc
    unfold wpX6_startAnew_L5
    rw [hS.1 3 (by decide) (by decide) (by decide)]
    refine brf (nI_ge (by omega) (by omega)) ?_
    unfold wpX6_pieceAt
    rw [a31 (by omega), nI_clamp (by omega)]
    refine ⟨vin rfl (by omega) (by decide), ?_⟩
    rintro _ rfl
    refine clear_ok (fun σ1 g1 g2 g3 g4 g5 g6 g7 => ?_)
    rintro _ rfl
    rw [nI_1]
    refine ih (x + 1) σ1 (by omega) (by omega) ?_ (fun y y1 y2 => ?_) (fun y y1 y2 => ?_) (fun d d1 => ?_)
    · rw [g7 c (by omega) (by omega)]; exact hc
    · by_cases e : y = x
      · subst e
        exact ⟨g2, g3, g1⟩
      · have hne : y % 32 ≠ x % 32 := by omega
        rw [g7 _ (by omega) (by omega), g7 _ (by omega) (by omega)]
        exact hdn y y1 (by omega)
    · have hne : y % 32 ≠ x % 32 := by omega
      rw [g7 _ (by omega) (by omega), g7 _ (by omega) (by omega)]
      exact hup y (by omega) y2
    · rw [g7 d (by omega) (by omega)]; exact hd d d1
theorem rstartAnew_ok {σ : Sg} {c : Nat} {v : Nat → Nat} {G G' : Nat → List Cel} {pc : Rpc} {Q : Sg → Prop} (hS : RcS σ c v) (hb : RvB v) (hP : RpsC σ c (v 2) G pc) (h23 : v 2 ≤ v 3) (h3 : v 3 ≤ v 2 + 31) (hcl : ∀ x, v 3 ≤ x → pc x = (false, fun _ => false)) (hG : ∀ x, (G' x).length ≤ 240 ∧ ∀ q ∈ G' x, celOK q) (h : ∀ σ' : Sg, RcS σ' c (anwV v) → RpsC σ' c 0 G' rp0 → (∀ d, d ≠ c → d < c + 7 ∨ c + 71 ≤ d → σ' d = σ d) → Q σ') : wpX6_startAnew c σ Q := by
  unfold wpX6_startAnew
  rw [hS.1 2 (by decide) (by decide) (by decide)]
  rintro _ rfl
  refine ⟨v 3 - v 2 + 1, sa1 hS hb h23 h3 (fun x x1 x2 => ?_) (fun σ' g1 g2 g3 => h σ' g1 (fun x x1 x2 => ?_) g3) (v 3 - v 2) (v 2) σ (by omega) (Nat.le_refl _) rfl (fun y y1 y2 => by omega) (fun _ _ _ => ⟨rfl, rfl⟩) (fun _ _ => rfl)⟩
  · have hp := hP x (by omega) x2
    rw [hcl x x1] at hp
    obtain ⟨p1, p2, p3, p4, p5, p6⟩ := hp
    refine ⟨p1, ?_, fun k hk => p6 k hk⟩
    rw [p3, cnt_0 240 (fun _ _ _ => rfl)]
    rfl
  · have := g2 (x % 32) (by omega)
    exact RpC.empty (hG x).1 (hG x).2 this.1 this.2.1 this.2.2
