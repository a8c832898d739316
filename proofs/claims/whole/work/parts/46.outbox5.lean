/-! PURE: units taken, bytes WAITING, in the class -/
theorem addWaiting_ok {σ : Sg} {o n : Nat} {x : Int32} {Q : Sg → Prop} (h9 : σ o 9 = nI n) (hn : n < 32) (h : ∀ σ' : Sg, σ' o 9 = nI (n + 1) → (∀ k, k ≠ 9 → σ' o k = σ o k) → (∀ j, σ' (o + 5) j = if j = n then x else σ (o + 5) j) → (∀ d, d ≠ o → d ≠ o + 5 → σ' d = σ d) → Q σ') : wpX4_addWaiting o x σ Q := by
  unfold wpX4_addWaiting
  rw [h9]
  refine brf (nI_ge hn (by decide)) ?_
  rintro _ rfl
  refine ⟨vin rfl hn (by decide), ?_⟩
  rintro _ rfl
  rw [nI_1, nI_clamp (by omega)]
  refine h _ ?_ (fun k hk => ?_) (fun j => ?_) (fun d d1 d2 => ?_)
  · rw [up2_o (by omega), up2_e, if_pos ⟨rfl, rfl⟩]
  · rw [up2_o (by omega), up2_e, if_neg (by omega)]
  · rw [up2_e]
    by_cases e : j = n
    · rw [if_pos ⟨rfl, e⟩, if_pos e]
    · rw [if_neg (fun h => e h.2), if_neg e, up2_o (by omega)]
  · rw [up2_o d2, up2_o d1]
def unN (un : Nat → Un) (c : Nat) (bs : List Int32) : Nat → Un := fun d => if d = c then (bs, nI (bs.length + 1), true) else un d
theorem kpt_unN {un : Nat → Un} {c : Nat} {bs : List Int32} : kpt (unN un c bs) = bup (kpt un) c true := by
  funext d
  unfold kpt unN bup
  by_cases e : d = c
  · simp [e]
  · simp [e]
theorem lowK_new {kp : Nat → Bool} {nc : Nat} : lowK (bup kp nc true) (nc + 1) = lowK kp nc := by
  obtain ⟨g1, g2, g3⟩ := lowK_spec kp nc
  refine lowK_uniq (by omega) (fun k hk => ?_) (fun h => ?_)
  · rw [bup_o (by omega)]; exact g2 k hk
  · by_cases e : lowK kp nc = nc
    · rw [e, bup_s]
    · rw [bup_o e]; exact g3 (by omega)
theorem wg_app {w : Wt} {q : Nat × List Int32} {j : Nat} (h : j < w.1.length) : wg (w.1 ++ [q], w.2) j = wg w j := by
  unfold wg
  rw [List.getD_eq_getElem?_getD, List.getElem?_append_left h, ← List.getD_eq_getElem?_getD]
theorem wg_end {w : Wt} {q : Nat × List Int32} : wg (w.1 ++ [q], w.2) w.1.length = q := by
  unfold wg
  rw [List.getD_eq_getElem?_getD, List.getElem?_append_right (Nat.le_refl _), Nat.sub_self]
  rfl
theorem takeUnit_ok {σ : Sg} {o c1 mk nc : Nat} {un : Nat → Un} {w : Wt} {bs pk : List Int32} {Q : Int32 → Sg → Prop} (hC : ObC σ o mk nc un w) (hV : ObV nc un w) (h1 : 1 ≤ bs.length) (h2 : bs.length ≤ 120) (hp : ∀ k, k < bs.length → σ c1 k = bs.getD k 0) (h : if lowK (kpt un) nc + 24 ≤ nc then Q (-1) σ else ∀ σ' : Sg, ObC σ' o mk (nc + 1) (unN un nc bs) (w.1 ++ [(nc + 1, pk)], w.2) → Fob o σ σ' → Q (nI nc) σ') : wpX4_takeUnit o c1 (nI bs.length) σ Q := by
  obtain ⟨c0, c7, c6, c5, cU, cW⟩ := hC
  have hlen := hV.len
  obtain ⟨v1, v2, v3, v4, v5, v6, v7, v8, v9⟩ := hV
  obtain ⟨l1, l2, l3⟩ := lowK_spec (kpt un) nc
  unfold wpX4_takeUnit
  have e24 : nI (lowK (kpt un) nc) + 24 = nI (lowK (kpt un) nc + 24) := nI_add _ 24
  rw [c6, c7, e24]
  refine pk_le (lowK (kpt un) nc + 24) nc (fun hh => ?_) (fun hh => ?_)
  · rw [if_pos hh] at h
    exact h
  · rw [if_neg (by omega)] at h
    refine brf (fun hx => by have := (nI_ltI (a := bs.length) (b := 1) (by omega) (by decide)).mp hx; omega) (brf (fun hx => by have := (nI_ltI (a := 120) (b := bs.length) (by decide) (by omega)).mp hx; omega) (brt ((nI_leI (by omega) (by decide)).mpr h2) ?_))
    rintro _ rfl
    have e120 : nI (nc % 32) * 120 = nI (nc % 32 * 120) := pk_mul (nc % 32) 120
    rw [a31 (by omega), e120, nI_clamp (by omega), nI_clamp (by omega), nI_clamp (by omega)]
    refine ⟨by decide, nI_pos (by omega), nI_pos (by omega), ?_, by omega, ?_⟩
    · show 0 + _ ≤ 120
      omega
    rintro _ rfl
    refine ⟨vin rfl (by omega) (by decide), ?_⟩
    rintro _ rfl
    refine ⟨vin rfl (by omega) (by decide), ?_⟩
    rintro _ rfl
    refine ⟨vin rfl (by omega) (by decide), ?_⟩
    rintro _ rfl
    rintro _ rfl
    have r1 : ∀ j, va_cpy (σ c1) (σ (o + 1)) (Int32.toNatClampNeg 0) (nc % 32 * 120) bs.length j = if nc % 32 * 120 ≤ j ∧ j < nc % 32 * 120 + bs.length then bs.getD (j - nc % 32 * 120) 0 else σ (o + 1) j := by
      intro j
      by_cases e : nc % 32 * 120 ≤ j ∧ j < nc % 32 * 120 + bs.length
      · rw [if_pos e, pk_cpy_in e.1 e.2, show Int32.toNatClampNeg 0 = 0 from rfl, Nat.zero_add, hp _ (by omega)]
      · rw [if_neg e, pk_cpy_out (by omega)]
    generalize eR : va_cpy (σ c1) (σ (o + 1)) (Int32.toNatClampNeg 0) (nc % 32 * 120) bs.length = row at r1 ⊢
    generalize eS : (up2 (up2 (up2 (up2 (va_up σ (o + 1) row) (o + 2) (nc % 32) (nI bs.length)) (o + 3) (nc % 32) 1) (o + 4) (nc % 32) (nI bs.length + 1)) o 5 (up2 (up2 (up2 (va_up σ (o + 1) row) (o + 2) (nc % 32) (nI bs.length)) (o + 3) (nc % 32) 1) (o + 4) (nc % 32) (nI bs.length + 1) o 5 + 1)) = σ1
    have q0 : ∀ k, σ1 o k = if k = 5 then nI (cnt (kpt un) 0 nc + 1) else σ o k := by
      intro k
      rw [← eS, up2_e, up2_o (by omega), up2_o (by omega), up2_o (by omega), vu_o (by omega), c5, nI_1]
      by_cases e : k = 5
      · rw [if_pos ⟨rfl, e⟩, if_pos e]
      · rw [if_neg (fun h => e h.2), if_neg e]
    have q1 : ∀ k, σ1 (o + 1) k = row k := by
      intro k
      rw [← eS, up2_o (by omega), up2_o (by omega), up2_o (by omega), up2_o (by omega), vu_s]
    have q2 : ∀ k, σ1 (o + 2) k = if k = nc % 32 then nI bs.length else σ (o + 2) k := by
      intro k
      rw [← eS, up2_o (by omega), up2_o (by omega), up2_o (by omega), up2_e, vu_o (by omega)]
      simp
    have q3 : ∀ k, σ1 (o + 3) k = if k = nc % 32 then 1 else σ (o + 3) k := by
      intro k
      rw [← eS, up2_o (by omega), up2_o (by omega), up2_e, up2_o (by omega), vu_o (by omega)]
      simp
    have q4 : ∀ k, σ1 (o + 4) k = if k = nc % 32 then nI (bs.length + 1) else σ (o + 4) k := by
      intro k
      rw [← eS, up2_o (by omega), up2_e, up2_o (by omega), up2_o (by omega), vu_o (by omega), nI_1]
      simp
    have qd : ∀ d, d < o ∨ o + 4 < d → σ1 d = σ d := by
      intro d hd
      rw [← eS, up2_o (by omega), up2_o (by omega), up2_o (by omega), up2_o (by omega), vu_o (by omega)]
    clear eS eR
    have s7 : σ1 o 7 = nI nc := by rw [q0, if_neg (by decide)]; exact c7
    have s9 : σ1 o 9 = nI w.1.length := by rw [q0, if_neg (by decide)]; exact cW.1
    refine addWaiting_ok s9 (by omega) (fun σ2 g9 gk gj gd => ?_)
    have s27 : σ2 o 7 = nI nc := by rw [gk 7 (by decide)]; exact s7
    rw [s7] at gj
    rintro _ rfl
    rw [s27, nI_1]
    have ok : ∀ k, k ≠ 5 → k ≠ 7 → k ≠ 9 → (up2 σ2 o 7 (nI (nc + 1))) o k = σ o k := fun k k5 k7 k9 => by rw [up2_e, if_neg (by omega), gk k k9, q0, if_neg k5]
    refine h _ ⟨?_, ?_, ?_, ?_, fun c g1 g2 => ?_, ?_, ?_, fun j hj => ?_, fun hg => ?_, fun p hp hp0 => ?_⟩ (fun d hd => ?_)
    · rw [ok 0 (by decide) (by decide) (by decide)]; exact c0
    · rw [up2_e, if_pos ⟨rfl, rfl⟩]
    · rw [ok 6 (by decide) (by decide) (by decide), kpt_unN, lowK_new]; exact c6
    · rw [up2_e, if_neg (by omega), gk 5 (by decide), q0, if_pos rfl, kpt_unN]
      show nI (cnt (kpt un) 0 nc + 1) = nI (cnt (bup (kpt un) nc true) 0 nc + if bup (kpt un) nc true (0 + nc) then 1 else 0)
      rw [Nat.zero_add, bup_s, if_pos rfl, cnt_congr (g := kpt un) nc (fun k _ hk => bup_o (by omega))]
    · rw [kpt_unN, lowK_new] at g1
      rw [up2_o (by omega), gd _ (by omega) (by omega), q3, kpt_unN]
      unfold UnC
      rw [up2_o (by omega), gd _ (by omega) (by omega), q2, up2_o (by omega), gd _ (by omega) (by omega), q4, up2_o (by omega), gd _ (by omega) (by omega)]
      by_cases e : c = nc
      · subst e
        have eu : unN un c bs c = (bs, nI (bs.length + 1), true) := if_pos rfl
        rw [if_pos rfl, if_pos rfl, if_pos rfl, bup_s, eu]
        refine ⟨rfl, fun _ => ⟨rfl, rfl, fun k hk => ?_⟩⟩
        have hk : k < bs.length := hk
        rw [q1, r1, if_pos (by omega)]
        congr 1
        omega
      · rw [if_neg (by omega), if_neg (by omega), if_neg (by omega), bup_o e]
        have eu : unN un nc bs c = un c := if_neg e
        rw [eu]
        have hc := cU c g1 (by omega)
        refine ⟨hc.1, fun hk => ⟨(hc.2 hk).1, (hc.2 hk).2.1, fun k hk2 => ?_⟩⟩
        have hl := v4 c hk
        rw [q1, r1, if_neg (by omega)]
        exact (hc.2 hk).2.2 k hk2
    · rw [up2_e, if_neg (by omega), g9]
      simp
    · rw [ok 12 (by decide) (by decide) (by decide)]; exact cW.2.1
    · have hj : j < w.1.length + 1 := by simpa using hj
      rw [up2_o (by omega), gj, qd (o + 5) (by omega)]
      by_cases e : j = w.1.length
      · subst e
        rw [if_pos rfl, wg_end]
        exact (nI_pred nc).symm
      · rw [if_neg e, wg_app (by omega)]
        exact cW.2.2.1 j (by omega)
    · have hg : 0 < w.2 := hg
      have hpos : 0 < w.1.length := by
        rcases Nat.eq_zero_or_pos w.1.length with e | e
        · have := v8 (List.eq_nil_of_length_eq_zero e)
          omega
        · exact e
      rw [wg_app hpos, ok 11 (by decide) (by decide) (by decide), up2_o (by omega), gd _ (by omega) (by omega), qd (o + 6) (by omega)]
      exact cW.2.2.2.1 hg
    · have hp : p ∈ w.1 ++ [(nc + 1, pk)] := hp
      rw [List.mem_append, List.mem_singleton] at hp
      rw [ok 14 (by decide) (by decide) (by decide), up2_o (by omega), gd _ (by omega) (by omega), qd (o + 7) (by omega)]
      rcases hp with hp | hp
      · exact cW.2.2.2.2 p hp hp0
      · rw [hp] at hp0
        simp at hp0
    · rw [up2_o (by omega), gd _ (by omega) (by omega), qd _ (by omega)]
theorem obV_new {nc : Nat} {un : Nat → Un} {w : Wt} {bs : List Int32} {ks : Nat → Nat → Int32} (hV : ObV nc un w) (hn : nc + 1 < 2 ^ 17) (hlt : nc < lowK (kpt un) nc + 24) (h1 : 1 ≤ bs.length) (h2 : bs.length ≤ 120) (hb : ∀ x ∈ bs, isB x) (hk : ∀ x ∈ pkU ks nc bs, isB x) : ObV (nc + 1) (unN un nc bs) (w.1 ++ [(nc + 1, pkU ks nc bs)], w.2) := by
  obtain ⟨v1, v2, v3, v4, v5, v6, v7, v8, v9⟩ := hV
  refine ⟨hn, ?_, fun c hc => ?_, fun c hc => ?_, ?_, fun p hp => ?_, fun p ps hp => ?_, fun hh => ?_, fun j hj hg => ?_⟩
  · rw [kpt_unN, lowK_new]; omega
  · rw [kpt_unN, bup_o (by omega)]; exact v3 c (by omega)
  · rw [kpt_unN] at hc
    by_cases e : c = nc
    · subst e
      have eu : unN un c bs c = (bs, nI (bs.length + 1), true) := if_pos rfl
      rw [eu]
      exact ⟨h1, h2, hb⟩
    · rw [bup_o e] at hc
      have eu : unN un nc bs c = un c := if_neg e
      rw [eu]
      exact v4 c hc
  · show ((w.1 ++ [(nc + 1, pkU ks nc bs)]).map (·.1)).Pairwise (· < ·)
    rw [List.map_append, List.pairwise_append]
    refine ⟨v5, by simp, fun a ha b hb => ?_⟩
    obtain ⟨p, hp, rfl⟩ := List.mem_map.mp ha
    have := (v6 p hp).2.2.1
    simp at hb
    omega
  · have hp : p ∈ w.1 ++ [(nc + 1, pkU ks nc bs)] := hp
    rw [List.mem_append, List.mem_singleton] at hp
    rcases hp with hp | hp
    · have := v6 p hp
      exact ⟨this.1, this.2.1, by omega, this.2.2.2⟩
    · subst hp
      refine ⟨?_, ?_, Nat.le_refl _, fun h0 => by simp at h0, ⟨128 + nc % 64, rfl, by omega, by omega⟩, hk⟩
      · show 2 ≤ (pkU ks nc bs).length
        rw [pkU_len]; omega
      · show (pkU ks nc bs).length ≤ 121
        rw [pkU_len]; omega
  · have hp : w.1 ++ [(nc + 1, pkU ks nc bs)] = p :: ps := hp
    show w.2 < p.2.length
    obtain ⟨w1, g⟩ := w
    cases w1 with
    | nil =>
      have h0 : g = 0 := v8 rfl
      simp at hp
      rw [← hp.1]
      show g < (pkU ks nc bs).length
      rw [pkU_len]; omega
    | cons q qs =>
      have e : q = p := by
        have := congrArg List.head? hp
        simpa using this
      rw [← e]
      exact v7 q qs rfl
  · have hh : w.1 ++ [(nc + 1, pkU ks nc bs)] = [] := hh
    simp at hh
  · have hj : j < w.1.length + 1 := by simpa using hj
    rw [kpt_unN]
    by_cases e : j = w.1.length
    · subst e
      rw [wg_end]
      exact Or.inr bup_s
    · rw [wg_app (by omega)]
      rcases v9 j (by omega) hg with h | h
      · exact Or.inl h
      · refine Or.inr ?_
        by_cases e0 : (wg w j).1 - 1 = nc
        · rw [e0, bup_s]
        · rw [bup_o e0]; exact h
theorem obK_new {nc : Nat} {un : Nat → Un} {w : Wt} {bs : List Int32} {ks : Nat → Nat → Int32} (hV : ObV nc un w) (hK : ObK ks un w) : ObK ks (unN un nc bs) (w.1 ++ [(nc + 1, pkU ks nc bs)], w.2) := by
  intro j hj hg
  have hj : j < w.1.length + 1 := by simpa using hj
  by_cases e : j = w.1.length
  · subst e
    rw [wg_end]
    refine Or.inr ?_
    have eu : unN un nc bs (nc + 1 - 1) = (bs, nI (bs.length + 1), true) := if_pos rfl
    show pkU ks nc bs = pkU ks (nc + 1 - 1) (unN un nc bs (nc + 1 - 1)).1
    rw [eu, Nat.add_sub_cancel]
  · rw [wg_app (by omega)]
    rcases hK j (by omega) hg with h | h
    · exact Or.inl h
    · rcases hV.2.2.2.2.2.2.2.2 j (by omega) hg with h9 | h9
      · exact Or.inl h9
      · refine Or.inr ?_
        have hne : (wg w j).1 - 1 ≠ nc := fun e0 => by
          rw [e0, hV.2.2.1 nc (Nat.le_refl _)] at h9
          cases h9
        have eu : unN un nc bs ((wg w j).1 - 1) = un ((wg w j).1 - 1) := if_neg hne
        rw [eu]
        exact h
/-- bytes that wait -/
def sumL : List (Nat × List Int32) → Nat
  | [] => 0
  | p :: ps => p.2.length + sumL ps
def wLen (w : Wt) : Nat := sumL w.1 - w.2
theorem waitingBytes_ok {σ : Sg} {o mk nc : Nat} {ks : Nat → Nat → Int32} {un : Nat → Un} {w : Wt} {Q : Int32 → Sg → Prop} (hC : ObC σ o mk nc un w) (hV : ObV nc un w) (hK : ObK ks un w) (h : Q (nI (wLen w)) σ) : wpX4_waitingBytes o σ Q := by
  have hlen := hV.len
  have cW := hC.2.2.2.2.2
  refine ⟨w.1.length + 1, ?_⟩
  have H : ∀ (r pre : List (Nat × List Int32)) (acc : Nat), pre ++ r = w.1 → (0 < pre.length ∨ w.2 = 0) → Q (nI (acc + sumL r)) σ → wpX4_waitingBytes_L4 Q (r.length + 1) o (nI acc) (nI pre.length) σ := by
    intro r
    induction r with
    | nil =>
      intro pre acc hp hg h
      rw [List.append_nil] at hp
      show wpX4_waitingBytes_L4 Q (0 + 1) o (nI acc) (nI pre.length) σ
      unfold wpX4_waitingBytes_L4
      rw [cW.1, hp]
      exact brt (nI_le (Nat.le_refl _) (by omega)) h
    | cons p r ih =>
      intro pre acc hp hg h
      have hl : w.1.length = pre.length + (r.length + 1) := by rw [← hp]; simp
      have hwg : wg w pre.length = p := by
        unfold wg
        rw [← hp, List.getD_eq_getElem?_getD, List.getElem?_append_right (Nat.le_refl _), Nat.sub_self]
        rfl
      show wpX4_waitingBytes_L4 Q (r.length + 1 + 1) o (nI acc) (nI pre.length) σ
      unfold wpX4_waitingBytes_L4
      rw [cW.1]
      refine brf (nI_ge (by omega) (by omega)) ?_
      have L36 : wpX4_waitingBytes_L36 Q (wpX4_waitingBytes_L4 Q (r.length + 1)) o (nI pre.length) (nI acc) σ := by
        unfold wpX4_waitingBytes_L36
        refine ⟨vin rfl (by omega) (by decide), ?_⟩
        rw [nI_clamp (by omega), cW.2.2.1 pre.length (by omega)]
        refine packetSize_ok hC hV hK (by omega) hg ?_
        rw [hwg]
        unfold wpX4_waitingBytes_L46
        rintro _ rfl _ rfl
        rw [nI_add, nI_1]
        have := ih (pre ++ [p]) (acc + p.2.length) (by rw [List.append_assoc]; exact hp) (Or.inl (by simp)) (by rw [sumL, ← Nat.add_assoc] at h; exact h)
        rw [show (pre ++ [p]).length = pre.length + 1 by simp] at this
        exact this
      refine ⟨fun _ => L36, fun h0 => ?_⟩
      have hp0 : pre.length = 0 := (nI_eq (by omega) (by decide)).mp h0
      rw [cW.2.1]
      exact brt (by rcases hg with h | h
                    · omega
                    · rw [h]; exact Int32.le_refl _) L36
  rcases Nat.eq_zero_or_pos w.2 with e | e
  · have := H w.1 [] 0 rfl (Or.inr e) (by unfold wLen at h; rw [e, Nat.sub_zero] at h; rw [Nat.zero_add]; exact h)
    exact this
  · obtain ⟨w1, g⟩ := w
    cases w1 with
    | nil => have := hV.2.2.2.2.2.2.2.1 rfl; omega
    | cons p ps =>
      have hg : g < p.2.length := hV.2.2.2.2.2.2.1 p ps rfl
      have hpl := (hV.2.2.2.2.2.1 p (List.mem_cons_self ..)).2.1
      have hfr := cW.2.2.2.1 e
      show wpX4_waitingBytes_L4 Q (ps.length + 1 + 1) o 0 0 σ
      unfold wpX4_waitingBytes_L4
      rw [cW.1]
      refine brf (nI_ge (a := 0) (by simp) (by simp; simp at hlen; omega)) (brt' rfl ?_)
      rw [cW.2.1]
      have eg : ¬ nI (p :: ps, g).2 ≤ 0 := nI_nle e (by show g < 2 ^ 31; omega)
      refine brf eg ?_
      unfold wpX4_waitingBytes_L46
      rintro _ rfl _ rfl
      rw [hfr.1]
      have e1 : 0 + (nI (wg (p :: ps, g) 0).2.length - nI (p :: ps, g).2) = nI (p.2.length - g) := by
        rw [Int32.zero_add]
        show nI p.2.length - nI g = _
        exact pk_sub (by omega)
      rw [e1]
      exact H ps [p] (p.2.length - g) rfl (Or.inl (by simp)) (by
        rw [show p.2.length - g + sumL ps = wLen (p :: ps, g) by unfold wLen; simp [sumL]; omega]
        exact h)
