/-! PURE: the relation; a tick leaves it true -/
def ageF (tk j : Nat) (c : Car) : Nat := (tk + 4 - j % 4) % 4 + 4 * (c.1 - 1)
def InvH (n B tk : Nat) (key : Nat → Int32) (M : Hm) : Prop := InvM (4000 * n) (1000 * n) n B key (fun j => 2 * ageF tk j (M.2.2.1 j)) (fun j => 2 * ageF tk j (M.2.2.1 j) + 2) M ∧ tk ≤ n ∧ (∀ b, b < B → (M.1 (B + b)).1 2 = (M.1 b).1 2) ∧ ∀ p, p < 2 → M.2.2.2.1 p ≤ 250 ∧ (0 < M.2.2.2.1 p → (M.2.2.1 (pj p tk)).2.2.2.1.length = M.2.2.2.1 p)
def Rel (n P : Nat) (σ τ : Sg) : Prop := ∃ (B : Nat) (y : Int32) (tk : Nat) (tp : List Int32) (M : Hm), 1 ≤ B ∧ B ≤ 3 ∧ P = 2 * B ∧ RepC σ B y tk tp M ∧ RepM τ B y tk tp 2 M ∧ InvH n B tk (keyF y (M.2.2.2.2 10)) M ∧ tp.length ≤ 120 ∧ ∀ x ∈ tp, isB x
theorem BlkV.sl {B : Nat} {hs : Nat → Smd} {hr : Nat → Rmd} {p ad as' ad2 as2 : Nat} {c : Car} (h : BlkV B hs hr p ad as' c) (hl : 0 < c.1 → ad ≤ ad2 ∧ as' ≤ as2) : BlkV B hs hr p ad2 as2 c := ⟨h.1, h.2.1, h.2.2.1, fun hh => (h.2.2.2 hh).mono (hl hh).1 (hl hh).2⟩
theorem BkV.mono {N N' n n' : Nat} {s : Smd} (h : BkV N n s) (h1 : N ≤ N') (h2 : n ≤ n') : BkV N' n' s := by
  obtain ⟨b1, b2, b3, b4, b5⟩ := h
  exact ⟨by omega, by omega, by omega, b4, b5⟩
theorem InvM.mono {T T' N N' n n' B : Nat} {key : Nat → Int32} {ad as' ad2 as2 : Nat → Nat} {M : Hm} (h : InvM T N n B key ad as' M) (hT : T ≤ T') (hN : N ≤ N') (hn : n ≤ n') (hl : ∀ j, j < 8 → 0 < (M.2.2.1 j).1 → ad j ≤ ad2 j ∧ as' j ≤ as2 j) : InvM T' N' n' B key ad2 as2 M :=
  ⟨h.1.mono hT, fun pl hpl => (h.2.1 pl hpl).mono hN hn, fun j hj => (h.2.2 j hj).sl (hl j hj)⟩
theorem InvH.up {n B tk : Nat} {key : Nat → Int32} {M : Hm} (h : InvH n B tk key M) : InvH (n + 1) B tk key M :=
  ⟨h.1.mono (by omega) (by omega) (by omega) (fun _ _ _ => ⟨Nat.le_refl _, Nat.le_refl _⟩), by have := h.2.1; omega, h.2.2⟩
theorem Rel_up {n P : Nat} {σ τ : Sg} (h : Rel n P σ τ) : Rel (n + 1) P σ τ := by
  obtain ⟨B, y, tk, tp, M, h1, h2, h3, h4, h5, h6, h7⟩ := h
  exact ⟨B, y, tk, tp, M, h1, h2, h3, h4, h5, h6.up, h7⟩
/-- the middle of a tick -/
def tk0 (B : Nat) (M : Hm) : Hm := (prH (tmH M.1), tmG B M.1 M.2.1, M.2.2)
theorem tick_mid {n B tk g0 g1 : Nat} {key : Nat → Int32} {l0 t0 l1 t1 : Bool} {M M0 M1 M2 : Hm} (hn : n < 64) (hB1 : 1 ≤ B) (hg0 : g0 ≤ 250) (hg1 : g1 ≤ 250) (h : InvH n B tk key M) (e0 : M0 = tk0 B M) (e1 : M1 = sdM B 0 (tk + 1) key l0 t0 (flM B 0 g0 (tk + 1) M0)) (e2 : M2 = sdM B 1 (tk + 1) key l1 t1 (flM B 1 g1 (tk + 1) M1)) : InvH (n + 1) B (tk + 1) key M2 ∧ M1.2.2.2.2 10 = M.2.2.2.2 10 ∧ M2.2.2.2.2 10 = M.2.2.2.2 10 ∧ InvM (4000 * n + 1) (1000 * n) n B key (fun j => 2 * ageF tk j (M.2.2.1 j)) (fun j => 2 * ageF tk j (M.2.2.1 j) + 2) M0 ∧ InvM (4000 * n + 1 + 1875) (1000 * n + 250) n B key (adN 0 (tk + 1) M0 (fun j => 2 * ageF tk j (M.2.2.1 j))) (asN 0 (tk + 1) M0 (fun j => 2 * ageF tk j (M.2.2.1 j) + 2)) M1 ∧ (slO (M0.2.2.1 (pj 0 (tk + 1))) (2 * ageF tk (pj 0 (tk + 1)) (M.2.2.1 (pj 0 (tk + 1)))) ≤ 16 ∧ slO (M0.2.2.1 (pj 0 (tk + 1))) (2 * ageF tk (pj 0 (tk + 1)) (M.2.2.1 (pj 0 (tk + 1))) + 2) ≤ 31) ∧ (slO (M1.2.2.1 (pj 1 (tk + 1))) (adN 0 (tk + 1) M0 (fun j => 2 * ageF tk j (M.2.2.1 j)) (pj 1 (tk + 1))) ≤ 16 ∧ slO (M1.2.2.1 (pj 1 (tk + 1))) (asN 0 (tk + 1) M0 (fun j => 2 * ageF tk j (M.2.2.1 j) + 2) (pj 1 (tk + 1))) ≤ 31) ∧ (∀ b, b < B → (M1.1 b).1 2 = (M.1 b).1 2 ∧ (M2.1 b).1 2 = (M.1 b).1 2 ∧ (M0.1 b).1 2 = (M.1 b).1 2) ∧ (M1.2.2.2.1 0 ≤ 250) := by
  obtain ⟨h1, h2, h3, h4⟩ := h
  have hj0 := pj_lt (p := 0) (tk := tk + 1) (by decide)
  have hj1 := pj_lt (p := 1) (tk := tk + 1) (by decide)
  have hne : pj 1 (tk + 1) ≠ pj 0 (tk + 1) := by unfold pj; omega
  obtain ⟨q1, q2, q3⟩ := tick0_V (by omega) h1
  have e0' : (prH (tmH M.1), tmG B M.1 M.2.1, M.2.2) = M0 := e0.symm
  rw [e0'] at q1
  have ec : M0.2.2 = M.2.2 := by rw [e0]; rfl
  have em : M0.1 = prH (tmH M.1) := by rw [e0]; rfl
  have c20 := (h1.2.2 _ hj0).1
  have c21 := (h1.2.2 _ hj1).1
  -- the ages
  have ag0 : ∀ p, p < 2 → ageF tk (pj p (tk + 1)) (M.2.2.1 (pj p (tk + 1))) = 3 + 4 * ((M.2.2.1 (pj p (tk + 1))).1 - 1) := fun p hp => by
    unfold ageF
    have : pj p (tk + 1) % 4 = (tk + 1) % 4 := by unfold pj; omega
    rw [this]
    omega
  have s0 : slO (M0.2.2.1 (pj 0 (tk + 1))) (2 * ageF tk (pj 0 (tk + 1)) (M.2.2.1 (pj 0 (tk + 1)))) ≤ 16 ∧ slO (M0.2.2.1 (pj 0 (tk + 1))) (2 * ageF tk (pj 0 (tk + 1)) (M.2.2.1 (pj 0 (tk + 1))) + 2) ≤ 31 := by
    rw [ag0 0 (by decide)]
    unfold slO
    constructor <;> split <;> omega
  obtain ⟨p1, p2, ⟨p3, p4, p5, p6⟩, p7, p8, p9, p10⟩ := send_V (lost := l0) (turned := t0) hB1 (by decide) hg0 (by omega) (by omega) q1 s0.1 s0.2 rfl e1
  have ecj : M1.2.2.1 (pj 1 (tk + 1)) = M.2.2.1 (pj 1 (tk + 1)) := by rw [p7 _ hne hj1, ec]
  have a41 : pj 1 (tk + 1) / 4 = 1 := pj_4 (by decide)
  have a40 : pj 0 (tk + 1) / 4 = 0 := pj_4 (by decide)
  have ead : adN 0 (tk + 1) M0 (fun j => 2 * ageF tk j (M.2.2.1 j)) (pj 1 (tk + 1)) = 2 * ageF tk (pj 1 (tk + 1)) (M.2.2.1 (pj 1 (tk + 1))) := by
    unfold adN
    rw [if_neg hne, a41, if_neg (by decide)]
    rfl
  have eas : asN 0 (tk + 1) M0 (fun j => 2 * ageF tk j (M.2.2.1 j) + 2) (pj 1 (tk + 1)) = 2 * ageF tk (pj 1 (tk + 1)) (M.2.2.1 (pj 1 (tk + 1))) + 4 := by
    unfold asN
    rw [if_neg hne, a41, if_neg (by decide)]
  have s1 : slO (M1.2.2.1 (pj 1 (tk + 1))) (adN 0 (tk + 1) M0 (fun j => 2 * ageF tk j (M.2.2.1 j)) (pj 1 (tk + 1))) ≤ 16 ∧ slO (M1.2.2.1 (pj 1 (tk + 1))) (asN 0 (tk + 1) M0 (fun j => 2 * ageF tk j (M.2.2.1 j) + 2) (pj 1 (tk + 1))) ≤ 31 := by
    rw [ead, eas, ecj, ag0 1 (by decide)]
    unfold slO
    constructor <;> split <;> omega
  obtain ⟨r1, r2, ⟨r3, r4, r5, r6⟩, r7, r8, r9, r10⟩ := send_V (lost := l1) (turned := t1) hB1 (by decide) hg1 (by omega) (by omega) p1 s1.1 s1.2 rfl e2
  have g10 : M0.2.2.2.2 10 = M.2.2.2.2 10 := by rw [ec]
  have hrt : ∀ pl, pl < 2 * B → (M2.1 pl).1 2 = (M.1 pl).1 2 := fun pl hpl => by rw [r2 pl hpl, p2 pl hpl, em, q2 pl hpl]
  refine ⟨⟨r1.mono (by omega) (by omega) (by omega) (fun j hj hc => ?_), by omega, fun b hb => ?_, fun p hp => ?_⟩, by rw [p9, g10], by rw [r9, p9, g10], q1, p1, s0, s1, fun b hb => ⟨by rw [p2 b (by omega), em, q2 b (by omega)], hrt b (by omega), by rw [em, q2 b (by omega)]⟩, ?_⟩
  · -- ages after
    show adN 1 (tk + 1) M1 (adN 0 (tk + 1) M0 (fun j => 2 * ageF tk j (M.2.2.1 j))) j ≤ 2 * ageF (tk + 1) j (M2.2.2.1 j) ∧ asN 1 (tk + 1) M1 (asN 0 (tk + 1) M0 (fun j => 2 * ageF tk j (M.2.2.1 j) + 2)) j ≤ 2 * ageF (tk + 1) j (M2.2.2.1 j) + 2
    by_cases ej1 : j = pj 1 (tk + 1)
    · subst ej1
      have hk := r8 hc
      rw [ecj] at hk
      have ag1 : ageF (tk + 1) (pj 1 (tk + 1)) (M2.2.2.1 (pj 1 (tk + 1))) = 4 * (M.2.2.1 (pj 1 (tk + 1))).1 := by
        unfold ageF
        have : pj 1 (tk + 1) % 4 = (tk + 1) % 4 := by unfold pj; omega
        rw [this, hk]
        omega
      have f1 : adN 1 (tk + 1) M1 (adN 0 (tk + 1) M0 (fun j => 2 * ageF tk j (M.2.2.1 j))) (pj 1 (tk + 1)) = slO (M.2.2.1 (pj 1 (tk + 1))) (2 * ageF tk (pj 1 (tk + 1)) (M.2.2.1 (pj 1 (tk + 1)))) := by
        have : adN 1 (tk + 1) M1 (adN 0 (tk + 1) M0 (fun j => 2 * ageF tk j (M.2.2.1 j))) (pj 1 (tk + 1)) = slO (M1.2.2.1 (pj 1 (tk + 1))) (adN 0 (tk + 1) M0 (fun j => 2 * ageF tk j (M.2.2.1 j)) (pj 1 (tk + 1))) := if_pos rfl
        rw [this, ecj, ead]
      have f2 : asN 1 (tk + 1) M1 (asN 0 (tk + 1) M0 (fun j => 2 * ageF tk j (M.2.2.1 j) + 2)) (pj 1 (tk + 1)) = slO (M.2.2.1 (pj 1 (tk + 1))) (2 * ageF tk (pj 1 (tk + 1)) (M.2.2.1 (pj 1 (tk + 1))) + 4) := by
        have : asN 1 (tk + 1) M1 (asN 0 (tk + 1) M0 (fun j => 2 * ageF tk j (M.2.2.1 j) + 2)) (pj 1 (tk + 1)) = slO (M1.2.2.1 (pj 1 (tk + 1))) (asN 0 (tk + 1) M0 (fun j => 2 * ageF tk j (M.2.2.1 j) + 2) (pj 1 (tk + 1))) := if_pos rfl
        rw [this, ecj, eas]
      rw [f1, f2, ag1, ag0 1 (by decide)]
      unfold slO
      constructor <;> split <;> omega
    · have f1 : adN 1 (tk + 1) M1 (adN 0 (tk + 1) M0 (fun j => 2 * ageF tk j (M.2.2.1 j))) j = adN 0 (tk + 1) M0 (fun j => 2 * ageF tk j (M.2.2.1 j)) j + if j / 4 = 1 then 2 else 0 := if_neg ej1
      have f2 : asN 1 (tk + 1) M1 (asN 0 (tk + 1) M0 (fun j => 2 * ageF tk j (M.2.2.1 j) + 2)) j = asN 0 (tk + 1) M0 (fun j => 2 * ageF tk j (M.2.2.1 j) + 2) j + if j / 4 = 1 then 0 else 2 := if_neg ej1
      rw [f1, f2]
      rw [r7 j ej1 hj] at hc ⊢
      by_cases ej0 : j = pj 0 (tk + 1)
      · subst ej0
        have hk := p8 hc
        rw [ec] at hk
        have ag1 : ageF (tk + 1) (pj 0 (tk + 1)) (M1.2.2.1 (pj 0 (tk + 1))) = 4 * (M.2.2.1 (pj 0 (tk + 1))).1 := by
          unfold ageF
          have : pj 0 (tk + 1) % 4 = (tk + 1) % 4 := by unfold pj; omega
          rw [this, hk]
          omega
        have g1 : adN 0 (tk + 1) M0 (fun j => 2 * ageF tk j (M.2.2.1 j)) (pj 0 (tk + 1)) = slO (M.2.2.1 (pj 0 (tk + 1))) (2 * ageF tk (pj 0 (tk + 1)) (M.2.2.1 (pj 0 (tk + 1)))) := by
          unfold adN
          rw [if_pos rfl, ec]
        have g2 : asN 0 (tk + 1) M0 (fun j => 2 * ageF tk j (M.2.2.1 j) + 2) (pj 0 (tk + 1)) = slO (M.2.2.1 (pj 0 (tk + 1))) (2 * ageF tk (pj 0 (tk + 1)) (M.2.2.1 (pj 0 (tk + 1))) + 2) := by
          unfold asN
          rw [if_pos rfl, ec]
        rw [g1, g2, ag1, ag0 0 (by decide), a40, if_neg (by decide), if_neg (by decide)]
        unfold slO
        constructor <;> split <;> omega
      · have g1 : adN 0 (tk + 1) M0 (fun j => 2 * ageF tk j (M.2.2.1 j)) j = 2 * ageF tk j (M.2.2.1 j) + if j / 4 = 0 then 2 else 0 := if_neg ej0
        have g2 : asN 0 (tk + 1) M0 (fun j => 2 * ageF tk j (M.2.2.1 j) + 2) j = 2 * ageF tk j (M.2.2.1 j) + 2 + if j / 4 = 0 then 0 else 2 := if_neg ej0
        rw [p7 j ej0 hj, ec, g1, g2]
        have hk : j % 4 ≠ (tk + 1) % 4 := fun hh => by
          have h48 : j / 4 = 0 ∨ j / 4 = 1 := by omega
          unfold pj at ej0 ej1
          omega
        have ag1 : ageF (tk + 1) j (M.2.2.1 j) = ageF tk j (M.2.2.1 j) + 1 := by
          unfold ageF
          omega
        rw [ag1]
        have h48 : j / 4 = 0 ∨ j / 4 = 1 := by omega
        rcases h48 with h48 | h48
        · rw [h48, if_pos rfl, if_neg (by decide), if_pos rfl, if_neg (by decide)]
          omega
        · rw [h48, if_neg (by decide), if_pos rfl, if_neg (by decide), if_pos rfl]
          omega
  · rw [hrt _ (by omega), hrt b (by omega)]
    exact h3 b hb
  · have hp2 : p = 0 ∨ p = 1 := by omega
    rcases hp2 with rfl | rfl
    · rw [r3, p3]
      show fup (fup M0.2.2.2.1 0 _) 1 _ 0 ≤ 250 ∧ (0 < fup (fup M0.2.2.2.1 0 _) 1 _ 0 → _ = fup (fup M0.2.2.2.1 0 _) 1 _ 0)
      rw [fup_o (by decide), fup_s, r7 _ (fun hh => hne hh.symm) hj0, p4]
      exact ⟨p5, p6⟩
    · rw [r3, fup_s, r4]
      exact ⟨r5, r6⟩
  · rw [p3, fup_s]
    exact p5
