/-! PURE: sender, receiver, delivered, unit, process, world, block -/
theorem isPlace_yes {P B p b : Nat} {σ : Sg} {Q : Int32 → Sg → Prop} (h0 : σ 0 0 = nI B) (hB : B ≤ 3) (hp : p < 2) (hb : b < B) (h : Q 1 σ) : wpX8_isPlace P (nI p) (nI b) σ Q := by
  unfold wpX8_isPlace
  rw [h0]
  exact brf (nI_pos (by omega)) (brf (nI_nlt (a := 1) (b := p) (by omega) (by decide)) (brf (nI_pos (by omega)) (brf (nI_ge hb (by omega)) h)))
theorem z01 {n : Nat} (h : n ≤ 1) {Q : Int32 → Sg → Prop} {σ : Sg} (hq : Q (nI n) σ) : (nI n = 0 → Q 0 σ) ∧ (¬ nI n = 0 → Q 1 σ) := by
  have : n = 0 ∨ n = 1 := by omega
  rcases this with rfl | rfl
  · exact brt rfl hq
  · exact brf (by decide) hq
theorem csender_ok {P B p b mk : Nat} {x3 : Int32} {σ : Sg} {s : Smd} {T : Nat} {ks : Nat → Nat → Int32} {Q : Int32 → Sg → Prop} (h0 : σ 0 0 = nI B) (hB3 : B ≤ 3) (hP : P = 2 * B) (hp : p < 2) (hb : b < B) (hS : SmC σ (9 + 113 * (p * B + b)) mk s) (hV : ObV s.2.2.2.1 s.2.2.2.2.1 s.2.2.2.2.2) (hK : ObK ks s.2.2.2.2.1 s.2.2.2.2.2) (h8 : s.1 8 ≤ 1) (h : Q (a_sender s x3) σ) : wpX8_sender P (nI p) (nI b) x3 σ Q := by
  have hpl := pl_lt hp hb
  unfold wpX8_sender
  refine isPlace_yes h0 hB3 hp hb (brf' (by decide) ?_)
  unfold wpX8_placeOf
  rw [plI h0]
  refine ⟨vin rfl (by omega) (by omega), ?_⟩
  rw [nI_clamp (n := p * B + b) (by omega)]
  rintro _ rfl
  refine ⟨fun e => ?_, fun e => ?_, fun e => ?_, fun e => ?_, fun e => ?_, fun e => ?_, fun e => ?_, fun e => ?_, fun e => ?_, fun e => ?_, fun e => ?_, fun e => ?_, fun hn => ?_⟩
  · subst e
    unfold a_sender at h; rw [if_pos rfl] at h
    rw [hS.1.1 4 (by decide) (by decide) (by decide) (by decide)]
    exact h
  · subst e
    unfold a_sender at h; rw [if_neg (by decide), if_pos rfl] at h
    rw [hS.1.1 5 (by decide) (by decide) (by decide) (by decide)]
    exact h
  · subst e
    unfold a_sender at h; rw [if_neg (by decide), if_neg (by decide), if_pos rfl] at h
    rw [hS.2.2.2.2.2.1]
    exact h
  · subst e
    unfold a_sender at h; rw [if_neg (by decide), if_neg (by decide), if_neg (by decide), if_pos rfl] at h
    exact waitingBytes_ok hS.2.2 hV hK h
  · subst e
    unfold a_sender at h; rw [if_neg (by decide), if_neg (by decide), if_neg (by decide), if_neg (by decide), if_pos rfl] at h
    rw [hS.1.1 6 (by decide) (by decide) (by decide) (by decide)]
    exact h
  · subst e
    unfold a_sender at h; rw [if_neg (by decide), if_neg (by decide), if_neg (by decide), if_neg (by decide), if_neg (by decide), if_pos rfl] at h
    rw [hS.1.1 10 (by decide) (by decide) (by decide) (by decide)]
    exact h
  · subst e
    unfold a_sender at h; rw [if_neg (by decide), if_neg (by decide), if_neg (by decide), if_neg (by decide), if_neg (by decide), if_neg (by decide), if_pos rfl] at h
    rw [hS.1.1 8 (by decide) (by decide) (by decide) (by decide)]
    exact z01 h8 h
  · subst e
    unfold a_sender at h; rw [if_neg (by decide), if_neg (by decide), if_neg (by decide), if_neg (by decide), if_neg (by decide), if_neg (by decide), if_neg (by decide), if_pos rfl] at h
    rw [hS.1.2.2]
    exact h
  · subst e
    unfold a_sender at h; rw [if_neg (by decide), if_neg (by decide), if_neg (by decide), if_neg (by decide), if_neg (by decide), if_neg (by decide), if_neg (by decide), if_neg (by decide), if_pos rfl] at h
    rw [hS.1.1 12 (by decide) (by decide) (by decide) (by decide)]
    exact h
  · subst e
    unfold a_sender at h; rw [if_neg (by decide), if_neg (by decide), if_neg (by decide), if_neg (by decide), if_neg (by decide), if_neg (by decide), if_neg (by decide), if_neg (by decide), if_neg (by decide), if_pos rfl] at h
    rw [hS.1.1 13 (by decide) (by decide) (by decide) (by decide)]
    exact h
  · subst e
    unfold a_sender at h; rw [if_neg (by decide), if_neg (by decide), if_neg (by decide), if_neg (by decide), if_neg (by decide), if_neg (by decide), if_neg (by decide), if_neg (by decide), if_neg (by decide), if_neg (by decide), if_pos rfl] at h
    rw [hS.1.1 14 (by decide) (by decide) (by decide) (by decide)]
    exact h
  · subst e
    unfold a_sender at h; rw [if_neg (by decide), if_neg (by decide), if_neg (by decide), if_neg (by decide), if_neg (by decide), if_neg (by decide), if_neg (by decide), if_neg (by decide), if_neg (by decide), if_neg (by decide), if_neg (by decide), if_pos rfl] at h
    rw [hS.2.2.2.1]
    exact h
  · rw [a_sender_no hn] at h
    exact h
theorem rsender_ok {B p b i : Nat} {x3 : Int32} {τ : Sg} {s : Smd} {T : Nat} {ks : Nat → Nat → Int32} {Q : Int32 → Sg → Prop} (h0 : τ 0 0 = nI B) (hB3 : B ≤ 3) (hp : p < 2) (hb : b < B) (hi : i = 3 * p + b) (hS : SmM τ i s) (hV : ObV s.2.2.2.1 s.2.2.2.2.1 s.2.2.2.2.2) (hI : SI T s.1 s.2.2.1) (h8 : s.1 8 ≤ 1) (h : Q (a_sender s x3) τ) : wpX9_sender (nI p) (nI b) x3 τ Q := by
  have hi6 : i < 6 := by omega
  unfold wpX9_sender
  refine isThere_yes h0 hB3 hp hb (brf' (by decide) ?_)
  unfold wpX9_at
  rw [atI, ← hi]
  dsimp only
  rw [nI_clamp (n := i) (by omega)]
  refine ⟨fun e => ?_, fun e => ?_, fun e => ?_, fun e => ?_, fun e => ?_, fun e => ?_, fun e => ?_, fun e => ?_, fun e => ?_, fun e => ?_, fun e => ?_, fun e => ?_, fun hn => ?_⟩
  · subst e
    unfold a_sender at h; rw [if_pos rfl] at h
    refine ⟨vin rfl hi6 (by decide), ?_⟩
    rw [hS.1.1]
    exact h
  · subst e
    unfold a_sender at h; rw [if_neg (by decide), if_pos rfl] at h
    refine ⟨vin rfl hi6 (by decide), ?_⟩
    rw [hS.1.2.1]
    exact h
  · subst e
    unfold a_sender at h; rw [if_neg (by decide), if_neg (by decide), if_pos rfl] at h
    refine ⟨33, rd102 (f := fun s => decide (¬ τ 15 (32 * i + s) = 0)) hi6 (fun _ _ => rfl) ?_ 32 0 rfl⟩
    rw [kept_cnt hS.2.2.1 hV]
    exact h
  · subst e
    unfold a_sender at h; rw [if_neg (by decide), if_neg (by decide), if_neg (by decide), if_pos rfl] at h
    refine ⟨vin rfl hi6 (by decide), ?_⟩
    rw [hS.2.2.2.1, fltW_len]
    exact h
  · subst e
    unfold a_sender at h; rw [if_neg (by decide), if_neg (by decide), if_neg (by decide), if_neg (by decide), if_pos rfl] at h
    refine allAgain_ok hi6 hS.1.1 hS.1.2.1 hI.2.1 (hI.1 5 (by decide) (by decide)) hS.2.1 ?_
    rw [← hI.2.2.2.1]
    exact h
  · subst e
    unfold a_sender at h; rw [if_neg (by decide), if_neg (by decide), if_neg (by decide), if_neg (by decide), if_neg (by decide), if_pos rfl] at h
    refine ⟨vin rfl hi6 (by decide), ?_⟩
    rw [hS.1.2.2.1]
    exact h
  · subst e
    unfold a_sender at h; rw [if_neg (by decide), if_neg (by decide), if_neg (by decide), if_neg (by decide), if_neg (by decide), if_neg (by decide), if_pos rfl] at h
    refine ⟨vin rfl hi6 (by decide), ?_⟩
    rw [hS.1.2.2.2.2.2.2.2.2.2.2]
    exact z01 h8 h
  · subst e
    unfold a_sender at h; rw [if_neg (by decide), if_neg (by decide), if_neg (by decide), if_neg (by decide), if_neg (by decide), if_neg (by decide), if_neg (by decide), if_pos rfl] at h
    refine ⟨vin rfl hi6 (by decide), ?_⟩
    rw [hS.1.2.2.2.2.2.1]
    exact h
  · subst e
    unfold a_sender at h; rw [if_neg (by decide), if_neg (by decide), if_neg (by decide), if_neg (by decide), if_neg (by decide), if_neg (by decide), if_neg (by decide), if_neg (by decide), if_pos rfl] at h
    refine ⟨vin rfl hi6 (by decide), ?_⟩
    rw [hS.1.2.2.2.2.2.2.1]
    exact h
  · subst e
    unfold a_sender at h; rw [if_neg (by decide), if_neg (by decide), if_neg (by decide), if_neg (by decide), if_neg (by decide), if_neg (by decide), if_neg (by decide), if_neg (by decide), if_neg (by decide), if_pos rfl] at h
    refine ⟨vin rfl hi6 (by decide), ?_⟩
    rw [hS.1.2.2.2.2.2.2.2.1]
    exact h
  · subst e
    unfold a_sender at h; rw [if_neg (by decide), if_neg (by decide), if_neg (by decide), if_neg (by decide), if_neg (by decide), if_neg (by decide), if_neg (by decide), if_neg (by decide), if_neg (by decide), if_neg (by decide), if_pos rfl] at h
    refine ⟨vin rfl hi6 (by decide), ?_⟩
    rw [hS.1.2.2.2.2.2.2.2.2.1]
    exact h
  · subst e
    unfold a_sender at h; rw [if_neg (by decide), if_neg (by decide), if_neg (by decide), if_neg (by decide), if_neg (by decide), if_neg (by decide), if_neg (by decide), if_neg (by decide), if_neg (by decide), if_neg (by decide), if_neg (by decide), if_pos rfl] at h
    refine ⟨vin rfl hi6 (by decide), ?_⟩
    rw [hS.2.2.1.1]
    exact h
  · rw [a_sender_no hn] at h
    exact h
theorem creceiver_ok {P B p b mk : Nat} {x3 : Int32} {σ : Sg} {r : Rmd} {G : Nat → List Cel} {Q : Int32 → Sg → Prop} (h0 : σ 0 0 = nI B) (hB3 : B ≤ 3) (hP : P = 2 * B) (hp : p < 2) (hb : b < B) (hR : RmC σ (51 + 113 * (p * B + b)) mk G r) (hV : RvV r.1) (h7 : r.1 7 ≤ 1) (h : Q (a_receiver r x3) σ) : wpX8_receiver P (nI p) (nI b) x3 σ Q := by
  have hpl := pl_lt hp hb
  unfold wpX8_receiver
  refine isPlace_yes h0 hB3 hp hb (brf' (by decide) ?_)
  unfold wpX8_placeOf
  rw [plI h0]
  refine ⟨vin rfl (by omega) (by omega), ?_⟩
  rw [nI_clamp (n := p * B + b) (by omega)]
  rintro _ rfl
  refine ⟨fun e => ?_, fun e => ?_, fun e => ?_, fun e => ?_, fun e => ?_, fun e => ?_, fun e => ?_, fun e => ?_, fun e => ?_, fun e => ?_, fun e => ?_, fun e => ?_, fun hn => ?_⟩
  · subst e
    unfold a_receiver at h; rw [if_pos rfl] at h
    rw [hR.1.1 2 (by decide) (by decide) (by decide)]
    exact h
  · subst e
    unfold a_receiver at h; rw [if_neg (by decide), if_pos rfl] at h
    rw [hR.1.1 3 (by decide) (by decide) (by decide)]
    exact h
  · subst e
    unfold a_receiver at h; rw [if_neg (by decide), if_neg (by decide), if_pos rfl] at h
    rw [hR.1.1 4 (by decide) (by decide) (by decide)]
    exact h
  · subst e
    unfold a_receiver at h; rw [if_neg (by decide), if_neg (by decide), if_neg (by decide), if_pos rfl] at h
    rw [hR.1.1 5 (by decide) (by decide) (by decide)]
    exact h
  · subst e
    unfold a_receiver at h; rw [if_neg (by decide), if_neg (by decide), if_neg (by decide), if_neg (by decide), if_pos rfl] at h
    rw [hR.1.1 8 (by decide) (by decide) (by decide)]
    exact h
  · subst e
    unfold a_receiver at h; rw [if_neg (by decide), if_neg (by decide), if_neg (by decide), if_neg (by decide), if_neg (by decide), if_pos rfl] at h
    rw [hR.1.1 9 (by decide) (by decide) (by decide)]
    exact h
  · subst e
    unfold a_receiver at h; rw [if_neg (by decide), if_neg (by decide), if_neg (by decide), if_neg (by decide), if_neg (by decide), if_neg (by decide), if_pos rfl] at h
    rw [hR.1.1 7 (by decide) (by decide) (by decide)]
    exact z01 h7 h
  · subst e
    unfold a_receiver at h; rw [if_neg (by decide), if_neg (by decide), if_neg (by decide), if_neg (by decide), if_neg (by decide), if_neg (by decide), if_neg (by decide), if_pos rfl] at h
    exact heldBytes_ok hR.1 hV.1 hR.2.1 (Nat.le_trans hV.2.1 hV.2.2.1) hV.2.2.2.2 h
  · subst e
    unfold a_receiver at h; rw [if_neg (by decide), if_neg (by decide), if_neg (by decide), if_neg (by decide), if_neg (by decide), if_neg (by decide), if_neg (by decide), if_neg (by decide), if_pos rfl] at h
    rw [hR.1.1 10 (by decide) (by decide) (by decide)]
    exact h
  · subst e
    unfold a_receiver at h; rw [if_neg (by decide), if_neg (by decide), if_neg (by decide), if_neg (by decide), if_neg (by decide), if_neg (by decide), if_neg (by decide), if_neg (by decide), if_neg (by decide), if_pos rfl] at h
    rw [hR.1.1 11 (by decide) (by decide) (by decide)]
    exact h
  · subst e
    unfold a_receiver at h; rw [if_neg (by decide), if_neg (by decide), if_neg (by decide), if_neg (by decide), if_neg (by decide), if_neg (by decide), if_neg (by decide), if_neg (by decide), if_neg (by decide), if_neg (by decide), if_pos rfl] at h
    rw [hR.1.1 12 (by decide) (by decide) (by decide)]
    exact h
  · subst e
    unfold a_receiver at h; rw [if_neg (by decide), if_neg (by decide), if_neg (by decide), if_neg (by decide), if_neg (by decide), if_neg (by decide), if_neg (by decide), if_neg (by decide), if_neg (by decide), if_neg (by decide), if_neg (by decide), if_pos rfl] at h
    rw [hR.1.2]
    exact h
  · rw [a_receiver_no hn] at h
    exact h
theorem rreceiver_ok {B p b i : Nat} {x3 : Int32} {τ : Sg} {r : Rmd} {G : Nat → List Cel} {Q : Int32 → Sg → Prop} (h0 : τ 0 0 = nI B) (hB3 : B ≤ 3) (hp : p < 2) (hb : b < B) (hi : i = 3 * p + b) (hR : RmM τ i G r) (hV : RvV r.1) (hc : clrP r.1 r.2.1) (h7 : r.1 7 ≤ 1) (h : Q (a_receiver r x3) τ) : wpX9_receiver (nI p) (nI b) x3 τ Q := by
  have hi6 : i < 6 := by omega
  unfold wpX9_receiver
  refine isThere_yes h0 hB3 hp hb (brf' (by decide) ?_)
  unfold wpX9_at
  rw [atI, ← hi]
  dsimp only
  rw [nI_clamp (n := i) (by omega)]
  refine ⟨fun e => ?_, fun e => ?_, fun e => ?_, fun e => ?_, fun e => ?_, fun e => ?_, fun e => ?_, fun e => ?_, fun e => ?_, fun e => ?_, fun e => ?_, fun e => ?_, fun hn => ?_⟩
  · subst e
    unfold a_receiver at h; rw [if_pos rfl] at h
    refine ⟨vin rfl hi6 (by decide), ?_⟩
    rw [hR.1.g2]
    exact h
  · subst e
    unfold a_receiver at h; rw [if_neg (by decide), if_pos rfl] at h
    refine ⟨vin rfl hi6 (by decide), ?_⟩
    rw [hR.1.g3]
    exact h
  · subst e
    unfold a_receiver at h; rw [if_neg (by decide), if_neg (by decide), if_pos rfl] at h
    refine ⟨vin rfl hi6 (by decide), ?_⟩
    rw [hR.1.g4]
    exact h
  · subst e
    unfold a_receiver at h; rw [if_neg (by decide), if_neg (by decide), if_neg (by decide), if_pos rfl] at h
    refine ⟨vin rfl hi6 (by decide), ?_⟩
    rw [hR.1.g5]
    exact h
  · subst e
    unfold a_receiver at h; rw [if_neg (by decide), if_neg (by decide), if_neg (by decide), if_neg (by decide), if_pos rfl] at h
    refine ⟨vin rfl hi6 (by decide), ?_⟩
    rw [hR.1.g8]
    exact h
  · subst e
    unfold a_receiver at h; rw [if_neg (by decide), if_neg (by decide), if_neg (by decide), if_neg (by decide), if_neg (by decide), if_pos rfl] at h
    refine ⟨vin rfl hi6 (by decide), ?_⟩
    rw [hR.1.g9]
    exact h
  · subst e
    unfold a_receiver at h; rw [if_neg (by decide), if_neg (by decide), if_neg (by decide), if_neg (by decide), if_neg (by decide), if_neg (by decide), if_pos rfl] at h
    refine ⟨vin rfl hi6 (by decide), ?_⟩
    rw [hR.1.g7]
    exact z01 h7 h
  · subst e
    unfold a_receiver at h; rw [if_neg (by decide), if_neg (by decide), if_neg (by decide), if_neg (by decide), if_neg (by decide), if_neg (by decide), if_neg (by decide), if_pos rfl] at h
    refine ⟨7681, rd150 (f := fun s => decide (¬ τ 46 (7680 * i + s) = 0)) hi6 (fun _ _ => rfl) ?_ 7680 0 rfl⟩
    rw [held_cnt hR.2.1 hc (Nat.le_trans hV.2.1 hV.2.2.1) hV.2.2.2.2]
    exact h
  · subst e
    unfold a_receiver at h; rw [if_neg (by decide), if_neg (by decide), if_neg (by decide), if_neg (by decide), if_neg (by decide), if_neg (by decide), if_neg (by decide), if_neg (by decide), if_pos rfl] at h
    refine ⟨vin rfl hi6 (by decide), ?_⟩
    rw [hR.1.g10]
    exact h
  · subst e
    unfold a_receiver at h; rw [if_neg (by decide), if_neg (by decide), if_neg (by decide), if_neg (by decide), if_neg (by decide), if_neg (by decide), if_neg (by decide), if_neg (by decide), if_neg (by decide), if_pos rfl] at h
    refine ⟨vin rfl hi6 (by decide), ?_⟩
    rw [hR.1.g11]
    exact h
  · subst e
    unfold a_receiver at h; rw [if_neg (by decide), if_neg (by decide), if_neg (by decide), if_neg (by decide), if_neg (by decide), if_neg (by decide), if_neg (by decide), if_neg (by decide), if_neg (by decide), if_neg (by decide), if_pos rfl] at h
    refine ⟨vin rfl hi6 (by decide), ?_⟩
    rw [hR.1.g12]
    exact h
  · subst e
    unfold a_receiver at h; rw [if_neg (by decide), if_neg (by decide), if_neg (by decide), if_neg (by decide), if_neg (by decide), if_neg (by decide), if_neg (by decide), if_neg (by decide), if_neg (by decide), if_neg (by decide), if_neg (by decide), if_pos rfl] at h
    refine ⟨vin rfl hi6 (by decide), ?_⟩
    rw [hR.1.2]
    exact h
  · rw [a_receiver_no hn] at h
    exact h
theorem cdelivered_ok {P B p b mk : Nat} {x3 : Int32} {σ : Sg} {r : Inr} {Q : Int32 → Sg → Prop} (h0 : σ 0 0 = nI B) (hB3 : B ≤ 3) (hP : P = 2 * B) (hp : p < 2) (hb : b < B) (hR : InR σ (51 + 113 * (p * B + b) + 2) mk r) (h : Q (a_delivered r x3) σ) : wpX8_delivered P (nI p) (nI b) x3 σ Q := by
  have hpl := pl_lt hp hb
  unfold wpX8_delivered
  refine isPlace_yes h0 hB3 hp hb (brf' (by decide) ?_)
  unfold wpX8_placeOf
  rw [plI h0]
  refine ⟨vin rfl (by omega) (by omega), ?_⟩
  rw [nI_clamp (n := p * B + b) (by omega)]
  rintro _ rfl
  refine ⟨fun e => ?_, fun e => ?_, fun e => ?_, fun e => ?_, fun e => ?_, fun e => ?_, fun hn => ?_⟩
  · subst e
    unfold a_delivered at h; rw [if_pos rfl] at h
    rw [hR.2.1]
    exact h
  · subst e
    unfold a_delivered at h; rw [if_neg (by decide), if_pos rfl] at h
    rw [hR.2.2.1]
    exact h
  · subst e
    unfold a_delivered at h; rw [if_neg (by decide), if_neg (by decide), if_pos rfl] at h
    rw [hR.2.2.2.1]
    exact h
  · subst e
    unfold a_delivered at h; rw [if_neg (by decide), if_neg (by decide), if_neg (by decide), if_pos rfl] at h
    rw [hR.2.2.2.2.2.2.1]
    exact h
  · subst e
    unfold a_delivered at h; rw [if_neg (by decide), if_neg (by decide), if_neg (by decide), if_neg (by decide), if_pos rfl] at h
    rw [hR.2.2.2.2.1]
    exact h
  · subst e
    unfold a_delivered at h; rw [if_neg (by decide), if_neg (by decide), if_neg (by decide), if_neg (by decide), if_neg (by decide), if_pos rfl] at h
    rw [hR.2.2.2.2.2.1.1]
    exact h
  · rw [a_delivered_no hn] at h
    exact h
theorem rdelivered_ok {B p b i : Nat} {x3 : Int32} {τ : Sg} {r : Inr} {Q : Int32 → Sg → Prop} (h0 : τ 0 0 = nI B) (hB3 : B ≤ 3) (hp : p < 2) (hb : b < B) (hi : i = 3 * p + b) (hR : IbM τ i r) (h : Q (a_delivered r x3) τ) : wpX9_delivered (nI p) (nI b) x3 τ Q := by
  have hi6 : i < 6 := by omega
  unfold wpX9_delivered
  refine isThere_yes h0 hB3 hp hb (brf' (by decide) ?_)
  unfold wpX9_at
  rw [atI, ← hi]
  dsimp only
  rw [nI_clamp (n := i) (by omega)]
  refine ⟨fun e => ?_, fun e => ?_, fun e => ?_, fun e => ?_, fun e => ?_, fun e => ?_, fun hn => ?_⟩
  · subst e
    unfold a_delivered at h; rw [if_pos rfl] at h
    refine ⟨vin rfl hi6 (by decide), ?_⟩
    rw [hR.1]
    exact h
  · subst e
    unfold a_delivered at h; rw [if_neg (by decide), if_pos rfl] at h
    refine ⟨vin rfl hi6 (by decide), ?_⟩
    rw [hR.2.1]
    exact h
  · subst e
    unfold a_delivered at h; rw [if_neg (by decide), if_neg (by decide), if_pos rfl] at h
    refine ⟨vin rfl hi6 (by decide), ?_⟩
    rw [hR.2.2.1]
    exact h
  · subst e
    unfold a_delivered at h; rw [if_neg (by decide), if_neg (by decide), if_neg (by decide), if_pos rfl] at h
    refine ⟨33, rd86 (f := stNe r.2.2.2.2.2) hi6 (fun s hs => ?_) h 32 0 rfl⟩
    rw [(hR.2.2.2.2.2 s hs).1]
    unfold stNe
    cases decide (0 < (r.2.2.2.2.2 s).length) <;> rfl
  · subst e
    unfold a_delivered at h; rw [if_neg (by decide), if_neg (by decide), if_neg (by decide), if_neg (by decide), if_pos rfl] at h
    refine ⟨vin rfl hi6 (by decide), ?_⟩
    rw [hR.2.2.2.1]
    exact h
  · subst e
    unfold a_delivered at h; rw [if_neg (by decide), if_neg (by decide), if_neg (by decide), if_neg (by decide), if_neg (by decide), if_pos rfl] at h
    refine ⟨vin rfl hi6 (by decide), ?_⟩
    rw [hR.2.2.2.2.1.1]
    exact h
  · rw [a_delivered_no hn] at h
    exact h
theorem st_sender : St_sender Rel := by
  intro n P σ τ a b c hn hR
  have hup := Rel_up hR
  obtain ⟨B, y, tk, tp, M, hB1, hB3, hP, hC, hM, hI, htp, htb⟩ := hR
  have h0 := hC.1
  have t0 := hM.1.1
  have no : noP a b B → wpX9_sender a b c τ (fun q τ1 => -1 = q ∧ Rel (n + 1) P σ τ1) := fun hn => by
    unfold wpX9_sender
    exact isThere_no t0 hn (brt' rfl ⟨rfl, hup⟩)
  have main : ∀ p q, p < 2 → q < B → a = nI p → b = nI q → wpX8_sender P a b c σ (fun r σ1 => wpX9_sender a b c τ (fun q τ1 => r = q ∧ Rel (n + 1) P σ1 τ1)) := by
    intro p q hp hq ep eq
    subst ep eq
    have hpl := pl_lt hp hq
    obtain ⟨o1, o2, o3⟩ := opp_lt hpl
    have ei : iOf B (p * B + q) = 3 * p + q := iOf_pb hp hq
    obtain ⟨c1, c2⟩ := hC.2.2.2.2.2.2.1 _ hpl
    obtain ⟨m1, m2⟩ := hM.1.2.2.2.2.2 _ hpl
    rw [ei] at m1 m2
    obtain ⟨k1, k2, k3⟩ := hI.1.1 _ hpl
    have hj := (hI.1.1 _ o1).2.2
    rw [o3] at hj
    have h8 := k1.2.2.1.1
    exact csender_ok (T := 0) h0 hB3 hP hp hq c1 k1.2.1 k2 h8 (rsender_ok (ks := fun _ _ => 0) t0 hB3 hp hq rfl m1 k1.2.1 k1.1 h8 ⟨rfl, hup⟩)
  by_cases hno : noP a b B
  · unfold wpX8_sender
    refine isPlace_ok h0 hB3 (fun hn => brt' rfl (no hn)) (fun p q hp hq ep eq => ?_)
    have := main p q hp hq ep eq
    exfalso
    subst ep eq
    rcases hno with h1 | h1 | h1 | h1
    · exact nI_pos (by omega) h1
    · exact nI_nlt (a := 1) (b := p) (by omega) (by decide) h1
    · exact nI_pos (by omega) h1
    · exact nI_ge hq (by omega) h1
  · have h1 : ¬ a < 0 := fun hh => hno (Or.inl hh)
    have h2 : ¬ 1 < a := fun hh => hno (Or.inr (Or.inl hh))
    have h3 : ¬ b < 0 := fun hh => hno (Or.inr (Or.inr (Or.inl hh)))
    have h4 : ¬ nI B ≤ b := fun hh => hno (Or.inr (Or.inr (Or.inr hh)))
    obtain ⟨p, hp, ep⟩ := nI_of2 (M := 1) (n := 1) rfl h1 (Int32.not_lt.mp h2)
    rcases pk_ix b (n := B) (by omega) with h | h | ⟨q, hq, eq⟩
    · exact absurd h h3
    · exact absurd h h4
    · exact main p q (by omega) hq ep eq
theorem st_receiver : St_receiver Rel := by
  intro n P σ τ a b c hn hR
  have hup := Rel_up hR
  obtain ⟨B, y, tk, tp, M, hB1, hB3, hP, hC, hM, hI, htp, htb⟩ := hR
  have h0 := hC.1
  have t0 := hM.1.1
  have no : noP a b B → wpX9_receiver a b c τ (fun q τ1 => -1 = q ∧ Rel (n + 1) P σ τ1) := fun hn => by
    unfold wpX9_receiver
    exact isThere_no t0 hn (brt' rfl ⟨rfl, hup⟩)
  have main : ∀ p q, p < 2 → q < B → a = nI p → b = nI q → wpX8_receiver P a b c σ (fun r σ1 => wpX9_receiver a b c τ (fun q τ1 => r = q ∧ Rel (n + 1) P σ1 τ1)) := by
    intro p q hp hq ep eq
    subst ep eq
    have hpl := pl_lt hp hq
    obtain ⟨o1, o2, o3⟩ := opp_lt hpl
    have ei : iOf B (p * B + q) = 3 * p + q := iOf_pb hp hq
    obtain ⟨c1, c2⟩ := hC.2.2.2.2.2.2.1 _ hpl
    obtain ⟨m1, m2⟩ := hM.1.2.2.2.2.2 _ hpl
    rw [ei] at m1 m2
    obtain ⟨k1, k2, k3⟩ := hI.1.1 _ hpl
    have hj := (hI.1.1 _ o1).2.2
    rw [o3] at hj
    have h7 := hj.1.2.2.2.2.2.2.2.1
    exact creceiver_ok h0 hB3 hP hp hq c2 hj.rv h7 (rreceiver_ok t0 hB3 hp hq rfl m2 hj.rv hj.2.1.1 h7 ⟨rfl, hup⟩)
  by_cases hno : noP a b B
  · unfold wpX8_receiver
    refine isPlace_ok h0 hB3 (fun hn => brt' rfl (no hn)) (fun p q hp hq ep eq => ?_)
    have := main p q hp hq ep eq
    exfalso
    subst ep eq
    rcases hno with h1 | h1 | h1 | h1
    · exact nI_pos (by omega) h1
    · exact nI_nlt (a := 1) (b := p) (by omega) (by decide) h1
    · exact nI_pos (by omega) h1
    · exact nI_ge hq (by omega) h1
  · have h1 : ¬ a < 0 := fun hh => hno (Or.inl hh)
    have h2 : ¬ 1 < a := fun hh => hno (Or.inr (Or.inl hh))
    have h3 : ¬ b < 0 := fun hh => hno (Or.inr (Or.inr (Or.inl hh)))
    have h4 : ¬ nI B ≤ b := fun hh => hno (Or.inr (Or.inr (Or.inr hh)))
    obtain ⟨p, hp, ep⟩ := nI_of2 (M := 1) (n := 1) rfl h1 (Int32.not_lt.mp h2)
    rcases pk_ix b (n := B) (by omega) with h | h | ⟨q, hq, eq⟩
    · exact absurd h h3
    · exact absurd h h4
    · exact main p q (by omega) hq ep eq
theorem st_delivered : St_delivered Rel := by
  intro n P σ τ a b c hn hR
  have hup := Rel_up hR
  obtain ⟨B, y, tk, tp, M, hB1, hB3, hP, hC, hM, hI, htp, htb⟩ := hR
  have h0 := hC.1
  have t0 := hM.1.1
  have no : noP a b B → wpX9_delivered a b c τ (fun q τ1 => -1 = q ∧ Rel (n + 1) P σ τ1) := fun hn => by
    unfold wpX9_delivered
    exact isThere_no t0 hn (brt' rfl ⟨rfl, hup⟩)
  have main : ∀ p q, p < 2 → q < B → a = nI p → b = nI q → wpX8_delivered P a b c σ (fun r σ1 => wpX9_delivered a b c τ (fun q τ1 => r = q ∧ Rel (n + 1) P σ1 τ1)) := by
    intro p q hp hq ep eq
    subst ep eq
    have hpl := pl_lt hp hq
    obtain ⟨o1, o2, o3⟩ := opp_lt hpl
    have ei : iOf B (p * B + q) = 3 * p + q := iOf_pb hp hq
    obtain ⟨c1, c2⟩ := hC.2.2.2.2.2.2.1 _ hpl
    obtain ⟨m1, m2⟩ := hM.1.2.2.2.2.2 _ hpl
    rw [ei] at m1 m2
    obtain ⟨k1, k2, k3⟩ := hI.1.1 _ hpl
    have hj := (hI.1.1 _ o1).2.2
    rw [o3] at hj
    exact cdelivered_ok h0 hB3 hP hp hq c2.2.2.2 (rdelivered_ok t0 hB3 hp hq rfl m2.2.2.2 ⟨rfl, hup⟩)
  by_cases hno : noP a b B
  · unfold wpX8_delivered
    refine isPlace_ok h0 hB3 (fun hn => brt' rfl (no hn)) (fun p q hp hq ep eq => ?_)
    have := main p q hp hq ep eq
    exfalso
    subst ep eq
    rcases hno with h1 | h1 | h1 | h1
    · exact nI_pos (by omega) h1
    · exact nI_nlt (a := 1) (b := p) (by omega) (by decide) h1
    · exact nI_pos (by omega) h1
    · exact nI_ge hq (by omega) h1
  · have h1 : ¬ a < 0 := fun hh => hno (Or.inl hh)
    have h2 : ¬ 1 < a := fun hh => hno (Or.inr (Or.inl hh))
    have h3 : ¬ b < 0 := fun hh => hno (Or.inr (Or.inr (Or.inl hh)))
    have h4 : ¬ nI B ≤ b := fun hh => hno (Or.inr (Or.inr (Or.inr hh)))
    obtain ⟨p, hp, ep⟩ := nI_of2 (M := 1) (n := 1) rfl h1 (Int32.not_lt.mp h2)
    rcases pk_ix b (n := B) (by omega) with h | h | ⟨q, hq, eq⟩
    · exact absurd h h3
    · exact absurd h h4
    · exact main p q (by omega) hq ep eq
theorem cunit_ok {P B p b mk : Nat} {x3 : Int32} {σ : Sg} {r : Inr} {Q : Int32 → Sg → Prop} (h0 : σ 0 0 = nI B) (hB3 : B ≤ 3) (hP : P = 2 * B) (hp : p < 2) (hb : b < B) (hR : InR σ (51 + 113 * (p * B + b) + 2) mk r) (hn : (x3 < 0 ∨ nI r.2.2.2.2.1.length ≤ x3) → Q (-1) σ) (hy : ∀ k, k < r.2.2.2.2.1.length → x3 = nI k → Q (r.2.2.2.2.1.getD k 0) σ) : wpX8_unit P (nI p) (nI b) x3 σ Q := by
  have hpl := pl_lt hp hb
  unfold wpX8_unit
  refine isPlace_yes h0 hB3 hp hb (brf' (by decide) ?_)
  unfold wpX8_placeOf
  rw [plI h0]
  refine ⟨vin rfl (by omega) (by omega), ?_⟩
  rw [nI_clamp (n := p * B + b) (by omega)]
  rintro _ rfl
  obtain ⟨l1, l2, l3⟩ := hR.2.2.2.2.2.1
  rw [l1]
  refine ⟨fun h1 => hn (Or.inl h1), fun h1 => ⟨fun h2 => hn (Or.inr h2), fun h2 => ?_⟩⟩
  rcases pk_ix x3 (n := r.2.2.2.2.1.length) (by omega) with h | h | ⟨k, hk, ek⟩
  · exact absurd h h1
  · exact absurd h h2
  · subst ek
    refine brf (nI_ge (a := k) (b := 120) (by omega) (by decide)) ⟨vin rfl (by omega) (by decide), ?_⟩
    rw [nI_clamp (n := k) (by omega), l3 k hk]
    exact hy k hk rfl
theorem runit_ok {B p b i : Nat} {x3 : Int32} {τ : Sg} {r : Inr} {Q : Int32 → Sg → Prop} (h0 : τ 0 0 = nI B) (hB3 : B ≤ 3) (hp : p < 2) (hb : b < B) (hi : i = 3 * p + b) (hR : IbM τ i r) (hn : (x3 < 0 ∨ nI r.2.2.2.2.1.length ≤ x3) → Q (-1) τ) (hy : ∀ k, k < r.2.2.2.2.1.length → x3 = nI k → Q (r.2.2.2.2.1.getD k 0) τ) : wpX9_unit (nI p) (nI b) x3 τ Q := by
  have hi6 : i < 6 := by omega
  unfold wpX9_unit
  refine isThere_yes h0 hB3 hp hb (brf (by decide) ?_)
  unfold wpX9_at
  rw [atI, ← hi]
  dsimp only
  obtain ⟨l1, l2, l3⟩ := hR.2.2.2.2.1
  rw [nI_clamp (n := i) (by omega), l1]
  refine ⟨fun h1 => hn (Or.inl h1), fun h1 => ⟨vin rfl hi6 (by decide), fun h2 => ?_, fun h2 => hn (Or.inr (Int32.not_lt.mp h2))⟩⟩
  rcases pk_ix x3 (n := r.2.2.2.2.1.length) (by omega) with h | h | ⟨k, hk, ek⟩
  · exact absurd h h1
  · exact absurd h2 (Int32.not_lt.mpr h)
  · subst ek
    rw [i120, nI_clamp (n := 120 * i + k) (by omega), l3 k hk]
    exact ⟨vin rfl (by omega) (by decide), hy k hk rfl⟩
theorem st_unit : St_unit Rel := by
  intro n P σ τ a b c hn hR
  have hup := Rel_up hR
  obtain ⟨B, y, tk, tp, M, hB1, hB3, hP, hC, hM, hI, htp, htb⟩ := hR
  have h0 := hC.1
  have t0 := hM.1.1
  have no : noP a b B → wpX9_unit a b c τ (fun q τ1 => -1 = q ∧ Rel (n + 1) P σ τ1) := fun hn => by
    unfold wpX9_unit
    exact isThere_no t0 hn (brt rfl ⟨rfl, hup⟩)
  have main : ∀ p q, p < 2 → q < B → a = nI p → b = nI q → wpX8_unit P a b c σ (fun r σ1 => wpX9_unit a b c τ (fun q τ1 => r = q ∧ Rel (n + 1) P σ1 τ1)) := by
    intro p q hp hq ep eq
    subst ep eq
    have hpl := pl_lt hp hq
    obtain ⟨o1, o2, o3⟩ := opp_lt hpl
    have ei : iOf B (p * B + q) = 3 * p + q := iOf_pb hp hq
    obtain ⟨c1, c2⟩ := hC.2.2.2.2.2.2.1 _ hpl
    obtain ⟨m1, m2⟩ := hM.1.2.2.2.2.2 _ hpl
    rw [ei] at m1 m2
    obtain ⟨k1, k2, k3⟩ := hI.1.1 _ hpl
    have hj := (hI.1.1 _ o1).2.2
    rw [o3] at hj
    refine cunit_ok h0 hB3 hP hp hq c2.2.2.2 (fun hh => runit_ok t0 hB3 hp hq rfl m2.2.2.2 (fun _ => ⟨rfl, hup⟩) (fun k hk ek => ?_)) (fun k hk ek => runit_ok t0 hB3 hp hq rfl m2.2.2.2 (fun hh => ?_) (fun j hj ej => ⟨?_, hup⟩))
    · exfalso
      subst ek
      have hl := m2.2.2.2.2.2.2.2.1.2.1
      rcases hh with h1 | h1
      · exact nI_pos (by omega) h1
      · exact nI_ge hk (by omega) h1
    · exfalso
      subst ek
      have hl := m2.2.2.2.2.2.2.2.1.2.1
      rcases hh with h1 | h1
      · exact nI_pos (by omega) h1
      · exact nI_ge hk (by omega) h1
    · have hl := m2.2.2.2.2.2.2.2.1.2.1
      have : j = k := (nI_eq (by omega) (by omega)).mp (by rw [← ej, ← ek])
      rw [this]
  by_cases hno : noP a b B
  · unfold wpX8_unit
    refine isPlace_ok h0 hB3 (fun hn => brt' rfl (no hn)) (fun p q hp hq ep eq => ?_)
    have := main p q hp hq ep eq
    exfalso
    subst ep eq
    rcases hno with h1 | h1 | h1 | h1
    · exact nI_pos (by omega) h1
    · exact nI_nlt (a := 1) (b := p) (by omega) (by decide) h1
    · exact nI_pos (by omega) h1
    · exact nI_ge hq (by omega) h1
  · have h1 : ¬ a < 0 := fun hh => hno (Or.inl hh)
    have h2 : ¬ 1 < a := fun hh => hno (Or.inr (Or.inl hh))
    have h3 : ¬ b < 0 := fun hh => hno (Or.inr (Or.inr (Or.inl hh)))
    have h4 : ¬ nI B ≤ b := fun hh => hno (Or.inr (Or.inr (Or.inr hh)))
    obtain ⟨p, hp, ep⟩ := nI_of2 (M := 1) (n := 1) rfl h1 (Int32.not_lt.mp h2)
    rcases pk_ix b (n := B) (by omega) with h | h | ⟨q, hq, eq⟩
    · exact absurd h h3
    · exact absurd h h4
    · exact main p q (by omega) hq ep eq
theorem st_world : St_world Rel := by
  intro n P σ τ a hn hR
  have hup := Rel_up hR
  obtain ⟨B, y, tk, tp, M, hB1, hB3, hP, hC, hM, hI, htp, htb⟩ := hR
  obtain ⟨a1, a2, a3, a4, -⟩ := hC
  obtain ⟨⟨b1, b2, b3, b4, -⟩, -⟩ := hM
  have e : ∀ k, 2 ≤ k → k ≤ 8 → σ 0 (k + 7) = τ 0 k := fun k k1 k2 => by
    by_cases e2 : k = 2
    · subst e2; rw [b3]; exact a3
    · by_cases e3 : k = 3
      · subst e3; rw [b2.2.2]; exact a4 10 (by decide) (by decide)
      · rw [b4 k (by omega) k2]; exact a4 (k + 7) (by omega) (by omega)
  unfold wpX8_world
  refine ⟨fun h => ?_, fun h => ?_, fun h => ?_, fun h => ?_, fun h => ?_, fun h => ?_, fun h => ?_, fun h => ?_⟩
  · subst h
    unfold wpX9_world
    exact ⟨fun _ => ⟨e 2 (by decide) (by decide), hup⟩, fun h => absurd h (by decide), fun h => absurd h (by decide), fun h => absurd h (by decide), fun h => absurd h (by decide), fun h => absurd h (by decide), fun h => absurd h (by decide), fun h => absurd (by decide) h⟩
  · subst h
    unfold wpX9_world
    exact ⟨fun h => absurd h (by decide), fun _ => ⟨e 3 (by decide) (by decide), hup⟩, fun h => absurd h (by decide), fun h => absurd h (by decide), fun h => absurd h (by decide), fun h => absurd h (by decide), fun h => absurd h (by decide), fun h => absurd (by decide) h⟩
  · subst h
    unfold wpX9_world
    exact ⟨fun h => absurd h (by decide), fun h => absurd h (by decide), fun _ => ⟨e 4 (by decide) (by decide), hup⟩, fun h => absurd h (by decide), fun h => absurd h (by decide), fun h => absurd h (by decide), fun h => absurd h (by decide), fun h => absurd (by decide) h⟩
  · subst h
    unfold wpX9_world
    exact ⟨fun h => absurd h (by decide), fun h => absurd h (by decide), fun h => absurd h (by decide), fun _ => ⟨e 5 (by decide) (by decide), hup⟩, fun h => absurd h (by decide), fun h => absurd h (by decide), fun h => absurd h (by decide), fun h => absurd (by decide) h⟩
  · subst h
    unfold wpX9_world
    exact ⟨fun h => absurd h (by decide), fun h => absurd h (by decide), fun h => absurd h (by decide), fun h => absurd h (by decide), fun _ => ⟨e 6 (by decide) (by decide), hup⟩, fun h => absurd h (by decide), fun h => absurd h (by decide), fun h => absurd (by decide) h⟩
  · subst h
    unfold wpX9_world
    exact ⟨fun h => absurd h (by decide), fun h => absurd h (by decide), fun h => absurd h (by decide), fun h => absurd h (by decide), fun h => absurd h (by decide), fun _ => ⟨e 7 (by decide) (by decide), hup⟩, fun h => absurd h (by decide), fun h => absurd (by decide) h⟩
  · subst h
    unfold wpX9_world
    exact ⟨fun h => absurd h (by decide), fun h => absurd h (by decide), fun h => absurd h (by decide), fun h => absurd h (by decide), fun h => absurd h (by decide), fun h => absurd h (by decide), fun _ => ⟨e 8 (by decide) (by decide), hup⟩, fun h => absurd (by decide) h⟩
  · unfold wpX9_world
    exact ⟨fun h9 => absurd (Or.inl h9) h, fun h9 => absurd (Or.inr (Or.inl h9)) h, fun h9 => absurd (Or.inr (Or.inr (Or.inl h9))) h, fun h9 => absurd (Or.inr (Or.inr (Or.inr (Or.inl h9)))) h, fun h9 => absurd (Or.inr (Or.inr (Or.inr (Or.inr (Or.inl h9))))) h, fun h9 => absurd (Or.inr (Or.inr (Or.inr (Or.inr (Or.inr (Or.inl h9)))))) h, fun h9 => absurd (Or.inr (Or.inr (Or.inr (Or.inr (Or.inr (Or.inr (h9))))))) h, fun _ => ⟨rfl, hup⟩⟩
