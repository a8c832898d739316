/-! PURE: bits of the faults; answers of a tick -/
theorem and_bit {x m : Int32} {k : Nat} (hk : k < 32) (hm : ∀ i : Fin 32, m.toBitVec.getLsbD i.val = decide (i.val = k)) : (x &&& m = 0) ↔ x.toBitVec.getLsbD k = false := by
  constructor
  · intro h
    have h1 : (x &&& m).toBitVec.getLsbD k = (0 : Int32).toBitVec.getLsbD k := by rw [h]
    have h2 : (x &&& m).toBitVec = x.toBitVec &&& m.toBitVec := rfl
    rw [h2, BitVec.getLsbD_and, hm ⟨k, hk⟩, decide_eq_true rfl, Bool.and_true] at h1
    rw [h1]
    show (BitVec.ofNat 32 0).getLsbD k = false
    simp
  · intro h
    apply Int32.toBitVec_inj.mp
    have h2 : (x &&& m).toBitVec = x.toBitVec &&& m.toBitVec := rfl
    rw [h2]
    apply BitVec.eq_of_getLsbD_eq
    intro i hi
    rw [BitVec.getLsbD_and, hm ⟨i, hi⟩]
    show _ = (BitVec.ofNat 32 0).getLsbD i
    by_cases e : i = k
    · subst e
      rw [h]
      simp
    · rw [decide_eq_false (fun hh => e hh), Bool.and_false]
      simp
theorem shr_bit {f s m : Int32} {k : Nat} (hk : k < 32) (hs : (s.toBitVec.smod 32).toNat = k) (hm : ∀ i : Fin 32, m.toBitVec.getLsbD i.val = decide (i.val = k)) : ((f >>> s) &&& 1 = 0) ↔ (f &&& m = 0) := by
  rw [and_bit hk hm, and_bit (m := 1) (k := 0) (by decide) (by decide)]
  have e : (f >>> s).toBitVec = f.toBitVec.sshiftRight (s.toBitVec.smod 32).toNat := rfl
  rw [e, hs, BitVec.getLsbD_sshiftRight]
  simp [hk]
theorem fb_l0 {f : Int32} : ((f >>> (nI 0 &&& 31)) &&& 1 = 0) ↔ (f &&& 1 = 0) := shr_bit (k := 0) (by decide) (by decide) (by decide)
theorem fb_l1 {f : Int32} : ((f >>> (nI 1 &&& 31)) &&& 1 = 0) ↔ (f &&& 2 = 0) := shr_bit (k := 1) (by decide) (by decide) (by decide)
theorem fb_t0 {f : Int32} : ((f >>> ((nI 0 + 2) &&& 31)) &&& 1 = 0) ↔ (f &&& 4 = 0) := shr_bit (k := 2) (by decide) (by decide) (by decide)
theorem fb_t1 {f : Int32} : ((f >>> ((nI 1 + 2) &&& 31)) &&& 1 = 0) ↔ (f &&& 8 = 0) := shr_bit (k := 3) (by decide) (by decide) (by decide)
/-- what a peer's sending answers in the reference -/
def sAn (sent first : Bool) : Int32 := if sent then (if first then 2 else 1) else 0
theorem tick_an {s0 f0 s1 f1 : Bool} {Q : Int32 → Sg → Prop} {τ : Sg} (h : Q (sBit 1 s1 f1 (sBit 0 s0 f0 0)) τ) : ((sAn s0 f0 ≤ 0 → wpX9_tick_L368 Q (sAn s0 f0) (sAn s1 f1) 0 τ) ∧ (¬ (sAn s0 f0 ≤ 0) → wpX9_tick_L368 Q (sAn s0 f0) (sAn s1 f1) 1 τ)) := by
  unfold wpX9_tick_L368 wpX9_tick_L378 wpX9_tick_L390
  cases s0 <;> cases f0 <;> cases s1 <;> cases f1 <;> (simp only [sAn, sBit] at h ⊢; refine ⟨fun h1 => ⟨fun h2 => ⟨fun h3 => ⟨fun h4 => ?_, fun h4 => ?_⟩, fun h3 => ⟨fun h4 => ?_, fun h4 => ?_⟩⟩, fun h2 => ⟨fun h3 => ⟨fun h4 => ?_, fun h4 => ?_⟩, fun h3 => ⟨fun h4 => ?_, fun h4 => ?_⟩⟩⟩, fun h1 => ⟨fun h2 => ⟨fun h3 => ⟨fun h4 => ?_, fun h4 => ?_⟩, fun h3 => ⟨fun h4 => ?_, fun h4 => ?_⟩⟩, fun h2 => ⟨fun h3 => ⟨fun h4 => ?_, fun h4 => ?_⟩, fun h3 => ⟨fun h4 => ?_, fun h4 => ?_⟩⟩⟩⟩) <;> first | exact absurd h1 (by decide) | exact absurd h2 (by decide) | exact absurd h3 (by decide) | exact absurd h4 (by decide) | exact h
