/-! PURE: the reference's constructor, its loops -/
theorem patM_map (ad : Nat → Nat) : ∀ (as : List (Nat × Nat × Nat)) (b : Nat) (pat : List (Option (Option Nat))), patM ad b (pat.map (Option.map (Option.map ad))) as = (patM id b pat as).map (Option.map (Option.map ad))
  | [], b, pat => rfl
  | q :: as, b, pat => by
    simp only [patM]
    rw [← patM_map ad as (b + 1)]
    rw [List.map_set]
    rfl
def mlit : List (Option (Option Nat)) := [none, none, none, none, none, none, none, none, none, some (some 1), none, some (some 2), some (some 3), some (some 4), some (some 5), some (some 6), some (some 7), some (some 8), some (some 9), some (some 10), some (some 11), some (some 12), some (some 13), some (some 14), some (some 15), some (some 16), some (some 17), some (some 18), some (some 19), some (some 20), some (some 21), some (some 22), some (some 23), some (some 24), some (some 25), some (some 26), some (some 27), some (some 28), some (some 29), some (some 30), some (some 31), some (some 32), some (some 33), some (some 34), some (some 35), some (some 36), some (some 37), some (some 38), some (some 39), some (some 40), some (some 41), some (some 42), some (some 43), some (some 44), some (some 45), some (some 46), some (some 47), some (some 48), some (some 49), some (some 50), some (some 51), some (some 52), some (some 53), some (some 54), some (some 55), some (some 56), some (some 57), some (some 58), some (some 59), some (some 60), some (some 61), some (some 62), some (some 63), some (some 64), some (some 65), some (some 66), some (some 67), some (some 68), some (some 69), some (some 70), some (some 71), some (some 72)]
set_option maxRecDepth 100000 in
theorem mlit_ok : patM id 1 mpat mAS = mlit := by decide +kernel
set_option maxRecDepth 100000 in
theorem mlit_map (G : GG) : mlit.map (Option.map (Option.map (ga G))) = [none, none, none, none, none, none, none, none, none, some (some (ga G 1)), none, some (some (ga G 2)), some (some (ga G 3)), some (some (ga G 4)), some (some (ga G 5)), some (some (ga G 6)), some (some (ga G 7)), some (some (ga G 8)), some (some (ga G 9)), some (some (ga G 10)), some (some (ga G 11)), some (some (ga G 12)), some (some (ga G 13)), some (some (ga G 14)), some (some (ga G 15)), some (some (ga G 16)), some (some (ga G 17)), some (some (ga G 18)), some (some (ga G 19)), some (some (ga G 20)), some (some (ga G 21)), some (some (ga G 22)), some (some (ga G 23)), some (some (ga G 24)), some (some (ga G 25)), some (some (ga G 26)), some (some (ga G 27)), some (some (ga G 28)), some (some (ga G 29)), some (some (ga G 30)), some (some (ga G 31)), some (some (ga G 32)), some (some (ga G 33)), some (some (ga G 34)), some (some (ga G 35)), some (some (ga G 36)), some (some (ga G 37)), some (some (ga G 38)), some (some (ga G 39)), some (some (ga G 40)), some (some (ga G 41)), some (some (ga G 42)), some (some (ga G 43)), some (some (ga G 44)), some (some (ga G 45)), some (some (ga G 46)), some (some (ga G 47)), some (some (ga G 48)), some (some (ga G 49)), some (some (ga G 50)), some (some (ga G 51)), some (some (ga G 52)), some (some (ga G 53)), some (some (ga G 54)), some (some (ga G 55)), some (some (ga G 56)), some (some (ga G 57)), some (some (ga G 58)), some (some (ga G 59)), some (some (ga G 60)), some (some (ga G 61)), some (some (ga G 62)), some (some (ga G 63)), some (some (ga G 64)), some (some (ga G 65)), some (some (ga G 66)), some (some (ga G 67)), some (some (ga G 68)), some (some (ga G 69)), some (some (ga G 70)), some (some (ga G 71)), some (some (ga G 72))] := rfl
set_option maxRecDepth 100000 in
theorem mpat_map (ad : Nat → Nat) : mpat.map (Option.map (Option.map ad)) = mpat := rfl
set_option maxRecDepth 100000 in
theorem Mid_o {kA : Nat → ClassId} {G0 G : GG} (hM : Mid kA G0 G 0 9 mpat mAS) : isO G 9 [none, none, none, none, none, none, none, none, none, some (some (ga G 1)), none, some (some (ga G 2)), some (some (ga G 3)), some (some (ga G 4)), some (some (ga G 5)), some (some (ga G 6)), some (some (ga G 7)), some (some (ga G 8)), some (some (ga G 9)), some (some (ga G 10)), some (some (ga G 11)), some (some (ga G 12)), some (some (ga G 13)), some (some (ga G 14)), some (some (ga G 15)), some (some (ga G 16)), some (some (ga G 17)), some (some (ga G 18)), some (some (ga G 19)), some (some (ga G 20)), some (some (ga G 21)), some (some (ga G 22)), some (some (ga G 23)), some (some (ga G 24)), some (some (ga G 25)), some (some (ga G 26)), some (some (ga G 27)), some (some (ga G 28)), some (some (ga G 29)), some (some (ga G 30)), some (some (ga G 31)), some (some (ga G 32)), some (some (ga G 33)), some (some (ga G 34)), some (some (ga G 35)), some (some (ga G 36)), some (some (ga G 37)), some (some (ga G 38)), some (some (ga G 39)), some (some (ga G 40)), some (some (ga G 41)), some (some (ga G 42)), some (some (ga G 43)), some (some (ga G 44)), some (some (ga G 45)), some (some (ga G 46)), some (some (ga G 47)), some (some (ga G 48)), some (some (ga G 49)), some (some (ga G 50)), some (some (ga G 51)), some (some (ga G 52)), some (some (ga G 53)), some (some (ga G 54)), some (some (ga G 55)), some (some (ga G 56)), some (some (ga G 57)), some (some (ga G 58)), some (some (ga G 59)), some (some (ga G 60)), some (some (ga G 61)), some (some (ga G 62)), some (some (ga G 63)), some (some (ga G 64)), some (some (ga G 65)), some (some (ga G 66)), some (some (ga G 67)), some (some (ga G 68)), some (some (ga G 69)), some (some (ga G 70)), some (some (ga G 71)), some (some (ga G 72))] 0 := by
  refine ⟨hM.o.1, ?_⟩
  rw [← mlit_map, ← mlit_ok, ← patM_map, mpat_map]
  exact hM.2.2.2.2.1
set_option maxRecDepth 100000 in
set_option maxHeartbeats 8000000 in
theorem Mid_model {kA : Nat → ClassId} {G0 G : GG} (hM : Mid kA G0 G 0 9 mpat mAS) : isModel G := by
  have hn : gn G = 73 := hM.2.1
  have hk := hM.1
  have h6 := hM.2.2.2.2.2
  refine ⟨Mid_o hM, ?_⟩
  refine ⟨isI_mk hk (by omega) (h6 0 _ rfl), ?_⟩
  refine ⟨isI_mk hk (by omega) (h6 1 _ rfl), ?_⟩
  refine ⟨isI_mk hk (by omega) (h6 2 _ rfl), ?_⟩
  refine ⟨isI_mk hk (by omega) (h6 3 _ rfl), ?_⟩
  refine ⟨isI_mk hk (by omega) (h6 4 _ rfl), ?_⟩
  refine ⟨isI_mk hk (by omega) (h6 5 _ rfl), ?_⟩
  refine ⟨isI_mk hk (by omega) (h6 6 _ rfl), ?_⟩
  refine ⟨isI_mk hk (by omega) (h6 7 _ rfl), ?_⟩
  refine ⟨isI_mk hk (by omega) (h6 8 _ rfl), ?_⟩
  refine ⟨isI_mk hk (by omega) (h6 9 _ rfl), ?_⟩
  refine ⟨isI_mk hk (by omega) (h6 10 _ rfl), ?_⟩
  refine ⟨isZ_mk hk (by omega) (h6 11 _ rfl), ?_⟩
  refine ⟨isZ_mk hk (by omega) (h6 12 _ rfl), ?_⟩
  refine ⟨isI_mk hk (by omega) (h6 13 _ rfl), ?_⟩
  refine ⟨isZ_mk hk (by omega) (h6 14 _ rfl), ?_⟩
  refine ⟨isI_mk hk (by omega) (h6 15 _ rfl), ?_⟩
  refine ⟨isI_mk hk (by omega) (h6 16 _ rfl), ?_⟩
  refine ⟨isI_mk hk (by omega) (h6 17 _ rfl), ?_⟩
  refine ⟨isI_mk hk (by omega) (h6 18 _ rfl), ?_⟩
  refine ⟨isI_mk hk (by omega) (h6 19 _ rfl), ?_⟩
  refine ⟨isI_mk hk (by omega) (h6 20 _ rfl), ?_⟩
  refine ⟨isI_mk hk (by omega) (h6 21 _ rfl), ?_⟩
  refine ⟨isZ_mk hk (by omega) (h6 22 _ rfl), ?_⟩
  refine ⟨isZ_mk hk (by omega) (h6 23 _ rfl), ?_⟩
  refine ⟨isI_mk hk (by omega) (h6 24 _ rfl), ?_⟩
  refine ⟨isI_mk hk (by omega) (h6 25 _ rfl), ?_⟩
  refine ⟨isI_mk hk (by omega) (h6 26 _ rfl), ?_⟩
  refine ⟨isI_mk hk (by omega) (h6 27 _ rfl), ?_⟩
  refine ⟨isZ_mk hk (by omega) (h6 28 _ rfl), ?_⟩
  refine ⟨isZ_mk hk (by omega) (h6 29 _ rfl), ?_⟩
  refine ⟨isZ_mk hk (by omega) (h6 30 _ rfl), ?_⟩
  refine ⟨isZ_mk hk (by omega) (h6 31 _ rfl), ?_⟩
  refine ⟨isI_mk hk (by omega) (h6 32 _ rfl), ?_⟩
  refine ⟨isI_mk hk (by omega) (h6 33 _ rfl), ?_⟩
  refine ⟨isI_mk hk (by omega) (h6 34 _ rfl), ?_⟩
  refine ⟨isI_mk hk (by omega) (h6 35 _ rfl), ?_⟩
  refine ⟨isI_mk hk (by omega) (h6 36 _ rfl), ?_⟩
  refine ⟨isI_mk hk (by omega) (h6 37 _ rfl), ?_⟩
  refine ⟨isI_mk hk (by omega) (h6 38 _ rfl), ?_⟩
  refine ⟨isI_mk hk (by omega) (h6 39 _ rfl), ?_⟩
  refine ⟨isI_mk hk (by omega) (h6 40 _ rfl), ?_⟩
  refine ⟨isI_mk hk (by omega) (h6 41 _ rfl), ?_⟩
  refine ⟨isZ_mk hk (by omega) (h6 42 _ rfl), ?_⟩
  refine ⟨isI_mk hk (by omega) (h6 43 _ rfl), ?_⟩
  refine ⟨isI_mk hk (by omega) (h6 44 _ rfl), ?_⟩
  refine ⟨isZ_mk hk (by omega) (h6 45 _ rfl), ?_⟩
  refine ⟨isZ_mk hk (by omega) (h6 46 _ rfl), ?_⟩
  refine ⟨isZ_mk hk (by omega) (h6 47 _ rfl), ?_⟩
  refine ⟨isI_mk hk (by omega) (h6 48 _ rfl), ?_⟩
  refine ⟨isI_mk hk (by omega) (h6 49 _ rfl), ?_⟩
  refine ⟨isI_mk hk (by omega) (h6 50 _ rfl), ?_⟩
  refine ⟨isI_mk hk (by omega) (h6 51 _ rfl), ?_⟩
  refine ⟨isI_mk hk (by omega) (h6 52 _ rfl), ?_⟩
  refine ⟨isI_mk hk (by omega) (h6 53 _ rfl), ?_⟩
  refine ⟨isI_mk hk (by omega) (h6 54 _ rfl), ?_⟩
  refine ⟨isI_mk hk (by omega) (h6 55 _ rfl), ?_⟩
  refine ⟨isI_mk hk (by omega) (h6 56 _ rfl), ?_⟩
  refine ⟨isI_mk hk (by omega) (h6 57 _ rfl), ?_⟩
  refine ⟨isZ_mk hk (by omega) (h6 58 _ rfl), ?_⟩
  refine ⟨isI_mk hk (by omega) (h6 59 _ rfl), ?_⟩
  refine ⟨isI_mk hk (by omega) (h6 60 _ rfl), ?_⟩
  refine ⟨isI_mk hk (by omega) (h6 61 _ rfl), ?_⟩
  refine ⟨isZ_mk hk (by omega) (h6 62 _ rfl), ?_⟩
  refine ⟨isI_mk hk (by omega) (h6 63 _ rfl), ?_⟩
  refine ⟨isI_mk hk (by omega) (h6 64 _ rfl), ?_⟩
  refine ⟨isI_mk hk (by omega) (h6 65 _ rfl), ?_⟩
  refine ⟨isI_mk hk (by omega) (h6 66 _ rfl), ?_⟩
  refine ⟨isI_mk hk (by omega) (h6 67 _ rfl), ?_⟩
  refine ⟨isI_mk hk (by omega) (h6 68 _ rfl), ?_⟩
  refine ⟨isI_mk hk (by omega) (h6 69 _ rfl), ?_⟩
  refine ⟨isI_mk hk (by omega) (h6 70 _ rfl), ?_⟩
  exact isI_mk hk (by omega) (h6 71 _ rfl)
def rowf (n : Nat) (v : Int32) (r : Nat → Int32) : Nat → Int32 := fun k => if k < n then v else r k
theorem rowf_up {n : Nat} {v : Int32} {r : Nat → Int32} : upd (rowf n v r) n v = rowf (n + 1) v r := by
  funext k
  unfold upd rowf
  by_cases e : k = n
  · subst e
    simp
  · by_cases e2 : k < n
    · simp [e, e2, show k < n + 1 by omega]
    · simp [e, e2, show ¬ k < n + 1 by omega]
theorem rowf_0 {v : Int32} {r : Nat → Int32} : rowf 0 v r = r := by
  funext k
  simp [rowf]
/-! the box -/
def dblR (x : Int32) : Int32 := if x ≤ 127 then ((x <<< ((1 : Int32) &&& 31)) &&& 255) ^^^ 0 else ((x <<< ((1 : Int32) &&& 31)) &&& 255) ^^^ 27
theorem doubled_ok {x : Int32} {σ : Sg} {Q : Int32 → Sg → Prop} (h : Q (dblR x) σ) : wpX9_doubled x σ Q := by
  unfold wpX9_doubled
  refine ⟨fun hc => ?_, fun hc => ?_⟩
  · rw [dblR, if_pos hc] at h; exact h
  · rw [dblR, if_neg hc] at h; exact h
def tmF (b : Int32) : Nat → Nat → Int32 → Int32 → Int32
  | 0, _, v, _ => v
  | m + 1, k, v, x => tmF b m (k + 1) (if ((b >>> (nI k &&& 31)) &&& 1) = 1 then v ^^^ x else v) (dblR x)
theorem times1 {b : Int32} {σ : Sg} {Q : Int32 → Sg → Prop} : ∀ (m k : Nat) (v x : Int32), k + m = 8 → Q (tmF b m k v x) σ → wpX9_times_L7 Q (m + 1) b v x (nI k) σ := by
  intro m
  induction m with
  | zero =>
    intro k v x hk h
    have e : k = 8 := by omega
    subst e
    unfold wpX9_times_L7
    exact ⟨fun _ => h, fun hc => absurd (by decide) hc⟩
  | succ m ih =>
    intro k v x hk h
    unfold wpX9_times_L7
    refine ⟨fun hc => absurd hc (nI_ge (a := k) (b := 8) (by omega) (by decide)), fun _ => ⟨fun hz => ?_, fun hz => ?_⟩⟩
    · unfold wpX9_times_L28
      refine doubled_ok ?_
      rintro _ rfl
      rw [nI_1]
      refine ih (k + 1) v (dblR x) (by omega) ?_
      rw [tmF, if_neg hz] at h
      exact h
    · rintro _ rfl
      unfold wpX9_times_L28
      refine doubled_ok ?_
      rintro _ rfl
      rw [nI_1]
      refine ih (k + 1) _ (dblR x) (by omega) ?_
      rw [tmF, if_pos hz] at h
      exact h
def timesF (a b : Int32) : Int32 := tmF b 8 0 0 a
theorem times_ok {a b : Int32} {σ : Sg} {Q : Int32 → Sg → Prop} (h : Q (timesF a b) σ) : wpX9_times a b σ Q := ⟨9, times1 8 0 0 a (by omega) h⟩
def ivF (v : Int32) : Nat → Nat → Int32 → Int32
  | 0, _, i => i
  | m + 1, w, i => ivF v m (w + 1) (if timesF v (nI w) = 1 then nI w else i)
def afF (x2 : Int32) : Nat → Nat → Int32 → Int32
  | 0, _, s => s
  | m + 1, k, s => afF x2 m (k + 1) (s ^^^ (((x2 <<< (nI k &&& 31)) ||| (x2 >>> ((8 - nI k) &&& 31))) &&& 255))
def boxF (v : Nat) : Int32 := afF (if nI v ≤ 0 then 0 else ivF (nI v) 255 1 0) 5 0 99
theorem box1 {Q : Sg → Prop} {K : Int32 → Sg → Prop} {v : Nat} {x2 : Int32} {σ : Sg} (hv : v < 256) : ∀ (m k : Nat) (s : Int32), k + m = 5 → K (nI (v + 1)) (up2 σ 67 v (afF x2 m k s)) → wpX9_makeBox_L47 Q K (m + 1) (nI v) x2 s (nI k) σ := by
  intro m
  induction m with
  | zero =>
    intro k s hk h
    have e : k = 5 := by omega
    subst e
    unfold wpX9_makeBox_L47
    refine ⟨fun _ => ⟨vin rfl hv (by decide), ?_⟩, fun hc => absurd (by decide) hc⟩
    rintro _ rfl _ rfl
    rw [nI_1, nI_clamp (by omega)]
    exact h
  | succ m ih =>
    intro k s hk h
    unfold wpX9_makeBox_L47
    refine ⟨fun hc => absurd hc (nI_ge (a := k) (b := 5) (by omega) (by decide)), fun _ => ?_⟩
    rintro _ rfl _ rfl
    rw [nI_1]
    exact ih (k + 1) _ (by omega) h
theorem box2 {Q : Sg → Prop} {K : Int32 → Sg → Prop} {v : Nat} {σ : Sg} (hv : v < 256) (hp : ¬ nI v ≤ 0) : ∀ (m w : Nat) (i : Int32), w + m = 256 → wpX9_makeBox_L41 Q K (nI v) (ivF (nI v) m w i) σ → wpX9_makeBox_L13 Q K (m + 1) (nI v) i (nI w) σ := by
  intro m
  induction m with
  | zero =>
    intro w i hw h
    have e : w = 256 := by omega
    subst e
    unfold wpX9_makeBox_L13
    exact ⟨fun _ => h, fun hc => absurd (by decide) hc⟩
  | succ m ih =>
    intro w i hw h
    unfold wpX9_makeBox_L13
    refine ⟨fun hc => absurd hc (nI_ge (a := w) (b := 256) (by omega) (by decide)), fun _ => ⟨fun hz => absurd hz hp, fun _ => times_ok ?_⟩⟩
    refine ⟨fun hz => ?_, fun hz => ?_⟩
    · unfold wpX9_makeBox_L35
      rintro _ rfl
      rw [nI_1]
      refine ih (w + 1) i (by omega) ?_
      rw [ivF, if_neg hz] at h
      exact h
    · unfold wpX9_makeBox_L35
      rintro _ rfl
      rw [nI_1]
      refine ih (w + 1) (nI w) (by omega) ?_
      rw [ivF, if_pos hz] at h
      exact h
def boxR (r : Nat → Int32) (n : Nat) : Nat → Int32 := fun k => if k < n then boxF k else r k
theorem boxR_up {r : Nat → Int32} {n : Nat} : upd (boxR r n) n (boxF n) = boxR r (n + 1) := by
  funext k
  unfold upd boxR
  by_cases e : k = n
  · subst e
    simp
  · by_cases e2 : k < n
    · simp [e, e2, show k < n + 1 by omega]
    · simp [e, e2, show ¬ k < n + 1 by omega]
theorem box3 {Q : Sg → Prop} {σ : Sg} (h : Q (va_up σ 67 (boxR (σ 67) 256))) : ∀ (m v : Nat), v + m = 256 → wpX9_makeBox_L2 Q (m + 1) (nI v) (va_up σ 67 (boxR (σ 67) v)) := by
  intro m
  induction m with
  | zero =>
    intro v hv
    have e : v = 256 := by omega
    subst e
    unfold wpX9_makeBox_L2
    exact ⟨fun _ => h, fun hc => absurd (by decide) hc⟩
  | succ m ih =>
    intro v hv
    unfold wpX9_makeBox_L2
    refine ⟨fun hc => absurd hc (nI_ge (a := v) (b := 256) (by omega) (by decide)), fun _ => ?_⟩
    have hk := ih (v + 1) (by omega)
    by_cases hz : nI v ≤ 0
    · refine ⟨1, ?_⟩
      unfold wpX9_makeBox_L13
      refine ⟨fun hc => absurd hc (by decide), fun _ => ⟨fun _ => ?_, fun hc => absurd hz hc⟩⟩
      unfold wpX9_makeBox_L41
      refine ⟨6, box1 (by omega) 5 0 99 (by omega) ?_⟩
      rw [up2_up, show afF 0 5 0 99 = boxF v from by unfold boxF; rw [if_pos hz], boxR_up]
      exact hk
    · refine ⟨256, box2 (by omega) hz 255 1 0 (by omega) ?_⟩
      unfold wpX9_makeBox_L41
      refine ⟨6, box1 (by omega) 5 0 99 (by omega) ?_⟩
      rw [up2_up, show afF (ivF (nI v) 255 1 0) 5 0 99 = boxF v from by unfold boxF; rw [if_neg hz], boxR_up]
      exact hk
theorem makeBox_ok {Q : Sg → Prop} {σ : Sg} (h : Q (va_up σ 67 (boxR (σ 67) 256))) : wpX9_makeBox σ Q := by
  refine ⟨257, ?_⟩
  have := box3 h 256 0 (by omega)
  rw [show boxR (σ 67) 0 = σ 67 from by funext k; simp [boxR], vu_id] at this
  exact this
