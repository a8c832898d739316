/-! PURE: a piece's field: what its methods do -/
def gc (l : List Cel) (k : Nat) : Cel := l.getD k (0, false, false, 0)
def bup (f : Nat → Bool) (k : Nat) (v : Bool) : Nat → Bool := fun j => if j = k then v else f j
theorem bup_s {f : Nat → Bool} {k : Nat} {v : Bool} : bup f k v k = v := if_pos rfl
theorem bup_o {f : Nat → Bool} {k j : Nat} {v : Bool} (h : j ≠ k) : bup f k v j = f j := if_neg h
theorem cnt_congr {f g : Nat → Bool} {a : Nat} : ∀ n, (∀ k, a ≤ k → k < a + n → f k = g k) → cnt f a n = cnt g a n
  | 0, _ => rfl
  | n + 1, h => by
    unfold cnt
    rw [cnt_congr n (fun k h1 h2 => h k h1 (by omega)), h (a + n) (by omega) (by omega)]
theorem cnt_bup {f : Nat → Bool} {a k : Nat} {v : Bool} : ∀ n, a ≤ k → k < a + n → cnt (bup f k v) a n + b2n (f k) = cnt f a n + b2n v
  | 0, _, h => by omega
  | n + 1, h1, h2 => by
    unfold cnt
    by_cases e : k = a + n
    · subst e
      rw [bup_s, cnt_congr (g := f) n (fun j h3 h4 => bup_o (by omega))]
      unfold b2n
      omega
    · rw [bup_o (fun h => e h.symm)]
      have := cnt_bup (f := f) (v := v) n h1 (by omega)
      omega
theorem cnt_0 {f : Nat → Bool} {a : Nat} : ∀ n, (∀ k, a ≤ k → k < a + n → f k = false) → cnt f a n = 0
  | 0, _ => rfl
  | n + 1, h => by
    unfold cnt
    rw [cnt_0 n (fun k h1 h2 => h k h1 (by omega)), h (a + n) (by omega) (by omega)]
    rfl
theorem cnt_all {f : Nat → Bool} {a : Nat} : ∀ n, (cnt f a n = n) ↔ ∀ k, a ≤ k → k < a + n → f k = true
  | 0 => ⟨fun _ k h1 h2 => by omega, fun _ => rfl⟩
  | n + 1 => by
    have hle := cnt_le (f := f) (a := a) n
    have ih := cnt_all (f := f) (a := a) n
    unfold cnt
    constructor
    · intro h k h1 h2
      by_cases ef : f (a + n) = true
      · rw [if_pos ef] at h
        by_cases e : k = a + n
        · rw [e]; exact ef
        · exact ih.mp (by omega) k h1 (by omega)
      · rw [if_neg ef] at h
        omega
    · intro h
      rw [ih.mpr (fun k h1 h2 => h k h1 (by omega)), if_pos (h (a + n) (by omega) (by omega))]
theorem cnt_none {f : Nat → Bool} {a : Nat} : ∀ n, (cnt f a n = 0) → ∀ k, a ≤ k → k < a + n → f k = false
  | 0, _, k, h1, h2 => by omega
  | n + 1, h, k, h1, h2 => by
    unfold cnt at h
    by_cases ef : f (a + n) = true
    · rw [if_pos ef] at h
      omega
    · by_cases e : k = a + n
      · rw [e]; simpa using ef
      · exact cnt_none n (by omega) k h1 (by omega)
theorem cnt_split {f : Nat → Bool} {a m : Nat} : ∀ n, cnt f a (m + n) = cnt f a m + cnt f (a + m) n
  | 0 => rfl
  | n + 1 => by
    show cnt f a (m + n) + (if f (a + (m + n)) then 1 else 0) = cnt f a m + (cnt f (a + m) n + if f (a + m + n) then 1 else 0)
    rw [cnt_split n, Nat.add_assoc, Nat.add_assoc a m n]
theorem cnt_bupT {f : Nat → Bool} {a k n : Nat} (h1 : a ≤ k) (h2 : k < a + n) (e : f k = false) : cnt (bup f k true) a n = cnt f a n + 1 := by
  have := cnt_bup (f := f) (v := true) n h1 h2
  rw [e] at this
  exact this
/-- a sender's piece -/
def PcC (σ : Sg) (c : Nat) (l : List Cel) (ag : Nat → Bool) : Prop := σ c 1 = nI l.length ∧ l.length ≤ 240 ∧ σ c 2 = nI (cnt ag 0 l.length) ∧ (∀ q ∈ l, celOK q) ∧ ∀ k, k < l.length → σ (c + 1) k = cod (gc l k) (ag k)
theorem PcC.of {σ σ' : Sg} {c : Nat} {l : List Cel} {ag : Nat → Bool} (h : PcC σ c l ag) (h1 : σ' c 1 = σ c 1) (h2 : σ' c 2 = σ c 2) (h3 : σ' (c + 1) = σ (c + 1)) : PcC σ' c l ag := ⟨h1.trans h.1, h.2.1, h2.trans h.2.2.1, h.2.2.2.1, fun k hk => by rw [h3]; exact h.2.2.2.2 k hk⟩
def Frm (c : Nat) (σ σ' : Sg) : Prop := ∀ d, d ≠ c → d ≠ c + 1 → σ' d = σ d
theorem gc_mem {l : List Cel} {k : Nat} (h : k < l.length) : gc l k ∈ l := by
  unfold gc
  rw [List.getD_eq_getElem?_getD, List.getElem?_eq_getElem h]
  exact List.getElem_mem h
theorem PcC.ok {σ : Sg} {c : Nat} {l : List Cel} {ag : Nat → Bool} (h : PcC σ c l ag) {k : Nat} (hk : k < l.length) : celOK (gc l k) := h.2.2.2.1 _ (gc_mem hk)
theorem PcC.la {σ : Sg} {c : Nat} {l : List Cel} {ag : Nat → Bool} (h : PcC σ c l ag) {k : Nat} (hk : k < l.length) : bit 512 (σ (c + 1) k) = (gc l k).2.2.1 := by rw [h.2.2.2.2 k hk, cod_l (h.ok hk)]
theorem PcC.fi {σ : Sg} {c : Nat} {l : List Cel} {ag : Nat → Bool} (h : PcC σ c l ag) {k : Nat} (hk : k < l.length) : bit 256 (σ (c + 1) k) = (gc l k).2.1 := by rw [h.2.2.2.2 k hk, cod_f (h.ok hk)]
theorem PcC.mk {σ : Sg} {c : Nat} {l : List Cel} {ag : Nat → Bool} (h : PcC σ c l ag) {k : Nat} (hk : k < l.length) : bit 1024 (σ (c + 1) k) = ag k := by rw [h.2.2.2.2 k hk, cod_m (h.ok hk)]
theorem clear_ok {σ : Sg} {c : Nat} {v : Int32} {Q : Sg → Prop} (h : ∀ σ' : Sg, (∀ k, k < 240 → σ' (c + 1) k = 0) → σ' c 1 = v → σ' c 2 = 0 → σ' c 3 = 0 → σ' c 4 = 0 → σ' c 5 = 0 → Frm c σ σ' → Q σ') : wpX5_clear c v σ Q := by
  unfold wpX5_clear
  refine fill_ok (by decide) ?_
  rintro _ rfl _ rfl _ rfl _ rfl _ rfl
  refine h _ (fun k hk => ?_) ?_ ?_ ?_ ?_ ?_ (fun d h1 h2 => ?_)
  · rw [up2_o (by omega), up2_o (by omega), up2_o (by omega), up2_o (by omega), up2_o (by omega)]
    simp [va_up, rowf, hk]
  · simp [up2_e]
  · simp [up2_e]
  · simp [up2_e]
  · simp [up2_e]
  · simp [up2_e]
  · rw [up2_o h1, up2_o h1, up2_o h1, up2_o h1, up2_o h1]
    simp [va_up, h2]
theorem gc_app {l : List Cel} {q : Cel} {k : Nat} (h : k < l.length) : gc (l ++ [q]) k = gc l k := by
  unfold gc
  rw [List.getD_eq_getElem?_getD, List.getElem?_append_left h, ← List.getD_eq_getElem?_getD]
theorem gc_end {l : List Cel} {q : Cel} : gc (l ++ [q]) l.length = q := by
  unfold gc
  rw [List.getD_eq_getElem?_getD, List.getElem?_append_right (Nat.le_refl _), Nat.sub_self]
  rfl
theorem append_ok {σ : Sg} {c : Nat} {l : List Cel} {ag : Nat → Bool} {q : Cel} {Q : Sg → Prop} (hP : PcC σ c l ag) (hl : l.length < 240) (hq : celOK q) (ha : ag l.length = false) (h : ∀ σ' : Sg, PcC σ' c (l ++ [q]) ag → (∀ j, j ≠ 1 → σ' c j = σ c j) → Frm c σ σ' → Q σ') : wpX5_append c (cod q false) σ Q := by
  obtain ⟨h1, h2, h3, h4, h5⟩ := hP
  unfold wpX5_append
  rw [h1]
  refine brf (nI_pos (by omega)) (brf (nI_ge hl (by decide)) ?_)
  rintro _ rfl
  refine ⟨vin rfl hl (by decide), ?_⟩
  rintro _ rfl
  rw [nI_clamp (by omega), nI_1]
  refine h _ ⟨?_, by simp; omega, ?_, ?_, ?_⟩ (fun j hj => ?_) (fun d h1 h2 => by rw [up2_o h2, up2_o h1])
  · simp [up2_e]
  · rw [up2_o (by omega), up2_e, if_neg (by omega), h3]
    simp [cnt, ha]
  · intro x hx
    rw [List.mem_append, List.mem_singleton] at hx
    rcases hx with hx | rfl
    · exact h4 x hx
    · exact hq
  · intro k hk
    rw [List.length_append, List.length_singleton] at hk
    rw [up2_e]
    by_cases e : k = l.length
    · subst e
      rw [if_pos ⟨rfl, rfl⟩, gc_end, ha]
    · rw [if_neg (fun h => e h.2), up2_o (by omega), gc_app (by omega)]
      exact h5 k (by omega)
  · rw [up2_o (by omega), up2_e, if_neg (by omega)]
theorem markCell_ok {σ : Sg} {c k : Nat} {l : List Cel} {ag : Nat → Bool} {Q : Sg → Prop} (hP : PcC σ c l ag) (hk : k < l.length) (h : ∀ σ' : Sg, PcC σ' c l (bup ag k true) → (∀ j, j ≠ 2 → σ' c j = σ c j) → Frm c σ σ' → Q σ') : wpX5_markCell c (nI k) σ Q := by
  have hP0 := hP
  obtain ⟨h1, h2, h3, h4, h5⟩ := hP
  have hc := cnt_bup (f := ag) (v := true) (a := 0) l.length (Nat.zero_le k) (by omega)
  unfold wpX5_markCell
  rw [nI_clamp (by omega)]
  refine brf (nI_pos (by omega)) (brf (nI_ge (by omega) (by decide)) ⟨vin rfl (by omega) (by decide), brbit' (hP0.mk hk) (fun e => ?_) (fun e => ?_)⟩)
  · refine ⟨vin rfl (by omega) (by decide), vin rfl (by omega) (by decide), ?_⟩
    rintro _ rfl _ rfl
    rw [h5 k hk, e, cod_set (hP0.ok hk)]
    refine h _ ⟨?_, h2, ?_, h4, ?_⟩ (fun j hj => ?_) (fun d h1 h2 => by rw [up2_o h1, up2_o h2])
    · rw [up2_e, if_neg (by omega), up2_o (by omega), h1]
    · rw [up2_e, if_pos ⟨rfl, rfl⟩, up2_o (by omega), h3, nI_1]
      rw [e] at hc
      congr 1
      simp [b2n] at hc
      omega
    · intro j hj
      rw [up2_o (by omega), up2_e]
      by_cases ej : j = k
      · subst ej
        rw [if_pos ⟨rfl, rfl⟩, bup_s]
      · rw [if_neg (fun h => ej h.2), bup_o ej]
        exact h5 j hj
    · rw [up2_e, if_neg (by omega), up2_o (by omega)]
  · have eb : bup ag k true = ag := by
      funext j
      unfold bup
      split
      · next ej => rw [ej, e]
      · rfl
    exact h σ (by rw [eb]; exact hP0) (fun _ _ => rfl) (fun _ _ _ => rfl)
theorem unmarkCell_ok {σ : Sg} {c k : Nat} {l : List Cel} {ag : Nat → Bool} {Q : Sg → Prop} (hP : PcC σ c l ag) (hk : k < l.length) (h : ∀ σ' : Sg, PcC σ' c l (bup ag k false) → (∀ j, j ≠ 2 → σ' c j = σ c j) → Frm c σ σ' → Q σ') : wpX5_unmarkCell c (nI k) σ Q := by
  have hP0 := hP
  obtain ⟨h1, h2, h3, h4, h5⟩ := hP
  have hc := cnt_bup (f := ag) (v := false) (a := 0) l.length (Nat.zero_le k) (by omega)
  unfold wpX5_unmarkCell
  rw [nI_clamp (by omega)]
  refine brf (nI_pos (by omega)) (brf (nI_ge (by omega) (by decide)) ⟨vin rfl (by omega) (by decide), brbit (hP0.mk hk) (fun e => ?_) (fun e => ?_)⟩)
  · have eb : bup ag k false = ag := by
      funext j
      unfold bup
      split
      · next ej => rw [ej, e]
      · rfl
    exact h σ (by rw [eb]; exact hP0) (fun _ _ => rfl) (fun _ _ _ => rfl)
  · refine ⟨vin rfl (by omega) (by decide), vin rfl (by omega) (by decide), ?_⟩
    rintro _ rfl _ rfl
    rw [h5 k hk, e, cod_clr (hP0.ok hk)]
    rw [e] at hc
    simp [b2n] at hc
    refine h _ ⟨?_, h2, ?_, h4, ?_⟩ (fun j hj => ?_) (fun d h1 h2 => by rw [up2_o h1, up2_o h2])
    · rw [up2_e, if_neg (by omega), up2_o (by omega), h1]
    · rw [up2_e, if_pos ⟨rfl, rfl⟩, up2_o (by omega), h3, ← hc, nI_pred]
    · intro j hj
      rw [up2_o (by omega), up2_e]
      by_cases ej : j = k
      · subst ej
        rw [if_pos ⟨rfl, rfl⟩, bup_s]
      · rw [if_neg (fun h => ej h.2), bup_o ej]
        exact h5 j hj
    · rw [up2_e, if_neg (by omega), up2_o (by omega)]
/-- a receiver's piece: the field that it will be, whether its end is known, what is there -/
def rc (q : Cel) : Cel := (q.1, q.2.1, q.2.2.1, 0)
theorem celOK.rc {q : Cel} (h : celOK q) : celOK (rc q) := ⟨h.1, show (0 : Nat) < 2 ^ 18 by decide⟩
def RpC (σ : Sg) (c : Nat) (l : List Cel) (kn : Bool) (th : Nat → Bool) : Prop := σ c 1 = (if kn then nI l.length else -1) ∧ l.length ≤ 240 ∧ σ c 2 = nI (cnt th 0 240) ∧ (∀ q ∈ l, celOK q) ∧ (∀ k, th k = true → k < l.length) ∧ ∀ k, k < 240 → σ (c + 1) k = if th k then cod (rc (gc l k)) true else 0
theorem RpC.of {σ σ' : Sg} {c : Nat} {l : List Cel} {kn : Bool} {th : Nat → Bool} (h : RpC σ c l kn th) (h1 : σ' c 1 = σ c 1) (h2 : σ' c 2 = σ c 2) (h3 : σ' (c + 1) = σ (c + 1)) : RpC σ' c l kn th := ⟨h1.trans h.1, h.2.1, h2.trans h.2.2.1, h.2.2.2.1, h.2.2.2.2.1, fun k hk => by rw [h3]; exact h.2.2.2.2.2 k hk⟩
theorem RpC.mk {σ : Sg} {c : Nat} {l : List Cel} {kn : Bool} {th : Nat → Bool} (h : RpC σ c l kn th) {k : Nat} (hk : k < 240) : bit 1024 (σ (c + 1) k) = th k := by
  obtain ⟨h1, h2, h3, h4, h5, h6⟩ := h
  rw [h6 k hk]
  by_cases e : th k = true
  · rw [if_pos e, cod_m (h4 _ (gc_mem (h5 k e))).rc, e]
  · rw [if_neg e]
    simp [bit, e]
theorem putArrived_ok {σ : Sg} {c k : Nat} {l : List Cel} {kn : Bool} {th : Nat → Bool} {Q : Sg → Prop} (hP : RpC σ c l kn th) (hk : k < l.length) (h : ∀ σ' : Sg, RpC σ' c l kn (bup th k true) → (∀ j, j ≠ 2 → σ' c j = σ c j) → Frm c σ σ' → Q σ') : wpX5_putArrived c (nI k) (cod (rc (gc l k)) false) σ Q := by
  have hP0 := hP
  obtain ⟨h1, h2, h3, h4, h5, h6⟩ := hP
  have hc := cnt_bup (f := th) (v := true) (a := 0) 240 (Nat.zero_le k) (by omega)
  unfold wpX5_putArrived
  rw [nI_clamp (by omega)]
  refine brf (nI_pos (by omega)) (brf (nI_ge (by omega) (by decide)) ⟨vin rfl (by omega) (by decide), brbit' (hP0.mk (by omega)) (fun e => ?_) (fun e => ?_)⟩)
  · refine ⟨vin rfl (by omega) (by decide), ?_⟩
    rintro _ rfl _ rfl
    rw [cod_set (h4 _ (gc_mem hk)).rc]
    refine h _ ⟨?_, h2, ?_, h4, ?_, ?_⟩ (fun j hj => ?_) (fun d h1 h2 => by rw [up2_o h1, up2_o h2])
    · rw [up2_e, if_neg (by omega), up2_o (by omega), h1]
    · rw [up2_e, if_pos ⟨rfl, rfl⟩, up2_o (by omega), h3, nI_1]
      rw [cnt_bupT (Nat.zero_le k) (by omega) e]
    · intro j hj
      by_cases ej : j = k
      · omega
      · rw [bup_o ej] at hj
        exact h5 j hj
    · intro j hj
      rw [up2_o (by omega), up2_e]
      by_cases ej : j = k
      · subst ej
        rw [if_pos ⟨rfl, rfl⟩, bup_s, if_pos rfl]
      · rw [if_neg (fun h => ej h.2), bup_o ej]
        exact h6 j hj
    · rw [up2_e, if_neg (by omega), up2_o (by omega)]
  · have eb : bup th k true = th := by
      funext j
      unfold bup
      split
      · next ej => rw [ej, e]
      · rfl
    exact h σ (by rw [eb]; exact hP0) (fun _ _ => rfl) (fun _ _ _ => rfl)
