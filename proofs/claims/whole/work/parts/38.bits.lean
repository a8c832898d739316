/-! PURE: cells of fields as numbers -/
abbrev Cel : Type := Int32 × Bool × Bool × Nat
def b2n (b : Bool) : Nat := if b then 1 else 0
/-- a cell of the class: byte, first, last, mark, owner -/
def cod (c : Cel) (m : Bool) : Int32 := nI (c.1.toNatClampNeg + 256 * b2n c.2.1 + 512 * b2n c.2.2.1 + 1024 * b2n m + 2048 * c.2.2.2)
def celOK (c : Cel) : Prop := isB c.1 ∧ c.2.2.2 < 2 ^ 18
theorem b2n_lt (b : Bool) : b2n b < 2 := by cases b <;> decide
theorem b2n_le (b : Bool) : b2n b ≤ 1 := by cases b <;> decide
theorem nand2 (n k : Nat) : (n &&& 2 ^ k = 0) ↔ n / 2 ^ k % 2 = 0 := by
  have h1 : n.testBit k = decide (n / 2 ^ k % 2 = 1) := Nat.testBit_eq_decide_div_mod_eq
  constructor
  · intro h
    have h2 : (n &&& 2 ^ k).testBit k = false := by rw [h]; exact Nat.zero_testBit k
    rw [Nat.testBit_and, Nat.testBit_two_pow_self, Bool.and_true, h1] at h2
    have := of_decide_eq_false h2
    omega
  · intro h
    apply Nat.eq_of_testBit_eq
    intro i
    rw [Nat.testBit_and, Nat.testBit_two_pow, Nat.zero_testBit]
    by_cases e : k = i
    · subst e
      rw [h1]
      simp [h]
    · simp [e]
theorem iand (a b : Nat) (ha : a < 2 ^ 32) (hb : b < 2 ^ 32) : nI a &&& nI b = nI (a &&& b) := by
  apply Int32.toBitVec_inj.mp
  rw [Int32.toBitVec_and]
  show BitVec.ofNat 32 a &&& BitVec.ofNat 32 b = BitVec.ofNat 32 (a &&& b)
  apply BitVec.eq_of_toNat_eq
  rw [BitVec.toNat_and, BitVec.toNat_ofNat, BitVec.toNat_ofNat, BitVec.toNat_ofNat, Nat.and_mod_two_pow]
theorem bitN {n k : Nat} {m : Int32} (hn : n < 2 ^ 31) (hk : k < 30) (hm : m = nI (2 ^ k)) : bit m (nI n) = decide (n / 2 ^ k % 2 = 1) := by
  have h30 : 2 ^ k < 2 ^ 30 := Nat.pow_lt_pow_right (by decide) hk
  unfold bit
  rw [hm, iand _ _ (by omega) (by omega)]
  have hle : n &&& 2 ^ k ≤ n := Nat.and_le_left
  have e : (nI (n &&& 2 ^ k) = 0) ↔ n / 2 ^ k % 2 = 0 := by
    rw [← nand2, ← nI_0, nI_eq (by omega) (by decide)]
  generalize n / 2 ^ k = q at e ⊢
  by_cases h : q % 2 = 0
  · simp [e.mpr h, h]
  · have h3 : q % 2 = 1 := by omega
    simp [h3]
    exact fun h' => h (e.mp h')
theorem isB.cl {x : Int32} (h : isB x) : x.toNatClampNeg < 256 ∧ nI x.toNatClampNeg = x := by
  obtain ⟨n, hn, rfl⟩ := h
  rw [nI_clamp (by omega)]
  exact ⟨hn, rfl⟩
theorem cod_lt {c : Cel} {m : Bool} (h : celOK c) : c.1.toNatClampNeg + 256 * b2n c.2.1 + 512 * b2n c.2.2.1 + 1024 * b2n m + 2048 * c.2.2.2 < 2 ^ 30 := by
  have h1 := h.1.cl.1
  have h2 := h.2
  have h3 := b2n_le c.2.1
  have h4 := b2n_le c.2.2.1
  have h5 := b2n_le m
  omega
theorem b2n_dec (b : Bool) (n : Nat) (h : n = b2n b) : decide (n = 1) = b := by subst h; cases b <;> decide
theorem cod_f {c : Cel} {m : Bool} (h : celOK c) : bit 256 (cod c m) = c.2.1 := by
  have := cod_lt (m := m) h
  have h1 := h.1.cl.1
  have h4 := b2n_le c.2.1
  unfold cod
  rw [bitN (k := 8) (m := 256) (by omega) (by decide) rfl]
  exact b2n_dec _ _ (by omega)
theorem cod_l {c : Cel} {m : Bool} (h : celOK c) : bit 512 (cod c m) = c.2.2.1 := by
  have := cod_lt (m := m) h
  have h1 := h.1.cl.1
  have h3 := b2n_le c.2.1
  have h4 := b2n_le c.2.2.1
  unfold cod
  rw [bitN (k := 9) (m := 512) (by omega) (by decide) rfl]
  exact b2n_dec _ _ (by omega)
theorem cod_m {c : Cel} {m : Bool} (h : celOK c) : bit 1024 (cod c m) = m := by
  have := cod_lt (m := m) h
  have h1 := h.1.cl.1
  have h3 := b2n_le c.2.1
  have h4 := b2n_le c.2.2.1
  have h5 := b2n_le m
  unfold cod
  rw [bitN (k := 10) (m := 1024) (by omega) (by decide) rfl]
  exact b2n_dec _ _ (by omega)
theorem cod_b {c : Cel} {m : Bool} (h : celOK c) : cod c m &&& 255 = c.1 := by
  have := cod_lt (m := m) h
  have h1 := h.1.cl
  unfold cod
  rw [pk_andN (by omega) 8 (by decide)]
  rw [show (c.1.toNatClampNeg + 256 * b2n c.2.1 + 512 * b2n c.2.2.1 + 1024 * b2n m + 2048 * c.2.2.2) % 2 ^ 8 = c.1.toNatClampNeg by omega]
  exact h1.2
theorem cod_o {c : Cel} {m : Bool} (h : celOK c) : cod c m >>> 11 = nI c.2.2.2 := by
  have := cod_lt (m := m) h
  have h1 := h.1.cl
  have h3 := b2n_le c.2.1
  have h4 := b2n_le c.2.2.1
  have h5 := b2n_le m
  unfold cod
  rw [pk_shrN (by omega) 11 11 (by decide)]
  congr 1
  omega
theorem bit_0 {b x : Int32} : bit b x = false ↔ x &&& b = 0 := by simp [bit]
theorem or_add {x y : Int32} (h : x &&& y = 0) : x ||| y = x + y := by
  apply Int32.toBitVec_inj.mp
  rw [Int32.toBitVec_or, Int32.toBitVec_add]
  refine (BitVec.add_eq_or_of_and_eq_zero _ _ ?_).symm
  have := congrArg Int32.toBitVec h
  rw [Int32.toBitVec_and] at this
  exact this
theorem cod_set {c : Cel} (h : celOK c) : cod c false ||| 1024 = cod c true := by
  rw [or_add (bit_0.mp (cod_m h))]
  unfold cod
  rw [show (1024 : Int32) = nI 1024 from rfl, nI_add]
  congr 1
  simp [b2n]
  omega
theorem andnot {x y : Int32} (h : x &&& y = 0) : (x ||| y) &&& ~~~ y = x := by
  apply Int32.toBitVec_inj.mp
  have h := congrArg Int32.toBitVec h
  rw [Int32.toBitVec_and] at h
  rw [Int32.toBitVec_and, Int32.toBitVec_or, Int32.toBitVec_not]
  apply BitVec.eq_of_getLsbD_eq
  intro i hi
  have h9 := congrArg (fun z => z.getLsbD i) h
  simp only [BitVec.getLsbD_and] at h9
  have h0 : (Int32.toBitVec 0).getLsbD i = false := by
    show (0#32).getLsbD i = false
    simp
  rw [h0] at h9
  simp only [BitVec.getLsbD_and, BitVec.getLsbD_or, BitVec.getLsbD_not, hi, decide_true, Bool.true_and]
  revert h9
  cases x.toBitVec.getLsbD i <;> cases y.toBitVec.getLsbD i <;> simp
theorem cod_clr {c : Cel} (h : celOK c) : cod c true &&& (-1025) = cod c false := by
  rw [← cod_set h]
  have := andnot (bit_0.mp (cod_m (m := false) h))
  exact this
/-- masks of numbers -/
theorem a63 {n : Nat} (h : n < 2 ^ 31) : nI n &&& 63 = nI (n % 64) := pk_andN (by omega) 6 (by decide)
theorem a31 {n : Nat} (h : n < 2 ^ 31) : nI n &&& 31 = nI (n % 32) := pk_andN (by omega) 5 (by decide)
theorem a15 {n : Nat} (h : n < 2 ^ 31) : nI n &&& 15 = nI (n % 16) := pk_andN (by omega) 4 (by decide)
theorem a127 {n : Nat} (h : n < 2 ^ 31) : nI n &&& 127 = nI (n % 128) := pk_andN (by omega) 7 (by decide)
theorem a255 {n : Nat} (h : n < 2 ^ 31) : nI n &&& 255 = nI (n % 256) := pk_andN (by omega) 8 (by decide)
/-- branches that are known -/
theorem brt {c A B : Prop} (h : c) (a : A) : (c → A) ∧ (¬ c → B) := ⟨fun _ => a, fun n => absurd h n⟩
theorem brf {c A B : Prop} (h : ¬ c) (b : B) : (c → A) ∧ (¬ c → B) := ⟨fun n => absurd n h, fun _ => b⟩
theorem brt' {c A B : Prop} (h : c) (b : B) : (¬ c → A) ∧ (c → B) := ⟨fun n => absurd h n, fun _ => b⟩
theorem brf' {c A B : Prop} (h : ¬ c) (a : A) : (¬ c → A) ∧ (c → B) := ⟨fun _ => a, fun n => absurd n h⟩
theorem b01_1 {b : Bool} : ¬ b01 b = 0 ↔ b = true := by cases b <;> simp [b01]
theorem b01_t : b01 true = 1 := rfl
theorem b01_f : b01 false = 0 := rfl
theorem b01_z (b : Bool) : vz (b01 b) := by cases b <;> simp [b01, vz]
theorem br01 {b : Bool} {A B : Prop} (f : b = false → A) (g : b = true → B) : (b01 b = 0 → A) ∧ (¬ b01 b = 0 → B) := ⟨fun h => f (b01_0.mp h), fun h => g (b01_1.mp h)⟩
theorem br01' {b : Bool} {A B : Prop} (f : b = false → A) (g : b = true → B) : (¬ b01 b = 0 → B) ∧ (b01 b = 0 → A) := ⟨fun h => g (b01_1.mp h), fun h => f (b01_0.mp h)⟩
theorem brbit {m x : Int32} {b : Bool} {A B : Prop} (h : bit m x = b) (f : b = false → A) (g : b = true → B) : (x &&& m = 0 → A) ∧ (¬ x &&& m = 0 → B) := by
  subst h
  exact ⟨fun h => f (bit_0.mpr h), fun h => g (by simp [bit, h])⟩
theorem brbit' {m x : Int32} {b : Bool} {A B : Prop} (h : bit m x = b) (f : b = false → A) (g : b = true → B) : (¬ x &&& m = 0 → B) ∧ (x &&& m = 0 → A) := ⟨(brbit h f g).2, (brbit h f g).1⟩
