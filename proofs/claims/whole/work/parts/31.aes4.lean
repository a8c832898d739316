/-! PURE: bytes; the reference enciphers a block as the class does -/
def isB (x : Int32) : Prop := ∃ n : Nat, n < 256 ∧ x = nI n
theorem ixor (a b : Nat) : nI a ^^^ nI b = nI (a ^^^ b) := by
  apply Int32.toBitVec_inj.mp
  rw [Int32.toBitVec_xor]
  show BitVec.ofNat 32 a ^^^ BitVec.ofNat 32 b = BitVec.ofNat 32 (a ^^^ b)
  apply BitVec.eq_of_toNat_eq
  rw [BitVec.toNat_xor, BitVec.toNat_ofNat, BitVec.toNat_ofNat, BitVec.toNat_ofNat, Nat.xor_mod_two_pow]
theorem isB.xor {x y : Int32} (hx : isB x) (hy : isB y) : isB (x ^^^ y) := by
  obtain ⟨a, ha, rfl⟩ := hx
  obtain ⟨b, hb, rfl⟩ := hy
  exact ⟨a ^^^ b, Nat.xor_lt_two_pow (n := 8) ha hb, ixor a b⟩
theorem isB.and (x : Int32) : isB (x &&& 255) := by
  obtain ⟨j, hj, e⟩ := pk_andE x (m := 255) 8 (by decide)
  exact ⟨j, hj, e⟩
theorem isB.z : isB 0 := ⟨0, by decide, rfl⟩
theorem isB.in' {x : Int32} (h : isB x) : vp_in x 256 := by
  obtain ⟨n, hn, rfl⟩ := h
  exact vp_in_nI hn (by decide)
theorem isB.a255 {x : Int32} (h : isB x) : x &&& 255 = x := by
  obtain ⟨n, hn, rfl⟩ := h
  have := pk_andN (n := n) (by omega) (m := 255) 8 (by decide)
  rw [this, Nat.mod_eq_of_lt hn]
theorem dbl_eq : ∀ n, n < 256 → dbl8 (nI n) = dblR (nI n) := by decide +kernel
theorem dbl_b : ∀ n, n < 256 → ∃ m, m < 256 ∧ dblR (nI n) = nI m := by decide +kernel
def dblN (n : Nat) : Nat := if n < 128 then 2 * n else (2 * n - 256) ^^^ 27
theorem dblN_eq : ∀ n, n < 256 → dblR (nI n) = nI (dblN n) := by decide +kernel
theorem dblN_lin : ∀ a, a < 256 → ∀ b, b < 256 → dblN (a ^^^ b) = dblN a ^^^ dblN b := by decide +kernel
theorem isB.dbl {x : Int32} (h : isB x) : isB (dblR x) := by
  obtain ⟨n, hn, rfl⟩ := h
  obtain ⟨m, hm, e⟩ := dbl_b n hn
  exact ⟨m, hm, e⟩
theorem isB.d8 {x : Int32} (h : isB x) : dbl8 x = dblR x := by
  obtain ⟨n, hn, rfl⟩ := h
  exact dbl_eq n hn
theorem dbl_lin {x y : Int32} (hx : isB x) (hy : isB y) : dbl8 (x ^^^ y) = dblR x ^^^ dblR y := by
  rw [(hx.xor hy).d8]
  obtain ⟨a, ha, rfl⟩ := hx
  obtain ⟨b, hb, rfl⟩ := hy
  rw [ixor, dblN_eq _ (Nat.xor_lt_two_pow (n := 8) ha hb), dblN_eq a ha, dblN_eq b hb, ixor, dblN_lin a ha b hb]
theorem mixA (a b c d D : Int32) : a ^^^ ((((a ^^^ b) ^^^ c) ^^^ d) ^^^ D) = ((D ^^^ b) ^^^ c) ^^^ d := by
  apply Int32.toBitVec_inj.mp
  simp only [Int32.toBitVec_xor]
  apply BitVec.eq_of_getLsbD_eq
  intro i hi
  simp only [BitVec.getLsbD_xor]
  cases a.toBitVec.getLsbD i <;> cases b.toBitVec.getLsbD i <;> cases c.toBitVec.getLsbD i <;> cases d.toBitVec.getLsbD i <;> cases D.toBitVec.getLsbD i <;> rfl
theorem mixB (a b c d D : Int32) : b ^^^ ((((a ^^^ b) ^^^ c) ^^^ d) ^^^ D) = ((D ^^^ c) ^^^ d) ^^^ a := by
  apply Int32.toBitVec_inj.mp
  simp only [Int32.toBitVec_xor]
  apply BitVec.eq_of_getLsbD_eq
  intro i hi
  simp only [BitVec.getLsbD_xor]
  cases a.toBitVec.getLsbD i <;> cases b.toBitVec.getLsbD i <;> cases c.toBitVec.getLsbD i <;> cases d.toBitVec.getLsbD i <;> cases D.toBitVec.getLsbD i <;> rfl
theorem mixC (a b c d D : Int32) : c ^^^ ((((a ^^^ b) ^^^ c) ^^^ d) ^^^ D) = ((D ^^^ d) ^^^ a) ^^^ b := by
  apply Int32.toBitVec_inj.mp
  simp only [Int32.toBitVec_xor]
  apply BitVec.eq_of_getLsbD_eq
  intro i hi
  simp only [BitVec.getLsbD_xor]
  cases a.toBitVec.getLsbD i <;> cases b.toBitVec.getLsbD i <;> cases c.toBitVec.getLsbD i <;> cases d.toBitVec.getLsbD i <;> cases D.toBitVec.getLsbD i <;> rfl
theorem mixD (a b c d D : Int32) : d ^^^ ((((a ^^^ b) ^^^ c) ^^^ d) ^^^ D) = ((D ^^^ a) ^^^ b) ^^^ c := by
  apply Int32.toBitVec_inj.mp
  simp only [Int32.toBitVec_xor]
  apply BitVec.eq_of_getLsbD_eq
  intro i hi
  simp only [BitVec.getLsbD_xor]
  cases a.toBitVec.getLsbD i <;> cases b.toBitVec.getLsbD i <;> cases c.toBitVec.getLsbD i <;> cases d.toBitVec.getLsbD i <;> cases D.toBitVec.getLsbD i <;> rfl
theorem mix_eq {o : Nat → Int32} (ho : ∀ k, k < 16 → isB (o k)) {i : Nat} (hi : i < 16) : ((((dblR (o i) ^^^ dblR (o (i / 4 * 4 + (i % 4 + 1) % 4))) ^^^ o (i / 4 * 4 + (i % 4 + 1) % 4)) ^^^ o (i / 4 * 4 + (i % 4 + 2) % 4)) ^^^ o (i / 4 * 4 + (i % 4 + 3) % 4)) = o i ^^^ mx false o i := by
  unfold mx
  rw [if_neg (by decide), dbl_lin (ho i hi) (ho _ (by omega)), show (i + 1) % 4 = (i % 4 + 1) % 4 by omega]
  generalize eD : dblR (o i) ^^^ dblR (o (i / 4 * 4 + (i % 4 + 1) % 4)) = D
  have hc : i = i / 4 * 4 + i % 4 := by omega
  have h4 : i % 4 = 0 ∨ i % 4 = 1 ∨ i % 4 = 2 ∨ i % 4 = 3 := by omega
  rcases h4 with h | h | h | h
  · rw [h] at hc ⊢
    conv => rhs; lhs; rw [hc]
    exact (mixA _ _ _ _ _).symm
  · rw [h] at hc ⊢
    conv => rhs; lhs; rw [hc]
    exact (mixB _ _ _ _ _).symm
  · rw [h] at hc ⊢
    conv => rhs; lhs; rw [hc]
    exact (mixC _ _ _ _ _).symm
  · rw [h] at hc ⊢
    conv => rhs; lhs; rw [hc]
    exact (mixD _ _ _ _ _).symm
