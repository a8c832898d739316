/-! THE LAW, walked; open in the pure part -/
def sbL : List Int32 := [99, 124, 119, 123, 242, 107, 111, 197, 48, 1, 103, 43, 254, 215, 171, 118, 202, 130, 201, 125, 250, 89, 71, 240, 173, 212, 162, 175, 156, 164, 114, 192, 183, 253, 147, 38, 54, 63, 247, 204, 52, 165, 229, 241, 113, 216, 49, 21, 4, 199, 35, 195, 24, 150, 5, 154, 7, 18, 128, 226, 235, 39, 178, 117, 9, 131, 44, 26, 27, 110, 90, 160, 82, 59, 214, 179, 41, 227, 47, 132, 83, 209, 0, 237, 32, 252, 177, 91, 106, 203, 190, 57, 74, 76, 88, 207, 208, 239, 170, 251, 67, 77, 51, 133, 69, 249, 2, 127, 80, 60, 159, 168, 81, 163, 64, 143, 146, 157, 56, 245, 188, 182, 218, 33, 16, 255, 243, 210, 205, 12, 19, 236, 95, 151, 68, 23, 196, 167, 126, 61, 100, 93, 25, 115, 96, 129, 79, 220, 34, 42, 144, 136, 70, 238, 184, 20, 222, 94, 11, 219, 224, 50, 58, 10, 73, 6, 36, 92, 194, 211, 172, 98, 145, 149, 228, 121, 231, 200, 55, 109, 141, 213, 78, 169, 108, 86, 244, 234, 101, 122, 174, 8, 186, 120, 37, 46, 28, 166, 180, 198, 232, 221, 116, 31, 75, 189, 139, 138, 112, 62, 181, 102, 72, 3, 246, 14, 97, 53, 87, 185, 134, 193, 29, 158, 225, 248, 152, 17, 105, 217, 142, 148, 155, 30, 135, 233, 206, 85, 40, 223, 140, 161, 137, 13, 191, 230, 66, 104, 65, 153, 45, 15, 176, 84, 187, 22]
def sbT (j : Nat) : Int32 := sbL.getD j 0
def St_feed (Rel : Nat → Nat → Sg → Sg → Prop) : Prop := ∀ (n P : Nat) (σ τ : Sg) (a b c d e : Int32) , n < 64 → Rel n P σ τ → wpX8_feed P a b c d e σ (fun r σ1 => wpX9_feed a b c d e τ (fun q τ1 => r = q ∧ Rel (n + 1) P σ1 τ1))
def St_end (Rel : Nat → Nat → Sg → Sg → Prop) : Prop := ∀ (n P : Nat) (σ τ : Sg) (a : Int32) , n < 64 → Rel n P σ τ → wpX8_end P a σ (fun r σ1 => wpX9_end a τ (fun q τ1 => r = q ∧ Rel (n + 1) P σ1 τ1))
def St_send (Rel : Nat → Nat → Sg → Sg → Prop) : Prop := ∀ (n P : Nat) (σ τ : Sg) (a b : Int32) , n < 64 → Rel n P σ τ → wpX8_send P a b σ (fun r σ1 => wpX9_send a b τ (fun q τ1 => r = q ∧ Rel (n + 1) P σ1 τ1))
def St_rate (Rel : Nat → Nat → Sg → Sg → Prop) : Prop := ∀ (n P : Nat) (σ τ : Sg) (a b : Int32) , n < 64 → Rel n P σ τ → wpX8_rate P a b σ (fun r σ1 => wpX9_rate a b τ (fun q τ1 => r = q ∧ Rel (n + 1) P σ1 τ1))
def St_tick (Rel : Nat → Nat → Sg → Sg → Prop) : Prop := ∀ (n P : Nat) (σ τ : Sg) (a b c : Int32) , n < 64 → Rel n P σ τ → wpX8_tick P sbT a b c σ (fun r σ1 => wpX9_tick a b c τ (fun q τ1 => r = q ∧ Rel (n + 1) P σ1 τ1))
def St_renew (Rel : Nat → Nat → Sg → Sg → Prop) : Prop := ∀ (n P : Nat) (σ τ : Sg) , n < 64 → Rel n P σ τ → wpX8_renew P sbT  σ (fun r σ1 => wpX9_renew  τ (fun q τ1 => r = q ∧ Rel (n + 1) P σ1 τ1))
def St_block (Rel : Nat → Nat → Sg → Sg → Prop) : Prop := ∀ (n P : Nat) (σ τ : Sg) (a b : Int32) , n < 64 → Rel n P σ τ → wpX8_block P a b σ (fun r σ1 => wpX9_block a b τ (fun q τ1 => r = q ∧ Rel (n + 1) P σ1 τ1))
def St_sender (Rel : Nat → Nat → Sg → Sg → Prop) : Prop := ∀ (n P : Nat) (σ τ : Sg) (a b c : Int32) , n < 64 → Rel n P σ τ → wpX8_sender P a b c σ (fun r σ1 => wpX9_sender a b c τ (fun q τ1 => r = q ∧ Rel (n + 1) P σ1 τ1))
def St_receiver (Rel : Nat → Nat → Sg → Sg → Prop) : Prop := ∀ (n P : Nat) (σ τ : Sg) (a b c : Int32) , n < 64 → Rel n P σ τ → wpX8_receiver P a b c σ (fun r σ1 => wpX9_receiver a b c τ (fun q τ1 => r = q ∧ Rel (n + 1) P σ1 τ1))
def St_delivered (Rel : Nat → Nat → Sg → Sg → Prop) : Prop := ∀ (n P : Nat) (σ τ : Sg) (a b c : Int32) , n < 64 → Rel n P σ τ → wpX8_delivered P a b c σ (fun r σ1 => wpX9_delivered a b c τ (fun q τ1 => r = q ∧ Rel (n + 1) P σ1 τ1))
def St_unit (Rel : Nat → Nat → Sg → Sg → Prop) : Prop := ∀ (n P : Nat) (σ τ : Sg) (a b c : Int32) , n < 64 → Rel n P σ τ → wpX8_unit P a b c σ (fun r σ1 => wpX9_unit a b c τ (fun q τ1 => r = q ∧ Rel (n + 1) P σ1 τ1))
def St_process (Rel : Nat → Nat → Sg → Sg → Prop) : Prop := ∀ (n P : Nat) (σ τ : Sg) (a b c : Int32) , n < 64 → Rel n P σ τ → wpX8_process P a b c σ (fun r σ1 => wpX9_process a b c τ (fun q τ1 => r = q ∧ Rel (n + 1) P σ1 τ1))
def St_world (Rel : Nat → Nat → Sg → Sg → Prop) : Prop := ∀ (n P : Nat) (σ τ : Sg) (a : Int32) , n < 64 → Rel n P σ τ → wpX8_world P a σ (fun r σ1 => wpX9_world a τ (fun q τ1 => r = q ∧ Rel (n + 1) P σ1 τ1))
def StepOK (Rel : Nat → Nat → Sg → Sg → Prop) : Prop := (∀ n P σ τ, Rel n P σ τ → Rel (n + 1) P σ τ) ∧ St_feed Rel ∧ St_end Rel ∧ St_send Rel ∧ St_rate Rel ∧ St_tick Rel ∧ St_renew Rel ∧ St_block Rel ∧ St_sender Rel ∧ St_receiver Rel ∧ St_delivered Rel ∧ St_unit Rel ∧ St_process Rel ∧ St_world Rel
def InitC (INC : Int32 → Int32 → Nat → Sg → Prop) : Prop := ∀ (kA : Nat → ClassId) (G : GG) (a0 : Nat) (x y : Int32) (Q : GG → Sg → Prop), gn G = 1 → ga G 0 = a0 → gs G 0 = .inr (.inr (8, [none, none, some none, none, some none, some none, some none, some none, some none, none, none, none, none, none, none, none])) → kOK kA G → (∀ (P : Nat) (G1 : GG) (σ1 : Sg), isHouse G1 P → ga G1 0 = a0 → INC x y P σ1 → Q G1 σ1) → wpX8_init kA sbT G a0 x y (fun _ _ => 0) Q
def InitM (INM : Int32 → Int32 → Sg → Prop) : Prop := ∀ (kA : Nat → ClassId) (G : GG) (a0 : Nat) (x y : Int32) (Q : GG → Sg → Prop), gn G = 1 → ga G 0 = a0 → gs G 0 = .inr (.inr (9, [none, none, none, none, none, none, none, none, none, some none, none, some none, some none, some none, some none, some none, some none, some none, some none, some none, some none, some none, some none, some none, some none, some none, some none, some none, some none, some none, some none, some none, some none, some none, some none, some none, some none, some none, some none, some none, some none, some none, some none, some none, some none, some none, some none, some none, some none, some none, some none, some none, some none, some none, some none, some none, some none, some none, some none, some none, some none, some none, some none, some none, some none, some none, some none, some none, some none, some none, some none, some none, some none, some none, some none, some none, some none, some none, some none, some none, some none, some none])) → kOK kA G → (∀ (G1 : GG) (σ1 : Sg), isModel G1 → ga G1 0 = a0 → INM x y σ1 → Q G1 σ1) → wpX9_init kA G a0 x y (fun _ _ => 0) Q
/- the words of cell: Cond.code ⟨"BearerHouseLaw", "cell", "([II)I"⟩ method_2_code 2 (Option.some FieldType.int) -/
def celv (L : Nat) (xs : Nat → Int32) (k : Int32) : Int32 := if nI L ≤ k then 0 else xs k.toNatClampNeg
set_option maxHeartbeats 4000000 in
set_option maxRecDepth 100000 in
theorem tL_cell {l : Launch} {b L : Nat} {xs : Nat → Int32} {k : Int32} (hk : ¬ nI L ≤ k → vp_in k L) : Met l yL_cell (wB yL_cell cL_cell 2 (some .int)) ({ frames := 0, cells := 0, slots := 0, locals := 0 }) (va_Pc [.ref b, .int k] (fun U => va_X b L xs U U.heap)) (va_Qi (fun (r : Int32) (_ : Unit) => r = celv L xs k) (fun _ _ => True) (fun _ => False)) 0 0 (fun _ => False) := by
  refine Met.ofW (cc := cL_cell) (maxL := 2) (ret := (some .int)) (by decide) rfl ?_
  intro p e s m args below meth c s₁ B hml hv
  obtain ⟨rfl, hX⟩ := hv
  have hx := B.exec
  have hb := B.bytes
  have hr := B.returns
  have hlk := B.notSynchronized
  have hbl : b < s.heap.size := by
    obtain ⟨scr, h1, -⟩ := hX
    exact (Array.getElem?_eq_some_iff.mp h1).1
  have hS : va_S (fun _ => False) s.heap s.heap [] := va_S.rf
  have hl := lv_entry ([.ref b, .int k]) (n := 2) (Nat.le_of_ble_eq_true rfl)
  rw [lg_entry_eq]
  generalize (lg_sl ([.ref b, .int k]) ++ List.replicate (2 - (lg_sl ([.ref b, .int k])).length) Slot.unset).toArray = ls at hl ⊢
  replace hl : lv_has ls 2 [(0, .ref b), (1, .int k)] := hl
  refine lv_iload_n hx hb dL_cell_0 rfl (lv_at hl 1 rfl) ?_
  refine lv_aload_n hx hb dL_cell_1 rfl (lv_at hl 0 rfl) ?_
  refine va_slen hx hb hX hbl (fun h => h) hS dL_cell_2 ?_
  refine lv_icmp_ge (tgt := 12) hx hb dL_cell_3 (by decide) (fun q1 => ?_) (fun q1 => ?_)
  · refine lv_iconst (v := 0) hx hb dL_cell_12 (by decide) ?_
    exact W.iret (v := 0) hx hb hr (fun t ht hW => ⟨⟨0, (), rfl, by unfold celv; rw [if_pos (show nI L ≤ k from q1)], trivial⟩, hS.F ht⟩) (fun _ h => by cases h) dL_cell_13
  · refine lv_aload_n hx hb dL_cell_6 rfl (lv_at hl 0 rfl) ?_
    refine lv_iload_n hx hb dL_cell_7 rfl (lv_at hl 1 rfl) ?_
    refine va_sld hx hb hX hbl (fun h => h) hS (hk q1) dL_cell_8 ?_
    refine lv_goto (tgt := 13) hx hb dL_cell_9 (by decide) ?_
    exact W.iret (v := xs k.toNatClampNeg) hx hb hr (fun t ht hW => ⟨⟨_, (), rfl, by unfold celv; rw [if_neg (show ¬ nI L ≤ k from q1)], trivial⟩, hS.F ht⟩) (fun _ h => by cases h) dL_cell_13
theorem blindX {b L : Nat} {xs : Nat → Int32} {av : List Value} : FrameBlind (va_Pc av (fun U => va_X b L xs U U.heap)) := fun a U g mk q => ⟨q.1, va_X.moved (u := U) (U := U.calling g mk a) (Vm.Alike.refl U.vm) q.2⟩
theorem gSL_cell : GoodIn BIG (va_wsS RL 9 yL_cell (wB yL_cell cL_cell 2 (some .int))) := goodS bw4_90 bw4_91 bw1_0 bw4_92
def mid (j : Nat) : Cond := .eq (.elem (.static "BearerHouse" "SBOX" "[I") (.int (Int32.ofNat j))) (.int (sbT j))
set_option maxRecDepth 100000 in
theorem mid_in : (flatC (Jvm.Cond.and given_1 narrow_1)).drop 7 = (List.range 256).map mid := by decide +kernel
theorem sbX_at {args : Array Value} {s : State} (h : (Jvm.Cond.and given_1 narrow_1).before args s = true) (hl : (Cond.laysStatic "BearerHouse" "SBOX" "[I").before args s = true) (hi : (Cond.initialized "BearerHouse").before args s = true) {A : Nat → Prop} (hA : ∀ a : Nat, a < s.heap.size → ¬ A a) : ∃ t : Nat, va_Z "BearerHouse" "SBOX" "[I" (.ref t) A s s.heap ∧ va_T .int t 256 (fun j => .int (sbT j)) A s s.heap := by
  have hs := flat_of_before _ h
  have harr : (Cond.arrayOf (.static "BearerHouse" "SBOX" "[I") .int).before args s = true := hs _ (by decide +kernel)
  have hlen : (Cond.eq (.length (.static "BearerHouse" "SBOX" "[I")) (.int 256)).before args s = true := hs _ (by decide +kernel)
  have hel : ∀ j : Nat, j < 256 → (Term.elem (.static "BearerHouse" "SBOX" "[I") (.int (Int32.ofNat j))).eval args s none [] s = some (.int (sbT j)) := by
    intro j hj
    have h1 : mid j ∈ (flatC (Jvm.Cond.and given_1 narrow_1)).drop 7 := by rw [mid_in]; exact List.mem_map.mpr ⟨j, List.mem_range.mpr hj, rfl⟩
    exact va_eqt (hs _ (List.mem_of_mem_drop h1))
  obtain ⟨t, ht, hT⟩ := va_Tof (A := A) (by decide) harr (va_eqt hlen) hel hA
  exact ⟨t, va_Zof hl hi ht hA, hT⟩
