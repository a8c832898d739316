/-! THE LAW's ROWS: a world beside another that stays -/
def Hw (G : GG) (w : va_W) (A : Nat → Prop) (s : State) (σ : Sg) (H : Heap) (locs : List Loc) : Prop := va_P (gD G) vwCl (gw G σ ++ w) H ∧ va_D A (gw G σ ++ w) ∧ va_S A s.heap H locs
theorem P_left {D : va_G} {cl : List vw_C} {a b : va_W} {H : Heap} (h : va_P D cl (a ++ b) H) : va_P D cl a H := fun k q hk => h k q (by rw [List.getElem?_append_left (List.getElem?_eq_some_iff.mp hk).1]; exact hk)
theorem P_right {D : va_G} {cl : List vw_C} {a b : va_W} {H : Heap} (h : va_P D cl (a ++ b) H) : va_P D cl b H := fun k q hk => h (a.length + k) q (by rw [List.getElem?_append_right (Nat.le_add_right _ _), Nat.add_sub_cancel_left]; exact hk)
theorem D_left {A : Nat → Prop} {a b : va_W} (h : va_D A (a ++ b)) : va_D A a :=
  ⟨fun i j p q hi hj e => h.1 i j p q (by rw [List.getElem?_append_left (List.getElem?_eq_some_iff.mp hi).1]; exact hi) (by rw [List.getElem?_append_left (List.getElem?_eq_some_iff.mp hj).1]; exact hj) e, fun k q hk => h.2 k q (by rw [List.getElem?_append_left (List.getElem?_eq_some_iff.mp hk).1]; exact hk)⟩
theorem D_right {A : Nat → Prop} {a b : va_W} (h : va_D A (a ++ b)) : va_D A b := by
  have sh : ∀ (k : Nat) (q : Nat × va_E), b[k]? = some q → (a ++ b)[a.length + k]? = some q := fun k q hk => by rw [List.getElem?_append_right (Nat.le_add_right _ _), Nat.add_sub_cancel_left]; exact hk
  refine ⟨fun i j p q hi hj e => ?_, fun k q hk => h.2 _ q (sh k q hk)⟩
  have := h.1 _ _ p q (sh i p hi) (sh j q hj) e
  omega
theorem D_cross {A : Nat → Prop} {a b : va_W} (h : va_D A (a ++ b)) : ∀ (i j : Nat) (p q : Nat × va_E), a[i]? = some p → b[j]? = some q → p.1 ≠ q.1 := by
  intro i j p q hi hj e
  have hl := (List.getElem?_eq_some_iff.mp hi).1
  have := h.1 i (a.length + j) p q (by rw [List.getElem?_append_left hl]; exact hi) (by rw [List.getElem?_append_right (Nat.le_add_right _ _), Nat.add_sub_cancel_left]; exact hj) e
  omega
theorem D_swap {A : Nat → Prop} {a b : va_W} (h : va_D A (a ++ b)) : va_D A (b ++ a) := va_D.app (D_right h) (D_left h) (fun i j p q hi hj e => D_cross h j i q p hj hi e.symm)
theorem Hw.swap {G1 G2 : GG} {A : Nat → Prop} {s : State} {σ τ : Sg} {H : Heap} {locs : List Loc} (hD : gD G1 = gD G2) (h : Hw G1 (gw G2 τ) A s σ H locs) : Hw G2 (gw G1 σ) A s τ H locs := by
  refine ⟨?_, D_swap h.2.1, h.2.2⟩
  rw [← hD]
  exact (P_right h.1).app (P_left h.1)
theorem Hw.x {G : GG} {w : va_W} {A : Nat → Prop} {s : State} {σ : Sg} {H : Heap} {locs : List Loc} (h : Hw G w A s σ H locs) : Hx G A s σ H locs := ⟨P_left h.1, D_left h.2.1, h.2.2⟩
theorem Hw.kept {G : GG} {w : va_W} {A : Nat → Prop} {s : State} {σ : Sg} {H H1 : Heap} {locs locs1 : List Loc} (h : Hw G w A s σ H locs) (hq : ∀ q : Nat, q < H.size → H1[q]? = H[q]?) (hS : va_S A s.heap H1 locs1) : Hw G w A s σ H1 locs1 :=
  ⟨h.1.kept (fun k q hk => hq q.1 (h.1 k q hk).lt), h.2.1, hS⟩
theorem Hw.back {G G' : GG} {w : va_W} {A : Nat → Prop} {s : State} {σ σ1 : Sg} {H H1 : Heap} {locs locs1 : List Loc} (h : Hw G w A s σ H locs) (hA : ∀ q, s.heap.size ≤ q → A q) (hk : ∀ q : Nat, q < H.size → ¬ aA G H.size q → H1[q]? = H[q]?) (hg : gD G' = gD G) (hP : va_P (gD G') vwCl (gw G' σ1) H1) (hD : va_D (aA G H.size) (gw G' σ1)) (hS : va_S A s.heap H1 locs1) : Hw G' w A s σ1 H1 locs1 := by
  have out : ∀ (k : Nat) (q : Nat × va_E), w[k]? = some q → q.1 < H.size ∧ ¬ aA G H.size q.1 := by
    intro k q hq
    have hl := (P_right h.1 k q hq).lt
    refine ⟨hl, fun hz => ?_⟩
    rcases hz with ⟨c, hc, e⟩ | hz
    · exact D_cross h.2.1 c k _ q (wl_at hc) hq e.symm
    · omega
  refine ⟨hP.app ?_, va_D.app (hD.weaken (fun _ q _ hz => h.x.free hA q.1 hz)) (D_right h.2.1) (fun i j p q hi hj e => ?_), hS⟩
  · rw [hg]
    exact (P_right h.1).kept (fun k q hq => hk q.1 (out k q hq).1 (out k q hq).2)
  · exact (out j q hj).2 (by rw [← e]; exact hD.2 i p hi)
section RL
variable {p : Program} {l : Launch} {e : Env} {R : Room} {s : State} {m : MethodId} {args : Array Value} {below : List Frame} {meth : Method} {c : Code} {H : Heap} {locs : List Loc} {cells slots : Nat} {Q : State → Prop}
variable {cc bytes : ByteArray} {pc nL k maxL index mc ms : Nat} {ls : Array Slot} {rest st0 As : List Value} {G : GG} {w : va_W} {A : Nat → Prop} {σ : Sg} {y : MethodName} {ws Ts : List Cond} {rm : Room} {own C : String} {ret : Option FieldType}
theorem w_callVi {Q' : Int32 → Sg → Prop} (S : CallFix p m c cc nL s args Ts own) (hK : va_K (gD G) vwCl (gt G) s) (hX : XS (go G) A s) (hA : ∀ q, s.heap.size ≤ q → A q) (hH : Hw G w A s σ H locs) {c0 ci : Nat} {pat : List (Option (Option Nat))} {T : u_T} {N : Nat} (hM : Ki l G y ws rm (.ref (ga G c0) :: As) σ Q') (cw : CallW R s args own C index y bytes maxL ret ws rm 0 0 k) (h0 : isO G ci pat c0) (hc : vwCl[ci]? = some (C, T, N)) (hn : As.length = k) (hsize : ls.size = nL) (hst : st0 = As.reverse ++ .ref (ga G c0) :: rest) (hW : 2 * (F0 m pc ls st0).monitorRoom + (rest.map fun v => v.category).sum ≤ 8) (hcs : cells + 0 ≤ R.cells ∧ slots + 0 ≤ R.slots) (hdg : decode cc pc = .ok (.invokevirtual index, 3))
    (kk : ∀ (r : Int32) (σ1 : Sg) (H1 : Heap) (locs1 : List Loc), Q' r σ1 → Hw G w A s σ1 H1 locs1 → W p l e R s m args below meth c H1 locs1 cells slots Q (F0 m (pc + 3) ls (.int r :: rest))) : W p l e R s m args below meth c H locs cells slots Q (F0 m pc ls st0) :=
  va_calli (va_runV (g := F0 m pc ls st0) S (hM H.size) cw ⟨mPre.blind, va_recv hK hH.x.1 hc (by rw [wl_at h0.1, h0.2]; rfl), g_pre hK hX hA hH.x _⟩ rfl hn hsize hst hW hdg hcs) hH.2.2 (fun q _ h => hH.x.free hA q h) (hH.x.free hA) (fun r u t H1 locs1 ht _ hw hB _ hk hS => kk r u H1 locs1 hw (hH.back hA hk rfl (by rw [← ht]; exact hB.1) hB.2.2 hS))
theorem w_callI {Q' : GG → Sg → Prop} (S : CallFix p m c cc nL s args Ts own) (hK : va_K (gD G) vwCl (gt G) s) (hX : XS (go G) A s) (hA : ∀ q, s.heap.size ≤ q → A q) (hH : Hw G w A s σ H locs) {a0 : Nat} (hM : Kn l G y ws rm (.ref a0 :: As) σ Q' mc ms) (cw : CallB R s args own index y bytes maxL none ws rm mc ms k ∧ y.name = "<init>" ∧ (Cond.instanceMethod y).before args s = true) (hn : As.length = k) (hsize : ls.size = nL) (hst : st0 = As.reverse ++ .ref a0 :: rest) (hW : 2 * (F0 m pc ls st0).monitorRoom + (rest.map fun v => v.category).sum ≤ 8) (hcs : cells + mc ≤ R.cells ∧ slots + ms ≤ R.slots) (hdg : decode cc pc = .ok (.invokespecial index, 3))
    (kk : ∀ (G1 : GG) (σ1 : Sg) (H1 : Heap) (locs1 : List Loc), Q' G1 σ1 → SameG G G1 → Hw G1 w A s σ1 H1 locs1 → W p l e R s m args below meth c H1 locs1 (cells + mc) (slots + ms) Q (F0 m (pc + 3) ls rest)) : W p l e R s m args below meth c H locs cells slots Q (F0 m pc ls st0) :=
  va_callv (va_runI (g := F0 m pc ls st0) S (hM H.size) cw ⟨mPre.blind, g_pre hK hX hA hH.x _⟩ rfl hn hsize hst hW hdg hcs) hH.2.2 (fun q _ h => hH.x.free hA q h) (hH.x.free hA) (fun u t H1 locs1 ht _ hw hB _ hk hS => kk u.1 u.2 H1 locs1 hw hB.1 (hH.back hA hk hB.1.1 (by rw [← ht]; exact hB.2.1) hB.2.2.2 hS))
/-- a new object in a world that is empty yet, beside another -/
theorem w_new (hexec : p.tables.exec = Jvm.exec) (hb : c.code = cc) {T : u_T} {N ci index : Nat} (hts : ∀ w ∈ Ts, w.before args s = true) (hin : ∀ w ∈ u_ws C T N, w ∈ Ts) (ty : Nat → FieldType) (hty : ∀ k, k < N → parseFieldDescriptor (T k).2.2.1 = some (ty k)) (hown : s.vm.findClass own = some m.cls) (hcl : (Cond.classLink own index C).before args s = true) (hinst : (Cond.instantiable C N).before args s = true) (hini : (Cond.initialized C).before args s = true) (hK : va_K (gD G) vwCl (gt G) s) (hP : va_P (gD G) vwCl w H) (hD : va_D A w) (hS : va_S A s.heap H locs) (hA : ∀ q, s.heap.size ≤ q → A q) (hc : vwCl[ci]? = some (C, T, N)) (h0 : gn G = 0) (pat : List (Option (Option Nat))) (hfs : ∀ j, j < N → defaultValue (ty j) = vp_V (pat.mapIdx (mkV (fun _ => 0))) j) (hcells : cells + 1 ≤ R.cells) (hslots : slots + N ≤ R.slots) (hdg : decode cc pc = .ok (.new index, 3))
    (kk : ∀ (q : Nat) (H1 : Heap), Hw (gext G q (.inr (.inr (ci, pat)))) w A s (fun _ _ => 0) H1 locs → W p l e R s m args below meth c H1 locs (cells + 1) (slots + N) Q (F0 m (pc + 3) ls (.ref q :: rest))) : W p l e R s m args below meth c H locs cells slots Q (F0 m pc ls rest) := by
  refine va_new (fs := pat.mapIdx (mkV (fun _ => 0))) hexec hb hts hin ty hty hown hcl hinst hini hK hP hD hS hA hc hfs hcells hslots hdg ?_
  intro q H1 hP1 hD1 hS1
  have e2 : gw (gext G q (.inr (.inr (ci, pat)))) (fun _ _ => 0) = [(q, .inr (ci, pat.mapIdx (mkV (fun _ => 0))))] := by
    show wl (gn G + 1) (va_up (ga G) (gn G) q) (va_up (gs G) (gn G) (.inr (.inr (ci, pat)))) (fun _ _ => 0) = _
    rw [h0]
    simp [wl, va_up, mkE]
  refine kk q H1 ⟨?_, ?_, hS1⟩
  · rw [e2]
    exact (P_right hP1).app (P_left hP1)
  · rw [e2]
    exact D_swap hD1
end RL
