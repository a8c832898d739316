/-! ROWS over the table of cells -/
section RW
variable {p : Program} {l : Launch} {e : Env} {R : Room} {s : State} {m : MethodId} {args : Array Value} {below : List Frame} {meth : Method} {c : Code} {H : Heap} {locs : List Loc} {cells slots : Nat} {Q : State → Prop}
variable {cc : ByteArray} {pc : Nat} {ls : Array Slot} {rest : List Value} {G : GG} {A : Nat → Prop} {σ : Sg}
theorem g_geti (hexec : p.tables.exec = Jvm.exec) (hb : c.code = cc) {own ref C : String} {T : u_T} {N ci index : Nat} {Ts : List Cond} (hts : ∀ w ∈ Ts, w.before args s = true) (hin : ∀ w ∈ u_ws C T N, w ∈ Ts) (hown : s.vm.findClass own = some m.cls) (hK : va_K (gD G) vwCl (gt G) s) (hH : Hx G A s σ H locs) {c0 : Nat} {pat : List (Option (Option Nat))} (h0 : c0 < gn G ∧ gs G c0 = .inr (.inr (ci, pat))) (hc : vwCl[ci]? = some (C, T, N)) (k : Nat) (hk : k < N) (hlink : (Cond.fieldLink own index ref (T k).2.1 (T k).2.2.1).before args s = true) (href : (T k).1 = ref) (hp : pat[k]? = some none) (hdg : decode cc pc = .ok (.getfield index, 3))
    (kk : W p l e R s m args below meth c H locs cells slots Q (F0 m (pc + 3) ls (.int (σ c0 k) :: rest))) : W p l e R s m args below meth c H locs cells slots Q (F0 m pc ls (.ref (ga G c0) :: rest)) := by
  refine va_get (v := .int (σ c0 k)) (fs := pat.mapIdx (mkV (σ c0))) hexec hb hts hin hown hK hH.1 c0 (by rw [wl_at h0.1, h0.2]; rfl) hc k hk hlink (fun x h => by rw [← href]; exact h) ?_ hdg kk
  rw [List.getElem?_mapIdx, hp]
  rfl
theorem g_getr (hexec : p.tables.exec = Jvm.exec) (hb : c.code = cc) {own ref C : String} {T : u_T} {N ci index : Nat} {Ts : List Cond} (hts : ∀ w ∈ Ts, w.before args s = true) (hin : ∀ w ∈ u_ws C T N, w ∈ Ts) (hown : s.vm.findClass own = some m.cls) (hK : va_K (gD G) vwCl (gt G) s) (hH : Hx G A s σ H locs) {c0 : Nat} {pat : List (Option (Option Nat))} (h0 : c0 < gn G ∧ gs G c0 = .inr (.inr (ci, pat))) (hc : vwCl[ci]? = some (C, T, N)) (k : Nat) (hk : k < N) (hlink : (Cond.fieldLink own index ref (T k).2.1 (T k).2.2.1).before args s = true) (href : (T k).1 = ref) {c1 : Nat} (hp : pat[k]? = some (some (some (ga G c1)))) (hdg : decode cc pc = .ok (.getfield index, 3))
    (kk : W p l e R s m args below meth c H locs cells slots Q (F0 m (pc + 3) ls (.ref (ga G c1) :: rest))) : W p l e R s m args below meth c H locs cells slots Q (F0 m pc ls (.ref (ga G c0) :: rest)) := by
  refine va_get (v := .ref (ga G c1)) (fs := pat.mapIdx (mkV (σ c0))) hexec hb hts hin hown hK hH.1 c0 (by rw [wl_at h0.1, h0.2]; rfl) hc k hk hlink (fun x h => by rw [← href]; exact h) ?_ hdg kk
  rw [List.getElem?_mapIdx, hp]
  rfl
theorem g_put (hexec : p.tables.exec = Jvm.exec) (hb : c.code = cc) {own ref C : String} {T : u_T} {N ci index : Nat} {Ts : List Cond} (hts : ∀ w ∈ Ts, w.before args s = true) (hin : ∀ w ∈ u_ws C T N, w ∈ Ts) (ty0 : Nat → FieldType) (hty : ∀ k, k < N → parseFieldDescriptor (T k).2.2.1 = some (ty0 k)) (hnm : ∀ a, a < N → ∀ b, b < N → a ≠ b → (T a).2.1 ≠ (T b).2.1) (hown : s.vm.findClass own = some m.cls) (hK : va_K (gD G) vwCl (gt G) s) (hH : Hx G A s σ H locs) {c0 : Nat} {pat : List (Option (Option Nat))} (h0 : c0 < gn G ∧ gs G c0 = .inr (.inr (ci, pat))) (hc : vwCl[ci]? = some (C, T, N)) (k : Nat) (hk : k < N) (hlink : (Cond.fieldLink own index ref (T k).2.1 (T k).2.2.1).before args s = true) (href : (T k).1 = ref) (hp : pat[k]? = some none) (hfin : (T k).2.2.2 = false) {v : Int32} (hn : narrow (ty0 k) (.int v) = .int v) (hfit : fits (ty0 k) (.int v) = true) (hdg : decode cc pc = .ok (.putfield index, 3))
    (kk : ∀ σ1 : Sg, σ1 = up2 σ c0 k v → ∀ (H1 : Heap) (locs1 : List Loc), Hx G A s σ1 H1 locs1 → W p l e R s m args below meth c H1 locs1 cells slots Q (F0 m (pc + 3) ls rest)) : W p l e R s m args below meth c H locs cells slots Q (F0 m pc ls (.int v :: .ref (ga G c0) :: rest)) := by
  refine va_put (ty := ty0 k) (v := .int v) (fs := pat.mapIdx (mkV (σ c0))) hexec hb hts hin ty0 hty hnm hown hK hH.1 hH.2.1 hH.2.2 c0 (by rw [wl_at h0.1, h0.2]; rfl) hc k hk hlink (fun x h => by rw [← href]; exact h) hfin (hty k hk) hn hfit ?_ hdg ?_
  · rw [List.length_mapIdx]
    exact (List.getElem?_eq_some_iff.mp hp).1
  · intro H1 locs1 hP hD hS
    have e1 : (gw G σ).set c0 (ga G c0, .inr (ci, (pat.mapIdx (mkV (σ c0))).set k (.int v))) = gw G (up2 σ c0 k v) := by
      refine wl_set h0.1 ?_ (fun d hd => up2_o hd)
      rw [h0.2, up2_s, mk_set hp]
      rfl
    rw [e1] at hP hD
    exact kk _ rfl H1 locs1 ⟨hP, hD, hS⟩
theorem g_getiN (hexec : p.tables.exec = Jvm.exec) (hb : c.code = cc) {own ref C host : String} {T : u_T} {N ci index : Nat} {Ts : List Cond} (hts : ∀ w ∈ Ts, w.before args s = true) (hin : ∀ w ∈ u_ws C T N, w ∈ Ts) (hown : s.vm.findClass own = some m.cls) (hK : va_K (gD G) vwCl (gt G) s) (hH : Hx G A s σ H locs) {c0 : Nat} {pat : List (Option (Option Nat))} (h0 : c0 < gn G ∧ gs G c0 = .inr (.inr (ci, pat))) (hc : vwCl[ci]? = some (C, T, N)) (k : Nat) (hk : k < N) (hlink : (Cond.fieldLinkNest own index ref (T k).2.1 (T k).2.2.1 host).before args s = true) (href : (T k).1 = ref) (hp : pat[k]? = some none) (hdg : decode cc pc = .ok (.getfield index, 3))
    (kk : W p l e R s m args below meth c H locs cells slots Q (F0 m (pc + 3) ls (.int (σ c0 k) :: rest))) : W p l e R s m args below meth c H locs cells slots Q (F0 m pc ls (.ref (ga G c0) :: rest)) := by
  refine va_getN (v := .int (σ c0 k)) (fs := pat.mapIdx (mkV (σ c0))) hexec hb hts hin hown hK hH.1 c0 (by rw [wl_at h0.1, h0.2]; rfl) hc k hk hlink (fun x h => by rw [← href]; exact h) ?_ hdg kk
  rw [List.getElem?_mapIdx, hp]
  rfl
theorem g_getrN (hexec : p.tables.exec = Jvm.exec) (hb : c.code = cc) {own ref C host : String} {T : u_T} {N ci index : Nat} {Ts : List Cond} (hts : ∀ w ∈ Ts, w.before args s = true) (hin : ∀ w ∈ u_ws C T N, w ∈ Ts) (hown : s.vm.findClass own = some m.cls) (hK : va_K (gD G) vwCl (gt G) s) (hH : Hx G A s σ H locs) {c0 : Nat} {pat : List (Option (Option Nat))} (h0 : c0 < gn G ∧ gs G c0 = .inr (.inr (ci, pat))) (hc : vwCl[ci]? = some (C, T, N)) (k : Nat) (hk : k < N) (hlink : (Cond.fieldLinkNest own index ref (T k).2.1 (T k).2.2.1 host).before args s = true) (href : (T k).1 = ref) {c1 : Nat} (hp : pat[k]? = some (some (some (ga G c1)))) (hdg : decode cc pc = .ok (.getfield index, 3))
    (kk : W p l e R s m args below meth c H locs cells slots Q (F0 m (pc + 3) ls (.ref (ga G c1) :: rest))) : W p l e R s m args below meth c H locs cells slots Q (F0 m pc ls (.ref (ga G c0) :: rest)) := by
  refine va_getN (v := .ref (ga G c1)) (fs := pat.mapIdx (mkV (σ c0))) hexec hb hts hin hown hK hH.1 c0 (by rw [wl_at h0.1, h0.2]; rfl) hc k hk hlink (fun x h => by rw [← href]; exact h) ?_ hdg kk
  rw [List.getElem?_mapIdx, hp]
  rfl
theorem g_putN (hexec : p.tables.exec = Jvm.exec) (hb : c.code = cc) {own ref C host : String} {T : u_T} {N ci index : Nat} {Ts : List Cond} (hts : ∀ w ∈ Ts, w.before args s = true) (hin : ∀ w ∈ u_ws C T N, w ∈ Ts) (ty0 : Nat → FieldType) (hty : ∀ k, k < N → parseFieldDescriptor (T k).2.2.1 = some (ty0 k)) (hnm : ∀ a, a < N → ∀ b, b < N → a ≠ b → (T a).2.1 ≠ (T b).2.1) (hown : s.vm.findClass own = some m.cls) (hK : va_K (gD G) vwCl (gt G) s) (hH : Hx G A s σ H locs) {c0 : Nat} {pat : List (Option (Option Nat))} (h0 : c0 < gn G ∧ gs G c0 = .inr (.inr (ci, pat))) (hc : vwCl[ci]? = some (C, T, N)) (k : Nat) (hk : k < N) (hlink : (Cond.fieldLinkNest own index ref (T k).2.1 (T k).2.2.1 host).before args s = true) (href : (T k).1 = ref) (hp : pat[k]? = some none) (hfin : (T k).2.2.2 = false) {v : Int32} (hn : narrow (ty0 k) (.int v) = .int v) (hfit : fits (ty0 k) (.int v) = true) (hdg : decode cc pc = .ok (.putfield index, 3))
    (kk : ∀ σ1 : Sg, σ1 = up2 σ c0 k v → ∀ (H1 : Heap) (locs1 : List Loc), Hx G A s σ1 H1 locs1 → W p l e R s m args below meth c H1 locs1 cells slots Q (F0 m (pc + 3) ls rest)) : W p l e R s m args below meth c H locs cells slots Q (F0 m pc ls (.int v :: .ref (ga G c0) :: rest)) := by
  refine va_putN (ty := ty0 k) (v := .int v) (fs := pat.mapIdx (mkV (σ c0))) hexec hb hts hin ty0 hty hnm hown hK hH.1 hH.2.1 hH.2.2 c0 (by rw [wl_at h0.1, h0.2]; rfl) hc k hk hlink (fun x h => by rw [← href]; exact h) hfin (hty k hk) hn hfit ?_ hdg ?_
  · rw [List.length_mapIdx]
    exact (List.getElem?_eq_some_iff.mp hp).1
  · intro H1 locs1 hP hD hS
    have e1 : (gw G σ).set c0 (ga G c0, .inr (ci, (pat.mapIdx (mkV (σ c0))).set k (.int v))) = gw G (up2 σ c0 k v) := by
      refine wl_set h0.1 ?_ (fun d hd => up2_o hd)
      rw [h0.2, up2_s, mk_set hp]
      rfl
    rw [e1] at hP hD
    exact kk _ rfl H1 locs1 ⟨hP, hD, hS⟩
theorem g_iald (hexec : p.tables.exec = Jvm.exec) (hb : c.code = cc) (hK : va_K (gD G) vwCl (gt G) s) (hH : Hx G A s σ H locs) {c0 : Nat} {N : Nat} (h0 : isI G N c0) {i : Int32} (hin : vp_in i N) (hdg : decode cc pc = .ok (.iaload, 1))
    (kk : W p l e R s m args below meth c H locs cells slots Q (F0 m (pc + 1) ls (.int (σ c0 i.toNatClampNeg) :: rest))) : W p l e R s m args below meth c H locs cells slots Q (F0 m pc ls (.int i :: .ref (ga G c0) :: rest)) := by
  obtain ⟨cA, h0, ht⟩ := h0
  exact va_iald hexec hb hK hH.1 c0 0 (by rw [wl_at h0.1, h0.2]; rfl) ht hin hdg kk
theorem g_zald (hexec : p.tables.exec = Jvm.exec) (hb : c.code = cc) (hK : va_K (gD G) vwCl (gt G) s) (hH : Hx G A s σ H locs) {c0 : Nat} {N : Nat} (h0 : isZ G N c0) {i : Int32} (hin : vp_in i N) (hdg : decode cc pc = .ok (.baload, 1))
    (kk : W p l e R s m args below meth c H locs cells slots Q (F0 m (pc + 1) ls (.int (σ c0 i.toNatClampNeg) :: rest))) : W p l e R s m args below meth c H locs cells slots Q (F0 m pc ls (.int i :: .ref (ga G c0) :: rest)) := by
  obtain ⟨cA, h0, ht⟩ := h0
  exact va_zald hexec hb hK hH.1 c0 1 (by rw [wl_at h0.1, h0.2]; rfl) ht hin hdg kk
theorem g_iast (hexec : p.tables.exec = Jvm.exec) (hb : c.code = cc) (hK : va_K (gD G) vwCl (gt G) s) (hH : Hx G A s σ H locs) {c0 : Nat} {N : Nat} (h0 : isI G N c0) {i x : Int32} (hin : vp_in i N) (hdg : decode cc pc = .ok (.iastore, 1))
    (kk : ∀ σ1 : Sg, σ1 = up2 σ c0 i.toNatClampNeg x → ∀ (H1 : Heap) (locs1 : List Loc), Hx G A s σ1 H1 locs1 → W p l e R s m args below meth c H1 locs1 cells slots Q (F0 m (pc + 1) ls rest)) : W p l e R s m args below meth c H locs cells slots Q (F0 m pc ls (.int x :: .int i :: .ref (ga G c0) :: rest)) := by
  obtain ⟨cA, h0, ht⟩ := h0
  refine va_iast (f := σ c0) (n := N) (cA := cA) hexec hb hK hH.1 hH.2.1 hH.2.2 c0 0 (by rw [wl_at h0.1, h0.2]; rfl) ht hin hdg ?_
  intro H1 locs1 hP hD hS
  have e1 : (gw G σ).set c0 (ga G c0, .inl (cA, N, .inl (upd (σ c0) i.toNatClampNeg x))) = gw G (up2 σ c0 i.toNatClampNeg x) := by
    refine wl_set h0.1 ?_ (fun d hd => up2_o hd)
    rw [h0.2, up2_s]
    rfl
  rw [e1] at hP hD
  exact kk _ rfl H1 locs1 ⟨hP, hD, hS⟩
def vz (x : Int32) : Prop := x = 0 ∨ x = 1
theorem vz0 : vz 0 := Or.inl rfl
theorem vz1 : vz 1 := Or.inr rfl
theorem vz_nar {x : Int32} (h : vz x) : vp_nar .boolean x = x := by rcases h with rfl | rfl <;> rfl
theorem vz_n {x : Int32} (h : vz x) : narrow .boolean (.int x) = .int x := by rcases h with rfl | rfl <;> rfl
theorem vz_f {x : Int32} (h : vz x) : fits .boolean (.int x) = true := by rcases h with rfl | rfl <;> rfl
theorem g_zast (hexec : p.tables.exec = Jvm.exec) (hb : c.code = cc) (hK : va_K (gD G) vwCl (gt G) s) (hH : Hx G A s σ H locs) {c0 : Nat} {N : Nat} (h0 : isZ G N c0) {i x : Int32} (hz : vz x) (hin : vp_in i N) (hdg : decode cc pc = .ok (.bastore, 1))
    (kk : ∀ σ1 : Sg, σ1 = up2 σ c0 i.toNatClampNeg x → ∀ (H1 : Heap) (locs1 : List Loc), Hx G A s σ1 H1 locs1 → W p l e R s m args below meth c H1 locs1 cells slots Q (F0 m (pc + 1) ls rest)) : W p l e R s m args below meth c H locs cells slots Q (F0 m pc ls (.int x :: .int i :: .ref (ga G c0) :: rest)) := by
  obtain ⟨cA, h0, ht⟩ := h0
  refine va_zast (f := σ c0) (n := N) (cA := cA) hexec hb hK hH.1 hH.2.1 hH.2.2 c0 1 (by rw [wl_at h0.1, h0.2]; rfl) ht hin hdg ?_
  intro H1 locs1 hP hD hS
  rw [vz_nar hz] at hP hD
  have e1 : (gw G σ).set c0 (ga G c0, .inl (cA, N, .inl (upd (σ c0) i.toNatClampNeg x))) = gw G (up2 σ c0 i.toNatClampNeg x) := by
    refine wl_set h0.1 ?_ (fun d hd => up2_o hd)
    rw [h0.2, up2_s]
    rfl
  rw [e1] at hP hD
  exact kk _ rfl H1 locs1 ⟨hP, hD, hS⟩
theorem g_aald (hexec : p.tables.exec = Jvm.exec) (hb : c.code = cc) (hK : va_K (gD G) vwCl (gt G) s) (hH : Hx G A s σ H locs) {c0 : Nat} {t0 N : Nat} {C : String} {f : Nat → Nat} (h0 : isR G t0 C N f c0) {i : Int32} (hin : vp_in i N) (hdg : decode cc pc = .ok (.aaload, 1))
    (kk : W p l e R s m args below meth c H locs cells slots Q (F0 m (pc + 1) ls (.ref (ga G (f i.toNatClampNeg)) :: rest))) : W p l e R s m args below meth c H locs cells slots Q (F0 m pc ls (.int i :: .ref (ga G c0) :: rest)) := by
  obtain ⟨cA, g, h0, ht, hg⟩ := h0
  refine va_aldq (f := g) (n := N) (cA := cA) hexec hb hK hH.1 c0 t0 (by rw [wl_at h0.1, h0.2]; rfl) ht hin hdg ?_
  rw [hg _ (vp_lt hin)]
  exact kk
theorem g_aleni (hexec : p.tables.exec = Jvm.exec) (hb : c.code = cc) (hK : va_K (gD G) vwCl (gt G) s) (hH : Hx G A s σ H locs) {c0 : Nat} {N : Nat} (h0 : isI G N c0) (hdg : decode cc pc = .ok (.arraylength, 1))
    (kk : W p l e R s m args below meth c H locs cells slots Q (F0 m (pc + 1) ls (.int (nI N) :: rest))) : W p l e R s m args below meth c H locs cells slots Q (F0 m pc ls (.ref (ga G c0) :: rest)) := by
  obtain ⟨cA, h0, ht⟩ := h0
  exact va_alen (x := (N, .inl (σ c0))) hexec hb hK hH.1 c0 0 (by rw [wl_at h0.1, h0.2]; rfl) ht rfl hdg kk
theorem g_alenz (hexec : p.tables.exec = Jvm.exec) (hb : c.code = cc) (hK : va_K (gD G) vwCl (gt G) s) (hH : Hx G A s σ H locs) {c0 : Nat} {N : Nat} (h0 : isZ G N c0) (hdg : decode cc pc = .ok (.arraylength, 1))
    (kk : W p l e R s m args below meth c H locs cells slots Q (F0 m (pc + 1) ls (.int (nI N) :: rest))) : W p l e R s m args below meth c H locs cells slots Q (F0 m pc ls (.ref (ga G c0) :: rest)) := by
  obtain ⟨cA, h0, ht⟩ := h0
  exact va_alen (x := (N, .inl (σ c0))) hexec hb hK hH.1 c0 1 (by rw [wl_at h0.1, h0.2]; rfl) ht rfl hdg kk
theorem g_alenr (hexec : p.tables.exec = Jvm.exec) (hb : c.code = cc) (hK : va_K (gD G) vwCl (gt G) s) (hH : Hx G A s σ H locs) {c0 : Nat} {t0 N : Nat} {C : String} {f : Nat → Nat} (h0 : isR G t0 C N f c0) (hdg : decode cc pc = .ok (.arraylength, 1))
    (kk : W p l e R s m args below meth c H locs cells slots Q (F0 m (pc + 1) ls (.int (nI N) :: rest))) : W p l e R s m args below meth c H locs cells slots Q (F0 m pc ls (.ref (ga G c0) :: rest)) := by
  obtain ⟨cA, g, h0, ht, -⟩ := h0
  exact va_alen (x := (N, .inr (.inr (.inr (.inr g))))) hexec hb hK hH.1 c0 t0 (by rw [wl_at h0.1, h0.2]; rfl) ht rfl hdg kk
theorem g_copy (hexec : p.tables.exec = Jvm.exec) (hb : c.code = cc) (hml : c.maxLocals = ls.size) {own : String} {index : Nat} (hown : s.vm.findClass own = some m.cls) (hlink : (Cond.methodLink own index arraycopyName).before args s = true) (hnat : (Cond.native arraycopyName).before args s = true) (hstat : (Cond.static arraycopyName).before args s = true) (hini : (Cond.initialized "java/lang/System").before args s = true)
    (hK : va_K (gD G) vwCl (gt G) s) (hH : Hx G A s σ H locs) {c0 c1 : Nat} {n0 n1 : Nat} (h0 : isI G n0 c0) (h1 : isI G n1 c1) {sp dp n : Int32} (g1 : ¬ sp < 0) (g2 : ¬ dp < 0) (g3 : ¬ n < 0) (g4 : sp.toNatClampNeg + n.toNatClampNeg ≤ n0) (g5 : dp.toNatClampNeg + n.toNatClampNeg ≤ n1)
    (hframes : 1 ≤ R.frames) (hlocals : (rest.map fun v => v.category).sum + (nativeFrameWords "java/lang/System" "arraycopy" 5 + 11) ≤ R.locals) (hdg : decode cc pc = .ok (.invokestatic index, 3))
    (kk : ∀ σ1 : Sg, σ1 = va_up σ c1 (va_cpy (σ c0) (σ c1) sp.toNatClampNeg dp.toNatClampNeg n.toNatClampNeg) → ∀ (H1 : Heap) (locs1 : List Loc), Hx G A s σ1 H1 locs1 → W p l e R s m args below meth c H1 locs1 cells slots Q (F0 m (pc + 3) ls rest)) : W p l e R s m args below meth c H locs cells slots Q (F0 m pc ls (.int n :: .int dp :: .ref (ga G c1) :: .int sp :: .ref (ga G c0) :: rest)) := by
  obtain ⟨cA, h0, ht⟩ := h0
  obtain ⟨cB, h1, ht1⟩ := h1
  have hAB : cB = cA := by rw [ht] at ht1; exact (congrArg Prod.fst (Option.some.inj ht1)).symm
  subst hAB
  refine va_copyi (f := σ c0) (g := σ c1) (n0 := n0) (n1 := n1) (ty := .int) hexec hb hml hown hlink hnat hstat hini hK hH.1 hH.2.1 hH.2.2 c0 c1 0 0 (by rw [wl_at h0.1, h0.2]; rfl) (by rw [wl_at h1.1, h1.2]; rfl) ht ht rfl g1 g2 g3 g4 g5 (fun _ _ => rfl) hframes hlocals hdg ?_
  intro H1 locs1 hP hD hS
  have e1 : (gw G σ).set c1 (ga G c1, .inl (cB, n1, .inl (va_cpy (σ c0) (σ c1) sp.toNatClampNeg dp.toNatClampNeg n.toNatClampNeg))) = gw G (va_up σ c1 (va_cpy (σ c0) (σ c1) sp.toNatClampNeg dp.toNatClampNeg n.toNatClampNeg)) := by
    refine wl_set h1.1 ?_ (fun d hd => by simp [va_up, hd])
    rw [h1.2]
    simp [va_up, mkE]
  rw [e1] at hP hD
  exact kk _ rfl H1 locs1 ⟨hP, hD, hS⟩
-- returns
theorem g_iret {Q : Int32 → Sg → Prop} (hexec : p.tables.exec = Jvm.exec) (hb : c.code = cc) (hr : meth.sig.returnType = some .int) (hK : va_K (gD G) vwCl (gt G) s) (hlk : meth.locks = false) {v : Int32} (hq : Q v σ) (hH : Hx G (aA G s.heap.size) s σ H locs) (hdg : decode cc pc = .ok (.ireturn, 1)) : W p l e R s m args below meth c H locs 0 0 (Zi G Q below args s) (F0 m pc ls [.int v]) :=
  W.iret (v := v) hexec hb hr (fun t ht hW => ⟨⟨v, σ, rfl, hq, by rw [ht]; exact hH.1, va_K.moved hW.alike hK, hH.2.1⟩, hH.2.2.F ht⟩) hH.2.2.2.2 hdg hlk
theorem g_zret {Q : Int32 → Sg → Prop} (hexec : p.tables.exec = Jvm.exec) (hb : c.code = cc) (hr : meth.sig.returnType = some .boolean) (hK : va_K (gD G) vwCl (gt G) s) (hlk : meth.locks = false) {v : Int32} (hz : vz v) (hq : Q v σ) (hH : Hx G (aA G s.heap.size) s σ H locs) (hdg : decode cc pc = .ok (.ireturn, 1)) : W p l e R s m args below meth c H locs 0 0 (Zi G Q below args s) (F0 m pc ls [.int v]) :=
  W.zret (v := v) hexec hb hr (vz_n hz) (fun t ht hW => ⟨⟨v, σ, rfl, hq, by rw [ht]; exact hH.1, va_K.moved hW.alike hK, hH.2.1⟩, hH.2.2.F ht⟩) hH.2.2.2.2 hdg hlk
theorem g_vret {Q : Sg → Prop} (hexec : p.tables.exec = Jvm.exec) (hb : c.code = cc) (hr : meth.sig.returnType = none) (hK : va_K (gD G) vwCl (gt G) s) (hlk : meth.locks = false) (hq : Q σ) (hH : Hx G (aA G s.heap.size) s σ H locs) (hdg : decode cc pc = .ok (.return_, 1)) : W p l e R s m args below meth c H locs 0 0 (Zv G Q below args s) (F0 m pc ls []) :=
  W.vret hexec hb hr (fun t ht hW => ⟨⟨σ, rfl, hq, by rw [ht]; exact hH.1, va_K.moved hW.alike hK, hH.2.1⟩, hH.2.2.F ht⟩) hH.2.2.2.2 hdg hlk
theorem g_aret {Q : Nat → Sg → Prop} (hexec : p.tables.exec = Jvm.exec) (hb : c.code = cc) {C : String} (hr : meth.sig.returnType = some (.object C)) (hK : va_K (gD G) vwCl (gt G) s) (hlk : meth.locks = false) {c0 : Nat} (hq : Q c0 σ) (hH : Hx G (aA G s.heap.size) s σ H locs) (hdg : decode cc pc = .ok (.areturn, 1)) : W p l e R s m args below meth c H locs 0 0 (Zr G Q below args s) (F0 m pc ls [.ref (ga G c0)]) :=
  W.aret (v := .ref (ga G c0)) hexec hb hr (Or.inl ⟨C, rfl⟩) (Or.inr ⟨_, rfl⟩) (fun t ht hW => ⟨⟨(c0, σ), ga G c0, rfl, hq, rfl, by rw [ht]; exact hH.1, va_K.moved hW.alike hK, hH.2.1⟩, hH.2.2.F ht⟩) hH.2.2.2.2 hdg hlk
end RW
section RC
variable {p : Program} {l : Launch} {e : Env} {R : Room} {s : State} {m : MethodId} {args : Array Value} {below : List Frame} {meth : Method} {c : Code} {H : Heap} {locs : List Loc} {cells slots : Nat} {Q : State → Prop}
variable {cc bytes : ByteArray} {pc nL k maxL index : Nat} {ls : Array Slot} {rest st0 As : List Value} {G : GG} {A : Nat → Prop} {σ : Sg} {y : MethodName} {ws Ts : List Cond} {rm : Room} {own C : String} {ret : Option FieldType}
theorem g_pre (hK : va_K (gD G) vwCl (gt G) s) (hX : XS (go G) A s) (hA : ∀ q, s.heap.size ≤ q → A q) (hH : Hx G A s σ H locs) (av : List Value) : ∀ U : State, U.heap = H → s.WarmedH U.vm → va_Pc av (mPre G σ H.size) av.toArray U := by
  intro U hU hW
  exact ⟨rfl, by rw [hU], by rw [hU]; exact hH.1, va_K.moved hW.alike hK, hH.2.1.weaken (fun _ _ _ _ => trivial), hX.pass hH.2.2 hU hW (hH.free hA)⟩
theorem g_back (hA : ∀ q, s.heap.size ≤ q → A q) (hH : Hx G A s σ H locs) {σ1 : Sg} {t : State} {H1 : Heap} {locs1 : List Loc} (ht : t.heap = H1) (hB : mPost G H.size σ1 t) (hS : va_S A s.heap H1 locs1) : Hx G A s σ1 H1 locs1 :=
  ⟨by rw [← ht]; exact hB.1, hB.2.2.weaken (fun _ q _ h => hH.free hA q.1 h), hS⟩
theorem g_callVi {Q' : Int32 → Sg → Prop} (S : CallFix p m c cc nL s args Ts own) (hK : va_K (gD G) vwCl (gt G) s) (hX : XS (go G) A s) (hA : ∀ q, s.heap.size ≤ q → A q) (hH : Hx G A s σ H locs) {c0 ci : Nat} {pat : List (Option (Option Nat))} {T : u_T} {N : Nat} (hM : Ki l G y ws rm (.ref (ga G c0) :: As) σ Q') (cw : CallW R s args own C index y bytes maxL ret ws rm 0 0 k) (h0 : c0 < gn G ∧ gs G c0 = .inr (.inr (ci, pat))) (hc : vwCl[ci]? = some (C, T, N)) (hn : As.length = k) (hsize : ls.size = nL) (hst : st0 = As.reverse ++ .ref (ga G c0) :: rest) (hW : 2 * (F0 m pc ls st0).monitorRoom + (rest.map fun v => v.category).sum ≤ 8) (hcs : cells + 0 ≤ R.cells ∧ slots + 0 ≤ R.slots) (hdg : decode cc pc = .ok (.invokevirtual index, 3))
    (kk : ∀ (r : Int32) (σ1 : Sg) (H1 : Heap) (locs1 : List Loc), Q' r σ1 → Hx G A s σ1 H1 locs1 → W p l e R s m args below meth c H1 locs1 cells slots Q (F0 m (pc + 3) ls (.int r :: rest))) : W p l e R s m args below meth c H locs cells slots Q (F0 m pc ls st0) :=
  va_calli (va_runV (g := F0 m pc ls st0) S (hM H.size) cw ⟨mPre.blind, va_recv hK hH.1 hc (by rw [wl_at h0.1, h0.2]; rfl), g_pre hK hX hA hH _⟩ rfl hn hsize hst hW hdg hcs) hH.2.2 (fun q _ h => hH.free hA q h) (hH.free hA) (fun r u t H1 locs1 ht _ hw hB _ _ hS => kk r u H1 locs1 hw (g_back hA hH ht hB hS))
theorem g_callVv {Q' : Sg → Prop} (S : CallFix p m c cc nL s args Ts own) (hK : va_K (gD G) vwCl (gt G) s) (hX : XS (go G) A s) (hA : ∀ q, s.heap.size ≤ q → A q) (hH : Hx G A s σ H locs) {c0 ci : Nat} {pat : List (Option (Option Nat))} {T : u_T} {N : Nat} (hM : Kv l G y ws rm (.ref (ga G c0) :: As) σ Q') (cw : CallW R s args own C index y bytes maxL ret ws rm 0 0 k) (h0 : c0 < gn G ∧ gs G c0 = .inr (.inr (ci, pat))) (hc : vwCl[ci]? = some (C, T, N)) (hn : As.length = k) (hsize : ls.size = nL) (hst : st0 = As.reverse ++ .ref (ga G c0) :: rest) (hW : 2 * (F0 m pc ls st0).monitorRoom + (rest.map fun v => v.category).sum ≤ 8) (hcs : cells + 0 ≤ R.cells ∧ slots + 0 ≤ R.slots) (hdg : decode cc pc = .ok (.invokevirtual index, 3))
    (kk : ∀ (σ1 : Sg) (H1 : Heap) (locs1 : List Loc), Q' σ1 → Hx G A s σ1 H1 locs1 → W p l e R s m args below meth c H1 locs1 cells slots Q (F0 m (pc + 3) ls rest)) : W p l e R s m args below meth c H locs cells slots Q (F0 m pc ls st0) :=
  va_callv (va_runV (g := F0 m pc ls st0) S (hM H.size) cw ⟨mPre.blind, va_recv hK hH.1 hc (by rw [wl_at h0.1, h0.2]; rfl), g_pre hK hX hA hH _⟩ rfl hn hsize hst hW hdg hcs) hH.2.2 (fun q _ h => hH.free hA q h) (hH.free hA) (fun u t H1 locs1 ht _ hw hB _ _ hS => kk u H1 locs1 hw (g_back hA hH ht hB hS))
theorem g_callVr {Q' : Nat → Sg → Prop} (S : CallFix p m c cc nL s args Ts own) (hK : va_K (gD G) vwCl (gt G) s) (hX : XS (go G) A s) (hA : ∀ q, s.heap.size ≤ q → A q) (hH : Hx G A s σ H locs) {c0 ci : Nat} {pat : List (Option (Option Nat))} {T : u_T} {N : Nat} (hM : Kr l G y ws rm (.ref (ga G c0) :: As) σ Q') (cw : CallW R s args own C index y bytes maxL ret ws rm 0 0 k) (h0 : c0 < gn G ∧ gs G c0 = .inr (.inr (ci, pat))) (hc : vwCl[ci]? = some (C, T, N)) (hn : As.length = k) (hsize : ls.size = nL) (hst : st0 = As.reverse ++ .ref (ga G c0) :: rest) (hW : 2 * (F0 m pc ls st0).monitorRoom + (rest.map fun v => v.category).sum ≤ 8) (hcs : cells + 0 ≤ R.cells ∧ slots + 0 ≤ R.slots) (hdg : decode cc pc = .ok (.invokevirtual index, 3))
    (kk : ∀ (r : Nat) (σ1 : Sg) (H1 : Heap) (locs1 : List Loc), Q' r σ1 → Hx G A s σ1 H1 locs1 → W p l e R s m args below meth c H1 locs1 cells slots Q (F0 m (pc + 3) ls (.ref (ga G r) :: rest))) : W p l e R s m args below meth c H locs cells slots Q (F0 m pc ls st0) :=
  va_callr (va_runV (g := F0 m pc ls st0) S (hM H.size) cw ⟨mPre.blind, va_recv hK hH.1 hc (by rw [wl_at h0.1, h0.2]; rfl), g_pre hK hX hA hH _⟩ rfl hn hsize hst hW hdg hcs) hH.2.2 (fun q _ h => hH.free hA q h) (hH.free hA) (fun u ra t H1 locs1 ht _ hw hB _ _ hS => by
    obtain ⟨hra, hB⟩ := hB
    subst hra
    exact kk u.1 u.2 H1 locs1 hw (g_back hA hH ht hB hS))
theorem g_callSi {Q' : Int32 → Sg → Prop} (S : CallFix p m c cc nL s args Ts own) (hK : va_K (gD G) vwCl (gt G) s) (hX : XS (go G) A s) (hA : ∀ q, s.heap.size ≤ q → A q) (hH : Hx G A s σ H locs) (hM : Ki l G y ws rm As σ Q') (cw : CallB R s args own index y bytes maxL ret ws rm 0 0 k ∧ (Cond.static y).before args s = true) (hn : As.length = k) (hsize : ls.size = nL) (hst : st0 = As.reverse ++ rest) (hW : 2 * (F0 m pc ls st0).monitorRoom + (rest.map fun v => v.category).sum ≤ 8) (hcs : cells + 0 ≤ R.cells ∧ slots + 0 ≤ R.slots) (hdg : decode cc pc = .ok (.invokestatic index, 3))
    (kk : ∀ (r : Int32) (σ1 : Sg) (H1 : Heap) (locs1 : List Loc), Q' r σ1 → Hx G A s σ1 H1 locs1 → W p l e R s m args below meth c H1 locs1 cells slots Q (F0 m (pc + 3) ls (.int r :: rest))) : W p l e R s m args below meth c H locs cells slots Q (F0 m pc ls st0) :=
  va_calli (va_runS (g := F0 m pc ls st0) S (hM H.size) cw ⟨mPre.blind, g_pre hK hX hA hH _⟩ rfl hn hsize hst hW hdg hcs) hH.2.2 (fun q _ h => hH.free hA q h) (hH.free hA) (fun r u t H1 locs1 ht _ hw hB _ _ hS => kk r u H1 locs1 hw (g_back hA hH ht hB hS))
theorem g_callSv {Q' : Sg → Prop} (S : CallFix p m c cc nL s args Ts own) (hK : va_K (gD G) vwCl (gt G) s) (hX : XS (go G) A s) (hA : ∀ q, s.heap.size ≤ q → A q) (hH : Hx G A s σ H locs) (hM : Kv l G y ws rm As σ Q') (cw : CallB R s args own index y bytes maxL ret ws rm 0 0 k ∧ (Cond.static y).before args s = true) (hn : As.length = k) (hsize : ls.size = nL) (hst : st0 = As.reverse ++ rest) (hW : 2 * (F0 m pc ls st0).monitorRoom + (rest.map fun v => v.category).sum ≤ 8) (hcs : cells + 0 ≤ R.cells ∧ slots + 0 ≤ R.slots) (hdg : decode cc pc = .ok (.invokestatic index, 3))
    (kk : ∀ (σ1 : Sg) (H1 : Heap) (locs1 : List Loc), Q' σ1 → Hx G A s σ1 H1 locs1 → W p l e R s m args below meth c H1 locs1 cells slots Q (F0 m (pc + 3) ls rest)) : W p l e R s m args below meth c H locs cells slots Q (F0 m pc ls st0) :=
  va_callv (va_runS (g := F0 m pc ls st0) S (hM H.size) cw ⟨mPre.blind, g_pre hK hX hA hH _⟩ rfl hn hsize hst hW hdg hcs) hH.2.2 (fun q _ h => hH.free hA q h) (hH.free hA) (fun u t H1 locs1 ht _ hw hB _ _ hS => kk u H1 locs1 hw (g_back hA hH ht hB hS))
theorem aA_hA {G : GG} {s : State} : ∀ q, s.heap.size ≤ q → aA G s.heap.size q := fun _ h => Or.inr h
end RC
