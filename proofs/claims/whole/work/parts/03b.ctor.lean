/-! CONSTRUCTORS: the table grows -/
def gext (G : GG) (q : Nat) (x : Sh) : GG := (G.1, G.2.1, gn G + 1, va_up (ga G) (gn G) q, va_up (gs G) (gn G) x, gt G, go G)
def gsh (G : GG) (c : Nat) (x : Sh) : GG := (G.1, G.2.1, gn G, ga G, va_up (gs G) c x, gt G, go G)
theorem gw_ext {G : GG} {q : Nat} {x : Sh} {σ : Sg} {f : Nat → Int32} : gw (gext G q x) (va_up σ (gn G) f) = gw G σ ++ [(q, mkE x f)] := by
  show wl (gn G + 1) (va_up (ga G) (gn G) q) (va_up (gs G) (gn G) x) (va_up σ (gn G) f) = wl (gn G) (ga G) (gs G) σ ++ [(q, mkE x f)]
  unfold wl
  rw [List.range_succ, List.map_append]
  congr 1
  · apply List.map_congr_left
    intro c hc
    have hc : c ≠ gn G := Nat.ne_of_lt (List.mem_range.mp hc)
    simp [va_up, hc]
  · simp [va_up]
theorem gext_at {G : GG} {q : Nat} {x : Sh} : ga (gext G q x) (gn G) = q := by
  show va_up (ga G) (gn G) q (gn G) = q
  simp [va_up]
theorem gw_sh {G : GG} {c : Nat} {x : Sh} {σ : Sg} {e : va_E} (hc : c < gn G) (he : mkE x (σ c) = e) : (gw G σ).set c (ga G c, e) = gw (gsh G c x) σ := by
  apply List.ext_getElem?
  intro i
  rw [List.getElem?_set]
  by_cases e1 : c = i
  · subst e1
    rw [if_pos rfl, if_pos (by simp [wl]; exact hc)]
    show some (ga G c, e) = (wl (gn G) (ga G) (va_up (gs G) c x) σ)[c]?
    rw [wl_at hc, ← he]
    simp [va_up]
  · rw [if_neg e1]
    show (wl (gn G) (ga G) (gs G) σ)[i]? = (wl (gn G) (ga G) (va_up (gs G) c x) σ)[i]?
    by_cases hi : i < gn G
    · have e2 : ¬ i = c := fun h => e1 h.symm
      rw [wl_at hi, wl_at hi]
      simp [va_up, e2]
    · simp [wl, hi]
theorem mk_setr {f : Nat → Int32} {pat : List (Option (Option Nat))} {k : Nat} {a : Nat} : (pat.mapIdx (mkV f)).set k (.ref a) = (pat.set k (some (some a))).mapIdx (mkV f) := by
  apply List.ext_getElem?
  intro i
  rw [List.getElem?_set, List.getElem?_mapIdx, List.getElem?_mapIdx, List.getElem?_set, List.length_mapIdx]
  by_cases e1 : k = i
  · subst e1
    by_cases hl : k < pat.length
    · simp [hl, mkV, va_rf]
    · simp [hl]
  · simp [e1]
theorem arr_uniq {U : State} {c1 c2 : ClassId} {ty : FieldType} (h1 : va_RA U c1 ty) (h2 : va_RA U c2 ty) : c1 = c2 := by
  cases ty with
  | object C =>
    obtain ⟨_, _, _, _, _, h1⟩ := h1
    obtain ⟨_, _, _, _, _, h2⟩ := h2
    exact Option.some.inj (h1.symm.trans h2)
  | _ => exact Option.some.inj (Eq.trans (Eq.symm h1) h2)
section RN
variable {p : Program} {l : Launch} {e : Env} {R : Room} {s : State} {m : MethodId} {args : Array Value} {below : List Frame} {meth : Method} {c : Code} {H : Heap} {locs : List Loc} {cells slots : Nat} {Q : State → Prop}
variable {cc : ByteArray} {pc : Nat} {ls : Array Slot} {rest : List Value} {G : GG} {A : Nat → Prop} {σ : Sg}
theorem g_newI (hexec : p.tables.exec = Jvm.exec) (hb : c.code = cc) (harr : (Cond.arrayClass .int).before args s = true) (hK : va_K (gD G) vwCl (gt G) s) (hH : Hx G A s σ H locs) (hA : ∀ q, s.heap.size ≤ q → A q) {cA : ClassId} (ht : (gt G)[0]? = some (cA, .int)) {n : Int32} (N : Nat) (hn : ¬ n < 0) (hN : n.toNatClampNeg = N) (hbytes : N * 4 ≤ 536870912) (hcells : cells + 1 ≤ R.cells) (hslots : slots + N ≤ R.slots) (hdg : decode cc pc = .ok (.newarray .int, 2))
    (kk : ∀ (q : Nat) (G1 : GG) (σ1 : Sg), G1 = gext G q (.inl (cA, N)) → σ1 = va_up σ (gn G) (fun _ => 0) → ∀ (H1 : Heap), Hx G1 A s σ1 H1 locs → W p l e R s m args below meth c H1 locs (cells + 1) (slots + N) Q (F0 m (pc + 2) ls (.ref (ga G1 (gn G)) :: rest))) : W p l e R s m args below meth c H locs cells slots Q (F0 m pc ls (.int n :: rest)) := by
  refine va_newa (a0 := (N, .inl (fun _ => 0))) (ty := .int) (atype := .int) hexec hb harr rfl hK hH.1 hH.2.1 hH.2.2 hA (fun cA => rfl) hn hN hbytes hcells hslots hdg ?_
  intro q cB H1 hK1 hP hD hS
  have e1 : cB = cA := arr_uniq (hK1.2 (gt G).length (cB, .int) (by simp)).2 (hK.2 0 _ ht).2
  subst e1
  have e2 : gw (gext G q (.inl (cB, N))) (va_up σ (gn G) (fun _ => 0)) = gw G σ ++ [(q, .inl (cB, N, .inl (fun _ => 0)))] := gw_ext
  refine W.eq (g2 := F0 m (pc + 2) ls (.ref (ga (gext G q (.inl (cB, N))) (gn G)) :: rest)) (by rw [gext_at]) (kk q _ _ rfl rfl H1 ⟨?_, ?_, hS⟩)
  · rw [e2]; exact hP
  · rw [e2]; exact hD
theorem g_newZ (hexec : p.tables.exec = Jvm.exec) (hb : c.code = cc) (harr : (Cond.arrayClass .boolean).before args s = true) (hK : va_K (gD G) vwCl (gt G) s) (hH : Hx G A s σ H locs) (hA : ∀ q, s.heap.size ≤ q → A q) {cA : ClassId} (ht : (gt G)[1]? = some (cA, .boolean)) {n : Int32} (N : Nat) (hn : ¬ n < 0) (hN : n.toNatClampNeg = N) (hbytes : N * 1 ≤ 536870912) (hcells : cells + 1 ≤ R.cells) (hslots : slots + N ≤ R.slots) (hdg : decode cc pc = .ok (.newarray .boolean, 2))
    (kk : ∀ (q : Nat) (G1 : GG) (σ1 : Sg), G1 = gext G q (.inl (cA, N)) → σ1 = va_up σ (gn G) (fun _ => 0) → ∀ (H1 : Heap), Hx G1 A s σ1 H1 locs → W p l e R s m args below meth c H1 locs (cells + 1) (slots + N) Q (F0 m (pc + 2) ls (.ref (ga G1 (gn G)) :: rest))) : W p l e R s m args below meth c H locs cells slots Q (F0 m pc ls (.int n :: rest)) := by
  refine va_newa (a0 := (N, .inl (fun _ => 0))) (ty := .boolean) (atype := .boolean) hexec hb harr rfl hK hH.1 hH.2.1 hH.2.2 hA (fun cA => rfl) hn hN hbytes hcells hslots hdg ?_
  intro q cB H1 hK1 hP hD hS
  have e1 : cB = cA := arr_uniq (hK1.2 (gt G).length (cB, .boolean) (by simp)).2 (hK.2 1 _ ht).2
  subst e1
  have e2 : gw (gext G q (.inl (cB, N))) (va_up σ (gn G) (fun _ => 0)) = gw G σ ++ [(q, .inl (cB, N, .inl (fun _ => 0)))] := gw_ext
  refine W.eq (g2 := F0 m (pc + 2) ls (.ref (ga (gext G q (.inl (cB, N))) (gn G)) :: rest)) (by rw [gext_at]) (kk q _ _ rfl rfl H1 ⟨?_, ?_, hS⟩)
  · rw [e2]; exact hP
  · rw [e2]; exact hD
theorem g_newR (hexec : p.tables.exec = Jvm.exec) (hb : c.code = cc) {own C : String} {index : Nat} (hown : s.vm.findClass own = some m.cls) (hclink : (Cond.classLink own index C).before args s = true) (hover : va_AO C s) (hK : va_K (gD G) vwCl (gt G) s) (hH : Hx G A s σ H locs) (hA : ∀ q, s.heap.size ≤ q → A q) (t0 : Nat) {cA : ClassId} (ht : (gt G)[t0]? = some (cA, .object C)) {n : Int32} (N : Nat) (hn : ¬ n < 0) (hN : n.toNatClampNeg = N) (hbytes : N * 4 ≤ 536870912) (hcells : cells + 1 ≤ R.cells) (hslots : slots + N ≤ R.slots) (hdg : decode cc pc = .ok (.anewarray index, 3))
    (kk : ∀ (q : Nat) (G1 : GG) (σ1 : Sg), G1 = gext G q (.inr (.inl (cA, N, fun _ => none))) → σ1 = va_up σ (gn G) (fun _ => 0) → ∀ (H1 : Heap), Hx G1 A s σ1 H1 locs → W p l e R s m args below meth c H1 locs (cells + 1) (slots + N) Q (F0 m (pc + 3) ls (.ref (ga G1 (gn G)) :: rest))) : W p l e R s m args below meth c H locs cells slots Q (F0 m pc ls (.int n :: rest)) := by
  refine va_newq hexec hb hown hclink hover hK hH.1 hH.2.1 hH.2.2 hA hn hN hbytes hcells hslots hdg ?_
  intro q cB H1 hK1 hP hD hS
  have e1 : cB = cA := arr_uniq (hK1.2 (gt G).length (cB, .object C) (by simp)).2 (hK.2 t0 _ ht).2
  subst e1
  have e2 : gw (gext G q (.inr (.inl (cB, N, fun _ => none)))) (va_up σ (gn G) (fun _ => 0)) = gw G σ ++ [(q, .inl (cB, N, .inr (.inr (.inr (.inr (fun _ => none))))))] := gw_ext
  refine W.eq (g2 := F0 m (pc + 3) ls (.ref (ga (gext G q (.inr (.inl (cB, N, fun _ => none)))) (gn G)) :: rest)) (by rw [gext_at]) (kk q _ _ rfl rfl H1 ⟨?_, ?_, hS⟩)
  · rw [e2]; exact hP
  · rw [e2]; exact hD
theorem g_new (hexec : p.tables.exec = Jvm.exec) (hb : c.code = cc) {own C : String} {T : u_T} {N ci index : Nat} {Ts : List Cond} (hts : ∀ w ∈ Ts, w.before args s = true) (hin : ∀ w ∈ u_ws C T N, w ∈ Ts) (ty : Nat → FieldType) (hty : ∀ k, k < N → parseFieldDescriptor (T k).2.2.1 = some (ty k)) (hown : s.vm.findClass own = some m.cls) (hcl : (Cond.classLink own index C).before args s = true) (hinst : (Cond.instantiable C N).before args s = true) (hini : (Cond.initialized C).before args s = true) (hK : va_K (gD G) vwCl (gt G) s) (hH : Hx G A s σ H locs) (hA : ∀ q, s.heap.size ≤ q → A q) (hc : vwCl[ci]? = some (C, T, N)) (pat : List (Option (Option Nat))) (hfs : ∀ j, j < N → defaultValue (ty j) = vp_V (pat.mapIdx (mkV (fun _ => 0))) j) (hcells : cells + 1 ≤ R.cells) (hslots : slots + N ≤ R.slots) (hdg : decode cc pc = .ok (.new index, 3))
    (kk : ∀ (q : Nat) (G1 : GG) (σ1 : Sg), G1 = gext G q (.inr (.inr (ci, pat))) → σ1 = va_up σ (gn G) (fun _ => 0) → ∀ (H1 : Heap), Hx G1 A s σ1 H1 locs → W p l e R s m args below meth c H1 locs (cells + 1) (slots + N) Q (F0 m (pc + 3) ls (.ref (ga G1 (gn G)) :: rest))) : W p l e R s m args below meth c H locs cells slots Q (F0 m pc ls rest) := by
  refine va_new (fs := pat.mapIdx (mkV (fun _ => 0))) hexec hb hts hin ty hty hown hcl hinst hini hK hH.1 hH.2.1 hH.2.2 hA hc hfs hcells hslots hdg ?_
  intro q H1 hP hD hS
  have e2 : gw (gext G q (.inr (.inr (ci, pat)))) (va_up σ (gn G) (fun _ => 0)) = gw G σ ++ [(q, .inr (ci, pat.mapIdx (mkV (fun _ => 0))))] := gw_ext
  refine W.eq (g2 := F0 m (pc + 3) ls (.ref (ga (gext G q (.inr (.inr (ci, pat)))) (gn G)) :: rest)) (by rw [gext_at]) (kk q _ _ rfl rfl H1 ⟨?_, ?_, hS⟩)
  · rw [e2]; exact hP
  · rw [e2]; exact hD
/-- a final field of a reference, in its own constructor -/
theorem g_putFr (hexec : p.tables.exec = Jvm.exec) (hb : c.code = cc) {own ref C : String} {T : u_T} {N ci index : Nat} {Ts : List Cond} (hts : ∀ w ∈ Ts, w.before args s = true) (hin : ∀ w ∈ u_ws C T N, w ∈ Ts) (ty0 : Nat → FieldType) (hty : ∀ k, k < N → parseFieldDescriptor (T k).2.2.1 = some (ty0 k)) (hnm : ∀ a, a < N → ∀ b, b < N → a ≠ b → (T a).2.1 ≠ (T b).2.1) (hown : s.vm.findClass own = some m.cls) (hK : va_K (gD G) vwCl (gt G) s) (hH : Hx G A s σ H locs) {c0 : Nat} {pat : List (Option (Option Nat))} (h0 : isO G ci pat c0) (hc : vwCl[ci]? = some (C, T, N)) (k : Nat) (hk : k < N) (hlink : (Cond.fieldLink own index ref (T k).2.1 (T k).2.2.1).before args s = true) (href : (T k).1 = ref) (hl : k < pat.length) (hfin : (T k).2.2.2 = true) (hin2 : meth.name = "<init>") (hdecl : (T k).1 = own) {a : Nat} (hn : narrow (ty0 k) (.ref a) = .ref a) (hfit : fits (ty0 k) (.ref a) = true) (hdg : decode cc pc = .ok (.putfield index, 3))
    (kk : ∀ G1 : GG, G1 = gsh G c0 (.inr (.inr (ci, pat.set k (some (some a))))) → ∀ (H1 : Heap) (locs1 : List Loc), Hx G1 A s σ H1 locs1 → W p l e R s m args below meth c H1 locs1 cells slots Q (F0 m (pc + 3) ls rest)) : W p l e R s m args below meth c H locs cells slots Q (F0 m pc ls (.ref a :: .ref (ga G c0) :: rest)) := by
  refine va_putF (ty := ty0 k) (v := .ref a) (fs := pat.mapIdx (mkV (σ c0))) hexec hb hts hin ty0 hty hnm hown hK hH.1 hH.2.1 hH.2.2 c0 (by rw [wl_at h0.1, h0.2]; rfl) hc k hk hlink (fun x h => by rw [← href]; exact h) hfin hin2 hdecl (hty k hk) hn hfit (by rw [List.length_mapIdx]; exact hl) hdg ?_
  intro H1 locs1 hP hD hS
  have e1 : (gw G σ).set c0 (ga G c0, .inr (ci, (pat.mapIdx (mkV (σ c0))).set k (.ref a))) = gw (gsh G c0 (.inr (.inr (ci, pat.set k (some (some a)))))) σ := gw_sh h0.1 (by rw [mk_setr]; rfl)
  rw [e1] at hP hD
  exact kk _ rfl H1 locs1 ⟨hP, hD, hS⟩
/-- a final field of a number, in its own constructor -/
theorem g_putFi (hexec : p.tables.exec = Jvm.exec) (hb : c.code = cc) {own ref C : String} {T : u_T} {N ci index : Nat} {Ts : List Cond} (hts : ∀ w ∈ Ts, w.before args s = true) (hin : ∀ w ∈ u_ws C T N, w ∈ Ts) (ty0 : Nat → FieldType) (hty : ∀ k, k < N → parseFieldDescriptor (T k).2.2.1 = some (ty0 k)) (hnm : ∀ a, a < N → ∀ b, b < N → a ≠ b → (T a).2.1 ≠ (T b).2.1) (hown : s.vm.findClass own = some m.cls) (hK : va_K (gD G) vwCl (gt G) s) (hH : Hx G A s σ H locs) {c0 : Nat} {pat : List (Option (Option Nat))} (h0 : isO G ci pat c0) (hc : vwCl[ci]? = some (C, T, N)) (k : Nat) (hk : k < N) (hlink : (Cond.fieldLink own index ref (T k).2.1 (T k).2.2.1).before args s = true) (href : (T k).1 = ref) (hp : pat[k]? = some none) (hfin : (T k).2.2.2 = true) (hin2 : meth.name = "<init>") (hdecl : (T k).1 = own) {v : Int32} (hn : narrow (ty0 k) (.int v) = .int v) (hfit : fits (ty0 k) (.int v) = true) (hdg : decode cc pc = .ok (.putfield index, 3))
    (kk : ∀ σ1 : Sg, σ1 = up2 σ c0 k v → ∀ (H1 : Heap) (locs1 : List Loc), Hx G A s σ1 H1 locs1 → W p l e R s m args below meth c H1 locs1 cells slots Q (F0 m (pc + 3) ls rest)) : W p l e R s m args below meth c H locs cells slots Q (F0 m pc ls (.int v :: .ref (ga G c0) :: rest)) := by
  refine va_putF (ty := ty0 k) (v := .int v) (fs := pat.mapIdx (mkV (σ c0))) hexec hb hts hin ty0 hty hnm hown hK hH.1 hH.2.1 hH.2.2 c0 (by rw [wl_at h0.1, h0.2]; rfl) hc k hk hlink (fun x h => by rw [← href]; exact h) hfin hin2 hdecl (hty k hk) hn hfit (by rw [List.length_mapIdx]; exact (List.getElem?_eq_some_iff.mp hp).1) hdg ?_
  intro H1 locs1 hP hD hS
  have e1 : (gw G σ).set c0 (ga G c0, .inr (ci, (pat.mapIdx (mkV (σ c0))).set k (.int v))) = gw G (up2 σ c0 k v) := by
    refine wl_set h0.1 ?_ (fun d hd => up2_o hd)
    rw [h0.2, up2_s, mk_set hp]
    rfl
  rw [e1] at hP hD
  exact kk _ rfl H1 locs1 ⟨hP, hD, hS⟩
/-- a new object goes into a row of references -/
theorem g_aast (hexec : p.tables.exec = Jvm.exec) (hb : c.code = cc) (hK : va_K (gD G) vwCl (gt G) s) (hH : Hx G A s σ H locs) {c0 : Nat} {cA : ClassId} {N : Nat} {g : Nat → Option Nat} (h0 : c0 < gn G ∧ gs G c0 = .inr (.inl (cA, N, g))) {r : vw_C} (t0 : Nat) (ht : (gt G)[t0]? = some (cA, .object r.1)) {c1 ci : Nat} {pat : List (Option (Option Nat))} (h1 : isO G ci pat c1) (hc : vwCl[ci]? = some r) {i : Int32} (hin : vp_in i N) (hdg : decode cc pc = .ok (.aastore, 1))
    (kk : ∀ G1 : GG, G1 = gsh G c0 (.inr (.inl (cA, N, va_up g i.toNatClampNeg (some (ga G c1))))) → ∀ (H1 : Heap) (locs1 : List Loc), Hx G1 A s σ H1 locs1 → W p l e R s m args below meth c H1 locs1 cells slots Q (F0 m (pc + 1) ls rest)) : W p l e R s m args below meth c H locs cells slots Q (F0 m pc ls (.ref (ga G c1) :: .int i :: .ref (ga G c0) :: rest)) := by
  refine va_astq (f := g) (r := r) hexec hb hK hH.1 hH.2.1 hH.2.2 c0 t0 c1 ci (by rw [wl_at h0.1, h0.2]; rfl) ht (by rw [wl_at h1.1, h1.2]; rfl) hc hin hdg ?_
  intro H1 locs1 hP hD hS
  have e1 : (gw G σ).set c0 (ga G c0, .inl (cA, N, .inr (.inr (.inr (.inr (va_up g i.toNatClampNeg (some (ga G c1)))))))) = gw (gsh G c0 (.inr (.inl (cA, N, va_up g i.toNatClampNeg (some (ga G c1)))))) σ := gw_sh h0.1 rfl
  rw [e1] at hP hD
  exact kk _ rfl H1 locs1 ⟨hP, hD, hS⟩
end RN
