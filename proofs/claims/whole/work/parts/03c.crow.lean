/-! CONSTRUCTORS: rows by raw addresses; what stays while the table grows -/
def SameG (G0 G : GG) : Prop := gD G = gD G0 ∧ gt G = gt G0 ∧ go G = go G0
theorem SameG.rf {G : GG} : SameG G G := ⟨rfl, rfl, rfl⟩
theorem SameG.tr {G0 G1 G2 : GG} (h : SameG G0 G1) (h2 : SameG G1 G2) : SameG G0 G2 := ⟨h2.1.trans h.1, h2.2.1.trans h.2.1, h2.2.2.trans h.2.2⟩
theorem SameG.ext {G0 G G1 : GG} {q : Nat} {x : Sh} (h : SameG G0 G) (e : G1 = gext G q x) : SameG G0 G1 := by
  subst e
  exact h
theorem SameG.sh {G0 G G1 : GG} {c : Nat} {x : Sh} (h : SameG G0 G) (e : G1 = gsh G c x) : SameG G0 G1 := by
  subst e
  exact h
theorem SameG.K {G0 G : GG} {s : State} (h : SameG G0 G) (hK : va_K (gD G0) vwCl (gt G0) s) : va_K (gD G) vwCl (gt G) s := by rw [h.1, h.2.1]; exact hK
theorem SameG.X {G0 G : GG} {A : Nat → Prop} {s : State} (h : SameG G0 G) (hX : XS (go G0) A s) : XS (go G) A s := by rw [h.2.2]; exact hX
def kOK (kA : Nat → ClassId) (G : GG) : Prop := gt G = [(kA 0, .int), (kA 1, .boolean), (kA 2, .object "BearerHouse$Piece"), (kA 3, .object "BearerHouse$Sender"), (kA 4, .object "BearerHouse$Receiver"), (kA 5, .object "BearerHouse$Carrier")]
theorem SameG.k {G0 G : GG} {kA : Nat → ClassId} (h : SameG G0 G) (hk : kOK kA G0) : kOK kA G := h.2.1.trans hk
theorem kOK.at {kA : Nat → ClassId} {G : GG} (h : kOK kA G) {t : Nat} {ty : FieldType} (e : [(kA 0, FieldType.int), (kA 1, .boolean), (kA 2, .object "BearerHouse$Piece"), (kA 3, .object "BearerHouse$Sender"), (kA 4, .object "BearerHouse$Receiver"), (kA 5, .object "BearerHouse$Carrier")][t]? = some (kA t, ty)) : (gt G)[t]? = some (kA t, ty) := by rw [show gt G = _ from h]; exact e
def mPostN (G : GG) (sz : Nat) : GG × Sg → State → Prop := fun u t => SameG G u.1 ∧ va_P (gD u.1) vwCl (gw u.1 u.2) t.heap ∧ va_K (gD u.1) vwCl (gt u.1) t ∧ va_D (aA G sz) (gw u.1 u.2)
abbrev Qn (G : GG) (Q : GG → Sg → Prop) (sz : Nat) : Array Value → State → Outcome → State → Prop := va_Qv (fun u : GG × Sg => Q u.1 u.2) (mPostN G sz) (aA G sz)
def Kn (l : Launch) (G : GG) (y : MethodName) (ws : List Cond) (rm : Room) (av : List Value) (σ : Sg) (Q : GG → Sg → Prop) (mc ms : Nat) : Prop := ∀ sz, Met l y ws rm (va_Pc av (mPre G σ sz)) (Qn G Q sz) mc ms (aA G sz)
abbrev Zn (G : GG) (Q : GG → Sg → Prop) (mc ms : Nat) (below : List Frame) (args : Array Value) (s : State) : State → Prop := MQ below (Qn G Q s.heap.size) args s mc ms (aA G s.heap.size)
theorem Kn_of {l : Launch} {G : GG} {y : MethodName} {ws ws' : List Cond} {rm : Room} {av : List Value} {σ : Sg} {Q : GG → Sg → Prop} {mc ms : Nat} {cc : ByteArray} {maxL : Nat} {ret : Option FieldType} (hy : plainName y.cls = true) (hw : ws = Cond.code y cc maxL ret :: ws') (hav : (lg_sl av).length ≤ maxL)
    (body : ∀ p e s m args below meth c ls, meth.name = y.name → Bd p s m args meth c G y.cls ws cc maxL ret → Hx G (aA G s.heap.size) s σ s.heap [] → lv_has ls maxL (lv_args 0 av) → W p l e rm s m args below meth c s.heap [] 0 0 (Zn G Q mc ms below args s) (F0 m 0 ls [])) : Kn l G y ws rm av σ Q mc ms := by
  intro sz
  refine Met.ofW (cc := cc) (maxL := maxL) (ret := ret) hy hw ?_
  intro p e s m args below meth c s₁ B hml hv
  obtain ⟨rfl, hsz, hP, hK, hD0, hX⟩ := hv
  subst hsz
  have hts := atoms_spec (ws := ws) B.pre
  have hown : s.vm.findClass y.cls = some m.cls := findClass_of_methodNamed B.named
  have hD : va_D (aA G s.heap.size) (gw G σ) := by
    refine ⟨hD0.1, fun k q hk => Or.inl ?_⟩
    have hkn : k < gn G := by
      have := (List.getElem?_eq_some_iff.mp hk).1
      simpa [wl] using this
    rw [wl_at hkn] at hk
    cases hk
    exact ⟨k, hkn, rfl⟩
  have hl := lv_entry av (n := maxL) hav
  rw [lg_entry_eq]
  exact body p e s m _ below meth c _ (name_of_methodNamed B.named B.method).1 ⟨B.exec, B.bytes, B.returns, hts, hown, B.notSynchronized, hml, hK, hX⟩ ⟨hP, hD, va_S.rf⟩ hl
section RM
variable {p : Program} {l : Launch} {e : Env} {R : Room} {s : State} {m : MethodId} {args : Array Value} {below : List Frame} {meth : Method} {c : Code} {H : Heap} {locs : List Loc} {cells slots : Nat} {Q : State → Prop}
variable {cc bytes : ByteArray} {pc nL k maxL index mc ms : Nat} {ls : Array Slot} {rest st0 As : List Value} {G0 G : GG} {A : Nat → Prop} {σ : Sg} {y : MethodName} {ws Ts : List Cond} {rm : Room} {own C : String}
theorem n_ret {Q : GG → Sg → Prop} (hexec : p.tables.exec = Jvm.exec) (hb : c.code = cc) (hr : meth.sig.returnType = none) (hK : va_K (gD G0) vwCl (gt G0) s) (hlk : meth.locks = false) (hg : SameG G0 G) (hc : cells ≤ mc) (hs : slots ≤ ms) (hq : Q G σ) (hH : Hx G (aA G0 s.heap.size) s σ H locs) (hdg : decode cc pc = .ok (.return_, 1)) : W p l e R s m args below meth c H locs cells slots (Zn G0 Q mc ms below args s) (F0 m pc ls []) := by
  refine W.widen hc hs ?_
  exact W.vret hexec hb hr (fun t ht hW => ⟨⟨(G, σ), rfl, hq, hg, by rw [ht]; exact hH.1, va_K.moved hW.alike (hg.K hK), hH.2.1⟩, hH.2.2.F ht⟩) hH.2.2.2.2 hdg hlk
theorem n_geti (hexec : p.tables.exec = Jvm.exec) (hb : c.code = cc) {ref : String} {T : u_T} {N ci index : Nat} (hts : ∀ w ∈ Ts, w.before args s = true) (hin : ∀ w ∈ u_ws C T N, w ∈ Ts) (hown : s.vm.findClass own = some m.cls) (hK : va_K (gD G) vwCl (gt G) s) (hH : Hx G A s σ H locs) {c0 a0 : Nat} {pat : List (Option (Option Nat))} (ha : ga G c0 = a0) (h0 : isO G ci pat c0) (hc : vwCl[ci]? = some (C, T, N)) (k : Nat) (hk : k < N) (hlink : (Cond.fieldLink own index ref (T k).2.1 (T k).2.2.1).before args s = true) (href : (T k).1 = ref) (hp : pat[k]? = some none) (hdg : decode cc pc = .ok (.getfield index, 3))
    (kk : W p l e R s m args below meth c H locs cells slots Q (F0 m (pc + 3) ls (.int (σ c0 k) :: rest))) : W p l e R s m args below meth c H locs cells slots Q (F0 m pc ls (.ref a0 :: rest)) := by
  subst ha
  exact g_geti hexec hb hts hin hown hK hH h0 hc k hk hlink href hp hdg kk
theorem n_getr (hexec : p.tables.exec = Jvm.exec) (hb : c.code = cc) {ref : String} {T : u_T} {N ci index : Nat} (hts : ∀ w ∈ Ts, w.before args s = true) (hin : ∀ w ∈ u_ws C T N, w ∈ Ts) (hown : s.vm.findClass own = some m.cls) (hK : va_K (gD G) vwCl (gt G) s) (hH : Hx G A s σ H locs) {c0 a0 : Nat} {pat : List (Option (Option Nat))} (ha : ga G c0 = a0) (h0 : isO G ci pat c0) (hc : vwCl[ci]? = some (C, T, N)) (k : Nat) (hk : k < N) (hlink : (Cond.fieldLink own index ref (T k).2.1 (T k).2.2.1).before args s = true) (href : (T k).1 = ref) {a1 : Nat} (hp : pat[k]? = some (some (some a1))) (hdg : decode cc pc = .ok (.getfield index, 3))
    (kk : W p l e R s m args below meth c H locs cells slots Q (F0 m (pc + 3) ls (.ref a1 :: rest))) : W p l e R s m args below meth c H locs cells slots Q (F0 m pc ls (.ref a0 :: rest)) := by
  subst ha
  refine va_get (v := .ref a1) (fs := pat.mapIdx (mkV (σ c0))) hexec hb hts hin hown hK hH.1 c0 (by rw [wl_at h0.1, h0.2]; rfl) hc k hk hlink (fun x h => by rw [← href]; exact h) ?_ hdg kk
  rw [List.getElem?_mapIdx, hp]
  rfl
theorem n_put (hexec : p.tables.exec = Jvm.exec) (hb : c.code = cc) {ref : String} {T : u_T} {N ci index : Nat} (hts : ∀ w ∈ Ts, w.before args s = true) (hin : ∀ w ∈ u_ws C T N, w ∈ Ts) (ty0 : Nat → FieldType) (hty : ∀ k, k < N → parseFieldDescriptor (T k).2.2.1 = some (ty0 k)) (hnm : ∀ a, a < N → ∀ b, b < N → a ≠ b → (T a).2.1 ≠ (T b).2.1) (hown : s.vm.findClass own = some m.cls) (hK : va_K (gD G) vwCl (gt G) s) (hH : Hx G A s σ H locs) {c0 a0 : Nat} {pat : List (Option (Option Nat))} (ha : ga G c0 = a0) (h0 : isO G ci pat c0) (hc : vwCl[ci]? = some (C, T, N)) (k : Nat) (hk : k < N) (hlink : (Cond.fieldLink own index ref (T k).2.1 (T k).2.2.1).before args s = true) (href : (T k).1 = ref) (hp : pat[k]? = some none) (hfin : (T k).2.2.2 = false) {v : Int32} (hn : narrow (ty0 k) (.int v) = .int v) (hfit : fits (ty0 k) (.int v) = true) (hdg : decode cc pc = .ok (.putfield index, 3))
    (kk : ∀ σ1 : Sg, σ1 = up2 σ c0 k v → ∀ (H1 : Heap) (locs1 : List Loc), Hx G A s σ1 H1 locs1 → W p l e R s m args below meth c H1 locs1 cells slots Q (F0 m (pc + 3) ls rest)) : W p l e R s m args below meth c H locs cells slots Q (F0 m pc ls (.int v :: .ref a0 :: rest)) := by
  subst ha
  exact g_put hexec hb hts hin ty0 hty hnm hown hK hH h0 hc k hk hlink href hp hfin hn hfit hdg kk
theorem n_putN (hexec : p.tables.exec = Jvm.exec) (hb : c.code = cc) {ref host : String} {T : u_T} {N ci index : Nat} (hts : ∀ w ∈ Ts, w.before args s = true) (hin : ∀ w ∈ u_ws C T N, w ∈ Ts) (ty0 : Nat → FieldType) (hty : ∀ k, k < N → parseFieldDescriptor (T k).2.2.1 = some (ty0 k)) (hnm : ∀ a, a < N → ∀ b, b < N → a ≠ b → (T a).2.1 ≠ (T b).2.1) (hown : s.vm.findClass own = some m.cls) (hK : va_K (gD G) vwCl (gt G) s) (hH : Hx G A s σ H locs) {c0 a0 : Nat} {pat : List (Option (Option Nat))} (ha : ga G c0 = a0) (h0 : isO G ci pat c0) (hc : vwCl[ci]? = some (C, T, N)) (k : Nat) (hk : k < N) (hlink : (Cond.fieldLinkNest own index ref (T k).2.1 (T k).2.2.1 host).before args s = true) (href : (T k).1 = ref) (hp : pat[k]? = some none) (hfin : (T k).2.2.2 = false) {v : Int32} (hn : narrow (ty0 k) (.int v) = .int v) (hfit : fits (ty0 k) (.int v) = true) (hdg : decode cc pc = .ok (.putfield index, 3))
    (kk : ∀ σ1 : Sg, σ1 = up2 σ c0 k v → ∀ (H1 : Heap) (locs1 : List Loc), Hx G A s σ1 H1 locs1 → W p l e R s m args below meth c H1 locs1 cells slots Q (F0 m (pc + 3) ls rest)) : W p l e R s m args below meth c H locs cells slots Q (F0 m pc ls (.int v :: .ref a0 :: rest)) := by
  subst ha
  exact g_putN hexec hb hts hin ty0 hty hnm hown hK hH h0 hc k hk hlink href hp hfin hn hfit hdg kk
theorem n_aald (hexec : p.tables.exec = Jvm.exec) (hb : c.code = cc) (hK : va_K (gD G) vwCl (gt G) s) (hH : Hx G A s σ H locs) {c0 a0 : Nat} {cA : ClassId} {N : Nat} {g : Nat → Option Nat} (ha : ga G c0 = a0) (h0 : c0 < gn G ∧ gs G c0 = .inr (.inl (cA, N, g))) (t0 : Nat) {C : String} (ht : (gt G)[t0]? = some (cA, .object C)) {i : Int32} (hin : vp_in i N) {a1 : Nat} (hg : g i.toNatClampNeg = some a1) (hdg : decode cc pc = .ok (.aaload, 1))
    (kk : W p l e R s m args below meth c H locs cells slots Q (F0 m (pc + 1) ls (.ref a1 :: rest))) : W p l e R s m args below meth c H locs cells slots Q (F0 m pc ls (.int i :: .ref a0 :: rest)) := by
  subst ha
  refine va_aldq (f := g) (n := N) (cA := cA) hexec hb hK hH.1 c0 t0 (by rw [wl_at h0.1, h0.2]; rfl) ht hin hdg ?_
  rw [hg]
  exact kk
theorem n_putFi (hexec : p.tables.exec = Jvm.exec) (hb : c.code = cc) {ref : String} {T : u_T} {N ci index : Nat} (hts : ∀ w ∈ Ts, w.before args s = true) (hin : ∀ w ∈ u_ws C T N, w ∈ Ts) (ty0 : Nat → FieldType) (hty : ∀ k, k < N → parseFieldDescriptor (T k).2.2.1 = some (ty0 k)) (hnm : ∀ a, a < N → ∀ b, b < N → a ≠ b → (T a).2.1 ≠ (T b).2.1) (hown : s.vm.findClass own = some m.cls) (hK : va_K (gD G) vwCl (gt G) s) (hH : Hx G A s σ H locs) {c0 a0 : Nat} {pat : List (Option (Option Nat))} (ha : ga G c0 = a0) (h0 : isO G ci pat c0) (hc : vwCl[ci]? = some (C, T, N)) (k : Nat) (hk : k < N) (hlink : (Cond.fieldLink own index ref (T k).2.1 (T k).2.2.1).before args s = true) (href : (T k).1 = ref) (hp : pat[k]? = some none) (hfin : (T k).2.2.2 = true) (hin2 : meth.name = "<init>") (hdecl : (T k).1 = own) {v : Int32} (hn : narrow (ty0 k) (.int v) = .int v) (hfit : fits (ty0 k) (.int v) = true) (hdg : decode cc pc = .ok (.putfield index, 3))
    (kk : ∀ σ1 : Sg, σ1 = up2 σ c0 k v → ∀ (H1 : Heap) (locs1 : List Loc), Hx G A s σ1 H1 locs1 → W p l e R s m args below meth c H1 locs1 cells slots Q (F0 m (pc + 3) ls rest)) : W p l e R s m args below meth c H locs cells slots Q (F0 m pc ls (.int v :: .ref a0 :: rest)) := by
  subst ha
  exact g_putFi hexec hb hts hin ty0 hty hnm hown hK hH h0 hc k hk hlink href hp hfin hin2 hdecl hn hfit hdg kk
theorem n_putFr (hexec : p.tables.exec = Jvm.exec) (hb : c.code = cc) {ref : String} {T : u_T} {N ci index : Nat} (hts : ∀ w ∈ Ts, w.before args s = true) (hin : ∀ w ∈ u_ws C T N, w ∈ Ts) (ty0 : Nat → FieldType) (hty : ∀ k, k < N → parseFieldDescriptor (T k).2.2.1 = some (ty0 k)) (hnm : ∀ a, a < N → ∀ b, b < N → a ≠ b → (T a).2.1 ≠ (T b).2.1) (hown : s.vm.findClass own = some m.cls) (hK : va_K (gD G) vwCl (gt G) s) (hH : Hx G A s σ H locs) {c0 a0 : Nat} {pat : List (Option (Option Nat))} (ha : ga G c0 = a0) (h0 : isO G ci pat c0) (hc : vwCl[ci]? = some (C, T, N)) (k : Nat) (hk : k < N) (hlink : (Cond.fieldLink own index ref (T k).2.1 (T k).2.2.1).before args s = true) (href : (T k).1 = ref) (hl : k < pat.length) (hfin : (T k).2.2.2 = true) (hin2 : meth.name = "<init>") (hdecl : (T k).1 = own) {a : Nat} (hn : narrow (ty0 k) (.ref a) = .ref a) (hfit : fits (ty0 k) (.ref a) = true) (hdg : decode cc pc = .ok (.putfield index, 3))
    (kk : ∀ G1 : GG, G1 = gsh G c0 (.inr (.inr (ci, pat.set k (some (some a))))) → ∀ (H1 : Heap) (locs1 : List Loc), Hx G1 A s σ H1 locs1 → W p l e R s m args below meth c H1 locs1 cells slots Q (F0 m (pc + 3) ls rest)) : W p l e R s m args below meth c H locs cells slots Q (F0 m pc ls (.ref a :: .ref a0 :: rest)) := by
  subst ha
  exact g_putFr hexec hb hts hin ty0 hty hnm hown hK hH h0 hc k hk hlink href hl hfin hin2 hdecl hn hfit hdg kk
theorem n_iast (hexec : p.tables.exec = Jvm.exec) (hb : c.code = cc) (hK : va_K (gD G) vwCl (gt G) s) (hH : Hx G A s σ H locs) {c0 a0 : Nat} {N : Nat} (ha : ga G c0 = a0) (h0 : isI G N c0) {i x : Int32} (hin : vp_in i N) (hdg : decode cc pc = .ok (.iastore, 1))
    (kk : ∀ σ1 : Sg, σ1 = up2 σ c0 i.toNatClampNeg x → ∀ (H1 : Heap) (locs1 : List Loc), Hx G A s σ1 H1 locs1 → W p l e R s m args below meth c H1 locs1 cells slots Q (F0 m (pc + 1) ls rest)) : W p l e R s m args below meth c H locs cells slots Q (F0 m pc ls (.int x :: .int i :: .ref a0 :: rest)) := by
  subst ha
  exact g_iast hexec hb hK hH h0 hin hdg kk
theorem n_alenr (hexec : p.tables.exec = Jvm.exec) (hb : c.code = cc) (hK : va_K (gD G) vwCl (gt G) s) (hH : Hx G A s σ H locs) {c0 a0 : Nat} {cA : ClassId} {N : Nat} {g : Nat → Option Nat} (ha : ga G c0 = a0) (h0 : c0 < gn G ∧ gs G c0 = .inr (.inl (cA, N, g))) (t0 : Nat) {ty : FieldType} (ht : (gt G)[t0]? = some (cA, ty)) (hdg : decode cc pc = .ok (.arraylength, 1))
    (kk : W p l e R s m args below meth c H locs cells slots Q (F0 m (pc + 1) ls (.int (nI N) :: rest))) : W p l e R s m args below meth c H locs cells slots Q (F0 m pc ls (.ref a0 :: rest)) := by
  subst ha
  exact va_alen (x := (N, .inr (.inr (.inr (.inr g))))) hexec hb hK hH.1 c0 t0 (by rw [wl_at h0.1, h0.2]; rfl) ht rfl hdg kk
theorem n_aast (hexec : p.tables.exec = Jvm.exec) (hb : c.code = cc) (hK : va_K (gD G) vwCl (gt G) s) (hH : Hx G A s σ H locs) {c0 a0 : Nat} {cA : ClassId} {N : Nat} {g : Nat → Option Nat} (ha : ga G c0 = a0) (h0 : c0 < gn G ∧ gs G c0 = .inr (.inl (cA, N, g))) {r : vw_C} (t0 : Nat) (ht : (gt G)[t0]? = some (cA, .object r.1)) {c1 a1 ci : Nat} {pat : List (Option (Option Nat))} (ha1 : ga G c1 = a1) (h1 : isO G ci pat c1) (hc : vwCl[ci]? = some r) {i : Int32} (hin : vp_in i N) (hdg : decode cc pc = .ok (.aastore, 1))
    (kk : ∀ G1 : GG, G1 = gsh G c0 (.inr (.inl (cA, N, va_up g i.toNatClampNeg (some a1)))) → ∀ (H1 : Heap) (locs1 : List Loc), Hx G1 A s σ H1 locs1 → W p l e R s m args below meth c H1 locs1 cells slots Q (F0 m (pc + 1) ls rest)) : W p l e R s m args below meth c H locs cells slots Q (F0 m pc ls (.ref a1 :: .int i :: .ref a0 :: rest)) := by
  subst ha
  subst ha1
  exact g_aast hexec hb hK hH h0 t0 ht h1 hc hin hdg kk
theorem n_backN (hA : ∀ q, s.heap.size ≤ q → A q) (hH : Hx G A s σ H locs) {u : GG × Sg} {t : State} {H1 : Heap} {locs1 : List Loc} (ht : t.heap = H1) (hB : mPostN G H.size u t) (hS : va_S A s.heap H1 locs1) : Hx u.1 A s u.2 H1 locs1 :=
  ⟨by rw [← ht]; exact hB.2.1, hB.2.2.2.weaken (fun _ q _ h => hH.free hA q.1 h), hS⟩
theorem n_callI {Q' : GG → Sg → Prop} (S : CallFix p m c cc nL s args Ts own) (hK : va_K (gD G) vwCl (gt G) s) (hX : XS (go G) A s) (hA : ∀ q, s.heap.size ≤ q → A q) (hH : Hx G A s σ H locs) {a0 : Nat} (hM : Kn l G y ws rm (.ref a0 :: As) σ Q' mc ms) (cw : CallB R s args own index y bytes maxL none ws rm mc ms k ∧ y.name = "<init>" ∧ (Cond.instanceMethod y).before args s = true) (hn : As.length = k) (hsize : ls.size = nL) (hst : st0 = As.reverse ++ .ref a0 :: rest) (hW : 2 * (F0 m pc ls st0).monitorRoom + (rest.map fun v => v.category).sum ≤ 8) (hcs : cells + mc ≤ R.cells ∧ slots + ms ≤ R.slots) (hdg : decode cc pc = .ok (.invokespecial index, 3))
    (kk : ∀ (G1 : GG) (σ1 : Sg) (H1 : Heap) (locs1 : List Loc), Q' G1 σ1 → SameG G G1 → Hx G1 A s σ1 H1 locs1 → W p l e R s m args below meth c H1 locs1 (cells + mc) (slots + ms) Q (F0 m (pc + 3) ls rest)) : W p l e R s m args below meth c H locs cells slots Q (F0 m pc ls st0) :=
  va_callv (va_runI (g := F0 m pc ls st0) S (hM H.size) cw ⟨mPre.blind, g_pre hK hX hA hH _⟩ rfl hn hsize hst hW hdg hcs) hH.2.2 (fun q _ h => hH.free hA q h) (hH.free hA) (fun u t H1 locs1 ht _ hw hB _ _ hS => kk u.1 u.2 H1 locs1 hw hB.1 (n_backN hA hH ht hB hS))
theorem n_callIN {Q' : GG → Sg → Prop} {host : String} (S : CallFix p m c cc nL s args Ts own) (hK : va_K (gD G) vwCl (gt G) s) (hX : XS (go G) A s) (hA : ∀ q, s.heap.size ≤ q → A q) (hH : Hx G A s σ H locs) {a0 : Nat} (hM : Kn l G y ws rm (.ref a0 :: As) σ Q' mc ms) (cw : va_CN R s args own index y host bytes maxL none ws rm mc ms k ∧ y.name = "<init>" ∧ (Cond.instanceMethod y).before args s = true) (hn : As.length = k) (hsize : ls.size = nL) (hst : st0 = As.reverse ++ .ref a0 :: rest) (hW : 2 * (F0 m pc ls st0).monitorRoom + (rest.map fun v => v.category).sum ≤ 8) (hcs : cells + mc ≤ R.cells ∧ slots + ms ≤ R.slots) (hdg : decode cc pc = .ok (.invokespecial index, 3))
    (kk : ∀ (G1 : GG) (σ1 : Sg) (H1 : Heap) (locs1 : List Loc), Q' G1 σ1 → SameG G G1 → Hx G1 A s σ1 H1 locs1 → W p l e R s m args below meth c H1 locs1 (cells + mc) (slots + ms) Q (F0 m (pc + 3) ls rest)) : W p l e R s m args below meth c H locs cells slots Q (F0 m pc ls st0) :=
  va_callv (va_runIN (g := F0 m pc ls st0) S (hM H.size) cw ⟨mPre.blind, g_pre hK hX hA hH _⟩ rfl hn hsize hst hW hdg hcs) hH.2.2 (fun q _ h => hH.free hA q h) (hH.free hA) (fun u t H1 locs1 ht _ hw hB _ _ hS => kk u.1 u.2 H1 locs1 hw hB.1 (n_backN hA hH ht hB hS))
theorem n_callVv {Q' : Sg → Prop} (S : CallFix p m c cc nL s args Ts own) (hK : va_K (gD G) vwCl (gt G) s) (hX : XS (go G) A s) (hA : ∀ q, s.heap.size ≤ q → A q) (hH : Hx G A s σ H locs) {c0 a0 ci : Nat} {pat : List (Option (Option Nat))} {T : u_T} {N : Nat} {ret : Option FieldType} (ha : ga G c0 = a0) (hM : Kv l G y ws rm (.ref (ga G c0) :: As) σ Q') (cw : CallW R s args own C index y bytes maxL ret ws rm 0 0 k) (h0 : isO G ci pat c0) (hc : vwCl[ci]? = some (C, T, N)) (hn : As.length = k) (hsize : ls.size = nL) (hst : st0 = As.reverse ++ .ref a0 :: rest) (hW : 2 * (F0 m pc ls st0).monitorRoom + (rest.map fun v => v.category).sum ≤ 8) (hcs : cells + 0 ≤ R.cells ∧ slots + 0 ≤ R.slots) (hdg : decode cc pc = .ok (.invokevirtual index, 3))
    (kk : ∀ (σ1 : Sg) (H1 : Heap) (locs1 : List Loc), Q' σ1 → Hx G A s σ1 H1 locs1 → W p l e R s m args below meth c H1 locs1 cells slots Q (F0 m (pc + 3) ls rest)) : W p l e R s m args below meth c H locs cells slots Q (F0 m pc ls st0) := by
  subst ha
  exact g_callVv S hK hX hA hH hM cw h0 hc hn hsize hst hW hcs hdg kk
end RM
