/-! BASE: the world as a table of cells: cell c lies at ad c, has the shape sh c, and holds the numbers σ c -/
abbrev Sg : Type := Nat → Nat → Int32
def up2 (σ : Sg) (c k : Nat) (v : Int32) : Sg := va_up σ c (upd (σ c) k v)
abbrev Sh : Type := (ClassId × Nat) ⊕ ((ClassId × Nat × (Nat → Option Nat)) ⊕ (Nat × List (Option (Option Nat))))
def mkV (f : Nat → Int32) (k : Nat) (r : Option (Option Nat)) : Value := match r with
  | some a => va_rf a
  | none => .int (f k)
def mkE (h : Sh) (f : Nat → Int32) : va_E := match h with
  | .inl a => .inl (a.1, a.2, .inl f)
  | .inr (.inl a) => .inl (a.1, a.2.1, .inr (.inr (.inr (.inr a.2.2))))
  | .inr (.inr o) => .inr (o.1, o.2.mapIdx (mkV f))
def wl (n : Nat) (ad : Nat → Nat) (sh : Nat → Sh) (σ : Sg) : va_W := (List.range n).map (fun c => (ad c, mkE (sh c) (σ c)))
theorem wl_at {n : Nat} {ad : Nat → Nat} {sh : Nat → Sh} {σ : Sg} {c : Nat} (hc : c < n) : (wl n ad sh σ)[c]? = some (ad c, mkE (sh c) (σ c)) := by
  simp [wl, hc]
theorem wl_set {n : Nat} {ad : Nat → Nat} {sh : Nat → Sh} {σ σ' : Sg} {c : Nat} {e : va_E} (hc : c < n) (h1 : mkE (sh c) (σ' c) = e) (h2 : ∀ d, d ≠ c → σ' d = σ d) : (wl n ad sh σ).set c (ad c, e) = wl n ad sh σ' := by
  apply List.ext_getElem?
  intro i
  rw [List.getElem?_set]
  by_cases e1 : c = i
  · subst e1
    simp [wl, hc, h1]
  · rw [if_neg e1]
    by_cases hi : i < n
    · rw [wl_at hi, wl_at hi, h2 i (fun h => e1 h.symm)]
    · simp [wl, hi]
theorem up2_s {σ : Sg} {c k : Nat} {v : Int32} : (up2 σ c k v) c = upd (σ c) k v := by simp [up2, va_up]
theorem up2_o {σ : Sg} {c k d : Nat} {v : Int32} (h : d ≠ c) : (up2 σ c k v) d = σ d := by simp [up2, va_up, h]
theorem up2_e (σ : Sg) (c k : Nat) (v : Int32) (d j : Nat) : up2 σ c k v d j = if d = c ∧ j = k then v else σ d j := by
  by_cases h : d = c
  · subst h
    simp [up2_s, upd]
  · simp [up2_o h, h]
theorem mk_set {f : Nat → Int32} {pat : List (Option (Option Nat))} {k : Nat} {v : Int32} (h : pat[k]? = some none) : (pat.mapIdx (mkV f)).set k (.int v) = pat.mapIdx (mkV (upd f k v)) := by
  apply List.ext_getElem?
  intro i
  rw [List.getElem?_set, List.getElem?_mapIdx, List.getElem?_mapIdx]
  by_cases e1 : k = i
  · subst e1
    have hl : k < pat.length := (List.getElem?_eq_some_iff.mp h).1
    rw [if_pos rfl, if_pos (by rw [List.length_mapIdx]; exact hl), h]
    simp [mkV, upd]
  · rw [if_neg e1]
    cases pat[i]? with
    | none => rfl
    | some r =>
      cases r with
      | none =>
        have e2 : ¬ i = k := fun h => e1 h.symm
        simp [mkV, upd, e2]
      | some a => simp [mkV]
-- what is fixed in a run: class ids, slots, number of cells, addresses, shapes, array classes, where the static array lies
abbrev GG : Type := (Nat → ClassId) × (Nat → Nat → Nat) × Nat × (Nat → Nat) × (Nat → Sh) × List (ClassId × FieldType) × (Option (Nat × (Nat → Int32)))
abbrev gD (G : GG) : va_G := (G.1, G.2.1)
abbrev gn (G : GG) : Nat := G.2.2.1
abbrev ga (G : GG) : Nat → Nat := G.2.2.2.1
abbrev gs (G : GG) : Nat → Sh := G.2.2.2.2.1
abbrev gt (G : GG) : List (ClassId × FieldType) := G.2.2.2.2.2.1
abbrev go (G : GG) : Option (Nat × (Nat → Int32)) := G.2.2.2.2.2.2
abbrev gw (G : GG) (σ : Sg) : va_W := wl (gn G) (ga G) (gs G) σ
def aA (G : GG) (sz : Nat) : Nat → Prop := fun q => (∃ c, c < gn G ∧ q = ga G c) ∨ sz ≤ q
def nestF : List (String × Nat × String × String × String × String) := [("BearerHouse", 101, "BearerHouse$Carrier", "size", "I", "BearerHouse"), ("BearerHouse", 108, "BearerHouse$Carrier", "air", "LBearerHouse$Air;", "BearerHouse"), ("BearerHouse", 133, "BearerHouse$Receiver", "inbox", "LBearerHouse$Inbox;", "BearerHouse"), ("BearerHouse", 147, "BearerHouse$Sender", "low", "I", "BearerHouse"), ("BearerHouse", 150, "BearerHouse$Sender", "next", "I", "BearerHouse"), ("BearerHouse", 153, "BearerHouse$Outbox", "kept", "I", "BearerHouse"), ("BearerHouse", 160, "BearerHouse$Sender", "again", "I", "BearerHouse"), ("BearerHouse", 163, "BearerHouse$Sender", "pollTimer", "I", "BearerHouse"), ("BearerHouse", 166, "BearerHouse$Sender", "failed", "Z", "BearerHouse"), ("BearerHouse", 170, "BearerHouse$Sender", "bucket", "I", "BearerHouse"), ("BearerHouse", 173, "BearerHouse$Sender", "dataMade", "I", "BearerHouse"), ("BearerHouse", 176, "BearerHouse$Sender", "dataAgain", "I", "BearerHouse"), ("BearerHouse", 179, "BearerHouse$Sender", "statusCame", "I", "BearerHouse"), ("BearerHouse", 182, "BearerHouse$Outbox", "nextCount", "I", "BearerHouse"), ("BearerHouse", 185, "BearerHouse$Receiver", "low", "I", "BearerHouse"), ("BearerHouse", 186, "BearerHouse$Receiver", "high", "I", "BearerHouse"), ("BearerHouse", 189, "BearerHouse$Receiver", "told", "I", "BearerHouse"), ("BearerHouse", 192, "BearerHouse$Receiver", "awaited", "I", "BearerHouse"), ("BearerHouse", 195, "BearerHouse$Receiver", "reorderTimer", "I", "BearerHouse"), ("BearerHouse", 198, "BearerHouse$Receiver", "prohibitTimer", "I", "BearerHouse"), ("BearerHouse", 201, "BearerHouse$Receiver", "wanted", "Z", "BearerHouse"), ("BearerHouse", 207, "BearerHouse$Receiver", "statusMade", "I", "BearerHouse"), ("BearerHouse", 210, "BearerHouse$Receiver", "dataCame", "I", "BearerHouse"), ("BearerHouse", 213, "BearerHouse$Receiver", "dataInVain", "I", "BearerHouse"), ("BearerHouse", 216, "BearerHouse$Receiver", "polls", "I", "BearerHouse"), ("BearerHouse", 219, "BearerHouse$Inbox", "next", "I", "BearerHouse"), ("BearerHouse", 222, "BearerHouse$Inbox", "bytes", "I", "BearerHouse"), ("BearerHouse", 225, "BearerHouse$Inbox", "doubles", "I", "BearerHouse"), ("BearerHouse", 228, "BearerHouse$Inbox", "stored", "I", "BearerHouse"), ("BearerHouse", 231, "BearerHouse$Inbox", "sum", "I", "BearerHouse"), ("BearerHouse", 234, "BearerHouse$Inbox", "latestSize", "I", "BearerHouse"), ("BearerHouse", 237, "BearerHouse$Inbox", "latest", "[I", "BearerHouse"), ("BearerHouse", 240, "BearerHouse$Carrier", "hasCome", "Z", "BearerHouse"), ("BearerHouse", 256, "BearerHouse$Air", "size", "I", "BearerHouse"), ("BearerHouse", 319, "BearerHouse$Inbox", "isBegun", "Z", "BearerHouse"), ("BearerHouse", 322, "BearerHouse$Piece", "size", "I", "BearerHouse"), ("BearerHouse", 335, "BearerHouse$Inbox", "packet", "[I", "BearerHouse"), ("BearerHouse", 338, "BearerHouse$Inbox", "packetSize", "I", "BearerHouse"), ("BearerHouse", 351, "BearerHouse$Inbox", "mark", "I", "BearerHouse"), ("BearerHouse", 71, "BearerHouse$Sender", "outbox", "LBearerHouse$Outbox;", "BearerHouse"), ("BearerHouse", 81, "BearerHouse$Sender", "rate", "I", "BearerHouse"), ("BearerHouse", 94, "BearerHouse$Carrier", "sendings", "I", "BearerHouse"), ("BearerHouse$Cipher", 19, "BearerHouse", "SBOX", "[I", "BearerHouse"), ("BearerHouse$Receiver", 108, "BearerHouse$Air", "size", "I", "BearerHouse"), ("BearerHouse$Receiver", 31, "BearerHouse$Piece", "size", "I", "BearerHouse"), ("BearerHouse$Receiver", 63, "BearerHouse$Piece", "marks", "I", "BearerHouse"), ("BearerHouse$Sender", 120, "BearerHouse$Outbox", "gone", "I", "BearerHouse"), ("BearerHouse$Sender", 153, "BearerHouse$Piece", "isNamed", "Z", "BearerHouse"), ("BearerHouse$Sender", 156, "BearerHouse$Piece", "isConfirmed", "Z", "BearerHouse"), ("BearerHouse$Sender", 56, "BearerHouse$Outbox", "waiting", "I", "BearerHouse"), ("BearerHouse$Sender", 76, "BearerHouse$Piece", "marks", "I", "BearerHouse"), ("BearerHouse$Sender", 79, "BearerHouse$Piece", "tries", "I", "BearerHouse"), ("BearerHouse$Sender", 82, "BearerHouse$Piece", "size", "I", "BearerHouse")]
abbrev nestW (q : String × Nat × String × String × String × String) : Cond := .fieldLinkNest q.1 q.2.1 q.2.2.1 q.2.2.2.1 q.2.2.2.2.1 q.2.2.2.2.2
def nestM : List (String × Nat × MethodName × String) := [("BearerHouse", 25, ⟨"BearerHouse$Cipher", "<init>", "()V"⟩, "BearerHouse"), ("BearerHouse", 56, ⟨"BearerHouse$Carrier", "<init>", "()V"⟩, "BearerHouse"), ("BearerHouse$Carrier", 9, ⟨"BearerHouse$Air", "<init>", "()V"⟩, "BearerHouse"), ("BearerHouse$Receiver", 30, ⟨"BearerHouse$Piece", "<init>", "()V"⟩, "BearerHouse"), ("BearerHouse$Sender", 33, ⟨"BearerHouse$Piece", "<init>", "()V"⟩, "BearerHouse")]
abbrev nestV (q : String × Nat × MethodName × String) : Cond := .methodLinkNest q.1 q.2.1 q.2.2.1 q.2.2.2
def aoL : List String := ["BearerHouse$Piece", "BearerHouse$Sender", "BearerHouse$Receiver", "BearerHouse$Carrier"]
def NWs (U : State) : Prop := (∀ q ∈ nestF, va_Nw (nestW q) U) ∧ (∀ q ∈ nestM, va_Nw (nestV q) U) ∧ ∀ C ∈ aoL, va_AO C U
def XS (o : Option (Nat × (Nat → Int32))) (A : Nat → Prop) (U : State) : Prop := match o with
  | none => True
  | some t => va_Z "BearerHouse" "SBOX" "[I" (.ref t.1) A U U.heap ∧ va_T .int t.1 256 (fun j => .int (t.2 j)) A U U.heap ∧ NWs U
theorem XS.blind {o : Option (Nat × (Nat → Int32))} {A : Nat → Prop} {U : State} {g : JFrame} {mk : MethodId} {a : Array Value} (h : XS o A U) : XS o A (U.calling g mk a) := by
  cases o with
  | none => trivial
  | some t => exact ⟨va_Z.moved (u := U) (U := U.calling g mk a) (Vm.Alike.refl U.vm) h.1, va_T.moved (u := U) (U := U.calling g mk a) (Vm.Alike.refl U.vm) h.2.1, fun q hq => va_Nw.same (u := U) (U := U.calling g mk a) rfl rfl (h.2.2.1 q hq), fun q hq => va_Nw.same (u := U) (U := U.calling g mk a) rfl rfl (h.2.2.2.1 q hq), fun C hC => va_AO.moved (u := U) (U := U.calling g mk a) (Vm.Alike.refl U.vm) (h.2.2.2.2 C hC)⟩
theorem XS.pass {o : Option (Nat × (Nat → Int32))} {A B : Nat → Prop} {s U : State} {H : Heap} {locs : List Loc} (h : XS o A s) (hS : va_S A s.heap H locs) (hU : U.heap = H) (hW : s.WarmedH U.vm) (hAB : ∀ q, B q → A q) : XS o B U := by
  cases o with
  | none => trivial
  | some t =>
    subst hU
    exact ⟨((va_Z.moved hW.alike h.1).kept hS.2.1).narrow hAB, ((va_T.moved hW.alike h.2.1).kept hS.2.1).narrow hAB, fun q hq => va_Nw.warmF hW (h.2.2.1 q hq), fun q hq => va_Nw.warmM hW (h.2.2.2.1 q hq), fun C hC => va_AO.moved hW.alike (h.2.2.2.2 C hC)⟩
theorem XS.nw {o : Option (Nat × (Nat → Int32))} {t : Nat × (Nat → Int32)} {A : Nat → Prop} {U : State} (h : XS o A U) (ho : o = some t) : NWs U := by
  subst ho
  exact h.2.2
def Hx (G : GG) (A : Nat → Prop) (s : State) (σ : Sg) (H : Heap) (locs : List Loc) : Prop := va_P (gD G) vwCl (gw G σ) H ∧ va_D A (gw G σ) ∧ va_S A s.heap H locs
theorem Hx.free {G : GG} {A : Nat → Prop} {s : State} {σ : Sg} {H : Heap} {locs : List Loc} (h : Hx G A s σ H locs) (hA : ∀ q, s.heap.size ≤ q → A q) : ∀ q, aA G H.size q → A q := by
  intro q hq
  rcases hq with ⟨c, hc, rfl⟩ | hq
  · exact h.2.1.2 c _ (wl_at hc)
  · exact hA q (Nat.le_trans h.2.2.1 hq)
def mPre (G : GG) (σ : Sg) (sz : Nat) : State → Prop := fun U => U.heap.size = sz ∧ va_P (gD G) vwCl (gw G σ) U.heap ∧ va_K (gD G) vwCl (gt G) U ∧ va_D (fun _ => True) (gw G σ) ∧ XS (go G) (aA G sz) U
def mPost (G : GG) (sz : Nat) : Sg → State → Prop := fun σ t => va_P (gD G) vwCl (gw G σ) t.heap ∧ va_K (gD G) vwCl (gt G) t ∧ va_D (aA G sz) (gw G σ)
theorem mPre.blind {G : GG} {σ : Sg} {sz : Nat} {av : List Value} : FrameBlind (va_Pc av (mPre G σ sz)) := by
  intro a U g mk q
  obtain ⟨q0, q1, qP, qK, qD, qX⟩ := q
  exact ⟨q0, q1, qP, va_K.moved (u := U) (U := U.calling g mk a) (Vm.Alike.refl U.vm) qK, qD, qX.blind⟩
abbrev Qi (G : GG) (Q : Int32 → Sg → Prop) (sz : Nat) : Array Value → State → Outcome → State → Prop := va_Qi Q (mPost G sz) (aA G sz)
abbrev Qv (G : GG) (Q : Sg → Prop) (sz : Nat) : Array Value → State → Outcome → State → Prop := va_Qv Q (mPost G sz) (aA G sz)
abbrev Qr (G : GG) (Q : Nat → Sg → Prop) (sz : Nat) : Array Value → State → Outcome → State → Prop := va_Qr (fun u : Nat × Sg => Q u.1 u.2) (fun u a t => a = ga G u.1 ∧ mPost G sz u.2 t) (aA G sz)
def Ki (l : Launch) (G : GG) (y : MethodName) (ws : List Cond) (rm : Room) (av : List Value) (σ : Sg) (Q : Int32 → Sg → Prop) : Prop := ∀ sz, Met l y ws rm (va_Pc av (mPre G σ sz)) (Qi G Q sz) 0 0 (aA G sz)
def Kv (l : Launch) (G : GG) (y : MethodName) (ws : List Cond) (rm : Room) (av : List Value) (σ : Sg) (Q : Sg → Prop) : Prop := ∀ sz, Met l y ws rm (va_Pc av (mPre G σ sz)) (Qv G Q sz) 0 0 (aA G sz)
def Kr (l : Launch) (G : GG) (y : MethodName) (ws : List Cond) (rm : Room) (av : List Value) (σ : Sg) (Q : Nat → Sg → Prop) : Prop := ∀ sz, Met l y ws rm (va_Pc av (mPre G σ sz)) (Qr G Q sz) 0 0 (aA G sz)
abbrev Zi (G : GG) (Q : Int32 → Sg → Prop) (below : List Frame) (args : Array Value) (s : State) : State → Prop := MQ below (Qi G Q s.heap.size) args s 0 0 (aA G s.heap.size)
abbrev Zv (G : GG) (Q : Sg → Prop) (below : List Frame) (args : Array Value) (s : State) : State → Prop := MQ below (Qv G Q s.heap.size) args s 0 0 (aA G s.heap.size)
abbrev Zr (G : GG) (Q : Nat → Sg → Prop) (below : List Frame) (args : Array Value) (s : State) : State → Prop := MQ below (Qr G Q s.heap.size) args s 0 0 (aA G s.heap.size)
/-- a method's body is walked: what is known there -/
def Bd (p : Program) (s : State) (m : MethodId) (args : Array Value) (meth : Method) (c : Code) (G : GG) (own : String) (ws : List Cond) (cc : ByteArray) (maxL : Nat) (ret : Option FieldType) : Prop :=
  p.tables.exec = Jvm.exec ∧ c.code = cc ∧ meth.sig.returnType = ret ∧ (∀ w ∈ ws, w.before args s = true) ∧ s.vm.findClass own = some m.cls ∧ meth.locks = false ∧ c.maxLocals = maxL ∧ va_K (gD G) vwCl (gt G) s ∧ XS (go G) (aA G s.heap.size) s
theorem K_of {l : Launch} {G : GG} {y : MethodName} {ws ws' : List Cond} {rm : Room} {av : List Value} {σ : Sg} {Qc : Nat → Array Value → State → Outcome → State → Prop} {cc : ByteArray} {maxL : Nat} {ret : Option FieldType} (hy : plainName y.cls = true) (hw : ws = Cond.code y cc maxL ret :: ws') (hav : (lg_sl av).length ≤ maxL)
    (body : ∀ p e s m args below meth c ls, Bd p s m args meth c G y.cls ws cc maxL ret → Hx G (aA G s.heap.size) s σ s.heap [] → lv_has ls maxL (lv_args 0 av) → W p l e rm s m args below meth c s.heap [] 0 0 (MQ below (Qc s.heap.size) args s 0 0 (aA G s.heap.size)) (F0 m 0 ls [])) : ∀ sz, Met l y ws rm (va_Pc av (mPre G σ sz)) (Qc sz) 0 0 (aA G sz) := by
  intro sz
  refine Met.ofW (cc := cc) (maxL := maxL) (ret := ret) hy hw ?_
  intro p e s m args below meth c s₁ B hml hv
  obtain ⟨rfl, hsz, hP, hK, hD0, hX⟩ := hv
  subst hsz
  have hts := atoms_spec (ws := ws) B.pre
  have hown : s.vm.findClass y.cls = some m.cls := findClass_of_methodNamed B.named
  have hD : va_D (aA G s.heap.size) (gw G σ) := by
    refine ⟨hD0.1, fun k q hk => Or.inl ?_⟩
    have hkn : k < gn G := by
      have := (List.getElem?_eq_some_iff.mp hk).1
      simpa [wl] using this
    rw [wl_at hkn] at hk
    cases hk
    exact ⟨k, hkn, rfl⟩
  have hl := lv_entry av (n := maxL) hav
  rw [lg_entry_eq]
  exact body p e s m _ below meth c _ ⟨B.exec, B.bytes, B.returns, hts, hown, B.notSynchronized, hml, hK, hX⟩ ⟨hP, hD, va_S.rf⟩ hl
abbrev isO (G : GG) (ci : Nat) (pat : List (Option (Option Nat))) (c : Nat) : Prop := c < gn G ∧ gs G c = .inr (.inr (ci, pat))
def isI (G : GG) (N c : Nat) : Prop := ∃ cA : ClassId, (c < gn G ∧ gs G c = .inl (cA, N)) ∧ (gt G)[0]? = some (cA, .int)
def isZ (G : GG) (N c : Nat) : Prop := ∃ cA : ClassId, (c < gn G ∧ gs G c = .inl (cA, N)) ∧ (gt G)[1]? = some (cA, .boolean)
def isR (G : GG) (t0 : Nat) (C : String) (N : Nat) (f : Nat → Nat) (c : Nat) : Prop := ∃ (cA : ClassId) (g : Nat → Option Nat), (c < gn G ∧ gs G c = .inr (.inl (cA, N, g))) ∧ (gt G)[t0]? = some (cA, .object C) ∧ ∀ j, j < N → g j = some (ga G (f j))
theorem vp_lt {i : Int32} {n : Nat} (h : vp_in i n) : i.toNatClampNeg < n := Nat.not_le.mp fun q => h (Or.inr q)
theorem sw_out {x : Int32} {n : Nat} {hi : Int} (hn : n < 2 ^ 31) (hh : hi = (n : Int) - 1) (h : ∀ k : Nat, k < n → ¬ x = nI k) : x.toInt < 0 ∨ hi < x.toInt := by
  by_cases h0 : x.toInt < 0
  · exact Or.inl h0
  · refine Or.inr ?_
    by_cases h1 : x.toInt < n
    · exfalso
      have hx : vp_in x n := vp_in_iff.mpr ⟨by omega, h1⟩
      obtain ⟨j, hj, e⟩ := vp_in_of hx hn
      exact h j hj e
    · omega
