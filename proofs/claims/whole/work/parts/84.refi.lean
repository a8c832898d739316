/-! PURE: the reference: all bearers are laid -/
def iOf (B pl : Nat) : Nat := if pl < B then pl else 3 + (pl - B)
theorem iOf_pb {p B b : Nat} (hp : p < 2) (hb : b < B) : iOf B (p * B + b) = 3 * p + b := by
  have : p = 0 ∨ p = 1 := by omega
  unfold iOf
  rcases this with rfl | rfl
  · rw [Nat.zero_mul, Nat.zero_add, if_pos hb]
  · rw [Nat.one_mul, if_neg (by omega)]
    omega
theorem iOf_lt {B pl : Nat} (hB : B ≤ 3) (h : pl < 2 * B) : iOf B pl < 6 := by
  unfold iOf
  split <;> omega
theorem iOf_ne {B p q : Nat} (hB : B ≤ 3) (hp : p < 2 * B) (hq : q < 2 * B) (h : p ≠ q) : iOf B p ≠ iOf B q := by
  unfold iOf
  split <;> split <;> omega
def LkM (τ : Sg) (B : Nat) (hs : Nat → Smd) (hr : Nat → Rmd) : Prop := ∀ pl, pl < 2 * B → SmM τ (iOf B pl) (hs pl) ∧ RmM τ (iOf B pl) (fldS (hs (opp B pl))) (hr pl)
def OkA (B : Nat) (hs : Nat → Smd) (hr : Nat → Rmd) : Prop := ∀ q, q < 2 * B → ObV (hs q).2.2.2.1 (hs q).2.2.2.2.1 (hs q).2.2.2.2.2 ∧ ∀ pk, (hr q).2.2.1 = some pk → pk.length ≤ 256
theorem LkM.of {τ τ' : Sg} {B : Nat} {hs : Nat → Smd} {hr : Nat → Rmd} (h : LkM τ B hs hr) (hc : ∀ c, 2 ≤ c → c ≤ 59 → c ≠ 14 → τ' c = τ c) : LkM τ' B hs hr := by
  intro pl hpl
  exact ⟨(h pl hpl).1.of (fun c c1 c2 c3 => hc c (by omega) (by omega) c3), (h pl hpl).2.of (fun c c1 c2 => hc c (by omega) (by omega) (by omega))⟩
theorem RmM.grow {τ : Sg} {i : Nat} {G G' : Nat → List Cel} {r : Rmd} (h : RmM τ i G r) (hg : Grw G G' r.2.1) : RmM τ i G' r := by
  obtain ⟨h1, h2, h3, h4⟩ := h
  refine ⟨h1, fun x x1 x2 => ?_, h3, h4⟩
  have hx := h2 x x1 x2
  rcases hg x with e | ⟨e1, e2, e3⟩
  · rw [e]; exact hx
  · rw [e1] at hx ⊢
    obtain ⟨a, b, c, d, e⟩ := hx
    exact ⟨a, e2, c, fun k hk => absurd hk Bool.false_ne_true, fun k hk ht => absurd ht Bool.false_ne_true⟩
theorem Grw.rf {G : Nat → List Cel} {pc : Rpc} : Grw G G pc := fun _ => Or.inl rfl
theorem LkM.put {τ τ' : Sg} {B pl : Nat} {hs : Nat → Smd} {hr : Nat → Rmd} {s : Smd} {r : Rmd} (h : LkM τ B hs hr) (hB : B ≤ 3) (hpl : pl < 2 * B) (hO : OkA B hs hr) (hg : Grw (fldS (hs pl)) (fldS s) (hr (opp B pl)).2.1) (h1 : SmM τ' (iOf B pl) s) (h2 : RmM τ' (iOf B pl) (fldS (hs (opp B pl))) r) (hF : FrO (iOf B pl) τ τ') : LkM τ' B (fup hs pl s) (fup hr pl r) := by
  intro q hq
  obtain ⟨o1, o2, o3⟩ := opp_lt hpl
  by_cases e : q = pl
  · subst e
    rw [fup_s, fup_s, fup_o o2]
    exact ⟨h1, h2⟩
  · rw [fup_o e, fup_o e]
    have hne := iOf_ne hB hq hpl e
    refine ⟨(h q hq).1.ot (hO q hq).1 hF hne, ?_⟩
    have hr1 : RmM τ' (iOf B q) (fldS (hs (opp B q))) (hr q) := (h q hq).2.ot (hO q hq).2 hF hne
    by_cases eo : opp B q = pl
    · have eq2 : q = opp B pl := by
        rw [← eo]
        exact (opp_lt hq).2.2.symm
      rw [eo, fup_s]
      rw [eo] at hr1
      refine hr1.grow ?_
      rw [eq2]
      exact hg
    · rw [fup_o eo]
      exact hr1
def FrY (τ τ' : Sg) : Prop := ∀ c, c ∉ LY2 → τ' c = τ c
theorem rm_0 {bk : Int32} {left : Nat} (hl : left ≤ 250) (h : bk ≤ 0) : rmN true bk left = 0 := by
  unfold rmN
  have h0 : ¬ (0 : Int32) < bk := Int32.not_lt.mpr h
  rw [lt_i] at h0
  have h0 : ¬ (0 : Int) < bk.toInt := h0
  by_cases e : bk < nI left
  · rw [if_pos ⟨rfl, e⟩, if_pos]
    rw [lt_i]
    show bk.toInt < (3 : Int)
    omega
  · rw [if_neg (fun hh => e hh.2)]
    rw [lt_i, nI_toInt (by omega)] at e
    omega
theorem ly14 {p B g T rd : Nat} {key : Nat → Int32} {lo : Int} {Gd : Nat → Ost → Prop} {Q : Int32 → Sg → Prop} {K5 : Int32 → Int32 → Int32 → Int32 → Sg → Prop} {τ0 : Sg} (hB1 : 1 ≤ B) (hB3 : B ≤ 3) (hp : p < 2) (hrd : rd < 2) (hg : g ≤ 250) (hlo : -(2 ^ 20 : Int) ≤ lo) (h0 : τ0 0 0 = nI B) (hG1 : ∀ (i : Nat) (s : Ost), i < 2 * B → Gd i s → FsV T (ksS key (mkN B (p * B + bOf B i))) lo (s.1 (p * B + bOf B i), s.2.1 (p * B + bOf B i), s.2.2.1, s.2.2.2) ∧ Grw (fldS (s.1 (p * B + bOf B i))) (fldS (fbT p B g i s).1) (s.2.1 (opp B (p * B + bOf B i))).2.1 ∧ clrP (s.2.1 (p * B + bOf B i)).1 (s.2.1 (p * B + bOf B i)).2.1 ∧ knP (s.2.1 (p * B + bOf B i)).2.1 ∧ OkA B s.1 s.2.1) (hG2 : ∀ (i : Nat) (s : Ost), i < 2 * B → Gd i s → Gd (i + 1) (fbS p B g i s)) : ∀ (m b : Nat) (τ : Sg) (s : Ost), b + m = B → Gd (rd * B + b) s → s.2.2.1.length ≤ g → LdM τ s.2.2.1 → LkM τ B s.1 s.2.1 → FrY τ0 τ → (∀ (τ' : Sg) (t : Ost), t = fbO p B g m (rd * B + b) s → Gd (rd * B + B) t → t.2.2.1.length ≤ g → LdM τ' t.2.2.1 → LkM τ' B t.1 t.2.1 → FrY τ0 τ' → K5 (nI p) (nI g) (nI t.2.2.1.length) (nI (rd + 1)) τ') → wpX9_lay_L14 Q K5 (m + 1) (nI p) (nI g) (nI s.2.2.1.length) (nI rd) (nI b) τ := by
  intro m
  induction m with
  | zero =>
    intro b τ s hb hGd hlg hL hM hF h
    have hb : b = B := by omega
    subst hb
    unfold wpX9_lay_L14
    rw [hF 0 (by decide), h0, nI_1]
    refine brt (nI_le (Nat.le_refl _) (by omega)) ?_
    rintro _ rfl
    exact h τ s rfl hGd hlg hL hM hF
  | succ m ih =>
    intro b τ s hbm hGd hlg hL hM hF h
    have hb : b < B := by omega
    have hrB : rd * B ≤ 1 * B := Nat.mul_le_mul_right B (by omega)
    have hi2 : rd * B + b < 2 * B := by omega
    have hbO : bOf B (rd * B + b) = b := by
      have : rd = 0 ∨ rd = 1 := by omega
      unfold bOf
      rcases this with rfl | rfl
      · rw [if_pos (by omega)]; omega
      · rw [if_neg (by omega)]; omega
    have hbd : decide (rd * B + b < B) = decide (rd = 0) := by
      have : rd = 0 ∨ rd = 1 := by omega
      rcases this with rfl | rfl
      · rw [decide_eq_true (by omega)]; rfl
      · rw [decide_eq_false (by omega)]; rfl
    have hplP : p * B + b < 2 * B := by
      have : p * B ≤ 1 * B := Nat.mul_le_mul_right B (by omega)
      omega
    obtain ⟨hV, hGr, hcl, hkn, hO⟩ := hG1 _ s hi2 hGd
    have eT : fbT p B g (rd * B + b) s = fbI (fldS (s.1 (opp B (p * B + b)))) (decide (rd = 0)) g b 250 (s.1 (p * B + b), s.2.1 (p * B + b), s.2.2.1, s.2.2.2) := by
      unfold fbT
      rw [hbO, hbd]
    have eS : fbS p B g (rd * B + b) s = (fup s.1 (p * B + b) (fbT p B g (rd * B + b) s).1, fup s.2.1 (p * B + b) (fbT p B g (rd * B + b) s).2.1, (fbT p B g (rd * B + b) s).2.2.1, (fbT p B g (rd * B + b) s).2.2.2) := by
      unfold fbS
      rw [hbO]
    have hGn := hG2 _ s hi2 hGd
    rw [hbO] at hV hGr hcl hkn
    have ei : iOf B (p * B + b) = 3 * p + b := iOf_pb hp hb
    obtain ⟨hm1, hm2⟩ := hM _ hplP
    rw [ei] at hm1 hm2
    have hi6 : 3 * p + b < 6 := by omega
    have next : ∀ τ' : Sg, LdM τ' (fbT p B g (rd * B + b) s).2.2.1 → (fbT p B g (rd * B + b) s).2.2.1.length ≤ g → SmM τ' (3 * p + b) (fbT p B g (rd * B + b) s).1 → RmM τ' (3 * p + b) (fldS (s.1 (opp B (p * B + b)))) (fbT p B g (rd * B + b) s).2.1 → FrA LY2 (3 * p + b) τ τ' → wpX9_lay_L14 Q K5 (m + 1) (nI p) (nI g) (nI (fbT p B g (rd * B + b) s).2.2.1.length) (nI rd) (nI (b + 1)) τ' := by
      intro τ' t1 t2 t3 t4 t5
      have hL' : LdM τ' (fbS p B g (rd * B + b) s).2.2.1 := t1
      have hl' : (fbS p B g (rd * B + b) s).2.2.1.length ≤ g := t2
      have hM' : LkM τ' B (fbS p B g (rd * B + b) s).1 (fbS p B g (rd * B + b) s).2.1 := by
        rw [eS]
        exact hM.put hB3 hplP hO hGr (by rw [ei]; exact t3) (by rw [ei]; exact t4) (by rw [ei]; exact t5.o)
      exact ih (b + 1) τ' (fbS p B g (rd * B + b) s) (by omega) hGn hl' hL' hM' (fun c hc => by rw [t5.1 c hc, hF c hc]) (fun τ2 t et => h τ2 t (by rw [et]; rfl))
    have hat : (3 : Int32) * nI p + nI b = nI (3 * p + b) := by
      have : (3 : Int32) * nI p = nI (3 * p) := pk_mul 3 p
      rw [this, nI_add]
    have L47 : wpX9_lay_L47 Q K5 (wpX9_lay_L14 Q K5 (m + 1)) (nI p) (nI g) (nI s.2.2.1.length) (nI rd) (nI b) (nI (3 * p + b)) τ := by
      unfold wpX9_lay_L47 wpX9_lay_L52
      refine ⟨252, ly54 (T := T) (bd := decide (rd = 0)) (ks := ksS key (mkN B (p * B + b))) (lo := lo) (G := fldS (s.1 (opp B (p * B + b)))) (τ0 := τ) hp (by omega) rfl hg hlo ?_ 250 0 τ (s.1 (p * B + b), s.2.1 (p * B + b), s.2.2.1, s.2.2.2) rfl (by omega) hlg hL hm1 hm2 hV hcl hkn FrA.rf (fun τ' t et t1 t2 t3 t4 t5 => ?_)⟩
      · have : rd = 0 ∨ rd = 1 := by omega
        rcases this with rfl | rfl
        · rfl
        · rfl
      · rw [← eT] at et
        subst et
        exact next τ' t2 t1 t3 t4 t5
    unfold wpX9_lay_L14 wpX9_at
    rw [hF 0 (by decide), h0]
    refine brf (nI_ge (by omega) (by omega)) ?_
    rw [hat]
    dsimp only
    rw [nI_clamp (n := 3 * p + b) (by omega)]
    have hr2 : rd = 0 ∨ rd = 1 := by omega
    rcases hr2 with hr2 | hr2
    · refine brf (by rw [hr2]; decide) ⟨vin rfl hi6 (by decide), fun hh => ?_, fun hh => L47⟩
      rw [hm1.1.2.2.2.2.2.1] at hh
      have eN : fbT p B g (rd * B + b) s = (s.1 (p * B + b), s.2.1 (p * B + b), s.2.2.1, s.2.2.2) := by
        rw [eT, hr2]
        show fbI _ true g b 250 _ = _
        rw [fbI]
        have : fb1 (fldS (s.1 (opp B (p * B + b)))) true g b (s.1 (p * B + b), s.2.1 (p * B + b), s.2.2.1, s.2.2.2) = none := by
          unfold fb1
          rw [if_pos (rm_0 (by omega) hh)]
        rw [this]
      unfold wpX9_lay_L52
      refine ⟨1, ?_⟩
      unfold wpX9_lay_L54
      refine brt rfl ?_
      rw [nI_1]
      rintro _ rfl
      have := next τ (by rw [eN]; exact hL) (by rw [eN]; exact hlg) (by rw [eN]; exact hm1) (by rw [eN]; exact hm2) FrA.rf
      rw [eN] at this
      exact this
    · exact brt (by rw [hr2]; rfl) L47
theorem ly232 {g u : Nat} {Q : Int32 → Sg → Prop} {τ0 : Sg} (hg : g ≤ 250) (h : ∀ τ' : Sg, (∀ j, u ≤ j → j < g → τ' 72 j = if j = u then 255 else 0) → (∀ j, j < u → τ' 72 j = τ0 72 j) → (∀ c, c ≠ 72 → τ' c = τ0 c) → Q 1 τ') : ∀ (m k : Nat) (τ : Sg), k + m = g → u ≤ k → (∀ j, u ≤ j → j < k → τ 72 j = if j = u then 255 else 0) → (∀ j, j < u → τ 72 j = τ0 72 j) → (∀ c, c ≠ 72 → τ c = τ0 c) → wpX9_lay_L232 Q (m + 1) (nI g) (nI u) (nI k) τ := by
  intro m
  induction m with
  | zero =>
    intro k τ hk hu h1 h2 h3
    unfold wpX9_lay_L232
    exact brt (nI_le (by omega) (by omega)) (h τ (fun j j1 j2 => h1 j j1 (by omega)) h2 h3)
  | succ m ih =>
    intro k τ hk hu h1 h2 h3
    have go : ∀ z : Int32, z = (if k = u then 255 else 0) → wpX9_lay_L257 Q (wpX9_lay_L232 Q (m + 1)) (nI g) (nI u) (nI k) z (nI k) 72 τ := by
      intro z hz
      unfold wpX9_lay_L257
      rw [nI_clamp (n := k) (by omega), nI_1]
      refine ⟨vin rfl (by omega) (by decide), ?_⟩
      rintro _ rfl _ rfl
      refine ih (k + 1) _ (by omega) (by omega) (fun j j1 j2 => ?_) (fun j hj => ?_) (fun c hc => by rw [up2_o hc, h3 c hc])
      · rw [up2_e]
        by_cases ej : j = k
        · rw [if_pos ⟨rfl, ej⟩, ej]; exact hz
        · rw [if_neg (by omega)]; exact h1 j j1 (by omega)
      · rw [up2_e, if_neg (by omega)]; exact h2 j hj
    unfold wpX9_lay_L232
    refine brf (nI_ge (by omega) (by omega)) ?_
    by_cases e : k = u
    · exact brt' (by rw [e]) (go 255 (by rw [if_pos e]))
    · exact brf' (fun hh => e ((nI_eq (by omega) (by omega)).mp hh)) (go 0 (by rw [if_neg e]))
theorem fil_get {n j : Nat} : (fil n).getD j 0 = if j = 0 ∧ 0 < n then 255 else 0 := by
  cases n with
  | zero =>
    rw [if_neg (by omega)]
    rfl
  | succ n =>
    cases j with
    | zero => rw [if_pos ⟨rfl, by omega⟩]; rfl
    | succ j =>
      rw [if_neg (by omega)]
      show (List.replicate n (0 : Int32)).getD j 0 = 0
      rw [List.getD_eq_getElem?_getD, List.getElem?_replicate]
      split <;> rfl
theorem rlay_ok {p B g T : Nat} {key : Nat → Int32} {lo : Int} {Gd : Nat → Ost → Prop} {hs : Nat → Smd} {hr : Nat → Rmd} {Q : Int32 → Sg → Prop} {τ : Sg} (hB1 : 1 ≤ B) (hB3 : B ≤ 3) (hp : p < 2) (hg : g ≤ 250) (hlo : -(2 ^ 20 : Int) ≤ lo) (h0 : τ 0 0 = nI B) (hG1 : ∀ (i : Nat) (s : Ost), i < 2 * B → Gd i s → FsV T (ksS key (mkN B (p * B + bOf B i))) lo (s.1 (p * B + bOf B i), s.2.1 (p * B + bOf B i), s.2.2.1, s.2.2.2) ∧ Grw (fldS (s.1 (p * B + bOf B i))) (fldS (fbT p B g i s).1) (s.2.1 (opp B (p * B + bOf B i))).2.1 ∧ clrP (s.2.1 (p * B + bOf B i)).1 (s.2.1 (p * B + bOf B i)).2.1 ∧ knP (s.2.1 (p * B + bOf B i)).2.1 ∧ OkA B s.1 s.2.1) (hG2 : ∀ (i : Nat) (s : Ost), i < 2 * B → Gd i s → Gd (i + 1) (fbS p B g i s)) (hG0 : Gd 0 (hs, hr, [], [])) (hM : LkM τ B hs hr) (h : ∀ (τ' : Sg) (t : Ost), t = fbO p B g (2 * B) 0 (hs, hr, [], []) → t.2.2.1.length ≤ g → Gd (2 * B) t → LkM τ' B t.1 t.2.1 → FrY τ τ' → (t.2.2.1.length = 0 → Q 0 τ') ∧ (¬ t.2.2.1.length = 0 → (∀ j, j < g → τ' 72 j = (t.2.2.1 ++ fil (g - t.2.2.1.length)).getD j 0) → Q 1 τ')) : wpX9_lay (nI p) (nI g) τ Q := by
  have fb_split : ∀ (m n i : Nat) (s : Ost), fbO p B g (m + n) i s = fbO p B g n (i + m) (fbO p B g m i s) := by
    intro m
    induction m with
    | zero => intro n i s; rw [Nat.zero_add, Nat.add_zero]; rfl
    | succ m ih =>
      intro n i s
      rw [show m + 1 + n = (m + n) + 1 by omega, fbO, ih, fbO, show i + 1 + m = i + (m + 1) by omega]
  unfold wpX9_lay
  refine ⟨3, ?_⟩
  unfold wpX9_lay_L5
  refine brf (by decide) ⟨B + 1, ly14 (T := T) (key := key) (lo := lo) (rd := 0) (τ0 := τ) (Gd := Gd) hB1 hB3 hp (by decide) hg hlo h0 hG1 hG2 B 0 τ (hs, hr, [], []) (by omega) (by rw [Nat.zero_mul]; exact hG0) (Nat.zero_le _) (fun k hk => absurd hk (Nat.not_lt_zero k)) hM (fun _ _ => rfl) (fun τ1 t1 e1 k1 k2 k3 k4 k5 => ?_)⟩
  show wpX9_lay_L5 Q 2 (nI p) (nI g) (nI t1.2.2.1.length) (nI (0 + 1)) τ1
  unfold wpX9_lay_L5
  refine brf (by decide) ⟨B + 1, ly14 (T := T) (key := key) (lo := lo) (rd := 1) (τ0 := τ) (Gd := Gd) hB1 hB3 hp (by decide) hg hlo h0 hG1 hG2 B 0 τ1 t1 (by omega) (by rw [Nat.zero_mul, Nat.zero_add] at k1; rw [Nat.one_mul, Nat.add_zero]; exact k1) k2 k3 k4 k5 (fun τ2 t2 e2 q1 q2 q3 q4 q5 => ?_)⟩
  have et : t2 = fbO p B g (2 * B) 0 (hs, hr, [], []) := by
    rw [e2, e1, show 2 * B = B + B by omega, fb_split, Nat.zero_mul, Nat.one_mul, Nat.add_zero, Nat.add_zero, Nat.zero_add]
  rw [Nat.one_mul, show B + B = 2 * B by omega] at q1
  show wpX9_lay_L5 Q 1 (nI p) (nI g) (nI t2.2.2.1.length) (nI (1 + 1)) τ2
  unfold wpX9_lay_L5
  refine brt (by decide) ?_
  by_cases ez : t2.2.2.1.length = 0
  · exact brt' (by rw [ez]; rfl) ((h τ2 t2 et q2 q1 q4 q5).1 ez)
  · refine brf' (fun hh => ez ((nI_eq (a := t2.2.2.1.length) (b := 0) (by omega) (by decide)).mp hh)) ⟨g - t2.2.2.1.length + 1, ly232 (τ0 := τ2) hg (fun τ3 r1 r2 r3 => ?_) (g - t2.2.2.1.length) t2.2.2.1.length τ2 (by omega) (Nat.le_refl _) (fun j j1 j2 => by omega) (fun _ _ => rfl) (fun _ _ => rfl)⟩
    refine (h τ3 t2 et q2 q1 (q4.of (fun c c1 c2 c3 => r3 c (by omega))) (fun c hc => by rw [r3 c (fun e9 => hc (by rw [e9]; decide)), q5 c hc])).2 ez (fun j hj => ?_)
    rcases Nat.lt_or_ge j t2.2.2.1.length with hj1 | hj1
    · rw [gD_l hj1, r2 j hj1]
      exact q3 j hj1
    · rw [gD_r hj1, r1 j hj1 hj, fil_get]
      by_cases ej : j = t2.2.2.1.length
      · rw [if_pos ej, if_pos (by omega)]
      · rw [if_neg ej, if_neg (by omega)]
